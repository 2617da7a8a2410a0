/-! CONTRACTS: PackingCensus, begin and grow -/
theorem rng {x : Int32} {a b : Nat} (h1 : ¬ x < nI a) (h2 : x ≤ nI b) (ha : a < 2 ^ 31) (hb : b < 2 ^ 31) : ∃ j, a ≤ j ∧ j ≤ b ∧ x = nI j := by
  have g1 := Int32.not_lt.mp h1
  rw [Int32.le_iff_toInt_le, nI_toInt ha] at g1
  rw [Int32.le_iff_toInt_le, nI_toInt hb] at h2
  refine ⟨x.toInt.toNat, by omega, by omega, ?_⟩
  apply Int32.toInt_inj.mp
  rw [nI_toInt (by omega)]
  omega
theorem okb_t {x y z : Int32} (h : okb x y z = true) : ∃ v k lam, vk v k ∧ 1 ≤ lam ∧ lam ≤ 4 ∧ x = nI v ∧ y = nI k ∧ z = nI lam := by
  simp only [okb, Bool.and_eq_true, decide_eq_true_eq] at h
  obtain ⟨h1, h2, h3, h4, h5, h6⟩ := h
  obtain ⟨v, hv1, hv2, rfl⟩ := rng h1 h2 (by decide) (by decide)
  rw [pk_sub (by omega)] at h4
  obtain ⟨k, hk1, hk2, rfl⟩ := rng h3 (Int32.not_lt.mp h4) (by decide) (by omega)
  obtain ⟨lam, hl1, hl2, rfl⟩ := rng h5 h6 (by decide) (by decide)
  exact ⟨v, k, lam, ⟨hv1, hv2, hk1, by omega⟩, hl1, hl2, rfl, rfl, rfl⟩
def T_PC_blocksOfDesign : ma_T := fun as w post => ∃ v k lam, as = [.inl (nI v), .inl (nI k), .inl (nI lam)] ∧ vk v k ∧ 1 ≤ lam ∧ lam ≤ 4 ∧ post (A_bd v k lam) w
theorem i_PC_blocksOfDesign {v k lam : Nat} {w : ma_W} {post : ma_P} (hv : vk v k) (h1 : 1 ≤ lam) (h4 : lam ≤ 4) (hp : post (A_bd v k lam) w) : T_PC_blocksOfDesign [.inl (nI v), .inl (nI k), .inl (nI lam)] w post := ⟨v, k, lam, rfl, hv, h1, h4, hp⟩
theorem c_PC_blocksOfDesign {l : Launch} : ma_Met l y_PC_blocksOfDesign (w_PC_blocksOfDesign :: zw_t) 0 true T_PC_blocksOfDesign := by
  refine z_PC_blocksOfDesign (by rintro as w post ⟨v, k, lam, rfl, -⟩; simp) ?_
  rintro as w post ⟨v, k, lam, rfl, hv, h1, h4, hp⟩ Go hGo
  obtain ⟨hv1, hv2, hk1, hk2⟩ := hv
  have hb1 : lam * (v - 1) ≤ 4 * 5 := Nat.mul_le_mul h4 (by omega)
  have hb2 : lam * (v - 1) / (k - 1) ≤ 20 := Nat.le_trans (Nat.div_le_self _ _) hb1
  have hb3 : v * (lam * (v - 1) / (k - 1)) ≤ 6 * 20 := Nat.mul_le_mul hv2 hb2
  have hb4 : v * (lam * (v - 1) / (k - 1)) / k ≤ 120 := Nat.le_trans (Nat.div_le_self _ _) hb3
  have hm1 : (lam * (v - 1)) % (k - 1) ≤ lam * (v - 1) := Nat.mod_le _ _
  have hm2 : (v * (lam * (v - 1) / (k - 1))) % k ≤ v * (lam * (v - 1) / (k - 1)) := Nat.mod_le _ _
  have hk0 : ¬ nI (k - 1) = 0 := nI_ne0 (by omega) (by omega)
  have hk9 : ¬ nI k = 0 := nI_ne0 (by omega) (by omega)
  refine q_PC_blocksOfDesign_0 hGo ?_
  rw [pk_sub (show 1 ≤ k by omega), pk_sub (show 1 ≤ v by omega), nI_mul, pk_rem (by omega) (by omega) (by omega)]
  refine ⟨hk0, pk_eq ((lam * (v - 1)) % (k - 1)) 0 (fun h => q_PC_blocksOfDesign_17 hGo ?_) (fun h => ?_) rfl rfl (by omega) (by omega)⟩
  · rw [pk_sub (show 1 ≤ k by omega), pk_div (by omega) (by omega) (by omega), nI_mul, pk_rem (by omega) (by omega) (by omega)]
    refine ⟨hk0, hk9, pk_eq ((v * (lam * (v - 1) / (k - 1))) % k) 0 (fun h2 => q_PC_blocksOfDesign_36 hGo ?_) (fun h2 => ?_) rfl rfl (by omega) (by omega)⟩
    · rw [pk_div (by omega) (by omega) (by omega)]
      rw [A_bd, if_pos ⟨h, h2⟩] at hp
      refine ⟨hk9, pk_le v (v * (lam * (v - 1) / (k - 1)) / k) (fun h3 => q_PC_blocksOfDesign_53 hGo (q_PC_blocksOfDesign_55 hGo ?_)) (fun h3 => q_PC_blocksOfDesign_55 hGo ?_) rfl rfl (by omega) (by omega)⟩
      · rw [if_neg (by omega)] at hp; exact hp
      · rw [if_pos h3] at hp; exact hp
    · rw [A_bd, if_neg (fun z => h2 z.2)] at hp
      exact hp
  · rw [A_bd, if_neg (fun z => h z.1)] at hp
    exact hp
/-! the empty laying -/
theorem row_nil {v k : Nat} {t : List Nat} : ce_row (fm_K v k) [] t = ce_row (fm_K v k) [] (List.range v) := by
  unfold ce_row
  rw [fm_row_eq]
  intro b _
  rfl
theorem ord_nil {v k : Nat} (hv : vk v k) : ce_ord v k [] = fc v := by
  rw [← fcP v (by have := hv.2.1; omega)]
  unfold ce_ord fm_ord
  rw [List.countP_eq_length]
  intro t _
  rw [beq_iff_eq]
  exact row_nil
theorem fmin_le (p : Nat) : ∀ (l : List (List Nat)) (b : Nat), l.foldl (fun b t => min b (t.getD p 0)) b ≤ b ∧ ∀ t ∈ l, l.foldl (fun b t => min b (t.getD p 0)) b ≤ t.getD p 0
  | [], b => ⟨Nat.le_refl _, fun t h => absurd h List.not_mem_nil⟩
  | s :: l, b => by
    obtain ⟨h1, h2⟩ := fmin_le p l (min b (s.getD p 0))
    rw [List.foldl_cons]
    refine ⟨by omega, fun t ht => ?_⟩
    rcases List.mem_cons.mp ht with rfl | h
    · omega
    · exact h2 t h
theorem orb_nil {v k p : Nat} (hv : vk v k) (hp : p < v) : sp_orb v k [] p = 0 := by
  have h0 : 0 < v := by omega
  obtain ⟨h1, -⟩ := tau_ok hv.1 hv.2.1 hp h0
  have hm : bi_tau v p 0 ∈ (pm_P v).filter (fun t => ce_row (fm_K v k) [] t == ce_row (fm_K v k) [] (List.range v)) := List.mem_filter.mpr ⟨pm_P_mem.mpr h1, by rw [beq_iff_eq]; exact row_nil⟩
  have h2 := (fmin_le p _ p).2 _ hm
  have h3 : (bi_tau v p 0).getD p 0 = 0 := by
    unfold bi_tau
    rw [List.getD_eq_getElem?_getD, List.getElem?_map, List.getElem?_range hp]
    simp
  rw [h3] at h2
  unfold sp_orb
  omega
def T_PC_begin : ma_T := fun as w post => ∃ c xs x y z, as = [.inr 0, .inl x, .inl y, .inl z] ∧ XI c xs w ∧ ∀ w', XI (N_begin c x y z) (N_beginX xs x y z) w' → frX w w' → post (A_begin x y z) w'
theorem c_PC_begin {l : Launch} (cb : ma_Met l y_JI_bitCount (w_JI_bitCount :: zw_t) 0 true T_JI_bitCount) : ma_Met l y_PC_begin (w_PC_begin :: zw_t) 3 true T_PC_begin := by
  refine z_PC_begin (c_GR_lay cb) (by decide) c_RO_clear (by decide) c_LI_restart (by decide) c_GR_renamings (by decide) c_LI_addEmptyRow (by decide) c_PC_blocksOfDesign (by decide) (by rintro as w post ⟨c, xs, x, y, z, rfl, -⟩; simp) ?_
  rintro as w post ⟨c, xs, x, y, z, rfl, hX, hp⟩ Go hGo
  have no : okb x y z = false → post (Int32.ofInt (-2)) w := by
    intro h
    rw [N_begin, N_beginX, A_begin, if_neg (by rw [h]; decide), if_neg (by rw [h]; decide), if_neg (by rw [h]; decide)] at hp
    exact hp w hX (frX_refl w)
  have yes : okb x y z = true → Go 39 [some (.inr 0), some (.inl x), some (.inl y), some (.inl z)] [] w := by
    intro h
    rw [N_begin, N_beginX, A_begin, if_pos h, if_pos h, if_pos h] at hp
    obtain ⟨v, k, lam, hv, hl1, hl4, rfl, rfl, rfl⟩ := okb_t h
    obtain ⟨hv1, hv2, hk1, hk2⟩ := id hv
    rw [nI_clamp (by omega), nI_clamp (by omega), nI_clamp (by omega)] at hp
    have hx := hX.1
    have hz := xr_1 hx
    have hbz := zL_big hz
    have hz23 : w.2.1.1 ≤ 20 := by rcases hz with h | h <;> rw [h] <;> decide
    refine q_PC_begin_39 hGo (i_GR_lay hv (fun w1 f1 g1 => ⟨bo1, bo0, i_RO_clear (Or.inl rfl) ⟨bo0, ?_⟩⟩))
    have hz1 : zL w1.2.1.1 := by rw [f1.1]; exact hz
    have hbz : 16 ≤ w1.2.1.1 := by rw [f1.1]; exact hbz
    have hz23 : w1.2.1.1 ≤ 20 := by rw [f1.1]; exact hz23
    have fin : ∀ w3 : ma_W, w3.2.1 = w1.2.1 → fr [0, 10, w1.2.1.1] [] w1 w3 → w3.1 0 7 = nI lam → w3.1 0 10 = nI 1 → w3.1 0 11 = nI 0 → w3.1 0 9 = nI 0 → w3.1 10 1 = nI 0 → w3.1 w1.2.1.1 3 = nI 0 → T_GR_renamings [.inr 2] w3 (fun z4 w4 => ma_isk 4 w3.2.1.1 (T_LI_addEmptyRow [.inr w3.2.1.1, .inl z4] w4 (fun _ w5 => T_PC_blocksOfDesign [.inl (nI v), .inl (nI k), .inl (nI lam)] w5 (fun z6 w6 => post z6 w6)))) := by
      intro w3 e1 f3 e7 e10 e11 e9 er e3
      have g3 : gr v k w3 := gr_fr g1 f3 (nm3 (by decide) (by decide) (by omega)) List.not_mem_nil List.not_mem_nil
      refine i_GR_renamings hv2 g3.1 ?_
      rw [e1, ma_isk_of (zL_s hz1)]
      refine i_LI_addEmptyRow hz1 (fun w5 f5 c3 c4 c2 ci => i_PC_blocksOfDesign hv hl1 hl4 (hp w5 ?_ ?_))
      · have g5 : gr v k w5 := gr_fr g3 f5 (nm1 (by omega)) (nm2 (by omega) (by omega)) (nm2 (by omega) (by omega))
        have hr5 : w5.2.1 = w1.2.1 := f5.1.trans e1
        refine ⟨by unfold xr; rw [hr5, f1.1]; exact hx, ⟨by decide, ?_, fun j hj => absurd hj (Nat.not_lt_zero j)⟩, hv, ⟨hl1, hl4⟩, ?_, ?_, g5, ?_, fun x h => absurd h List.not_mem_nil, ⟨false, ?_, fun h => by cases h⟩, false, ?_, fun h => by cases h⟩
        · rw [f5.2.1 10 (nm1 (by omega))]; exact er
        · rw [f5.2.1 0 (nm1 (by omega))]; exact e10
        · rw [f5.2.1 0 (nm1 (by omega))]; exact e7
        · rw [hr5]
          refine ⟨by show 1 ≤ 60; decide, by decide, by rw [c3]; exact e3, c4, fun i hi => ?_⟩
          obtain rfl : i = 0 := by
            have : i < 1 := hi
            omega
          refine ⟨rfl, fun x h => absurd h List.not_mem_nil, fun j hj => absurd hj (Nat.not_lt_zero j), ?_, fun x hx2 => ?_⟩
          · rw [c2]
            exact congrArg nI (ord_nil hv).symm
          · rw [show 0 * 6 + x = x by omega, ci x (by omega)]
            exact congrArg nI (orb_nil hv hx2).symm
        · rw [f5.2.1 0 (nm1 (by omega))]; exact e11
        · rw [f5.2.1 0 (nm1 (by omega))]; exact e9
      · exact frX_trans (frX_of f1 (by decide) (by decide)) (frX_trans (frX_of f3 (fun p hp => by
          simp only [List.mem_cons, List.not_mem_nil, or_false] at hp
          omega) (fun q hq => absurd hq List.not_mem_nil)) (frX_of f5 (fun p hp => by
          simp only [List.mem_cons, List.not_mem_nil, or_false] at hp
          omega) (fun q hq => by
          simp only [List.mem_cons, List.not_mem_nil, or_false] at hq
          omega)))
    rw [ma_isk_of (zL_s hz1)]
    refine i_LI_restart hz1 (fin _ rfl (fr_f (fr_f (fr_f (fr_f (fr_f (fr_f (fr_f (fr_refl _ _ _) (by simp) 7 _) (by simp) 10 _) (by simp) 11 _) (by simp) 1 _) (by simp) 9 _) (by simp) 3 _) (by simp) 4 _) ?_ ?_ ?_ ?_ ?_ ?_)
    all_goals simp [ma_up]
    all_goals omega
  refine q_PC_begin_0 hGo ⟨fun h => q_PC_begin_11 hGo (no ?_), fun h1 => ⟨fun h2 => q_PC_begin_14 hGo ⟨fun h => q_PC_begin_36 hGo (no ?_), fun h3 => ⟨fun h => q_PC_begin_36 hGo (no ?_), fun h4 => ⟨fun h => q_PC_begin_36 hGo (no ?_), fun h5 => ⟨fun h6 => yes ?_, fun h => q_PC_begin_36 hGo (no ?_)⟩⟩⟩⟩, fun h => q_PC_begin_11 hGo (no ?_)⟩⟩
  · simp [okb, h]
  · simp [okb, h]
  · simp [okb, h]
  · simp [okb, h]
  · simp only [okb, Bool.and_eq_true, decide_eq_true_eq]
    exact ⟨h1, h2, h3, h4, h5, h6⟩
  · simp [okb, h]
  · simp [okb, h]
def T_PC_grow : ma_T := fun as w post => ∃ c xs, as = [.inr 0] ∧ XI c xs w ∧ ∀ w', XI (N_grow c) xs w' → frX w w' → post (A_grow c) w'
theorem L_pk {v k lam n : Nat} : ∀ e ∈ ce_L v k lam n, ce_pk v lam e = true := fun e he => ((ce_U_mem n e).mp (ce_sub n e he)).2.2.2
theorem c_PC_grow {l : Launch} : ma_Met l y_PC_grow (w_PC_grow :: zw_t) 18 true T_PC_grow := by
  refine z_PC_grow c_LI_rowLength (by decide) c_PC_fillSpare (by decide) c_LI_size (by decide) (by rintro as w post ⟨c, xs, rfl, -⟩; simp) ?_
  rintro as w post ⟨c, xs, rfl, hX, hp⟩ Go hGo
  match c, hX, hp with
  | none, hX, hp => exact q_PC_grow_0 hGo (bI_an (b := false) hX.2.2.2.1 (fun h => by cases h) (fun _ => hp w hX (frX_refl w)))
  | some (v, k, lam, n), hX, hp =>
    obtain ⟨a1, a2, b1, b2, b3, b4, b5, b6, b7, ⟨b, b8, b9⟩, b10⟩ := id hX
    have hz := xr_1 a1
    have hz2 := xr_2 a1
    have hne := xr_ne a1
    have hb1 := zL_big hz
    have hb2 := zL_big hz2
    have hb3 : w.2.1.2 ≤ 20 := by rcases hz2 with h | h <;> rw [h] <;> decide
    have hn10 := b6.2.1
    have full : ¬ (n < 10 ∧ (ce_L v k lam (n + 1)).length ≤ 60) → ∀ w', XI (some (v, k, lam, n)) xs w' → frX w w' → post (Int32.ofInt (-5)) w' := by
      intro h w' h1 h2
      have h9 := hp w'
      simp only [N_grow, A_grow] at h9
      rw [if_neg h, if_neg h] at h9
      exact h9 h1 h2
    refine q_PC_grow_0 hGo (bI_an (b := true) b3 (fun _ => ?_) (fun h => by cases h))
    refine q_PC_grow_9 hGo (bI_an b8 (fun h => q_PC_grow_28 hGo (full (fun z => by have := b9 h; omega) w hX (frX_refl w))) (fun hbf => ?_))
    rw [ma_isk_of (zL_s hz)]
    refine i_LI_rowLength hz (pk_lt n 10 (fun hn => q_PC_grow_31 hGo ?_) (fun hn => q_PC_grow_28 hGo (full (fun z => by omega) w hX (frX_refl w))) b6.2.2.1 rfl (by omega) (by omega))
    refine i_PC_fillSpare b1 a1 b5 b4 (by omega) hn b6 L_pk (fun w1 f1 g1 => ?_)
    have hnx : ce_next v lam (fm_K v k) (ce_L v k lam n) = ce_L v k lam (n + 1) := rfl
    rw [hnx] at g1 ⊢
    have n0 : (0 : Nat) ∉ gp w.2.1.2 := gp_n (by decide) (by decide) (by omega)
    have hXf : frX w w1 := frX_of f1 (fun p hp => by
      simp only [gp, List.mem_cons, List.not_mem_nil, or_false] at hp
      omega) (fun q hq => by
      simp only [gq, List.mem_cons, List.not_mem_nil, or_false] at hq
      omega)
    have hg1 : gr v k w1 := gr_fr b5 f1 (gp_n (by decide) (by decide) (by omega)) (gq_n (by omega) (by omega) (by omega) (by omega)) (gq_n (by omega) (by omega) (by omega) (by omega))
    have hr1 : ro w1 10 xs := ro_fr a2 f1 (gp_n (by decide) (by decide) (by omega)) (gq_n (by omega) (by omega) (by omega) (by omega))
    have hh1 : hf_ v k xs w1 := by
      obtain ⟨bb, c1, c2⟩ := b10
      refine ⟨bb, by rw [f1.2.1 0 n0]; exact c1, fun hb => ?_⟩
      obtain ⟨d1, d2⟩ := c2 hb
      exact ⟨ro_fr d1 f1 (gp_n (by decide) (by decide) (by omega)) (gq_n (by omega) (by omega) (by omega) (by omega)), by rw [f1.2.1 0 n0]; exact d2⟩
    have hl1 : ls v k w1 w.2.1.1 n (ce_L v k lam n) := ls_fr b6 f1 (gp_n (by omega) (by omega) (by omega)) (gq_n (by omega) (by omega) (by omega) (by omega)) (gq_n (by omega) (by omega) (by omega) (by omega)) (gq_n (by omega) (by omega) (by omega) (by omega))
    refine bI_ne (fun h => q_PC_grow_46 hGo ?_) (fun h => ⟨bo1, ?_⟩)
    · have h := of_decide_eq_true h
      have hl2 := g1 h
      rw [f1.1, ma_isk_of (zL_s hz2)]
      refine i_LI_size hz2 ?_
      have hc : n < 10 ∧ (ce_L v k lam (n + 1)).length ≤ 60 := ⟨hn, h⟩
      have h9 := hp (w1.1, (w.2.1.2, w.2.1.1), w1.2.2)
      simp only [N_grow, A_grow] at h9
      rw [if_pos hc, if_pos hc] at h9
      show post (w1.1 w.2.1.2 4) _
      rw [hl2.2.2.2.1]
      refine h9 ⟨?_, hr1, b1, b2, by rw [← b3]; exact congrFun (f1.2.1 0 n0) 10, by rw [← b4]; exact congrFun (f1.2.1 0 n0) 7, hg1, hl2, b7, ⟨false, ?_, fun z => by cases z⟩, hh1⟩ ⟨hXf.1, hXf.2⟩
      · rcases a1 with a1 | a1 <;> rw [a1]
        · exact Or.inr rfl
        · exact Or.inl rfl
      · show w1.1 0 11 = _
        rw [f1.2.1 0 n0, b8, hbf]
    · have h := of_decide_eq_false h
      refine full (fun z => h z.2) _ ⟨xr_fr (xr_fr a1 f1) (fr_f (fr_refl [0] [] w1) (by decide) 11 (nI 1)), ro_fr hr1 (fr_f (fr_refl [0] [] w1) (by decide) 11 (nI 1)) (by decide) (by decide), b1, b2, ?_, ?_, gr_fr hg1 (fr_f (fr_refl [0] [] w1) (by decide) 11 (nI 1)) (by decide) (by decide) (by decide), ?_, b7, ⟨true, rfl, fun _ => by omega⟩, ?_⟩ (frX_trans hXf (frX_of (fr_f (fr_refl [0] [] w1) (by decide) 11 (nI 1)) (by decide) (by decide)))
      · try dsimp only
        rw [ma_up_k _ _ _ _ (by decide), f1.2.1 0 n0]; exact b3
      · try dsimp only
        rw [ma_up_k _ _ _ _ (by decide), f1.2.1 0 n0]; exact b4
      · have hl2 : ls v k w1 w1.2.1.1 n (ce_L v k lam n) := by rw [f1.1]; exact hl1
        have hb9 : 16 ≤ w1.2.1.1 := by rw [f1.1]; exact hb1
        exact ls_fr hl2 (fr_f (fr_refl [0] [] w1) (by decide) 11 (nI 1)) (show w1.2.1.1 ∉ [0] from nm1 (by omega)) List.not_mem_nil List.not_mem_nil List.not_mem_nil
      · obtain ⟨bb, c1, c2⟩ := hh1
        refine ⟨bb, ?_, fun hb => ?_⟩
        · try dsimp only
          rw [ma_up_k _ _ _ _ (by decide)]; exact c1
        · obtain ⟨d1, d2⟩ := c2 hb
          refine ⟨ro_fr d1 (fr_f (fr_refl [0] [] w1) (by decide) 11 (nI 1)) (by decide) (by decide), ?_⟩
          try dsimp only
          rw [ma_up_k _ _ _ _ (by decide)]; exact d2
