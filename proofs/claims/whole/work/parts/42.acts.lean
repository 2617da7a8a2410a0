/-! CONTRACTS: PackingCensus, calls that act -/
theorem mem0 {w w' : ma_W} {ps qs : List Nat} (hf : fr ps qs w w') (h : XI none [] w) (h0 : 0 ∉ ps) (h2 : 2 ∉ ps) (h3 : ∀ p ∈ ps, p < 16) (h10 : 10 ∉ ps) (h11 : 11 ∉ qs) : XI none [] w' := by
  obtain ⟨a1, a2, a3, a4, a5, a6, a7⟩ := h
  have hz := zL_big (xr_1 a1)
  refine ⟨xr_fr a1 hf, ro_fr a2 hf h10 h11, rfl, ?_, ?_, ?_, ?_⟩
  · rw [hf.2.1 0 h0]; exact a4
  · rw [hf.2.1 2 h2]; exact a5
  · rw [hf.1, hf.2.1 _ (fun z => by have := h3 _ z; omega)]; exact a6
  · rw [hf.1, hf.2.1 _ (fun z => by have := h3 _ z; omega)]; exact a7
/-- the hand has changed, its form is not known any more -/
theorem XI_upd {c : cs_} {xs ys : List Nat} {w w' : ma_W} (h : XI c xs w) (hf : fr [0, 10] [11] w w') (hk : ∀ j, j ≠ 9 → w'.1 0 j = w.1 0 j) (h9 : w'.1 0 9 = nI 0) (hr : ro w' 10 ys) (hy : match c with
    | none => ys = []
    | some (v, k, _, _) => ∀ x ∈ ys, x ∈ fm_K v k) : XI c ys w' := by
  obtain ⟨a1, a2, a3⟩ := h
  have hb := zL_big (xr_1 a1)
  have hn0 : w.2.1.1 ∉ [0, 10] := nm2 (by omega) (by omega)
  refine ⟨xr_fr a1 hf, hr, ?_⟩
  match c, a3, hy with
  | none, ⟨b1, b2, b3, b4, b5⟩, hy =>
    refine ⟨hy, by rw [hk 10 (by decide)]; exact b2, by rw [hf.2.1 2 (by decide)]; exact b3, ?_, ?_⟩
    · rw [hf.1, hf.2.1 _ hn0]; exact b4
    · rw [hf.1, hf.2.1 _ hn0]; exact b5
  | some (v, k, lam, n), ⟨b1, b2, b3, b4, b5, b6, b7, ⟨b, b8, b9⟩, b10⟩, hy =>
    refine ⟨b1, b2, by rw [hk 10 (by decide)]; exact b3, by rw [hk 7 (by decide)]; exact b4, gr_fr b5 hf (by decide) (by decide) (by decide), ?_, hy, ⟨b, by rw [hk 11 (by decide)]; exact b8, b9⟩, false, h9, fun z => by cases z⟩
    rw [hf.1]
    exact ls_fr b6 hf hn0 (nm1 (by omega)) (nm1 (by omega)) (nm1 (by omega))
theorem up9 {w : ma_W} {x : Int32} : ∀ j, j ≠ 9 → ma_up w.1 0 9 x 0 j = w.1 0 j := fun j hj => ma_up_k _ _ _ _ hj
def T_PC_put : ma_T := fun as w post => ∃ c xs x, as = [.inr 0, .inl x] ∧ XI c xs w ∧ ∀ w', XI c (N_put c xs x) w' → frX w w' → post (A_put c xs x) w'
theorem c_PC_put {l : Launch} (cb : ma_Met l y_JI_bitCount (w_JI_bitCount :: zw_t) 0 true T_JI_bitCount) : ma_Met l y_PC_put (w_PC_put :: zw_t) 2 true T_PC_put := by
  refine z_PC_put (c_GR_isBlock cb) (by decide) c_RO_size (by decide) c_RO_add (by decide) (by rintro as w post ⟨c, xs, x, rfl, -⟩; simp) ?_
  rintro as w post ⟨c, xs, x, rfl, hX, hp⟩ Go hGo
  have h10 : zR 10 := Or.inl rfl
  match c, hX, hp with
  | none, hX, hp => exact q_PC_put_0 hGo (bI_at (b := false) hX.2.2.2.1 (fun _ => q_PC_put_18 hGo (hp w hX (frX_refl w))) (fun h => by cases h))
  | some (v, k, lam, n), hX, hp =>
    obtain ⟨a1, a2, b1, b2, b3, b4, b5, b6, b7, b8, b9⟩ := id hX
    have hl := a2.1
    refine q_PC_put_0 hGo (bI_at (b := true) b3 (fun h => by cases h) (fun _ => i_GR_isBlock b1 b5.1 b5.2.1 (bI_ne (fun h => ?_) (fun h => q_PC_put_18 hGo ?_))))
    · refine q_PC_put_21 hGo (i_RO_size h10 (pk_lt xs.length 10 (fun h1 => q_PC_put_36 hGo (i_RO_add h10 a2.2.1 h1 ⟨bo0, i_RO_size h10 ?_⟩)) (fun h1 => ?_) a2.2.1 rfl (by omega) (by omega)))
      · obtain ⟨m, hm, rfl⟩ := isb_t b1.2.1 h
        have hm64 := vk_64 b1 hm
        have hN : N_put (some (v, k, lam, n)) xs (nI m) = xs ++ [m] := by
          simp only [N_put, h, h1, and_self, if_true, nI_clamp (show m < 2 ^ 31 by omega)]
        have hA : A_put (some (v, k, lam, n)) xs (nI m) = nI (xs.length + 1) := by
          simp only [A_put, h, h1, if_true]
        rw [hN, hA] at hp
        have hra := ro_add (m := m) a2 h1
        show post (ma_up (ma_up w.1 10 1 (nI (xs.length + 1))) 0 9 (nI 0) 10 1) _
        rw [ma_up_p _ _ _ _ (by decide), ma_up_s]
        have hfr : fr [0, 10] [11] w (ma_up (ma_up w.1 10 1 (nI (xs.length + 1))) 0 9 (nI 0), w.2.1, ma_up w.2.2 11 xs.length (nI m)) := fr_a (fr_f (fr_f (fr_refl _ _ _) (by decide) 1 _) (by decide) 9 _) (by decide) _ _
        refine hp _ (XI_upd hX hfr (fun j hj => ?_) (rfl) (ro_fr hra (fr_f (fr_refl [0] [] _) (by decide) 9 (nI 0)) (by decide) (by decide)) (fun y hy => ?_)) (frX_of hfr (by decide) (by decide))
        · try dsimp only
          rw [ma_up_k _ _ _ _ hj, ma_up_p _ _ _ _ (by decide)]
        · rcases List.mem_append.mp hy with h2 | h2
          · exact b7 y h2
          · rw [List.mem_singleton.mp h2]; exact hm
      · have hN : N_put (some (v, k, lam, n)) xs x = xs := by
          simp only [N_put]
          rw [if_neg (fun z => absurd z.2 (by omega))]
        have hA : A_put (some (v, k, lam, n)) xs x = Int32.ofInt (-5) := by
          simp only [A_put, h, if_true]
          rw [if_neg (by omega)]
        rw [hN, hA] at hp
        exact hp w hX (frX_refl w)
    · have hN : N_put (some (v, k, lam, n)) xs x = xs := by
        simp only [N_put]
        rw [if_neg (fun z => by rw [h] at z; cases z.1)]
      have hA : A_put (some (v, k, lam, n)) xs x = Int32.ofInt (-2) := by
        simp only [A_put]
        rw [if_neg (by rw [h]; decide)]
      rw [hN, hA] at hp
      exact hp w hX (frX_refl w)
def T_PC_drop : ma_T := fun as w post => ∃ c xs x, as = [.inr 0, .inl x] ∧ XI c xs w ∧ ∀ w', XI c (N_drop xs x) w' → frX w w' → post (bI (A_drop xs x)) w'
theorem c_PC_drop {l : Launch} : ma_Met l y_PC_drop (w_PC_drop :: zw_t) 2 true T_PC_drop := by
  refine z_PC_drop c_RO_has (by decide) c_RO_removeAt (by decide) (by rintro as w post ⟨c, xs, x, rfl, -⟩; simp) ?_
  rintro as w post ⟨c, xs, x, rfl, hX, hp⟩ Go hGo
  have h10 : zR 10 := Or.inl rfl
  have hr := hX.2.1
  have hl := hr.1
  refine q_PC_drop_0 hGo (i_RO_has h10 hr.2.1 (bI_ne (fun h => ?_) (fun h => ⟨bo0, ?_⟩)))
  · have hp2 := hp
    rw [N_drop, if_pos h, A_drop, h] at hp2
    obtain ⟨j, hj, rfl⟩ := hs_t (by omega) h
    rw [nI_clamp (by omega)] at hp2
    refine q_PC_drop_13 hGo (i_RO_removeAt h10 hr hj (fun w1 f1 r1 => ⟨bo0, bo1, ?_⟩))
    have hfr : fr [0, 10] [11] w (ma_up w1.1 0 9 (nI 0), w1.2.1, w1.2.2) := fr_f (fr_mono f1 (fun x hx => by rw [List.mem_singleton.mp hx]; decide) (fun _ h => h)) (by decide) 9 _
    refine hp2 _ (XI_upd hX hfr (fun j hj => ?_) (rfl) (ro_fr r1 (fr_f (fr_refl [0] [] w1) (by decide) 9 (nI 0)) (by decide) (by decide)) ?_) (frX_of hfr (by decide) (by decide))
    · try dsimp only
      rw [ma_up_k _ _ _ _ hj, f1.2.1 0 (by decide)]
    · obtain ⟨-, -, a3⟩ := hX
      match c, a3 with
      | none, ⟨b1, _⟩ => rw [b1] at hj; exact absurd hj (Nat.not_lt_zero j)
      | some (v, k, lam, n), ⟨b1, b2, b3, b4, b5, b6, b7, _⟩ => exact fun y hy => b7 y (List.mem_of_mem_eraseIdx hy)
  · rw [N_drop, if_neg (by rw [h]; decide), A_drop, h] at hp
    exact hp w hX (frX_refl w)
theorem tau_ok {v a b : Nat} (h3 : 3 ≤ v) (h6 : v ≤ 6) (ha : a < v) (hb : b < v) : (bi_tau v a b).Perm (List.range v) ∧ ∀ m, m < 2 ^ v → pm_im (bi_tau v a b) m = sw a b m := by
  have : v = 3 ∨ v = 4 ∨ v = 5 ∨ v = 6 := by omega
  rcases this with rfl | rfl | rfl | rfl
  · obtain ⟨h1, h2⟩ := bi_tau3 a ha b hb
    exact ⟨List.isPerm_iff.mp h1, h2⟩
  · obtain ⟨h1, h2⟩ := bi_tau4 a ha b hb
    exact ⟨List.isPerm_iff.mp h1, h2⟩
  · obtain ⟨h1, h2⟩ := bi_tau5 a ha b hb
    exact ⟨List.isPerm_iff.mp h1, h2⟩
  · obtain ⟨h1, h2⟩ := bi_tau6 a ha b hb
    exact ⟨List.isPerm_iff.mp h1, h2⟩
/-- a swap keeps blocks, the greatest row and the order -/
theorem sw_keep {v k a b : Nat} {xs : List Nat} (hv : vk v k) (ha : a < v) (hb : b < v) (hx : ∀ x ∈ xs, x ∈ fm_K v k) : (∀ x ∈ xs.map (sw a b), x ∈ fm_K v k) ∧ sp_max v (fm_K v k) (xs.map (sw a b)) = sp_max v (fm_K v k) xs ∧ ce_ord v k (xs.map (sw a b)) = ce_ord v k xs := by
  obtain ⟨h1, h2⟩ := tau_ok hv.1 hv.2.1 ha hb
  have hlt : ∀ x ∈ xs, x < 2 ^ v := fun x h => (fm_K_mem.mp (hx x h)).1
  have e : xs.map (sw a b) = xs.map (pm_im (bi_tau v a b)) := List.map_congr_left (fun x h => (h2 x (hlt x h)).symm)
  rw [e]
  refine ⟨fun y hy => ?_, sp_ren_max h1 hlt, sp_ren_ord h1 hlt⟩
  obtain ⟨x, hx1, rfl⟩ := List.mem_map.mp hy
  exact fm_K_im h1 (hx x hx1)
def T_PC_swap : ma_T := fun as w post => ∃ c xs x y, as = [.inr 0, .inl x, .inl y] ∧ XI c xs w ∧ ∀ w', XI c (N_swap c xs x y) w' → frX w w' → post (bI (A_swap c x y)) w'
theorem c_PC_swap {l : Launch} : ma_Met l y_PC_swap (w_PC_swap :: zw_t) 1 true T_PC_swap := by
  refine z_PC_swap c_GR_isPoint (by decide) c_RO_exchangePoints (by decide) (by rintro as w post ⟨c, xs, x, y, rfl, -⟩; simp) ?_
  rintro as w post ⟨c, xs, x, y, rfl, hX, hp⟩ Go hGo
  obtain ⟨-, -, -, h2, -, -, hv6⟩ := XI_c hX
  have no : (hs x (vv c) && hs y (vv c)) = false → Go 22 [some (.inr 0), some (.inl x), some (.inl y)] [] w := by
    intro h
    refine q_PC_swap_22 hGo ⟨bo0, ?_⟩
    rw [N_swap, if_neg (by rw [h]; decide), A_swap, h] at hp
    exact hp w hX (frX_refl w)
  refine q_PC_swap_0 hGo (i_GR_isPoint h2 (bI_eq (fun h => no (by rw [h]; rfl)) (fun hx => i_GR_isPoint h2 (bI_ne (fun hy => ?_) (fun h => no (by rw [h, Bool.and_false]))))))
  have hh : (hs x (vv c) && hs y (vv c)) = true := by rw [hx, hy]; rfl
  rw [N_swap, if_pos hh, A_swap, hh] at hp
  obtain ⟨a, ha, rfl⟩ := hs_t (by omega) hx
  obtain ⟨b, hb, rfl⟩ := hs_t (by omega) hy
  rw [nI_clamp (by omega), nI_clamp (by omega)] at hp
  match c, hX, hp, ha, hb with
  | none, _, _, ha, _ => exact absurd ha (Nat.not_lt_zero a)
  | some (v, k, lam, n), hX, hp, ha, hb =>
    have ha : a < v := ha
    have hb : b < v := hb
    obtain ⟨a1, a2, b1, b2, b3, b4, b5, b6, b7, b8, b9⟩ := hX
    obtain ⟨s1, s2, s3⟩ := sw_keep b1 ha hb b7
    have hv6 : v ≤ 6 := hv6
    refine q_PC_swap_24 hGo (i_RO_exchangePoints (Or.inl rfl) (by omega) (by omega) a2 (K64 b1 b7) (fun w1 f1 r1 => ⟨bo1, hp w1 ⟨xr_fr a1 f1, r1, b1, b2, ?_, ?_, gr_fr b5 f1 (by decide) (by decide) (by decide), ?_, s1, ?_, ?_⟩ (frX_of f1 (by decide) (by decide))⟩))
    · rw [f1.2.1 0 (by decide)]; exact b3
    · rw [f1.2.1 0 (by decide)]; exact b4
    · have hbz := zL_big (xr_1 a1)
      rw [f1.1]
      exact ls_fr b6 f1 (nm1 (by omega)) (nm1 (by omega)) (nm1 (by omega)) (nm1 (by omega))
    · rw [f1.2.1 0 (by decide)]; exact b8
    · obtain ⟨b, c1, c2⟩ := b9
      refine ⟨b, by rw [f1.2.1 0 (by decide)]; exact c1, fun hb1 => ?_⟩
      obtain ⟨d1, d2⟩ := c2 hb1
      rw [s2, s3]
      exact ⟨ro_fr d1 f1 (by decide) (by decide), by rw [f1.2.1 0 (by decide)]; exact d2⟩
def T_PC_copy : ma_T := fun as w post => ∃ c xs x, as = [.inr 0, .inl x] ∧ XI c xs w ∧ ∀ w', XI c (N_copy c xs x) w' → frX w w' → post (bI (A_copy c x)) w'
theorem c_PC_copy {l : Launch} : ma_Met l y_PC_copy (w_PC_copy :: zw_t) 2 true T_PC_copy := by
  refine z_PC_copy c_LI_has (by decide) c_LI_writeTo (by decide) (by rintro as w post ⟨c, xs, x, rfl, -⟩; simp) ?_
  rintro as w post ⟨c, xs, x, rfl, hX, hp⟩ Go hGo
  obtain ⟨hz, h4, -, -, h60, -, -⟩ := XI_c hX
  refine q_PC_copy_0 hGo ?_
  rw [ma_isk_of (zL_s hz)]
  refine i_LI_has hz h4 (bI_ne (fun h => ?_) (fun h => ⟨bo0, ?_⟩))
  · rw [N_copy, if_pos h, A_copy, h] at hp
    obtain ⟨i, hi, rfl⟩ := hs_t (by omega) h
    rw [e_at, nI_clamp (by omega)] at hp
    obtain ⟨v, k, lam, n, rfl, hv, -, -, -, hl, hi2⟩ := XI_e hX hi
    obtain ⟨hi60, he10, he3, hle, he64⟩ := ls_at hv hl hi2
    refine q_PC_copy_13 hGo ?_
    rw [ma_isk_of (zL_s hz)]
    refine i_LI_writeTo hz (Or.inl rfl) hi60 he10 he3 hle (fun w1 f1 r1 => ⟨bo0, bo1, ?_⟩)
    have hfr : fr [0, 10] [11] w (ma_up w1.1 0 9 (nI 0), w1.2.1, w1.2.2) := fr_f (fr_mono f1 (fun x hx => by rw [List.mem_singleton.mp hx]; decide) (fun _ h => h)) (by decide) 9 _
    refine hp _ (XI_upd hX hfr (fun j hj => ?_) (rfl) (ro_fr r1 (fr_f (fr_refl [0] [] w1) (by decide) 9 (nI 0)) (by decide) (by decide)) (hl.2.2.2.2 i hi2).2.1) (frX_of hfr (by decide) (by decide))
    try dsimp only
    rw [ma_up_k _ _ _ _ hj, f1.2.1 0 (by decide)]
  · rw [N_copy, if_neg (by rw [h]; decide), A_copy, h] at hp
    exact hp w hX (frX_refl w)
/-- the state behind formHand -/
theorem XI_fh {v k lam n : Nat} {xs : List Nat} {w w' : ma_W} (h : XI (some (v, k, lam, n)) xs w) (hf : fr [0, 1, 12] [5, 6, 7, 8, 9, 13] w w') (hk : ∀ j, j ≠ 8 → j ≠ 9 → w'.1 0 j = w.1 0 j) (h9 : w'.1 0 9 = nI 1) (hr : ro w' 12 (sp_un (fm_K v k) (sp_max v (fm_K v k) xs))) (h8 : w'.1 0 8 = nI (ce_ord v k xs)) : XI (some (v, k, lam, n)) xs w' := by
  obtain ⟨a1, a2, b1, b2, b3, b4, b5, b6, b7, ⟨b, b8, b9⟩, b10⟩ := h
  have hb := zL_big (xr_1 a1)
  have nq : ∀ p, 16 ≤ p → p ∉ [5, 6, 7, 8, 9, 13] := fun p hp z => by
    simp only [List.mem_cons, List.not_mem_nil, or_false] at z
    omega
  refine ⟨xr_fr a1 hf, ro_fr a2 hf (by decide) (by decide), b1, b2, by rw [hk 10 (by decide) (by decide)]; exact b3, by rw [hk 7 (by decide) (by decide)]; exact b4, gr_fr b5 hf (by decide) (by decide) (by decide), ?_, b7, ⟨b, by rw [hk 11 (by decide) (by decide)]; exact b8, b9⟩, true, h9, fun _ => ⟨hr, h8⟩⟩
  rw [hf.1]
  exact ls_fr b6 hf (nm3 (by omega) (by omega) (by omega)) (nq _ (by omega)) (nq _ (by omega)) (nq _ (by omega))
theorem fhX {w w' : ma_W} (hf : fr [0, 1, 12] [5, 6, 7, 8, 9, 13] w w') : frX w w' := frX_of hf (by decide) (by decide)
def T_PC_symmetries : ma_T := fun as w post => ∃ c xs, as = [.inr 0] ∧ XI c xs w ∧ ∀ w', XI c xs w' → frX w w' → post (A_symmetries c xs) w'
theorem c_PC_symmetries {l : Launch} : ma_Met l y_PC_symmetries (w_PC_symmetries :: zw_t) 17 true T_PC_symmetries := by
  refine z_PC_symmetries c_PC_formHand (by decide) (by rintro as w post ⟨c, xs, rfl, -⟩; simp) ?_
  rintro as w post ⟨c, xs, rfl, hX, hp⟩ Go hGo
  match c, hX, hp with
  | none, hX, hp => exact q_PC_symmetries_0 hGo (bI_an (b := false) hX.2.2.2.1 (fun h => by cases h) (fun _ => hp w hX (frX_refl w)))
  | some (v, k, lam, n), hX, hp =>
    obtain ⟨a1, a2, b1, b2, b3, b4, b5, b6, b7, b8, b9⟩ := id hX
    refine q_PC_symmetries_0 hGo (bI_an (b := true) b3 (fun _ => q_PC_symmetries_9 hGo (i_PC_formHand b1 b5 a2 b7 b9 (fun w1 f1 f2 f3 f4 f5 => ?_))) (fun h => by cases h))
    rw [f5]
    exact hp w1 (XI_fh hX f1 f2 f3 f4 f5) (fhX f1)
def T_PC_formed : ma_T := fun as w post => ∃ c xs x, as = [.inr 0, .inl x] ∧ XI c xs w ∧ ∀ w', XI c xs w' → frX w w' → post (A_formed c xs x) w'
theorem c_PC_formed {l : Launch} : ma_Met l y_PC_formed (w_PC_formed :: zw_t) 17 true T_PC_formed := by
  refine z_PC_formed c_RO_has (by decide) c_PC_formHand (by decide) c_RO_get (by decide) (by rintro as w post ⟨c, xs, x, rfl, -⟩; simp) ?_
  rintro as w post ⟨c, xs, x, rfl, hX, hp⟩ Go hGo
  have h10 : zR 10 := Or.inl rfl
  have h12 : zR 12 := Or.inr (Or.inl rfl)
  have hr := hX.2.1
  have hl := hr.1
  refine q_PC_formed_0 hGo (i_RO_has h10 hr.2.1 (bI_ne (fun h => ?_) (fun h => ?_)))
  · obtain ⟨j, hj, rfl⟩ := hs_t (by omega) h
    match c, hX, hp with
    | none, hX, _ =>
      have e := hX.2.2.1
      rw [e] at hj
      exact absurd hj (Nat.not_lt_zero j)
    | some (v, k, lam, n), hX, hp =>
      obtain ⟨a1, a2, b1, b2, b3, b4, b5, b6, b7, b8, b9⟩ := id hX
      have hlen := un_len_max (v := v) (k := k) b7
      refine q_PC_formed_13 hGo (i_PC_formHand b1 b5 a2 b7 b9 (fun w1 f1 f2 f3 f4 f5 => i_RO_has h12 f4.2.1 ?_))
      rw [hs_j (by omega) (by omega)]
      refine bI_eq (fun h => by cases h) (fun _ => i_RO_get h12 (by omega) (q_PC_formed_40 hGo ?_))
      rw [f4.2.2 j (by omega)]
      have h9 := hp w1 (XI_fh hX f1 f2 f3 f4 f5) (fhX f1)
      simp only [A_formed, h, if_true, nI_clamp (show j < 2 ^ 31 by omega)] at h9
      exact h9
  · have h9 := hp w hX (frX_refl w)
    match c, h9 with
    | none, h9 => exact h9
    | some (v, k, lam, n), h9 =>
      simp only [A_formed] at h9
      rw [if_neg (by rw [h]; decide)] at h9
      exact h9
def T_PC_find : ma_T := fun as w post => ∃ c xs, as = [.inr 0] ∧ XI c xs w ∧ ∀ w', XI c xs w' → frX w w' → post (A_find c xs) w'
theorem un_K {v k : Nat} {xs : List Nat} : ∀ x ∈ sp_un (fm_K v k) (sp_max v (fm_K v k) xs), x ∈ fm_K v k := by
  intro x hx
  obtain ⟨j, hj, h⟩ := List.mem_flatMap.mp hx
  rw [List.mem_replicate] at h
  rw [h.2]
  exact K_mem (List.mem_range.mp hj)
theorem c_PC_find {l : Launch} : ma_Met l y_PC_find (w_PC_find :: zw_t) 17 true T_PC_find := by
  refine z_PC_find c_RO_size (by decide) c_LI_rowLength (by decide) c_PC_formHand (by decide) c_LI_placeOf (by decide) (by rintro as w post ⟨c, xs, rfl, -⟩; simp) ?_
  rintro as w post ⟨c, xs, rfl, hX, hp⟩ Go hGo
  have h10 : zR 10 := Or.inl rfl
  have h12 : zR 12 := Or.inr (Or.inl rfl)
  match c, hX, hp with
  | none, hX, hp => exact q_PC_find_0 hGo (bI_at (b := false) hX.2.2.2.1 (fun _ => q_PC_find_24 hGo (hp w hX (frX_refl w))) (fun h => by cases h))
  | some (v, k, lam, n), hX, hp =>
    obtain ⟨a1, a2, b1, b2, b3, b4, b5, b6, b7, b8, b9⟩ := id hX
    have hz := xr_1 a1
    have hl := a2.1
    have hn := b6.2.1
    refine q_PC_find_0 hGo (bI_at (b := true) b3 (fun h => by cases h) (fun _ => i_RO_size h10 ?_))
    rw [ma_isk_of (zL_s hz)]
    refine i_LI_rowLength hz (pk_eq xs.length n (fun h => q_PC_find_26 hGo ?_) (fun h => q_PC_find_24 hGo ?_) a2.2.1 b6.2.2.1 (by omega) (by omega))
    · refine i_PC_formHand b1 b5 a2 b7 b9 (fun w1 f1 f2 f3 f4 f5 => ?_)
      have hX1 := XI_fh hX f1 f2 f3 f4 f5
      obtain ⟨c1, c2, d1, d2, d3, d4, d5, d6, d7, d8, d9⟩ := id hX1
      have hz1 := xr_1 c1
      rw [ma_isk_of (zL_s hz1)]
      refine i_LI_placeOf hz1 h12 d6.1 d6.2.1 d6.2.2.1 d6.2.2.2.1 (fun i hi => ?_) f4 (K64 b1 un_K) ?_
      · obtain ⟨g1, g2, g3, -, -⟩ := d6.2.2.2.2 i hi
        exact ⟨g1, g3, K64 b1 g2⟩
      · have h9 := hp w1 hX1 (fhX f1)
        simp only [A_find, h, if_true] at h9
        exact h9
    · have h9 := hp w hX (frX_refl w)
      simp only [A_find] at h9
      rw [if_neg h] at h9
      exact h9
