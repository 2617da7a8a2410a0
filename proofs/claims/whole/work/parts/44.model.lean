/-! CONTRACTS: the reference, its small methods -/
/-- its renaming number i -/
def pi_ (v i : Nat) : List Nat := bi_ref v (List.range v) i
theorem pi_P {v : Nat} (h3 : 3 ≤ v) (h6 : v ≤ 6) : ((List.range (fc v)).map (pi_ v)).Perm (pm_P v) := by
  have : v = 3 ∨ v = 4 ∨ v = 5 ∨ v = 6 := by omega
  rcases this with rfl | rfl | rfl | rfl
  · exact bi_ref3
  · exact bi_ref4
  · exact bi_ref5
  · exact bi_ref6
theorem pi_perm {v i : Nat} (h3 : 3 ≤ v) (h6 : v ≤ 6) (hi : i < fc v) : (pi_ v i).Perm (List.range v) := pm_P_mem.mp ((pi_P h3 h6).mem_iff.mp (List.mem_map.mpr ⟨i, List.mem_range.mpr hi, rfl⟩))
theorem pi_0 : ∀ v, v < 7 → pi_ v 0 = List.range v := by decide +kernel
theorem fc_pos : ∀ v, v < 7 → 0 < fc v := by decide +kernel
/-- the reference's ground -/
def mg (v k : Nat) (w : ma_W) : Prop := w.1 24 0 = nI 1 ∧ w.1 24 1 = nI v ∧ w.1 24 2 = nI k ∧ w.1 24 5 = nI (fm_K v k).length ∧ w.1 24 7 = nI (fc v) ∧ (∀ j, j < (fm_K v k).length → w.2.2 25 j = nI ((fm_K v k).getD j 0)) ∧ ∀ i, i < fc v → ∀ p, p < v → w.2.2 26 (6 * i + p) = nI ((pi_ v i).getD p 0)
theorem mg_fr {v k : Nat} {qs : List Nat} {w w' : ma_W} (h : mg v k w) (hf : fr [] qs w w') (h1 : 25 ∉ qs) (h2 : 26 ∉ qs) : mg v k w' := by
  unfold mg
  rw [hf.2.1 24 List.not_mem_nil, hf.2.2 25 h1, hf.2.2 26 h2]
  exact h
/-- how often each block comes -/
def tm (xs : List Nat) (w : ma_W) : Prop := ∀ m, m < 64 → w.2.2 30 m = nI (xs.count m)
def T_MO_bits : ma_T := fun as w post => ∃ m, as = [.inl (nI m)] ∧ m < 64 ∧ post (nI (pm_cnt 6 m)) w
theorem i_MO_bits {m : Nat} {w : ma_W} {post : ma_P} (hm : m < 64) (hp : post (nI (pm_cnt 6 m)) w) : T_MO_bits [.inl (nI m)] w post := ⟨m, rfl, hm, hp⟩
theorem cnt_s (n m : Nat) : pm_cnt (n + 1) m = pm_cnt n m + (if m.testBit n = true then 1 else 0) := by
  unfold pm_cnt
  rw [List.range_succ, List.countP_append, List.countP_singleton]
theorem c_MO_bits {l : Launch} : ma_Met l y_MO_bits (w_MO_bits :: zw_t) 0 true T_MO_bits := by
  refine z_MO_bits (by rintro as w post ⟨m, rfl, -⟩; simp) ?_
  rintro as w post ⟨m, rfl, hm, hp⟩ Go hGo
  have loop : ∀ (d n : Nat), n + d = 6 → Go 4 [some (.inl (nI m)), some (.inl (nI (pm_cnt n m))), some (.inl (nI n))] [] w := by
    intro d
    induction d with
    | zero =>
      intro n hd
      obtain rfl : n = 6 := by omega
      exact q_MO_bits_4 hGo (pk_le 6 6 (fun _ => q_MO_bits_24 hGo hp) (fun h => absurd h (by omega)))
    | succ d ih =>
      intro n hd
      refine q_MO_bits_4 hGo (pk_le 6 n (fun h => absurd h (by omega)) (fun _ => ?_))
      rw [bi_bit m hm n (by omega), nI_add, nI_add, ← cnt_s]
      exact ih (n + 1) (by omega)
  exact q_MO_bits_0 hGo (loop 6 0 (by omega))
def T_MO_isEntry : ma_T := fun as w post => ∃ x n, as = [.inr 24, .inl x] ∧ w.1 24 9 = nI n ∧ post (bI (hs x n)) w
theorem i_MO_isEntry {n : Nat} {x : Int32} {w : ma_W} {post : ma_P} (hn : w.1 24 9 = nI n) (hp : post (bI (hs x n)) w) : T_MO_isEntry [.inr 24, .inl x] w post := ⟨x, n, rfl, hn, hp⟩
theorem c_MO_isEntry {l : Launch} : ma_Met l y_MO_isEntry (w_MO_isEntry :: zw_t) 0 true T_MO_isEntry := by
  refine z_MO_isEntry (by rintro as w post ⟨x, n, rfl, -⟩; simp) ?_
  rintro as w post ⟨x, n, rfl, hn, hp⟩ Go hGo
  refine q_MO_isEntry_0 hGo (hs_br hn (fun h => q_MO_isEntry_16 hGo (q_MO_isEntry_17 hGo ⟨bo0, ?_⟩)) (fun h => q_MO_isEntry_17 hGo ⟨bo1, ?_⟩))
  · rw [h] at hp; exact hp
  · rw [h] at hp; exact hp
/-- b: has a census begun -/
def T_MO_isPoint : ma_T := fun as w post => ∃ x v b, as = [.inr 24, .inl x] ∧ w.1 24 0 = bI b ∧ (b = false → v = 0) ∧ (b = true → w.1 24 1 = nI v) ∧ post (bI (hs x v)) w
theorem i_MO_isPoint {v : Nat} {b : Bool} {x : Int32} {w : ma_W} {post : ma_P} (h0 : w.1 24 0 = bI b) (h1 : b = false → v = 0) (h2 : b = true → w.1 24 1 = nI v) (hp : post (bI (hs x v)) w) : T_MO_isPoint [.inr 24, .inl x] w post := ⟨x, v, b, rfl, h0, h1, h2, hp⟩
theorem hs_0 (x : Int32) : hs x 0 = false := by
  cases h : hs x 0 with
  | false => rfl
  | true =>
    obtain ⟨j, hj, -⟩ := hs_t (by decide) h
    exact absurd hj (Nat.not_lt_zero j)
theorem c_MO_isPoint {l : Launch} : ma_Met l y_MO_isPoint (w_MO_isPoint :: zw_t) 0 true T_MO_isPoint := by
  refine z_MO_isPoint (by rintro as w post ⟨x, v, b, rfl, -⟩; simp) ?_
  rintro as w post ⟨x, v, b, rfl, h0, h1, h2, hp⟩ Go hGo
  have no : hs x v = false → Go 23 [some (.inr 24), some (.inl x)] [] w := fun h => q_MO_isPoint_23 hGo (q_MO_isPoint_24 hGo ⟨bo0, by rw [h] at hp; exact hp⟩)
  refine q_MO_isPoint_0 hGo (bI_at h0 (fun h => no (by rw [h1 h]; exact hs_0 x)) (fun h => hs_br (h2 h) no (fun h9 => q_MO_isPoint_24 hGo ⟨bo1, ?_⟩)))
  rw [h9] at hp
  exact hp
def T_MO_isBlock : ma_T := fun as w post => (∃ x, as = [.inr 24, .inl x] ∧ w.1 24 0 = nI 0 ∧ post (nI 0) w) ∨ ∃ x v k, as = [.inr 24, .inl x] ∧ vk v k ∧ mg v k w ∧ post (bI (isb v k x)) w
theorem c_MO_isBlock {l : Launch} : ma_Met l y_MO_isBlock (w_MO_isBlock :: zw_t) 1 true T_MO_isBlock := by
  refine z_MO_isBlock c_MO_bits (by decide) (by rintro as w post (⟨x, rfl, -⟩ | ⟨x, v, k, rfl, -⟩) <;> simp) ?_
  rintro as w post (⟨x, rfl, h0, hp⟩ | ⟨x, v, k, rfl, hv, hg, hp⟩) Go hGo
  · exact q_MO_isBlock_0 hGo (bI_at (b := false) h0 (fun _ => q_MO_isBlock_36 hGo (q_MO_isBlock_37 hGo ⟨bo0, hp⟩)) (fun h => by cases h))
  · obtain ⟨g0, g1, g2, -⟩ := hg
    have hv6 := hv.2.1
    have h6 := pw64 hv6
    have no : isb v k x = false → Go 36 [some (.inr 24), some (.inl x)] [] w := fun h => q_MO_isBlock_36 hGo (q_MO_isBlock_37 hGo ⟨bo0, by rw [h] at hp; exact hp⟩)
    refine q_MO_isBlock_0 hGo (bI_at (b := true) g0 (fun h => by cases h) (fun _ => hs_br (n := 2 ^ v) (by rw [g1, bi_one v (by omega)]) (fun h => no (by simp [isb, h])) (fun h => ?_)))
    obtain ⟨j, hj, rfl⟩ := hs_t (by omega) h
    have hc := cnt6 v (by omega) j hj
    have hle := cnt_le v j
    refine i_MO_bits (by omega) (pn_ne (pm_cnt 6 j) k (fun h9 => no ?_) (fun h9 => q_MO_isBlock_37 hGo ⟨bo1, ?_⟩) rfl g2 (by omega) (by have := hv.2.2.2; omega))
    · rw [hc] at h9
      simp [isb, nI_clamp (show j < 2 ^ 31 by omega), h9]
    · rw [hc] at h9
      have : isb v k (nI j) = true := by simp [isb, nI_clamp (show j < 2 ^ 31 by omega), h9, h]
      rw [this] at hp
      exact hp
/-- the image of a mask under the first points of a renaming -/
theorem img_app (m q : Nat) : ∀ (s : List Nat) (p : Nat), pm_img (s ++ [q]) p m = pm_img s p m ||| (if m.testBit (p + s.length) = true then 2 ^ q else 0)
  | [], p => by simp [pm_img]
  | a :: s, p => by
    rw [List.cons_append, pm_img, pm_img, img_app m q s (p + 1), Nat.or_assoc, List.length_cons, show p + 1 + s.length = p + (s.length + 1) by omega]
theorem im_take {t : List Nat} {m n : Nat} (h : n < t.length) : pm_im (t.take (n + 1)) m = pm_im (t.take n) m ||| (if m.testBit n = true then 2 ^ (t.getD n 0) else 0) := by
  rw [tk_succ h, pm_im, img_app, Nat.zero_add, tk_len (Nat.le_of_lt h)]
  rfl
theorem pt_64 {v i : Nat} (h3 : 3 ≤ v) (h6 : v ≤ 6) (hi : i < fc v) (n m : Nat) : pm_im ((pi_ v i).take n) m < 64 := by
  have hp := pi_perm h3 h6 hi
  refine pm_im_64 (v := v) ⟨(pm_nd hp).sublist (List.take_sublist _ _), fun x hx => ?_⟩ h6 m
  exact List.mem_range.mp (hp.mem_iff.mp (List.mem_of_mem_take hx))
def T_MO_image : ma_T := fun as w post => ∃ v k m i, as = [.inr 24, .inl (nI m), .inl (nI i)] ∧ vk v k ∧ mg v k w ∧ m < 64 ∧ i < fc v ∧ post (nI (pm_im (pi_ v i) m)) w
theorem i_MO_image {v k m i : Nat} {w : ma_W} {post : ma_P} (hv : vk v k) (hg : mg v k w) (hm : m < 64) (hi : i < fc v) (hp : post (nI (pm_im (pi_ v i) m)) w) : T_MO_image [.inr 24, .inl (nI m), .inl (nI i)] w post := ⟨v, k, m, i, rfl, hv, hg, hm, hi, hp⟩
theorem c_MO_image {l : Launch} : ma_Met l y_MO_image (w_MO_image :: zw_t) 0 true T_MO_image := by
  refine z_MO_image (by rintro as w post ⟨v, k, m, i, rfl, -⟩; simp) ?_
  rintro as w post ⟨v, k, m, i, rfl, hv, hg, hm, hi, hp⟩ Go hGo
  obtain ⟨h3, h6, -, -⟩ := hv
  obtain ⟨g0, g1, g2, g5, g7, g25, g26⟩ := hg
  have hper := pi_perm h3 h6 hi
  have hlen := pm_len hper
  have hfc := fc_le v (by omega)
  have loop : ∀ (d n : Nat), n + d = v → Go 5 [some (.inr 24), some (.inl (nI m)), some (.inl (nI i)), some (.inl (nI (pm_im ((pi_ v i).take n) m))), some (.inl (nI n))] [] w := by
    intro d
    induction d with
    | zero =>
      intro n hd
      refine q_MO_image_5 hGo (pk_le v n (fun _ => q_MO_image_51 hGo ?_) (fun h => absurd h (by omega)) g1 rfl (by omega) (by omega))
      rw [List.take_of_length_le (by omega)]
      exact hp
    | succ d ih =>
      intro n hd
      have hstep := ih (n + 1) (by omega)
      rw [im_take (by omega)] at hstep
      have hlt := pm_lt hper (show n < v by omega)
      refine q_MO_image_5 hGo (pk_le v n (fun h => absurd h (by omega)) (fun _ => ?_) g1 rfl (by omega) (by omega))
      rw [bi_bit m hm n (by omega)]
      by_cases hb : m.testBit n = true
      · rw [if_pos hb] at hstep ⊢
        refine pn_ne 1 1 (fun h => absurd rfl h) (fun _ => ⟨6 * i + n, by omega, by rw [nI_mul, nI_add], q_MO_image_44 hGo ?_⟩)
        have h2 : 2 ^ ((pi_ v i).getD n 0) ≤ 2 ^ 5 := Nat.pow_le_pow_right (by decide) (by omega)
        rw [g26 i hi n (by omega), bi_one _ (by omega), bi_or _ (pt_64 h3 h6 hi n m) _ (by omega), nI_add]
        exact hstep
      · rw [if_neg hb] at hstep ⊢
        refine pn_ne 0 1 (fun _ => q_MO_image_43 hGo (q_MO_image_44 hGo ?_)) (fun h => absurd h (by decide))
        rw [Nat.or_zero] at hstep
        rw [nI_add]
        exact hstep
  exact q_MO_image_0 hGo (loop v 0 (by omega))
