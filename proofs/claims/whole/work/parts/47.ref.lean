/-! CONTRACTS: the reference, its state; begin -/
/-- the list of the reference -/
def ml (v k : Nat) (n : Nat) (es : List (List Nat)) (w : ma_W) : Prop := es.length ≤ 60 ∧ n ≤ 10 ∧ w.1 24 4 = nI n ∧ w.1 24 9 = nI es.length ∧ ∀ i, i < es.length → (es.getD i []).length = n ∧ (∀ x ∈ es.getD i [], x ∈ fm_K v k) ∧ ∀ j, j < n → w.2.2 27 (10 * i + j) = nI ((es.getD i []).getD j 0)
theorem ml_fr {v k n : Nat} {es : List (List Nat)} {qs : List Nat} {w w' : ma_W} (h : ml v k n es w) (hf : fr [] qs w w') (h1 : 27 ∉ qs) : ml v k n es w' := by
  unfold ml
  rw [hf.2.1 24 List.not_mem_nil, hf.2.2 27 h1]
  exact h
/-- how the reference holds the state -/
def MI (c : cs_) (xs : List Nat) (w : ma_W) : Prop := mh xs w ∧ match c with
  | none => xs = [] ∧ w.1 24 0 = nI 0 ∧ w.1 24 4 = nI 0 ∧ w.1 24 9 = nI 0
  | some (v, k, lam, n) => vk v k ∧ (1 ≤ lam ∧ lam ≤ 4) ∧ w.1 24 3 = nI lam ∧ mg v k w ∧ ml v k n (ce_L v k lam n) w ∧ ∀ x ∈ xs, x ∈ fm_K v k
/-- only scratch has changed -/
theorem MI_fr {c : cs_} {xs : List Nat} {qs : List Nat} {w w' : ma_W} (h : MI c xs w) (hf : fr [] qs w w') (h1 : 25 ∉ qs) (h2 : 26 ∉ qs) (h3 : 27 ∉ qs) (h4 : 29 ∉ qs) : MI c xs w' := by
  obtain ⟨a1, a2⟩ := h
  refine ⟨mh_fr a1 hf h4, ?_⟩
  match c, a2 with
  | none, ⟨b1, b2, b3, b4⟩ =>
    rw [← hf.2.1 24 List.not_mem_nil] at b2 b3 b4
    exact ⟨b1, b2, b3, b4⟩
  | some (v, k, lam, n), ⟨b1, b2, b3, b4, b5, b6⟩ =>
    rw [← hf.2.1 24 List.not_mem_nil] at b3
    exact ⟨b1, b2, b3, mg_fr b4 hf h1 h2, ml_fr b5 hf h3, b6⟩
/-- the places of the component are not touched -/
def frM (w w' : ma_W) : Prop := w'.2.1 = w.2.1 ∧ (∀ p, p < 24 → w'.1 p = w.1 p) ∧ ∀ q, q < 25 → w'.2.2 q = w.2.2 q
theorem frM_refl (w : ma_W) : frM w w := ⟨rfl, fun _ _ => rfl, fun _ _ => rfl⟩
theorem frM_of {ps qs : List Nat} {w w' : ma_W} (h : fr ps qs w w') (h1 : ∀ p ∈ ps, 24 ≤ p) (h2 : ∀ q ∈ qs, 25 ≤ q) : frM w w' := ⟨h.1, fun p hp => h.2.1 p (fun z => by have := h1 p z; omega), fun q hq => h.2.2 q (fun z => by have := h2 q z; omega)⟩
theorem frM_trans {w w' w'' : ma_W} (h : frM w w') (g : frM w' w'') : frM w w'' := ⟨g.1.trans h.1, fun p hp => (g.2.1 p hp).trans (h.2.1 p hp), fun q hq => (g.2.2 q hq).trans (h.2.2 q hq)⟩
theorem MI_c {c : cs_} {xs : List Nat} {w : ma_W} (h : MI c xs w) : w.1 24 9 = nI (es_ c).length ∧ w.1 24 4 = nI (lv c) ∧ (es_ c).length ≤ 60 ∧ lv c ≤ 10 ∧ vv c ≤ 6 := by
  obtain ⟨-, h3⟩ := h
  match c, h3 with
  | none, ⟨_, _, g3, g4⟩ => exact ⟨g4, g3, by decide, by decide, by decide⟩
  | some (v, k, lam, n), ⟨g1, _, _, _, g5, _⟩ => exact ⟨g5.2.2.2.1, g5.2.2.1, g5.1, g5.2.1, g1.2.1⟩
theorem MI_e {c : cs_} {xs : List Nat} {w : ma_W} {j : Nat} (h : MI c xs w) (hj : j < (es_ c).length) : ∃ v k lam n, c = some (v, k, lam, n) ∧ vk v k ∧ (1 ≤ lam ∧ lam ≤ 4) ∧ w.1 24 3 = nI lam ∧ mg v k w ∧ ml v k n (ce_L v k lam n) w ∧ j < (ce_L v k lam n).length := by
  obtain ⟨-, h3⟩ := h
  match c, h3, hj with
  | none, _, hj => exact absurd hj (Nat.not_lt_zero j)
  | some (v, k, lam, n), ⟨g1, g2, g3, g4, g5, g6⟩, hj => exact ⟨v, k, lam, n, rfl, g1, g2, g3, g4, g5, hj⟩
/-- an entry is looked at -/
theorem ml_at {v k n i : Nat} {es : List (List Nat)} {w : ma_W} (hv : vk v k) (h : ml v k n es w) (hi : i < es.length) : i < 60 ∧ (es.getD i []).length ≤ 10 ∧ w.1 24 4 = nI (es.getD i []).length ∧ (∀ j, j < (es.getD i []).length → w.2.2 27 (10 * i + j) = nI ((es.getD i []).getD j 0)) ∧ (∀ x ∈ es.getD i [], x < 64) ∧ ∀ x ∈ es.getD i [], x ∈ fm_K v k := by
  obtain ⟨h1, h2, h3, h4, h5⟩ := h
  obtain ⟨g1, g2, g3⟩ := h5 i hi
  exact ⟨by omega, by omega, by rw [g1]; exact h3, fun j hj => g3 j (by omega), K64 hv g2, g2⟩
/-- the kinds below M stand in the reference -/
def mk_ (v k M : Nat) (w : ma_W) : Prop := w.1 24 5 = nI (kb v k M).length ∧ ∀ j, j < (kb v k M).length → w.2.2 25 j = nI ((kb v k M).getD j 0)
def T_MO_layOut : ma_T := fun as w post => ∃ v k, as = [.inr 24] ∧ vk v k ∧ w.1 24 0 = nI 1 ∧ w.1 24 1 = nI v ∧ w.1 24 2 = nI k ∧ ∀ w', fr [24] [25, 26] w w' → (∀ j, j ≠ 5 → j ≠ 7 → w'.1 24 j = w.1 24 j) → mg v k w' → post 0 w'
theorem i_MO_layOut {v k : Nat} {w : ma_W} {post : ma_P} (hv : vk v k) (h0 : w.1 24 0 = nI 1) (h1 : w.1 24 1 = nI v) (h2 : w.1 24 2 = nI k) (hp : ∀ w', fr [24] [25, 26] w w' → (∀ j, j ≠ 5 → j ≠ 7 → w'.1 24 j = w.1 24 j) → mg v k w' → post 0 w') : T_MO_layOut [.inr 24] w post := ⟨v, k, rfl, hv, h0, h1, h2, hp⟩
theorem c_MO_layOut {l : Launch} : ma_Met l y_MO_layOut (w_MO_layOut :: zw_t) 1 false T_MO_layOut := by
  refine z_MO_layOut c_MO_bits (by decide) c_MO_rename (by decide) (by rintro as w post ⟨v, k, rfl, -⟩; simp) ?_
  rintro as w post ⟨v, k, rfl, hv, h0, h1, h2, hp⟩ Go hGo
  obtain ⟨hv3, hv6, hk2, hkv⟩ := id hv
  have h6 := pw64 hv6
  have h20 := vk_20 hv
  have hfc := fc_le v (by omega)
  have hK := fun (w' : ma_W) (hk : ∀ j, j ≠ 5 → j ≠ 7 → w'.1 24 j = w.1 24 j) => (show w'.1 24 1 = nI v ∧ w'.1 24 2 = nI k ∧ w'.1 24 0 = nI 1 from ⟨by rw [hk 1 (by decide) (by decide)]; exact h1, by rw [hk 2 (by decide) (by decide)]; exact h2, by rw [hk 0 (by decide) (by decide)]; exact h0⟩)
  have loop3 : ∀ (d i : Nat) (w' : ma_W), i + d = fc v → fr [24] [25, 26] w w' → (∀ j, j ≠ 5 → j ≠ 7 → w'.1 24 j = w.1 24 j) → mk_ v k (2 ^ v) w' → w'.1 24 7 = nI (fc v) → (∀ a, a < i → ∀ p, p < v → w'.2.2 26 (6 * a + p) = nI ((pi_ v a).getD p 0)) → Go 87 [some (.inr 24), some (.inl (nI i))] [] w' := by
    intro d
    induction d with
    | zero =>
      intro i w' hd hf hk hm h7 ha
      obtain ⟨k1, k2, k0⟩ := hK w' hk
      exact q_MO_layOut_87 hGo (pk_le (fc v) i (fun _ => q_MO_layOut_106 hGo (hp w' hf hk ⟨k0, k1, k2, hm.1, h7, hm.2, fun a h9 => ha a (by omega)⟩)) (fun h => absurd h (by omega)) h7 rfl (by omega) (by omega))
    | succ d ih =>
      intro i w' hd hf hk hm h7 ha
      obtain ⟨k1, k2, k0⟩ := hK w' hk
      refine q_MO_layOut_87 hGo (pk_le (fc v) i (fun h => absurd h (by omega)) (fun _ => i_MO_rename hv3 hv6 (by omega) k1 (fun w2 f2 r1 r2 => ?_)) h7 rfl (by omega) (by omega))
      rw [nI_add]
      have e24 : w2.1 24 = w'.1 24 := f2.2.1 24 List.not_mem_nil
      refine ih (i + 1) w2 (by omega) (fr_trans hf (fr_mono f2 (fun _ h => absurd h List.not_mem_nil) (fun x h => by rw [List.mem_singleton.mp h]; decide))) (fun j h5 h7 => by rw [e24]; exact hk j h5 h7) ⟨by rw [e24]; exact hm.1, fun j hj => by rw [f2.2.2 25 (by decide)]; exact hm.2 j hj⟩ (by rw [e24]; exact h7) (fun a h9 p hp2 => ?_)
      by_cases hai : a = i
      · subst hai; exact r1 p hp2
      · rw [r2 _ (by omega)]; exact ha a (by omega) p hp2
  have loop2 : ∀ (d n : Nat) (w' : ma_W), n + 1 + d = v + 1 → fr [24] [25, 26] w w' → (∀ j, j ≠ 5 → j ≠ 7 → w'.1 24 j = w.1 24 j) → mk_ v k (2 ^ v) w' → w'.1 24 7 = nI (fc n) → Go 61 [some (.inr 24), some (.inl (nI (n + 1)))] [] w' := by
    intro d
    induction d with
    | zero =>
      intro n w' hd hf hk hm h7
      obtain ⟨k1, k2, k0⟩ := hK w' hk
      obtain rfl : n = v := by omega
      exact q_MO_layOut_61 hGo (pk_lt n (n + 1) (fun _ => q_MO_layOut_85 hGo (loop3 (fc n) 0 w' (by omega) hf hk hm h7 (fun a h9 => absurd h9 (Nat.not_lt_zero a)))) (fun h => absurd h (by omega)) k1 rfl (by omega) (by omega))
    | succ d ih =>
      intro n w' hd hf hk hm h7
      obtain ⟨k1, k2, k0⟩ := hK w' hk
      refine q_MO_layOut_61 hGo (pk_lt v (n + 1) (fun h => absurd h (by omega)) (fun _ => ?_) k1 rfl (by omega) (by omega))
      rw [h7, nI_mul, nI_add]
      refine ih (n + 1) _ (by omega) (fr_f hf (by decide) 7 _) (fun j h5 h7 => ?_) ⟨?_, hm.2⟩ rfl
      · exact (ma_up_k _ _ _ _ h7).trans (hk j h5 h7)
      · exact (show ma_up w'.1 24 7 (nI (fc n * (n + 1))) 24 5 = _ from (ma_up_k _ _ _ _ (by decide)).trans hm.1)
  have loop1 : ∀ (d M : Nat) (w' : ma_W), M + d = 2 ^ v → fr [24] [25, 26] w w' → (∀ j, j ≠ 5 → j ≠ 7 → w'.1 24 j = w.1 24 j) → mk_ v k M w' → Go 7 [some (.inr 24), some (.inl (nI M))] [] w' := by
    intro d
    induction d with
    | zero =>
      intro M w' hd hf hk hm
      obtain ⟨k1, k2, k0⟩ := hK w' hk
      obtain rfl : M = 2 ^ v := by omega
      refine q_MO_layOut_7 hGo (pk_le (2 ^ v) (2 ^ v) (fun _ => q_MO_layOut_54 hGo (loop2 (v - 1) 1 _ (by omega) (fr_f hf (by decide) 7 _) (fun j h5 h7 => ?_) ⟨?_, hm.2⟩ rfl)) (fun h => absurd h (by omega)) (by rw [k1, bi_one v (by omega)]) rfl (by omega) (by omega))
      · exact (ma_up_k _ _ _ _ h7).trans (hk j h5 h7)
      · exact (show ma_up w'.1 24 7 (nI 1) 24 5 = _ from (ma_up_k _ _ _ _ (by decide)).trans hm.1)
    | succ d ih =>
      intro M w' hd hf hk hm
      obtain ⟨k1, k2, k0⟩ := hK w' hk
      have hM : M < 2 ^ v := by omega
      have hc := cnt6 v (by omega) M hM
      have hle := cnt_le v M
      have hs1 := kb_s v k M
      have hle1 := kb_le hv (show M + 1 ≤ 2 ^ v by omega)
      have next : ∀ w'' : ma_W, fr [24] [25, 26] w w'' → (∀ j, j ≠ 5 → j ≠ 7 → w''.1 24 j = w.1 24 j) → mk_ v k (M + 1) w'' → Go 48 [some (.inr 24), some (.inl (nI M))] [] w'' := by
        intro w'' a1 a2 a3
        refine q_MO_layOut_48 hGo ?_
        rw [nI_add]
        exact ih (M + 1) w'' (by omega) a1 a2 a3
      refine q_MO_layOut_7 hGo (pk_le (2 ^ v) M (fun h => absurd h (by omega)) (fun _ => i_MO_bits (by omega) (pn_ne (pm_cnt 6 M) k (fun h => next w' hf hk ?_) (fun h => ?_) rfl k2 (by omega) (by omega))) (by rw [k1, bi_one v (by omega)]) rfl (by omega) (by omega))
      · unfold mk_
        rw [hs1, if_neg (by omega), List.append_nil]
        exact hm
      · rw [if_pos (by omega)] at hs1
        have hl : (kb v k (M + 1)).length = (kb v k M).length + 1 := by rw [hs1, List.length_append]; rfl
        refine ⟨(kb v k M).length, by omega, hm.1, next _ (fr_a (fr_f hf (by decide) 5 _) (by decide) _ _) (fun j h5 h7 => ?_) ⟨?_, fun j hj => ?_⟩⟩
        · exact (ma_up_k _ _ _ _ h5).trans (hk j h5 h7)
        · show w'.1 24 5 + nI 1 = _
          rw [hm.1, nI_add, hl]
        · rw [hl] at hj
          rw [hs1]
          by_cases hj2 : j = (kb v k M).length
          · subst hj2
            rw [gd_app_r]
            exact ma_up_s _ _ _ _
          · rw [gd_app_l (by omega)]
            exact (ma_up_k _ _ _ _ hj2).trans (hm.2 j (by omega))
  refine q_MO_layOut_0 hGo (loop1 (2 ^ v) 0 _ (by omega) (fr_f (fr_refl _ _ _) (by decide) 5 _) (fun j h5 h7 => ma_up_k _ _ _ _ h5) ⟨rfl, fun j hj => absurd hj (Nat.not_lt_zero j)⟩)
def T_MO_begin : ma_T := fun as w post => ∃ c xs x y z, as = [.inr 24, .inl x, .inl y, .inl z] ∧ MI c xs w ∧ ∀ w', MI (N_begin c x y z) (N_beginX xs x y z) w' → frM w w' → post (A_begin x y z) w'
theorem bd_fin : (List.range 7).all (fun v => (List.range v).all (fun k => (List.range 5).all (fun lam => decide (k < 2) || (decide (lam * (v - 1) / (k - 1) * (k - 1) = lam * (v - 1)) == decide ((lam * (v - 1)) % (k - 1) = 0))))) = true := by decide +kernel
theorem bd_eq {v k lam : Nat} (hv : vk v k) (hl : lam ≤ 4) : lam * (v - 1) / (k - 1) * (k - 1) = lam * (v - 1) ↔ (lam * (v - 1)) % (k - 1) = 0 := by
  obtain ⟨h1, h2, h3, h4⟩ := hv
  have h := List.all_eq_true.mp (List.all_eq_true.mp (List.all_eq_true.mp bd_fin v (List.mem_range.mpr (by omega))) k (List.mem_range.mpr h4)) lam (List.mem_range.mpr (by omega))
  rw [decide_eq_false (show ¬ k < 2 by omega), Bool.false_or, beq_iff_eq] at h
  exact decide_eq_decide.mp h
theorem c_MO_begin {l : Launch} : ma_Met l y_MO_begin (w_MO_begin :: zw_t) 2 true T_MO_begin := by
  refine z_MO_begin c_MO_layOut (by decide) (by rintro as w post ⟨c, xs, x, y, z, rfl, -⟩; simp) ?_
  rintro as w post ⟨c, xs, x, y, z, rfl, hM, hp⟩ Go hGo
  have no : okb x y z = false → ∀ o4 o5, Go 33 [some (.inr 24), some (.inl x), some (.inl y), some (.inl z), o4, o5] [] w := by
    intro h o4 o5
    refine q_MO_begin_33 hGo ?_
    rw [N_begin, N_beginX, A_begin, if_neg (by rw [h]; decide), if_neg (by rw [h]; decide), if_neg (by rw [h]; decide)] at hp
    exact hp w hM (frM_refl w)
  have yes : okb x y z = true → ∀ o4 o5, Go 36 [some (.inr 24), some (.inl x), some (.inl y), some (.inl z), o4, o5] [] w := by
    intro h o4 o5
    rw [N_begin, N_beginX, A_begin, if_pos h, if_pos h, if_pos h] at hp
    obtain ⟨v, k, lam, hv, hl1, hl4, rfl, rfl, rfl⟩ := okb_t h
    obtain ⟨hv1, hv2, hk1, hk2⟩ := id hv
    rw [nI_clamp (by omega), nI_clamp (by omega), nI_clamp (by omega)] at hp
    have hb1 : lam * (v - 1) ≤ 4 * 5 := Nat.mul_le_mul hl4 (by omega)
    have hb2 : lam * (v - 1) / (k - 1) ≤ 20 := Nat.le_trans (Nat.div_le_self _ _) hb1
    have hb3 : v * (lam * (v - 1) / (k - 1)) ≤ 6 * 20 := Nat.mul_le_mul hv2 hb2
    have hb4 : v * (lam * (v - 1) / (k - 1)) / k ≤ 120 := Nat.le_trans (Nat.div_le_self _ _) hb3
    have hb5 : lam * (v - 1) / (k - 1) * (k - 1) ≤ lam * (v - 1) := Nat.div_mul_le_self _ _
    have hm2 : (v * (lam * (v - 1) / (k - 1))) % k ≤ v * (lam * (v - 1) / (k - 1)) := Nat.mod_le _ _
    have hk0 : ¬ nI (k - 1) = 0 := nI_ne0 (by omega) (by omega)
    have hk9 : ¬ nI k = 0 := nI_ne0 (by omega) (by omega)
    refine q_MO_begin_36 hGo ⟨bo1, i_MO_layOut hv rfl rfl rfl (fun w1 f1 k1 g1 => ?_)⟩
    have e1 : w1.1 24 1 = nI v := g1.2.1
    have e2 : w1.1 24 2 = nI k := g1.2.2.1
    have e3 : w1.1 24 3 = nI lam := k1 3 (by decide) (by decide)
    have hMI : MI (some (v, k, lam, 0)) [] w1 := by
      refine ⟨⟨by decide, k1 13 (by decide) (by decide), fun j hj => absurd hj (Nat.not_lt_zero j)⟩, hv, ⟨hl1, hl4⟩, e3, g1, ⟨by show 1 ≤ 60; decide, by decide, k1 4 (by decide) (by decide), k1 9 (by decide) (by decide), fun i hi => ?_⟩, fun x h => absurd h List.not_mem_nil⟩
      obtain rfl : i = 0 := by
        have : i < 1 := hi
        omega
      exact ⟨rfl, fun x h => absurd h List.not_mem_nil, fun j hj => absurd hj (Nat.not_lt_zero j)⟩
    have hfrM : frM w w1 := by
      refine frM_trans (w' := (ma_up (ma_up (ma_up (ma_up (ma_up (ma_up (ma_up w.1 24 0 (nI 1)) 24 1 (nI v)) 24 2 (nI k)) 24 3 (nI lam)) 24 4 (nI 0)) 24 9 (nI 1)) 24 13 (nI 0), w.2.1, w.2.2)) ?_ (frM_of f1 (by decide) (by decide))
      exact frM_of (fr_f (fr_f (fr_f (fr_f (fr_f (fr_f (fr_f (fr_refl [24] [] w) (by decide) 0 _) (by decide) 1 _) (by decide) 2 _) (by decide) 3 _) (by decide) 4 _) (by decide) 9 _) (by decide) 13 _) (by decide) (by decide)
    have hpp := hp w1 hMI hfrM
    rw [e1, e2, e3, pk_sub (show 1 ≤ v by omega), pk_sub (show 1 ≤ k by omega), nI_mul, pk_div (by omega) (by omega) (by omega), nI_mul, nI_mul]
    refine ⟨hk0, ?_⟩
    have frac : ∀ o5 : Option ma_V, ¬ ((lam * (v - 1)) % (k - 1) = 0 ∧ (v * (lam * (v - 1) / (k - 1))) % k = 0) → post (Int32.ofInt (-3)) w1 := by
      intro o5 h
      rw [A_bd, if_neg h] at hpp
      exact hpp
    refine pn_ne _ _ (fun h9 => q_MO_begin_128 hGo (frac none (fun z => h9 ((bd_eq hv hl4).mpr z.1)))) (fun h9 => ?_) rfl rfl (by omega) (by omega)
    refine ⟨hk9, ?_⟩
    rw [pk_rem (by omega) (by omega) (by omega)]
    refine pk_eq _ 0 (fun h8 => q_MO_begin_131 hGo ?_) (fun h8 => q_MO_begin_128 hGo (frac none (fun z => h8 z.2))) rfl rfl (by omega) (by omega)
    rw [A_bd, if_pos ⟨(bd_eq hv hl4).mp h9, h8⟩] at hpp
    rw [e1, e2, nI_mul, pk_div (by omega) (by omega) (by omega)]
    refine ⟨hk9, pk_le _ _ (fun h7 => q_MO_begin_155 hGo ?_) (fun h7 => q_MO_begin_167 hGo ?_) rfl rfl (by omega) (by omega)⟩
    · rw [e1, e2, nI_mul, pk_div (by omega) (by omega) (by omega)]
      refine ⟨hk9, q_MO_begin_167 hGo ?_⟩
      rw [if_neg (by omega)] at hpp
      exact hpp
    · rw [if_pos h7] at hpp
      exact hpp
  refine q_MO_begin_0 hGo ⟨fun h => no ?_ _ _, fun h1 => ⟨fun h => no ?_ _ _, fun h2 => ⟨fun h => no ?_ _ _, fun h3 => ⟨fun h => no ?_ _ _, fun h4 => ⟨fun h => no ?_ _ _, fun h5 => ⟨fun h6 => yes ?_ _ _, fun h => no ?_ _ _⟩⟩⟩⟩⟩⟩
  · simp [okb, h]
  · have h9 : ¬ x ≤ nI 6 := Int32.not_le.mpr h
    simp [okb, h9]
  · simp [okb, h]
  · simp [okb, h]
  · simp [okb, h]
  · simp only [okb, Bool.and_eq_true, decide_eq_true_eq]
    exact ⟨h1, Int32.not_lt.mp h2, h3, h4, h5, h6⟩
  · simp [okb, h]
