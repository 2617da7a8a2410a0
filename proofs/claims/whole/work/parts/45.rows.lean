/-! CONTRACTS: the reference, how it looks at layings -/
def T_MO_none : ma_T := fun as w post => as = [.inr 24] ∧ ∀ w', fr [] [30] w w' → tm [] w' → post 0 w'
theorem i_MO_none {w : ma_W} {post : ma_P} (hp : ∀ w', fr [] [30] w w' → tm [] w' → post 0 w') : T_MO_none [.inr 24] w post := ⟨rfl, hp⟩
theorem c_MO_none {l : Launch} : ma_Met l y_MO_none (w_MO_none :: zw_t) 0 false T_MO_none := by
  refine z_MO_none (by rintro as w post ⟨rfl, -⟩; simp) ?_
  rintro as w post ⟨rfl, hp⟩ Go hGo
  have loop : ∀ (d n : Nat) (w' : ma_W), n + d = 64 → fr [] [30] w w' → (∀ m, m < n → w'.2.2 30 m = nI 0) → Go 2 [some (.inr 24), some (.inl (nI n))] [] w' := by
    intro d
    induction d with
    | zero =>
      intro n w' hd hf h0
      exact q_MO_none_2 hGo (pk_le 64 n (fun _ => q_MO_none_21 hGo (hp w' hf (fun m hm => h0 m (by omega)))) (fun h => absurd h (by omega)))
    | succ d ih =>
      intro n w' hd hf h0
      refine q_MO_none_2 hGo (pk_le 64 n (fun h => absurd h (by omega)) (fun _ => ⟨n, by omega, rfl, ?_⟩))
      rw [nI_add]
      refine ih (n + 1) _ (by omega) (fr_a hf (by simp) _ _) (fun m hm => ?_)
      by_cases hmn : m = n
      · subst hmn
        exact ma_up_s _ _ _ _
      · exact (ma_up_k _ _ _ _ hmn).trans (h0 m (by omega))
  exact q_MO_none_0 hGo (loop 64 0 w (by omega) (fr_refl _ _ _) (fun m hm => absurd hm (Nat.not_lt_zero m)))
/-- one block more is counted -/
theorem tm_s {xs : List Nat} {n : Nat} {w : ma_W} (hn : n < xs.length) (h : tm (xs.take n) w) : tm (xs.take (n + 1)) (w.1, w.2.1, ma_up w.2.2 30 (xs.getD n 0) (nI ((xs.take n).count (xs.getD n 0) + 1))) := by
  intro m hm
  rw [tk_succ hn, List.count_append]
  by_cases hmn : m = xs.getD n 0
  · subst hmn
    refine (ma_up_s _ _ _ _).trans ?_
    simp
  · refine (ma_up_k _ _ _ _ hmn).trans ?_
    rw [h m hm, List.count_eq_zero.mpr (show m ∉ [xs.getD n 0] from nm1 hmn), Nat.add_zero]
/-- the hand of the reference -/
def mh (xs : List Nat) (w : ma_W) : Prop := xs.length ≤ 10 ∧ w.1 24 13 = nI xs.length ∧ ∀ j, j < xs.length → w.2.2 29 j = nI (xs.getD j 0)
theorem mh_fr {xs : List Nat} {qs : List Nat} {w w' : ma_W} (h : mh xs w) (hf : fr [] qs w w') (h1 : 29 ∉ qs) : mh xs w' := by
  unfold mh
  rw [hf.2.1 24 List.not_mem_nil, hf.2.2 29 h1]
  exact h
def T_MO_lookAtHand : ma_T := fun as w post => ∃ xs, as = [.inr 24] ∧ mh xs w ∧ (∀ x ∈ xs, x < 64) ∧ ∀ w', fr [] [30] w w' → tm xs w' → post 0 w'
theorem i_MO_lookAtHand {xs : List Nat} {w : ma_W} {post : ma_P} (h : mh xs w) (hx : ∀ x ∈ xs, x < 64) (hp : ∀ w', fr [] [30] w w' → tm xs w' → post 0 w') : T_MO_lookAtHand [.inr 24] w post := ⟨xs, rfl, h, hx, hp⟩
theorem gx64 {xs : List Nat} (hx : ∀ x ∈ xs, x < 64) {n : Nat} (hn : n < xs.length) : xs.getD n 0 < 64 := by
  rw [gd_at hn]
  exact hx _ (List.getElem_mem hn)
theorem c_MO_lookAtHand {l : Launch} : ma_Met l y_MO_lookAtHand (w_MO_lookAtHand :: zw_t) 1 false T_MO_lookAtHand := by
  refine z_MO_lookAtHand c_MO_none (by decide) (by rintro as w post ⟨xs, rfl, -⟩; simp) ?_
  rintro as w post ⟨xs, rfl, hh, hx, hp⟩ Go hGo
  have hl := hh.1
  have loop : ∀ (d n : Nat) (w' : ma_W), n + d = xs.length → fr [] [30] w w' → tm (xs.take n) w' → Go 6 [some (.inr 24), some (.inl (nI n))] [] w' := by
    intro d
    induction d with
    | zero =>
      intro n w' hd hf ht
      have hh' := mh_fr hh hf (by decide)
      rw [List.take_of_length_le (by omega)] at ht
      exact q_MO_lookAtHand_6 hGo (pk_le xs.length n (fun _ => q_MO_lookAtHand_35 hGo (hp w' hf ht)) (fun h => absurd h (by omega)) hh'.2.1 rfl (by omega) (by omega))
    | succ d ih =>
      intro n w' hd hf ht
      have hn : n < xs.length := by omega
      have hh' := mh_fr hh hf (by decide)
      have hg := gx64 hx hn
      refine q_MO_lookAtHand_6 hGo (pk_le xs.length n (fun h => absurd h (by omega)) (fun _ => ⟨n, by omega, rfl, xs.getD n 0, hg, hh'.2.2 n hn, xs.getD n 0, hg, hh'.2.2 n hn, ?_⟩) hh'.2.1 rfl (by omega) (by omega))
      rw [ht _ hg, nI_add, nI_add]
      exact ih (n + 1) _ (by omega) (fr_a hf (by simp) _ _) (tm_s hn ht)
  exact q_MO_lookAtHand_0 hGo (i_MO_none (fun w1 f1 t1 => loop xs.length 0 w1 (by omega) f1 (by rw [List.take_zero]; exact t1)))
def T_MO_lookAtEntry : ma_T := fun as w post => ∃ i e, as = [.inr 24, .inl (nI i)] ∧ i < 60 ∧ e.length ≤ 10 ∧ w.1 24 4 = nI e.length ∧ (∀ j, j < e.length → w.2.2 27 (10 * i + j) = nI (e.getD j 0)) ∧ (∀ x ∈ e, x < 64) ∧ ∀ w', fr [] [30] w w' → tm e w' → post 0 w'
theorem i_MO_lookAtEntry {i : Nat} {e : List Nat} {w : ma_W} {post : ma_P} (hi : i < 60) (he : e.length ≤ 10) (h4 : w.1 24 4 = nI e.length) (ha : ∀ j, j < e.length → w.2.2 27 (10 * i + j) = nI (e.getD j 0)) (hx : ∀ x ∈ e, x < 64) (hp : ∀ w', fr [] [30] w w' → tm e w' → post 0 w') : T_MO_lookAtEntry [.inr 24, .inl (nI i)] w post := ⟨i, e, rfl, hi, he, h4, ha, hx, hp⟩
theorem c_MO_lookAtEntry {l : Launch} : ma_Met l y_MO_lookAtEntry (w_MO_lookAtEntry :: zw_t) 1 false T_MO_lookAtEntry := by
  refine z_MO_lookAtEntry c_MO_none (by decide) (by rintro as w post ⟨i, e, rfl, -⟩; simp) ?_
  rintro as w post ⟨i, e, rfl, hi, he, h4, ha, hx, hp⟩ Go hGo
  have loop : ∀ (d n : Nat) (w' : ma_W), n + d = e.length → fr [] [30] w w' → tm (e.take n) w' → Go 6 [some (.inr 24), some (.inl (nI i)), some (.inl (nI n))] [] w' := by
    intro d
    induction d with
    | zero =>
      intro n w' hd hf ht
      rw [List.take_of_length_le (by omega)] at ht
      exact q_MO_lookAtEntry_6 hGo (pk_le e.length n (fun _ => q_MO_lookAtEntry_40 hGo (hp w' hf ht)) (fun h => absurd h (by omega)) (by rw [hf.2.1 24 List.not_mem_nil]; exact h4) rfl (by omega) (by omega))
    | succ d ih =>
      intro n w' hd hf ht
      have hn : n < e.length := by omega
      have hg := gx64 hx hn
      have hv : w'.2.2 27 (10 * i + n) = nI (e.getD n 0) := by rw [hf.2.2 27 (by decide)]; exact ha n hn
      refine q_MO_lookAtEntry_6 hGo (pk_le e.length n (fun h => absurd h (by omega)) (fun _ => ⟨10 * i + n, by omega, by rw [nI_mul, nI_add], e.getD n 0, hg, hv, e.getD n 0, hg, hv, ?_⟩) (by rw [hf.2.1 24 List.not_mem_nil]; exact h4) rfl (by omega) (by omega))
      rw [ht _ hg, nI_add, nI_add]
      exact ih (n + 1) _ (by omega) (fr_a hf (by simp) _ _) (tm_s hn ht)
  exact q_MO_lookAtEntry_0 hGo (i_MO_none (fun w1 f1 t1 => loop e.length 0 w1 (by omega) f1 (by rw [List.take_zero]; exact t1)))
/-- rows compared -/
def cmpv (a b : List Int) : Int32 := if lx_gt a b = true then Int32.ofInt (-1) else if a = b then nI 0 else nI 1
theorem cm_1 : (nI 0 ≤ Int32.ofInt (-1) ↔ False) ∧ (Int32.ofInt (-1) < nI 0 ↔ True) ∧ (Int32.ofInt (-1) = nI 0 ↔ False) ∧ (nI 0 ≤ nI 0 ↔ True) ∧ (nI 0 < nI 0 ↔ False) ∧ (nI 0 ≤ nI 1 ↔ True) ∧ (nI 1 < nI 0 ↔ False) ∧ (nI 1 = nI 0 ↔ False) := by decide +kernel
theorem cmp_ge {a b : List Int} {A B : Prop} (f : lx_gt a b = false → A) (g : lx_gt a b = true → B) : (nI 0 ≤ cmpv a b → A) ∧ (¬ (nI 0 ≤ cmpv a b) → B) := by
  obtain ⟨h1, h2, h3, h4, h5, h6, h7, h8⟩ := cm_1
  unfold cmpv
  by_cases h : lx_gt a b = true
  · rw [if_pos h, h1]
    exact ⟨fun z => z.elim, fun _ => g h⟩
  · rw [if_neg h]
    have hA := f (by simpa using h)
    by_cases he : a = b
    · rw [if_pos he, h4]
      exact ⟨fun _ => hA, fun z => absurd trivial z⟩
    · rw [if_neg he, h6]
      exact ⟨fun _ => hA, fun z => absurd trivial z⟩
theorem cmp_lt {a b : List Int} {A B : Prop} (f : lx_gt a b = true → A) (g : lx_gt a b = false → B) : (cmpv a b < nI 0 → A) ∧ (¬ (cmpv a b < nI 0) → B) := by
  obtain ⟨h1, h2, h3, h4, h5, h6, h7, h8⟩ := cm_1
  unfold cmpv
  by_cases h : lx_gt a b = true
  · rw [if_pos h, h2]
    exact ⟨fun _ => f h, fun z => absurd trivial z⟩
  · rw [if_neg h]
    have hB := g (by simpa using h)
    by_cases he : a = b
    · rw [if_pos he, h5]
      exact ⟨fun z => z.elim, fun _ => hB⟩
    · rw [if_neg he, h7]
      exact ⟨fun z => z.elim, fun _ => hB⟩
theorem cmp_ne {a b : List Int} {A B : Prop} (f : ¬ a = b → A) (g : a = b → B) : (¬ cmpv a b = nI 0 → A) ∧ (¬ (¬ cmpv a b = nI 0) → B) := by
  obtain ⟨h1, h2, h3, h4, h5, h6, h7, h8⟩ := cm_1
  unfold cmpv
  by_cases h : lx_gt a b = true
  · rw [if_pos h, h3]
    have hne : ¬ a = b := fun z => by rw [z, lx_irr] at h; cases h
    exact ⟨fun _ => f hne, fun z => absurd (fun y => y) z⟩
  · rw [if_neg h]
    by_cases he : a = b
    · rw [if_pos he]
      exact ⟨fun z => absurd rfl z, fun _ => g he⟩
    · rw [if_neg he, h8]
      exact ⟨fun _ => f he, fun z => absurd (fun y => y) z⟩
/-- the row behind renaming i -/
def rw_ (v k : Nat) (xs : List Nat) (i : Nat) : List Int := ce_row (fm_K v k) xs (pi_ v i)
theorem rw_at {v k i j : Nat} {xs : List Nat} (hj : j < (fm_K v k).length) : (rw_ v k xs i).getD j 0 = (xs.count (pm_im (pi_ v i) ((fm_K v k).getD j 0)) : Int) := ce_row_at hj
theorem rw_len {v k i : Nat} {xs : List Nat} : (rw_ v k xs i).length = (fm_K v k).length := ce_row_len
def T_MO_compare : ma_T := fun as w post => ∃ v k xs i j, as = [.inr 24, .inl (nI i), .inl (nI j)] ∧ vk v k ∧ mg v k w ∧ tm xs w ∧ xs.length ≤ 2000 ∧ i < fc v ∧ j < fc v ∧ post (cmpv (rw_ v k xs i) (rw_ v k xs j)) w
theorem i_MO_compare {v k i j : Nat} {xs : List Nat} {w : ma_W} {post : ma_P} (hv : vk v k) (hg : mg v k w) (ht : tm xs w) (hx : xs.length ≤ 2000) (hi : i < fc v) (hj : j < fc v) (hp : post (cmpv (rw_ v k xs i) (rw_ v k xs j)) w) : T_MO_compare [.inr 24, .inl (nI i), .inl (nI j)] w post := ⟨v, k, xs, i, j, rfl, hv, hg, ht, hx, hi, hj, hp⟩
theorem c_MO_compare {l : Launch} : ma_Met l y_MO_compare (w_MO_compare :: zw_t) 1 true T_MO_compare := by
  refine z_MO_compare c_MO_image (by decide) (by rintro as w post ⟨v, k, xs, i, j, rfl, -⟩; simp) ?_
  rintro as w post ⟨v, k, xs, i, j, rfl, hv, hg, ht, hx, hi, hj, hp⟩ Go hGo
  obtain ⟨h3, h6, -, -⟩ := id hv
  have h20 := vk_20 hv
  have h25 := hg.2.2.2.2.2.1
  have loop : ∀ (d b : Nat) (o4 o5 : Option ma_V), b + d = (fm_K v k).length → (∀ n, n < b → (rw_ v k xs i).getD n 0 = (rw_ v k xs j).getD n 0) → Go 2 [some (.inr 24), some (.inl (nI i)), some (.inl (nI j)), some (.inl (nI b)), o4, o5] [] w := by
    intro d
    induction d with
    | zero =>
      intro b o4 o5 hd hs
      refine q_MO_compare_2 hGo (pk_le (fm_K v k).length b (fun _ => q_MO_compare_72 hGo ?_) (fun h => absurd h (by omega)) hg.2.2.2.1 rfl (by omega) (by omega))
      have he : rw_ v k xs i = rw_ v k xs j := lx_ext (by rw [rw_len, rw_len]) (fun n hn => hs n (by rw [rw_len] at hn; omega))
      rw [cmpv, he, lx_irr, if_neg (by decide), if_pos rfl] at hp
      exact hp
    | succ d ih =>
      intro b o4 o5 hd hs
      have hb : b < (fm_K v k).length := by omega
      have hm := K_mem hb
      have hm64 := vk_64 hv hm
      have ha := vk_64 hv (fm_K_im (pi_perm h3 h6 hi) hm)
      have hc := vk_64 hv (fm_K_im (pi_perm h3 h6 hj) hm)
      have hl1 : xs.count (pm_im (pi_ v i) ((fm_K v k).getD b 0)) ≤ xs.length := List.count_le_length
      have hl2 : xs.count (pm_im (pi_ v j) ((fm_K v k).getD b 0)) ≤ xs.length := List.count_le_length
      refine q_MO_compare_2 hGo (pk_le (fm_K v k).length b (fun h => absurd h (by omega)) (fun _ => ⟨b, by omega, rfl, ?_⟩) hg.2.2.2.1 rfl (by omega) (by omega))
      rw [h25 b hb]
      refine i_MO_image hv hg hm64 hi ⟨_, ha, rfl, b, by omega, rfl, ?_⟩
      rw [h25 b hb]
      refine i_MO_image hv hg hm64 hj ⟨_, hc, rfl, ?_⟩
      rw [ht _ ha, ht _ hc]
      refine pk_eq _ _ (fun h => q_MO_compare_66 hGo ?_) (fun h => pk_le _ _ (fun h9 => q_MO_compare_64 hGo (q_MO_compare_65 hGo ?_)) (fun h9 => q_MO_compare_65 hGo ?_) rfl rfl (by omega) (by omega)) rfl rfl (by omega) (by omega)
      · rw [nI_add]
        refine ih (b + 1) _ _ (by omega) (fun n hn => ?_)
        by_cases hnb : n = b
        · subst hnb
          rw [rw_at hb, rw_at hb, h]
        · exact hs n (by omega)
      · have hgt : lx_gt (rw_ v k xs j) (rw_ v k xs i) = true := lx_at b _ _ (by rw [rw_len, rw_len]) (fun n hn => (hs n hn).symm) (by rw [rw_len]; exact hb) (by rw [rw_at hb, rw_at hb]; omega)
        have hne : ¬ rw_ v k xs i = rw_ v k xs j := fun z => by rw [z, lx_irr] at hgt; cases hgt
        rw [cmpv, lx_asym hgt, if_neg (by decide), if_neg hne] at hp
        exact hp
      · have hgt : lx_gt (rw_ v k xs i) (rw_ v k xs j) = true := lx_at b _ _ (by rw [rw_len, rw_len]) hs (by rw [rw_len]; exact hb) (by rw [rw_at hb, rw_at hb]; omega)
        rw [cmpv, if_pos hgt] at hp
        exact hp
  exact q_MO_compare_0 hGo (loop (fm_K v k).length 0 _ _ (by omega) (fun n hn => absurd hn (Nat.not_lt_zero n)))
/-- all renamings, by their numbers -/
theorem all_pi {v k : Nat} (hv : vk v k) (P : List Nat → Prop) (h : ∀ i, i < fc v → P (pi_ v i)) : ∀ t, t.Perm (List.range v) → P t := by
  intro t ht
  obtain ⟨i, hi, e⟩ := List.mem_map.mp ((pi_P hv.1 hv.2.1).mem_iff.mpr (pm_P_mem.mpr ht))
  rw [← e]
  exact h i (List.mem_range.mp hi)
def T_MO_leastOne : ma_T := fun as w post => ∃ v k xs, as = [.inr 24] ∧ vk v k ∧ mg v k w ∧ tm xs w ∧ xs.length ≤ 2000 ∧ ∀ b, b < fc v → rw_ v k xs b = sp_max v (fm_K v k) xs → post (nI b) w
theorem i_MO_leastOne {v k : Nat} {xs : List Nat} {w : ma_W} {post : ma_P} (hv : vk v k) (hg : mg v k w) (ht : tm xs w) (hx : xs.length ≤ 2000) (hp : ∀ b, b < fc v → rw_ v k xs b = sp_max v (fm_K v k) xs → post (nI b) w) : T_MO_leastOne [.inr 24] w post := ⟨v, k, xs, rfl, hv, hg, ht, hx, hp⟩
theorem c_MO_leastOne {l : Launch} : ma_Met l y_MO_leastOne (w_MO_leastOne :: zw_t) 2 true T_MO_leastOne := by
  refine z_MO_leastOne c_MO_compare (by decide) (by rintro as w post ⟨v, k, xs, rfl, -⟩; simp) ?_
  rintro as w post ⟨v, k, xs, rfl, hv, hg, ht, hx, hp⟩ Go hGo
  have hv6 := hv.2.1
  have hfc := fc_le v (by omega)
  have hpos := fc_pos v (by omega)
  have h7 := hg.2.2.2.2.1
  have loop : ∀ (d n b : Nat), n + d = fc v → b < fc v → 0 < n → (∀ i, i < n → lx_gt (rw_ v k xs i) (rw_ v k xs b) = false) → Go 4 [some (.inr 24), some (.inl (nI b)), some (.inl (nI n))] [] w := by
    intro d
    induction d with
    | zero =>
      intro n b hd hb hn hs
      refine q_MO_leastOne_4 hGo (pk_le (fc v) n (fun _ => q_MO_leastOne_33 hGo (hp b hb ?_)) (fun h => absurd h (by omega)) h7 rfl (by omega) (by omega))
      exact sp_max_u ⟨pi_ v b, pi_perm hv.1 hv6 hb, rfl⟩ (all_pi hv _ (fun i hi => hs i (by omega)))
    | succ d ih =>
      intro n b hd hb hn hs
      refine q_MO_leastOne_4 hGo (pk_le (fc v) n (fun h => absurd h (by omega)) (fun _ => i_MO_compare hv hg ht hx (by omega) hb (cmp_ge (fun h => q_MO_leastOne_25 hGo (q_MO_leastOne_26 hGo ?_)) (fun h => q_MO_leastOne_26 hGo ?_))) h7 rfl (by omega) (by omega))
      · rw [nI_add]
        refine ih (n + 1) b (by omega) hb (by omega) (fun i hi => ?_)
        by_cases hin : i = n
        · subst hin; exact h
        · exact hs i (by omega)
      · rw [nI_add]
        refine ih (n + 1) n (by omega) (by omega) (by omega) (fun i hi => ?_)
        by_cases hin : i = n
        · subst hin; exact lx_irr _
        · cases hq : lx_gt (rw_ v k xs i) (rw_ v k xs n) with
          | false => rfl
          | true =>
            have := lx_trans _ _ _ hq h
            rw [hs i (by omega)] at this
            cases this
  exact q_MO_leastOne_0 hGo (loop (fc v - 1) 1 0 (by omega) hpos (by decide) (fun i hi => by
    obtain rfl : i = 0 := by omega
    exact lx_irr _))
theorem rw_0 {v k : Nat} {xs : List Nat} (hv : vk v k) : rw_ v k xs 0 = ce_row (fm_K v k) xs (List.range v) := by
  unfold rw_
  rw [pi_0 v (by have := hv.2.1; omega)]
def T_MO_isLeast : ma_T := fun as w post => ∃ v k xs, as = [.inr 24] ∧ vk v k ∧ mg v k w ∧ tm xs w ∧ xs.length ≤ 2000 ∧ post (bI (ce_isf v (fm_K v k) xs)) w
theorem i_MO_isLeast {v k : Nat} {xs : List Nat} {w : ma_W} {post : ma_P} (hv : vk v k) (hg : mg v k w) (ht : tm xs w) (hx : xs.length ≤ 2000) (hp : post (bI (ce_isf v (fm_K v k) xs)) w) : T_MO_isLeast [.inr 24] w post := ⟨v, k, xs, rfl, hv, hg, ht, hx, hp⟩
theorem c_MO_isLeast {l : Launch} : ma_Met l y_MO_isLeast (w_MO_isLeast :: zw_t) 2 true T_MO_isLeast := by
  refine z_MO_isLeast c_MO_compare (by decide) (by rintro as w post ⟨v, k, xs, rfl, -⟩; simp) ?_
  rintro as w post ⟨v, k, xs, rfl, hv, hg, ht, hx, hp⟩ Go hGo
  have hv6 := hv.2.1
  have hfc := fc_le v (by omega)
  have hpos := fc_pos v (by omega)
  have h7 := hg.2.2.2.2.1
  have bad : ∀ i, i < fc v → lx_gt (rw_ v k xs i) (rw_ v k xs 0) = true → ce_isf v (fm_K v k) xs = false := by
    intro i hi h
    cases hq : ce_isf v (fm_K v k) xs with
    | false => rfl
    | true =>
      have := ce_isf_iff.mp hq (pi_ v i) (pi_perm hv.1 hv6 hi)
      rw [← rw_0 hv] at this
      rw [show lx_gt (ce_row (fm_K v k) xs (pi_ v i)) (rw_ v k xs 0) = true from h] at this
      cases this
  have loop : ∀ (d n : Nat) (g : Bool), n + d = fc v → (g = true → ∀ i, i < n → lx_gt (rw_ v k xs i) (rw_ v k xs 0) = false) → (g = false → ce_isf v (fm_K v k) xs = false) → Go 4 [some (.inr 24), some (.inl (bI g)), some (.inl (nI n))] [] w := by
    intro d
    induction d with
    | zero =>
      intro n g hd h1 h2
      refine q_MO_isLeast_4 hGo (pk_le (fc v) n (fun _ => q_MO_isLeast_37 hGo ⟨bI_bo g, ?_⟩) (fun h => absurd h (by omega)) h7 rfl (by omega) (by omega))
      cases g with
      | false => rw [h2 rfl] at hp; exact hp
      | true =>
        have : ce_isf v (fm_K v k) xs = true := ce_isf_iff.mpr (all_pi hv _ (fun i hi => by
          have := h1 rfl i (by omega)
          rw [rw_0 hv] at this
          exact this))
        rw [this] at hp
        exact hp
    | succ d ih =>
      intro n g hd h1 h2
      refine q_MO_isLeast_4 hGo (pk_le (fc v) n (fun h => absurd h (by omega)) (fun _ => bI_eq (fun hgf => q_MO_isLeast_37 hGo ⟨bI_bo g, ?_⟩) (fun hgt => i_MO_compare hv hg ht hx (by omega) hpos (cmp_lt (fun h => q_MO_isLeast_29 hGo (q_MO_isLeast_30 hGo ?_)) (fun h => q_MO_isLeast_30 hGo ?_)))) h7 rfl (by omega) (by omega))
      · rw [h2 hgf] at hp
        rw [hgf]
        exact hp
      · rw [nI_add]
        exact ih (n + 1) false (by omega) (fun z => by cases z) (fun _ => bad n (by omega) h)
      · rw [nI_add]
        refine ih (n + 1) true (by omega) (fun _ i hi => ?_) (fun z => by cases z)
        by_cases hin : i = n
        · subst hin; exact h
        · exact h1 hgt i (by omega)
  exact q_MO_isLeast_0 hGo (loop (fc v - 1) 1 true (by omega) (fun _ i hi => by
    obtain rfl : i = 0 := by omega
    exact lx_irr _) (fun z => by cases z))
def T_MO_keepers : ma_T := fun as w post => ∃ v k xs, as = [.inr 24] ∧ vk v k ∧ mg v k w ∧ tm xs w ∧ xs.length ≤ 2000 ∧ post (nI (ce_ord v k xs)) w
theorem i_MO_keepers {v k : Nat} {xs : List Nat} {w : ma_W} {post : ma_P} (hv : vk v k) (hg : mg v k w) (ht : tm xs w) (hx : xs.length ≤ 2000) (hp : post (nI (ce_ord v k xs)) w) : T_MO_keepers [.inr 24] w post := ⟨v, k, xs, rfl, hv, hg, ht, hx, hp⟩
theorem ord_pi {v k : Nat} {xs : List Nat} (hv : vk v k) : ce_ord v k xs = (List.range (fc v)).countP (fun i => rw_ v k xs i == rw_ v k xs 0) := by
  unfold ce_ord fm_ord
  rw [← (pi_P hv.1 hv.2.1).countP_eq, List.countP_map, rw_0 hv]
  rfl
theorem c_MO_keepers {l : Launch} : ma_Met l y_MO_keepers (w_MO_keepers :: zw_t) 2 true T_MO_keepers := by
  refine z_MO_keepers c_MO_compare (by decide) (by rintro as w post ⟨v, k, xs, rfl, -⟩; simp) ?_
  rintro as w post ⟨v, k, xs, rfl, hv, hg, ht, hx, hp⟩ Go hGo
  have hv6 := hv.2.1
  have hfc := fc_le v (by omega)
  have hpos := fc_pos v (by omega)
  have h7 := hg.2.2.2.2.1
  rw [ord_pi hv] at hp
  have loop : ∀ (d n : Nat), n + d = fc v → Go 4 [some (.inr 24), some (.inl (nI ((List.range n).countP (fun i => rw_ v k xs i == rw_ v k xs 0)))), some (.inl (nI n))] [] w := by
    intro d
    induction d with
    | zero =>
      intro n hd
      refine q_MO_keepers_4 hGo (pk_le (fc v) n (fun _ => q_MO_keepers_35 hGo ?_) (fun h => absurd h (by omega)) h7 rfl (by omega) (by omega))
      rw [show n = fc v by omega]
      exact hp
    | succ d ih =>
      intro n hd
      have hstep := ih (n + 1) (by omega)
      rw [List.range_succ, List.countP_append, List.countP_singleton] at hstep
      refine q_MO_keepers_4 hGo (pk_le (fc v) n (fun h => absurd h (by omega)) (fun _ => i_MO_compare hv hg ht hx (by omega) hpos (cmp_ne (fun h => q_MO_keepers_27 hGo (q_MO_keepers_28 hGo ?_)) (fun h => q_MO_keepers_28 hGo ?_))) h7 rfl (by omega) (by omega))
      · rw [if_neg (fun z => h (beq_iff_eq.mp z)), Nat.add_zero] at hstep
        rw [nI_add]
        exact hstep
      · rw [if_pos (beq_iff_eq.mpr h)] at hstep
        rw [nI_add, nI_add]
        exact hstep
  exact q_MO_keepers_0 hGo (loop (fc v) 0 (by omega))
