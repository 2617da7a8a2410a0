/-! CONTRACTS: Former, what it is asked -/
/-- how often the blocks come: all together as many as there are -/
theorem cs_all {K xs : List Nat} (hn : K.Nodup) (hx : ∀ x ∈ xs, x ∈ K) : (K.map (fun m => xs.count m)).sum = xs.length := by
  have h := ct_swap (fun t x => t == x) xs K
  have e1 : K.map (fun x => xs.countP (fun t => t == x)) = K.map (fun m => xs.count m) := rfl
  rw [e1] at h
  rw [h, ct_const xs _ 1 (fun t ht => ct_one hn (hx t ht) (by simp) (fun b _ hb => (beq_iff_eq.mp hb).symm)), Nat.mul_one]
theorem K_perm {v k : Nat} {t : List Nat} (ht : t.Perm (List.range v)) : ((fm_K v k).map (pm_im t)).Perm (fm_K v k) := by
  refine pm_mapP (fm_K_nodup v k) (fun a ha => fm_K_im ht ha) (fun a ha b hb e => ?_) (fun b hb => ⟨pm_im (pm_i v t) b, fm_K_im (pm_i_perm ht) hb, pm_im_inv2 ht (fm_K_mem.mp hb).1⟩)
  rw [← pm_im_inv ht (fm_K_mem.mp ha).1, e, pm_im_inv ht (fm_K_mem.mp hb).1]
theorem cs_row {v k : Nat} {t xs : List Nat} (ht : t.Perm (List.range v)) (hx : ∀ x ∈ xs, x ∈ fm_K v k) : ((fm_K v k).map (fun b => xs.count (pm_im t b))).sum = xs.length := by
  have h := ((K_perm (k := k) ht).map (fun m => xs.count m)).sum_nat
  rw [List.map_map, cs_all (fm_K_nodup v k) hx] at h
  exact h
theorem fl_len (g : Nat → List Nat) : ∀ (l : List Nat), (l.flatMap g).length = (l.map (fun j => (g j).length)).sum
  | [] => rfl
  | a :: l => by rw [List.flatMap_cons, List.length_append, fl_len g l, List.map_cons, List.sum_cons]
theorem rng_map {α β : Type} (l : List α) (d : α) (g : α → β) : (List.range l.length).map (fun j => g (l.getD j d)) = l.map g := by
  apply List.ext_getElem (by simp)
  intro i h1 h2
  have hi : i < l.length := by simpa using h2
  simp [List.getElem?_eq_getElem hi]
/-- a form has as many blocks as the laying -/
theorem un_len {v k : Nat} {t xs : List Nat} (ht : t.Perm (List.range v)) (hx : ∀ x ∈ xs, x ∈ fm_K v k) : (sp_un (fm_K v k) (ce_row (fm_K v k) xs t)).length = xs.length := by
  unfold sp_un
  rw [fl_len, ← cs_row ht hx]
  have : (List.range (fm_K v k).length).map (fun j => (List.replicate ((ce_row (fm_K v k) xs t).getD j 0).toNat ((fm_K v k).getD j 0)).length) = (List.range (fm_K v k).length).map (fun j => xs.count (pm_im t ((fm_K v k).getD j 0))) := by
    refine List.map_congr_left (fun j hj => ?_)
    rw [List.length_replicate, ce_row_at (List.mem_range.mp hj)]
    rfl
  rw [this, rng_map (fm_K v k) 0 (fun b => xs.count (pm_im t b))]
theorem un_len_max {v k : Nat} {xs : List Nat} (hx : ∀ x ∈ xs, x ∈ fm_K v k) : (sp_un (fm_K v k) (sp_max v (fm_K v k) xs)).length = xs.length := by
  obtain ⟨⟨t, ht, e⟩, -⟩ := sp_max_spec (v := v) (k := k) xs
  rw [← e]
  exact un_len ht hx
/-- the laying is laid out -/
def T_FO_start : ma_T := fun as w post => ∃ p v k xs, as = [.inr 1, .inr p] ∧ zR p ∧ vk v k ∧ gr v k w ∧ ro w p xs ∧ (∀ x ∈ xs, x ∈ fm_K v k) ∧ ∀ w', fr [1] [5, 6, 7, 9] w w' → (∀ m, m ∈ fm_K v k → w'.2.2 5 m = nI (xs.count m)) → (∀ j, j < (fm_K v k).length → w'.2.2 6 j = nI (xs.count ((fm_K v k).getD j 0))) → (∀ i, i < 6 → w'.2.2 9 i = nI i) → w'.2.2 7 0 = nI 0 → w'.1 1 6 = nI 0 → w'.1 1 8 = nI 0 → post 0 w'
theorem i_FO_start {p v k : Nat} {xs : List Nat} {w : ma_W} {post : ma_P} (h0 : zR p) (hv : vk v k) (hg : gr v k w) (hr : ro w p xs) (hx : ∀ x ∈ xs, x ∈ fm_K v k) (hp : ∀ w', fr [1] [5, 6, 7, 9] w w' → (∀ m, m ∈ fm_K v k → w'.2.2 5 m = nI (xs.count m)) → (∀ j, j < (fm_K v k).length → w'.2.2 6 j = nI (xs.count ((fm_K v k).getD j 0))) → (∀ i, i < 6 → w'.2.2 9 i = nI i) → w'.2.2 7 0 = nI 0 → w'.1 1 6 = nI 0 → w'.1 1 8 = nI 0 → post 0 w') : T_FO_start [.inr 1, .inr p] w post := ⟨p, v, k, xs, rfl, h0, hv, hg, hr, hx, hp⟩
theorem c_FO_start {l : Launch} : ma_Met l y_FO_start (w_FO_start :: zw_t) 1 false T_FO_start := by
  refine z_FO_start c_GR_kinds (by decide) c_GR_kind (by decide) c_RO_size (by decide) c_RO_get (by decide) (by rintro as w post ⟨p, v, k, xs, rfl, -⟩; simp) ?_
  rintro as w post ⟨p, v, k, xs, rfl, h0, hv, hg, hr, hx, hp⟩ Go hGo
  have h20 := vk_20 hv
  have hl := hr.1
  have hbp := zR_bd h0
  have hgf : ∀ w' : ma_W, fr [1] [5, 6, 7, 9] w w' → gr v k w' := fun w' h => gr_fr hg h (by decide) (by decide) (by decide)
  have hrf : ∀ w' : ma_W, fr [1] [5, 6, 7, 9] w w' → ro w' p xs := fun w' h => ro_fr hr h (nm1 (by omega)) (fun z => by
    simp only [List.mem_cons, List.not_mem_nil, or_false] at z
    omega)
  have hgx : ∀ i, i < xs.length → xs.getD i 0 ∈ fm_K v k := by
    intro i hi
    rw [gd_at hi]
    exact hx _ (List.getElem_mem hi)
  have loop4 : ∀ (d i : Nat) (w' : ma_W), i + d = 6 → fr [1] [5, 6, 7, 9] w w' → w'.1 = w.1 → (∀ m, m ∈ fm_K v k → w'.2.2 5 m = nI (xs.count m)) → (∀ j, j < (fm_K v k).length → w'.2.2 6 j = nI (xs.count ((fm_K v k).getD j 0))) → (∀ x, x < i → w'.2.2 9 x = nI x) → Go 103 [some (.inr 1), some (.inr p), some (.inl (nI i))] [] w' := by
    intro d
    induction d with
    | zero =>
      intro i w' hd hf hw h5 h6 h9
      refine q_FO_start_103 hGo (pk_le 6 i (fun _ => q_FO_start_122 hGo ⟨0, by decide, rfl, bo0, hp _ (fr_a (fr_f (fr_f hf (by decide) 6 _) (by decide) 8 _) (by decide) _ _) (fun m hm => ?_) (fun j hj => ?_) (fun x hx => ?_) (rfl) ?_ (rfl)⟩) (fun h => absurd h (by omega)))
      · try dsimp only
        rw [ma_up_p _ _ _ _ (by decide)]; exact h5 m hm
      · try dsimp only
        rw [ma_up_p _ _ _ _ (by decide)]; exact h6 j hj
      · try dsimp only
        rw [ma_up_p _ _ _ _ (by decide)]; exact h9 x (by omega)
      · try dsimp only
        rw [ma_up_k _ _ _ _ (by decide), ma_up_s]
    | succ d ih =>
      intro i w' hd hf hw h5 h6 h9
      refine q_FO_start_103 hGo (pk_le 6 i (fun h => absurd h (by omega)) (fun _ => ⟨i, by omega, rfl, ?_⟩))
      rw [nI_add]
      refine ih (i + 1) _ (by omega) (fr_a hf (by decide) _ _) hw (fun m hm => ?_) (fun j hj => ?_) (fun x hx => ?_)
      · try dsimp only
        rw [ma_up_p _ _ _ _ (by decide)]; exact h5 m hm
      · try dsimp only
        rw [ma_up_p _ _ _ _ (by decide)]; exact h6 j hj
      · try dsimp only
        by_cases hxi : x = i
        · subst hxi; rw [ma_up_s]
        · rw [ma_up_k _ _ _ _ hxi]; exact h9 x (by omega)
  have loop3 : ∀ (d b : Nat) (w' : ma_W), b + d = (fm_K v k).length → fr [1] [5, 6, 7, 9] w w' → w'.1 = w.1 → (∀ m, m ∈ fm_K v k → w'.2.2 5 m = nI (xs.count m)) → (∀ j, j < b → w'.2.2 6 j = nI (xs.count ((fm_K v k).getD j 0))) → Go 65 [some (.inr 1), some (.inr p), some (.inl (nI b))] [] w' := by
    intro d
    induction d with
    | zero =>
      intro b w' hd hf hw h5 h6
      exact q_FO_start_65 hGo (i_GR_kinds (pk_le (fm_K v k).length b (fun _ => q_FO_start_101 hGo (loop4 6 0 w' (by omega) hf hw h5 (fun j hj => h6 j (by omega)) (fun x hx => absurd hx (Nat.not_lt_zero x)))) (fun h => absurd h (by omega)) (hgf w' hf).2.2.1 rfl (by omega) (by omega)))
    | succ d ih =>
      intro b w' hd hf hw h5 h6
      have hb : b < (fm_K v k).length := by omega
      have hm := K_mem hb
      refine q_FO_start_65 hGo (i_GR_kinds (pk_le (fm_K v k).length b (fun h => absurd h (by omega)) (fun _ => i_GR_kind (by omega) ⟨(fm_K v k).getD b 0, vk_64 hv hm, (hgf w' hf).2.2.2.1 b hb, b, by omega, rfl, ?_⟩) (hgf w' hf).2.2.1 rfl (by omega) (by omega)))
      rw [nI_add, h5 _ hm]
      refine ih (b + 1) _ (by omega) (fr_a hf (by decide) _ _) hw (fun m hm => ?_) (fun j hj => ?_)
      · try dsimp only
        rw [ma_up_p _ _ _ _ (by decide)]; exact h5 m hm
      · try dsimp only
        by_cases hjb : j = b
        · subst hjb; rw [ma_up_s]
        · rw [ma_up_k _ _ _ _ hjb]; exact h6 j (by omega)
  have loop2 : ∀ (d n : Nat) (w' : ma_W), n + d = xs.length → fr [1] [5, 6, 7, 9] w w' → w'.1 = w.1 → (∀ m, m ∈ fm_K v k → w'.2.2 5 m = nI ((xs.take n).count m)) → Go 35 [some (.inr 1), some (.inr p), some (.inl (nI n))] [] w' := by
    intro d
    induction d with
    | zero =>
      intro n w' hd hf hw h5
      refine q_FO_start_35 hGo h0 (i_RO_size h0 (pk_le xs.length n (fun _ => q_FO_start_63 hGo (loop3 (fm_K v k).length 0 w' (by omega) hf hw (fun m hm => ?_) (fun j hj => absurd hj (Nat.not_lt_zero j)))) (fun h => absurd h (by omega)) (hrf w' hf).2.1 rfl (by omega) (by omega)))
      rw [h5 m hm, List.take_of_length_le (by omega)]
    | succ d ih =>
      intro n w' hd hf hw h5
      have hn : n < xs.length := by omega
      have hm := hgx n hn
      refine q_FO_start_35 hGo h0 (i_RO_size h0 (pk_le xs.length n (fun h => absurd h (by omega)) (fun _ => i_RO_get h0 (by omega) ⟨xs.getD n 0, vk_64 hv hm, (hrf w' hf).2.2 n hn, xs.getD n 0, vk_64 hv hm, (hrf w' hf).2.2 n hn, ?_⟩) (hrf w' hf).2.1 rfl (by omega) (by omega)))
      rw [nI_add, h5 _ hm, nI_add]
      refine ih (n + 1) _ (by omega) (fr_a hf (by decide) _ _) hw (fun m hm2 => ?_)
      try dsimp only
      rw [tk_succ hn, List.count_append]
      by_cases hmn : m = xs.getD n 0
      · subst hmn
        rw [ma_up_s]
        simp
      · rw [ma_up_k _ _ _ _ hmn, h5 m hm2, List.count_eq_zero.mpr (show m ∉ [xs.getD n 0] from nm1 hmn), Nat.add_zero]
  have loop1 : ∀ (d b : Nat) (w' : ma_W), b + d = (fm_K v k).length → fr [1] [5, 6, 7, 9] w w' → w'.1 = w.1 → (∀ j, j < b → w'.2.2 5 ((fm_K v k).getD j 0) = nI 0) → Go 2 [some (.inr 1), some (.inr p), some (.inl (nI b))] [] w' := by
    intro d
    induction d with
    | zero =>
      intro b w' hd hf hw h5
      refine q_FO_start_2 hGo (i_GR_kinds (pk_le (fm_K v k).length b (fun _ => q_FO_start_33 hGo (loop2 xs.length 0 w' (by omega) hf hw (fun m hm => ?_))) (fun h => absurd h (by omega)) (hgf w' hf).2.2.1 rfl (by omega) (by omega)))
      obtain ⟨j, hj, e⟩ := List.getElem_of_mem hm
      have := h5 j (by omega)
      rw [gd_at hj, e] at this
      rw [this]
      rfl
    | succ d ih =>
      intro b w' hd hf hw h5
      have hb : b < (fm_K v k).length := by omega
      have hm := K_mem hb
      refine q_FO_start_2 hGo (i_GR_kinds (pk_le (fm_K v k).length b (fun h => absurd h (by omega)) (fun _ => i_GR_kind (by omega) ⟨(fm_K v k).getD b 0, vk_64 hv hm, (hgf w' hf).2.2.2.1 b hb, ?_⟩) (hgf w' hf).2.2.1 rfl (by omega) (by omega)))
      rw [nI_add]
      refine ih (b + 1) _ (by omega) (fr_a hf (by decide) _ _) hw (fun j hj => ?_)
      show ma_up w'.2.2 5 ((fm_K v k).getD b 0) _ 5 ((fm_K v k).getD j 0) = _
      by_cases hjb : (fm_K v k).getD j 0 = (fm_K v k).getD b 0
      · rw [hjb, ma_up_s]
      · rw [ma_up_k _ _ _ _ hjb]
        refine h5 j ?_
        have : j ≠ b := fun z => hjb (by rw [z])
        omega
  exact q_FO_start_0 hGo (loop1 (fm_K v k).length 0 w (by omega) (fr_refl _ _ _) rfl (fun j hj => absurd hj (Nat.not_lt_zero j)))
/-- the search begins -/
def st0 (v k : Nat) (xs : List Nat) : se_S := (ce_row (fm_K v k) xs (List.range v), 0, false, List.range 6)
theorem st0_len {v k : Nat} {xs : List Nat} : (st0 v k xs).1.length = (fm_K v k).length := ce_row_len (K := fm_K v k) (xs := xs) (t := List.range v)
theorem st0_at {v k j : Nat} {xs : List Nat} (hj : j < (fm_K v k).length) : (ce_row (fm_K v k) xs (List.range v)).getD j 0 = (xs.count ((fm_K v k).getD j 0) : Int) := by
  rw [ce_row_at hj, pm_im_id (fm_K_mem.mp (K_mem hj)).1]
theorem rem_nil (v : Nat) : rem_ v [] = List.range v := by simp [rem_]
theorem st0_sq {v k : Nat} {xs : List Nat} {stop : Bool} {w w' : ma_W} (hv : vk v k) (hx : xs.length ≤ 10) (hg : gr v k w) (hf : fr [1] [5, 6, 7, 9] w w') (h5 : ∀ m, m ∈ fm_K v k → w'.2.2 5 m = nI (xs.count m)) (h6 : ∀ j, j < (fm_K v k).length → w'.2.2 6 j = nI (xs.count ((fm_K v k).getD j 0))) (h9 : ∀ i, i < 6 → w'.2.2 9 i = nI i) (h7 : w'.2.2 7 0 = nI 0) (hc : w'.1 1 6 = nI 0) (hb : w'.1 1 8 = nI 0) : sq v v k (fun m => xs.count m) [] (st0 v k xs) stop (ma_up w'.1 1 7 (bI stop), w'.2.1, w'.2.2) := by
  have hgr : gr v k w' := gr_fr hg hf (by decide) (by decide) (by decide)
  refine ⟨hv, fun m => Nat.le_trans List.count_le_length hx, ⟨List.nodup_nil, fun x h => absurd h List.not_mem_nil⟩, by simp, ⟨gr_fr hgr (fr_f (fr_refl [1] [] w') (by decide) 7 (bI stop)) (by decide) (by decide) (by decide), h5⟩, ⟨st0_len, fun j hj => ?_, ?_, ?_, rfl, fun i hi => ?_⟩, fun _ m hm => ?_, fun i hi => absurd hi (Nat.not_lt_zero i), rfl, rfl⟩
  · have hcnt : xs.count ((fm_K v k).getD j 0) ≤ xs.length := List.count_le_length
    show -1 ≤ (ce_row (fm_K v k) xs (List.range v)).getD j 0 ∧ (ce_row (fm_K v k) xs (List.range v)).getD j 0 ≤ 10 ∧ w'.2.2 6 j = iI ((ce_row (fm_K v k) xs (List.range v)).getD j 0)
    rw [st0_at hj, h6 j hj]
    exact ⟨by omega, by omega, rfl⟩
  · try dsimp only
    rw [ma_up_k _ _ _ _ (by decide)]; exact hc
  · try dsimp only
    rw [ma_up_k _ _ _ _ (by decide)]; exact hb
  · have : (List.range 6).getD i 0 = i := pm_range_at hi
    show w'.2.2 9 i = nI ((List.range 6).getD i 0) ∧ (List.range 6).getD i 0 < 6
    rw [this]
    exact ⟨h9 i hi, hi⟩
  · have : m = 0 := by simpa using hm
    subst this
    exact h7
theorem se_min_fold {v i : Nat} (hi : i < 6) (hv : i < v) : ∀ (l : List (List Nat)) (ls : List Nat), ls.length = 6 → (∀ t ∈ l, t.length = v) → (l.foldl (fun ls t => se_min t ls) ls).getD i 0 = l.foldl (fun b t => min b (t.getD i 0)) (ls.getD i 0)
  | [], _, _, _ => rfl
  | t :: l, ls, h, ht => by
    rw [List.foldl_cons, List.foldl_cons, se_min_fold hi hv l _ (by rw [se_min_len]; exact h) (fun u hu => ht u (List.mem_cons_of_mem _ hu)), se_min_at (by omega) (by rw [ht t List.mem_cons_self]; exact hv)]
theorem vk_srt {v k : Nat} (h : vk v k) : se_srt (fm_K v k) := by
  intro t j hj
  rcases Nat.lt_or_ge t 7 with h1 | h1
  · exact vk_hi h h1 hj
  · have hjl : j < (fm_K v k).length := Nat.lt_of_lt_of_le hj (se_kb_le t)
    have := vk_64 h (K_mem hjl)
    have h2 : 2 ^ 7 ≤ 2 ^ t := Nat.pow_le_pow_right (by decide) h1
    omega
/-- what a search with stop finds -/
theorem st0_stop {v k : Nat} {xs : List Nat} (hv : vk v k) : (se_all true (fm_K v k) (fun m => xs.count m) v [] (rem_ v []) (st0 v k xs)).2.2.1 = !ce_isf v (fm_K v k) xs ∧ (ce_isf v (fm_K v k) xs = true → (se_all true (fm_K v k) (fun m => xs.count m) v [] (rem_ v []) (st0 v k xs)).2.1 = ce_ord v k xs ∧ ∀ i, i < v → (se_all true (fm_K v k) (fun m => xs.count m) v [] (rem_ v []) (st0 v k xs)).2.2.2.getD i 0 = sp_orb v k xs i) := by
  rw [rem_nil]
  have h := se_stop (K := fm_K v k) (f := fun m => xs.count m) (vk_srt hv) (vk_v hv) v [] (List.range v) (st0 v k xs) List.length_range (by simp) st0_len (fun i hi => by
    have : se_kb (fm_K v k) 0 = 0 := by
      unfold se_kb
      rw [List.countP_eq_zero]
      intro m hm
      have := (fm_K_mem.mp hm).2
      have h0 : m ≠ 0 := by
        intro e
        rw [e] at this
        have h2 := hv.2.2.1
        have : pm_cnt v 0 = 0 := by simp [pm_cnt]
        omega
      simp
      omega
    rw [List.length_nil, this] at hi
    exact absurd hi (Nat.not_lt_zero i)) rfl
  rw [se_root] at h
  have hany : (pm_P v).any (fun t => lx_gt (fm_row (fm_K v k) (fun m => xs.count m) t) (st0 v k xs).1) = !ce_isf v (fm_K v k) xs := by
    unfold ce_isf
    rw [List.not_all_eq_any_not]
    congr 1
    funext t
    rw [Bool.not_not]
    rfl
  rw [hany] at h
  refine ⟨h.1, fun hf => ?_⟩
  have h2 := h.2 (by rw [h.1, hf]; rfl)
  rw [h2]
  refine ⟨?_, fun i hi => ?_⟩
  · show 0 + _ = ce_ord v k xs
    rw [Nat.zero_add]
    rfl
  · have hv6 := hv.2.1
    show (List.foldl _ (List.range 6) _).getD i 0 = _
    rw [se_min_fold (by omega) hi _ _ List.length_range (fun t ht => pm_len (pm_P_mem.mp (List.mem_filter.mp ht).1)), pm_range_at (by omega)]
    rfl
/-- .. without stop -/
theorem st0_free {v k : Nat} {xs : List Nat} (hv : vk v k) : (se_all false (fm_K v k) (fun m => xs.count m) v [] (rem_ v []) (st0 v k xs)).1 = sp_max v (fm_K v k) xs ∧ (se_all false (fm_K v k) (fun m => xs.count m) v [] (rem_ v []) (st0 v k xs)).2.1 = ce_ord v k xs := by
  rw [rem_nil]
  have h := se_free (K := fm_K v k) (f := fun m => xs.count m) (vk_srt hv) (vk_v hv) v [] (List.range v) (st0 v k xs) List.length_range (by simp) st0_len (fun i hi => by
    have : se_kb (fm_K v k) 0 = 0 := by
      unfold se_kb
      rw [List.countP_eq_zero]
      intro m hm
      have := (fm_K_mem.mp hm).2
      have h0 : m ≠ 0 := by
        intro e
        rw [e] at this
        have h2 := hv.2.2.1
        have : pm_cnt v 0 = 0 := by simp [pm_cnt]
        omega
      simp
      omega
    rw [List.length_nil, this] at hi
    exact absurd hi (Nat.not_lt_zero i))
  rw [se_root] at h
  exact ⟨congrArg Prod.fst h, (congrArg Prod.snd h).trans (sp_cnt xs)⟩
def T_FO_isForm : ma_T := fun as w post => ∃ p v k xs, as = [.inr 1, .inr p] ∧ zR p ∧ vk v k ∧ gr v k w ∧ ro w p xs ∧ (∀ x ∈ xs, x ∈ fm_K v k) ∧ ∀ w', fr [1] [5, 6, 7, 8, 9] w w' → (ce_isf v (fm_K v k) xs = true → w'.1 1 6 = nI (ce_ord v k xs) ∧ ∀ i, i < v → w'.2.2 9 i = nI (sp_orb v k xs i)) → post (bI (ce_isf v (fm_K v k) xs)) w'
theorem i_FO_isForm {p v k : Nat} {xs : List Nat} {w : ma_W} {post : ma_P} (h0 : zR p) (hv : vk v k) (hg : gr v k w) (hr : ro w p xs) (hx : ∀ x ∈ xs, x ∈ fm_K v k) (hp : ∀ w', fr [1] [5, 6, 7, 8, 9] w w' → (ce_isf v (fm_K v k) xs = true → w'.1 1 6 = nI (ce_ord v k xs) ∧ ∀ i, i < v → w'.2.2 9 i = nI (sp_orb v k xs i)) → post (bI (ce_isf v (fm_K v k) xs)) w') : T_FO_isForm [.inr 1, .inr p] w post := ⟨p, v, k, xs, rfl, h0, hv, hg, hr, hx, hp⟩
theorem fr_5 {w w1 w2 : ma_W} {x : Int32} (h1 : fr [1] [5, 6, 7, 9] w w1) (h2 : fr [1] [6, 7, 8, 9] (ma_up w1.1 1 7 x, w1.2.1, w1.2.2) w2) : fr [1] [5, 6, 7, 8, 9] w w2 := by
  refine fr_trans (fr_f (fr_mono h1 (fun _ h => h) (fun q h => ?_)) (by decide) 7 x) (fr_mono h2 (fun _ h => h) (fun q h => ?_))
  · simp only [List.mem_cons, List.not_mem_nil, or_false] at h ⊢
    omega
  · simp only [List.mem_cons, List.not_mem_nil, or_false] at h ⊢
    omega
theorem c_FO_isForm {l : Launch} : ma_Met l y_FO_isForm (w_FO_isForm :: zw_t) 15 true T_FO_isForm := by
  refine z_FO_isForm c_FO_start (by decide) c_FO_tryPointsFor (by decide) (by rintro as w post ⟨p, v, k, xs, rfl, -⟩; simp) ?_
  rintro as w post ⟨p, v, k, xs, rfl, h0, hv, hg, hr, hx, hp⟩ Go hGo
  have hv6 := hv.2.1
  obtain ⟨hst1, hst2⟩ := st0_stop (xs := xs) hv
  refine q_FO_isForm_0 hGo (i_FO_start h0 hv hg hr hx (fun w1 hf h5 h6 h9 h7 hc hb => ⟨bo1, ?_⟩))
  have hsq := st0_sq (stop := true) hv hr.1 hg hf h5 h6 h9 h7 hc hb
  refine i_FO_tryPointsAny (p := []) hv6 hsq (fun w2 ⟨r1, r2, r3, r4, r5⟩ => ?_)
  obtain ⟨b1, b2, b3, b4, b5, b6⟩ := r4
  rw [hst1] at b4
  have h9 := hp w2 (fr_5 hf r1) (fun hf => ⟨by rw [b3, (hst2 hf).1], fun i hi => by rw [(b6 i (by omega)).1, (hst2 hf).2 i hi]⟩)
  refine bI_an b4 (fun h => q_FO_isForm_27 hGo (q_FO_isForm_28 hGo ⟨bo0, ?_⟩)) (fun h => q_FO_isForm_28 hGo ⟨bo1, ?_⟩)
  · rw [Bool.not_eq_true'] at h
    rw [h] at h9
    exact h9
  · rw [Bool.not_eq_false'] at h
    rw [h] at h9
    exact h9
/-- the form of a laying is written into a row -/
def T_FO_findForm : ma_T := fun as w post => ∃ p q v k xs, as = [.inr 1, .inr p, .inr q] ∧ zR p ∧ zR q ∧ vk v k ∧ gr v k w ∧ ro w p xs ∧ (∀ x ∈ xs, x ∈ fm_K v k) ∧ ∀ w', fr [1, q] [5, 6, 7, 8, 9, q + 1] w w' → w'.1 1 6 = nI (ce_ord v k xs) → ro w' q (sp_un (fm_K v k) (sp_max v (fm_K v k) xs)) → post 0 w'
theorem i_FO_findForm {p q v k : Nat} {xs : List Nat} {w : ma_W} {post : ma_P} (h0 : zR p) (h1 : zR q) (hv : vk v k) (hg : gr v k w) (hr : ro w p xs) (hx : ∀ x ∈ xs, x ∈ fm_K v k) (hp : ∀ w', fr [1, q] [5, 6, 7, 8, 9, q + 1] w w' → w'.1 1 6 = nI (ce_ord v k xs) → ro w' q (sp_un (fm_K v k) (sp_max v (fm_K v k) xs)) → post 0 w') : T_FO_findForm [.inr 1, .inr p, .inr q] w post := ⟨p, q, v, k, xs, rfl, h0, h1, hv, hg, hr, hx, hp⟩
/-- the first b kinds' part of a form -/
def unp (K : List Nat) (u : List Int) (b : Nat) : List Nat := (List.range b).flatMap (fun j => List.replicate (u.getD j 0).toNat (K.getD j 0))
theorem unp_s (K : List Nat) (u : List Int) (b : Nat) : unp K u (b + 1) = unp K u b ++ List.replicate (u.getD b 0).toNat (K.getD b 0) := by
  unfold unp
  rw [List.range_succ, List.flatMap_append]
  simp
theorem unp_le (K : List Nat) (u : List Int) {b c : Nat} (h : b ≤ c) : (unp K u b).length ≤ (unp K u c).length := by
  induction c with
  | zero => obtain rfl : b = 0 := by omega
            exact Nat.le_refl _
  | succ c ih =>
    by_cases hb : b = c + 1
    · subst hb; exact Nat.le_refl _
    · have := ih (by omega)
      rw [unp_s, List.length_append]
      omega
theorem c_FO_findForm {l : Launch} : ma_Met l y_FO_findForm (w_FO_findForm :: zw_t) 15 false T_FO_findForm := by
  refine z_FO_findForm c_FO_start (by decide) c_FO_tryPointsFor (by decide) c_RO_clear (by decide) c_GR_kinds (by decide) c_GR_kind (by decide) c_RO_add (by decide) (by rintro as w post ⟨p, q, v, k, xs, rfl, -⟩; simp) ?_
  rintro as w post ⟨p, q, v, k, xs, rfl, h1, h2, hv, hg, hr, hx, hp⟩ Go hGo
  have hv6 := hv.2.1
  have h20 := vk_20 hv
  have hxl := hr.1
  have hbq := zR_bd h2
  obtain ⟨hst1, hst2⟩ := st0_free (xs := xs) hv
  have hul : (unp (fm_K v k) (sp_max v (fm_K v k) xs) (fm_K v k).length).length = xs.length := un_len_max hx
  refine q_FO_findForm_0 hGo h1 h2 (i_FO_start h1 hv hg hr hx (fun w1 hf h5 h6 h9 h7 hc hb => ⟨bo0, ?_⟩))
  have hsq := st0_sq (stop := false) hv hr.1 hg hf h5 h6 h9 h7 hc hb
  refine i_FO_tryPointsAny (p := []) hv6 hsq (fun w2 ⟨r1, r2, r3, r4, r5⟩ => ?_)
  obtain ⟨b1, b2, b3, b4, b5, b6⟩ := r4
  rw [hst1] at b2
  rw [hst2] at b3
  have hfr := fr_5 hf r1
  have hfr0 : fr [1, q] [5, 6, 7, 8, 9, q + 1] w w2 := fr_mono hfr (fun x h => by simp at h; simp [h]) (fun x h => by
    simp only [List.mem_cons, List.not_mem_nil, or_false] at h ⊢
    omega)
  have hkeep : ∀ w' : ma_W, fr [q] [q + 1] w2 w' → gr v k w' ∧ (∀ j, j < (fm_K v k).length → w'.2.2 6 j = iI ((sp_max v (fm_K v k) xs).getD j 0)) ∧ w'.1 1 6 = nI (ce_ord v k xs) ∧ fr [1, q] [5, 6, 7, 8, 9, q + 1] w w' := by
    intro w' h
    refine ⟨gr_fr (gr_fr hg hfr (by decide) (by decide) (by decide)) h (nm1 (by omega)) (nm1 (by omega)) (nm1 (by omega)), fun j hj => by rw [h.2.2 6 (nm1 (by omega))]; exact (b2 j hj).2.2, by rw [h.2.1 1 (nm1 (by omega))]; exact b3, fr_trans hfr0 (fr_mono h (fun x hx => by rw [List.mem_singleton.mp hx]; simp) (fun x hx => by rw [List.mem_singleton.mp hx]; simp))⟩
  have hbest : ∀ j, j < (fm_K v k).length → ∃ n : Nat, (sp_max v (fm_K v k) xs).getD j 0 = (n : Int) ∧ n ≤ 10 := by
    intro j hj
    obtain ⟨⟨t, ht, e⟩, -⟩ := sp_max_spec (v := v) (k := k) xs
    refine ⟨xs.count (pm_im t ((fm_K v k).getD j 0)), ?_, Nat.le_trans List.count_le_length hxl⟩
    rw [← e, ce_row_at hj]
  have loop : ∀ (d b : Nat) (w' : ma_W) (o : Option ma_V), b + d = (fm_K v k).length → fr [q] [q + 1] w2 w' → ro w' q (unp (fm_K v k) (sp_max v (fm_K v k) xs) b) → Go 22 [some (.inr 1), some (.inr p), some (.inr q), some (.inl (nI b)), o] [] w' := by
    intro d
    induction d with
    | zero =>
      intro b w' o hd hfq hro
      obtain ⟨hg', h6', hc', hfw⟩ := hkeep w' hfq
      refine q_FO_findForm_22 hGo (i_GR_kinds (pk_le (fm_K v k).length b (fun _ => q_FO_findForm_71 hGo (hp w' hfw hc' ?_)) (fun h => absurd h (by omega)) hg'.2.2.1 rfl (by omega) (by omega)))
      rw [show b = (fm_K v k).length by omega] at hro
      exact hro
    | succ d ih =>
      intro b w' o hd hfq hro
      have hb : b < (fm_K v k).length := by omega
      obtain ⟨n, hn, hn10⟩ := hbest b hb
      have hus := unp_s (fm_K v k) (sp_max v (fm_K v k) xs) b
      rw [hn] at hus
      have hnn : ((n : Int)).toNat = n := rfl
      rw [hnn] at hus
      have hul2 := unp_le (fm_K v k) (sp_max v (fm_K v k) xs) (show b + 1 ≤ (fm_K v k).length by omega)
      rw [hul, hus, List.length_append, List.length_replicate] at hul2
      have inner : ∀ (e i : Nat) (w3 : ma_W), i + e = n → fr [q] [q + 1] w2 w3 → ro w3 q (unp (fm_K v k) (sp_max v (fm_K v k) xs) b ++ List.replicate i ((fm_K v k).getD b 0)) → Go 36 [some (.inr 1), some (.inr p), some (.inr q), some (.inl (nI b)), some (.inl (nI i))] [] w3 := by
        intro e
        induction e with
        | zero =>
          intro i w3 he hf3 hr3
          obtain ⟨hg3, h63, -, -⟩ := hkeep w3 hf3
          refine q_FO_findForm_36 hGo h1 h2 ⟨b, by omega, rfl, pk_le n i (fun _ => q_FO_findForm_65 hGo ?_) (fun h => absurd h (by omega)) (by rw [h63 b hb, hn]; rfl) rfl (by omega) (by omega)⟩
          rw [nI_add]
          refine ih (b + 1) w3 _ (by omega) hf3 ?_
          rw [hus, show n = i by omega]
          exact hr3
        | succ e ihe =>
          intro i w3 he hf3 hr3
          obtain ⟨hg3, h63, -, -⟩ := hkeep w3 hf3
          have hlen : (unp (fm_K v k) (sp_max v (fm_K v k) xs) b ++ List.replicate i ((fm_K v k).getD b 0)).length = (unp (fm_K v k) (sp_max v (fm_K v k) xs) b).length + i := by rw [List.length_append, List.length_replicate]
          refine q_FO_findForm_36 hGo h1 h2 ⟨b, by omega, rfl, pk_le n i (fun h => absurd h (by omega)) (fun _ => i_GR_kind (by omega) (i_RO_add h2 hr3.2.1 (by omega) ?_)) (by rw [h63 b hb, hn]; rfl) rfl (by omega) (by omega)⟩
          rw [nI_add, hg3.2.2.2.1 b hb]
          refine ihe (i + 1) _ (by omega) (fr_a (fr_f hf3 (by simp) 1 _) (by simp) _ _) ?_
          have := ro_add (m := (fm_K v k).getD b 0) hr3 (by omega)
          rw [List.append_assoc, ← List.replicate_succ'] at this
          exact this
      obtain ⟨hg', h6', hc', hfw⟩ := hkeep w' hfq
      refine q_FO_findForm_22 hGo (i_GR_kinds (pk_le (fm_K v k).length b (fun h => absurd h (by omega)) (fun _ => inner n 0 w' (by omega) hfq ?_) hg'.2.2.1 rfl (by omega) (by omega)))
      rw [List.replicate_zero, List.append_nil]
      exact hro
  exact i_RO_clear h2 (loop (fm_K v k).length 0 _ _ (by omega) (fr_f (fr_refl _ _ _) (by simp) _ _) ro_nil)
