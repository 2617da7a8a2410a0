/-! CONTRACTS: Ground -/
/-- the numbers of a census -/
def vk (v k : Nat) : Prop := 3 ≤ v ∧ v ≤ 6 ∧ 2 ≤ k ∧ k < v
/-- the kinds below M -/
def kb (v k M : Nat) : List Nat := (List.range M).filter (fun m => pm_cnt v m == k)
theorem kb_K (v k : Nat) : kb v k (2 ^ v) = fm_K v k := rfl
theorem kb_1 {v k : Nat} (h : vk v k) : kb v k 1 = [] := by
  obtain ⟨-, -, h, -⟩ := h
  have : pm_cnt v 0 = 0 := by simp [pm_cnt]
  simp [kb, List.range_succ, this]
  omega
theorem kb_s (v k M : Nat) : kb v k (M + 1) = kb v k M ++ (if pm_cnt v M = k then [M] else []) := by
  unfold kb
  rw [List.range_succ, List.filter_append]
  congr 1
  by_cases h : pm_cnt v M = k
  · rw [if_pos h]; simp [h]
  · rw [if_neg h]; simp [h]
def kb_ok (v k : Nat) : Bool := decide ((fm_K v k).length ≤ 20) && ((List.range (v + 1)).all (fun t => decide (se_kb (fm_K v k) t = (kb v k (2 ^ t)).length)) && (decide (se_kb (fm_K v k) v = (fm_K v k).length) && ((List.range 7).all (fun t => (List.range (se_kb (fm_K v k) t)).all (fun j => decide ((fm_K v k).getD j 0 < 2 ^ t))) && (List.range 7).all (fun t => (List.range (fm_K v k).length).all (fun j => decide (se_kb (fm_K v k) t ≤ j → 2 ^ t ≤ (fm_K v k).getD j 0))))))
theorem kb_all : (List.range 7).all (fun v => (List.range v).all (fun k => (decide (k < 2)) || kb_ok v k)) = true := by decide +kernel
theorem kb_fin {v k : Nat} (h : vk v k) : (fm_K v k).length ≤ 20 ∧ (∀ t, t < v + 1 → se_kb (fm_K v k) t = (kb v k (2 ^ t)).length) ∧ se_kb (fm_K v k) v = (fm_K v k).length ∧ (∀ t, t < 7 → ∀ j, j < se_kb (fm_K v k) t → (fm_K v k).getD j 0 < 2 ^ t) ∧ ∀ t, t < 7 → ∀ j, j < (fm_K v k).length → se_kb (fm_K v k) t ≤ j → 2 ^ t ≤ (fm_K v k).getD j 0 := by
  obtain ⟨h1, h2, h3, h4⟩ := h
  have h9 := List.all_eq_true.mp (List.all_eq_true.mp kb_all v (List.mem_range.mpr (by omega))) k (List.mem_range.mpr h4)
  rw [decide_eq_false (by omega), Bool.false_or] at h9
  simp only [kb_ok, Bool.and_eq_true, decide_eq_true_eq, List.all_eq_true, List.mem_range] at h9
  exact h9
theorem kb_pre {v k M N : Nat} (h : M ≤ N) : ∃ l, kb v k N = kb v k M ++ l := by
  induction N with
  | zero => obtain rfl : M = 0 := by omega
            exact ⟨[], by simp⟩
  | succ N ih =>
    by_cases hM : M = N + 1
    · subst hM; exact ⟨[], by simp⟩
    · obtain ⟨l, hl⟩ := ih (by omega)
      exact ⟨l ++ (if pm_cnt v N = k then [N] else []), by rw [kb_s, hl, List.append_assoc]⟩
theorem kb_le {v k M : Nat} (h : vk v k) (hM : M ≤ 2 ^ v) : (kb v k M).length ≤ (fm_K v k).length := by
  obtain ⟨l, hl⟩ := kb_pre (v := v) (k := k) hM
  rw [← kb_K, hl, List.length_append]
  omega
theorem vk_20 {v k : Nat} (h : vk v k) : (fm_K v k).length ≤ 20 := (kb_fin h).1
theorem vk_kb {v k t : Nat} (h : vk v k) (ht : t ≤ v) : se_kb (fm_K v k) t = (kb v k (2 ^ t)).length := (kb_fin h).2.1 t (by omega)
theorem vk_v {v k : Nat} (h : vk v k) : se_kb (fm_K v k) v = (fm_K v k).length := (kb_fin h).2.2.1
theorem vk_64 {v k m : Nat} (h : vk v k) (hm : m ∈ fm_K v k) : m < 64 := by
  have h1 := (fm_K_mem.mp hm).1
  have h2 : 2 ^ v ≤ 2 ^ 6 := Nat.pow_le_pow_right (by decide) h.2.1
  omega
theorem cnt6 : ∀ v, v < 7 → ∀ m, m < 2 ^ v → pm_cnt 6 m = pm_cnt v m := by decide +kernel
theorem cnt_le (v m : Nat) : pm_cnt v m ≤ v := by
  unfold pm_cnt
  have := List.countP_le_length (p := fun p => m.testBit p) (l := List.range v)
  rwa [List.length_range] at this
/-- the ground of a census -/
def gr (v k : Nat) (w : ma_W) : Prop := w.1 2 2 = nI v ∧ w.1 2 3 = nI k ∧ w.1 2 4 = nI (fm_K v k).length ∧ (∀ j, j < (fm_K v k).length → w.2.2 3 j = nI ((fm_K v k).getD j 0)) ∧ ∀ t, t ≤ v → w.2.2 4 t = nI (se_kb (fm_K v k) t)
theorem gr_fr {v k : Nat} {ps qs : List Nat} {w w' : ma_W} (h : gr v k w) (hf : fr ps qs w w') (h1 : 2 ∉ ps) (h2 : 3 ∉ qs) (h3 : 4 ∉ qs) : gr v k w' := by
  unfold gr
  rw [hf.2.1 2 h1, hf.2.2 3 h2, hf.2.2 4 h3]
  exact h
def T_GR_points : ma_T := fun as w post => as = [.inr 2] ∧ post (w.1 2 2) w
theorem i_GR_points {w : ma_W} {post : ma_P} (hp : post (w.1 2 2) w) : T_GR_points [.inr 2] w post := ⟨rfl, hp⟩
theorem c_GR_points {l : Launch} : ma_Met l y_GR_points (w_GR_points :: zw_t) 0 true T_GR_points := by
  refine z_GR_points (by rintro as w post ⟨rfl, -⟩; simp) ?_
  rintro as w post ⟨rfl, hp⟩ Go hGo
  exact q_GR_points_0 hGo hp
def T_GR_kinds : ma_T := fun as w post => as = [.inr 2] ∧ post (w.1 2 4) w
theorem i_GR_kinds {w : ma_W} {post : ma_P} (hp : post (w.1 2 4) w) : T_GR_kinds [.inr 2] w post := ⟨rfl, hp⟩
theorem c_GR_kinds {l : Launch} : ma_Met l y_GR_kinds (w_GR_kinds :: zw_t) 0 true T_GR_kinds := by
  refine z_GR_kinds (by rintro as w post ⟨rfl, -⟩; simp) ?_
  rintro as w post ⟨rfl, hp⟩ Go hGo
  exact q_GR_kinds_0 hGo hp
def T_GR_kind : ma_T := fun as w post => ∃ j, as = [.inr 2, .inl (nI j)] ∧ j < 20 ∧ post (w.2.2 3 j) w
theorem i_GR_kind {j : Nat} {w : ma_W} {post : ma_P} (hj : j < 20) (hp : post (w.2.2 3 j) w) : T_GR_kind [.inr 2, .inl (nI j)] w post := ⟨j, rfl, hj, hp⟩
theorem c_GR_kind {l : Launch} : ma_Met l y_GR_kind (w_GR_kind :: zw_t) 0 true T_GR_kind := by
  refine z_GR_kind (by rintro as w post ⟨j, rfl, -⟩; simp) ?_
  rintro as w post ⟨j, rfl, hj, hp⟩ Go hGo
  exact q_GR_kind_0 hGo ⟨j, hj, rfl, hp⟩
def T_GR_firstKindEndingAt : ma_T := fun as w post => ∃ j, as = [.inr 2, .inl (nI j)] ∧ j < 7 ∧ post (w.2.2 4 j) w
theorem i_GR_firstKindEndingAt {j : Nat} {w : ma_W} {post : ma_P} (hj : j < 7) (hp : post (w.2.2 4 j) w) : T_GR_firstKindEndingAt [.inr 2, .inl (nI j)] w post := ⟨j, rfl, hj, hp⟩
theorem c_GR_firstKindEndingAt {l : Launch} : ma_Met l y_GR_firstKindEndingAt (w_GR_firstKindEndingAt :: zw_t) 0 true T_GR_firstKindEndingAt := by
  refine z_GR_firstKindEndingAt (by rintro as w post ⟨j, rfl, -⟩; simp) ?_
  rintro as w post ⟨j, rfl, hj, hp⟩ Go hGo
  exact q_GR_firstKindEndingAt_0 hGo ⟨j, hj, rfl, hp⟩
def T_GR_isPoint : ma_T := fun as w post => ∃ x n, as = [.inr 2, .inl x] ∧ w.1 2 2 = nI n ∧ post (bI (hs x n)) w
theorem i_GR_isPoint {n : Nat} {x : Int32} {w : ma_W} {post : ma_P} (hn : w.1 2 2 = nI n) (hp : post (bI (hs x n)) w) : T_GR_isPoint [.inr 2, .inl x] w post := ⟨x, n, rfl, hn, hp⟩
theorem c_GR_isPoint {l : Launch} : ma_Met l y_GR_isPoint (w_GR_isPoint :: zw_t) 0 true T_GR_isPoint := by
  refine z_GR_isPoint (by rintro as w post ⟨x, n, rfl, -⟩; simp) ?_
  rintro as w post ⟨x, n, rfl, hn, hp⟩ Go hGo
  refine q_GR_isPoint_0 hGo (hs_br hn (fun h => q_GR_isPoint_16 hGo (q_GR_isPoint_17 hGo ⟨bo0, ?_⟩)) (fun h => q_GR_isPoint_17 hGo ⟨bo1, ?_⟩))
  · rw [h] at hp; exact hp
  · rw [h] at hp; exact hp
/-- how many renamings there are -/
def fc : Nat → Nat
  | 0 => 1
  | n + 1 => fc n * (n + 1)
def T_GR_renamings : ma_T := fun as w post => ∃ v, as = [.inr 2] ∧ v ≤ 6 ∧ w.1 2 2 = nI v ∧ post (nI (fc v)) w
theorem i_GR_renamings {v : Nat} {w : ma_W} {post : ma_P} (hv : v ≤ 6) (h : w.1 2 2 = nI v) (hp : post (nI (fc v)) w) : T_GR_renamings [.inr 2] w post := ⟨v, rfl, hv, h, hp⟩
theorem c_GR_renamings {l : Launch} : ma_Met l y_GR_renamings (w_GR_renamings :: zw_t) 0 true T_GR_renamings := by
  refine z_GR_renamings (by rintro as w post ⟨v, rfl, -⟩; simp) ?_
  rintro as w post ⟨v, rfl, hv, hn, hp⟩ Go hGo
  have loop : ∀ (d n : Nat), n + 1 + d = v + 1 → Go 4 [some (.inr 2), some (.inl (nI (fc n))), some (.inl (nI (n + 1)))] [] w := by
    intro d
    induction d with
    | zero =>
      intro n hd
      refine q_GR_renamings_4 hGo (pk_lt v (n + 1) (fun _ => q_GR_renamings_22 hGo ?_) (fun h => absurd h (by omega)) hn rfl (by omega) (by omega))
      rw [show n = v by omega]
      exact hp
    | succ d ih =>
      intro n hd
      refine q_GR_renamings_4 hGo (pk_lt v (n + 1) (fun h => absurd h (by omega)) (fun _ => ?_) hn rfl (by omega) (by omega))
      rw [nI_mul, nI_add]
      exact ih (n + 1) (by omega)
  by_cases h0 : v = 0
  · subst h0
    exact q_GR_renamings_0 hGo (q_GR_renamings_4 hGo (pk_lt 0 2 (fun _ => q_GR_renamings_22 hGo hp) (fun h => absurd h (by omega)) hn rfl (by omega) (by omega)))
  · exact q_GR_renamings_0 hGo (loop (v - 1) 1 (by omega))
def T_JI_bitCount : ma_T := fun as w post => ∃ m, as = [.inl (nI m)] ∧ m < 64 ∧ post (nI (pm_cnt 6 m)) w
theorem i_JI_bitCount {m : Nat} {w : ma_W} {post : ma_P} (hm : m < 64) (hp : post (nI (pm_cnt 6 m)) w) : T_JI_bitCount [.inl (nI m)] w post := ⟨m, rfl, hm, hp⟩
theorem pw64 {v : Nat} (h : v ≤ 6) : 2 ^ v ≤ 64 := Nat.pow_le_pow_right (by decide) h
/-- is an int a block -/
def isb (v k : Nat) (x : Int32) : Bool := hs x (2 ^ v) && (pm_cnt v x.toNatClampNeg == k)
theorem isb_t {v k : Nat} {x : Int32} (hv : v ≤ 6) (h : isb v k x = true) : ∃ m, m ∈ fm_K v k ∧ x = nI m := by
  simp only [isb, Bool.and_eq_true, beq_iff_eq] at h
  have h6 := pw64 hv
  obtain ⟨j, hj, rfl⟩ := hs_t (by omega) h.1
  rw [nI_clamp (by omega)] at h
  exact ⟨j, fm_K_mem.mpr ⟨hj, h.2⟩, rfl⟩
def T_GR_isBlock : ma_T := fun as w post => ∃ x v k, as = [.inr 2, .inl x] ∧ vk v k ∧ w.1 2 2 = nI v ∧ w.1 2 3 = nI k ∧ post (bI (isb v k x)) w
theorem i_GR_isBlock {v k : Nat} {x : Int32} {w : ma_W} {post : ma_P} (hv : vk v k) (h1 : w.1 2 2 = nI v) (h2 : w.1 2 3 = nI k) (hp : post (bI (isb v k x)) w) : T_GR_isBlock [.inr 2, .inl x] w post := ⟨x, v, k, rfl, hv, h1, h2, hp⟩
theorem c_GR_isBlock {l : Launch} (cb : ma_Met l y_JI_bitCount (w_JI_bitCount :: zw_t) 0 true T_JI_bitCount) : ma_Met l y_GR_isBlock (w_GR_isBlock :: zw_t) 1 true T_GR_isBlock := by
  refine z_GR_isBlock cb (by decide) (by rintro as w post ⟨x, v, k, rfl, -⟩; simp) ?_
  rintro as w post ⟨x, v, k, rfl, hv, h1, h2, hp⟩ Go hGo
  have hv6 := hv.2.1
  have h6 := pw64 hv6
  have no : isb v k x = false → Go 29 [some (.inr 2), some (.inl x)] [] w := fun h => q_GR_isBlock_29 hGo (q_GR_isBlock_30 hGo ⟨bo0, by rw [h] at hp; exact hp⟩)
  refine q_GR_isBlock_0 hGo (hs_br (n := 2 ^ v) (by rw [h1, bi_one v (by omega)]) (fun h => no (by simp [isb, h])) (fun h => ?_))
  obtain ⟨j, hj, rfl⟩ := hs_t (by omega) h
  have hc := cnt6 v (by omega) j hj
  have hle := cnt_le v j
  refine i_JI_bitCount (by omega) (pn_ne (pm_cnt 6 j) k (fun h9 => no ?_) (fun h9 => q_GR_isBlock_30 hGo ⟨bo1, ?_⟩) rfl h2 (by omega) (by have := hv.2.2.2; omega))
  · rw [hc] at h9
    simp [isb, nI_clamp (show j < 2 ^ 31 by omega), h9]
  · rw [hc] at h9
    have : isb v k (nI j) = true := by simp [isb, nI_clamp (show j < 2 ^ 31 by omega), h9, h]
    rw [this] at hp
    exact hp
/-- the kinds below M stand in the ground -/
def gk (v k M : Nat) (w : ma_W) : Prop := w.1 2 4 = nI (kb v k M).length ∧ ∀ j, j < (kb v k M).length → w.2.2 3 j = nI ((kb v k M).getD j 0)
def T_GR_addKindsEndingAt : ma_T := fun as w post => ∃ t v k, as = [.inr 2, .inl (nI t)] ∧ vk v k ∧ t < v ∧ w.1 2 3 = nI k ∧ gk v k (2 ^ t) w ∧ ∀ w', fr [2] [3] w w' → w'.1 2 2 = w.1 2 2 → w'.1 2 3 = w.1 2 3 → gk v k (2 ^ (t + 1)) w' → post 0 w'
theorem i_GR_addKindsEndingAt {t v k : Nat} {w : ma_W} {post : ma_P} (hv : vk v k) (ht : t < v) (hk : w.1 2 3 = nI k) (hg : gk v k (2 ^ t) w) (hp : ∀ w', fr [2] [3] w w' → w'.1 2 2 = w.1 2 2 → w'.1 2 3 = w.1 2 3 → gk v k (2 ^ (t + 1)) w' → post 0 w') : T_GR_addKindsEndingAt [.inr 2, .inl (nI t)] w post := ⟨t, v, k, rfl, hv, ht, hk, hg, hp⟩
theorem c_GR_addKindsEndingAt {l : Launch} (cb : ma_Met l y_JI_bitCount (w_JI_bitCount :: zw_t) 0 true T_JI_bitCount) : ma_Met l y_GR_addKindsEndingAt (w_GR_addKindsEndingAt :: zw_t) 1 false T_GR_addKindsEndingAt := by
  refine z_GR_addKindsEndingAt cb (by decide) (by rintro as w post ⟨t, v, k, rfl, -⟩; simp) ?_
  rintro as w post ⟨t, v, k, rfl, hv, ht, hk, hg, hp⟩ Go hGo
  have hv6 := hv.2.1
  have h6 := pw64 hv6
  have hkv := hv.2.2.2
  have hpt : 2 ^ (t + 1) ≤ 2 ^ v := Nat.pow_le_pow_right (by decide) ht
  have h20 := vk_20 hv
  have loop : ∀ (d M : Nat) (w' : ma_W), M + d = 2 ^ (t + 1) → fr [2] [3] w w' → w'.1 2 2 = w.1 2 2 → w'.1 2 3 = w.1 2 3 → gk v k M w' → Go 4 [some (.inr 2), some (.inl (nI t)), some (.inl (nI M))] [] w' := by
    intro d
    induction d with
    | zero =>
      intro M w' hd hf hw2 hw3 hgM
      refine q_GR_addKindsEndingAt_4 hGo (pk_le (2 ^ (t + 1)) M (fun _ => q_GR_addKindsEndingAt_57 hGo (hp _ hf hw2 hw3 ?_)) (fun h => absurd h (by omega)) (bi_two t (by omega)) rfl (by omega) (by omega))
      rw [show 2 ^ (t + 1) = M by omega]
      exact hgM
    | succ d ih =>
      intro M w' hd hf hw2 hw3 hgM
      have hM : M < 2 ^ v := by omega
      have hc := cnt6 v (by omega) M hM
      have hle := cnt_le v M
      have hs1 := kb_s v k M
      have hle1 := kb_le hv (show M + 1 ≤ 2 ^ v by omega)
      have next : ∀ w'' : ma_W, fr [2] [3] w w'' → w''.1 2 2 = w.1 2 2 → w''.1 2 3 = w.1 2 3 → gk v k (M + 1) w'' → Go 51 [some (.inr 2), some (.inl (nI t)), some (.inl (nI M))] [] w'' := by
        intro w'' a1 a2 a3 a4
        refine q_GR_addKindsEndingAt_51 hGo ?_
        rw [nI_add]
        exact ih (M + 1) w'' (by omega) a1 a2 a3 a4
      refine q_GR_addKindsEndingAt_4 hGo (pk_le (2 ^ (t + 1)) M (fun h => absurd h (by omega)) (fun _ => i_JI_bitCount (by omega) (pn_ne (pm_cnt 6 M) k (fun h => ?_) (fun h => ?_) rfl (by rw [hw3]; exact hk) (by omega) (by omega))) (bi_two t (by omega)) rfl (by omega) (by omega))
      · refine next w' hf hw2 hw3 ?_
        unfold gk
        rw [hs1, if_neg (by omega), List.append_nil]
        exact hgM
      · rw [if_pos (by omega)] at hs1
        have hl : (kb v k (M + 1)).length = (kb v k M).length + 1 := by rw [hs1, List.length_append]; rfl
        refine pk_le 20 (kb v k M).length (fun h => absurd h (by omega)) (fun _ => ⟨(kb v k M).length, by omega, hgM.1, next _ (fr_a (fr_f hf (by simp) 4 _) (by simp) _ _) ?_ ?_ ⟨?_, fun j hj => ?_⟩⟩) rfl hgM.1 (by omega) (by omega)
        · try dsimp only
          rw [ma_up_k _ _ _ _ (by decide), hw2]
        · try dsimp only
          rw [ma_up_k _ _ _ _ (by decide), hw3]
        · try dsimp only
          rw [ma_up_s, hgM.1, nI_add, hl]
        · try dsimp only
          rw [hl] at hj
          rw [hs1]
          by_cases hj2 : j = (kb v k M).length
          · subst hj2
            rw [ma_up_s, gd_app_r]
          · rw [ma_up_k _ _ _ _ hj2, gd_app_l (by omega)]
            exact hgM.2 j (by omega)
  refine q_GR_addKindsEndingAt_0 hGo ?_
  rw [bi_one t (by omega)]
  exact loop (2 ^ t) (2 ^ t) w (by rw [Nat.pow_succ]; omega) (fr_refl _ _ _) rfl rfl hg
def T_GR_lay : ma_T := fun as w post => ∃ v k, as = [.inr 2, .inl (nI v), .inl (nI k)] ∧ vk v k ∧ ∀ w', fr [2] [3, 4] w w' → gr v k w' → post 0 w'
theorem i_GR_lay {v k : Nat} {w : ma_W} {post : ma_P} (hv : vk v k) (hp : ∀ w', fr [2] [3, 4] w w' → gr v k w' → post 0 w') : T_GR_lay [.inr 2, .inl (nI v), .inl (nI k)] w post := ⟨v, k, rfl, hv, hp⟩
theorem c_GR_lay {l : Launch} (cb : ma_Met l y_JI_bitCount (w_JI_bitCount :: zw_t) 0 true T_JI_bitCount) : ma_Met l y_GR_lay (w_GR_lay :: zw_t) 2 false T_GR_lay := by
  refine z_GR_lay (c_GR_addKindsEndingAt cb) (by decide) (by rintro as w post ⟨v, k, rfl, -⟩; simp) ?_
  rintro as w post ⟨v, k, rfl, hv, hp⟩ Go hGo
  have hv6 := hv.2.1
  have loop : ∀ (d t : Nat) (w' : ma_W), t + d = v → fr [2] [3, 4] w w' → w'.1 2 2 = nI v → w'.1 2 3 = nI k → gk v k (2 ^ t) w' → (∀ s, s < t → w'.2.2 4 s = nI (se_kb (fm_K v k) s)) → Go 17 [some (.inr 2), some (.inl (nI v)), some (.inl (nI k)), some (.inl (nI t))] [] w' := by
    intro d
    induction d with
    | zero =>
      intro t w' hd hf hw2 hw3 hg ha
      obtain rfl : t = v := by omega
      refine q_GR_lay_17 hGo (pk_le t t (fun _ => q_GR_lay_43 hGo ⟨t, by omega, rfl, hp _ (fr_a hf (by simp) _ _) ⟨hw2, hw3, ?_, fun j hj => ?_, fun s hs => ?_⟩⟩) (fun h => absurd h (by omega)))
      · rw [← kb_K]; exact hg.1
      · try dsimp only
        rw [ma_up_p _ _ _ _ (by decide), ← kb_K]
        rw [← kb_K] at hj
        exact hg.2 j hj
      · try dsimp only
        by_cases hst : s = t
        · subst hst
          rw [ma_up_s, hg.1, vk_kb hv (Nat.le_refl _)]
        · rw [ma_up_k _ _ _ _ hst]
          exact ha s (by omega)
    | succ d ih =>
      intro t w' hd hf hw2 hw3 hg ha
      refine q_GR_lay_17 hGo (pk_le v t (fun h => absurd h (by omega)) (fun _ => ⟨t, by omega, rfl, i_GR_addKindsEndingAt hv (by omega) hw3 ⟨hg.1, fun j hj => ?_⟩ (fun w'' g1 g2 g3 g4 => ?_)⟩))
      · try dsimp only
        rw [ma_up_p _ _ _ _ (by decide)]
        exact hg.2 j hj
      · rw [nI_add]
        refine ih (t + 1) w'' (by omega) (fr_trans (fr_a hf (by simp) _ _) (fr_mono g1 (fun _ h => h) (fun q h => by simp at h; simp [h]))) (by rw [g2]; exact hw2) (by rw [g3]; exact hw3) g4 (fun s hs => ?_)
        rw [g1.2.2 4 (nm1 (by decide))]
        try dsimp only
        by_cases hst : s = t
        · subst hst
          rw [ma_up_s, hg.1, vk_kb hv (by omega)]
        · rw [ma_up_k _ _ _ _ hst]
          exact ha s (by omega)
  refine q_GR_lay_0 hGo (loop v 0 _ (by omega) (fr_f (fr_f (fr_f (fr_refl _ _ _) (by simp) 2 (nI v)) (by simp) 3 (nI k)) (by simp) 4 (nI 0)) ?_ ?_ ⟨?_, fun j hj => ?_⟩ (fun s hs => absurd hs (Nat.not_lt_zero s)))
  · try dsimp only
    rw [ma_up_k _ _ _ _ (by decide), ma_up_k _ _ _ _ (by decide), ma_up_s]
  · try dsimp only
    rw [ma_up_k _ _ _ _ (by decide), ma_up_s]
  · try dsimp only
    rw [ma_up_s, show (2 : Nat) ^ 0 = 1 by decide, kb_1 hv]
    rfl
  · rw [show (2 : Nat) ^ 0 = 1 by decide, kb_1 hv] at hj
    exact absurd hj (Nat.not_lt_zero j)
