/-! CONTRACTS: Listing -/
theorem gd_at {α : Type} {l : List α} {d : α} {j : Nat} (h : j < l.length) : l.getD j d = l[j] := by
  rw [List.getD_eq_getElem?_getD, List.getElem?_eq_getElem h]
  rfl
theorem tk_succ {e : List Nat} {n : Nat} (h : n < e.length) : e.take (n + 1) = e.take n ++ [e.getD n 0] := by
  rw [List.take_add_one, List.getElem?_eq_getElem h, gd_at h]
  rfl
theorem tk_len {e : List Nat} {n : Nat} (h : n ≤ e.length) : (e.take n).length = n := by rw [List.length_take]; omega
theorem nI_mul (a b : Nat) : nI a * nI b = nI (a * b) := pk_mul a b
/-- the entry at i is e -/
def le_ (w : ma_W) (p i : Nat) (e : List Nat) : Prop := ∀ j, j < e.length → w.2.2 (p + 1) (i * 10 + j) = nI (e.getD j 0)
def T_LI_restart : ma_T := fun as w post => ∃ p x, as = [.inr p, .inl x] ∧ zL p ∧ post 0 (ma_up (ma_up w.1 p 3 x) p 4 (nI 0), w.2.1, w.2.2)
theorem i_LI_restart {p : Nat} {x : Int32} {w : ma_W} {post : ma_P} (h : zL p) (hp : post 0 (ma_up (ma_up w.1 p 3 x) p 4 (nI 0), w.2.1, w.2.2)) : T_LI_restart [.inr p, .inl x] w post := ⟨p, x, rfl, h, hp⟩
theorem c_LI_restart {l : Launch} : ma_Met l y_LI_restart (w_LI_restart :: zw_t) 0 false T_LI_restart := by
  refine z_LI_restart (by rintro as w post ⟨p, x, rfl, -⟩; simp) ?_
  rintro as w post ⟨p, x, rfl, h0, hp⟩ Go hGo
  exact q_LI_restart_0 hGo h0 hp
def T_LI_addEmptyRow : ma_T := fun as w post => ∃ p x, as = [.inr p, .inl x] ∧ zL p ∧ ∀ w', fr [p] [p + 2, p + 3] w w' → w'.1 p 3 = w.1 p 3 → w'.1 p 4 = nI 1 → w'.2.2 (p + 2) 0 = x → (∀ j, j < 6 → w'.2.2 (p + 3) j = nI 0) → post 0 w'
theorem i_LI_addEmptyRow {p : Nat} {x : Int32} {w : ma_W} {post : ma_P} (h : zL p) (hp : ∀ w', fr [p] [p + 2, p + 3] w w' → w'.1 p 3 = w.1 p 3 → w'.1 p 4 = nI 1 → w'.2.2 (p + 2) 0 = x → (∀ j, j < 6 → w'.2.2 (p + 3) j = nI 0) → post 0 w') : T_LI_addEmptyRow [.inr p, .inl x] w post := ⟨p, x, rfl, h, hp⟩
theorem c_LI_addEmptyRow {l : Launch} : ma_Met l y_LI_addEmptyRow (w_LI_addEmptyRow :: zw_t) 0 false T_LI_addEmptyRow := by
  refine z_LI_addEmptyRow (by rintro as w post ⟨p, x, rfl, -⟩; simp) ?_
  rintro as w post ⟨p, x, rfl, h0, hp⟩ Go hGo
  have loop : ∀ (d n : Nat) (w' : ma_W), n + d = 6 → fr [p] [p + 2, p + 3] w w' → w'.1 p = w.1 p → w'.2.2 (p + 2) 0 = x → (∀ j, j < n → w'.2.2 (p + 3) j = nI 0) → Go 9 [some (.inr p), some (.inl x), some (.inl (nI n))] [] w' := by
    intro d
    induction d with
    | zero =>
      intro n w' hd hf hk hx ha
      refine q_LI_addEmptyRow_9 hGo h0 (pk_le 6 n (fun _ => q_LI_addEmptyRow_28 hGo h0 (hp _ (fr_f hf (by simp) _ _) ?_ (ma_up_s _ _ _ _) hx (fun j hj => ha j (by omega)))) (fun h => absurd h (by omega)))
      show ma_up w'.1 p 4 (nI 1) p 3 = w.1 p 3
      rw [ma_up_k _ _ _ _ (by decide), hk]
    | succ d ih =>
      intro n w' hd hf hk hx ha
      refine q_LI_addEmptyRow_9 hGo h0 (pk_le 6 n (fun h => absurd h (by omega)) (fun _ => ⟨n, by omega, rfl, ?_⟩))
      rw [nI_add]
      refine ih (n + 1) _ (by omega) (fr_a hf (by simp) _ _) hk ?_ (fun j hj => ?_)
      · show ma_up w'.2.2 (p + 3) n (nI 0) (p + 2) 0 = x
        rw [ma_up_p _ _ _ _ (by omega), hx]
      · show ma_up w'.2.2 (p + 3) n (nI 0) (p + 3) j = nI 0
        by_cases h : j = n
        · subst h; rw [ma_up_s]
        · rw [ma_up_k _ _ _ _ h, ha j (by omega)]
  exact q_LI_addEmptyRow_0 hGo h0 ⟨0, by decide, rfl, loop 6 0 _ (by omega) (fr_a (fr_refl _ _ _) (by simp) _ _) rfl (ma_up_s _ _ _ _) (fun j hj => absurd hj (Nat.not_lt_zero j))⟩
def T_LI_size : ma_T := fun as w post => ∃ p, as = [.inr p] ∧ zL p ∧ post (w.1 p 4) w
theorem i_LI_size {p : Nat} {w : ma_W} {post : ma_P} (h : zL p) (hp : post (w.1 p 4) w) : T_LI_size [.inr p] w post := ⟨p, rfl, h, hp⟩
theorem c_LI_size {l : Launch} : ma_Met l y_LI_size (w_LI_size :: zw_t) 0 true T_LI_size := by
  refine z_LI_size (by rintro as w post ⟨p, rfl, -⟩; simp) ?_
  rintro as w post ⟨p, rfl, h0, hp⟩ Go hGo
  exact q_LI_size_0 hGo h0 hp
def T_LI_rowLength : ma_T := fun as w post => ∃ p, as = [.inr p] ∧ zL p ∧ post (w.1 p 3) w
theorem i_LI_rowLength {p : Nat} {w : ma_W} {post : ma_P} (h : zL p) (hp : post (w.1 p 3) w) : T_LI_rowLength [.inr p] w post := ⟨p, rfl, h, hp⟩
theorem c_LI_rowLength {l : Launch} : ma_Met l y_LI_rowLength (w_LI_rowLength :: zw_t) 0 true T_LI_rowLength := by
  refine z_LI_rowLength (by rintro as w post ⟨p, rfl, -⟩; simp) ?_
  rintro as w post ⟨p, rfl, h0, hp⟩ Go hGo
  exact q_LI_rowLength_0 hGo h0 hp
def T_LI_isFull : ma_T := fun as w post => ∃ p n, as = [.inr p] ∧ zL p ∧ w.1 p 4 = nI n ∧ n < 2 ^ 31 ∧ post (bI (decide (60 ≤ n))) w
theorem i_LI_isFull {p n : Nat} {w : ma_W} {post : ma_P} (h : zL p) (hn : w.1 p 4 = nI n) (hn2 : n < 2 ^ 31) (hp : post (bI (decide (60 ≤ n))) w) : T_LI_isFull [.inr p] w post := ⟨p, n, rfl, h, hn, hn2, hp⟩
theorem c_LI_isFull {l : Launch} : ma_Met l y_LI_isFull (w_LI_isFull :: zw_t) 0 true T_LI_isFull := by
  refine z_LI_isFull (by rintro as w post ⟨p, n, rfl, -⟩; simp) ?_
  rintro as w post ⟨p, n, rfl, h0, hn, hn2, hp⟩ Go hGo
  refine q_LI_isFull_0 hGo h0 (pk_lt n 60 (fun h => q_LI_isFull_13 hGo (q_LI_isFull_14 hGo ⟨bo0, ?_⟩)) (fun h => q_LI_isFull_14 hGo ⟨bo1, ?_⟩) hn rfl hn2 (by omega))
  · rw [decide_eq_false (by omega)] at hp; exact hp
  · rw [decide_eq_true h] at hp; exact hp
def T_LI_has : ma_T := fun as w post => ∃ p x n, as = [.inr p, .inl x] ∧ zL p ∧ w.1 p 4 = nI n ∧ post (bI (hs x n)) w
theorem i_LI_has {p n : Nat} {x : Int32} {w : ma_W} {post : ma_P} (h : zL p) (hn : w.1 p 4 = nI n) (hp : post (bI (hs x n)) w) : T_LI_has [.inr p, .inl x] w post := ⟨p, x, n, rfl, h, hn, hp⟩
theorem c_LI_has {l : Launch} : ma_Met l y_LI_has (w_LI_has :: zw_t) 0 true T_LI_has := by
  refine z_LI_has (by rintro as w post ⟨p, x, n, rfl, -⟩; simp) ?_
  rintro as w post ⟨p, x, n, rfl, h0, hn, hp⟩ Go hGo
  refine q_LI_has_0 hGo h0 (hs_br hn (fun h => q_LI_has_16 hGo (q_LI_has_17 hGo ⟨bo0, ?_⟩)) (fun h => q_LI_has_17 hGo ⟨bo1, ?_⟩))
  · rw [h] at hp; exact hp
  · rw [h] at hp; exact hp
def T_LI_mask : ma_T := fun as w post => ∃ p i j, as = [.inr p, .inl (nI i), .inl (nI j)] ∧ zL p ∧ i * 10 + j < 600 ∧ post (w.2.2 (p + 1) (i * 10 + j)) w
theorem i_LI_mask {p i j : Nat} {w : ma_W} {post : ma_P} (h : zL p) (hj : i * 10 + j < 600) (hp : post (w.2.2 (p + 1) (i * 10 + j)) w) : T_LI_mask [.inr p, .inl (nI i), .inl (nI j)] w post := ⟨p, i, j, rfl, h, hj, hp⟩
theorem c_LI_mask {l : Launch} : ma_Met l y_LI_mask (w_LI_mask :: zw_t) 0 true T_LI_mask := by
  refine z_LI_mask (by rintro as w post ⟨p, i, j, rfl, -⟩; simp) ?_
  rintro as w post ⟨p, i, j, rfl, h0, hj, hp⟩ Go hGo
  exact q_LI_mask_0 hGo h0 ⟨i * 10 + j, hj, by rw [nI_mul, nI_add], hp⟩
def T_LI_symmetriesOf : ma_T := fun as w post => ∃ p i, as = [.inr p, .inl (nI i)] ∧ zL p ∧ i < 60 ∧ post (w.2.2 (p + 2) i) w
theorem i_LI_symmetriesOf {p i : Nat} {w : ma_W} {post : ma_P} (h : zL p) (hj : i < 60) (hp : post (w.2.2 (p + 2) i) w) : T_LI_symmetriesOf [.inr p, .inl (nI i)] w post := ⟨p, i, rfl, h, hj, hp⟩
theorem c_LI_symmetriesOf {l : Launch} : ma_Met l y_LI_symmetriesOf (w_LI_symmetriesOf :: zw_t) 0 true T_LI_symmetriesOf := by
  refine z_LI_symmetriesOf (by rintro as w post ⟨p, i, rfl, -⟩; simp) ?_
  rintro as w post ⟨p, i, rfl, h0, hj, hp⟩ Go hGo
  exact q_LI_symmetriesOf_0 hGo h0 ⟨i, hj, rfl, hp⟩
def T_LI_leastImage : ma_T := fun as w post => ∃ p i j, as = [.inr p, .inl (nI i), .inl (nI j)] ∧ zL p ∧ i * 6 + j < 360 ∧ post (w.2.2 (p + 3) (i * 6 + j)) w
theorem i_LI_leastImage {p i j : Nat} {w : ma_W} {post : ma_P} (h : zL p) (hj : i * 6 + j < 360) (hp : post (w.2.2 (p + 3) (i * 6 + j)) w) : T_LI_leastImage [.inr p, .inl (nI i), .inl (nI j)] w post := ⟨p, i, j, rfl, h, hj, hp⟩
theorem c_LI_leastImage {l : Launch} : ma_Met l y_LI_leastImage (w_LI_leastImage :: zw_t) 0 true T_LI_leastImage := by
  refine z_LI_leastImage (by rintro as w post ⟨p, i, j, rfl, -⟩; simp) ?_
  rintro as w post ⟨p, i, j, rfl, h0, hj, hp⟩ Go hGo
  exact q_LI_leastImage_0 hGo h0 ⟨i * 6 + j, hj, by rw [nI_mul, nI_add], hp⟩
/-- how many blocks of the entry hold the points m -/
def T_LI_blocksHolding : ma_T := fun as w post => ∃ p i m e, as = [.inr p, .inl (nI i), .inl (nI m)] ∧ zL p ∧ i < 60 ∧ m < 64 ∧ e.length ≤ 10 ∧ w.1 p 3 = nI e.length ∧ le_ w p i e ∧ (∀ x ∈ e, x < 64) ∧ post (nI (e.countP (fun b => b &&& m == m))) w
theorem i_LI_blocksHolding {p i m : Nat} {e : List Nat} {w : ma_W} {post : ma_P} (h : zL p) (hi : i < 60) (hm : m < 64) (he : e.length ≤ 10) (hl : w.1 p 3 = nI e.length) (ha : le_ w p i e) (hx : ∀ x ∈ e, x < 64) (hp : post (nI (e.countP (fun b => b &&& m == m))) w) : T_LI_blocksHolding [.inr p, .inl (nI i), .inl (nI m)] w post := ⟨p, i, m, e, rfl, h, hi, hm, he, hl, ha, hx, hp⟩
theorem c_LI_blocksHolding {l : Launch} : ma_Met l y_LI_blocksHolding (w_LI_blocksHolding :: zw_t) 1 true T_LI_blocksHolding := by
  refine z_LI_blocksHolding c_LI_mask (by decide) (by rintro as w post ⟨p, i, m, e, rfl, -⟩; simp) ?_
  rintro as w post ⟨p, i, m, e, rfl, h0, hi, hm, he, hl, ha, hx, hp⟩ Go hGo
  have loop : ∀ (d n : Nat), n + d = e.length → Go 5 [some (.inr p), some (.inl (nI i)), some (.inl (nI m)), some (.inl (nI ((e.take n).countP (fun b => b &&& m == m)))), some (.inl (nI n))] [] w := by
    intro d
    induction d with
    | zero =>
      intro n hd
      refine q_LI_blocksHolding_5 hGo h0 (pk_le e.length n (fun _ => q_LI_blocksHolding_41 hGo ?_) (fun h => absurd h (by omega)) hl rfl (by omega) (by omega))
      rw [List.take_of_length_le (by omega)]
      exact hp
    | succ d ih =>
      intro n hd
      have hn : n < e.length := by omega
      have hg : e.getD n 0 < 64 := by rw [gd_at hn]; exact hx _ (List.getElem_mem hn)
      have hstep := ih (n + 1) (by omega)
      rw [tk_succ hn, List.countP_append, List.countP_singleton] at hstep
      refine q_LI_blocksHolding_5 hGo h0 (pk_le e.length n (fun h => absurd h (by omega)) (fun _ => i_LI_mask h0 (by omega) ?_) hl rfl (by omega) (by omega))
      rw [ha n hn, bi_and _ hg _ hm]
      refine pn_ne (e.getD n 0 &&& m) m (fun h => q_LI_blocksHolding_32 hGo (q_LI_blocksHolding_33 hGo ?_)) (fun h => q_LI_blocksHolding_33 hGo ?_) rfl rfl (Nat.lt_of_le_of_lt Nat.and_le_left (by omega)) (by omega)
      · rw [nI_add, nI_add]
        rw [if_neg (by simpa using h)] at hstep
        exact hstep
      · rw [nI_add, nI_add]
        rw [if_pos (by simpa using h)] at hstep
        exact hstep
  exact q_LI_blocksHolding_0 hGo (loop e.length 0 (by omega))
/-- an entry is written into a row -/
def T_LI_writeTo : ma_T := fun as w post => ∃ p i q e, as = [.inr p, .inl (nI i), .inr q] ∧ zL p ∧ zR q ∧ i < 60 ∧ e.length ≤ 10 ∧ w.1 p 3 = nI e.length ∧ le_ w p i e ∧ ∀ w', fr [q] [q + 1] w w' → ro w' q e → post 0 w'
theorem i_LI_writeTo {p i q : Nat} {e : List Nat} {w : ma_W} {post : ma_P} (h : zL p) (hq : zR q) (hi : i < 60) (he : e.length ≤ 10) (hl : w.1 p 3 = nI e.length) (ha : le_ w p i e) (hp : ∀ w', fr [q] [q + 1] w w' → ro w' q e → post 0 w') : T_LI_writeTo [.inr p, .inl (nI i), .inr q] w post := ⟨p, i, q, e, rfl, h, hq, hi, he, hl, ha, hp⟩
theorem zLR {p q : Nat} (hp : zL p) (hq : zR q) : p ≠ q ∧ p + 1 ≠ q + 1 ∧ p + 2 ≠ q + 1 ∧ p + 3 ≠ q + 1 := by
  rcases hp with rfl | rfl <;> rcases hq with rfl | rfl | rfl <;> decide
theorem c_LI_writeTo {l : Launch} : ma_Met l y_LI_writeTo (w_LI_writeTo :: zw_t) 1 false T_LI_writeTo := by
  refine z_LI_writeTo c_RO_clear (by decide) c_LI_mask (by decide) c_RO_add (by decide) (by rintro as w post ⟨p, i, q, e, rfl, -⟩; simp) ?_
  rintro as w post ⟨p, i, q, e, rfl, h0, h2, hi, he, hl, ha, hp⟩ Go hGo
  have hne := zLR h0 h2
  have loop : ∀ (d n : Nat) (w' : ma_W), n + d = e.length → fr [q] [q + 1] w w' → ro w' q (e.take n) → Go 6 [some (.inr p), some (.inl (nI i)), some (.inr q), some (.inl (nI n))] [] w' := by
    intro d
    induction d with
    | zero =>
      intro n w' hd hf hr
      have hl' : w'.1 p 3 = nI e.length := by rw [hf.2.1 p (nm1 hne.1)]; exact hl
      refine q_LI_writeTo_6 hGo h0 h2 (pk_le e.length n (fun _ => q_LI_writeTo_30 hGo (hp _ hf ?_)) (fun h => absurd h (by omega)) hl' rfl (by omega) (by omega))
      rw [List.take_of_length_le (by omega)] at hr
      exact hr
    | succ d ih =>
      intro n w' hd hf hr
      have hn : n < e.length := by omega
      have hl' : w'.1 p 3 = nI e.length := by rw [hf.2.1 p (nm1 hne.1)]; exact hl
      have hlen : (e.take n).length = n := tk_len (by omega)
      have hr1 := hr.2.1
      rw [hlen] at hr1
      refine q_LI_writeTo_6 hGo h0 h2 (pk_le e.length n (fun h => absurd h (by omega)) (fun _ => i_LI_mask h0 (by omega) (i_RO_add h2 hr1 (by omega) ?_)) hl' rfl (by omega) (by omega))
      rw [nI_add]
      have hv : w'.2.2 (p + 1) (i * 10 + n) = nI (e.getD n 0) := by rw [hf.2.2 (p + 1) (nm1 hne.2.1), ha n hn]
      rw [hv]
      have hr2 := ro_add (m := e.getD n 0) hr (by omega)
      rw [hlen, ← tk_succ hn] at hr2
      exact ih (n + 1) _ (by omega) (fr_a (fr_f hf (by simp) 1 _) (by simp) _ _) hr2
  refine q_LI_writeTo_0 hGo h0 h2 (i_RO_clear h2 (loop e.length 0 _ (by omega) (fr_f (fr_refl _ _ _) (by simp) _ _) ?_))
  exact ro_nil
theorem nI_in2 {a b : Nat} (ha : a < 64) (hb : b < 64) : nI a = nI b ↔ a = b := nI_eq (by omega) (by omega)
/-- is the entry this row -/
def T_LI_isEntry : ma_T := fun as w post => ∃ p i q e xs, as = [.inr p, .inl (nI i), .inr q] ∧ zL p ∧ zR q ∧ i < 60 ∧ e.length ≤ 10 ∧ w.1 p 3 = nI e.length ∧ le_ w p i e ∧ ro w q xs ∧ (∀ x ∈ e, x < 64) ∧ (∀ x ∈ xs, x < 64) ∧ post (bI (decide (e = xs))) w
theorem i_LI_isEntry {p i q : Nat} {e xs : List Nat} {w : ma_W} {post : ma_P} (h : zL p) (hq : zR q) (hi : i < 60) (he : e.length ≤ 10) (hl : w.1 p 3 = nI e.length) (ha : le_ w p i e) (hr : ro w q xs) (h1 : ∀ x ∈ e, x < 64) (h2 : ∀ x ∈ xs, x < 64) (hp : post (bI (decide (e = xs))) w) : T_LI_isEntry [.inr p, .inl (nI i), .inr q] w post := ⟨p, i, q, e, xs, rfl, h, hq, hi, he, hl, ha, hr, h1, h2, hp⟩
theorem c_LI_isEntry {l : Launch} : ma_Met l y_LI_isEntry (w_LI_isEntry :: zw_t) 1 true T_LI_isEntry := by
  refine z_LI_isEntry c_RO_size (by decide) c_LI_mask (by decide) c_RO_get (by decide) (by rintro as w post ⟨p, i, q, e, xs, rfl, -⟩; simp) ?_
  rintro as w post ⟨p, i, q, e, xs, rfl, h0, h2, hi, he, hl, ha, hr, hm1, hm2, hp⟩ Go hGo
  have hxl := hr.1
  have loop : xs.length = e.length → ∀ (d n : Nat), n + d = e.length → (∀ j, j < n → e.getD j 0 = xs.getD j 0) → Go 15 [some (.inr p), some (.inl (nI i)), some (.inr q), some (.inl (nI n))] [] w := by
    intro hlen d
    induction d with
    | zero =>
      intro n hd hs
      refine q_LI_isEntry_15 hGo h0 h2 (pk_le e.length n (fun _ => q_LI_isEntry_45 hGo ⟨bo1, ?_⟩) (fun h => absurd h (by omega)) hl rfl (by omega) (by omega))
      have : e = xs := by
        apply List.ext_getElem hlen.symm
        intro j h1 h2
        have := hs j (by omega)
        rw [gd_at h1, gd_at h2] at this
        exact this
      rw [decide_eq_true this] at hp
      exact hp
    | succ d ih =>
      intro n hd hs
      have hn : n < e.length := by omega
      have hg1 : e.getD n 0 < 64 := by rw [gd_at hn]; exact hm1 _ (List.getElem_mem hn)
      have hg2 : xs.getD n 0 < 64 := by rw [gd_at (by omega)]; exact hm2 _ (List.getElem_mem _)
      refine q_LI_isEntry_15 hGo h0 h2 (pk_le e.length n (fun h => absurd h (by omega)) (fun _ => i_LI_mask h0 (by omega) (i_RO_get h2 (by omega) ?_)) hl rfl (by omega) (by omega))
      rw [ha n hn, hr.2.2 n (by omega)]
      refine pk_eq (e.getD n 0) (xs.getD n 0) (fun h => q_LI_isEntry_39 hGo ?_) (fun h => ⟨bo0, ?_⟩)
      · rw [nI_add]
        refine ih (n + 1) (by omega) (fun j hj => ?_)
        by_cases hjn : j = n
        · subst hjn; exact h
        · exact hs j (by omega)
      · have : ¬ e = xs := fun z => h (by rw [z])
        rw [decide_eq_false this] at hp
        exact hp
  refine q_LI_isEntry_0 hGo h0 h2 (i_RO_size h2 (pk_eq xs.length e.length (fun h => q_LI_isEntry_13 hGo (loop h e.length 0 (by omega) (fun j hj => absurd hj (Nat.not_lt_zero j)))) (fun h => ⟨bo0, ?_⟩) hr.2.1 hl (by omega) (by omega)))
  have : ¬ e = xs := fun z => h (by rw [z])
  rw [decide_eq_false this] at hp
  exact hp
/-- the first place of a row in a list -/
def fi (xs : List Nat) : List (List Nat) → Nat → Int32
  | [], _ => Int32.ofInt (-1)
  | e :: es, i => if e = xs then nI i else fi xs es (i + 1)
theorem fi_cons (xs e : List Nat) (es : List (List Nat)) (i : Nat) : fi xs (e :: es) i = if e = xs then nI i else fi xs es (i + 1) := rfl
def T_LI_placeOf : ma_T := fun as w post => ∃ p q n es xs, as = [.inr p, .inr q] ∧ zL p ∧ zR q ∧ es.length ≤ 60 ∧ n ≤ 10 ∧ w.1 p 3 = nI n ∧ w.1 p 4 = nI es.length ∧ (∀ i, i < es.length → (es.getD i []).length = n ∧ le_ w p i (es.getD i []) ∧ ∀ x ∈ es.getD i [], x < 64) ∧ ro w q xs ∧ (∀ x ∈ xs, x < 64) ∧ post (fi xs es 0) w
theorem i_LI_placeOf {p q n : Nat} {es : List (List Nat)} {xs : List Nat} {w : ma_W} {post : ma_P} (h : zL p) (hq : zR q) (h60 : es.length ≤ 60) (h10 : n ≤ 10) (hn : w.1 p 3 = nI n) (hl : w.1 p 4 = nI es.length) (ha : ∀ i, i < es.length → (es.getD i []).length = n ∧ le_ w p i (es.getD i []) ∧ ∀ x ∈ es.getD i [], x < 64) (hr : ro w q xs) (hx : ∀ x ∈ xs, x < 64) (hp : post (fi xs es 0) w) : T_LI_placeOf [.inr p, .inr q] w post := ⟨p, q, n, es, xs, rfl, h, hq, h60, h10, hn, hl, ha, hr, hx, hp⟩
theorem c_LI_placeOf {l : Launch} : ma_Met l y_LI_placeOf (w_LI_placeOf :: zw_t) 2 true T_LI_placeOf := by
  refine z_LI_placeOf c_LI_isEntry (by decide) (by rintro as w post ⟨p, q, n, es, xs, rfl, -⟩; simp) ?_
  rintro as w post ⟨p, q, n, es, xs, rfl, h0, h1, h60, h10, hn, hl, ha, hr, hx, hp⟩ Go hGo
  have loop : ∀ (d i : Nat), i + d = es.length → fi xs (es.drop i) i = fi xs es 0 → Go 2 [some (.inr p), some (.inr q), some (.inl (nI i))] [] w := by
    intro d
    induction d with
    | zero =>
      intro i hd he
      refine q_LI_placeOf_2 hGo h0 h1 (pk_le es.length i (fun _ => q_LI_placeOf_27 hGo ?_) (fun h => absurd h (by omega)) hl rfl (by omega) (by omega))
      rw [← he, List.drop_eq_nil_of_le (by omega)] at hp
      exact hp
    | succ d ih =>
      intro i hd he
      have hi : i < es.length := by omega
      obtain ⟨h3, h4, h5⟩ := ha i hi
      rw [List.drop_eq_getElem_cons hi, fi_cons] at he
      rw [gd_at hi] at h3 h4 h5
      refine q_LI_placeOf_2 hGo h0 h1 (pk_le es.length i (fun h => absurd h (by omega)) (fun _ => i_LI_isEntry h0 h1 (by omega) (by omega) (by rw [h3]; exact hn) h4 hr h5 hx ?_) hl rfl (by omega) (by omega))
      refine bI_eq (fun h => q_LI_placeOf_21 hGo ?_) (fun h => ?_)
      · rw [nI_add]
        rw [if_neg (of_decide_eq_false h)] at he
        exact ih (i + 1) (by omega) he
      · rw [if_pos (of_decide_eq_true h)] at he
        rw [← he] at hp
        exact hp
  exact q_LI_placeOf_0 hGo (loop es.length 0 (by omega) rfl)
/-- a row, its order and its least images are added -/
def T_LI_addRow : ma_T := fun as w post => ∃ p q i xs, as = [.inr p, .inr q, .inr 1] ∧ zL p ∧ zR q ∧ ro w q xs ∧ w.1 p 3 = nI xs.length ∧ w.1 p 4 = nI i ∧ i < 60 ∧ ∀ w', fr [p] [p + 1, p + 2, p + 3] w w' → w'.1 p 3 = nI xs.length → w'.1 p 4 = nI (i + 1) → (∀ j, w'.2.2 (p + 1) j = if i * 10 ≤ j ∧ j < i * 10 + xs.length then nI (xs.getD (j - i * 10) 0) else w.2.2 (p + 1) j) → (∀ j, w'.2.2 (p + 2) j = if j = i then w.1 1 6 else w.2.2 (p + 2) j) → (∀ j, w'.2.2 (p + 3) j = if i * 6 ≤ j ∧ j < i * 6 + 6 then w.2.2 9 (j - i * 6) else w.2.2 (p + 3) j) → post 0 w'
theorem i_LI_addRow {p q i : Nat} {xs : List Nat} {w : ma_W} {post : ma_P} (h : zL p) (hq : zR q) (hr : ro w q xs) (hl : w.1 p 3 = nI xs.length) (hc : w.1 p 4 = nI i) (hi : i < 60) (hp : ∀ w', fr [p] [p + 1, p + 2, p + 3] w w' → w'.1 p 3 = nI xs.length → w'.1 p 4 = nI (i + 1) → (∀ j, w'.2.2 (p + 1) j = if i * 10 ≤ j ∧ j < i * 10 + xs.length then nI (xs.getD (j - i * 10) 0) else w.2.2 (p + 1) j) → (∀ j, w'.2.2 (p + 2) j = if j = i then w.1 1 6 else w.2.2 (p + 2) j) → (∀ j, w'.2.2 (p + 3) j = if i * 6 ≤ j ∧ j < i * 6 + 6 then w.2.2 9 (j - i * 6) else w.2.2 (p + 3) j) → post 0 w') : T_LI_addRow [.inr p, .inr q, .inr 1] w post := ⟨p, q, i, xs, rfl, h, hq, hr, hl, hc, hi, hp⟩
def T_FO_leastImageFound : ma_T := fun as w post => ∃ j, as = [.inr 1, .inl (nI j)] ∧ j < 6 ∧ post (w.2.2 9 j) w
theorem i_FO_leastImageFound {j : Nat} {w : ma_W} {post : ma_P} (hj : j < 6) (hp : post (w.2.2 9 j) w) : T_FO_leastImageFound [.inr 1, .inl (nI j)] w post := ⟨j, rfl, hj, hp⟩
theorem c_FO_leastImageFound {l : Launch} : ma_Met l y_FO_leastImageFound (w_FO_leastImageFound :: zw_t) 0 true T_FO_leastImageFound := by
  refine z_FO_leastImageFound (by rintro as w post ⟨j, rfl, -⟩; simp) ?_
  rintro as w post ⟨j, rfl, hj, hp⟩ Go hGo
  exact q_FO_leastImageFound_0 hGo ⟨j, hj, rfl, hp⟩
def T_FO_symmetriesFound : ma_T := fun as w post => as = [.inr 1] ∧ post (w.1 1 6) w
theorem i_FO_symmetriesFound {w : ma_W} {post : ma_P} (hp : post (w.1 1 6) w) : T_FO_symmetriesFound [.inr 1] w post := ⟨rfl, hp⟩
theorem c_FO_symmetriesFound {l : Launch} : ma_Met l y_FO_symmetriesFound (w_FO_symmetriesFound :: zw_t) 0 true T_FO_symmetriesFound := by
  refine z_FO_symmetriesFound (by rintro as w post ⟨rfl, -⟩; simp) ?_
  rintro as w post ⟨rfl, hp⟩ Go hGo
  exact q_FO_symmetriesFound_0 hGo hp
theorem zL_big {p : Nat} (h : zL p) : 16 ≤ p := by rcases h with rfl | rfl <;> decide
theorem zR_bd {p : Nat} (h : zR p) : 10 ≤ p ∧ p ≤ 14 := by rcases h with rfl | rfl | rfl <;> decide
theorem c_LI_addRow {l : Launch} : ma_Met l y_LI_addRow (w_LI_addRow :: zw_t) 1 false T_LI_addRow := by
  refine z_LI_addRow c_LI_isFull (by decide) c_RO_size (by decide) c_RO_get (by decide) c_FO_leastImageFound (by decide) c_FO_symmetriesFound (by decide) (by rintro as w post ⟨p, q, i, xs, rfl, -⟩; simp) ?_
  rintro as w post ⟨p, q, i, xs, rfl, h0, h1, hr, hl, hc, hi, hp⟩ Go hGo
  have hxl := hr.1
  have hbp := zL_big h0
  have hbq := zR_bd h1
  -- the third loop: least images, and the end
  have loop2 : ∀ (d n : Nat) (w' : ma_W), n + d = 6 → fr [p] [p + 1, p + 2, p + 3] w w' → w'.1 = w.1 → (∀ j, w'.2.2 (p + 1) j = if i * 10 ≤ j ∧ j < i * 10 + xs.length then nI (xs.getD (j - i * 10) 0) else w.2.2 (p + 1) j) → w'.2.2 (p + 2) = w.2.2 (p + 2) → (∀ j, w'.2.2 (p + 3) j = if i * 6 ≤ j ∧ j < i * 6 + n then w.2.2 9 (j - i * 6) else w.2.2 (p + 3) j) → Go 56 [some (.inr p), some (.inr q), some (.inr 1), some (.inl (nI n))] [] w' := by
    intro d
    induction d with
    | zero =>
      intro n w' hd hf hw hA1 hA2 hA3
      refine q_LI_addRow_56 hGo h0 h1 (pk_le 6 n (fun _ => q_LI_addRow_87 hGo h0 h1 (i_FO_symmetriesFound ⟨i, hi, by rw [hw]; exact hc, hp _ (fr_a (fr_f hf (by simp) 4 _) (by simp) _ _) ?_ ?_ (fun j => ?_) (fun j => ?_) (fun j => ?_)⟩)) (fun h => absurd h (by omega)))
      · show ma_up w'.1 p 4 _ p 3 = _
        rw [ma_up_k _ _ _ _ (by decide), hw, hl]
      · show ma_up w'.1 p 4 _ p 4 = _
        rw [ma_up_s, hw, hc, nI_add]
      · show ma_up w'.2.2 (p + 2) i _ (p + 1) j = _
        rw [ma_up_p _ _ _ _ (by omega)]
        exact hA1 j
      · show ma_up w'.2.2 (p + 2) i _ (p + 2) j = _
        by_cases hji : j = i
        · subst hji
          rw [ma_up_s, if_pos rfl, hw]
        · rw [ma_up_k _ _ _ _ hji, if_neg hji, hA2]
      · show ma_up w'.2.2 (p + 2) i _ (p + 3) j = _
        rw [ma_up_p _ _ _ _ (by omega), hA3 j, show n = 6 by omega]
    | succ d ih =>
      intro n w' hd hf hw hA1 hA2 hA3
      refine q_LI_addRow_56 hGo h0 h1 (pk_le 6 n (fun h => absurd h (by omega)) (fun _ => i_FO_leastImageFound (by omega) ⟨i * 6 + n, by omega, by rw [hw, hc, nI_mul, nI_add], ?_⟩))
      rw [nI_add]
      refine ih (n + 1) _ (by omega) (fr_a hf (by simp) _ _) hw (fun j => ?_) ?_ (fun j => ?_)
      · show ma_up w'.2.2 (p + 3) (i * 6 + n) _ (p + 1) j = _
        rw [ma_up_p _ _ _ _ (by omega)]
        exact hA1 j
      · show ma_up w'.2.2 (p + 3) (i * 6 + n) _ (p + 2) = _
        rw [ma_up_q _ _ _ (by omega)]
        exact hA2
      · show ma_up w'.2.2 (p + 3) (i * 6 + n) _ (p + 3) j = _
        by_cases hj : j = i * 6 + n
        · subst hj
          rw [ma_up_s, if_pos (by omega), hf.2.2 9 (nm3 (by omega) (by omega) (by omega)), show i * 6 + n - i * 6 = n by omega]
        · rw [ma_up_k _ _ _ _ hj, hA3 j]
          by_cases h2 : i * 6 ≤ j ∧ j < i * 6 + n
          · rw [if_pos h2, if_pos (by omega)]
          · rw [if_neg h2, if_neg (by omega)]
  have loop1 : ∀ (d n : Nat) (w' : ma_W), n + d = xs.length → fr [p] [p + 1, p + 2, p + 3] w w' → w'.1 = w.1 → (∀ j, w'.2.2 (p + 1) j = if i * 10 ≤ j ∧ j < i * 10 + n then nI (xs.getD (j - i * 10) 0) else w.2.2 (p + 1) j) → w'.2.2 (p + 2) = w.2.2 (p + 2) → w'.2.2 (p + 3) = w.2.2 (p + 3) → Go 21 [some (.inr p), some (.inr q), some (.inr 1), some (.inl (nI n))] [] w' := by
    intro d
    induction d with
    | zero =>
      intro n w' hd hf hw hA1 hA2 hA3
      refine q_LI_addRow_21 hGo h0 h1 (pk_le xs.length n (fun _ => q_LI_addRow_54 hGo (loop2 6 0 w' (by omega) hf hw (fun j => ?_) hA2 (fun j => ?_))) (fun h => absurd h (by omega)) (by rw [hw]; exact hl) rfl (by omega) (by omega))
      · rw [hA1 j, show n = xs.length by omega]
      · rw [hA3, if_neg (by omega)]
    | succ d ih =>
      intro n w' hd hf hw hA1 hA2 hA3
      have hn : n < xs.length := by omega
      refine q_LI_addRow_21 hGo h0 h1 (pk_le xs.length n (fun h => absurd h (by omega)) (fun _ => i_RO_get h1 (by omega) ⟨i * 10 + n, by omega, by rw [hw, hc, nI_mul, nI_add], ?_⟩) (by rw [hw]; exact hl) rfl (by omega) (by omega))
      rw [nI_add]
      refine ih (n + 1) _ (by omega) (fr_a hf (by simp) _ _) hw (fun j => ?_) ?_ ?_
      · show ma_up w'.2.2 (p + 1) (i * 10 + n) _ (p + 1) j = _
        by_cases hj : j = i * 10 + n
        · subst hj
          rw [ma_up_s, if_pos (by omega), hf.2.2 (q + 1) (nm3 (by omega) (by omega) (by omega)), hr.2.2 n hn, show i * 10 + n - i * 10 = n by omega]
        · rw [ma_up_k _ _ _ _ hj, hA1 j]
          by_cases h2 : i * 10 ≤ j ∧ j < i * 10 + n
          · rw [if_pos h2, if_pos (by omega)]
          · rw [if_neg h2, if_neg (by omega)]
      · show ma_up w'.2.2 (p + 1) (i * 10 + n) _ (p + 2) = _
        rw [ma_up_q _ _ _ (by omega)]
        exact hA2
      · show ma_up w'.2.2 (p + 1) (i * 10 + n) _ (p + 3) = _
        rw [ma_up_q _ _ _ (by omega)]
        exact hA3
  refine q_LI_addRow_0 hGo h0 h1 (i_LI_isFull h0 hc (by omega) ?_)
  rw [decide_eq_false (by omega)]
  refine bI_ne (fun h => by cases h) (fun _ => i_RO_size h1 (pk_eq xs.length xs.length (fun _ => q_LI_addRow_19 hGo (loop1 xs.length 0 w (by omega) (fr_refl _ _ _) rfl (fun j => ?_) rfl rfl)) (fun h => absurd rfl h) hr.2.1 hl (by omega) (by omega)))
  rw [if_neg (by omega)]
