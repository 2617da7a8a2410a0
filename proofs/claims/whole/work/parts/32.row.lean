/-! CONTRACTS: Row -/
def T_RO_size : ma_T := fun as w post => ∃ p, as = [.inr p] ∧ zR p ∧ post (w.1 p 1) w
theorem i_RO_size {p : Nat} {w : ma_W} {post : ma_P} (h : zR p) (hp : post (w.1 p 1) w) : T_RO_size [.inr p] w post := ⟨p, rfl, h, hp⟩
theorem c_RO_size {l : Launch} : ma_Met l y_RO_size (w_RO_size :: zw_t) 0 true T_RO_size := by
  refine z_RO_size (by rintro as w post ⟨p, rfl, -⟩; simp) ?_
  rintro as w post ⟨p, rfl, h0, hp⟩ Go hGo
  exact q_RO_size_0 hGo h0 hp
def T_RO_has : ma_T := fun as w post => ∃ p x n, as = [.inr p, .inl x] ∧ zR p ∧ w.1 p 1 = nI n ∧ post (bI (hs x n)) w
theorem i_RO_has {p n : Nat} {x : Int32} {w : ma_W} {post : ma_P} (h : zR p) (hn : w.1 p 1 = nI n) (hp : post (bI (hs x n)) w) : T_RO_has [.inr p, .inl x] w post := ⟨p, x, n, rfl, h, hn, hp⟩
theorem c_RO_has {l : Launch} : ma_Met l y_RO_has (w_RO_has :: zw_t) 0 true T_RO_has := by
  refine z_RO_has (by rintro as w post ⟨p, x, n, rfl, -⟩; simp) ?_
  rintro as w post ⟨p, x, n, rfl, h0, hn, hp⟩ Go hGo
  refine q_RO_has_0 hGo h0 (hs_br hn (fun h => q_RO_has_16 hGo (q_RO_has_17 hGo ⟨bo0, ?_⟩)) (fun h => q_RO_has_17 hGo ⟨bo1, ?_⟩))
  · rw [h] at hp; exact hp
  · rw [h] at hp; exact hp
def T_RO_get : ma_T := fun as w post => ∃ p j, as = [.inr p, .inl (nI j)] ∧ zR p ∧ j < 10 ∧ post (w.2.2 (p + 1) j) w
theorem i_RO_get {p j : Nat} {w : ma_W} {post : ma_P} (h : zR p) (hj : j < 10) (hp : post (w.2.2 (p + 1) j) w) : T_RO_get [.inr p, .inl (nI j)] w post := ⟨p, j, rfl, h, hj, hp⟩
theorem c_RO_get {l : Launch} : ma_Met l y_RO_get (w_RO_get :: zw_t) 0 true T_RO_get := by
  refine z_RO_get (by rintro as w post ⟨p, j, rfl, -⟩; simp) ?_
  rintro as w post ⟨p, j, rfl, h0, hj, hp⟩ Go hGo
  exact q_RO_get_0 hGo h0 ⟨j, hj, rfl, hp⟩
def T_RO_last : ma_T := fun as w post => ∃ p xs, as = [.inr p] ∧ zR p ∧ ro w p xs ∧ post (nI (ce_last xs)) w
theorem i_RO_last {p : Nat} {xs : List Nat} {w : ma_W} {post : ma_P} (h : zR p) (hx : ro w p xs) (hp : post (nI (ce_last xs)) w) : T_RO_last [.inr p] w post := ⟨p, xs, rfl, h, hx, hp⟩
theorem c_RO_last {l : Launch} : ma_Met l y_RO_last (w_RO_last :: zw_t) 0 true T_RO_last := by
  refine z_RO_last (by rintro as w post ⟨p, xs, rfl, -⟩; simp) ?_
  rintro as w post ⟨p, xs, rfl, h0, hx, hp⟩ Go hGo
  have hl := hx.1
  refine q_RO_last_0 hGo h0 (pk_le xs.length 0 (fun h => ?_) (fun h => ?_) hx.2.1 rfl (by omega) (by omega))
  · obtain rfl : xs = [] := List.eq_nil_of_length_eq_zero (by omega)
    exact q_RO_last_21 hGo (q_RO_last_22 hGo hp)
  · refine ⟨xs.length - 1, by omega, ?_, q_RO_last_22 hGo ?_⟩
    · rw [hx.2.1, pk_sub (by omega)]
    · rw [hx.2.2 _ (by omega)]
      have e : ce_last xs = xs.getD (xs.length - 1) 0 := by
        unfold ce_last
        rw [List.getLast?_eq_getElem?, List.getD_eq_getElem?_getD]
      rw [← e]
      exact hp
def T_RO_clear : ma_T := fun as w post => ∃ p, as = [.inr p] ∧ zR p ∧ post 0 (ma_up w.1 p 1 (nI 0), w.2.1, w.2.2)
theorem i_RO_clear {p : Nat} {w : ma_W} {post : ma_P} (h : zR p) (hp : post 0 (ma_up w.1 p 1 (nI 0), w.2.1, w.2.2)) : T_RO_clear [.inr p] w post := ⟨p, rfl, h, hp⟩
theorem c_RO_clear {l : Launch} : ma_Met l y_RO_clear (w_RO_clear :: zw_t) 0 false T_RO_clear := by
  refine z_RO_clear (by rintro as w post ⟨p, rfl, -⟩; simp) ?_
  rintro as w post ⟨p, rfl, h0, hp⟩ Go hGo
  exact q_RO_clear_0 hGo h0 hp
def T_RO_add : ma_T := fun as w post => ∃ p x n, as = [.inr p, .inl x] ∧ zR p ∧ w.1 p 1 = nI n ∧ n < 10 ∧ post 0 (ma_up w.1 p 1 (nI (n + 1)), w.2.1, ma_up w.2.2 (p + 1) n x)
theorem i_RO_add {p n : Nat} {x : Int32} {w : ma_W} {post : ma_P} (h : zR p) (hn : w.1 p 1 = nI n) (h10 : n < 10) (hp : post 0 (ma_up w.1 p 1 (nI (n + 1)), w.2.1, ma_up w.2.2 (p + 1) n x)) : T_RO_add [.inr p, .inl x] w post := ⟨p, x, n, rfl, h, hn, h10, hp⟩
theorem c_RO_add {l : Launch} : ma_Met l y_RO_add (w_RO_add :: zw_t) 0 false T_RO_add := by
  refine z_RO_add (by rintro as w post ⟨p, x, n, rfl, -⟩; simp) ?_
  rintro as w post ⟨p, x, n, rfl, h0, hn, h10, hp⟩ Go hGo
  refine q_RO_add_0 hGo h0 (pk_le 10 n (fun h => absurd h (by omega)) (fun h => ⟨n, h10, hn, q_RO_add_29 hGo ?_⟩) rfl hn (by omega) (by omega))
  rw [hn, nI_add]
  exact hp
/-- a row without its place j -/
def T_RO_removeAt : ma_T := fun as w post => ∃ p j xs, as = [.inr p, .inl (nI j)] ∧ zR p ∧ ro w p xs ∧ j < xs.length ∧ ∀ w', fr [p] [p + 1] w w' → ro w' p (xs.eraseIdx j) → post 0 w'
theorem i_RO_removeAt {p j : Nat} {xs : List Nat} {w : ma_W} {post : ma_P} (h : zR p) (hx : ro w p xs) (hj : j < xs.length) (hp : ∀ w', fr [p] [p + 1] w w' → ro w' p (xs.eraseIdx j) → post 0 w') : T_RO_removeAt [.inr p, .inl (nI j)] w post := ⟨p, j, xs, rfl, h, hx, hj, hp⟩
theorem c_RO_removeAt {l : Launch} : ma_Met l y_RO_removeAt (w_RO_removeAt :: zw_t) 1 false T_RO_removeAt := by
  refine z_RO_removeAt c_RO_has (by decide) (by rintro as w post ⟨p, j, xs, rfl, -⟩; simp) ?_
  rintro as w post ⟨p, j, xs, rfl, h0, hx, hj, hp⟩ Go hGo
  have hl := hx.1
  have loop : ∀ (d n : Nat) (w' : ma_W), n + d = xs.length → j + 1 ≤ n → fr [p] [p + 1] w w' → w'.1 p 1 = nI xs.length → (∀ i, i < xs.length → w'.2.2 (p + 1) i = nI (xs.getD (if j ≤ i ∧ i + 1 < n then i + 1 else i) 0)) → Go 13 [some (.inr p), some (.inl (nI j)), some (.inl (nI n))] [] w' := by
    intro d
    induction d with
    | zero =>
      intro n w' hd hjn hf hlen ha
      refine q_RO_removeAt_13 hGo h0 (pk_le xs.length n (fun h => q_RO_removeAt_41 hGo h0 (hp _ (fr_f hf (by simp) _ _) ⟨?_, ?_, fun i hi => ?_⟩)) (fun h => absurd h (by omega)) hlen rfl (by omega) (by omega))
      · rw [List.length_eraseIdx_of_lt hj]; omega
      · show ma_up w'.1 p 1 _ p 1 = _
        rw [ma_up_s, hlen, pk_sub (by omega), List.length_eraseIdx_of_lt hj]
      · rw [List.length_eraseIdx_of_lt hj] at hi
        show w'.2.2 (p + 1) i = _
        rw [ha i (by omega), List.getD_eq_getElem?_getD, List.getD_eq_getElem?_getD, List.getElem?_eraseIdx]
        by_cases hij : i < j
        · rw [if_pos hij, if_neg (by omega)]
        · rw [if_neg hij, if_pos (by omega)]
    | succ d ih =>
      intro n w' hd hjn hf hlen ha
      refine q_RO_removeAt_13 hGo h0 (pk_le xs.length n (fun h => absurd h (by omega)) (fun h => ⟨n, by omega, rfl, n - 1, by omega, pk_sub (by omega), ?_⟩) hlen rfl (by omega) (by omega))
      rw [nI_add]
      refine ih (n + 1) _ (by omega) (by omega) (fr_a hf (by simp) _ _) hlen (fun i hi => ?_)
      show ma_up w'.2.2 (p + 1) (n - 1) (w'.2.2 (p + 1) n) (p + 1) i = _
      by_cases hin : i = n - 1
      · subst hin
        rw [ma_up_s, ha n (by omega), if_neg (by omega), if_pos (by omega)]
        congr 2
        omega
      · rw [ma_up_k _ _ _ _ hin, ha i hi]
        congr 2
        by_cases h1 : j ≤ i ∧ i + 1 < n
        · rw [if_pos h1, if_pos (by omega)]
        · rw [if_neg h1, if_neg (by omega)]
  refine q_RO_removeAt_0 hGo h0 (i_RO_has h0 hx.2.1 ?_)
  rw [hs_j hj (by omega)]
  refine bI_ne (fun _ => q_RO_removeAt_9 hGo ?_) (fun h => by cases h)
  rw [nI_add]
  refine loop (xs.length - (j + 1)) (j + 1) w (by omega) (Nat.le_refl _) (fr_refl _ _ _) hx.2.1 (fun i hi => ?_)
  rw [hx.2.2 i hi, if_neg (by omega)]
/-- two points change places in a mask -/
def sw (a b m : Nat) : Nat := if m.testBit a = m.testBit b then m else m ^^^ (2 ^ a ||| 2 ^ b)
theorem sw_lt : ∀ a, a < 6 → ∀ b, b < 6 → 2 ^ a ||| 2 ^ b < 64 := by decide +kernel
def T_RO_exchangePoints : ma_T := fun as w post => ∃ p a b xs, as = [.inr p, .inl (nI a), .inl (nI b)] ∧ zR p ∧ a < 6 ∧ b < 6 ∧ ro w p xs ∧ (∀ m ∈ xs, m < 64) ∧ ∀ w', fr [p] [p + 1] w w' → ro w' p (xs.map (sw a b)) → post 0 w'
theorem i_RO_exchangePoints {p a b : Nat} {xs : List Nat} {w : ma_W} {post : ma_P} (h : zR p) (ha : a < 6) (hb : b < 6) (hx : ro w p xs) (hm : ∀ m ∈ xs, m < 64) (hp : ∀ w', fr [p] [p + 1] w w' → ro w' p (xs.map (sw a b)) → post 0 w') : T_RO_exchangePoints [.inr p, .inl (nI a), .inl (nI b)] w post := ⟨p, a, b, xs, rfl, h, ha, hb, hx, hm, hp⟩
theorem c_RO_exchangePoints {l : Launch} : ma_Met l y_RO_exchangePoints (w_RO_exchangePoints :: zw_t) 0 false T_RO_exchangePoints := by
  refine z_RO_exchangePoints (by rintro as w post ⟨p, a, b, xs, rfl, -⟩; simp) ?_
  rintro as w post ⟨p, a, b, xs, rfl, h0, hal, hbl, hx, hm, hp⟩ Go hGo
  have hl := hx.1
  have hgm : ∀ i, i < xs.length → xs.getD i 0 < 64 := by
    intro i hi
    rw [List.getD_eq_getElem?_getD, List.getElem?_eq_getElem hi]
    exact hm _ (List.getElem_mem hi)
  have loop : ∀ (d n : Nat) (w' : ma_W) (o : Option ma_V), n + d = xs.length → fr [p] [p + 1] w w' → w'.1 p 1 = nI xs.length → (∀ i, i < xs.length → w'.2.2 (p + 1) i = nI (if i < n then sw a b (xs.getD i 0) else xs.getD i 0)) → Go 2 [some (.inr p), some (.inl (nI a)), some (.inl (nI b)), some (.inl (nI n)), o] [] w' := by
    intro d
    induction d with
    | zero =>
      intro n w' o hd hf hlen ha
      refine q_RO_exchangePoints_2 hGo h0 (pk_le xs.length n (fun h => q_RO_exchangePoints_67 hGo (hp _ hf ⟨?_, ?_, fun i hi => ?_⟩)) (fun h => absurd h (by omega)) hlen rfl (by omega) (by omega))
      · rw [List.length_map]; exact hl
      · rw [List.length_map]; exact hlen
      · rw [List.length_map] at hi
        rw [ha i hi, if_pos (by omega), List.getD_eq_getElem?_getD, List.getD_eq_getElem?_getD, List.getElem?_map, List.getElem?_eq_getElem hi]
        rfl
    | succ d ih =>
      intro n w' o hd hf hlen ha
      have hn : n < xs.length := by omega
      have hv : w'.2.2 (p + 1) n = nI (xs.getD n 0) := by rw [ha n hn, if_neg (by omega)]
      have hg := hgm n hn
      have next : ∀ (w'' : ma_W) (y : Int32), fr [p] [p + 1] w w'' → w''.1 p 1 = nI xs.length → (∀ i, i < xs.length → w''.2.2 (p + 1) i = nI (if i < n + 1 then sw a b (xs.getD i 0) else xs.getD i 0)) → Go 61 [some (.inr p), some (.inl (nI a)), some (.inl (nI b)), some (.inl (nI n)), some (.inl y)] [] w'' := by
        intro w'' y h1 h2 h3
        refine q_RO_exchangePoints_61 hGo ?_
        rw [nI_add]
        exact ih (n + 1) w'' _ (by omega) h1 h2 h3
      refine q_RO_exchangePoints_2 hGo h0 (pk_le xs.length n (fun h => absurd h (by omega)) (fun h => ⟨n, by omega, rfl, n, by omega, rfl, ?_⟩) hlen rfl (by omega) (by omega))
      rw [hv, bi_bit _ hg a (by omega), bi_bit _ hg b (by omega)]
      have same : ∀ o, ((xs.getD n 0).testBit a = (xs.getD n 0).testBit b) → Go 38 [some (.inr p), some (.inl (nI a)), some (.inl (nI b)), some (.inl (nI n)), o] [.inl (nI 0)] w' := by
        intro o he
        refine q_RO_exchangePoints_38 hGo h0 (pk_eq 0 0 (fun _ => next w' _ hf hlen (fun i hi => ?_)) (fun h => absurd rfl h))
        rw [ha i hi]
        congr 1
        by_cases hin : i = n
        · subst hin
          rw [if_neg (by omega), if_pos (by omega), sw, if_pos he]
        · by_cases h1 : i < n
          · rw [if_pos h1, if_pos (by omega)]
          · rw [if_neg h1, if_neg (by omega)]
      have diff : ∀ o, ¬ ((xs.getD n 0).testBit a = (xs.getD n 0).testBit b) → Go 38 [some (.inr p), some (.inl (nI a)), some (.inl (nI b)), some (.inl (nI n)), o] [.inl (nI 1)] w' := by
        intro o he
        refine q_RO_exchangePoints_38 hGo h0 (pk_eq 1 0 (fun h => absurd h (by omega)) (fun _ => ⟨n, by omega, rfl, n, by omega, rfl, next _ _ (fr_a hf (by simp) _ _) hlen (fun i hi => ?_)⟩))
        show ma_up w'.2.2 (p + 1) n _ (p + 1) i = _
        by_cases hin : i = n
        · subst hin
          rw [ma_up_s, hv, bi_one a (by omega), bi_one b (by omega), bi_or _ (Nat.pow_lt_pow_right (by decide) (by omega) : 2 ^ a < 2 ^ 6) _ (Nat.pow_lt_pow_right (by decide) (by omega) : 2 ^ b < 2 ^ 6), bi_xor _ hg _ (sw_lt a hal b hbl), if_pos (by omega), sw, if_neg he]
        · rw [ma_up_k _ _ _ _ hin, ha i hi]
          congr 1
          by_cases h1 : i < n
          · rw [if_pos h1, if_pos (by omega)]
          · rw [if_neg h1, if_neg (by omega)]
      cases ha2 : (xs.getD n 0).testBit a with
      | false =>
        cases hb2 : (xs.getD n 0).testBit b with
        | false => exact pk_eq 0 0 (fun _ => q_RO_exchangePoints_37 hGo (same _ (by rw [ha2, hb2]))) (fun h => absurd rfl h)
        | true => exact pk_eq 0 1 (fun h => absurd h (by omega)) (fun _ => diff _ (by rw [ha2, hb2]; decide))
      | true =>
        cases hb2 : (xs.getD n 0).testBit b with
        | false => exact pk_eq 1 0 (fun h => absurd h (by omega)) (fun _ => diff _ (by rw [ha2, hb2]; decide))
        | true => exact pk_eq 1 1 (fun _ => q_RO_exchangePoints_37 hGo (same _ (by rw [ha2, hb2]))) (fun h => absurd rfl h)
  refine q_RO_exchangePoints_0 hGo (loop xs.length 0 w _ (by omega) (fr_refl _ _ _) hx.2.1 (fun i hi => ?_))
  rw [hx.2.2 i hi, if_neg (by omega)]
