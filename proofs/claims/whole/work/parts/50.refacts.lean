/-! CONTRACTS: the reference, calls that act -/
/-- the hand has changed -/
theorem MI_upd {c : cs_} {xs ys : List Nat} {w w' : ma_W} (h : MI c xs w) (hf : fr [24] [29] w w') (hk : ∀ j, j ≠ 13 → w'.1 24 j = w.1 24 j) (hr : mh ys w') (hy : match c with
    | none => ys = []
    | some (v, k, _, _) => ∀ x ∈ ys, x ∈ fm_K v k) : MI c ys w' := by
  obtain ⟨a1, a2⟩ := h
  refine ⟨hr, ?_⟩
  match c, a2, hy with
  | none, ⟨b1, b2, b3, b4⟩, hy => exact ⟨hy, by rw [hk 0 (by decide)]; exact b2, by rw [hk 4 (by decide)]; exact b3, by rw [hk 9 (by decide)]; exact b4⟩
  | some (v, k, lam, n), ⟨b1, b2, b3, b4, b5, b6⟩, hy =>
    refine ⟨b1, b2, by rw [hk 3 (by decide)]; exact b3, ?_, ?_, hy⟩
    · unfold mg
      rw [hk 0 (by decide), hk 1 (by decide), hk 2 (by decide), hk 5 (by decide), hk 7 (by decide), hf.2.2 25 (by decide), hf.2.2 26 (by decide)]
      exact b4
    · unfold ml
      rw [hk 4 (by decide), hk 9 (by decide), hf.2.2 27 (by decide)]
      exact b5
theorem fM_29 {w w' : ma_W} (hf : fr [24] [29] w w') : frM w w' := frM_of hf (by decide) (by decide)
def T_MO_put : ma_T := fun as w post => ∃ c xs x, as = [.inr 24, .inl x] ∧ MI c xs w ∧ ∀ w', MI c (N_put c xs x) w' → frM w w' → post (A_put c xs x) w'
theorem c_MO_put {l : Launch} : ma_Met l y_MO_put (w_MO_put :: zw_t) 2 true T_MO_put := by
  refine z_MO_put c_MO_isBlock (by decide) (by rintro as w post ⟨c, xs, x, rfl, -⟩; simp) ?_
  rintro as w post ⟨c, xs, x, rfl, hM, hp⟩ Go hGo
  match c, hM, hp with
  | none, hM, hp => exact q_MO_put_0 hGo (Or.inl ⟨x, rfl, hM.2.2.1, bI_ne (b := false) (fun h => by cases h) (fun _ => hp w hM (frM_refl w))⟩)
  | some (v, k, lam, n), hM, hp =>
    obtain ⟨a1, b1, b2, b3, b4, b5, b6⟩ := id hM
    have hl := a1.1
    refine q_MO_put_0 hGo (Or.inr ⟨x, v, k, rfl, b1, b4, bI_ne (fun h => q_MO_put_11 hGo (pn_ne xs.length 10 (fun h1 => q_MO_put_23 hGo ⟨xs.length, by omega, a1.2.1, ?_⟩) (fun h1 => ?_) a1.2.1 rfl (by omega) (by omega))) (fun h => ?_)⟩)
    · have h1 : xs.length < 10 := by omega
      obtain ⟨m, hm, rfl⟩ := isb_t b1.2.1 h
      have hm64 := vk_64 b1 hm
      have hN : N_put (some (v, k, lam, n)) xs (nI m) = xs ++ [m] := by
        simp only [N_put, h, h1, and_self, if_true, nI_clamp (show m < 2 ^ 31 by omega)]
      have hA : A_put (some (v, k, lam, n)) xs (nI m) = nI (xs.length + 1) := by
        simp only [A_put, h, h1, if_true]
      rw [hN, hA] at hp
      rw [a1.2.1, nI_add]
      have hfr : fr [24] [29] w (ma_up w.1 24 13 (nI (xs.length + 1)), w.2.1, ma_up w.2.2 29 xs.length (nI m)) := fr_a (fr_f (fr_refl _ _ _) (by decide) 13 _) (by decide) _ _
      refine hp _ (MI_upd hM hfr (fun j hj => ma_up_k _ _ _ _ hj) ⟨by simp; omega, ?_, fun j hj => ?_⟩ (fun y hy => ?_)) (fM_29 hfr)
      · show nI (xs.length + 1) = _
        rw [List.length_append]
        rfl
      · by_cases hjl : j = xs.length
        · subst hjl
          rw [gd_app_r]
          exact ma_up_s _ _ _ _
        · have hj2 : j < xs.length := by
            rw [List.length_append, List.length_singleton] at hj
            omega
          rw [gd_app_l hj2]
          exact (ma_up_k _ _ _ _ hjl).trans (a1.2.2 j hj2)
      · rcases List.mem_append.mp hy with h2 | h2
        · exact b6 y h2
        · rw [List.mem_singleton.mp h2]; exact hm
    · have hN : N_put (some (v, k, lam, n)) xs x = xs := by
        simp only [N_put]
        rw [if_neg (fun z => absurd z.2 (by omega))]
      have hA : A_put (some (v, k, lam, n)) xs x = Int32.ofInt (-5) := by
        simp only [A_put, h, if_true]
        rw [if_neg (by omega)]
      rw [hN, hA] at hp
      exact hp w hM (frM_refl w)
    · have hN : N_put (some (v, k, lam, n)) xs x = xs := by
        simp only [N_put]
        rw [if_neg (fun z => by rw [h] at z; cases z.1)]
      have hA : A_put (some (v, k, lam, n)) xs x = Int32.ofInt (-2) := by
        simp only [A_put]
        rw [if_neg (by rw [h]; decide)]
      rw [hN, hA] at hp
      exact hp w hM (frM_refl w)
theorem hs_br2 {x y : Int32} {n : Nat} {A B : Prop} (hy : y = nI n) (f : hs x n = false → A) (g : hs x n = true → B) : (x < nI 0 → A) ∧ (¬ (x < nI 0) → (x < y → B) ∧ (¬ (x < y) → A)) := by
  subst hy
  exact ⟨fun h => f (hs_f1 h), fun h1 => ⟨fun h => g (hs_t2 h1 (Int32.not_le.mpr h)), fun h => f (hs_f2 (Int32.not_lt.mp h))⟩⟩
def T_MO_drop : ma_T := fun as w post => ∃ c xs x, as = [.inr 24, .inl x] ∧ MI c xs w ∧ ∀ w', MI c (N_drop xs x) w' → frM w w' → post (bI (A_drop xs x)) w'
theorem c_MO_drop {l : Launch} : ma_Met l y_MO_drop (w_MO_drop :: zw_t) 0 true T_MO_drop := by
  refine z_MO_drop (by rintro as w post ⟨c, xs, x, rfl, -⟩; simp) ?_
  rintro as w post ⟨c, xs, x, rfl, hM, hp⟩ Go hGo
  have ha := hM.1
  have hl := ha.1
  refine q_MO_drop_0 hGo (hs_br2 ha.2.1 (fun h => q_MO_drop_12 hGo ⟨bo0, ?_⟩) (fun h => q_MO_drop_14 hGo ?_))
  · rw [N_drop, if_neg (by rw [h]; decide), A_drop, h] at hp
    exact hp w hM (frM_refl w)
  · rw [N_drop, if_pos h, A_drop, h] at hp
    obtain ⟨j, hj, rfl⟩ := hs_t (by omega) h
    rw [nI_clamp (by omega)] at hp
    rw [ha.2.1, pk_sub (by omega)]
    have loop : ∀ (d n : Nat) (w' : ma_W), n + d = xs.length - 1 → j ≤ n → fr [24] [29] w w' → (∀ i, i ≠ 13 → w'.1 24 i = w.1 24 i) → w'.1 24 13 = nI (xs.length - 1) → (∀ i, i < xs.length → w'.2.2 29 i = nI (xs.getD (if j ≤ i ∧ i < n then i + 1 else i) 0)) → Go 26 [some (.inr 24), some (.inl (nI j)), some (.inl (nI n))] [] w' := by
      intro d
      induction d with
      | zero =>
        intro n w' hd hjn hf hk h13 hv
        refine q_MO_drop_26 hGo (pk_le (xs.length - 1) n (fun _ => q_MO_drop_54 hGo ⟨bo1, hp w' (MI_upd hM hf hk ⟨?_, ?_, fun i hi => ?_⟩ ?_) (fM_29 hf)⟩) (fun h => absurd h (by omega)) h13 rfl (by omega) (by omega))
        · rw [List.length_eraseIdx_of_lt hj]; omega
        · rw [h13, List.length_eraseIdx_of_lt hj]
        · rw [List.length_eraseIdx_of_lt hj] at hi
          rw [hv i (by omega), List.getD_eq_getElem?_getD, List.getD_eq_getElem?_getD, List.getElem?_eraseIdx]
          by_cases hij : i < j
          · rw [if_pos hij, if_neg (by omega)]
          · rw [if_neg hij, if_pos (by omega)]
        · obtain ⟨-, a3⟩ := hM
          match c, a3 with
          | none, ⟨b1, _⟩ => rw [b1] at hj; exact absurd hj (Nat.not_lt_zero j)
          | some (v, k, lam, n), ⟨_, _, _, _, _, b6⟩ => exact fun y hy => b6 y (List.mem_of_mem_eraseIdx hy)
      | succ d ih =>
        intro n w' hd hjn hf hk h13 hv
        refine q_MO_drop_26 hGo (pk_le (xs.length - 1) n (fun h => absurd h (by omega)) (fun _ => ⟨n + 1, by omega, by rw [nI_add], n, by omega, rfl, ?_⟩) h13 rfl (by omega) (by omega))
        rw [nI_add]
        refine ih (n + 1) _ (by omega) (by omega) (fr_a hf (by decide) _ _) hk h13 (fun i hi => ?_)
        by_cases hin : i = n
        · subst hin
          refine (ma_up_s _ _ _ _).trans ?_
          rw [hv (i + 1) (by omega), if_neg (by omega), if_pos (by omega)]
        · refine (ma_up_k _ _ _ _ hin).trans ?_
          rw [hv i hi]
          by_cases h1 : j ≤ i ∧ i < n
          · rw [if_pos h1, if_pos (by omega)]
          · rw [if_neg h1, if_neg (by omega)]
    refine loop (xs.length - 1 - j) j _ (by omega) (Nat.le_refl _) (fr_f (fr_refl _ _ _) (by decide) 13 _) (fun i hi => ma_up_k _ _ _ _ hi) rfl (fun i hi => ?_)
    rw [if_neg (by omega)]
    exact ha.2.2 i hi
theorem bi_sw : (List.range 64).all (fun m => (List.range 6).all (fun p => (List.range 6).all (fun q => decide ((((((nI m) &&& (((nI 1) <<< ((nI p) &&& 31)) ^^^ (Int32.ofInt (-1)))) &&& (((nI 1) <<< ((nI q) &&& 31)) ^^^ (Int32.ofInt (-1)))) ||| ((((nI m) >>> ((nI p) &&& 31)) &&& (nI 1)) <<< ((nI q) &&& 31))) ||| ((((nI m) >>> ((nI q) &&& 31)) &&& (nI 1)) <<< ((nI p) &&& 31))) = nI (sw p q m))))) = true := by decide +kernel
theorem bi_sw' {m p q : Nat} (hm : m < 64) (hp : p < 6) (hq : q < 6) : (((((nI m) &&& (((nI 1) <<< ((nI p) &&& 31)) ^^^ (Int32.ofInt (-1)))) &&& (((nI 1) <<< ((nI q) &&& 31)) ^^^ (Int32.ofInt (-1)))) ||| ((((nI m) >>> ((nI p) &&& 31)) &&& (nI 1)) <<< ((nI q) &&& 31))) ||| ((((nI m) >>> ((nI q) &&& 31)) &&& (nI 1)) <<< ((nI p) &&& 31))) = nI (sw p q m) :=
  of_decide_eq_true (List.all_eq_true.mp (List.all_eq_true.mp (List.all_eq_true.mp bi_sw m (List.mem_range.mpr hm)) p (List.mem_range.mpr hp)) q (List.mem_range.mpr hq))
def T_MO_swap : ma_T := fun as w post => ∃ c xs x y, as = [.inr 24, .inl x, .inl y] ∧ MI c xs w ∧ ∀ w', MI c (N_swap c xs x y) w' → frM w w' → post (bI (A_swap c x y)) w'
theorem c_MO_swap {l : Launch} : ma_Met l y_MO_swap (w_MO_swap :: zw_t) 1 true T_MO_swap := by
  refine z_MO_swap c_MO_isPoint (by decide) (by rintro as w post ⟨c, xs, x, y, rfl, -⟩; simp) ?_
  rintro as w post ⟨c, xs, x, y, rfl, hM, hp⟩ Go hGo
  obtain ⟨-, -, -, -, hv6⟩ := MI_c hM
  obtain ⟨b, p1, p2, p3⟩ := MI_p hM
  have no : (hs x (vv c) && hs y (vv c)) = false → ∀ o3 o4 o5 o6, Go 16 [some (.inr 24), some (.inl x), some (.inl y), o3, o4, o5, o6] [] w := by
    intro h o3 o4 o5 o6
    refine q_MO_swap_16 hGo ⟨bo0, ?_⟩
    rw [N_swap, if_neg (by rw [h]; decide), A_swap, h] at hp
    exact hp w hM (frM_refl w)
  refine q_MO_swap_0 hGo (i_MO_isPoint p1 p2 p3 (bI_eq (fun h => no (by rw [h]; rfl) _ _ _ _) (fun hx => i_MO_isPoint p1 p2 p3 (bI_ne (fun hy => q_MO_swap_18 hGo ?_) (fun h => no (by rw [h, Bool.and_false]) _ _ _ _)))))
  have hh : (hs x (vv c) && hs y (vv c)) = true := by rw [hx, hy]; rfl
  rw [N_swap, if_pos hh, A_swap, hh] at hp
  obtain ⟨a, ha, rfl⟩ := hs_t (by omega) hx
  obtain ⟨b, hb, rfl⟩ := hs_t (by omega) hy
  rw [nI_clamp (by omega), nI_clamp (by omega)] at hp
  match c, hM, hp, ha, hb with
  | none, _, _, ha, _ => exact absurd ha (Nat.not_lt_zero a)
  | some (v, k, lam, n), hM, hp, ha, hb =>
    have ha : a < v := ha
    have hb : b < v := hb
    have hv6 : v ≤ 6 := hv6
    obtain ⟨a1, b1, b2, b3, b4, b5, b6⟩ := id hM
    have hl := a1.1
    obtain ⟨s1, s2, s3⟩ := sw_keep b1 ha hb b6
    have h64 := K64 b1 b6
    have loop : ∀ (d n : Nat) (w' : ma_W) (o4 o5 o6 : Option ma_V), n + d = xs.length → fr [24] [29] w w' → (∀ j, w'.1 24 j = w.1 24 j) → (∀ i, i < xs.length → w'.2.2 29 i = nI (if i < n then sw a b (xs.getD i 0) else xs.getD i 0)) → Go 20 [some (.inr 24), some (.inl (nI a)), some (.inl (nI b)), some (.inl (nI n)), o4, o5, o6] [] w' := by
      intro d
      induction d with
      | zero =>
        intro n w' o4 o5 o6 hd hf hk hv
        have k13 : w'.1 24 13 = nI xs.length := by rw [hk]; exact a1.2.1
        refine q_MO_swap_20 hGo (pk_le xs.length n (fun _ => q_MO_swap_96 hGo ⟨bo1, hp w' (MI_upd hM hf (fun j _ => hk j) ⟨?_, ?_, fun i hi => ?_⟩ s1) (fM_29 hf)⟩) (fun h => absurd h (by omega)) k13 rfl (by omega) (by omega))
        · rw [List.length_map]; exact hl
        · rw [List.length_map]; exact k13
        · rw [List.length_map] at hi
          rw [hv i hi, if_pos (by omega), List.getD_eq_getElem?_getD, List.getD_eq_getElem?_getD, List.getElem?_map, List.getElem?_eq_getElem hi]
          rfl
      | succ d ih =>
        intro n w' o4 o5 o6 hd hf hk hv
        have hn : n < xs.length := by omega
        have k13 : w'.1 24 13 = nI xs.length := by rw [hk]; exact a1.2.1
        have hg := gx64 h64 hn
        have hvn : w'.2.2 29 n = nI (xs.getD n 0) := by rw [hv n hn, if_neg (by omega)]
        refine q_MO_swap_20 hGo (pk_le xs.length n (fun h => absurd h (by omega)) (fun _ => ⟨n, by omega, rfl, n, by omega, rfl, n, by omega, rfl, n, by omega, rfl, ?_⟩) k13 rfl (by omega) (by omega))
        rw [hvn, bi_sw' hg (by omega) (by omega), nI_add]
        refine ih (n + 1) _ _ _ _ (by omega) (fr_a hf (by decide) _ _) hk (fun i hi => ?_)
        by_cases hin : i = n
        · subst hin
          rw [if_pos (by omega)]
          exact ma_up_s _ _ _ _
        · refine (ma_up_k _ _ _ _ hin).trans ?_
          rw [hv i hi]
          by_cases h1 : i < n
          · rw [if_pos h1, if_pos (by omega)]
          · rw [if_neg h1, if_neg (by omega)]
    exact loop xs.length 0 w _ _ _ (by omega) (fr_refl _ _ _) (fun _ => rfl) (fun i hi => by rw [if_neg (by omega)]; exact a1.2.2 i hi)
def T_MO_copy : ma_T := fun as w post => ∃ c xs x, as = [.inr 24, .inl x] ∧ MI c xs w ∧ ∀ w', MI c (N_copy c xs x) w' → frM w w' → post (bI (A_copy c x)) w'
theorem c_MO_copy {l : Launch} : ma_Met l y_MO_copy (w_MO_copy :: zw_t) 1 true T_MO_copy := by
  refine z_MO_copy c_MO_isEntry (by decide) (by rintro as w post ⟨c, xs, x, rfl, -⟩; simp) ?_
  rintro as w post ⟨c, xs, x, rfl, hM, hp⟩ Go hGo
  obtain ⟨h9, h4, h60, h10, -⟩ := MI_c hM
  refine q_MO_copy_0 hGo (i_MO_isEntry h9 (bI_ne (fun h => q_MO_copy_10 hGo ?_) (fun h => ⟨bo0, ?_⟩)))
  · rw [N_copy, if_pos h, A_copy, h] at hp
    obtain ⟨i, hi, rfl⟩ := hs_t (by omega) h
    rw [e_at, nI_clamp (by omega)] at hp
    obtain ⟨v, k, lam, n, rfl, hv, hlam, h3, hg, hl, hi2⟩ := MI_e hM hi
    obtain ⟨hi60, he10, he4, hea, he64, heK⟩ := ml_at hv hl hi2
    have hp : ∀ w', MI (some (v, k, lam, n)) ((ce_L v k lam n).getD i []) w' → frM w w' → post (bI true) w' := hp
    obtain ⟨e, hee⟩ : ∃ e, (ce_L v k lam n).getD i [] = e := ⟨_, rfl⟩
    rw [hee] at he10 he4 hea he64 heK hp
    rw [he4]
    have loop : ∀ (d n : Nat) (w' : ma_W), n + d = e.length → fr [24] [29] w w' → (∀ j, j ≠ 13 → w'.1 24 j = w.1 24 j) → w'.1 24 13 = nI e.length → (∀ j, j < n → w'.2.2 29 j = nI (e.getD j 0)) → Go 20 [some (.inr 24), some (.inl (nI i)), some (.inl (nI n))] [] w' := by
      intro d
      induction d with
      | zero =>
        intro n w' hd hf hk h13 hv
        exact q_MO_copy_20 hGo (pk_le e.length n (fun _ => q_MO_copy_51 hGo ⟨bo1, hp w' (MI_upd hM hf hk ⟨he10, h13, fun j hj => hv j (by omega)⟩ heK) (fM_29 hf)⟩) (fun h => absurd h (by omega)) h13 rfl (by omega) (by omega))
      | succ d ih =>
        intro n w' hd hf hk h13 hv
        refine q_MO_copy_20 hGo (pk_le e.length n (fun h => absurd h (by omega)) (fun _ => ⟨10 * i + n, by omega, by rw [nI_mul, nI_add], n, by omega, rfl, ?_⟩) h13 rfl (by omega) (by omega))
        rw [nI_add]
        refine ih (n + 1) _ (by omega) (fr_a hf (by decide) _ _) hk h13 (fun j hj => ?_)
        by_cases hjn : j = n
        · subst hjn
          refine (ma_up_s _ _ _ _).trans ?_
          rw [hf.2.2 27 (by decide)]
          exact hea j (by omega)
        · exact (ma_up_k _ _ _ _ hjn).trans (hv j (by omega))
    exact loop e.length 0 _ (by omega) (fr_f (fr_refl _ _ _) (by decide) 13 _) (fun j hj => ma_up_k _ _ _ _ hj) rfl (fun j hj => absurd hj (Nat.not_lt_zero j))
  · rw [N_copy, if_neg (by rw [h]; decide), A_copy, h] at hp
    exact hp w hM (frM_refl w)
def T_MO_hand : ma_T := fun as w post => ∃ c xs x, as = [.inr 24, .inl x] ∧ MI c xs w ∧ post (A_hand xs x) w
theorem c_MO_hand {l : Launch} : ma_Met l y_MO_hand (w_MO_hand :: zw_t) 0 true T_MO_hand := by
  refine z_MO_hand (by rintro as w post ⟨c, xs, x, rfl, -⟩; simp) ?_
  rintro as w post ⟨c, xs, x, rfl, hM, hp⟩ Go hGo
  have ha := hM.1
  have hl := ha.1
  refine q_MO_hand_0 hGo (hs_br ha.2.1 (fun h => q_MO_hand_21 hGo (q_MO_hand_22 hGo ?_)) (fun h => ?_))
  · rw [A_hand, if_neg (by rw [h]; decide)] at hp
    exact hp
  · rw [A_hand, if_pos h] at hp
    obtain ⟨j, hj, rfl⟩ := hs_t (by omega) h
    rw [nI_clamp (by omega)] at hp
    refine ⟨j, by omega, rfl, q_MO_hand_22 hGo ?_⟩
    rw [ha.2.2 j hj]
    exact hp
def T_MO_symmetries : ma_T := fun as w post => ∃ c xs, as = [.inr 24] ∧ MI c xs w ∧ ∀ w', MI c xs w' → frM w w' → post (A_symmetries c xs) w'
theorem c_MO_symmetries {l : Launch} : ma_Met l y_MO_symmetries (w_MO_symmetries :: zw_t) 3 true T_MO_symmetries := by
  refine z_MO_symmetries c_MO_lookAtHand (by decide) c_MO_keepers (by decide) (by rintro as w post ⟨c, xs, rfl, -⟩; simp) ?_
  rintro as w post ⟨c, xs, rfl, hM, hp⟩ Go hGo
  match c, hM, hp with
  | none, hM, hp => exact q_MO_symmetries_0 hGo (bI_an (b := false) hM.2.2.1 (fun h => by cases h) (fun _ => hp w hM (frM_refl w)))
  | some (v, k, lam, n), hM, hp =>
    obtain ⟨a1, b1, b2, b3, b4, b5, b6⟩ := id hM
    have hl := a1.1
    exact q_MO_symmetries_0 hGo (bI_an (b := true) b4.1 (fun _ => q_MO_symmetries_9 hGo (i_MO_lookAtHand a1 (K64 b1 b6) (fun w1 f1 t1 => i_MO_keepers b1 (mg_fr b4 f1 (by decide) (by decide)) t1 (by omega) (hp w1 (MI_30 hM f1) (fM_30 f1))))) (fun h => by cases h))
/-! the block at a place of a form -/
theorem unp_pre (K : List Nat) (u : List Int) {b c : Nat} (h : b ≤ c) : ∃ l, unp K u c = unp K u b ++ l := by
  induction c with
  | zero => obtain rfl : b = 0 := by omega
            exact ⟨[], by simp⟩
  | succ c ih =>
    by_cases hb : b = c + 1
    · subst hb; exact ⟨[], by simp⟩
    · obtain ⟨l, hl⟩ := ih (by omega)
      exact ⟨l ++ List.replicate (u.getD c 0).toNat (K.getD c 0), by rw [unp_s, hl, List.append_assoc]⟩
theorem un_at {K : List Nat} {u : List Int} {b j : Nat} (hb : b < K.length) (h1 : (unp K u b).length ≤ j) (h2 : j < (unp K u b).length + (u.getD b 0).toNat) : (sp_un K u).getD j 0 = K.getD b 0 := by
  obtain ⟨l, hl⟩ := unp_pre K u (show b + 1 ≤ K.length by omega)
  have e : sp_un K u = unp K u K.length := rfl
  rw [e, hl, unp_s, List.append_assoc, List.getD_eq_getElem?_getD, List.getElem?_append_right h1, List.getElem?_append_left (by rw [List.length_replicate]; omega), List.getElem?_replicate_of_lt (by omega)]
  rfl
def T_MO_rowed : ma_T := fun as w post => ∃ v k xs i j, as = [.inr 24, .inl (nI i), .inl (nI j)] ∧ vk v k ∧ mg v k w ∧ tm xs w ∧ xs.length ≤ 10 ∧ (∀ x ∈ xs, x ∈ fm_K v k) ∧ i < fc v ∧ j < xs.length ∧ post (nI ((sp_un (fm_K v k) (rw_ v k xs i)).getD j 0)) w
theorem i_MO_rowed {v k i j : Nat} {xs : List Nat} {w : ma_W} {post : ma_P} (hv : vk v k) (hg : mg v k w) (ht : tm xs w) (hx : xs.length ≤ 10) (hK : ∀ x ∈ xs, x ∈ fm_K v k) (hi : i < fc v) (hj : j < xs.length) (hp : post (nI ((sp_un (fm_K v k) (rw_ v k xs i)).getD j 0)) w) : T_MO_rowed [.inr 24, .inl (nI i), .inl (nI j)] w post := ⟨v, k, xs, i, j, rfl, hv, hg, ht, hx, hK, hi, hj, hp⟩
theorem c_MO_rowed {l : Launch} : ma_Met l y_MO_rowed (w_MO_rowed :: zw_t) 1 true T_MO_rowed := by
  refine z_MO_rowed c_MO_image (by decide) (by rintro as w post ⟨v, k, xs, i, j, rfl, -⟩; simp) ?_
  rintro as w post ⟨v, k, xs, i, j, rfl, hv, hg, ht, hx, hK, hi, hj, hp⟩ Go hGo
  obtain ⟨h3, h6, -, -⟩ := id hv
  have h20 := vk_20 hv
  have h25 := hg.2.2.2.2.2.1
  have hul : (unp (fm_K v k) (rw_ v k xs i) (fm_K v k).length).length = xs.length := un_len (pi_perm h3 h6 hi) hK
  have loop : ∀ (d b : Nat), b + d = (fm_K v k).length → (unp (fm_K v k) (rw_ v k xs i) b).length ≤ j → Go 5 [some (.inr 24), some (.inl (nI i)), some (.inl (nI j)), some (.inl (nI (j - (unp (fm_K v k) (rw_ v k xs i) b).length))), some (.inl (nI b))] [] w := by
    intro d
    induction d with
    | zero =>
      intro b hd hle
      rw [show b = (fm_K v k).length by omega, hul] at hle
      omega
    | succ d ih =>
      intro b hd hle
      have hb : b < (fm_K v k).length := by omega
      have hm := K_mem hb
      have hm64 := vk_64 hv hm
      have ha := vk_64 hv (fm_K_im (pi_perm h3 h6 hi) hm)
      have hc : xs.count (pm_im (pi_ v i) ((fm_K v k).getD b 0)) ≤ xs.length := List.count_le_length
      have hus := unp_s (fm_K v k) (rw_ v k xs i) b
      have hrw : ((rw_ v k xs i).getD b 0).toNat = xs.count (pm_im (pi_ v i) ((fm_K v k).getD b 0)) := by rw [rw_at hb]; rfl
      rw [hrw] at hus
      have hsl : (unp (fm_K v k) (rw_ v k xs i) (b + 1)).length = (unp (fm_K v k) (rw_ v k xs i) b).length + xs.count (pm_im (pi_ v i) ((fm_K v k).getD b 0)) := by rw [hus, List.length_append, List.length_replicate]
      refine q_MO_rowed_5 hGo (pk_le (fm_K v k).length b (fun h => absurd h (by omega)) (fun _ => ⟨b, by omega, rfl, ?_⟩) hg.2.2.2.1 rfl (by omega) (by omega))
      rw [h25 b hb]
      refine i_MO_image hv hg hm64 hi ⟨_, ha, rfl, ?_⟩
      rw [ht _ ha]
      by_cases hlt : xs.count (pm_im (pi_ v i) ((fm_K v k).getD b 0)) ≤ j - (unp (fm_K v k) (rw_ v k xs i) b).length
      · rw [pk_sub hlt]
        refine pk_le 0 _ (fun _ => q_MO_rowed_46 hGo ?_) (fun h => absurd h (by omega)) rfl rfl (by omega) (by omega)
        rw [nI_add, show j - (unp (fm_K v k) (rw_ v k xs i) b).length - xs.count (pm_im (pi_ v i) ((fm_K v k).getD b 0)) = j - (unp (fm_K v k) (rw_ v k xs i) (b + 1)).length by omega]
        exact ih (b + 1) (by omega) (by omega)
      · have hneg : nI (j - (unp (fm_K v k) (rw_ v k xs i) b).length) - nI (xs.count (pm_im (pi_ v i) ((fm_K v k).getD b 0))) < 0 := pk_sneg (by omega) (by omega)
        have hnle : ¬ nI 0 ≤ nI (j - (unp (fm_K v k) (rw_ v k xs i) b).length) - nI (xs.count (pm_im (pi_ v i) ((fm_K v k).getD b 0))) := by
          rw [nI_0]
          exact Int32.not_le.mpr hneg
        refine ⟨fun h => absurd h hnle, fun _ => ⟨b, by omega, rfl, ?_⟩⟩
        rw [h25 b hb, ← un_at hb hle (by rw [hrw]; omega)]
        exact hp
  have h0 := loop (fm_K v k).length 0 (by omega) (by show 0 ≤ j; omega)
  exact q_MO_rowed_0 hGo h0
def T_MO_formed : ma_T := fun as w post => ∃ c xs x, as = [.inr 24, .inl x] ∧ MI c xs w ∧ ∀ w', MI c xs w' → frM w w' → post (A_formed c xs x) w'
theorem c_MO_formed {l : Launch} : ma_Met l y_MO_formed (w_MO_formed :: zw_t) 3 true T_MO_formed := by
  refine z_MO_formed c_MO_lookAtHand (by decide) c_MO_leastOne (by decide) c_MO_rowed (by decide) (by rintro as w post ⟨c, xs, x, rfl, -⟩; simp) ?_
  rintro as w post ⟨c, xs, x, rfl, hM, hp⟩ Go hGo
  have ha := hM.1
  have hl := ha.1
  refine q_MO_formed_0 hGo (hs_br2 ha.2.1 (fun h => q_MO_formed_12 hGo ?_) (fun h => q_MO_formed_14 hGo ?_))
  · have h9 := hp w hM (frM_refl w)
    match c, h9 with
    | none, h9 => exact h9
    | some (v, k, lam, n), h9 =>
      simp only [A_formed] at h9
      rw [if_neg (by rw [h]; decide)] at h9
      exact h9
  · obtain ⟨j, hj, rfl⟩ := hs_t (by omega) h
    match c, hM, hp with
    | none, hM, _ =>
      have e := hM.2.1
      rw [e] at hj
      exact absurd hj (Nat.not_lt_zero j)
    | some (v, k, lam, n), hM, hp =>
      obtain ⟨a1, b1, b2, b3, b4, b5, b6⟩ := id hM
      refine i_MO_lookAtHand a1 (K64 b1 b6) (fun w1 f1 t1 => i_MO_leastOne b1 (mg_fr b4 f1 (by decide) (by decide)) t1 (by omega) (fun b hb hbm => i_MO_rowed b1 (mg_fr b4 f1 (by decide) (by decide)) t1 hl b6 hb hj ?_))
      rw [hbm]
      have h9 := hp w1 (MI_30 hM f1) (fM_30 f1)
      simp only [A_formed, h, if_true, nI_clamp (show j < 2 ^ 31 by omega)] at h9
      exact h9
def T_MO_find : ma_T := fun as w post => ∃ c xs, as = [.inr 24] ∧ MI c xs w ∧ ∀ w', MI c xs w' → frM w w' → post (A_find c xs) w'
theorem c_MO_find {l : Launch} : ma_Met l y_MO_find (w_MO_find :: zw_t) 3 true T_MO_find := by
  refine z_MO_find c_MO_lookAtHand (by decide) c_MO_leastOne (by decide) c_MO_rowed (by decide) (by rintro as w post ⟨c, xs, rfl, -⟩; simp) ?_
  rintro as w post ⟨c, xs, rfl, hM, hp⟩ Go hGo
  match c, hM, hp with
  | none, hM, hp => exact q_MO_find_0 hGo (bI_at (b := false) hM.2.2.1 (fun _ => q_MO_find_18 hGo (hp w hM (frM_refl w))) (fun h => by cases h))
  | some (v, k, lam, n), hM, hp =>
    obtain ⟨a1, b1, b2, b3, b4, b5, b6⟩ := id hM
    have hl := a1.1
    have hn10 := b5.2.1
    have h60 := b5.1
    refine q_MO_find_0 hGo (bI_at (b := true) b4.1 (fun h => by cases h) (fun _ => pk_eq xs.length n (fun h => q_MO_find_20 hGo ?_) (fun h => q_MO_find_18 hGo ?_) a1.2.1 b5.2.2.1 (by omega) (by omega)))
    · refine i_MO_lookAtHand a1 (K64 b1 b6) (fun w1 f1 t1 => i_MO_leastOne b1 (mg_fr b4 f1 (by decide) (by decide)) t1 (by omega) (fun b hb hbm => ?_))
      have hg1 := mg_fr b4 f1 (by decide) (by decide)
      have hl1 := ml_fr b5 f1 (by decide)
      have h9 := hp w1 (MI_30 hM f1) (fM_30 f1)
      simp only [A_find, h, if_true] at h9
      have hfl : (fo_ v k xs).length = n := by rw [← h]; exact un_len_max b6
      have hf64 : ∀ x ∈ fo_ v k xs, x < 64 := K64 b1 un_K
      have outer : ∀ (d i : Nat) (o3 o4 : Option ma_V), i + d = (ce_L v k lam n).length → fi (fo_ v k xs) ((ce_L v k lam n).drop i) i = fi (fo_ v k xs) (ce_L v k lam n) 0 → Go 31 [some (.inr 24), some (.inl (nI b)), some (.inl (nI i)), o3, o4] [] w1 := by
        intro d
        induction d with
        | zero =>
          intro i o3 o4 hd he
          refine q_MO_find_31 hGo (pk_le (ce_L v k lam n).length i (fun _ => q_MO_find_103 hGo ?_) (fun h => absurd h (by omega)) hl1.2.2.2.1 rfl (by omega) (by omega))
          rw [← he, List.drop_eq_nil_of_le (by omega)] at h9
          exact h9
        | succ d ih =>
          intro i o3 o4 hd he
          have hi : i < (ce_L v k lam n).length := by omega
          rw [List.drop_eq_getElem_cons hi, fi_cons, ← gd_at (d := []) hi] at he
          obtain ⟨g1, g2, g3⟩ := hl1.2.2.2.2 i hi
          obtain ⟨e, hee⟩ : ∃ e, (ce_L v k lam n).getD i [] = e := ⟨_, rfl⟩
          rw [hee] at he g1 g2 g3
          have e64 := K64 b1 g2
          have fin : ∀ (g : Bool) (x4 : Int32), (g = true → e = fo_ v k xs) → (g = false → ¬ e = fo_ v k xs) → Go 91 [some (.inr 24), some (.inl (nI b)), some (.inl (nI i)), some (.inl (bI g)), some (.inl x4)] [] w1 := by
            intro g x4 k1 k2
            refine q_MO_find_91 hGo (bI_eq (fun hg => q_MO_find_97 hGo ?_) (fun hg => ?_))
            · rw [nI_add]
              rw [if_neg (k2 hg)] at he
              exact ih (i + 1) _ _ (by omega) he
            · rw [if_pos (k1 hg)] at he
              rw [← he] at h9
              exact h9
          have inner : ∀ (c j : Nat) (g : Bool), j + c = n → (g = true → ∀ x, x < j → e.getD x 0 = (fo_ v k xs).getD x 0) → (g = false → ¬ e = fo_ v k xs) → Go 44 [some (.inr 24), some (.inl (nI b)), some (.inl (nI i)), some (.inl (bI g)), some (.inl (nI j))] [] w1 := by
            intro c
            induction c with
            | zero =>
              intro j g hc k1 k2
              refine q_MO_find_44 hGo (pk_le n j (fun _ => fin g _ (fun hg => ?_) k2) (fun h => absurd h (by omega)) hl1.2.2.1 rfl (by omega) (by omega))
              apply List.ext_getElem (by rw [g1, hfl])
              intro x hx1 hx2
              have := k1 hg x (by omega)
              rw [gd_at hx1, gd_at hx2] at this
              exact this
            | succ c ihc =>
              intro j g hc k1 k2
              refine q_MO_find_44 hGo (pk_le n j (fun h => absurd h (by omega)) (fun _ => bI_eq (fun hg => fin g _ (fun z => by rw [hg] at z; cases z) k2) (fun hg => ⟨10 * i + j, by omega, by rw [nI_mul, nI_add], i_MO_rowed b1 hg1 t1 hl b6 hb (by omega) ?_⟩)) hl1.2.2.1 rfl (by omega) (by omega))
              rw [hbm, g3 j (by omega)]
              have q1 := gx64 e64 (show j < e.length by omega)
              have q2 := gx64 hf64 (show j < (fo_ v k xs).length by omega)
              refine pn_ne (e.getD j 0) ((fo_ v k xs).getD j 0) (fun h2 => q_MO_find_83 hGo (q_MO_find_84 hGo ?_)) (fun h2 => q_MO_find_84 hGo ?_) rfl rfl (by omega) (by omega)
              · rw [nI_add]
                exact ihc (j + 1) false (by omega) (fun z => by cases z) (fun _ z => h2 (by rw [z]))
              · rw [nI_add]
                refine ihc (j + 1) true (by omega) (fun _ x hx => ?_) (fun z => by cases z)
                by_cases hxj : x = j
                · subst hxj; exact h2
                · exact k1 hg x (by omega)
          exact q_MO_find_31 hGo (pk_le (ce_L v k lam n).length i (fun h => absurd h (by omega)) (fun _ => inner n 0 true (by omega) (fun _ x hx => absurd hx (Nat.not_lt_zero x)) (fun z => by cases z)) hl1.2.2.2.1 rfl (by omega) (by omega))
      exact outer (ce_L v k lam n).length 0 _ _ (by omega) rfl
    · have h9 := hp w hM (frM_refl w)
      simp only [A_find] at h9
      rw [if_neg h] at h9
      exact h9
