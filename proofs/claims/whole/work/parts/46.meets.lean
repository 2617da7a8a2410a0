/-! CONTRACTS: the reference, pairs of points; its ground -/
theorem sum_both {K xs : List Nat} (F : Nat → Bool) (hn : K.Nodup) (hx : ∀ x ∈ xs, x ∈ K) : (K.map (fun b => if F b = true then xs.count b else 0)).sum = xs.countP F := by
  have h := ct_swap (fun t x => t == x && F x) xs K
  have e1 : K.map (fun x => xs.countP (fun t => t == x && F x)) = K.map (fun b => if F b = true then xs.count b else 0) := by
    refine List.map_congr_left (fun b _ => ?_)
    by_cases hF : F b = true
    · rw [if_pos hF]
      refine List.countP_congr (fun t _ => ?_)
      rw [hF, Bool.and_true]
    · rw [if_neg hF, List.countP_eq_zero]
      intro t _ z
      rw [Bool.and_eq_true] at z
      exact hF z.2
  rw [e1] at h
  rw [h, ct_ite xs F _ 1 (fun t ht => ?_), Nat.mul_one]
  by_cases hF : F t = true
  · rw [if_pos hF]
    refine ct_one hn (hx t ht) (by rw [hF]; simp) (fun b _ hb => ?_)
    rw [Bool.and_eq_true, beq_iff_eq] at hb
    exact hb.1.symm
  · rw [if_neg hF, List.countP_eq_zero]
    intro b _ z
    rw [Bool.and_eq_true, beq_iff_eq] at z
    rw [z.1] at hF
    exact hF z.2
def T_MO_meet : ma_T := fun as w post => ∃ v k xs p q, as = [.inr 24, .inl (nI p), .inl (nI q)] ∧ vk v k ∧ mg v k w ∧ tm xs w ∧ p < 6 ∧ q < 6 ∧ (∀ x ∈ xs, x ∈ fm_K v k) ∧ post (nI (ce_meet xs p q)) w
theorem i_MO_meet {v k p q : Nat} {xs : List Nat} {w : ma_W} {post : ma_P} (hv : vk v k) (hg : mg v k w) (ht : tm xs w) (hp6 : p < 6) (hq6 : q < 6) (hx : ∀ x ∈ xs, x ∈ fm_K v k) (hp : post (nI (ce_meet xs p q)) w) : T_MO_meet [.inr 24, .inl (nI p), .inl (nI q)] w post := ⟨v, k, xs, p, q, rfl, hv, hg, ht, hp6, hq6, hx, hp⟩
theorem c_MO_meet {l : Launch} : ma_Met l y_MO_meet (w_MO_meet :: zw_t) 0 true T_MO_meet := by
  refine z_MO_meet (by rintro as w post ⟨v, k, xs, p, q, rfl, -⟩; simp) ?_
  rintro as w post ⟨v, k, xs, p, q, rfl, hv, hg, ht, hp6, hq6, hx, hp⟩ Go hGo
  have h20 := vk_20 hv
  have h5 := hg.2.2.2.1
  have h25 := hg.2.2.2.2.2.1
  have hsum := sum_both (fun m => m.testBit p && m.testBit q) (fm_K_nodup v k) hx
  have loop : ∀ (d n : Nat) (o : Option ma_V), n + d = (fm_K v k).length → Go 5 [some (.inr 24), some (.inl (nI p)), some (.inl (nI q)), some (.inl (nI (((fm_K v k).take n).map (fun b => if (b.testBit p && b.testBit q) = true then xs.count b else 0)).sum)), some (.inl (nI n)), o] [] w := by
    intro d
    induction d with
    | zero =>
      intro n o hd
      refine q_MO_meet_5 hGo (pk_le (fm_K v k).length n (fun _ => q_MO_meet_81 hGo ?_) (fun h => absurd h (by omega)) h5 rfl (by omega) (by omega))
      rw [List.take_of_length_le (by omega), hsum]
      exact hp
    | succ d ih =>
      intro n o hd
      have hn : n < (fm_K v k).length := by omega
      have hm := K_mem hn
      have hm64 := vk_64 hv hm
      have hstep := fun o => ih (n + 1) o (by omega)
      simp only [tk_succ hn, List.map_append, List.sum_append_nat, List.map_singleton, List.sum_singleton] at hstep
      have no : ¬ (((fm_K v k).getD n 0).testBit p && ((fm_K v k).getD n 0).testBit q) = true → ∀ o, Go 48 [some (.inr 24), some (.inl (nI p)), some (.inl (nI q)), some (.inl (nI (((fm_K v k).take n).map (fun b => if (b.testBit p && b.testBit q) = true then xs.count b else 0)).sum)), some (.inl (nI n)), o] [] w := by
        intro hb o
        refine q_MO_meet_48 hGo (q_MO_meet_49 hGo (pk_eq 0 0 (fun _ => q_MO_meet_73 hGo (q_MO_meet_74 hGo ?_)) (fun h => absurd rfl h)))
        rw [nI_add]
        have := hstep (some (.inl (nI 0)))
        rw [if_neg hb, Nat.add_zero] at this
        exact this
      refine q_MO_meet_5 hGo (pk_le (fm_K v k).length n (fun h => absurd h (by omega)) (fun _ => ⟨n, by omega, rfl, ?_⟩) h5 rfl (by omega) (by omega))
      rw [h25 n hn, bi_bit _ hm64 p (by omega)]
      by_cases h1 : ((fm_K v k).getD n 0).testBit p = true
      · rw [if_pos h1]
        refine pn_ne 1 1 (fun h => absurd rfl h) (fun _ => ⟨n, by omega, rfl, ?_⟩)
        by_cases h2 : ((fm_K v k).getD n 0).testBit q = true
        · rw [h25 n hn, bi_bit _ hm64 q (by omega), if_pos h2]
          refine pn_ne 1 1 (fun h => absurd rfl h) (fun _ => q_MO_meet_49 hGo (pk_eq 1 0 (fun h => absurd h (by decide)) (fun _ => ⟨n, by omega, rfl, (fm_K v k).getD n 0, hm64, h25 n hn, q_MO_meet_74 hGo ?_⟩)))
          rw [ht _ hm64, nI_add, nI_add]
          have := hstep (some (.inl (nI 1)))
          rw [if_pos (by rw [h1, h2]; rfl)] at this
          exact this
        · rw [h25 n hn, bi_bit _ hm64 q (by omega), if_neg h2]
          exact pn_ne 0 1 (fun _ => no (fun z => h2 (Bool.and_eq_true_iff.mp z).2) _) (fun h => absurd h (by decide))
      · rw [if_neg h1]
        exact pn_ne 0 1 (fun _ => no (fun z => h1 (Bool.and_eq_true_iff.mp z).1) _) (fun h => absurd h (by decide))
  exact q_MO_meet_0 hGo (loop (fm_K v k).length 0 _ (by omega))
/-- all pairs meet neither too seldom nor too often -/
def mts (v a b : Nat) (xs : List Nat) : Bool := al v (fun p q => decide (a ≤ ce_meet xs p q) && decide (ce_meet xs p q ≤ b))
def T_MO_meets : ma_T := fun as w post => ∃ v k xs a b, as = [.inr 24, .inl (nI a), .inl (nI b)] ∧ vk v k ∧ mg v k w ∧ tm xs w ∧ a < 2 ^ 31 ∧ b < 2 ^ 31 ∧ xs.length ≤ 2000 ∧ (∀ x ∈ xs, x ∈ fm_K v k) ∧ post (bI (mts v a b xs)) w
theorem i_MO_meets {v k a b : Nat} {xs : List Nat} {w : ma_W} {post : ma_P} (hv : vk v k) (hg : mg v k w) (ht : tm xs w) (ha : a < 2 ^ 31) (hb : b < 2 ^ 31) (hl : xs.length ≤ 2000) (hx : ∀ x ∈ xs, x ∈ fm_K v k) (hp : post (bI (mts v a b xs)) w) : T_MO_meets [.inr 24, .inl (nI a), .inl (nI b)] w post := ⟨v, k, xs, a, b, rfl, hv, hg, ht, ha, hb, hl, hx, hp⟩
theorem c_MO_meets {l : Launch} : ma_Met l y_MO_meets (w_MO_meets :: zw_t) 1 true T_MO_meets := by
  refine z_MO_meets c_MO_meet (by decide) (by rintro as w post ⟨v, k, xs, a, b, rfl, -⟩; simp) ?_
  rintro as w post ⟨v, k, xs, a, b, rfl, hv, hg, ht, ha, hb, hl, hx, hp⟩ Go hGo
  have hv6 := hv.2.1
  have h1 := hg.2.1
  -- ok: the pairs whose first point is below p, or p with a second point below q
  have loop : ∀ (d p : Nat) (g : Bool) (o5 o6 : Option ma_V), p + d = v → (g = true → ∀ x, x < p → ∀ y, x < y → y < v → (decide (a ≤ ce_meet xs x y) && decide (ce_meet xs x y ≤ b)) = true) → (g = false → mts v a b xs = false) → Go 5 [some (.inr 24), some (.inl (nI a)), some (.inl (nI b)), some (.inl (bI g)), some (.inl (nI p)), o5, o6] [] w := by
    intro d
    induction d with
    | zero =>
      intro p g o5 o6 hd hgt hgf
      refine q_MO_meets_5 hGo (pk_le v p (fun _ => q_MO_meets_73 hGo ⟨bI_bo g, ?_⟩) (fun h => absurd h (by omega)) h1 rfl (by omega) (by omega))
      cases g with
      | false => rw [hgf rfl] at hp; exact hp
      | true =>
        have : mts v a b xs = true := al_t (fun q hq p hpq => hgt rfl p (by omega) q hpq hq)
        rw [this] at hp
        exact hp
    | succ d ih =>
      intro p g o5 o6 hd hgt hgf
      have inner : ∀ (c q : Nat) (g : Bool) (o6 : Option ma_V), q + c = v → p < q → (g = true → (∀ x, x < p → ∀ y, x < y → y < v → (decide (a ≤ ce_meet xs x y) && decide (ce_meet xs x y ≤ b)) = true) ∧ ∀ y, p < y → y < q → (decide (a ≤ ce_meet xs p y) && decide (ce_meet xs p y ≤ b)) = true) → (g = false → mts v a b xs = false) → Go 20 [some (.inr 24), some (.inl (nI a)), some (.inl (nI b)), some (.inl (bI g)), some (.inl (nI p)), some (.inl (nI q)), o6] [] w := by
        intro c
        induction c with
        | zero =>
          intro q g o6 hc hpq hgt hgf
          refine q_MO_meets_20 hGo (pk_le v q (fun _ => q_MO_meets_67 hGo ?_) (fun h => absurd h (by omega)) h1 rfl (by omega) (by omega))
          rw [nI_add]
          refine ih (p + 1) g _ _ (by omega) (fun hg2 x hx2 y hxy hy => ?_) hgf
          by_cases hxp : x = p
          · subst hxp; exact (hgt hg2).2 y hxy (by omega)
          · exact (hgt hg2).1 x (by omega) y hxy hy
        | succ c ihc =>
          intro q g o6 hc hpq hgt hgf
          have hcm := cm_le xs p q
          have badp : (decide (a ≤ ce_meet xs p q) && decide (ce_meet xs p q ≤ b)) = false → mts v a b xs = false := fun h => al_f (p := p) (q := q) (by omega) hpq h
          have next : ∀ (g2 : Bool) (x6 : Int32), (g2 = true → g = true ∧ (decide (a ≤ ce_meet xs p q) && decide (ce_meet xs p q ≤ b)) = true) → (g2 = false → mts v a b xs = false) → Go 60 [some (.inr 24), some (.inl (nI a)), some (.inl (nI b)), some (.inl (bI g)), some (.inl (nI p)), some (.inl (nI q)), some (.inl x6)] [.inl (bI g2)] w := by
            intro g2 x6 k1 k2
            refine q_MO_meets_60 hGo ?_
            rw [nI_add]
            refine ihc (q + 1) g2 _ (by omega) (by omega) (fun h2 => ?_) k2
            obtain ⟨k3, k4⟩ := k1 h2
            refine ⟨(hgt k3).1, fun y hy1 hy2 => ?_⟩
            by_cases hyq : y = q
            · subst hyq; exact k4
            · exact (hgt k3).2 y hy1 (by omega)
          have no : ∀ x6 : Int32, mts v a b xs = false → Go 59 [some (.inr 24), some (.inl (nI a)), some (.inl (nI b)), some (.inl (bI g)), some (.inl (nI p)), some (.inl (nI q)), some (.inl x6)] [] w := fun x6 h => q_MO_meets_59 hGo (next false x6 (fun z => by cases z) (fun _ => h))
          refine q_MO_meets_20 hGo (pk_le v q (fun h => absurd h (by omega)) (fun _ => i_MO_meet hv hg ht (by omega) (by omega) hx (bI_eq (fun h => no _ (hgf h)) (fun h => ?_))) h1 rfl (by omega) (by omega))
          refine pk_lt _ _ (fun h9 => no _ (badp (by rw [decide_eq_false (by omega)]; rfl))) (fun h9 => ?_) rfl rfl (by omega) ha
          refine pk_lt _ _ (fun h8 => no _ (badp (by rw [decide_eq_false (show ¬ ce_meet xs p q ≤ b by omega), Bool.and_false]))) (fun h8 => ?_) rfl rfl hb (by omega)
          exact next true _ (fun _ => ⟨h, by rw [decide_eq_true h9, decide_eq_true h8]; rfl⟩) (fun z => by cases z)
      refine q_MO_meets_5 hGo (pk_le v p (fun h => absurd h (by omega)) (fun _ => ?_) h1 rfl (by omega) (by omega))
      rw [nI_add]
      exact inner (v - (p + 1)) (p + 1) g _ (by omega) (by omega) (fun h => ⟨hgt h, fun y h1 h2 => absurd h2 (by omega)⟩) hgf
  exact q_MO_meets_0 hGo (loop v 0 true _ _ (by omega) (fun _ x hx2 => absurd hx2 (Nat.not_lt_zero x)) (fun z => by cases z))
/-! the renaming number i -/
theorem rm_rem {v q : Nat} {p : List Nat} (hq : q < v) (hp : q ∉ p) : ∃ l, rem_ v p = rm_ q p ++ q :: l := by
  have key : ∀ e, ∃ l, rm_ (q + 1 + e) p = rm_ (q + 1) p ++ l := by
    intro e
    induction e with
    | zero => exact ⟨[], by simp⟩
    | succ e ih2 =>
      obtain ⟨l, hl⟩ := ih2
      exact ⟨l ++ (if q + 1 + e ∈ p then [] else [q + 1 + e]), by rw [← Nat.add_assoc, rm_s, hl, List.append_assoc]⟩
  obtain ⟨l, hl⟩ := key (v - (q + 1))
  rw [show q + 1 + (v - (q + 1)) = v by omega, rm_s, if_neg hp, List.append_assoc] at hl
  exact ⟨l, hl⟩
theorem rm_mono {p : List Nat} {a b : Nat} (h : a ≤ b) : (rm_ a p).length ≤ (rm_ b p).length := by
  induction b with
  | zero => obtain rfl : a = 0 := by omega
            exact Nat.le_refl _
  | succ b ih =>
    by_cases hab : a = b + 1
    · subst hab; exact Nat.le_refl _
    · have := ih (by omega)
      rw [rm_s, List.length_append]
      omega
def T_MO_rename : ma_T := fun as w post => ∃ v i, as = [.inr 24, .inl (nI i)] ∧ 3 ≤ v ∧ v ≤ 6 ∧ i < 720 ∧ w.1 24 1 = nI v ∧ ∀ w', fr [] [26] w w' → (∀ p, p < v → w'.2.2 26 (6 * i + p) = nI ((pi_ v i).getD p 0)) → (∀ j, j < 6 * i → w'.2.2 26 j = w.2.2 26 j) → post 0 w'
theorem i_MO_rename {v i : Nat} {w : ma_W} {post : ma_P} (h3 : 3 ≤ v) (h6 : v ≤ 6) (hi : i < 720) (h1 : w.1 24 1 = nI v) (hp : ∀ w', fr [] [26] w w' → (∀ p, p < v → w'.2.2 26 (6 * i + p) = nI ((pi_ v i).getD p 0)) → (∀ j, j < 6 * i → w'.2.2 26 j = w.2.2 26 j) → post 0 w') : T_MO_rename [.inr 24, .inl (nI i)] w post := ⟨v, i, rfl, h3, h6, hi, h1, hp⟩
theorem c_MO_rename {l : Launch} : ma_Met l y_MO_rename (w_MO_rename :: zw_t) 0 false T_MO_rename := by
  refine z_MO_rename (by rintro as w post ⟨v, i, rfl, -⟩; simp) ?_
  rintro as w post ⟨v, i, rfl, h3, h6, hi, h1, hp⟩ Go hGo
  have loop : ∀ (d : Nat) (p : List Nat) (rest : Nat) (w' : ma_W) (o5 o6 o7 : Option ma_V), p.length + d = v → pp v p → rest < 720 → p ++ bi_ref d (rem_ v p) rest = pi_ v i → fr [] [26] w w' → (∀ j, j < p.length → w'.2.2 26 (6 * i + j) = nI (p.getD j 0)) → (∀ j, j < 6 * i → w'.2.2 26 j = w.2.2 26 j) → Go 7 [some (.inr 24), some (.inl (nI i)), some (.inl (nI rest)), some (.inl (nI (us p))), some (.inl (nI p.length)), o5, o6, o7] [] w' := by
    intro d
    induction d with
    | zero =>
      intro p rest w' o5 o6 o7 hd hpp hr he hf ha hb
      refine q_MO_rename_7 hGo (pk_le v p.length (fun _ => q_MO_rename_108 hGo (hp w' hf (fun x hx => ?_) hb)) (fun h => absurd h (by omega)) (by rw [hf.2.1 24 List.not_mem_nil]; exact h1) rfl (by omega) (by omega))
      rw [ha x (by omega), ← he]
      simp [bi_ref]
    | succ d ih =>
      intro p rest w' o5 o6 o7 hd hpp hr he hf ha hb
      have hlen := rem_len hpp
      have hus : us p < 64 := Nat.lt_of_lt_of_le (us_lt hpp.2) (pw64 h6)
      have hmod : rest % (d + 1) < d + 1 := Nat.mod_lt _ (by omega)
      have hdiv : rest / (d + 1) ≤ rest := Nat.div_le_self _ _
      obtain ⟨tg, htg⟩ : ∃ tg, (rem_ v p).getD (rest % (d + 1)) 0 = tg := ⟨_, rfl⟩
      have hmem : tg ∈ rem_ v p := by
        rw [← htg, gd_at (by omega)]
        exact List.getElem_mem _
      obtain ⟨htv, htp⟩ := rem_mem.mp hmem
      have hnd : (rem_ v p).Nodup := List.Pairwise.filter _ List.nodup_range
      -- the place of a point that is left
      have place : ∀ q, q < v → q ∉ p → (rm_ q p).length < (rem_ v p).length ∧ (rem_ v p).getD (rm_ q p).length 0 = q := by
        intro q hq hqp
        obtain ⟨l, hl⟩ := rm_rem hq hqp
        rw [hl]
        refine ⟨by simp, ?_⟩
        rw [List.getD_eq_getElem?_getD, List.getElem?_append_right (Nat.le_refl _), Nat.sub_self]
        rfl
      have htl : (rm_ tg p).length = rest % (d + 1) := by
        obtain ⟨k1, k2⟩ := place tg htv htp
        have k3 : (rem_ v p)[(rm_ tg p).length] = (rem_ v p)[rest % (d + 1)]'(by omega) := by
          rw [← gd_at (d := 0) k1, k2, ← htg, gd_at (by omega)]
        rcases Nat.lt_trichotomy (rm_ tg p).length (rest % (d + 1)) with hl | hl | hl
        · exact absurd k3 (List.pairwise_iff_getElem.mp hnd _ _ k1 (by omega) hl)
        · exact hl
        · exact absurd k3.symm (List.pairwise_iff_getElem.mp hnd _ _ (by omega) k1 hl)
      -- the search for it
      have find : ∀ (e q : Nat), q + e = tg → Go 39 [some (.inr 24), some (.inl (nI i)), some (.inl (nI (rest / (d + 1)))), some (.inl (nI (us p))), some (.inl (nI p.length)), some (.inl (nI (d + 1))), some (.inl (nI (rest % (d + 1) - (rm_ q p).length))), some (.inl (nI q))] [] w' := by
        intro e
        induction e with
        | zero =>
          intro q hq
          obtain rfl : q = tg := by omega
          rw [htl, Nat.sub_self]
          refine q_MO_rename_39 hGo (pk_lt 0 0 (fun h => absurd h (by omega)) (fun _ => ?_))
          rw [bi_bit _ hus q (by omega), if_neg (fun z => htp ((us_bit p q).mp z))]
          refine pn_ne 0 1 (fun _ => q_MO_rename_81 hGo ⟨6 * i + p.length, by omega, by rw [nI_mul, nI_add], ?_⟩) (fun h => absurd h (by decide))
          have h25 : 2 ^ q ≤ 2 ^ 5 := Nat.pow_le_pow_right (by decide) (by omega)
          rw [bi_one q (by omega), bi_or _ hus _ (by omega), ← us_app, nI_add]
          have hlen1 : (p ++ [q]).length = p.length + 1 := by simp
          rw [← hlen1]
          refine ih (p ++ [q]) (rest / (d + 1)) _ _ _ _ (by rw [hlen1]; omega) (pp_app hpp hmem) (by omega) ?_ (fr_a hf (by simp) _ _) (fun j hj => ?_) (fun j hj => ?_)
          · rw [← rem_erase, ← he]
            have : bi_ref (d + 1) (rem_ v p) rest = q :: bi_ref d ((rem_ v p).erase q) (rest / (d + 1)) := by
              rw [bi_ref, htg]
            rw [this, List.append_assoc]
            rfl
          · rw [hlen1] at hj
            by_cases hjp : j = p.length
            · subst hjp
              rw [gd_app_r]
              exact ma_up_s _ _ _ _
            · rw [gd_app_l (by omega)]
              exact (ma_up_k _ _ _ _ (show 6 * i + j ≠ 6 * i + p.length by omega)).trans (ha j (by omega))
          · exact (ma_up_k _ _ _ _ (show j ≠ 6 * i + p.length by omega)).trans (hb j hj)
        | succ e ihe =>
          intro q hq
          have hqt : q < tg := by omega
          have hmono := rm_mono (p := p) (show q + 1 ≤ tg by omega)
          have hmono0 := rm_mono (p := p) (show q ≤ tg by omega)
          have hrs := rm_s q p
          have hgo := ihe (q + 1) (by omega)
          by_cases hqp : q ∈ p
          · rw [if_pos hqp, List.append_nil] at hrs
            rw [hrs] at hgo
            have at54 : Go 54 [some (.inr 24), some (.inl (nI i)), some (.inl (nI (rest / (d + 1)))), some (.inl (nI (us p))), some (.inl (nI p.length)), some (.inl (nI (d + 1))), some (.inl (nI (rest % (d + 1) - (rm_ q p).length))), some (.inl (nI q))] [] w' := by
              refine q_MO_rename_54 hGo ?_
              rw [bi_bit _ hus q (by omega), if_pos ((us_bit p q).mpr hqp)]
              refine pn_ne 1 1 (fun h => absurd rfl h) (fun _ => q_MO_rename_73 hGo ?_)
              rw [nI_add]
              exact hgo
            refine q_MO_rename_39 hGo (pk_lt 0 _ (fun _ => at54) (fun _ => ?_) rfl rfl (by omega) (by omega))
            rw [bi_bit _ hus q (by omega), if_pos ((us_bit p q).mpr hqp)]
            exact pn_ne 1 1 (fun h => absurd rfl h) (fun _ => at54)
          · rw [if_neg hqp] at hrs
            have hl1 : (rm_ (q + 1) p).length = (rm_ q p).length + 1 := by rw [hrs, List.length_append]; rfl
            refine q_MO_rename_39 hGo (pk_lt 0 _ (fun _ => q_MO_rename_54 hGo ?_) (fun h => absurd h (by omega)) rfl rfl (by omega) (by omega))
            rw [bi_bit _ hus q (by omega), if_neg (fun z => hqp ((us_bit p q).mp z))]
            refine pn_ne 0 1 (fun _ => q_MO_rename_69 hGo (q_MO_rename_73 hGo ?_)) (fun h => absurd h (by decide))
            rw [pk_sub (by omega), nI_add, show rest % (d + 1) - (rm_ q p).length - 1 = rest % (d + 1) - (rm_ (q + 1) p).length by omega]
            exact hgo
      have hstart := find tg 0 (by omega)
      rw [show (rm_ 0 p).length = 0 from rfl, Nat.sub_zero] at hstart
      refine q_MO_rename_7 hGo (pk_le v p.length (fun h => absurd h (by omega)) (fun _ => ?_) (by rw [hf.2.1 24 List.not_mem_nil]; exact h1) rfl (by omega) (by omega))
      rw [hf.2.1 24 List.not_mem_nil, h1, pk_sub (by omega), show v - p.length = d + 1 by omega, pk_rem (by omega) (by omega) (by omega), pk_div (by omega) (by omega) (by omega)]
      exact ⟨nI_ne0 (by omega) (by omega), nI_ne0 (by omega) (by omega), hstart⟩
  have h0 : rem_ v [] = List.range v := rem_nil v
  refine q_MO_rename_0 hGo (loop v [] i w _ _ _ (by simp) ⟨List.nodup_nil, fun x h => absurd h List.not_mem_nil⟩ hi ?_ (fr_refl _ _ _) (fun j hj => absurd hj (Nat.not_lt_zero j)) (fun _ _ => rfl))
  rw [h0]
  rfl
