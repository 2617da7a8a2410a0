/-! CONTRACTS: the reference, all packings counted -/
section LN
variable {v k lam : Nat}
/-- how many places the count comes to -/
theorem lb_nodes : ∀ (j d : Nat), ((ce_U v k lam d).map (fun e => lb_N v lam j e (lb_K (fm_K v k) e))).sum = ((List.range j).map (fun i => (ce_U v k lam (d + i)).length)).sum
  | 0, d => by
    simp only [lb_N]
    rw [ct_const _ _ 0 (fun _ _ => rfl), Nat.mul_zero]
    rfl
  | j + 1, d => by
    have h := lb_nodes j (d + 1)
    have e1 : ((ce_U v k lam d).map (fun e => lb_N v lam (j + 1) e (lb_K (fm_K v k) e))).sum = (ce_U v k lam d).length + ((ce_U v k lam d).map (fun e => lb_in v lam (fun _ => 0) (lb_N v lam j) e (lb_K (fm_K v k) e))).sum := by
      generalize ce_U v k lam d = l
      induction l with
      | nil => rfl
      | cons a l ih =>
        rw [List.map_cons, List.sum_cons, ih, List.map_cons, List.sum_cons, List.length_cons]
        simp only [lb_N]
        omega
    have e2 : ((ce_U v k lam d).map (fun e => lb_in v lam (fun _ => 0) (lb_N v lam j) e (lb_K (fm_K v k) e))).sum = ((ce_U v k lam (d + 1)).map (fun e => lb_N v lam j e (lb_K (fm_K v k) e))).sum := by
      simp only [ce_U]
      rw [lb_flat]
      congr 1
      refine List.map_congr_left (fun e _ => ?_)
      simp only [lb_K]
      rw [lb_in_sum fm_K_sorted, List.map_map]
      unfold ce_ext
      congr 1
      refine List.map_congr_left (fun b _ => ?_)
      simp only [Function.comp_apply, lb_last]
    rw [e1, e2, h, List.range_succ_eq_map, List.map_cons, List.sum_cons, List.map_map, Nat.add_zero]
    congr 1
    congr 1
    refine List.map_congr_left (fun i _ => ?_)
    simp only [Function.comp_apply]
    rw [show d + 1 + i = d + i.succ by omega]
end LN
theorem U_le {v k lam d : Nat} (hv : vk v k) (h : (ce_L v k lam d).length ≤ 60) : (ce_U v k lam d).length ≤ 43200 := by
  rw [ce_labelled]
  have hP := fcP v (by have := hv.2.1; omega)
  have hf := fc_le v (by have := hv.2.1; omega)
  have key : ∀ l : List (List Nat), (l.map (fun e => (pm_P v).length / ce_ord v k e)).sum ≤ l.length * 720 := by
    intro l
    induction l with
    | nil => simp
    | cons a l ih =>
      rw [List.map_cons, List.sum_cons, List.length_cons, Nat.succ_mul]
      have : (pm_P v).length / ce_ord v k a ≤ (pm_P v).length := Nat.div_le_self _ _
      omega
  have := key (ce_L v k lam d)
  omega
theorem lb_0 (K : List Nat) : lb_K K [] = K := by
  unfold lb_K
  have : ce_last [] = 0 := rfl
  rw [this]
  cases K with
  | nil => rfl
  | cons b l => rw [List.dropWhile_cons_of_neg (by simp)]
/-- how many steps it takes -/
theorem S_le {v k lam n : Nat} (hv : vk v k) (hn : n ≤ 10) (h : ∀ d, d ≤ n → (ce_L v k lam d).length ≤ 60) : lb_S v lam n [] (fm_K v k) ≤ 9072000 := by
  have h1 := lb_S_le (v := v) (lam := lam) 20 n [] (fm_K v k) (vk_20 hv)
  have h2 := lb_nodes (v := v) (k := k) (lam := lam) n 0
  simp only [ce_U, List.map_cons, List.map_nil, List.sum_cons, List.sum_nil, Nat.add_zero] at h2
  rw [lb_0] at h2
  have key : ∀ m, m ≤ n → ((List.range m).map (fun i => (ce_U v k lam (0 + i)).length)).sum ≤ m * 43200 := by
    intro m
    induction m with
    | zero => intro _; simp
    | succ m ih =>
      intro hm
      rw [List.range_succ, List.map_append, List.sum_append_nat, List.map_singleton, List.sum_singleton, Nat.succ_mul]
      have a := ih (by omega)
      have b := U_le hv (h (0 + m) (by omega))
      omega
  have h3 := key n (Nat.le_refl n)
  rw [← h2] at h3
  omega
/-- the table of pairs -/
def pr_ (v : Nat) (e : List Nat) (w : ma_W) : Prop := ∀ a, a < 6 → ∀ b, b < 6 → w.2.2 31 (6 * a + b) = nI (if a < b ∧ b < v then ce_meet e a b else 0)
theorem ix6 {a b c d : Nat} (hb : b < 6) (hd : d < 6) (h : 6 * a + b = 6 * c + d) : a = c ∧ b = d := by omega
def T_MO_pair : ma_T := fun as w post => ∃ v m ch, as = [.inr 24, .inl (nI m), .inl ch] ∧ v ≤ 6 ∧ m < 64 ∧ w.1 24 1 = nI v ∧ ∀ w', fr [] [31] w w' → (∀ a, a < 6 → ∀ b, b < 6 → w'.2.2 31 (6 * a + b) = if a < b ∧ b < v ∧ (m.testBit a && m.testBit b) = true then w.2.2 31 (6 * a + b) + ch else w.2.2 31 (6 * a + b)) → post 0 w'
theorem i_MO_pair {v m : Nat} {ch : Int32} {w : ma_W} {post : ma_P} (hv : v ≤ 6) (hm : m < 64) (h1 : w.1 24 1 = nI v) (hp : ∀ w', fr [] [31] w w' → (∀ a, a < 6 → ∀ b, b < 6 → w'.2.2 31 (6 * a + b) = if a < b ∧ b < v ∧ (m.testBit a && m.testBit b) = true then w.2.2 31 (6 * a + b) + ch else w.2.2 31 (6 * a + b)) → post 0 w') : T_MO_pair [.inr 24, .inl (nI m), .inl ch] w post := ⟨v, m, ch, rfl, hv, hm, h1, hp⟩
theorem c_MO_pair {l : Launch} : ma_Met l y_MO_pair (w_MO_pair :: zw_t) 0 false T_MO_pair := by
  refine z_MO_pair (by rintro as w post ⟨v, m, ch, rfl, -⟩; simp) ?_
  rintro as w post ⟨v, m, ch, rfl, hv, hm, h1, hp⟩ Go hGo
  have hk1 : ∀ w' : ma_W, fr [] [31] w w' → w'.1 24 1 = nI v := fun w' hf => by rw [hf.2.1 24 List.not_mem_nil]; exact h1
  -- done: pairs (a, b) with a < p, or a = p and b < q
  have loop : ∀ (d p : Nat) (w' : ma_W) (o4 o5 : Option ma_V), p + d = v → fr [] [31] w w' → (∀ a, a < 6 → ∀ b, b < 6 → w'.2.2 31 (6 * a + b) = if (a < p) ∧ a < b ∧ b < v ∧ (m.testBit a && m.testBit b) = true then w.2.2 31 (6 * a + b) + ch else w.2.2 31 (6 * a + b)) → Go 2 [some (.inr 24), some (.inl (nI m)), some (.inl ch), some (.inl (nI p)), o4, o5] [] w' := by
    intro d
    induction d with
    | zero =>
      intro p w' o4 o5 hd hf hv2
      refine q_MO_pair_2 hGo (pk_le v p (fun _ => q_MO_pair_87 hGo (hp w' hf (fun a ha b hb => ?_))) (fun h => absurd h (by omega)) (hk1 w' hf) rfl (by omega) (by omega))
      rw [hv2 a ha b hb]
      by_cases h : a < b ∧ b < v ∧ (m.testBit a && m.testBit b) = true
      · rw [if_pos h, if_pos ⟨by omega, h⟩]
      · rw [if_neg h, if_neg (fun z => h z.2)]
    | succ d ih =>
      intro p w' o4 o5 hd hf hv2
      have inner : ∀ (c q : Nat) (w2 : ma_W) (o5 : Option ma_V), q + c = v → p < q → fr [] [31] w w2 → (∀ a, a < 6 → ∀ b, b < 6 → w2.2.2 31 (6 * a + b) = if (a < p ∨ (a = p ∧ b < q)) ∧ a < b ∧ b < v ∧ (m.testBit a && m.testBit b) = true then w.2.2 31 (6 * a + b) + ch else w.2.2 31 (6 * a + b)) → Go 15 [some (.inr 24), some (.inl (nI m)), some (.inl ch), some (.inl (nI p)), some (.inl (nI q)), o5] [] w2 := by
        intro c
        induction c with
        | zero =>
          intro q w2 o5 hc hpq hf2 hv3
          refine q_MO_pair_15 hGo (pk_le v q (fun _ => q_MO_pair_81 hGo ?_) (fun h => absurd h (by omega)) (hk1 w2 hf2) rfl (by omega) (by omega))
          rw [nI_add]
          refine ih (p + 1) w2 _ _ (by omega) hf2 (fun a ha b hb => ?_)
          rw [hv3 a ha b hb]
          by_cases h : (a < p ∨ (a = p ∧ b < q)) ∧ a < b ∧ b < v ∧ (m.testBit a && m.testBit b) = true
          · rw [if_pos h, if_pos ⟨by omega, h.2⟩]
          · rw [if_neg h, if_neg (fun z => h ⟨by omega, z.2⟩)]
        | succ c ihc =>
          intro q w2 o5 hc hpq hf2 hv3
          have hp6 : p < 6 := by omega
          have hq6 : q < 6 := by omega
          -- behind this pair, with x added
          have next : ∀ (x y5 : Int32), (∀ z : Int32, z = w.2.2 31 (6 * p + q) + x → (z = if (m.testBit p && m.testBit q) = true then w.2.2 31 (6 * p + q) + ch else w.2.2 31 (6 * p + q))) → Go 73 [some (.inr 24), some (.inl (nI m)), some (.inl ch), some (.inl (nI p)), some (.inl (nI q)), some (.inl y5)] [.inl x, .inl (w2.2.2 31 (6 * p + q)), .inl (nI 6 * nI p + nI q), .inr 31] w2 := by
            intro x y5 hx
            refine q_MO_pair_73 hGo ?_
            rw [ma_ark_of (show zc_sh 31 = .inr 36 from rfl)]
            refine ⟨6 * p + q, by omega, by rw [nI_mul, nI_add], ?_⟩
            rw [nI_add]
            refine ihc (q + 1) _ _ (by omega) (by omega) (fr_a hf2 (by decide) _ _) (fun a ha b hb => ?_)
            by_cases hab : a = p ∧ b = q
            · obtain ⟨rfl, rfl⟩ := hab
              refine (ma_up_s _ _ _ _).trans ?_
              have h0 := hv3 a ha b hb
              rw [if_neg (by omega)] at h0
              rw [h0, hx _ rfl]
              by_cases hm2 : (m.testBit a && m.testBit b) = true
              · rw [if_pos hm2, if_pos ⟨by omega, by omega, by omega, hm2⟩]
              · rw [if_neg hm2, if_neg (fun z => hm2 z.2.2.2)]
            · refine (ma_up_k _ _ _ _ (fun z => hab (by have := ix6 hb hq6 z; exact this))).trans ?_
              rw [hv3 a ha b hb]
              by_cases h : (a < p ∨ (a = p ∧ b < q)) ∧ a < b ∧ b < v ∧ (m.testBit a && m.testBit b) = true
              · rw [if_pos h, if_pos ⟨by omega, h.2⟩]
              · rw [if_neg h, if_neg (fun z => h ⟨by omega, z.2⟩)]
          have no : ¬ (m.testBit p && m.testBit q) = true → ∀ o5, Go 47 [some (.inr 24), some (.inl (nI m)), some (.inl ch), some (.inl (nI p)), some (.inl (nI q)), o5] [] w2 := by
            intro hb o5
            refine q_MO_pair_47 hGo (q_MO_pair_48 hGo ⟨6 * p + q, by omega, by rw [nI_mul, nI_add], pk_eq 0 0 (fun _ => q_MO_pair_72 hGo (next _ _ (fun z hz => ?_))) (fun h => absurd rfl h)⟩)
            rw [if_neg hb, hz, nI_0]
            exact Int32.add_zero _
          refine q_MO_pair_15 hGo (pk_le v q (fun h => absurd h (by omega)) (fun _ => ?_) (hk1 w2 hf2) rfl (by omega) (by omega))
          rw [bi_bit m hm p (by omega), bi_bit m hm q (by omega)]
          by_cases h2 : m.testBit p = true
          · rw [if_pos h2]
            refine pn_ne 1 1 (fun h => absurd rfl h) (fun _ => ?_)
            by_cases h3 : m.testBit q = true
            · rw [if_pos h3]
              refine pn_ne 1 1 (fun h => absurd rfl h) (fun _ => q_MO_pair_48 hGo ⟨6 * p + q, by omega, by rw [nI_mul, nI_add], pk_eq 1 0 (fun h => absurd h (by decide)) (fun _ => next _ _ (fun z hz => ?_))⟩)
              rw [if_pos (by rw [h2, h3]; rfl), hz]
            · rw [if_neg h3]
              exact pn_ne 0 1 (fun _ => no (fun z => h3 (Bool.and_eq_true_iff.mp z).2) _) (fun h => absurd h (by decide))
          · rw [if_neg h2]
            exact pn_ne 0 1 (fun _ => no (fun z => h2 (Bool.and_eq_true_iff.mp z).1) _) (fun h => absurd h (by decide))
      refine q_MO_pair_2 hGo (pk_le v p (fun h => absurd h (by omega)) (fun _ => ?_) (hk1 w' hf) rfl (by omega) (by omega))
      rw [nI_add]
      refine inner (v - (p + 1)) (p + 1) w' _ (by omega) (by omega) hf (fun a ha b hb => ?_)
      rw [hv2 a ha b hb]
      by_cases h : a < p ∧ a < b ∧ b < v ∧ (m.testBit a && m.testBit b) = true
      · rw [if_pos h, if_pos ⟨Or.inl h.1, h.2⟩]
      · rw [if_neg h, if_neg (fun z => h ⟨by omega, z.2⟩)]
  exact q_MO_pair_0 hGo (loop v 0 w _ _ (by omega) (fr_refl _ _ _) (fun a ha b hb => by rw [if_neg (by omega)]))
theorem meet_app (e : List Nat) (m a b : Nat) : ce_meet (e ++ [m]) a b = ce_meet e a b + (if (m.testBit a && m.testBit b) = true then 1 else 0) := by
  unfold ce_meet
  rw [List.countP_append, List.countP_singleton]
theorem m1_ : Int32.ofInt (-1) = -1 := by decide +kernel
theorem m1_s (n : Nat) : nI (n + 1) + Int32.ofInt (-1) = nI n := by rw [m1_]; exact pk_m1 n
theorem m1_0 : nI 0 + Int32.ofInt (-1) < nI 0 := by decide +kernel
theorem pr_up {v m : Nat} {e : List Nat} {w w' : ma_W} (h : pr_ v e w) (hc : ∀ a, a < 6 → ∀ b, b < 6 → w'.2.2 31 (6 * a + b) = if a < b ∧ b < v ∧ (m.testBit a && m.testBit b) = true then w.2.2 31 (6 * a + b) + nI 1 else w.2.2 31 (6 * a + b)) : pr_ v (e ++ [m]) w' := by
  intro a ha b hb
  rw [hc a ha b hb, h a ha b hb]
  by_cases h1 : a < b ∧ b < v
  · rw [if_pos h1, if_pos h1, meet_app]
    by_cases h2 : (m.testBit a && m.testBit b) = true
    · rw [if_pos ⟨h1.1, h1.2, h2⟩, if_pos h2, nI_add]
    · rw [if_neg (fun z => h2 z.2.2), if_neg h2, Nat.add_zero]
  · rw [if_neg (fun z => h1 ⟨z.1, z.2.1⟩), if_neg h1, if_neg h1]
theorem pr_dn {v m : Nat} {e : List Nat} {w w' : ma_W} (h : pr_ v (e ++ [m]) w) (hc : ∀ a, a < 6 → ∀ b, b < 6 → w'.2.2 31 (6 * a + b) = if a < b ∧ b < v ∧ (m.testBit a && m.testBit b) = true then w.2.2 31 (6 * a + b) + Int32.ofInt (-1) else w.2.2 31 (6 * a + b)) : pr_ v e w' := by
  intro a ha b hb
  rw [hc a ha b hb, h a ha b hb]
  by_cases h1 : a < b ∧ b < v
  · rw [if_pos h1, if_pos h1, meet_app]
    by_cases h2 : (m.testBit a && m.testBit b) = true
    · rw [if_pos ⟨h1.1, h1.2, h2⟩, if_pos h2, m1_s]
    · rw [if_neg (fun z => h2 z.2.2), if_neg h2, Nat.add_zero]
  · rw [if_neg (fun z => h1 ⟨z.1, z.2.1⟩), if_neg h1, if_neg h1]
def T_MO_tooOften : ma_T := fun as w post => ∃ v lam e, as = [.inr 24] ∧ v ≤ 6 ∧ lam < 2 ^ 31 ∧ e.length ≤ 2000 ∧ w.1 24 3 = nI lam ∧ pr_ v e w ∧ post (bI (!ce_pk v lam e)) w
theorem i_MO_tooOften {v lam : Nat} {e : List Nat} {w : ma_W} {post : ma_P} (hv : v ≤ 6) (hl : lam < 2 ^ 31) (he : e.length ≤ 2000) (h3 : w.1 24 3 = nI lam) (hpr : pr_ v e w) (hp : post (bI (!ce_pk v lam e)) w) : T_MO_tooOften [.inr 24] w post := ⟨v, lam, e, rfl, hv, hl, he, h3, hpr, hp⟩
theorem c_MO_tooOften {l : Launch} : ma_Met l y_MO_tooOften (w_MO_tooOften :: zw_t) 0 true T_MO_tooOften := by
  refine z_MO_tooOften (by rintro as w post ⟨v, lam, e, rfl, -⟩; simp) ?_
  rintro as w post ⟨v, lam, e, rfl, hv, hl, he, h3, hpr, hp⟩ Go hGo
  have at_ : ∀ c, c < 36 → ∃ a b, a < 6 ∧ b < 6 ∧ c = 6 * a + b ∧ w.2.2 31 c = nI (if a < b ∧ b < v then ce_meet e a b else 0) := by
    intro c hc
    refine ⟨c / 6, c % 6, by omega, by omega, by omega, ?_⟩
    have := hpr (c / 6) (by omega) (c % 6) (by omega)
    rw [show 6 * (c / 6) + c % 6 = c by omega] at this
    exact this
  have loop : ∀ (d n : Nat) (g : Bool), n + d = 36 → (g = true → ce_pk v lam e = false) → (g = false → ∀ a b, a < b → b < v → 6 * a + b < n → ce_meet e a b ≤ lam) → Go 4 [some (.inr 24), some (.inl (bI g)), some (.inl (nI n))] [] w := by
    intro d
    induction d with
    | zero =>
      intro n g hd k1 k2
      refine q_MO_tooOften_4 hGo (pk_le 36 n (fun _ => q_MO_tooOften_39 hGo ⟨bI_bo g, ?_⟩) (fun h => absurd h (by omega)))
      cases g with
      | true => rw [k1 rfl] at hp; exact hp
      | false =>
        have : ce_pk v lam e = true := ce_pk_iff.mpr (fun a b hab hb => k2 rfl a b hab hb (by omega))
        rw [this] at hp
        exact hp
    | succ d ih =>
      intro n g hd k1 k2
      obtain ⟨a, b, ha, hb, hc, hval⟩ := at_ n (by omega)
      have hcm := cm_le e a b
      have yes : ce_pk v lam e = false → ∀ g', Go 27 [some (.inr 24), some (.inl (bI g')), some (.inl (nI n))] [] w := by
        intro h g'
        refine q_MO_tooOften_27 hGo (q_MO_tooOften_32 hGo ?_)
        rw [nI_add]
        exact ih (n + 1) true (by omega) (fun _ => h) (fun z => by cases z)
      refine q_MO_tooOften_4 hGo (pk_le 36 n (fun h => absurd h (by omega)) (fun _ => bI_ne (fun hg => yes (k1 hg) g) (fun hg => ⟨n, by omega, rfl, ?_⟩)))
      rw [hval]
      refine pk_le (if a < b ∧ b < v then ce_meet e a b else 0) lam (fun h => q_MO_tooOften_31 hGo (q_MO_tooOften_32 hGo ?_)) (fun h => yes ?_ g) rfl h3 (by split <;> omega) hl
      · rw [nI_add]
        refine ih (n + 1) false (by omega) (fun z => by cases z) (fun _ x y hxy hy hlt => ?_)
        by_cases hxn : 6 * x + y = n
        · obtain ⟨rfl, rfl⟩ := ix6 (show y < 6 by omega) hb (hxn.trans hc)
          rw [if_pos ⟨hxy, hy⟩] at h
          exact h
        · exact k2 hg x y hxy hy (by omega)
      · cases hq : ce_pk v lam e with
        | false => rfl
        | true =>
          have := ce_pk_iff.mp hq
          by_cases hab : a < b ∧ b < v
          · rw [if_pos hab] at h
            have := this a b hab.1 hab.2
            omega
          · rw [if_neg hab] at h
            omega
  exact q_MO_tooOften_0 hGo (loop 36 0 false (by omega) (fun z => by cases z) (fun _ a b _ _ h => absurd h (Nat.not_lt_zero _)))
