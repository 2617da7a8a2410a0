/-! CONTRACTS: the reference, labelled -/
/-- a state that can be come to -/
def okc (c : cs_) : Prop := match c with
  | none => True
  | some (v, k, lam, n) => ∀ d, d ≤ n → (ce_L v k lam d).length ≤ 60
/-- the blocks at places -/
def em (K is : List Nat) : List Nat := is.map (fun i => K.getD i 0)
theorem em_app (K is : List Nat) (i : Nat) : em K (is ++ [i]) = em K is ++ [K.getD i 0] := by simp [em]
/-- the count stands at the places is, and at place p -/
def lin (v k : Nat) (is : List Nat) (p : Nat) (w : ma_W) : Prop := (∀ i, i < is.length → w.2.2 32 i = nI (is.getD i 0)) ∧ (∀ i ∈ is, i < (fm_K v k).length) ∧ w.2.2 32 is.length = nI p ∧ pr_ v (em (fm_K v k) is) w
theorem pr_fr {v : Nat} {e : List Nat} {qs : List Nat} {w w' : ma_W} (h : pr_ v e w) (hf : fr [] qs w w') (h1 : 31 ∉ qs) : pr_ v e w' := by
  unfold pr_
  rw [hf.2.2 31 h1]
  exact h
def T_MO_labelled : ma_T := fun as w post => ∃ c xs, as = [.inr 24] ∧ MI c xs w ∧ okc c ∧ ∀ w', MI c xs w' → frM w w' → post (A_labelled c) w'
theorem gdn {is : List Nat} {i : Nat} : (is ++ [i]).getD is.length 0 = i := gd_app_r
theorem K_pre {v k : Nat} {pre ks : List Nat} {b : Nat} (h : fm_K v k = pre ++ b :: ks) : pre.length < (fm_K v k).length ∧ (fm_K v k).getD pre.length 0 = b := by
  rw [h]
  refine ⟨by simp, ?_⟩
  rw [List.getD_eq_getElem?_getD, List.getElem?_append_right (Nat.le_refl _), Nat.sub_self]
  rfl
theorem c_MO_labelled {l : Launch} : ma_Met l y_MO_labelled (w_MO_labelled :: zw_t) 1 true T_MO_labelled := by
  refine z_MO_labelled c_MO_pair (by decide) c_MO_tooOften (by decide) (by rintro as w post ⟨c, xs, rfl, -⟩; simp) ?_
  rintro as w post ⟨c, xs, rfl, hM, hok, hp⟩ Go hGo
  match c, hM, hok, hp with
  | none, hM, _, hp =>
    exact q_MO_labelled_0 hGo (bI_at (b := false) hM.2.2.1 (fun _ => q_MO_labelled_14 hGo (bI_at (b := false) hM.2.2.1 (fun _ => q_MO_labelled_25 hGo (q_MO_labelled_26 hGo (hp w hM (frM_refl w)))) (fun h => by cases h))) (fun h => by cases h))
  | some (v, k, lam, n), hM, hok, hp =>
    obtain ⟨a1, b1, b2, b3, b4, b5, b6⟩ := id hM
    have hv6 := b1.2.1
    have hn10 := b5.2.1
    have h20 := vk_20 b1
    have hSle := S_le b1 hn10 hok
    refine q_MO_labelled_0 hGo (bI_at (b := true) b4.1 (fun h => by cases h) (fun _ => pn_ne n 0 (fun hn0 => q_MO_labelled_27 hGo ?_) (fun hn0 => q_MO_labelled_14 hGo (bI_at (b := true) b4.1 (fun h => by cases h) (fun _ => q_MO_labelled_26 hGo ?_))) b5.2.2.1 rfl (by omega) (by omega)))
    · -- what stays
      have keep : ∀ w' : ma_W, fr [] [31, 32] w w' → w'.1 24 1 = nI v ∧ w'.1 24 3 = nI lam ∧ w'.1 24 4 = nI n ∧ w'.1 24 5 = nI (fm_K v k).length ∧ (∀ j, j < (fm_K v k).length → w'.2.2 25 j = nI ((fm_K v k).getD j 0)) := by
        intro w' hf
        rw [hf.2.1 24 List.not_mem_nil, hf.2.2 25 (by decide)]
        exact ⟨b4.2.1, b3, b5.2.2.1, b4.2.2.2.1, b4.2.2.2.2.2.1⟩
      have sub31 : ∀ {w1 w2 : ma_W}, fr [] [31] w1 w2 → fr [] [31, 32] w1 w2 := fun h => fr_mono h (fun _ h => h) (fun x hx => by rw [List.mem_singleton.mp hx]; decide)
      have run : ∀ (j : Nat) (ks is pre : List Nat) (t s : Nat) (w' : ma_W) (o : Option ma_V), fm_K v k = pre ++ ks → is.length + (j + 1) = n → lin v k is pre.length w' → fr [] [31, 32] w w' → s + lb_S v lam (j + 1) (em (fm_K v k) is) ks ≤ 99999999 → (∀ (w'' : ma_W) (o : Option ma_V), fr [] [31, 32] w w'' → (∀ is' i, is = is' ++ [i] → lin v k is' (i + 1) w'') → Go 61 [some (.inr 24), some (.inl (nI (t + lb_C v lam (j + 1) (em (fm_K v k) is) ks))), some (.inl (nI is.length + Int32.ofInt (-1))), some (.inl (nI (s + lb_S v lam (j + 1) (em (fm_K v k) is) ks))), o] [] w'') → Go 61 [some (.inr 24), some (.inl (nI t)), some (.inl (nI is.length)), some (.inl (nI s)), o] [] w' := by
        intro j
        induction j with
        | zero =>
          intro ks
          induction ks with
          | nil =>
            intro is pre t s w' o hK hn hin hf hS hcont
            obtain ⟨k1, k3, k4, k5, k25⟩ := keep w' hf
            have hS1 : lb_S v lam (0 + 1) (em (fm_K v k) is) [] = 1 := rfl
            have hC1 : lb_C v lam (0 + 1) (em (fm_K v k) is) [] = 0 := rfl
            rw [hS1] at hS hcont
            rw [hC1] at hcont
            rw [List.append_nil] at hK
            have hpk : pre.length = (fm_K v k).length := by rw [hK]
            refine q_MO_labelled_61 hGo (pk_le 100000000 s (fun h => absurd h (by omega)) (fun _ => pk_lt is.length 0 (fun h => absurd h (by omega)) (fun _ => ⟨is.length, by omega, rfl, pn_ne pre.length (fm_K v k).length (fun h => absurd (by rw [hK]) h) (fun _ => ?_) hin.2.2.1 k5 (by omega) (by omega)⟩) rfl rfl (by omega) (by omega)) (by decide +kernel) rfl (by decide) (by omega))
            rcases List.eq_nil_or_concat is with rfl | ⟨is', i, e⟩
            · refine ⟨fun _ => q_MO_labelled_234 hGo ?_, fun h => absurd m1_0 h⟩
              rw [nI_add]
              exact hcont w' o hf (fun is' i z => by cases is' <;> cases z)
            · rw [List.concat_eq_append] at e
              subst e
              have hl : (is' ++ [i]).length = is'.length + 1 := by simp
              obtain ⟨q1, q2, q3, q4⟩ := hin
              have hiK : i < (fm_K v k).length := q2 i (by simp)
              have hat : w'.2.2 32 is'.length = nI i := by rw [q1 _ (by omega), gdn]
              rw [hl, m1_s]
              refine pk_lt is'.length 0 (fun h => absurd h (by omega)) (fun _ => ⟨is'.length, by omega, rfl, i, by omega, hat, ?_⟩) rfl rfl (by omega) (by omega)
              rw [k25 i hiK]
              refine i_MO_pair hv6 (vk_64 b1 (K_mem hiK)) k1 (fun w2 f2 c2 => ⟨is'.length, by omega, rfl, is'.length, by omega, rfl, q_MO_labelled_234 hGo ?_⟩)
              rw [nI_add, f2.2.2 32 (by decide), hat, nI_add]
              have hc9 := hcont (w2.1, w2.2.1, ma_up w2.2.2 32 is'.length (nI (i + 1))) o (fr_a (fr_trans hf (sub31 f2)) (by decide) _ _) (fun is'' i'' z => ?_)
              · rw [hl, m1_s] at hc9
                exact hc9
              · obtain ⟨z1, z2⟩ := List.append_inj' z rfl
                cases z2
                subst z1
                refine ⟨fun a ha => ?_, fun a ha => q2 a (List.mem_append_left _ ha), ma_up_s _ _ _ _, ?_⟩
                · refine (ma_up_k _ _ _ _ (by omega)).trans ?_
                  rw [f2.2.2 32 (by decide), q1 a (by omega), gd_app_l ha]
                · rw [em_app] at q4
                  exact pr_fr (pr_dn q4 c2) (fr_a (fr_refl [] [32] w2) (by decide) _ _) (by decide)
          | cons b ks ihk =>
            intro is pre t s w' o hK hn hin hf hS hcont
            obtain ⟨k1, k3, k4, k5, k25⟩ := keep w' hf
            obtain ⟨hpl, hpb⟩ := K_pre hK
            obtain ⟨q1, q2, q3, q4⟩ := id hin
            have hb64 : b < 64 := by rw [← hpb]; exact vk_64 b1 (K_mem hpl)
            have hK2 : fm_K v k = (pre ++ [b]) ++ ks := by rw [hK, List.append_assoc]; rfl
            have hpl2 : (pre ++ [b]).length = pre.length + 1 := by simp
            have hS1 : lb_S v lam (0 + 1) (em (fm_K v k) is) (b :: ks) = 1 + lb_S v lam (0 + 1) (em (fm_K v k) is) ks := by
              show 1 + (if ce_pk v lam (em (fm_K v k) is ++ [b]) = true then 0 else 0) + lb_S v lam (0 + 1) (em (fm_K v k) is) ks = _
              rw [ite_self, Nat.add_zero]
            have hC1 : lb_C v lam (0 + 1) (em (fm_K v k) is) (b :: ks) = (if ce_pk v lam (em (fm_K v k) is ++ [b]) = true then 1 else 0) + lb_C v lam (0 + 1) (em (fm_K v k) is) ks := by
              show 0 + (if ce_pk v lam (em (fm_K v k) is ++ [b]) = true then 1 else 0) + lb_C v lam (0 + 1) (em (fm_K v k) is) ks = _
              rw [Nat.zero_add]
            rw [hS1] at hS hcont
            rw [hC1] at hcont
            -- the block is taken back, the next one is tried
            have step : ∀ (t2 : Nat) (w2 : ma_W) (x4 : Int32), fr [] [31, 32] w w2 → (∀ i, i < is.length → w2.2.2 32 i = nI (is.getD i 0)) → w2.2.2 32 is.length = nI pre.length → pr_ v (em (fm_K v k) is ++ [b]) w2 → t2 + lb_C v lam (0 + 1) (em (fm_K v k) is) ks = t + ((if ce_pk v lam (em (fm_K v k) is ++ [b]) = true then 1 else 0) + lb_C v lam (0 + 1) (em (fm_K v k) is) ks) → Go 208 [some (.inr 24), some (.inl (nI t2)), some (.inl (nI is.length)), some (.inl (nI s)), some (.inl x4)] [] w2 := by
              intro t2 w2 x4 f2 r1 r3 r4 ht
              obtain ⟨m1, m3, m4, m5, m25⟩ := keep w2 f2
              refine q_MO_labelled_208 hGo ⟨is.length, by omega, rfl, pre.length, by omega, r3, ?_⟩
              rw [m25 _ hpl, hpb]
              refine i_MO_pair hv6 hb64 m1 (fun w3 f3 c3 => ⟨is.length, by omega, rfl, is.length, by omega, rfl, q_MO_labelled_234 hGo ?_⟩)
              rw [f3.2.2 32 (by decide), r3, nI_add, nI_add, ← hpl2]
              refine ihk is (pre ++ [b]) t2 (s + 1) _ _ hK2 hn ⟨fun a ha => ?_, q2, ?_, ?_⟩ (fr_a (fr_trans f2 (sub31 f3)) (by decide) _ _) (by omega) ?_
              · refine (ma_up_k _ _ _ _ (by omega)).trans ?_
                rw [f3.2.2 32 (by decide)]; exact r1 a ha
              · exact ma_up_s _ _ _ _
              · exact pr_fr (pr_dn r4 c3) (fr_a (fr_refl [] [32] w3) (by decide) _ _) (by decide)
              · rw [ht, show s + 1 + lb_S v lam (0 + 1) (em (fm_K v k) is) ks = s + (1 + lb_S v lam (0 + 1) (em (fm_K v k) is) ks) by omega]
                exact hcont
            refine q_MO_labelled_61 hGo (pk_le 100000000 s (fun h => absurd h (by omega)) (fun _ => pk_lt is.length 0 (fun h => absurd h (by omega)) (fun _ => ⟨is.length, by omega, rfl, pn_ne pre.length (fm_K v k).length (fun _ => q_MO_labelled_120 hGo ⟨is.length, by omega, rfl, pre.length, by omega, q3, ?_⟩) (fun h => absurd h (by omega)) q3 k5 (by omega) (by omega)⟩) rfl rfl (by omega) (by omega)) (by decide +kernel) rfl (by decide) (by omega))
            rw [k25 _ hpl, hpb]
            refine i_MO_pair hv6 hb64 k1 (fun w2 f2 c2 => ?_)
            have r4 := pr_up q4 c2
            have r1 : ∀ i, i < is.length → w2.2.2 32 i = nI (is.getD i 0) := fun i hi => by rw [f2.2.2 32 (by decide)]; exact q1 i hi
            have r3 : w2.2.2 32 is.length = nI pre.length := by rw [f2.2.2 32 (by decide)]; exact q3
            have hf2 := fr_trans hf (sub31 f2)
            obtain ⟨m1, m3, m4, m5, m25⟩ := keep w2 hf2
            refine i_MO_tooOften hv6 (by omega) (by simp [em]; omega) m3 r4 (bI_ne (fun hbad => q_MO_labelled_147 hGo (q_MO_labelled_148 hGo (pk_eq 0 0 (fun _ => q_MO_labelled_171 hGo (q_MO_labelled_172 hGo (pk_eq 0 0 (fun _ => step t w2 _ hf2 r1 r3 r4 ?_) (fun h => absurd rfl h)))) (fun h => absurd rfl h)))) (fun hgood => q_MO_labelled_148 hGo (pk_eq 1 0 (fun h => absurd h (by decide)) (fun _ => ?_))))
            · rw [Bool.not_eq_true'] at hbad
              rw [if_neg (by rw [hbad]; decide)]
              omega
            · rw [Bool.not_eq_false'] at hgood
              rw [m4, pk_sub (by omega)]
              refine pn_ne is.length (n - 1) (fun h => absurd (by omega) h) (fun _ => q_MO_labelled_172 hGo (pk_eq 1 0 (fun h => absurd h (by decide)) (fun _ => ?_))) rfl rfl (by omega) (by omega)
              rw [m4, pk_sub (by omega), nI_add]
              refine pk_le (n - 1) is.length (fun _ => step (t + 1) w2 _ hf2 r1 r3 r4 ?_) (fun h => absurd h (by omega)) rfl rfl (by omega) (by omega)
              rw [if_pos hgood]
              omega
        | succ j ihj =>
          intro ks
          induction ks with
          | nil =>
            intro is pre t s w' o hK hn hin hf hS hcont
            obtain ⟨k1, k3, k4, k5, k25⟩ := keep w' hf
            have hS1 : lb_S v lam (j + 1 + 1) (em (fm_K v k) is) [] = 1 := rfl
            have hC1 : lb_C v lam (j + 1 + 1) (em (fm_K v k) is) [] = 0 := rfl
            rw [hS1] at hS hcont
            rw [hC1] at hcont
            rw [List.append_nil] at hK
            have hpk : pre.length = (fm_K v k).length := by rw [hK]
            refine q_MO_labelled_61 hGo (pk_le 100000000 s (fun h => absurd h (by omega)) (fun _ => pk_lt is.length 0 (fun h => absurd h (by omega)) (fun _ => ⟨is.length, by omega, rfl, pn_ne pre.length (fm_K v k).length (fun h => absurd (by rw [hK]) h) (fun _ => ?_) hin.2.2.1 k5 (by omega) (by omega)⟩) rfl rfl (by omega) (by omega)) (by decide +kernel) rfl (by decide) (by omega))
            rcases List.eq_nil_or_concat is with rfl | ⟨is', i, e⟩
            · refine ⟨fun _ => q_MO_labelled_234 hGo ?_, fun h => absurd m1_0 h⟩
              rw [nI_add]
              exact hcont w' o hf (fun is' i z => by cases is' <;> cases z)
            · rw [List.concat_eq_append] at e
              subst e
              have hl : (is' ++ [i]).length = is'.length + 1 := by simp
              obtain ⟨q1, q2, q3, q4⟩ := hin
              have hiK : i < (fm_K v k).length := q2 i (by simp)
              have hat : w'.2.2 32 is'.length = nI i := by rw [q1 _ (by omega), gdn]
              rw [hl, m1_s]
              refine pk_lt is'.length 0 (fun h => absurd h (by omega)) (fun _ => ⟨is'.length, by omega, rfl, i, by omega, hat, ?_⟩) rfl rfl (by omega) (by omega)
              rw [k25 i hiK]
              refine i_MO_pair hv6 (vk_64 b1 (K_mem hiK)) k1 (fun w2 f2 c2 => ⟨is'.length, by omega, rfl, is'.length, by omega, rfl, q_MO_labelled_234 hGo ?_⟩)
              rw [nI_add, f2.2.2 32 (by decide), hat, nI_add]
              have hc9 := hcont (w2.1, w2.2.1, ma_up w2.2.2 32 is'.length (nI (i + 1))) o (fr_a (fr_trans hf (sub31 f2)) (by decide) _ _) (fun is'' i'' z => ?_)
              · rw [hl, m1_s] at hc9
                exact hc9
              · obtain ⟨z1, z2⟩ := List.append_inj' z rfl
                cases z2
                subst z1
                refine ⟨fun a ha => ?_, fun a ha => q2 a (List.mem_append_left _ ha), ma_up_s _ _ _ _, ?_⟩
                · refine (ma_up_k _ _ _ _ (by omega)).trans ?_
                  rw [f2.2.2 32 (by decide), q1 a (by omega), gd_app_l ha]
                · rw [em_app] at q4
                  exact pr_fr (pr_dn q4 c2) (fr_a (fr_refl [] [32] w2) (by decide) _ _) (by decide)
          | cons b ks ihk =>
            intro is pre t s w' o hK hn hin hf hS hcont
            obtain ⟨k1, k3, k4, k5, k25⟩ := keep w' hf
            obtain ⟨hpl, hpb⟩ := K_pre hK
            obtain ⟨q1, q2, q3, q4⟩ := id hin
            have hb64 : b < 64 := by rw [← hpb]; exact vk_64 b1 (K_mem hpl)
            have hK2 : fm_K v k = (pre ++ [b]) ++ ks := by rw [hK, List.append_assoc]; rfl
            have hpl2 : (pre ++ [b]).length = pre.length + 1 := by simp
            have hS1 : lb_S v lam (j + 1 + 1) (em (fm_K v k) is) (b :: ks) = 1 + (if ce_pk v lam (em (fm_K v k) is ++ [b]) = true then lb_S v lam (j + 1) (em (fm_K v k) is ++ [b]) (b :: ks) else 0) + lb_S v lam (j + 1 + 1) (em (fm_K v k) is) ks := rfl
            have hC1 : lb_C v lam (j + 1 + 1) (em (fm_K v k) is) (b :: ks) = 0 + (if ce_pk v lam (em (fm_K v k) is ++ [b]) = true then lb_C v lam (j + 1) (em (fm_K v k) is ++ [b]) (b :: ks) else 0) + lb_C v lam (j + 1 + 1) (em (fm_K v k) is) ks := rfl
            rw [hS1] at hS hcont
            rw [hC1] at hcont
            -- the block is taken back, the next one is tried
            have step : ce_pk v lam (em (fm_K v k) is ++ [b]) = false → ∀ (w2 : ma_W) (x4 : Int32), fr [] [31, 32] w w2 → (∀ i, i < is.length → w2.2.2 32 i = nI (is.getD i 0)) → w2.2.2 32 is.length = nI pre.length → pr_ v (em (fm_K v k) is ++ [b]) w2 → Go 208 [some (.inr 24), some (.inl (nI t)), some (.inl (nI is.length)), some (.inl (nI s)), some (.inl x4)] [] w2 := by
              intro hbad w2 x4 f2 r1 r3 r4
              rw [if_neg (by rw [hbad]; decide)] at hS hcont
              rw [if_neg (by rw [hbad]; decide)] at hcont
              obtain ⟨m1, m3, m4, m5, m25⟩ := keep w2 f2
              refine q_MO_labelled_208 hGo ⟨is.length, by omega, rfl, pre.length, by omega, r3, ?_⟩
              rw [m25 _ hpl, hpb]
              refine i_MO_pair hv6 hb64 m1 (fun w3 f3 c3 => ⟨is.length, by omega, rfl, is.length, by omega, rfl, q_MO_labelled_234 hGo ?_⟩)
              rw [f3.2.2 32 (by decide), r3, nI_add, nI_add, ← hpl2]
              refine ihk is (pre ++ [b]) t (s + 1) _ _ hK2 hn ⟨fun a ha => ?_, q2, ?_, ?_⟩ (fr_a (fr_trans f2 (sub31 f3)) (by decide) _ _) (by omega) ?_
              · refine (ma_up_k _ _ _ _ (by omega)).trans ?_
                rw [f3.2.2 32 (by decide)]; exact r1 a ha
              · exact ma_up_s _ _ _ _
              · exact pr_fr (pr_dn r4 c3) (fr_a (fr_refl [] [32] w3) (by decide) _ _) (by decide)
              · rw [show t + lb_C v lam (j + 1 + 1) (em (fm_K v k) is) ks = t + (0 + 0 + lb_C v lam (j + 1 + 1) (em (fm_K v k) is) ks) by omega, show s + 1 + lb_S v lam (j + 1 + 1) (em (fm_K v k) is) ks = s + (1 + 0 + lb_S v lam (j + 1 + 1) (em (fm_K v k) is) ks) by omega]
                exact hcont
            refine q_MO_labelled_61 hGo (pk_le 100000000 s (fun h => absurd h (by omega)) (fun _ => pk_lt is.length 0 (fun h => absurd h (by omega)) (fun _ => ⟨is.length, by omega, rfl, pn_ne pre.length (fm_K v k).length (fun _ => q_MO_labelled_120 hGo ⟨is.length, by omega, rfl, pre.length, by omega, q3, ?_⟩) (fun h => absurd h (by omega)) q3 k5 (by omega) (by omega)⟩) rfl rfl (by omega) (by omega)) (by decide +kernel) rfl (by decide) (by omega))
            rw [k25 _ hpl, hpb]
            refine i_MO_pair hv6 hb64 k1 (fun w2 f2 c2 => ?_)
            have r4 := pr_up q4 c2
            have r1 : ∀ i, i < is.length → w2.2.2 32 i = nI (is.getD i 0) := fun i hi => by rw [f2.2.2 32 (by decide)]; exact q1 i hi
            have r3 : w2.2.2 32 is.length = nI pre.length := by rw [f2.2.2 32 (by decide)]; exact q3
            have hf2 := fr_trans hf (sub31 f2)
            obtain ⟨m1, m3, m4, m5, m25⟩ := keep w2 hf2
            refine i_MO_tooOften hv6 (by omega) (by simp [em]; omega) m3 r4 (bI_ne (fun hbad => q_MO_labelled_147 hGo (q_MO_labelled_148 hGo (pk_eq 0 0 (fun _ => q_MO_labelled_171 hGo (q_MO_labelled_172 hGo (pk_eq 0 0 (fun _ => step (by rwa [Bool.not_eq_true'] at hbad) w2 _ hf2 r1 r3 r4) (fun h => absurd rfl h)))) (fun h => absurd rfl h)))) (fun hgood => q_MO_labelled_148 hGo (pk_eq 1 0 (fun h => absurd h (by decide)) (fun _ => ?_))))
            rw [Bool.not_eq_false'] at hgood
            rw [m4, pk_sub (by omega)]
            refine pn_ne is.length (n - 1) (fun _ => q_MO_labelled_171 hGo (q_MO_labelled_172 hGo (pk_eq 1 0 (fun h => absurd h (by decide)) (fun _ => ?_)))) (fun h => absurd h (by omega)) rfl rfl (by omega) (by omega)
            rw [m4, pk_sub (by omega)]
            refine pk_le (n - 1) is.length (fun h => absurd h (by omega)) (fun _ => ⟨is.length, by omega, rfl, is.length + 1, by omega, by rw [nI_add], q_MO_labelled_234 hGo ?_⟩) rfl rfl (by omega) (by omega)
            rw [if_pos hgood] at hS hcont
            rw [if_pos hgood] at hcont
            have hl1 : (is ++ [pre.length]).length = is.length + 1 := by simp
            have hem : em (fm_K v k) (is ++ [pre.length]) = em (fm_K v k) is ++ [b] := by rw [em_app, hpb]
            rw [nI_add, nI_add, ← hl1, r3]
            refine ihj (b :: ks) (is ++ [pre.length]) pre t (s + 1) _ _ hK (by rw [hl1]; omega) ⟨fun a ha => ?_, fun a ha => ?_, ma_up_s _ _ _ _, ?_⟩ (fr_a hf2 (by decide) _ _) (by rw [hem]; omega) (fun w3 o3 f3 k3' => ?_)
            · refine (ma_up_k _ _ _ _ (by omega)).trans ?_
              by_cases hal : a = is.length
              · subst hal
                rw [gdn]; exact r3
              · rw [hl1] at ha
                rw [gd_app_l (by omega)]
                exact r1 a (by omega)
            · rcases List.mem_append.mp ha with h | h
              · exact q2 a h
              · rw [List.mem_singleton.mp h]; exact hpl
            · rw [hem]
              exact pr_fr r4 (fr_a (fr_refl [] [32] w2) (by decide) _ _) (by decide)
            · have hin3 := k3' is pre.length rfl
              rw [hl1, m1_s, hem]
              rw [← hpl2] at hin3
              refine ihk is (pre ++ [b]) _ _ w3 _ hK2 hn hin3 f3 (by omega) ?_
              rw [show t + lb_C v lam (j + 1) (em (fm_K v k) is ++ [b]) (b :: ks) + lb_C v lam (j + 1 + 1) (em (fm_K v k) is) ks = t + (0 + lb_C v lam (j + 1) (em (fm_K v k) is ++ [b]) (b :: ks) + lb_C v lam (j + 1 + 1) (em (fm_K v k) is) ks) by omega, show s + 1 + lb_S v lam (j + 1) (em (fm_K v k) is ++ [b]) (b :: ks) + lb_S v lam (j + 1 + 1) (em (fm_K v k) is) ks = s + (1 + lb_S v lam (j + 1) (em (fm_K v k) is ++ [b]) (b :: ks) + lb_S v lam (j + 1 + 1) (em (fm_K v k) is) ks) by omega]
              exact hcont
      have loop0 : ∀ (d i : Nat) (w' : ma_W) (o2 o3 o4 : Option ma_V), i + d = 36 → fr [] [31, 32] w w' → (∀ x, x < i → w'.2.2 31 x = nI 0) → Go 29 [some (.inr 24), some (.inl (nI i)), o2, o3, o4] [] w' := by
        intro d
        induction d with
        | zero =>
          intro i w' o2 o3 o4 hd hf h0
          refine q_MO_labelled_29 hGo (pk_le 36 i (fun _ => q_MO_labelled_48 hGo ⟨0, by decide, rfl, ?_⟩) (fun h => absurd h (by omega)))
          have hpr : pr_ v [] w' := by
            intro a ha b hb
            rw [h0 _ (by omega)]
            split
            · rfl
            · rfl
          have := run (n - 1) (fm_K v k) [] [] 0 0 (w'.1, w'.2.1, ma_up w'.2.2 32 0 (nI 0)) o4 rfl (by show 0 + (n - 1 + 1) = n; omega) ⟨fun a ha => absurd ha (Nat.not_lt_zero a), fun a ha => absurd ha List.not_mem_nil, rfl, pr_fr hpr (fr_a (fr_refl [] [32] w') (by decide) _ _) (by decide)⟩ (fr_a hf (by decide) _ _) (by rw [show n - 1 + 1 = n by omega]; show 0 + lb_S v lam n [] (fm_K v k) ≤ 99999999; omega) (fun w2 o2 f2 _ => ?_)
          · exact this
          · have hex : Go 240 [some (.inr 24), some (.inl (nI (0 + lb_C v lam (n - 1 + 1) (em (fm_K v k) []) (fm_K v k)))), some (.inl (nI ([] : List Nat).length + Int32.ofInt (-1))), some (.inl (nI (0 + lb_S v lam (n - 1 + 1) (em (fm_K v k) []) (fm_K v k)))), o2] [] w2 := by
              refine q_MO_labelled_240 hGo ?_
              rw [show n - 1 + 1 = n by omega, Nat.zero_add]
              show post (nI (lb_C v lam n [] (fm_K v k))) w2
              rw [lb_root]
              exact hp w2 (MI_fr hM f2 (by decide) (by decide) (by decide) (by decide)) (frM_of f2 (fun _ h => absurd h List.not_mem_nil) (by decide))
            exact q_MO_labelled_61 hGo ⟨fun _ => hex, fun _ => ⟨fun _ => hex, fun h => absurd m1_0 h⟩⟩
        | succ d ih =>
          intro i w' o2 o3 o4 hd hf h0
          refine q_MO_labelled_29 hGo (pk_le 36 i (fun h => absurd h (by omega)) (fun _ => ⟨i, by omega, rfl, ?_⟩))
          rw [nI_add]
          refine ih (i + 1) _ _ _ _ (by omega) (fr_a hf (by decide) _ _) (fun x hx => ?_)
          by_cases hxi : x = i
          · subst hxi; exact ma_up_s _ _ _ _
          · exact (ma_up_k _ _ _ _ hxi).trans (h0 x (by omega))
      exact loop0 36 0 w _ _ _ (by omega) (fr_refl _ _ _) (fun x hx => absurd hx (Nat.not_lt_zero x))
    · subst hn0
      exact hp w hM (frM_refl w)
