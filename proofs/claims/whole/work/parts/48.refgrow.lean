/-! CONTRACTS: the reference, the next level -/
theorem tm_app {e : List Nat} {m : Nat} {w : ma_W} (h : tm e w) : tm (e ++ [m]) (w.1, w.2.1, ma_up w.2.2 30 m (nI (e.count m + 1))) := by
  intro x hx
  rw [List.count_append]
  by_cases hxm : x = m
  · subst hxm
    refine (ma_up_s _ _ _ _).trans ?_
    simp
  · refine (ma_up_k _ _ _ _ hxm).trans ?_
    rw [h x hx, List.count_eq_zero.mpr (show x ∉ [m] from nm1 hxm), Nat.add_zero]
theorem mts_pk {v lam : Nat} {xs : List Nat} : mts v 0 lam xs = ce_pk v lam xs := by
  rw [Bool.eq_iff_iff, ce_pk_iff]
  unfold mts
  rw [al_iff]
  constructor
  · intro h p q hpq hq
    have := h q hq p hpq
    simpa using this
  · intro h q hq p hpq
    simpa using h p q hpq hq
theorem mts_d {v lam : Nat} {xs : List Nat} : mts v lam lam xs = isd v lam xs := by
  rw [Bool.eq_iff_iff]
  unfold mts isd
  rw [al_iff, al_iff]
  constructor
  · intro h q hq p hpq
    have := h q hq p hpq
    rw [Bool.and_eq_true, decide_eq_true_eq, decide_eq_true_eq] at this
    exact decide_eq_true (by omega)
  · intro h q hq p hpq
    have := of_decide_eq_true (h q hq p hpq)
    rw [Bool.and_eq_true, decide_eq_true_eq, decide_eq_true_eq]
    omega
/-- the rows that are made -/
def mf (n : Nat) (dn : List (List Nat)) (w : ma_W) : Prop := w.1 24 11 = nI dn.length ∧ ∀ a, a < dn.length → (dn.getD a []).length = n ∧ ∀ j, j < n → w.2.2 28 (10 * a + j) = nI ((dn.getD a []).getD j 0)
/-- what one more block gives -/
def ext_ (v k lam : Nat) (e : List Nat) (m : Nat) : List (List Nat) := if (ce_pk v lam (e ++ [m]) && ce_isf v (fm_K v k) (e ++ [m])) = true then [e ++ [m]] else []
def T_MO_extend : ma_T := fun as w post => ∃ v k lam n i m es dn, as = [.inr 24, .inl (nI i), .inl (nI m)] ∧ vk v k ∧ lam ≤ 4 ∧ w.1 24 3 = nI lam ∧ mg v k w ∧ ml v k n es w ∧ i < es.length ∧ m ∈ fm_K v k ∧ n < 10 ∧ mf (n + 1) dn w ∧ dn.length ≤ 60 ∧ ∀ w', fr [24] [28, 30] w w' → (∀ j, j ≠ 11 → w'.1 24 j = w.1 24 j) → ((dn ++ ext_ v k lam (es.getD i []) m).length ≤ 60 → mf (n + 1) (dn ++ ext_ v k lam (es.getD i []) m) w') → post (bI (decide ((dn ++ ext_ v k lam (es.getD i []) m).length ≤ 60))) w'
theorem i_MO_extend {v k lam n i m : Nat} {es dn : List (List Nat)} {w : ma_W} {post : ma_P} (hv : vk v k) (hlam : lam ≤ 4) (h3 : w.1 24 3 = nI lam) (hg : mg v k w) (hl : ml v k n es w) (hi : i < es.length) (hm : m ∈ fm_K v k) (hn : n < 10) (hd : mf (n + 1) dn w) (h60 : dn.length ≤ 60) (hp : ∀ w', fr [24] [28, 30] w w' → (∀ j, j ≠ 11 → w'.1 24 j = w.1 24 j) → ((dn ++ ext_ v k lam (es.getD i []) m).length ≤ 60 → mf (n + 1) (dn ++ ext_ v k lam (es.getD i []) m) w') → post (bI (decide ((dn ++ ext_ v k lam (es.getD i []) m).length ≤ 60))) w') : T_MO_extend [.inr 24, .inl (nI i), .inl (nI m)] w post := ⟨v, k, lam, n, i, m, es, dn, rfl, hv, hlam, h3, hg, hl, hi, hm, hn, hd, h60, hp⟩
theorem mg_f {v k j : Nat} {x : Int32} {w : ma_W} {a : Nat → Nat → Int32} (h : mg v k w) (h0 : j ≠ 0) (h1 : j ≠ 1) (h2 : j ≠ 2) (h5 : j ≠ 5) (h7 : j ≠ 7) (ha : a 25 = w.2.2 25) (hb : a 26 = w.2.2 26) : mg v k (ma_up w.1 24 j x, w.2.1, a) := by
  obtain ⟨g0, g1, g2, g5, g7, g25, g26⟩ := h
  refine ⟨(ma_up_k _ _ _ _ (Ne.symm h0)).trans g0, (ma_up_k _ _ _ _ (Ne.symm h1)).trans g1, (ma_up_k _ _ _ _ (Ne.symm h2)).trans g2, (ma_up_k _ _ _ _ (Ne.symm h5)).trans g5, (ma_up_k _ _ _ _ (Ne.symm h7)).trans g7, fun j hj => ?_, fun i hi p hp => ?_⟩
  · show a 25 j = _
    rw [ha]; exact g25 j hj
  · show a 26 (6 * i + p) = _
    rw [hb]; exact g26 i hi p hp
theorem c_MO_extend {l : Launch} : ma_Met l y_MO_extend (w_MO_extend :: zw_t) 3 true T_MO_extend := by
  refine z_MO_extend c_MO_lookAtEntry (by decide) c_MO_meets (by decide) c_MO_isLeast (by decide) (by rintro as w post ⟨v, k, lam, n, i, m, es, dn, rfl, -⟩; simp) ?_
  rintro as w post ⟨v, k, lam, n, i, m, es, dn, rfl, hv, hlam, h3, hg, hl, hi, hm, hn, hd, h60, hp⟩ Go hGo
  obtain ⟨hi60, he10, he4, hea, he64, heK⟩ := ml_at hv hl hi
  have hen : (es.getD i []).length = n := (hl.2.2.2.2 i hi).1
  obtain ⟨e, hee⟩ : ∃ e, es.getD i [] = e := ⟨_, rfl⟩
  rw [hee] at he10 he4 hea he64 heK hen hp
  have hm64 := vk_64 hv hm
  have hemK : ∀ x ∈ e ++ [m], x ∈ fm_K v k := by
    intro x hx
    rcases List.mem_append.mp hx with h | h
    · exact heK x h
    · rw [List.mem_singleton.mp h]; exact hm
  have hlen : (e ++ [m]).length = n + 1 := by simp [hen]
  refine q_MO_extend_0 hGo (i_MO_lookAtEntry hi60 he10 he4 hea he64 (fun w1 f1 t1 => ⟨m, hm64, rfl, m, hm64, rfl, ?_⟩))
  have f2 : fr [] [30] w (w1.1, w1.2.1, ma_up w1.2.2 30 m (w1.2.2 30 m + nI 1)) := fr_a f1 (by decide) _ _
  have t2 : tm (e ++ [m]) (w1.1, w1.2.1, ma_up w1.2.2 30 m (w1.2.2 30 m + nI 1)) := by
    rw [t1 m hm64, nI_add]
    exact tm_app t1
  have hw24 : ∀ j, w1.1 24 j = w.1 24 j := fun j => by rw [f1.2.1 24 List.not_mem_nil]
  generalize hwe : (w1.1, w1.2.1, ma_up w1.2.2 30 m (w1.2.2 30 m + nI 1)) = w2 at f2 t2
  rw [hw24 3, h3]
  have hg2 : mg v k w2 := mg_fr hg f2 (by decide) (by decide)
  have e24 : w2.1 24 = w.1 24 := f2.2.1 24 List.not_mem_nil
  have hd2 : mf (n + 1) dn w2 := by
    unfold mf
    rw [e24, f2.2.2 28 (by decide)]
    exact hd
  have hfr2 : fr [24] [28, 30] w w2 := fr_mono f2 (fun _ h => absurd h List.not_mem_nil) (fun x h => by rw [List.mem_singleton.mp h]; decide)
  have no : (ce_pk v lam (e ++ [m]) && ce_isf v (fm_K v k) (e ++ [m])) = false → ∀ o, Go 34 [some (.inr 24), some (.inl (nI i)), some (.inl (nI m)), o] [] w2 := by
    intro h o
    refine q_MO_extend_34 hGo ⟨bo1, ?_⟩
    have he : ext_ v k lam e m = [] := by unfold ext_; rw [if_neg (by rw [h]; decide)]
    rw [he, List.append_nil] at hp
    have h9 := hp w2 hfr2 (fun j _ => by rw [e24]) (fun _ => hd2)
    rw [decide_eq_true h60] at h9
    exact h9
  refine i_MO_meets hv hg2 t2 (by decide) (by omega) (by omega) hemK ?_
  rw [mts_pk]
  refine bI_eq (fun h => no (by rw [h]; rfl) _) (fun hpk => i_MO_isLeast hv hg2 t2 (by omega) (bI_ne (fun hlst => ?_) (fun h => no (by rw [h, Bool.and_false]) _)))
  have he : ext_ v k lam e m = [e ++ [m]] := by unfold ext_; rw [if_pos (by rw [hpk, hlst]; rfl)]
  rw [he] at hp
  have hl2 : (dn ++ [e ++ [m]]).length = dn.length + 1 := by simp
  refine q_MO_extend_36 hGo (pn_ne dn.length 60 (fun h => q_MO_extend_47 hGo ?_) (fun h => ⟨bo0, ?_⟩) hd2.1 rfl (by omega) (by omega))
  · have h60' : dn.length < 60 := by omega
    have loop : ∀ (d j : Nat) (w' : ma_W), j + d = n → fr [24] [28, 30] w w' → w'.1 24 = w.1 24 → (∀ a, a < dn.length → ∀ x, x < n + 1 → w'.2.2 28 (10 * a + x) = nI ((dn.getD a []).getD x 0)) → (∀ x, x < j → w'.2.2 28 (10 * dn.length + x) = nI (e.getD x 0)) → Go 49 [some (.inr 24), some (.inl (nI i)), some (.inl (nI m)), some (.inl (nI j))] [] w' := by
      intro d
      induction d with
      | zero =>
        intro j w' hdj hf hw ha hb
        have k4 : w'.1 24 4 = nI n := by rw [hw]; exact hl.2.2.1
        have k11 : w'.1 24 11 = nI dn.length := by rw [hw]; exact hd.1
        refine q_MO_extend_49 hGo (pk_le n j (fun _ => q_MO_extend_88 hGo ⟨10 * dn.length + n, by omega, by rw [k11, k4, nI_mul, nI_add], bo1, ?_⟩) (fun h => absurd h (by omega)) k4 rfl (by omega) (by omega))
        have h9 := hp (ma_up w'.1 24 11 (w'.1 24 11 + nI 1), w'.2.1, ma_up w'.2.2 28 (10 * dn.length + n) (nI m)) (fr_a (fr_f hf (by decide) 11 _) (by decide) _ _) (fun j hj => (ma_up_k _ _ _ _ hj).trans (by rw [hw])) (fun _ => ⟨?_, fun a ha2 => ?_⟩)
        · rw [decide_eq_true (by omega)] at h9
          exact h9
        · show w'.1 24 11 + nI 1 = _
          rw [k11, nI_add, hl2]
        · by_cases had : a = dn.length
          · subst had
            rw [gdE]
            refine ⟨hlen, fun x hx => ?_⟩
            by_cases hxn : x = n
            · subst hxn
              refine (ma_up_s _ _ _ _).trans ?_
              have : (e ++ [m]).getD x 0 = m := by rw [← hen]; exact gd_app_r
              rw [this]
            · refine (ma_up_k _ _ _ _ (show 10 * dn.length + x ≠ 10 * dn.length + n by omega)).trans ?_
              rw [gd_app_l (by omega)]
              exact hb x (by omega)
          · have hal : a < dn.length := by rw [hl2] at ha2; omega
            rw [gdL hal]
            refine ⟨(hd.2 a hal).1, fun x hx => (ma_up_k _ _ _ _ (show 10 * a + x ≠ 10 * dn.length + n by omega)).trans (ha a hal x hx)⟩
      | succ d ih =>
        intro j w' hdj hf hw ha hb
        have k4 : w'.1 24 4 = nI n := by rw [hw]; exact hl.2.2.1
        have k11 : w'.1 24 11 = nI dn.length := by rw [hw]; exact hd.1
        refine q_MO_extend_49 hGo (pk_le n j (fun h => absurd h (by omega)) (fun _ => ⟨10 * i + j, by omega, by rw [nI_mul, nI_add], 10 * dn.length + j, by omega, by rw [k11, nI_mul, nI_add], ?_⟩) k4 rfl (by omega) (by omega))
        rw [nI_add]
        refine ih (j + 1) _ (by omega) (fr_a hf (by decide) _ _) hw (fun a ha2 x hx => (ma_up_k _ _ _ _ (show 10 * a + x ≠ 10 * dn.length + j by omega)).trans (ha a ha2 x hx)) (fun x hx => ?_)
        by_cases hxj : x = j
        · subst hxj
          refine (ma_up_s _ _ _ _).trans ?_
          rw [hf.2.2 27 (by decide)]
          exact hea x (by omega)
        · exact (ma_up_k _ _ _ _ (show 10 * dn.length + x ≠ 10 * dn.length + j by omega)).trans (hb x (by omega))
    exact loop n 0 w2 (by omega) hfr2 e24 (fun a ha x hx => (hd2.2 a ha).2 x hx) (fun x hx => absurd hx (Nat.not_lt_zero x))
  · have hbig : ¬ (dn ++ [e ++ [m]]).length ≤ 60 := by omega
    have h9 := hp w2 hfr2 (fun j _ => by rw [e24]) (fun z => absurd z hbig)
    rw [decide_eq_false hbig] at h9
    exact h9
theorem cnd_x {v k lam b : Nat} {e : List Nat} (h : b < (fm_K v k).length) : cnd v lam (fm_K v k) e ((fm_K v k).take (b + 1)) = cnd v lam (fm_K v k) e ((fm_K v k).take b) ++ (if ce_last e ≤ (fm_K v k).getD b 0 then ext_ v k lam e ((fm_K v k).getD b 0) else []) := by
  rw [cnd_s h]
  congr 1
  unfold ext_
  by_cases h1 : ce_last e ≤ (fm_K v k).getD b 0
  · rw [if_pos h1, decide_eq_true h1, Bool.true_and]
  · rw [if_neg h1, decide_eq_false h1, Bool.false_and, if_neg (by decide)]
def T_MO_grow : ma_T := fun as w post => ∃ c xs, as = [.inr 24] ∧ MI c xs w ∧ ∀ w', MI (N_grow c) xs w' → frM w w' → post (A_grow c) w'
theorem c_MO_grow {l : Launch} : ma_Met l y_MO_grow (w_MO_grow :: zw_t) 4 true T_MO_grow := by
  refine z_MO_grow c_MO_extend (by decide) (by rintro as w post ⟨c, xs, rfl, -⟩; simp) ?_
  rintro as w post ⟨c, xs, rfl, hM, hp⟩ Go hGo
  match c, hM, hp with
  | none, hM, hp => exact q_MO_grow_0 hGo (bI_an (b := false) hM.2.2.1 (fun h => by cases h) (fun _ => hp w hM (frM_refl w)))
  | some (v, k, lam, n), hM, hp =>
    obtain ⟨a1, b1, b2, b3, b4, b5, b6⟩ := id hM
    have hn10 := b5.2.1
    have hl60 := b5.1
    have h20 := vk_20 b1
    refine q_MO_grow_0 hGo (bI_an (b := true) b4.1 (fun _ => ?_) (fun h => by cases h))
    refine q_MO_grow_9 hGo (pn_ne n 10 (fun hn => q_MO_grow_21 hGo ?_) (fun hn => ?_) b5.2.2.1 rfl (by omega) (by omega))
    · have hn9 : n < 10 := by omega
      -- what stays while rows are made
      have keep : ∀ w' : ma_W, fr [24] [28, 30] w w' → (∀ j, j ≠ 11 → w'.1 24 j = w.1 24 j) → mg v k w' ∧ ml v k n (ce_L v k lam n) w' ∧ w'.1 24 3 = nI lam ∧ mh xs w' := by
        intro w' hf hk
        refine ⟨?_, ?_, by rw [hk 3 (by decide)]; exact b3, ?_⟩
        · unfold mg
          rw [hk 0 (by decide), hk 1 (by decide), hk 2 (by decide), hk 5 (by decide), hk 7 (by decide), hf.2.2 25 (by decide), hf.2.2 26 (by decide)]
          exact b4
        · unfold ml
          rw [hk 4 (by decide), hk 9 (by decide), hf.2.2 27 (by decide)]
          exact b5
        · unfold mh
          rw [hk 13 (by decide), hf.2.2 29 (by decide)]
          exact a1
      have frk : ∀ w' : ma_W, fr [24] [28, 30] w w' → frM w w' := fun w' hf => frM_of hf (by decide) (by decide)
      have full : ¬ (ce_L v k lam (n + 1)).length ≤ 60 → ∀ w' : ma_W, fr [24] [28, 30] w w' → (∀ j, j ≠ 11 → w'.1 24 j = w.1 24 j) → post (Int32.ofInt (-5)) w' := by
        intro h w' hf hk
        obtain ⟨k1, k2, k3, k4⟩ := keep w' hf hk
        have h9 := hp w'
        simp only [N_grow, A_grow] at h9
        rw [if_neg (fun z => h z.2), if_neg (fun z => h z.2)] at h9
        exact h9 ⟨k4, b1, b2, k3, k1, k2, b6⟩ (frk w' hf)
      have hnx : ce_next v lam (fm_K v k) (ce_L v k lam n) = ce_L v k lam (n + 1) := rfl
      -- the new list is copied
      have copy : ∀ (d c : Nat) (w' : ma_W) (o2 o3 : Option ma_V), c + d = 10 * (ce_L v k lam (n + 1)).length → (ce_L v k lam (n + 1)).length ≤ 60 → fr [24] [27, 28, 30] w w' → (∀ j, j ≠ 11 → w'.1 24 j = w.1 24 j) → mf (n + 1) (ce_L v k lam (n + 1)) w' → (∀ x, x < c → w'.2.2 27 x = w'.2.2 28 x) → Go 115 [some (.inr 24), some (.inl (nI c)), o2, o3] [] w' := by
        intro d
        induction d with
        | zero =>
          intro c w' o2 o3 hd h60 hf hk hmf hcp
          refine q_MO_grow_115 hGo (pk_le (10 * (ce_L v k lam (n + 1)).length) c (fun _ => q_MO_grow_144 hGo ?_) (fun h => absurd h (by omega)) (by rw [hmf.1, nI_mul]) rfl (by omega) (by omega))
          have hc : n < 10 ∧ (ce_L v k lam (n + 1)).length ≤ 60 := ⟨hn9, h60⟩
          have h9 := hp (ma_up (ma_up w'.1 24 9 (w'.1 24 11)) 24 4 (w'.1 24 4 + nI 1), w'.2.1, w'.2.2)
          simp only [N_grow, A_grow] at h9
          rw [if_pos hc, if_pos hc] at h9
          rw [hmf.1] at h9 ⊢
          refine h9 ⟨⟨a1.1, ?_, fun j hj => ?_⟩, b1, b2, ?_, ?_, ⟨h60, by omega, ?_, rfl, fun i hi => ?_⟩, b6⟩ (frM_of (fr_f (fr_f hf (by decide) 9 _) (by decide) 4 _) (by decide) (by decide))
          · show w'.1 24 13 = _
            rw [hk 13 (by decide)]; exact a1.2.1
          · show w'.2.2 29 j = _
            rw [hf.2.2 29 (by decide)]; exact a1.2.2 j hj
          · show w'.1 24 3 = _
            rw [hk 3 (by decide)]; exact b3
          · have hg' : mg v k w' := by
              unfold mg
              rw [hk 0 (by decide), hk 1 (by decide), hk 2 (by decide), hk 5 (by decide), hk 7 (by decide), hf.2.2 25 (by decide), hf.2.2 26 (by decide)]
              exact b4
            exact mg_f (w := (ma_up w'.1 24 9 (nI (ce_L v k lam (n + 1)).length), w'.2.1, w'.2.2)) (mg_f hg' (by decide) (by decide) (by decide) (by decide) (by decide) rfl rfl) (by decide) (by decide) (by decide) (by decide) (by decide) rfl rfl
          · show w'.1 24 4 + nI 1 = _
            rw [hk 4 (by decide), b5.2.2.1, nI_add]
          · obtain ⟨m1, m2⟩ := hmf.2 i hi
            refine ⟨m1, ?_, fun j hj => ?_⟩
            · have hmem : (ce_L v k lam (n + 1)).getD i [] ∈ ce_L v k lam (n + 1) := by rw [gd_at hi]; exact List.getElem_mem hi
              exact ((ce_U_mem _ _).mp (ce_sub _ _ hmem)).2.2.1
            · show w'.2.2 27 (10 * i + j) = _
              rw [hcp _ (by omega)]
              exact m2 j hj
        | succ d ih =>
          intro c w' o2 o3 hd h60 hf hk hmf hcp
          refine q_MO_grow_115 hGo (pk_le (10 * (ce_L v k lam (n + 1)).length) c (fun h => absurd h (by omega)) (fun _ => ⟨c, by omega, rfl, c, by omega, rfl, ?_⟩) (by rw [hmf.1, nI_mul]) rfl (by omega) (by omega))
          rw [nI_add]
          refine ih (c + 1) _ _ _ (by omega) h60 (fr_a hf (by decide) _ _) hk ⟨hmf.1, fun a ha => ⟨(hmf.2 a ha).1, fun j hj => (hmf.2 a ha).2 j hj⟩⟩ (fun x hx => ?_)
          by_cases hxc : x = c
          · subst hxc
            exact ma_up_s _ _ _ _
          · exact (ma_up_k _ _ _ _ hxc).trans (hcp x (by omega))
      have outer : ∀ (d i : Nat) (w' : ma_W) (o2 o3 : Option ma_V), i + d = (ce_L v k lam n).length → fr [24] [28, 30] w w' → (∀ j, j ≠ 11 → w'.1 24 j = w.1 24 j) → (ce_next v lam (fm_K v k) ((ce_L v k lam n).take i)).length ≤ 60 → mf (n + 1) (ce_next v lam (fm_K v k) ((ce_L v k lam n).take i)) w' → Go 28 [some (.inr 24), some (.inl (nI i)), o2, o3] [] w' := by
        intro d
        induction d with
        | zero =>
          intro i w' o2 o3 hd hf hk h60 hmf
          obtain ⟨k1, k2, k3, k4⟩ := keep w' hf hk
          refine q_MO_grow_28 hGo (pk_le (ce_L v k lam n).length i (fun _ => q_MO_grow_113 hGo ?_) (fun h => absurd h (by omega)) k2.2.2.2.1 rfl (by omega) (by omega))
          rw [List.take_of_length_le (by omega), hnx] at hmf h60
          exact copy (10 * (ce_L v k lam (n + 1)).length) 0 w' _ _ (by omega) h60 (fr_mono hf (fun _ h => h) (fun x h => by
            simp only [List.mem_cons, List.not_mem_nil, or_false] at h ⊢
            omega)) hk hmf (fun x hx => absurd hx (Nat.not_lt_zero x))
        | succ d ih =>
          intro i w' o2 o3 hd hf hk h60 hmf
          obtain ⟨k1, k2, k3, k4⟩ := keep w' hf hk
          have hi : i < (ce_L v k lam n).length := by omega
          obtain ⟨hi60, he10, he4, hea, he64, heK⟩ := ml_at b1 b5 hi
          have hen : ((ce_L v k lam n).getD i []).length = n := (b5.2.2.2.2 i hi).1
          have hns := nx_s (v := v) (lam := lam) (K := fm_K v k) hi
          have hnle := nx_le (v := v) (lam := lam) (K := fm_K v k) (es := ce_L v k lam n) (i := i + 1)
          obtain ⟨e, hee⟩ : ∃ e, (ce_L v k lam n).getD i [] = e := ⟨_, rfl⟩
          rw [hee] at he10 he4 hea he64 heK hen hns
          have hlast : ce_last e < 64 := by
            unfold ce_last
            cases hq : e.getLast? with
            | none => decide
            | some a => exact he64 a (List.mem_of_getLast? hq)
          have inner : ∀ (c b : Nat) (w2 : ma_W), b + c = (fm_K v k).length → fr [24] [28, 30] w w2 → (∀ j, j ≠ 11 → w2.1 24 j = w.1 24 j) → (ce_next v lam (fm_K v k) ((ce_L v k lam n).take i) ++ cnd v lam (fm_K v k) e ((fm_K v k).take b)).length ≤ 60 → mf (n + 1) (ce_next v lam (fm_K v k) ((ce_L v k lam n).take i) ++ cnd v lam (fm_K v k) e ((fm_K v k).take b)) w2 → Go 66 [some (.inr 24), some (.inl (nI i)), some (.inl (nI (ce_last e))), some (.inl (nI b))] [] w2 := by
            intro c
            induction c with
            | zero =>
              intro b w2 hc hf2 hk2 h602 hmf2
              obtain ⟨l1, l2, l3, l4⟩ := keep w2 hf2 hk2
              refine q_MO_grow_66 hGo (pk_le (fm_K v k).length b (fun _ => q_MO_grow_107 hGo ?_) (fun h => absurd h (by omega)) l1.2.2.2.1 rfl (by omega) (by omega))
              rw [nI_add]
              rw [List.take_of_length_le (show (fm_K v k).length ≤ b by omega), ← hns] at hmf2 h602
              exact ih (i + 1) w2 _ _ (by omega) hf2 hk2 h602 hmf2
            | succ c ihc =>
              intro b w2 hc hf2 hk2 h602 hmf2
              obtain ⟨l1, l2, l3, l4⟩ := keep w2 hf2 hk2
              have hb : b < (fm_K v k).length := by omega
              have hm := K_mem hb
              have hm64 := vk_64 b1 hm
              have hcx := cnd_x (lam := lam) (e := e) hb
              have hcl := cnd_le (v := v) (lam := lam) (e := e) (show b + 1 ≤ (fm_K v k).length by omega)
              have l25 := l1.2.2.2.2.2.1
              have next : ∀ w3 : ma_W, fr [24] [28, 30] w w3 → (∀ j, j ≠ 11 → w3.1 24 j = w.1 24 j) → (ce_next v lam (fm_K v k) ((ce_L v k lam n).take i) ++ cnd v lam (fm_K v k) e ((fm_K v k).take (b + 1))).length ≤ 60 → mf (n + 1) (ce_next v lam (fm_K v k) ((ce_L v k lam n).take i) ++ cnd v lam (fm_K v k) e ((fm_K v k).take (b + 1))) w3 → Go 101 [some (.inr 24), some (.inl (nI i)), some (.inl (nI (ce_last e))), some (.inl (nI b))] [] w3 := by
                intro w3 p1 p2 p3 p4
                refine q_MO_grow_101 hGo ?_
                rw [nI_add]
                exact ihc (b + 1) w3 (by omega) p1 p2 p3 p4
              refine q_MO_grow_66 hGo (pk_le (fm_K v k).length b (fun h => absurd h (by omega)) (fun _ => ⟨b, by omega, rfl, ?_⟩) l1.2.2.2.1 rfl (by omega) (by omega))
              rw [l25 b hb]
              refine pk_lt _ _ (fun h => ?_) (fun h => ⟨b, by omega, rfl, ?_⟩) rfl rfl (by omega) (by omega)
              · rw [if_neg (by omega), List.append_nil] at hcx
                refine next w2 hf2 hk2 ?_ ?_
                · rw [hcx]; exact h602
                · rw [hcx]; exact hmf2
              · rw [if_pos h] at hcx
                rw [l25 b hb]
                refine i_MO_extend (es := ce_L v k lam n) b1 b2.2 l3 l1 l2 hi hm hn9 hmf2 h602 (fun w3 f3 k3' g3 => ?_)
                rw [hee, List.append_assoc, ← hcx] at g3 ⊢
                have hf3 : fr [24] [28, 30] w w3 := fr_trans hf2 f3
                have hk3 : ∀ j, j ≠ 11 → w3.1 24 j = w.1 24 j := fun j hj => (k3' j hj).trans (hk2 j hj)
                refine bI_ne (fun h9 => next w3 hf3 hk3 (of_decide_eq_true h9) (g3 (of_decide_eq_true h9))) (fun h9 => full ?_ w3 hf3 hk3)
                have h9 := of_decide_eq_false h9
                rw [List.length_append] at h9
                rw [hns, List.length_append, hnx] at hnle
                omega
          refine q_MO_grow_28 hGo (pk_le (ce_L v k lam n).length i (fun h => absurd h (by omega)) (fun _ => ?_) k2.2.2.2.1 rfl (by omega) (by omega))
          have start : ∀ o2 o3, Go 63 [some (.inr 24), some (.inl (nI i)), o2, o3] [.inl (nI (ce_last e))] w' := by
            intro o2 o3
            refine q_MO_grow_63 hGo (inner (fm_K v k).length 0 w' (by omega) hf hk ?_ ?_)
            · rw [List.take_zero, show cnd v lam (fm_K v k) e [] = [] from rfl, List.append_nil]; exact h60
            · rw [List.take_zero, show cnd v lam (fm_K v k) e [] = [] from rfl, List.append_nil]; exact hmf
          refine pn_ne n 0 (fun h => q_MO_grow_47 hGo ⟨10 * i + (n - 1), by omega, ?_, ?_⟩) (fun h => ?_) k2.2.2.1 rfl (by omega) (by omega)
          · rw [k2.2.2.1, nI_mul, nI_add, pk_sub (by omega), show 10 * i + n - 1 = 10 * i + (n - 1) by omega]
          · have hv9 : w'.2.2 27 (10 * i + (n - 1)) = nI (ce_last e) := by
              rw [(k2.2.2.2.2 i hi).2.2 (n - 1) (by omega), hee]
              unfold ce_last
              rw [List.getLast?_eq_getElem?, List.getD_eq_getElem?_getD, hen]
            rw [hv9]
            exact start _ _
          · have : e = [] := List.eq_nil_of_length_eq_zero (by omega)
            have h0 := start o2 o3
            rw [this] at h0
            exact h0
      refine outer (ce_L v k lam n).length 0 _ _ _ (by omega) (fr_f (fr_refl _ _ _) (by decide) 11 _) (fun j hj => ma_up_k _ _ _ _ hj) ?_ ?_
      · rw [List.take_zero]; show 0 ≤ 60; decide
      · rw [List.take_zero]; exact ⟨rfl, fun a ha => absurd ha (Nat.not_lt_zero a)⟩
    · have h9 := hp w
      simp only [N_grow, A_grow] at h9
      rw [if_neg (fun z => by omega), if_neg (fun z => by omega)] at h9
      exact h9 hM (frM_refl w)
