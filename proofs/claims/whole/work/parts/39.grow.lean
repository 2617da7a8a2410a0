/-! CONTRACTS: PackingCensus, the next level -/
/-- what comes of an entry with one more block of the kinds ks -/
def cnd (v lam : Nat) (K e ks : List Nat) : List (List Nat) := (ks.filter (fun b => decide (ce_last e ≤ b) && (ce_pk v lam (e ++ [b]) && ce_isf v K (e ++ [b])))).map (fun b => e ++ [b])
theorem cnd_s {v lam : Nat} {K e : List Nat} {b : Nat} (h : b < K.length) : cnd v lam K e (K.take (b + 1)) = cnd v lam K e (K.take b) ++ (if (decide (ce_last e ≤ K.getD b 0) && (ce_pk v lam (e ++ [K.getD b 0]) && ce_isf v K (e ++ [K.getD b 0]))) = true then [e ++ [K.getD b 0]] else []) := by
  unfold cnd
  rw [tk_succ h, List.filter_append, List.map_append]
  congr 1
  by_cases hc : (decide (ce_last e ≤ K.getD b 0) && (ce_pk v lam (e ++ [K.getD b 0]) && ce_isf v K (e ++ [K.getD b 0]))) = true
  · rw [if_pos hc, List.filter_cons_of_pos (p := fun b => decide (ce_last e ≤ b) && (ce_pk v lam (e ++ [b]) && ce_isf v K (e ++ [b]))) hc]
    rfl
  · rw [if_neg hc, List.filter_cons_of_neg (p := fun b => decide (ce_last e ≤ b) && (ce_pk v lam (e ++ [b]) && ce_isf v K (e ++ [b]))) hc]
    rfl
theorem cnd_le {v lam : Nat} {K e : List Nat} {b : Nat} (h : b ≤ K.length) : (cnd v lam K e (K.take b)).length ≤ (cnd v lam K e K).length := by
  have : cnd v lam K e K = cnd v lam K e (K.take b) ++ cnd v lam K e (K.drop b) := by
    unfold cnd
    rw [← List.map_append, ← List.filter_append, List.take_append_drop]
  rw [this, List.length_append]
  omega
theorem next_eq (v lam : Nat) (K : List Nat) (L : List (List Nat)) : ce_next v lam K L = L.flatMap (fun e => cnd v lam K e K) := rfl
theorem sto_pk {v lam m : Nat} {e : List Nat} (he : ce_pk v lam e = true) : sto v lam e m = ce_pk v lam (e ++ [m]) := by
  rw [Bool.eq_iff_iff, sp_stays he]
  unfold sto
  rw [al_iff]
  constructor
  · intro h p q hpq hq h1 h2
    have := h q hq p hpq
    rw [h1, h2] at this
    simpa using this
  · intro h q hq p hpq
    by_cases h1 : m.testBit p = true
    · by_cases h2 : m.testBit q = true
      · simp [h p q hpq hq h1 h2]
      · simp [h2]
    · simp [h1]
theorem gdL {l : List (List Nat)} {e : List Nat} {i : Nat} (h : i < l.length) : (l ++ [e]).getD i [] = l.getD i [] := by
  rw [List.getD_eq_getElem?_getD, List.getD_eq_getElem?_getD, List.getElem?_append_left h]
theorem gdE {l : List (List Nat)} {e : List Nat} : (l ++ [e]).getD l.length [] = e := by
  rw [List.getD_eq_getElem?_getD, List.getElem?_append_right (Nat.le_refl _), Nat.sub_self]
  rfl
/-- a row added to a listing -/
theorem ls_add {v k p n : Nat} {es : List (List Nat)} {xs : List Nat} {w w' : ma_W} (hv : vk v k) (h : ls v k w p n es) (h60 : es.length < 60) (hn : xs.length = n) (hx : ∀ x ∈ xs, x ∈ fm_K v k) (ho : w.1 1 6 = nI (ce_ord v k xs)) (hi : ∀ x, x < v → w.2.2 9 x = nI (sp_orb v k xs x)) (h3 : w'.1 p 3 = nI n) (h4 : w'.1 p 4 = nI (es.length + 1)) (a1 : ∀ j, w'.2.2 (p + 1) j = if es.length * 10 ≤ j ∧ j < es.length * 10 + n then nI (xs.getD (j - es.length * 10) 0) else w.2.2 (p + 1) j) (a2 : ∀ j, w'.2.2 (p + 2) j = if j = es.length then w.1 1 6 else w.2.2 (p + 2) j) (a3 : ∀ j, w'.2.2 (p + 3) j = if es.length * 6 ≤ j ∧ j < es.length * 6 + 6 then w.2.2 9 (j - es.length * 6) else w.2.2 (p + 3) j) : ls v k w' p n (es ++ [xs]) := by
  obtain ⟨g1, g2, g3, g4, g5⟩ := h
  have hv6 := hv.2.1
  refine ⟨by rw [List.length_append]; exact h60, g2, h3, by rw [List.length_append]; exact h4, fun i hi2 => ?_⟩
  by_cases hie : i = es.length
  · subst hie
    rw [gdE]
    refine ⟨hn, hx, fun j hj => ?_, ?_, fun x hx2 => ?_⟩
    · rw [a1, if_pos (by omega), show es.length * 10 + j - es.length * 10 = j by omega]
    · rw [a2, if_pos rfl, ho]
    · rw [a3, if_pos (by omega), show es.length * 6 + x - es.length * 6 = x by omega, hi x hx2]
  · have hil : i < es.length := by
      rw [List.length_append] at hi2
      simp only [List.length_singleton] at hi2
      omega
    rw [gdL hil]
    obtain ⟨e1, e2, e3, e4, e5⟩ := g5 i hil
    refine ⟨e1, e2, fun j hj => ?_, ?_, fun x hx2 => ?_⟩
    · rw [a1, if_neg (by omega)]; exact e3 j hj
    · rw [a2, if_neg hie]; exact e4
    · rw [a3, if_neg (by omega)]; exact e5 x hx2
/-- what the next level changes: y the listing that is filled -/
def gp (y : Nat) : List Nat := [1, 14, y]
def gq (y : Nat) : List Nat := [5, 6, 7, 8, 9, 15, y + 1, y + 2, y + 3]
theorem gp_n {y p : Nat} (h1 : p ≠ 1) (h2 : p ≠ 14) (h3 : p ≠ y) : p ∉ gp y := nm3 h1 h2 h3
theorem gq_n {y p : Nat} (h : p < 5 ∨ (10 ≤ p ∧ p < 15) ∨ 16 ≤ p) (h1 : p ≠ y + 1) (h2 : p ≠ y + 2) (h3 : p ≠ y + 3) : p ∉ gq y := by
  intro z
  simp only [gq, List.mem_cons, List.not_mem_nil, or_false] at z
  omega
def T_PC_addFormsFrom : ma_T := fun as w post => ∃ v k n lam i es dn, as = [.inr 0, .inl (nI i)] ∧ vk v k ∧ xr w ∧ gr v k w ∧ w.1 0 7 = nI lam ∧ lam < 2 ^ 31 ∧ n < 10 ∧ ls v k w w.2.1.1 n es ∧ i < es.length ∧ ce_pk v lam (es.getD i []) = true ∧ ls v k w w.2.1.2 (n + 1) dn ∧ ∀ w', fr (gp w.2.1.2) (gq w.2.1.2) w w' → ((dn ++ cnd v lam (fm_K v k) (es.getD i []) (fm_K v k)).length ≤ 60 → ls v k w' w.2.1.2 (n + 1) (dn ++ cnd v lam (fm_K v k) (es.getD i []) (fm_K v k))) → post (bI (decide ((dn ++ cnd v lam (fm_K v k) (es.getD i []) (fm_K v k)).length ≤ 60))) w'
theorem i_PC_addFormsFrom {v k n lam i : Nat} {es dn : List (List Nat)} {w : ma_W} {post : ma_P} (hv : vk v k) (hx : xr w) (hg : gr v k w) (h7 : w.1 0 7 = nI lam) (hlam : lam < 2 ^ 31) (hn : n < 10) (hl : ls v k w w.2.1.1 n es) (hi : i < es.length) (hpk : ce_pk v lam (es.getD i []) = true) (hd : ls v k w w.2.1.2 (n + 1) dn) (hp : ∀ w', fr (gp w.2.1.2) (gq w.2.1.2) w w' → ((dn ++ cnd v lam (fm_K v k) (es.getD i []) (fm_K v k)).length ≤ 60 → ls v k w' w.2.1.2 (n + 1) (dn ++ cnd v lam (fm_K v k) (es.getD i []) (fm_K v k))) → post (bI (decide ((dn ++ cnd v lam (fm_K v k) (es.getD i []) (fm_K v k)).length ≤ 60))) w') : T_PC_addFormsFrom [.inr 0, .inl (nI i)] w post := ⟨v, k, n, lam, i, es, dn, rfl, hv, hx, hg, h7, hlam, hn, hl, hi, hpk, hd, hp⟩
theorem ei_last {xs : List Nat} {m : Nat} : (xs ++ [m]).eraseIdx xs.length = xs := by
  rw [List.eraseIdx_append_of_length_le (Nat.le_refl _), Nat.sub_self]
  simp
theorem c_PC_addFormsFrom {l : Launch} : ma_Met l y_PC_addFormsFrom (w_PC_addFormsFrom :: zw_t) 16 true T_PC_addFormsFrom := by
  refine z_PC_addFormsFrom c_LI_writeTo (by decide) c_RO_last (by decide) c_GR_kinds (by decide) c_GR_kind (by decide) c_PC_staysPacking (by decide) c_RO_add (by decide) c_FO_isForm (by decide) c_LI_isFull (by decide) c_LI_addRow (by decide) c_RO_size (by decide) c_RO_removeAt (by decide) (by rintro as w post ⟨v, k, n, lam, i, es, dn, rfl, -⟩; simp) ?_
  rintro as w post ⟨v, k, n, lam, i, es, dn, rfl, hv, hx, hg, h7, hlam, hn, hl, hi, hpk, hd, hp⟩ Go hGo
  obtain ⟨hi60, he10, he3, hle, he64⟩ := ls_at hv hl hi
  have hz1 := xr_1 hx
  have hz2 := xr_2 hx
  have hne := xr_ne hx
  have hb1 := zL_big hz1
  have hb2 := zL_big hz2
  have h20 := vk_20 hv
  have hen : (es.getD i []).length = n := (hl.2.2.2.2 i hi).1
  have heK : ∀ x ∈ es.getD i [], x ∈ fm_K v k := (hl.2.2.2.2 i hi).2.1
  obtain ⟨e, hee⟩ : ∃ e, es.getD i [] = e := ⟨_, rfl⟩
  rw [hee] at he10 he3 hle he64 hen heK hpk hp
  have hlast : ce_last e < 64 := by
    unfold ce_last
    cases hq : e.getLast? with
    | none => decide
    | some a => exact he64 a (List.mem_of_getLast? hq)
  have h14 : zR 14 := Or.inr (Or.inr rfl)
  -- what a change of the places above keeps
  have keep : ∀ w' : ma_W, fr (gp w.2.1.2) (gq w.2.1.2) w w' → w'.2.1 = w.2.1 ∧ gr v k w' ∧ w'.1 0 7 = nI lam ∧ ls v k w' w.2.1.1 n es := by
    intro w' hf
    refine ⟨hf.1, gr_fr hg hf (gp_n (by decide) (by decide) (by omega)) (gq_n (by omega) (by omega) (by omega) (by omega)) (gq_n (by omega) (by omega) (by omega) (by omega)), by rw [hf.2.1 0 (gp_n (by decide) (by decide) (by omega))]; exact h7, ls_fr hl hf (gp_n (by omega) (by omega) (by omega)) (gq_n (by omega) (by omega) (by omega) (by omega)) (gq_n (by omega) (by omega) (by omega) (by omega)) (gq_n (by omega) (by omega) (by omega) (by omega))⟩
  have sub1 : ∀ {w1 w2 : ma_W}, fr [14] [15] w1 w2 → fr (gp w.2.1.2) (gq w.2.1.2) w1 w2 := fun h => fr_mono h (fun x hx => by rw [List.mem_singleton.mp hx]; simp [gp]) (fun x hx => by rw [List.mem_singleton.mp hx]; simp [gq])
  have sub2 : ∀ {w1 w2 : ma_W}, fr [1] [5, 6, 7, 8, 9] w1 w2 → fr (gp w.2.1.2) (gq w.2.1.2) w1 w2 := fun h => fr_mono h (fun x hx => by rw [List.mem_singleton.mp hx]; simp [gp]) (fun x hx => by
    simp only [gq, List.mem_cons, List.not_mem_nil, or_false] at hx ⊢
    omega)
  have sub3 : ∀ {w1 w2 : ma_W}, fr [w.2.1.2] [w.2.1.2 + 1, w.2.1.2 + 2, w.2.1.2 + 3] w1 w2 → fr (gp w.2.1.2) (gq w.2.1.2) w1 w2 := fun h => fr_mono h (fun x hx => by rw [List.mem_singleton.mp hx]; simp [gp]) (fun x hx => by
    simp only [gq, List.mem_cons, List.not_mem_nil, or_false] at hx ⊢
    omega)
  have lskeep : ∀ {w1 w2 : ma_W} {ps qs : List Nat} {d : List (List Nat)}, fr ps qs w1 w2 → (∀ x ∈ ps, x < 16) → (∀ x ∈ qs, x < 16) → ls v k w1 w.2.1.2 (n + 1) d → ls v k w2 w.2.1.2 (n + 1) d := by
    intro w1 w2 ps qs d hf h1 h2 h
    exact ls_fr h hf (fun z => by have := h1 _ z; omega) (fun z => by have := h2 _ z; omega) (fun z => by have := h2 _ z; omega) (fun z => by have := h2 _ z; omega)
  have loop : ∀ (d b : Nat) (w' : ma_W) (o : Option ma_V), b + d = (fm_K v k).length → fr (gp w.2.1.2) (gq w.2.1.2) w w' → ro w' 14 e → ls v k w' w.2.1.2 (n + 1) (dn ++ cnd v lam (fm_K v k) e ((fm_K v k).take b)) → Go 22 [some (.inr 0), some (.inl (nI i)), some (.inl (nI (ce_last e))), some (.inl (nI b)), o] [] w' := by
    intro d
    induction d with
    | zero =>
      intro b w' o hb hf hr hls
      obtain ⟨-, hg', -, -⟩ := keep w' hf
      refine q_PC_addFormsFrom_22 hGo (i_GR_kinds (pk_le (fm_K v k).length b (fun _ => q_PC_addFormsFrom_134 hGo ⟨bo1, ?_⟩) (fun h => absurd h (by omega)) hg'.2.2.1 rfl (by omega) (by omega)))
      rw [List.take_of_length_le (by omega)] at hls
      have h9 := hp w' hf (fun _ => hls)
      rw [decide_eq_true hls.1] at h9
      exact h9
    | succ d ih =>
      intro b w' o hb hf hr hls
      have hbK : b < (fm_K v k).length := by omega
      have hm := K_mem hbK
      have hm64 := vk_64 hv hm
      obtain ⟨hw1, hg', h7', hl'⟩ := keep w' hf
      have hcs := cnd_s (v := v) (lam := lam) (e := e) hbK
      have hcl := cnd_le (v := v) (lam := lam) (e := e) (show b + 1 ≤ (fm_K v k).length by omega)
      obtain ⟨m, hme⟩ : ∃ m, (fm_K v k).getD b 0 = m := ⟨_, rfl⟩
      rw [hme] at hm hm64 hcs
      have next : ∀ (w2 : ma_W) (y : Int32), fr (gp w.2.1.2) (gq w.2.1.2) w w2 → ro w2 14 e → ls v k w2 w.2.1.2 (n + 1) (dn ++ cnd v lam (fm_K v k) e ((fm_K v k).take (b + 1))) → Go 128 [some (.inr 0), some (.inl (nI i)), some (.inl (nI (ce_last e))), some (.inl (nI b)), some (.inl y)] [] w2 := by
        intro w2 y a1 a2 a3
        refine q_PC_addFormsFrom_128 hGo ?_
        rw [nI_add]
        exact ih (b + 1) w2 _ (by omega) a1 a2 a3
      have skip : (decide (ce_last e ≤ m) && (ce_pk v lam (e ++ [m]) && ce_isf v (fm_K v k) (e ++ [m]))) = false → ∀ (w2 : ma_W) (y : Int32), fr (gp w.2.1.2) (gq w.2.1.2) w w2 → ro w2 14 e → ls v k w2 w.2.1.2 (n + 1) (dn ++ cnd v lam (fm_K v k) e ((fm_K v k).take b)) → Go 128 [some (.inr 0), some (.inl (nI i)), some (.inl (nI (ce_last e))), some (.inl (nI b)), some (.inl y)] [] w2 := by
        intro hc w2 y a1 a2 a3
        refine next w2 y a1 a2 ?_
        rw [hcs, if_neg (by rw [hc]; decide), List.append_nil]
        exact a3
      refine q_PC_addFormsFrom_22 hGo (i_GR_kinds (pk_le (fm_K v k).length b (fun h => absurd h (by omega)) (fun _ => i_GR_kind (by omega) ?_) hg'.2.2.1 rfl (by omega) (by omega)))
      rw [hg'.2.2.2.1 b hbK, hme]
      refine pk_lt m (ce_last e) (fun h => skip (by rw [decide_eq_false (by omega)]; rfl) w' _ hf hr hls) (fun hge => ?_) rfl rfl (by omega) (by omega)
      refine i_PC_staysPacking (es := es) hv (by unfold xr; rw [hw1]; exact hx) (by rw [hw1]; exact hl') hi hm64 hg'.1 h7' hlam ?_
      rw [hee, sto_pk hpk]
      refine bI_ne (fun hpk1 => ?_) (fun hpk1 => skip (by rw [hpk1, Bool.false_and, Bool.and_false]) w' _ hf hr hls)
      -- the block is tried
      have hemK : ∀ x ∈ e ++ [m], x ∈ fm_K v k := by
        intro x hx
        rcases List.mem_append.mp hx with h | h
        · exact heK x h
        · rw [List.mem_singleton.mp h]; exact hm
      have hr10 : e.length < 10 := by omega
      refine q_PC_addFormsFrom_62 hGo (i_RO_add h14 hr.2.1 hr10 ?_)
      have hfA : fr [14] [15] w' (ma_up w'.1 14 1 (nI (e.length + 1)), w'.2.1, ma_up w'.2.2 15 e.length (nI m)) := fr_a (fr_f (fr_refl _ _ _) (by decide) 1 _) (by decide) _ _
      have hrA := ro_add (m := m) hr hr10
      have hgA : gr v k (ma_up w'.1 14 1 (nI (e.length + 1)), w'.2.1, ma_up w'.2.2 15 e.length (nI m)) := gr_fr hg' hfA (by decide) (by decide) (by decide)
      have hlsA := lskeep hfA (by simp) (by simp) hls
      refine i_FO_isForm h14 hv hgA hrA hemK (fun w2 f2 ho => ?_)
      have hls2 := lskeep f2 (by simp) (by simp) hlsA
      have hr2 : ro w2 14 (e ++ [m]) := ro_fr hrA f2 (by decide) (by decide)
      have hf2 : fr (gp w.2.1.2) (gq w.2.1.2) w w2 := fr_trans hf (fr_trans (sub1 hfA) (sub2 f2))
      -- the block is taken away again
      have back : ∀ w3 : ma_W, fr (gp w.2.1.2) (gq w.2.1.2) w w3 → ro w3 14 (e ++ [m]) → ls v k w3 w.2.1.2 (n + 1) (dn ++ cnd v lam (fm_K v k) e ((fm_K v k).take (b + 1))) → Go 112 [some (.inr 0), some (.inl (nI i)), some (.inl (nI (ce_last e))), some (.inl (nI b)), some (.inl (nI m))] [] w3 := by
        intro w3 a1 a2 a3
        refine q_PC_addFormsFrom_112 hGo (i_RO_size h14 ?_)
        have hlm : (e ++ [m]).length = e.length + 1 := by simp
        rw [a2.2.1, pk_sub (by omega), show (e ++ [m]).length - 1 = e.length by omega]
        refine i_RO_removeAt h14 a2 (by omega) (fun w4 f4 r4 => next w4 _ (fr_trans a1 (sub1 f4)) ?_ (lskeep f4 (by simp) (by simp) a3))
        rw [ei_last] at r4
        exact r4
      refine bI_eq (fun hno => back w2 hf2 hr2 ?_) (fun hyes => ?_)
      · rw [hcs, if_neg (by rw [hno, Bool.and_false, Bool.and_false]; decide), List.append_nil]
        exact hls2
      · rw [if_pos (by rw [decide_eq_true hge, hpk1, hyes]; rfl)] at hcs
        have hw2 : w2.2.1 = w.2.1 := hf2.1
        rw [hw2, ma_isk_of (zL_s hz2)]
        have hl60 := hls2.1
        refine i_LI_isFull hz2 hls2.2.2.2.1 (by omega) (bI_eq (fun hfull => ?_) (fun hfull => ⟨bo0, ?_⟩))
        · have hfull := of_decide_eq_false hfull
          refine q_PC_addFormsFrom_97 hGo ?_
          rw [hw2, ma_isk_of (zL_s hz2)]
          have hlm : (e ++ [m]).length = n + 1 := by simp [hen]
          refine i_LI_addRow hz2 h14 hr2 (by rw [hlm]; exact hls2.2.2.1) hls2.2.2.2.1 (by omega) (fun w3 f3 c1 c2 c3 c4 c5 => back w3 (fr_trans hf2 (sub3 f3)) (ro_fr hr2 f3 (nm1 (by omega)) (nm3 (by omega) (by omega) (by omega))) ?_)
          rw [hcs, ← List.append_assoc]
          rw [hlm] at c1 c3
          exact ls_add hv hls2 (by omega) hlm hemK (ho hyes).1 (ho hyes).2 c1 c2 c3 c4 c5
        · have hfull := of_decide_eq_true hfull
          have hbig : ¬ (dn ++ cnd v lam (fm_K v k) e (fm_K v k)).length ≤ 60 := by
            rw [hcs, List.length_append] at hcl
            rw [List.length_append] at hfull ⊢
            simp only [List.length_singleton] at hcl
            omega
          have h9 := hp w2 hf2 (fun z => absurd z hbig)
          rw [decide_eq_false hbig] at h9
          exact h9
  refine q_PC_addFormsFrom_0 hGo ?_
  rw [ma_isk_of (zL_s hz1)]
  refine i_LI_writeTo hz1 h14 hi60 he10 he3 hle (fun w1 f1 r1 => i_RO_last h14 r1 (loop (fm_K v k).length 0 w1 _ (by omega) (sub1 f1) r1 ?_))
  rw [List.take_zero, show cnd v lam (fm_K v k) e [] = [] from rfl, List.append_nil]
  exact lskeep f1 (by simp) (by simp) hd
/-- the next level is filled in, if it has room -/
def T_PC_fillSpare : ma_T := fun as w post => ∃ v k n lam es, as = [.inr 0] ∧ vk v k ∧ xr w ∧ gr v k w ∧ w.1 0 7 = nI lam ∧ lam < 2 ^ 31 ∧ n < 10 ∧ ls v k w w.2.1.1 n es ∧ (∀ e ∈ es, ce_pk v lam e = true) ∧ ∀ w', fr (gp w.2.1.2) (gq w.2.1.2) w w' → ((ce_next v lam (fm_K v k) es).length ≤ 60 → ls v k w' w.2.1.2 (n + 1) (ce_next v lam (fm_K v k) es)) → post (bI (decide ((ce_next v lam (fm_K v k) es).length ≤ 60))) w'
theorem i_PC_fillSpare {v k n lam : Nat} {es : List (List Nat)} {w : ma_W} {post : ma_P} (hv : vk v k) (hx : xr w) (hg : gr v k w) (h7 : w.1 0 7 = nI lam) (hlam : lam < 2 ^ 31) (hn : n < 10) (hl : ls v k w w.2.1.1 n es) (hpk : ∀ e ∈ es, ce_pk v lam e = true) (hp : ∀ w', fr (gp w.2.1.2) (gq w.2.1.2) w w' → ((ce_next v lam (fm_K v k) es).length ≤ 60 → ls v k w' w.2.1.2 (n + 1) (ce_next v lam (fm_K v k) es)) → post (bI (decide ((ce_next v lam (fm_K v k) es).length ≤ 60))) w') : T_PC_fillSpare [.inr 0] w post := ⟨v, k, n, lam, es, rfl, hv, hx, hg, h7, hlam, hn, hl, hpk, hp⟩
theorem nx_s {v lam : Nat} {K : List Nat} {es : List (List Nat)} {i : Nat} (h : i < es.length) : ce_next v lam K (es.take (i + 1)) = ce_next v lam K (es.take i) ++ cnd v lam K (es.getD i []) K := by
  rw [next_eq, next_eq, List.take_add_one, List.getElem?_eq_getElem h, gd_at h, List.flatMap_append]
  simp
theorem nx_le {v lam : Nat} {K : List Nat} {es : List (List Nat)} {i : Nat} : (ce_next v lam K (es.take i)).length ≤ (ce_next v lam K es).length := by
  have : ce_next v lam K es = ce_next v lam K (es.take i) ++ ce_next v lam K (es.drop i) := by
    rw [next_eq, next_eq, next_eq, ← List.flatMap_append, List.take_append_drop]
  rw [this, List.length_append]
  omega
theorem c_PC_fillSpare {l : Launch} : ma_Met l y_PC_fillSpare (w_PC_fillSpare :: zw_t) 17 true T_PC_fillSpare := by
  refine z_PC_fillSpare c_LI_rowLength (by decide) c_LI_restart (by decide) c_LI_size (by decide) c_PC_addFormsFrom (by decide) (by rintro as w post ⟨v, k, n, lam, es, rfl, -⟩; simp) ?_
  rintro as w post ⟨v, k, n, lam, es, rfl, hv, hx, hg, h7, hlam, hn, hl, hpk, hp⟩ Go hGo
  have hz1 := xr_1 hx
  have hz2 := xr_2 hx
  have hne := xr_ne hx
  have hb1 := zL_big hz1
  have hb2 := zL_big hz2
  have h60 := hl.1
  have loop : ∀ (d i : Nat) (w' : ma_W), i + d = es.length → fr (gp w.2.1.2) (gq w.2.1.2) w w' → ls v k w' w.2.1.2 (n + 1) (ce_next v lam (fm_K v k) (es.take i)) → Go 18 [some (.inr 0), some (.inl (nI i))] [] w' := by
    intro d
    induction d with
    | zero =>
      intro i w' hd hf hls
      have hw : w'.2.1 = w.2.1 := hf.1
      have hl' : ls v k w' w.2.1.1 n es := ls_fr hl hf (gp_n (by omega) (by omega) (by omega)) (gq_n (by omega) (by omega) (by omega) (by omega)) (gq_n (by omega) (by omega) (by omega) (by omega)) (gq_n (by omega) (by omega) (by omega) (by omega))
      refine q_PC_fillSpare_18 hGo ?_
      rw [hw, ma_isk_of (zL_s hz1)]
      refine i_LI_size hz1 (pk_le es.length i (fun _ => q_PC_fillSpare_45 hGo ⟨bo1, ?_⟩) (fun h => absurd h (by omega)) hl'.2.2.2.1 rfl (by omega) (by omega))
      rw [List.take_of_length_le (by omega)] at hls
      have h9 := hp w' hf (fun _ => hls)
      rw [decide_eq_true hls.1] at h9
      exact h9
    | succ d ih =>
      intro i w' hd hf hls
      have hi : i < es.length := by omega
      have hw : w'.2.1 = w.2.1 := hf.1
      have hl' : ls v k w' w.2.1.1 n es := ls_fr hl hf (gp_n (by omega) (by omega) (by omega)) (gq_n (by omega) (by omega) (by omega) (by omega)) (gq_n (by omega) (by omega) (by omega) (by omega)) (gq_n (by omega) (by omega) (by omega) (by omega))
      have hg' : gr v k w' := gr_fr hg hf (gp_n (by decide) (by decide) (by omega)) (gq_n (by omega) (by omega) (by omega) (by omega)) (gq_n (by omega) (by omega) (by omega) (by omega))
      refine q_PC_fillSpare_18 hGo ?_
      rw [hw, ma_isk_of (zL_s hz1)]
      refine i_LI_size hz1 (pk_le es.length i (fun h => absurd h (by omega)) (fun _ => ?_) hl'.2.2.2.1 rfl (by omega) (by omega))
      have hmem : es.getD i [] ∈ es := by rw [gd_at hi]; exact List.getElem_mem hi
      refine i_PC_addFormsFrom (es := es) (dn := ce_next v lam (fm_K v k) (es.take i)) hv (xr_fr hx hf) hg' (by rw [hf.2.1 0 (gp_n (by decide) (by decide) (by omega))]; exact h7) hlam hn (by rw [hw]; exact hl') hi (hpk _ hmem) (by rw [hw]; exact hls) (fun w2 f2 g2 => ?_)
      rw [hw] at f2 g2
      rw [← nx_s hi] at g2 ⊢
      refine bI_ne (fun h => q_PC_fillSpare_39 hGo ?_) (fun h => ⟨bo0, ?_⟩)
      · rw [nI_add]
        exact ih (i + 1) w2 (by omega) (fr_trans hf f2) (g2 (of_decide_eq_true h))
      · have h := of_decide_eq_false h
        have hle := nx_le (v := v) (lam := lam) (K := fm_K v k) (es := es) (i := i + 1)
        have hbig : ¬ (ce_next v lam (fm_K v k) es).length ≤ 60 := by omega
        have h9 := hp w2 (fr_trans hf f2) (fun z => absurd z hbig)
        rw [decide_eq_false hbig] at h9
        exact h9
  refine q_PC_fillSpare_0 hGo ?_
  rw [ma_isk_of (zL_s hz1)]
  refine i_LI_rowLength hz1 ?_
  rw [ma_isk_of (zL_s hz2)]
  refine i_LI_restart hz2 (loop es.length 0 _ (by omega) (fr_f (fr_f (fr_refl _ _ _) (by simp [gp]) 3 _) (by simp [gp]) 4 _) ⟨by simp [ce_next], by omega, ?_, ?_, fun i hi => ?_⟩)
  · try dsimp only
    rw [ma_up_k _ _ _ _ (by decide), ma_up_s, hl.2.2.1, nI_add]
  · try dsimp only
    rw [ma_up_s]
    rfl
  · simp [ce_next] at hi
