/-! CONTRACTS: the reference, its calls -/
def T_MO_level : ma_T := fun as w post => ∃ c xs, as = [.inr 24] ∧ MI c xs w ∧ post (A_level c) w
theorem c_MO_level {l : Launch} : ma_Met l y_MO_level (w_MO_level :: zw_t) 0 true T_MO_level := by
  refine z_MO_level (by rintro as w post ⟨c, xs, rfl, -⟩; simp) ?_
  rintro as w post ⟨c, xs, rfl, hM, hp⟩ Go hGo
  refine q_MO_level_0 hGo ?_
  match c, hM, hp with
  | none, hM, hp => exact bI_at (b := false) hM.2.2.1 (fun _ => q_MO_level_14 hGo (q_MO_level_15 hGo hp)) (fun h => by cases h)
  | some (v, k, lam, n), hM, hp => exact bI_at (b := true) hM.2.2.2.2.1.1 (fun h => by cases h) (fun _ => q_MO_level_15 hGo (by rw [hM.2.2.2.2.2.1.2.2.1]; exact hp))
def T_MO_entries : ma_T := fun as w post => ∃ c xs, as = [.inr 24] ∧ MI c xs w ∧ post (A_entries c) w
theorem c_MO_entries {l : Launch} : ma_Met l y_MO_entries (w_MO_entries :: zw_t) 0 true T_MO_entries := by
  refine z_MO_entries (by rintro as w post ⟨c, xs, rfl, -⟩; simp) ?_
  rintro as w post ⟨c, xs, rfl, hM, hp⟩ Go hGo
  exact q_MO_entries_0 hGo (by rw [(MI_c hM).1]; exact hp)
def T_MO_block : ma_T := fun as w post => ∃ c xs x y, as = [.inr 24, .inl x, .inl y] ∧ MI c xs w ∧ post (A_block c x y) w
theorem c_MO_block {l : Launch} : ma_Met l y_MO_block (w_MO_block :: zw_t) 1 true T_MO_block := by
  refine z_MO_block c_MO_isEntry (by decide) (by rintro as w post ⟨c, xs, x, y, rfl, -⟩; simp) ?_
  rintro as w post ⟨c, xs, x, y, rfl, hM, hp⟩ Go hGo
  obtain ⟨h9, h4, h60, h10, -⟩ := MI_c hM
  have no : (hs x (es_ c).length && hs y (lv c)) = false → Go 34 [some (.inr 24), some (.inl x), some (.inl y)] [] w := by
    intro h
    refine q_MO_block_34 hGo (q_MO_block_35 hGo ?_)
    rw [A_block, if_neg (by rw [h]; decide)] at hp
    exact hp
  refine q_MO_block_0 hGo (i_MO_isEntry h9 (bI_eq (fun h => no (by rw [h]; rfl)) (fun h => hs_br h4 (fun h8 => no (by rw [h8, Bool.and_false])) (fun hy => ?_))))
  obtain ⟨i, hi, rfl⟩ := hs_t (by omega) h
  obtain ⟨j, hj, rfl⟩ := hs_t (by omega) hy
  rw [A_block, if_pos (by rw [h, hy]; rfl), e_at, nI_clamp (by omega), nI_clamp (by omega)] at hp
  obtain ⟨v, k, lam, n, rfl, hv, -, -, -, hl, hi2⟩ := MI_e hM hi
  obtain ⟨g1, -, g3⟩ := hl.2.2.2.2 i hi2
  refine ⟨10 * i + j, by omega, by rw [nI_mul, nI_add], q_MO_block_35 hGo ?_⟩
  rw [g3 j hj]
  exact hp
/-- scratch alone has changed -/
theorem MI_30 {c : cs_} {xs : List Nat} {w w' : ma_W} (h : MI c xs w) (hf : fr [] [30] w w') : MI c xs w' := MI_fr h hf (by decide) (by decide) (by decide) (by decide)
theorem fM_30 {w w' : ma_W} (hf : fr [] [30] w w') : frM w w' := frM_of hf (fun _ h => absurd h List.not_mem_nil) (by decide)
def T_MO_order : ma_T := fun as w post => ∃ c xs x, as = [.inr 24, .inl x] ∧ MI c xs w ∧ ∀ w', MI c xs w' → frM w w' → post (A_order c x) w'
theorem c_MO_order {l : Launch} : ma_Met l y_MO_order (w_MO_order :: zw_t) 3 true T_MO_order := by
  refine z_MO_order c_MO_isEntry (by decide) c_MO_lookAtEntry (by decide) c_MO_keepers (by decide) (by rintro as w post ⟨c, xs, x, rfl, -⟩; simp) ?_
  rintro as w post ⟨c, xs, x, rfl, hM, hp⟩ Go hGo
  obtain ⟨h9, h4, h60, h10, -⟩ := MI_c hM
  refine q_MO_order_0 hGo (i_MO_isEntry h9 (bI_ne (fun h => q_MO_order_10 hGo ?_) (fun h => ?_)))
  · obtain ⟨i, hi, rfl⟩ := hs_t (by omega) h
    obtain ⟨v, k, lam, n, rfl, hv, hlam, h3, hg, hl, hi2⟩ := MI_e hM hi
    obtain ⟨hi60, he10, he4, hea, he64, heK⟩ := ml_at hv hl hi2
    refine i_MO_lookAtEntry hi60 he10 he4 hea he64 (fun w1 f1 t1 => i_MO_keepers hv (mg_fr hg f1 (by decide) (by decide)) t1 (by omega) ?_)
    have hA := hp w1 (MI_30 hM f1) (fM_30 f1)
    have h : hs (nI i) (ce_L v k lam n).length = true := h
    simp only [A_order, h, if_true, e_at, nI_clamp (show i < 2 ^ 31 by omega)] at hA
    exact hA
  · have hA := hp w hM (frM_refl w)
    match c, h, hA with
    | none, _, hA => exact hA
    | some (v, k, lam, n), h, hA =>
      have h : hs x (ce_L v k lam n).length = false := h
      simp only [A_order, h] at hA
      exact hA
theorem MI_p {c : cs_} {xs : List Nat} {w : ma_W} (h : MI c xs w) : ∃ b, w.1 24 0 = bI b ∧ (b = false → vv c = 0) ∧ (b = true → w.1 24 1 = nI (vv c)) := by
  obtain ⟨-, h3⟩ := h
  match c, h3 with
  | none, ⟨_, g2, _, _⟩ => exact ⟨false, g2, fun _ => rfl, fun z => by cases z⟩
  | some (v, k, lam, n), ⟨_, _, _, g4, _, _⟩ => exact ⟨true, g4.1, fun z => (by cases z), fun _ => g4.2.1⟩
def T_MO_together : ma_T := fun as w post => ∃ c xs x y z, as = [.inr 24, .inl x, .inl y, .inl z] ∧ MI c xs w ∧ ∀ w', MI c xs w' → frM w w' → post (A_together c x y z) w'
theorem c_MO_together {l : Launch} : ma_Met l y_MO_together (w_MO_together :: zw_t) 2 true T_MO_together := by
  refine z_MO_together c_MO_isEntry (by decide) c_MO_isPoint (by decide) c_MO_lookAtEntry (by decide) c_MO_meet (by decide) (by rintro as w post ⟨c, xs, x, y, z, rfl, -⟩; simp) ?_
  rintro as w post ⟨c, xs, x, y, z, rfl, hM, hp⟩ Go hGo
  obtain ⟨h9, h4, h60, h10, hv6⟩ := MI_c hM
  obtain ⟨b, p1, p2, p3⟩ := MI_p hM
  have no : (hs x (es_ c).length && (hs y (vv c) && hs z (vv c))) = false → Go 24 [some (.inr 24), some (.inl x), some (.inl y), some (.inl z)] [] w := by
    intro h
    refine q_MO_together_24 hGo ?_
    have hA := hp w hM (frM_refl w)
    rw [A_together, if_neg (by rw [h]; decide)] at hA
    exact hA
  refine q_MO_together_0 hGo (i_MO_isEntry h9 (bI_eq (fun h => no (by rw [h]; rfl)) (fun hx1 => i_MO_isPoint p1 p2 p3 (bI_eq (fun h => no (by rw [h]; simp)) (fun hy1 => i_MO_isPoint p1 p2 p3 (bI_ne (fun hz1 => q_MO_together_26 hGo ?_) (fun h => no (by rw [h]; simp))))))))
  rw [A_together, if_pos (by rw [hx1, hy1, hz1]; rfl)] at hp
  obtain ⟨i, hi, rfl⟩ := hs_t (by omega) hx1
  obtain ⟨a, ha, rfl⟩ := hs_t (by omega) hy1
  obtain ⟨b, hb, rfl⟩ := hs_t (by omega) hz1
  rw [e_at, nI_clamp (by omega), nI_clamp (by omega), nI_clamp (by omega)] at hp
  obtain ⟨v, k, lam, n, rfl, hv, hlam, h3, hg, hl, hi2⟩ := MI_e hM hi
  obtain ⟨hi60, he10, he4, hea, he64, heK⟩ := ml_at hv hl hi2
  exact i_MO_lookAtEntry hi60 he10 he4 hea he64 (fun w1 f1 t1 => i_MO_meet hv (mg_fr hg f1 (by decide) (by decide)) t1 (by omega) (by omega) heK (hp w1 (MI_30 hM f1) (fM_30 f1)))
def T_MO_design : ma_T := fun as w post => ∃ c xs x, as = [.inr 24, .inl x] ∧ MI c xs w ∧ ∀ w', MI c xs w' → fr [] [30] w w' → post (bI (A_design c x)) w'
theorem i_MO_design {c : cs_} {xs : List Nat} {x : Int32} {w : ma_W} {post : ma_P} (h : MI c xs w) (hp : ∀ w', MI c xs w' → fr [] [30] w w' → post (bI (A_design c x)) w') : T_MO_design [.inr 24, .inl x] w post := ⟨c, xs, x, rfl, h, hp⟩
theorem c_MO_design {l : Launch} : ma_Met l y_MO_design (w_MO_design :: zw_t) 2 true T_MO_design := by
  refine z_MO_design c_MO_isEntry (by decide) c_MO_lookAtEntry (by decide) c_MO_meets (by decide) (by rintro as w post ⟨c, xs, x, rfl, -⟩; simp) ?_
  rintro as w post ⟨c, xs, x, rfl, hM, hp⟩ Go hGo
  obtain ⟨h9, h4, h60, h10, -⟩ := MI_c hM
  refine q_MO_design_0 hGo (i_MO_isEntry h9 (bI_ne (fun h => q_MO_design_10 hGo ?_) (fun h => ⟨bo0, ?_⟩)))
  · obtain ⟨i, hi, rfl⟩ := hs_t (by omega) h
    obtain ⟨v, k, lam, n, rfl, hv, hlam, h3, hg, hl, hi2⟩ := MI_e hM hi
    obtain ⟨hi60, he10, he4, hea, he64, heK⟩ := ml_at hv hl hi2
    refine i_MO_lookAtEntry hi60 he10 he4 hea he64 (fun w1 f1 t1 => ?_)
    rw [f1.2.1 24 List.not_mem_nil, h3]
    refine i_MO_meets hv (mg_fr hg f1 (by decide) (by decide)) t1 (by omega) (by omega) (by omega) heK ⟨bI_bo _, ?_⟩
    have hA := hp w1 (MI_30 hM f1) f1
    have h : hs (nI i) (ce_L v k lam n).length = true := h
    have hD : A_design (some (v, k, lam, n)) (nI i) = isd v lam ((ce_L v k lam n).getD i []) := by
      simp [A_design, h, e_at, nI_clamp (show i < 2 ^ 31 by omega), es_]
    rw [hD] at hA
    rw [mts_d]
    exact hA
  · have hA := hp w hM (fr_refl _ _ _)
    match c, h, hA with
    | none, _, hA => exact hA
    | some (v, k, lam, n), h, hA =>
      have h : hs x (ce_L v k lam n).length = false := h
      simp only [A_design, h, Bool.false_and] at hA
      exact hA
def T_MO_designs : ma_T := fun as w post => ∃ c xs, as = [.inr 24] ∧ MI c xs w ∧ ∀ w', MI c xs w' → frM w w' → post (A_designs c) w'
theorem c_MO_designs {l : Launch} : ma_Met l y_MO_designs (w_MO_designs :: zw_t) 3 true T_MO_designs := by
  refine z_MO_designs c_MO_design (by decide) (by rintro as w post ⟨c, xs, rfl, -⟩; simp) ?_
  rintro as w post ⟨c, xs, rfl, hM, hp⟩ Go hGo
  obtain ⟨h9, h4, h60, h10, -⟩ := MI_c hM
  refine q_MO_designs_0 hGo ?_
  match c, hM, h9, hp, h60 with
  | none, hM, h9, hp, _ => exact q_MO_designs_4 hGo (pk_le 0 0 (fun _ => q_MO_designs_34 hGo (hp w hM (frM_refl w))) (fun h => absurd h (by omega)) h9 rfl (by omega) (by omega))
  | some (v, k, lam, n), hM, h9, hp, h60 =>
    have h60 : (ce_L v k lam n).length ≤ 60 := h60
    have loop : ∀ (d i : Nat) (w' : ma_W), i + d = (ce_L v k lam n).length → MI (some (v, k, lam, n)) xs w' → fr [] [30] w w' → Go 4 [some (.inr 24), some (.inl (nI (((ce_L v k lam n).take i).countP (fun e => isd v lam e)))), some (.inl (nI i))] [] w' := by
      intro d
      induction d with
      | zero =>
        intro i w' hd hM' hf
        refine q_MO_designs_4 hGo (pk_le (ce_L v k lam n).length i (fun _ => q_MO_designs_34 hGo ?_) (fun h => absurd h (by omega)) (MI_c hM').1 rfl (by omega) (by omega))
        rw [List.take_of_length_le (by omega)]
        exact hp w' hM' (fM_30 hf)
      | succ d ih =>
        intro i w' hd hM' hf
        have hi : i < (ce_L v k lam n).length := by omega
        have hstep := fun w' => ih (i + 1) w' (by omega)
        simp only [List.take_add_one, List.getElem?_eq_getElem hi, ← gd_at (d := []) hi, Option.toList_some, List.countP_append, List.countP_singleton] at hstep
        have hD : A_design (some (v, k, lam, n)) (nI i) = isd v lam ((ce_L v k lam n).getD i []) := by
          simp [A_design, hs_j hi (show (ce_L v k lam n).length < 2 ^ 31 by omega), e_at, nI_clamp (show i < 2 ^ 31 by omega), es_]
        refine q_MO_designs_4 hGo (pk_le (ce_L v k lam n).length i (fun h => absurd h (by omega)) (fun _ => i_MO_design hM' (fun w2 hM2 f2 => ?_)) (MI_c hM').1 rfl (by omega) (by omega))
        rw [hD]
        refine bI_eq (fun h => q_MO_designs_26 hGo (q_MO_designs_27 hGo ?_)) (fun h => q_MO_designs_27 hGo ?_)
        · have h8 := hstep w2 hM2 (fr_trans hf f2)
          rw [if_neg (by rw [h]; decide), Nat.add_zero] at h8
          rw [nI_add]
          exact h8
        · have h8 := hstep w2 hM2 (fr_trans hf f2)
          rw [if_pos h] at h8
          rw [nI_add, nI_add]
          exact h8
    exact loop (ce_L v k lam n).length 0 w (by omega) hM (fr_refl _ _ _)
/-- the least of many does not mind their order -/
theorem fmin_at (p : Nat) : ∀ (l : List (List Nat)) (b : Nat), l.foldl (fun b t => min b (t.getD p 0)) b = b ∨ ∃ t ∈ l, l.foldl (fun b t => min b (t.getD p 0)) b = t.getD p 0
  | [], b => Or.inl rfl
  | s :: l, b => by
    rw [List.foldl_cons]
    rcases fmin_at p l (min b (s.getD p 0)) with h | ⟨t, ht, h⟩
    · by_cases hb : b ≤ s.getD p 0
      · left
        rw [h, Nat.min_eq_left hb]
      · right
        exact ⟨s, List.mem_cons_self, by rw [h, Nat.min_eq_right (by omega)]⟩
    · right
      exact ⟨t, List.mem_cons_of_mem _ ht, h⟩
theorem fmin_perm {p b : Nat} {l l' : List (List Nat)} (h : l.Perm l') : l.foldl (fun b t => min b (t.getD p 0)) b = l'.foldl (fun b t => min b (t.getD p 0)) b := by
  obtain ⟨a1, a2⟩ := fmin_le p l b
  obtain ⟨b1, b2⟩ := fmin_le p l' b
  apply Nat.le_antisymm
  · rcases fmin_at p l' b with h1 | ⟨t, ht, h1⟩
    · rw [h1]; exact a1
    · rw [h1]; exact a2 t (h.mem_iff.mpr ht)
  · rcases fmin_at p l b with h1 | ⟨t, ht, h1⟩
    · rw [h1]; exact b1
    · rw [h1]; exact b2 t (h.mem_iff.mp ht)
/-- the orbit, by the numbers of the renamings -/
def orb_ (v k : Nat) (xs : List Nat) (p n : Nat) : Nat := (((List.range n).filter (fun i => rw_ v k xs i == rw_ v k xs 0)).map (pi_ v)).foldl (fun b t => min b (t.getD p 0)) p
theorem orb_s {v k p n : Nat} {xs : List Nat} : orb_ v k xs p (n + 1) = if rw_ v k xs n = rw_ v k xs 0 then min (orb_ v k xs p n) ((pi_ v n).getD p 0) else orb_ v k xs p n := by
  unfold orb_
  rw [List.range_succ, List.filter_append, List.map_append, List.foldl_append]
  by_cases h : rw_ v k xs n = rw_ v k xs 0
  · rw [if_pos h]
    simp [h]
  · rw [if_neg h]
    simp [h]
theorem orb_eq {v k p : Nat} {xs : List Nat} (hv : vk v k) : orb_ v k xs p (fc v) = sp_orb v k xs p := by
  unfold orb_ sp_orb
  apply fmin_perm
  have h := (pi_P hv.1 hv.2.1).filter (fun t => ce_row (fm_K v k) xs t == ce_row (fm_K v k) xs (List.range v))
  rw [List.filter_map] at h
  rw [rw_0 hv]
  exact h
def T_MO_orbit : ma_T := fun as w post => ∃ c xs x y, as = [.inr 24, .inl x, .inl y] ∧ MI c xs w ∧ ∀ w', MI c xs w' → frM w w' → post (A_orbit c x y) w'
theorem c_MO_orbit {l : Launch} : ma_Met l y_MO_orbit (w_MO_orbit :: zw_t) 2 true T_MO_orbit := by
  refine z_MO_orbit c_MO_isEntry (by decide) c_MO_isPoint (by decide) c_MO_lookAtEntry (by decide) c_MO_compare (by decide) (by rintro as w post ⟨c, xs, x, y, rfl, -⟩; simp) ?_
  rintro as w post ⟨c, xs, x, y, rfl, hM, hp⟩ Go hGo
  obtain ⟨h9, h4, h60, h10, hv6⟩ := MI_c hM
  obtain ⟨b, p1, p2, p3⟩ := MI_p hM
  have no : (hs x (es_ c).length && hs y (vv c)) = false → ∀ o3 o4 o5, Go 16 [some (.inr 24), some (.inl x), some (.inl y), o3, o4, o5] [] w := by
    intro h o3 o4 o5
    refine q_MO_orbit_16 hGo ?_
    have hA := hp w hM (frM_refl w)
    match c, h, hA with
    | none, _, hA => exact hA
    | some (v, k, lam, n), h, hA =>
      have h : (hs x (ce_L v k lam n).length && hs y v) = false := h
      simp only [A_orbit, h] at hA
      exact hA
  refine q_MO_orbit_0 hGo (i_MO_isEntry h9 (bI_eq (fun h => no (by rw [h]; rfl) _ _ _) (fun hx1 => i_MO_isPoint p1 p2 p3 (bI_ne (fun hy1 => q_MO_orbit_18 hGo ?_) (fun h => no (by rw [h, Bool.and_false]) _ _ _)))))
  obtain ⟨i, hi, rfl⟩ := hs_t (by omega) hx1
  obtain ⟨a, ha, rfl⟩ := hs_t (by omega) hy1
  obtain ⟨v, k, lam, n, rfl, hv, hlam, h3, hg, hl, hi2⟩ := MI_e hM hi
  have ha : a < v := ha
  have hv6 : v ≤ 6 := hv6
  obtain ⟨hi60, he10, he4, hea, he64, heK⟩ := ml_at hv hl hi2
  have hh : (hs (nI i) (ce_L v k lam n).length && hs (nI a) v) = true := by
    have h1 : hs (nI i) (ce_L v k lam n).length = true := hx1
    have h2 : hs (nI a) v = true := hy1
    rw [h1, h2]
    rfl
  simp only [A_orbit, hh, if_true, e_at, nI_clamp (show i < 2 ^ 31 by omega), nI_clamp (show a < 2 ^ 31 by omega)] at hp
  have hfc := fc_le v (by omega)
  have hpos := fc_pos v (by omega)
  refine i_MO_lookAtEntry hi60 he10 he4 hea he64 (fun w1 f1 t1 => ?_)
  have hg1 := mg_fr hg f1 (by decide) (by decide)
  have hpo := hp w1 (MI_30 hM f1) (fM_30 f1)
  have hpo : post (nI (sp_orb v k ((ce_L v k lam n).getD i []) a)) w1 := hpo
  rw [← orb_eq hv] at hpo
  have h7 := hg1.2.2.2.2.1
  have h26 := hg1.2.2.2.2.2.2
  have hob : ∀ n, orb_ v k ((ce_L v k lam n).getD i []) a n ≤ a := fun n => (fmin_le a _ a).1
  obtain ⟨e, hee⟩ : ∃ e, (ce_L v k lam n).getD i [] = e := ⟨_, rfl⟩
  rw [hee] at t1 hpo he10
  have hob : ∀ n, orb_ v k e a n ≤ a := fun n => (fmin_le a _ a).1
  have loop : ∀ (d r : Nat) (o5 : Option ma_V), r + d = fc v → Go 28 [some (.inr 24), some (.inl (nI i)), some (.inl (nI a)), some (.inl (nI (orb_ v k e a r))), some (.inl (nI r)), o5] [] w1 := by
    intro d
    induction d with
    | zero =>
      intro r o5 hd
      refine q_MO_orbit_28 hGo (pk_le (fc v) r (fun _ => q_MO_orbit_80 hGo ?_) (fun h => absurd h (by omega)) h7 rfl (by omega) (by omega))
      rw [show r = fc v by omega]
      exact hpo
    | succ d ih =>
      intro r o5 hd
      have hr : r < fc v := by omega
      have hlt := pm_lt (pi_perm hv.1 hv6 hr) ha
      have hs1 := orb_s (v := v) (k := k) (p := a) (n := r) (xs := e)
      have hob1 := hob r
      have stay : orb_ v k e a (r + 1) = orb_ v k e a r → ∀ x5 : Int32, Go 72 [some (.inr 24), some (.inl (nI i)), some (.inl (nI a)), some (.inl (nI (orb_ v k e a r))), some (.inl (nI r)), some (.inl x5)] [] w1 := by
        intro h x5
        refine q_MO_orbit_72 hGo (q_MO_orbit_73 hGo ?_)
        rw [nI_add, ← h]
        exact ih (r + 1) _ (by omega)
      refine q_MO_orbit_28 hGo (pk_le (fc v) r (fun h => absurd h (by omega)) (fun _ => ⟨6 * r + a, by omega, by rw [nI_mul, nI_add], ?_⟩) h7 rfl (by omega) (by omega))
      rw [h26 r hr a ha]
      refine pk_le (orb_ v k e a r) ((pi_ v r).getD a 0) (fun h => stay ?_ _) (fun h => i_MO_compare hv hg1 t1 (by omega) hr hpos (cmp_ne (fun h2 => stay ?_ _) (fun h2 => q_MO_orbit_73 hGo ?_))) rfl rfl (by omega) (by omega)
      · rw [hs1]
        split
        · rw [Nat.min_eq_left h]
        · rfl
      · rw [hs1, if_neg h2]
      · rw [if_pos h2, Nat.min_eq_right (by omega)] at hs1
        rw [nI_add, ← hs1]
        exact ih (r + 1) _ (by omega)
  have h0 : orb_ v k e a 0 = a := rfl
  have hst := loop (fc v) 0 none (by omega)
  rw [h0] at hst
  exact loop (fc v) 0 _ (by omega)
