/-! CONTRACTS: PackingCensus, calls that only look -/
def T_PC_level : ma_T := fun as w post => ∃ c xs, as = [.inr 0] ∧ XI c xs w ∧ post (A_level c) w
theorem c_PC_level {l : Launch} : ma_Met l y_PC_level (w_PC_level :: zw_t) 1 true T_PC_level := by
  refine z_PC_level c_LI_rowLength (by decide) (by rintro as w post ⟨c, xs, rfl, -⟩; simp) ?_
  rintro as w post ⟨c, xs, rfl, hX, hp⟩ Go hGo
  obtain ⟨hz, -, h3, -⟩ := XI_c hX
  obtain ⟨-, -, hc⟩ := hX
  refine q_PC_level_0 hGo ?_
  rw [ma_isk_of (zL_s hz)]
  match c, hc, h3, hp with
  | none, hc, _, hp => exact bI_at (b := false) hc.2.1 (fun _ => q_PC_level_17 hGo (q_PC_level_18 hGo hp)) (fun h => by cases h)
  | some (v, k, lam, n), hc, h3, hp => exact bI_at (b := true) hc.2.2.1 (fun h => by cases h) (fun _ => i_LI_rowLength hz (q_PC_level_18 hGo (by rw [h3]; exact hp)))
def T_PC_entries : ma_T := fun as w post => ∃ c xs, as = [.inr 0] ∧ XI c xs w ∧ post (A_entries c) w
theorem c_PC_entries {l : Launch} : ma_Met l y_PC_entries (w_PC_entries :: zw_t) 1 true T_PC_entries := by
  refine z_PC_entries c_LI_size (by decide) (by rintro as w post ⟨c, xs, rfl, -⟩; simp) ?_
  rintro as w post ⟨c, xs, rfl, hX, hp⟩ Go hGo
  obtain ⟨hz, h4, -⟩ := XI_c hX
  refine q_PC_entries_0 hGo ?_
  rw [ma_isk_of (zL_s hz)]
  exact i_LI_size hz (by rw [h4]; exact hp)
/-- an entry of the list -/
theorem XI_e {c : cs_} {xs : List Nat} {w : ma_W} {j : Nat} (h : XI c xs w) (hj : j < (es_ c).length) : ∃ v k lam n, c = some (v, k, lam, n) ∧ vk v k ∧ (1 ≤ lam ∧ lam ≤ 4) ∧ w.1 0 7 = nI lam ∧ gr v k w ∧ ls v k w w.2.1.1 n (ce_L v k lam n) ∧ j < (ce_L v k lam n).length := by
  obtain ⟨h1, h2, h3⟩ := h
  match c, h3, hj with
  | none, _, hj => exact absurd hj (Nat.not_lt_zero j)
  | some (v, k, lam, n), ⟨g1, g2, g3, g4, g5, g6, g7⟩, hj => exact ⟨v, k, lam, n, rfl, g1, g2, g4, g5, g6, hj⟩
def T_PC_block : ma_T := fun as w post => ∃ c xs x y, as = [.inr 0, .inl x, .inl y] ∧ XI c xs w ∧ post (A_block c x y) w
theorem c_PC_block {l : Launch} : ma_Met l y_PC_block (w_PC_block :: zw_t) 1 true T_PC_block := by
  refine z_PC_block c_LI_has (by decide) c_LI_rowLength (by decide) c_LI_mask (by decide) (by rintro as w post ⟨c, xs, x, y, rfl, -⟩; simp) ?_
  rintro as w post ⟨c, xs, x, y, rfl, hX, hp⟩ Go hGo
  obtain ⟨hz, h4, h3, -, h60, h10, -⟩ := XI_c hX
  have no : (hs x (es_ c).length && hs y (lv c)) = false → Go 38 [some (.inr 0), some (.inl x), some (.inl y)] [] w := by
    intro h
    refine q_PC_block_38 hGo (q_PC_block_39 hGo ?_)
    rw [A_block, if_neg (by rw [h]; decide)] at hp
    exact hp
  refine q_PC_block_0 hGo ?_
  rw [ma_isk_of (zL_s hz)]
  refine i_LI_has hz h4 (bI_eq (fun h => no (by rw [h]; rfl)) (fun h => ⟨fun h9 => no (by rw [hs_f1 h9, Bool.and_false]), fun h9 => ?_⟩))
  rw [ma_isk_of (zL_s hz)]
  refine i_LI_rowLength hz ?_
  rw [h3]
  refine ⟨fun h8 => no (by rw [hs_f2 h8, Bool.and_false]), fun h8 => ?_⟩
  rw [ma_isk_of (zL_s hz)]
  have hy := hs_t2 h9 h8
  obtain ⟨i, hi, rfl⟩ := hs_t (by omega) h
  obtain ⟨j, hj, rfl⟩ := hs_t (by omega) hy
  rw [A_block, if_pos (by rw [h, hy]; rfl), e_at, nI_clamp (by omega), nI_clamp (by omega)] at hp
  obtain ⟨v, k, lam, n, rfl, hv, -, -, -, hl, hi2⟩ := XI_e hX hi
  obtain ⟨g1, -, g3, -⟩ := hl.2.2.2.2 i hi2
  refine i_LI_mask hz (by omega) (q_PC_block_39 hGo ?_)
  rw [g3 j (by rw [g1]; exact hj)]
  exact hp
def T_PC_order : ma_T := fun as w post => ∃ c xs x, as = [.inr 0, .inl x] ∧ XI c xs w ∧ post (A_order c x) w
theorem c_PC_order {l : Launch} : ma_Met l y_PC_order (w_PC_order :: zw_t) 1 true T_PC_order := by
  refine z_PC_order c_LI_has (by decide) c_LI_symmetriesOf (by decide) (by rintro as w post ⟨c, xs, x, rfl, -⟩; simp) ?_
  rintro as w post ⟨c, xs, x, rfl, hX, hp⟩ Go hGo
  obtain ⟨hz, h4, h3, -, h60, h10, -⟩ := XI_c hX
  refine q_PC_order_0 hGo ?_
  rw [ma_isk_of (zL_s hz)]
  refine i_LI_has hz h4 (bI_eq (fun h => q_PC_order_22 hGo (q_PC_order_23 hGo ?_)) (fun h => ?_))
  · match c, h, hp with
    | none, _, hp => exact hp
    | some (v, k, lam, n), h, hp =>
      have h : hs x (ce_L v k lam n).length = false := h
      simp only [A_order, h] at hp
      exact hp
  · rw [ma_isk_of (zL_s hz)]
    obtain ⟨i, hi, rfl⟩ := hs_t (by omega) h
    obtain ⟨v, k, lam, n, rfl, hv, -, -, -, hl, hi2⟩ := XI_e hX hi
    obtain ⟨-, -, -, g4, -⟩ := hl.2.2.2.2 i hi2
    refine i_LI_symmetriesOf hz (by have := hl.1; omega) (q_PC_order_23 hGo ?_)
    rw [g4]
    have h : hs (nI i) (ce_L v k lam n).length = true := h
    simp only [A_order, h, if_true, e_at, nI_clamp (show i < 2 ^ 31 by omega)] at hp
    exact hp
def T_PC_together : ma_T := fun as w post => ∃ c xs x y z, as = [.inr 0, .inl x, .inl y, .inl z] ∧ XI c xs w ∧ post (A_together c x y z) w
theorem c_PC_together {l : Launch} : ma_Met l y_PC_together (w_PC_together :: zw_t) 2 true T_PC_together := by
  refine z_PC_together c_LI_has (by decide) c_GR_isPoint (by decide) c_LI_blocksHolding (by decide) (by rintro as w post ⟨c, xs, x, y, z, rfl, -⟩; simp) ?_
  rintro as w post ⟨c, xs, x, y, z, rfl, hX, hp⟩ Go hGo
  obtain ⟨hz, h4, h3, h2, h60, h10, hv6⟩ := XI_c hX
  have no : (hs x (es_ c).length && (hs y (vv c) && hs z (vv c))) = false → Go 33 [some (.inr 0), some (.inl x), some (.inl y), some (.inl z)] [] w := by
    intro h
    refine q_PC_together_33 hGo ?_
    rw [A_together, if_neg (by rw [h]; decide)] at hp
    exact hp
  refine q_PC_together_0 hGo ?_
  rw [ma_isk_of (zL_s hz)]
  refine i_LI_has hz h4 (bI_eq (fun h => no (by rw [h]; rfl)) (fun hx1 => i_GR_isPoint h2 (bI_eq (fun h => no (by rw [h]; simp)) (fun hy1 => i_GR_isPoint h2 (bI_ne (fun hz1 => ?_) (fun h => no (by rw [h]; simp)))))))
  rw [A_together, if_pos (by rw [hx1, hy1, hz1]; rfl)] at hp
  obtain ⟨i, hi, rfl⟩ := hs_t (by omega) hx1
  obtain ⟨a, ha, rfl⟩ := hs_t (by omega) hy1
  obtain ⟨b, hb, rfl⟩ := hs_t (by omega) hz1
  rw [e_at, nI_clamp (by omega), nI_clamp (by omega), nI_clamp (by omega)] at hp
  obtain ⟨v, k, lam, n, rfl, hv, -, -, -, hl, hi2⟩ := XI_e hX hi
  obtain ⟨hi60, he10, he3, hle, he64⟩ := ls_at hv hl hi2
  refine q_PC_together_35 hGo ?_
  rw [ma_isk_of (zL_s hz), pr_e (by omega) (by omega)]
  refine i_LI_blocksHolding hz hi60 (sw_lt a (by omega) b (by omega)) he10 he3 hle he64 ?_
  rw [meet_e (by omega) (by omega) he64]
  exact hp
def T_PC_design : ma_T := fun as w post => ∃ c xs x, as = [.inr 0, .inl x] ∧ XI c xs w ∧ post (bI (A_design c x)) w
theorem c_PC_design {l : Launch} : ma_Met l y_PC_design (w_PC_design :: zw_t) 3 true T_PC_design := by
  refine z_PC_design c_LI_has (by decide) c_PC_isDesign (by decide) (by rintro as w post ⟨c, xs, x, rfl, -⟩; simp) ?_
  rintro as w post ⟨c, xs, x, rfl, hX, hp⟩ Go hGo
  obtain ⟨hz, h4, h3, h2, h60, h10, hv6⟩ := XI_c hX
  have no : A_design c x = false → Go 23 [some (.inr 0), some (.inl x)] [] w := fun h => q_PC_design_23 hGo (q_PC_design_24 hGo ⟨bo0, by rw [h] at hp; exact hp⟩)
  refine q_PC_design_0 hGo ?_
  rw [ma_isk_of (zL_s hz)]
  refine i_LI_has hz h4 (bI_eq (fun h => no ?_) (fun h => ?_))
  · match c, h with
    | none, _ => rfl
    | some (v, k, lam, n), h =>
      have h : hs x (ce_L v k lam n).length = false := h
      simp [A_design, h]
  · obtain ⟨i, hi, rfl⟩ := hs_t (by omega) h
    obtain ⟨v, k, lam, n, rfl, hv, hlam, h7, hg, hl, hi2⟩ := XI_e hX hi
    have h : hs (nI i) (ce_L v k lam n).length = true := h
    have hA : A_design (some (v, k, lam, n)) (nI i) = isd v lam ((ce_L v k lam n).getD i []) := by
      simp [A_design, h, e_at, nI_clamp (show i < 2 ^ 31 by omega), es_]
    refine i_PC_isDesign (es := ce_L v k lam n) hv hX.1 hl hi2 hg.1 h7 (by omega) (bI_eq (fun h9 => no (by rw [hA]; exact h9)) (fun h9 => q_PC_design_24 hGo ⟨bo1, ?_⟩))
    rw [hA, h9] at hp
    exact hp
def T_PC_orbit : ma_T := fun as w post => ∃ c xs x y, as = [.inr 0, .inl x, .inl y] ∧ XI c xs w ∧ post (A_orbit c x y) w
theorem c_PC_orbit {l : Launch} : ma_Met l y_PC_orbit (w_PC_orbit :: zw_t) 1 true T_PC_orbit := by
  refine z_PC_orbit c_LI_has (by decide) c_GR_isPoint (by decide) c_LI_leastImage (by decide) (by rintro as w post ⟨c, xs, x, y, rfl, -⟩; simp) ?_
  rintro as w post ⟨c, xs, x, y, rfl, hX, hp⟩ Go hGo
  obtain ⟨hz, h4, h3, h2, h60, h10, hv6⟩ := XI_c hX
  have no : (hs x (es_ c).length && hs y (vv c)) = false → Go 34 [some (.inr 0), some (.inl x), some (.inl y)] [] w := by
    intro h
    refine q_PC_orbit_34 hGo (q_PC_orbit_35 hGo ?_)
    match c, h, hp with
    | none, _, hp => exact hp
    | some (v, k, lam, n), h, hp =>
      have h : (hs x (ce_L v k lam n).length && hs y v) = false := h
      simp only [A_orbit, h] at hp
      exact hp
  refine q_PC_orbit_0 hGo ?_
  rw [ma_isk_of (zL_s hz)]
  refine i_LI_has hz h4 (bI_eq (fun h => no (by rw [h]; rfl)) (fun hx1 => i_GR_isPoint h2 (bI_eq (fun h => no (by rw [h, Bool.and_false])) (fun hy1 => ?_))))
  rw [ma_isk_of (zL_s hz)]
  obtain ⟨i, hi, rfl⟩ := hs_t (by omega) hx1
  obtain ⟨a, ha, rfl⟩ := hs_t (by omega) hy1
  obtain ⟨v, k, lam, n, rfl, hv, -, -, -, hl, hi2⟩ := XI_e hX hi
  obtain ⟨-, -, -, -, g5⟩ := hl.2.2.2.2 i hi2
  have hh : (hs (nI i) (ce_L v k lam n).length && hs (nI a) v) = true := by
    have h1 : hs (nI i) (ce_L v k lam n).length = true := hx1
    have h2 : hs (nI a) v = true := hy1
    rw [h1, h2]
    rfl
  simp only [A_orbit, hh, if_true, e_at, nI_clamp (show i < 2 ^ 31 by omega), nI_clamp (show a < 2 ^ 31 by omega)] at hp
  refine i_LI_leastImage hz (by have := hl.1; have : a < v := ha; have := hv.2.1; omega) (q_PC_orbit_35 hGo ?_)
  rw [g5 a ha]
  exact hp
def T_PC_designs : ma_T := fun as w post => ∃ c xs, as = [.inr 0] ∧ XI c xs w ∧ post (A_designs c) w
theorem c_PC_designs {l : Launch} : ma_Met l y_PC_designs (w_PC_designs :: zw_t) 3 true T_PC_designs := by
  refine z_PC_designs c_LI_size (by decide) c_PC_isDesign (by decide) (by rintro as w post ⟨c, xs, rfl, -⟩; simp) ?_
  rintro as w post ⟨c, xs, rfl, hX, hp⟩ Go hGo
  obtain ⟨hz, h4, h3, h2, h60, h10, hv6⟩ := XI_c hX
  refine q_PC_designs_0 hGo ?_
  match c, hX, h4, hp with
  | none, hX, h4, hp =>
    refine q_PC_designs_4 hGo ?_
    rw [ma_isk_of (zL_s hz)]
    exact i_LI_size hz (pk_le 0 0 (fun _ => q_PC_designs_37 hGo hp) (fun h => absurd h (by omega)) h4 rfl (by omega) (by omega))
  | some (v, k, lam, n), hX, h4, hp =>
    obtain ⟨hx, -, hv, hlam, -, h7, hg, hl, -⟩ := hX
    have hl60 := hl.1
    have loop : ∀ (d i : Nat), i + d = (ce_L v k lam n).length → Go 4 [some (.inr 0), some (.inl (nI (((ce_L v k lam n).take i).countP (fun e => isd v lam e)))), some (.inl (nI i))] [] w := by
      intro d
      induction d with
      | zero =>
        intro i hd
        refine q_PC_designs_4 hGo ?_
        rw [ma_isk_of (zL_s hz)]
        refine i_LI_size hz (pk_le (ce_L v k lam n).length i (fun _ => q_PC_designs_37 hGo ?_) (fun h => absurd h (by omega)) h4 rfl (by omega) (by omega))
        rw [List.take_of_length_le (by omega)]
        exact hp
      | succ d ih =>
        intro i hd
        have hi : i < (ce_L v k lam n).length := by omega
        have hstep := ih (i + 1) (by omega)
        rw [List.take_add_one, List.getElem?_eq_getElem hi, ← gd_at (d := []) hi, Option.toList_some, List.countP_append, List.countP_singleton] at hstep
        refine q_PC_designs_4 hGo ?_
        rw [ma_isk_of (zL_s hz)]
        refine i_LI_size hz (pk_le (ce_L v k lam n).length i (fun h => absurd h (by omega)) (fun _ => i_PC_isDesign (es := ce_L v k lam n) hv hx hl hi hg.1 h7 (by omega) (bI_eq (fun h => q_PC_designs_28 hGo (q_PC_designs_29 hGo ?_)) (fun h => q_PC_designs_29 hGo ?_))) h4 rfl (by omega) (by omega))
        · rw [nI_add, nI_add]
          rw [if_neg (by rw [h]; decide)] at hstep
          exact hstep
        · rw [nI_add, nI_add]
          rw [if_pos h] at hstep
          exact hstep
    exact loop (ce_L v k lam n).length 0 (by omega)
theorem fcP : ∀ v, v < 7 → (pm_P v).length = fc v := by decide +kernel
theorem fc_le : ∀ v, v < 7 → fc v ≤ 720 := by decide +kernel
theorem ord_le {v k : Nat} {e : List Nat} : ce_ord v k e ≤ (pm_P v).length := List.countP_le_length
def T_PC_labelled : ma_T := fun as w post => ∃ c xs, as = [.inr 0] ∧ XI c xs w ∧ post (A_labelled c) w
theorem c_PC_labelled {l : Launch} : ma_Met l y_PC_labelled (w_PC_labelled :: zw_t) 1 true T_PC_labelled := by
  refine z_PC_labelled c_GR_renamings (by decide) c_LI_size (by decide) c_LI_symmetriesOf (by decide) (by rintro as w post ⟨c, xs, rfl, -⟩; simp) ?_
  rintro as w post ⟨c, xs, rfl, hX, hp⟩ Go hGo
  obtain ⟨hz, h4, h3, h2, h60, h10, hv6⟩ := XI_c hX
  refine q_PC_labelled_0 hGo (i_GR_renamings hv6 h2 ?_)
  match c, hX, h4, hp, hv6 with
  | none, hX, h4, hp, _ =>
    refine q_PC_labelled_12 hGo ?_
    rw [ma_isk_of (zL_s hz)]
    exact i_LI_size hz (pk_le 0 0 (fun _ => q_PC_labelled_55 hGo hp) (fun h => absurd h (by omega)) h4 rfl (by omega) (by omega))
  | some (v, k, lam, n), hX, h4, hp, hv6 =>
    obtain ⟨hx, -, hv, hlam, -, h7, hg, hl, -⟩ := hX
    have hl60 := hl.1
    have hv6 : v ≤ 6 := hv6
    have hfP := fcP v (by omega)
    have hfc := fc_le v (by omega)
    have loop : ∀ (d i : Nat) (o : Option ma_V), i + d = (ce_L v k lam n).length → Go 12 [some (.inr 0), some (.inl (nI (((ce_L v k lam n).take i).map (fun e => (pm_P v).length / ce_ord v k e)).sum)), some (.inl (nI (fc v))), some (.inl (nI i)), o] [] w := by
      intro d
      induction d with
      | zero =>
        intro i o hd
        refine q_PC_labelled_12 hGo ?_
        rw [ma_isk_of (zL_s hz)]
        refine i_LI_size hz (pk_le (ce_L v k lam n).length i (fun _ => q_PC_labelled_55 hGo ?_) (fun h => absurd h (by omega)) h4 rfl (by omega) (by omega))
        rw [List.take_of_length_le (by omega), ← ce_labelled]
        exact hp
      | succ d ih =>
        intro i o hd
        have hi : i < (ce_L v k lam n).length := by omega
        have hstep := fun o => ih (i + 1) o (by omega)
        rw [List.take_add_one, List.getElem?_eq_getElem hi, ← gd_at (d := []) hi, Option.toList_some, List.map_append, List.sum_append_nat, List.map_singleton, List.sum_singleton] at hstep
        obtain ⟨-, -, -, g4, -⟩ := hl.2.2.2.2 i hi
        have hpos := ce_ord_pos (v := v) (k := k) (e := (ce_L v k lam n).getD i [])
        have hle := ord_le (v := v) (k := k) (e := (ce_L v k lam n).getD i [])
        refine q_PC_labelled_12 hGo ?_
        rw [ma_isk_of (zL_s hz)]
        refine i_LI_size hz (pk_le (ce_L v k lam n).length i (fun h => absurd h (by omega)) (fun _ => ?_) h4 rfl (by omega) (by omega))
        rw [ma_isk_of (zL_s hz)]
        refine i_LI_symmetriesOf hz (by omega) ?_
        rw [g4]
        refine pk_le (ce_ord v k ((ce_L v k lam n).getD i [])) 0 (fun h => absurd h (by omega)) (fun _ => ⟨nI_ne0 hpos (by omega), q_PC_labelled_47 hGo ?_⟩) rfl rfl (by omega) (by omega)
        rw [pk_div (by omega) hpos (by omega), nI_add, nI_add, ← hfP]
        rw [← hfP] at hstep
        exact hstep _
    exact loop (ce_L v k lam n).length 0 _ (by omega)
def T_PC_hand : ma_T := fun as w post => ∃ c xs x, as = [.inr 0, .inl x] ∧ XI c xs w ∧ post (A_hand xs x) w
theorem c_PC_hand {l : Launch} : ma_Met l y_PC_hand (w_PC_hand :: zw_t) 1 true T_PC_hand := by
  refine z_PC_hand c_RO_has (by decide) c_RO_get (by decide) (by rintro as w post ⟨c, xs, x, rfl, -⟩; simp) ?_
  rintro as w post ⟨c, xs, x, rfl, hX, hp⟩ Go hGo
  obtain ⟨-, hr, -⟩ := hX
  have hl := hr.1
  refine q_PC_hand_0 hGo (i_RO_has (Or.inl rfl) hr.2.1 (bI_eq (fun h => q_PC_hand_22 hGo (q_PC_hand_23 hGo ?_)) (fun h => ?_)))
  · rw [A_hand, if_neg (by rw [h]; decide)] at hp
    exact hp
  · rw [A_hand, if_pos h] at hp
    obtain ⟨j, hj, rfl⟩ := hs_t (by omega) h
    rw [nI_clamp (by omega)] at hp
    refine i_RO_get (Or.inl rfl) (by omega) (q_PC_hand_23 hGo ?_)
    rw [hr.2.2 j hj]
    exact hp
