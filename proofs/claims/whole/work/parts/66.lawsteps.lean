/-! THE LAW: both hold one state; every call keeps it, and both answer alike (steps by program, wip/whole/lgen.py) -/
theorem MI_frX {c : cs_} {xs : List Nat} {w w' : ma_W} (h : MI c xs w) (hf : frX w w') : MI c xs w' := by
  obtain ⟨a1, a2⟩ := h
  have e1 : w'.1 24 = w.1 24 := hf.1 24 (by decide)
  have e25 : w'.2.2 25 = w.2.2 25 := hf.2 25 (by decide)
  have e26 : w'.2.2 26 = w.2.2 26 := hf.2 26 (by decide)
  have e27 : w'.2.2 27 = w.2.2 27 := hf.2 27 (by decide)
  have e29 : w'.2.2 29 = w.2.2 29 := hf.2 29 (by decide)
  refine ⟨by unfold mh; rw [e1, e29]; exact a1, ?_⟩
  match c, a2 with
  | none, ⟨b1, b2, b3, b4⟩ =>
    rw [← e1] at b2 b3 b4
    exact ⟨b1, b2, b3, b4⟩
  | some (v, k, lam, n), ⟨b1, b2, b3, b4, b5, b6⟩ =>
    exact ⟨b1, b2, by rw [e1]; exact b3, by unfold mg; rw [e1, e25, e26]; exact b4, by unfold ml; rw [e1, e27]; exact b5, b6⟩
theorem XI_frM {c : cs_} {xs : List Nat} {w w' : ma_W} (h : XI c xs w) (hf : frM w w') : XI c xs w' := by
  obtain ⟨h1, h2, h3⟩ := h
  have er : w'.2.1 = w.2.1 := hf.1
  have e0 : w'.1 0 = w.1 0 := hf.2.1 0 (by decide)
  have e2 : w'.1 2 = w.1 2 := hf.2.1 2 (by decide)
  have e10 : w'.1 10 = w.1 10 := hf.2.1 10 (by decide)
  have e12 : w'.1 12 = w.1 12 := hf.2.1 12 (by decide)
  have a3 : w'.2.2 3 = w.2.2 3 := hf.2.2 3 (by decide)
  have a4 : w'.2.2 4 = w.2.2 4 := hf.2.2 4 (by decide)
  have a11 : w'.2.2 (10 + 1) = w.2.2 (10 + 1) := hf.2.2 (10 + 1) (by decide)
  have a13 : w'.2.2 (12 + 1) = w.2.2 (12 + 1) := hf.2.2 (12 + 1) (by decide)
  have hz := xr_1 h1
  have hz2 : w.2.1.1 ≤ 20 := by rcases hz with h | h <;> omega
  have ep : w'.1 w.2.1.1 = w.1 w.2.1.1 := hf.2.1 _ (by omega)
  have ea1 : w'.2.2 (w.2.1.1 + 1) = w.2.2 (w.2.1.1 + 1) := hf.2.2 _ (by omega)
  have ea2 : w'.2.2 (w.2.1.1 + 2) = w.2.2 (w.2.1.1 + 2) := hf.2.2 _ (by omega)
  have ea3 : w'.2.2 (w.2.1.1 + 3) = w.2.2 (w.2.1.1 + 3) := hf.2.2 _ (by omega)
  refine ⟨by unfold xr; rw [er]; exact h1, by unfold ro; rw [e10, a11]; exact h2, ?_⟩
  match c, h3 with
  | none, ⟨b1, b2, b3, b4, b5⟩ => exact ⟨b1, by rw [e0]; exact b2, by rw [e2]; exact b3, by rw [er, ep]; exact b4, by rw [er, ep]; exact b5⟩
  | some (v, k, lam, n), ⟨b1, b2, b3, b4, b5, b6, b7, b8, b9⟩ =>
    exact ⟨b1, b2, by rw [e0]; exact b3, by rw [e0]; exact b4, by unfold gr; rw [e2, a3, a4]; exact b5, by unfold ls le_; rw [er, ep, ea1, ea2, ea3]; exact b6, b7, by rw [e0]; exact b8, by unfold hf_ ro; rw [e0, e12, a13]; exact b9⟩
theorem okc_begin {c : cs_} {x y z : Int32} (h : okc c) : okc (N_begin c x y z) := by
  unfold N_begin
  split
  · intro d hd
    obtain rfl : d = 0 := by omega
    exact (by decide : [([] : List Nat)].length ≤ 60)
  · exact h
theorem okc_grow {c : cs_} (h : okc c) : okc (N_grow c) := by
  match c, h with
  | none, h => exact h
  | some (v, k, lam, n), h =>
    unfold N_grow
    dsimp only
    split
    · rename_i h2
      intro d hd
      by_cases e : d = n + 1
      · rw [e]; exact h2.2
      · exact h d (by omega)
    · exact h
def lwE : ma_E := e_LW_law T_PC_begin T_MO_begin T_PC_grow T_MO_grow T_PC_level T_MO_level T_PC_entries T_MO_entries T_PC_block T_MO_block T_PC_order T_MO_order T_PC_labelled T_MO_labelled T_PC_together T_MO_together T_PC_design T_MO_design T_PC_designs T_MO_designs T_PC_orbit T_MO_orbit T_PC_put T_MO_put T_PC_drop T_MO_drop T_PC_swap T_MO_swap T_PC_copy T_MO_copy T_PC_hand T_MO_hand T_PC_formed T_MO_formed T_PC_symmetries T_MO_symmetries T_PC_find T_MO_find
def lwL (i : Nat) : ma_L := [some (.inr 33), some (.inr 0), some (.inr 24), some (.inl (nI i))]
def lwcl (L : Nat) (xs : Nat → Int32) (Go : ma_G) : Prop := ma_cl k_LW_law [] lwE (some (33, L, xs)) 2 s_LW_law (fun x _ => x = nI 1) Go
/-- the state goes on -/
def lwN (i : Nat) (Go : ma_G) : Prop := ∀ (c : cs_) (hd : List Nat) (w : ma_W), XI c hd w → MI c hd w → okc c → Go 561 (lwL i) [] w
theorem ix_ {i L : Nat} (k : Nat) {f : Nat → Prop} (h : i + k < L) (hf : f (i + k)) : ma_ix (nI i + nI k) L f := ⟨i + k, h, nI_add i k, hf⟩
theorem u_LW_begin {Go : ma_G} {w : ma_W} {c : cs_} {hd : List Nat} {i L : Nat} {xs : Nat → Int32} (hGo : lwcl L xs Go) (hi : i + 4 ≤ L) (hX : XI c hd w) (hM : MI c hd w) (hO : okc c) (hN : lwN i Go) : Go 124 (lwL i) [] w := by
  refine hGo 1 _ _ rfl _ _ _ ?_
  show ma_ix (nI i + nI 1) L fun a1 => ma_ix (nI i + nI 2) L fun a2 => ma_ix (nI i + nI 3) L fun a3 => T_PC_begin [.inr 0, .inl (xs a1), .inl (xs a2), .inl (xs a3)] w fun z w1 => ma_ix (nI i + nI 1) L fun b1 => ma_ix (nI i + nI 2) L fun b2 => ma_ix (nI i + nI 3) L fun b3 => T_MO_begin [.inr 24, .inl (xs b1), .inl (xs b2), .inl (xs b3)] w1 fun z2 w2 => (z = z2 → Go 561 (lwL i) [] w2) ∧ (¬ z = z2 → (nI 0 = 0 ∨ nI 0 = 1) ∧ nI 0 = nI 1)
  exact ix_ 1 (by omega) (ix_ 2 (by omega) (ix_ 3 (by omega) (⟨c, hd, _, _, _, rfl, hX, fun w1 hX1 hf1 => ix_ 1 (by omega) (ix_ 2 (by omega) (ix_ 3 (by omega) (⟨c, hd, _, _, _, rfl, MI_frX hM hf1, fun w2 hM2 hf2 => ⟨fun _ => hN _ _ _ (XI_frM hX1 hf2) hM2 (okc_begin hO), fun h => absurd rfl h⟩⟩)))⟩)))
theorem u_LW_grow {Go : ma_G} {w : ma_W} {c : cs_} {hd : List Nat} {i L : Nat} {xs : Nat → Int32} (hGo : lwcl L xs Go) (hi : i + 4 ≤ L) (hX : XI c hd w) (hM : MI c hd w) (hO : okc c) (hN : lwN i Go) : Go 167 (lwL i) [] w := by
  refine hGo 2 _ _ rfl _ _ _ ?_
  show T_PC_grow [.inr 0] w fun z w1 => T_MO_grow [.inr 24] w1 fun z2 w2 => (z = z2 → Go 561 (lwL i) [] w2) ∧ (¬ z = z2 → (nI 0 = 0 ∨ nI 0 = 1) ∧ nI 0 = nI 1)
  exact ⟨c, hd, rfl, hX, fun w1 hX1 hf1 => ⟨c, hd, rfl, MI_frX hM hf1, fun w2 hM2 hf2 => ⟨fun _ => hN _ _ _ (XI_frM hX1 hf2) hM2 (okc_grow hO), fun h => absurd rfl h⟩⟩⟩
theorem u_LW_level {Go : ma_G} {w : ma_W} {c : cs_} {hd : List Nat} {i L : Nat} {xs : Nat → Int32} (hGo : lwcl L xs Go) (hi : i + 4 ≤ L) (hX : XI c hd w) (hM : MI c hd w) (hO : okc c) (hN : lwN i Go) : Go 180 (lwL i) [] w := by
  refine hGo 3 _ _ rfl _ _ _ ?_
  show T_PC_level [.inr 0] w fun z w1 => T_MO_level [.inr 24] w1 fun z2 w2 => (z = z2 → Go 561 (lwL i) [] w2) ∧ (¬ z = z2 → (nI 0 = 0 ∨ nI 0 = 1) ∧ nI 0 = nI 1)
  exact ⟨c, hd, rfl, hX, ⟨c, hd, rfl, hM, ⟨fun _ => hN _ _ _ hX (hM) (hO), fun h => absurd rfl h⟩⟩⟩
theorem u_LW_entries {Go : ma_G} {w : ma_W} {c : cs_} {hd : List Nat} {i L : Nat} {xs : Nat → Int32} (hGo : lwcl L xs Go) (hi : i + 4 ≤ L) (hX : XI c hd w) (hM : MI c hd w) (hO : okc c) (hN : lwN i Go) : Go 193 (lwL i) [] w := by
  refine hGo 4 _ _ rfl _ _ _ ?_
  show T_PC_entries [.inr 0] w fun z w1 => T_MO_entries [.inr 24] w1 fun z2 w2 => (z = z2 → Go 561 (lwL i) [] w2) ∧ (¬ z = z2 → (nI 0 = 0 ∨ nI 0 = 1) ∧ nI 0 = nI 1)
  exact ⟨c, hd, rfl, hX, ⟨c, hd, rfl, hM, ⟨fun _ => hN _ _ _ hX (hM) (hO), fun h => absurd rfl h⟩⟩⟩
theorem u_LW_block {Go : ma_G} {w : ma_W} {c : cs_} {hd : List Nat} {i L : Nat} {xs : Nat → Int32} (hGo : lwcl L xs Go) (hi : i + 4 ≤ L) (hX : XI c hd w) (hM : MI c hd w) (hO : okc c) (hN : lwN i Go) : Go 206 (lwL i) [] w := by
  refine hGo 5 _ _ rfl _ _ _ ?_
  show ma_ix (nI i + nI 1) L fun a1 => ma_ix (nI i + nI 2) L fun a2 => T_PC_block [.inr 0, .inl (xs a1), .inl (xs a2)] w fun z w1 => ma_ix (nI i + nI 1) L fun b1 => ma_ix (nI i + nI 2) L fun b2 => T_MO_block [.inr 24, .inl (xs b1), .inl (xs b2)] w1 fun z2 w2 => (z = z2 → Go 561 (lwL i) [] w2) ∧ (¬ z = z2 → (nI 0 = 0 ∨ nI 0 = 1) ∧ nI 0 = nI 1)
  exact ix_ 1 (by omega) (ix_ 2 (by omega) (⟨c, hd, _, _, rfl, hX, ix_ 1 (by omega) (ix_ 2 (by omega) (⟨c, hd, _, _, rfl, hM, ⟨fun _ => hN _ _ _ hX (hM) (hO), fun h => absurd rfl h⟩⟩))⟩))
theorem u_LW_order {Go : ma_G} {w : ma_W} {c : cs_} {hd : List Nat} {i L : Nat} {xs : Nat → Int32} (hGo : lwcl L xs Go) (hi : i + 4 ≤ L) (hX : XI c hd w) (hM : MI c hd w) (hO : okc c) (hN : lwN i Go) : Go 239 (lwL i) [] w := by
  refine hGo 6 _ _ rfl _ _ _ ?_
  show ma_ix (nI i + nI 1) L fun a1 => T_PC_order [.inr 0, .inl (xs a1)] w fun z w1 => ma_ix (nI i + nI 1) L fun b1 => T_MO_order [.inr 24, .inl (xs b1)] w1 fun z2 w2 => (z = z2 → Go 561 (lwL i) [] w2) ∧ (¬ z = z2 → (nI 0 = 0 ∨ nI 0 = 1) ∧ nI 0 = nI 1)
  exact ix_ 1 (by omega) (⟨c, hd, _, rfl, hX, ix_ 1 (by omega) (⟨c, hd, _, rfl, hM, fun w2 hM2 hf2 => ⟨fun _ => hN _ _ _ (XI_frM hX hf2) hM2 (hO), fun h => absurd rfl h⟩⟩)⟩)
theorem u_LW_labelled {Go : ma_G} {w : ma_W} {c : cs_} {hd : List Nat} {i L : Nat} {xs : Nat → Int32} (hGo : lwcl L xs Go) (hi : i + 4 ≤ L) (hX : XI c hd w) (hM : MI c hd w) (hO : okc c) (hN : lwN i Go) : Go 262 (lwL i) [] w := by
  refine hGo 7 _ _ rfl _ _ _ ?_
  show T_PC_labelled [.inr 0] w fun z w1 => T_MO_labelled [.inr 24] w1 fun z2 w2 => (z = z2 → Go 561 (lwL i) [] w2) ∧ (¬ z = z2 → (nI 0 = 0 ∨ nI 0 = 1) ∧ nI 0 = nI 1)
  exact ⟨c, hd, rfl, hX, ⟨c, hd, rfl, hM, hO, fun w2 hM2 hf2 => ⟨fun _ => hN _ _ _ (XI_frM hX hf2) hM2 (hO), fun h => absurd rfl h⟩⟩⟩
theorem u_LW_together {Go : ma_G} {w : ma_W} {c : cs_} {hd : List Nat} {i L : Nat} {xs : Nat → Int32} (hGo : lwcl L xs Go) (hi : i + 4 ≤ L) (hX : XI c hd w) (hM : MI c hd w) (hO : okc c) (hN : lwN i Go) : Go 275 (lwL i) [] w := by
  refine hGo 8 _ _ rfl _ _ _ ?_
  show ma_ix (nI i + nI 1) L fun a1 => ma_ix (nI i + nI 2) L fun a2 => ma_ix (nI i + nI 3) L fun a3 => T_PC_together [.inr 0, .inl (xs a1), .inl (xs a2), .inl (xs a3)] w fun z w1 => ma_ix (nI i + nI 1) L fun b1 => ma_ix (nI i + nI 2) L fun b2 => ma_ix (nI i + nI 3) L fun b3 => T_MO_together [.inr 24, .inl (xs b1), .inl (xs b2), .inl (xs b3)] w1 fun z2 w2 => (z = z2 → Go 561 (lwL i) [] w2) ∧ (¬ z = z2 → (nI 0 = 0 ∨ nI 0 = 1) ∧ nI 0 = nI 1)
  exact ix_ 1 (by omega) (ix_ 2 (by omega) (ix_ 3 (by omega) (⟨c, hd, _, _, _, rfl, hX, ix_ 1 (by omega) (ix_ 2 (by omega) (ix_ 3 (by omega) (⟨c, hd, _, _, _, rfl, hM, fun w2 hM2 hf2 => ⟨fun _ => hN _ _ _ (XI_frM hX hf2) hM2 (hO), fun h => absurd rfl h⟩⟩)))⟩)))
theorem u_LW_design {Go : ma_G} {w : ma_W} {c : cs_} {hd : List Nat} {i L : Nat} {xs : Nat → Int32} (hGo : lwcl L xs Go) (hi : i + 4 ≤ L) (hX : XI c hd w) (hM : MI c hd w) (hO : okc c) (hN : lwN i Go) : Go 318 (lwL i) [] w := by
  refine hGo 9 _ _ rfl _ _ _ ?_
  show ma_ix (nI i + nI 1) L fun a1 => T_PC_design [.inr 0, .inl (xs a1)] w fun z w1 => ma_ix (nI i + nI 1) L fun b1 => T_MO_design [.inr 24, .inl (xs b1)] w1 fun z2 w2 => (z = z2 → Go 561 (lwL i) [] w2) ∧ (¬ z = z2 → (nI 0 = 0 ∨ nI 0 = 1) ∧ nI 0 = nI 1)
  exact ix_ 1 (by omega) (⟨c, hd, _, rfl, hX, ix_ 1 (by omega) (⟨c, hd, _, rfl, hM, fun w2 hM2 hf2 => ⟨fun _ => hN _ _ _ (XI_frM hX (frM_of hf2 (by decide) (by decide))) hM2 (hO), fun h => absurd rfl h⟩⟩)⟩)
theorem u_LW_designs {Go : ma_G} {w : ma_W} {c : cs_} {hd : List Nat} {i L : Nat} {xs : Nat → Int32} (hGo : lwcl L xs Go) (hi : i + 4 ≤ L) (hX : XI c hd w) (hM : MI c hd w) (hO : okc c) (hN : lwN i Go) : Go 341 (lwL i) [] w := by
  refine hGo 10 _ _ rfl _ _ _ ?_
  show T_PC_designs [.inr 0] w fun z w1 => T_MO_designs [.inr 24] w1 fun z2 w2 => (z = z2 → Go 561 (lwL i) [] w2) ∧ (¬ z = z2 → (nI 0 = 0 ∨ nI 0 = 1) ∧ nI 0 = nI 1)
  exact ⟨c, hd, rfl, hX, ⟨c, hd, rfl, hM, fun w2 hM2 hf2 => ⟨fun _ => hN _ _ _ (XI_frM hX hf2) hM2 (hO), fun h => absurd rfl h⟩⟩⟩
theorem u_LW_orbit {Go : ma_G} {w : ma_W} {c : cs_} {hd : List Nat} {i L : Nat} {xs : Nat → Int32} (hGo : lwcl L xs Go) (hi : i + 4 ≤ L) (hX : XI c hd w) (hM : MI c hd w) (hO : okc c) (hN : lwN i Go) : Go 354 (lwL i) [] w := by
  refine hGo 11 _ _ rfl _ _ _ ?_
  show ma_ix (nI i + nI 1) L fun a1 => ma_ix (nI i + nI 2) L fun a2 => T_PC_orbit [.inr 0, .inl (xs a1), .inl (xs a2)] w fun z w1 => ma_ix (nI i + nI 1) L fun b1 => ma_ix (nI i + nI 2) L fun b2 => T_MO_orbit [.inr 24, .inl (xs b1), .inl (xs b2)] w1 fun z2 w2 => (z = z2 → Go 561 (lwL i) [] w2) ∧ (¬ z = z2 → (nI 0 = 0 ∨ nI 0 = 1) ∧ nI 0 = nI 1)
  exact ix_ 1 (by omega) (ix_ 2 (by omega) (⟨c, hd, _, _, rfl, hX, ix_ 1 (by omega) (ix_ 2 (by omega) (⟨c, hd, _, _, rfl, hM, fun w2 hM2 hf2 => ⟨fun _ => hN _ _ _ (XI_frM hX hf2) hM2 (hO), fun h => absurd rfl h⟩⟩))⟩))
theorem u_LW_put {Go : ma_G} {w : ma_W} {c : cs_} {hd : List Nat} {i L : Nat} {xs : Nat → Int32} (hGo : lwcl L xs Go) (hi : i + 4 ≤ L) (hX : XI c hd w) (hM : MI c hd w) (hO : okc c) (hN : lwN i Go) : Go 387 (lwL i) [] w := by
  refine hGo 12 _ _ rfl _ _ _ ?_
  show ma_ix (nI i + nI 1) L fun a1 => T_PC_put [.inr 0, .inl (xs a1)] w fun z w1 => ma_ix (nI i + nI 1) L fun b1 => T_MO_put [.inr 24, .inl (xs b1)] w1 fun z2 w2 => (z = z2 → Go 561 (lwL i) [] w2) ∧ (¬ z = z2 → (nI 0 = 0 ∨ nI 0 = 1) ∧ nI 0 = nI 1)
  exact ix_ 1 (by omega) (⟨c, hd, _, rfl, hX, fun w1 hX1 hf1 => ix_ 1 (by omega) (⟨c, hd, _, rfl, MI_frX hM hf1, fun w2 hM2 hf2 => ⟨fun _ => hN _ _ _ (XI_frM hX1 hf2) hM2 (hO), fun h => absurd rfl h⟩⟩)⟩)
theorem u_LW_drop {Go : ma_G} {w : ma_W} {c : cs_} {hd : List Nat} {i L : Nat} {xs : Nat → Int32} (hGo : lwcl L xs Go) (hi : i + 4 ≤ L) (hX : XI c hd w) (hM : MI c hd w) (hO : okc c) (hN : lwN i Go) : Go 410 (lwL i) [] w := by
  refine hGo 13 _ _ rfl _ _ _ ?_
  show ma_ix (nI i + nI 1) L fun a1 => T_PC_drop [.inr 0, .inl (xs a1)] w fun z w1 => ma_ix (nI i + nI 1) L fun b1 => T_MO_drop [.inr 24, .inl (xs b1)] w1 fun z2 w2 => (z = z2 → Go 561 (lwL i) [] w2) ∧ (¬ z = z2 → (nI 0 = 0 ∨ nI 0 = 1) ∧ nI 0 = nI 1)
  exact ix_ 1 (by omega) (⟨c, hd, _, rfl, hX, fun w1 hX1 hf1 => ix_ 1 (by omega) (⟨c, hd, _, rfl, MI_frX hM hf1, fun w2 hM2 hf2 => ⟨fun _ => hN _ _ _ (XI_frM hX1 hf2) hM2 (hO), fun h => absurd rfl h⟩⟩)⟩)
theorem u_LW_swap {Go : ma_G} {w : ma_W} {c : cs_} {hd : List Nat} {i L : Nat} {xs : Nat → Int32} (hGo : lwcl L xs Go) (hi : i + 4 ≤ L) (hX : XI c hd w) (hM : MI c hd w) (hO : okc c) (hN : lwN i Go) : Go 433 (lwL i) [] w := by
  refine hGo 14 _ _ rfl _ _ _ ?_
  show ma_ix (nI i + nI 1) L fun a1 => ma_ix (nI i + nI 2) L fun a2 => T_PC_swap [.inr 0, .inl (xs a1), .inl (xs a2)] w fun z w1 => ma_ix (nI i + nI 1) L fun b1 => ma_ix (nI i + nI 2) L fun b2 => T_MO_swap [.inr 24, .inl (xs b1), .inl (xs b2)] w1 fun z2 w2 => (z = z2 → Go 561 (lwL i) [] w2) ∧ (¬ z = z2 → (nI 0 = 0 ∨ nI 0 = 1) ∧ nI 0 = nI 1)
  exact ix_ 1 (by omega) (ix_ 2 (by omega) (⟨c, hd, _, _, rfl, hX, fun w1 hX1 hf1 => ix_ 1 (by omega) (ix_ 2 (by omega) (⟨c, hd, _, _, rfl, MI_frX hM hf1, fun w2 hM2 hf2 => ⟨fun _ => hN _ _ _ (XI_frM hX1 hf2) hM2 (hO), fun h => absurd rfl h⟩⟩))⟩))
theorem u_LW_copy {Go : ma_G} {w : ma_W} {c : cs_} {hd : List Nat} {i L : Nat} {xs : Nat → Int32} (hGo : lwcl L xs Go) (hi : i + 4 ≤ L) (hX : XI c hd w) (hM : MI c hd w) (hO : okc c) (hN : lwN i Go) : Go 466 (lwL i) [] w := by
  refine hGo 15 _ _ rfl _ _ _ ?_
  show ma_ix (nI i + nI 1) L fun a1 => T_PC_copy [.inr 0, .inl (xs a1)] w fun z w1 => ma_ix (nI i + nI 1) L fun b1 => T_MO_copy [.inr 24, .inl (xs b1)] w1 fun z2 w2 => (z = z2 → Go 561 (lwL i) [] w2) ∧ (¬ z = z2 → (nI 0 = 0 ∨ nI 0 = 1) ∧ nI 0 = nI 1)
  exact ix_ 1 (by omega) (⟨c, hd, _, rfl, hX, fun w1 hX1 hf1 => ix_ 1 (by omega) (⟨c, hd, _, rfl, MI_frX hM hf1, fun w2 hM2 hf2 => ⟨fun _ => hN _ _ _ (XI_frM hX1 hf2) hM2 (hO), fun h => absurd rfl h⟩⟩)⟩)
theorem u_LW_hand {Go : ma_G} {w : ma_W} {c : cs_} {hd : List Nat} {i L : Nat} {xs : Nat → Int32} (hGo : lwcl L xs Go) (hi : i + 4 ≤ L) (hX : XI c hd w) (hM : MI c hd w) (hO : okc c) (hN : lwN i Go) : Go 489 (lwL i) [] w := by
  refine hGo 16 _ _ rfl _ _ _ ?_
  show ma_ix (nI i + nI 1) L fun a1 => T_PC_hand [.inr 0, .inl (xs a1)] w fun z w1 => ma_ix (nI i + nI 1) L fun b1 => T_MO_hand [.inr 24, .inl (xs b1)] w1 fun z2 w2 => (z = z2 → Go 561 (lwL i) [] w2) ∧ (¬ z = z2 → (nI 0 = 0 ∨ nI 0 = 1) ∧ nI 0 = nI 1)
  exact ix_ 1 (by omega) (⟨c, hd, _, rfl, hX, ix_ 1 (by omega) (⟨c, hd, _, rfl, hM, ⟨fun _ => hN _ _ _ hX (hM) (hO), fun h => absurd rfl h⟩⟩)⟩)
theorem u_LW_formed {Go : ma_G} {w : ma_W} {c : cs_} {hd : List Nat} {i L : Nat} {xs : Nat → Int32} (hGo : lwcl L xs Go) (hi : i + 4 ≤ L) (hX : XI c hd w) (hM : MI c hd w) (hO : okc c) (hN : lwN i Go) : Go 512 (lwL i) [] w := by
  refine hGo 17 _ _ rfl _ _ _ ?_
  show ma_ix (nI i + nI 1) L fun a1 => T_PC_formed [.inr 0, .inl (xs a1)] w fun z w1 => ma_ix (nI i + nI 1) L fun b1 => T_MO_formed [.inr 24, .inl (xs b1)] w1 fun z2 w2 => (z = z2 → Go 561 (lwL i) [] w2) ∧ (¬ z = z2 → (nI 0 = 0 ∨ nI 0 = 1) ∧ nI 0 = nI 1)
  exact ix_ 1 (by omega) (⟨c, hd, _, rfl, hX, fun w1 hX1 hf1 => ix_ 1 (by omega) (⟨c, hd, _, rfl, MI_frX hM hf1, fun w2 hM2 hf2 => ⟨fun _ => hN _ _ _ (XI_frM hX1 hf2) hM2 (hO), fun h => absurd rfl h⟩⟩)⟩)
theorem u_LW_symmetries {Go : ma_G} {w : ma_W} {c : cs_} {hd : List Nat} {i L : Nat} {xs : Nat → Int32} (hGo : lwcl L xs Go) (hi : i + 4 ≤ L) (hX : XI c hd w) (hM : MI c hd w) (hO : okc c) (hN : lwN i Go) : Go 535 (lwL i) [] w := by
  refine hGo 18 _ _ rfl _ _ _ ?_
  show T_PC_symmetries [.inr 0] w fun z w1 => T_MO_symmetries [.inr 24] w1 fun z2 w2 => (z = z2 → Go 561 (lwL i) [] w2) ∧ (¬ z = z2 → (nI 0 = 0 ∨ nI 0 = 1) ∧ nI 0 = nI 1)
  exact ⟨c, hd, rfl, hX, fun w1 hX1 hf1 => ⟨c, hd, rfl, MI_frX hM hf1, fun w2 hM2 hf2 => ⟨fun _ => hN _ _ _ (XI_frM hX1 hf2) hM2 (hO), fun h => absurd rfl h⟩⟩⟩
theorem u_LW_find {Go : ma_G} {w : ma_W} {c : cs_} {hd : List Nat} {i L : Nat} {xs : Nat → Int32} (hGo : lwcl L xs Go) (hi : i + 4 ≤ L) (hX : XI c hd w) (hM : MI c hd w) (hO : okc c) (hN : lwN i Go) : Go 548 (lwL i) [] w := by
  refine hGo 19 _ _ rfl _ _ _ ?_
  show T_PC_find [.inr 0] w fun z w1 => T_MO_find [.inr 24] w1 fun z2 w2 => (z = z2 → Go 561 (lwL i) [] w2) ∧ (¬ z = z2 → (nI 0 = 0 ∨ nI 0 = 1) ∧ nI 0 = nI 1)
  exact ⟨c, hd, rfl, hX, fun w1 hX1 hf1 => ⟨c, hd, rfl, MI_frX hM hf1, fun w2 hM2 hf2 => ⟨fun _ => hN _ _ _ (XI_frM hX1 hf2) hM2 (hO), fun h => absurd rfl h⟩⟩⟩
