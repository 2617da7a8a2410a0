/-! THE STATE of both programs and what they answer -/
abbrev cs_ : Type := Option (Nat × Nat × Nat × Nat)
def es_ (c : cs_) : List (List Nat) := match c with
  | none => []
  | some (v, k, lam, n) => ce_L v k lam n
def vv (c : cs_) : Nat := match c with
  | none => 0
  | some (v, _, _, _) => v
def lv (c : cs_) : Nat := match c with
  | none => 0
  | some (_, _, _, n) => n
def NO : Int32 := Int32.ofInt (-1)
def e_at (c : cs_) (i : Int32) : List Nat := (es_ c).getD i.toNatClampNeg []
def A_level (c : cs_) : Int32 := match c with
  | none => NO
  | some (_, _, _, n) => nI n
def A_entries (c : cs_) : Int32 := nI (es_ c).length
def A_block (c : cs_) (i j : Int32) : Int32 := if (hs i (es_ c).length && hs j (lv c)) = true then nI ((e_at c i).getD j.toNatClampNeg 0) else NO
def A_order (c : cs_) (i : Int32) : Int32 := match c with
  | none => NO
  | some (v, k, lam, n) => if hs i (ce_L v k lam n).length = true then nI (ce_ord v k (e_at c i)) else NO
def A_labelled (c : cs_) : Int32 := match c with
  | none => nI 0
  | some (v, k, lam, n) => nI (ce_U v k lam n).length
def A_together (c : cs_) (i p q : Int32) : Int32 := if (hs i (es_ c).length && (hs p (vv c) && hs q (vv c))) = true then nI (ce_meet (e_at c i) p.toNatClampNeg q.toNatClampNeg) else NO
def A_design (c : cs_) (i : Int32) : Bool := match c with
  | none => false
  | some (v, k, lam, n) => hs i (ce_L v k lam n).length && isd v lam (e_at c i)
def A_designs (c : cs_) : Int32 := match c with
  | none => nI 0
  | some (v, k, lam, n) => nI ((ce_L v k lam n).countP (fun e => isd v lam e))
def A_orbit (c : cs_) (i p : Int32) : Int32 := match c with
  | none => NO
  | some (v, k, lam, n) => if (hs i (ce_L v k lam n).length && hs p v) = true then nI (sp_orb v k (e_at c i) p.toNatClampNeg) else NO
def A_put (c : cs_) (xs : List Nat) (x : Int32) : Int32 := match c with
  | none => Int32.ofInt (-2)
  | some (v, k, _, _) => if isb v k x = true then (if xs.length < 10 then nI (xs.length + 1) else Int32.ofInt (-5)) else Int32.ofInt (-2)
def N_put (c : cs_) (xs : List Nat) (x : Int32) : List Nat := match c with
  | none => xs
  | some (v, k, _, _) => if isb v k x = true ∧ xs.length < 10 then xs ++ [x.toNatClampNeg] else xs
def A_drop (xs : List Nat) (j : Int32) : Bool := hs j xs.length
def N_drop (xs : List Nat) (j : Int32) : List Nat := if hs j xs.length = true then xs.eraseIdx j.toNatClampNeg else xs
def A_swap (c : cs_) (p q : Int32) : Bool := hs p (vv c) && hs q (vv c)
def N_swap (c : cs_) (xs : List Nat) (p q : Int32) : List Nat := if (hs p (vv c) && hs q (vv c)) = true then xs.map (sw p.toNatClampNeg q.toNatClampNeg) else xs
def A_copy (c : cs_) (i : Int32) : Bool := hs i (es_ c).length
def N_copy (c : cs_) (xs : List Nat) (i : Int32) : List Nat := if hs i (es_ c).length = true then e_at c i else xs
def A_hand (xs : List Nat) (j : Int32) : Int32 := if hs j xs.length = true then nI (xs.getD j.toNatClampNeg 0) else NO
def fo_ (v k : Nat) (xs : List Nat) : List Nat := sp_un (fm_K v k) (sp_max v (fm_K v k) xs)
def A_formed (c : cs_) (xs : List Nat) (j : Int32) : Int32 := match c with
  | none => NO
  | some (v, k, _, _) => if hs j xs.length = true then nI ((fo_ v k xs).getD j.toNatClampNeg 0) else NO
def A_symmetries (c : cs_) (xs : List Nat) : Int32 := match c with
  | none => NO
  | some (v, k, _, _) => nI (ce_ord v k xs)
def A_find (c : cs_) (xs : List Nat) : Int32 := match c with
  | none => NO
  | some (v, k, lam, n) => if xs.length = n then fi (fo_ v k xs) (ce_L v k lam n) 0 else NO
def A_grow (c : cs_) : Int32 := match c with
  | none => NO
  | some (v, k, lam, n) => if n < 10 ∧ (ce_L v k lam (n + 1)).length ≤ 60 then nI (ce_L v k lam (n + 1)).length else Int32.ofInt (-5)
def N_grow (c : cs_) : cs_ := match c with
  | none => none
  | some (v, k, lam, n) => if n < 10 ∧ (ce_L v k lam (n + 1)).length ≤ 60 then some (v, k, lam, n + 1) else some (v, k, lam, n)
/-- is a begin taken -/
def okb (x y z : Int32) : Bool := decide (¬ x < nI 3) && (decide (x ≤ nI 6) && (decide (¬ y < nI 2) && (decide (¬ x - nI 1 < y) && (decide (¬ z < nI 1) && decide (z ≤ nI 4)))))
def A_bd (v k lam : Nat) : Int32 := if (lam * (v - 1)) % (k - 1) = 0 ∧ (v * (lam * (v - 1) / (k - 1))) % k = 0 then (if v * (lam * (v - 1) / (k - 1)) / k < v then Int32.ofInt (-4) else nI (v * (lam * (v - 1) / (k - 1)) / k)) else Int32.ofInt (-3)
def A_begin (x y z : Int32) : Int32 := if okb x y z = true then A_bd x.toNatClampNeg y.toNatClampNeg z.toNatClampNeg else Int32.ofInt (-2)
def N_begin (c : cs_) (x y z : Int32) : cs_ := if okb x y z = true then some (x.toNatClampNeg, y.toNatClampNeg, z.toNatClampNeg, 0) else c
def N_beginX (xs : List Nat) (x y z : Int32) : List Nat := if okb x y z = true then [] else xs
/-- how the state is held -/
def XI (c : cs_) (xs : List Nat) (w : ma_W) : Prop := xr w ∧ ro w 10 xs ∧ match c with
  | none => xs = [] ∧ w.1 0 10 = nI 0 ∧ w.1 2 2 = nI 0 ∧ w.1 w.2.1.1 3 = nI 0 ∧ w.1 w.2.1.1 4 = nI 0
  | some (v, k, lam, n) => vk v k ∧ (1 ≤ lam ∧ lam ≤ 4) ∧ w.1 0 10 = nI 1 ∧ w.1 0 7 = nI lam ∧ gr v k w ∧ ls v k w w.2.1.1 n (ce_L v k lam n) ∧ (∀ x ∈ xs, x ∈ fm_K v k) ∧ (∃ b, w.1 0 11 = bI b ∧ (b = true → 60 < (ce_L v k lam (n + 1)).length)) ∧ hf_ v k xs w
theorem XI_c {c : cs_} {xs : List Nat} {w : ma_W} (h : XI c xs w) : zL w.2.1.1 ∧ w.1 w.2.1.1 4 = nI (es_ c).length ∧ w.1 w.2.1.1 3 = nI (lv c) ∧ w.1 2 2 = nI (vv c) ∧ (es_ c).length ≤ 60 ∧ lv c ≤ 10 ∧ vv c ≤ 6 := by
  obtain ⟨h1, h2, h3⟩ := h
  refine ⟨xr_1 h1, ?_⟩
  match c, h3 with
  | none, ⟨_, _, g3, g4, g5⟩ => exact ⟨g5, g4, g3, by decide, by decide, by decide⟩
  | some (v, k, lam, n), ⟨g1, _, _, _, g5, g6, _⟩ => exact ⟨g6.2.2.2.1, g6.2.2.1, g5.1, g6.1, g6.2.1, g1.2.1⟩
/-- the places of the reference are not touched -/
def frX (w w' : ma_W) : Prop := (∀ p, 24 ≤ p → w'.1 p = w.1 p) ∧ ∀ q, 24 ≤ q → w'.2.2 q = w.2.2 q
theorem frX_refl (w : ma_W) : frX w w := ⟨fun _ _ => rfl, fun _ _ => rfl⟩
theorem frX_of {ps qs : List Nat} {w w' : ma_W} (h : fr ps qs w w') (h1 : ∀ p ∈ ps, p < 24) (h2 : ∀ q ∈ qs, q < 24) : frX w w' := ⟨fun p hp => h.2.1 p (fun z => by have := h1 p z; omega), fun q hq => h.2.2 q (fun z => by have := h2 q z; omega)⟩
theorem frX_trans {w w' w'' : ma_W} (h : frX w w') (g : frX w' w'') : frX w w'' := ⟨fun p hp => (g.1 p hp).trans (h.1 p hp), fun q hq => (g.2 q hq).trans (h.2 q hq)⟩
