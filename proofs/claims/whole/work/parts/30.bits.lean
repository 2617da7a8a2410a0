/-! ints of the machine against naturals: masks below 64, points below 6 -/
theorem bi_one : ∀ p, p < 31 → nI 1 <<< (nI p &&& 31) = nI (2 ^ p) := by decide +kernel
theorem bi_two : ∀ p, p < 30 → nI 2 <<< (nI p &&& 31) = nI (2 ^ (p + 1)) := by decide +kernel
theorem bi_bit : ∀ m, m < 64 → ∀ p, p < 7 → (nI m >>> (nI p &&& 31)) &&& nI 1 = nI (if m.testBit p = true then 1 else 0) := by decide +kernel
theorem bi_or : ∀ a, a < 64 → ∀ b, b < 64 → nI a ||| nI b = nI (a ||| b) := by decide +kernel
theorem bi_and : ∀ a, a < 64 → ∀ b, b < 64 → nI a &&& nI b = nI (a &&& b) := by decide +kernel
theorem bi_xor : ∀ a, a < 64 → ∀ b, b < 64 → nI a ^^^ nI b = nI (a ^^^ b) := by decide +kernel
/-- a block holds two points -/
theorem bi_pair : ∀ m, m < 64 → ∀ p, p < 6 → ∀ q, q < 6 → ((m &&& (2 ^ p ||| 2 ^ q) = (2 ^ p ||| 2 ^ q)) ↔ (m.testBit p && m.testBit q) = true) := by decide +kernel
/-- the swap of two points, on v points -/
def bi_tau (v p q : Nat) : List Nat := (List.range v).map (fun x => if x = p then q else if x = q then p else x)
theorem bi_tau3 : ∀ p, p < 3 → ∀ q, q < 3 → (bi_tau 3 p q).isPerm (List.range 3) = true ∧ ∀ m, m < 8 → pm_im (bi_tau 3 p q) m = (if m.testBit p = m.testBit q then m else m ^^^ (2 ^ p ||| 2 ^ q)) := by decide +kernel
theorem bi_tau4 : ∀ p, p < 4 → ∀ q, q < 4 → (bi_tau 4 p q).isPerm (List.range 4) = true ∧ ∀ m, m < 16 → pm_im (bi_tau 4 p q) m = (if m.testBit p = m.testBit q then m else m ^^^ (2 ^ p ||| 2 ^ q)) := by decide +kernel
theorem bi_tau5 : ∀ p, p < 5 → ∀ q, q < 5 → (bi_tau 5 p q).isPerm (List.range 5) = true ∧ ∀ m, m < 32 → pm_im (bi_tau 5 p q) m = (if m.testBit p = m.testBit q then m else m ^^^ (2 ^ p ||| 2 ^ q)) := by decide +kernel
theorem bi_tau6 : ∀ p, p < 6 → ∀ q, q < 6 → (bi_tau 6 p q).isPerm (List.range 6) = true ∧ ∀ m, m < 64 → pm_im (bi_tau 6 p q) m = (if m.testBit p = m.testBit q then m else m ^^^ (2 ^ p ||| 2 ^ q)) := by decide +kernel
/-- the reference's numbering of renamings: by its digits, the points that are left in order -/
def bi_ref : Nat → List Nat → Nat → List Nat
  | 0, _, _ => []
  | n + 1, r, i => r.getD (i % (n + 1)) 0 :: bi_ref n (r.erase (r.getD (i % (n + 1)) 0)) (i / (n + 1))
/-- and back: the number of a renaming -/
def bi_rk : List Nat → List Nat → Nat
  | _, [] => 0
  | r, q :: s => r.idxOf q + r.length * bi_rk (r.erase q) s
theorem bi_refP {v N : Nat} (h1 : ((List.range N).all (fun i => (bi_ref v (List.range v) i).isPerm (List.range v) && bi_rk (List.range v) (bi_ref v (List.range v) i) == i)) = true) (h2 : ((pm_P v).all (fun s => decide (bi_rk (List.range v) s < N) && bi_ref v (List.range v) (bi_rk (List.range v) s) == s)) = true) : ((List.range N).map (bi_ref v (List.range v))).Perm (pm_P v) := by
  simp only [List.all_eq_true, Bool.and_eq_true, beq_iff_eq, decide_eq_true_eq, List.mem_range] at h1 h2
  refine (List.perm_ext_iff_of_nodup ?_ (pm_P_nodup v)).mpr (fun s => ?_)
  · unfold List.Nodup
    rw [List.pairwise_map]
    refine List.Pairwise.imp_of_mem (fun {a b} ha hb hab e => hab ?_) (List.nodup_range (n := N))
    rw [← (h1 a (List.mem_range.mp ha)).2, e, (h1 b (List.mem_range.mp hb)).2]
  · constructor
    · intro h
      obtain ⟨i, hi, rfl⟩ := List.mem_map.mp h
      exact pm_P_mem.mpr (List.isPerm_iff.mp (h1 i (List.mem_range.mp hi)).1)
    · intro h
      obtain ⟨h3, h4⟩ := h2 s h
      exact List.mem_map.mpr ⟨bi_rk (List.range v) s, List.mem_range.mpr h3, h4⟩
theorem bi_ref3 : ((List.range 6).map (bi_ref 3 (List.range 3))).Perm (pm_P 3) := bi_refP (by decide +kernel) (by decide +kernel)
theorem bi_ref4 : ((List.range 24).map (bi_ref 4 (List.range 4))).Perm (pm_P 4) := bi_refP (by decide +kernel) (by decide +kernel)
theorem bi_ref5 : ((List.range 120).map (bi_ref 5 (List.range 5))).Perm (pm_P 5) := bi_refP (by decide +kernel) (by decide +kernel)
theorem bi_ref6 : ((List.range 720).map (bi_ref 6 (List.range 6))).Perm (pm_P 6) := bi_refP (by decide +kernel) (by decide +kernel)
