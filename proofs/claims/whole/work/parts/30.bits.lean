/-! ints of the machine against naturals: masks below 64, points below 6 -/
theorem bi_one : ∀ p, p < 31 → nI 1 <<< (nI p &&& 31) = nI (2 ^ p) := by decide +kernel
theorem bi_two : ∀ p, p < 30 → nI 2 <<< (nI p &&& 31) = nI (2 ^ (p + 1)) := by decide +kernel
theorem bi_bit : ∀ m, m < 64 → ∀ p, p < 7 → (nI m >>> (nI p &&& 31)) &&& nI 1 = nI (if m.testBit p = true then 1 else 0) := by decide +kernel
theorem bi_or : ∀ a, a < 64 → ∀ b, b < 64 → nI a ||| nI b = nI (a ||| b) := by decide +kernel
theorem bi_and : ∀ a, a < 64 → ∀ b, b < 64 → nI a &&& nI b = nI (a &&& b) := by decide +kernel
theorem bi_xor : ∀ a, a < 64 → ∀ b, b < 64 → nI a ^^^ nI b = nI (a ^^^ b) := by decide +kernel
/-- a block holds two points -/
theorem bi_pair : ∀ m, m < 64 → ∀ p, p < 6 → ∀ q, q < 6 → ((m &&& (2 ^ p ||| 2 ^ q) = (2 ^ p ||| 2 ^ q)) ↔ (m.testBit p && m.testBit q) = true) := by decide +kernel
/-- the swap of two points, on v points -/
def bi_tau (v p q : Nat) : List Nat := (List.range v).map (fun x => if x = p then q else if x = q then p else x)
theorem bi_tau3 : ∀ p, p < 3 → ∀ q, q < 3 → (bi_tau 3 p q).isPerm (List.range 3) = true ∧ ∀ m, m < 8 → pm_im (bi_tau 3 p q) m = (if m.testBit p = m.testBit q then m else m ^^^ (2 ^ p ||| 2 ^ q)) := by decide +kernel
theorem bi_tau4 : ∀ p, p < 4 → ∀ q, q < 4 → (bi_tau 4 p q).isPerm (List.range 4) = true ∧ ∀ m, m < 16 → pm_im (bi_tau 4 p q) m = (if m.testBit p = m.testBit q then m else m ^^^ (2 ^ p ||| 2 ^ q)) := by decide +kernel
theorem bi_tau5 : ∀ p, p < 5 → ∀ q, q < 5 → (bi_tau 5 p q).isPerm (List.range 5) = true ∧ ∀ m, m < 32 → pm_im (bi_tau 5 p q) m = (if m.testBit p = m.testBit q then m else m ^^^ (2 ^ p ||| 2 ^ q)) := by decide +kernel
theorem bi_tau6 : ∀ p, p < 6 → ∀ q, q < 6 → (bi_tau 6 p q).isPerm (List.range 6) = true ∧ ∀ m, m < 64 → pm_im (bi_tau 6 p q) m = (if m.testBit p = m.testBit q then m else m ^^^ (2 ^ p ||| 2 ^ q)) := by decide +kernel
/-- the reference's numbering of renamings: by its digits, the points that are left in order -/
def bi_ref : Nat → List Nat → Nat → List Nat
  | 0, _, _ => []
  | n + 1, r, i => r.getD (i % (n + 1)) 0 :: bi_ref n (r.erase (r.getD (i % (n + 1)) 0)) (i / (n + 1))
theorem bi_ref3 : ((List.range 6).map (bi_ref 3 (List.range 3))).isPerm (pm_P 3) = true := by decide +kernel
theorem bi_ref4 : ((List.range 24).map (bi_ref 4 (List.range 4))).isPerm (pm_P 4) = true := by decide +kernel
theorem bi_ref5 : ((List.range 120).map (bi_ref 5 (List.range 5))).isPerm (pm_P 5) = true := by decide +kernel
theorem bi_ref6 : ((List.range 720).map (bi_ref 6 (List.range 6))).isPerm (pm_P 6) = true := by decide +kernel
