/-! WHAT THE CONTRACTS USE -/
theorem bo0 : nI 0 = 0 ∨ nI 0 = 1 := Or.inl nI_0
theorem bo1 : nI 1 = 0 ∨ nI 1 = 1 := Or.inr (by decide +kernel)
/-- a boolean as the machine has it -/
def bI (b : Bool) : Int32 := match b with
  | true => nI 1
  | false => nI 0
theorem bI_bo (b : Bool) : bI b = 0 ∨ bI b = 1 := by
  cases b with
  | true => exact bo1
  | false => exact bo0
theorem bI_t : ¬ bI true = nI 0 := by decide +kernel
theorem bI_ne {b : Bool} {A B : Prop} (f : b = true → A) (g : b = false → B) : (¬ bI b = nI 0 → A) ∧ (¬ (¬ bI b = nI 0) → B) := by
  cases b with
  | true => exact ⟨fun _ => f rfl, fun h => absurd bI_t h⟩
  | false => exact ⟨fun h => absurd rfl h, fun _ => g rfl⟩
theorem bI_eq {b : Bool} {A B : Prop} (f : b = false → A) (g : b = true → B) : (bI b = nI 0 → A) ∧ (¬ (bI b = nI 0) → B) := by
  cases b with
  | true => exact ⟨fun h => absurd h bI_t, fun _ => g rfl⟩
  | false => exact ⟨fun _ => f rfl, fun h => absurd rfl h⟩
theorem bI_at {x : Int32} {b : Bool} {A B : Prop} (hx : x = bI b) (f : b = false → A) (g : b = true → B) : (x = nI 0 → A) ∧ (¬ (x = nI 0) → B) := by
  rw [hx]
  exact bI_eq f g
theorem bI_an {x : Int32} {b : Bool} {A B : Prop} (hx : x = bI b) (f : b = true → A) (g : b = false → B) : (¬ x = nI 0 → A) ∧ (¬ (¬ x = nI 0) → B) := by
  rw [hx]
  exact bI_ne f g
theorem pn_ne {x y : Int32} {A B : Prop} (a b : Nat) (f : a ≠ b → A) (g : a = b → B) (hx : x = nI a := by rfl) (hy : y = nI b := by rfl) (ha : a < 2 ^ 31 := by omega) (hb : b < 2 ^ 31 := by omega) : (¬ x = y → A) ∧ (¬ (¬ x = y) → B) := by
  subst hx hy
  rw [nI_eq ha hb]
  exact ⟨f, fun z => g (Decidable.not_not.mp z)⟩
/-- an int that is an index below n -/
def hs (x : Int32) (n : Nat) : Bool := decide (¬ x < nI 0) && decide (x < nI n)
theorem hs_t {x : Int32} {n : Nat} (hn : n < 2 ^ 31) (h : hs x n = true) : ∃ j, j < n ∧ x = nI j := by
  simp only [hs, Bool.and_eq_true, decide_eq_true_eq] at h
  rw [nI_0] at h
  obtain ⟨j, hj, rfl⟩ := nI_of h.1
  exact ⟨j, (nI_ltI hj hn).mp h.2, rfl⟩
theorem hs_j {j n : Nat} (h : j < n) (hn : n < 2 ^ 31) : hs (nI j) n = true := by
  simp only [hs, Bool.and_eq_true, decide_eq_true_eq]
  rw [nI_0]
  exact ⟨nI_pos (by omega), nI_lt h hn⟩
theorem hs_nj {j n : Nat} (h : n ≤ j) (hn : j < 2 ^ 31) : hs (nI j) n = false := by
  have : ¬ nI j < nI n := nI_nlt h hn
  simp [hs, this]
theorem hs_f1 {x : Int32} {n : Nat} (h : x < nI 0) : hs x n = false := by simp [hs, h]
theorem hs_f2 {x : Int32} {n : Nat} (h : nI n ≤ x) : hs x n = false := by
  have : ¬ x < nI n := Int32.not_lt.mpr h
  simp [hs, this]
theorem hs_t2 {x : Int32} {n : Nat} (h1 : ¬ x < nI 0) (h2 : ¬ nI n ≤ x) : hs x n = true := by
  have : x < nI n := Int32.not_le.mp h2
  simp [hs, h1, this]
/-- the branches of 'has' -/
theorem hs_br {x y : Int32} {n : Nat} {A B : Prop} (hy : y = nI n) (f : hs x n = false → A) (g : hs x n = true → B) : (x < nI 0 → A) ∧ (¬ (x < nI 0) → (y ≤ x → A) ∧ (¬ (y ≤ x) → B)) := by
  subst hy
  exact ⟨fun h => f (hs_f1 h), fun h1 => ⟨fun h => f (hs_f2 h), fun h => g (hs_t2 h1 h)⟩⟩
/-! frames: only these objects' fields, these arrays change -/
def fr (ps qs : List Nat) (w w' : ma_W) : Prop := w'.2.1 = w.2.1 ∧ (∀ p, p ∉ ps → w'.1 p = w.1 p) ∧ ∀ q, q ∉ qs → w'.2.2 q = w.2.2 q
theorem fr_refl (ps qs : List Nat) (w : ma_W) : fr ps qs w w := ⟨rfl, fun _ _ => rfl, fun _ _ => rfl⟩
theorem fr_trans {ps qs : List Nat} {w w' w'' : ma_W} (h : fr ps qs w w') (g : fr ps qs w' w'') : fr ps qs w w'' := ⟨g.1.trans h.1, fun p hp => (g.2.1 p hp).trans (h.2.1 p hp), fun q hq => (g.2.2 q hq).trans (h.2.2 q hq)⟩
theorem fr_mono {ps qs ps' qs' : List Nat} {w w' : ma_W} (h : fr ps qs w w') (hp : ∀ p, p ∈ ps → p ∈ ps') (hq : ∀ q, q ∈ qs → q ∈ qs') : fr ps' qs' w w' := ⟨h.1, fun p h1 => h.2.1 p (fun z => h1 (hp p z)), fun q h1 => h.2.2 q (fun z => h1 (hq q z))⟩
theorem fr_f {ps qs : List Nat} {w w' : ma_W} (h : fr ps qs w w') {p : Nat} (hp : p ∈ ps) (k : Nat) (x : Int32) : fr ps qs w (ma_up w'.1 p k x, w'.2.1, w'.2.2) := ⟨h.1, fun q hq => by
  show ma_up w'.1 p k x q = w.1 q
  rw [ma_up_q _ _ _ (fun e => hq (by rw [e]; exact hp))]
  exact h.2.1 q hq, h.2.2⟩
theorem fr_a {ps qs : List Nat} {w w' : ma_W} (h : fr ps qs w w') {p : Nat} (hp : p ∈ qs) (k : Nat) (x : Int32) : fr ps qs w (w'.1, w'.2.1, ma_up w'.2.2 p k x) := ⟨h.1, h.2.1, fun q hq => by
  show ma_up w'.2.2 p k x q = w.2.2 q
  rw [ma_up_q _ _ _ (fun e => hq (by rw [e]; exact hp))]
  exact h.2.2 q hq⟩
theorem nm1 {a x : Nat} (h : x ≠ a) : x ∉ [a] := fun z => h (List.mem_singleton.mp z)
theorem nm2 {a b x : Nat} (h : x ≠ a) (h2 : x ≠ b) : x ∉ [a, b] := fun z => (List.mem_cons.mp z).elim h (nm1 h2)
theorem nm3 {a b c x : Nat} (h : x ≠ a) (h2 : x ≠ b) (h3 : x ≠ c) : x ∉ [a, b, c] := fun z => (List.mem_cons.mp z).elim h (nm2 h2 h3)
/-! rows and listings by place -/
def zR (p : Nat) : Prop := p = 10 ∨ p = 12 ∨ p = 14
theorem zR_s {p : Nat} (h : zR p) : zc_sh p = .inl 3 := by rcases h with rfl | rfl | rfl <;> rfl
theorem zR_m {p : Nat} (h : zR p) {r : Nat × Nat} : zr r p 0 = p + 1 := by rcases h with rfl | rfl | rfl <;> rfl
theorem zR_a {p : Nat} (h : zR p) : zc_sh (p + 1) = .inr 10 := by rcases h with rfl | rfl | rfl <;> rfl
def zL (p : Nat) : Prop := p = 16 ∨ p = 20
theorem zL_s {p : Nat} (h : zL p) : zc_sh p = .inl 4 := by rcases h with rfl | rfl <;> rfl
theorem zL_m1 {p : Nat} (h : zL p) {r : Nat × Nat} : zr r p 0 = p + 1 := by rcases h with rfl | rfl <;> rfl
theorem zL_m2 {p : Nat} (h : zL p) {r : Nat × Nat} : zr r p 1 = p + 2 := by rcases h with rfl | rfl <;> rfl
theorem zL_m3 {p : Nat} (h : zL p) {r : Nat × Nat} : zr r p 2 = p + 3 := by rcases h with rfl | rfl <;> rfl
theorem zL_a1 {p : Nat} (h : zL p) : zc_sh (p + 1) = .inr 600 := by rcases h with rfl | rfl <;> rfl
theorem zL_a2 {p : Nat} (h : zL p) : zc_sh (p + 2) = .inr 60 := by rcases h with rfl | rfl <;> rfl
theorem zL_a3 {p : Nat} (h : zL p) : zc_sh (p + 3) = .inr 360 := by rcases h with rfl | rfl <;> rfl
/-- a row holds the masks xs -/
def ro (w : ma_W) (p : Nat) (xs : List Nat) : Prop := xs.length ≤ 10 ∧ w.1 p 1 = nI xs.length ∧ ∀ j, j < xs.length → w.2.2 (p + 1) j = nI (xs.getD j 0)
theorem ro_fr {ps qs : List Nat} {w w' : ma_W} {p : Nat} {xs : List Nat} (h : ro w p xs) (hf : fr ps qs w w') (h1 : p ∉ ps) (h2 : p + 1 ∉ qs) : ro w' p xs := ⟨h.1, by rw [hf.2.1 p h1]; exact h.2.1, fun j hj => by rw [hf.2.2 _ h2]; exact h.2.2 j hj⟩
theorem ro_nil {w : ma_W} {p : Nat} : ro (ma_up w.1 p 1 (nI 0), w.2.1, w.2.2) p [] := ⟨by decide, ma_up_s _ _ _ _, fun j hj => absurd hj (Nat.not_lt_zero j)⟩
theorem gd_app_l {xs ys : List Nat} {j : Nat} (h : j < xs.length) : (xs ++ ys).getD j 0 = xs.getD j 0 := by
  rw [List.getD_eq_getElem?_getD, List.getD_eq_getElem?_getD, List.getElem?_append_left h]
theorem gd_app_r {xs : List Nat} {m : Nat} : (xs ++ [m]).getD xs.length 0 = m := by
  rw [List.getD_eq_getElem?_getD, List.getElem?_append_right (Nat.le_refl _), Nat.sub_self]
  rfl
theorem ro_add {w : ma_W} {p m : Nat} {xs : List Nat} (h : ro w p xs) (hl : xs.length < 10) : ro (ma_up w.1 p 1 (nI (xs.length + 1)), w.2.1, ma_up w.2.2 (p + 1) xs.length (nI m)) p (xs ++ [m]) := by
  refine ⟨by rw [List.length_append, List.length_singleton]; omega, ?_, fun j hj => ?_⟩
  · show ma_up w.1 p 1 (nI (xs.length + 1)) p 1 = _
    rw [ma_up_s, List.length_append]
    rfl
  · show ma_up w.2.2 (p + 1) xs.length (nI m) (p + 1) j = _
    by_cases hjl : j = xs.length
    · subst hjl
      rw [ma_up_s, gd_app_r]
    · have hj2 : j < xs.length := by
        rw [List.length_append] at hj
        simp only [List.length_singleton] at hj
        omega
      rw [ma_up_k _ _ _ _ hjl, gd_app_l hj2]
      exact h.2.2 j hj2
