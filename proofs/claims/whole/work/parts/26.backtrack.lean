/-! THE REFERENCE'S COUNT OF ALL PACKINGS: by going back and forth; how many steps it takes -/
section LB
variable {v k lam : Nat}
/-- g: what comes of e with one more block b, and the kinds from b on -/
def lb_in (v lam : Nat) (c : Nat → Nat) (g : List Nat → List Nat → Nat) (e : List Nat) : List Nat → Nat
  | [] => c 0
  | b :: ks => c 1 + (if ce_pk v lam (e ++ [b]) = true then g (e ++ [b]) (b :: ks) else 0) + lb_in v lam c g e ks
/-- how many packings begin with e and go on with j more of the kinds ks, not falling -/
def lb_C (v lam : Nat) : Nat → List Nat → List Nat → Nat
  | 0, _, _ => 1
  | j + 1, e, ks => lb_in v lam (fun _ => 0) (lb_C v lam j) e ks
/-- how many steps it takes until the place behind e is left -/
def lb_S (v lam : Nat) : Nat → List Nat → List Nat → Nat
  | 0, _, _ => 0
  | j + 1, e, ks => lb_in v lam (fun _ => 1) (lb_S v lam j) e ks
/-- how many places are come to -/
def lb_N (v lam : Nat) : Nat → List Nat → List Nat → Nat
  | 0, _, _ => 0
  | j + 1, e, ks => 1 + lb_in v lam (fun _ => 0) (lb_N v lam j) e ks
theorem lb_S_le (M : Nat) : ∀ (j : Nat) (e ks : List Nat), ks.length ≤ M → lb_S v lam j e ks ≤ (M + 1) * lb_N v lam j e ks
  | 0, e, ks, _ => by simp [lb_S]
  | j + 1, e, ks, h => by
    have key : ∀ ks : List Nat, ks.length ≤ M → lb_in v lam (fun _ => 1) (lb_S v lam j) e ks ≤ (ks.length + 1) + (M + 1) * lb_in v lam (fun _ => 0) (lb_N v lam j) e ks := by
      intro ks
      induction ks with
      | nil => intro _; simp [lb_in]
      | cons b ks ih =>
        intro hl
        have h1 := ih (by simp at hl; omega)
        have h2 := lb_S_le M j (e ++ [b]) (b :: ks) hl
        simp only [lb_in]
        split
        · rw [Nat.zero_add, Nat.mul_add, List.length_cons]
          omega
        · simp only [Nat.zero_add, Nat.add_zero, List.length_cons]
          omega
    have := key ks h
    simp only [lb_S, lb_N]
    rw [Nat.mul_add, Nat.mul_one]
    omega
/-- the kinds that may come behind e -/
def lb_K (K e : List Nat) : List Nat := K.dropWhile (fun b => decide (b < ce_last e))
theorem lb_drop {K : List Nat} (hK : K.Pairwise (· < ·)) {a : Nat} : ∀ b, b ∈ K.dropWhile (fun b => decide (b < a)) ↔ b ∈ K ∧ a ≤ b := by
  induction K with
  | nil => intro b; simp
  | cons c K ih =>
    intro b
    have hc := List.pairwise_cons.mp hK
    by_cases h : c < a
    · rw [List.dropWhile_cons_of_pos (by simpa using h), ih hc.2 b, List.mem_cons]
      constructor
      · rintro ⟨h1, h2⟩; exact ⟨Or.inr h1, h2⟩
      · rintro ⟨rfl | h1, h2⟩
        · omega
        · exact ⟨h1, h2⟩
    · rw [List.dropWhile_cons_of_neg (by simpa using h), List.mem_cons]
      constructor
      · rintro (rfl | h1)
        · exact ⟨Or.inl rfl, by omega⟩
        · have := hc.1 b h1
          exact ⟨Or.inr h1, by omega⟩
      · exact fun h1 => h1.1
/-- the sum over what may come next: for kinds in order, the kinds from b on are those not below b -/
theorem lb_in_sum {K : List Nat} (hK : K.Pairwise (· < ·)) (g : List Nat → List Nat → Nat) (e : List Nat) : ∀ a : Nat, lb_in v lam (fun _ => 0) g e (K.dropWhile (fun b => decide (b < a))) = (((K.filter (fun b => decide (a ≤ b) && ce_pk v lam (e ++ [b])))).map (fun b => g (e ++ [b]) (K.dropWhile (fun c => decide (c < b))))).sum := by
  intro a
  -- over a suffix of K
  have key : ∀ (ks : List Nat), ks.Pairwise (· < ·) → lb_in v lam (fun _ => 0) g e ks = ((ks.filter (fun b => ce_pk v lam (e ++ [b]))).map (fun b => g (e ++ [b]) (ks.dropWhile (fun c => decide (c < b))))).sum := by
    intro ks
    induction ks with
    | nil => intro _; simp [lb_in]
    | cons b ks ih =>
      intro hs
      have hc := List.pairwise_cons.mp hs
      have e1 : ∀ d ∈ ks.filter (fun b => ce_pk v lam (e ++ [b])), g (e ++ [d]) ((b :: ks).dropWhile (fun c => decide (c < d))) = g (e ++ [d]) (ks.dropWhile (fun c => decide (c < d))) := by
        intro d hd
        have hbd := hc.1 d (List.mem_filter.mp hd).1
        rw [List.dropWhile_cons_of_pos (by simpa using hbd)]
      simp only [lb_in, Nat.zero_add]
      rw [ih hc.2]
      by_cases hp : ce_pk v lam (e ++ [b]) = true
      · rw [if_pos hp, List.filter_cons_of_pos (p := fun b => ce_pk v lam (e ++ [b])) hp, List.map_cons, List.sum_cons, List.dropWhile_cons_of_neg (by simp), List.map_congr_left e1]
      · rw [if_neg hp, List.filter_cons_of_neg (p := fun b => ce_pk v lam (e ++ [b])) hp, List.map_congr_left e1, Nat.zero_add]
  induction K with
  | nil => simp [lb_in]
  | cons c K ih =>
    have hc := List.pairwise_cons.mp hK
    by_cases h : c < a
    · rw [List.dropWhile_cons_of_pos (by simpa using h), ih hc.2, List.filter_cons_of_neg (by simp; intro q; omega)]
      congr 1
      refine List.map_congr_left (fun d hd => ?_)
      have hd2 := (List.mem_filter.mp hd)
      have : c < d := hc.1 d hd2.1
      rw [List.dropWhile_cons_of_pos (by simpa using this)]
    · rw [List.dropWhile_cons_of_neg (by simpa using h), key _ hK]
      congr 1
      have hf : (c :: K).filter (fun b => decide (a ≤ b) && ce_pk v lam (e ++ [b])) = (c :: K).filter (fun b => ce_pk v lam (e ++ [b])) := by
        refine List.filter_congr (fun d hd => ?_)
        have : a ≤ d := by
          rcases List.mem_cons.mp hd with rfl | h2
          · omega
          · have := hc.1 d h2; omega
        simp [this]
      rw [hf]
theorem lb_flat {α β : Type} (l : List α) (f : α → List β) (g : β → Nat) : ((l.flatMap f).map g).sum = (l.map (fun a => ((f a).map g).sum)).sum := by
  induction l with
  | nil => rfl
  | cons a l ih => rw [List.flatMap_cons, List.map_append, List.sum_append_nat, ih, List.map_cons, List.sum_cons]
theorem lb_last (e : List Nat) (b : Nat) : ce_last (e ++ [b]) = b := by simp [ce_last]
/-- the count is that of all packings -/
theorem lb_count : ∀ (j d : Nat), ((ce_U v k lam d).map (fun e => lb_C v lam j e (lb_K (fm_K v k) e))).sum = (ce_U v k lam (d + j)).length
  | 0, d => by
    simp only [lb_C]
    rw [ct_const _ _ 1 (fun _ _ => rfl), Nat.mul_one, Nat.add_zero]
  | j + 1, d => by
    have h := lb_count j (d + 1)
    rw [show d + (j + 1) = d + 1 + j by omega, ← h]
    simp only [ce_U]
    rw [lb_flat]
    congr 1
    refine List.map_congr_left (fun e _ => ?_)
    simp only [lb_C, lb_K]
    rw [lb_in_sum fm_K_sorted, List.map_map]
    unfold ce_ext
    congr 1
    refine List.map_congr_left (fun b _ => ?_)
    simp only [Function.comp_apply, lb_last]
theorem lb_root {n : Nat} : lb_C v lam n [] (fm_K v k) = (ce_U v k lam n).length := by
  have h := lb_count (v := v) (k := k) (lam := lam) n 0
  simp only [ce_U, List.map_cons, List.map_nil, List.sum_cons, List.sum_nil, Nat.add_zero, Nat.zero_add] at h
  rw [← h]
  congr 1
  have : ce_last [] = 0 := rfl
  unfold lb_K
  rw [this]
  cases fm_K v k with
  | nil => rfl
  | cons b l => rw [List.dropWhile_cons_of_neg (by simp)]
end LB
