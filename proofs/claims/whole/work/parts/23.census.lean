/-! LAYINGS as lists of masks; the lists of a census; all packings -/
def ce_row (K xs s : List Nat) : List Int := fm_row K (fun m => xs.count m) s
def ce_isf (v : Nat) (K xs : List Nat) : Bool := (pm_P v).all (fun t => !lx_gt (ce_row K xs t) (ce_row K xs (List.range v)))
def ce_meet (xs : List Nat) (p q : Nat) : Nat := xs.countP (fun m => m.testBit p && m.testBit q)
def ce_pk (v lam : Nat) (xs : List Nat) : Bool := (List.range v).all (fun p => (List.range v).all (fun q => decide (p < q → ce_meet xs p q ≤ lam)))
def ce_last (e : List Nat) : Nat := e.getLast?.getD 0
def ce_next (v lam : Nat) (K : List Nat) (L : List (List Nat)) : List (List Nat) := L.flatMap (fun e => (K.filter (fun b => decide (ce_last e ≤ b) && (ce_pk v lam (e ++ [b]) && ce_isf v K (e ++ [b])))).map (fun b => e ++ [b]))
def ce_L (v k lam : Nat) : Nat → List (List Nat)
  | 0 => [[]]
  | n + 1 => ce_next v lam (fm_K v k) (ce_L v k lam n)
def ce_ext (v lam : Nat) (K e : List Nat) : List Nat := K.filter (fun b => decide (ce_last e ≤ b) && ce_pk v lam (e ++ [b]))
def ce_U (v k lam : Nat) : Nat → List (List Nat)
  | 0 => [[]]
  | n + 1 => (ce_U v k lam n).flatMap (fun e => (ce_ext v lam (fm_K v k) e).map (fun b => e ++ [b]))
theorem ce_pk_iff {v lam : Nat} {xs : List Nat} : ce_pk v lam xs = true ↔ ∀ p q, p < q → q < v → ce_meet xs p q ≤ lam := by
  simp only [ce_pk, List.all_eq_true, List.mem_range, decide_eq_true_eq]
  constructor
  · intro h p q hpq hq
    exact h p (by omega) q hq hpq
  · intro h p _ q hq hpq
    exact h p q hpq hq
theorem ce_pk_init {v lam : Nat} {e : List Nat} {b : Nat} (h : ce_pk v lam (e ++ [b]) = true) : ce_pk v lam e = true := by
  rw [ce_pk_iff] at h ⊢
  intro p q hpq hq
  have := h p q hpq hq
  unfold ce_meet at this ⊢
  rw [List.countP_append] at this
  omega
theorem ce_last_le {e : List Nat} (hs : e.Pairwise (· ≤ ·)) {a : Nat} (ha : a ∈ e) : a ≤ ce_last e := by
  rcases List.eq_nil_or_concat e with rfl | ⟨l, b, rfl⟩
  · cases ha
  · rw [List.concat_eq_append] at hs ha ⊢
    have hl : ce_last (l ++ [b]) = b := by simp [ce_last]
    rw [hl]
    rcases List.mem_append.mp ha with h | h
    · exact (List.pairwise_append.mp hs).2.2 a h b List.mem_cons_self
    · rw [List.mem_singleton.mp h]; exact Nat.le_refl _
theorem ce_U_mem {v k lam : Nat} : ∀ (n : Nat) (x : List Nat), x ∈ ce_U v k lam n ↔ x.length = n ∧ x.Pairwise (· ≤ ·) ∧ (∀ m ∈ x, m ∈ fm_K v k) ∧ ce_pk v lam x = true
  | 0, x => by
    simp only [ce_U, List.mem_singleton]
    constructor
    · rintro rfl
      refine ⟨rfl, List.Pairwise.nil, fun m h => (by cases h), ?_⟩
      rw [ce_pk_iff]
      intro p q _ _
      simp [ce_meet]
    · rintro ⟨h, -⟩
      exact List.eq_nil_of_length_eq_zero h
  | n + 1, x => by
    simp only [ce_U, List.mem_flatMap, List.mem_map, ce_ext, List.mem_filter, Bool.and_eq_true, decide_eq_true_eq]
    constructor
    · rintro ⟨e, he, b, ⟨hb, hlast, hpk⟩, rfl⟩
      obtain ⟨h1, h2, h3, h4⟩ := (ce_U_mem n e).mp he
      refine ⟨by simp [h1], List.pairwise_append.mpr ⟨h2, by simp, fun a ha c hc => ?_⟩, fun m hm => ?_, hpk⟩
      · rw [List.mem_singleton.mp hc]
        exact Nat.le_trans (ce_last_le h2 ha) hlast
      · rcases List.mem_append.mp hm with h | h
        · exact h3 m h
        · rw [List.mem_singleton.mp h]; exact hb
    · rintro ⟨h1, h2, h3, h4⟩
      rcases List.eq_nil_or_concat x with rfl | ⟨e, b, rfl⟩
      · cases h1
      · rw [List.concat_eq_append] at h1 h2 h3 h4 ⊢
        have hp := List.pairwise_append.mp h2
        refine ⟨e, (ce_U_mem n e).mpr ⟨by simpa using h1, hp.1, fun m hm => h3 m (List.mem_append_left _ hm), ce_pk_init h4⟩, b, ⟨h3 b (by simp), ?_, h4⟩, rfl⟩
        unfold ce_last
        cases hl : e.getLast? with
        | none => exact Nat.zero_le _
        | some c => exact hp.2.2 c (List.mem_of_getLast? hl) b List.mem_cons_self
theorem fm_K_nodup (v k : Nat) : (fm_K v k).Nodup := List.Pairwise.filter _ List.nodup_range
theorem ce_U_nodup {v k lam : Nat} : ∀ n, (ce_U v k lam n).Nodup
  | 0 => by simp [ce_U]
  | n + 1 => by
    unfold List.Nodup
    simp only [ce_U]
    rw [List.pairwise_flatMap]
    refine ⟨fun e _ => ?_, ?_⟩
    · rw [List.pairwise_map]
      refine List.Pairwise.imp (fun {a b} hab q => hab ?_) (List.Pairwise.filter _ (fm_K_nodup v k))
      simpa using q
    · refine List.Pairwise.imp (fun {a b} hab x hx y hy q => hab ?_) (ce_U_nodup n)
      obtain ⟨_, _, rfl⟩ := List.mem_map.mp hx
      obtain ⟨_, _, rfl⟩ := List.mem_map.mp hy
      exact (List.append_inj' q rfl).1
theorem ce_sub {v k lam : Nat} : ∀ (n : Nat) (x : List Nat), x ∈ ce_L v k lam n → x ∈ ce_U v k lam n
  | 0, x, h => h
  | n + 1, x, h => by
    simp only [ce_L, ce_next, List.mem_flatMap, List.mem_map, List.mem_filter, Bool.and_eq_true, decide_eq_true_eq] at h
    obtain ⟨e, he, b, ⟨hb, h1, h2, -⟩, rfl⟩ := h
    simp only [ce_U, List.mem_flatMap, List.mem_map, ce_ext, List.mem_filter, Bool.and_eq_true, decide_eq_true_eq]
    exact ⟨e, ce_sub n e he, b, ⟨hb, h1, h2⟩, rfl⟩
theorem ce_L_nodup {v k lam : Nat} : ∀ n, (ce_L v k lam n).Nodup
  | 0 => by simp [ce_L]
  | n + 1 => by
    unfold List.Nodup
    simp only [ce_L, ce_next]
    rw [List.pairwise_flatMap]
    refine ⟨fun e _ => ?_, ?_⟩
    · rw [List.pairwise_map]
      refine List.Pairwise.imp (fun {a b} hab q => hab ?_) (List.Pairwise.filter _ (fm_K_nodup v k))
      simpa using q
    · refine List.Pairwise.imp (fun {a b} hab x hx y hy q => hab ?_) (ce_L_nodup n)
      obtain ⟨_, _, rfl⟩ := List.mem_map.mp hx
      obtain ⟨_, _, rfl⟩ := List.mem_map.mp hy
      exact (List.append_inj' q rfl).1
/-! a laying behind a renaming, as a sorted list -/
def ce_act (t xs : List Nat) : List Nat := (xs.map (pm_im t)).mergeSort (fun a b => decide (a ≤ b))
theorem ce_act_perm (t xs : List Nat) : (ce_act t xs).Perm (xs.map (pm_im t)) := List.mergeSort_perm _ _
theorem ce_act_sorted (t xs : List Nat) : (ce_act t xs).Pairwise (· ≤ ·) := by
  have := List.pairwise_mergeSort (le := fun a b => decide (a ≤ b)) (fun a b c h1 h2 => by simp at h1 h2 ⊢; omega) (fun a b => by simp; omega) (xs.map (pm_im t))
  exact List.Pairwise.imp (fun h => by simpa using h) this
theorem ce_count_map {v : Nat} {t : List Nat} (ht : t.Perm (List.range v)) {m : Nat} (hm : m < 2 ^ v) : ∀ (xs : List Nat), (∀ x ∈ xs, x < 2 ^ v) → (xs.map (pm_im t)).count m = xs.count (pm_im (pm_i v t) m)
  | [], _ => rfl
  | x :: xs, h => by
    rw [List.map_cons, List.count_cons, List.count_cons, ce_count_map ht hm xs (fun y hy => h y (List.mem_cons_of_mem _ hy))]
    have hx := h x List.mem_cons_self
    have : (pm_im t x == m) = (x == pm_im (pm_i v t) m) := by
      rw [Bool.eq_iff_iff, beq_iff_eq, beq_iff_eq]
      constructor
      · rintro rfl; exact (pm_im_inv ht hx).symm
      · rintro rfl; exact pm_im_inv2 ht hm
    rw [this]
/-- its row: the renaming the other way first -/
theorem ce_act_row {v k : Nat} {t s : List Nat} (ht : t.Perm (List.range v)) (hs : s.Perm (List.range v)) {xs : List Nat} (hx : ∀ x ∈ xs, x < 2 ^ v) : ce_row (fm_K v k) (ce_act t xs) s = ce_row (fm_K v k) xs (pm_o (pm_i v t) s) := by
  unfold ce_row
  rw [fm_row_eq]
  intro b hb
  rw [(ce_act_perm t xs).count_eq, ce_count_map ht (pm_im_lt hs b) xs hx, pm_im_o (pm_i_perm ht) hs]
theorem ce_meet_act {v : Nat} {t : List Nat} (ht : t.Perm (List.range v)) (xs : List Nat) {p q : Nat} (hp : p < v) (hq : q < v) : ce_meet (ce_act t xs) (t.getD p 0) (t.getD q 0) = ce_meet xs p q := by
  unfold ce_meet
  rw [(ce_act_perm t xs).countP_eq, List.countP_map]
  apply List.countP_congr
  intro m _
  simp only [Function.comp_apply, pm_bit_at ht m hp, pm_bit_at ht m hq]
theorem ce_meet_comm (xs : List Nat) (p q : Nat) : ce_meet xs p q = ce_meet xs q p := by
  unfold ce_meet
  apply List.countP_congr
  intro m _
  rw [Bool.and_comm]
theorem ce_U_act {v k lam n : Nat} {t x : List Nat} (ht : t.Perm (List.range v)) (h : x ∈ ce_U v k lam n) : ce_act t x ∈ ce_U v k lam n := by
  obtain ⟨h1, h2, h3, h4⟩ := (ce_U_mem n x).mp h
  refine (ce_U_mem n _).mpr ⟨by rw [(ce_act_perm t x).length_eq, List.length_map]; exact h1, ce_act_sorted t x, fun m hm => ?_, ?_⟩
  · obtain ⟨y, hy, rfl⟩ := List.mem_map.mp ((ce_act_perm t x).mem_iff.mp hm)
    exact fm_K_im ht (h3 y hy)
  · rw [ce_pk_iff] at h4 ⊢
    intro p q hpq hq
    obtain ⟨a, ha, rfl⟩ := pm_sur ht (show p < v by omega)
    obtain ⟨b, hb, rfl⟩ := pm_sur ht hq
    rw [ce_meet_act ht x ha hb]
    rcases Nat.lt_trichotomy a b with h | h | h
    · exact h4 a b h hb
    · subst h; omega
    · rw [ce_meet_comm]; exact h4 b a h ha
/-- two sorted layings with one row are one -/
theorem ce_inj {v k lam n : Nat} {x y : List Nat} (hx : x ∈ ce_U v k lam n) (hy : y ∈ ce_U v k lam n) (h : ce_row (fm_K v k) x (List.range v) = ce_row (fm_K v k) y (List.range v)) : x = y := by
  obtain ⟨-, h2, h3, -⟩ := (ce_U_mem n x).mp hx
  obtain ⟨-, g2, g3, -⟩ := (ce_U_mem n y).mp hy
  have hc : ∀ m, x.count m = y.count m := by
    intro m
    by_cases hm : m ∈ fm_K v k
    · have := fm_row_eq.mp h m hm
      have this := this
      rwa [pm_im_id (fm_K_mem.mp hm).1] at this
    · rw [List.count_eq_zero.mpr (fun q => hm (h3 m q)), List.count_eq_zero.mpr (fun q => hm (g3 m q))]
  exact List.Perm.eq_of_pairwise (fun a b _ _ h1 h2 => Nat.le_antisymm h1 h2) h2 g2 (List.perm_iff_count.mpr hc)
theorem ce_row_len {K xs t : List Nat} : (ce_row K xs t).length = K.length := by simp [ce_row, fm_row]
