/-! RENAMINGS as lists: σ takes the point p to σ.getD p 0; σ is a renaming of v points if it is a permutation of 0 .. v - 1. -/
def pm_all : Nat → List Nat → List (List Nat)
  | 0, _ => [[]]
  | n + 1, r => r.flatMap (fun q => (pm_all n (r.erase q)).map (fun t => q :: t))
theorem pm_mem : ∀ (n : Nat) (r : List Nat), r.length = n → ∀ s : List Nat, s ∈ pm_all n r ↔ s.Perm r
  | 0, r, h, s => by
    obtain rfl : r = [] := List.eq_nil_of_length_eq_zero h
    simp [pm_all]
  | n + 1, r, h, s => by
    simp only [pm_all, List.mem_flatMap, List.mem_map]
    constructor
    · rintro ⟨q, hq, t, ht, rfl⟩
      have hl : (r.erase q).length = n := by rw [List.length_erase_of_mem hq]; omega
      exact List.cons_perm_iff_perm_erase.mpr ⟨hq, (pm_mem n (r.erase q) hl t).mp ht⟩
    · intro hs
      cases s with
      | nil =>
        have := hs.length_eq
        rw [h] at this
        cases this
      | cons q t =>
        obtain ⟨hq, ht⟩ := List.cons_perm_iff_perm_erase.mp hs
        have hl : (r.erase q).length = n := by rw [List.length_erase_of_mem hq]; omega
        exact ⟨q, hq, t, (pm_mem n (r.erase q) hl t).mpr ht, rfl⟩
theorem pm_nodup : ∀ (n : Nat) (r : List Nat), r.length = n → r.Nodup → (pm_all n r).Nodup
  | 0, r, _, _ => by simp [pm_all]
  | n + 1, r, h, hr => by
    unfold List.Nodup
    simp only [pm_all]
    rw [List.pairwise_flatMap]
    refine ⟨fun q hq => ?_, ?_⟩
    · have hl : (r.erase q).length = n := by rw [List.length_erase_of_mem hq]; omega
      have := pm_nodup n (r.erase q) hl (hr.erase q)
      rw [List.pairwise_map]
      exact List.Pairwise.imp (fun h e => h (List.cons.inj e).2) this
    · refine List.Pairwise.imp (fun {a b} hab x hx y hy e => ?_) hr
      obtain ⟨_, _, rfl⟩ := List.mem_map.mp hx
      obtain ⟨_, _, rfl⟩ := List.mem_map.mp hy
      exact hab (List.cons.inj e).1
/-- all renamings of v points -/
def pm_P (v : Nat) : List (List Nat) := pm_all v (List.range v)
theorem pm_P_mem {v : Nat} {s : List Nat} : s ∈ pm_P v ↔ s.Perm (List.range v) := pm_mem v _ List.length_range s
theorem pm_P_nodup (v : Nat) : (pm_P v).Nodup := pm_nodup v _ List.length_range List.nodup_range
/-- composition: first t, then s -/
def pm_o (s t : List Nat) : List Nat := t.map (fun x => s.getD x 0)
/-- what s takes p to -/
theorem pm_len {v : Nat} {s : List Nat} (h : s.Perm (List.range v)) : s.length = v := by rw [h.length_eq, List.length_range]
theorem pm_lt {v : Nat} {s : List Nat} (h : s.Perm (List.range v)) {p : Nat} (hp : p < v) : s.getD p 0 < v := by
  have hl : p < s.length := by rw [pm_len h]; exact hp
  rw [List.getD_eq_getElem?_getD, List.getElem?_eq_getElem hl]
  exact List.mem_range.mp (h.mem_iff.mp (List.getElem_mem hl))
theorem pm_nd {v : Nat} {s : List Nat} (h : s.Perm (List.range v)) : s.Nodup := (h.nodup_iff).mpr List.nodup_range
theorem pm_inj {v : Nat} {s : List Nat} (h : s.Perm (List.range v)) {p q : Nat} (hp : p < v) (hq : q < v) (e : s.getD p 0 = s.getD q 0) : p = q := by
  have h1 : p < s.length := by rw [pm_len h]; exact hp
  have h2 : q < s.length := by rw [pm_len h]; exact hq
  rw [List.getD_eq_getElem?_getD, List.getD_eq_getElem?_getD, List.getElem?_eq_getElem h1, List.getElem?_eq_getElem h2] at e
  have e : s[p] = s[q] := e
  rcases Nat.lt_trichotomy p q with hl | hl | hl
  · exact absurd e (List.pairwise_iff_getElem.mp (pm_nd h) p q h1 h2 hl)
  · exact hl
  · exact absurd e.symm (List.pairwise_iff_getElem.mp (pm_nd h) q p h2 h1 hl)
theorem pm_sur {v : Nat} {s : List Nat} (h : s.Perm (List.range v)) {y : Nat} (hy : y < v) : ∃ p, p < v ∧ s.getD p 0 = y := by
  obtain ⟨p, hp, e⟩ := List.getElem_of_mem (h.mem_iff.mpr (List.mem_range.mpr hy))
  refine ⟨p, by rw [← pm_len h]; exact hp, ?_⟩
  rw [List.getD_eq_getElem?_getD, List.getElem?_eq_getElem hp]
  exact e
theorem pm_o_at {s t : List Nat} {p : Nat} (hp : p < t.length) : (pm_o s t).getD p 0 = s.getD (t.getD p 0) 0 := by
  simp [pm_o, List.getD_eq_getElem?_getD, List.getElem?_map, List.getElem?_eq_getElem hp]
theorem pm_range_self {v : Nat} {s : List Nat} (h : s.length = v) : (List.range v).map (fun x => s.getD x 0) = s := by
  apply List.ext_getElem?
  intro k
  by_cases hk : k < v
  · rw [List.getElem?_map, List.getElem?_range hk, Option.map_some, List.getElem?_eq_getElem (by omega)]
    simp [List.getD_eq_getElem?_getD, List.getElem?_eq_getElem (show k < s.length by omega)]
  · rw [List.getElem?_eq_none (by simp; omega), List.getElem?_eq_none (by omega)]
theorem pm_o_perm {v : Nat} {s t : List Nat} (hs : s.Perm (List.range v)) (ht : t.Perm (List.range v)) : (pm_o s t).Perm (List.range v) := by
  have h1 : (pm_o s t).Perm ((List.range v).map (fun x => s.getD x 0)) := ht.map _
  rw [pm_range_self (pm_len hs)] at h1
  exact h1.trans hs
/-- the other way -/
def pm_i (v : Nat) (s : List Nat) : List Nat := (List.range v).map (fun y => s.idxOf y)
theorem pm_i_at {v : Nat} {s : List Nat} (h : s.Perm (List.range v)) {p : Nat} (hp : p < v) : (pm_i v s).getD (s.getD p 0) 0 = p := by
  have hl : p < s.length := by rw [pm_len h]; exact hp
  have hy := pm_lt h hp
  simp only [pm_i, List.getD_eq_getElem?_getD, List.getElem?_map, List.getElem?_eq_getElem hl, Option.getD_some] at hy ⊢
  rw [List.getElem?_range hy]
  simp only [Option.map_some, Option.getD_some]
  exact List.Nodup.idxOf_getElem (pm_nd h) p hl
theorem pm_i_lt {v : Nat} {s : List Nat} (h : s.Perm (List.range v)) {y : Nat} (hy : y < v) : (pm_i v s).getD y 0 < v ∧ s.getD ((pm_i v s).getD y 0) 0 = y := by
  obtain ⟨p, hp, e⟩ := pm_sur h hy
  rw [← e, pm_i_at h hp]
  exact ⟨hp, rfl⟩
theorem pm_i_perm {v : Nat} {s : List Nat} (h : s.Perm (List.range v)) : (pm_i v s).Perm (List.range v) := by
  have hl : (pm_i v s).length = v := by simp [pm_i]
  refine (List.perm_ext_iff_of_nodup ?_ List.nodup_range).mpr (fun a => ?_)
  · unfold List.Nodup pm_i
    rw [List.pairwise_map]
    refine List.Pairwise.imp_of_mem (fun {a b} ha hb hab e => hab ?_) (List.nodup_range (n := v))
    have h1 := (pm_i_lt h (List.mem_range.mp ha)).2
    have h2 := (pm_i_lt h (List.mem_range.mp hb)).2
    have ea : (pm_i v s).getD a 0 = s.idxOf a := by
      simp [pm_i, List.getD_eq_getElem?_getD, List.getElem?_range (List.mem_range.mp ha)]
    have eb : (pm_i v s).getD b 0 = s.idxOf b := by
      simp [pm_i, List.getD_eq_getElem?_getD, List.getElem?_range (List.mem_range.mp hb)]
    rw [ea, e, ← eb, h2] at h1
    exact h1.symm
  · constructor
    · intro ha
      obtain ⟨y, hy, rfl⟩ := List.mem_map.mp ha
      have := (pm_i_lt h (List.mem_range.mp hy)).1
      have ey : (pm_i v s).getD y 0 = s.idxOf y := by
        simp [pm_i, List.getD_eq_getElem?_getD, List.getElem?_range (List.mem_range.mp hy)]
      rw [ey] at this
      exact List.mem_range.mpr this
    · intro ha
      have hav := List.mem_range.mp ha
      have h1 := pm_i_at h hav
      have hy := pm_lt h hav
      rw [← h1, List.getD_eq_getElem?_getD, List.getElem?_eq_getElem (by rw [hl]; exact hy)]
      exact List.getElem_mem _
/-- a list without repeats that a map takes into itself, no two to one, is permuted by it -/
theorem pm_mapP {α : Type} {l : List α} {g : α → α} (hn : l.Nodup) (hin : ∀ a ∈ l, g a ∈ l) (hinj : ∀ a ∈ l, ∀ b ∈ l, g a = g b → a = b) (hsur : ∀ b ∈ l, ∃ a ∈ l, g a = b) : (l.map g).Perm l := by
  refine (List.perm_ext_iff_of_nodup ?_ hn).mpr (fun a => ?_)
  · unfold List.Nodup
    rw [List.pairwise_map]
    exact List.Pairwise.imp_of_mem (fun {a b} ha hb hab e => hab (hinj a ha b hb e)) hn
  · constructor
    · intro h
      obtain ⟨b, hb, rfl⟩ := List.mem_map.mp h
      exact hin b hb
    · intro h
      obtain ⟨b, hb, e⟩ := hsur a h
      exact List.mem_map.mpr ⟨b, hb, e⟩
theorem pm_ext {v : Nat} {s t : List Nat} (hs : s.length = v) (ht : t.length = v) (h : ∀ p, p < v → s.getD p 0 = t.getD p 0) : s = t := by
  rw [← pm_range_self hs, ← pm_range_self ht]
  exact List.map_congr_left (fun p hp => h p (List.mem_range.mp hp))
/-- right and left translations permute the renamings -/
theorem pm_right {v : Nat} {t : List Nat} (ht : t.Perm (List.range v)) : ((pm_P v).map (fun s => pm_o s t)).Perm (pm_P v) := by
  refine pm_mapP (pm_P_nodup v) (fun s hs => pm_P_mem.mpr (pm_o_perm (pm_P_mem.mp hs) ht)) (fun a ha b hb e => ?_) (fun b hb => ⟨pm_o b (pm_i v t), pm_P_mem.mpr (pm_o_perm (pm_P_mem.mp hb) (pm_i_perm ht)), ?_⟩)
  · have ha := pm_P_mem.mp ha
    have hb := pm_P_mem.mp hb
    refine pm_ext (pm_len ha) (pm_len hb) (fun y hy => ?_)
    obtain ⟨p, hp, rfl⟩ := pm_sur ht hy
    have hl : p < t.length := by rw [pm_len ht]; exact hp
    rw [← pm_o_at (s := a) hl, ← pm_o_at (s := b) hl, e]
  · have hb := pm_P_mem.mp hb
    have hi := pm_i_perm ht
    refine pm_ext (pm_len (pm_o_perm (pm_o_perm hb hi) ht)) (pm_len hb) (fun p hp => ?_)
    have hl : p < t.length := by rw [pm_len ht]; exact hp
    have h2 : t.getD p 0 < (pm_i v t).length := by rw [pm_len hi]; exact pm_lt ht hp
    rw [pm_o_at hl, pm_o_at h2, pm_i_at ht hp]
theorem pm_left {v : Nat} {t : List Nat} (ht : t.Perm (List.range v)) : ((pm_P v).map (fun s => pm_o t s)).Perm (pm_P v) := by
  refine pm_mapP (pm_P_nodup v) (fun s hs => pm_P_mem.mpr (pm_o_perm ht (pm_P_mem.mp hs))) (fun a ha b hb e => ?_) (fun b hb => ⟨pm_o (pm_i v t) b, pm_P_mem.mpr (pm_o_perm (pm_i_perm ht) (pm_P_mem.mp hb)), ?_⟩)
  · have ha := pm_P_mem.mp ha
    have hb := pm_P_mem.mp hb
    refine pm_ext (pm_len ha) (pm_len hb) (fun p hp => ?_)
    have h1 : p < a.length := by rw [pm_len ha]; exact hp
    have h2 : p < b.length := by rw [pm_len hb]; exact hp
    have : (pm_o t a).getD p 0 = (pm_o t b).getD p 0 := congrArg (fun z => z.getD p 0) e
    rw [pm_o_at h1, pm_o_at h2] at this
    exact pm_inj ht (pm_lt ha hp) (pm_lt hb hp) this
  · have hb := pm_P_mem.mp hb
    have hi := pm_i_perm ht
    refine pm_ext (pm_len (pm_o_perm ht (pm_o_perm hi hb))) (pm_len hb) (fun p hp => ?_)
    have h1 : p < b.length := by rw [pm_len hb]; exact hp
    have h2 : p < (pm_o (pm_i v t) b).length := by rw [pm_len (pm_o_perm hi hb)]; exact hp
    rw [pm_o_at h2, pm_o_at h1]
    exact (pm_i_lt ht (pm_lt hb hp)).2
/-! masks: the image of a mask under a list of points -/
def pm_img : List Nat → Nat → Nat → Nat
  | [], _, _ => 0
  | q :: s, p, m => (if m.testBit p then 2 ^ q else 0) ||| pm_img s (p + 1) m
/-- the image of the mask m -/
def pm_im (s : List Nat) (m : Nat) : Nat := pm_img s 0 m
theorem pm_img_bit (m y : Nat) : ∀ (s : List Nat) (p : Nat), (pm_img s p m).testBit y = true ↔ ∃ k, k < s.length ∧ m.testBit (p + k) = true ∧ s.getD k 0 = y
  | [], p => by simp [pm_img]
  | q :: s, p => by
    rw [pm_img, Nat.testBit_or, Bool.or_eq_true, pm_img_bit m y s (p + 1)]
    constructor
    · rintro (h | ⟨k, hk, h1, h2⟩)
      · refine ⟨0, by simp, ?_⟩
        split at h
        · rename_i hm
          rw [Nat.testBit_two_pow] at h
          exact ⟨hm, by simpa using h⟩
        · simp at h
      · exact ⟨k + 1, by simpa using hk, by rw [← h1]; congr 1; omega, by simpa using h2⟩
    · rintro ⟨k, hk, h1, h2⟩
      cases k with
      | zero =>
        left
        simp only [Nat.add_zero] at h1
        rw [if_pos h1, Nat.testBit_two_pow]
        simpa using h2
      | succ k =>
        right
        exact ⟨k, by simpa using hk, by rw [← h1]; congr 1; omega, by simpa using h2⟩
theorem pm_im_bit {s : List Nat} {m y : Nat} : (pm_im s m).testBit y = true ↔ ∃ p, p < s.length ∧ m.testBit p = true ∧ s.getD p 0 = y := by
  rw [pm_im, pm_img_bit]
  simp
