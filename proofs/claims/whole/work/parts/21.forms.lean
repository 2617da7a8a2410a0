/-! masks under renamings; rows; the greatest row -/
def pm_cnt (v m : Nat) : Nat := (List.range v).countP (fun p => m.testBit p)
theorem pm_im_lt {v : Nat} {s : List Nat} (hs : s.Perm (List.range v)) (m : Nat) : pm_im s m < 2 ^ v := by
  apply Nat.lt_pow_two_of_testBit
  intro y hy
  cases h : (pm_im s m).testBit y with
  | false => rfl
  | true =>
    obtain ⟨p, hp, -, e⟩ := pm_im_bit.mp h
    have := pm_lt hs (show p < v by rw [← pm_len hs]; exact hp)
    omega
theorem pm_bit_at {v : Nat} {s : List Nat} (hs : s.Perm (List.range v)) (m : Nat) {p : Nat} (hp : p < v) : (pm_im s m).testBit (s.getD p 0) = m.testBit p := by
  rw [Bool.eq_iff_iff, pm_im_bit]
  constructor
  · rintro ⟨q, hq, h1, e⟩
    rw [← pm_inj hs (by rw [← pm_len hs]; exact hq) hp e]
    exact h1
  · intro h
    exact ⟨p, by rw [pm_len hs]; exact hp, h, rfl⟩
theorem pm_cnt_im {v : Nat} {s : List Nat} (hs : s.Perm (List.range v)) (m : Nat) : pm_cnt v (pm_im s m) = pm_cnt v m := by
  unfold pm_cnt
  have e : s.countP (fun p => (pm_im s m).testBit p) = ((List.range v).map (fun x => s.getD x 0)).countP (fun p => (pm_im s m).testBit p) := by rw [pm_range_self (pm_len hs)]
  rw [← hs.countP_eq, e, List.countP_map]
  apply List.countP_congr
  intro p hp
  have := pm_bit_at hs m (List.mem_range.mp hp)
  simp only [Function.comp_apply, this]
theorem pm_im_o {v : Nat} {s t : List Nat} (hs : s.Perm (List.range v)) (ht : t.Perm (List.range v)) (m : Nat) : pm_im (pm_o s t) m = pm_im s (pm_im t m) := by
  apply Nat.eq_of_testBit_eq
  intro y
  rw [Bool.eq_iff_iff, pm_im_bit, pm_im_bit]
  constructor
  · rintro ⟨p, hp, h1, e⟩
    have hp' : p < v := by rw [← pm_len (pm_o_perm hs ht)]; exact hp
    have hpt : p < t.length := by rw [pm_len ht]; exact hp'
    rw [pm_o_at hpt] at e
    exact ⟨t.getD p 0, by rw [pm_len hs]; exact pm_lt ht hp', by rw [pm_bit_at ht m hp']; exact h1, e⟩
  · rintro ⟨x, hx, h1, e⟩
    obtain ⟨p, hp, h2, rfl⟩ := pm_im_bit.mp h1
    exact ⟨p, by rw [pm_len (pm_o_perm hs ht), ← pm_len ht]; exact hp, h2, by rw [pm_o_at hp]; exact e⟩
theorem pm_lt_of_bit {v m y : Nat} (hm : m < 2 ^ v) (h : m.testBit y = true) : y < v := by
  rcases Nat.lt_or_ge y v with h1 | h1
  · exact h1
  · have : m < 2 ^ y := Nat.lt_of_lt_of_le hm (Nat.pow_le_pow_right (by decide) h1)
    rw [Nat.testBit_lt_two_pow this] at h
    cases h
theorem pm_range_at {v p : Nat} (h : p < v) : (List.range v).getD p 0 = p := by
  simp [List.getD_eq_getElem?_getD, List.getElem?_range h]
theorem pm_im_id {v m : Nat} (hm : m < 2 ^ v) : pm_im (List.range v) m = m := by
  apply Nat.eq_of_testBit_eq
  intro y
  rw [Bool.eq_iff_iff, pm_im_bit]
  constructor
  · rintro ⟨p, hp, h1, e⟩
    rw [List.length_range] at hp
    rw [pm_range_at hp] at e
    rw [← e]; exact h1
  · intro h
    have hy := pm_lt_of_bit hm h
    exact ⟨y, by rw [List.length_range]; exact hy, h, pm_range_at hy⟩
theorem pm_im_inv {v m : Nat} {s : List Nat} (hs : s.Perm (List.range v)) (hm : m < 2 ^ v) : pm_im (pm_i v s) (pm_im s m) = m := by
  rw [← pm_im_o (pm_i_perm hs) hs]
  have : pm_o (pm_i v s) s = List.range v := by
    refine pm_ext (pm_len (pm_o_perm (pm_i_perm hs) hs)) List.length_range (fun p hp => ?_)
    rw [pm_o_at (by rw [pm_len hs]; exact hp), pm_i_at hs hp, pm_range_at hp]
  rw [this, pm_im_id hm]
theorem pm_im_inv2 {v m : Nat} {s : List Nat} (hs : s.Perm (List.range v)) (hm : m < 2 ^ v) : pm_im s (pm_im (pm_i v s) m) = m := by
  rw [← pm_im_o hs (pm_i_perm hs)]
  have : pm_o s (pm_i v s) = List.range v := by
    refine pm_ext (pm_len (pm_o_perm hs (pm_i_perm hs))) List.length_range (fun p hp => ?_)
    rw [pm_o_at (by rw [pm_len (pm_i_perm hs)]; exact hp), (pm_i_lt hs hp).2, pm_range_at hp]
  rw [this, pm_im_id hm]
/-- the kinds of blocks, the least mask first -/
def fm_K (v k : Nat) : List Nat := (List.range (2 ^ v)).filter (fun m => pm_cnt v m == k)
theorem fm_K_mem {v k m : Nat} : m ∈ fm_K v k ↔ m < 2 ^ v ∧ pm_cnt v m = k := by simp [fm_K]
theorem fm_K_im {v k m : Nat} {s : List Nat} (hs : s.Perm (List.range v)) (h : m ∈ fm_K v k) : pm_im s m ∈ fm_K v k := fm_K_mem.mpr ⟨pm_im_lt hs m, by rw [pm_cnt_im hs]; exact (fm_K_mem.mp h).2⟩
/-- the row of numbers of the laying f behind the renaming s -/
def fm_row (K : List Nat) (f : Nat → Nat) (s : List Nat) : List Int := K.map (fun b => (f (pm_im s b) : Int))
theorem fm_row_len {K : List Nat} {f : Nat → Nat} {s : List Nat} : (fm_row K f s).length = K.length := by simp [fm_row]
theorem fm_row_eq {K : List Nat} {f g : Nat → Nat} {s t : List Nat} : fm_row K f s = fm_row K g t ↔ ∀ b ∈ K, f (pm_im s b) = g (pm_im t b) := by
  constructor
  · intro h b hb
    have := List.map_inj_left.mp h b hb
    exact Int.ofNat.inj this
  · intro h
    exact List.map_congr_left (fun b hb => by rw [h b hb])
def fm_ord (v : Nat) (K : List Nat) (f : Nat → Nat) : Nat := (pm_P v).countP (fun t => fm_row K f t == fm_row K f (List.range v))
/-- as many renamings lead to a row that comes as there are renamings of the laying to itself -/
theorem fm_coset {v k : Nat} {f : Nat → Nat} {s : List Nat} (hs : s.Perm (List.range v)) : (pm_P v).countP (fun t => fm_row (fm_K v k) f t == fm_row (fm_K v k) f s) = fm_ord v (fm_K v k) f := by
  unfold fm_ord
  rw [← (pm_right (pm_i_perm hs)).countP_eq (fun t => fm_row (fm_K v k) f t == fm_row (fm_K v k) f (List.range v)), List.countP_map]
  apply List.countP_congr
  intro t ht
  have ht := pm_P_mem.mp ht
  simp only [Function.comp_apply, beq_iff_eq, fm_row_eq]
  constructor
  · intro h b hb
    have hb1 := (fm_K_mem.mp hb).1
    rw [pm_im_o ht (pm_i_perm hs), h _ (fm_K_im (pm_i_perm hs) hb), pm_im_inv2 hs hb1, pm_im_id hb1]
  · intro h b hb
    have hb1 := (fm_K_mem.mp hb).1
    have := h _ (fm_K_im hs hb)
    rw [pm_im_o ht (pm_i_perm hs), pm_im_inv hs hb1, pm_im_id (fm_K_mem.mp (fm_K_im hs hb)).1] at this
    exact this
/-! the order of rows of numbers -/
def lx_gt : List Int → List Int → Bool
  | x :: a, y :: b => decide (y < x) || (decide (x = y) && lx_gt a b)
  | _, _ => false
theorem lx_irr : ∀ a : List Int, lx_gt a a = false
  | [] => rfl
  | x :: a => by simp [lx_gt, lx_irr a]
theorem lx_tri : ∀ (a b : List Int), a.length = b.length → a = b ∨ lx_gt a b = true ∨ lx_gt b a = true
  | [], [], _ => Or.inl rfl
  | [], _ :: _, h => by simp at h
  | _ :: _, [], h => by simp at h
  | x :: a, y :: b, h => by
    have hl : a.length = b.length := by simpa using h
    rcases Int.lt_trichotomy x y with h1 | h1 | h1
    · right; right; simp [lx_gt, h1]
    · subst h1
      rcases lx_tri a b hl with h2 | h2 | h2
      · left; rw [h2]
      · right; left; simp [lx_gt, h2]
      · right; right; simp [lx_gt, h2]
    · right; left; simp [lx_gt, h1]
theorem lx_trans : ∀ (a b c : List Int), lx_gt a b = true → lx_gt b c = true → lx_gt a c = true
  | x :: a, y :: b, z :: c, h1, h2 => by
    simp only [lx_gt, Bool.or_eq_true, Bool.and_eq_true, decide_eq_true_eq] at h1 h2 ⊢
    rcases h1 with h1 | ⟨h1, h3⟩ <;> rcases h2 with h2 | ⟨h2, h4⟩
    · left; omega
    · left; omega
    · left; omega
    · right; exact ⟨by omega, lx_trans a b c h3 h4⟩
  | [], _, _, h1, _ => by simp [lx_gt] at h1
  | _ :: _, [], _, h1, _ => by simp [lx_gt] at h1
  | _ :: _, _ :: _, [], _, h2 => by simp [lx_gt] at h2
theorem lx_asym {a b : List Int} (h : lx_gt a b = true) : lx_gt b a = false := by
  cases h2 : lx_gt b a with
  | false => rfl
  | true =>
    have := lx_trans a b a h h2
    rw [lx_irr] at this
    cases this
/-- the best so far and how often it came -/
def lx_step {β : Type} (R : β → List Int) (st : List Int × Nat) (t : β) : List Int × Nat := if lx_gt (R t) st.1 then (R t, 1) else if R t = st.1 then (st.1, st.2 + 1) else st
theorem lx_fold {β : Type} (R : β → List Int) (n : Nat) (hR : ∀ t, (R t).length = n) : ∀ (l : List β) (st : List Int × Nat), st.1.length = n →
    (l.foldl (lx_step R) st).1.length = n ∧ (∀ t ∈ l, lx_gt (R t) (l.foldl (lx_step R) st).1 = false) ∧ lx_gt st.1 (l.foldl (lx_step R) st).1 = false ∧
    ((l.foldl (lx_step R) st).1 = st.1 ∨ ∃ t ∈ l, R t = (l.foldl (lx_step R) st).1) ∧
    (l.foldl (lx_step R) st).2 = (if (l.foldl (lx_step R) st).1 = st.1 then st.2 else 0) + l.countP (fun t => R t == (l.foldl (lx_step R) st).1)
  | [], st, h => by simp [h, lx_irr]
  | t :: l, st, h => by
    rw [List.foldl_cons]
    by_cases h1 : lx_gt (R t) st.1 = true
    · have e : lx_step R st t = (R t, 1) := by simp [lx_step, h1]
      rw [e]
      obtain ⟨a1, a2, a3, a4, a5⟩ := lx_fold R n hR l (R t, 1) (hR t)
      generalize hr : l.foldl (lx_step R) (R t, 1) = r at a1 a2 a3 a4 a5 ⊢
      have hgt : lx_gt st.1 r.1 = false := by
        cases hq : lx_gt st.1 r.1 with
        | false => rfl
        | true =>
          have := lx_trans _ _ _ h1 hq
          rw [a3] at this; cases this
      have hne : ¬ r.1 = st.1 := fun q => by rw [q, h1] at a3; cases a3
      refine ⟨a1, fun u hu => ?_, hgt, Or.inr ?_, ?_⟩
      · rcases List.mem_cons.mp hu with rfl | hu
        · exact a3
        · exact a2 u hu
      · rcases a4 with a4 | ⟨u, hu, e⟩
        · exact ⟨t, List.mem_cons_self, a4.symm⟩
        · exact ⟨u, List.mem_cons_of_mem _ hu, e⟩
      · rw [a5, if_neg hne, List.countP_cons]
        by_cases hq : r.1 = R t
        · simp [hq]; omega
        · have : (R t == r.1) = false := by simp; exact fun z => hq z.symm
          simp [hq, this]
    · by_cases h2 : R t = st.1
      · have e : lx_step R st t = (st.1, st.2 + 1) := by simp [lx_step, h1, h2, lx_irr]
        rw [e]
        obtain ⟨a1, a2, a3, a4, a5⟩ := lx_fold R n hR l (st.1, st.2 + 1) h
        generalize hr : l.foldl (lx_step R) (st.1, st.2 + 1) = r at a1 a2 a3 a4 a5 ⊢
        refine ⟨a1, fun u hu => ?_, a3, ?_, ?_⟩
        · rcases List.mem_cons.mp hu with rfl | hu
          · rw [h2]; exact a3
          · exact a2 u hu
        · rcases a4 with a4 | ⟨u, hu, e⟩
          · exact Or.inl a4
          · exact Or.inr ⟨u, List.mem_cons_of_mem _ hu, e⟩
        · rw [a5, List.countP_cons, h2]
          by_cases hq : r.1 = st.1
          · simp [hq]; omega
          · have : (st.1 == r.1) = false := by simp; exact fun z => hq z.symm
            simp [hq, this]
      · have e : lx_step R st t = st := by simp [lx_step, h1, h2]
        rw [e]
        obtain ⟨a1, a2, a3, a4, a5⟩ := lx_fold R n hR l st h
        generalize hr : l.foldl (lx_step R) st = r at a1 a2 a3 a4 a5 ⊢
        have h3 : lx_gt st.1 (R t) = true := by
          rcases lx_tri (R t) st.1 (by rw [hR, h]) with q | q | q
          · exact absurd q h2
          · exact absurd q h1
          · exact q
        have h4 : lx_gt (R t) r.1 = false := by
          cases hq : lx_gt (R t) r.1 with
          | false => rfl
          | true =>
            have := lx_trans _ _ _ h3 hq
            rw [a3] at this; cases this
        have h5 : ¬ R t = r.1 := fun q => by rw [← q, h3] at a3; cases a3
        refine ⟨a1, fun u hu => ?_, a3, ?_, ?_⟩
        · rcases List.mem_cons.mp hu with rfl | hu
          · exact h4
          · exact a2 u hu
        · rcases a4 with a4 | ⟨u, hu, e⟩
          · exact Or.inl a4
          · exact Or.inr ⟨u, List.mem_cons_of_mem _ hu, e⟩
        · rw [a5, List.countP_cons]
          simp [h5]
