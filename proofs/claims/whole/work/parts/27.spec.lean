/-! WHAT THE TWO PROGRAMS ANSWER, in the words of layings -/
section SP
variable {v k lam : Nat}
/-- the greatest row that a renaming leads to -/
def sp_max (v : Nat) (K xs : List Nat) : List Int := ((pm_P v).foldl (lx_step (ce_row K xs)) (ce_row K xs (List.range v), 0)).1
theorem sp_max_spec (xs : List Nat) : (∃ t, t.Perm (List.range v) ∧ ce_row (fm_K v k) xs t = sp_max v (fm_K v k) xs) ∧ ∀ t, t.Perm (List.range v) → lx_gt (ce_row (fm_K v k) xs t) (sp_max v (fm_K v k) xs) = false := by
  have hf := lx_fold (ce_row (fm_K v k) xs) (fm_K v k).length (fun t => ce_row_len) (pm_P v) (ce_row (fm_K v k) xs (List.range v), 0) ce_row_len
  refine ⟨?_, fun t ht => hf.2.1 t (pm_P_mem.mpr ht)⟩
  rcases hf.2.2.2.1 with h | ⟨t, ht, h⟩
  · exact ⟨List.range v, pm_id, h.symm⟩
  · exact ⟨t, pm_P_mem.mp ht, h⟩
theorem sp_max_len (xs : List Nat) : (sp_max v (fm_K v k) xs).length = (fm_K v k).length := (lx_fold (ce_row (fm_K v k) xs) (fm_K v k).length (fun t => ce_row_len) (pm_P v) (ce_row (fm_K v k) xs (List.range v), 0) ce_row_len).1
theorem sp_max_u {xs : List Nat} {B : List Int} (h1 : ∃ t, t.Perm (List.range v) ∧ ce_row (fm_K v k) xs t = B) (h2 : ∀ t, t.Perm (List.range v) → lx_gt (ce_row (fm_K v k) xs t) B = false) : B = sp_max v (fm_K v k) xs := by
  obtain ⟨⟨t, ht, e⟩, hm⟩ := sp_max_spec (v := v) (k := k) xs
  obtain ⟨s, hs, f⟩ := h1
  have a := h2 t ht
  have b := hm s hs
  rw [e] at a
  rw [f] at b
  rcases lx_tri B (sp_max v (fm_K v k) xs) (by rw [← f, sp_max_len]; exact fm_row_len) with h | h | h
  · exact h
  · rw [b] at h; cases h
  · rw [a] at h; cases h
/-- as often as the search counts -/
theorem sp_cnt (xs : List Nat) : ((pm_P v).foldl (lx_step (ce_row (fm_K v k) xs)) (ce_row (fm_K v k) xs (List.range v), 0)).2 = ce_ord v k xs := by
  have hf := (lx_fold (ce_row (fm_K v k) xs) (fm_K v k).length (fun t => ce_row_len) (pm_P v) (ce_row (fm_K v k) xs (List.range v), 0) ce_row_len).2.2.2.2
  rw [hf]
  obtain ⟨⟨t, ht, e⟩, -⟩ := sp_max_spec (v := v) (k := k) xs
  have h1 : ((pm_P v).foldl (lx_step (ce_row (fm_K v k) xs)) (ce_row (fm_K v k) xs (List.range v), 0)).1 = ce_row (fm_K v k) xs t := e.symm
  rw [h1]
  have := fm_coset (v := v) (k := k) (f := fun m => xs.count m) ht
  unfold ce_ord
  rw [← this]
  split <;> simp [ce_row]
/-- the row of masks of a row of numbers -/
def sp_un (K : List Nat) (u : List Int) : List Nat := (List.range K.length).flatMap (fun j => List.replicate (u.getD j 0).toNat (K.getD j 0))
/-- a laying whose blocks are renamed -/
theorem sp_ren_row {t s xs : List Nat} (ht : t.Perm (List.range v)) (hs : s.Perm (List.range v)) (hx : ∀ x ∈ xs, x < 2 ^ v) : ce_row (fm_K v k) (xs.map (pm_im t)) s = ce_row (fm_K v k) xs (pm_o (pm_i v t) s) := by
  unfold ce_row
  rw [fm_row_eq]
  intro b hb
  rw [ce_count_map ht (pm_im_lt hs b) xs hx, pm_im_o (pm_i_perm ht) hs]
theorem sp_ren_max {t xs : List Nat} (ht : t.Perm (List.range v)) (hx : ∀ x ∈ xs, x < 2 ^ v) : sp_max v (fm_K v k) (xs.map (pm_im t)) = sp_max v (fm_K v k) xs := by
  obtain ⟨⟨s, hs, e⟩, hm⟩ := sp_max_spec (v := v) (k := k) xs
  refine (sp_max_u ⟨pm_o t s, pm_o_perm ht hs, ?_⟩ (fun u hu => ?_)).symm
  · rw [sp_ren_row ht (pm_o_perm ht hs) hx, ← pm_o_assoc ht hs (pm_i_perm ht)]
    have : pm_o (pm_i v t) t = List.range v := by
      refine pm_ext (pm_len (pm_o_perm (pm_i_perm ht) ht)) List.length_range (fun p hp => ?_)
      rw [pm_o_at (by rw [pm_len ht]; exact hp), pm_i_at ht hp, pm_range_at hp]
    rw [this]
    have h2 : pm_o (List.range v) s = s := by
      refine pm_ext (pm_len (pm_o_perm pm_id hs)) (pm_len hs) (fun p hp => ?_)
      rw [pm_o_at (by rw [pm_len hs]; exact hp), pm_range_at (pm_lt hs hp)]
    rw [h2]
    exact e
  · rw [sp_ren_row ht hu hx]
    exact hm _ (pm_o_perm (pm_i_perm ht) hu)
theorem sp_ren_ord {t xs : List Nat} (ht : t.Perm (List.range v)) (hx : ∀ x ∈ xs, x < 2 ^ v) : ce_ord v k (xs.map (pm_im t)) = ce_ord v k xs := by
  have h1 : ∀ ys : List Nat, ce_ord v k ys = (pm_P v).countP (fun s => ce_row (fm_K v k) ys s == sp_max v (fm_K v k) ys) := by
    intro ys
    obtain ⟨⟨s, hs, e⟩, -⟩ := sp_max_spec (v := v) (k := k) ys
    have := fm_coset (v := v) (k := k) (f := fun m => ys.count m) hs
    unfold ce_ord
    rw [← this, ← e]
    rfl
  rw [h1, h1, sp_ren_max ht hx, ← (pm_left (pm_i_perm ht)).countP_eq (fun s => ce_row (fm_K v k) xs s == sp_max v (fm_K v k) xs), List.countP_map]
  apply List.countP_congr
  intro s hs
  simp only [Function.comp_apply, sp_ren_row ht (pm_P_mem.mp hs) hx]
/-- one block more: only the pairs in it count -/
theorem sp_stays {e : List Nat} {b : Nat} (he : ce_pk v lam e = true) : ce_pk v lam (e ++ [b]) = true ↔ ∀ p q, p < q → q < v → b.testBit p = true → b.testBit q = true → ce_meet e p q < lam := by
  rw [ce_pk_iff] at he ⊢
  have hm : ∀ p q, ce_meet (e ++ [b]) p q = ce_meet e p q + (if (b.testBit p && b.testBit q) = true then 1 else 0) := by
    intro p q
    unfold ce_meet
    rw [List.countP_append, List.countP_cons, List.countP_nil, Nat.zero_add]
  constructor
  · intro h p q hpq hq hp1 hq1
    have := h p q hpq hq
    rw [hm, hp1, hq1] at this
    simp at this
    omega
  · intro h p q hpq hq
    have h0 := he p q hpq hq
    rw [hm]
    split
    · rename_i hb
      simp only [Bool.and_eq_true] at hb
      have := h p q hpq hq hb.1 hb.2
      omega
    · omega
/-- the least point to which a renaming of e to itself takes p -/
def sp_orb (v k : Nat) (e : List Nat) (p : Nat) : Nat := ((pm_P v).filter (fun t => ce_row (fm_K v k) e t == ce_row (fm_K v k) e (List.range v))).foldl (fun b t => min b (t.getD p 0)) p
end SP
