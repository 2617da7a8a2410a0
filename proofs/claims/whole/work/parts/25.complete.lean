/-! A FORM WITHOUT ITS LAST BLOCK IS A FORM: so the list has every form -/
theorem lx_first : ∀ (a b : List Int), lx_gt a b = true → ∃ j, j < a.length ∧ (∀ i, i < j → a.getD i 0 = b.getD i 0) ∧ b.getD j 0 < a.getD j 0
  | [], _, h => by simp [lx_gt] at h
  | _ :: _, [], h => by simp [lx_gt] at h
  | x :: a, y :: b, h => by
    simp only [lx_gt, Bool.or_eq_true, Bool.and_eq_true, decide_eq_true_eq] at h
    rcases h with h | ⟨rfl, h⟩
    · exact ⟨0, by simp, fun i hi => by omega, by simpa using h⟩
    · obtain ⟨j, h1, h2, h3⟩ := lx_first a b h
      refine ⟨j + 1, by simpa using h1, fun i hi => ?_, by simpa using h3⟩
      cases i with
      | zero => rfl
      | succ i => simpa using h2 i (by omega)
theorem ct_zero : ∀ (b : List Nat), (∀ i, b.getD i 0 = 0) → b.sum = 0
  | [], _ => rfl
  | x :: b, h => by
    have h0 : x = 0 := by simpa using h 0
    rw [List.sum_cons, h0, ct_zero b (fun i => by simpa using h (i + 1))]
theorem ct_less : ∀ (j : Nat) (a b : List Nat), a.length = b.length → j < a.length → (∀ i, i < j → a.getD i 0 = b.getD i 0) → b.getD j 0 < a.getD j 0 → (∀ i, j < i → b.getD i 0 = 0) → b.sum < a.sum
  | _, [], _, _, h, _, _, _ => by simp at h
  | _, _ :: _, [], h, _, _, _, _ => by simp at h
  | 0, x :: a, y :: b, _, _, _, h2, h3 => by
    have hz := ct_zero b (fun i => by simpa using h3 (i + 1) (by omega))
    have : y < x := by simpa using h2
    rw [List.sum_cons, List.sum_cons, hz]
    omega
  | j + 1, x :: a, y :: b, hl, hj, h1, h2, h3 => by
    have h0 : x = y := by simpa using h1 0 (by omega)
    have := ct_less j a b (by simpa using hl) (by simpa using hj) (fun i hi => by simpa using h1 (i + 1) (by omega)) (by simpa using h2) (fun i hi => by simpa using h3 (i + 1) (by omega))
    rw [List.sum_cons, List.sum_cons]
    omega
section CO
variable {v k lam n : Nat}
theorem ce_total {t e : List Nat} (ht : t.Perm (List.range v)) (he : ∀ m ∈ e, m ∈ fm_K v k) : ((fm_K v k).map (fun b => e.count (pm_im t b))).sum = e.length := by
  have h1 := ct_swap (fun m b => m == pm_im t b) e (fm_K v k)
  have h2 : (fm_K v k).map (fun b => e.count (pm_im t b)) = (fm_K v k).map (fun b => e.countP (fun m => m == pm_im t b)) := List.map_congr_left (fun b _ => rfl)
  rw [h2, h1, ct_const _ _ 1, Nat.mul_one]
  intro m hm
  have hmK := he m hm
  have hm2 := (fm_K_mem.mp hmK).1
  refine ct_one (fm_K_nodup v k) (fm_K_im (pm_i_perm ht) hmK) (by rw [pm_im_inv2 ht hm2]; simp) (fun b hb hq => ?_)
  rw [beq_iff_eq.mp hq, pm_im_inv ht (fm_K_mem.mp hb).1]
theorem fm_K_sorted : (fm_K v k).Pairwise (· < ·) := List.Pairwise.filter _ List.pairwise_lt_range
theorem ce_row_at {e t : List Nat} {i : Nat} (hi : i < (fm_K v k).length) : (ce_row (fm_K v k) e t).getD i 0 = (e.count (pm_im t ((fm_K v k).getD i 0)) : Int) := by
  simp [ce_row, fm_row, List.getD_eq_getElem?_getD, List.getElem?_map, List.getElem?_eq_getElem hi]
theorem fm_K_at {i : Nat} (hi : i < (fm_K v k).length) : (fm_K v k).getD i 0 ∈ fm_K v k := by
  rw [List.getD_eq_getElem?_getD, List.getElem?_eq_getElem hi]
  exact List.getElem_mem hi
theorem fm_K_ix {m : Nat} (h : m ∈ fm_K v k) : ∃ i, i < (fm_K v k).length ∧ (fm_K v k).getD i 0 = m := by
  obtain ⟨i, hi, e⟩ := List.getElem_of_mem h
  exact ⟨i, hi, by rw [List.getD_eq_getElem?_getD, List.getElem?_eq_getElem hi]; exact e⟩
theorem fm_K_lt {i j : Nat} (hij : i < j) (hj : j < (fm_K v k).length) : (fm_K v k).getD i 0 < (fm_K v k).getD j 0 := by
  rw [List.getD_eq_getElem?_getD, List.getD_eq_getElem?_getD, List.getElem?_eq_getElem hj, List.getElem?_eq_getElem (show i < (fm_K v k).length by omega)]
  exact List.pairwise_iff_getElem.mp fm_K_sorted i j (by omega) hj hij
theorem ce_init {e : List Nat} {b : Nat} (hx : e ++ [b] ∈ ce_U v k lam (n + 1)) (hf : ce_isf v (fm_K v k) (e ++ [b]) = true) : ce_isf v (fm_K v k) e = true := by
  obtain ⟨-, hs, hK, -⟩ := (ce_U_mem _ _).mp hx
  have heK : ∀ m ∈ e, m ∈ fm_K v k := fun m hm => hK m (List.mem_append_left _ hm)
  have hbK : b ∈ fm_K v k := hK b (by simp)
  have hle : ∀ m ∈ e, m ≤ b := fun m hm => (List.pairwise_append.mp hs).2.2 m hm b List.mem_cons_self
  rw [ce_isf_iff] at hf ⊢
  intro t ht
  cases hg : lx_gt (ce_row (fm_K v k) e t) (ce_row (fm_K v k) e (List.range v)) with
  | false => rfl
  | true =>
    exfalso
    obtain ⟨j0, hj0, h1, h2⟩ := lx_first _ _ hg
    have hj0 : j0 < (fm_K v k).length := by simpa [ce_row, fm_row] using hj0
    have idr : ∀ i, i < (fm_K v k).length → (ce_row (fm_K v k) e (List.range v)).getD i 0 = (e.count ((fm_K v k).getD i 0) : Int) := by
      intro i hi
      rw [ce_row_at hi, pm_im_id (fm_K_mem.mp (fm_K_at hi)).1]
    obtain ⟨jb, hjb, ejb⟩ := fm_K_ix hbK
    -- the first place at which they differ lies ahead of b's
    have hlt : j0 < jb := by
      rcases Nat.lt_or_ge j0 jb with h | h
      · exact h
      · exfalso
        have := ct_less j0 ((fm_K v k).map (fun b => e.count (pm_im t b))) ((fm_K v k).map (fun b => e.count b)) (by simp) (by simpa using hj0) (fun i hi => ?_) ?_ (fun i hi => ?_)
        · rw [ce_total ht heK] at this
          have hid : (fm_K v k).map (fun b => e.count b) = (fm_K v k).map (fun b => e.count (pm_im (List.range v) b)) := List.map_congr_left (fun b hb => by rw [pm_im_id (fm_K_mem.mp hb).1])
          rw [hid, ce_total pm_id heK] at this
          omega
        · have hi' : i < (fm_K v k).length := by omega
          have := h1 i hi
          rw [ce_row_at hi', idr i hi'] at this
          have := Int.ofNat.inj this
          simpa [List.getD_eq_getElem?_getD, List.getElem?_map, List.getElem?_eq_getElem hi'] using this
        · rw [idr j0 hj0, ce_row_at hj0] at h2
          have := Int.ofNat_lt.mp h2
          simpa [List.getD_eq_getElem?_getD, List.getElem?_map, List.getElem?_eq_getElem hj0] using this
        · by_cases hi' : i < (fm_K v k).length
          · have hbi : b < (fm_K v k).getD i 0 := by rw [← ejb]; exact fm_K_lt (by omega) hi'
            have : e.count ((fm_K v k).getD i 0) = 0 := List.count_eq_zero.mpr (fun q => by have := hle _ q; omega)
            simpa [List.getD_eq_getElem?_getD, List.getElem?_map, List.getElem?_eq_getElem hi'] using this
          · simp [List.getD_eq_getElem?_getD, List.getElem?_eq_none (show ((fm_K v k).map (fun b => e.count b)).length ≤ i by simpa using hi')]
    obtain ⟨j1, hj1, ej1⟩ := fm_K_ix (fm_K_im (pm_i_perm ht) hbK)
    have hb2 := (fm_K_mem.mp hbK).1
    have one : ∀ i, i < (fm_K v k).length → (pm_im t ((fm_K v k).getD i 0) = b ↔ i = j1) := by
      intro i hi
      constructor
      · intro q
        have hq : (fm_K v k).getD i 0 = (fm_K v k).getD j1 0 := by rw [ej1, ← q, pm_im_inv ht (fm_K_mem.mp (fm_K_at hi)).1]
        rcases Nat.lt_trichotomy i j1 with h | h | h
        · have := fm_K_lt h hj1; omega
        · exact h
        · have := fm_K_lt h hi; omega
      · rintro rfl
        rw [ej1, pm_im_inv2 ht hb2]
    have rx : ∀ (s : List Nat) (i : Nat), i < (fm_K v k).length → (ce_row (fm_K v k) (e ++ [b]) s).getD i 0 = (ce_row (fm_K v k) e s).getD i 0 + (if pm_im s ((fm_K v k).getD i 0) = b then 1 else 0) := by
      intro s i hi
      rw [ce_row_at hi, ce_row_at hi, List.count_append, List.count_singleton]
      by_cases hq : pm_im s ((fm_K v k).getD i 0) = b
      · rw [if_pos hq, if_pos (by rw [hq]; exact beq_self_eq_true b)]
        rfl
      · rw [if_neg hq, if_neg (fun z => hq (beq_iff_eq.mp z).symm)]
        rfl
    have rid : ∀ i, i < jb → (ce_row (fm_K v k) (e ++ [b]) (List.range v)).getD i 0 = (ce_row (fm_K v k) e (List.range v)).getD i 0 := by
      intro i hi
      have hi' : i < (fm_K v k).length := by omega
      rw [rx _ i hi', pm_im_id (fm_K_mem.mp (fm_K_at hi')).1, if_neg (fun q => by have := fm_K_lt hi hjb; omega)]
      omega
    have hlen : (ce_row (fm_K v k) (e ++ [b]) t).length = (ce_row (fm_K v k) (e ++ [b]) (List.range v)).length := by simp [ce_row, fm_row]
    have hlen2 : (ce_row (fm_K v k) (e ++ [b]) t).length = (fm_K v k).length := by simp [ce_row, fm_row]
    have hcon : lx_gt (ce_row (fm_K v k) (e ++ [b]) t) (ce_row (fm_K v k) (e ++ [b]) (List.range v)) = true := by
      rcases Nat.lt_or_ge j1 j0 with h | h
      · refine lx_at j1 _ _ hlen (fun i hi => ?_) (by omega) ?_
        · rw [rx t i (by omega), rid i (by omega), if_neg (fun q => by have := (one i (by omega)).mp q; omega), h1 i (by omega)]
          omega
        · rw [rx t j1 hj1, rid j1 (by omega), if_pos ((one j1 hj1).mpr rfl), h1 j1 h]
          omega
      · refine lx_at j0 _ _ hlen (fun i hi => ?_) (by omega) ?_
        · rw [rx t i (by omega), rid i (by omega), if_neg (fun q => by have := (one i (by omega)).mp q; omega), h1 i hi]
          omega
        · rw [rx t j0 hj0, rid j0 hlt]
          split <;> omega
    rw [hf t ht] at hcon
    cases hcon
theorem ce_L_mem : ∀ (n : Nat) (x : List Nat), x ∈ ce_L v k lam n ↔ x ∈ ce_U v k lam n ∧ ce_isf v (fm_K v k) x = true
  | 0, x => by
    simp only [ce_L, ce_U, List.mem_singleton]
    constructor
    · rintro rfl
      refine ⟨rfl, ?_⟩
      rw [ce_isf_iff]
      intro t _
      have : ce_row (fm_K v k) [] t = ce_row (fm_K v k) [] (List.range v) := by
        unfold ce_row
        rw [fm_row_eq]
        intro b _
        simp
      rw [this, lx_irr]
    · exact fun h => h.1
  | n + 1, x => by
    constructor
    · intro h
      refine ⟨ce_sub _ _ h, ?_⟩
      simp only [ce_L, ce_next, List.mem_flatMap, List.mem_map, List.mem_filter, Bool.and_eq_true, decide_eq_true_eq] at h
      obtain ⟨e, -, b, ⟨-, -, -, hf⟩, rfl⟩ := h
      exact hf
    · rintro ⟨hU, hf⟩
      have hU2 := hU
      simp only [ce_U, List.mem_flatMap, List.mem_map, ce_ext, List.mem_filter, Bool.and_eq_true, decide_eq_true_eq] at hU
      obtain ⟨e, he, b, ⟨hb, h1, h2⟩, rfl⟩ := hU
      simp only [ce_L, ce_next, List.mem_flatMap, List.mem_map, List.mem_filter, Bool.and_eq_true, decide_eq_true_eq]
      exact ⟨e, (ce_L_mem n e).mpr ⟨he, ce_init hU2 hf⟩, b, ⟨hb, h1, h2, hf⟩, rfl⟩
/-- the number of packings, by the list -/
theorem ce_labelled : (ce_U v k lam n).length = ((ce_L v k lam n).map (fun e => (pm_P v).length / ce_ord v k e)).sum := ce_count (ce_L_nodup n) (ce_L_mem n)
end CO
