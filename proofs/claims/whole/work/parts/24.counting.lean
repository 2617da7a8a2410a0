/-! COUNTING: each packing is like one entry; an entry has as many layings like it as all renamings by its order -/
theorem ct_swap {α β : Type} (r : α → β → Bool) (P : List α) : ∀ (X : List β), (X.map (fun x => P.countP (fun t => r t x))).sum = (P.map (fun t => X.countP (fun x => r t x))).sum
  | [] => by
    have : P.map (fun t => ([] : List β).countP (fun x => r t x)) = P.map (fun _ => 0) := List.map_congr_left (fun t _ => rfl)
    rw [this]
    clear this
    induction P with
    | nil => rfl
    | cons a P ih => simpa using ih
  | x :: X => by
    rw [List.map_cons, List.sum_cons, ct_swap r P X]
    clear ct_swap
    induction P with
    | nil => rfl
    | cons a P ih =>
      rw [List.map_cons, List.sum_cons, List.map_cons, List.sum_cons, List.countP_cons, List.countP_cons, ← ih]
      omega
theorem ct_one {α : Type} {l : List α} {q : α → Bool} (hn : l.Nodup) {a : α} (ha : a ∈ l) (hq : q a = true) (hu : ∀ b ∈ l, q b = true → b = a) : l.countP q = 1 := by
  induction l with
  | nil => cases ha
  | cons c l ih =>
    rw [List.countP_cons]
    have hn2 := List.nodup_cons.mp hn
    rcases List.mem_cons.mp ha with rfl | h
    · rw [if_pos hq, List.countP_eq_zero.mpr (fun b hb hqb => hn2.1 (by rw [← hu b (List.mem_cons_of_mem _ hb) hqb]; exact hb))]
    · have hc : ¬ q c = true := fun hqc => hn2.1 (by rw [hu c List.mem_cons_self hqc]; exact h)
      rw [if_neg hc, ih hn2.2 h (fun b hb => hu b (List.mem_cons_of_mem _ hb))]
theorem ct_const {α : Type} (l : List α) (g : α → Nat) (c : Nat) (h : ∀ a ∈ l, g a = c) : (l.map g).sum = l.length * c := by
  induction l with
  | nil => simp
  | cons a l ih =>
    rw [List.map_cons, List.sum_cons, h a List.mem_cons_self, ih (fun b hb => h b (List.mem_cons_of_mem _ hb)), List.length_cons, Nat.succ_mul]
    omega
theorem ct_ite {α : Type} (l : List α) (q : α → Bool) (g : α → Nat) (c : Nat) (h : ∀ a ∈ l, g a = if q a = true then c else 0) : (l.map g).sum = l.countP q * c := by
  induction l with
  | nil => simp
  | cons a l ih =>
    rw [List.map_cons, List.sum_cons, h a List.mem_cons_self, ih (fun b hb => h b (List.mem_cons_of_mem _ hb)), List.countP_cons]
    by_cases hq : q a = true
    · rw [if_pos hq, if_pos hq, Nat.succ_mul]; omega
    · rw [if_neg hq, if_neg hq, Nat.zero_add, Nat.add_zero]
section CT
variable {v k lam n : Nat}
theorem ce_lt {x : List Nat} (h : x ∈ ce_U v k lam n) : ∀ m ∈ x, m < 2 ^ v := fun m hm => (fm_K_mem.mp (((ce_U_mem n x).mp h).2.2.1 m hm)).1
theorem pm_id : (List.range v).Perm (List.range v) := List.Perm.refl _
theorem pm_i_i {t : List Nat} (ht : t.Perm (List.range v)) : pm_o t (pm_i v t) = List.range v := by
  refine pm_ext (pm_len (pm_o_perm ht (pm_i_perm ht))) List.length_range (fun p hp => ?_)
  rw [pm_o_at (by rw [pm_len (pm_i_perm ht)]; exact hp), (pm_i_lt ht hp).2, pm_range_at hp]
theorem pm_o_id {t : List Nat} (ht : t.Perm (List.range v)) : pm_o t (List.range v) = t := by
  refine pm_ext (pm_len (pm_o_perm ht pm_id)) (pm_len ht) (fun p hp => ?_)
  rw [pm_o_at (by rw [List.length_range]; exact hp), pm_range_at hp]
theorem pm_o_assoc {s t u : List Nat} (ht : t.Perm (List.range v)) (hu : u.Perm (List.range v)) (hs : s.Perm (List.range v)) : pm_o (pm_o s t) u = pm_o s (pm_o t u) := by
  refine pm_ext (pm_len (pm_o_perm (pm_o_perm hs ht) hu)) (pm_len (pm_o_perm hs (pm_o_perm ht hu))) (fun p hp => ?_)
  have h1 : p < u.length := by rw [pm_len hu]; exact hp
  have h2 : p < (pm_o t u).length := by rw [pm_len (pm_o_perm ht hu)]; exact hp
  have h3 : u.getD p 0 < t.length := by rw [pm_len ht]; exact pm_lt hu hp
  rw [pm_o_at h1, pm_o_at h2, pm_o_at h3, pm_o_at h1]
/-- rows of rows: what holds of one renaming holds behind any other -/
theorem ce_row_o {x y : List Nat} {t s : List Nat} (ht : t.Perm (List.range v)) (hs : s.Perm (List.range v)) (h : ce_row (fm_K v k) x t = ce_row (fm_K v k) y (List.range v)) : ce_row (fm_K v k) x (pm_o t s) = ce_row (fm_K v k) y s := by
  unfold ce_row at h ⊢
  rw [fm_row_eq] at h ⊢
  intro b hb
  have := h (pm_im s b) (fm_K_im hs hb)
  have this := this
  rw [pm_im_id (pm_im_lt hs b)] at this
  rw [pm_im_o ht hs]
  exact this
theorem ce_isf_iff {x : List Nat} : ce_isf v (fm_K v k) x = true ↔ ∀ t, t.Perm (List.range v) → lx_gt (ce_row (fm_K v k) x t) (ce_row (fm_K v k) x (List.range v)) = false := by
  simp only [ce_isf, List.all_eq_true, pm_P_mem, Bool.not_eq_true']
/-- x is like e -/
def ce_rel (v k : Nat) (e x : List Nat) : Bool := (pm_P v).any (fun t => ce_row (fm_K v k) e t == ce_row (fm_K v k) x (List.range v))
theorem ce_rel_iff {e x : List Nat} : ce_rel v k e x = true ↔ ∃ t, t.Perm (List.range v) ∧ ce_row (fm_K v k) e t = ce_row (fm_K v k) x (List.range v) := by
  simp only [ce_rel, List.any_eq_true, pm_P_mem, beq_iff_eq]
/-- the form of a packing -/
theorem ce_form {x : List Nat} (hx : x ∈ ce_U v k lam n) : ∃ e, e ∈ ce_U v k lam n ∧ ce_isf v (fm_K v k) e = true ∧ ce_rel v k e x = true := by
  have hf := lx_fold (ce_row (fm_K v k) x) (fm_K v k).length (fun t => ce_row_len) (pm_P v) (ce_row (fm_K v k) x (List.range v), 0) ce_row_len
  obtain ⟨t0, ht0, e0⟩ : ∃ t0, t0.Perm (List.range v) ∧ ce_row (fm_K v k) x t0 = ((pm_P v).foldl (lx_step (ce_row (fm_K v k) x)) (ce_row (fm_K v k) x (List.range v), 0)).1 := by
    rcases hf.2.2.2.1 with h | ⟨t, ht, h⟩
    · exact ⟨List.range v, pm_id, h.symm⟩
    · exact ⟨t, pm_P_mem.mp ht, h⟩
  have hmax : ∀ t, t.Perm (List.range v) → lx_gt (ce_row (fm_K v k) x t) (ce_row (fm_K v k) x t0) = false := by
    intro t ht
    rw [e0]
    exact hf.2.1 t (pm_P_mem.mpr ht)
  have hi := pm_i_perm ht0
  have hrow : ∀ s, s.Perm (List.range v) → ce_row (fm_K v k) (ce_act (pm_i v t0) x) s = ce_row (fm_K v k) x (pm_o t0 s) := by
    intro s hs
    rw [ce_act_row hi hs (ce_lt hx)]
    have : pm_i v (pm_i v t0) = t0 := by
      refine pm_ext (pm_len (pm_i_perm hi)) (pm_len ht0) (fun p hp => ?_)
      obtain ⟨q, hq, rfl⟩ := pm_sur hi hp
      rw [pm_i_at hi hq, (pm_i_lt ht0 hq).2]
    rw [this]
  refine ⟨ce_act (pm_i v t0) x, ce_U_act hi hx, ?_, ?_⟩
  · rw [ce_isf_iff]
    intro t ht
    rw [hrow t ht, hrow _ pm_id, pm_o_id ht0]
    exact hmax _ (pm_o_perm ht0 ht)
  · rw [ce_rel_iff]
    exact ⟨pm_i v t0, hi, by rw [hrow _ hi, pm_i_i ht0]⟩
theorem ce_form_u {e1 e2 x : List Nat} (h1 : e1 ∈ ce_U v k lam n) (h2 : e2 ∈ ce_U v k lam n) (f1 : ce_isf v (fm_K v k) e1 = true) (f2 : ce_isf v (fm_K v k) e2 = true) (r1 : ce_rel v k e1 x = true) (r2 : ce_rel v k e2 x = true) : e1 = e2 := by
  obtain ⟨t1, p1, q1⟩ := ce_rel_iff.mp r1
  obtain ⟨t2, p2, q2⟩ := ce_rel_iff.mp r2
  have a1 : ce_row (fm_K v k) e1 (pm_o t1 (pm_i v t2)) = ce_row (fm_K v k) e2 (List.range v) := by
    rw [ce_row_o p1 (pm_i_perm p2) q1, ← ce_row_o p2 (pm_i_perm p2) q2, pm_i_i p2]
  have a2 : ce_row (fm_K v k) e2 (pm_o t2 (pm_i v t1)) = ce_row (fm_K v k) e1 (List.range v) := by
    rw [ce_row_o p2 (pm_i_perm p1) q2, ← ce_row_o p1 (pm_i_perm p1) q1, pm_i_i p1]
  have b1 := ce_isf_iff.mp f1 _ (pm_o_perm p1 (pm_i_perm p2))
  have b2 := ce_isf_iff.mp f2 _ (pm_o_perm p2 (pm_i_perm p1))
  rw [a1] at b1
  rw [a2] at b2
  rcases lx_tri (ce_row (fm_K v k) e1 (List.range v)) (ce_row (fm_K v k) e2 (List.range v)) (by simp [ce_row, fm_row]) with h | h | h
  · exact ce_inj h1 h2 h
  · rw [b2] at h; cases h
  · rw [b1] at h; cases h
def ce_ord (v k : Nat) (e : List Nat) : Nat := fm_ord v (fm_K v k) (fun m => e.count m)
theorem ce_ord_pos {e : List Nat} : 0 < ce_ord v k e := by
  unfold ce_ord fm_ord
  rw [List.countP_pos_iff]
  exact ⟨List.range v, pm_P_mem.mpr pm_id, by simp⟩
theorem ce_orbit {e : List Nat} (he : e ∈ ce_U v k lam n) : (ce_U v k lam n).countP (fun x => ce_rel v k e x) * ce_ord v k e = (pm_P v).length := by
  have h1 : ((pm_P v).map (fun t => (ce_U v k lam n).countP (fun x => ce_row (fm_K v k) e t == ce_row (fm_K v k) x (List.range v)))).sum = (pm_P v).length * 1 := by
    refine ct_const _ _ _ (fun t ht => ?_)
    have ht := pm_P_mem.mp ht
    have hi := pm_i_perm ht
    have hrow : ce_row (fm_K v k) (ce_act (pm_i v t) e) (List.range v) = ce_row (fm_K v k) e t := by
      rw [ce_act_row hi pm_id (ce_lt he)]
      have : pm_i v (pm_i v t) = t := by
        refine pm_ext (pm_len (pm_i_perm hi)) (pm_len ht) (fun p hp => ?_)
        obtain ⟨q, hq, rfl⟩ := pm_sur hi hp
        rw [pm_i_at hi hq, (pm_i_lt ht hq).2]
      rw [this, pm_o_id ht]
    refine ct_one (ce_U_nodup n) (ce_U_act hi he) (by rw [hrow]; simp) (fun b hb hq => ?_)
    exact ce_inj hb (ce_U_act hi he) (by rw [hrow]; exact (beq_iff_eq.mp hq).symm)
  have h2 := ct_swap (fun t x => ce_row (fm_K v k) e t == ce_row (fm_K v k) x (List.range v)) (pm_P v) (ce_U v k lam n)
  rw [h1, Nat.mul_one] at h2
  rw [← h2]
  refine (ct_ite _ (fun x => ce_rel v k e x) _ _ (fun x hx => ?_)).symm
  by_cases hr : ce_rel v k e x = true
  · rw [if_pos hr]
    obtain ⟨s, hs, q⟩ := ce_rel_iff.mp hr
    rw [← q]
    exact fm_coset hs
  · rw [if_neg hr, List.countP_eq_zero]
    intro t ht q
    exact hr (ce_rel_iff.mpr ⟨t, pm_P_mem.mp ht, beq_iff_eq.mp q⟩)
/-- ALL PACKINGS, by the entries and their orders: whatever list L has each form once -/
theorem ce_count {L : List (List Nat)} (hn : L.Nodup) (hL : ∀ e, e ∈ L ↔ e ∈ ce_U v k lam n ∧ ce_isf v (fm_K v k) e = true) : (ce_U v k lam n).length = (L.map (fun e => (pm_P v).length / ce_ord v k e)).sum := by
  have h1 : ((ce_U v k lam n).map (fun x => L.countP (fun e => ce_rel v k e x))).sum = (ce_U v k lam n).length * 1 := by
    refine ct_const _ _ _ (fun x hx => ?_)
    obtain ⟨e, he, hf, hr⟩ := ce_form hx
    refine ct_one hn ((hL e).mpr ⟨he, hf⟩) hr (fun b hb hq => ?_)
    obtain ⟨hb1, hb2⟩ := (hL b).mp hb
    exact ce_form_u hb1 he hb2 hf hq hr
  rw [Nat.mul_one, ct_swap (fun e x => ce_rel v k e x)] at h1
  rw [← h1]
  congr 1
  refine List.map_congr_left (fun e he => ?_)
  rw [← ce_orbit ((hL e).mp he).1, Nat.mul_div_cancel _ ce_ord_pos]
end CT
