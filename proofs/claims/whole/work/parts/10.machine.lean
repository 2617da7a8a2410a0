/-! THE ABSTRACT MACHINE. A value is an int or a place of the world; a world is the int fields, the two reference fields that change, and the int arrays, by place. A method's transformer says from which arguments and world it comes to which answers and worlds. -/
abbrev ma_V : Type := Int32 ⊕ Nat
abbrev ma_W : Type := (Nat → Nat → Int32) × (Nat × Nat) × (Nat → Nat → Int32)
abbrev ma_P : Type := Int32 → ma_W → Prop
abbrev ma_T : Type := List ma_V → ma_W → ma_P → Prop
abbrev ma_L : Type := List (Option ma_V)
abbrev ma_G : Type := Nat → ma_L → List ma_V → ma_W → Prop
abbrev ma_C : Type := List (ClassFile.Instr × Nat)
def ma_up {α : Type} (f : Nat → Nat → α) (p k : Nat) (x : α) : Nat → Nat → α := fun q j => if q = p ∧ j = k then x else f q j
theorem ma_up_s {α : Type} (f : Nat → Nat → α) (p k : Nat) (x : α) : ma_up f p k x p k = x := by simp [ma_up]
theorem ma_up_p {α : Type} (f : Nat → Nat → α) {p q : Nat} (k j : Nat) (x : α) (h : q ≠ p) : ma_up f p k x q j = f q j := by simp [ma_up, h]
theorem ma_up_q {α : Type} (f : Nat → Nat → α) {p q : Nat} (k : Nat) (x : α) (h : q ≠ p) : ma_up f p k x q = f q := by funext j; simp [ma_up, h]
theorem ma_up_k {α : Type} (f : Nat → Nat → α) (p q : Nat) {k j : Nat} (x : α) (h : j ≠ k) : ma_up f p k x q j = f q j := by simp [ma_up, h]
/-- a value on the machine: place p lies at the address ad p -/
def ma_cv (ad : Nat → Nat) (v : ma_V) : Value := match v with
  | .inl x => .int x
  | .inr p => .ref (ad p)
theorem ma_cat (ad : Nat → Nat) (v : ma_V) : (ma_cv ad v).category = 1 := by cases v <;> rfl
/-- kinds of fields: 0 int, 1 boolean, 2 a reference -/
def ma_fv (ad : Nat → Nat) (w : ma_W) (p k t : Nat) : Value := if t = 2 then .ref (ad (zr w.2.1 p k)) else .int (w.1 p k)
def ma_fs (ad : Nat → Nat) (w : ma_W) (p : Nat) (ts : List Nat) : List Value := (List.range ts.length).map (fun k => ma_fv ad w p k (ts.getD k 0))
def ma_el (ad : Nat → Nat) (cA : ClassId) (w : ma_W) (p : Nat) : va_E := match zc_sh p with
  | .inl c => .inr (c, ma_fs ad w p (zc_fk c))
  | .inr n => .inl (cA, n, .inl (w.2.2 p))
def ma_cw (ad : Nat → Nat) (cA : ClassId) (w : ma_W) : va_W := (List.range 33).map (fun p => (ad p, ma_el ad cA w p))
theorem ma_fs_len (ad : Nat → Nat) (w : ma_W) (p : Nat) (ts : List Nat) : (ma_fs ad w p ts).length = ts.length := by simp [ma_fs]
theorem ma_fs_get (ad : Nat → Nat) (w : ma_W) (p : Nat) (ts : List Nat) {k : Nat} (h : k < ts.length) : (ma_fs ad w p ts)[k]? = some (ma_fv ad w p k (ts.getD k 0)) := by simp [ma_fs, h]
section MA1
variable {ad : Nat → Nat} {cA : ClassId} {w w' : ma_W} {p : Nat}
theorem ma_cw_len : (ma_cw ad cA w).length = 33 := by simp [ma_cw]
theorem ma_cw_get (h : p < 33) : (ma_cw ad cA w)[p]? = some (ad p, ma_el ad cA w p) := by simp [ma_cw, h]
theorem ma_cw_of {k : Nat} {q : Nat × va_E} (h : (ma_cw ad cA w)[k]? = some q) : k < 33 ∧ q = (ad k, ma_el ad cA w k) := by
  have hk : k < 33 := by
    have := (List.getElem?_eq_some_iff.mp h).1
    rwa [ma_cw_len] at this
  rw [ma_cw_get hk] at h
  exact ⟨hk, (Option.some.inj h).symm⟩
theorem ma_cw_set {e : va_E} (hp : p < 33) (he : ma_el ad cA w' p = e) (ho : ∀ q, q ≠ p → ma_el ad cA w' q = ma_el ad cA w q) : (ma_cw ad cA w).set p (ad p, e) = ma_cw ad cA w' := by
  apply List.ext_getElem?
  intro k
  by_cases hk : k = p
  · subst hk
    rw [List.getElem?_set_self (by rw [ma_cw_len]; exact hp), ma_cw_get hp, he]
  · rw [List.getElem?_set_ne (Ne.symm hk)]
    by_cases hN : k < 33
    · rw [ma_cw_get hN, ma_cw_get hN, ho k hk]
    · rw [List.getElem?_eq_none (by rw [ma_cw_len]; omega), List.getElem?_eq_none (by rw [ma_cw_len]; omega)]
/-- the world behind a store of an int field -/
theorem ma_set_i {c k : Nat} {x : Int32} (hp : p < 33) (hs : zc_sh p = .inl c) (hk : k < (zc_fk c).length) (ht : (zc_fk c).getD k 0 ≠ 2) :
    (ma_cw ad cA w).set p (ad p, .inr (c, (ma_fs ad w p (zc_fk c)).set k (.int x))) = ma_cw ad cA (ma_up w.1 p k x, w.2) := by
  refine ma_cw_set hp ?_ ?_
  · simp only [ma_el, hs]
    refine congrArg (fun z => Sum.inr (c, z)) ?_
    apply List.ext_getElem?
    intro j
    by_cases hj : j = k
    · subst hj
      rw [List.getElem?_set_self (by rw [ma_fs_len]; exact hk), ma_fs_get _ _ _ _ hk, ma_fv, if_neg ht]
      simp [ma_up]
    · rw [List.getElem?_set_ne (Ne.symm hj)]
      by_cases hl : j < (zc_fk c).length
      · rw [ma_fs_get _ _ _ _ hl, ma_fs_get _ _ _ _ hl]
        simp [ma_fv, ma_up, hj]
      · rw [List.getElem?_eq_none (by rw [ma_fs_len]; omega), List.getElem?_eq_none (by rw [ma_fs_len]; omega)]
  · intro q hq
    cases h : zc_sh q with
    | inl d => simp [ma_el, h, ma_fs, ma_fv, ma_up, hq]
    | inr n => simp [ma_el, h]
/-- .. of a reference field: there are two that change -/
theorem ma_set_r {k y : Nat} {r : Nat × Nat} (hk : k < 12) (hr : zr r 0 k = y) (hz : ∀ q j, ¬ (q = 0 ∧ j = k) → zr r q j = zr w.2.1 q j) (ht : (zc_fk 0).getD k 0 = 2) :
    (ma_cw ad cA w).set 0 (ad 0, .inr (0, (ma_fs ad w 0 (zc_fk 0)).set k (.ref (ad y)))) = ma_cw ad cA (w.1, r, w.2.2) := by
  have h12 : (zc_fk 0).length = 12 := rfl
  refine ma_cw_set (by decide) ?_ ?_
  · show Sum.inr (0, ma_fs ad (w.1, r, w.2.2) 0 (zc_fk 0)) = _
    refine congrArg (fun z => Sum.inr (0, z)) ?_
    apply List.ext_getElem?
    intro j
    by_cases hj : j = k
    · subst hj
      rw [List.getElem?_set_self (by rw [ma_fs_len, h12]; exact hk), ma_fs_get _ _ _ _ (by rw [h12]; exact hk), ma_fv, if_pos ht]
      simp only [hr]
    · rw [List.getElem?_set_ne (Ne.symm hj)]
      by_cases hl : j < (zc_fk 0).length
      · rw [ma_fs_get _ _ _ _ hl, ma_fs_get _ _ _ _ hl]
        simp only [ma_fv]
        rw [hz 0 j (fun e => hj e.2)]
      · rw [List.getElem?_eq_none (by rw [ma_fs_len]; omega), List.getElem?_eq_none (by rw [ma_fs_len]; omega)]
  · intro q hq
    cases h : zc_sh q with
    | inl d =>
      simp only [ma_el, h]
      refine congrArg (fun z => Sum.inr (d, z)) ?_
      simp only [ma_fs]
      refine List.map_congr_left (fun j _ => ?_)
      simp only [ma_fv]
      rw [hz q j (fun e => hq e.1)]
    | inr n => simp [ma_el, h]
/-- .. of an array's element -/
theorem ma_set_a {n i : Nat} {x : Int32} (hp : p < 33) (hs : zc_sh p = .inr n) :
    (ma_cw ad cA w).set p (ad p, .inl (cA, n, .inl (upd (w.2.2 p) i x))) = ma_cw ad cA (w.1, w.2.1, ma_up w.2.2 p i x) := by
  refine ma_cw_set hp ?_ ?_
  · simp only [ma_el, hs]
    refine congrArg (fun z => Sum.inl (cA, n, Sum.inl z)) ?_
    funext j
    simp [ma_up, upd]
  · intro q hq
    cases h : zc_sh q with
    | inl d => simp [ma_el, h, ma_fs, ma_fv]
    | inr n =>
      simp only [ma_el, h]
      rw [ma_up_q _ _ _ hq]
end MA1
/-- which cells a method may change -/
def ma_A (ad : Nat → Nat) (sz : Nat) : Nat → Prop := fun q => (∃ p, p < 33 ∧ q = ad p) ∨ sz ≤ q
/-- the places lie apart -/
def ma_D (ad : Nat → Nat) : Prop := ∀ i j, i < 33 → j < 33 → ad i = ad j → i = j
theorem ma_D.d {ad : Nat → Nat} {cA : ClassId} {w : ma_W} {A : Nat → Prop} (h : ma_D ad) (hA : ∀ p, p < 33 → A (ad p)) : va_D A (ma_cw ad cA w) := by
  refine ⟨fun i j p q hi hj hpq => ?_, fun k q hk => ?_⟩
  · obtain ⟨h1, rfl⟩ := ma_cw_of hi
    obtain ⟨h2, rfl⟩ := ma_cw_of hj
    exact h i j h1 h2 hpq
  · obtain ⟨h1, rfl⟩ := ma_cw_of hk
    exact hA k h1
/-! locals -/
def ma_loc (ad : Nat → Nat) (ls : Array Slot) (L : ma_L) : Prop := ls.size = L.length ∧ lv_wf ls ∧ ∀ (k : Nat) (v : ma_V), L[k]? = some (some v) → ls[k]? = some (.val (ma_cv ad v))
def ma_kn (ad : Nat → Nat) (L : ma_L) : List (Nat × Value) := (List.range L.length).filterMap (fun k => match L[k]? with
  | some (some v) => some (k, ma_cv ad v)
  | _ => none)
theorem ma_kn_mem {ad : Nat → Nat} {L : ma_L} {q : Nat × Value} : q ∈ ma_kn ad L ↔ ∃ (k : Nat) (v : ma_V), L[k]? = some (some v) ∧ q = (k, ma_cv ad v) := by
  unfold ma_kn
  rw [List.mem_filterMap]
  constructor
  · rintro ⟨k, -, h⟩
    split at h
    · rename_i v hv
      exact ⟨k, v, hv, (Option.some.inj h).symm⟩
    · cases h
  · rintro ⟨k, v, hv, rfl⟩
    refine ⟨k, List.mem_range.mpr (List.getElem?_eq_some_iff.mp hv).1, ?_⟩
    rw [hv]
theorem ma_loc.has {ad : Nat → Nat} {ls : Array Slot} {L : ma_L} (h : ma_loc ad ls L) : lv_has ls L.length (ma_kn ad L) := by
  refine ⟨h.1, h.2.1, fun q hq => ?_⟩
  obtain ⟨k, v, hv, rfl⟩ := ma_kn_mem.mp hq
  exact h.2.2 k v hv
theorem ma_loc.set {ad : Nat → Nat} {ls' : Array Slot} {L : ma_L} {i : Nat} {v : ma_V} (h : lv_has ls' L.length ((i, ma_cv ad v) :: (ma_kn ad L).filter (fun q => !(q.1 == i) && !(q.1 + 1 == i && q.2.category == 2)))) : ma_loc ad ls' (L.set i (some v)) := by
  refine ⟨by rw [h.1, List.length_set], h.2.1, fun k u hk => ?_⟩
  by_cases hki : k = i
  · subst hki
    have hl : k < L.length := by
      have := (List.getElem?_eq_some_iff.mp hk).1
      rwa [List.length_set] at this
    rw [List.getElem?_set_self hl] at hk
    cases hk
    exact h.2.2 _ List.mem_cons_self
  · rw [List.getElem?_set_ne (Ne.symm hki)] at hk
    refine h.2.2 (k, ma_cv ad u) (List.mem_cons_of_mem _ (List.mem_filter.mpr ⟨ma_kn_mem.mpr ⟨k, u, hk, rfl⟩, ?_⟩))
    simp [hki, ma_cat]
/-! the transformer of a run of instructions -/
def ma_look {α : Type} : List (Nat × α) → Nat → Option α
  | [], _ => none
  | (a, b) :: l, i => if a = i then some b else ma_look l i
theorem ma_look_mem {α : Type} {i : Nat} {b : α} : ∀ {l : List (Nat × α)}, ma_look l i = some b → (i, b) ∈ l
  | [], h => by simp [ma_look] at h
  | (a, c) :: l, h => by
    unfold ma_look at h
    split at h
    · rename_i e
      cases h
      subst e
      exact List.mem_cons_self
    · exact List.mem_cons_of_mem _ (ma_look_mem h)
def ma_o {α : Type} (o : Option α) (f : α → Prop) : Prop := match o with
  | some a => f a
  | none => False
theorem ma_o_spec {α : Type} {o : Option α} {f : α → Prop} (h : ma_o o f) : ∃ a, o = some a ∧ f a := by
  cases o with
  | none => exact h.elim
  | some a => exact ⟨a, rfl, h⟩
def ma_rd (L : ma_L) (k : Nat) (f : ma_V → Prop) : Prop := match L[k]? with
  | some (some v) => f v
  | _ => False
theorem ma_rd_spec {L : ma_L} {k : Nat} {f : ma_V → Prop} (h : ma_rd L k f) : ∃ v, L[k]? = some (some v) ∧ f v := by
  unfold ma_rd at h
  split at h
  · rename_i v hv
    exact ⟨v, hv, h⟩
  · exact h.elim
def ma_I (v : ma_V) (f : Int32 → Prop) : Prop := match v with
  | .inl x => f x
  | .inr _ => False
def ma_R (v : ma_V) (f : Nat → Prop) : Prop := match v with
  | .inl _ => False
  | .inr p => f p
theorem ma_I_spec {v : ma_V} {f : Int32 → Prop} (h : ma_I v f) : ∃ x, v = .inl x ∧ f x := by
  cases v with
  | inl x => exact ⟨x, rfl, h⟩
  | inr p => exact h.elim
theorem ma_R_spec {v : ma_V} {f : Nat → Prop} (h : ma_R v f) : ∃ p, v = .inr p ∧ f p := by
  cases v with
  | inl x => exact h.elim
  | inr p => exact ⟨p, rfl, h⟩
def ma_1 (S : List ma_V) (f : ma_V → List ma_V → Prop) : Prop := match S with
  | v :: S => f v S
  | [] => False
theorem ma_1_spec {S : List ma_V} {f : ma_V → List ma_V → Prop} (h : ma_1 S f) : ∃ v S', S = v :: S' ∧ f v S' := by
  cases S with
  | nil => exact h.elim
  | cons v S => exact ⟨v, S, rfl, h⟩
/-- the int on top -/
def ma_i1 (S : List ma_V) (f : Int32 → List ma_V → Prop) : Prop := ma_1 S fun v S => ma_I v fun x => f x S
theorem ma_i1_spec {S : List ma_V} {f : Int32 → List ma_V → Prop} (h : ma_i1 S f) : ∃ x S', S = .inl x :: S' ∧ f x S' := by
  obtain ⟨v, S', e, h1⟩ := ma_1_spec h
  obtain ⟨x, e2, h2⟩ := ma_I_spec h1
  exact ⟨x, S', by rw [e, e2], h2⟩
/-- two ints: the upper is y -/
def ma_i2 (S : List ma_V) (f : Int32 → Int32 → List ma_V → Prop) : Prop := ma_i1 S fun y S => ma_i1 S fun x S => f x y S
theorem ma_i2_spec {S : List ma_V} {f : Int32 → Int32 → List ma_V → Prop} (h : ma_i2 S f) : ∃ x y S', S = .inl y :: .inl x :: S' ∧ f x y S' := by
  obtain ⟨y, S', e, h1⟩ := ma_i1_spec h
  obtain ⟨x, S2, e2, h2⟩ := ma_i1_spec h1
  exact ⟨x, y, S2, by rw [e, e2], h2⟩
def ma_r1 (S : List ma_V) (f : Nat → List ma_V → Prop) : Prop := ma_1 S fun v S => ma_R v fun x => f x S
theorem ma_r1_spec {S : List ma_V} {f : Nat → List ma_V → Prop} (h : ma_r1 S f) : ∃ x S', S = .inr x :: S' ∧ f x S' := by
  obtain ⟨v, S', e, h1⟩ := ma_1_spec h
  obtain ⟨x, e2, h2⟩ := ma_R_spec h1
  exact ⟨x, S', by rw [e, e2], h2⟩
def ma_b (b : Bool) (K : Prop) : Prop := match b with
  | true => K
  | false => False
theorem ma_b_spec {b : Bool} {K : Prop} (h : ma_b b K) : b = true ∧ K := by
  cases b with
  | false => exact h.elim
  | true => exact ⟨rfl, h⟩
def ma_cmp (c : ClassFile.Cond) (x y : Int32) : Prop := match c with
  | .eq => x = y
  | .ne => ¬ x = y
  | .lt => x < y
  | .ge => y ≤ x
  | .gt => y < x
  | .le => x ≤ y
def ma_tg (pc : Nat) (off : Int) : Nat := ((pc : Int) + off).toNat
/-- the place p holds an object of the kind c -/
def ma_isk (c p : Nat) (K : Prop) : Prop := match zc_sh p with
  | .inl d => ma_b (Nat.beq d c) K
  | .inr _ => False
theorem ma_isk_spec {c p : Nat} {K : Prop} (h : ma_isk c p K) : p < 33 ∧ zc_sh p = .inl c ∧ K := by
  unfold ma_isk at h
  split at h
  · rename_i d hd
    obtain ⟨h1, h2⟩ := ma_b_spec h
    rw [Nat.eq_of_beq_eq_true h1] at hd
    exact ⟨zc_sh_l hd, hd, h2⟩
  · exact h.elim
theorem ma_isk_of {c p : Nat} {K : Prop} (h : zc_sh p = .inl c) : ma_isk c p K = K := by
  unfold ma_isk
  rw [h]
  show ma_b (Nat.beq c c) K = K
  rw [Nat.beq_refl]
  rfl
/-- .. an array -/
def ma_ark (p : Nat) (f : Nat → Prop) : Prop := match zc_sh p with
  | .inr n => f n
  | .inl _ => False
theorem ma_ark_spec {p : Nat} {f : Nat → Prop} (h : ma_ark p f) : ∃ n, zc_sh p = .inr n ∧ f n := by
  unfold ma_ark at h
  split at h
  · rename_i n hn
    exact ⟨n, hn, h⟩
  · exact h.elim
theorem ma_ark_of {p n : Nat} {f : Nat → Prop} (h : zc_sh p = .inr n) : ma_ark p f = f n := by
  unfold ma_ark
  rw [h]
/-- an index -/
def ma_ix (i : Int32) (n : Nat) (f : Nat → Prop) : Prop := ∃ j : Nat, j < n ∧ i = nI j ∧ f j
/-- the script, where there is one: its place, its length, its ints -/
abbrev ma_S : Type := Option (Nat × Nat × (Nat → Int32))
def ma_ld (sc : ma_S) (w : ma_W) (p : Nat) (i : Int32) (f : Int32 → Prop) : Prop := match sc with
  | none => ma_ark p fun n => ma_ix i n fun j => f (w.2.2 p j)
  | some (q, n, xs) => match Nat.beq p q with
    | true => ma_ix i n fun j => f (xs j)
    | false => ma_ark p fun n => ma_ix i n fun j => f (w.2.2 p j)
def ma_psh (rv : Bool) (x : Int32) (S : List ma_V) : List ma_V := match rv with
  | true => .inl x :: S
  | false => S
/-- a method that is called: how many words it takes, the kind of its receiver (none: it is static), whether it answers, its transformer -/
abbrev ma_E : Type := List (Nat × Nat × Option Nat × Bool × ma_T)
/-- a field: the kind of its object, its number, its kind -/
abbrev ma_F : Type := List (Nat × Nat × Nat × Nat)
/-- kinds in ma_F: 0 int, 1 boolean, 2 a reference, 3 a final reference -/
def ma_gf (w : ma_W) (p k t : Nat) : ma_V := match t with
  | 0 => .inl (w.1 p k)
  | 1 => .inl (w.1 p k)
  | _ => .inr (zr w.2.1 p k)
def ma_pr (w : ma_W) (p k q : Nat) (f : ma_W → Prop) : Prop := match Nat.beq p 0, k with
  | true, 5 => f (w.1, (q, w.2.1.2), w.2.2)
  | true, 6 => f (w.1, (w.2.1.1, q), w.2.2)
  | _, _ => False
def ma_pf (w : ma_W) (p k t : Nat) (v : ma_V) (f : ma_W → Prop) : Prop := match t with
  | 0 => ma_I v fun x => f (ma_up w.1 p k x, w.2)
  | 1 => ma_I v fun x => (x = 0 ∨ x = 1) ∧ f (ma_up w.1 p k x, w.2)
  | 2 => ma_R v fun q => ma_pr w p k q f
  | _ => False
/-- a constant -/
def ma_k (j : Int) : Int32 := match j with
  | .ofNat n => nI n
  | .negSucc n => Int32.ofInt (.negSucc n)
/-- the ends of a method -/
def ma_ir (rt : Nat) (post : ma_P) (S : List ma_V) (w : ma_W) : Prop := match S, rt with
  | [.inl x], 1 => post x w
  | [.inl x], 2 => (x = 0 ∨ x = 1) ∧ post x w
  | _, _ => False
def ma_vr (rt : Nat) (post : ma_P) (S : List ma_V) (w : ma_W) : Prop := match S, rt with
  | [], 0 => post 0 w
  | _, _ => False
theorem ma_ir_spec {rt : Nat} {post : ma_P} {S : List ma_V} {w : ma_W} (h : ma_ir rt post S w) : ∃ x, S = [.inl x] ∧ (rt = 1 ∨ (rt = 2 ∧ (x = 0 ∨ x = 1))) ∧ post x w := by
  unfold ma_ir at h
  split at h
  · exact ⟨_, rfl, Or.inl rfl, h⟩
  · exact ⟨_, rfl, Or.inr ⟨rfl, h.1⟩, h.2⟩
  · exact h.elim
theorem ma_vr_spec {rt : Nat} {post : ma_P} {S : List ma_V} {w : ma_W} (h : ma_vr rt post S w) : S = [] ∧ rt = 0 ∧ post 0 w := by
  unfold ma_vr at h
  split at h
  · exact ⟨rfl, rfl, h⟩
  · exact h.elim
/-- one instruction; Go: behind a jump; k: at the next instruction; rt: the method answers 0 nothing, 1 an int, 2 a boolean -/
def ma_stp (K : List (Nat × Int32)) (F : ma_F) (E : ma_E) (sc : ma_S) (rt : Nat) (post : ma_P) (Go : ma_G) (i : ClassFile.Instr) (pc : Nat) (k : ma_L → List ma_V → ma_W → Prop) (L : ma_L) (S : List ma_V) (w : ma_W) : Prop := match i with
  | .iconst j => k L (.inl (ma_k j) :: S) w
  | .bipush j => k L (.inl (ma_k j) :: S) w
  | .sipush j => k L (.inl (ma_k j) :: S) w
  | .ldc j => ma_o (ma_look K j) fun x => k L (.inl x :: S) w
  | .ldc_w j => ma_o (ma_look K j) fun x => k L (.inl x :: S) w
  | .iload j => ma_rd L j fun v => ma_I v fun x => k L (.inl x :: S) w
  | .iload_n j => ma_rd L j.val fun v => ma_I v fun x => k L (.inl x :: S) w
  | .aload j => ma_rd L j fun v => ma_R v fun x => k L (.inr x :: S) w
  | .aload_n j => ma_rd L j.val fun v => ma_R v fun x => k L (.inr x :: S) w
  | .istore j => ma_i1 S fun x S => ma_b (Nat.blt j L.length) (k (L.set j (some (.inl x))) S w)
  | .istore_n j => ma_i1 S fun x S => ma_b (Nat.blt j.val L.length) (k (L.set j.val (some (.inl x))) S w)
  | .astore j => ma_r1 S fun x S => ma_b (Nat.blt j L.length) (k (L.set j (some (.inr x))) S w)
  | .astore_n j => ma_r1 S fun x S => ma_b (Nat.blt j.val L.length) (k (L.set j.val (some (.inr x))) S w)
  | .iinc j d => ma_rd L j fun v => ma_I v fun x => k (L.set j (some (.inl (x + ma_k d)))) S w
  | .iadd => ma_i2 S fun x y S => k L (.inl (x + y) :: S) w
  | .isub => ma_i2 S fun x y S => k L (.inl (x - y) :: S) w
  | .imul => ma_i2 S fun x y S => k L (.inl (x * y) :: S) w
  | .iand => ma_i2 S fun x y S => k L (.inl (x &&& y) :: S) w
  | .ior => ma_i2 S fun x y S => k L (.inl (x ||| y) :: S) w
  | .ixor => ma_i2 S fun x y S => k L (.inl (x ^^^ y) :: S) w
  | .ishl => ma_i2 S fun x y S => k L (.inl (x <<< (y &&& 31)) :: S) w
  | .ishr => ma_i2 S fun x y S => k L (.inl (x >>> (y &&& 31)) :: S) w
  | .iushr => ma_i2 S fun x y S => k L (.inl ((x.toUInt32 >>> (y.toUInt32 &&& Int32.toUInt32 31)).toInt32) :: S) w
  | .idiv => ma_i2 S fun x y S => ¬ y = 0 ∧ k L (.inl (x / y) :: S) w
  | .irem => ma_i2 S fun x y S => ¬ y = 0 ∧ k L (.inl (x - x / y * y) :: S) w
  | .ineg => ma_i1 S fun x S => k L (.inl (-x) :: S) w
  | .dup => ma_1 S fun a S => k L (a :: a :: S) w
  | .dup2 => ma_1 S fun a S => ma_1 S fun b S => k L (a :: b :: a :: b :: S) w
  | .pop => ma_1 S fun _ S => k L S w
  | .goto d => Go (ma_tg pc d) L S w
  | .ifCond c d => ma_i1 S fun x S => (ma_cmp c x (nI 0) → Go (ma_tg pc d) L S w) ∧ (¬ ma_cmp c x (nI 0) → k L S w)
  | .if_icmp c d => ma_i2 S fun x y S => (ma_cmp c x y → Go (ma_tg pc d) L S w) ∧ (¬ ma_cmp c x y → k L S w)
  | .getfield j => ma_o (ma_look F j) fun q => ma_r1 S fun p S => ma_isk q.1 p (k L (ma_gf w p q.2.1 q.2.2 :: S) w)
  | .putfield j => ma_o (ma_look F j) fun q => ma_1 S fun v S => ma_r1 S fun p S => ma_isk q.1 p (ma_pf w p q.2.1 q.2.2 v fun w => k L S w)
  | .iaload => ma_i1 S fun i S => ma_r1 S fun p S => ma_ld sc w p i fun x => k L (.inl x :: S) w
  | .iastore => ma_i2 S fun i x S => ma_r1 S fun p S => ma_ark p fun m => ma_ix i m fun j => k L S (w.1, w.2.1, ma_up w.2.2 p j x)
  | .arraylength => ma_r1 S fun p S => ma_o sc fun q => p = q.1 ∧ k L (.inl (nI q.2.1) :: S) w
  | .invokevirtual j => ma_o (ma_look E j) fun q => ma_o q.2.1 fun c => ma_b (Nat.ble q.1 S.length && Nat.ble (S.drop q.1).length 8) (ma_o ((S.take q.1).getLast?) fun v => ma_R v fun p => ma_isk c p (q.2.2.2 (S.take q.1).reverse w fun x w => k L (ma_psh q.2.2.1 x (S.drop q.1)) w))
  | .invokestatic j => ma_o (ma_look E j) fun q => ma_b (q.2.1.isNone && (Nat.ble q.1 S.length && Nat.ble (S.drop q.1).length 8)) (q.2.2.2 (S.take q.1).reverse w fun x w => k L (ma_psh q.2.2.1 x (S.drop q.1)) w)
  | .tableswitch d lo hi offs => ma_i1 S fun x S => (x.toInt < lo ∨ hi < x.toInt → Go (ma_tg pc d) L S w) ∧ (¬ x.toInt < lo → ¬ hi < x.toInt → ma_o (offs[(x.toInt - lo).toNat]?) fun o => Go (ma_tg pc o) L S w)
  | .ireturn => ma_ir rt post S w
  | .return_ => ma_vr rt post S w
  | _ => False
/-- a run of instructions -/
def ma_wp (K : List (Nat × Int32)) (F : ma_F) (E : ma_E) (sc : ma_S) (rt : Nat) (post : ma_P) (Go : ma_G) : ma_C → Nat → ma_L → List ma_V → ma_W → Prop
  | [], pc, L, S, w => Go pc L S w
  | (i, n) :: r, pc, L, S, w => ma_stp K F E sc rt post Go i pc (fun L S w => ma_wp K F E sc rt post Go r (pc + n) L S w) L S w
/-- lengths and targets as the rows want them -/
def ma_lok (pc : Nat) (i : ClassFile.Instr) (n : Nat) : Bool := match i with
  | .iconst j => n == 1 && decide (Int32.ofInt j = ma_k j)
  | .bipush j => n == 2 && decide ((Int8.ofInt j).toInt32 = ma_k j)
  | .sipush j => n == 3 && decide ((Int16.ofInt j).toInt32 = ma_k j)
  | .iinc _ d => n == 3 && decide (Int32.ofInt d = ma_k d)
  | .ldc _ | .iload _ | .aload _ | .istore _ | .astore _ => n == 2
  | .ldc_w _ | .getfield _ | .putfield _ | .invokevirtual _ | .invokestatic _ => n == 3
  | .goto d | .ifCond _ d | .if_icmp _ d => n == 3 && decide (0 ≤ (pc : Int) + d)
  | .tableswitch d _ _ offs => decide (0 ≤ (pc : Int) + d) && offs.toList.all (fun o => decide (0 ≤ (pc : Int) + o))
  | _ => n == 1
def ma_dec (cc : ByteArray) : Nat → ma_C → Bool
  | _, [] => true
  | pc, (i, n) :: r => decide (decode cc pc = .ok (i, n)) && (ma_lok pc i n && ma_dec cc (pc + n) r)
