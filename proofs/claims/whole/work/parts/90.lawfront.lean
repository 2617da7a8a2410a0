/-! THE CLAIM OUT OF ONE WALK OF THE LAW'S BODY. Your part is whole_start (and what it stands on); all else here is the same for every law, but numbers. -/
def R_law : String := "PackingCensusLaw"
def lw_P (b : Addr) (xs : List Int32) (args : Array Value) (s : State) : Prop := args = #[.ref b] ∧ s.IntsAt b xs ∧ xs.length ≤ 2048 ∧ (Jvm.Cond.and given_1 narrow_1).before args s = true
def lw_Q (_ : Array Value) (s : State) (o : Outcome) (t : State) : Prop := o = .returned (some (.int 1)) ∧ Framed s o t [] 600000 7302250
def lw_Z (below : List Frame) (a : Array Value) (s : State) : State → Prop := fun t => ∃ o, t.status = .running ∧ Ended t below o ∧ lw_Q a s o t
/-- the law's own end, with 1 on the stack, nothing written that was there before, its room as the claim has it -/
theorem lw_ret {p : Program} {l : Launch} {e : Env} {s : State} {m : MethodId} {below : List Frame} {meth : Method} {c : Code} {b : Nat} (hx : p.tables.exec = Jvm.exec) (hb : c.code = code) (hr : meth.sig.returnType = ret) (hlocks : meth.locks = false) {pc : Nat} {H : Heap} {ls : Array Slot} (hdg : decode code pc = .ok (.ireturn, 1)) : W p l e room_1 s m #[Value.ref b] below meth c H [] 600000 7302250 (lw_Z below #[Value.ref b] s) (F0 m pc ls [.int 1]) := by
  intro T hT X
  obtain ⟨fs, hret, hrun, hended, hW, hframe⟩ := X.leave (v := some (.int 1)) (hlocks := hlocks) (fun h => by rw [hr] at h; cases h)
  have hmeth' : T.vm.method? m = some meth := X.method'
  refine ⟨T.setFrames fs, ?_, .returned (some (.int 1)), hrun, hended, rfl, ⟨_, rfl⟩, hW, hframe⟩
  jvm_step X.here [X.here.top, hx, hb, hdg, hmeth', hr, ret, narrow_b1]
  (try refine ⟨rfl, ?_⟩); (try refine ⟨rfl, ?_⟩)
  first | (intro acts; rw [hret _ acts rfl rfl rfl]) | rw [hret _ _ rfl rfl rfl]
  exact Steps.refl _
/-- what holds at the law's entry: the machine, the code, the tables' words (any of lw_tbl by 'hts w (by decide +kernel)'), the script of L ints xs at the cell b, what the Statement gives of the start (any of its parts by flat_of_before) -/
def lw_At (p : Program) (s : State) (m : MethodId) (meth : Method) (c : Code) (b L : Nat) (xs : Nat → Int32) : Prop :=
  p.tables.exec = Jvm.exec ∧ c.code = code ∧ meth.sig.returnType = ret ∧ c.maxLocals = 4 ∧ s.vm.findClass R_law = some m.cls ∧ (∀ w ∈ lw_tbl, w.before #[Value.ref b] s = true) ∧ va_X b L xs s s.heap ∧ b < s.heap.size ∧ meth.locks = false ∧ (Jvm.Cond.and given_1 narrow_1).before #[Value.ref b] s = true
/-! THE LAW ON THE MACHINE -/
theorem zl_K {s : State} {args : Array Value} (hts : ∀ w ∈ w_PC_init :: zw_t, w.before args s = true) : ∃ (D : va_G) (cA : ClassId), va_K D zc_cl [(cA, .int)] s := by
  obtain ⟨c0, i0, k0⟩ := u_known (C := zc_PC) (T := zt_PC) (N := 12) (n := 12) hts (fun w h => List.mem_cons_of_mem _ (zi_PC w h)) (hts (.instantiable zc_PC 12) (List.mem_cons_of_mem _ (zw_m (w := .instantiable zc_PC 12) (i := 43) (by decide +kernel) (by decide +kernel))))
  obtain ⟨c1, i1, k1⟩ := u_known (C := zc_FO) (T := zt_FO) (N := 9) (n := 9) hts (fun w h => List.mem_cons_of_mem _ (zi_FO w h)) (hts (.instantiable zc_FO 9) (List.mem_cons_of_mem _ (zw_m (w := .instantiable zc_FO 9) (i := 51) (by decide +kernel) (by decide +kernel))))
  obtain ⟨c2, i2, k2⟩ := u_known (C := zc_GR) (T := zt_GR) (N := 5) (n := 5) hts (fun w h => List.mem_cons_of_mem _ (zi_GR w h)) (hts (.instantiable zc_GR 5) (List.mem_cons_of_mem _ (zw_m (w := .instantiable zc_GR 5) (i := 57) (by decide +kernel) (by decide +kernel))))
  obtain ⟨c3, i3, k3⟩ := u_known (C := zc_RO) (T := zt_RO) (N := 2) (n := 2) hts (fun w h => List.mem_cons_of_mem _ (zi_RO w h)) (hts (.instantiable zc_RO 2) (List.mem_cons_of_mem _ (zw_m (w := .instantiable zc_RO 2) (i := 109) (by decide +kernel) (by decide +kernel))))
  obtain ⟨c4, i4, k4⟩ := u_known (C := zc_LI) (T := zt_LI) (N := 5) (n := 5) hts (fun w h => List.mem_cons_of_mem _ (zi_LI w h)) (hts (.instantiable zc_LI 5) (List.mem_cons_of_mem _ (zw_m (w := .instantiable zc_LI 5) (i := 122) (by decide +kernel) (by decide +kernel))))
  obtain ⟨c5, i5, k5⟩ := u_known (C := zc_MO) (T := zt_MO) (N := 18) (n := 18) hts (fun w h => List.mem_cons_of_mem _ (zi_MO w h)) (hts (.instantiable zc_MO 18) (List.mem_cons_of_mem _ (zw_m (w := .instantiable zc_MO 18) (i := 472) (by decide +kernel) (by decide +kernel))))
  obtain ⟨cA, kA, comp, h1, h2, h3⟩ := Cond.arrayClass_spec (hts (.arrayClass .int) (List.mem_cons_of_mem _ (zw_m (w := .arrayClass .int) (i := 78) (by decide +kernel) (by decide +kernel))))
  refine ⟨(fun c => [c0, c1, c2, c3, c4, c5].getD c c0, fun c => [i0, i1, i2, i3, i4, i5].getD c i0), cA, fun c q hq => ?_, fun k q hk => ?_⟩
  · match c, hq with
    | 0, hq => obtain rfl := Option.some.inj hq; exact k0
    | 1, hq => obtain rfl := Option.some.inj hq; exact k1
    | 2, hq => obtain rfl := Option.some.inj hq; exact k2
    | 3, hq => obtain rfl := Option.some.inj hq; exact k3
    | 4, hq => obtain rfl := Option.some.inj hq; exact k4
    | 5, hq => obtain rfl := Option.some.inj hq; exact k5
    | n + 6, hq => cases hq
  · match k, hk with
    | 0, hk => obtain rfl := Option.some.inj hk; exact ⟨fun n z => ⟨fun k h => (by cases h), kA, h2, comp, h3⟩, h1⟩
    | k + 1, hk => cases hk
theorem zl_N {s : State} {args : Array Value} (h : ∀ w ∈ lw_tbl, w.before args s = true) : zk_N n_PC s := by
  refine List.forall_mem_cons.mpr ⟨?_, List.forall_mem_cons.mpr ⟨?_, List.forall_mem_cons.mpr ⟨?_, List.forall_mem_cons.mpr ⟨?_, fun _ h => absurd h List.not_mem_nil⟩⟩⟩⟩
  · exact va_Nw.of rfl (h _ (List.mem_of_getElem? (i := 52) (by decide +kernel)))
  · exact va_Nw.of rfl (h _ (List.mem_of_getElem? (i := 110) (by decide +kernel)))
  · exact va_Nw.of rfl (h _ (List.mem_of_getElem? (i := 123) (by decide +kernel)))
  · exact va_Nw.of rfl (h _ (List.mem_of_getElem? (i := 58) (by decide +kernel)))
theorem zn_LW_PC : ∀ q ∈ n_PC, q ∈ n_PC := fun _ h => h
theorem zn_LW_MO : ∀ q ∈ n_MO, q ∈ n_PC := fun q h => absurd h List.not_mem_nil
/-- at first everything is nought -/
def zl_w : ma_W := (fun _ _ => 0, (16, 20), fun _ _ => 0)
theorem zl_X : XI none [] zl_w := ⟨Or.inl rfl, ⟨by decide, nI_0.symm, fun j h => absurd h (Nat.not_lt_zero j)⟩, rfl, nI_0.symm, nI_0.symm, nI_0.symm, nI_0.symm⟩
theorem zl_M : MI none [] zl_w := ⟨⟨by decide, nI_0.symm, fun j h => absurd h (Nat.not_lt_zero j)⟩, rfl, nI_0.symm, nI_0.symm, nI_0.symm⟩
theorem zl_E {l : Launch} : ma_Eok l "PackingCensusLaw" (w_PC_init :: zw_t) 20 lwE := ee_LW_law (c_PC_begin c_JI_bitCount) (by decide) c_MO_begin (by decide) c_PC_grow (by decide) c_MO_grow (by decide) c_PC_level (by decide) c_MO_level (by decide) c_PC_entries (by decide) c_MO_entries (by decide) c_PC_block (by decide) c_MO_block (by decide) c_PC_order (by decide) c_MO_order (by decide) c_PC_labelled (by decide) c_MO_labelled (by decide) c_PC_together (by decide) c_MO_together (by decide) c_PC_design (by decide) c_MO_design (by decide) c_PC_designs (by decide) c_MO_designs (by decide) c_PC_orbit (by decide) c_MO_orbit (by decide) (c_PC_put c_JI_bitCount) (by decide) c_MO_put (by decide) c_PC_drop (by decide) c_MO_drop (by decide) c_PC_swap (by decide) c_MO_swap (by decide) c_PC_copy (by decide) c_MO_copy (by decide) c_PC_hand (by decide) c_MO_hand (by decide) c_PC_formed (by decide) c_MO_formed (by decide) c_PC_symmetries (by decide) c_MO_symmetries (by decide) c_PC_find (by decide) c_MO_find (by decide)
set_option maxHeartbeats 4000000 in
theorem zl_loop {p : Program} {l : Launch} {e : Env} {s : State} {m : MethodId} {below : List Frame} {meth : Method} {c : Code} {b L : Nat} {xs : Nat → Int32} {D : va_G} {cA : ClassId} {ad : Nat → Nat} {A : Nat → Prop} {H : Heap} {locs : List Loc} {ls : Array Slot}
    (hL : L ≤ 2048) (hx : p.tables.exec = Jvm.exec) (hb : c.code = code) (hr : meth.sig.returnType = ret) (hml : c.maxLocals = 4) (hown : s.vm.findClass "PackingCensusLaw" = some m.cls) (hts : ∀ w ∈ w_PC_init :: zw_t, w.before #[Value.ref b] s = true) (hX : va_X b L xs s s.heap) (hbl : b < s.heap.size) (hlocks : meth.locks = false)
    (hK : va_K D zc_cl [(cA, .int)] s) (hAe : A = fun q => s.heap.size ≤ q) (hP : va_P D zc_cl (ma_cw ad cA zl_w) H) (hD : va_D A (ma_cw ad cA zl_w)) (hS : va_S A s.heap H locs) (had : ad 33 = b)
    (hl : lv_has ls 4 [(3, .int 0), (2, .ref (ad 24)), (1, .ref (ad 0)), (0, .ref (ad 33))]) :
    W p l e room_1 s m #[Value.ref b] below meth c H locs 33 7987 (lw_Z below #[Value.ref b] s) (F0 m 18 ls []) := by
  have hDD : ma_D ad := fun i j hi hj h => hD.1 i j _ _ (ma_cw_get hi) (ma_cw_get hj) h
  have hAA : ∀ q, ma_A ad s.heap.size q → A q := by
    rintro q (⟨p, hp, rfl⟩ | h)
    · exact hD.2 p _ (ma_cw_get hp)
    · rw [hAe]; exact h
  have hloc : ma_loc ad ls (lwL 0) := by
    refine ⟨hl.1, hl.2.1, fun k v hk => ?_⟩
    match k, hk with
    | 0, hk => obtain rfl := Option.some.inj (Option.some.inj hk); exact hl.2.2 (0, .ref (ad 33)) (List.mem_of_getElem? (i := 3) rfl)
    | 1, hk => obtain rfl := Option.some.inj (Option.some.inj hk); exact hl.2.2 (1, .ref (ad 0)) (List.mem_of_getElem? (i := 2) rfl)
    | 2, hk => obtain rfl := Option.some.inj (Option.some.inj hk); exact hl.2.2 (2, .ref (ad 24)) (List.mem_of_getElem? (i := 1) rfl)
    | 3, hk => obtain rfl := Option.some.inj (Option.some.inj hk); exact (show ls[3]? = some (.val (.int (nI 0))) by rw [nI_0]; exact hl.2.2 (3, .int 0) (List.mem_of_getElem? (i := 0) rfl))
    | k + 4, hk => cases hk
  have hsc : ∀ q, (some (33, L, xs) : ma_S) = some q → va_X (ad q.1) q.2.1 q.2.2 s s.heap ∧ ad q.1 < s.heap.size ∧ ¬ A (ad q.1) ∧ q.2.1 < 2 ^ 31 := by
    intro q hq
    obtain rfl := Option.some.inj hq
    refine ⟨by rw [had]; exact hX, by rw [had]; exact hbl, ?_, show L < 2 ^ 31 by omega⟩
    rw [had, hAe]
    exact Nat.not_le.mpr hbl
  have hgo := lw_loop (Go := ma_go p l e room_1 s m #[Value.ref b] below meth c 33 7987 (lw_Z below #[Value.ref b] s) D ad cA A) (L := L) (xs := xs) (fun i pc seg hi => ma_run hx hb hown hts hK hDD hAA kk_LW_law (fun q h => absurd h List.not_mem_nil) zl_E ⟨Nat.le_of_ble_eq_true rfl, Nat.le_of_ble_eq_true rfl⟩ ⟨Nat.le_of_ble_eq_true rfl, Nat.le_of_ble_eq_true rfl⟩ hsc ?_ ?_ seg pc (ma_segs o_LW_law hi)) hL L 0 (by omega) (by omega) none [] zl_w zl_X zl_M trivial
  · exact hgo H locs ls hP hS hloc (by rw [hl.1]; exact hml.symm)
  · intro pc H locs ls x w hdg hP hS _ hp
    obtain rfl : x = 1 := hp.trans (by decide +kernel)
    refine va_forget (fun q hq => by have := hS.2.2 q hq; rw [hAe] at this; exact this) ?_
    exact W.widen (k := 600000) (n := 7302250) (Nat.le_of_ble_eq_true rfl) (Nat.le_of_ble_eq_true rfl) (lw_ret hx hb hr hlocks hdg)
  · intro pc H locs ls w hdg hP hS h0 hp
    cases h0
