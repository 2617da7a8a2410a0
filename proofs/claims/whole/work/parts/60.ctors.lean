/-! CONSTRUCTORS, by program (wip/whole/kgen.py) -/
/-- links to a nest mate's constructor -/
def zk_N (ns : List (String × Nat × MethodName × String)) (U : State) : Prop := ∀ q ∈ ns, va_Nw (.methodLinkNest q.1 q.2.1 q.2.2.1 q.2.2.2) U
theorem zk_N.warm {ns : List (String × Nat × MethodName × String)} {s U : State} (hW : s.WarmedH U.vm) (h : zk_N ns s) : zk_N ns U := fun q hq => va_Nw.warmM hW (h q hq)
def zk_B (D : va_G) (cA : ClassId) (ns : List (String × Nat × MethodName × String)) (sz : Nat) (w0 : va_W) : State → Prop := fun U => U.heap.size = sz ∧ va_P D zc_cl w0 U.heap ∧ va_K D zc_cl [(cA, .int)] U ∧ va_D (fun _ => True) w0 ∧ zk_N ns U
theorem zk_blind {av : List Value} {D : va_G} {cA : ClassId} {ns : List (String × Nat × MethodName × String)} {sz : Nat} {w0 : va_W} : FrameBlind (va_Pc av (zk_B D cA ns sz w0)) := by
  intro a U g mk q
  obtain ⟨q0, q1, qP, qK, qD, qN⟩ := q
  exact ⟨q0, q1, qP, va_K.moved (u := U) (U := U.calling g mk a) (Vm.Alike.refl U.vm) qK, qD, fun q hq => va_Nw.same rfl rfl (qN q hq)⟩
def zk_Q (D : va_G) (cA : ClassId) (sz : Nat) (w0 : va_W) (ws : (Nat → Nat) → va_W) : Array Value → State → Outcome → State → Prop := va_Qv (fun _ : Nat → Nat => True) (fun u t => va_P D zc_cl (ws u) t.heap ∧ va_K D zc_cl [(cA, .int)] t ∧ va_D (va_A w0 sz) (ws u)) (va_A w0 sz)
/-- int arrays have one kind -/
theorem zk_one {D : va_G} {cA cB : ClassId} {s : State} (h : va_K D zc_cl [(cA, .int)] s) (h2 : va_K D zc_cl ([(cA, .int)] ++ [(cB, .int)]) s) : cB = cA := by
  have a : s.vm.findClass ("[" ++ FieldType.int.toString) = some cA := (h.2 0 _ rfl).2
  have b : s.vm.findClass ("[" ++ FieldType.int.toString) = some cB := (h2.2 1 _ rfl).2
  rw [a] at b
  exact (Option.some.inj b).symm
def y_RO_init : MethodName := ⟨"PackingCensus$Row", "<init>", "()V"⟩
abbrev w_RO_init : Cond := .code y_RO_init prog_5_method_1_code 1 none
theorem m_RO_init : w_RO_init ∈ zw_t := zw_m (i := 112) (by decide +kernel) (by decide +kernel)
def n_RO : List (String × Nat × MethodName × String) := []
def ws_RO (cA : ClassId) (h0 : Nat) (u : Nat → Nat) : va_W := [(h0, .inr (3, [.ref (u 1), .int 0])), (u 1, .inl (cA, 10, .inl (fun _ => 0)))]
set_option maxHeartbeats 400000 in
set_option maxRecDepth 100000 in
theorem c_RO_init (l : Launch) (D : va_G) (cA : ClassId) (h0 sz : Nat) : Met l y_RO_init (w_RO_init :: zw_t) ({ frames := 1, cells := 1, slots := 10, locals := 60 }) (va_Pc [.ref h0] (zk_B D cA n_RO sz [(h0, .inr (3, [.null, .int 0]))])) (zk_Q D cA sz [(h0, .inr (3, [.null, .int 0]))] (ws_RO cA h0)) 1 10 (va_A [(h0, .inr (3, [.null, .int 0]))] sz) := by
  refine Met.ofW (cc := prog_5_method_1_code) (maxL := 1) (ret := none) (by decide) rfl ?_
  intro p e s m args below meth c s₁ B hml hv
  obtain ⟨rfl, hsz, hP, hK, hD0, hN⟩ := hv
  have hx := B.exec
  have hb := B.bytes
  have hr := B.returns
  have hts := atoms_spec (ws := w_RO_init :: zw_t) B.pre
  have hown : s.vm.findClass "PackingCensus$Row" = some m.cls := findClass_of_methodNamed B.named
  have hlocks := B.notSynchronized
  have hin : meth.name = "<init>" := (name_of_methodNamed B.named B.method).1
  subst hsz
  have hD := hD0.self (sz := s.heap.size)
  generalize hAe : va_A [(h0, .inr (3, [.null, .int 0]))] s.heap.size = A at hD ⊢
  have hA : ∀ q : Nat, s.heap.size ≤ q → A q := fun q h => by rw [← hAe]; exact Or.inr h
  have hS : va_S A s.heap s.heap [] := va_S.rf
  have hP : va_P D zc_cl [(h0, .inr (3, [.null, .int 0]))] s.heap := hP
  have hl := lv_entry ([.ref h0]) (n := 1) (Nat.le_of_ble_eq_true rfl)
  rw [lg_entry_eq]
  generalize (lg_sl ([.ref h0]) ++ List.replicate (1 - (lg_sl ([.ref h0])).length) Slot.unset).toArray = ls at hl ⊢
  have hl : lv_has ls 1 [(0, .ref h0)] := hl
  refine lv_aload_n hx hb (by decide +kernel : decode prog_5_method_1_code 0 = .ok (.aload_n 0, 1)) rfl (lv_at hl 0 rfl) ?_
  refine W.objInit hx hb hown (hts (.methodLink "PackingCensus$Row" 3 Lib.objectInit) (List.mem_cons_of_mem _ (zw_m (w := .methodLink "PackingCensus$Row" 3 Lib.objectInit) (i := 113) (by decide +kernel) (by decide +kernel)))) (hts (.instanceMethod Lib.objectInit) (List.mem_cons_of_mem _ (zw_m (w := .instanceMethod Lib.objectInit) (i := 48) (by decide +kernel) (by decide +kernel)))) (hts (.code Lib.objectInit ⟨#[0xb1]⟩ 1 none) (List.mem_cons_of_mem _ (zw_m (w := .code Lib.objectInit ⟨#[0xb1]⟩ 1 none) (i := 49) (by decide +kernel) (by decide +kernel)))) rfl (by rw [hml]; exact hl.1) rfl (by decide +kernel : decode prog_5_method_1_code 1 = .ok (.invokespecial 3, 3)) (Nat.le_of_ble_eq_true rfl) (Nat.le_of_ble_eq_true rfl) ?_
  refine W.eq (g2 := F0 m 4 ls []) rfl ?_
  refine lv_aload_n hx hb (by decide +kernel : decode prog_5_method_1_code 4 = .ok (.aload_n 0, 1)) rfl (lv_at hl 0 rfl) ?_
  refine lv_bipush (v := 10) hx hb (by decide +kernel : decode prog_5_method_1_code 5 = .ok (.bipush 10, 2)) (by decide +kernel) ?_
  refine va_newa (atype := .int) (ty := .int) (n := 10) (N' := 10) (a0 := (10, .inl (fun _ => 0))) hx hb (hts (.arrayClass .int) (List.mem_cons_of_mem _ (zw_m (w := .arrayClass .int) (i := 78) (by decide +kernel) (by decide +kernel)))) rfl hK hP hD hS hA (fun _ => rfl) (by decide +kernel) (by decide +kernel : (Int32.toNatClampNeg 10 = 10)) (by decide +kernel) (Nat.le_of_ble_eq_true rfl) (Nat.le_of_ble_eq_true rfl) (by decide +kernel : decode prog_5_method_1_code 7 = .ok (.newarray .int, 2)) (fun q1 cB H hK2 hP hD hS => ?_)
  have ecB := (zk_one hK hK2).symm
  subst ecB
  have hP : va_P D zc_cl [(h0, .inr (3, [.null, .int 0])), (q1, .inl (cA, 10, .inl (fun _ => 0)))] H := hP
  have hD : va_D A [(h0, .inr (3, [.null, .int 0])), (q1, .inl (cA, 10, .inl (fun _ => 0)))] := hD
  refine va_putF (D := D) (ci := 3) (v := .ref q1) (ty := .array .int) (C := zc_RO) (T := zt_RO) (N := 2) hx hb hts (fun w h => List.mem_cons_of_mem _ (zi_RO w h)) zy_RO zo_RO zn_RO hown hK hP hD hS 0 rfl rfl 0 (by decide) (hts (.fieldLink "PackingCensus$Row" 9 "PackingCensus$Row" "masks" "[I") (List.mem_cons_of_mem _ (zw_m (w := .fieldLink "PackingCensus$Row" 9 "PackingCensus$Row" "masks" "[I") (i := 114) (by decide +kernel) (by decide +kernel)))) (fun _ h9 => h9) rfl hin rfl (by decide +kernel) rfl rfl (Nat.le_of_ble_eq_true rfl) (by decide +kernel : decode prog_5_method_1_code 9 = .ok (.putfield 9, 3)) (fun H locs hP hD hS => ?_)
  have hP : va_P D zc_cl [(h0, .inr (3, [.ref q1, .int 0])), (q1, .inl (cA, 10, .inl (fun _ => 0)))] H := hP
  have hD : va_D A [(h0, .inr (3, [.ref q1, .int 0])), (q1, .inl (cA, 10, .inl (fun _ => 0)))] := hD
  refine lv_aload_n hx hb (by decide +kernel : decode prog_5_method_1_code 12 = .ok (.aload_n 0, 1)) rfl (lv_at hl 0 rfl) ?_
  refine lv_iconst (v := 0) hx hb (by decide +kernel : decode prog_5_method_1_code 13 = .ok (.iconst 0, 1)) (by decide +kernel) ?_
  refine va_put (D := D) (ci := 3) (v := .int 0) (ty := .int) (C := zc_RO) (T := zt_RO) (N := 2) hx hb hts (fun w h => List.mem_cons_of_mem _ (zi_RO w h)) zy_RO zo_RO zn_RO hown hK hP hD hS 0 rfl rfl 1 (by decide) (hts (.fieldLink "PackingCensus$Row" 15 "PackingCensus$Row" "length" "I") (List.mem_cons_of_mem _ (zw_m (w := .fieldLink "PackingCensus$Row" 15 "PackingCensus$Row" "length" "I") (i := 115) (by decide +kernel) (by decide +kernel)))) (fun _ h9 => h9) rfl (by decide +kernel) (by decide +kernel) (by decide +kernel) (Nat.le_of_ble_eq_true rfl) (by decide +kernel : decode prog_5_method_1_code 14 = .ok (.putfield 15, 3)) (fun H locs hP hD hS => ?_)
  have hP : va_P D zc_cl [(h0, .inr (3, [.ref q1, .int 0])), (q1, .inl (cA, 10, .inl (fun _ => 0)))] H := hP
  have hD : va_D A [(h0, .inr (3, [.ref q1, .int 0])), (q1, .inl (cA, 10, .inl (fun _ => 0)))] := hD
  have hP9 := hP.sub (ws' := ws_RO cA h0 (fun i => ([q1] : List Nat).getD (i - 1) 0)) [0, 1] rfl
  have hD9 := hD.sub (ws' := ws_RO cA h0 (fun i => ([q1] : List Nat).getD (i - 1) 0)) [0, 1] (by decide) rfl
  refine W.widen (k := 1) (n := 10) (Nat.le_of_ble_eq_true rfl) (Nat.le_of_ble_eq_true rfl) ?_
  exact W.vret hx hb hr (fun t ht hW => ⟨⟨_, rfl, trivial, by rw [ht]; exact hP9, va_K.moved hW.alike hK, by rw [hAe]; exact hD9⟩, by rw [hAe]; exact hS.F ht⟩) hS.2.2 (by decide +kernel)
