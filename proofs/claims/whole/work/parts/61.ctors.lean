def y_LI_init : MethodName := ⟨"PackingCensus$Listing", "<init>", "()V"⟩
abbrev w_LI_init : Cond := .code y_LI_init prog_4_method_1_code 1 none
theorem m_LI_init : w_LI_init ∈ zw_t := zw_m (i := 125) (by decide +kernel) (by decide +kernel)
def n_LI : List (String × Nat × MethodName × String) := []
def ws_LI (cA : ClassId) (h0 : Nat) (u : Nat → Nat) : va_W := [(h0, .inr (4, [.ref (u 1), .ref (u 2), .ref (u 3), .int 0, .int 0])), (u 1, .inl (cA, 600, .inl (fun _ => 0))), (u 2, .inl (cA, 60, .inl (fun _ => 0))), (u 3, .inl (cA, 360, .inl (fun _ => 0)))]
set_option maxHeartbeats 400000 in
set_option maxRecDepth 100000 in
theorem c_LI_init (l : Launch) (D : va_G) (cA : ClassId) (h0 sz : Nat) : Met l y_LI_init (w_LI_init :: zw_t) ({ frames := 1, cells := 3, slots := 1020, locals := 60 }) (va_Pc [.ref h0] (zk_B D cA n_LI sz [(h0, .inr (4, [.null, .null, .null, .int 0, .int 0]))])) (zk_Q D cA sz [(h0, .inr (4, [.null, .null, .null, .int 0, .int 0]))] (ws_LI cA h0)) 3 1020 (va_A [(h0, .inr (4, [.null, .null, .null, .int 0, .int 0]))] sz) := by
  refine Met.ofW (cc := prog_4_method_1_code) (maxL := 1) (ret := none) (by decide) rfl ?_
  intro p e s m args below meth c s₁ B hml hv
  obtain ⟨rfl, hsz, hP, hK, hD0, hN⟩ := hv
  have hx := B.exec
  have hb := B.bytes
  have hr := B.returns
  have hts := atoms_spec (ws := w_LI_init :: zw_t) B.pre
  have hown : s.vm.findClass "PackingCensus$Listing" = some m.cls := findClass_of_methodNamed B.named
  have hlocks := B.notSynchronized
  have hin : meth.name = "<init>" := (name_of_methodNamed B.named B.method).1
  subst hsz
  have hD := hD0.self (sz := s.heap.size)
  generalize hAe : va_A [(h0, .inr (4, [.null, .null, .null, .int 0, .int 0]))] s.heap.size = A at hD ⊢
  have hA : ∀ q : Nat, s.heap.size ≤ q → A q := fun q h => by rw [← hAe]; exact Or.inr h
  have hS : va_S A s.heap s.heap [] := va_S.rf
  have hP : va_P D zc_cl [(h0, .inr (4, [.null, .null, .null, .int 0, .int 0]))] s.heap := hP
  have hl := lv_entry ([.ref h0]) (n := 1) (Nat.le_of_ble_eq_true rfl)
  rw [lg_entry_eq]
  generalize (lg_sl ([.ref h0]) ++ List.replicate (1 - (lg_sl ([.ref h0])).length) Slot.unset).toArray = ls at hl ⊢
  have hl : lv_has ls 1 [(0, .ref h0)] := hl
  refine lv_aload_n hx hb (by decide +kernel : decode prog_4_method_1_code 0 = .ok (.aload_n 0, 1)) rfl (lv_at hl 0 rfl) ?_
  refine W.objInit hx hb hown (hts (.methodLink "PackingCensus$Listing" 3 Lib.objectInit) (List.mem_cons_of_mem _ (zw_m (w := .methodLink "PackingCensus$Listing" 3 Lib.objectInit) (i := 126) (by decide +kernel) (by decide +kernel)))) (hts (.instanceMethod Lib.objectInit) (List.mem_cons_of_mem _ (zw_m (w := .instanceMethod Lib.objectInit) (i := 48) (by decide +kernel) (by decide +kernel)))) (hts (.code Lib.objectInit ⟨#[0xb1]⟩ 1 none) (List.mem_cons_of_mem _ (zw_m (w := .code Lib.objectInit ⟨#[0xb1]⟩ 1 none) (i := 49) (by decide +kernel) (by decide +kernel)))) rfl (by rw [hml]; exact hl.1) rfl (by decide +kernel : decode prog_4_method_1_code 1 = .ok (.invokespecial 3, 3)) (Nat.le_of_ble_eq_true rfl) (Nat.le_of_ble_eq_true rfl) ?_
  refine W.eq (g2 := F0 m 4 ls []) rfl ?_
  refine lv_aload_n hx hb (by decide +kernel : decode prog_4_method_1_code 4 = .ok (.aload_n 0, 1)) rfl (lv_at hl 0 rfl) ?_
  refine lv_sipush (v := 600) hx hb (by decide +kernel : decode prog_4_method_1_code 5 = .ok (.sipush 600, 3)) (by decide +kernel) ?_
  refine va_newa (atype := .int) (ty := .int) (n := 600) (N' := 600) (a0 := (600, .inl (fun _ => 0))) hx hb (hts (.arrayClass .int) (List.mem_cons_of_mem _ (zw_m (w := .arrayClass .int) (i := 78) (by decide +kernel) (by decide +kernel)))) rfl hK hP hD hS hA (fun _ => rfl) (by decide +kernel) (by decide +kernel : (Int32.toNatClampNeg 600 = 600)) (by decide +kernel) (Nat.le_of_ble_eq_true rfl) (Nat.le_of_ble_eq_true rfl) (by decide +kernel : decode prog_4_method_1_code 8 = .ok (.newarray .int, 2)) (fun q1 cB H hK2 hP hD hS => ?_)
  have ecB := (zk_one hK hK2).symm
  subst ecB
  have hP : va_P D zc_cl [(h0, .inr (4, [.null, .null, .null, .int 0, .int 0])), (q1, .inl (cA, 600, .inl (fun _ => 0)))] H := hP
  have hD : va_D A [(h0, .inr (4, [.null, .null, .null, .int 0, .int 0])), (q1, .inl (cA, 600, .inl (fun _ => 0)))] := hD
  refine va_putF (D := D) (ci := 4) (v := .ref q1) (ty := .array .int) (C := zc_LI) (T := zt_LI) (N := 5) hx hb hts (fun w h => List.mem_cons_of_mem _ (zi_LI w h)) zy_LI zo_LI zn_LI hown hK hP hD hS 0 rfl rfl 0 (by decide) (hts (.fieldLink "PackingCensus$Listing" 9 "PackingCensus$Listing" "masks" "[I") (List.mem_cons_of_mem _ (zw_m (w := .fieldLink "PackingCensus$Listing" 9 "PackingCensus$Listing" "masks" "[I") (i := 127) (by decide +kernel) (by decide +kernel)))) (fun _ h9 => h9) rfl hin rfl (by decide +kernel) rfl rfl (Nat.le_of_ble_eq_true rfl) (by decide +kernel : decode prog_4_method_1_code 10 = .ok (.putfield 9, 3)) (fun H locs hP hD hS => ?_)
  have hP : va_P D zc_cl [(h0, .inr (4, [.ref q1, .null, .null, .int 0, .int 0])), (q1, .inl (cA, 600, .inl (fun _ => 0)))] H := hP
  have hD : va_D A [(h0, .inr (4, [.ref q1, .null, .null, .int 0, .int 0])), (q1, .inl (cA, 600, .inl (fun _ => 0)))] := hD
  refine lv_aload_n hx hb (by decide +kernel : decode prog_4_method_1_code 13 = .ok (.aload_n 0, 1)) rfl (lv_at hl 0 rfl) ?_
  refine lv_bipush (v := 60) hx hb (by decide +kernel : decode prog_4_method_1_code 14 = .ok (.bipush 60, 2)) (by decide +kernel) ?_
  refine va_newa (atype := .int) (ty := .int) (n := 60) (N' := 60) (a0 := (60, .inl (fun _ => 0))) hx hb (hts (.arrayClass .int) (List.mem_cons_of_mem _ (zw_m (w := .arrayClass .int) (i := 78) (by decide +kernel) (by decide +kernel)))) rfl hK hP hD hS hA (fun _ => rfl) (by decide +kernel) (by decide +kernel : (Int32.toNatClampNeg 60 = 60)) (by decide +kernel) (Nat.le_of_ble_eq_true rfl) (Nat.le_of_ble_eq_true rfl) (by decide +kernel : decode prog_4_method_1_code 16 = .ok (.newarray .int, 2)) (fun q2 cB H hK2 hP hD hS => ?_)
  have ecB := (zk_one hK hK2).symm
  subst ecB
  have hP : va_P D zc_cl [(h0, .inr (4, [.ref q1, .null, .null, .int 0, .int 0])), (q1, .inl (cA, 600, .inl (fun _ => 0))), (q2, .inl (cA, 60, .inl (fun _ => 0)))] H := hP
  have hD : va_D A [(h0, .inr (4, [.ref q1, .null, .null, .int 0, .int 0])), (q1, .inl (cA, 600, .inl (fun _ => 0))), (q2, .inl (cA, 60, .inl (fun _ => 0)))] := hD
  refine va_putF (D := D) (ci := 4) (v := .ref q2) (ty := .array .int) (C := zc_LI) (T := zt_LI) (N := 5) hx hb hts (fun w h => List.mem_cons_of_mem _ (zi_LI w h)) zy_LI zo_LI zn_LI hown hK hP hD hS 0 rfl rfl 1 (by decide) (hts (.fieldLink "PackingCensus$Listing" 15 "PackingCensus$Listing" "orders" "[I") (List.mem_cons_of_mem _ (zw_m (w := .fieldLink "PackingCensus$Listing" 15 "PackingCensus$Listing" "orders" "[I") (i := 128) (by decide +kernel) (by decide +kernel)))) (fun _ h9 => h9) rfl hin rfl (by decide +kernel) rfl rfl (Nat.le_of_ble_eq_true rfl) (by decide +kernel : decode prog_4_method_1_code 18 = .ok (.putfield 15, 3)) (fun H locs hP hD hS => ?_)
  have hP : va_P D zc_cl [(h0, .inr (4, [.ref q1, .ref q2, .null, .int 0, .int 0])), (q1, .inl (cA, 600, .inl (fun _ => 0))), (q2, .inl (cA, 60, .inl (fun _ => 0)))] H := hP
  have hD : va_D A [(h0, .inr (4, [.ref q1, .ref q2, .null, .int 0, .int 0])), (q1, .inl (cA, 600, .inl (fun _ => 0))), (q2, .inl (cA, 60, .inl (fun _ => 0)))] := hD
  refine lv_aload_n hx hb (by decide +kernel : decode prog_4_method_1_code 21 = .ok (.aload_n 0, 1)) rfl (lv_at hl 0 rfl) ?_
  refine lv_sipush (v := 360) hx hb (by decide +kernel : decode prog_4_method_1_code 22 = .ok (.sipush 360, 3)) (by decide +kernel) ?_
  refine va_newa (atype := .int) (ty := .int) (n := 360) (N' := 360) (a0 := (360, .inl (fun _ => 0))) hx hb (hts (.arrayClass .int) (List.mem_cons_of_mem _ (zw_m (w := .arrayClass .int) (i := 78) (by decide +kernel) (by decide +kernel)))) rfl hK hP hD hS hA (fun _ => rfl) (by decide +kernel) (by decide +kernel : (Int32.toNatClampNeg 360 = 360)) (by decide +kernel) (Nat.le_of_ble_eq_true rfl) (Nat.le_of_ble_eq_true rfl) (by decide +kernel : decode prog_4_method_1_code 25 = .ok (.newarray .int, 2)) (fun q3 cB H hK2 hP hD hS => ?_)
  have ecB := (zk_one hK hK2).symm
  subst ecB
  have hP : va_P D zc_cl [(h0, .inr (4, [.ref q1, .ref q2, .null, .int 0, .int 0])), (q1, .inl (cA, 600, .inl (fun _ => 0))), (q2, .inl (cA, 60, .inl (fun _ => 0))), (q3, .inl (cA, 360, .inl (fun _ => 0)))] H := hP
  have hD : va_D A [(h0, .inr (4, [.ref q1, .ref q2, .null, .int 0, .int 0])), (q1, .inl (cA, 600, .inl (fun _ => 0))), (q2, .inl (cA, 60, .inl (fun _ => 0))), (q3, .inl (cA, 360, .inl (fun _ => 0)))] := hD
  refine va_putF (D := D) (ci := 4) (v := .ref q3) (ty := .array .int) (C := zc_LI) (T := zt_LI) (N := 5) hx hb hts (fun w h => List.mem_cons_of_mem _ (zi_LI w h)) zy_LI zo_LI zn_LI hown hK hP hD hS 0 rfl rfl 2 (by decide) (hts (.fieldLink "PackingCensus$Listing" 18 "PackingCensus$Listing" "images" "[I") (List.mem_cons_of_mem _ (zw_m (w := .fieldLink "PackingCensus$Listing" 18 "PackingCensus$Listing" "images" "[I") (i := 129) (by decide +kernel) (by decide +kernel)))) (fun _ h9 => h9) rfl hin rfl (by decide +kernel) rfl rfl (Nat.le_of_ble_eq_true rfl) (by decide +kernel : decode prog_4_method_1_code 27 = .ok (.putfield 18, 3)) (fun H locs hP hD hS => ?_)
  have hP : va_P D zc_cl [(h0, .inr (4, [.ref q1, .ref q2, .ref q3, .int 0, .int 0])), (q1, .inl (cA, 600, .inl (fun _ => 0))), (q2, .inl (cA, 60, .inl (fun _ => 0))), (q3, .inl (cA, 360, .inl (fun _ => 0)))] H := hP
  have hD : va_D A [(h0, .inr (4, [.ref q1, .ref q2, .ref q3, .int 0, .int 0])), (q1, .inl (cA, 600, .inl (fun _ => 0))), (q2, .inl (cA, 60, .inl (fun _ => 0))), (q3, .inl (cA, 360, .inl (fun _ => 0)))] := hD
  refine lv_aload_n hx hb (by decide +kernel : decode prog_4_method_1_code 30 = .ok (.aload_n 0, 1)) rfl (lv_at hl 0 rfl) ?_
  refine lv_iconst (v := 0) hx hb (by decide +kernel : decode prog_4_method_1_code 31 = .ok (.iconst 0, 1)) (by decide +kernel) ?_
  refine va_put (D := D) (ci := 4) (v := .int 0) (ty := .int) (C := zc_LI) (T := zt_LI) (N := 5) hx hb hts (fun w h => List.mem_cons_of_mem _ (zi_LI w h)) zy_LI zo_LI zn_LI hown hK hP hD hS 0 rfl rfl 3 (by decide) (hts (.fieldLink "PackingCensus$Listing" 21 "PackingCensus$Listing" "blocksEach" "I") (List.mem_cons_of_mem _ (zw_m (w := .fieldLink "PackingCensus$Listing" 21 "PackingCensus$Listing" "blocksEach" "I") (i := 130) (by decide +kernel) (by decide +kernel)))) (fun _ h9 => h9) rfl (by decide +kernel) (by decide +kernel) (by decide +kernel) (Nat.le_of_ble_eq_true rfl) (by decide +kernel : decode prog_4_method_1_code 32 = .ok (.putfield 21, 3)) (fun H locs hP hD hS => ?_)
  have hP : va_P D zc_cl [(h0, .inr (4, [.ref q1, .ref q2, .ref q3, .int 0, .int 0])), (q1, .inl (cA, 600, .inl (fun _ => 0))), (q2, .inl (cA, 60, .inl (fun _ => 0))), (q3, .inl (cA, 360, .inl (fun _ => 0)))] H := hP
  have hD : va_D A [(h0, .inr (4, [.ref q1, .ref q2, .ref q3, .int 0, .int 0])), (q1, .inl (cA, 600, .inl (fun _ => 0))), (q2, .inl (cA, 60, .inl (fun _ => 0))), (q3, .inl (cA, 360, .inl (fun _ => 0)))] := hD
  refine lv_aload_n hx hb (by decide +kernel : decode prog_4_method_1_code 35 = .ok (.aload_n 0, 1)) rfl (lv_at hl 0 rfl) ?_
  refine lv_iconst (v := 0) hx hb (by decide +kernel : decode prog_4_method_1_code 36 = .ok (.iconst 0, 1)) (by decide +kernel) ?_
  refine va_put (D := D) (ci := 4) (v := .int 0) (ty := .int) (C := zc_LI) (T := zt_LI) (N := 5) hx hb hts (fun w h => List.mem_cons_of_mem _ (zi_LI w h)) zy_LI zo_LI zn_LI hown hK hP hD hS 0 rfl rfl 4 (by decide) (hts (.fieldLink "PackingCensus$Listing" 25 "PackingCensus$Listing" "count" "I") (List.mem_cons_of_mem _ (zw_m (w := .fieldLink "PackingCensus$Listing" 25 "PackingCensus$Listing" "count" "I") (i := 131) (by decide +kernel) (by decide +kernel)))) (fun _ h9 => h9) rfl (by decide +kernel) (by decide +kernel) (by decide +kernel) (Nat.le_of_ble_eq_true rfl) (by decide +kernel : decode prog_4_method_1_code 37 = .ok (.putfield 25, 3)) (fun H locs hP hD hS => ?_)
  have hP : va_P D zc_cl [(h0, .inr (4, [.ref q1, .ref q2, .ref q3, .int 0, .int 0])), (q1, .inl (cA, 600, .inl (fun _ => 0))), (q2, .inl (cA, 60, .inl (fun _ => 0))), (q3, .inl (cA, 360, .inl (fun _ => 0)))] H := hP
  have hD : va_D A [(h0, .inr (4, [.ref q1, .ref q2, .ref q3, .int 0, .int 0])), (q1, .inl (cA, 600, .inl (fun _ => 0))), (q2, .inl (cA, 60, .inl (fun _ => 0))), (q3, .inl (cA, 360, .inl (fun _ => 0)))] := hD
  have hP9 := hP.sub (ws' := ws_LI cA h0 (fun i => ([q1, q2, q3] : List Nat).getD (i - 1) 0)) [0, 1, 2, 3] rfl
  have hD9 := hD.sub (ws' := ws_LI cA h0 (fun i => ([q1, q2, q3] : List Nat).getD (i - 1) 0)) [0, 1, 2, 3] (by decide) rfl
  refine W.widen (k := 3) (n := 1020) (Nat.le_of_ble_eq_true rfl) (Nat.le_of_ble_eq_true rfl) ?_
  exact W.vret hx hb hr (fun t ht hW => ⟨⟨_, rfl, trivial, by rw [ht]; exact hP9, va_K.moved hW.alike hK, by rw [hAe]; exact hD9⟩, by rw [hAe]; exact hS.F ht⟩) hS.2.2 (by decide +kernel)
def y_GR_init : MethodName := ⟨"PackingCensus$Ground", "<init>", "()V"⟩
abbrev w_GR_init : Cond := .code y_GR_init prog_3_method_1_code 1 none
theorem m_GR_init : w_GR_init ∈ zw_t := zw_m (i := 60) (by decide +kernel) (by decide +kernel)
def n_GR : List (String × Nat × MethodName × String) := []
def ws_GR (cA : ClassId) (h0 : Nat) (u : Nat → Nat) : va_W := [(h0, .inr (2, [.ref (u 1), .ref (u 2), .int 0, .int 0, .int 0])), (u 1, .inl (cA, 20, .inl (fun _ => 0))), (u 2, .inl (cA, 7, .inl (fun _ => 0)))]
set_option maxHeartbeats 400000 in
set_option maxRecDepth 100000 in
theorem c_GR_init (l : Launch) (D : va_G) (cA : ClassId) (h0 sz : Nat) : Met l y_GR_init (w_GR_init :: zw_t) ({ frames := 1, cells := 2, slots := 27, locals := 60 }) (va_Pc [.ref h0] (zk_B D cA n_GR sz [(h0, .inr (2, [.null, .null, .int 0, .int 0, .int 0]))])) (zk_Q D cA sz [(h0, .inr (2, [.null, .null, .int 0, .int 0, .int 0]))] (ws_GR cA h0)) 2 27 (va_A [(h0, .inr (2, [.null, .null, .int 0, .int 0, .int 0]))] sz) := by
  refine Met.ofW (cc := prog_3_method_1_code) (maxL := 1) (ret := none) (by decide) rfl ?_
  intro p e s m args below meth c s₁ B hml hv
  obtain ⟨rfl, hsz, hP, hK, hD0, hN⟩ := hv
  have hx := B.exec
  have hb := B.bytes
  have hr := B.returns
  have hts := atoms_spec (ws := w_GR_init :: zw_t) B.pre
  have hown : s.vm.findClass "PackingCensus$Ground" = some m.cls := findClass_of_methodNamed B.named
  have hlocks := B.notSynchronized
  have hin : meth.name = "<init>" := (name_of_methodNamed B.named B.method).1
  subst hsz
  have hD := hD0.self (sz := s.heap.size)
  generalize hAe : va_A [(h0, .inr (2, [.null, .null, .int 0, .int 0, .int 0]))] s.heap.size = A at hD ⊢
  have hA : ∀ q : Nat, s.heap.size ≤ q → A q := fun q h => by rw [← hAe]; exact Or.inr h
  have hS : va_S A s.heap s.heap [] := va_S.rf
  have hP : va_P D zc_cl [(h0, .inr (2, [.null, .null, .int 0, .int 0, .int 0]))] s.heap := hP
  have hl := lv_entry ([.ref h0]) (n := 1) (Nat.le_of_ble_eq_true rfl)
  rw [lg_entry_eq]
  generalize (lg_sl ([.ref h0]) ++ List.replicate (1 - (lg_sl ([.ref h0])).length) Slot.unset).toArray = ls at hl ⊢
  have hl : lv_has ls 1 [(0, .ref h0)] := hl
  refine lv_aload_n hx hb (by decide +kernel : decode prog_3_method_1_code 0 = .ok (.aload_n 0, 1)) rfl (lv_at hl 0 rfl) ?_
  refine W.objInit hx hb hown (hts (.methodLink "PackingCensus$Ground" 3 Lib.objectInit) (List.mem_cons_of_mem _ (zw_m (w := .methodLink "PackingCensus$Ground" 3 Lib.objectInit) (i := 61) (by decide +kernel) (by decide +kernel)))) (hts (.instanceMethod Lib.objectInit) (List.mem_cons_of_mem _ (zw_m (w := .instanceMethod Lib.objectInit) (i := 48) (by decide +kernel) (by decide +kernel)))) (hts (.code Lib.objectInit ⟨#[0xb1]⟩ 1 none) (List.mem_cons_of_mem _ (zw_m (w := .code Lib.objectInit ⟨#[0xb1]⟩ 1 none) (i := 49) (by decide +kernel) (by decide +kernel)))) rfl (by rw [hml]; exact hl.1) rfl (by decide +kernel : decode prog_3_method_1_code 1 = .ok (.invokespecial 3, 3)) (Nat.le_of_ble_eq_true rfl) (Nat.le_of_ble_eq_true rfl) ?_
  refine W.eq (g2 := F0 m 4 ls []) rfl ?_
  refine lv_aload_n hx hb (by decide +kernel : decode prog_3_method_1_code 4 = .ok (.aload_n 0, 1)) rfl (lv_at hl 0 rfl) ?_
  refine lv_bipush (v := 20) hx hb (by decide +kernel : decode prog_3_method_1_code 5 = .ok (.bipush 20, 2)) (by decide +kernel) ?_
  refine va_newa (atype := .int) (ty := .int) (n := 20) (N' := 20) (a0 := (20, .inl (fun _ => 0))) hx hb (hts (.arrayClass .int) (List.mem_cons_of_mem _ (zw_m (w := .arrayClass .int) (i := 78) (by decide +kernel) (by decide +kernel)))) rfl hK hP hD hS hA (fun _ => rfl) (by decide +kernel) (by decide +kernel : (Int32.toNatClampNeg 20 = 20)) (by decide +kernel) (Nat.le_of_ble_eq_true rfl) (Nat.le_of_ble_eq_true rfl) (by decide +kernel : decode prog_3_method_1_code 7 = .ok (.newarray .int, 2)) (fun q1 cB H hK2 hP hD hS => ?_)
  have ecB := (zk_one hK hK2).symm
  subst ecB
  have hP : va_P D zc_cl [(h0, .inr (2, [.null, .null, .int 0, .int 0, .int 0])), (q1, .inl (cA, 20, .inl (fun _ => 0)))] H := hP
  have hD : va_D A [(h0, .inr (2, [.null, .null, .int 0, .int 0, .int 0])), (q1, .inl (cA, 20, .inl (fun _ => 0)))] := hD
  refine va_putF (D := D) (ci := 2) (v := .ref q1) (ty := .array .int) (C := zc_GR) (T := zt_GR) (N := 5) hx hb hts (fun w h => List.mem_cons_of_mem _ (zi_GR w h)) zy_GR zo_GR zn_GR hown hK hP hD hS 0 rfl rfl 0 (by decide) (hts (.fieldLink "PackingCensus$Ground" 9 "PackingCensus$Ground" "kindMasks" "[I") (List.mem_cons_of_mem _ (zw_m (w := .fieldLink "PackingCensus$Ground" 9 "PackingCensus$Ground" "kindMasks" "[I") (i := 62) (by decide +kernel) (by decide +kernel)))) (fun _ h9 => h9) rfl hin rfl (by decide +kernel) rfl rfl (Nat.le_of_ble_eq_true rfl) (by decide +kernel : decode prog_3_method_1_code 9 = .ok (.putfield 9, 3)) (fun H locs hP hD hS => ?_)
  have hP : va_P D zc_cl [(h0, .inr (2, [.ref q1, .null, .int 0, .int 0, .int 0])), (q1, .inl (cA, 20, .inl (fun _ => 0)))] H := hP
  have hD : va_D A [(h0, .inr (2, [.ref q1, .null, .int 0, .int 0, .int 0])), (q1, .inl (cA, 20, .inl (fun _ => 0)))] := hD
  refine lv_aload_n hx hb (by decide +kernel : decode prog_3_method_1_code 12 = .ok (.aload_n 0, 1)) rfl (lv_at hl 0 rfl) ?_
  refine lv_bipush (v := 7) hx hb (by decide +kernel : decode prog_3_method_1_code 13 = .ok (.bipush 7, 2)) (by decide +kernel) ?_
  refine va_newa (atype := .int) (ty := .int) (n := 7) (N' := 7) (a0 := (7, .inl (fun _ => 0))) hx hb (hts (.arrayClass .int) (List.mem_cons_of_mem _ (zw_m (w := .arrayClass .int) (i := 78) (by decide +kernel) (by decide +kernel)))) rfl hK hP hD hS hA (fun _ => rfl) (by decide +kernel) (by decide +kernel : (Int32.toNatClampNeg 7 = 7)) (by decide +kernel) (Nat.le_of_ble_eq_true rfl) (Nat.le_of_ble_eq_true rfl) (by decide +kernel : decode prog_3_method_1_code 15 = .ok (.newarray .int, 2)) (fun q2 cB H hK2 hP hD hS => ?_)
  have ecB := (zk_one hK hK2).symm
  subst ecB
  have hP : va_P D zc_cl [(h0, .inr (2, [.ref q1, .null, .int 0, .int 0, .int 0])), (q1, .inl (cA, 20, .inl (fun _ => 0))), (q2, .inl (cA, 7, .inl (fun _ => 0)))] H := hP
  have hD : va_D A [(h0, .inr (2, [.ref q1, .null, .int 0, .int 0, .int 0])), (q1, .inl (cA, 20, .inl (fun _ => 0))), (q2, .inl (cA, 7, .inl (fun _ => 0)))] := hD
  refine va_putF (D := D) (ci := 2) (v := .ref q2) (ty := .array .int) (C := zc_GR) (T := zt_GR) (N := 5) hx hb hts (fun w h => List.mem_cons_of_mem _ (zi_GR w h)) zy_GR zo_GR zn_GR hown hK hP hD hS 0 rfl rfl 1 (by decide) (hts (.fieldLink "PackingCensus$Ground" 15 "PackingCensus$Ground" "kindsBefore" "[I") (List.mem_cons_of_mem _ (zw_m (w := .fieldLink "PackingCensus$Ground" 15 "PackingCensus$Ground" "kindsBefore" "[I") (i := 63) (by decide +kernel) (by decide +kernel)))) (fun _ h9 => h9) rfl hin rfl (by decide +kernel) rfl rfl (Nat.le_of_ble_eq_true rfl) (by decide +kernel : decode prog_3_method_1_code 17 = .ok (.putfield 15, 3)) (fun H locs hP hD hS => ?_)
  have hP : va_P D zc_cl [(h0, .inr (2, [.ref q1, .ref q2, .int 0, .int 0, .int 0])), (q1, .inl (cA, 20, .inl (fun _ => 0))), (q2, .inl (cA, 7, .inl (fun _ => 0)))] H := hP
  have hD : va_D A [(h0, .inr (2, [.ref q1, .ref q2, .int 0, .int 0, .int 0])), (q1, .inl (cA, 20, .inl (fun _ => 0))), (q2, .inl (cA, 7, .inl (fun _ => 0)))] := hD
  have hP9 := hP.sub (ws' := ws_GR cA h0 (fun i => ([q1, q2] : List Nat).getD (i - 1) 0)) [0, 1, 2] rfl
  have hD9 := hD.sub (ws' := ws_GR cA h0 (fun i => ([q1, q2] : List Nat).getD (i - 1) 0)) [0, 1, 2] (by decide) rfl
  refine W.widen (k := 2) (n := 27) (Nat.le_of_ble_eq_true rfl) (Nat.le_of_ble_eq_true rfl) ?_
  exact W.vret hx hb hr (fun t ht hW => ⟨⟨_, rfl, trivial, by rw [ht]; exact hP9, va_K.moved hW.alike hK, by rw [hAe]; exact hD9⟩, by rw [hAe]; exact hS.F ht⟩) hS.2.2 (by decide +kernel)
