/-! THE ABSTRACT MACHINE IS SOUND: a row for each instruction of the kit is used once, here. -/
/-- at this state the machine comes to its end Q -/
def ma_go (p : Program) (l : Launch) (e : Env) (R : Room) (s : State) (m : MethodId) (args : Array Value) (below : List Frame) (meth : Method) (c : Code) (cells slots : Nat) (Q : State → Prop) (D : va_G) (ad : Nat → Nat) (cA : ClassId) (A : Nat → Prop) : ma_G := fun pc L S w =>
  ∀ (H : Heap) (locs : List Loc) (ls : Array Slot), va_P D zc_cl (ma_cw ad cA w) H → va_S A s.heap H locs → ma_loc ad ls L → ls.size = c.maxLocals → W p l e R s m args below meth c H locs cells slots Q (F0 m pc ls (S.map (ma_cv ad)))
def ma_Kok (own : String) (Ts : List Cond) (K : List (Nat × Int32)) : Prop := ∀ q ∈ K, Cond.constant own q.1 q.2 ∈ Ts
def ma_tyk (ty : FieldType) (t : Nat) : Prop := (t = 0 ∧ ty = .int) ∨ (t = 1 ∧ ty = .boolean) ∨ (2 ≤ t ∧ ((∃ C, ty = .object C) ∨ ∃ a, ty = .array a))
def ma_Fok (own : String) (Ts : List Cond) (F : ma_F) : Prop := ∀ q ∈ F, ∃ (C : String) (T : u_T) (n : Nat) (ty : Nat → FieldType),
  zc_cl[q.2.1]? = some (C, T, n) ∧ (zc_fk q.2.1).length = n ∧ q.2.2.1 < n ∧ ((zc_fk q.2.1).getD q.2.2.1 0 = 2 ↔ 2 ≤ q.2.2.2) ∧ (∀ w ∈ u_ws C T n, w ∈ Ts) ∧ Cond.fieldLink own q.1 (T q.2.2.1).1 (T q.2.2.1).2.1 (T q.2.2.1).2.2.1 ∈ Ts ∧ (∀ k, k < n → parseFieldDescriptor (T k).2.2.1 = some (ty k)) ∧ (∀ a, a < n → ∀ b, b < n → a ≠ b → (T a).2.1 ≠ (T b).2.1) ∧ ma_tyk (ty q.2.2.1) q.2.2.2 ∧ (q.2.2.2 < 3 → (T q.2.2.1).2.2.2 = false)
def ma_rm (d : Nat) : Room := { frames := d, cells := 0, slots := 0, locals := 60 * d }
def ma_rv (rv : Bool) (x : Int32) : Option Value := match rv with
  | true => some (.int x)
  | false => none
def ma_Q (D : va_G) (ad : Nat → Nat) (cA : ClassId) (A : Nat → Prop) (rv : Bool) (post : ma_P) : Array Value → State → Outcome → State → Prop := fun _ st oc t =>
  (∃ (x : Int32) (w : ma_W), oc = .returned (ma_rv rv x) ∧ post x w ∧ va_P D zc_cl (ma_cw ad cA w) t.heap) ∧ va_F A st t
/-- a method's contract by its transformer; d: how many frames lie above it at most -/
def ma_Met (l : Launch) (y : MethodName) (ws : List Cond) (d : Nat) (rv : Bool) (T : ma_T) : Prop :=
  ∀ (D : va_G) (ad : Nat → Nat) (cA : ClassId) (as : List ma_V) (w : ma_W) (sz : Nat) (post : ma_P), T as w post → ma_D ad →
    Met l y ws (ma_rm d) (va_Pc (as.map (ma_cv ad)) (fun U => U.heap.size = sz ∧ va_P D zc_cl (ma_cw ad cA w) U.heap ∧ va_K D zc_cl [(cA, .int)] U)) (ma_Q D ad cA (ma_A ad sz) rv post) 0 0 (ma_A ad sz)
/-- Math.min -/
def ma_min : ma_T := fun as w post => ∃ x y, as = [.inl x, .inl y] ∧ post (if y < x then y else x) w
def ma_Eok (l : Launch) (own : String) (Ts : List Cond) (dep : Nat) (E : ma_E) : Prop := ∀ q ∈ E, (q.2 = (2, none, true, ma_min) ∧ Cond.methodLink own q.1 Lib.Math.min.name ∈ Ts ∧ Cond.static Lib.Math.min.name ∈ Ts ∧ Cond.initialized "java/lang/Math" ∈ Ts ∧ Cond.code Lib.Math.min.name Lib.Math.min.code 2 (some .int) ∈ Ts ∧ 1 ≤ dep) ∨ ∃ (y : MethodName) (bytes : ByteArray) (maxL d n : Nat) (ret : Option FieldType) (ws' : List Cond),
  ma_Met l y (Cond.code y bytes maxL ret :: ws') d q.2.2.2.1 q.2.2.2.2 ∧ GoodIn Ts (Cond.code y bytes maxL ret :: ws') ∧ d + 1 ≤ dep ∧ maxL ≤ 40 ∧ Cond.methodLink own q.1 y ∈ Ts ∧ Cond.initialized y.cls ∈ Ts ∧ (y.cls ≠ "java/lang/invoke/MethodHandle" ∧ y.cls ≠ "java/lang/invoke/VarHandle" ∧ (parseMethodDescriptor y.desc).map (fun d => d.parameters.length) = some n) ∧
  ((q.2.2.1 = none ∧ q.2.1 = n ∧ Cond.static y ∈ Ts) ∨ ∃ (c : Nat) (r : vw_C), q.2.2.1 = some c ∧ q.2.1 = n + 1 ∧ Cond.instanceMethod y ∈ Ts ∧ zc_cl[c]? = some r ∧ Cond.selects r.1 y y ∈ Ts)
theorem ma_tgt {pc : Nat} {d : Int} (h : 0 ≤ (pc : Int) + d) : (pc : Int) + d = (ma_tg pc d : Int) := (Int.toNat_of_nonneg h).symm
theorem ma_sum (ad : Nat → Nat) (S : List ma_V) : ((S.map (ma_cv ad)).map fun v => v.category).sum = S.length := by
  induction S with
  | nil => rfl
  | cons v S ih =>
    rw [List.map_cons, List.map_cons, List.sum_cons, ih, ma_cat, List.length_cons]
    omega
theorem ma_narb {x : Int32} (h : x = 0 ∨ x = 1) : narrow .boolean (.int x) = .int x := by
  rcases h with rfl | rfl <;> rfl
theorem ma_fitb {x : Int32} (h : x = 0 ∨ x = 1) : fits .boolean (.int x) = true := by
  rcases h with rfl | rfl <;> rfl
theorem ma_sl_len (ad : Nat → Nat) : ∀ as : List ma_V, (lg_sl (as.map (ma_cv ad))).length = as.length
  | [] => rfl
  | v :: as => by
    have h := ma_sl_len ad as
    have e : lg_sl ((v :: as).map (ma_cv ad)) = (if (ma_cv ad v).category = 2 then [Slot.val (ma_cv ad v), Slot.second] else [Slot.val (ma_cv ad v)]) ++ lg_sl (as.map (ma_cv ad)) := rfl
    rw [e, List.length_append, h, ma_cat, List.length_cons]
    simp
    omega
section MA2
variable {p : Program} {l : Launch} {e : Env} {R : Room} {s : State} {m : MethodId} {args : Array Value} {below : List Frame} {meth : Method} {c : Code} {cells slots : Nat} {Q : State → Prop}
variable {D : va_G} {ad : Nat → Nat} {cA : ClassId} {A : Nat → Prop} {cc : ByteArray} {own : String} {Ts : List Cond} {H : Heap} {locs : List Loc} {ls : Array Slot}
/-- behind a call -/
theorem ma_call {pc : Nat} {st0 rest : List Value} {A1 : Nat → Prop} {rv : Bool} {post : ma_P} {a : Array Value} (hr : va_Run p l e R s m args below meth c H locs cells slots 0 0 (F0 m pc ls st0) rest (ma_Q D ad cA A1 rv post a) A1) (hS : va_S A s.heap H locs) (hA : ∀ q, A1 q → A q)
    (kk : ∀ (x : Int32) (w : ma_W) (H1 : Heap) (locs1 : List Loc), post x w → va_P D zc_cl (ma_cw ad cA w) H1 → va_S A s.heap H1 locs1 → W p l e R s m args below meth c H1 locs1 cells slots Q (F0 m (pc + 3) ls ((ma_rv rv x).toList ++ rest))) : W p l e R s m args below meth c H locs cells slots Q (F0 m pc ls st0) := by
  intro T hT X
  obtain ⟨v, st₀, t, T', L, h0, X', hL, e1, e2, ⟨⟨x, w, hv, hp, hb⟩, hz, hk⟩, st⟩ := hr T hT X
  cases hv
  rw [h0] at hz hk
  obtain ⟨t2, a1, b1⟩ := kk x w T'.heap (locs ++ L) hp (by rw [e1]; exact hb)
    ⟨Nat.le_trans hS.1 (by rw [e1]; exact hz), fun q h1 h2 => by rw [e1, hk q (Nat.lt_of_lt_of_le h1 hS.1) (fun z => h2 (hA q z))]; exact hS.2.1 q h1 h2, fun q hq => by
      rcases List.mem_append.mp hq with h | h
      · exact hS.2.2 q h
      · exact hA _ (hL q h)⟩ T' rfl X'
  exact ⟨t2, st t2 a1, b1⟩
theorem ma_blind {av : List Value} {sz : Nat} {ws : va_W} {tys : List (ClassId × FieldType)} : FrameBlind (va_Pc av (fun U => U.heap.size = sz ∧ va_P D zc_cl ws U.heap ∧ va_K D zc_cl tys U)) := by
  intro a U g mk q
  obtain ⟨q0, q1, qP, qK⟩ := q
  exact ⟨q0, q1, qP, va_K.moved (u := U) (U := U.calling g mk a) (Vm.Alike.refl U.vm) qK⟩
variable {K : List (Nat × Int32)} {F : ma_F} {E : ma_E} {sc : ma_S} {rt : Nat} {post : ma_P} {dep : Nat}
set_option maxHeartbeats 4000000 in
set_option maxRecDepth 100000 in
/-- one instruction -/
theorem ma_one (hx : p.tables.exec = Jvm.exec) (hb : c.code = cc) (hown : s.vm.findClass own = some m.cls) (hts : ∀ w ∈ Ts, w.before args s = true) (hK : va_K D zc_cl [(cA, .int)] s) (hDD : ma_D ad) (hAA : ∀ q, ma_A ad s.heap.size q → A q)
    (hKo : ma_Kok own Ts K) (hFo : ma_Fok own Ts F) (hEo : ma_Eok l own Ts dep E) (hR : dep ≤ R.frames ∧ 60 * dep ≤ R.locals) (hcs : cells ≤ R.cells ∧ slots ≤ R.slots)
    (hsc : ∀ q, sc = some q → va_X (ad q.1) q.2.1 q.2.2 s s.heap ∧ ad q.1 < s.heap.size ∧ ¬ A (ad q.1) ∧ q.2.1 < 2 ^ 31)
    (hRi : ∀ (pc : Nat) (H : Heap) (locs : List Loc) (ls : Array Slot) (x : Int32) (w : ma_W), decode cc pc = .ok (.ireturn, 1) → va_P D zc_cl (ma_cw ad cA w) H → va_S A s.heap H locs → (rt = 1 ∨ (rt = 2 ∧ (x = 0 ∨ x = 1))) → post x w → W p l e R s m args below meth c H locs cells slots Q (F0 m pc ls [.int x]))
    (hRv : ∀ (pc : Nat) (H : Heap) (locs : List Loc) (ls : Array Slot) (w : ma_W), decode cc pc = .ok (.return_, 1) → va_P D zc_cl (ma_cw ad cA w) H → va_S A s.heap H locs → rt = 0 → post 0 w → W p l e R s m args below meth c H locs cells slots Q (F0 m pc ls []))
    {i : ClassFile.Instr} {n pc : Nat} {k : ma_L → List ma_V → ma_W → Prop} {L : ma_L} {S : List ma_V} {w : ma_W} (hdg : decode cc pc = .ok (i, n)) (hlk : ma_lok pc i n = true)
    (h : ma_stp K F E sc rt post (ma_go p l e R s m args below meth c cells slots Q D ad cA A) i pc k L S w)
    (hk : ∀ L S w, k L S w → ma_go p l e R s m args below meth c cells slots Q D ad cA A (pc + n) L S w) :
    ma_go p l e R s m args below meth c cells slots Q D ad cA A pc L S w := by
  have hA' : ∀ q, q < 33 → A (ad q) := fun q hq => hAA _ (Or.inl ⟨q, hq, rfl⟩)
  intro H locs ls hP hS hL hz
  have hD : ∀ w, va_D A (ma_cw ad cA w) := fun w => hDD.d hA'
  cases i
  case iconst j =>
    obtain ⟨rfl, hv⟩ : n = 1 ∧ Int32.ofInt j = ma_k j := by simpa [ma_lok] using hlk
    exact lv_iconst hx hb hdg hv (hk _ _ _ h H locs ls hP hS hL hz)
  case bipush j =>
    obtain ⟨rfl, hv⟩ : n = 2 ∧ (Int8.ofInt j).toInt32 = ma_k j := by simpa [ma_lok] using hlk
    exact lv_bipush hx hb hdg hv (hk _ _ _ h H locs ls hP hS hL hz)
  case sipush j =>
    obtain ⟨rfl, hv⟩ : n = 3 ∧ (Int16.ofInt j).toInt32 = ma_k j := by simpa [ma_lok] using hlk
    exact lv_sipush hx hb hdg hv (hk _ _ _ h H locs ls hP hS hL hz)
  case ldc j =>
    obtain rfl : n = 2 := by simpa [ma_lok] using hlk
    obtain ⟨x, hl, h_1⟩ := ma_o_spec h
    exact lv_ldc hx hb hown (hts _ (hKo _ (ma_look_mem hl))) hdg (hk _ _ _ h_1 H locs ls hP hS hL hz)
  case ldc_w j =>
    obtain rfl : n = 3 := by simpa [ma_lok] using hlk
    obtain ⟨x, hl, h_1⟩ := ma_o_spec h
    exact lv_ldcw hx hb hown (hts _ (hKo _ (ma_look_mem hl))) hdg (hk _ _ _ h_1 H locs ls hP hS hL hz)
  case iload j =>
    obtain rfl : n = 2 := by simpa [ma_lok] using hlk
    obtain ⟨v, hl, h_1⟩ := ma_rd_spec h
    obtain ⟨x, rfl, h_2⟩ := ma_I_spec h_1
    exact lv_iload hx hb hdg (hL.2.2 j _ hl) (hk _ _ _ h_2 H locs ls hP hS hL hz)
  case iload_n j =>
    obtain rfl : n = 1 := by simpa [ma_lok] using hlk
    obtain ⟨v, hl, h_1⟩ := ma_rd_spec h
    obtain ⟨x, rfl, h_2⟩ := ma_I_spec h_1
    exact lv_iload_n hx hb hdg rfl (hL.2.2 j.val _ hl) (hk _ _ _ h_2 H locs ls hP hS hL hz)
  case aload j =>
    obtain rfl : n = 2 := by simpa [ma_lok] using hlk
    obtain ⟨v, hl, h_1⟩ := ma_rd_spec h
    obtain ⟨x, rfl, h_2⟩ := ma_R_spec h_1
    exact lv_aload hx hb hdg (hL.2.2 j _ hl) (hk _ _ _ h_2 H locs ls hP hS hL hz)
  case aload_n j =>
    obtain rfl : n = 1 := by simpa [ma_lok] using hlk
    obtain ⟨v, hl, h_1⟩ := ma_rd_spec h
    obtain ⟨x, rfl, h_2⟩ := ma_R_spec h_1
    exact lv_aload_n hx hb hdg rfl (hL.2.2 j.val _ hl) (hk _ _ _ h_2 H locs ls hP hS hL hz)
  case istore j =>
    obtain rfl : n = 2 := by simpa [ma_lok] using hlk
    obtain ⟨x, S, rfl, h_1⟩ := ma_i1_spec h
    obtain ⟨hj0, h_2⟩ := ma_b_spec h_1
    have hj := Nat.blt_eq.mp hj0
    exact lv_istore hx hb hdg hL.has hj rfl (fun ls' h' => hk _ _ _ h_2 H locs ls' hP hS (ma_loc.set (v := .inl x) h') (by rw [h'.1, ← hL.1]; exact hz))
  case istore_n j =>
    obtain rfl : n = 1 := by simpa [ma_lok] using hlk
    obtain ⟨x, S, rfl, h_1⟩ := ma_i1_spec h
    obtain ⟨hj0, h_2⟩ := ma_b_spec h_1
    have hj := Nat.blt_eq.mp hj0
    exact lv_istore_n hx hb hdg rfl hL.has hj rfl (fun ls' h' => hk _ _ _ h_2 H locs ls' hP hS (ma_loc.set (v := .inl x) h') (by rw [h'.1, ← hL.1]; exact hz))
  case astore j =>
    obtain rfl : n = 2 := by simpa [ma_lok] using hlk
    obtain ⟨x, S, rfl, h_1⟩ := ma_r1_spec h
    obtain ⟨hj0, h_2⟩ := ma_b_spec h_1
    have hj := Nat.blt_eq.mp hj0
    exact lv_astore hx hb hdg hL.has hj rfl (fun ls' h' => hk _ _ _ h_2 H locs ls' hP hS (ma_loc.set (v := .inr x) h') (by rw [h'.1, ← hL.1]; exact hz))
  case astore_n j =>
    obtain rfl : n = 1 := by simpa [ma_lok] using hlk
    obtain ⟨x, S, rfl, h_1⟩ := ma_r1_spec h
    obtain ⟨hj0, h_2⟩ := ma_b_spec h_1
    have hj := Nat.blt_eq.mp hj0
    exact lv_astore_n hx hb hdg rfl hL.has hj rfl (fun ls' h' => hk _ _ _ h_2 H locs ls' hP hS (ma_loc.set (v := .inr x) h') (by rw [h'.1, ← hL.1]; exact hz))
  case iinc j d =>
    obtain ⟨rfl, hv⟩ : n = 3 ∧ Int32.ofInt d = ma_k d := by simpa [ma_lok] using hlk
    obtain ⟨v, hl, h_1⟩ := ma_rd_spec h
    obtain ⟨x, rfl, h_2⟩ := ma_I_spec h_1
    obtain ⟨q, hq⟩ := List.getElem?_of_mem (ma_kn_mem.mpr ⟨j, .inl x, hl, rfl⟩ : (j, ma_cv ad (.inl x)) ∈ ma_kn ad L)
    exact lv_iinc hx hb hdg hL.has hq (by rw [hv]) (List.getElem?_eq_some_iff.mp hl).1 rfl (fun ls' h' => hk _ _ _ h_2 H locs ls' hP hS (ma_loc.set (v := .inl (x + ma_k d)) h') (by rw [h'.1, ← hL.1]; exact hz))
  case iadd =>
    obtain rfl : n = 1 := by simpa [ma_lok] using hlk
    obtain ⟨x, y, S, rfl, h_1⟩ := ma_i2_spec h
    exact lv_iadd hx hb hdg (hk _ _ _ h_1 H locs ls hP hS hL hz)
  case isub =>
    obtain rfl : n = 1 := by simpa [ma_lok] using hlk
    obtain ⟨x, y, S, rfl, h_1⟩ := ma_i2_spec h
    exact lv_isub hx hb hdg (hk _ _ _ h_1 H locs ls hP hS hL hz)
  case imul =>
    obtain rfl : n = 1 := by simpa [ma_lok] using hlk
    obtain ⟨x, y, S, rfl, h_1⟩ := ma_i2_spec h
    exact lv_imul hx hb hdg (hk _ _ _ h_1 H locs ls hP hS hL hz)
  case iand =>
    obtain rfl : n = 1 := by simpa [ma_lok] using hlk
    obtain ⟨x, y, S, rfl, h_1⟩ := ma_i2_spec h
    exact lv_iand hx hb hdg (hk _ _ _ h_1 H locs ls hP hS hL hz)
  case ior =>
    obtain rfl : n = 1 := by simpa [ma_lok] using hlk
    obtain ⟨x, y, S, rfl, h_1⟩ := ma_i2_spec h
    exact lv_ior hx hb hdg (hk _ _ _ h_1 H locs ls hP hS hL hz)
  case ixor =>
    obtain rfl : n = 1 := by simpa [ma_lok] using hlk
    obtain ⟨x, y, S, rfl, h_1⟩ := ma_i2_spec h
    exact lv_ixor hx hb hdg (hk _ _ _ h_1 H locs ls hP hS hL hz)
  case ishl =>
    obtain rfl : n = 1 := by simpa [ma_lok] using hlk
    obtain ⟨x, y, S, rfl, h_1⟩ := ma_i2_spec h
    exact lv_ishl hx hb hdg (hk _ _ _ h_1 H locs ls hP hS hL hz)
  case ishr =>
    obtain rfl : n = 1 := by simpa [ma_lok] using hlk
    obtain ⟨x, y, S, rfl, h_1⟩ := ma_i2_spec h
    exact lv_ishr hx hb hdg (hk _ _ _ h_1 H locs ls hP hS hL hz)
  case iushr =>
    obtain rfl : n = 1 := by simpa [ma_lok] using hlk
    obtain ⟨x, y, S, rfl, h_1⟩ := ma_i2_spec h
    exact lv_iushr hx hb hdg rfl (hk _ _ _ h_1 H locs ls hP hS hL hz)
  case idiv =>
    obtain rfl : n = 1 := by simpa [ma_lok] using hlk
    obtain ⟨x, y, S, rfl, h0, h_1⟩ := ma_i2_spec h
    exact lv_idiv hx hb hdg h0 (hk _ _ _ h_1 H locs ls hP hS hL hz)
  case irem =>
    obtain rfl : n = 1 := by simpa [ma_lok] using hlk
    obtain ⟨x, y, S, rfl, h0, h_1⟩ := ma_i2_spec h
    exact lv_irem hx hb hdg h0 (hk _ _ _ h_1 H locs ls hP hS hL hz)
  case ineg =>
    obtain rfl : n = 1 := by simpa [ma_lok] using hlk
    obtain ⟨x, S, rfl, h_1⟩ := ma_i1_spec h
    exact lv_ineg hx hb hdg (hk _ _ _ h_1 H locs ls hP hS hL hz)
  case dup =>
    obtain rfl : n = 1 := by simpa [ma_lok] using hlk
    obtain ⟨a, S, rfl, h_1⟩ := ma_1_spec h
    exact lv_dup hx hb hdg (ma_cat ad a) (hk _ _ _ h_1 H locs ls hP hS hL hz)
  case dup2 =>
    obtain rfl : n = 1 := by simpa [ma_lok] using hlk
    obtain ⟨a, S, rfl, h_1⟩ := ma_1_spec h
    obtain ⟨b, S, rfl, h_2⟩ := ma_1_spec h_1
    exact lv_dup2_11 hx hb hdg (ma_cat ad a) (ma_cat ad b) (hk _ _ _ h_2 H locs ls hP hS hL hz)
  case pop =>
    obtain rfl : n = 1 := by simpa [ma_lok] using hlk
    obtain ⟨a, S, rfl, h_1⟩ := ma_1_spec h
    exact lv_pop hx hb hdg (ma_cat ad a) (hk _ _ _ h_1 H locs ls hP hS hL hz)
  case goto d =>
    obtain ⟨rfl, h0⟩ : n = 3 ∧ 0 ≤ (pc : Int) + d := by simpa [ma_lok] using hlk
    exact lv_goto hx hb hdg (ma_tgt h0) (h H locs ls hP hS hL hz)
  case ifCond cd d =>
    obtain ⟨rfl, h0⟩ : n = 3 ∧ 0 ≤ (pc : Int) + d := by simpa [ma_lok] using hlk
    obtain ⟨x, S, rfl, ht, hf⟩ := ma_i1_spec h
    simp only [nI_0] at ht hf
    cases cd
    · exact lv_if_eq hx hb hdg (ma_tgt h0) (fun q => ht q H locs ls hP hS hL hz) (fun q => hk _ _ _ (hf q) H locs ls hP hS hL hz)
    · exact lv_if_ne hx hb hdg (ma_tgt h0) (fun q => ht q H locs ls hP hS hL hz) (fun q => hk _ _ _ (hf (fun z => z q)) H locs ls hP hS hL hz)
    · exact lv_if_lt hx hb hdg (ma_tgt h0) (fun q => ht q H locs ls hP hS hL hz) (fun q => hk _ _ _ (hf q) H locs ls hP hS hL hz)
    · exact lv_if_ge hx hb hdg (ma_tgt h0) (fun q => ht q H locs ls hP hS hL hz) (fun q => hk _ _ _ (hf q) H locs ls hP hS hL hz)
    · exact lv_if_gt hx hb hdg (ma_tgt h0) (fun q => ht q H locs ls hP hS hL hz) (fun q => hk _ _ _ (hf q) H locs ls hP hS hL hz)
    · exact lv_if_le hx hb hdg (ma_tgt h0) (fun q => ht q H locs ls hP hS hL hz) (fun q => hk _ _ _ (hf q) H locs ls hP hS hL hz)
  case if_icmp cd d =>
    obtain ⟨rfl, h0⟩ : n = 3 ∧ 0 ≤ (pc : Int) + d := by simpa [ma_lok] using hlk
    obtain ⟨x, y, S, rfl, ht, hf⟩ := ma_i2_spec h
    cases cd
    · exact lv_icmp_eq hx hb hdg (ma_tgt h0) (fun q => ht q H locs ls hP hS hL hz) (fun q => hk _ _ _ (hf q) H locs ls hP hS hL hz)
    · exact lv_icmp_ne hx hb hdg (ma_tgt h0) (fun q => ht q H locs ls hP hS hL hz) (fun q => hk _ _ _ (hf (fun z => z q)) H locs ls hP hS hL hz)
    · exact lv_icmp_lt hx hb hdg (ma_tgt h0) (fun q => ht q H locs ls hP hS hL hz) (fun q => hk _ _ _ (hf q) H locs ls hP hS hL hz)
    · exact lv_icmp_ge hx hb hdg (ma_tgt h0) (fun q => ht q H locs ls hP hS hL hz) (fun q => hk _ _ _ (hf q) H locs ls hP hS hL hz)
    · exact lv_icmp_gt hx hb hdg (ma_tgt h0) (fun q => ht q H locs ls hP hS hL hz) (fun q => hk _ _ _ (hf q) H locs ls hP hS hL hz)
    · exact lv_icmp_le hx hb hdg (ma_tgt h0) (fun q => ht q H locs ls hP hS hL hz) (fun q => hk _ _ _ (hf q) H locs ls hP hS hL hz)
  case getfield j =>
    obtain rfl : n = 3 := by simpa [ma_lok] using hlk
    obtain ⟨⟨ci, kf, t⟩, hl, h_1⟩ := ma_o_spec h
    obtain ⟨q, S, rfl, h_2⟩ := ma_r1_spec h_1
    obtain ⟨hq, hs, h_3⟩ := ma_isk_spec h_2
    obtain ⟨C, T, n, ty, hc, hlen, hkn, hkd, hin, hlink, -, -, -, -⟩ := hFo _ (ma_look_mem hl)
    dsimp only at hc hlen hkn hkd hlink hs h_3
    have hkl : kf < (zc_fk ci).length := by rw [hlen]; exact hkn
    have he : (ma_cw ad cA w)[q]? = some (ad q, .inr (ci, ma_fs ad w q (zc_fk ci))) := by rw [ma_cw_get hq, ma_el, hs]
    have hv : (ma_fs ad w q (zc_fk ci))[kf]? = some (ma_cv ad (ma_gf w q kf t)) := by
      rw [ma_fs_get _ _ _ _ hkl, ma_fv]
      by_cases ht : 2 ≤ t
      · rw [if_pos (hkd.mpr ht)]
        obtain ⟨t', rfl⟩ : ∃ t', t = t' + 2 := ⟨t - 2, by omega⟩
        rfl
      · rw [if_neg (fun z => ht (hkd.mp z))]
        have : t = 0 ∨ t = 1 := by omega
        rcases this with rfl | rfl <;> rfl
    exact va_get hx hb hts hin hown hK hP q he hc kf hkn (hts _ hlink) (fun _ h9 => h9) hv hdg (hk _ _ _ h_3 H locs ls hP hS hL hz)
  case putfield j =>
    obtain rfl : n = 3 := by simpa [ma_lok] using hlk
    obtain ⟨⟨ci, kf, t⟩, hl, h_1⟩ := ma_o_spec h
    obtain ⟨v, S, rfl, h_2⟩ := ma_1_spec h_1
    obtain ⟨q, S, rfl, h_3⟩ := ma_r1_spec h_2
    obtain ⟨hq, hs, h_4⟩ := ma_isk_spec h_3
    obtain ⟨C, T, n, ty, hc, hlen, hkn, hkd, hin, hlink, hty, hnm, htk, hfin⟩ := hFo _ (ma_look_mem hl)
    dsimp only at hc hlen hkn hkd hlink hs h_4 htk hfin
    have hkl : kf < (zc_fk ci).length := by rw [hlen]; exact hkn
    have he : (ma_cw ad cA w)[q]? = some (ad q, .inr (ci, ma_fs ad w q (zc_fk ci))) := by rw [ma_cw_get hq, ma_el, hs]
    have hint : ∀ x : Int32, t < 2 → (t = 1 → x = 0 ∨ x = 1) → k L S (ma_up w.1 q kf x, w.2) → W p l e R s m args below meth c H locs cells slots Q (F0 m pc ls (.int x :: .ref (ad q) :: S.map (ma_cv ad))) := by
      intro x ht hx1 h_9
      have hf : narrow (ty kf) (.int x) = .int x ∧ fits (ty kf) (.int x) = true := by
        rcases htk with ⟨h1, h2⟩ | ⟨h1, h2⟩ | ⟨h1, -⟩
        · rw [h2]; exact ⟨rfl, rfl⟩
        · rw [h2]; exact ⟨ma_narb (hx1 h1), ma_fitb (hx1 h1)⟩
        · omega
      refine va_put (v := .int x) hx hb hts hin ty hty hnm hown hK hP (hD w) hS q he hc kf hkn (hts _ hlink) (fun _ h9 => h9) (hfin (by omega)) (hty kf hkn) hf.1 hf.2 (by rw [ma_fs_len]; exact hkl) hdg (fun H1 locs1 hP1 _ hS1 => ?_)
      rw [ma_set_i hq hs hkl (fun z => by have := hkd.mp z; omega)] at hP1
      exact hk _ _ _ h_9 H1 locs1 ls hP1 hS1 hL hz
    have href : ∀ (y : Nat) (r : Nat × Nat), t = 2 → q = 0 → ci = 0 → kf < 12 → zr r 0 kf = y → (∀ a b, ¬ (a = 0 ∧ b = kf) → zr r a b = zr w.2.1 a b) → k L S (w.1, r, w.2.2) → W p l e R s m args below meth c H locs cells slots Q (F0 m pc ls (.ref (ad y) :: .ref (ad q) :: S.map (ma_cv ad))) := by
      intro y r ht hq0 hci hk12 hy hzr h_9
      subst ht hq0 hci
      have hf : narrow (ty kf) (.ref (ad y)) = .ref (ad y) ∧ fits (ty kf) (.ref (ad y)) = true := by
        rcases htk with ⟨h1, -⟩ | ⟨h1, -⟩ | ⟨-, ⟨C, h2⟩ | ⟨b, h2⟩⟩
        · cases h1
        · cases h1
        · rw [h2]; exact ⟨rfl, rfl⟩
        · rw [h2]; exact ⟨rfl, rfl⟩
      refine va_put (v := .ref (ad y)) hx hb hts hin ty hty hnm hown hK hP (hD w) hS 0 he hc kf hkn (hts _ hlink) (fun _ h9 => h9) (hfin (by omega)) (hty kf hkn) hf.1 hf.2 (by rw [ma_fs_len]; exact hkl) hdg (fun H1 locs1 hP1 _ hS1 => ?_)
      rw [ma_set_r hk12 hy hzr (hkd.mpr (Nat.le_refl 2))] at hP1
      exact hk _ _ _ h_9 H1 locs1 ls hP1 hS1 hL hz
    unfold ma_pf at h_4
    split at h_4
    · obtain ⟨x, rfl, h_5⟩ := ma_I_spec h_4
      exact hint x (by decide) (fun z => by cases z) h_5
    · obtain ⟨x, rfl, h1, h_5⟩ := ma_I_spec h_4
      exact hint x (by decide) (fun _ => h1) h_5
    · obtain ⟨y, rfl, h_5⟩ := ma_R_spec h_4
      unfold ma_pr at h_5
      split at h_5
      · rename_i hq0
        have hq0 := Nat.eq_of_beq_eq_true hq0
        subst hq0
        have hci : ci = 0 := (Sum.inl.inj hs).symm
        exact href y (y, w.2.1.2) rfl rfl hci (by decide) rfl (zr_5 y w.2.1) h_5
      · rename_i hq0
        have hq0 := Nat.eq_of_beq_eq_true hq0
        subst hq0
        have hci : ci = 0 := (Sum.inl.inj hs).symm
        exact href y (w.2.1.1, y) rfl rfl hci (by decide) rfl (zr_6 y w.2.1) h_5
      · exact h_5.elim
    · exact h_4.elim
  case iaload =>
    obtain rfl : n = 1 := by simpa [ma_lok] using hlk
    obtain ⟨i, S, rfl, h_1⟩ := ma_i1_spec h
    obtain ⟨q, S, rfl, h_2⟩ := ma_r1_spec h_1
    have hord : (ma_ark q fun n => ma_ix i n fun j => k L (.inl (w.2.2 q j) :: S) w) → W p l e R s m args below meth c H locs cells slots Q (F0 m pc ls (.int i :: .ref (ad q) :: S.map (ma_cv ad))) := by
      intro h_2
      obtain ⟨n, hs, j, hj, rfl, h_5⟩ := ma_ark_spec h_2
      have hq := zc_sh_r hs (by omega)
      have hn := zc_sh_s hs
      have he : (ma_cw ad cA w)[q]? = some (ad q, .inl (cA, n, .inl (w.2.2 q))) := by rw [ma_cw_get hq, ma_el, hs]
      refine va_iald hx hb hK hP q 0 he rfl (vp_in_nI hj hn) hdg ?_
      rw [nI_clamp (by omega)]
      exact hk _ _ _ h_5 H locs ls hP hS hL hz
    unfold ma_ld at h_2
    split at h_2
    · exact hord h_2
    · rename_i b n xs
      obtain ⟨hX, hbl, hbA, hnn⟩ := hsc _ rfl
      split at h_2
      · rename_i hqb
        have hqb := Nat.eq_of_beq_eq_true hqb
        subst hqb
        obtain ⟨j, hj, rfl, h_5⟩ := h_2
        refine va_sld hx hb hX hbl hbA hS (vp_in_nI hj hnn) hdg ?_
        dsimp only at hnn hj
        rw [nI_clamp (by omega)]
        exact hk _ _ _ h_5 H locs ls hP hS hL hz
      · exact hord h_2
  case iastore =>
    obtain rfl : n = 1 := by simpa [ma_lok] using hlk
    obtain ⟨i, x, S, rfl, h_1⟩ := ma_i2_spec h
    obtain ⟨q, S, rfl, h_2⟩ := ma_r1_spec h_1
    obtain ⟨n, hs, j, hj, rfl, h_3⟩ := ma_ark_spec h_2
    have hq := zc_sh_r hs (by omega)
    have hn := zc_sh_s hs
    have he : (ma_cw ad cA w)[q]? = some (ad q, .inl (cA, n, .inl (w.2.2 q))) := by rw [ma_cw_get hq, ma_el, hs]
    refine va_iast hx hb hK hP (hD w) hS q 0 he rfl (vp_in_nI hj hn) hdg (fun H1 locs1 hP1 _ hS1 => ?_)
    rw [nI_clamp (by omega), ma_set_a hq hs] at hP1
    exact hk _ _ _ h_3 H1 locs1 ls hP1 hS1 hL hz
  case arraylength =>
    obtain rfl : n = 1 := by simpa [ma_lok] using hlk
    obtain ⟨q, S, rfl, h_1⟩ := ma_r1_spec h
    obtain ⟨b, hb2, rfl, h_2⟩ := ma_o_spec h_1
    obtain ⟨hX, hbl, hbA, -⟩ := hsc _ hb2
    exact va_slen hx hb hX hbl hbA hS hdg (hk _ _ _ h_2 H locs ls hP hS hL hz)
  case invokevirtual j =>
    obtain rfl : n = 3 := by simpa [ma_lok] using hlk
    obtain ⟨⟨na, rc, rv, T⟩, hl, h_1⟩ := ma_o_spec h
    obtain ⟨ci, hrc, h_2⟩ := ma_o_spec h_1
    obtain ⟨hbb, h_3⟩ := ma_b_spec h_2
    obtain ⟨v, hv, h_4⟩ := ma_o_spec h_3
    obtain ⟨q, rfl, h_5⟩ := ma_R_spec h_4
    obtain ⟨hq, hs, h_6⟩ := ma_isk_spec h_5
    dsimp only at hrc hbb hv hs h_6
    rw [Bool.and_eq_true] at hbb
    have hn := Nat.le_of_ble_eq_true hbb.1
    have hlen := Nat.le_of_ble_eq_true hbb.2
    obtain ⟨ys, hys⟩ := List.getLast?_eq_some_iff.mp hv
    rcases hEo _ (ma_look_mem hl) with ⟨hmin, -⟩ | ⟨y, bytes, maxL, d, np, ret, ws', hM, hG, hd, hmx, hlink, hini, hnames, hkind⟩
    · cases hmin
      cases hrc
    · dsimp only at hM hkind hlink
      rcases hkind with ⟨h1, -⟩ | ⟨ci', r, h1, hna, hinst, hr, hsel⟩
      · rw [hrc] at h1; cases h1
      · obtain rfl : ci = ci' := Option.some.inj (hrc.symm.trans h1)
        have hS0 : S = ys ++ .inr q :: S.drop na := by
          have := (List.take_append_drop na S).symm
          rw [hys, List.append_assoc] at this
          exact this
        have hyl : ys.length = np := by
          have h2 : (S.take na).length = na := by rw [List.length_take]; omega
          rw [hys, List.length_append, List.length_singleton] at h2
          omega
        rw [hys, List.reverse_append] at h_6
        have he : (ma_cw ad cA w)[q]? = some (ad q, .inr (ci, ma_fs ad w q (zc_fk ci))) := by rw [ma_cw_get hq, ma_el, hs]
        have hst : S.map (ma_cv ad) = (ys.reverse.map (ma_cv ad)).reverse ++ .ref (ad q) :: (S.drop na).map (ma_cv ad) := by
          conv => lhs; rw [hS0]
          rw [List.map_append, List.map_cons, List.map_reverse, List.reverse_reverse]
          rfl
        have hRR : d + 1 ≤ R.frames ∧ 8 + (maxL + 11) + 60 * d ≤ R.locals := by omega
        rw [hst]
        refine ma_call (A := A) (va_runV (As := ys.reverse.map (ma_cv ad)) (rest := (S.drop na).map (ma_cv ad)) ⟨hx, hb, rfl, hown, hts⟩ (hM D ad cA (.inr q :: ys.reverse) w H.size _ h_6 hDD)
          ⟨callB_of np hts hG rfl rfl rfl (hts _ hini) (hts _ hlink) hnames hRR, hts _ hinst, hts _ hsel⟩
          ⟨ma_blind, va_recv hK hP hr he, fun U hU hW => ⟨rfl, by rw [hU], by rw [hU]; exact hP, va_K.moved hW.alike hK⟩⟩
          rfl (by rw [List.length_map, List.length_reverse]; exact hyl) hz rfl (lv_room (by rw [ma_sum]; exact hlen)) hdg ⟨hcs.1, hcs.2⟩) hS (fun q hq => ?_) (fun x w1 H1 locs1 hp hP1 hS1 => ?_)
        · rcases hq with hq | hq
          · exact hAA _ (Or.inl hq)
          · exact hAA _ (Or.inr (Nat.le_trans hS.1 hq))
        · have := hk _ _ _ hp H1 locs1 ls hP1 hS1 hL hz
          cases rv <;> exact this
  case invokestatic j =>
    obtain rfl : n = 3 := by simpa [ma_lok] using hlk
    obtain ⟨⟨na, rc, rv, T⟩, hl, h_1⟩ := ma_o_spec h
    obtain ⟨hbb, h_2⟩ := ma_b_spec h_1
    dsimp only at hbb h_2
    rw [Bool.and_eq_true, Bool.and_eq_true] at hbb
    have hrc := Option.isNone_iff_eq_none.mp hbb.1
    have hn := Nat.le_of_ble_eq_true hbb.2.1
    have hlen := Nat.le_of_ble_eq_true hbb.2.2
    rcases hEo _ (ma_look_mem hl) with ⟨hmin, hl1, hl2, hl3, hl4, hd1⟩ | ⟨y, bytes, maxL, d, np, ret, ws', hM, hG, hd, hmx, hlink, hini, hnames, hkind⟩
    · cases hmin
      obtain ⟨x, y, hxy, h_3⟩ := h_2
      have hS0 : S = .inl y :: .inl x :: S.drop 2 := by
        have h9 := congrArg List.reverse hxy
        rw [List.reverse_reverse] at h9
        have := (List.take_append_drop 2 S).symm
        rw [h9] at this
        exact this
      have hst : S.map (ma_cv ad) = .int y :: .int x :: (S.drop 2).map (ma_cv ad) := by
        conv => lhs; rw [hS0]
        rfl
      rw [hst]
      exact va_mmin hx hb hz.symm hown (hts _ hl1) (hts _ hl2) (hts _ hl3) (hts _ hl4) (by omega) (by rw [ma_sum]; omega) hcs.1 hcs.2 hdg (hk _ _ _ h_3 H locs ls hP hS hL hz)
    · dsimp only at hM hkind hlink
      rcases hkind with ⟨-, hna, hstat⟩ | ⟨ci', r, h1, -⟩
      · have hyl : (S.take na).length = np := by rw [List.length_take]; omega
        have hst : S.map (ma_cv ad) = ((S.take na).reverse.map (ma_cv ad)).reverse ++ (S.drop na).map (ma_cv ad) := by
          rw [List.map_reverse, List.reverse_reverse, ← List.map_append, List.take_append_drop]
        have hRR : d + 1 ≤ R.frames ∧ 8 + (maxL + 11) + 60 * d ≤ R.locals := by omega
        rw [hst]
        refine ma_call (A := A) (va_runS (As := (S.take na).reverse.map (ma_cv ad)) (rest := (S.drop na).map (ma_cv ad)) ⟨hx, hb, rfl, hown, hts⟩ (hM D ad cA (S.take na).reverse w H.size _ h_2 hDD)
          ⟨callB_of np hts hG rfl rfl rfl (hts _ hini) (hts _ hlink) hnames hRR, hts _ hstat⟩
          ⟨ma_blind, fun U hU hW => ⟨rfl, by rw [hU], by rw [hU]; exact hP, va_K.moved hW.alike hK⟩⟩
          rfl (by rw [List.length_map, List.length_reverse]; exact hyl) hz rfl (lv_room (by rw [ma_sum]; exact hlen)) hdg ⟨hcs.1, hcs.2⟩) hS (fun q hq => ?_) (fun x w1 H1 locs1 hp hP1 hS1 => ?_)
        · rcases hq with hq | hq
          · exact hAA _ (Or.inl hq)
          · exact hAA _ (Or.inr (Nat.le_trans hS.1 hq))
        · have := hk _ _ _ hp H1 locs1 ls hP1 hS1 hL hz
          cases rv <;> exact this
      · rw [hrc] at h1; cases h1
  case tableswitch d lo hi offs =>
    obtain ⟨h0, hoff⟩ : 0 ≤ (pc : Int) + d ∧ ∀ o ∈ offs.toList, 0 ≤ (pc : Int) + o := by
      simp only [ma_lok, Bool.and_eq_true, decide_eq_true_eq, List.all_eq_true] at hlk
      exact hlk
    obtain ⟨x, S, rfl, h1, h2⟩ := ma_i1_spec h
    by_cases hout : x.toInt < lo ∨ hi < x.toInt
    · exact lv_tableOut hx hb hdg hout (ma_tgt h0) (h1 hout H locs ls hP hS hL hz)
    · have ha : ¬ x.toInt < lo := fun z => hout (Or.inl z)
      have hb' : ¬ hi < x.toInt := fun z => hout (Or.inr z)
      obtain ⟨o, ho, hgo⟩ := ma_o_spec (h2 ha hb')
      have hmem : o ∈ offs.toList := by
        have := Array.mem_of_getElem? ho
        exact Array.mem_toList_iff.mpr this
      exact lv_tableIn hx hb hdg ha hb' ho (ma_tgt (hoff o hmem)) (hgo H locs ls hP hS hL hz)
  case ireturn =>
    obtain rfl : n = 1 := by simpa [ma_lok] using hlk
    obtain ⟨x, rfl, h_1, h_2⟩ := ma_ir_spec h
    exact hRi pc H locs ls _ w hdg hP hS h_1 h_2
  case return_ =>
    obtain rfl : n = 1 := by simpa [ma_lok] using hlk
    obtain ⟨rfl, h_1, h_2⟩ := ma_vr_spec h
    exact hRv pc H locs ls w hdg hP hS h_1 h_2
  all_goals exact False.elim h
set_option maxHeartbeats 4000000 in
/-- a run of instructions -/
theorem ma_run (hx : p.tables.exec = Jvm.exec) (hb : c.code = cc) (hown : s.vm.findClass own = some m.cls) (hts : ∀ w ∈ Ts, w.before args s = true) (hK : va_K D zc_cl [(cA, .int)] s) (hDD : ma_D ad) (hAA : ∀ q, ma_A ad s.heap.size q → A q)
    (hKo : ma_Kok own Ts K) (hFo : ma_Fok own Ts F) (hEo : ma_Eok l own Ts dep E) (hR : dep ≤ R.frames ∧ 60 * dep ≤ R.locals) (hcs : cells ≤ R.cells ∧ slots ≤ R.slots)
    (hsc : ∀ q, sc = some q → va_X (ad q.1) q.2.1 q.2.2 s s.heap ∧ ad q.1 < s.heap.size ∧ ¬ A (ad q.1) ∧ q.2.1 < 2 ^ 31)
    (hRi : ∀ (pc : Nat) (H : Heap) (locs : List Loc) (ls : Array Slot) (x : Int32) (w : ma_W), decode cc pc = .ok (.ireturn, 1) → va_P D zc_cl (ma_cw ad cA w) H → va_S A s.heap H locs → (rt = 1 ∨ (rt = 2 ∧ (x = 0 ∨ x = 1))) → post x w → W p l e R s m args below meth c H locs cells slots Q (F0 m pc ls [.int x]))
    (hRv : ∀ (pc : Nat) (H : Heap) (locs : List Loc) (ls : Array Slot) (w : ma_W), decode cc pc = .ok (.return_, 1) → va_P D zc_cl (ma_cw ad cA w) H → va_S A s.heap H locs → rt = 0 → post 0 w → W p l e R s m args below meth c H locs cells slots Q (F0 m pc ls [])) :
    ∀ (seg : ma_C) (pc : Nat), ma_dec cc pc seg = true → ∀ (L : ma_L) (S : List ma_V) (w : ma_W), ma_wp K F E sc rt post (ma_go p l e R s m args below meth c cells slots Q D ad cA A) seg pc L S w → ma_go p l e R s m args below meth c cells slots Q D ad cA A pc L S w := by
  intro seg
  induction seg with
  | nil => intro pc _ L S w h; exact h
  | cons q r ih =>
    obtain ⟨i, n⟩ := q
    intro pc hd L S w h
    simp only [ma_dec, Bool.and_eq_true, decide_eq_true_eq] at hd
    obtain ⟨hdg, hlk, hdr⟩ := hd
    exact ma_one hx hb hown hts hK hDD hAA hKo hFo hEo hR hcs hsc hRi hRv hdg hlk h (fun L S w h => ih (pc + n) hdr L S w h)
end MA2
/-- a predicate that is closed backwards under a method's runs of instructions -/
def ma_cl (K : List (Nat × Int32)) (F : ma_F) (E : ma_E) (sc : ma_S) (rt : Nat) (segs : List (Nat × ma_C)) (post : ma_P) (Go : ma_G) : Prop :=
  ∀ (i pc : Nat) (seg : ma_C), segs[i]? = some (pc, seg) → ∀ (L : ma_L) (S : List ma_V) (w : ma_W), ma_wp K F E sc rt post Go seg pc L S w → Go pc L S w
theorem ma_segs {cc : ByteArray} {segs : List (Nat × ma_C)} (h : segs.all (fun q => ma_dec cc q.1 q.2) = true) {i pc : Nat} {seg : ma_C} (hi : segs[i]? = some (pc, seg)) : ma_dec cc pc seg = true := List.all_eq_true.mp h _ (List.mem_of_getElem? hi)
set_option maxHeartbeats 4000000 in
/-- A METHOD'S CONTRACT from its body's -/
theorem ma_met {l : Launch} {y : MethodName} {cc : ByteArray} {maxL : Nat} {ret : Option FieldType} {ws' : List Cond} {K : List (Nat × Int32)} {F : ma_F} {E : ma_E} {rt : Nat} {rv : Bool} {segs : List (Nat × ma_C)} {dep : Nat} {T : ma_T}
    (hy : plainName y.cls = true) (hseg : segs.all (fun q => ma_dec cc q.1 q.2) = true) (hret : (ret = none ∧ rt = 0 ∧ rv = false) ∨ (ret = some .int ∧ rt = 1 ∧ rv = true) ∨ (ret = some .boolean ∧ rt = 2 ∧ rv = true))
    (hKo : ma_Kok y.cls (Cond.code y cc maxL ret :: ws') K) (hFo : ma_Fok y.cls (Cond.code y cc maxL ret :: ws') F) (hEo : ma_Eok l y.cls (Cond.code y cc maxL ret :: ws') dep E)
    (hT : ∀ as w post, T as w post → as.length ≤ maxL)
    (hpost : ∀ as w post, T as w post → ∀ Go, ma_cl K F E none rt segs post Go → Go 0 (as.map some ++ List.replicate (maxL - as.length) none) [] w) :
    ma_Met l y (Cond.code y cc maxL ret :: ws') dep rv T := by
  intro D ad cA as w sz post hTp hDD
  refine Met.ofW (cc := cc) (maxL := maxL) (ret := ret) hy rfl ?_
  intro p e s m args below meth c s₁ B hml hv
  obtain ⟨rfl, hsz, hP, hK⟩ := hv
  subst hsz
  have hx := B.exec
  have hb := B.bytes
  have hr := B.returns
  have hts := atoms_spec (ws := Cond.code y cc maxL ret :: ws') B.pre
  have hown : s.vm.findClass y.cls = some m.cls := findClass_of_methodNamed B.named
  have hlocks := B.notSynchronized
  have hlen := hT as w post hTp
  have hsl : (lg_sl (as.map (ma_cv ad))).length = as.length := by
    exact ma_sl_len ad as
  have hl := lv_entry (as.map (ma_cv ad)) (n := maxL) (by rw [hsl]; exact hlen)
  rw [lg_entry_eq]
  generalize (lg_sl (as.map (ma_cv ad)) ++ List.replicate (maxL - (lg_sl (as.map (ma_cv ad))).length) Slot.unset).toArray = ls at hl ⊢
  have hargs : ∀ (as : List ma_V) (i k : Nat) (v : ma_V), as[k]? = some v → (i + k, ma_cv ad v) ∈ lv_args i (as.map (ma_cv ad)) := by
    intro as
    induction as with
    | nil => intro i k v h; simp at h
    | cons a as ih =>
      intro i k v h
      rw [List.map_cons]
      simp only [lv_args, ma_cat]
      cases k with
      | zero => simp at h; subst h; exact List.mem_cons_self
      | succ k =>
        rw [List.getElem?_cons_succ] at h
        have := ih (i + 1) k v h
        rw [show i + (k + 1) = i + 1 + k by omega]
        exact List.mem_cons_of_mem _ (by simpa using this)
  have hloc : ma_loc ad ls (as.map some ++ List.replicate (maxL - as.length) none) := by
    refine ⟨by rw [hl.1]; simp; omega, hl.2.1, fun k v hk => ?_⟩
    by_cases hka : k < as.length
    · rw [List.getElem?_append_left (by simpa using hka), List.getElem?_map] at hk
      cases hq : as[k]? with
      | none => rw [hq] at hk; cases hk
      | some u =>
        rw [hq] at hk
        cases hk
        have := hl.2.2 _ (hargs as 0 k v hq)
        simpa using this
    · rw [List.getElem?_append_right (by simp; omega)] at hk
      have := List.mem_of_getElem? hk
      rw [List.mem_replicate] at this
      cases this.2
  have hgo : ma_go p l e (headSpec (Cond.code y cc maxL ret :: ws') (ma_rm dep)).room s m (as.map (ma_cv ad)).toArray below meth c 0 0 (MQ below (ma_Q D ad cA (ma_A ad s.heap.size) rv post) (as.map (ma_cv ad)).toArray s 0 0 (ma_A ad s.heap.size)) D ad cA (ma_A ad s.heap.size) 0 (as.map some ++ List.replicate (maxL - as.length) none) [] w := by
    refine hpost as w post hTp _ (fun i pc seg hi => ma_run hx hb hown hts hK hDD (fun _ h => h) hKo hFo hEo ⟨Nat.le_refl _, Nat.le_refl _⟩ ⟨Nat.le_refl _, Nat.le_refl _⟩ (fun q h => by cases h) ?_ ?_ seg pc (ma_segs hseg hi))
    · intro pc H locs ls x w hdg hP hS hrb hp
      rcases hret with ⟨-, h1, -⟩ | ⟨h1, -, h3⟩ | ⟨h1, h2, h3⟩
      · rcases hrb with h | ⟨h, -⟩
        · rw [h1] at h; cases h
        · rw [h1] at h; cases h
      · subst h3
        have hq : ∀ t : State, t.heap = H → s.WarmedH t.vm → ma_Q D ad cA (ma_A ad s.heap.size) true post (as.map (ma_cv ad)).toArray s (.returned (some (.int x))) t := fun t ht _ => ⟨⟨x, w, rfl, hp, by rw [ht]; exact hP⟩, hS.F ht⟩
        exact W.iret hx hb (hr.trans h1) hq hS.2.2 hdg
      · subst h3
        have hq : ∀ t : State, t.heap = H → s.WarmedH t.vm → ma_Q D ad cA (ma_A ad s.heap.size) true post (as.map (ma_cv ad)).toArray s (.returned (some (.int x))) t := fun t ht _ => ⟨⟨x, w, rfl, hp, by rw [ht]; exact hP⟩, hS.F ht⟩
        refine W.zret hx hb (hr.trans h1) (ma_narb ?_) hq hS.2.2 hdg
        rcases hrb with h | ⟨-, h⟩
        · rw [h2] at h; cases h
        · exact h
    · intro pc H locs ls w hdg hP hS hr0 hp
      rcases hret with ⟨h1, -, h3⟩ | ⟨-, h2, -⟩ | ⟨-, h2, -⟩
      · subst h3
        have hq : ∀ t : State, t.heap = H → s.WarmedH t.vm → ma_Q D ad cA (ma_A ad s.heap.size) false post (as.map (ma_cv ad)).toArray s (.returned none) t := fun t ht _ => ⟨⟨0, w, rfl, hp, by rw [ht]; exact hP⟩, hS.F ht⟩
        exact W.vret hx hb (hr.trans h1) hq hS.2.2 hdg
      · rw [hr0] at h2; cases h2
      · rw [hr0] at h2; cases h2
  exact hgo s.heap [] ls hP va_S.rf hloc (by rw [hl.1]; exact hml.symm)
