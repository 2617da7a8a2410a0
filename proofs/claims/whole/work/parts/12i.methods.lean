-- PackingCensus$Row.size()I
def s_RO_size : List (Nat × ma_C) := [
  (0, [(.aload_n 0, 1), (.getfield 15, 3), (.ireturn, 1)])]
theorem o_RO_size : (s_RO_size).all (fun q => ma_dec prog_5_method_2_code q.1 q.2) = true := by decide +kernel
def k_RO_size : List (Nat × Int32) := []
theorem kk_RO_size {z : Cond} : ma_Kok "PackingCensus$Row" (z :: zw_t) k_RO_size := fun _ h => absurd h List.not_mem_nil
def e_RO_size : ma_E := []
theorem ee_RO_size {l : Launch} {dep : Nat} {z : Cond} : ma_Eok l "PackingCensus$Row" (z :: zw_t) dep (e_RO_size) := fun _ h => absurd h List.not_mem_nil
theorem z_RO_size {l : Launch} {dep : Nat} {T : ma_T} (hT : ∀ as w post, T as w post → as.length ≤ 1)
    (hB : ∀ as w post, T as w post → ∀ Go, ma_cl k_RO_size zf_RO (e_RO_size) none 1 s_RO_size post Go → Go 0 (as.map some ++ List.replicate (1 - as.length) none) [] w) :
    ma_Met l y_RO_size (w_RO_size :: zw_t) dep true T := ma_met (by decide) o_RO_size (Or.inr (Or.inl ⟨rfl, rfl, rfl⟩)) kk_RO_size zf_RO_ok (ee_RO_size) hT hB
-- PackingCensus$Row.has(I)Z
def s_RO_has : List (Nat × ma_C) := [
  (0, [(.iload_n 1, 1), (.ifCond .lt 15, 3), (.iload_n 1, 1), (.aload_n 0, 1), (.getfield 15, 3), (.if_icmp .ge 7, 3), (.iconst 1, 1), (.goto 4, 3)]),
  (16, [(.iconst 0, 1)]),
  (17, [(.ireturn, 1)])]
theorem o_RO_has : (s_RO_has).all (fun q => ma_dec prog_5_method_3_code q.1 q.2) = true := by decide +kernel
def k_RO_has : List (Nat × Int32) := []
theorem kk_RO_has {z : Cond} : ma_Kok "PackingCensus$Row" (z :: zw_t) k_RO_has := fun _ h => absurd h List.not_mem_nil
def e_RO_has : ma_E := []
theorem ee_RO_has {l : Launch} {dep : Nat} {z : Cond} : ma_Eok l "PackingCensus$Row" (z :: zw_t) dep (e_RO_has) := fun _ h => absurd h List.not_mem_nil
theorem z_RO_has {l : Launch} {dep : Nat} {T : ma_T} (hT : ∀ as w post, T as w post → as.length ≤ 2)
    (hB : ∀ as w post, T as w post → ∀ Go, ma_cl k_RO_has zf_RO (e_RO_has) none 2 s_RO_has post Go → Go 0 (as.map some ++ List.replicate (2 - as.length) none) [] w) :
    ma_Met l y_RO_has (w_RO_has :: zw_t) dep true T := ma_met (by decide) o_RO_has (Or.inr (Or.inr ⟨rfl, rfl, rfl⟩)) kk_RO_has zf_RO_ok (ee_RO_has) hT hB
-- PackingCensus$Row.get(I)I
def s_RO_get : List (Nat × ma_C) := [
  (0, [(.aload_n 0, 1), (.getfield 9, 3), (.iload_n 1, 1), (.iaload, 1), (.ireturn, 1)])]
theorem o_RO_get : (s_RO_get).all (fun q => ma_dec prog_5_method_4_code q.1 q.2) = true := by decide +kernel
def k_RO_get : List (Nat × Int32) := []
theorem kk_RO_get {z : Cond} : ma_Kok "PackingCensus$Row" (z :: zw_t) k_RO_get := fun _ h => absurd h List.not_mem_nil
def e_RO_get : ma_E := []
theorem ee_RO_get {l : Launch} {dep : Nat} {z : Cond} : ma_Eok l "PackingCensus$Row" (z :: zw_t) dep (e_RO_get) := fun _ h => absurd h List.not_mem_nil
theorem z_RO_get {l : Launch} {dep : Nat} {T : ma_T} (hT : ∀ as w post, T as w post → as.length ≤ 2)
    (hB : ∀ as w post, T as w post → ∀ Go, ma_cl k_RO_get zf_RO (e_RO_get) none 1 s_RO_get post Go → Go 0 (as.map some ++ List.replicate (2 - as.length) none) [] w) :
    ma_Met l y_RO_get (w_RO_get :: zw_t) dep true T := ma_met (by decide) o_RO_get (Or.inr (Or.inl ⟨rfl, rfl, rfl⟩)) kk_RO_get zf_RO_ok (ee_RO_get) hT hB
-- PackingCensus$Row.last()I
def s_RO_last : List (Nat × ma_C) := [
  (0, [(.aload_n 0, 1), (.getfield 15, 3), (.ifCond .le 17, 3), (.aload_n 0, 1), (.getfield 9, 3), (.aload_n 0, 1), (.getfield 15, 3), (.iconst 1, 1), (.isub, 1), (.iaload, 1), (.goto 4, 3)]),
  (21, [(.iconst 0, 1)]),
  (22, [(.ireturn, 1)])]
theorem o_RO_last : (s_RO_last).all (fun q => ma_dec prog_5_method_5_code q.1 q.2) = true := by decide +kernel
def k_RO_last : List (Nat × Int32) := []
theorem kk_RO_last {z : Cond} : ma_Kok "PackingCensus$Row" (z :: zw_t) k_RO_last := fun _ h => absurd h List.not_mem_nil
def e_RO_last : ma_E := []
theorem ee_RO_last {l : Launch} {dep : Nat} {z : Cond} : ma_Eok l "PackingCensus$Row" (z :: zw_t) dep (e_RO_last) := fun _ h => absurd h List.not_mem_nil
theorem z_RO_last {l : Launch} {dep : Nat} {T : ma_T} (hT : ∀ as w post, T as w post → as.length ≤ 1)
    (hB : ∀ as w post, T as w post → ∀ Go, ma_cl k_RO_last zf_RO (e_RO_last) none 1 s_RO_last post Go → Go 0 (as.map some ++ List.replicate (1 - as.length) none) [] w) :
    ma_Met l y_RO_last (w_RO_last :: zw_t) dep true T := ma_met (by decide) o_RO_last (Or.inr (Or.inl ⟨rfl, rfl, rfl⟩)) kk_RO_last zf_RO_ok (ee_RO_last) hT hB
-- PackingCensus$Row.clear()V
def s_RO_clear : List (Nat × ma_C) := [
  (0, [(.aload_n 0, 1), (.iconst 0, 1), (.putfield 15, 3), (.return_, 1)])]
theorem o_RO_clear : (s_RO_clear).all (fun q => ma_dec prog_5_method_6_code q.1 q.2) = true := by decide +kernel
def k_RO_clear : List (Nat × Int32) := []
theorem kk_RO_clear {z : Cond} : ma_Kok "PackingCensus$Row" (z :: zw_t) k_RO_clear := fun _ h => absurd h List.not_mem_nil
def e_RO_clear : ma_E := []
theorem ee_RO_clear {l : Launch} {dep : Nat} {z : Cond} : ma_Eok l "PackingCensus$Row" (z :: zw_t) dep (e_RO_clear) := fun _ h => absurd h List.not_mem_nil
theorem z_RO_clear {l : Launch} {dep : Nat} {T : ma_T} (hT : ∀ as w post, T as w post → as.length ≤ 1)
    (hB : ∀ as w post, T as w post → ∀ Go, ma_cl k_RO_clear zf_RO (e_RO_clear) none 0 s_RO_clear post Go → Go 0 (as.map some ++ List.replicate (1 - as.length) none) [] w) :
    ma_Met l y_RO_clear (w_RO_clear :: zw_t) dep false T := ma_met (by decide) o_RO_clear (Or.inl ⟨rfl, rfl, rfl⟩) kk_RO_clear zf_RO_ok (ee_RO_clear) hT hB
-- PackingCensus$Row.add(I)V
def s_RO_add : List (Nat × ma_C) := [
  (0, [(.aload_n 0, 1), (.getfield 15, 3), (.bipush 10, 2), (.if_icmp .ge 23, 3), (.aload_n 0, 1), (.getfield 9, 3), (.aload_n 0, 1), (.getfield 15, 3), (.iload_n 1, 1), (.iastore, 1), (.aload_n 0, 1), (.dup, 1), (.getfield 15, 3), (.iconst 1, 1), (.iadd, 1), (.putfield 15, 3)]),
  (29, [(.return_, 1)])]
theorem o_RO_add : (s_RO_add).all (fun q => ma_dec prog_5_method_7_code q.1 q.2) = true := by decide +kernel
def k_RO_add : List (Nat × Int32) := []
theorem kk_RO_add {z : Cond} : ma_Kok "PackingCensus$Row" (z :: zw_t) k_RO_add := fun _ h => absurd h List.not_mem_nil
def e_RO_add : ma_E := []
theorem ee_RO_add {l : Launch} {dep : Nat} {z : Cond} : ma_Eok l "PackingCensus$Row" (z :: zw_t) dep (e_RO_add) := fun _ h => absurd h List.not_mem_nil
theorem z_RO_add {l : Launch} {dep : Nat} {T : ma_T} (hT : ∀ as w post, T as w post → as.length ≤ 2)
    (hB : ∀ as w post, T as w post → ∀ Go, ma_cl k_RO_add zf_RO (e_RO_add) none 0 s_RO_add post Go → Go 0 (as.map some ++ List.replicate (2 - as.length) none) [] w) :
    ma_Met l y_RO_add (w_RO_add :: zw_t) dep false T := ma_met (by decide) o_RO_add (Or.inl ⟨rfl, rfl, rfl⟩) kk_RO_add zf_RO_ok (ee_RO_add) hT hB
-- PackingCensus$Row.removeAt(I)V
def s_RO_removeAt : List (Nat × ma_C) := [
  (0, [(.aload_n 0, 1), (.iload_n 1, 1), (.invokevirtual 19, 3), (.ifCond .ne 4, 3), (.return_, 1)]),
  (9, [(.iload_n 1, 1), (.iconst 1, 1), (.iadd, 1), (.istore_n 2, 1)]),
  (13, [(.iload_n 2, 1), (.aload_n 0, 1), (.getfield 15, 3), (.if_icmp .ge 23, 3), (.aload_n 0, 1), (.getfield 9, 3), (.iload_n 2, 1), (.iconst 1, 1), (.isub, 1), (.aload_n 0, 1), (.getfield 9, 3), (.iload_n 2, 1), (.iaload, 1), (.iastore, 1), (.iinc 2 1, 3), (.goto (-25), 3)]),
  (41, [(.aload_n 0, 1), (.dup, 1), (.getfield 15, 3), (.iconst 1, 1), (.isub, 1), (.putfield 15, 3), (.return_, 1)])]
theorem o_RO_removeAt : (s_RO_removeAt).all (fun q => ma_dec prog_5_method_8_code q.1 q.2) = true := by decide +kernel
def k_RO_removeAt : List (Nat × Int32) := []
theorem kk_RO_removeAt {z : Cond} : ma_Kok "PackingCensus$Row" (z :: zw_t) k_RO_removeAt := fun _ h => absurd h List.not_mem_nil
def e_RO_removeAt (t_0 : ma_T) : ma_E := [(19, 2, some 3, true, t_0)]
theorem ee_RO_removeAt {l : Launch} {dep : Nat} {z : Cond} {t_0 : ma_T} {d_0 : Nat} (h_0 : ma_Met l y_RO_has (w_RO_has :: zw_t) d_0 true t_0) (e_0 : d_0 + 1 ≤ dep) : ma_Eok l "PackingCensus$Row" (z :: zw_t) dep (e_RO_removeAt t_0) := List.forall_mem_cons.mpr ⟨Or.inr ⟨y_RO_has, prog_5_method_3_code, 2, d_0, 1, (some .boolean), zw_t, h_0, zw_in m_RO_has, e_0, by decide, List.mem_cons_of_mem _ (zw_m (w := .methodLink "PackingCensus$Row" 19 y_RO_has) (i := 349) (by decide +kernel) (by decide +kernel)), List.mem_cons_of_mem _ (zw_m (i := 37) (by decide +kernel) (by decide +kernel)), ⟨by decide, by decide, by decide +kernel⟩, Or.inr ⟨3, (zc_RO, zt_RO, 2), rfl, rfl, List.mem_cons_of_mem _ (zw_m (i := 350) (by decide +kernel) (by decide +kernel)), rfl, List.mem_cons_of_mem _ (zw_m (i := 351) (by decide +kernel) (by decide +kernel))⟩⟩, fun _ h => absurd h List.not_mem_nil⟩
theorem z_RO_removeAt {l : Launch} {dep : Nat} {T : ma_T} {t_0 : ma_T} {d_0 : Nat} (h_0 : ma_Met l y_RO_has (w_RO_has :: zw_t) d_0 true t_0) (e_0 : d_0 + 1 ≤ dep) (hT : ∀ as w post, T as w post → as.length ≤ 3)
    (hB : ∀ as w post, T as w post → ∀ Go, ma_cl k_RO_removeAt zf_RO (e_RO_removeAt t_0) none 0 s_RO_removeAt post Go → Go 0 (as.map some ++ List.replicate (3 - as.length) none) [] w) :
    ma_Met l y_RO_removeAt (w_RO_removeAt :: zw_t) dep false T := ma_met (by decide) o_RO_removeAt (Or.inl ⟨rfl, rfl, rfl⟩) kk_RO_removeAt zf_RO_ok (ee_RO_removeAt h_0 e_0) hT hB
-- PackingCensus$Row.exchangePoints(II)V
def s_RO_exchangePoints : List (Nat × ma_C) := [
  (0, [(.iconst 0, 1), (.istore_n 3, 1)]),
  (2, [(.iload_n 3, 1), (.aload_n 0, 1), (.getfield 15, 3), (.if_icmp .ge 60, 3), (.aload_n 0, 1), (.getfield 9, 3), (.iload_n 3, 1), (.iaload, 1), (.iload_n 1, 1), (.ishr, 1), (.iconst 1, 1), (.iand, 1), (.aload_n 0, 1), (.getfield 9, 3), (.iload_n 3, 1), (.iaload, 1), (.iload_n 2, 1), (.ishr, 1), (.iconst 1, 1), (.iand, 1), (.if_icmp .eq 7, 3), (.iconst 1, 1), (.goto 4, 3)]),
  (37, [(.iconst 0, 1)]),
  (38, [(.istore 4, 2), (.iload 4, 2), (.ifCond .eq 19, 3), (.aload_n 0, 1), (.getfield 9, 3), (.iload_n 3, 1), (.dup2, 1), (.iaload, 1), (.iconst 1, 1), (.iload_n 1, 1), (.ishl, 1), (.iconst 1, 1), (.iload_n 2, 1), (.ishl, 1), (.ior, 1), (.ixor, 1), (.iastore, 1)]),
  (61, [(.iinc 3 1, 3), (.goto (-62), 3)]),
  (67, [(.return_, 1)])]
theorem o_RO_exchangePoints : (s_RO_exchangePoints).all (fun q => ma_dec prog_5_method_9_code q.1 q.2) = true := by decide +kernel
def k_RO_exchangePoints : List (Nat × Int32) := []
theorem kk_RO_exchangePoints {z : Cond} : ma_Kok "PackingCensus$Row" (z :: zw_t) k_RO_exchangePoints := fun _ h => absurd h List.not_mem_nil
def e_RO_exchangePoints : ma_E := []
theorem ee_RO_exchangePoints {l : Launch} {dep : Nat} {z : Cond} : ma_Eok l "PackingCensus$Row" (z :: zw_t) dep (e_RO_exchangePoints) := fun _ h => absurd h List.not_mem_nil
theorem z_RO_exchangePoints {l : Launch} {dep : Nat} {T : ma_T} (hT : ∀ as w post, T as w post → as.length ≤ 5)
    (hB : ∀ as w post, T as w post → ∀ Go, ma_cl k_RO_exchangePoints zf_RO (e_RO_exchangePoints) none 0 s_RO_exchangePoints post Go → Go 0 (as.map some ++ List.replicate (5 - as.length) none) [] w) :
    ma_Met l y_RO_exchangePoints (w_RO_exchangePoints :: zw_t) dep false T := ma_met (by decide) o_RO_exchangePoints (Or.inl ⟨rfl, rfl, rfl⟩) kk_RO_exchangePoints zf_RO_ok (ee_RO_exchangePoints) hT hB
-- java/lang/Integer.bitCount(I)I
def s_JI_bitCount : List (Nat × ma_C) := [
  (0, [(.iload_n 0, 1), (.iload_n 0, 1), (.iconst 1, 1), (.iushr, 1), (.ldc_w 265, 3), (.iand, 1), (.isub, 1), (.istore_n 0, 1), (.iload_n 0, 1), (.ldc_w 266, 3), (.iand, 1), (.iload_n 0, 1), (.iconst 2, 1), (.iushr, 1), (.ldc_w 266, 3), (.iand, 1), (.iadd, 1), (.istore_n 0, 1), (.iload_n 0, 1), (.iload_n 0, 1), (.iconst 4, 1), (.iushr, 1), (.iadd, 1), (.ldc_w 267, 3), (.iand, 1), (.istore_n 0, 1), (.iload_n 0, 1), (.iload_n 0, 1), (.bipush 8, 2), (.iushr, 1), (.iadd, 1), (.istore_n 0, 1), (.iload_n 0, 1), (.iload_n 0, 1), (.bipush 16, 2), (.iushr, 1), (.iadd, 1), (.istore_n 0, 1), (.iload_n 0, 1), (.bipush 63, 2), (.iand, 1), (.ireturn, 1)])]
theorem o_JI_bitCount : (s_JI_bitCount).all (fun q => ma_dec prog_8_method_49_code q.1 q.2) = true := by decide +kernel
def k_JI_bitCount : List (Nat × Int32) := [(265, 1431655765), (266, 858993459), (267, 252645135)]
theorem kk_JI_bitCount {z : Cond} : ma_Kok "java/lang/Integer" (z :: zw_t) k_JI_bitCount := by
  refine List.forall_mem_cons.mpr ⟨?_, List.forall_mem_cons.mpr ⟨?_, List.forall_mem_cons.mpr ⟨?_, fun _ h => absurd h List.not_mem_nil⟩⟩⟩
  · exact List.mem_cons_of_mem _ (zw_m (i := 195) (by decide +kernel) (by decide +kernel))
  · exact List.mem_cons_of_mem _ (zw_m (i := 196) (by decide +kernel) (by decide +kernel))
  · exact List.mem_cons_of_mem _ (zw_m (i := 197) (by decide +kernel) (by decide +kernel))
def e_JI_bitCount : ma_E := []
theorem ee_JI_bitCount {l : Launch} {dep : Nat} {z : Cond} : ma_Eok l "java/lang/Integer" (z :: zw_t) dep (e_JI_bitCount) := fun _ h => absurd h List.not_mem_nil
theorem z_JI_bitCount {l : Launch} {dep : Nat} {T : ma_T} (hT : ∀ as w post, T as w post → as.length ≤ 1)
    (hB : ∀ as w post, T as w post → ∀ Go, ma_cl k_JI_bitCount [] (e_JI_bitCount) none 1 s_JI_bitCount post Go → Go 0 (as.map some ++ List.replicate (1 - as.length) none) [] w) :
    ma_Met l y_JI_bitCount (w_JI_bitCount :: zw_t) dep true T := ma_met (by decide) o_JI_bitCount (Or.inr (Or.inl ⟨rfl, rfl, rfl⟩)) kk_JI_bitCount (fun _ h => absurd h List.not_mem_nil) (ee_JI_bitCount) hT hB

