-- PackingCensus$Former.tryPoint(III)V
def s_FO_tryPoint : List (Nat × ma_C) := [
  (0, [(.aload_n 0, 1), (.iload_n 1, 1), (.iload_n 2, 1), (.invokevirtual 86, 3), (.ifCond .ne 4, 3), (.return_, 1)]),
  (10, [(.aload_n 0, 1), (.getfield 28, 3), (.iload_n 1, 1), (.iload_n 2, 1), (.iastore, 1), (.iload_n 1, 1), (.iconst 1, 1), (.iadd, 1), (.aload_n 0, 1), (.getfield 12, 3), (.invokevirtual 76, 3), (.if_icmp .ge 9, 3), (.aload_n 0, 1), (.iload_n 1, 1), (.iload_n 2, 1), (.invokevirtual 90, 3)]),
  (36, [(.aload_n 0, 1), (.iload_n 1, 1), (.iconst 1, 1), (.iadd, 1), (.iload_n 3, 1), (.iconst 1, 1), (.iload_n 2, 1), (.ishl, 1), (.ior, 1), (.invokevirtual 42, 3), (.return_, 1)])]
theorem o_FO_tryPoint : (s_FO_tryPoint).all (fun q => ma_dec prog_2_method_8_code q.1 q.2) = true := by decide +kernel
def k_FO_tryPoint : List (Nat × Int32) := []
theorem kk_FO_tryPoint {z : Cond} : ma_Kok "PackingCensus$Former" (z :: zw_t) k_FO_tryPoint := fun _ h => absurd h List.not_mem_nil
def e_FO_tryPoint (t_0 t_1 t_2 t_3 : ma_T) : ma_E := [(86, 3, some 1, true, t_0), (76, 1, some 2, true, t_1), (90, 3, some 1, false, t_2), (42, 3, some 1, false, t_3)]
theorem ee_FO_tryPoint {l : Launch} {dep : Nat} {z : Cond} {t_0 t_1 t_2 t_3 : ma_T} {d_0 : Nat} (h_0 : ma_Met l y_FO_isAsGood (w_FO_isAsGood :: zw_t) d_0 true t_0) (e_0 : d_0 + 1 ≤ dep) {d_1 : Nat} (h_1 : ma_Met l y_GR_points (w_GR_points :: zw_t) d_1 true t_1) (e_1 : d_1 + 1 ≤ dep) {d_2 : Nat} (h_2 : ma_Met l y_FO_settleImages (w_FO_settleImages :: zw_t) d_2 false t_2) (e_2 : d_2 + 1 ≤ dep) {d_3 : Nat} (h_3 : ma_Met l y_FO_tryPointsFor (w_FO_tryPointsFor :: zw_t) d_3 false t_3) (e_3 : d_3 + 1 ≤ dep) : ma_Eok l "PackingCensus$Former" (z :: zw_t) dep (e_FO_tryPoint t_0 t_1 t_2 t_3) := List.forall_mem_cons.mpr ⟨Or.inr ⟨y_FO_isAsGood, prog_2_method_10_code, 6, d_0, 2, (some .boolean), zw_t, h_0, zw_in m_FO_isAsGood, e_0, by decide, List.mem_cons_of_mem _ (zw_m (w := .methodLink "PackingCensus$Former" 86 y_FO_isAsGood) (i := 309) (by decide +kernel) (by decide +kernel)), List.mem_cons_of_mem _ (zw_m (i := 35) (by decide +kernel) (by decide +kernel)), ⟨by decide, by decide, by decide +kernel⟩, Or.inr ⟨1, (zc_FO, zt_FO, 9), rfl, rfl, List.mem_cons_of_mem _ (zw_m (i := 311) (by decide +kernel) (by decide +kernel)), rfl, List.mem_cons_of_mem _ (zw_m (i := 8) (by decide +kernel) (by decide +kernel))⟩⟩, List.forall_mem_cons.mpr ⟨Or.inr ⟨y_GR_points, prog_3_method_4_code, 1, d_1, 0, (some .int), zw_t, h_1, zw_in m_GR_points, e_1, by decide, List.mem_cons_of_mem _ (zw_m (w := .methodLink "PackingCensus$Former" 76 y_GR_points) (i := 297) (by decide +kernel) (by decide +kernel)), List.mem_cons_of_mem _ (zw_m (i := 36) (by decide +kernel) (by decide +kernel)), ⟨by decide, by decide, by decide +kernel⟩, Or.inr ⟨2, (zc_GR, zt_GR, 5), rfl, rfl, List.mem_cons_of_mem _ (zw_m (i := 267) (by decide +kernel) (by decide +kernel)), rfl, List.mem_cons_of_mem _ (zw_m (i := 268) (by decide +kernel) (by decide +kernel))⟩⟩, List.forall_mem_cons.mpr ⟨Or.inr ⟨y_FO_settleImages, prog_2_method_9_code, 4, d_2, 2, none, zw_t, h_2, zw_in m_FO_settleImages, e_2, by decide, List.mem_cons_of_mem _ (zw_m (w := .methodLink "PackingCensus$Former" 90 y_FO_settleImages) (i := 321) (by decide +kernel) (by decide +kernel)), List.mem_cons_of_mem _ (zw_m (i := 35) (by decide +kernel) (by decide +kernel)), ⟨by decide, by decide, by decide +kernel⟩, Or.inr ⟨1, (zc_FO, zt_FO, 9), rfl, rfl, List.mem_cons_of_mem _ (zw_m (i := 323) (by decide +kernel) (by decide +kernel)), rfl, List.mem_cons_of_mem _ (zw_m (i := 10) (by decide +kernel) (by decide +kernel))⟩⟩, List.forall_mem_cons.mpr ⟨Or.inr ⟨y_FO_tryPointsFor, prog_2_method_7_code, 4, d_3, 2, none, zw_t, h_3, zw_in m_FO_tryPointsFor, e_3, by decide, List.mem_cons_of_mem _ (zw_m (w := .methodLink "PackingCensus$Former" 42 y_FO_tryPointsFor) (i := 293) (by decide +kernel) (by decide +kernel)), List.mem_cons_of_mem _ (zw_m (i := 35) (by decide +kernel) (by decide +kernel)), ⟨by decide, by decide, by decide +kernel⟩, Or.inr ⟨1, (zc_FO, zt_FO, 9), rfl, rfl, List.mem_cons_of_mem _ (zw_m (i := 295) (by decide +kernel) (by decide +kernel)), rfl, List.mem_cons_of_mem _ (zw_m (i := 5) (by decide +kernel) (by decide +kernel))⟩⟩, fun _ h => absurd h List.not_mem_nil⟩⟩⟩⟩
theorem z_FO_tryPoint {l : Launch} {dep : Nat} {T : ma_T} {t_0 t_1 t_2 t_3 : ma_T} {d_0 : Nat} (h_0 : ma_Met l y_FO_isAsGood (w_FO_isAsGood :: zw_t) d_0 true t_0) (e_0 : d_0 + 1 ≤ dep) {d_1 : Nat} (h_1 : ma_Met l y_GR_points (w_GR_points :: zw_t) d_1 true t_1) (e_1 : d_1 + 1 ≤ dep) {d_2 : Nat} (h_2 : ma_Met l y_FO_settleImages (w_FO_settleImages :: zw_t) d_2 false t_2) (e_2 : d_2 + 1 ≤ dep) {d_3 : Nat} (h_3 : ma_Met l y_FO_tryPointsFor (w_FO_tryPointsFor :: zw_t) d_3 false t_3) (e_3 : d_3 + 1 ≤ dep) (hT : ∀ as w post, T as w post → as.length ≤ 4)
    (hB : ∀ as w post, T as w post → ∀ Go, ma_cl k_FO_tryPoint zf_FO (e_FO_tryPoint t_0 t_1 t_2 t_3) none 0 s_FO_tryPoint post Go → Go 0 (as.map some ++ List.replicate (4 - as.length) none) [] w) :
    ma_Met l y_FO_tryPoint (w_FO_tryPoint :: zw_t) dep false T := ma_met (by decide) o_FO_tryPoint (Or.inl ⟨rfl, rfl, rfl⟩) kk_FO_tryPoint zf_FO_ok (ee_FO_tryPoint h_0 e_0 h_1 e_1 h_2 e_2 h_3 e_3) hT hB
-- PackingCensus$Former.settleImages(II)V
def s_FO_settleImages : List (Nat × ma_C) := [
  (0, [(.iconst 0, 1), (.istore_n 3, 1)]),
  (2, [(.iload_n 3, 1), (.iconst 1, 1), (.iload_n 1, 1), (.ishl, 1), (.if_icmp .ge 29, 3), (.aload_n 0, 1), (.getfield 25, 3), (.iconst 1, 1), (.iload_n 1, 1), (.ishl, 1), (.iload_n 3, 1), (.ior, 1), (.aload_n 0, 1), (.getfield 25, 3), (.iload_n 3, 1), (.iaload, 1), (.iconst 1, 1), (.iload_n 2, 1), (.ishl, 1), (.ior, 1), (.iastore, 1), (.iinc 3 1, 3), (.goto (-30), 3)]),
  (35, [(.return_, 1)])]
theorem o_FO_settleImages : (s_FO_settleImages).all (fun q => ma_dec prog_2_method_9_code q.1 q.2) = true := by decide +kernel
def k_FO_settleImages : List (Nat × Int32) := []
theorem kk_FO_settleImages {z : Cond} : ma_Kok "PackingCensus$Former" (z :: zw_t) k_FO_settleImages := fun _ h => absurd h List.not_mem_nil
def e_FO_settleImages : ma_E := []
theorem ee_FO_settleImages {l : Launch} {dep : Nat} {z : Cond} : ma_Eok l "PackingCensus$Former" (z :: zw_t) dep (e_FO_settleImages) := fun _ h => absurd h List.not_mem_nil
theorem z_FO_settleImages {l : Launch} {dep : Nat} {T : ma_T} (hT : ∀ as w post, T as w post → as.length ≤ 4)
    (hB : ∀ as w post, T as w post → ∀ Go, ma_cl k_FO_settleImages zf_FO (e_FO_settleImages) none 0 s_FO_settleImages post Go → Go 0 (as.map some ++ List.replicate (4 - as.length) none) [] w) :
    ma_Met l y_FO_settleImages (w_FO_settleImages :: zw_t) dep false T := ma_met (by decide) o_FO_settleImages (Or.inl ⟨rfl, rfl, rfl⟩) kk_FO_settleImages zf_FO_ok (ee_FO_settleImages) hT hB
-- PackingCensus$Former.isAsGood(II)Z
def s_FO_isAsGood : List (Nat × ma_C) := [
  (0, [(.aload_n 0, 1), (.getfield 12, 3), (.iload_n 1, 1), (.iconst 1, 1), (.iadd, 1), (.invokevirtual 93, 3), (.istore_n 3, 1), (.aload_n 0, 1), (.getfield 12, 3), (.iload_n 1, 1), (.invokevirtual 93, 3), (.istore 4, 2)]),
  (21, [(.iload 4, 2), (.iload_n 3, 1), (.if_icmp .ge 86, 3), (.aload_n 0, 1), (.getfield 18, 3), (.aload_n 0, 1), (.getfield 25, 3), (.aload_n 0, 1), (.getfield 12, 3), (.iload 4, 2), (.invokevirtual 58, 3), (.iconst 1, 1), (.iload_n 1, 1), (.ishl, 1), (.ixor, 1), (.iaload, 1), (.iconst 1, 1), (.iload_n 2, 1), (.ishl, 1), (.ior, 1), (.iaload, 1), (.istore 5, 2), (.iload 5, 2), (.aload_n 0, 1), (.getfield 22, 3), (.iload 4, 2), (.iaload, 1), (.if_icmp .ge 5, 3), (.iconst 0, 1), (.ireturn, 1)]),
  (70, [(.iload 5, 2), (.aload_n 0, 1), (.getfield 22, 3), (.iload 4, 2), (.iaload, 1), (.if_icmp .le 25, 3), (.aload_n 0, 1), (.iconst 1, 1), (.putfield 46, 3), (.aload_n 0, 1), (.getfield 38, 3), (.ifCond .eq 5, 3), (.iconst 0, 1), (.ireturn, 1)]),
  (96, [(.aload_n 0, 1), (.iload 4, 2), (.iload 5, 2), (.invokevirtual 96, 3)]),
  (104, [(.iinc 4 1, 3), (.goto (-86), 3)]),
  (110, [(.iconst 1, 1), (.ireturn, 1)])]
theorem o_FO_isAsGood : (s_FO_isAsGood).all (fun q => ma_dec prog_2_method_10_code q.1 q.2) = true := by decide +kernel
def k_FO_isAsGood : List (Nat × Int32) := []
theorem kk_FO_isAsGood {z : Cond} : ma_Kok "PackingCensus$Former" (z :: zw_t) k_FO_isAsGood := fun _ h => absurd h List.not_mem_nil
def e_FO_isAsGood (t_0 t_1 t_2 : ma_T) : ma_E := [(93, 2, some 2, true, t_0), (58, 2, some 2, true, t_1), (96, 3, some 1, false, t_2)]
theorem ee_FO_isAsGood {l : Launch} {dep : Nat} {z : Cond} {t_0 t_1 t_2 : ma_T} {d_0 : Nat} (h_0 : ma_Met l y_GR_firstKindEndingAt (w_GR_firstKindEndingAt :: zw_t) d_0 true t_0) (e_0 : d_0 + 1 ≤ dep) {d_1 : Nat} (h_1 : ma_Met l y_GR_kind (w_GR_kind :: zw_t) d_1 true t_1) (e_1 : d_1 + 1 ≤ dep) {d_2 : Nat} (h_2 : ma_Met l y_FO_makeBest (w_FO_makeBest :: zw_t) d_2 false t_2) (e_2 : d_2 + 1 ≤ dep) : ma_Eok l "PackingCensus$Former" (z :: zw_t) dep (e_FO_isAsGood t_0 t_1 t_2) := List.forall_mem_cons.mpr ⟨Or.inr ⟨y_GR_firstKindEndingAt, prog_3_method_9_code, 2, d_0, 1, (some .int), zw_t, h_0, zw_in m_GR_firstKindEndingAt, e_0, by decide, List.mem_cons_of_mem _ (zw_m (w := .methodLink "PackingCensus$Former" 93 y_GR_firstKindEndingAt) (i := 313) (by decide +kernel) (by decide +kernel)), List.mem_cons_of_mem _ (zw_m (i := 36) (by decide +kernel) (by decide +kernel)), ⟨by decide, by decide, by decide +kernel⟩, Or.inr ⟨2, (zc_GR, zt_GR, 5), rfl, rfl, List.mem_cons_of_mem _ (zw_m (i := 314) (by decide +kernel) (by decide +kernel)), rfl, List.mem_cons_of_mem _ (zw_m (i := 315) (by decide +kernel) (by decide +kernel))⟩⟩, List.forall_mem_cons.mpr ⟨Or.inr ⟨y_GR_kind, prog_3_method_8_code, 2, d_1, 1, (some .int), zw_t, h_1, zw_in m_GR_kind, e_1, by decide, List.mem_cons_of_mem _ (zw_m (w := .methodLink "PackingCensus$Former" 58 y_GR_kind) (i := 284) (by decide +kernel) (by decide +kernel)), List.mem_cons_of_mem _ (zw_m (i := 36) (by decide +kernel) (by decide +kernel)), ⟨by decide, by decide, by decide +kernel⟩, Or.inr ⟨2, (zc_GR, zt_GR, 5), rfl, rfl, List.mem_cons_of_mem _ (zw_m (i := 259) (by decide +kernel) (by decide +kernel)), rfl, List.mem_cons_of_mem _ (zw_m (i := 260) (by decide +kernel) (by decide +kernel))⟩⟩, List.forall_mem_cons.mpr ⟨Or.inr ⟨y_FO_makeBest, prog_2_method_11_code, 4, d_2, 2, none, zw_t, h_2, zw_in m_FO_makeBest, e_2, by decide, List.mem_cons_of_mem _ (zw_m (w := .methodLink "PackingCensus$Former" 96 y_FO_makeBest) (i := 317) (by decide +kernel) (by decide +kernel)), List.mem_cons_of_mem _ (zw_m (i := 35) (by decide +kernel) (by decide +kernel)), ⟨by decide, by decide, by decide +kernel⟩, Or.inr ⟨1, (zc_FO, zt_FO, 9), rfl, rfl, List.mem_cons_of_mem _ (zw_m (i := 319) (by decide +kernel) (by decide +kernel)), rfl, List.mem_cons_of_mem _ (zw_m (i := 9) (by decide +kernel) (by decide +kernel))⟩⟩, fun _ h => absurd h List.not_mem_nil⟩⟩⟩
theorem z_FO_isAsGood {l : Launch} {dep : Nat} {T : ma_T} {t_0 t_1 t_2 : ma_T} {d_0 : Nat} (h_0 : ma_Met l y_GR_firstKindEndingAt (w_GR_firstKindEndingAt :: zw_t) d_0 true t_0) (e_0 : d_0 + 1 ≤ dep) {d_1 : Nat} (h_1 : ma_Met l y_GR_kind (w_GR_kind :: zw_t) d_1 true t_1) (e_1 : d_1 + 1 ≤ dep) {d_2 : Nat} (h_2 : ma_Met l y_FO_makeBest (w_FO_makeBest :: zw_t) d_2 false t_2) (e_2 : d_2 + 1 ≤ dep) (hT : ∀ as w post, T as w post → as.length ≤ 6)
    (hB : ∀ as w post, T as w post → ∀ Go, ma_cl k_FO_isAsGood zf_FO (e_FO_isAsGood t_0 t_1 t_2) none 2 s_FO_isAsGood post Go → Go 0 (as.map some ++ List.replicate (6 - as.length) none) [] w) :
    ma_Met l y_FO_isAsGood (w_FO_isAsGood :: zw_t) dep true T := ma_met (by decide) o_FO_isAsGood (Or.inr (Or.inr ⟨rfl, rfl, rfl⟩)) kk_FO_isAsGood zf_FO_ok (ee_FO_isAsGood h_0 e_0 h_1 e_1 h_2 e_2) hT hB
-- PackingCensus$Former.makeBest(II)V
def s_FO_makeBest : List (Nat × ma_C) := [
  (0, [(.aload_n 0, 1), (.getfield 22, 3), (.iload_n 1, 1), (.iload_n 2, 1), (.iastore, 1), (.iload_n 1, 1), (.iconst 1, 1), (.iadd, 1), (.istore_n 3, 1)]),
  (11, [(.iload_n 3, 1), (.bipush 20, 2), (.if_icmp .ge 16, 3), (.aload_n 0, 1), (.getfield 22, 3), (.iload_n 3, 1), (.iconst (-1), 1), (.iastore, 1), (.iinc 3 1, 3), (.goto (-16), 3)]),
  (30, [(.aload_n 0, 1), (.iconst 0, 1), (.putfield 66, 3), (.return_, 1)])]
theorem o_FO_makeBest : (s_FO_makeBest).all (fun q => ma_dec prog_2_method_11_code q.1 q.2) = true := by decide +kernel
def k_FO_makeBest : List (Nat × Int32) := []
theorem kk_FO_makeBest {z : Cond} : ma_Kok "PackingCensus$Former" (z :: zw_t) k_FO_makeBest := fun _ h => absurd h List.not_mem_nil
def e_FO_makeBest : ma_E := []
theorem ee_FO_makeBest {l : Launch} {dep : Nat} {z : Cond} : ma_Eok l "PackingCensus$Former" (z :: zw_t) dep (e_FO_makeBest) := fun _ h => absurd h List.not_mem_nil
theorem z_FO_makeBest {l : Launch} {dep : Nat} {T : ma_T} (hT : ∀ as w post, T as w post → as.length ≤ 4)
    (hB : ∀ as w post, T as w post → ∀ Go, ma_cl k_FO_makeBest zf_FO (e_FO_makeBest) none 0 s_FO_makeBest post Go → Go 0 (as.map some ++ List.replicate (4 - as.length) none) [] w) :
    ma_Met l y_FO_makeBest (w_FO_makeBest :: zw_t) dep false T := ma_met (by decide) o_FO_makeBest (Or.inl ⟨rfl, rfl, rfl⟩) kk_FO_makeBest zf_FO_ok (ee_FO_makeBest) hT hB
-- PackingCensus$Former.countRenaming()V
def s_FO_countRenaming : List (Nat × ma_C) := [
  (0, [(.aload_n 0, 1), (.dup, 1), (.getfield 66, 3), (.iconst 1, 1), (.iadd, 1), (.putfield 66, 3), (.iconst 0, 1), (.istore_n 1, 1)]),
  (12, [(.iload_n 1, 1), (.aload_n 0, 1), (.getfield 12, 3), (.invokevirtual 76, 3), (.if_icmp .ge 30, 3), (.aload_n 0, 1), (.getfield 31, 3), (.iload_n 1, 1), (.aload_n 0, 1), (.getfield 31, 3), (.iload_n 1, 1), (.iaload, 1), (.aload_n 0, 1), (.getfield 28, 3), (.iload_n 1, 1), (.iaload, 1), (.invokestatic 99, 3), (.iastore, 1), (.iinc 1 1, 3), (.goto (-35), 3)]),
  (50, [(.return_, 1)])]
theorem o_FO_countRenaming : (s_FO_countRenaming).all (fun q => ma_dec prog_2_method_12_code q.1 q.2) = true := by decide +kernel
def k_FO_countRenaming : List (Nat × Int32) := []
theorem kk_FO_countRenaming {z : Cond} : ma_Kok "PackingCensus$Former" (z :: zw_t) k_FO_countRenaming := fun _ h => absurd h List.not_mem_nil
def e_FO_countRenaming (t_0 : ma_T) : ma_E := [(76, 1, some 2, true, t_0), (99, 2, none, true, ma_min)]
theorem ee_FO_countRenaming {l : Launch} {dep : Nat} {z : Cond} {t_0 : ma_T} {d_0 : Nat} (h_0 : ma_Met l y_GR_points (w_GR_points :: zw_t) d_0 true t_0) (e_0 : d_0 + 1 ≤ dep) (hmin : 1 ≤ dep) : ma_Eok l "PackingCensus$Former" (z :: zw_t) dep (e_FO_countRenaming t_0) := List.forall_mem_cons.mpr ⟨Or.inr ⟨y_GR_points, prog_3_method_4_code, 1, d_0, 0, (some .int), zw_t, h_0, zw_in m_GR_points, e_0, by decide, List.mem_cons_of_mem _ (zw_m (w := .methodLink "PackingCensus$Former" 76 y_GR_points) (i := 297) (by decide +kernel) (by decide +kernel)), List.mem_cons_of_mem _ (zw_m (i := 36) (by decide +kernel) (by decide +kernel)), ⟨by decide, by decide, by decide +kernel⟩, Or.inr ⟨2, (zc_GR, zt_GR, 5), rfl, rfl, List.mem_cons_of_mem _ (zw_m (i := 267) (by decide +kernel) (by decide +kernel)), rfl, List.mem_cons_of_mem _ (zw_m (i := 268) (by decide +kernel) (by decide +kernel))⟩⟩, List.forall_mem_cons.mpr ⟨Or.inl ⟨rfl, List.mem_cons_of_mem _ (zw_m (w := .methodLink "PackingCensus$Former" 99 Lib.Math.min.name) (i := 302) (by decide +kernel) (by decide +kernel)), List.mem_cons_of_mem _ (zw_m (w := .static Lib.Math.min.name) (i := 303) (by decide +kernel) (by decide +kernel)), List.mem_cons_of_mem _ (zw_m (w := .initialized "java/lang/Math") (i := 41) (by decide +kernel) (by decide +kernel)), List.mem_cons_of_mem _ (zw_m (w := .code Lib.Math.min.name Lib.Math.min.code 2 (some .int)) (i := 304) (by decide +kernel) (by decide +kernel)), hmin⟩, fun _ h => absurd h List.not_mem_nil⟩⟩
theorem z_FO_countRenaming {l : Launch} {dep : Nat} {T : ma_T} {t_0 : ma_T} {d_0 : Nat} (h_0 : ma_Met l y_GR_points (w_GR_points :: zw_t) d_0 true t_0) (e_0 : d_0 + 1 ≤ dep) (hmin : 1 ≤ dep) (hT : ∀ as w post, T as w post → as.length ≤ 2)
    (hB : ∀ as w post, T as w post → ∀ Go, ma_cl k_FO_countRenaming zf_FO (e_FO_countRenaming t_0) none 0 s_FO_countRenaming post Go → Go 0 (as.map some ++ List.replicate (2 - as.length) none) [] w) :
    ma_Met l y_FO_countRenaming (w_FO_countRenaming :: zw_t) dep false T := ma_met (by decide) o_FO_countRenaming (Or.inl ⟨rfl, rfl, rfl⟩) kk_FO_countRenaming zf_FO_ok (ee_FO_countRenaming h_0 e_0 hmin) hT hB
-- PackingCensus$Ground.lay(II)V
def s_GR_lay : List (Nat × ma_C) := [
  (0, [(.aload_n 0, 1), (.iload_n 1, 1), (.putfield 18, 3), (.aload_n 0, 1), (.iload_n 2, 1), (.putfield 22, 3), (.aload_n 0, 1), (.iconst 0, 1), (.putfield 25, 3), (.iconst 0, 1), (.istore_n 3, 1)]),
  (17, [(.iload_n 3, 1), (.iload_n 1, 1), (.if_icmp .ge 24, 3), (.aload_n 0, 1), (.getfield 15, 3), (.iload_n 3, 1), (.aload_n 0, 1), (.getfield 25, 3), (.iastore, 1), (.aload_n 0, 1), (.iload_n 3, 1), (.invokevirtual 28, 3), (.iinc 3 1, 3), (.goto (-23), 3)]),
  (43, [(.aload_n 0, 1), (.getfield 15, 3), (.iload_n 1, 1), (.aload_n 0, 1), (.getfield 25, 3), (.iastore, 1), (.return_, 1)])]
theorem o_GR_lay : (s_GR_lay).all (fun q => ma_dec prog_3_method_2_code q.1 q.2) = true := by decide +kernel
def k_GR_lay : List (Nat × Int32) := []
theorem kk_GR_lay {z : Cond} : ma_Kok "PackingCensus$Ground" (z :: zw_t) k_GR_lay := fun _ h => absurd h List.not_mem_nil
def e_GR_lay (t_0 : ma_T) : ma_E := [(28, 2, some 2, false, t_0)]
theorem ee_GR_lay {l : Launch} {dep : Nat} {z : Cond} {t_0 : ma_T} {d_0 : Nat} (h_0 : ma_Met l y_GR_addKindsEndingAt (w_GR_addKindsEndingAt :: zw_t) d_0 false t_0) (e_0 : d_0 + 1 ≤ dep) : ma_Eok l "PackingCensus$Ground" (z :: zw_t) dep (e_GR_lay t_0) := List.forall_mem_cons.mpr ⟨Or.inr ⟨y_GR_addKindsEndingAt, prog_3_method_3_code, 3, d_0, 1, none, zw_t, h_0, zw_in m_GR_addKindsEndingAt, e_0, by decide, List.mem_cons_of_mem _ (zw_m (w := .methodLink "PackingCensus$Ground" 28 y_GR_addKindsEndingAt) (i := 188) (by decide +kernel) (by decide +kernel)), List.mem_cons_of_mem _ (zw_m (i := 36) (by decide +kernel) (by decide +kernel)), ⟨by decide, by decide, by decide +kernel⟩, Or.inr ⟨2, (zc_GR, zt_GR, 5), rfl, rfl, List.mem_cons_of_mem _ (zw_m (i := 190) (by decide +kernel) (by decide +kernel)), rfl, List.mem_cons_of_mem _ (zw_m (i := 0) (by decide +kernel) (by decide +kernel))⟩⟩, fun _ h => absurd h List.not_mem_nil⟩
theorem z_GR_lay {l : Launch} {dep : Nat} {T : ma_T} {t_0 : ma_T} {d_0 : Nat} (h_0 : ma_Met l y_GR_addKindsEndingAt (w_GR_addKindsEndingAt :: zw_t) d_0 false t_0) (e_0 : d_0 + 1 ≤ dep) (hT : ∀ as w post, T as w post → as.length ≤ 4)
    (hB : ∀ as w post, T as w post → ∀ Go, ma_cl k_GR_lay zf_GR (e_GR_lay t_0) none 0 s_GR_lay post Go → Go 0 (as.map some ++ List.replicate (4 - as.length) none) [] w) :
    ma_Met l y_GR_lay (w_GR_lay :: zw_t) dep false T := ma_met (by decide) o_GR_lay (Or.inl ⟨rfl, rfl, rfl⟩) kk_GR_lay zf_GR_ok (ee_GR_lay h_0 e_0) hT hB
-- PackingCensus$Ground.addKindsEndingAt(I)V
def s_GR_addKindsEndingAt : List (Nat × ma_C) := [
  (0, [(.iconst 1, 1), (.iload_n 1, 1), (.ishl, 1), (.istore_n 2, 1)]),
  (4, [(.iload_n 2, 1), (.iconst 2, 1), (.iload_n 1, 1), (.ishl, 1), (.if_icmp .ge 49, 3), (.iload_n 2, 1), (.invokestatic 32, 3), (.aload_n 0, 1), (.getfield 22, 3), (.if_icmp .ne 32, 3), (.aload_n 0, 1), (.getfield 25, 3), (.bipush 20, 2), (.if_icmp .ge 23, 3), (.aload_n 0, 1), (.getfield 9, 3), (.aload_n 0, 1), (.getfield 25, 3), (.iload_n 2, 1), (.iastore, 1), (.aload_n 0, 1), (.dup, 1), (.getfield 25, 3), (.iconst 1, 1), (.iadd, 1), (.putfield 25, 3)]),
  (51, [(.iinc 2 1, 3), (.goto (-50), 3)]),
  (57, [(.return_, 1)])]
theorem o_GR_addKindsEndingAt : (s_GR_addKindsEndingAt).all (fun q => ma_dec prog_3_method_3_code q.1 q.2) = true := by decide +kernel
def k_GR_addKindsEndingAt : List (Nat × Int32) := []
theorem kk_GR_addKindsEndingAt {z : Cond} : ma_Kok "PackingCensus$Ground" (z :: zw_t) k_GR_addKindsEndingAt := fun _ h => absurd h List.not_mem_nil
def e_GR_addKindsEndingAt (t_0 : ma_T) : ma_E := [(32, 1, none, true, t_0)]
theorem ee_GR_addKindsEndingAt {l : Launch} {dep : Nat} {z : Cond} {t_0 : ma_T} {d_0 : Nat} (h_0 : ma_Met l y_JI_bitCount (w_JI_bitCount :: zw_t) d_0 true t_0) (e_0 : d_0 + 1 ≤ dep) : ma_Eok l "PackingCensus$Ground" (z :: zw_t) dep (e_GR_addKindsEndingAt t_0) := List.forall_mem_cons.mpr ⟨Or.inr ⟨y_JI_bitCount, prog_8_method_49_code, 1, d_0, 1, (some .int), zw_t, h_0, zw_in m_JI_bitCount, e_0, by decide, List.mem_cons_of_mem _ (zw_m (w := .methodLink "PackingCensus$Ground" 32 y_JI_bitCount) (i := 192) (by decide +kernel) (by decide +kernel)), List.mem_cons_of_mem _ (zw_m (i := 40) (by decide +kernel) (by decide +kernel)), ⟨by decide, by decide, by decide +kernel⟩, Or.inl ⟨rfl, rfl, List.mem_cons_of_mem _ (zw_m (i := 193) (by decide +kernel) (by decide +kernel))⟩⟩, fun _ h => absurd h List.not_mem_nil⟩
theorem z_GR_addKindsEndingAt {l : Launch} {dep : Nat} {T : ma_T} {t_0 : ma_T} {d_0 : Nat} (h_0 : ma_Met l y_JI_bitCount (w_JI_bitCount :: zw_t) d_0 true t_0) (e_0 : d_0 + 1 ≤ dep) (hT : ∀ as w post, T as w post → as.length ≤ 3)
    (hB : ∀ as w post, T as w post → ∀ Go, ma_cl k_GR_addKindsEndingAt zf_GR (e_GR_addKindsEndingAt t_0) none 0 s_GR_addKindsEndingAt post Go → Go 0 (as.map some ++ List.replicate (3 - as.length) none) [] w) :
    ma_Met l y_GR_addKindsEndingAt (w_GR_addKindsEndingAt :: zw_t) dep false T := ma_met (by decide) o_GR_addKindsEndingAt (Or.inl ⟨rfl, rfl, rfl⟩) kk_GR_addKindsEndingAt zf_GR_ok (ee_GR_addKindsEndingAt h_0 e_0) hT hB
-- PackingCensus$Ground.points()I
def s_GR_points : List (Nat × ma_C) := [
  (0, [(.aload_n 0, 1), (.getfield 18, 3), (.ireturn, 1)])]
theorem o_GR_points : (s_GR_points).all (fun q => ma_dec prog_3_method_4_code q.1 q.2) = true := by decide +kernel
def k_GR_points : List (Nat × Int32) := []
theorem kk_GR_points {z : Cond} : ma_Kok "PackingCensus$Ground" (z :: zw_t) k_GR_points := fun _ h => absurd h List.not_mem_nil
def e_GR_points : ma_E := []
theorem ee_GR_points {l : Launch} {dep : Nat} {z : Cond} : ma_Eok l "PackingCensus$Ground" (z :: zw_t) dep (e_GR_points) := fun _ h => absurd h List.not_mem_nil
theorem z_GR_points {l : Launch} {dep : Nat} {T : ma_T} (hT : ∀ as w post, T as w post → as.length ≤ 1)
    (hB : ∀ as w post, T as w post → ∀ Go, ma_cl k_GR_points zf_GR (e_GR_points) none 1 s_GR_points post Go → Go 0 (as.map some ++ List.replicate (1 - as.length) none) [] w) :
    ma_Met l y_GR_points (w_GR_points :: zw_t) dep true T := ma_met (by decide) o_GR_points (Or.inr (Or.inl ⟨rfl, rfl, rfl⟩)) kk_GR_points zf_GR_ok (ee_GR_points) hT hB
-- PackingCensus$Ground.isPoint(I)Z
def s_GR_isPoint : List (Nat × ma_C) := [
  (0, [(.iload_n 1, 1), (.ifCond .lt 15, 3), (.iload_n 1, 1), (.aload_n 0, 1), (.getfield 18, 3), (.if_icmp .ge 7, 3), (.iconst 1, 1), (.goto 4, 3)]),
  (16, [(.iconst 0, 1)]),
  (17, [(.ireturn, 1)])]
theorem o_GR_isPoint : (s_GR_isPoint).all (fun q => ma_dec prog_3_method_5_code q.1 q.2) = true := by decide +kernel
def k_GR_isPoint : List (Nat × Int32) := []
theorem kk_GR_isPoint {z : Cond} : ma_Kok "PackingCensus$Ground" (z :: zw_t) k_GR_isPoint := fun _ h => absurd h List.not_mem_nil
def e_GR_isPoint : ma_E := []
theorem ee_GR_isPoint {l : Launch} {dep : Nat} {z : Cond} : ma_Eok l "PackingCensus$Ground" (z :: zw_t) dep (e_GR_isPoint) := fun _ h => absurd h List.not_mem_nil
theorem z_GR_isPoint {l : Launch} {dep : Nat} {T : ma_T} (hT : ∀ as w post, T as w post → as.length ≤ 2)
    (hB : ∀ as w post, T as w post → ∀ Go, ma_cl k_GR_isPoint zf_GR (e_GR_isPoint) none 2 s_GR_isPoint post Go → Go 0 (as.map some ++ List.replicate (2 - as.length) none) [] w) :
    ma_Met l y_GR_isPoint (w_GR_isPoint :: zw_t) dep true T := ma_met (by decide) o_GR_isPoint (Or.inr (Or.inr ⟨rfl, rfl, rfl⟩)) kk_GR_isPoint zf_GR_ok (ee_GR_isPoint) hT hB
-- PackingCensus$Ground.isBlock(I)Z
def s_GR_isBlock : List (Nat × ma_C) := [
  (0, [(.iload_n 1, 1), (.ifCond .lt 28, 3), (.iload_n 1, 1), (.iconst 1, 1), (.aload_n 0, 1), (.getfield 18, 3), (.ishl, 1), (.if_icmp .ge 18, 3), (.iload_n 1, 1), (.invokestatic 32, 3), (.aload_n 0, 1), (.getfield 22, 3), (.if_icmp .ne 7, 3), (.iconst 1, 1), (.goto 4, 3)]),
  (29, [(.iconst 0, 1)]),
  (30, [(.ireturn, 1)])]
theorem o_GR_isBlock : (s_GR_isBlock).all (fun q => ma_dec prog_3_method_6_code q.1 q.2) = true := by decide +kernel
def k_GR_isBlock : List (Nat × Int32) := []
theorem kk_GR_isBlock {z : Cond} : ma_Kok "PackingCensus$Ground" (z :: zw_t) k_GR_isBlock := fun _ h => absurd h List.not_mem_nil
def e_GR_isBlock (t_0 : ma_T) : ma_E := [(32, 1, none, true, t_0)]
theorem ee_GR_isBlock {l : Launch} {dep : Nat} {z : Cond} {t_0 : ma_T} {d_0 : Nat} (h_0 : ma_Met l y_JI_bitCount (w_JI_bitCount :: zw_t) d_0 true t_0) (e_0 : d_0 + 1 ≤ dep) : ma_Eok l "PackingCensus$Ground" (z :: zw_t) dep (e_GR_isBlock t_0) := List.forall_mem_cons.mpr ⟨Or.inr ⟨y_JI_bitCount, prog_8_method_49_code, 1, d_0, 1, (some .int), zw_t, h_0, zw_in m_JI_bitCount, e_0, by decide, List.mem_cons_of_mem _ (zw_m (w := .methodLink "PackingCensus$Ground" 32 y_JI_bitCount) (i := 192) (by decide +kernel) (by decide +kernel)), List.mem_cons_of_mem _ (zw_m (i := 40) (by decide +kernel) (by decide +kernel)), ⟨by decide, by decide, by decide +kernel⟩, Or.inl ⟨rfl, rfl, List.mem_cons_of_mem _ (zw_m (i := 193) (by decide +kernel) (by decide +kernel))⟩⟩, fun _ h => absurd h List.not_mem_nil⟩
theorem z_GR_isBlock {l : Launch} {dep : Nat} {T : ma_T} {t_0 : ma_T} {d_0 : Nat} (h_0 : ma_Met l y_JI_bitCount (w_JI_bitCount :: zw_t) d_0 true t_0) (e_0 : d_0 + 1 ≤ dep) (hT : ∀ as w post, T as w post → as.length ≤ 2)
    (hB : ∀ as w post, T as w post → ∀ Go, ma_cl k_GR_isBlock zf_GR (e_GR_isBlock t_0) none 2 s_GR_isBlock post Go → Go 0 (as.map some ++ List.replicate (2 - as.length) none) [] w) :
    ma_Met l y_GR_isBlock (w_GR_isBlock :: zw_t) dep true T := ma_met (by decide) o_GR_isBlock (Or.inr (Or.inr ⟨rfl, rfl, rfl⟩)) kk_GR_isBlock zf_GR_ok (ee_GR_isBlock h_0 e_0) hT hB
-- PackingCensus$Ground.kinds()I
def s_GR_kinds : List (Nat × ma_C) := [
  (0, [(.aload_n 0, 1), (.getfield 25, 3), (.ireturn, 1)])]
theorem o_GR_kinds : (s_GR_kinds).all (fun q => ma_dec prog_3_method_7_code q.1 q.2) = true := by decide +kernel
def k_GR_kinds : List (Nat × Int32) := []
theorem kk_GR_kinds {z : Cond} : ma_Kok "PackingCensus$Ground" (z :: zw_t) k_GR_kinds := fun _ h => absurd h List.not_mem_nil
def e_GR_kinds : ma_E := []
theorem ee_GR_kinds {l : Launch} {dep : Nat} {z : Cond} : ma_Eok l "PackingCensus$Ground" (z :: zw_t) dep (e_GR_kinds) := fun _ h => absurd h List.not_mem_nil
theorem z_GR_kinds {l : Launch} {dep : Nat} {T : ma_T} (hT : ∀ as w post, T as w post → as.length ≤ 1)
    (hB : ∀ as w post, T as w post → ∀ Go, ma_cl k_GR_kinds zf_GR (e_GR_kinds) none 1 s_GR_kinds post Go → Go 0 (as.map some ++ List.replicate (1 - as.length) none) [] w) :
    ma_Met l y_GR_kinds (w_GR_kinds :: zw_t) dep true T := ma_met (by decide) o_GR_kinds (Or.inr (Or.inl ⟨rfl, rfl, rfl⟩)) kk_GR_kinds zf_GR_ok (ee_GR_kinds) hT hB
-- PackingCensus$Ground.kind(I)I
def s_GR_kind : List (Nat × ma_C) := [
  (0, [(.aload_n 0, 1), (.getfield 9, 3), (.iload_n 1, 1), (.iaload, 1), (.ireturn, 1)])]
theorem o_GR_kind : (s_GR_kind).all (fun q => ma_dec prog_3_method_8_code q.1 q.2) = true := by decide +kernel
def k_GR_kind : List (Nat × Int32) := []
theorem kk_GR_kind {z : Cond} : ma_Kok "PackingCensus$Ground" (z :: zw_t) k_GR_kind := fun _ h => absurd h List.not_mem_nil
def e_GR_kind : ma_E := []
theorem ee_GR_kind {l : Launch} {dep : Nat} {z : Cond} : ma_Eok l "PackingCensus$Ground" (z :: zw_t) dep (e_GR_kind) := fun _ h => absurd h List.not_mem_nil
theorem z_GR_kind {l : Launch} {dep : Nat} {T : ma_T} (hT : ∀ as w post, T as w post → as.length ≤ 2)
    (hB : ∀ as w post, T as w post → ∀ Go, ma_cl k_GR_kind zf_GR (e_GR_kind) none 1 s_GR_kind post Go → Go 0 (as.map some ++ List.replicate (2 - as.length) none) [] w) :
    ma_Met l y_GR_kind (w_GR_kind :: zw_t) dep true T := ma_met (by decide) o_GR_kind (Or.inr (Or.inl ⟨rfl, rfl, rfl⟩)) kk_GR_kind zf_GR_ok (ee_GR_kind) hT hB
-- PackingCensus$Ground.firstKindEndingAt(I)I
def s_GR_firstKindEndingAt : List (Nat × ma_C) := [
  (0, [(.aload_n 0, 1), (.getfield 15, 3), (.iload_n 1, 1), (.iaload, 1), (.ireturn, 1)])]
theorem o_GR_firstKindEndingAt : (s_GR_firstKindEndingAt).all (fun q => ma_dec prog_3_method_9_code q.1 q.2) = true := by decide +kernel
def k_GR_firstKindEndingAt : List (Nat × Int32) := []
theorem kk_GR_firstKindEndingAt {z : Cond} : ma_Kok "PackingCensus$Ground" (z :: zw_t) k_GR_firstKindEndingAt := fun _ h => absurd h List.not_mem_nil
def e_GR_firstKindEndingAt : ma_E := []
theorem ee_GR_firstKindEndingAt {l : Launch} {dep : Nat} {z : Cond} : ma_Eok l "PackingCensus$Ground" (z :: zw_t) dep (e_GR_firstKindEndingAt) := fun _ h => absurd h List.not_mem_nil
theorem z_GR_firstKindEndingAt {l : Launch} {dep : Nat} {T : ma_T} (hT : ∀ as w post, T as w post → as.length ≤ 2)
    (hB : ∀ as w post, T as w post → ∀ Go, ma_cl k_GR_firstKindEndingAt zf_GR (e_GR_firstKindEndingAt) none 1 s_GR_firstKindEndingAt post Go → Go 0 (as.map some ++ List.replicate (2 - as.length) none) [] w) :
    ma_Met l y_GR_firstKindEndingAt (w_GR_firstKindEndingAt :: zw_t) dep true T := ma_met (by decide) o_GR_firstKindEndingAt (Or.inr (Or.inl ⟨rfl, rfl, rfl⟩)) kk_GR_firstKindEndingAt zf_GR_ok (ee_GR_firstKindEndingAt) hT hB
-- PackingCensus$Ground.renamings()I
def s_GR_renamings : List (Nat × ma_C) := [
  (0, [(.iconst 1, 1), (.istore_n 1, 1), (.iconst 2, 1), (.istore_n 2, 1)]),
  (4, [(.iload_n 2, 1), (.aload_n 0, 1), (.getfield 18, 3), (.if_icmp .gt 13, 3), (.iload_n 1, 1), (.iload_n 2, 1), (.imul, 1), (.istore_n 1, 1), (.iinc 2 1, 3), (.goto (-15), 3)]),
  (22, [(.iload_n 1, 1), (.ireturn, 1)])]
theorem o_GR_renamings : (s_GR_renamings).all (fun q => ma_dec prog_3_method_10_code q.1 q.2) = true := by decide +kernel
def k_GR_renamings : List (Nat × Int32) := []
theorem kk_GR_renamings {z : Cond} : ma_Kok "PackingCensus$Ground" (z :: zw_t) k_GR_renamings := fun _ h => absurd h List.not_mem_nil
def e_GR_renamings : ma_E := []
theorem ee_GR_renamings {l : Launch} {dep : Nat} {z : Cond} : ma_Eok l "PackingCensus$Ground" (z :: zw_t) dep (e_GR_renamings) := fun _ h => absurd h List.not_mem_nil
theorem z_GR_renamings {l : Launch} {dep : Nat} {T : ma_T} (hT : ∀ as w post, T as w post → as.length ≤ 3)
    (hB : ∀ as w post, T as w post → ∀ Go, ma_cl k_GR_renamings zf_GR (e_GR_renamings) none 1 s_GR_renamings post Go → Go 0 (as.map some ++ List.replicate (3 - as.length) none) [] w) :
    ma_Met l y_GR_renamings (w_GR_renamings :: zw_t) dep true T := ma_met (by decide) o_GR_renamings (Or.inr (Or.inl ⟨rfl, rfl, rfl⟩)) kk_GR_renamings zf_GR_ok (ee_GR_renamings) hT hB
