-- PackingCensus$Listing.restart(I)V
def s_LI_restart : List (Nat × ma_C) := [
  (0, [(.aload_n 0, 1), (.iload_n 1, 1), (.putfield 21, 3), (.aload_n 0, 1), (.iconst 0, 1), (.putfield 25, 3), (.return_, 1)])]
theorem o_LI_restart : (s_LI_restart).all (fun q => ma_dec prog_4_method_2_code q.1 q.2) = true := by decide +kernel
def k_LI_restart : List (Nat × Int32) := []
theorem kk_LI_restart {z : Cond} : ma_Kok "PackingCensus$Listing" (z :: zw_t) k_LI_restart := fun _ h => absurd h List.not_mem_nil
def e_LI_restart : ma_E := []
theorem ee_LI_restart {l : Launch} {dep : Nat} {z : Cond} : ma_Eok l "PackingCensus$Listing" (z :: zw_t) dep (e_LI_restart) := fun _ h => absurd h List.not_mem_nil
theorem z_LI_restart {l : Launch} {dep : Nat} {T : ma_T} (hT : ∀ as w post, T as w post → as.length ≤ 2)
    (hB : ∀ as w post, T as w post → ∀ Go, ma_cl k_LI_restart zf_LI (e_LI_restart) none 0 s_LI_restart post Go → Go 0 (as.map some ++ List.replicate (2 - as.length) none) [] w) :
    ma_Met l y_LI_restart (w_LI_restart :: zw_t) dep false T := ma_met (by decide) o_LI_restart (Or.inl ⟨rfl, rfl, rfl⟩) kk_LI_restart zf_LI_ok (ee_LI_restart) hT hB
-- PackingCensus$Listing.addEmptyRow(I)V
def s_LI_addEmptyRow : List (Nat × ma_C) := [
  (0, [(.aload_n 0, 1), (.getfield 15, 3), (.iconst 0, 1), (.iload_n 1, 1), (.iastore, 1), (.iconst 0, 1), (.istore_n 2, 1)]),
  (9, [(.iload_n 2, 1), (.bipush 6, 2), (.if_icmp .ge 16, 3), (.aload_n 0, 1), (.getfield 18, 3), (.iload_n 2, 1), (.iconst 0, 1), (.iastore, 1), (.iinc 2 1, 3), (.goto (-16), 3)]),
  (28, [(.aload_n 0, 1), (.iconst 1, 1), (.putfield 25, 3), (.return_, 1)])]
theorem o_LI_addEmptyRow : (s_LI_addEmptyRow).all (fun q => ma_dec prog_4_method_3_code q.1 q.2) = true := by decide +kernel
def k_LI_addEmptyRow : List (Nat × Int32) := []
theorem kk_LI_addEmptyRow {z : Cond} : ma_Kok "PackingCensus$Listing" (z :: zw_t) k_LI_addEmptyRow := fun _ h => absurd h List.not_mem_nil
def e_LI_addEmptyRow : ma_E := []
theorem ee_LI_addEmptyRow {l : Launch} {dep : Nat} {z : Cond} : ma_Eok l "PackingCensus$Listing" (z :: zw_t) dep (e_LI_addEmptyRow) := fun _ h => absurd h List.not_mem_nil
theorem z_LI_addEmptyRow {l : Launch} {dep : Nat} {T : ma_T} (hT : ∀ as w post, T as w post → as.length ≤ 3)
    (hB : ∀ as w post, T as w post → ∀ Go, ma_cl k_LI_addEmptyRow zf_LI (e_LI_addEmptyRow) none 0 s_LI_addEmptyRow post Go → Go 0 (as.map some ++ List.replicate (3 - as.length) none) [] w) :
    ma_Met l y_LI_addEmptyRow (w_LI_addEmptyRow :: zw_t) dep false T := ma_met (by decide) o_LI_addEmptyRow (Or.inl ⟨rfl, rfl, rfl⟩) kk_LI_addEmptyRow zf_LI_ok (ee_LI_addEmptyRow) hT hB
-- PackingCensus$Listing.addRow(LPackingCensus$Row;LPackingCensus$Former;)V
def s_LI_addRow : List (Nat × ma_C) := [
  (0, [(.aload_n 0, 1), (.invokevirtual 28, 3), (.ifCond .ne 14, 3), (.aload_n 1, 1), (.invokevirtual 32, 3), (.aload_n 0, 1), (.getfield 21, 3), (.if_icmp .eq 4, 3)]),
  (18, [(.return_, 1)]),
  (19, [(.iconst 0, 1), (.istore_n 3, 1)]),
  (21, [(.iload_n 3, 1), (.aload_n 0, 1), (.getfield 21, 3), (.if_icmp .ge 28, 3), (.aload_n 0, 1), (.getfield 9, 3), (.aload_n 0, 1), (.getfield 25, 3), (.bipush 10, 2), (.imul, 1), (.iload_n 3, 1), (.iadd, 1), (.aload_n 1, 1), (.iload_n 3, 1), (.invokevirtual 38, 3), (.iastore, 1), (.iinc 3 1, 3), (.goto (-30), 3)]),
  (54, [(.iconst 0, 1), (.istore_n 3, 1)]),
  (56, [(.iload_n 3, 1), (.bipush 6, 2), (.if_icmp .ge 28, 3), (.aload_n 0, 1), (.getfield 18, 3), (.aload_n 0, 1), (.getfield 25, 3), (.bipush 6, 2), (.imul, 1), (.iload_n 3, 1), (.iadd, 1), (.aload_n 2, 1), (.iload_n 3, 1), (.invokevirtual 42, 3), (.iastore, 1), (.iinc 3 1, 3), (.goto (-28), 3)]),
  (87, [(.aload_n 0, 1), (.getfield 15, 3), (.aload_n 0, 1), (.getfield 25, 3), (.aload_n 2, 1), (.invokevirtual 47, 3), (.iastore, 1), (.aload_n 0, 1), (.dup, 1), (.getfield 25, 3), (.iconst 1, 1), (.iadd, 1), (.putfield 25, 3), (.return_, 1)])]
theorem o_LI_addRow : (s_LI_addRow).all (fun q => ma_dec prog_4_method_4_code q.1 q.2) = true := by decide +kernel
def k_LI_addRow : List (Nat × Int32) := []
theorem kk_LI_addRow {z : Cond} : ma_Kok "PackingCensus$Listing" (z :: zw_t) k_LI_addRow := fun _ h => absurd h List.not_mem_nil
def e_LI_addRow (t_0 t_1 t_2 t_3 t_4 : ma_T) : ma_E := [(28, 1, some 4, true, t_0), (32, 1, some 3, true, t_1), (38, 2, some 3, true, t_2), (42, 2, some 1, true, t_3), (47, 1, some 1, true, t_4)]
theorem ee_LI_addRow {l : Launch} {dep : Nat} {z : Cond} {t_0 t_1 t_2 t_3 t_4 : ma_T} {d_0 : Nat} (h_0 : ma_Met l y_LI_isFull (w_LI_isFull :: zw_t) d_0 true t_0) (e_0 : d_0 + 1 ≤ dep) {d_1 : Nat} (h_1 : ma_Met l y_RO_size (w_RO_size :: zw_t) d_1 true t_1) (e_1 : d_1 + 1 ≤ dep) {d_2 : Nat} (h_2 : ma_Met l y_RO_get (w_RO_get :: zw_t) d_2 true t_2) (e_2 : d_2 + 1 ≤ dep) {d_3 : Nat} (h_3 : ma_Met l y_FO_leastImageFound (w_FO_leastImageFound :: zw_t) d_3 true t_3) (e_3 : d_3 + 1 ≤ dep) {d_4 : Nat} (h_4 : ma_Met l y_FO_symmetriesFound (w_FO_symmetriesFound :: zw_t) d_4 true t_4) (e_4 : d_4 + 1 ≤ dep) : ma_Eok l "PackingCensus$Listing" (z :: zw_t) dep (e_LI_addRow t_0 t_1 t_2 t_3 t_4) := List.forall_mem_cons.mpr ⟨Or.inr ⟨y_LI_isFull, prog_4_method_6_code, 1, d_0, 0, (some .boolean), zw_t, h_0, zw_in m_LI_isFull, e_0, by decide, List.mem_cons_of_mem _ (zw_m (w := .methodLink "PackingCensus$Listing" 28 y_LI_isFull) (i := 333) (by decide +kernel) (by decide +kernel)), List.mem_cons_of_mem _ (zw_m (i := 38) (by decide +kernel) (by decide +kernel)), ⟨by decide, by decide, by decide +kernel⟩, Or.inr ⟨4, (zc_LI, zt_LI, 5), rfl, rfl, List.mem_cons_of_mem _ (zw_m (i := 326) (by decide +kernel) (by decide +kernel)), rfl, List.mem_cons_of_mem _ (zw_m (i := 327) (by decide +kernel) (by decide +kernel))⟩⟩, List.forall_mem_cons.mpr ⟨Or.inr ⟨y_RO_size, prog_5_method_2_code, 1, d_1, 0, (some .int), zw_t, h_1, zw_in m_RO_size, e_1, by decide, List.mem_cons_of_mem _ (zw_m (w := .methodLink "PackingCensus$Listing" 32 y_RO_size) (i := 334) (by decide +kernel) (by decide +kernel)), List.mem_cons_of_mem _ (zw_m (i := 37) (by decide +kernel) (by decide +kernel)), ⟨by decide, by decide, by decide +kernel⟩, Or.inr ⟨3, (zc_RO, zt_RO, 2), rfl, rfl, List.mem_cons_of_mem _ (zw_m (i := 286) (by decide +kernel) (by decide +kernel)), rfl, List.mem_cons_of_mem _ (zw_m (i := 287) (by decide +kernel) (by decide +kernel))⟩⟩, List.forall_mem_cons.mpr ⟨Or.inr ⟨y_RO_get, prog_5_method_4_code, 2, d_2, 1, (some .int), zw_t, h_2, zw_in m_RO_get, e_2, by decide, List.mem_cons_of_mem _ (zw_m (w := .methodLink "PackingCensus$Listing" 38 y_RO_get) (i := 335) (by decide +kernel) (by decide +kernel)), List.mem_cons_of_mem _ (zw_m (i := 37) (by decide +kernel) (by decide +kernel)), ⟨by decide, by decide, by decide +kernel⟩, Or.inr ⟨3, (zc_RO, zt_RO, 2), rfl, rfl, List.mem_cons_of_mem _ (zw_m (i := 290) (by decide +kernel) (by decide +kernel)), rfl, List.mem_cons_of_mem _ (zw_m (i := 291) (by decide +kernel) (by decide +kernel))⟩⟩, List.forall_mem_cons.mpr ⟨Or.inr ⟨y_FO_leastImageFound, prog_2_method_5_code, 2, d_3, 1, (some .int), zw_t, h_3, zw_in m_FO_leastImageFound, e_3, by decide, List.mem_cons_of_mem _ (zw_m (w := .methodLink "PackingCensus$Listing" 42 y_FO_leastImageFound) (i := 336) (by decide +kernel) (by decide +kernel)), List.mem_cons_of_mem _ (zw_m (i := 35) (by decide +kernel) (by decide +kernel)), ⟨by decide, by decide, by decide +kernel⟩, Or.inr ⟨1, (zc_FO, zt_FO, 9), rfl, rfl, List.mem_cons_of_mem _ (zw_m (i := 337) (by decide +kernel) (by decide +kernel)), rfl, List.mem_cons_of_mem _ (zw_m (i := 338) (by decide +kernel) (by decide +kernel))⟩⟩, List.forall_mem_cons.mpr ⟨Or.inr ⟨y_FO_symmetriesFound, prog_2_method_4_code, 1, d_4, 0, (some .int), zw_t, h_4, zw_in m_FO_symmetriesFound, e_4, by decide, List.mem_cons_of_mem _ (zw_m (w := .methodLink "PackingCensus$Listing" 47 y_FO_symmetriesFound) (i := 340) (by decide +kernel) (by decide +kernel)), List.mem_cons_of_mem _ (zw_m (i := 35) (by decide +kernel) (by decide +kernel)), ⟨by decide, by decide, by decide +kernel⟩, Or.inr ⟨1, (zc_FO, zt_FO, 9), rfl, rfl, List.mem_cons_of_mem _ (zw_m (i := 341) (by decide +kernel) (by decide +kernel)), rfl, List.mem_cons_of_mem _ (zw_m (i := 342) (by decide +kernel) (by decide +kernel))⟩⟩, fun _ h => absurd h List.not_mem_nil⟩⟩⟩⟩⟩
theorem z_LI_addRow {l : Launch} {dep : Nat} {T : ma_T} {t_0 t_1 t_2 t_3 t_4 : ma_T} {d_0 : Nat} (h_0 : ma_Met l y_LI_isFull (w_LI_isFull :: zw_t) d_0 true t_0) (e_0 : d_0 + 1 ≤ dep) {d_1 : Nat} (h_1 : ma_Met l y_RO_size (w_RO_size :: zw_t) d_1 true t_1) (e_1 : d_1 + 1 ≤ dep) {d_2 : Nat} (h_2 : ma_Met l y_RO_get (w_RO_get :: zw_t) d_2 true t_2) (e_2 : d_2 + 1 ≤ dep) {d_3 : Nat} (h_3 : ma_Met l y_FO_leastImageFound (w_FO_leastImageFound :: zw_t) d_3 true t_3) (e_3 : d_3 + 1 ≤ dep) {d_4 : Nat} (h_4 : ma_Met l y_FO_symmetriesFound (w_FO_symmetriesFound :: zw_t) d_4 true t_4) (e_4 : d_4 + 1 ≤ dep) (hT : ∀ as w post, T as w post → as.length ≤ 4)
    (hB : ∀ as w post, T as w post → ∀ Go, ma_cl k_LI_addRow zf_LI (e_LI_addRow t_0 t_1 t_2 t_3 t_4) none 0 s_LI_addRow post Go → Go 0 (as.map some ++ List.replicate (4 - as.length) none) [] w) :
    ma_Met l y_LI_addRow (w_LI_addRow :: zw_t) dep false T := ma_met (by decide) o_LI_addRow (Or.inl ⟨rfl, rfl, rfl⟩) kk_LI_addRow zf_LI_ok (ee_LI_addRow h_0 e_0 h_1 e_1 h_2 e_2 h_3 e_3 h_4 e_4) hT hB
-- PackingCensus$Listing.size()I
def s_LI_size : List (Nat × ma_C) := [
  (0, [(.aload_n 0, 1), (.getfield 25, 3), (.ireturn, 1)])]
theorem o_LI_size : (s_LI_size).all (fun q => ma_dec prog_4_method_5_code q.1 q.2) = true := by decide +kernel
def k_LI_size : List (Nat × Int32) := []
theorem kk_LI_size {z : Cond} : ma_Kok "PackingCensus$Listing" (z :: zw_t) k_LI_size := fun _ h => absurd h List.not_mem_nil
def e_LI_size : ma_E := []
theorem ee_LI_size {l : Launch} {dep : Nat} {z : Cond} : ma_Eok l "PackingCensus$Listing" (z :: zw_t) dep (e_LI_size) := fun _ h => absurd h List.not_mem_nil
theorem z_LI_size {l : Launch} {dep : Nat} {T : ma_T} (hT : ∀ as w post, T as w post → as.length ≤ 1)
    (hB : ∀ as w post, T as w post → ∀ Go, ma_cl k_LI_size zf_LI (e_LI_size) none 1 s_LI_size post Go → Go 0 (as.map some ++ List.replicate (1 - as.length) none) [] w) :
    ma_Met l y_LI_size (w_LI_size :: zw_t) dep true T := ma_met (by decide) o_LI_size (Or.inr (Or.inl ⟨rfl, rfl, rfl⟩)) kk_LI_size zf_LI_ok (ee_LI_size) hT hB
-- PackingCensus$Listing.isFull()Z
def s_LI_isFull : List (Nat × ma_C) := [
  (0, [(.aload_n 0, 1), (.getfield 25, 3), (.bipush 60, 2), (.if_icmp .lt 7, 3), (.iconst 1, 1), (.goto 4, 3)]),
  (13, [(.iconst 0, 1)]),
  (14, [(.ireturn, 1)])]
theorem o_LI_isFull : (s_LI_isFull).all (fun q => ma_dec prog_4_method_6_code q.1 q.2) = true := by decide +kernel
def k_LI_isFull : List (Nat × Int32) := []
theorem kk_LI_isFull {z : Cond} : ma_Kok "PackingCensus$Listing" (z :: zw_t) k_LI_isFull := fun _ h => absurd h List.not_mem_nil
def e_LI_isFull : ma_E := []
theorem ee_LI_isFull {l : Launch} {dep : Nat} {z : Cond} : ma_Eok l "PackingCensus$Listing" (z :: zw_t) dep (e_LI_isFull) := fun _ h => absurd h List.not_mem_nil
theorem z_LI_isFull {l : Launch} {dep : Nat} {T : ma_T} (hT : ∀ as w post, T as w post → as.length ≤ 1)
    (hB : ∀ as w post, T as w post → ∀ Go, ma_cl k_LI_isFull zf_LI (e_LI_isFull) none 2 s_LI_isFull post Go → Go 0 (as.map some ++ List.replicate (1 - as.length) none) [] w) :
    ma_Met l y_LI_isFull (w_LI_isFull :: zw_t) dep true T := ma_met (by decide) o_LI_isFull (Or.inr (Or.inr ⟨rfl, rfl, rfl⟩)) kk_LI_isFull zf_LI_ok (ee_LI_isFull) hT hB
-- PackingCensus$Listing.has(I)Z
def s_LI_has : List (Nat × ma_C) := [
  (0, [(.iload_n 1, 1), (.ifCond .lt 15, 3), (.iload_n 1, 1), (.aload_n 0, 1), (.getfield 25, 3), (.if_icmp .ge 7, 3), (.iconst 1, 1), (.goto 4, 3)]),
  (16, [(.iconst 0, 1)]),
  (17, [(.ireturn, 1)])]
theorem o_LI_has : (s_LI_has).all (fun q => ma_dec prog_4_method_7_code q.1 q.2) = true := by decide +kernel
def k_LI_has : List (Nat × Int32) := []
theorem kk_LI_has {z : Cond} : ma_Kok "PackingCensus$Listing" (z :: zw_t) k_LI_has := fun _ h => absurd h List.not_mem_nil
def e_LI_has : ma_E := []
theorem ee_LI_has {l : Launch} {dep : Nat} {z : Cond} : ma_Eok l "PackingCensus$Listing" (z :: zw_t) dep (e_LI_has) := fun _ h => absurd h List.not_mem_nil
theorem z_LI_has {l : Launch} {dep : Nat} {T : ma_T} (hT : ∀ as w post, T as w post → as.length ≤ 2)
    (hB : ∀ as w post, T as w post → ∀ Go, ma_cl k_LI_has zf_LI (e_LI_has) none 2 s_LI_has post Go → Go 0 (as.map some ++ List.replicate (2 - as.length) none) [] w) :
    ma_Met l y_LI_has (w_LI_has :: zw_t) dep true T := ma_met (by decide) o_LI_has (Or.inr (Or.inr ⟨rfl, rfl, rfl⟩)) kk_LI_has zf_LI_ok (ee_LI_has) hT hB
-- PackingCensus$Listing.rowLength()I
def s_LI_rowLength : List (Nat × ma_C) := [
  (0, [(.aload_n 0, 1), (.getfield 21, 3), (.ireturn, 1)])]
theorem o_LI_rowLength : (s_LI_rowLength).all (fun q => ma_dec prog_4_method_8_code q.1 q.2) = true := by decide +kernel
def k_LI_rowLength : List (Nat × Int32) := []
theorem kk_LI_rowLength {z : Cond} : ma_Kok "PackingCensus$Listing" (z :: zw_t) k_LI_rowLength := fun _ h => absurd h List.not_mem_nil
def e_LI_rowLength : ma_E := []
theorem ee_LI_rowLength {l : Launch} {dep : Nat} {z : Cond} : ma_Eok l "PackingCensus$Listing" (z :: zw_t) dep (e_LI_rowLength) := fun _ h => absurd h List.not_mem_nil
theorem z_LI_rowLength {l : Launch} {dep : Nat} {T : ma_T} (hT : ∀ as w post, T as w post → as.length ≤ 1)
    (hB : ∀ as w post, T as w post → ∀ Go, ma_cl k_LI_rowLength zf_LI (e_LI_rowLength) none 1 s_LI_rowLength post Go → Go 0 (as.map some ++ List.replicate (1 - as.length) none) [] w) :
    ma_Met l y_LI_rowLength (w_LI_rowLength :: zw_t) dep true T := ma_met (by decide) o_LI_rowLength (Or.inr (Or.inl ⟨rfl, rfl, rfl⟩)) kk_LI_rowLength zf_LI_ok (ee_LI_rowLength) hT hB
-- PackingCensus$Listing.mask(II)I
def s_LI_mask : List (Nat × ma_C) := [
  (0, [(.aload_n 0, 1), (.getfield 9, 3), (.iload_n 1, 1), (.bipush 10, 2), (.imul, 1), (.iload_n 2, 1), (.iadd, 1), (.iaload, 1), (.ireturn, 1)])]
theorem o_LI_mask : (s_LI_mask).all (fun q => ma_dec prog_4_method_9_code q.1 q.2) = true := by decide +kernel
def k_LI_mask : List (Nat × Int32) := []
theorem kk_LI_mask {z : Cond} : ma_Kok "PackingCensus$Listing" (z :: zw_t) k_LI_mask := fun _ h => absurd h List.not_mem_nil
def e_LI_mask : ma_E := []
theorem ee_LI_mask {l : Launch} {dep : Nat} {z : Cond} : ma_Eok l "PackingCensus$Listing" (z :: zw_t) dep (e_LI_mask) := fun _ h => absurd h List.not_mem_nil
theorem z_LI_mask {l : Launch} {dep : Nat} {T : ma_T} (hT : ∀ as w post, T as w post → as.length ≤ 3)
    (hB : ∀ as w post, T as w post → ∀ Go, ma_cl k_LI_mask zf_LI (e_LI_mask) none 1 s_LI_mask post Go → Go 0 (as.map some ++ List.replicate (3 - as.length) none) [] w) :
    ma_Met l y_LI_mask (w_LI_mask :: zw_t) dep true T := ma_met (by decide) o_LI_mask (Or.inr (Or.inl ⟨rfl, rfl, rfl⟩)) kk_LI_mask zf_LI_ok (ee_LI_mask) hT hB
-- PackingCensus$Listing.symmetriesOf(I)I
def s_LI_symmetriesOf : List (Nat × ma_C) := [
  (0, [(.aload_n 0, 1), (.getfield 15, 3), (.iload_n 1, 1), (.iaload, 1), (.ireturn, 1)])]
theorem o_LI_symmetriesOf : (s_LI_symmetriesOf).all (fun q => ma_dec prog_4_method_10_code q.1 q.2) = true := by decide +kernel
def k_LI_symmetriesOf : List (Nat × Int32) := []
theorem kk_LI_symmetriesOf {z : Cond} : ma_Kok "PackingCensus$Listing" (z :: zw_t) k_LI_symmetriesOf := fun _ h => absurd h List.not_mem_nil
def e_LI_symmetriesOf : ma_E := []
theorem ee_LI_symmetriesOf {l : Launch} {dep : Nat} {z : Cond} : ma_Eok l "PackingCensus$Listing" (z :: zw_t) dep (e_LI_symmetriesOf) := fun _ h => absurd h List.not_mem_nil
theorem z_LI_symmetriesOf {l : Launch} {dep : Nat} {T : ma_T} (hT : ∀ as w post, T as w post → as.length ≤ 2)
    (hB : ∀ as w post, T as w post → ∀ Go, ma_cl k_LI_symmetriesOf zf_LI (e_LI_symmetriesOf) none 1 s_LI_symmetriesOf post Go → Go 0 (as.map some ++ List.replicate (2 - as.length) none) [] w) :
    ma_Met l y_LI_symmetriesOf (w_LI_symmetriesOf :: zw_t) dep true T := ma_met (by decide) o_LI_symmetriesOf (Or.inr (Or.inl ⟨rfl, rfl, rfl⟩)) kk_LI_symmetriesOf zf_LI_ok (ee_LI_symmetriesOf) hT hB
-- PackingCensus$Listing.leastImage(II)I
def s_LI_leastImage : List (Nat × ma_C) := [
  (0, [(.aload_n 0, 1), (.getfield 18, 3), (.iload_n 1, 1), (.bipush 6, 2), (.imul, 1), (.iload_n 2, 1), (.iadd, 1), (.iaload, 1), (.ireturn, 1)])]
theorem o_LI_leastImage : (s_LI_leastImage).all (fun q => ma_dec prog_4_method_11_code q.1 q.2) = true := by decide +kernel
def k_LI_leastImage : List (Nat × Int32) := []
theorem kk_LI_leastImage {z : Cond} : ma_Kok "PackingCensus$Listing" (z :: zw_t) k_LI_leastImage := fun _ h => absurd h List.not_mem_nil
def e_LI_leastImage : ma_E := []
theorem ee_LI_leastImage {l : Launch} {dep : Nat} {z : Cond} : ma_Eok l "PackingCensus$Listing" (z :: zw_t) dep (e_LI_leastImage) := fun _ h => absurd h List.not_mem_nil
theorem z_LI_leastImage {l : Launch} {dep : Nat} {T : ma_T} (hT : ∀ as w post, T as w post → as.length ≤ 3)
    (hB : ∀ as w post, T as w post → ∀ Go, ma_cl k_LI_leastImage zf_LI (e_LI_leastImage) none 1 s_LI_leastImage post Go → Go 0 (as.map some ++ List.replicate (3 - as.length) none) [] w) :
    ma_Met l y_LI_leastImage (w_LI_leastImage :: zw_t) dep true T := ma_met (by decide) o_LI_leastImage (Or.inr (Or.inl ⟨rfl, rfl, rfl⟩)) kk_LI_leastImage zf_LI_ok (ee_LI_leastImage) hT hB
-- PackingCensus$Listing.blocksHolding(II)I
def s_LI_blocksHolding : List (Nat × ma_C) := [
  (0, [(.iconst 0, 1), (.istore_n 3, 1), (.iconst 0, 1), (.istore 4, 2)]),
  (5, [(.iload 4, 2), (.aload_n 0, 1), (.getfield 21, 3), (.if_icmp .ge 30, 3), (.iload_n 3, 1), (.aload_n 0, 1), (.iload_n 1, 1), (.iload 4, 2), (.invokevirtual 50, 3), (.iload_n 2, 1), (.iand, 1), (.iload_n 2, 1), (.if_icmp .ne 7, 3), (.iconst 1, 1), (.goto 4, 3)]),
  (32, [(.iconst 0, 1)]),
  (33, [(.iadd, 1), (.istore_n 3, 1), (.iinc 4 1, 3), (.goto (-33), 3)]),
  (41, [(.iload_n 3, 1), (.ireturn, 1)])]
theorem o_LI_blocksHolding : (s_LI_blocksHolding).all (fun q => ma_dec prog_4_method_12_code q.1 q.2) = true := by decide +kernel
def k_LI_blocksHolding : List (Nat × Int32) := []
theorem kk_LI_blocksHolding {z : Cond} : ma_Kok "PackingCensus$Listing" (z :: zw_t) k_LI_blocksHolding := fun _ h => absurd h List.not_mem_nil
def e_LI_blocksHolding (t_0 : ma_T) : ma_E := [(50, 3, some 4, true, t_0)]
theorem ee_LI_blocksHolding {l : Launch} {dep : Nat} {z : Cond} {t_0 : ma_T} {d_0 : Nat} (h_0 : ma_Met l y_LI_mask (w_LI_mask :: zw_t) d_0 true t_0) (e_0 : d_0 + 1 ≤ dep) : ma_Eok l "PackingCensus$Listing" (z :: zw_t) dep (e_LI_blocksHolding t_0) := List.forall_mem_cons.mpr ⟨Or.inr ⟨y_LI_mask, prog_4_method_9_code, 3, d_0, 2, (some .int), zw_t, h_0, zw_in m_LI_mask, e_0, by decide, List.mem_cons_of_mem _ (zw_m (w := .methodLink "PackingCensus$Listing" 50 y_LI_mask) (i := 242) (by decide +kernel) (by decide +kernel)), List.mem_cons_of_mem _ (zw_m (i := 38) (by decide +kernel) (by decide +kernel)), ⟨by decide, by decide, by decide +kernel⟩, Or.inr ⟨4, (zc_LI, zt_LI, 5), rfl, rfl, List.mem_cons_of_mem _ (zw_m (i := 243) (by decide +kernel) (by decide +kernel)), rfl, List.mem_cons_of_mem _ (zw_m (i := 244) (by decide +kernel) (by decide +kernel))⟩⟩, fun _ h => absurd h List.not_mem_nil⟩
theorem z_LI_blocksHolding {l : Launch} {dep : Nat} {T : ma_T} {t_0 : ma_T} {d_0 : Nat} (h_0 : ma_Met l y_LI_mask (w_LI_mask :: zw_t) d_0 true t_0) (e_0 : d_0 + 1 ≤ dep) (hT : ∀ as w post, T as w post → as.length ≤ 5)
    (hB : ∀ as w post, T as w post → ∀ Go, ma_cl k_LI_blocksHolding zf_LI (e_LI_blocksHolding t_0) none 1 s_LI_blocksHolding post Go → Go 0 (as.map some ++ List.replicate (5 - as.length) none) [] w) :
    ma_Met l y_LI_blocksHolding (w_LI_blocksHolding :: zw_t) dep true T := ma_met (by decide) o_LI_blocksHolding (Or.inr (Or.inl ⟨rfl, rfl, rfl⟩)) kk_LI_blocksHolding zf_LI_ok (ee_LI_blocksHolding h_0 e_0) hT hB
-- PackingCensus$Listing.writeTo(ILPackingCensus$Row;)V
def s_LI_writeTo : List (Nat × ma_C) := [
  (0, [(.aload_n 2, 1), (.invokevirtual 54, 3), (.iconst 0, 1), (.istore_n 3, 1)]),
  (6, [(.iload_n 3, 1), (.aload_n 0, 1), (.getfield 21, 3), (.if_icmp .ge 19, 3), (.aload_n 2, 1), (.aload_n 0, 1), (.iload_n 1, 1), (.iload_n 3, 1), (.invokevirtual 50, 3), (.invokevirtual 57, 3), (.iinc 3 1, 3), (.goto (-21), 3)]),
  (30, [(.return_, 1)])]
theorem o_LI_writeTo : (s_LI_writeTo).all (fun q => ma_dec prog_4_method_13_code q.1 q.2) = true := by decide +kernel
def k_LI_writeTo : List (Nat × Int32) := []
theorem kk_LI_writeTo {z : Cond} : ma_Kok "PackingCensus$Listing" (z :: zw_t) k_LI_writeTo := fun _ h => absurd h List.not_mem_nil
def e_LI_writeTo (t_0 t_1 t_2 : ma_T) : ma_E := [(54, 1, some 3, false, t_0), (50, 3, some 4, true, t_1), (57, 2, some 3, false, t_2)]
theorem ee_LI_writeTo {l : Launch} {dep : Nat} {z : Cond} {t_0 t_1 t_2 : ma_T} {d_0 : Nat} (h_0 : ma_Met l y_RO_clear (w_RO_clear :: zw_t) d_0 false t_0) (e_0 : d_0 + 1 ≤ dep) {d_1 : Nat} (h_1 : ma_Met l y_LI_mask (w_LI_mask :: zw_t) d_1 true t_1) (e_1 : d_1 + 1 ≤ dep) {d_2 : Nat} (h_2 : ma_Met l y_RO_add (w_RO_add :: zw_t) d_2 false t_2) (e_2 : d_2 + 1 ≤ dep) : ma_Eok l "PackingCensus$Listing" (z :: zw_t) dep (e_LI_writeTo t_0 t_1 t_2) := List.forall_mem_cons.mpr ⟨Or.inr ⟨y_RO_clear, prog_5_method_6_code, 1, d_0, 0, none, zw_t, h_0, zw_in m_RO_clear, e_0, by decide, List.mem_cons_of_mem _ (zw_m (w := .methodLink "PackingCensus$Listing" 54 y_RO_clear) (i := 241) (by decide +kernel) (by decide +kernel)), List.mem_cons_of_mem _ (zw_m (i := 37) (by decide +kernel) (by decide +kernel)), ⟨by decide, by decide, by decide +kernel⟩, Or.inr ⟨3, (zc_RO, zt_RO, 2), rfl, rfl, List.mem_cons_of_mem _ (zw_m (i := 199) (by decide +kernel) (by decide +kernel)), rfl, List.mem_cons_of_mem _ (zw_m (i := 200) (by decide +kernel) (by decide +kernel))⟩⟩, List.forall_mem_cons.mpr ⟨Or.inr ⟨y_LI_mask, prog_4_method_9_code, 3, d_1, 2, (some .int), zw_t, h_1, zw_in m_LI_mask, e_1, by decide, List.mem_cons_of_mem _ (zw_m (w := .methodLink "PackingCensus$Listing" 50 y_LI_mask) (i := 242) (by decide +kernel) (by decide +kernel)), List.mem_cons_of_mem _ (zw_m (i := 38) (by decide +kernel) (by decide +kernel)), ⟨by decide, by decide, by decide +kernel⟩, Or.inr ⟨4, (zc_LI, zt_LI, 5), rfl, rfl, List.mem_cons_of_mem _ (zw_m (i := 243) (by decide +kernel) (by decide +kernel)), rfl, List.mem_cons_of_mem _ (zw_m (i := 244) (by decide +kernel) (by decide +kernel))⟩⟩, List.forall_mem_cons.mpr ⟨Or.inr ⟨y_RO_add, prog_5_method_7_code, 2, d_2, 1, none, zw_t, h_2, zw_in m_RO_add, e_2, by decide, List.mem_cons_of_mem _ (zw_m (w := .methodLink "PackingCensus$Listing" 57 y_RO_add) (i := 246) (by decide +kernel) (by decide +kernel)), List.mem_cons_of_mem _ (zw_m (i := 37) (by decide +kernel) (by decide +kernel)), ⟨by decide, by decide, by decide +kernel⟩, Or.inr ⟨3, (zc_RO, zt_RO, 2), rfl, rfl, List.mem_cons_of_mem _ (zw_m (i := 247) (by decide +kernel) (by decide +kernel)), rfl, List.mem_cons_of_mem _ (zw_m (i := 248) (by decide +kernel) (by decide +kernel))⟩⟩, fun _ h => absurd h List.not_mem_nil⟩⟩⟩
theorem z_LI_writeTo {l : Launch} {dep : Nat} {T : ma_T} {t_0 t_1 t_2 : ma_T} {d_0 : Nat} (h_0 : ma_Met l y_RO_clear (w_RO_clear :: zw_t) d_0 false t_0) (e_0 : d_0 + 1 ≤ dep) {d_1 : Nat} (h_1 : ma_Met l y_LI_mask (w_LI_mask :: zw_t) d_1 true t_1) (e_1 : d_1 + 1 ≤ dep) {d_2 : Nat} (h_2 : ma_Met l y_RO_add (w_RO_add :: zw_t) d_2 false t_2) (e_2 : d_2 + 1 ≤ dep) (hT : ∀ as w post, T as w post → as.length ≤ 4)
    (hB : ∀ as w post, T as w post → ∀ Go, ma_cl k_LI_writeTo zf_LI (e_LI_writeTo t_0 t_1 t_2) none 0 s_LI_writeTo post Go → Go 0 (as.map some ++ List.replicate (4 - as.length) none) [] w) :
    ma_Met l y_LI_writeTo (w_LI_writeTo :: zw_t) dep false T := ma_met (by decide) o_LI_writeTo (Or.inl ⟨rfl, rfl, rfl⟩) kk_LI_writeTo zf_LI_ok (ee_LI_writeTo h_0 e_0 h_1 e_1 h_2 e_2) hT hB
-- PackingCensus$Listing.placeOf(LPackingCensus$Row;)I
def s_LI_placeOf : List (Nat × ma_C) := [
  (0, [(.iconst 0, 1), (.istore_n 2, 1)]),
  (2, [(.iload_n 2, 1), (.aload_n 0, 1), (.getfield 25, 3), (.if_icmp .ge 20, 3), (.aload_n 0, 1), (.iload_n 2, 1), (.aload_n 1, 1), (.invokevirtual 61, 3), (.ifCond .eq 5, 3), (.iload_n 2, 1), (.ireturn, 1)]),
  (21, [(.iinc 2 1, 3), (.goto (-22), 3)]),
  (27, [(.iconst (-1), 1), (.ireturn, 1)])]
theorem o_LI_placeOf : (s_LI_placeOf).all (fun q => ma_dec prog_4_method_14_code q.1 q.2) = true := by decide +kernel
def k_LI_placeOf : List (Nat × Int32) := []
theorem kk_LI_placeOf {z : Cond} : ma_Kok "PackingCensus$Listing" (z :: zw_t) k_LI_placeOf := fun _ h => absurd h List.not_mem_nil
def e_LI_placeOf (t_0 : ma_T) : ma_E := [(61, 3, some 4, true, t_0)]
theorem ee_LI_placeOf {l : Launch} {dep : Nat} {z : Cond} {t_0 : ma_T} {d_0 : Nat} (h_0 : ma_Met l y_LI_isEntry (w_LI_isEntry :: zw_t) d_0 true t_0) (e_0 : d_0 + 1 ≤ dep) : ma_Eok l "PackingCensus$Listing" (z :: zw_t) dep (e_LI_placeOf t_0) := List.forall_mem_cons.mpr ⟨Or.inr ⟨y_LI_isEntry, prog_4_method_15_code, 4, d_0, 2, (some .boolean), zw_t, h_0, zw_in m_LI_isEntry, e_0, by decide, List.mem_cons_of_mem _ (zw_m (w := .methodLink "PackingCensus$Listing" 61 y_LI_isEntry) (i := 467) (by decide +kernel) (by decide +kernel)), List.mem_cons_of_mem _ (zw_m (i := 38) (by decide +kernel) (by decide +kernel)), ⟨by decide, by decide, by decide +kernel⟩, Or.inr ⟨4, (zc_LI, zt_LI, 5), rfl, rfl, List.mem_cons_of_mem _ (zw_m (i := 469) (by decide +kernel) (by decide +kernel)), rfl, List.mem_cons_of_mem _ (zw_m (i := 13) (by decide +kernel) (by decide +kernel))⟩⟩, fun _ h => absurd h List.not_mem_nil⟩
theorem z_LI_placeOf {l : Launch} {dep : Nat} {T : ma_T} {t_0 : ma_T} {d_0 : Nat} (h_0 : ma_Met l y_LI_isEntry (w_LI_isEntry :: zw_t) d_0 true t_0) (e_0 : d_0 + 1 ≤ dep) (hT : ∀ as w post, T as w post → as.length ≤ 3)
    (hB : ∀ as w post, T as w post → ∀ Go, ma_cl k_LI_placeOf zf_LI (e_LI_placeOf t_0) none 1 s_LI_placeOf post Go → Go 0 (as.map some ++ List.replicate (3 - as.length) none) [] w) :
    ma_Met l y_LI_placeOf (w_LI_placeOf :: zw_t) dep true T := ma_met (by decide) o_LI_placeOf (Or.inr (Or.inl ⟨rfl, rfl, rfl⟩)) kk_LI_placeOf zf_LI_ok (ee_LI_placeOf h_0 e_0) hT hB
-- PackingCensus$Listing.isEntry(ILPackingCensus$Row;)Z
def s_LI_isEntry : List (Nat × ma_C) := [
  (0, [(.aload_n 2, 1), (.invokevirtual 32, 3), (.aload_n 0, 1), (.getfield 21, 3), (.if_icmp .eq 5, 3), (.iconst 0, 1), (.ireturn, 1)]),
  (13, [(.iconst 0, 1), (.istore_n 3, 1)]),
  (15, [(.iload_n 3, 1), (.aload_n 0, 1), (.getfield 21, 3), (.if_icmp .ge 25, 3), (.aload_n 0, 1), (.iload_n 1, 1), (.iload_n 3, 1), (.invokevirtual 50, 3), (.aload_n 2, 1), (.iload_n 3, 1), (.invokevirtual 38, 3), (.if_icmp .eq 5, 3), (.iconst 0, 1), (.ireturn, 1)]),
  (39, [(.iinc 3 1, 3), (.goto (-27), 3)]),
  (45, [(.iconst 1, 1), (.ireturn, 1)])]
theorem o_LI_isEntry : (s_LI_isEntry).all (fun q => ma_dec prog_4_method_15_code q.1 q.2) = true := by decide +kernel
def k_LI_isEntry : List (Nat × Int32) := []
theorem kk_LI_isEntry {z : Cond} : ma_Kok "PackingCensus$Listing" (z :: zw_t) k_LI_isEntry := fun _ h => absurd h List.not_mem_nil
def e_LI_isEntry (t_0 t_1 t_2 : ma_T) : ma_E := [(32, 1, some 3, true, t_0), (50, 3, some 4, true, t_1), (38, 2, some 3, true, t_2)]
theorem ee_LI_isEntry {l : Launch} {dep : Nat} {z : Cond} {t_0 t_1 t_2 : ma_T} {d_0 : Nat} (h_0 : ma_Met l y_RO_size (w_RO_size :: zw_t) d_0 true t_0) (e_0 : d_0 + 1 ≤ dep) {d_1 : Nat} (h_1 : ma_Met l y_LI_mask (w_LI_mask :: zw_t) d_1 true t_1) (e_1 : d_1 + 1 ≤ dep) {d_2 : Nat} (h_2 : ma_Met l y_RO_get (w_RO_get :: zw_t) d_2 true t_2) (e_2 : d_2 + 1 ≤ dep) : ma_Eok l "PackingCensus$Listing" (z :: zw_t) dep (e_LI_isEntry t_0 t_1 t_2) := List.forall_mem_cons.mpr ⟨Or.inr ⟨y_RO_size, prog_5_method_2_code, 1, d_0, 0, (some .int), zw_t, h_0, zw_in m_RO_size, e_0, by decide, List.mem_cons_of_mem _ (zw_m (w := .methodLink "PackingCensus$Listing" 32 y_RO_size) (i := 334) (by decide +kernel) (by decide +kernel)), List.mem_cons_of_mem _ (zw_m (i := 37) (by decide +kernel) (by decide +kernel)), ⟨by decide, by decide, by decide +kernel⟩, Or.inr ⟨3, (zc_RO, zt_RO, 2), rfl, rfl, List.mem_cons_of_mem _ (zw_m (i := 286) (by decide +kernel) (by decide +kernel)), rfl, List.mem_cons_of_mem _ (zw_m (i := 287) (by decide +kernel) (by decide +kernel))⟩⟩, List.forall_mem_cons.mpr ⟨Or.inr ⟨y_LI_mask, prog_4_method_9_code, 3, d_1, 2, (some .int), zw_t, h_1, zw_in m_LI_mask, e_1, by decide, List.mem_cons_of_mem _ (zw_m (w := .methodLink "PackingCensus$Listing" 50 y_LI_mask) (i := 242) (by decide +kernel) (by decide +kernel)), List.mem_cons_of_mem _ (zw_m (i := 38) (by decide +kernel) (by decide +kernel)), ⟨by decide, by decide, by decide +kernel⟩, Or.inr ⟨4, (zc_LI, zt_LI, 5), rfl, rfl, List.mem_cons_of_mem _ (zw_m (i := 243) (by decide +kernel) (by decide +kernel)), rfl, List.mem_cons_of_mem _ (zw_m (i := 244) (by decide +kernel) (by decide +kernel))⟩⟩, List.forall_mem_cons.mpr ⟨Or.inr ⟨y_RO_get, prog_5_method_4_code, 2, d_2, 1, (some .int), zw_t, h_2, zw_in m_RO_get, e_2, by decide, List.mem_cons_of_mem _ (zw_m (w := .methodLink "PackingCensus$Listing" 38 y_RO_get) (i := 335) (by decide +kernel) (by decide +kernel)), List.mem_cons_of_mem _ (zw_m (i := 37) (by decide +kernel) (by decide +kernel)), ⟨by decide, by decide, by decide +kernel⟩, Or.inr ⟨3, (zc_RO, zt_RO, 2), rfl, rfl, List.mem_cons_of_mem _ (zw_m (i := 290) (by decide +kernel) (by decide +kernel)), rfl, List.mem_cons_of_mem _ (zw_m (i := 291) (by decide +kernel) (by decide +kernel))⟩⟩, fun _ h => absurd h List.not_mem_nil⟩⟩⟩
theorem z_LI_isEntry {l : Launch} {dep : Nat} {T : ma_T} {t_0 t_1 t_2 : ma_T} {d_0 : Nat} (h_0 : ma_Met l y_RO_size (w_RO_size :: zw_t) d_0 true t_0) (e_0 : d_0 + 1 ≤ dep) {d_1 : Nat} (h_1 : ma_Met l y_LI_mask (w_LI_mask :: zw_t) d_1 true t_1) (e_1 : d_1 + 1 ≤ dep) {d_2 : Nat} (h_2 : ma_Met l y_RO_get (w_RO_get :: zw_t) d_2 true t_2) (e_2 : d_2 + 1 ≤ dep) (hT : ∀ as w post, T as w post → as.length ≤ 4)
    (hB : ∀ as w post, T as w post → ∀ Go, ma_cl k_LI_isEntry zf_LI (e_LI_isEntry t_0 t_1 t_2) none 2 s_LI_isEntry post Go → Go 0 (as.map some ++ List.replicate (4 - as.length) none) [] w) :
    ma_Met l y_LI_isEntry (w_LI_isEntry :: zw_t) dep true T := ma_met (by decide) o_LI_isEntry (Or.inr (Or.inr ⟨rfl, rfl, rfl⟩)) kk_LI_isEntry zf_LI_ok (ee_LI_isEntry h_0 e_0 h_1 e_1 h_2 e_2) hT hB
