-- PackingCensusModel.isEntry(I)Z
def s_MO_isEntry : List (Nat × ma_C) := [
  (0, [(.iload_n 1, 1), (.ifCond .lt 15, 3), (.iload_n 1, 1), (.aload_n 0, 1), (.getfield 49, 3), (.if_icmp .ge 7, 3), (.iconst 1, 1), (.goto 4, 3)]),
  (16, [(.iconst 0, 1)]),
  (17, [(.ireturn, 1)])]
theorem o_MO_isEntry : (s_MO_isEntry).all (fun q => ma_dec prog_7_method_5_code q.1 q.2) = true := by decide +kernel
def k_MO_isEntry : List (Nat × Int32) := []
theorem kk_MO_isEntry {z : Cond} : ma_Kok "PackingCensusModel" (z :: zw_t) k_MO_isEntry := fun _ h => absurd h List.not_mem_nil
def e_MO_isEntry : ma_E := []
theorem ee_MO_isEntry {l : Launch} {dep : Nat} {z : Cond} : ma_Eok l "PackingCensusModel" (z :: zw_t) dep (e_MO_isEntry) := fun _ h => absurd h List.not_mem_nil
theorem z_MO_isEntry {l : Launch} {dep : Nat} {T : ma_T} (hT : ∀ as w post, T as w post → as.length ≤ 2)
    (hB : ∀ as w post, T as w post → ∀ Go, ma_cl k_MO_isEntry zf_MO (e_MO_isEntry) none 2 s_MO_isEntry post Go → Go 0 (as.map some ++ List.replicate (2 - as.length) none) [] w) :
    ma_Met l y_MO_isEntry (w_MO_isEntry :: zw_t) dep true T := ma_met (by decide) o_MO_isEntry (Or.inr (Or.inr ⟨rfl, rfl, rfl⟩)) kk_MO_isEntry zf_MO_ok (ee_MO_isEntry) hT hB
-- PackingCensusModel.layOut()V
def s_MO_layOut : List (Nat × ma_C) := [
  (0, [(.aload_n 0, 1), (.iconst 0, 1), (.putfield 52, 3), (.iconst 0, 1), (.istore_n 1, 1)]),
  (7, [(.iload_n 1, 1), (.iconst 1, 1), (.aload_n 0, 1), (.getfield 38, 3), (.ishl, 1), (.if_icmp .ge 40, 3), (.iload_n 1, 1), (.invokestatic 42, 3), (.aload_n 0, 1), (.getfield 46, 3), (.if_icmp .ne 23, 3), (.aload_n 0, 1), (.getfield 7, 3), (.aload_n 0, 1), (.getfield 52, 3), (.iload_n 1, 1), (.iastore, 1), (.aload_n 0, 1), (.dup, 1), (.getfield 52, 3), (.iconst 1, 1), (.iadd, 1), (.putfield 52, 3)]),
  (48, [(.iinc 1 1, 3), (.goto (-44), 3)]),
  (54, [(.aload_n 0, 1), (.iconst 1, 1), (.putfield 55, 3), (.iconst 2, 1), (.istore_n 1, 1)]),
  (61, [(.iload_n 1, 1), (.aload_n 0, 1), (.getfield 38, 3), (.if_icmp .gt 19, 3), (.aload_n 0, 1), (.aload_n 0, 1), (.getfield 55, 3), (.iload_n 1, 1), (.imul, 1), (.putfield 55, 3), (.iinc 1 1, 3), (.goto (-21), 3)]),
  (85, [(.iconst 0, 1), (.istore_n 1, 1)]),
  (87, [(.iload_n 1, 1), (.aload_n 0, 1), (.getfield 55, 3), (.if_icmp .ge 14, 3), (.aload_n 0, 1), (.iload_n 1, 1), (.invokevirtual 58, 3), (.iinc 1 1, 3), (.goto (-16), 3)]),
  (106, [(.return_, 1)])]
theorem o_MO_layOut : (s_MO_layOut).all (fun q => ma_dec prog_7_method_6_code q.1 q.2) = true := by decide +kernel
def k_MO_layOut : List (Nat × Int32) := []
theorem kk_MO_layOut {z : Cond} : ma_Kok "PackingCensusModel" (z :: zw_t) k_MO_layOut := fun _ h => absurd h List.not_mem_nil
def e_MO_layOut (t_0 t_1 : ma_T) : ma_E := [(42, 1, none, true, t_0), (58, 2, some 5, false, t_1)]
theorem ee_MO_layOut {l : Launch} {dep : Nat} {z : Cond} {t_0 t_1 : ma_T} {d_0 : Nat} (h_0 : ma_Met l y_MO_bits (w_MO_bits :: zw_t) d_0 true t_0) (e_0 : d_0 + 1 ≤ dep) {d_1 : Nat} (h_1 : ma_Met l y_MO_rename (w_MO_rename :: zw_t) d_1 false t_1) (e_1 : d_1 + 1 ≤ dep) : ma_Eok l "PackingCensusModel" (z :: zw_t) dep (e_MO_layOut t_0 t_1) := List.forall_mem_cons.mpr ⟨Or.inr ⟨y_MO_bits, prog_7_method_2_code, 3, d_0, 1, (some .int), zw_t, h_0, zw_in m_MO_bits, e_0, by decide, List.mem_cons_of_mem _ (zw_m (w := .methodLink "PackingCensusModel" 42 y_MO_bits) (i := 540) (by decide +kernel) (by decide +kernel)), List.mem_cons_of_mem _ (zw_m (i := 39) (by decide +kernel) (by decide +kernel)), ⟨by decide, by decide, by decide +kernel⟩, Or.inl ⟨rfl, rfl, List.mem_cons_of_mem _ (zw_m (i := 541) (by decide +kernel) (by decide +kernel))⟩⟩, List.forall_mem_cons.mpr ⟨Or.inr ⟨y_MO_rename, prog_7_method_7_code, 8, d_1, 1, none, zw_t, h_1, zw_in m_MO_rename, e_1, by decide, List.mem_cons_of_mem _ (zw_m (w := .methodLink "PackingCensusModel" 58 y_MO_rename) (i := 543) (by decide +kernel) (by decide +kernel)), List.mem_cons_of_mem _ (zw_m (i := 39) (by decide +kernel) (by decide +kernel)), ⟨by decide, by decide, by decide +kernel⟩, Or.inr ⟨5, (zc_MO, zt_MO, 18), rfl, rfl, List.mem_cons_of_mem _ (zw_m (i := 545) (by decide +kernel) (by decide +kernel)), rfl, List.mem_cons_of_mem _ (zw_m (i := 15) (by decide +kernel) (by decide +kernel))⟩⟩, fun _ h => absurd h List.not_mem_nil⟩⟩
theorem z_MO_layOut {l : Launch} {dep : Nat} {T : ma_T} {t_0 t_1 : ma_T} {d_0 : Nat} (h_0 : ma_Met l y_MO_bits (w_MO_bits :: zw_t) d_0 true t_0) (e_0 : d_0 + 1 ≤ dep) {d_1 : Nat} (h_1 : ma_Met l y_MO_rename (w_MO_rename :: zw_t) d_1 false t_1) (e_1 : d_1 + 1 ≤ dep) (hT : ∀ as w post, T as w post → as.length ≤ 2)
    (hB : ∀ as w post, T as w post → ∀ Go, ma_cl k_MO_layOut zf_MO (e_MO_layOut t_0 t_1) none 0 s_MO_layOut post Go → Go 0 (as.map some ++ List.replicate (2 - as.length) none) [] w) :
    ma_Met l y_MO_layOut (w_MO_layOut :: zw_t) dep false T := ma_met (by decide) o_MO_layOut (Or.inl ⟨rfl, rfl, rfl⟩) kk_MO_layOut zf_MO_ok (ee_MO_layOut h_0 e_0 h_1 e_1) hT hB
-- PackingCensusModel.rename(I)V
def s_MO_rename : List (Nat × ma_C) := [
  (0, [(.iload_n 1, 1), (.istore_n 2, 1), (.iconst 0, 1), (.istore_n 3, 1), (.iconst 0, 1), (.istore 4, 2)]),
  (7, [(.iload 4, 2), (.aload_n 0, 1), (.getfield 38, 3), (.if_icmp .ge 95, 3), (.aload_n 0, 1), (.getfield 38, 3), (.iload 4, 2), (.isub, 1), (.istore 5, 2), (.iload_n 2, 1), (.iload 5, 2), (.irem, 1), (.istore 6, 2), (.iload_n 2, 1), (.iload 5, 2), (.idiv, 1), (.istore_n 2, 1), (.iconst 0, 1), (.istore 7, 2)]),
  (39, [(.iload 6, 2), (.ifCond .gt 13, 3), (.iload_n 3, 1), (.iload 7, 2), (.ishr, 1), (.iconst 1, 1), (.iand, 1), (.iconst 1, 1), (.if_icmp .ne 30, 3)]),
  (54, [(.iload_n 3, 1), (.iload 7, 2), (.ishr, 1), (.iconst 1, 1), (.iand, 1), (.iconst 1, 1), (.if_icmp .ne 8, 3), (.iload 6, 2), (.goto 7, 3)]),
  (69, [(.iload 6, 2), (.iconst 1, 1), (.isub, 1)]),
  (73, [(.istore 6, 2), (.iinc 7 1, 3), (.goto (-39), 3)]),
  (81, [(.iload_n 3, 1), (.iconst 1, 1), (.iload 7, 2), (.ishl, 1), (.ior, 1), (.istore_n 3, 1), (.aload_n 0, 1), (.getfield 13, 3), (.bipush 6, 2), (.iload_n 1, 1), (.imul, 1), (.iload 4, 2), (.iadd, 1), (.iload 7, 2), (.iastore, 1), (.iinc 4 1, 3), (.goto (-98), 3)]),
  (108, [(.return_, 1)])]
theorem o_MO_rename : (s_MO_rename).all (fun q => ma_dec prog_7_method_7_code q.1 q.2) = true := by decide +kernel
def k_MO_rename : List (Nat × Int32) := []
theorem kk_MO_rename {z : Cond} : ma_Kok "PackingCensusModel" (z :: zw_t) k_MO_rename := fun _ h => absurd h List.not_mem_nil
def e_MO_rename : ma_E := []
theorem ee_MO_rename {l : Launch} {dep : Nat} {z : Cond} : ma_Eok l "PackingCensusModel" (z :: zw_t) dep (e_MO_rename) := fun _ h => absurd h List.not_mem_nil
theorem z_MO_rename {l : Launch} {dep : Nat} {T : ma_T} (hT : ∀ as w post, T as w post → as.length ≤ 8)
    (hB : ∀ as w post, T as w post → ∀ Go, ma_cl k_MO_rename zf_MO (e_MO_rename) none 0 s_MO_rename post Go → Go 0 (as.map some ++ List.replicate (8 - as.length) none) [] w) :
    ma_Met l y_MO_rename (w_MO_rename :: zw_t) dep false T := ma_met (by decide) o_MO_rename (Or.inl ⟨rfl, rfl, rfl⟩) kk_MO_rename zf_MO_ok (ee_MO_rename) hT hB
-- PackingCensusModel.image(II)I
def s_MO_image : List (Nat × ma_C) := [
  (0, [(.iconst 0, 1), (.istore_n 3, 1), (.iconst 0, 1), (.istore 4, 2)]),
  (5, [(.iload 4, 2), (.aload_n 0, 1), (.getfield 38, 3), (.if_icmp .ge 40, 3), (.iload_n 1, 1), (.iload 4, 2), (.ishr, 1), (.iconst 1, 1), (.iand, 1), (.iconst 1, 1), (.if_icmp .ne 22, 3), (.iload_n 3, 1), (.iconst 1, 1), (.aload_n 0, 1), (.getfield 13, 3), (.bipush 6, 2), (.iload_n 2, 1), (.imul, 1), (.iload 4, 2), (.iadd, 1), (.iaload, 1), (.ishl, 1), (.ior, 1), (.goto 4, 3)]),
  (43, [(.iload_n 3, 1)]),
  (44, [(.istore_n 3, 1), (.iinc 4 1, 3), (.goto (-43), 3)]),
  (51, [(.iload_n 3, 1), (.ireturn, 1)])]
theorem o_MO_image : (s_MO_image).all (fun q => ma_dec prog_7_method_8_code q.1 q.2) = true := by decide +kernel
def k_MO_image : List (Nat × Int32) := []
theorem kk_MO_image {z : Cond} : ma_Kok "PackingCensusModel" (z :: zw_t) k_MO_image := fun _ h => absurd h List.not_mem_nil
def e_MO_image : ma_E := []
theorem ee_MO_image {l : Launch} {dep : Nat} {z : Cond} : ma_Eok l "PackingCensusModel" (z :: zw_t) dep (e_MO_image) := fun _ h => absurd h List.not_mem_nil
theorem z_MO_image {l : Launch} {dep : Nat} {T : ma_T} (hT : ∀ as w post, T as w post → as.length ≤ 5)
    (hB : ∀ as w post, T as w post → ∀ Go, ma_cl k_MO_image zf_MO (e_MO_image) none 1 s_MO_image post Go → Go 0 (as.map some ++ List.replicate (5 - as.length) none) [] w) :
    ma_Met l y_MO_image (w_MO_image :: zw_t) dep true T := ma_met (by decide) o_MO_image (Or.inr (Or.inl ⟨rfl, rfl, rfl⟩)) kk_MO_image zf_MO_ok (ee_MO_image) hT hB
-- PackingCensusModel.none()V
def s_MO_none : List (Nat × ma_C) := [
  (0, [(.iconst 0, 1), (.istore_n 1, 1)]),
  (2, [(.iload_n 1, 1), (.bipush 64, 2), (.if_icmp .ge 16, 3), (.aload_n 0, 1), (.getfield 25, 3), (.iload_n 1, 1), (.iconst 0, 1), (.iastore, 1), (.iinc 1 1, 3), (.goto (-16), 3)]),
  (21, [(.return_, 1)])]
theorem o_MO_none : (s_MO_none).all (fun q => ma_dec prog_7_method_9_code q.1 q.2) = true := by decide +kernel
def k_MO_none : List (Nat × Int32) := []
theorem kk_MO_none {z : Cond} : ma_Kok "PackingCensusModel" (z :: zw_t) k_MO_none := fun _ h => absurd h List.not_mem_nil
def e_MO_none : ma_E := []
theorem ee_MO_none {l : Launch} {dep : Nat} {z : Cond} : ma_Eok l "PackingCensusModel" (z :: zw_t) dep (e_MO_none) := fun _ h => absurd h List.not_mem_nil
theorem z_MO_none {l : Launch} {dep : Nat} {T : ma_T} (hT : ∀ as w post, T as w post → as.length ≤ 2)
    (hB : ∀ as w post, T as w post → ∀ Go, ma_cl k_MO_none zf_MO (e_MO_none) none 0 s_MO_none post Go → Go 0 (as.map some ++ List.replicate (2 - as.length) none) [] w) :
    ma_Met l y_MO_none (w_MO_none :: zw_t) dep false T := ma_met (by decide) o_MO_none (Or.inl ⟨rfl, rfl, rfl⟩) kk_MO_none zf_MO_ok (ee_MO_none) hT hB
-- PackingCensusModel.lookAtEntry(I)V
def s_MO_lookAtEntry : List (Nat × ma_C) := [
  (0, [(.aload_n 0, 1), (.invokevirtual 62, 3), (.iconst 0, 1), (.istore_n 2, 1)]),
  (6, [(.iload_n 2, 1), (.aload_n 0, 1), (.getfield 65, 3), (.if_icmp .ge 29, 3), (.aload_n 0, 1), (.getfield 25, 3), (.aload_n 0, 1), (.getfield 16, 3), (.bipush 10, 2), (.iload_n 1, 1), (.imul, 1), (.iload_n 2, 1), (.iadd, 1), (.iaload, 1), (.dup2, 1), (.iaload, 1), (.iconst 1, 1), (.iadd, 1), (.iastore, 1), (.iinc 2 1, 3), (.goto (-31), 3)]),
  (40, [(.return_, 1)])]
theorem o_MO_lookAtEntry : (s_MO_lookAtEntry).all (fun q => ma_dec prog_7_method_10_code q.1 q.2) = true := by decide +kernel
def k_MO_lookAtEntry : List (Nat × Int32) := []
theorem kk_MO_lookAtEntry {z : Cond} : ma_Kok "PackingCensusModel" (z :: zw_t) k_MO_lookAtEntry := fun _ h => absurd h List.not_mem_nil
def e_MO_lookAtEntry (t_0 : ma_T) : ma_E := [(62, 1, some 5, false, t_0)]
theorem ee_MO_lookAtEntry {l : Launch} {dep : Nat} {z : Cond} {t_0 : ma_T} {d_0 : Nat} (h_0 : ma_Met l y_MO_none (w_MO_none :: zw_t) d_0 false t_0) (e_0 : d_0 + 1 ≤ dep) : ma_Eok l "PackingCensusModel" (z :: zw_t) dep (e_MO_lookAtEntry t_0) := List.forall_mem_cons.mpr ⟨Or.inr ⟨y_MO_none, prog_7_method_9_code, 2, d_0, 0, none, zw_t, h_0, zw_in m_MO_none, e_0, by decide, List.mem_cons_of_mem _ (zw_m (w := .methodLink "PackingCensusModel" 62 y_MO_none) (i := 559) (by decide +kernel) (by decide +kernel)), List.mem_cons_of_mem _ (zw_m (i := 39) (by decide +kernel) (by decide +kernel)), ⟨by decide, by decide, by decide +kernel⟩, Or.inr ⟨5, (zc_MO, zt_MO, 18), rfl, rfl, List.mem_cons_of_mem _ (zw_m (i := 561) (by decide +kernel) (by decide +kernel)), rfl, List.mem_cons_of_mem _ (zw_m (i := 18) (by decide +kernel) (by decide +kernel))⟩⟩, fun _ h => absurd h List.not_mem_nil⟩
theorem z_MO_lookAtEntry {l : Launch} {dep : Nat} {T : ma_T} {t_0 : ma_T} {d_0 : Nat} (h_0 : ma_Met l y_MO_none (w_MO_none :: zw_t) d_0 false t_0) (e_0 : d_0 + 1 ≤ dep) (hT : ∀ as w post, T as w post → as.length ≤ 3)
    (hB : ∀ as w post, T as w post → ∀ Go, ma_cl k_MO_lookAtEntry zf_MO (e_MO_lookAtEntry t_0) none 0 s_MO_lookAtEntry post Go → Go 0 (as.map some ++ List.replicate (3 - as.length) none) [] w) :
    ma_Met l y_MO_lookAtEntry (w_MO_lookAtEntry :: zw_t) dep false T := ma_met (by decide) o_MO_lookAtEntry (Or.inl ⟨rfl, rfl, rfl⟩) kk_MO_lookAtEntry zf_MO_ok (ee_MO_lookAtEntry h_0 e_0) hT hB
-- PackingCensusModel.lookAtHand()V
def s_MO_lookAtHand : List (Nat × ma_C) := [
  (0, [(.aload_n 0, 1), (.invokevirtual 62, 3), (.iconst 0, 1), (.istore_n 1, 1)]),
  (6, [(.iload_n 1, 1), (.aload_n 0, 1), (.getfield 68, 3), (.if_icmp .ge 24, 3), (.aload_n 0, 1), (.getfield 25, 3), (.aload_n 0, 1), (.getfield 22, 3), (.iload_n 1, 1), (.iaload, 1), (.dup2, 1), (.iaload, 1), (.iconst 1, 1), (.iadd, 1), (.iastore, 1), (.iinc 1 1, 3), (.goto (-26), 3)]),
  (35, [(.return_, 1)])]
theorem o_MO_lookAtHand : (s_MO_lookAtHand).all (fun q => ma_dec prog_7_method_11_code q.1 q.2) = true := by decide +kernel
def k_MO_lookAtHand : List (Nat × Int32) := []
theorem kk_MO_lookAtHand {z : Cond} : ma_Kok "PackingCensusModel" (z :: zw_t) k_MO_lookAtHand := fun _ h => absurd h List.not_mem_nil
def e_MO_lookAtHand (t_0 : ma_T) : ma_E := [(62, 1, some 5, false, t_0)]
theorem ee_MO_lookAtHand {l : Launch} {dep : Nat} {z : Cond} {t_0 : ma_T} {d_0 : Nat} (h_0 : ma_Met l y_MO_none (w_MO_none :: zw_t) d_0 false t_0) (e_0 : d_0 + 1 ≤ dep) : ma_Eok l "PackingCensusModel" (z :: zw_t) dep (e_MO_lookAtHand t_0) := List.forall_mem_cons.mpr ⟨Or.inr ⟨y_MO_none, prog_7_method_9_code, 2, d_0, 0, none, zw_t, h_0, zw_in m_MO_none, e_0, by decide, List.mem_cons_of_mem _ (zw_m (w := .methodLink "PackingCensusModel" 62 y_MO_none) (i := 559) (by decide +kernel) (by decide +kernel)), List.mem_cons_of_mem _ (zw_m (i := 39) (by decide +kernel) (by decide +kernel)), ⟨by decide, by decide, by decide +kernel⟩, Or.inr ⟨5, (zc_MO, zt_MO, 18), rfl, rfl, List.mem_cons_of_mem _ (zw_m (i := 561) (by decide +kernel) (by decide +kernel)), rfl, List.mem_cons_of_mem _ (zw_m (i := 18) (by decide +kernel) (by decide +kernel))⟩⟩, fun _ h => absurd h List.not_mem_nil⟩
theorem z_MO_lookAtHand {l : Launch} {dep : Nat} {T : ma_T} {t_0 : ma_T} {d_0 : Nat} (h_0 : ma_Met l y_MO_none (w_MO_none :: zw_t) d_0 false t_0) (e_0 : d_0 + 1 ≤ dep) (hT : ∀ as w post, T as w post → as.length ≤ 2)
    (hB : ∀ as w post, T as w post → ∀ Go, ma_cl k_MO_lookAtHand zf_MO (e_MO_lookAtHand t_0) none 0 s_MO_lookAtHand post Go → Go 0 (as.map some ++ List.replicate (2 - as.length) none) [] w) :
    ma_Met l y_MO_lookAtHand (w_MO_lookAtHand :: zw_t) dep false T := ma_met (by decide) o_MO_lookAtHand (Or.inl ⟨rfl, rfl, rfl⟩) kk_MO_lookAtHand zf_MO_ok (ee_MO_lookAtHand h_0 e_0) hT hB
-- PackingCensusModel.compare(II)I
def s_MO_compare : List (Nat × ma_C) := [
  (0, [(.iconst 0, 1), (.istore_n 3, 1)]),
  (2, [(.iload_n 3, 1), (.aload_n 0, 1), (.getfield 52, 3), (.if_icmp .ge 65, 3), (.aload_n 0, 1), (.getfield 25, 3), (.aload_n 0, 1), (.aload_n 0, 1), (.getfield 7, 3), (.iload_n 3, 1), (.iaload, 1), (.iload_n 1, 1), (.invokevirtual 71, 3), (.iaload, 1), (.istore 4, 2), (.aload_n 0, 1), (.getfield 25, 3), (.aload_n 0, 1), (.aload_n 0, 1), (.getfield 7, 3), (.iload_n 3, 1), (.iaload, 1), (.iload_n 2, 1), (.invokevirtual 71, 3), (.iaload, 1), (.istore 5, 2), (.iload 4, 2), (.iload 5, 2), (.if_icmp .eq 16, 3), (.iload 4, 2), (.iload 5, 2), (.if_icmp .le 7, 3), (.iconst (-1), 1), (.goto 4, 3)]),
  (64, [(.iconst 1, 1)]),
  (65, [(.ireturn, 1)]),
  (66, [(.iinc 3 1, 3), (.goto (-67), 3)]),
  (72, [(.iconst 0, 1), (.ireturn, 1)])]
theorem o_MO_compare : (s_MO_compare).all (fun q => ma_dec prog_7_method_12_code q.1 q.2) = true := by decide +kernel
def k_MO_compare : List (Nat × Int32) := []
theorem kk_MO_compare {z : Cond} : ma_Kok "PackingCensusModel" (z :: zw_t) k_MO_compare := fun _ h => absurd h List.not_mem_nil
def e_MO_compare (t_0 : ma_T) : ma_E := [(71, 3, some 5, true, t_0)]
theorem ee_MO_compare {l : Launch} {dep : Nat} {z : Cond} {t_0 : ma_T} {d_0 : Nat} (h_0 : ma_Met l y_MO_image (w_MO_image :: zw_t) d_0 true t_0) (e_0 : d_0 + 1 ≤ dep) : ma_Eok l "PackingCensusModel" (z :: zw_t) dep (e_MO_compare t_0) := List.forall_mem_cons.mpr ⟨Or.inr ⟨y_MO_image, prog_7_method_8_code, 5, d_0, 2, (some .int), zw_t, h_0, zw_in m_MO_image, e_0, by decide, List.mem_cons_of_mem _ (zw_m (w := .methodLink "PackingCensusModel" 71 y_MO_image) (i := 579) (by decide +kernel) (by decide +kernel)), List.mem_cons_of_mem _ (zw_m (i := 39) (by decide +kernel) (by decide +kernel)), ⟨by decide, by decide, by decide +kernel⟩, Or.inr ⟨5, (zc_MO, zt_MO, 18), rfl, rfl, List.mem_cons_of_mem _ (zw_m (i := 581) (by decide +kernel) (by decide +kernel)), rfl, List.mem_cons_of_mem _ (zw_m (i := 23) (by decide +kernel) (by decide +kernel))⟩⟩, fun _ h => absurd h List.not_mem_nil⟩
theorem z_MO_compare {l : Launch} {dep : Nat} {T : ma_T} {t_0 : ma_T} {d_0 : Nat} (h_0 : ma_Met l y_MO_image (w_MO_image :: zw_t) d_0 true t_0) (e_0 : d_0 + 1 ≤ dep) (hT : ∀ as w post, T as w post → as.length ≤ 6)
    (hB : ∀ as w post, T as w post → ∀ Go, ma_cl k_MO_compare zf_MO (e_MO_compare t_0) none 1 s_MO_compare post Go → Go 0 (as.map some ++ List.replicate (6 - as.length) none) [] w) :
    ma_Met l y_MO_compare (w_MO_compare :: zw_t) dep true T := ma_met (by decide) o_MO_compare (Or.inr (Or.inl ⟨rfl, rfl, rfl⟩)) kk_MO_compare zf_MO_ok (ee_MO_compare h_0 e_0) hT hB
-- PackingCensusModel.leastOne()I
def s_MO_leastOne : List (Nat × ma_C) := [
  (0, [(.iconst 0, 1), (.istore_n 1, 1), (.iconst 1, 1), (.istore_n 2, 1)]),
  (4, [(.iload_n 2, 1), (.aload_n 0, 1), (.getfield 55, 3), (.if_icmp .ge 24, 3), (.aload_n 0, 1), (.iload_n 2, 1), (.iload_n 1, 1), (.invokevirtual 75, 3), (.ifCond .ge 7, 3), (.iload_n 2, 1), (.goto 4, 3)]),
  (25, [(.iload_n 1, 1)]),
  (26, [(.istore_n 1, 1), (.iinc 2 1, 3), (.goto (-26), 3)]),
  (33, [(.iload_n 1, 1), (.ireturn, 1)])]
theorem o_MO_leastOne : (s_MO_leastOne).all (fun q => ma_dec prog_7_method_13_code q.1 q.2) = true := by decide +kernel
def k_MO_leastOne : List (Nat × Int32) := []
theorem kk_MO_leastOne {z : Cond} : ma_Kok "PackingCensusModel" (z :: zw_t) k_MO_leastOne := fun _ h => absurd h List.not_mem_nil
def e_MO_leastOne (t_0 : ma_T) : ma_E := [(75, 3, some 5, true, t_0)]
theorem ee_MO_leastOne {l : Launch} {dep : Nat} {z : Cond} {t_0 : ma_T} {d_0 : Nat} (h_0 : ma_Met l y_MO_compare (w_MO_compare :: zw_t) d_0 true t_0) (e_0 : d_0 + 1 ≤ dep) : ma_Eok l "PackingCensusModel" (z :: zw_t) dep (e_MO_leastOne t_0) := List.forall_mem_cons.mpr ⟨Or.inr ⟨y_MO_compare, prog_7_method_12_code, 6, d_0, 2, (some .int), zw_t, h_0, zw_in m_MO_compare, e_0, by decide, List.mem_cons_of_mem _ (zw_m (w := .methodLink "PackingCensusModel" 75 y_MO_compare) (i := 575) (by decide +kernel) (by decide +kernel)), List.mem_cons_of_mem _ (zw_m (i := 39) (by decide +kernel) (by decide +kernel)), ⟨by decide, by decide, by decide +kernel⟩, Or.inr ⟨5, (zc_MO, zt_MO, 18), rfl, rfl, List.mem_cons_of_mem _ (zw_m (i := 577) (by decide +kernel) (by decide +kernel)), rfl, List.mem_cons_of_mem _ (zw_m (i := 22) (by decide +kernel) (by decide +kernel))⟩⟩, fun _ h => absurd h List.not_mem_nil⟩
theorem z_MO_leastOne {l : Launch} {dep : Nat} {T : ma_T} {t_0 : ma_T} {d_0 : Nat} (h_0 : ma_Met l y_MO_compare (w_MO_compare :: zw_t) d_0 true t_0) (e_0 : d_0 + 1 ≤ dep) (hT : ∀ as w post, T as w post → as.length ≤ 3)
    (hB : ∀ as w post, T as w post → ∀ Go, ma_cl k_MO_leastOne zf_MO (e_MO_leastOne t_0) none 1 s_MO_leastOne post Go → Go 0 (as.map some ++ List.replicate (3 - as.length) none) [] w) :
    ma_Met l y_MO_leastOne (w_MO_leastOne :: zw_t) dep true T := ma_met (by decide) o_MO_leastOne (Or.inr (Or.inl ⟨rfl, rfl, rfl⟩)) kk_MO_leastOne zf_MO_ok (ee_MO_leastOne h_0 e_0) hT hB
-- PackingCensusModel.isLeast()Z
def s_MO_isLeast : List (Nat × ma_C) := [
  (0, [(.iconst 1, 1), (.istore_n 1, 1), (.iconst 1, 1), (.istore_n 2, 1)]),
  (4, [(.iload_n 2, 1), (.aload_n 0, 1), (.getfield 55, 3), (.if_icmp .ge 28, 3), (.iload_n 1, 1), (.ifCond .eq 24, 3), (.aload_n 0, 1), (.iload_n 2, 1), (.iconst 0, 1), (.invokevirtual 75, 3), (.ifCond .lt 7, 3), (.iconst 1, 1), (.goto 4, 3)]),
  (29, [(.iconst 0, 1)]),
  (30, [(.istore_n 1, 1), (.iinc 2 1, 3), (.goto (-30), 3)]),
  (37, [(.iload_n 1, 1), (.ireturn, 1)])]
theorem o_MO_isLeast : (s_MO_isLeast).all (fun q => ma_dec prog_7_method_14_code q.1 q.2) = true := by decide +kernel
def k_MO_isLeast : List (Nat × Int32) := []
theorem kk_MO_isLeast {z : Cond} : ma_Kok "PackingCensusModel" (z :: zw_t) k_MO_isLeast := fun _ h => absurd h List.not_mem_nil
def e_MO_isLeast (t_0 : ma_T) : ma_E := [(75, 3, some 5, true, t_0)]
theorem ee_MO_isLeast {l : Launch} {dep : Nat} {z : Cond} {t_0 : ma_T} {d_0 : Nat} (h_0 : ma_Met l y_MO_compare (w_MO_compare :: zw_t) d_0 true t_0) (e_0 : d_0 + 1 ≤ dep) : ma_Eok l "PackingCensusModel" (z :: zw_t) dep (e_MO_isLeast t_0) := List.forall_mem_cons.mpr ⟨Or.inr ⟨y_MO_compare, prog_7_method_12_code, 6, d_0, 2, (some .int), zw_t, h_0, zw_in m_MO_compare, e_0, by decide, List.mem_cons_of_mem _ (zw_m (w := .methodLink "PackingCensusModel" 75 y_MO_compare) (i := 575) (by decide +kernel) (by decide +kernel)), List.mem_cons_of_mem _ (zw_m (i := 39) (by decide +kernel) (by decide +kernel)), ⟨by decide, by decide, by decide +kernel⟩, Or.inr ⟨5, (zc_MO, zt_MO, 18), rfl, rfl, List.mem_cons_of_mem _ (zw_m (i := 577) (by decide +kernel) (by decide +kernel)), rfl, List.mem_cons_of_mem _ (zw_m (i := 22) (by decide +kernel) (by decide +kernel))⟩⟩, fun _ h => absurd h List.not_mem_nil⟩
theorem z_MO_isLeast {l : Launch} {dep : Nat} {T : ma_T} {t_0 : ma_T} {d_0 : Nat} (h_0 : ma_Met l y_MO_compare (w_MO_compare :: zw_t) d_0 true t_0) (e_0 : d_0 + 1 ≤ dep) (hT : ∀ as w post, T as w post → as.length ≤ 3)
    (hB : ∀ as w post, T as w post → ∀ Go, ma_cl k_MO_isLeast zf_MO (e_MO_isLeast t_0) none 2 s_MO_isLeast post Go → Go 0 (as.map some ++ List.replicate (3 - as.length) none) [] w) :
    ma_Met l y_MO_isLeast (w_MO_isLeast :: zw_t) dep true T := ma_met (by decide) o_MO_isLeast (Or.inr (Or.inr ⟨rfl, rfl, rfl⟩)) kk_MO_isLeast zf_MO_ok (ee_MO_isLeast h_0 e_0) hT hB
-- PackingCensusModel.keepers()I
def s_MO_keepers : List (Nat × ma_C) := [
  (0, [(.iconst 0, 1), (.istore_n 1, 1), (.iconst 0, 1), (.istore_n 2, 1)]),
  (4, [(.iload_n 2, 1), (.aload_n 0, 1), (.getfield 55, 3), (.if_icmp .ge 26, 3), (.aload_n 0, 1), (.iload_n 2, 1), (.iconst 0, 1), (.invokevirtual 75, 3), (.ifCond .ne 9, 3), (.iload_n 1, 1), (.iconst 1, 1), (.iadd, 1), (.goto 4, 3)]),
  (27, [(.iload_n 1, 1)]),
  (28, [(.istore_n 1, 1), (.iinc 2 1, 3), (.goto (-28), 3)]),
  (35, [(.iload_n 1, 1), (.ireturn, 1)])]
theorem o_MO_keepers : (s_MO_keepers).all (fun q => ma_dec prog_7_method_15_code q.1 q.2) = true := by decide +kernel
def k_MO_keepers : List (Nat × Int32) := []
theorem kk_MO_keepers {z : Cond} : ma_Kok "PackingCensusModel" (z :: zw_t) k_MO_keepers := fun _ h => absurd h List.not_mem_nil
def e_MO_keepers (t_0 : ma_T) : ma_E := [(75, 3, some 5, true, t_0)]
theorem ee_MO_keepers {l : Launch} {dep : Nat} {z : Cond} {t_0 : ma_T} {d_0 : Nat} (h_0 : ma_Met l y_MO_compare (w_MO_compare :: zw_t) d_0 true t_0) (e_0 : d_0 + 1 ≤ dep) : ma_Eok l "PackingCensusModel" (z :: zw_t) dep (e_MO_keepers t_0) := List.forall_mem_cons.mpr ⟨Or.inr ⟨y_MO_compare, prog_7_method_12_code, 6, d_0, 2, (some .int), zw_t, h_0, zw_in m_MO_compare, e_0, by decide, List.mem_cons_of_mem _ (zw_m (w := .methodLink "PackingCensusModel" 75 y_MO_compare) (i := 575) (by decide +kernel) (by decide +kernel)), List.mem_cons_of_mem _ (zw_m (i := 39) (by decide +kernel) (by decide +kernel)), ⟨by decide, by decide, by decide +kernel⟩, Or.inr ⟨5, (zc_MO, zt_MO, 18), rfl, rfl, List.mem_cons_of_mem _ (zw_m (i := 577) (by decide +kernel) (by decide +kernel)), rfl, List.mem_cons_of_mem _ (zw_m (i := 22) (by decide +kernel) (by decide +kernel))⟩⟩, fun _ h => absurd h List.not_mem_nil⟩
theorem z_MO_keepers {l : Launch} {dep : Nat} {T : ma_T} {t_0 : ma_T} {d_0 : Nat} (h_0 : ma_Met l y_MO_compare (w_MO_compare :: zw_t) d_0 true t_0) (e_0 : d_0 + 1 ≤ dep) (hT : ∀ as w post, T as w post → as.length ≤ 3)
    (hB : ∀ as w post, T as w post → ∀ Go, ma_cl k_MO_keepers zf_MO (e_MO_keepers t_0) none 1 s_MO_keepers post Go → Go 0 (as.map some ++ List.replicate (3 - as.length) none) [] w) :
    ma_Met l y_MO_keepers (w_MO_keepers :: zw_t) dep true T := ma_met (by decide) o_MO_keepers (Or.inr (Or.inl ⟨rfl, rfl, rfl⟩)) kk_MO_keepers zf_MO_ok (ee_MO_keepers h_0 e_0) hT hB
-- PackingCensusModel.meet(II)I
def s_MO_meet : List (Nat × ma_C) := [
  (0, [(.iconst 0, 1), (.istore_n 3, 1), (.iconst 0, 1), (.istore 4, 2)]),
  (5, [(.iload 4, 2), (.aload_n 0, 1), (.getfield 52, 3), (.if_icmp .ge 70, 3), (.aload_n 0, 1), (.getfield 7, 3), (.iload 4, 2), (.iaload, 1), (.iload_n 1, 1), (.ishr, 1), (.iconst 1, 1), (.iand, 1), (.iconst 1, 1), (.if_icmp .ne 22, 3), (.aload_n 0, 1), (.getfield 7, 3), (.iload 4, 2), (.iaload, 1), (.iload_n 2, 1), (.ishr, 1), (.iconst 1, 1), (.iand, 1), (.iconst 1, 1), (.if_icmp .ne 7, 3), (.iconst 1, 1), (.goto 4, 3)]),
  (48, [(.iconst 0, 1)]),
  (49, [(.istore 5, 2), (.iload 5, 2), (.ifCond .eq 20, 3), (.iload_n 3, 1), (.aload_n 0, 1), (.getfield 25, 3), (.aload_n 0, 1), (.getfield 7, 3), (.iload 4, 2), (.iaload, 1), (.iaload, 1), (.iadd, 1), (.goto 4, 3)]),
  (73, [(.iload_n 3, 1)]),
  (74, [(.istore_n 3, 1), (.iinc 4 1, 3), (.goto (-73), 3)]),
  (81, [(.iload_n 3, 1), (.ireturn, 1)])]
theorem o_MO_meet : (s_MO_meet).all (fun q => ma_dec prog_7_method_16_code q.1 q.2) = true := by decide +kernel
def k_MO_meet : List (Nat × Int32) := []
theorem kk_MO_meet {z : Cond} : ma_Kok "PackingCensusModel" (z :: zw_t) k_MO_meet := fun _ h => absurd h List.not_mem_nil
def e_MO_meet : ma_E := []
theorem ee_MO_meet {l : Launch} {dep : Nat} {z : Cond} : ma_Eok l "PackingCensusModel" (z :: zw_t) dep (e_MO_meet) := fun _ h => absurd h List.not_mem_nil
theorem z_MO_meet {l : Launch} {dep : Nat} {T : ma_T} (hT : ∀ as w post, T as w post → as.length ≤ 6)
    (hB : ∀ as w post, T as w post → ∀ Go, ma_cl k_MO_meet zf_MO (e_MO_meet) none 1 s_MO_meet post Go → Go 0 (as.map some ++ List.replicate (6 - as.length) none) [] w) :
    ma_Met l y_MO_meet (w_MO_meet :: zw_t) dep true T := ma_met (by decide) o_MO_meet (Or.inr (Or.inl ⟨rfl, rfl, rfl⟩)) kk_MO_meet zf_MO_ok (ee_MO_meet) hT hB
-- PackingCensusModel.meets(II)Z
def s_MO_meets : List (Nat × ma_C) := [
  (0, [(.iconst 1, 1), (.istore_n 3, 1), (.iconst 0, 1), (.istore 4, 2)]),
  (5, [(.iload 4, 2), (.aload_n 0, 1), (.getfield 38, 3), (.if_icmp .ge 62, 3), (.iload 4, 2), (.iconst 1, 1), (.iadd, 1), (.istore 5, 2)]),
  (20, [(.iload 5, 2), (.aload_n 0, 1), (.getfield 38, 3), (.if_icmp .ge 41, 3), (.aload_n 0, 1), (.iload 4, 2), (.iload 5, 2), (.invokevirtual 78, 3), (.istore 6, 2), (.iload_n 3, 1), (.ifCond .eq 19, 3), (.iload 6, 2), (.iload_n 1, 1), (.if_icmp .lt 13, 3), (.iload 6, 2), (.iload_n 2, 1), (.if_icmp .gt 7, 3), (.iconst 1, 1), (.goto 4, 3)]),
  (59, [(.iconst 0, 1)]),
  (60, [(.istore_n 3, 1), (.iinc 5 1, 3), (.goto (-44), 3)]),
  (67, [(.iinc 4 1, 3), (.goto (-65), 3)]),
  (73, [(.iload_n 3, 1), (.ireturn, 1)])]
theorem o_MO_meets : (s_MO_meets).all (fun q => ma_dec prog_7_method_17_code q.1 q.2) = true := by decide +kernel
def k_MO_meets : List (Nat × Int32) := []
theorem kk_MO_meets {z : Cond} : ma_Kok "PackingCensusModel" (z :: zw_t) k_MO_meets := fun _ h => absurd h List.not_mem_nil
def e_MO_meets (t_0 : ma_T) : ma_E := [(78, 3, some 5, true, t_0)]
theorem ee_MO_meets {l : Launch} {dep : Nat} {z : Cond} {t_0 : ma_T} {d_0 : Nat} (h_0 : ma_Met l y_MO_meet (w_MO_meet :: zw_t) d_0 true t_0) (e_0 : d_0 + 1 ≤ dep) : ma_Eok l "PackingCensusModel" (z :: zw_t) dep (e_MO_meets t_0) := List.forall_mem_cons.mpr ⟨Or.inr ⟨y_MO_meet, prog_7_method_16_code, 6, d_0, 2, (some .int), zw_t, h_0, zw_in m_MO_meet, e_0, by decide, List.mem_cons_of_mem _ (zw_m (w := .methodLink "PackingCensusModel" 78 y_MO_meet) (i := 567) (by decide +kernel) (by decide +kernel)), List.mem_cons_of_mem _ (zw_m (i := 39) (by decide +kernel) (by decide +kernel)), ⟨by decide, by decide, by decide +kernel⟩, Or.inr ⟨5, (zc_MO, zt_MO, 18), rfl, rfl, List.mem_cons_of_mem _ (zw_m (i := 569) (by decide +kernel) (by decide +kernel)), rfl, List.mem_cons_of_mem _ (zw_m (i := 20) (by decide +kernel) (by decide +kernel))⟩⟩, fun _ h => absurd h List.not_mem_nil⟩
theorem z_MO_meets {l : Launch} {dep : Nat} {T : ma_T} {t_0 : ma_T} {d_0 : Nat} (h_0 : ma_Met l y_MO_meet (w_MO_meet :: zw_t) d_0 true t_0) (e_0 : d_0 + 1 ≤ dep) (hT : ∀ as w post, T as w post → as.length ≤ 7)
    (hB : ∀ as w post, T as w post → ∀ Go, ma_cl k_MO_meets zf_MO (e_MO_meets t_0) none 2 s_MO_meets post Go → Go 0 (as.map some ++ List.replicate (7 - as.length) none) [] w) :
    ma_Met l y_MO_meets (w_MO_meets :: zw_t) dep true T := ma_met (by decide) o_MO_meets (Or.inr (Or.inr ⟨rfl, rfl, rfl⟩)) kk_MO_meets zf_MO_ok (ee_MO_meets h_0 e_0) hT hB
-- PackingCensusModel.begin(III)I
def s_MO_begin : List (Nat × ma_C) := [
  (0, [(.iload_n 1, 1), (.iconst 3, 1), (.if_icmp .lt 31, 3), (.iload_n 1, 1), (.bipush 6, 2), (.if_icmp .gt 25, 3), (.iload_n 2, 1), (.iconst 2, 1), (.if_icmp .lt 20, 3), (.iload_n 2, 1), (.iload_n 1, 1), (.iconst 1, 1), (.isub, 1), (.if_icmp .gt 13, 3), (.iload_n 3, 1), (.iconst 1, 1), (.if_icmp .lt 8, 3), (.iload_n 3, 1), (.iconst 4, 1), (.if_icmp .le 6, 3)]),
  (33, [(.bipush (-2), 2), (.ireturn, 1)]),
  (36, [(.aload_n 0, 1), (.iconst 1, 1), (.putfield 34, 3), (.aload_n 0, 1), (.iload_n 1, 1), (.putfield 38, 3), (.aload_n 0, 1), (.iload_n 2, 1), (.putfield 46, 3), (.aload_n 0, 1), (.iload_n 3, 1), (.putfield 81, 3), (.aload_n 0, 1), (.iconst 0, 1), (.putfield 65, 3), (.aload_n 0, 1), (.iconst 1, 1), (.putfield 49, 3), (.aload_n 0, 1), (.iconst 0, 1), (.putfield 68, 3), (.aload_n 0, 1), (.invokevirtual 84, 3), (.aload_n 0, 1), (.getfield 81, 3), (.aload_n 0, 1), (.getfield 38, 3), (.iconst 1, 1), (.isub, 1), (.imul, 1), (.istore 4, 2), (.iload 4, 2), (.aload_n 0, 1), (.getfield 46, 3), (.iconst 1, 1), (.isub, 1), (.idiv, 1), (.istore 5, 2), (.iload 5, 2), (.aload_n 0, 1), (.getfield 46, 3), (.iconst 1, 1), (.isub, 1), (.imul, 1), (.iload 4, 2), (.if_icmp .ne 18, 3), (.aload_n 0, 1), (.getfield 38, 3), (.iload 5, 2), (.imul, 1), (.aload_n 0, 1), (.getfield 46, 3), (.irem, 1), (.ifCond .eq 6, 3)]),
  (128, [(.bipush (-3), 2), (.ireturn, 1)]),
  (131, [(.aload_n 0, 1), (.getfield 38, 3), (.iload 5, 2), (.imul, 1), (.aload_n 0, 1), (.getfield 46, 3), (.idiv, 1), (.aload_n 0, 1), (.getfield 38, 3), (.if_icmp .ge 8, 3), (.bipush (-4), 2), (.goto 15, 3)]),
  (155, [(.aload_n 0, 1), (.getfield 38, 3), (.iload 5, 2), (.imul, 1), (.aload_n 0, 1), (.getfield 46, 3), (.idiv, 1)]),
  (167, [(.ireturn, 1)])]
theorem o_MO_begin : (s_MO_begin).all (fun q => ma_dec prog_7_method_18_code q.1 q.2) = true := by decide +kernel
def k_MO_begin : List (Nat × Int32) := []
theorem kk_MO_begin {z : Cond} : ma_Kok "PackingCensusModel" (z :: zw_t) k_MO_begin := fun _ h => absurd h List.not_mem_nil
def e_MO_begin (t_0 : ma_T) : ma_E := [(84, 1, some 5, false, t_0)]
theorem ee_MO_begin {l : Launch} {dep : Nat} {z : Cond} {t_0 : ma_T} {d_0 : Nat} (h_0 : ma_Met l y_MO_layOut (w_MO_layOut :: zw_t) d_0 false t_0) (e_0 : d_0 + 1 ≤ dep) : ma_Eok l "PackingCensusModel" (z :: zw_t) dep (e_MO_begin t_0) := List.forall_mem_cons.mpr ⟨Or.inr ⟨y_MO_layOut, prog_7_method_6_code, 2, d_0, 0, none, zw_t, h_0, zw_in m_MO_layOut, e_0, by decide, List.mem_cons_of_mem _ (zw_m (w := .methodLink "PackingCensusModel" 84 y_MO_layOut) (i := 536) (by decide +kernel) (by decide +kernel)), List.mem_cons_of_mem _ (zw_m (i := 39) (by decide +kernel) (by decide +kernel)), ⟨by decide, by decide, by decide +kernel⟩, Or.inr ⟨5, (zc_MO, zt_MO, 18), rfl, rfl, List.mem_cons_of_mem _ (zw_m (i := 538) (by decide +kernel) (by decide +kernel)), rfl, List.mem_cons_of_mem _ (zw_m (i := 14) (by decide +kernel) (by decide +kernel))⟩⟩, fun _ h => absurd h List.not_mem_nil⟩
theorem z_MO_begin {l : Launch} {dep : Nat} {T : ma_T} {t_0 : ma_T} {d_0 : Nat} (h_0 : ma_Met l y_MO_layOut (w_MO_layOut :: zw_t) d_0 false t_0) (e_0 : d_0 + 1 ≤ dep) (hT : ∀ as w post, T as w post → as.length ≤ 6)
    (hB : ∀ as w post, T as w post → ∀ Go, ma_cl k_MO_begin zf_MO (e_MO_begin t_0) none 1 s_MO_begin post Go → Go 0 (as.map some ++ List.replicate (6 - as.length) none) [] w) :
    ma_Met l y_MO_begin (w_MO_begin :: zw_t) dep true T := ma_met (by decide) o_MO_begin (Or.inr (Or.inl ⟨rfl, rfl, rfl⟩)) kk_MO_begin zf_MO_ok (ee_MO_begin h_0 e_0) hT hB
