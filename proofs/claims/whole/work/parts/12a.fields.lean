/-! METHODS, by program: code, names, segments, fields and callees -/
def zf_PC : ma_F := [(10, 0, 1, 3), (16, 1, 0, 3), (20, 0, 0, 3), (24, 0, 2, 3), (28, 0, 3, 3), (31, 0, 4, 3), (37, 0, 5, 2), (41, 0, 6, 2), (44, 0, 7, 0), (48, 0, 8, 0), (51, 0, 9, 1), (55, 0, 10, 1), (58, 0, 11, 1)]
theorem zf_PC_ok {z : Cond} : ma_Fok zc_PC (z :: zw_t) zf_PC := by
  refine List.forall_mem_cons.mpr ⟨?_, List.forall_mem_cons.mpr ⟨?_, List.forall_mem_cons.mpr ⟨?_, List.forall_mem_cons.mpr ⟨?_, List.forall_mem_cons.mpr ⟨?_, List.forall_mem_cons.mpr ⟨?_, List.forall_mem_cons.mpr ⟨?_, List.forall_mem_cons.mpr ⟨?_, List.forall_mem_cons.mpr ⟨?_, List.forall_mem_cons.mpr ⟨?_, List.forall_mem_cons.mpr ⟨?_, List.forall_mem_cons.mpr ⟨?_, List.forall_mem_cons.mpr ⟨?_, fun _ h => absurd h List.not_mem_nil⟩⟩⟩⟩⟩⟩⟩⟩⟩⟩⟩⟩⟩
  · exact ⟨zc_PC, zt_PC, 12, zy_PC, rfl, rfl, by decide, by decide, fun w h => List.mem_cons_of_mem _ (zi_PC w h), List.mem_cons_of_mem _ (zw_m (i := 144) (by decide +kernel) (by decide +kernel)), zo_PC, zn_PC, Or.inr (Or.inr ⟨by decide, Or.inl ⟨_, rfl⟩⟩), by decide⟩
  · exact ⟨zc_FO, zt_FO, 9, zy_FO, rfl, rfl, by decide, by decide, fun w h => List.mem_cons_of_mem _ (zi_FO w h), List.mem_cons_of_mem _ (zw_m (i := 80) (by decide +kernel) (by decide +kernel)), zo_FO, zn_FO, Or.inr (Or.inr ⟨by decide, Or.inl ⟨_, rfl⟩⟩), by decide⟩
  · exact ⟨zc_PC, zt_PC, 12, zy_PC, rfl, rfl, by decide, by decide, fun w h => List.mem_cons_of_mem _ (zi_PC w h), List.mem_cons_of_mem _ (zw_m (i := 143) (by decide +kernel) (by decide +kernel)), zo_PC, zn_PC, Or.inr (Or.inr ⟨by decide, Or.inl ⟨_, rfl⟩⟩), by decide⟩
  · exact ⟨zc_PC, zt_PC, 12, zy_PC, rfl, rfl, by decide, by decide, fun w h => List.mem_cons_of_mem _ (zi_PC w h), List.mem_cons_of_mem _ (zw_m (i := 145) (by decide +kernel) (by decide +kernel)), zo_PC, zn_PC, Or.inr (Or.inr ⟨by decide, Or.inl ⟨_, rfl⟩⟩), by decide⟩
  · exact ⟨zc_PC, zt_PC, 12, zy_PC, rfl, rfl, by decide, by decide, fun w h => List.mem_cons_of_mem _ (zi_PC w h), List.mem_cons_of_mem _ (zw_m (i := 146) (by decide +kernel) (by decide +kernel)), zo_PC, zn_PC, Or.inr (Or.inr ⟨by decide, Or.inl ⟨_, rfl⟩⟩), by decide⟩
  · exact ⟨zc_PC, zt_PC, 12, zy_PC, rfl, rfl, by decide, by decide, fun w h => List.mem_cons_of_mem _ (zi_PC w h), List.mem_cons_of_mem _ (zw_m (i := 147) (by decide +kernel) (by decide +kernel)), zo_PC, zn_PC, Or.inr (Or.inr ⟨by decide, Or.inl ⟨_, rfl⟩⟩), by decide⟩
  · exact ⟨zc_PC, zt_PC, 12, zy_PC, rfl, rfl, by decide, by decide, fun w h => List.mem_cons_of_mem _ (zi_PC w h), List.mem_cons_of_mem _ (zw_m (i := 148) (by decide +kernel) (by decide +kernel)), zo_PC, zn_PC, Or.inr (Or.inr ⟨by decide, Or.inl ⟨_, rfl⟩⟩), by decide⟩
  · exact ⟨zc_PC, zt_PC, 12, zy_PC, rfl, rfl, by decide, by decide, fun w h => List.mem_cons_of_mem _ (zi_PC w h), List.mem_cons_of_mem _ (zw_m (i := 149) (by decide +kernel) (by decide +kernel)), zo_PC, zn_PC, Or.inr (Or.inr ⟨by decide, Or.inl ⟨_, rfl⟩⟩), by decide⟩
  · exact ⟨zc_PC, zt_PC, 12, zy_PC, rfl, rfl, by decide, by decide, fun w h => List.mem_cons_of_mem _ (zi_PC w h), List.mem_cons_of_mem _ (zw_m (i := 150) (by decide +kernel) (by decide +kernel)), zo_PC, zn_PC, Or.inl ⟨rfl, rfl⟩, by decide⟩
  · exact ⟨zc_PC, zt_PC, 12, zy_PC, rfl, rfl, by decide, by decide, fun w h => List.mem_cons_of_mem _ (zi_PC w h), List.mem_cons_of_mem _ (zw_m (i := 151) (by decide +kernel) (by decide +kernel)), zo_PC, zn_PC, Or.inl ⟨rfl, rfl⟩, by decide⟩
  · exact ⟨zc_PC, zt_PC, 12, zy_PC, rfl, rfl, by decide, by decide, fun w h => List.mem_cons_of_mem _ (zi_PC w h), List.mem_cons_of_mem _ (zw_m (i := 152) (by decide +kernel) (by decide +kernel)), zo_PC, zn_PC, Or.inr (Or.inl ⟨rfl, rfl⟩), by decide⟩
  · exact ⟨zc_PC, zt_PC, 12, zy_PC, rfl, rfl, by decide, by decide, fun w h => List.mem_cons_of_mem _ (zi_PC w h), List.mem_cons_of_mem _ (zw_m (i := 153) (by decide +kernel) (by decide +kernel)), zo_PC, zn_PC, Or.inr (Or.inl ⟨rfl, rfl⟩), by decide⟩
  · exact ⟨zc_PC, zt_PC, 12, zy_PC, rfl, rfl, by decide, by decide, fun w h => List.mem_cons_of_mem _ (zi_PC w h), List.mem_cons_of_mem _ (zw_m (i := 154) (by decide +kernel) (by decide +kernel)), zo_PC, zn_PC, Or.inr (Or.inl ⟨rfl, rfl⟩), by decide⟩
def zf_FO : ma_F := [(12, 1, 0, 3), (18, 1, 1, 3), (22, 1, 2, 3), (25, 1, 3, 3), (28, 1, 4, 3), (31, 1, 5, 3), (38, 1, 7, 1), (46, 1, 8, 1), (66, 1, 6, 0)]
theorem zf_FO_ok {z : Cond} : ma_Fok zc_FO (z :: zw_t) zf_FO := by
  refine List.forall_mem_cons.mpr ⟨?_, List.forall_mem_cons.mpr ⟨?_, List.forall_mem_cons.mpr ⟨?_, List.forall_mem_cons.mpr ⟨?_, List.forall_mem_cons.mpr ⟨?_, List.forall_mem_cons.mpr ⟨?_, List.forall_mem_cons.mpr ⟨?_, List.forall_mem_cons.mpr ⟨?_, List.forall_mem_cons.mpr ⟨?_, fun _ h => absurd h List.not_mem_nil⟩⟩⟩⟩⟩⟩⟩⟩⟩
  · exact ⟨zc_FO, zt_FO, 9, zy_FO, rfl, rfl, by decide, by decide, fun w h => List.mem_cons_of_mem _ (zi_FO w h), List.mem_cons_of_mem _ (zw_m (i := 79) (by decide +kernel) (by decide +kernel)), zo_FO, zn_FO, Or.inr (Or.inr ⟨by decide, Or.inl ⟨_, rfl⟩⟩), by decide⟩
  · exact ⟨zc_FO, zt_FO, 9, zy_FO, rfl, rfl, by decide, by decide, fun w h => List.mem_cons_of_mem _ (zi_FO w h), List.mem_cons_of_mem _ (zw_m (i := 81) (by decide +kernel) (by decide +kernel)), zo_FO, zn_FO, Or.inr (Or.inr ⟨by decide, Or.inr ⟨_, rfl⟩⟩), by decide⟩
  · exact ⟨zc_FO, zt_FO, 9, zy_FO, rfl, rfl, by decide, by decide, fun w h => List.mem_cons_of_mem _ (zi_FO w h), List.mem_cons_of_mem _ (zw_m (i := 82) (by decide +kernel) (by decide +kernel)), zo_FO, zn_FO, Or.inr (Or.inr ⟨by decide, Or.inr ⟨_, rfl⟩⟩), by decide⟩
  · exact ⟨zc_FO, zt_FO, 9, zy_FO, rfl, rfl, by decide, by decide, fun w h => List.mem_cons_of_mem _ (zi_FO w h), List.mem_cons_of_mem _ (zw_m (i := 83) (by decide +kernel) (by decide +kernel)), zo_FO, zn_FO, Or.inr (Or.inr ⟨by decide, Or.inr ⟨_, rfl⟩⟩), by decide⟩
  · exact ⟨zc_FO, zt_FO, 9, zy_FO, rfl, rfl, by decide, by decide, fun w h => List.mem_cons_of_mem _ (zi_FO w h), List.mem_cons_of_mem _ (zw_m (i := 84) (by decide +kernel) (by decide +kernel)), zo_FO, zn_FO, Or.inr (Or.inr ⟨by decide, Or.inr ⟨_, rfl⟩⟩), by decide⟩
  · exact ⟨zc_FO, zt_FO, 9, zy_FO, rfl, rfl, by decide, by decide, fun w h => List.mem_cons_of_mem _ (zi_FO w h), List.mem_cons_of_mem _ (zw_m (i := 85) (by decide +kernel) (by decide +kernel)), zo_FO, zn_FO, Or.inr (Or.inr ⟨by decide, Or.inr ⟨_, rfl⟩⟩), by decide⟩
  · exact ⟨zc_FO, zt_FO, 9, zy_FO, rfl, rfl, by decide, by decide, fun w h => List.mem_cons_of_mem _ (zi_FO w h), List.mem_cons_of_mem _ (zw_m (i := 87) (by decide +kernel) (by decide +kernel)), zo_FO, zn_FO, Or.inr (Or.inl ⟨rfl, rfl⟩), by decide⟩
  · exact ⟨zc_FO, zt_FO, 9, zy_FO, rfl, rfl, by decide, by decide, fun w h => List.mem_cons_of_mem _ (zi_FO w h), List.mem_cons_of_mem _ (zw_m (i := 88) (by decide +kernel) (by decide +kernel)), zo_FO, zn_FO, Or.inr (Or.inl ⟨rfl, rfl⟩), by decide⟩
  · exact ⟨zc_FO, zt_FO, 9, zy_FO, rfl, rfl, by decide, by decide, fun w h => List.mem_cons_of_mem _ (zi_FO w h), List.mem_cons_of_mem _ (zw_m (i := 86) (by decide +kernel) (by decide +kernel)), zo_FO, zn_FO, Or.inl ⟨rfl, rfl⟩, by decide⟩
def zf_GR : ma_F := [(9, 2, 0, 3), (15, 2, 1, 3), (18, 2, 2, 0), (22, 2, 3, 0), (25, 2, 4, 0)]
theorem zf_GR_ok {z : Cond} : ma_Fok zc_GR (z :: zw_t) zf_GR := by
  refine List.forall_mem_cons.mpr ⟨?_, List.forall_mem_cons.mpr ⟨?_, List.forall_mem_cons.mpr ⟨?_, List.forall_mem_cons.mpr ⟨?_, List.forall_mem_cons.mpr ⟨?_, fun _ h => absurd h List.not_mem_nil⟩⟩⟩⟩⟩
  · exact ⟨zc_GR, zt_GR, 5, zy_GR, rfl, rfl, by decide, by decide, fun w h => List.mem_cons_of_mem _ (zi_GR w h), List.mem_cons_of_mem _ (zw_m (i := 62) (by decide +kernel) (by decide +kernel)), zo_GR, zn_GR, Or.inr (Or.inr ⟨by decide, Or.inr ⟨_, rfl⟩⟩), by decide⟩
  · exact ⟨zc_GR, zt_GR, 5, zy_GR, rfl, rfl, by decide, by decide, fun w h => List.mem_cons_of_mem _ (zi_GR w h), List.mem_cons_of_mem _ (zw_m (i := 63) (by decide +kernel) (by decide +kernel)), zo_GR, zn_GR, Or.inr (Or.inr ⟨by decide, Or.inr ⟨_, rfl⟩⟩), by decide⟩
  · exact ⟨zc_GR, zt_GR, 5, zy_GR, rfl, rfl, by decide, by decide, fun w h => List.mem_cons_of_mem _ (zi_GR w h), List.mem_cons_of_mem _ (zw_m (i := 64) (by decide +kernel) (by decide +kernel)), zo_GR, zn_GR, Or.inl ⟨rfl, rfl⟩, by decide⟩
  · exact ⟨zc_GR, zt_GR, 5, zy_GR, rfl, rfl, by decide, by decide, fun w h => List.mem_cons_of_mem _ (zi_GR w h), List.mem_cons_of_mem _ (zw_m (i := 65) (by decide +kernel) (by decide +kernel)), zo_GR, zn_GR, Or.inl ⟨rfl, rfl⟩, by decide⟩
  · exact ⟨zc_GR, zt_GR, 5, zy_GR, rfl, rfl, by decide, by decide, fun w h => List.mem_cons_of_mem _ (zi_GR w h), List.mem_cons_of_mem _ (zw_m (i := 66) (by decide +kernel) (by decide +kernel)), zo_GR, zn_GR, Or.inl ⟨rfl, rfl⟩, by decide⟩
def zf_RO : ma_F := [(9, 3, 0, 3), (15, 3, 1, 0)]
theorem zf_RO_ok {z : Cond} : ma_Fok zc_RO (z :: zw_t) zf_RO := by
  refine List.forall_mem_cons.mpr ⟨?_, List.forall_mem_cons.mpr ⟨?_, fun _ h => absurd h List.not_mem_nil⟩⟩
  · exact ⟨zc_RO, zt_RO, 2, zy_RO, rfl, rfl, by decide, by decide, fun w h => List.mem_cons_of_mem _ (zi_RO w h), List.mem_cons_of_mem _ (zw_m (i := 114) (by decide +kernel) (by decide +kernel)), zo_RO, zn_RO, Or.inr (Or.inr ⟨by decide, Or.inr ⟨_, rfl⟩⟩), by decide⟩
  · exact ⟨zc_RO, zt_RO, 2, zy_RO, rfl, rfl, by decide, by decide, fun w h => List.mem_cons_of_mem _ (zi_RO w h), List.mem_cons_of_mem _ (zw_m (i := 115) (by decide +kernel) (by decide +kernel)), zo_RO, zn_RO, Or.inl ⟨rfl, rfl⟩, by decide⟩
def zf_LI : ma_F := [(9, 4, 0, 3), (15, 4, 1, 3), (18, 4, 2, 3), (21, 4, 3, 0), (25, 4, 4, 0)]
theorem zf_LI_ok {z : Cond} : ma_Fok zc_LI (z :: zw_t) zf_LI := by
  refine List.forall_mem_cons.mpr ⟨?_, List.forall_mem_cons.mpr ⟨?_, List.forall_mem_cons.mpr ⟨?_, List.forall_mem_cons.mpr ⟨?_, List.forall_mem_cons.mpr ⟨?_, fun _ h => absurd h List.not_mem_nil⟩⟩⟩⟩⟩
  · exact ⟨zc_LI, zt_LI, 5, zy_LI, rfl, rfl, by decide, by decide, fun w h => List.mem_cons_of_mem _ (zi_LI w h), List.mem_cons_of_mem _ (zw_m (i := 127) (by decide +kernel) (by decide +kernel)), zo_LI, zn_LI, Or.inr (Or.inr ⟨by decide, Or.inr ⟨_, rfl⟩⟩), by decide⟩
  · exact ⟨zc_LI, zt_LI, 5, zy_LI, rfl, rfl, by decide, by decide, fun w h => List.mem_cons_of_mem _ (zi_LI w h), List.mem_cons_of_mem _ (zw_m (i := 128) (by decide +kernel) (by decide +kernel)), zo_LI, zn_LI, Or.inr (Or.inr ⟨by decide, Or.inr ⟨_, rfl⟩⟩), by decide⟩
  · exact ⟨zc_LI, zt_LI, 5, zy_LI, rfl, rfl, by decide, by decide, fun w h => List.mem_cons_of_mem _ (zi_LI w h), List.mem_cons_of_mem _ (zw_m (i := 129) (by decide +kernel) (by decide +kernel)), zo_LI, zn_LI, Or.inr (Or.inr ⟨by decide, Or.inr ⟨_, rfl⟩⟩), by decide⟩
  · exact ⟨zc_LI, zt_LI, 5, zy_LI, rfl, rfl, by decide, by decide, fun w h => List.mem_cons_of_mem _ (zi_LI w h), List.mem_cons_of_mem _ (zw_m (i := 130) (by decide +kernel) (by decide +kernel)), zo_LI, zn_LI, Or.inl ⟨rfl, rfl⟩, by decide⟩
  · exact ⟨zc_LI, zt_LI, 5, zy_LI, rfl, rfl, by decide, by decide, fun w h => List.mem_cons_of_mem _ (zi_LI w h), List.mem_cons_of_mem _ (zw_m (i := 131) (by decide +kernel) (by decide +kernel)), zo_LI, zn_LI, Or.inl ⟨rfl, rfl⟩, by decide⟩
def zf_MO : ma_F := [(7, 5, 6, 3), (13, 5, 8, 3), (16, 5, 10, 3), (19, 5, 12, 3), (22, 5, 14, 3), (25, 5, 15, 3), (28, 5, 16, 3), (31, 5, 17, 3), (34, 5, 0, 1), (38, 5, 1, 0), (46, 5, 2, 0), (49, 5, 9, 0), (52, 5, 5, 0), (55, 5, 7, 0), (65, 5, 4, 0), (68, 5, 13, 0), (81, 5, 3, 0), (98, 5, 11, 0)]
theorem zf_MO_ok {z : Cond} : ma_Fok zc_MO (z :: zw_t) zf_MO := by
  refine List.forall_mem_cons.mpr ⟨?_, List.forall_mem_cons.mpr ⟨?_, List.forall_mem_cons.mpr ⟨?_, List.forall_mem_cons.mpr ⟨?_, List.forall_mem_cons.mpr ⟨?_, List.forall_mem_cons.mpr ⟨?_, List.forall_mem_cons.mpr ⟨?_, List.forall_mem_cons.mpr ⟨?_, List.forall_mem_cons.mpr ⟨?_, List.forall_mem_cons.mpr ⟨?_, List.forall_mem_cons.mpr ⟨?_, List.forall_mem_cons.mpr ⟨?_, List.forall_mem_cons.mpr ⟨?_, List.forall_mem_cons.mpr ⟨?_, List.forall_mem_cons.mpr ⟨?_, List.forall_mem_cons.mpr ⟨?_, List.forall_mem_cons.mpr ⟨?_, List.forall_mem_cons.mpr ⟨?_, fun _ h => absurd h List.not_mem_nil⟩⟩⟩⟩⟩⟩⟩⟩⟩⟩⟩⟩⟩⟩⟩⟩⟩⟩
  · exact ⟨zc_MO, zt_MO, 18, zy_MO, rfl, rfl, by decide, by decide, fun w h => List.mem_cons_of_mem _ (zi_MO w h), List.mem_cons_of_mem _ (zw_m (i := 483) (by decide +kernel) (by decide +kernel)), zo_MO, zn_MO, Or.inr (Or.inr ⟨by decide, Or.inr ⟨_, rfl⟩⟩), by decide⟩
  · exact ⟨zc_MO, zt_MO, 18, zy_MO, rfl, rfl, by decide, by decide, fun w h => List.mem_cons_of_mem _ (zi_MO w h), List.mem_cons_of_mem _ (zw_m (i := 485) (by decide +kernel) (by decide +kernel)), zo_MO, zn_MO, Or.inr (Or.inr ⟨by decide, Or.inr ⟨_, rfl⟩⟩), by decide⟩
  · exact ⟨zc_MO, zt_MO, 18, zy_MO, rfl, rfl, by decide, by decide, fun w h => List.mem_cons_of_mem _ (zi_MO w h), List.mem_cons_of_mem _ (zw_m (i := 487) (by decide +kernel) (by decide +kernel)), zo_MO, zn_MO, Or.inr (Or.inr ⟨by decide, Or.inr ⟨_, rfl⟩⟩), by decide⟩
  · exact ⟨zc_MO, zt_MO, 18, zy_MO, rfl, rfl, by decide, by decide, fun w h => List.mem_cons_of_mem _ (zi_MO w h), List.mem_cons_of_mem _ (zw_m (i := 489) (by decide +kernel) (by decide +kernel)), zo_MO, zn_MO, Or.inr (Or.inr ⟨by decide, Or.inr ⟨_, rfl⟩⟩), by decide⟩
  · exact ⟨zc_MO, zt_MO, 18, zy_MO, rfl, rfl, by decide, by decide, fun w h => List.mem_cons_of_mem _ (zi_MO w h), List.mem_cons_of_mem _ (zw_m (i := 491) (by decide +kernel) (by decide +kernel)), zo_MO, zn_MO, Or.inr (Or.inr ⟨by decide, Or.inr ⟨_, rfl⟩⟩), by decide⟩
  · exact ⟨zc_MO, zt_MO, 18, zy_MO, rfl, rfl, by decide, by decide, fun w h => List.mem_cons_of_mem _ (zi_MO w h), List.mem_cons_of_mem _ (zw_m (i := 492) (by decide +kernel) (by decide +kernel)), zo_MO, zn_MO, Or.inr (Or.inr ⟨by decide, Or.inr ⟨_, rfl⟩⟩), by decide⟩
  · exact ⟨zc_MO, zt_MO, 18, zy_MO, rfl, rfl, by decide, by decide, fun w h => List.mem_cons_of_mem _ (zi_MO w h), List.mem_cons_of_mem _ (zw_m (i := 493) (by decide +kernel) (by decide +kernel)), zo_MO, zn_MO, Or.inr (Or.inr ⟨by decide, Or.inr ⟨_, rfl⟩⟩), by decide⟩
  · exact ⟨zc_MO, zt_MO, 18, zy_MO, rfl, rfl, by decide, by decide, fun w h => List.mem_cons_of_mem _ (zi_MO w h), List.mem_cons_of_mem _ (zw_m (i := 494) (by decide +kernel) (by decide +kernel)), zo_MO, zn_MO, Or.inr (Or.inr ⟨by decide, Or.inr ⟨_, rfl⟩⟩), by decide⟩
  · exact ⟨zc_MO, zt_MO, 18, zy_MO, rfl, rfl, by decide, by decide, fun w h => List.mem_cons_of_mem _ (zi_MO w h), List.mem_cons_of_mem _ (zw_m (i := 477) (by decide +kernel) (by decide +kernel)), zo_MO, zn_MO, Or.inr (Or.inl ⟨rfl, rfl⟩), by decide⟩
  · exact ⟨zc_MO, zt_MO, 18, zy_MO, rfl, rfl, by decide, by decide, fun w h => List.mem_cons_of_mem _ (zi_MO w h), List.mem_cons_of_mem _ (zw_m (i := 478) (by decide +kernel) (by decide +kernel)), zo_MO, zn_MO, Or.inl ⟨rfl, rfl⟩, by decide⟩
  · exact ⟨zc_MO, zt_MO, 18, zy_MO, rfl, rfl, by decide, by decide, fun w h => List.mem_cons_of_mem _ (zi_MO w h), List.mem_cons_of_mem _ (zw_m (i := 479) (by decide +kernel) (by decide +kernel)), zo_MO, zn_MO, Or.inl ⟨rfl, rfl⟩, by decide⟩
  · exact ⟨zc_MO, zt_MO, 18, zy_MO, rfl, rfl, by decide, by decide, fun w h => List.mem_cons_of_mem _ (zi_MO w h), List.mem_cons_of_mem _ (zw_m (i := 486) (by decide +kernel) (by decide +kernel)), zo_MO, zn_MO, Or.inl ⟨rfl, rfl⟩, by decide⟩
  · exact ⟨zc_MO, zt_MO, 18, zy_MO, rfl, rfl, by decide, by decide, fun w h => List.mem_cons_of_mem _ (zi_MO w h), List.mem_cons_of_mem _ (zw_m (i := 482) (by decide +kernel) (by decide +kernel)), zo_MO, zn_MO, Or.inl ⟨rfl, rfl⟩, by decide⟩
  · exact ⟨zc_MO, zt_MO, 18, zy_MO, rfl, rfl, by decide, by decide, fun w h => List.mem_cons_of_mem _ (zi_MO w h), List.mem_cons_of_mem _ (zw_m (i := 484) (by decide +kernel) (by decide +kernel)), zo_MO, zn_MO, Or.inl ⟨rfl, rfl⟩, by decide⟩
  · exact ⟨zc_MO, zt_MO, 18, zy_MO, rfl, rfl, by decide, by decide, fun w h => List.mem_cons_of_mem _ (zi_MO w h), List.mem_cons_of_mem _ (zw_m (i := 481) (by decide +kernel) (by decide +kernel)), zo_MO, zn_MO, Or.inl ⟨rfl, rfl⟩, by decide⟩
  · exact ⟨zc_MO, zt_MO, 18, zy_MO, rfl, rfl, by decide, by decide, fun w h => List.mem_cons_of_mem _ (zi_MO w h), List.mem_cons_of_mem _ (zw_m (i := 490) (by decide +kernel) (by decide +kernel)), zo_MO, zn_MO, Or.inl ⟨rfl, rfl⟩, by decide⟩
  · exact ⟨zc_MO, zt_MO, 18, zy_MO, rfl, rfl, by decide, by decide, fun w h => List.mem_cons_of_mem _ (zi_MO w h), List.mem_cons_of_mem _ (zw_m (i := 480) (by decide +kernel) (by decide +kernel)), zo_MO, zn_MO, Or.inl ⟨rfl, rfl⟩, by decide⟩
  · exact ⟨zc_MO, zt_MO, 18, zy_MO, rfl, rfl, by decide, by decide, fun w h => List.mem_cons_of_mem _ (zi_MO w h), List.mem_cons_of_mem _ (zw_m (i := 488) (by decide +kernel) (by decide +kernel)), zo_MO, zn_MO, Or.inl ⟨rfl, rfl⟩, by decide⟩
def y_PC_begin : MethodName := ⟨"PackingCensus", "begin", "(III)I"⟩
abbrev w_PC_begin : Cond := .code y_PC_begin prog_1_method_2_code 4 (some .int)
theorem m_PC_begin : w_PC_begin ∈ zw_t := zw_m (i := 183) (by decide +kernel) (by decide +kernel)
def y_PC_grow : MethodName := ⟨"PackingCensus", "grow", "()I"⟩
abbrev w_PC_grow : Cond := .code y_PC_grow prog_1_method_3_code 2 (some .int)
theorem m_PC_grow : w_PC_grow ∈ zw_t := zw_m (i := 220) (by decide +kernel) (by decide +kernel)
def y_PC_level : MethodName := ⟨"PackingCensus", "level", "()I"⟩
abbrev w_PC_level : Cond := .code y_PC_level prog_1_method_4_code 1 (some .int)
theorem m_PC_level : w_PC_level ∈ zw_t := zw_m (i := 356) (by decide +kernel) (by decide +kernel)
def y_PC_entries : MethodName := ⟨"PackingCensus", "entries", "()I"⟩
abbrev w_PC_entries : Cond := .code y_PC_entries prog_1_method_5_code 1 (some .int)
theorem m_PC_entries : w_PC_entries ∈ zw_t := zw_m (i := 360) (by decide +kernel) (by decide +kernel)
def y_PC_block : MethodName := ⟨"PackingCensus", "block", "(II)I"⟩
abbrev w_PC_block : Cond := .code y_PC_block prog_1_method_6_code 3 (some .int)
theorem m_PC_block : w_PC_block ∈ zw_t := zw_m (i := 364) (by decide +kernel) (by decide +kernel)
def y_PC_order : MethodName := ⟨"PackingCensus", "order", "(I)I"⟩
abbrev w_PC_order : Cond := .code y_PC_order prog_1_method_7_code 2 (some .int)
theorem m_PC_order : w_PC_order ∈ zw_t := zw_m (i := 373) (by decide +kernel) (by decide +kernel)
def y_PC_labelled : MethodName := ⟨"PackingCensus", "labelled", "()I"⟩
abbrev w_PC_labelled : Cond := .code y_PC_labelled prog_1_method_8_code 5 (some .int)
theorem m_PC_labelled : w_PC_labelled ∈ zw_t := zw_m (i := 381) (by decide +kernel) (by decide +kernel)
def y_PC_together : MethodName := ⟨"PackingCensus", "together", "(III)I"⟩
abbrev w_PC_together : Cond := .code y_PC_together prog_1_method_9_code 4 (some .int)
theorem m_PC_together : w_PC_together ∈ zw_t := zw_m (i := 385) (by decide +kernel) (by decide +kernel)
def y_PC_design : MethodName := ⟨"PackingCensus", "design", "(I)Z"⟩
abbrev w_PC_design : Cond := .code y_PC_design prog_1_method_10_code 2 (some .boolean)
theorem m_PC_design : w_PC_design ∈ zw_t := zw_m (i := 393) (by decide +kernel) (by decide +kernel)
def y_PC_designs : MethodName := ⟨"PackingCensus", "designs", "()I"⟩
abbrev w_PC_designs : Cond := .code y_PC_designs prog_1_method_11_code 3 (some .int)
theorem m_PC_designs : w_PC_designs ∈ zw_t := zw_m (i := 401) (by decide +kernel) (by decide +kernel)
def y_PC_orbit : MethodName := ⟨"PackingCensus", "orbit", "(II)I"⟩
abbrev w_PC_orbit : Cond := .code y_PC_orbit prog_1_method_12_code 3 (some .int)
theorem m_PC_orbit : w_PC_orbit ∈ zw_t := zw_m (i := 405) (by decide +kernel) (by decide +kernel)
def y_PC_put : MethodName := ⟨"PackingCensus", "put", "(I)I"⟩
abbrev w_PC_put : Cond := .code y_PC_put prog_1_method_13_code 2 (some .int)
theorem m_PC_put : w_PC_put ∈ zw_t := zw_m (i := 413) (by decide +kernel) (by decide +kernel)
def y_PC_drop : MethodName := ⟨"PackingCensus", "drop", "(I)Z"⟩
abbrev w_PC_drop : Cond := .code y_PC_drop prog_1_method_14_code 2 (some .boolean)
theorem m_PC_drop : w_PC_drop ∈ zw_t := zw_m (i := 421) (by decide +kernel) (by decide +kernel)
def y_PC_swap : MethodName := ⟨"PackingCensus", "swap", "(II)Z"⟩
abbrev w_PC_swap : Cond := .code y_PC_swap prog_1_method_15_code 3 (some .boolean)
theorem m_PC_swap : w_PC_swap ∈ zw_t := zw_m (i := 426) (by decide +kernel) (by decide +kernel)
def y_PC_copy : MethodName := ⟨"PackingCensus", "copy", "(I)Z"⟩
abbrev w_PC_copy : Cond := .code y_PC_copy prog_1_method_16_code 2 (some .boolean)
theorem m_PC_copy : w_PC_copy ∈ zw_t := zw_m (i := 434) (by decide +kernel) (by decide +kernel)
def y_PC_hand : MethodName := ⟨"PackingCensus", "hand", "(I)I"⟩
abbrev w_PC_hand : Cond := .code y_PC_hand prog_1_method_17_code 2 (some .int)
theorem m_PC_hand : w_PC_hand ∈ zw_t := zw_m (i := 438) (by decide +kernel) (by decide +kernel)
def y_PC_formed : MethodName := ⟨"PackingCensus", "formed", "(I)I"⟩
abbrev w_PC_formed : Cond := .code y_PC_formed prog_1_method_18_code 2 (some .int)
theorem m_PC_formed : w_PC_formed ∈ zw_t := zw_m (i := 443) (by decide +kernel) (by decide +kernel)
def y_PC_symmetries : MethodName := ⟨"PackingCensus", "symmetries", "()I"⟩
abbrev w_PC_symmetries : Cond := .code y_PC_symmetries prog_1_method_19_code 1 (some .int)
theorem m_PC_symmetries : w_PC_symmetries ∈ zw_t := zw_m (i := 458) (by decide +kernel) (by decide +kernel)
def y_PC_find : MethodName := ⟨"PackingCensus", "find", "()I"⟩
abbrev w_PC_find : Cond := .code y_PC_find prog_1_method_20_code 1 (some .int)
theorem m_PC_find : w_PC_find ∈ zw_t := zw_m (i := 462) (by decide +kernel) (by decide +kernel)
def y_PC_blocksOfDesign : MethodName := ⟨"PackingCensus", "blocksOfDesign", "(III)I"⟩
abbrev w_PC_blocksOfDesign : Cond := .code y_PC_blocksOfDesign prog_1_method_21_code 6 (some .int)
theorem m_PC_blocksOfDesign : w_PC_blocksOfDesign ∈ zw_t := zw_m (i := 216) (by decide +kernel) (by decide +kernel)
def y_PC_fillSpare : MethodName := ⟨"PackingCensus", "fillSpare", "()Z"⟩
abbrev w_PC_fillSpare : Cond := .code y_PC_fillSpare prog_1_method_22_code 2 (some .boolean)
theorem m_PC_fillSpare : w_PC_fillSpare ∈ zw_t := zw_m (i := 228) (by decide +kernel) (by decide +kernel)
def y_PC_addFormsFrom : MethodName := ⟨"PackingCensus", "addFormsFrom", "(I)Z"⟩
abbrev w_PC_addFormsFrom : Cond := .code y_PC_addFormsFrom prog_1_method_23_code 5 (some .boolean)
theorem m_PC_addFormsFrom : w_PC_addFormsFrom ∈ zw_t := zw_m (i := 236) (by decide +kernel) (by decide +kernel)
def y_PC_staysPacking : MethodName := ⟨"PackingCensus", "staysPacking", "(II)Z"⟩
abbrev w_PC_staysPacking : Cond := .code y_PC_staysPacking prog_1_method_24_code 6 (some .boolean)
theorem m_PC_staysPacking : w_PC_staysPacking ∈ zw_t := zw_m (i := 265) (by decide +kernel) (by decide +kernel)
def y_PC_isDesign : MethodName := ⟨"PackingCensus", "isDesign", "(I)Z"⟩
abbrev w_PC_isDesign : Cond := .code y_PC_isDesign prog_1_method_25_code 4 (some .boolean)
theorem m_PC_isDesign : w_PC_isDesign ∈ zw_t := zw_m (i := 397) (by decide +kernel) (by decide +kernel)
def y_PC_formHand : MethodName := ⟨"PackingCensus", "formHand", "()V"⟩
abbrev w_PC_formHand : Cond := .code y_PC_formHand prog_1_method_26_code 1 none
theorem m_PC_formHand : w_PC_formHand ∈ zw_t := zw_m (i := 447) (by decide +kernel) (by decide +kernel)
def y_MO_bits : MethodName := ⟨"PackingCensusModel", "bits", "(I)I"⟩
abbrev w_MO_bits : Cond := .code y_MO_bits prog_7_method_2_code 3 (some .int)
theorem m_MO_bits : w_MO_bits ∈ zw_t := zw_m (i := 542) (by decide +kernel) (by decide +kernel)
def y_MO_isBlock : MethodName := ⟨"PackingCensusModel", "isBlock", "(I)Z"⟩
abbrev w_MO_isBlock : Cond := .code y_MO_isBlock prog_7_method_3_code 2 (some .boolean)
theorem m_MO_isBlock : w_MO_isBlock ∈ zw_t := zw_m (i := 648) (by decide +kernel) (by decide +kernel)
def y_MO_isPoint : MethodName := ⟨"PackingCensusModel", "isPoint", "(I)Z"⟩
abbrev w_MO_isPoint : Cond := .code y_MO_isPoint prog_7_method_4_code 2 (some .boolean)
theorem m_MO_isPoint : w_MO_isPoint ∈ zw_t := zw_m (i := 627) (by decide +kernel) (by decide +kernel)
def y_MO_isEntry : MethodName := ⟨"PackingCensusModel", "isEntry", "(I)Z"⟩
abbrev w_MO_isEntry : Cond := .code y_MO_isEntry prog_7_method_5_code 2 (some .boolean)
theorem m_MO_isEntry : w_MO_isEntry ∈ zw_t := zw_m (i := 598) (by decide +kernel) (by decide +kernel)
def y_MO_layOut : MethodName := ⟨"PackingCensusModel", "layOut", "()V"⟩
abbrev w_MO_layOut : Cond := .code y_MO_layOut prog_7_method_6_code 2 none
theorem m_MO_layOut : w_MO_layOut ∈ zw_t := zw_m (i := 539) (by decide +kernel) (by decide +kernel)
def y_MO_rename : MethodName := ⟨"PackingCensusModel", "rename", "(I)V"⟩
abbrev w_MO_rename : Cond := .code y_MO_rename prog_7_method_7_code 8 none
theorem m_MO_rename : w_MO_rename ∈ zw_t := zw_m (i := 546) (by decide +kernel) (by decide +kernel)
def y_MO_image : MethodName := ⟨"PackingCensusModel", "image", "(II)I"⟩
abbrev w_MO_image : Cond := .code y_MO_image prog_7_method_8_code 5 (some .int)
theorem m_MO_image : w_MO_image ∈ zw_t := zw_m (i := 582) (by decide +kernel) (by decide +kernel)
def y_MO_none : MethodName := ⟨"PackingCensusModel", "none", "()V"⟩
abbrev w_MO_none : Cond := .code y_MO_none prog_7_method_9_code 2 none
theorem m_MO_none : w_MO_none ∈ zw_t := zw_m (i := 562) (by decide +kernel) (by decide +kernel)
def y_MO_lookAtEntry : MethodName := ⟨"PackingCensusModel", "lookAtEntry", "(I)V"⟩
abbrev w_MO_lookAtEntry : Cond := .code y_MO_lookAtEntry prog_7_method_10_code 3 none
theorem m_MO_lookAtEntry : w_MO_lookAtEntry ∈ zw_t := zw_m (i := 558) (by decide +kernel) (by decide +kernel)
def y_MO_lookAtHand : MethodName := ⟨"PackingCensusModel", "lookAtHand", "()V"⟩
abbrev w_MO_lookAtHand : Cond := .code y_MO_lookAtHand prog_7_method_11_code 2 none
theorem m_MO_lookAtHand : w_MO_lookAtHand ∈ zw_t := zw_m (i := 672) (by decide +kernel) (by decide +kernel)
def y_MO_compare : MethodName := ⟨"PackingCensusModel", "compare", "(II)I"⟩
abbrev w_MO_compare : Cond := .code y_MO_compare prog_7_method_12_code 6 (some .int)
theorem m_MO_compare : w_MO_compare ∈ zw_t := zw_m (i := 578) (by decide +kernel) (by decide +kernel)
def y_MO_leastOne : MethodName := ⟨"PackingCensusModel", "leastOne", "()I"⟩
abbrev w_MO_leastOne : Cond := .code y_MO_leastOne prog_7_method_13_code 3 (some .int)
theorem m_MO_leastOne : w_MO_leastOne ∈ zw_t := zw_m (i := 676) (by decide +kernel) (by decide +kernel)
def y_MO_isLeast : MethodName := ⟨"PackingCensusModel", "isLeast", "()Z"⟩
abbrev w_MO_isLeast : Cond := .code y_MO_isLeast prog_7_method_14_code 3 (some .boolean)
theorem m_MO_isLeast : w_MO_isLeast ∈ zw_t := zw_m (i := 574) (by decide +kernel) (by decide +kernel)
def y_MO_keepers : MethodName := ⟨"PackingCensusModel", "keepers", "()I"⟩
abbrev w_MO_keepers : Cond := .code y_MO_keepers prog_7_method_15_code 3 (some .int)
theorem m_MO_keepers : w_MO_keepers ∈ zw_t := zw_m (i := 606) (by decide +kernel) (by decide +kernel)
def y_MO_meet : MethodName := ⟨"PackingCensusModel", "meet", "(II)I"⟩
abbrev w_MO_meet : Cond := .code y_MO_meet prog_7_method_16_code 6 (some .int)
theorem m_MO_meet : w_MO_meet ∈ zw_t := zw_m (i := 570) (by decide +kernel) (by decide +kernel)
def y_MO_meets : MethodName := ⟨"PackingCensusModel", "meets", "(II)Z"⟩
abbrev w_MO_meets : Cond := .code y_MO_meets prog_7_method_17_code 7 (some .boolean)
theorem m_MO_meets : w_MO_meets ∈ zw_t := zw_m (i := 566) (by decide +kernel) (by decide +kernel)
def y_MO_begin : MethodName := ⟨"PackingCensusModel", "begin", "(III)I"⟩
abbrev w_MO_begin : Cond := .code y_MO_begin prog_7_method_18_code 6 (some .int)
theorem m_MO_begin : w_MO_begin ∈ zw_t := zw_m (i := 535) (by decide +kernel) (by decide +kernel)
def y_MO_extend : MethodName := ⟨"PackingCensusModel", "extend", "(II)Z"⟩
abbrev w_MO_extend : Cond := .code y_MO_extend prog_7_method_19_code 4 (some .boolean)
theorem m_MO_extend : w_MO_extend ∈ zw_t := zw_m (i := 554) (by decide +kernel) (by decide +kernel)
def y_MO_grow : MethodName := ⟨"PackingCensusModel", "grow", "()I"⟩
abbrev w_MO_grow : Cond := .code y_MO_grow prog_7_method_20_code 4 (some .int)
theorem m_MO_grow : w_MO_grow ∈ zw_t := zw_m (i := 550) (by decide +kernel) (by decide +kernel)
def y_MO_level : MethodName := ⟨"PackingCensusModel", "level", "()I"⟩
abbrev w_MO_level : Cond := .code y_MO_level prog_7_method_21_code 1 (some .int)
theorem m_MO_level : w_MO_level ∈ zw_t := zw_m (i := 586) (by decide +kernel) (by decide +kernel)
def y_MO_entries : MethodName := ⟨"PackingCensusModel", "entries", "()I"⟩
abbrev w_MO_entries : Cond := .code y_MO_entries prog_7_method_22_code 1 (some .int)
theorem m_MO_entries : w_MO_entries ∈ zw_t := zw_m (i := 590) (by decide +kernel) (by decide +kernel)
def y_MO_block : MethodName := ⟨"PackingCensusModel", "block", "(II)I"⟩
abbrev w_MO_block : Cond := .code y_MO_block prog_7_method_23_code 3 (some .int)
theorem m_MO_block : w_MO_block ∈ zw_t := zw_m (i := 594) (by decide +kernel) (by decide +kernel)
def y_MO_order : MethodName := ⟨"PackingCensusModel", "order", "(I)I"⟩
abbrev w_MO_order : Cond := .code y_MO_order prog_7_method_24_code 2 (some .int)
theorem m_MO_order : w_MO_order ∈ zw_t := zw_m (i := 602) (by decide +kernel) (by decide +kernel)
def y_MO_pair : MethodName := ⟨"PackingCensusModel", "pair", "(II)V"⟩
abbrev w_MO_pair : Cond := .code y_MO_pair prog_7_method_25_code 6 none
theorem m_MO_pair : w_MO_pair ∈ zw_t := zw_m (i := 615) (by decide +kernel) (by decide +kernel)
def y_MO_tooOften : MethodName := ⟨"PackingCensusModel", "tooOften", "()Z"⟩
abbrev w_MO_tooOften : Cond := .code y_MO_tooOften prog_7_method_26_code 3 (some .boolean)
theorem m_MO_tooOften : w_MO_tooOften ∈ zw_t := zw_m (i := 619) (by decide +kernel) (by decide +kernel)
def y_MO_labelled : MethodName := ⟨"PackingCensusModel", "labelled", "()I"⟩
abbrev w_MO_labelled : Cond := .code y_MO_labelled prog_7_method_27_code 5 (some .int)
theorem m_MO_labelled : w_MO_labelled ∈ zw_t := zw_m (i := 610) (by decide +kernel) (by decide +kernel)
def y_MO_together : MethodName := ⟨"PackingCensusModel", "together", "(III)I"⟩
abbrev w_MO_together : Cond := .code y_MO_together prog_7_method_28_code 4 (some .int)
theorem m_MO_together : w_MO_together ∈ zw_t := zw_m (i := 623) (by decide +kernel) (by decide +kernel)
def y_MO_design : MethodName := ⟨"PackingCensusModel", "design", "(I)Z"⟩
abbrev w_MO_design : Cond := .code y_MO_design prog_7_method_29_code 2 (some .boolean)
theorem m_MO_design : w_MO_design ∈ zw_t := zw_m (i := 631) (by decide +kernel) (by decide +kernel)
def y_MO_designs : MethodName := ⟨"PackingCensusModel", "designs", "()I"⟩
abbrev w_MO_designs : Cond := .code y_MO_designs prog_7_method_30_code 3 (some .int)
theorem m_MO_designs : w_MO_designs ∈ zw_t := zw_m (i := 635) (by decide +kernel) (by decide +kernel)
def y_MO_orbit : MethodName := ⟨"PackingCensusModel", "orbit", "(II)I"⟩
abbrev w_MO_orbit : Cond := .code y_MO_orbit prog_7_method_31_code 6 (some .int)
theorem m_MO_orbit : w_MO_orbit ∈ zw_t := zw_m (i := 640) (by decide +kernel) (by decide +kernel)
def y_MO_put : MethodName := ⟨"PackingCensusModel", "put", "(I)I"⟩
abbrev w_MO_put : Cond := .code y_MO_put prog_7_method_32_code 2 (some .int)
theorem m_MO_put : w_MO_put ∈ zw_t := zw_m (i := 644) (by decide +kernel) (by decide +kernel)
def y_MO_drop : MethodName := ⟨"PackingCensusModel", "drop", "(I)Z"⟩
abbrev w_MO_drop : Cond := .code y_MO_drop prog_7_method_33_code 3 (some .boolean)
theorem m_MO_drop : w_MO_drop ∈ zw_t := zw_m (i := 652) (by decide +kernel) (by decide +kernel)
def y_MO_swap : MethodName := ⟨"PackingCensusModel", "swap", "(II)Z"⟩
abbrev w_MO_swap : Cond := .code y_MO_swap prog_7_method_34_code 7 (some .boolean)
theorem m_MO_swap : w_MO_swap ∈ zw_t := zw_m (i := 656) (by decide +kernel) (by decide +kernel)
def y_MO_copy : MethodName := ⟨"PackingCensusModel", "copy", "(I)Z"⟩
abbrev w_MO_copy : Cond := .code y_MO_copy prog_7_method_35_code 3 (some .boolean)
theorem m_MO_copy : w_MO_copy ∈ zw_t := zw_m (i := 660) (by decide +kernel) (by decide +kernel)
def y_MO_hand : MethodName := ⟨"PackingCensusModel", "hand", "(I)I"⟩
abbrev w_MO_hand : Cond := .code y_MO_hand prog_7_method_36_code 2 (some .int)
theorem m_MO_hand : w_MO_hand ∈ zw_t := zw_m (i := 664) (by decide +kernel) (by decide +kernel)
def y_MO_rowed : MethodName := ⟨"PackingCensusModel", "rowed", "(II)I"⟩
abbrev w_MO_rowed : Cond := .code y_MO_rowed prog_7_method_37_code 5 (some .int)
theorem m_MO_rowed : w_MO_rowed ∈ zw_t := zw_m (i := 680) (by decide +kernel) (by decide +kernel)
def y_MO_formed : MethodName := ⟨"PackingCensusModel", "formed", "(I)I"⟩
abbrev w_MO_formed : Cond := .code y_MO_formed prog_7_method_38_code 3 (some .int)
theorem m_MO_formed : w_MO_formed ∈ zw_t := zw_m (i := 668) (by decide +kernel) (by decide +kernel)
def y_MO_symmetries : MethodName := ⟨"PackingCensusModel", "symmetries", "()I"⟩
abbrev w_MO_symmetries : Cond := .code y_MO_symmetries prog_7_method_39_code 1 (some .int)
theorem m_MO_symmetries : w_MO_symmetries ∈ zw_t := zw_m (i := 684) (by decide +kernel) (by decide +kernel)
def y_MO_find : MethodName := ⟨"PackingCensusModel", "find", "()I"⟩
abbrev w_MO_find : Cond := .code y_MO_find prog_7_method_40_code 5 (some .int)
theorem m_MO_find : w_MO_find ∈ zw_t := zw_m (i := 688) (by decide +kernel) (by decide +kernel)
def y_FO_isForm : MethodName := ⟨"PackingCensus$Former", "isForm", "(LPackingCensus$Row;)Z"⟩
abbrev w_FO_isForm : Cond := .code y_FO_isForm prog_2_method_2_code 2 (some .boolean)
theorem m_FO_isForm : w_FO_isForm ∈ zw_t := zw_m (i := 278) (by decide +kernel) (by decide +kernel)
def y_FO_findForm : MethodName := ⟨"PackingCensus$Former", "findForm", "(LPackingCensus$Row;LPackingCensus$Row;)V"⟩
abbrev w_FO_findForm : Cond := .code y_FO_findForm prog_2_method_3_code 5 none
theorem m_FO_findForm : w_FO_findForm ∈ zw_t := zw_m (i := 451) (by decide +kernel) (by decide +kernel)
def y_FO_symmetriesFound : MethodName := ⟨"PackingCensus$Former", "symmetriesFound", "()I"⟩
abbrev w_FO_symmetriesFound : Cond := .code y_FO_symmetriesFound prog_2_method_4_code 1 (some .int)
theorem m_FO_symmetriesFound : w_FO_symmetriesFound ∈ zw_t := zw_m (i := 343) (by decide +kernel) (by decide +kernel)
def y_FO_leastImageFound : MethodName := ⟨"PackingCensus$Former", "leastImageFound", "(I)I"⟩
abbrev w_FO_leastImageFound : Cond := .code y_FO_leastImageFound prog_2_method_5_code 2 (some .int)
theorem m_FO_leastImageFound : w_FO_leastImageFound ∈ zw_t := zw_m (i := 339) (by decide +kernel) (by decide +kernel)
def y_FO_start : MethodName := ⟨"PackingCensus$Former", "start", "(LPackingCensus$Row;)V"⟩
abbrev w_FO_start : Cond := .code y_FO_start prog_2_method_6_code 3 none
theorem m_FO_start : w_FO_start ∈ zw_t := zw_m (i := 282) (by decide +kernel) (by decide +kernel)
def y_FO_tryPointsFor : MethodName := ⟨"PackingCensus$Former", "tryPointsFor", "(II)V"⟩
abbrev w_FO_tryPointsFor : Cond := .code y_FO_tryPointsFor prog_2_method_7_code 4 none
theorem m_FO_tryPointsFor : w_FO_tryPointsFor ∈ zw_t := zw_m (i := 296) (by decide +kernel) (by decide +kernel)
def y_FO_tryPoint : MethodName := ⟨"PackingCensus$Former", "tryPoint", "(III)V"⟩
abbrev w_FO_tryPoint : Cond := .code y_FO_tryPoint prog_2_method_8_code 4 none
theorem m_FO_tryPoint : w_FO_tryPoint ∈ zw_t := zw_m (i := 308) (by decide +kernel) (by decide +kernel)
def y_FO_settleImages : MethodName := ⟨"PackingCensus$Former", "settleImages", "(II)V"⟩
abbrev w_FO_settleImages : Cond := .code y_FO_settleImages prog_2_method_9_code 4 none
theorem m_FO_settleImages : w_FO_settleImages ∈ zw_t := zw_m (i := 324) (by decide +kernel) (by decide +kernel)
def y_FO_isAsGood : MethodName := ⟨"PackingCensus$Former", "isAsGood", "(II)Z"⟩
abbrev w_FO_isAsGood : Cond := .code y_FO_isAsGood prog_2_method_10_code 6 (some .boolean)
theorem m_FO_isAsGood : w_FO_isAsGood ∈ zw_t := zw_m (i := 312) (by decide +kernel) (by decide +kernel)
def y_FO_makeBest : MethodName := ⟨"PackingCensus$Former", "makeBest", "(II)V"⟩
abbrev w_FO_makeBest : Cond := .code y_FO_makeBest prog_2_method_11_code 4 none
theorem m_FO_makeBest : w_FO_makeBest ∈ zw_t := zw_m (i := 320) (by decide +kernel) (by decide +kernel)
def y_FO_countRenaming : MethodName := ⟨"PackingCensus$Former", "countRenaming", "()V"⟩
abbrev w_FO_countRenaming : Cond := .code y_FO_countRenaming prog_2_method_12_code 2 none
theorem m_FO_countRenaming : w_FO_countRenaming ∈ zw_t := zw_m (i := 301) (by decide +kernel) (by decide +kernel)
def y_GR_lay : MethodName := ⟨"PackingCensus$Ground", "lay", "(II)V"⟩
abbrev w_GR_lay : Cond := .code y_GR_lay prog_3_method_2_code 4 none
theorem m_GR_lay : w_GR_lay ∈ zw_t := zw_m (i := 187) (by decide +kernel) (by decide +kernel)
def y_GR_addKindsEndingAt : MethodName := ⟨"PackingCensus$Ground", "addKindsEndingAt", "(I)V"⟩
abbrev w_GR_addKindsEndingAt : Cond := .code y_GR_addKindsEndingAt prog_3_method_3_code 3 none
theorem m_GR_addKindsEndingAt : w_GR_addKindsEndingAt ∈ zw_t := zw_m (i := 191) (by decide +kernel) (by decide +kernel)
def y_GR_points : MethodName := ⟨"PackingCensus$Ground", "points", "()I"⟩
abbrev w_GR_points : Cond := .code y_GR_points prog_3_method_4_code 1 (some .int)
theorem m_GR_points : w_GR_points ∈ zw_t := zw_m (i := 269) (by decide +kernel) (by decide +kernel)
def y_GR_isPoint : MethodName := ⟨"PackingCensus$Ground", "isPoint", "(I)Z"⟩
abbrev w_GR_isPoint : Cond := .code y_GR_isPoint prog_3_method_5_code 2 (some .boolean)
theorem m_GR_isPoint : w_GR_isPoint ∈ zw_t := zw_m (i := 389) (by decide +kernel) (by decide +kernel)
def y_GR_isBlock : MethodName := ⟨"PackingCensus$Ground", "isBlock", "(I)Z"⟩
abbrev w_GR_isBlock : Cond := .code y_GR_isBlock prog_3_method_6_code 2 (some .boolean)
theorem m_GR_isBlock : w_GR_isBlock ∈ zw_t := zw_m (i := 417) (by decide +kernel) (by decide +kernel)
def y_GR_kinds : MethodName := ⟨"PackingCensus$Ground", "kinds", "()I"⟩
abbrev w_GR_kinds : Cond := .code y_GR_kinds prog_3_method_7_code 1 (some .int)
theorem m_GR_kinds : w_GR_kinds ∈ zw_t := zw_m (i := 257) (by decide +kernel) (by decide +kernel)
def y_GR_kind : MethodName := ⟨"PackingCensus$Ground", "kind", "(I)I"⟩
abbrev w_GR_kind : Cond := .code y_GR_kind prog_3_method_8_code 2 (some .int)
theorem m_GR_kind : w_GR_kind ∈ zw_t := zw_m (i := 261) (by decide +kernel) (by decide +kernel)
def y_GR_firstKindEndingAt : MethodName := ⟨"PackingCensus$Ground", "firstKindEndingAt", "(I)I"⟩
abbrev w_GR_firstKindEndingAt : Cond := .code y_GR_firstKindEndingAt prog_3_method_9_code 2 (some .int)
theorem m_GR_firstKindEndingAt : w_GR_firstKindEndingAt ∈ zw_t := zw_m (i := 316) (by decide +kernel) (by decide +kernel)
def y_GR_renamings : MethodName := ⟨"PackingCensus$Ground", "renamings", "()I"⟩
abbrev w_GR_renamings : Cond := .code y_GR_renamings prog_3_method_10_code 3 (some .int)
theorem m_GR_renamings : w_GR_renamings ∈ zw_t := zw_m (i := 209) (by decide +kernel) (by decide +kernel)
def y_LI_restart : MethodName := ⟨"PackingCensus$Listing", "restart", "(I)V"⟩
abbrev w_LI_restart : Cond := .code y_LI_restart prog_4_method_2_code 2 none
theorem m_LI_restart : w_LI_restart ∈ zw_t := zw_m (i := 205) (by decide +kernel) (by decide +kernel)
def y_LI_addEmptyRow : MethodName := ⟨"PackingCensus$Listing", "addEmptyRow", "(I)V"⟩
abbrev w_LI_addEmptyRow : Cond := .code y_LI_addEmptyRow prog_4_method_3_code 3 none
theorem m_LI_addEmptyRow : w_LI_addEmptyRow ∈ zw_t := zw_m (i := 213) (by decide +kernel) (by decide +kernel)
def y_LI_addRow : MethodName := ⟨"PackingCensus$Listing", "addRow", "(LPackingCensus$Row;LPackingCensus$Former;)V"⟩
abbrev w_LI_addRow : Cond := .code y_LI_addRow prog_4_method_4_code 4 none
theorem m_LI_addRow : w_LI_addRow ∈ zw_t := zw_m (i := 332) (by decide +kernel) (by decide +kernel)
def y_LI_size : MethodName := ⟨"PackingCensus$Listing", "size", "()I"⟩
abbrev w_LI_size : Cond := .code y_LI_size prog_4_method_5_code 1 (some .int)
theorem m_LI_size : w_LI_size ∈ zw_t := zw_m (i := 232) (by decide +kernel) (by decide +kernel)
def y_LI_isFull : MethodName := ⟨"PackingCensus$Listing", "isFull", "()Z"⟩
abbrev w_LI_isFull : Cond := .code y_LI_isFull prog_4_method_6_code 1 (some .boolean)
theorem m_LI_isFull : w_LI_isFull ∈ zw_t := zw_m (i := 328) (by decide +kernel) (by decide +kernel)
def y_LI_has : MethodName := ⟨"PackingCensus$Listing", "has", "(I)Z"⟩
abbrev w_LI_has : Cond := .code y_LI_has prog_4_method_7_code 2 (some .boolean)
theorem m_LI_has : w_LI_has ∈ zw_t := zw_m (i := 368) (by decide +kernel) (by decide +kernel)
def y_LI_rowLength : MethodName := ⟨"PackingCensus$Listing", "rowLength", "()I"⟩
abbrev w_LI_rowLength : Cond := .code y_LI_rowLength prog_4_method_8_code 1 (some .int)
theorem m_LI_rowLength : w_LI_rowLength ∈ zw_t := zw_m (i := 224) (by decide +kernel) (by decide +kernel)
def y_LI_mask : MethodName := ⟨"PackingCensus$Listing", "mask", "(II)I"⟩
abbrev w_LI_mask : Cond := .code y_LI_mask prog_4_method_9_code 3 (some .int)
theorem m_LI_mask : w_LI_mask ∈ zw_t := zw_m (i := 245) (by decide +kernel) (by decide +kernel)
def y_LI_symmetriesOf : MethodName := ⟨"PackingCensus$Listing", "symmetriesOf", "(I)I"⟩
abbrev w_LI_symmetriesOf : Cond := .code y_LI_symmetriesOf prog_4_method_10_code 2 (some .int)
theorem m_LI_symmetriesOf : w_LI_symmetriesOf ∈ zw_t := zw_m (i := 377) (by decide +kernel) (by decide +kernel)
def y_LI_leastImage : MethodName := ⟨"PackingCensus$Listing", "leastImage", "(II)I"⟩
abbrev w_LI_leastImage : Cond := .code y_LI_leastImage prog_4_method_11_code 3 (some .int)
theorem m_LI_leastImage : w_LI_leastImage ∈ zw_t := zw_m (i := 409) (by decide +kernel) (by decide +kernel)
def y_LI_blocksHolding : MethodName := ⟨"PackingCensus$Listing", "blocksHolding", "(II)I"⟩
abbrev w_LI_blocksHolding : Cond := .code y_LI_blocksHolding prog_4_method_12_code 5 (some .int)
theorem m_LI_blocksHolding : w_LI_blocksHolding ∈ zw_t := zw_m (i := 273) (by decide +kernel) (by decide +kernel)
def y_LI_writeTo : MethodName := ⟨"PackingCensus$Listing", "writeTo", "(ILPackingCensus$Row;)V"⟩
abbrev w_LI_writeTo : Cond := .code y_LI_writeTo prog_4_method_13_code 4 none
theorem m_LI_writeTo : w_LI_writeTo ∈ zw_t := zw_m (i := 240) (by decide +kernel) (by decide +kernel)
def y_LI_placeOf : MethodName := ⟨"PackingCensus$Listing", "placeOf", "(LPackingCensus$Row;)I"⟩
abbrev w_LI_placeOf : Cond := .code y_LI_placeOf prog_4_method_14_code 3 (some .int)
theorem m_LI_placeOf : w_LI_placeOf ∈ zw_t := zw_m (i := 466) (by decide +kernel) (by decide +kernel)
def y_LI_isEntry : MethodName := ⟨"PackingCensus$Listing", "isEntry", "(ILPackingCensus$Row;)Z"⟩
abbrev w_LI_isEntry : Cond := .code y_LI_isEntry prog_4_method_15_code 4 (some .boolean)
theorem m_LI_isEntry : w_LI_isEntry ∈ zw_t := zw_m (i := 470) (by decide +kernel) (by decide +kernel)
def y_RO_size : MethodName := ⟨"PackingCensus$Row", "size", "()I"⟩
abbrev w_RO_size : Cond := .code y_RO_size prog_5_method_2_code 1 (some .int)
theorem m_RO_size : w_RO_size ∈ zw_t := zw_m (i := 288) (by decide +kernel) (by decide +kernel)
def y_RO_has : MethodName := ⟨"PackingCensus$Row", "has", "(I)Z"⟩
abbrev w_RO_has : Cond := .code y_RO_has prog_5_method_3_code 2 (some .boolean)
theorem m_RO_has : w_RO_has ∈ zw_t := zw_m (i := 352) (by decide +kernel) (by decide +kernel)
def y_RO_get : MethodName := ⟨"PackingCensus$Row", "get", "(I)I"⟩
abbrev w_RO_get : Cond := .code y_RO_get prog_5_method_4_code 2 (some .int)
theorem m_RO_get : w_RO_get ∈ zw_t := zw_m (i := 292) (by decide +kernel) (by decide +kernel)
def y_RO_last : MethodName := ⟨"PackingCensus$Row", "last", "()I"⟩
abbrev w_RO_last : Cond := .code y_RO_last prog_5_method_5_code 1 (some .int)
theorem m_RO_last : w_RO_last ∈ zw_t := zw_m (i := 253) (by decide +kernel) (by decide +kernel)
def y_RO_clear : MethodName := ⟨"PackingCensus$Row", "clear", "()V"⟩
abbrev w_RO_clear : Cond := .code y_RO_clear prog_5_method_6_code 1 none
theorem m_RO_clear : w_RO_clear ∈ zw_t := zw_m (i := 201) (by decide +kernel) (by decide +kernel)
def y_RO_add : MethodName := ⟨"PackingCensus$Row", "add", "(I)V"⟩
abbrev w_RO_add : Cond := .code y_RO_add prog_5_method_7_code 2 none
theorem m_RO_add : w_RO_add ∈ zw_t := zw_m (i := 249) (by decide +kernel) (by decide +kernel)
def y_RO_removeAt : MethodName := ⟨"PackingCensus$Row", "removeAt", "(I)V"⟩
abbrev w_RO_removeAt : Cond := .code y_RO_removeAt prog_5_method_8_code 3 none
theorem m_RO_removeAt : w_RO_removeAt ∈ zw_t := zw_m (i := 348) (by decide +kernel) (by decide +kernel)
def y_RO_exchangePoints : MethodName := ⟨"PackingCensus$Row", "exchangePoints", "(II)V"⟩
abbrev w_RO_exchangePoints : Cond := .code y_RO_exchangePoints prog_5_method_9_code 5 none
theorem m_RO_exchangePoints : w_RO_exchangePoints ∈ zw_t := zw_m (i := 430) (by decide +kernel) (by decide +kernel)
def y_JI_bitCount : MethodName := ⟨"java/lang/Integer", "bitCount", "(I)I"⟩
abbrev w_JI_bitCount : Cond := .code y_JI_bitCount prog_8_method_49_code 1 (some .int)
theorem m_JI_bitCount : w_JI_bitCount ∈ zw_t := zw_m (i := 194) (by decide +kernel) (by decide +kernel)
