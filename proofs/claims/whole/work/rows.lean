section
/-! THE WORDS OF THE TABLES (begun from kit/laws/SKELETON.whole) -/
/-- a method by its rows, by its rows of tables_1 -/
def lw_okq (q : MethodName × Nat) : Prop := (q.1.cls ≠ "java/lang/invoke/MethodHandle" ∧ q.1.cls ≠ "java/lang/invoke/VarHandle") ∧ Cond.instantiable q.1.cls q.2 ∈ tables_1 ∧ Cond.privateMethod q.1 ∈ tables_1 ∧ Cond.instanceMethod q.1 ∈ tables_1
theorem lw_p0 : lw_okq (⟨"PackingCensus$Ground", "addKindsEndingAt", "(I)V"⟩, 5) := ⟨⟨by decide +kernel, by decide +kernel⟩, List.mem_of_getElem? (i := 24) (by decide +kernel), List.mem_of_getElem? (i := 156) (by decide +kernel), List.mem_of_getElem? (i := 157) (by decide +kernel)⟩
theorem lw_p1 : lw_okq (⟨"PackingCensus", "fillSpare", "()Z"⟩, 12) := ⟨⟨by decide +kernel, by decide +kernel⟩, List.mem_of_getElem? (i := 10) (by decide +kernel), List.mem_of_getElem? (i := 193) (by decide +kernel), List.mem_of_getElem? (i := 194) (by decide +kernel)⟩
theorem lw_p2 : lw_okq (⟨"PackingCensus", "addFormsFrom", "(I)Z"⟩, 12) := ⟨⟨by decide +kernel, by decide +kernel⟩, List.mem_of_getElem? (i := 10) (by decide +kernel), List.mem_of_getElem? (i := 201) (by decide +kernel), List.mem_of_getElem? (i := 202) (by decide +kernel)⟩
theorem lw_p3 : lw_okq (⟨"PackingCensus", "staysPacking", "(II)Z"⟩, 12) := ⟨⟨by decide +kernel, by decide +kernel⟩, List.mem_of_getElem? (i := 10) (by decide +kernel), List.mem_of_getElem? (i := 230) (by decide +kernel), List.mem_of_getElem? (i := 231) (by decide +kernel)⟩
theorem lw_p4 : lw_okq (⟨"PackingCensus$Former", "start", "(LPackingCensus$Row;)V"⟩, 9) := ⟨⟨by decide +kernel, by decide +kernel⟩, List.mem_of_getElem? (i := 18) (by decide +kernel), List.mem_of_getElem? (i := 247) (by decide +kernel), List.mem_of_getElem? (i := 248) (by decide +kernel)⟩
theorem lw_p5 : lw_okq (⟨"PackingCensus$Former", "tryPointsFor", "(II)V"⟩, 9) := ⟨⟨by decide +kernel, by decide +kernel⟩, List.mem_of_getElem? (i := 18) (by decide +kernel), List.mem_of_getElem? (i := 261) (by decide +kernel), List.mem_of_getElem? (i := 262) (by decide +kernel)⟩
theorem lw_p6 : lw_okq (⟨"PackingCensus$Former", "countRenaming", "()V"⟩, 9) := ⟨⟨by decide +kernel, by decide +kernel⟩, List.mem_of_getElem? (i := 18) (by decide +kernel), List.mem_of_getElem? (i := 266) (by decide +kernel), List.mem_of_getElem? (i := 267) (by decide +kernel)⟩
theorem lw_p7 : lw_okq (⟨"PackingCensus$Former", "tryPoint", "(III)V"⟩, 9) := ⟨⟨by decide +kernel, by decide +kernel⟩, List.mem_of_getElem? (i := 18) (by decide +kernel), List.mem_of_getElem? (i := 273) (by decide +kernel), List.mem_of_getElem? (i := 274) (by decide +kernel)⟩
theorem lw_p8 : lw_okq (⟨"PackingCensus$Former", "isAsGood", "(II)Z"⟩, 9) := ⟨⟨by decide +kernel, by decide +kernel⟩, List.mem_of_getElem? (i := 18) (by decide +kernel), List.mem_of_getElem? (i := 277) (by decide +kernel), List.mem_of_getElem? (i := 278) (by decide +kernel)⟩
theorem lw_p9 : lw_okq (⟨"PackingCensus$Former", "makeBest", "(II)V"⟩, 9) := ⟨⟨by decide +kernel, by decide +kernel⟩, List.mem_of_getElem? (i := 18) (by decide +kernel), List.mem_of_getElem? (i := 285) (by decide +kernel), List.mem_of_getElem? (i := 286) (by decide +kernel)⟩
theorem lw_p10 : lw_okq (⟨"PackingCensus$Former", "settleImages", "(II)V"⟩, 9) := ⟨⟨by decide +kernel, by decide +kernel⟩, List.mem_of_getElem? (i := 18) (by decide +kernel), List.mem_of_getElem? (i := 289) (by decide +kernel), List.mem_of_getElem? (i := 290) (by decide +kernel)⟩
theorem lw_p11 : lw_okq (⟨"PackingCensus", "isDesign", "(I)Z"⟩, 12) := ⟨⟨by decide +kernel, by decide +kernel⟩, List.mem_of_getElem? (i := 10) (by decide +kernel), List.mem_of_getElem? (i := 362) (by decide +kernel), List.mem_of_getElem? (i := 363) (by decide +kernel)⟩
theorem lw_p12 : lw_okq (⟨"PackingCensus", "formHand", "()V"⟩, 12) := ⟨⟨by decide +kernel, by decide +kernel⟩, List.mem_of_getElem? (i := 10) (by decide +kernel), List.mem_of_getElem? (i := 412) (by decide +kernel), List.mem_of_getElem? (i := 413) (by decide +kernel)⟩
theorem lw_p13 : lw_okq (⟨"PackingCensus$Listing", "isEntry", "(ILPackingCensus$Row;)Z"⟩, 5) := ⟨⟨by decide +kernel, by decide +kernel⟩, List.mem_of_getElem? (i := 89) (by decide +kernel), List.mem_of_getElem? (i := 435) (by decide +kernel), List.mem_of_getElem? (i := 436) (by decide +kernel)⟩
theorem lw_p14 : lw_okq (⟨"PackingCensusModel", "layOut", "()V"⟩, 18) := ⟨⟨by decide +kernel, by decide +kernel⟩, List.mem_of_getElem? (i := 439) (by decide +kernel), List.mem_of_getElem? (i := 504) (by decide +kernel), List.mem_of_getElem? (i := 505) (by decide +kernel)⟩
theorem lw_p15 : lw_okq (⟨"PackingCensusModel", "rename", "(I)V"⟩, 18) := ⟨⟨by decide +kernel, by decide +kernel⟩, List.mem_of_getElem? (i := 439) (by decide +kernel), List.mem_of_getElem? (i := 511) (by decide +kernel), List.mem_of_getElem? (i := 512) (by decide +kernel)⟩
def lw_privs_1 : List (MethodName × Nat) := [(⟨"PackingCensus$Ground", "addKindsEndingAt", "(I)V"⟩, 5), (⟨"PackingCensus", "fillSpare", "()Z"⟩, 12), (⟨"PackingCensus", "addFormsFrom", "(I)Z"⟩, 12), (⟨"PackingCensus", "staysPacking", "(II)Z"⟩, 12), (⟨"PackingCensus$Former", "start", "(LPackingCensus$Row;)V"⟩, 9), (⟨"PackingCensus$Former", "tryPointsFor", "(II)V"⟩, 9), (⟨"PackingCensus$Former", "countRenaming", "()V"⟩, 9), (⟨"PackingCensus$Former", "tryPoint", "(III)V"⟩, 9), (⟨"PackingCensus$Former", "isAsGood", "(II)Z"⟩, 9), (⟨"PackingCensus$Former", "makeBest", "(II)V"⟩, 9), (⟨"PackingCensus$Former", "settleImages", "(II)V"⟩, 9), (⟨"PackingCensus", "isDesign", "(I)Z"⟩, 12), (⟨"PackingCensus", "formHand", "()V"⟩, 12), (⟨"PackingCensus$Listing", "isEntry", "(ILPackingCensus$Row;)Z"⟩, 5), (⟨"PackingCensusModel", "layOut", "()V"⟩, 18), (⟨"PackingCensusModel", "rename", "(I)V"⟩, 18)]
theorem lw_r1 : ∀ q ∈ lw_privs_1, lw_okq q := List.forall_mem_cons.mpr ⟨lw_p0, List.forall_mem_cons.mpr ⟨lw_p1, List.forall_mem_cons.mpr ⟨lw_p2, List.forall_mem_cons.mpr ⟨lw_p3, List.forall_mem_cons.mpr ⟨lw_p4, List.forall_mem_cons.mpr ⟨lw_p5, List.forall_mem_cons.mpr ⟨lw_p6, List.forall_mem_cons.mpr ⟨lw_p7, List.forall_mem_cons.mpr ⟨lw_p8, List.forall_mem_cons.mpr ⟨lw_p9, List.forall_mem_cons.mpr ⟨lw_p10, List.forall_mem_cons.mpr ⟨lw_p11, List.forall_mem_cons.mpr ⟨lw_p12, List.forall_mem_cons.mpr ⟨lw_p13, List.forall_mem_cons.mpr ⟨lw_p14, List.forall_mem_cons.mpr ⟨lw_p15, fun _ h => absurd h List.not_mem_nil⟩⟩⟩⟩⟩⟩⟩⟩⟩⟩⟩⟩⟩⟩⟩⟩
theorem lw_p16 : lw_okq (⟨"PackingCensusModel", "extend", "(II)Z"⟩, 18) := ⟨⟨by decide +kernel, by decide +kernel⟩, List.mem_of_getElem? (i := 439) (by decide +kernel), List.mem_of_getElem? (i := 519) (by decide +kernel), List.mem_of_getElem? (i := 520) (by decide +kernel)⟩
theorem lw_p17 : lw_okq (⟨"PackingCensusModel", "lookAtEntry", "(I)V"⟩, 18) := ⟨⟨by decide +kernel, by decide +kernel⟩, List.mem_of_getElem? (i := 439) (by decide +kernel), List.mem_of_getElem? (i := 523) (by decide +kernel), List.mem_of_getElem? (i := 524) (by decide +kernel)⟩
theorem lw_p18 : lw_okq (⟨"PackingCensusModel", "none", "()V"⟩, 18) := ⟨⟨by decide +kernel, by decide +kernel⟩, List.mem_of_getElem? (i := 439) (by decide +kernel), List.mem_of_getElem? (i := 527) (by decide +kernel), List.mem_of_getElem? (i := 528) (by decide +kernel)⟩
theorem lw_p19 : lw_okq (⟨"PackingCensusModel", "meets", "(II)Z"⟩, 18) := ⟨⟨by decide +kernel, by decide +kernel⟩, List.mem_of_getElem? (i := 439) (by decide +kernel), List.mem_of_getElem? (i := 531) (by decide +kernel), List.mem_of_getElem? (i := 532) (by decide +kernel)⟩
theorem lw_p20 : lw_okq (⟨"PackingCensusModel", "meet", "(II)I"⟩, 18) := ⟨⟨by decide +kernel, by decide +kernel⟩, List.mem_of_getElem? (i := 439) (by decide +kernel), List.mem_of_getElem? (i := 535) (by decide +kernel), List.mem_of_getElem? (i := 536) (by decide +kernel)⟩
theorem lw_p21 : lw_okq (⟨"PackingCensusModel", "isLeast", "()Z"⟩, 18) := ⟨⟨by decide +kernel, by decide +kernel⟩, List.mem_of_getElem? (i := 439) (by decide +kernel), List.mem_of_getElem? (i := 539) (by decide +kernel), List.mem_of_getElem? (i := 540) (by decide +kernel)⟩
theorem lw_p22 : lw_okq (⟨"PackingCensusModel", "compare", "(II)I"⟩, 18) := ⟨⟨by decide +kernel, by decide +kernel⟩, List.mem_of_getElem? (i := 439) (by decide +kernel), List.mem_of_getElem? (i := 543) (by decide +kernel), List.mem_of_getElem? (i := 544) (by decide +kernel)⟩
theorem lw_p23 : lw_okq (⟨"PackingCensusModel", "image", "(II)I"⟩, 18) := ⟨⟨by decide +kernel, by decide +kernel⟩, List.mem_of_getElem? (i := 439) (by decide +kernel), List.mem_of_getElem? (i := 547) (by decide +kernel), List.mem_of_getElem? (i := 548) (by decide +kernel)⟩
theorem lw_p24 : lw_okq (⟨"PackingCensusModel", "isEntry", "(I)Z"⟩, 18) := ⟨⟨by decide +kernel, by decide +kernel⟩, List.mem_of_getElem? (i := 439) (by decide +kernel), List.mem_of_getElem? (i := 563) (by decide +kernel), List.mem_of_getElem? (i := 564) (by decide +kernel)⟩
theorem lw_p25 : lw_okq (⟨"PackingCensusModel", "keepers", "()I"⟩, 18) := ⟨⟨by decide +kernel, by decide +kernel⟩, List.mem_of_getElem? (i := 439) (by decide +kernel), List.mem_of_getElem? (i := 571) (by decide +kernel), List.mem_of_getElem? (i := 572) (by decide +kernel)⟩
theorem lw_p26 : lw_okq (⟨"PackingCensusModel", "pair", "(II)V"⟩, 18) := ⟨⟨by decide +kernel, by decide +kernel⟩, List.mem_of_getElem? (i := 439) (by decide +kernel), List.mem_of_getElem? (i := 580) (by decide +kernel), List.mem_of_getElem? (i := 581) (by decide +kernel)⟩
theorem lw_p27 : lw_okq (⟨"PackingCensusModel", "tooOften", "()Z"⟩, 18) := ⟨⟨by decide +kernel, by decide +kernel⟩, List.mem_of_getElem? (i := 439) (by decide +kernel), List.mem_of_getElem? (i := 584) (by decide +kernel), List.mem_of_getElem? (i := 585) (by decide +kernel)⟩
theorem lw_p28 : lw_okq (⟨"PackingCensusModel", "isPoint", "(I)Z"⟩, 18) := ⟨⟨by decide +kernel, by decide +kernel⟩, List.mem_of_getElem? (i := 439) (by decide +kernel), List.mem_of_getElem? (i := 592) (by decide +kernel), List.mem_of_getElem? (i := 593) (by decide +kernel)⟩
theorem lw_p29 : lw_okq (⟨"PackingCensusModel", "isBlock", "(I)Z"⟩, 18) := ⟨⟨by decide +kernel, by decide +kernel⟩, List.mem_of_getElem? (i := 439) (by decide +kernel), List.mem_of_getElem? (i := 613) (by decide +kernel), List.mem_of_getElem? (i := 614) (by decide +kernel)⟩
theorem lw_p30 : lw_okq (⟨"PackingCensusModel", "lookAtHand", "()V"⟩, 18) := ⟨⟨by decide +kernel, by decide +kernel⟩, List.mem_of_getElem? (i := 439) (by decide +kernel), List.mem_of_getElem? (i := 637) (by decide +kernel), List.mem_of_getElem? (i := 638) (by decide +kernel)⟩
theorem lw_p31 : lw_okq (⟨"PackingCensusModel", "leastOne", "()I"⟩, 18) := ⟨⟨by decide +kernel, by decide +kernel⟩, List.mem_of_getElem? (i := 439) (by decide +kernel), List.mem_of_getElem? (i := 641) (by decide +kernel), List.mem_of_getElem? (i := 642) (by decide +kernel)⟩
def lw_privs_2 : List (MethodName × Nat) := [(⟨"PackingCensusModel", "extend", "(II)Z"⟩, 18), (⟨"PackingCensusModel", "lookAtEntry", "(I)V"⟩, 18), (⟨"PackingCensusModel", "none", "()V"⟩, 18), (⟨"PackingCensusModel", "meets", "(II)Z"⟩, 18), (⟨"PackingCensusModel", "meet", "(II)I"⟩, 18), (⟨"PackingCensusModel", "isLeast", "()Z"⟩, 18), (⟨"PackingCensusModel", "compare", "(II)I"⟩, 18), (⟨"PackingCensusModel", "image", "(II)I"⟩, 18), (⟨"PackingCensusModel", "isEntry", "(I)Z"⟩, 18), (⟨"PackingCensusModel", "keepers", "()I"⟩, 18), (⟨"PackingCensusModel", "pair", "(II)V"⟩, 18), (⟨"PackingCensusModel", "tooOften", "()Z"⟩, 18), (⟨"PackingCensusModel", "isPoint", "(I)Z"⟩, 18), (⟨"PackingCensusModel", "isBlock", "(I)Z"⟩, 18), (⟨"PackingCensusModel", "lookAtHand", "()V"⟩, 18), (⟨"PackingCensusModel", "leastOne", "()I"⟩, 18)]
theorem lw_r2 : ∀ q ∈ lw_privs_2, lw_okq q := List.forall_mem_cons.mpr ⟨lw_p16, List.forall_mem_cons.mpr ⟨lw_p17, List.forall_mem_cons.mpr ⟨lw_p18, List.forall_mem_cons.mpr ⟨lw_p19, List.forall_mem_cons.mpr ⟨lw_p20, List.forall_mem_cons.mpr ⟨lw_p21, List.forall_mem_cons.mpr ⟨lw_p22, List.forall_mem_cons.mpr ⟨lw_p23, List.forall_mem_cons.mpr ⟨lw_p24, List.forall_mem_cons.mpr ⟨lw_p25, List.forall_mem_cons.mpr ⟨lw_p26, List.forall_mem_cons.mpr ⟨lw_p27, List.forall_mem_cons.mpr ⟨lw_p28, List.forall_mem_cons.mpr ⟨lw_p29, List.forall_mem_cons.mpr ⟨lw_p30, List.forall_mem_cons.mpr ⟨lw_p31, fun _ h => absurd h List.not_mem_nil⟩⟩⟩⟩⟩⟩⟩⟩⟩⟩⟩⟩⟩⟩⟩⟩
theorem lw_p32 : lw_okq (⟨"PackingCensusModel", "rowed", "(II)I"⟩, 18) := ⟨⟨by decide +kernel, by decide +kernel⟩, List.mem_of_getElem? (i := 439) (by decide +kernel), List.mem_of_getElem? (i := 645) (by decide +kernel), List.mem_of_getElem? (i := 646) (by decide +kernel)⟩
def lw_privs_3 : List (MethodName × Nat) := [(⟨"PackingCensusModel", "rowed", "(II)I"⟩, 18)]
theorem lw_r3 : ∀ q ∈ lw_privs_3, lw_okq q := List.forall_mem_cons.mpr ⟨lw_p32, fun _ h => absurd h List.not_mem_nil⟩
def lw_privs : List (MethodName × Nat) := lw_privs_1 ++ (lw_privs_2 ++ (lw_privs_3))
def lw_tbl : List Cond := k2_sels lw_privs ++ tables_1
theorem lw_privs_ok : ∀ q ∈ lw_privs, lw_okq q := by
  show ∀ q ∈ lw_privs_1 ++ (lw_privs_2 ++ (lw_privs_3)), lw_okq q
  exact List.forall_mem_append.mpr ⟨lw_r1, List.forall_mem_append.mpr ⟨lw_r2, lw_r3⟩⟩
end
section
/-! NAMES, by program (wip/whole/gen.py): objects, fields, methods, their instructions, links. Made anew when the program lands anew. -/
/-- the words that every call keeps -/
def zw_t : List Cond := lw_tbl.filter goodWord
theorem zw_m {w : Cond} {i : Nat} (h : lw_tbl[i]? = some w) (g : goodWord w = true) : w ∈ zw_t := List.mem_filter.mpr ⟨List.mem_of_getElem? h, g⟩
def zc_PC : String := "PackingCensus"
def zt_PC : u_T := fun k => match k with
  | 0 => ("PackingCensus", "ground", "LPackingCensus$Ground;", true)
  | 1 => ("PackingCensus", "former", "LPackingCensus$Former;", true)
  | 2 => ("PackingCensus", "hand", "LPackingCensus$Row;", true)
  | 3 => ("PackingCensus", "handForm", "LPackingCensus$Row;", true)
  | 4 => ("PackingCensus", "trial", "LPackingCensus$Row;", true)
  | 5 => ("PackingCensus", "listing", "LPackingCensus$Listing;", false)
  | 6 => ("PackingCensus", "spare", "LPackingCensus$Listing;", false)
  | 7 => ("PackingCensus", "lambda", "I", false)
  | 8 => ("PackingCensus", "handOrder", "I", false)
  | 9 => ("PackingCensus", "handFormKnown", "Z", false)
  | 10 => ("PackingCensus", "begun", "Z", false)
  | _ => ("PackingCensus", "nextTooLong", "Z", false)
def zy_PC : Nat → FieldType := fun k => match k with
  | 0 => .object "PackingCensus$Ground"
  | 1 => .object "PackingCensus$Former"
  | 2 => .object "PackingCensus$Row"
  | 3 => .object "PackingCensus$Row"
  | 4 => .object "PackingCensus$Row"
  | 5 => .object "PackingCensus$Listing"
  | 6 => .object "PackingCensus$Listing"
  | 7 => .int
  | 8 => .int
  | 9 => .boolean
  | 10 => .boolean
  | _ => .boolean
theorem zn_PC : ∀ a, a < 12 → ∀ b, b < 12 → a ≠ b → (zt_PC a).2.1 ≠ (zt_PC b).2.1 := by decide +kernel
theorem zo_PC : ∀ k, k < 12 → parseFieldDescriptor (zt_PC k).2.2.1 = some (zy_PC k) := by decide +kernel
theorem zi_PC : ∀ w ∈ u_ws zc_PC zt_PC 12, w ∈ zw_t := by
  have h : ∀ k, k < 12 → lw_tbl[[155, 157, 159, 161, 163, 165, 167, 169, 171, 173, 175, 177].getD k 0]? = some (u_lay zc_PC zt_PC k) := by decide +kernel
  intro w hw
  obtain ⟨k, hk, rfl⟩ := List.mem_map.mp hw
  have hg : ∀ k, k < 12 → goodWord (u_lay zc_PC zt_PC k) = true := by decide +kernel
  exact zw_m (h k (List.mem_range.mp hk)) (hg k (List.mem_range.mp hk))
def zc_FO : String := "PackingCensus$Former"
def zt_FO : u_T := fun k => match k with
  | 0 => ("PackingCensus$Former", "ground", "LPackingCensus$Ground;", true)
  | 1 => ("PackingCensus$Former", "times", "[I", true)
  | 2 => ("PackingCensus$Former", "best", "[I", true)
  | 3 => ("PackingCensus$Former", "image", "[I", true)
  | 4 => ("PackingCensus$Former", "takenTo", "[I", true)
  | 5 => ("PackingCensus$Former", "leastImages", "[I", true)
  | 6 => ("PackingCensus$Former", "bestRenamings", "I", false)
  | 7 => ("PackingCensus$Former", "stopWhenBeaten", "Z", false)
  | _ => ("PackingCensus$Former", "beaten", "Z", false)
def zy_FO : Nat → FieldType := fun k => match k with
  | 0 => .object "PackingCensus$Ground"
  | 1 => .array .int
  | 2 => .array .int
  | 3 => .array .int
  | 4 => .array .int
  | 5 => .array .int
  | 6 => .int
  | 7 => .boolean
  | _ => .boolean
theorem zn_FO : ∀ a, a < 9 → ∀ b, b < 9 → a ≠ b → (zt_FO a).2.1 ≠ (zt_FO b).2.1 := by decide +kernel
theorem zo_FO : ∀ k, k < 9 → parseFieldDescriptor (zt_FO k).2.2.1 = some (zy_FO k) := by decide +kernel
theorem zi_FO : ∀ w ∈ u_ws zc_FO zt_FO 9, w ∈ zw_t := by
  have h : ∀ k, k < 9 → lw_tbl[[89, 91, 93, 95, 97, 99, 101, 103, 105].getD k 0]? = some (u_lay zc_FO zt_FO k) := by decide +kernel
  intro w hw
  obtain ⟨k, hk, rfl⟩ := List.mem_map.mp hw
  have hg : ∀ k, k < 9 → goodWord (u_lay zc_FO zt_FO k) = true := by decide +kernel
  exact zw_m (h k (List.mem_range.mp hk)) (hg k (List.mem_range.mp hk))
def zc_GR : String := "PackingCensus$Ground"
def zt_GR : u_T := fun k => match k with
  | 0 => ("PackingCensus$Ground", "kindMasks", "[I", true)
  | 1 => ("PackingCensus$Ground", "kindsBefore", "[I", true)
  | 2 => ("PackingCensus$Ground", "pointCount", "I", false)
  | 3 => ("PackingCensus$Ground", "blockSize", "I", false)
  | _ => ("PackingCensus$Ground", "kindCount", "I", false)
def zy_GR : Nat → FieldType := fun k => match k with
  | 0 => .array .int
  | 1 => .array .int
  | 2 => .int
  | 3 => .int
  | _ => .int
theorem zn_GR : ∀ a, a < 5 → ∀ b, b < 5 → a ≠ b → (zt_GR a).2.1 ≠ (zt_GR b).2.1 := by decide +kernel
theorem zo_GR : ∀ k, k < 5 → parseFieldDescriptor (zt_GR k).2.2.1 = some (zy_GR k) := by decide +kernel
theorem zi_GR : ∀ w ∈ u_ws zc_GR zt_GR 5, w ∈ zw_t := by
  have h : ∀ k, k < 5 → lw_tbl[[67, 69, 71, 73, 75].getD k 0]? = some (u_lay zc_GR zt_GR k) := by decide +kernel
  intro w hw
  obtain ⟨k, hk, rfl⟩ := List.mem_map.mp hw
  have hg : ∀ k, k < 5 → goodWord (u_lay zc_GR zt_GR k) = true := by decide +kernel
  exact zw_m (h k (List.mem_range.mp hk)) (hg k (List.mem_range.mp hk))
def zc_RO : String := "PackingCensus$Row"
def zt_RO : u_T := fun k => match k with
  | 0 => ("PackingCensus$Row", "masks", "[I", true)
  | _ => ("PackingCensus$Row", "length", "I", false)
def zy_RO : Nat → FieldType := fun k => match k with
  | 0 => .array .int
  | _ => .int
theorem zn_RO : ∀ a, a < 2 → ∀ b, b < 2 → a ≠ b → (zt_RO a).2.1 ≠ (zt_RO b).2.1 := by decide +kernel
theorem zo_RO : ∀ k, k < 2 → parseFieldDescriptor (zt_RO k).2.2.1 = some (zy_RO k) := by decide +kernel
theorem zi_RO : ∀ w ∈ u_ws zc_RO zt_RO 2, w ∈ zw_t := by
  have h : ∀ k, k < 2 → lw_tbl[[116, 118].getD k 0]? = some (u_lay zc_RO zt_RO k) := by decide +kernel
  intro w hw
  obtain ⟨k, hk, rfl⟩ := List.mem_map.mp hw
  have hg : ∀ k, k < 2 → goodWord (u_lay zc_RO zt_RO k) = true := by decide +kernel
  exact zw_m (h k (List.mem_range.mp hk)) (hg k (List.mem_range.mp hk))
def zc_LI : String := "PackingCensus$Listing"
def zt_LI : u_T := fun k => match k with
  | 0 => ("PackingCensus$Listing", "masks", "[I", true)
  | 1 => ("PackingCensus$Listing", "orders", "[I", true)
  | 2 => ("PackingCensus$Listing", "images", "[I", true)
  | 3 => ("PackingCensus$Listing", "blocksEach", "I", false)
  | _ => ("PackingCensus$Listing", "count", "I", false)
def zy_LI : Nat → FieldType := fun k => match k with
  | 0 => .array .int
  | 1 => .array .int
  | 2 => .array .int
  | 3 => .int
  | _ => .int
theorem zn_LI : ∀ a, a < 5 → ∀ b, b < 5 → a ≠ b → (zt_LI a).2.1 ≠ (zt_LI b).2.1 := by decide +kernel
theorem zo_LI : ∀ k, k < 5 → parseFieldDescriptor (zt_LI k).2.2.1 = some (zy_LI k) := by decide +kernel
theorem zi_LI : ∀ w ∈ u_ws zc_LI zt_LI 5, w ∈ zw_t := by
  have h : ∀ k, k < 5 → lw_tbl[[132, 134, 136, 138, 140].getD k 0]? = some (u_lay zc_LI zt_LI k) := by decide +kernel
  intro w hw
  obtain ⟨k, hk, rfl⟩ := List.mem_map.mp hw
  have hg : ∀ k, k < 5 → goodWord (u_lay zc_LI zt_LI k) = true := by decide +kernel
  exact zw_m (h k (List.mem_range.mp hk)) (hg k (List.mem_range.mp hk))
def zc_MO : String := "PackingCensusModel"
def zt_MO : u_T := fun k => match k with
  | 0 => ("PackingCensusModel", "begun", "Z", false)
  | 1 => ("PackingCensusModel", "v", "I", false)
  | 2 => ("PackingCensusModel", "k", "I", false)
  | 3 => ("PackingCensusModel", "lambda", "I", false)
  | 4 => ("PackingCensusModel", "deep", "I", false)
  | 5 => ("PackingCensusModel", "kinds", "I", false)
  | 6 => ("PackingCensusModel", "blocks", "[I", true)
  | 7 => ("PackingCensusModel", "many", "I", false)
  | 8 => ("PackingCensusModel", "perms", "[I", true)
  | 9 => ("PackingCensusModel", "size", "I", false)
  | 10 => ("PackingCensusModel", "list", "[I", true)
  | 11 => ("PackingCensusModel", "made", "I", false)
  | 12 => ("PackingCensusModel", "fresh", "[I", true)
  | 13 => ("PackingCensusModel", "held", "I", false)
  | 14 => ("PackingCensusModel", "cards", "[I", true)
  | 15 => ("PackingCensusModel", "times", "[I", true)
  | 16 => ("PackingCensusModel", "pairs", "[I", true)
  | _ => ("PackingCensusModel", "at", "[I", true)
def zy_MO : Nat → FieldType := fun k => match k with
  | 0 => .boolean
  | 1 => .int
  | 2 => .int
  | 3 => .int
  | 4 => .int
  | 5 => .int
  | 6 => .array .int
  | 7 => .int
  | 8 => .array .int
  | 9 => .int
  | 10 => .array .int
  | 11 => .int
  | 12 => .array .int
  | 13 => .int
  | 14 => .array .int
  | 15 => .array .int
  | 16 => .array .int
  | _ => .array .int
theorem zn_MO : ∀ a, a < 18 → ∀ b, b < 18 → a ≠ b → (zt_MO a).2.1 ≠ (zt_MO b).2.1 := by decide +kernel
theorem zo_MO : ∀ k, k < 18 → parseFieldDescriptor (zt_MO k).2.2.1 = some (zy_MO k) := by decide +kernel
theorem zi_MO : ∀ w ∈ u_ws zc_MO zt_MO 18, w ∈ zw_t := by
  have h : ∀ k, k < 18 → lw_tbl[[495, 497, 499, 501, 503, 505, 507, 509, 511, 513, 515, 517, 519, 521, 523, 525, 527, 529].getD k 0]? = some (u_lay zc_MO zt_MO k) := by decide +kernel
  intro w hw
  obtain ⟨k, hk, rfl⟩ := List.mem_map.mp hw
  have hg : ∀ k, k < 18 → goodWord (u_lay zc_MO zt_MO k) = true := by decide +kernel
  exact zw_m (h k (List.mem_range.mp hk)) (hg k (List.mem_range.mp hk))
abbrev zc_cl : List vw_C := [(zc_PC, zt_PC, 12), (zc_FO, zt_FO, 9), (zc_GR, zt_GR, 5), (zc_RO, zt_RO, 2), (zc_LI, zt_LI, 5), (zc_MO, zt_MO, 18)]
def zc_fk : Nat → List Nat := fun c => match c with
  | 0 => [2, 2, 2, 2, 2, 2, 2, 0, 0, 1, 1, 1]
  | 1 => [2, 2, 2, 2, 2, 2, 0, 1, 1]
  | 2 => [2, 2, 0, 0, 0]
  | 3 => [2, 0]
  | 4 => [2, 2, 2, 0, 0]
  | _ => [1, 0, 0, 0, 0, 0, 2, 0, 2, 0, 2, 0, 2, 0, 2, 2, 2, 2]
def zc_shl : List (Nat ⊕ Nat) := [.inl 0, .inl 1, .inl 2, .inr 20, .inr 7, .inr 64, .inr 20, .inr 64, .inr 6, .inr 6, .inl 3, .inr 10, .inl 3, .inr 10, .inl 3, .inr 10, .inl 4, .inr 600, .inr 60, .inr 360, .inl 4, .inr 600, .inr 60, .inr 360, .inl 5, .inr 20, .inr 4320, .inr 600, .inr 610, .inr 10, .inr 64, .inr 36, .inr 10]
def zc_sh (p : Nat) : Nat ⊕ Nat := zc_shl.getD p (.inr 0)
theorem zc_sh_n {p : Nat} (h : 33 ≤ p) : zc_sh p = .inr 0 := by
  rw [zc_sh, List.getD_eq_getElem?_getD, List.getElem?_eq_none (show zc_shl.length ≤ p from h)]
  rfl
theorem zc_sh_l {p c : Nat} (h : zc_sh p = .inl c) : p < 33 := by
  rcases Nat.lt_or_ge p 33 with h1 | h1
  · exact h1
  · rw [zc_sh_n h1] at h; cases h
theorem zc_sh_r {p n : Nat} (h : zc_sh p = .inr n) (h0 : 0 < n) : p < 33 := by
  rcases Nat.lt_or_ge p 33 with h1 | h1
  · exact h1
  · rw [zc_sh_n h1] at h
    have := Sum.inr.inj h
    omega
theorem zc_sh_s {p n : Nat} (h : zc_sh p = .inr n) : n < 2 ^ 31 := by
  rcases Nat.lt_or_ge p 33 with h1 | h1
  · have key : ∀ p, p < 33 → (match zc_sh p with
      | .inr n => Nat.blt n 5000
      | .inl _ => true) = true := by decide +kernel
    have := key p h1
    rw [h] at this
    have := Nat.blt_eq.mp this
    omega
  · rw [zc_sh_n h1] at h
    have := Sum.inr.inj h
    omega
def zr_l (r : Nat × Nat) : List (List Nat) := [[2, 1, 10, 12, 14, r.1, r.2, 0, 0, 0, 0, 0], [2, 5, 6, 7, 8, 9, 0, 0, 0], [3, 4, 0, 0, 0], [], [], [], [], [], [], [], [11, 0], [], [13, 0], [], [15, 0], [], [17, 18, 19, 0, 0], [], [], [], [21, 22, 23, 0, 0], [], [], [], [0, 0, 0, 0, 0, 0, 25, 0, 26, 0, 27, 0, 28, 0, 29, 30, 31, 32], [], [], [], [], [], [], [], []]
/-- what the reference fields hold -/
def zr (r : Nat × Nat) (p k : Nat) : Nat := ((zr_l r).getD p []).getD k 0
theorem zr_5 (y : Nat) (r : Nat × Nat) : ∀ a b, ¬ (a = 0 ∧ b = 5) → zr (y, r.2) a b = zr r a b := by
  intro a b h
  cases a with
  | succ a => rfl
  | zero =>
    rcases b with _ | _ | _ | _ | _ | _ | b
    · rfl
    · rfl
    · rfl
    · rfl
    · rfl
    · exact absurd ⟨rfl, rfl⟩ h
    · rfl
theorem zr_6 (y : Nat) (r : Nat × Nat) : ∀ a b, ¬ (a = 0 ∧ b = 6) → zr (r.1, y) a b = zr r a b := by
  intro a b h
  cases a with
  | succ a => rfl
  | zero =>
    rcases b with _ | _ | _ | _ | _ | _ | _ | b
    · rfl
    · rfl
    · rfl
    · rfl
    · rfl
    · rfl
    · exact absurd ⟨rfl, rfl⟩ h
    · rfl
theorem zw_in {z : Cond} {y2 : MethodName} {b2 : ByteArray} {n2 : Nat} {r2 : Option FieldType} (h : Cond.code y2 b2 n2 r2 ∈ zw_t) : GoodIn (z :: zw_t) (Cond.code y2 b2 n2 r2 :: zw_t) := by
  intro w hw
  have hm : w ∈ zw_t := (List.mem_cons.mp hw).elim (fun e => by rw [e]; exact h) (fun h => h)
  exact ⟨List.mem_cons_of_mem _ hm, good_of_word (List.mem_filter.mp hm).2⟩
end
section
/-! THE ABSTRACT MACHINE. A value is an int or a place of the world; a world is the int fields, the two reference fields that change, and the int arrays, by place. A method's transformer says from which arguments and world it comes to which answers and worlds. -/
abbrev ma_V : Type := Int32 ⊕ Nat
abbrev ma_W : Type := (Nat → Nat → Int32) × (Nat × Nat) × (Nat → Nat → Int32)
abbrev ma_P : Type := Int32 → ma_W → Prop
abbrev ma_T : Type := List ma_V → ma_W → ma_P → Prop
abbrev ma_L : Type := List (Option ma_V)
abbrev ma_G : Type := Nat → ma_L → List ma_V → ma_W → Prop
abbrev ma_C : Type := List (ClassFile.Instr × Nat)
def ma_up {α : Type} (f : Nat → Nat → α) (p k : Nat) (x : α) : Nat → Nat → α := fun q j => if q = p ∧ j = k then x else f q j
theorem ma_up_s {α : Type} (f : Nat → Nat → α) (p k : Nat) (x : α) : ma_up f p k x p k = x := by simp [ma_up]
theorem ma_up_p {α : Type} (f : Nat → Nat → α) {p q : Nat} (k j : Nat) (x : α) (h : q ≠ p) : ma_up f p k x q j = f q j := by simp [ma_up, h]
theorem ma_up_q {α : Type} (f : Nat → Nat → α) {p q : Nat} (k : Nat) (x : α) (h : q ≠ p) : ma_up f p k x q = f q := by funext j; simp [ma_up, h]
theorem ma_up_k {α : Type} (f : Nat → Nat → α) (p q : Nat) {k j : Nat} (x : α) (h : j ≠ k) : ma_up f p k x q j = f q j := by simp [ma_up, h]
/-- a value on the machine: place p lies at the address ad p -/
def ma_cv (ad : Nat → Nat) (v : ma_V) : Value := match v with
  | .inl x => .int x
  | .inr p => .ref (ad p)
theorem ma_cat (ad : Nat → Nat) (v : ma_V) : (ma_cv ad v).category = 1 := by cases v <;> rfl
/-- kinds of fields: 0 int, 1 boolean, 2 a reference -/
def ma_fv (ad : Nat → Nat) (w : ma_W) (p k t : Nat) : Value := if t = 2 then .ref (ad (zr w.2.1 p k)) else .int (w.1 p k)
def ma_fs (ad : Nat → Nat) (w : ma_W) (p : Nat) (ts : List Nat) : List Value := (List.range ts.length).map (fun k => ma_fv ad w p k (ts.getD k 0))
def ma_el (ad : Nat → Nat) (cA : ClassId) (w : ma_W) (p : Nat) : va_E := match zc_sh p with
  | .inl c => .inr (c, ma_fs ad w p (zc_fk c))
  | .inr n => .inl (cA, n, .inl (w.2.2 p))
def ma_cw (ad : Nat → Nat) (cA : ClassId) (w : ma_W) : va_W := (List.range 33).map (fun p => (ad p, ma_el ad cA w p))
theorem ma_fs_len (ad : Nat → Nat) (w : ma_W) (p : Nat) (ts : List Nat) : (ma_fs ad w p ts).length = ts.length := by simp [ma_fs]
theorem ma_fs_get (ad : Nat → Nat) (w : ma_W) (p : Nat) (ts : List Nat) {k : Nat} (h : k < ts.length) : (ma_fs ad w p ts)[k]? = some (ma_fv ad w p k (ts.getD k 0)) := by simp [ma_fs, h]
section MA1
variable {ad : Nat → Nat} {cA : ClassId} {w w' : ma_W} {p : Nat}
theorem ma_cw_len : (ma_cw ad cA w).length = 33 := by simp [ma_cw]
theorem ma_cw_get (h : p < 33) : (ma_cw ad cA w)[p]? = some (ad p, ma_el ad cA w p) := by simp [ma_cw, h]
theorem ma_cw_of {k : Nat} {q : Nat × va_E} (h : (ma_cw ad cA w)[k]? = some q) : k < 33 ∧ q = (ad k, ma_el ad cA w k) := by
  have hk : k < 33 := by
    have := (List.getElem?_eq_some_iff.mp h).1
    rwa [ma_cw_len] at this
  rw [ma_cw_get hk] at h
  exact ⟨hk, (Option.some.inj h).symm⟩
theorem ma_cw_set {e : va_E} (hp : p < 33) (he : ma_el ad cA w' p = e) (ho : ∀ q, q ≠ p → ma_el ad cA w' q = ma_el ad cA w q) : (ma_cw ad cA w).set p (ad p, e) = ma_cw ad cA w' := by
  apply List.ext_getElem?
  intro k
  by_cases hk : k = p
  · subst hk
    rw [List.getElem?_set_self (by rw [ma_cw_len]; exact hp), ma_cw_get hp, he]
  · rw [List.getElem?_set_ne (Ne.symm hk)]
    by_cases hN : k < 33
    · rw [ma_cw_get hN, ma_cw_get hN, ho k hk]
    · rw [List.getElem?_eq_none (by rw [ma_cw_len]; omega), List.getElem?_eq_none (by rw [ma_cw_len]; omega)]
/-- the world behind a store of an int field -/
theorem ma_set_i {c k : Nat} {x : Int32} (hp : p < 33) (hs : zc_sh p = .inl c) (hk : k < (zc_fk c).length) (ht : (zc_fk c).getD k 0 ≠ 2) :
    (ma_cw ad cA w).set p (ad p, .inr (c, (ma_fs ad w p (zc_fk c)).set k (.int x))) = ma_cw ad cA (ma_up w.1 p k x, w.2) := by
  refine ma_cw_set hp ?_ ?_
  · simp only [ma_el, hs]
    refine congrArg (fun z => Sum.inr (c, z)) ?_
    apply List.ext_getElem?
    intro j
    by_cases hj : j = k
    · subst hj
      rw [List.getElem?_set_self (by rw [ma_fs_len]; exact hk), ma_fs_get _ _ _ _ hk, ma_fv, if_neg ht]
      simp [ma_up]
    · rw [List.getElem?_set_ne (Ne.symm hj)]
      by_cases hl : j < (zc_fk c).length
      · rw [ma_fs_get _ _ _ _ hl, ma_fs_get _ _ _ _ hl]
        simp [ma_fv, ma_up, hj]
      · rw [List.getElem?_eq_none (by rw [ma_fs_len]; omega), List.getElem?_eq_none (by rw [ma_fs_len]; omega)]
  · intro q hq
    cases h : zc_sh q with
    | inl d => simp [ma_el, h, ma_fs, ma_fv, ma_up, hq]
    | inr n => simp [ma_el, h]
/-- .. of a reference field: there are two that change -/
theorem ma_set_r {k y : Nat} {r : Nat × Nat} (hk : k < 12) (hr : zr r 0 k = y) (hz : ∀ q j, ¬ (q = 0 ∧ j = k) → zr r q j = zr w.2.1 q j) (ht : (zc_fk 0).getD k 0 = 2) :
    (ma_cw ad cA w).set 0 (ad 0, .inr (0, (ma_fs ad w 0 (zc_fk 0)).set k (.ref (ad y)))) = ma_cw ad cA (w.1, r, w.2.2) := by
  have h12 : (zc_fk 0).length = 12 := rfl
  refine ma_cw_set (by decide) ?_ ?_
  · show Sum.inr (0, ma_fs ad (w.1, r, w.2.2) 0 (zc_fk 0)) = _
    refine congrArg (fun z => Sum.inr (0, z)) ?_
    apply List.ext_getElem?
    intro j
    by_cases hj : j = k
    · subst hj
      rw [List.getElem?_set_self (by rw [ma_fs_len, h12]; exact hk), ma_fs_get _ _ _ _ (by rw [h12]; exact hk), ma_fv, if_pos ht]
      simp only [hr]
    · rw [List.getElem?_set_ne (Ne.symm hj)]
      by_cases hl : j < (zc_fk 0).length
      · rw [ma_fs_get _ _ _ _ hl, ma_fs_get _ _ _ _ hl]
        simp only [ma_fv]
        rw [hz 0 j (fun e => hj e.2)]
      · rw [List.getElem?_eq_none (by rw [ma_fs_len]; omega), List.getElem?_eq_none (by rw [ma_fs_len]; omega)]
  · intro q hq
    cases h : zc_sh q with
    | inl d =>
      simp only [ma_el, h]
      refine congrArg (fun z => Sum.inr (d, z)) ?_
      simp only [ma_fs]
      refine List.map_congr_left (fun j _ => ?_)
      simp only [ma_fv]
      rw [hz q j (fun e => hq e.1)]
    | inr n => simp [ma_el, h]
/-- .. of an array's element -/
theorem ma_set_a {n i : Nat} {x : Int32} (hp : p < 33) (hs : zc_sh p = .inr n) :
    (ma_cw ad cA w).set p (ad p, .inl (cA, n, .inl (upd (w.2.2 p) i x))) = ma_cw ad cA (w.1, w.2.1, ma_up w.2.2 p i x) := by
  refine ma_cw_set hp ?_ ?_
  · simp only [ma_el, hs]
    refine congrArg (fun z => Sum.inl (cA, n, Sum.inl z)) ?_
    funext j
    simp [ma_up, upd]
  · intro q hq
    cases h : zc_sh q with
    | inl d => simp [ma_el, h, ma_fs, ma_fv]
    | inr n =>
      simp only [ma_el, h]
      rw [ma_up_q _ _ _ hq]
end MA1
/-- which cells a method may change -/
def ma_A (ad : Nat → Nat) (sz : Nat) : Nat → Prop := fun q => (∃ p, p < 33 ∧ q = ad p) ∨ sz ≤ q
/-- the places lie apart -/
def ma_D (ad : Nat → Nat) : Prop := ∀ i j, i < 33 → j < 33 → ad i = ad j → i = j
theorem ma_D.d {ad : Nat → Nat} {cA : ClassId} {w : ma_W} {A : Nat → Prop} (h : ma_D ad) (hA : ∀ p, p < 33 → A (ad p)) : va_D A (ma_cw ad cA w) := by
  refine ⟨fun i j p q hi hj hpq => ?_, fun k q hk => ?_⟩
  · obtain ⟨h1, rfl⟩ := ma_cw_of hi
    obtain ⟨h2, rfl⟩ := ma_cw_of hj
    exact h i j h1 h2 hpq
  · obtain ⟨h1, rfl⟩ := ma_cw_of hk
    exact hA k h1
/-! locals -/
def ma_loc (ad : Nat → Nat) (ls : Array Slot) (L : ma_L) : Prop := ls.size = L.length ∧ lv_wf ls ∧ ∀ (k : Nat) (v : ma_V), L[k]? = some (some v) → ls[k]? = some (.val (ma_cv ad v))
def ma_kn (ad : Nat → Nat) (L : ma_L) : List (Nat × Value) := (List.range L.length).filterMap (fun k => match L[k]? with
  | some (some v) => some (k, ma_cv ad v)
  | _ => none)
theorem ma_kn_mem {ad : Nat → Nat} {L : ma_L} {q : Nat × Value} : q ∈ ma_kn ad L ↔ ∃ (k : Nat) (v : ma_V), L[k]? = some (some v) ∧ q = (k, ma_cv ad v) := by
  unfold ma_kn
  rw [List.mem_filterMap]
  constructor
  · rintro ⟨k, -, h⟩
    split at h
    · rename_i v hv
      exact ⟨k, v, hv, (Option.some.inj h).symm⟩
    · cases h
  · rintro ⟨k, v, hv, rfl⟩
    refine ⟨k, List.mem_range.mpr (List.getElem?_eq_some_iff.mp hv).1, ?_⟩
    rw [hv]
theorem ma_loc.has {ad : Nat → Nat} {ls : Array Slot} {L : ma_L} (h : ma_loc ad ls L) : lv_has ls L.length (ma_kn ad L) := by
  refine ⟨h.1, h.2.1, fun q hq => ?_⟩
  obtain ⟨k, v, hv, rfl⟩ := ma_kn_mem.mp hq
  exact h.2.2 k v hv
theorem ma_loc.set {ad : Nat → Nat} {ls' : Array Slot} {L : ma_L} {i : Nat} {v : ma_V} (h : lv_has ls' L.length ((i, ma_cv ad v) :: (ma_kn ad L).filter (fun q => !(q.1 == i) && !(q.1 + 1 == i && q.2.category == 2)))) : ma_loc ad ls' (L.set i (some v)) := by
  refine ⟨by rw [h.1, List.length_set], h.2.1, fun k u hk => ?_⟩
  by_cases hki : k = i
  · subst hki
    have hl : k < L.length := by
      have := (List.getElem?_eq_some_iff.mp hk).1
      rwa [List.length_set] at this
    rw [List.getElem?_set_self hl] at hk
    cases hk
    exact h.2.2 _ List.mem_cons_self
  · rw [List.getElem?_set_ne (Ne.symm hki)] at hk
    refine h.2.2 (k, ma_cv ad u) (List.mem_cons_of_mem _ (List.mem_filter.mpr ⟨ma_kn_mem.mpr ⟨k, u, hk, rfl⟩, ?_⟩))
    simp [hki, ma_cat]
/-! the transformer of a run of instructions -/
def ma_look {α : Type} : List (Nat × α) → Nat → Option α
  | [], _ => none
  | (a, b) :: l, i => if a = i then some b else ma_look l i
theorem ma_look_mem {α : Type} {i : Nat} {b : α} : ∀ {l : List (Nat × α)}, ma_look l i = some b → (i, b) ∈ l
  | [], h => by simp [ma_look] at h
  | (a, c) :: l, h => by
    unfold ma_look at h
    split at h
    · rename_i e
      cases h
      subst e
      exact List.mem_cons_self
    · exact List.mem_cons_of_mem _ (ma_look_mem h)
def ma_o {α : Type} (o : Option α) (f : α → Prop) : Prop := match o with
  | some a => f a
  | none => False
theorem ma_o_spec {α : Type} {o : Option α} {f : α → Prop} (h : ma_o o f) : ∃ a, o = some a ∧ f a := by
  cases o with
  | none => exact h.elim
  | some a => exact ⟨a, rfl, h⟩
def ma_rd (L : ma_L) (k : Nat) (f : ma_V → Prop) : Prop := match L[k]? with
  | some (some v) => f v
  | _ => False
theorem ma_rd_spec {L : ma_L} {k : Nat} {f : ma_V → Prop} (h : ma_rd L k f) : ∃ v, L[k]? = some (some v) ∧ f v := by
  unfold ma_rd at h
  split at h
  · rename_i v hv
    exact ⟨v, hv, h⟩
  · exact h.elim
def ma_I (v : ma_V) (f : Int32 → Prop) : Prop := match v with
  | .inl x => f x
  | .inr _ => False
def ma_R (v : ma_V) (f : Nat → Prop) : Prop := match v with
  | .inl _ => False
  | .inr p => f p
theorem ma_I_spec {v : ma_V} {f : Int32 → Prop} (h : ma_I v f) : ∃ x, v = .inl x ∧ f x := by
  cases v with
  | inl x => exact ⟨x, rfl, h⟩
  | inr p => exact h.elim
theorem ma_R_spec {v : ma_V} {f : Nat → Prop} (h : ma_R v f) : ∃ p, v = .inr p ∧ f p := by
  cases v with
  | inl x => exact h.elim
  | inr p => exact ⟨p, rfl, h⟩
def ma_1 (S : List ma_V) (f : ma_V → List ma_V → Prop) : Prop := match S with
  | v :: S => f v S
  | [] => False
theorem ma_1_spec {S : List ma_V} {f : ma_V → List ma_V → Prop} (h : ma_1 S f) : ∃ v S', S = v :: S' ∧ f v S' := by
  cases S with
  | nil => exact h.elim
  | cons v S => exact ⟨v, S, rfl, h⟩
/-- the int on top -/
def ma_i1 (S : List ma_V) (f : Int32 → List ma_V → Prop) : Prop := ma_1 S fun v S => ma_I v fun x => f x S
theorem ma_i1_spec {S : List ma_V} {f : Int32 → List ma_V → Prop} (h : ma_i1 S f) : ∃ x S', S = .inl x :: S' ∧ f x S' := by
  obtain ⟨v, S', e, h1⟩ := ma_1_spec h
  obtain ⟨x, e2, h2⟩ := ma_I_spec h1
  exact ⟨x, S', by rw [e, e2], h2⟩
/-- two ints: the upper is y -/
def ma_i2 (S : List ma_V) (f : Int32 → Int32 → List ma_V → Prop) : Prop := ma_i1 S fun y S => ma_i1 S fun x S => f x y S
theorem ma_i2_spec {S : List ma_V} {f : Int32 → Int32 → List ma_V → Prop} (h : ma_i2 S f) : ∃ x y S', S = .inl y :: .inl x :: S' ∧ f x y S' := by
  obtain ⟨y, S', e, h1⟩ := ma_i1_spec h
  obtain ⟨x, S2, e2, h2⟩ := ma_i1_spec h1
  exact ⟨x, y, S2, by rw [e, e2], h2⟩
def ma_r1 (S : List ma_V) (f : Nat → List ma_V → Prop) : Prop := ma_1 S fun v S => ma_R v fun x => f x S
theorem ma_r1_spec {S : List ma_V} {f : Nat → List ma_V → Prop} (h : ma_r1 S f) : ∃ x S', S = .inr x :: S' ∧ f x S' := by
  obtain ⟨v, S', e, h1⟩ := ma_1_spec h
  obtain ⟨x, e2, h2⟩ := ma_R_spec h1
  exact ⟨x, S', by rw [e, e2], h2⟩
def ma_b (b : Bool) (K : Prop) : Prop := match b with
  | true => K
  | false => False
theorem ma_b_spec {b : Bool} {K : Prop} (h : ma_b b K) : b = true ∧ K := by
  cases b with
  | false => exact h.elim
  | true => exact ⟨rfl, h⟩
def ma_cmp (c : ClassFile.Cond) (x y : Int32) : Prop := match c with
  | .eq => x = y
  | .ne => ¬ x = y
  | .lt => x < y
  | .ge => y ≤ x
  | .gt => y < x
  | .le => x ≤ y
def ma_tg (pc : Nat) (off : Int) : Nat := ((pc : Int) + off).toNat
/-- the place p holds an object of the kind c -/
def ma_isk (c p : Nat) (K : Prop) : Prop := match zc_sh p with
  | .inl d => ma_b (Nat.beq d c) K
  | .inr _ => False
theorem ma_isk_spec {c p : Nat} {K : Prop} (h : ma_isk c p K) : p < 33 ∧ zc_sh p = .inl c ∧ K := by
  unfold ma_isk at h
  split at h
  · rename_i d hd
    obtain ⟨h1, h2⟩ := ma_b_spec h
    rw [Nat.eq_of_beq_eq_true h1] at hd
    exact ⟨zc_sh_l hd, hd, h2⟩
  · exact h.elim
theorem ma_isk_of {c p : Nat} {K : Prop} (h : zc_sh p = .inl c) : ma_isk c p K = K := by
  unfold ma_isk
  rw [h]
  show ma_b (Nat.beq c c) K = K
  rw [Nat.beq_refl]
  rfl
/-- .. an array -/
def ma_ark (p : Nat) (f : Nat → Prop) : Prop := match zc_sh p with
  | .inr n => f n
  | .inl _ => False
theorem ma_ark_spec {p : Nat} {f : Nat → Prop} (h : ma_ark p f) : ∃ n, zc_sh p = .inr n ∧ f n := by
  unfold ma_ark at h
  split at h
  · rename_i n hn
    exact ⟨n, hn, h⟩
  · exact h.elim
theorem ma_ark_of {p n : Nat} {f : Nat → Prop} (h : zc_sh p = .inr n) : ma_ark p f = f n := by
  unfold ma_ark
  rw [h]
/-- an index -/
def ma_ix (i : Int32) (n : Nat) (f : Nat → Prop) : Prop := ∃ j : Nat, j < n ∧ i = nI j ∧ f j
/-- the script, where there is one: its place, its length, its ints -/
abbrev ma_S : Type := Option (Nat × Nat × (Nat → Int32))
def ma_ld (sc : ma_S) (w : ma_W) (p : Nat) (i : Int32) (f : Int32 → Prop) : Prop := match sc with
  | none => ma_ark p fun n => ma_ix i n fun j => f (w.2.2 p j)
  | some (q, n, xs) => match Nat.beq p q with
    | true => ma_ix i n fun j => f (xs j)
    | false => ma_ark p fun n => ma_ix i n fun j => f (w.2.2 p j)
def ma_psh (rv : Bool) (x : Int32) (S : List ma_V) : List ma_V := match rv with
  | true => .inl x :: S
  | false => S
/-- a method that is called: how many words it takes, the kind of its receiver (none: it is static), whether it answers, its transformer -/
abbrev ma_E : Type := List (Nat × Nat × Option Nat × Bool × ma_T)
/-- a field: the kind of its object, its number, its kind -/
abbrev ma_F : Type := List (Nat × Nat × Nat × Nat)
/-- kinds in ma_F: 0 int, 1 boolean, 2 a reference, 3 a final reference -/
def ma_gf (w : ma_W) (p k t : Nat) : ma_V := match t with
  | 0 => .inl (w.1 p k)
  | 1 => .inl (w.1 p k)
  | _ => .inr (zr w.2.1 p k)
def ma_pr (w : ma_W) (p k q : Nat) (f : ma_W → Prop) : Prop := match Nat.beq p 0, k with
  | true, 5 => f (w.1, (q, w.2.1.2), w.2.2)
  | true, 6 => f (w.1, (w.2.1.1, q), w.2.2)
  | _, _ => False
def ma_pf (w : ma_W) (p k t : Nat) (v : ma_V) (f : ma_W → Prop) : Prop := match t with
  | 0 => ma_I v fun x => f (ma_up w.1 p k x, w.2)
  | 1 => ma_I v fun x => (x = 0 ∨ x = 1) ∧ f (ma_up w.1 p k x, w.2)
  | 2 => ma_R v fun q => ma_pr w p k q f
  | _ => False
/-- a constant -/
def ma_k (j : Int) : Int32 := match j with
  | .ofNat n => nI n
  | .negSucc n => Int32.ofInt (.negSucc n)
/-- the ends of a method -/
def ma_ir (rt : Nat) (post : ma_P) (S : List ma_V) (w : ma_W) : Prop := match S, rt with
  | [.inl x], 1 => post x w
  | [.inl x], 2 => (x = 0 ∨ x = 1) ∧ post x w
  | _, _ => False
def ma_vr (rt : Nat) (post : ma_P) (S : List ma_V) (w : ma_W) : Prop := match S, rt with
  | [], 0 => post 0 w
  | _, _ => False
theorem ma_ir_spec {rt : Nat} {post : ma_P} {S : List ma_V} {w : ma_W} (h : ma_ir rt post S w) : ∃ x, S = [.inl x] ∧ (rt = 1 ∨ (rt = 2 ∧ (x = 0 ∨ x = 1))) ∧ post x w := by
  unfold ma_ir at h
  split at h
  · exact ⟨_, rfl, Or.inl rfl, h⟩
  · exact ⟨_, rfl, Or.inr ⟨rfl, h.1⟩, h.2⟩
  · exact h.elim
theorem ma_vr_spec {rt : Nat} {post : ma_P} {S : List ma_V} {w : ma_W} (h : ma_vr rt post S w) : S = [] ∧ rt = 0 ∧ post 0 w := by
  unfold ma_vr at h
  split at h
  · exact ⟨rfl, rfl, h⟩
  · exact h.elim
/-- one instruction; Go: behind a jump; k: at the next instruction; rt: the method answers 0 nothing, 1 an int, 2 a boolean -/
def ma_stp (K : List (Nat × Int32)) (F : ma_F) (E : ma_E) (sc : ma_S) (rt : Nat) (post : ma_P) (Go : ma_G) (i : ClassFile.Instr) (pc : Nat) (k : ma_L → List ma_V → ma_W → Prop) (L : ma_L) (S : List ma_V) (w : ma_W) : Prop := match i with
  | .iconst j => k L (.inl (ma_k j) :: S) w
  | .bipush j => k L (.inl (ma_k j) :: S) w
  | .sipush j => k L (.inl (ma_k j) :: S) w
  | .ldc j => ma_o (ma_look K j) fun x => k L (.inl x :: S) w
  | .ldc_w j => ma_o (ma_look K j) fun x => k L (.inl x :: S) w
  | .iload j => ma_rd L j fun v => ma_I v fun x => k L (.inl x :: S) w
  | .iload_n j => ma_rd L j.val fun v => ma_I v fun x => k L (.inl x :: S) w
  | .aload j => ma_rd L j fun v => ma_R v fun x => k L (.inr x :: S) w
  | .aload_n j => ma_rd L j.val fun v => ma_R v fun x => k L (.inr x :: S) w
  | .istore j => ma_i1 S fun x S => ma_b (Nat.blt j L.length) (k (L.set j (some (.inl x))) S w)
  | .istore_n j => ma_i1 S fun x S => ma_b (Nat.blt j.val L.length) (k (L.set j.val (some (.inl x))) S w)
  | .astore j => ma_r1 S fun x S => ma_b (Nat.blt j L.length) (k (L.set j (some (.inr x))) S w)
  | .astore_n j => ma_r1 S fun x S => ma_b (Nat.blt j.val L.length) (k (L.set j.val (some (.inr x))) S w)
  | .iinc j d => ma_rd L j fun v => ma_I v fun x => k (L.set j (some (.inl (x + ma_k d)))) S w
  | .iadd => ma_i2 S fun x y S => k L (.inl (x + y) :: S) w
  | .isub => ma_i2 S fun x y S => k L (.inl (x - y) :: S) w
  | .imul => ma_i2 S fun x y S => k L (.inl (x * y) :: S) w
  | .iand => ma_i2 S fun x y S => k L (.inl (x &&& y) :: S) w
  | .ior => ma_i2 S fun x y S => k L (.inl (x ||| y) :: S) w
  | .ixor => ma_i2 S fun x y S => k L (.inl (x ^^^ y) :: S) w
  | .ishl => ma_i2 S fun x y S => k L (.inl (x <<< (y &&& 31)) :: S) w
  | .ishr => ma_i2 S fun x y S => k L (.inl (x >>> (y &&& 31)) :: S) w
  | .iushr => ma_i2 S fun x y S => k L (.inl ((x.toUInt32 >>> (y.toUInt32 &&& Int32.toUInt32 31)).toInt32) :: S) w
  | .idiv => ma_i2 S fun x y S => ¬ y = 0 ∧ k L (.inl (x / y) :: S) w
  | .irem => ma_i2 S fun x y S => ¬ y = 0 ∧ k L (.inl (x - x / y * y) :: S) w
  | .ineg => ma_i1 S fun x S => k L (.inl (-x) :: S) w
  | .dup => ma_1 S fun a S => k L (a :: a :: S) w
  | .dup2 => ma_1 S fun a S => ma_1 S fun b S => k L (a :: b :: a :: b :: S) w
  | .pop => ma_1 S fun _ S => k L S w
  | .goto d => Go (ma_tg pc d) L S w
  | .ifCond c d => ma_i1 S fun x S => (ma_cmp c x (nI 0) → Go (ma_tg pc d) L S w) ∧ (¬ ma_cmp c x (nI 0) → k L S w)
  | .if_icmp c d => ma_i2 S fun x y S => (ma_cmp c x y → Go (ma_tg pc d) L S w) ∧ (¬ ma_cmp c x y → k L S w)
  | .getfield j => ma_o (ma_look F j) fun q => ma_r1 S fun p S => ma_isk q.1 p (k L (ma_gf w p q.2.1 q.2.2 :: S) w)
  | .putfield j => ma_o (ma_look F j) fun q => ma_1 S fun v S => ma_r1 S fun p S => ma_isk q.1 p (ma_pf w p q.2.1 q.2.2 v fun w => k L S w)
  | .iaload => ma_i1 S fun i S => ma_r1 S fun p S => ma_ld sc w p i fun x => k L (.inl x :: S) w
  | .iastore => ma_i2 S fun i x S => ma_r1 S fun p S => ma_ark p fun m => ma_ix i m fun j => k L S (w.1, w.2.1, ma_up w.2.2 p j x)
  | .arraylength => ma_r1 S fun p S => ma_o sc fun q => p = q.1 ∧ k L (.inl (nI q.2.1) :: S) w
  | .invokevirtual j => ma_o (ma_look E j) fun q => ma_o q.2.1 fun c => ma_b (Nat.ble q.1 S.length && Nat.ble (S.drop q.1).length 8) (ma_o ((S.take q.1).getLast?) fun v => ma_R v fun p => ma_isk c p (q.2.2.2 (S.take q.1).reverse w fun x w => k L (ma_psh q.2.2.1 x (S.drop q.1)) w))
  | .invokestatic j => ma_o (ma_look E j) fun q => ma_b (q.2.1.isNone && (Nat.ble q.1 S.length && Nat.ble (S.drop q.1).length 8)) (q.2.2.2 (S.take q.1).reverse w fun x w => k L (ma_psh q.2.2.1 x (S.drop q.1)) w)
  | .tableswitch d lo hi offs => ma_i1 S fun x S => (x.toInt < lo ∨ hi < x.toInt → Go (ma_tg pc d) L S w) ∧ (¬ x.toInt < lo → ¬ hi < x.toInt → ma_o (offs[(x.toInt - lo).toNat]?) fun o => Go (ma_tg pc o) L S w)
  | .ireturn => ma_ir rt post S w
  | .return_ => ma_vr rt post S w
  | _ => False
/-- a run of instructions -/
def ma_wp (K : List (Nat × Int32)) (F : ma_F) (E : ma_E) (sc : ma_S) (rt : Nat) (post : ma_P) (Go : ma_G) : ma_C → Nat → ma_L → List ma_V → ma_W → Prop
  | [], pc, L, S, w => Go pc L S w
  | (i, n) :: r, pc, L, S, w => ma_stp K F E sc rt post Go i pc (fun L S w => ma_wp K F E sc rt post Go r (pc + n) L S w) L S w
/-- lengths and targets as the rows want them -/
def ma_lok (pc : Nat) (i : ClassFile.Instr) (n : Nat) : Bool := match i with
  | .iconst j => n == 1 && decide (Int32.ofInt j = ma_k j)
  | .bipush j => n == 2 && decide ((Int8.ofInt j).toInt32 = ma_k j)
  | .sipush j => n == 3 && decide ((Int16.ofInt j).toInt32 = ma_k j)
  | .iinc _ d => n == 3 && decide (Int32.ofInt d = ma_k d)
  | .ldc _ | .iload _ | .aload _ | .istore _ | .astore _ => n == 2
  | .ldc_w _ | .getfield _ | .putfield _ | .invokevirtual _ | .invokestatic _ => n == 3
  | .goto d | .ifCond _ d | .if_icmp _ d => n == 3 && decide (0 ≤ (pc : Int) + d)
  | .tableswitch d _ _ offs => decide (0 ≤ (pc : Int) + d) && offs.toList.all (fun o => decide (0 ≤ (pc : Int) + o))
  | _ => n == 1
def ma_dec (cc : ByteArray) : Nat → ma_C → Bool
  | _, [] => true
  | pc, (i, n) :: r => decide (decode cc pc = .ok (i, n)) && (ma_lok pc i n && ma_dec cc (pc + n) r)
end
section
/-! THE ABSTRACT MACHINE IS SOUND: a row for each instruction of the kit is used once, here. -/
/-- at this state the machine comes to its end Q -/
def ma_go (p : Program) (l : Launch) (e : Env) (R : Room) (s : State) (m : MethodId) (args : Array Value) (below : List Frame) (meth : Method) (c : Code) (cells slots : Nat) (Q : State → Prop) (D : va_G) (ad : Nat → Nat) (cA : ClassId) (A : Nat → Prop) : ma_G := fun pc L S w =>
  ∀ (H : Heap) (locs : List Loc) (ls : Array Slot), va_P D zc_cl (ma_cw ad cA w) H → va_S A s.heap H locs → ma_loc ad ls L → ls.size = c.maxLocals → W p l e R s m args below meth c H locs cells slots Q (F0 m pc ls (S.map (ma_cv ad)))
def ma_Kok (own : String) (Ts : List Cond) (K : List (Nat × Int32)) : Prop := ∀ q ∈ K, Cond.constant own q.1 q.2 ∈ Ts
def ma_tyk (ty : FieldType) (t : Nat) : Prop := (t = 0 ∧ ty = .int) ∨ (t = 1 ∧ ty = .boolean) ∨ (2 ≤ t ∧ ((∃ C, ty = .object C) ∨ ∃ a, ty = .array a))
def ma_Fok (own : String) (Ts : List Cond) (F : ma_F) : Prop := ∀ q ∈ F, ∃ (C : String) (T : u_T) (n : Nat) (ty : Nat → FieldType),
  zc_cl[q.2.1]? = some (C, T, n) ∧ (zc_fk q.2.1).length = n ∧ q.2.2.1 < n ∧ ((zc_fk q.2.1).getD q.2.2.1 0 = 2 ↔ 2 ≤ q.2.2.2) ∧ (∀ w ∈ u_ws C T n, w ∈ Ts) ∧ Cond.fieldLink own q.1 (T q.2.2.1).1 (T q.2.2.1).2.1 (T q.2.2.1).2.2.1 ∈ Ts ∧ (∀ k, k < n → parseFieldDescriptor (T k).2.2.1 = some (ty k)) ∧ (∀ a, a < n → ∀ b, b < n → a ≠ b → (T a).2.1 ≠ (T b).2.1) ∧ ma_tyk (ty q.2.2.1) q.2.2.2 ∧ (q.2.2.2 < 3 → (T q.2.2.1).2.2.2 = false)
def ma_rm (d : Nat) : Room := { frames := d, cells := 0, slots := 0, locals := 60 * d }
def ma_rv (rv : Bool) (x : Int32) : Option Value := match rv with
  | true => some (.int x)
  | false => none
def ma_Q (D : va_G) (ad : Nat → Nat) (cA : ClassId) (A : Nat → Prop) (rv : Bool) (post : ma_P) : Array Value → State → Outcome → State → Prop := fun _ st oc t =>
  (∃ (x : Int32) (w : ma_W), oc = .returned (ma_rv rv x) ∧ post x w ∧ va_P D zc_cl (ma_cw ad cA w) t.heap) ∧ va_F A st t
/-- a method's contract by its transformer; d: how many frames lie above it at most -/
def ma_Met (l : Launch) (y : MethodName) (ws : List Cond) (d : Nat) (rv : Bool) (T : ma_T) : Prop :=
  ∀ (D : va_G) (ad : Nat → Nat) (cA : ClassId) (as : List ma_V) (w : ma_W) (sz : Nat) (post : ma_P), T as w post → ma_D ad →
    Met l y ws (ma_rm d) (va_Pc (as.map (ma_cv ad)) (fun U => U.heap.size = sz ∧ va_P D zc_cl (ma_cw ad cA w) U.heap ∧ va_K D zc_cl [(cA, .int)] U)) (ma_Q D ad cA (ma_A ad sz) rv post) 0 0 (ma_A ad sz)
/-- Math.min -/
def ma_min : ma_T := fun as w post => ∃ x y, as = [.inl x, .inl y] ∧ post (if y < x then y else x) w
def ma_Eok (l : Launch) (own : String) (Ts : List Cond) (dep : Nat) (E : ma_E) : Prop := ∀ q ∈ E, (q.2 = (2, none, true, ma_min) ∧ Cond.methodLink own q.1 Lib.Math.min.name ∈ Ts ∧ Cond.static Lib.Math.min.name ∈ Ts ∧ Cond.initialized "java/lang/Math" ∈ Ts ∧ Cond.code Lib.Math.min.name Lib.Math.min.code 2 (some .int) ∈ Ts ∧ 1 ≤ dep) ∨ ∃ (y : MethodName) (bytes : ByteArray) (maxL d n : Nat) (ret : Option FieldType) (ws' : List Cond),
  ma_Met l y (Cond.code y bytes maxL ret :: ws') d q.2.2.2.1 q.2.2.2.2 ∧ GoodIn Ts (Cond.code y bytes maxL ret :: ws') ∧ d + 1 ≤ dep ∧ maxL ≤ 40 ∧ Cond.methodLink own q.1 y ∈ Ts ∧ Cond.initialized y.cls ∈ Ts ∧ (y.cls ≠ "java/lang/invoke/MethodHandle" ∧ y.cls ≠ "java/lang/invoke/VarHandle" ∧ (parseMethodDescriptor y.desc).map (fun d => d.parameters.length) = some n) ∧
  ((q.2.2.1 = none ∧ q.2.1 = n ∧ Cond.static y ∈ Ts) ∨ ∃ (c : Nat) (r : vw_C), q.2.2.1 = some c ∧ q.2.1 = n + 1 ∧ Cond.instanceMethod y ∈ Ts ∧ zc_cl[c]? = some r ∧ Cond.selects r.1 y y ∈ Ts)
theorem ma_tgt {pc : Nat} {d : Int} (h : 0 ≤ (pc : Int) + d) : (pc : Int) + d = (ma_tg pc d : Int) := (Int.toNat_of_nonneg h).symm
theorem ma_sum (ad : Nat → Nat) (S : List ma_V) : ((S.map (ma_cv ad)).map fun v => v.category).sum = S.length := by
  induction S with
  | nil => rfl
  | cons v S ih =>
    rw [List.map_cons, List.map_cons, List.sum_cons, ih, ma_cat, List.length_cons]
    omega
theorem ma_narb {x : Int32} (h : x = 0 ∨ x = 1) : narrow .boolean (.int x) = .int x := by
  rcases h with rfl | rfl <;> rfl
theorem ma_fitb {x : Int32} (h : x = 0 ∨ x = 1) : fits .boolean (.int x) = true := by
  rcases h with rfl | rfl <;> rfl
theorem ma_sl_len (ad : Nat → Nat) : ∀ as : List ma_V, (lg_sl (as.map (ma_cv ad))).length = as.length
  | [] => rfl
  | v :: as => by
    have h := ma_sl_len ad as
    have e : lg_sl ((v :: as).map (ma_cv ad)) = (if (ma_cv ad v).category = 2 then [Slot.val (ma_cv ad v), Slot.second] else [Slot.val (ma_cv ad v)]) ++ lg_sl (as.map (ma_cv ad)) := rfl
    rw [e, List.length_append, h, ma_cat, List.length_cons]
    simp
    omega
section MA2
variable {p : Program} {l : Launch} {e : Env} {R : Room} {s : State} {m : MethodId} {args : Array Value} {below : List Frame} {meth : Method} {c : Code} {cells slots : Nat} {Q : State → Prop}
variable {D : va_G} {ad : Nat → Nat} {cA : ClassId} {A : Nat → Prop} {cc : ByteArray} {own : String} {Ts : List Cond} {H : Heap} {locs : List Loc} {ls : Array Slot}
/-- behind a call -/
theorem ma_call {pc : Nat} {st0 rest : List Value} {A1 : Nat → Prop} {rv : Bool} {post : ma_P} {a : Array Value} (hr : va_Run p l e R s m args below meth c H locs cells slots 0 0 (F0 m pc ls st0) rest (ma_Q D ad cA A1 rv post a) A1) (hS : va_S A s.heap H locs) (hA : ∀ q, A1 q → A q)
    (kk : ∀ (x : Int32) (w : ma_W) (H1 : Heap) (locs1 : List Loc), post x w → va_P D zc_cl (ma_cw ad cA w) H1 → va_S A s.heap H1 locs1 → W p l e R s m args below meth c H1 locs1 cells slots Q (F0 m (pc + 3) ls ((ma_rv rv x).toList ++ rest))) : W p l e R s m args below meth c H locs cells slots Q (F0 m pc ls st0) := by
  intro T hT X
  obtain ⟨v, st₀, t, T', L, h0, X', hL, e1, e2, ⟨⟨x, w, hv, hp, hb⟩, hz, hk⟩, st⟩ := hr T hT X
  cases hv
  rw [h0] at hz hk
  obtain ⟨t2, a1, b1⟩ := kk x w T'.heap (locs ++ L) hp (by rw [e1]; exact hb)
    ⟨Nat.le_trans hS.1 (by rw [e1]; exact hz), fun q h1 h2 => by rw [e1, hk q (Nat.lt_of_lt_of_le h1 hS.1) (fun z => h2 (hA q z))]; exact hS.2.1 q h1 h2, fun q hq => by
      rcases List.mem_append.mp hq with h | h
      · exact hS.2.2 q h
      · exact hA _ (hL q h)⟩ T' rfl X'
  exact ⟨t2, st t2 a1, b1⟩
theorem ma_blind {av : List Value} {sz : Nat} {ws : va_W} {tys : List (ClassId × FieldType)} : FrameBlind (va_Pc av (fun U => U.heap.size = sz ∧ va_P D zc_cl ws U.heap ∧ va_K D zc_cl tys U)) := by
  intro a U g mk q
  obtain ⟨q0, q1, qP, qK⟩ := q
  exact ⟨q0, q1, qP, va_K.moved (u := U) (U := U.calling g mk a) (Vm.Alike.refl U.vm) qK⟩
variable {K : List (Nat × Int32)} {F : ma_F} {E : ma_E} {sc : ma_S} {rt : Nat} {post : ma_P} {dep : Nat}
set_option maxHeartbeats 4000000 in
set_option maxRecDepth 100000 in
/-- one instruction -/
theorem ma_one (hx : p.tables.exec = Jvm.exec) (hb : c.code = cc) (hown : s.vm.findClass own = some m.cls) (hts : ∀ w ∈ Ts, w.before args s = true) (hK : va_K D zc_cl [(cA, .int)] s) (hDD : ma_D ad) (hAA : ∀ q, ma_A ad s.heap.size q → A q)
    (hKo : ma_Kok own Ts K) (hFo : ma_Fok own Ts F) (hEo : ma_Eok l own Ts dep E) (hR : dep ≤ R.frames ∧ 60 * dep ≤ R.locals) (hcs : cells ≤ R.cells ∧ slots ≤ R.slots)
    (hsc : ∀ q, sc = some q → va_X (ad q.1) q.2.1 q.2.2 s s.heap ∧ ad q.1 < s.heap.size ∧ ¬ A (ad q.1) ∧ q.2.1 < 2 ^ 31)
    (hRi : ∀ (pc : Nat) (H : Heap) (locs : List Loc) (ls : Array Slot) (x : Int32) (w : ma_W), decode cc pc = .ok (.ireturn, 1) → va_P D zc_cl (ma_cw ad cA w) H → va_S A s.heap H locs → (rt = 1 ∨ (rt = 2 ∧ (x = 0 ∨ x = 1))) → post x w → W p l e R s m args below meth c H locs cells slots Q (F0 m pc ls [.int x]))
    (hRv : ∀ (pc : Nat) (H : Heap) (locs : List Loc) (ls : Array Slot) (w : ma_W), decode cc pc = .ok (.return_, 1) → va_P D zc_cl (ma_cw ad cA w) H → va_S A s.heap H locs → rt = 0 → post 0 w → W p l e R s m args below meth c H locs cells slots Q (F0 m pc ls []))
    {i : ClassFile.Instr} {n pc : Nat} {k : ma_L → List ma_V → ma_W → Prop} {L : ma_L} {S : List ma_V} {w : ma_W} (hdg : decode cc pc = .ok (i, n)) (hlk : ma_lok pc i n = true)
    (h : ma_stp K F E sc rt post (ma_go p l e R s m args below meth c cells slots Q D ad cA A) i pc k L S w)
    (hk : ∀ L S w, k L S w → ma_go p l e R s m args below meth c cells slots Q D ad cA A (pc + n) L S w) :
    ma_go p l e R s m args below meth c cells slots Q D ad cA A pc L S w := by
  have hA' : ∀ q, q < 33 → A (ad q) := fun q hq => hAA _ (Or.inl ⟨q, hq, rfl⟩)
  intro H locs ls hP hS hL hz
  have hD : ∀ w, va_D A (ma_cw ad cA w) := fun w => hDD.d hA'
  cases i
  case iconst j =>
    obtain ⟨rfl, hv⟩ : n = 1 ∧ Int32.ofInt j = ma_k j := by simpa [ma_lok] using hlk
    exact lv_iconst hx hb hdg hv (hk _ _ _ h H locs ls hP hS hL hz)
  case bipush j =>
    obtain ⟨rfl, hv⟩ : n = 2 ∧ (Int8.ofInt j).toInt32 = ma_k j := by simpa [ma_lok] using hlk
    exact lv_bipush hx hb hdg hv (hk _ _ _ h H locs ls hP hS hL hz)
  case sipush j =>
    obtain ⟨rfl, hv⟩ : n = 3 ∧ (Int16.ofInt j).toInt32 = ma_k j := by simpa [ma_lok] using hlk
    exact lv_sipush hx hb hdg hv (hk _ _ _ h H locs ls hP hS hL hz)
  case ldc j =>
    obtain rfl : n = 2 := by simpa [ma_lok] using hlk
    obtain ⟨x, hl, h_1⟩ := ma_o_spec h
    exact lv_ldc hx hb hown (hts _ (hKo _ (ma_look_mem hl))) hdg (hk _ _ _ h_1 H locs ls hP hS hL hz)
  case ldc_w j =>
    obtain rfl : n = 3 := by simpa [ma_lok] using hlk
    obtain ⟨x, hl, h_1⟩ := ma_o_spec h
    exact lv_ldcw hx hb hown (hts _ (hKo _ (ma_look_mem hl))) hdg (hk _ _ _ h_1 H locs ls hP hS hL hz)
  case iload j =>
    obtain rfl : n = 2 := by simpa [ma_lok] using hlk
    obtain ⟨v, hl, h_1⟩ := ma_rd_spec h
    obtain ⟨x, rfl, h_2⟩ := ma_I_spec h_1
    exact lv_iload hx hb hdg (hL.2.2 j _ hl) (hk _ _ _ h_2 H locs ls hP hS hL hz)
  case iload_n j =>
    obtain rfl : n = 1 := by simpa [ma_lok] using hlk
    obtain ⟨v, hl, h_1⟩ := ma_rd_spec h
    obtain ⟨x, rfl, h_2⟩ := ma_I_spec h_1
    exact lv_iload_n hx hb hdg rfl (hL.2.2 j.val _ hl) (hk _ _ _ h_2 H locs ls hP hS hL hz)
  case aload j =>
    obtain rfl : n = 2 := by simpa [ma_lok] using hlk
    obtain ⟨v, hl, h_1⟩ := ma_rd_spec h
    obtain ⟨x, rfl, h_2⟩ := ma_R_spec h_1
    exact lv_aload hx hb hdg (hL.2.2 j _ hl) (hk _ _ _ h_2 H locs ls hP hS hL hz)
  case aload_n j =>
    obtain rfl : n = 1 := by simpa [ma_lok] using hlk
    obtain ⟨v, hl, h_1⟩ := ma_rd_spec h
    obtain ⟨x, rfl, h_2⟩ := ma_R_spec h_1
    exact lv_aload_n hx hb hdg rfl (hL.2.2 j.val _ hl) (hk _ _ _ h_2 H locs ls hP hS hL hz)
  case istore j =>
    obtain rfl : n = 2 := by simpa [ma_lok] using hlk
    obtain ⟨x, S, rfl, h_1⟩ := ma_i1_spec h
    obtain ⟨hj0, h_2⟩ := ma_b_spec h_1
    have hj := Nat.blt_eq.mp hj0
    exact lv_istore hx hb hdg hL.has hj rfl (fun ls' h' => hk _ _ _ h_2 H locs ls' hP hS (ma_loc.set (v := .inl x) h') (by rw [h'.1, ← hL.1]; exact hz))
  case istore_n j =>
    obtain rfl : n = 1 := by simpa [ma_lok] using hlk
    obtain ⟨x, S, rfl, h_1⟩ := ma_i1_spec h
    obtain ⟨hj0, h_2⟩ := ma_b_spec h_1
    have hj := Nat.blt_eq.mp hj0
    exact lv_istore_n hx hb hdg rfl hL.has hj rfl (fun ls' h' => hk _ _ _ h_2 H locs ls' hP hS (ma_loc.set (v := .inl x) h') (by rw [h'.1, ← hL.1]; exact hz))
  case astore j =>
    obtain rfl : n = 2 := by simpa [ma_lok] using hlk
    obtain ⟨x, S, rfl, h_1⟩ := ma_r1_spec h
    obtain ⟨hj0, h_2⟩ := ma_b_spec h_1
    have hj := Nat.blt_eq.mp hj0
    exact lv_astore hx hb hdg hL.has hj rfl (fun ls' h' => hk _ _ _ h_2 H locs ls' hP hS (ma_loc.set (v := .inr x) h') (by rw [h'.1, ← hL.1]; exact hz))
  case astore_n j =>
    obtain rfl : n = 1 := by simpa [ma_lok] using hlk
    obtain ⟨x, S, rfl, h_1⟩ := ma_r1_spec h
    obtain ⟨hj0, h_2⟩ := ma_b_spec h_1
    have hj := Nat.blt_eq.mp hj0
    exact lv_astore_n hx hb hdg rfl hL.has hj rfl (fun ls' h' => hk _ _ _ h_2 H locs ls' hP hS (ma_loc.set (v := .inr x) h') (by rw [h'.1, ← hL.1]; exact hz))
  case iinc j d =>
    obtain ⟨rfl, hv⟩ : n = 3 ∧ Int32.ofInt d = ma_k d := by simpa [ma_lok] using hlk
    obtain ⟨v, hl, h_1⟩ := ma_rd_spec h
    obtain ⟨x, rfl, h_2⟩ := ma_I_spec h_1
    obtain ⟨q, hq⟩ := List.getElem?_of_mem (ma_kn_mem.mpr ⟨j, .inl x, hl, rfl⟩ : (j, ma_cv ad (.inl x)) ∈ ma_kn ad L)
    exact lv_iinc hx hb hdg hL.has hq (by rw [hv]) (List.getElem?_eq_some_iff.mp hl).1 rfl (fun ls' h' => hk _ _ _ h_2 H locs ls' hP hS (ma_loc.set (v := .inl (x + ma_k d)) h') (by rw [h'.1, ← hL.1]; exact hz))
  case iadd =>
    obtain rfl : n = 1 := by simpa [ma_lok] using hlk
    obtain ⟨x, y, S, rfl, h_1⟩ := ma_i2_spec h
    exact lv_iadd hx hb hdg (hk _ _ _ h_1 H locs ls hP hS hL hz)
  case isub =>
    obtain rfl : n = 1 := by simpa [ma_lok] using hlk
    obtain ⟨x, y, S, rfl, h_1⟩ := ma_i2_spec h
    exact lv_isub hx hb hdg (hk _ _ _ h_1 H locs ls hP hS hL hz)
  case imul =>
    obtain rfl : n = 1 := by simpa [ma_lok] using hlk
    obtain ⟨x, y, S, rfl, h_1⟩ := ma_i2_spec h
    exact lv_imul hx hb hdg (hk _ _ _ h_1 H locs ls hP hS hL hz)
  case iand =>
    obtain rfl : n = 1 := by simpa [ma_lok] using hlk
    obtain ⟨x, y, S, rfl, h_1⟩ := ma_i2_spec h
    exact lv_iand hx hb hdg (hk _ _ _ h_1 H locs ls hP hS hL hz)
  case ior =>
    obtain rfl : n = 1 := by simpa [ma_lok] using hlk
    obtain ⟨x, y, S, rfl, h_1⟩ := ma_i2_spec h
    exact lv_ior hx hb hdg (hk _ _ _ h_1 H locs ls hP hS hL hz)
  case ixor =>
    obtain rfl : n = 1 := by simpa [ma_lok] using hlk
    obtain ⟨x, y, S, rfl, h_1⟩ := ma_i2_spec h
    exact lv_ixor hx hb hdg (hk _ _ _ h_1 H locs ls hP hS hL hz)
  case ishl =>
    obtain rfl : n = 1 := by simpa [ma_lok] using hlk
    obtain ⟨x, y, S, rfl, h_1⟩ := ma_i2_spec h
    exact lv_ishl hx hb hdg (hk _ _ _ h_1 H locs ls hP hS hL hz)
  case ishr =>
    obtain rfl : n = 1 := by simpa [ma_lok] using hlk
    obtain ⟨x, y, S, rfl, h_1⟩ := ma_i2_spec h
    exact lv_ishr hx hb hdg (hk _ _ _ h_1 H locs ls hP hS hL hz)
  case iushr =>
    obtain rfl : n = 1 := by simpa [ma_lok] using hlk
    obtain ⟨x, y, S, rfl, h_1⟩ := ma_i2_spec h
    exact lv_iushr hx hb hdg rfl (hk _ _ _ h_1 H locs ls hP hS hL hz)
  case idiv =>
    obtain rfl : n = 1 := by simpa [ma_lok] using hlk
    obtain ⟨x, y, S, rfl, h0, h_1⟩ := ma_i2_spec h
    exact lv_idiv hx hb hdg h0 (hk _ _ _ h_1 H locs ls hP hS hL hz)
  case irem =>
    obtain rfl : n = 1 := by simpa [ma_lok] using hlk
    obtain ⟨x, y, S, rfl, h0, h_1⟩ := ma_i2_spec h
    exact lv_irem hx hb hdg h0 (hk _ _ _ h_1 H locs ls hP hS hL hz)
  case ineg =>
    obtain rfl : n = 1 := by simpa [ma_lok] using hlk
    obtain ⟨x, S, rfl, h_1⟩ := ma_i1_spec h
    exact lv_ineg hx hb hdg (hk _ _ _ h_1 H locs ls hP hS hL hz)
  case dup =>
    obtain rfl : n = 1 := by simpa [ma_lok] using hlk
    obtain ⟨a, S, rfl, h_1⟩ := ma_1_spec h
    exact lv_dup hx hb hdg (ma_cat ad a) (hk _ _ _ h_1 H locs ls hP hS hL hz)
  case dup2 =>
    obtain rfl : n = 1 := by simpa [ma_lok] using hlk
    obtain ⟨a, S, rfl, h_1⟩ := ma_1_spec h
    obtain ⟨b, S, rfl, h_2⟩ := ma_1_spec h_1
    exact lv_dup2_11 hx hb hdg (ma_cat ad a) (ma_cat ad b) (hk _ _ _ h_2 H locs ls hP hS hL hz)
  case pop =>
    obtain rfl : n = 1 := by simpa [ma_lok] using hlk
    obtain ⟨a, S, rfl, h_1⟩ := ma_1_spec h
    exact lv_pop hx hb hdg (ma_cat ad a) (hk _ _ _ h_1 H locs ls hP hS hL hz)
  case goto d =>
    obtain ⟨rfl, h0⟩ : n = 3 ∧ 0 ≤ (pc : Int) + d := by simpa [ma_lok] using hlk
    exact lv_goto hx hb hdg (ma_tgt h0) (h H locs ls hP hS hL hz)
  case ifCond cd d =>
    obtain ⟨rfl, h0⟩ : n = 3 ∧ 0 ≤ (pc : Int) + d := by simpa [ma_lok] using hlk
    obtain ⟨x, S, rfl, ht, hf⟩ := ma_i1_spec h
    simp only [nI_0] at ht hf
    cases cd
    · exact lv_if_eq hx hb hdg (ma_tgt h0) (fun q => ht q H locs ls hP hS hL hz) (fun q => hk _ _ _ (hf q) H locs ls hP hS hL hz)
    · exact lv_if_ne hx hb hdg (ma_tgt h0) (fun q => ht q H locs ls hP hS hL hz) (fun q => hk _ _ _ (hf (fun z => z q)) H locs ls hP hS hL hz)
    · exact lv_if_lt hx hb hdg (ma_tgt h0) (fun q => ht q H locs ls hP hS hL hz) (fun q => hk _ _ _ (hf q) H locs ls hP hS hL hz)
    · exact lv_if_ge hx hb hdg (ma_tgt h0) (fun q => ht q H locs ls hP hS hL hz) (fun q => hk _ _ _ (hf q) H locs ls hP hS hL hz)
    · exact lv_if_gt hx hb hdg (ma_tgt h0) (fun q => ht q H locs ls hP hS hL hz) (fun q => hk _ _ _ (hf q) H locs ls hP hS hL hz)
    · exact lv_if_le hx hb hdg (ma_tgt h0) (fun q => ht q H locs ls hP hS hL hz) (fun q => hk _ _ _ (hf q) H locs ls hP hS hL hz)
  case if_icmp cd d =>
    obtain ⟨rfl, h0⟩ : n = 3 ∧ 0 ≤ (pc : Int) + d := by simpa [ma_lok] using hlk
    obtain ⟨x, y, S, rfl, ht, hf⟩ := ma_i2_spec h
    cases cd
    · exact lv_icmp_eq hx hb hdg (ma_tgt h0) (fun q => ht q H locs ls hP hS hL hz) (fun q => hk _ _ _ (hf q) H locs ls hP hS hL hz)
    · exact lv_icmp_ne hx hb hdg (ma_tgt h0) (fun q => ht q H locs ls hP hS hL hz) (fun q => hk _ _ _ (hf (fun z => z q)) H locs ls hP hS hL hz)
    · exact lv_icmp_lt hx hb hdg (ma_tgt h0) (fun q => ht q H locs ls hP hS hL hz) (fun q => hk _ _ _ (hf q) H locs ls hP hS hL hz)
    · exact lv_icmp_ge hx hb hdg (ma_tgt h0) (fun q => ht q H locs ls hP hS hL hz) (fun q => hk _ _ _ (hf q) H locs ls hP hS hL hz)
    · exact lv_icmp_gt hx hb hdg (ma_tgt h0) (fun q => ht q H locs ls hP hS hL hz) (fun q => hk _ _ _ (hf q) H locs ls hP hS hL hz)
    · exact lv_icmp_le hx hb hdg (ma_tgt h0) (fun q => ht q H locs ls hP hS hL hz) (fun q => hk _ _ _ (hf q) H locs ls hP hS hL hz)
  case getfield j =>
    obtain rfl : n = 3 := by simpa [ma_lok] using hlk
    obtain ⟨⟨ci, kf, t⟩, hl, h_1⟩ := ma_o_spec h
    obtain ⟨q, S, rfl, h_2⟩ := ma_r1_spec h_1
    obtain ⟨hq, hs, h_3⟩ := ma_isk_spec h_2
    obtain ⟨C, T, n, ty, hc, hlen, hkn, hkd, hin, hlink, -, -, -, -⟩ := hFo _ (ma_look_mem hl)
    dsimp only at hc hlen hkn hkd hlink hs h_3
    have hkl : kf < (zc_fk ci).length := by rw [hlen]; exact hkn
    have he : (ma_cw ad cA w)[q]? = some (ad q, .inr (ci, ma_fs ad w q (zc_fk ci))) := by rw [ma_cw_get hq, ma_el, hs]
    have hv : (ma_fs ad w q (zc_fk ci))[kf]? = some (ma_cv ad (ma_gf w q kf t)) := by
      rw [ma_fs_get _ _ _ _ hkl, ma_fv]
      by_cases ht : 2 ≤ t
      · rw [if_pos (hkd.mpr ht)]
        obtain ⟨t', rfl⟩ : ∃ t', t = t' + 2 := ⟨t - 2, by omega⟩
        rfl
      · rw [if_neg (fun z => ht (hkd.mp z))]
        have : t = 0 ∨ t = 1 := by omega
        rcases this with rfl | rfl <;> rfl
    exact va_get hx hb hts hin hown hK hP q he hc kf hkn (hts _ hlink) (fun _ h9 => h9) hv hdg (hk _ _ _ h_3 H locs ls hP hS hL hz)
  case putfield j =>
    obtain rfl : n = 3 := by simpa [ma_lok] using hlk
    obtain ⟨⟨ci, kf, t⟩, hl, h_1⟩ := ma_o_spec h
    obtain ⟨v, S, rfl, h_2⟩ := ma_1_spec h_1
    obtain ⟨q, S, rfl, h_3⟩ := ma_r1_spec h_2
    obtain ⟨hq, hs, h_4⟩ := ma_isk_spec h_3
    obtain ⟨C, T, n, ty, hc, hlen, hkn, hkd, hin, hlink, hty, hnm, htk, hfin⟩ := hFo _ (ma_look_mem hl)
    dsimp only at hc hlen hkn hkd hlink hs h_4 htk hfin
    have hkl : kf < (zc_fk ci).length := by rw [hlen]; exact hkn
    have he : (ma_cw ad cA w)[q]? = some (ad q, .inr (ci, ma_fs ad w q (zc_fk ci))) := by rw [ma_cw_get hq, ma_el, hs]
    have hint : ∀ x : Int32, t < 2 → (t = 1 → x = 0 ∨ x = 1) → k L S (ma_up w.1 q kf x, w.2) → W p l e R s m args below meth c H locs cells slots Q (F0 m pc ls (.int x :: .ref (ad q) :: S.map (ma_cv ad))) := by
      intro x ht hx1 h_9
      have hf : narrow (ty kf) (.int x) = .int x ∧ fits (ty kf) (.int x) = true := by
        rcases htk with ⟨h1, h2⟩ | ⟨h1, h2⟩ | ⟨h1, -⟩
        · rw [h2]; exact ⟨rfl, rfl⟩
        · rw [h2]; exact ⟨ma_narb (hx1 h1), ma_fitb (hx1 h1)⟩
        · omega
      refine va_put (v := .int x) hx hb hts hin ty hty hnm hown hK hP (hD w) hS q he hc kf hkn (hts _ hlink) (fun _ h9 => h9) (hfin (by omega)) (hty kf hkn) hf.1 hf.2 (by rw [ma_fs_len]; exact hkl) hdg (fun H1 locs1 hP1 _ hS1 => ?_)
      rw [ma_set_i hq hs hkl (fun z => by have := hkd.mp z; omega)] at hP1
      exact hk _ _ _ h_9 H1 locs1 ls hP1 hS1 hL hz
    have href : ∀ (y : Nat) (r : Nat × Nat), t = 2 → q = 0 → ci = 0 → kf < 12 → zr r 0 kf = y → (∀ a b, ¬ (a = 0 ∧ b = kf) → zr r a b = zr w.2.1 a b) → k L S (w.1, r, w.2.2) → W p l e R s m args below meth c H locs cells slots Q (F0 m pc ls (.ref (ad y) :: .ref (ad q) :: S.map (ma_cv ad))) := by
      intro y r ht hq0 hci hk12 hy hzr h_9
      subst ht hq0 hci
      have hf : narrow (ty kf) (.ref (ad y)) = .ref (ad y) ∧ fits (ty kf) (.ref (ad y)) = true := by
        rcases htk with ⟨h1, -⟩ | ⟨h1, -⟩ | ⟨-, ⟨C, h2⟩ | ⟨b, h2⟩⟩
        · cases h1
        · cases h1
        · rw [h2]; exact ⟨rfl, rfl⟩
        · rw [h2]; exact ⟨rfl, rfl⟩
      refine va_put (v := .ref (ad y)) hx hb hts hin ty hty hnm hown hK hP (hD w) hS 0 he hc kf hkn (hts _ hlink) (fun _ h9 => h9) (hfin (by omega)) (hty kf hkn) hf.1 hf.2 (by rw [ma_fs_len]; exact hkl) hdg (fun H1 locs1 hP1 _ hS1 => ?_)
      rw [ma_set_r hk12 hy hzr (hkd.mpr (Nat.le_refl 2))] at hP1
      exact hk _ _ _ h_9 H1 locs1 ls hP1 hS1 hL hz
    unfold ma_pf at h_4
    split at h_4
    · obtain ⟨x, rfl, h_5⟩ := ma_I_spec h_4
      exact hint x (by decide) (fun z => by cases z) h_5
    · obtain ⟨x, rfl, h1, h_5⟩ := ma_I_spec h_4
      exact hint x (by decide) (fun _ => h1) h_5
    · obtain ⟨y, rfl, h_5⟩ := ma_R_spec h_4
      unfold ma_pr at h_5
      split at h_5
      · rename_i hq0
        have hq0 := Nat.eq_of_beq_eq_true hq0
        subst hq0
        have hci : ci = 0 := (Sum.inl.inj hs).symm
        exact href y (y, w.2.1.2) rfl rfl hci (by decide) rfl (zr_5 y w.2.1) h_5
      · rename_i hq0
        have hq0 := Nat.eq_of_beq_eq_true hq0
        subst hq0
        have hci : ci = 0 := (Sum.inl.inj hs).symm
        exact href y (w.2.1.1, y) rfl rfl hci (by decide) rfl (zr_6 y w.2.1) h_5
      · exact h_5.elim
    · exact h_4.elim
  case iaload =>
    obtain rfl : n = 1 := by simpa [ma_lok] using hlk
    obtain ⟨i, S, rfl, h_1⟩ := ma_i1_spec h
    obtain ⟨q, S, rfl, h_2⟩ := ma_r1_spec h_1
    have hord : (ma_ark q fun n => ma_ix i n fun j => k L (.inl (w.2.2 q j) :: S) w) → W p l e R s m args below meth c H locs cells slots Q (F0 m pc ls (.int i :: .ref (ad q) :: S.map (ma_cv ad))) := by
      intro h_2
      obtain ⟨n, hs, j, hj, rfl, h_5⟩ := ma_ark_spec h_2
      have hq := zc_sh_r hs (by omega)
      have hn := zc_sh_s hs
      have he : (ma_cw ad cA w)[q]? = some (ad q, .inl (cA, n, .inl (w.2.2 q))) := by rw [ma_cw_get hq, ma_el, hs]
      refine va_iald hx hb hK hP q 0 he rfl (vp_in_nI hj hn) hdg ?_
      rw [nI_clamp (by omega)]
      exact hk _ _ _ h_5 H locs ls hP hS hL hz
    unfold ma_ld at h_2
    split at h_2
    · exact hord h_2
    · rename_i b n xs
      obtain ⟨hX, hbl, hbA, hnn⟩ := hsc _ rfl
      split at h_2
      · rename_i hqb
        have hqb := Nat.eq_of_beq_eq_true hqb
        subst hqb
        obtain ⟨j, hj, rfl, h_5⟩ := h_2
        refine va_sld hx hb hX hbl hbA hS (vp_in_nI hj hnn) hdg ?_
        dsimp only at hnn hj
        rw [nI_clamp (by omega)]
        exact hk _ _ _ h_5 H locs ls hP hS hL hz
      · exact hord h_2
  case iastore =>
    obtain rfl : n = 1 := by simpa [ma_lok] using hlk
    obtain ⟨i, x, S, rfl, h_1⟩ := ma_i2_spec h
    obtain ⟨q, S, rfl, h_2⟩ := ma_r1_spec h_1
    obtain ⟨n, hs, j, hj, rfl, h_3⟩ := ma_ark_spec h_2
    have hq := zc_sh_r hs (by omega)
    have hn := zc_sh_s hs
    have he : (ma_cw ad cA w)[q]? = some (ad q, .inl (cA, n, .inl (w.2.2 q))) := by rw [ma_cw_get hq, ma_el, hs]
    refine va_iast hx hb hK hP (hD w) hS q 0 he rfl (vp_in_nI hj hn) hdg (fun H1 locs1 hP1 _ hS1 => ?_)
    rw [nI_clamp (by omega), ma_set_a hq hs] at hP1
    exact hk _ _ _ h_3 H1 locs1 ls hP1 hS1 hL hz
  case arraylength =>
    obtain rfl : n = 1 := by simpa [ma_lok] using hlk
    obtain ⟨q, S, rfl, h_1⟩ := ma_r1_spec h
    obtain ⟨b, hb2, rfl, h_2⟩ := ma_o_spec h_1
    obtain ⟨hX, hbl, hbA, -⟩ := hsc _ hb2
    exact va_slen hx hb hX hbl hbA hS hdg (hk _ _ _ h_2 H locs ls hP hS hL hz)
  case invokevirtual j =>
    obtain rfl : n = 3 := by simpa [ma_lok] using hlk
    obtain ⟨⟨na, rc, rv, T⟩, hl, h_1⟩ := ma_o_spec h
    obtain ⟨ci, hrc, h_2⟩ := ma_o_spec h_1
    obtain ⟨hbb, h_3⟩ := ma_b_spec h_2
    obtain ⟨v, hv, h_4⟩ := ma_o_spec h_3
    obtain ⟨q, rfl, h_5⟩ := ma_R_spec h_4
    obtain ⟨hq, hs, h_6⟩ := ma_isk_spec h_5
    dsimp only at hrc hbb hv hs h_6
    rw [Bool.and_eq_true] at hbb
    have hn := Nat.le_of_ble_eq_true hbb.1
    have hlen := Nat.le_of_ble_eq_true hbb.2
    obtain ⟨ys, hys⟩ := List.getLast?_eq_some_iff.mp hv
    rcases hEo _ (ma_look_mem hl) with ⟨hmin, -⟩ | ⟨y, bytes, maxL, d, np, ret, ws', hM, hG, hd, hmx, hlink, hini, hnames, hkind⟩
    · cases hmin
      cases hrc
    · dsimp only at hM hkind hlink
      rcases hkind with ⟨h1, -⟩ | ⟨ci', r, h1, hna, hinst, hr, hsel⟩
      · rw [hrc] at h1; cases h1
      · obtain rfl : ci = ci' := Option.some.inj (hrc.symm.trans h1)
        have hS0 : S = ys ++ .inr q :: S.drop na := by
          have := (List.take_append_drop na S).symm
          rw [hys, List.append_assoc] at this
          exact this
        have hyl : ys.length = np := by
          have h2 : (S.take na).length = na := by rw [List.length_take]; omega
          rw [hys, List.length_append, List.length_singleton] at h2
          omega
        rw [hys, List.reverse_append] at h_6
        have he : (ma_cw ad cA w)[q]? = some (ad q, .inr (ci, ma_fs ad w q (zc_fk ci))) := by rw [ma_cw_get hq, ma_el, hs]
        have hst : S.map (ma_cv ad) = (ys.reverse.map (ma_cv ad)).reverse ++ .ref (ad q) :: (S.drop na).map (ma_cv ad) := by
          conv => lhs; rw [hS0]
          rw [List.map_append, List.map_cons, List.map_reverse, List.reverse_reverse]
          rfl
        have hRR : d + 1 ≤ R.frames ∧ 8 + (maxL + 11) + 60 * d ≤ R.locals := by omega
        rw [hst]
        refine ma_call (A := A) (va_runV (As := ys.reverse.map (ma_cv ad)) (rest := (S.drop na).map (ma_cv ad)) ⟨hx, hb, rfl, hown, hts⟩ (hM D ad cA (.inr q :: ys.reverse) w H.size _ h_6 hDD)
          ⟨callB_of np hts hG rfl rfl rfl (hts _ hini) (hts _ hlink) hnames hRR, hts _ hinst, hts _ hsel⟩
          ⟨ma_blind, va_recv hK hP hr he, fun U hU hW => ⟨rfl, by rw [hU], by rw [hU]; exact hP, va_K.moved hW.alike hK⟩⟩
          rfl (by rw [List.length_map, List.length_reverse]; exact hyl) hz rfl (lv_room (by rw [ma_sum]; exact hlen)) hdg ⟨hcs.1, hcs.2⟩) hS (fun q hq => ?_) (fun x w1 H1 locs1 hp hP1 hS1 => ?_)
        · rcases hq with hq | hq
          · exact hAA _ (Or.inl hq)
          · exact hAA _ (Or.inr (Nat.le_trans hS.1 hq))
        · have := hk _ _ _ hp H1 locs1 ls hP1 hS1 hL hz
          cases rv <;> exact this
  case invokestatic j =>
    obtain rfl : n = 3 := by simpa [ma_lok] using hlk
    obtain ⟨⟨na, rc, rv, T⟩, hl, h_1⟩ := ma_o_spec h
    obtain ⟨hbb, h_2⟩ := ma_b_spec h_1
    dsimp only at hbb h_2
    rw [Bool.and_eq_true, Bool.and_eq_true] at hbb
    have hrc := Option.isNone_iff_eq_none.mp hbb.1
    have hn := Nat.le_of_ble_eq_true hbb.2.1
    have hlen := Nat.le_of_ble_eq_true hbb.2.2
    rcases hEo _ (ma_look_mem hl) with ⟨hmin, hl1, hl2, hl3, hl4, hd1⟩ | ⟨y, bytes, maxL, d, np, ret, ws', hM, hG, hd, hmx, hlink, hini, hnames, hkind⟩
    · cases hmin
      obtain ⟨x, y, hxy, h_3⟩ := h_2
      have hS0 : S = .inl y :: .inl x :: S.drop 2 := by
        have h9 := congrArg List.reverse hxy
        rw [List.reverse_reverse] at h9
        have := (List.take_append_drop 2 S).symm
        rw [h9] at this
        exact this
      have hst : S.map (ma_cv ad) = .int y :: .int x :: (S.drop 2).map (ma_cv ad) := by
        conv => lhs; rw [hS0]
        rfl
      rw [hst]
      exact va_mmin hx hb hz.symm hown (hts _ hl1) (hts _ hl2) (hts _ hl3) (hts _ hl4) (by omega) (by rw [ma_sum]; omega) hcs.1 hcs.2 hdg (hk _ _ _ h_3 H locs ls hP hS hL hz)
    · dsimp only at hM hkind hlink
      rcases hkind with ⟨-, hna, hstat⟩ | ⟨ci', r, h1, -⟩
      · have hyl : (S.take na).length = np := by rw [List.length_take]; omega
        have hst : S.map (ma_cv ad) = ((S.take na).reverse.map (ma_cv ad)).reverse ++ (S.drop na).map (ma_cv ad) := by
          rw [List.map_reverse, List.reverse_reverse, ← List.map_append, List.take_append_drop]
        have hRR : d + 1 ≤ R.frames ∧ 8 + (maxL + 11) + 60 * d ≤ R.locals := by omega
        rw [hst]
        refine ma_call (A := A) (va_runS (As := (S.take na).reverse.map (ma_cv ad)) (rest := (S.drop na).map (ma_cv ad)) ⟨hx, hb, rfl, hown, hts⟩ (hM D ad cA (S.take na).reverse w H.size _ h_2 hDD)
          ⟨callB_of np hts hG rfl rfl rfl (hts _ hini) (hts _ hlink) hnames hRR, hts _ hstat⟩
          ⟨ma_blind, fun U hU hW => ⟨rfl, by rw [hU], by rw [hU]; exact hP, va_K.moved hW.alike hK⟩⟩
          rfl (by rw [List.length_map, List.length_reverse]; exact hyl) hz rfl (lv_room (by rw [ma_sum]; exact hlen)) hdg ⟨hcs.1, hcs.2⟩) hS (fun q hq => ?_) (fun x w1 H1 locs1 hp hP1 hS1 => ?_)
        · rcases hq with hq | hq
          · exact hAA _ (Or.inl hq)
          · exact hAA _ (Or.inr (Nat.le_trans hS.1 hq))
        · have := hk _ _ _ hp H1 locs1 ls hP1 hS1 hL hz
          cases rv <;> exact this
      · rw [hrc] at h1; cases h1
  case tableswitch d lo hi offs =>
    obtain ⟨h0, hoff⟩ : 0 ≤ (pc : Int) + d ∧ ∀ o ∈ offs.toList, 0 ≤ (pc : Int) + o := by
      simp only [ma_lok, Bool.and_eq_true, decide_eq_true_eq, List.all_eq_true] at hlk
      exact hlk
    obtain ⟨x, S, rfl, h1, h2⟩ := ma_i1_spec h
    by_cases hout : x.toInt < lo ∨ hi < x.toInt
    · exact lv_tableOut hx hb hdg hout (ma_tgt h0) (h1 hout H locs ls hP hS hL hz)
    · have ha : ¬ x.toInt < lo := fun z => hout (Or.inl z)
      have hb' : ¬ hi < x.toInt := fun z => hout (Or.inr z)
      obtain ⟨o, ho, hgo⟩ := ma_o_spec (h2 ha hb')
      have hmem : o ∈ offs.toList := by
        have := Array.mem_of_getElem? ho
        exact Array.mem_toList_iff.mpr this
      exact lv_tableIn hx hb hdg ha hb' ho (ma_tgt (hoff o hmem)) (hgo H locs ls hP hS hL hz)
  case ireturn =>
    obtain rfl : n = 1 := by simpa [ma_lok] using hlk
    obtain ⟨x, rfl, h_1, h_2⟩ := ma_ir_spec h
    exact hRi pc H locs ls _ w hdg hP hS h_1 h_2
  case return_ =>
    obtain rfl : n = 1 := by simpa [ma_lok] using hlk
    obtain ⟨rfl, h_1, h_2⟩ := ma_vr_spec h
    exact hRv pc H locs ls w hdg hP hS h_1 h_2
  all_goals exact False.elim h
set_option maxHeartbeats 4000000 in
/-- a run of instructions -/
theorem ma_run (hx : p.tables.exec = Jvm.exec) (hb : c.code = cc) (hown : s.vm.findClass own = some m.cls) (hts : ∀ w ∈ Ts, w.before args s = true) (hK : va_K D zc_cl [(cA, .int)] s) (hDD : ma_D ad) (hAA : ∀ q, ma_A ad s.heap.size q → A q)
    (hKo : ma_Kok own Ts K) (hFo : ma_Fok own Ts F) (hEo : ma_Eok l own Ts dep E) (hR : dep ≤ R.frames ∧ 60 * dep ≤ R.locals) (hcs : cells ≤ R.cells ∧ slots ≤ R.slots)
    (hsc : ∀ q, sc = some q → va_X (ad q.1) q.2.1 q.2.2 s s.heap ∧ ad q.1 < s.heap.size ∧ ¬ A (ad q.1) ∧ q.2.1 < 2 ^ 31)
    (hRi : ∀ (pc : Nat) (H : Heap) (locs : List Loc) (ls : Array Slot) (x : Int32) (w : ma_W), decode cc pc = .ok (.ireturn, 1) → va_P D zc_cl (ma_cw ad cA w) H → va_S A s.heap H locs → (rt = 1 ∨ (rt = 2 ∧ (x = 0 ∨ x = 1))) → post x w → W p l e R s m args below meth c H locs cells slots Q (F0 m pc ls [.int x]))
    (hRv : ∀ (pc : Nat) (H : Heap) (locs : List Loc) (ls : Array Slot) (w : ma_W), decode cc pc = .ok (.return_, 1) → va_P D zc_cl (ma_cw ad cA w) H → va_S A s.heap H locs → rt = 0 → post 0 w → W p l e R s m args below meth c H locs cells slots Q (F0 m pc ls [])) :
    ∀ (seg : ma_C) (pc : Nat), ma_dec cc pc seg = true → ∀ (L : ma_L) (S : List ma_V) (w : ma_W), ma_wp K F E sc rt post (ma_go p l e R s m args below meth c cells slots Q D ad cA A) seg pc L S w → ma_go p l e R s m args below meth c cells slots Q D ad cA A pc L S w := by
  intro seg
  induction seg with
  | nil => intro pc _ L S w h; exact h
  | cons q r ih =>
    obtain ⟨i, n⟩ := q
    intro pc hd L S w h
    simp only [ma_dec, Bool.and_eq_true, decide_eq_true_eq] at hd
    obtain ⟨hdg, hlk, hdr⟩ := hd
    exact ma_one hx hb hown hts hK hDD hAA hKo hFo hEo hR hcs hsc hRi hRv hdg hlk h (fun L S w h => ih (pc + n) hdr L S w h)
end MA2
/-- a predicate that is closed backwards under a method's runs of instructions -/
def ma_cl (K : List (Nat × Int32)) (F : ma_F) (E : ma_E) (sc : ma_S) (rt : Nat) (segs : List (Nat × ma_C)) (post : ma_P) (Go : ma_G) : Prop :=
  ∀ (i pc : Nat) (seg : ma_C), segs[i]? = some (pc, seg) → ∀ (L : ma_L) (S : List ma_V) (w : ma_W), ma_wp K F E sc rt post Go seg pc L S w → Go pc L S w
theorem ma_segs {cc : ByteArray} {segs : List (Nat × ma_C)} (h : segs.all (fun q => ma_dec cc q.1 q.2) = true) {i pc : Nat} {seg : ma_C} (hi : segs[i]? = some (pc, seg)) : ma_dec cc pc seg = true := List.all_eq_true.mp h _ (List.mem_of_getElem? hi)
set_option maxHeartbeats 4000000 in
/-- A METHOD'S CONTRACT from its body's -/
theorem ma_met {l : Launch} {y : MethodName} {cc : ByteArray} {maxL : Nat} {ret : Option FieldType} {ws' : List Cond} {K : List (Nat × Int32)} {F : ma_F} {E : ma_E} {rt : Nat} {rv : Bool} {segs : List (Nat × ma_C)} {dep : Nat} {T : ma_T}
    (hy : plainName y.cls = true) (hseg : segs.all (fun q => ma_dec cc q.1 q.2) = true) (hret : (ret = none ∧ rt = 0 ∧ rv = false) ∨ (ret = some .int ∧ rt = 1 ∧ rv = true) ∨ (ret = some .boolean ∧ rt = 2 ∧ rv = true))
    (hKo : ma_Kok y.cls (Cond.code y cc maxL ret :: ws') K) (hFo : ma_Fok y.cls (Cond.code y cc maxL ret :: ws') F) (hEo : ma_Eok l y.cls (Cond.code y cc maxL ret :: ws') dep E)
    (hT : ∀ as w post, T as w post → as.length ≤ maxL)
    (hpost : ∀ as w post, T as w post → ∀ Go, ma_cl K F E none rt segs post Go → Go 0 (as.map some ++ List.replicate (maxL - as.length) none) [] w) :
    ma_Met l y (Cond.code y cc maxL ret :: ws') dep rv T := by
  intro D ad cA as w sz post hTp hDD
  refine Met.ofW (cc := cc) (maxL := maxL) (ret := ret) hy rfl ?_
  intro p e s m args below meth c s₁ B hml hv
  obtain ⟨rfl, hsz, hP, hK⟩ := hv
  subst hsz
  have hx := B.exec
  have hb := B.bytes
  have hr := B.returns
  have hts := atoms_spec (ws := Cond.code y cc maxL ret :: ws') B.pre
  have hown : s.vm.findClass y.cls = some m.cls := findClass_of_methodNamed B.named
  have hlocks := B.notSynchronized
  have hlen := hT as w post hTp
  have hsl : (lg_sl (as.map (ma_cv ad))).length = as.length := by
    exact ma_sl_len ad as
  have hl := lv_entry (as.map (ma_cv ad)) (n := maxL) (by rw [hsl]; exact hlen)
  rw [lg_entry_eq]
  generalize (lg_sl (as.map (ma_cv ad)) ++ List.replicate (maxL - (lg_sl (as.map (ma_cv ad))).length) Slot.unset).toArray = ls at hl ⊢
  have hargs : ∀ (as : List ma_V) (i k : Nat) (v : ma_V), as[k]? = some v → (i + k, ma_cv ad v) ∈ lv_args i (as.map (ma_cv ad)) := by
    intro as
    induction as with
    | nil => intro i k v h; simp at h
    | cons a as ih =>
      intro i k v h
      rw [List.map_cons]
      simp only [lv_args, ma_cat]
      cases k with
      | zero => simp at h; subst h; exact List.mem_cons_self
      | succ k =>
        rw [List.getElem?_cons_succ] at h
        have := ih (i + 1) k v h
        rw [show i + (k + 1) = i + 1 + k by omega]
        exact List.mem_cons_of_mem _ (by simpa using this)
  have hloc : ma_loc ad ls (as.map some ++ List.replicate (maxL - as.length) none) := by
    refine ⟨by rw [hl.1]; simp; omega, hl.2.1, fun k v hk => ?_⟩
    by_cases hka : k < as.length
    · rw [List.getElem?_append_left (by simpa using hka), List.getElem?_map] at hk
      cases hq : as[k]? with
      | none => rw [hq] at hk; cases hk
      | some u =>
        rw [hq] at hk
        cases hk
        have := hl.2.2 _ (hargs as 0 k v hq)
        simpa using this
    · rw [List.getElem?_append_right (by simp; omega)] at hk
      have := List.mem_of_getElem? hk
      rw [List.mem_replicate] at this
      cases this.2
  have hgo : ma_go p l e (headSpec (Cond.code y cc maxL ret :: ws') (ma_rm dep)).room s m (as.map (ma_cv ad)).toArray below meth c 0 0 (MQ below (ma_Q D ad cA (ma_A ad s.heap.size) rv post) (as.map (ma_cv ad)).toArray s 0 0 (ma_A ad s.heap.size)) D ad cA (ma_A ad s.heap.size) 0 (as.map some ++ List.replicate (maxL - as.length) none) [] w := by
    refine hpost as w post hTp _ (fun i pc seg hi => ma_run hx hb hown hts hK hDD (fun _ h => h) hKo hFo hEo ⟨Nat.le_refl _, Nat.le_refl _⟩ ⟨Nat.le_refl _, Nat.le_refl _⟩ (fun q h => by cases h) ?_ ?_ seg pc (ma_segs hseg hi))
    · intro pc H locs ls x w hdg hP hS hrb hp
      rcases hret with ⟨-, h1, -⟩ | ⟨h1, -, h3⟩ | ⟨h1, h2, h3⟩
      · rcases hrb with h | ⟨h, -⟩
        · rw [h1] at h; cases h
        · rw [h1] at h; cases h
      · subst h3
        have hq : ∀ t : State, t.heap = H → s.WarmedH t.vm → ma_Q D ad cA (ma_A ad s.heap.size) true post (as.map (ma_cv ad)).toArray s (.returned (some (.int x))) t := fun t ht _ => ⟨⟨x, w, rfl, hp, by rw [ht]; exact hP⟩, hS.F ht⟩
        exact W.iret hx hb (hr.trans h1) hq hS.2.2 hdg
      · subst h3
        have hq : ∀ t : State, t.heap = H → s.WarmedH t.vm → ma_Q D ad cA (ma_A ad s.heap.size) true post (as.map (ma_cv ad)).toArray s (.returned (some (.int x))) t := fun t ht _ => ⟨⟨x, w, rfl, hp, by rw [ht]; exact hP⟩, hS.F ht⟩
        refine W.zret hx hb (hr.trans h1) (ma_narb ?_) hq hS.2.2 hdg
        rcases hrb with h | ⟨-, h⟩
        · rw [h2] at h; cases h
        · exact h
    · intro pc H locs ls w hdg hP hS hr0 hp
      rcases hret with ⟨h1, -, h3⟩ | ⟨-, h2, -⟩ | ⟨-, h2, -⟩
      · subst h3
        have hq : ∀ t : State, t.heap = H → s.WarmedH t.vm → ma_Q D ad cA (ma_A ad s.heap.size) false post (as.map (ma_cv ad)).toArray s (.returned none) t := fun t ht _ => ⟨⟨0, w, rfl, hp, by rw [ht]; exact hP⟩, hS.F ht⟩
        exact W.vret hx hb (hr.trans h1) hq hS.2.2 hdg
      · rw [hr0] at h2; cases h2
      · rw [hr0] at h2; cases h2
  exact hgo s.heap [] ls hP va_S.rf hloc (by rw [hl.1]; exact hml.symm)
end
section
/-! METHODS, by program: code, names, segments, fields and callees -/
def zf_PC : ma_F := [(10, 0, 1, 3), (16, 1, 0, 3), (20, 0, 0, 3), (24, 0, 2, 3), (28, 0, 3, 3), (31, 0, 4, 3), (37, 0, 5, 2), (41, 0, 6, 2), (44, 0, 7, 0), (48, 0, 8, 0), (51, 0, 9, 1), (55, 0, 10, 1), (58, 0, 11, 1)]
theorem zf_PC_ok {z : Cond} : ma_Fok zc_PC (z :: zw_t) zf_PC := by
  refine List.forall_mem_cons.mpr ⟨?_, List.forall_mem_cons.mpr ⟨?_, List.forall_mem_cons.mpr ⟨?_, List.forall_mem_cons.mpr ⟨?_, List.forall_mem_cons.mpr ⟨?_, List.forall_mem_cons.mpr ⟨?_, List.forall_mem_cons.mpr ⟨?_, List.forall_mem_cons.mpr ⟨?_, List.forall_mem_cons.mpr ⟨?_, List.forall_mem_cons.mpr ⟨?_, List.forall_mem_cons.mpr ⟨?_, List.forall_mem_cons.mpr ⟨?_, List.forall_mem_cons.mpr ⟨?_, fun _ h => absurd h List.not_mem_nil⟩⟩⟩⟩⟩⟩⟩⟩⟩⟩⟩⟩⟩
  · exact ⟨zc_PC, zt_PC, 12, zy_PC, rfl, rfl, by decide, by decide, fun w h => List.mem_cons_of_mem _ (zi_PC w h), List.mem_cons_of_mem _ (zw_m (i := 144) (by decide +kernel) (by decide +kernel)), zo_PC, zn_PC, Or.inr (Or.inr ⟨by decide, Or.inl ⟨_, rfl⟩⟩), by decide⟩
  · exact ⟨zc_FO, zt_FO, 9, zy_FO, rfl, rfl, by decide, by decide, fun w h => List.mem_cons_of_mem _ (zi_FO w h), List.mem_cons_of_mem _ (zw_m (i := 80) (by decide +kernel) (by decide +kernel)), zo_FO, zn_FO, Or.inr (Or.inr ⟨by decide, Or.inl ⟨_, rfl⟩⟩), by decide⟩
  · exact ⟨zc_PC, zt_PC, 12, zy_PC, rfl, rfl, by decide, by decide, fun w h => List.mem_cons_of_mem _ (zi_PC w h), List.mem_cons_of_mem _ (zw_m (i := 143) (by decide +kernel) (by decide +kernel)), zo_PC, zn_PC, Or.inr (Or.inr ⟨by decide, Or.inl ⟨_, rfl⟩⟩), by decide⟩
  · exact ⟨zc_PC, zt_PC, 12, zy_PC, rfl, rfl, by decide, by decide, fun w h => List.mem_cons_of_mem _ (zi_PC w h), List.mem_cons_of_mem _ (zw_m (i := 145) (by decide +kernel) (by decide +kernel)), zo_PC, zn_PC, Or.inr (Or.inr ⟨by decide, Or.inl ⟨_, rfl⟩⟩), by decide⟩
  · exact ⟨zc_PC, zt_PC, 12, zy_PC, rfl, rfl, by decide, by decide, fun w h => List.mem_cons_of_mem _ (zi_PC w h), List.mem_cons_of_mem _ (zw_m (i := 146) (by decide +kernel) (by decide +kernel)), zo_PC, zn_PC, Or.inr (Or.inr ⟨by decide, Or.inl ⟨_, rfl⟩⟩), by decide⟩
  · exact ⟨zc_PC, zt_PC, 12, zy_PC, rfl, rfl, by decide, by decide, fun w h => List.mem_cons_of_mem _ (zi_PC w h), List.mem_cons_of_mem _ (zw_m (i := 147) (by decide +kernel) (by decide +kernel)), zo_PC, zn_PC, Or.inr (Or.inr ⟨by decide, Or.inl ⟨_, rfl⟩⟩), by decide⟩
  · exact ⟨zc_PC, zt_PC, 12, zy_PC, rfl, rfl, by decide, by decide, fun w h => List.mem_cons_of_mem _ (zi_PC w h), List.mem_cons_of_mem _ (zw_m (i := 148) (by decide +kernel) (by decide +kernel)), zo_PC, zn_PC, Or.inr (Or.inr ⟨by decide, Or.inl ⟨_, rfl⟩⟩), by decide⟩
  · exact ⟨zc_PC, zt_PC, 12, zy_PC, rfl, rfl, by decide, by decide, fun w h => List.mem_cons_of_mem _ (zi_PC w h), List.mem_cons_of_mem _ (zw_m (i := 149) (by decide +kernel) (by decide +kernel)), zo_PC, zn_PC, Or.inr (Or.inr ⟨by decide, Or.inl ⟨_, rfl⟩⟩), by decide⟩
  · exact ⟨zc_PC, zt_PC, 12, zy_PC, rfl, rfl, by decide, by decide, fun w h => List.mem_cons_of_mem _ (zi_PC w h), List.mem_cons_of_mem _ (zw_m (i := 150) (by decide +kernel) (by decide +kernel)), zo_PC, zn_PC, Or.inl ⟨rfl, rfl⟩, by decide⟩
  · exact ⟨zc_PC, zt_PC, 12, zy_PC, rfl, rfl, by decide, by decide, fun w h => List.mem_cons_of_mem _ (zi_PC w h), List.mem_cons_of_mem _ (zw_m (i := 151) (by decide +kernel) (by decide +kernel)), zo_PC, zn_PC, Or.inl ⟨rfl, rfl⟩, by decide⟩
  · exact ⟨zc_PC, zt_PC, 12, zy_PC, rfl, rfl, by decide, by decide, fun w h => List.mem_cons_of_mem _ (zi_PC w h), List.mem_cons_of_mem _ (zw_m (i := 152) (by decide +kernel) (by decide +kernel)), zo_PC, zn_PC, Or.inr (Or.inl ⟨rfl, rfl⟩), by decide⟩
  · exact ⟨zc_PC, zt_PC, 12, zy_PC, rfl, rfl, by decide, by decide, fun w h => List.mem_cons_of_mem _ (zi_PC w h), List.mem_cons_of_mem _ (zw_m (i := 153) (by decide +kernel) (by decide +kernel)), zo_PC, zn_PC, Or.inr (Or.inl ⟨rfl, rfl⟩), by decide⟩
  · exact ⟨zc_PC, zt_PC, 12, zy_PC, rfl, rfl, by decide, by decide, fun w h => List.mem_cons_of_mem _ (zi_PC w h), List.mem_cons_of_mem _ (zw_m (i := 154) (by decide +kernel) (by decide +kernel)), zo_PC, zn_PC, Or.inr (Or.inl ⟨rfl, rfl⟩), by decide⟩
def zf_FO : ma_F := [(12, 1, 0, 3), (18, 1, 1, 3), (22, 1, 2, 3), (25, 1, 3, 3), (28, 1, 4, 3), (31, 1, 5, 3), (38, 1, 7, 1), (46, 1, 8, 1), (66, 1, 6, 0)]
theorem zf_FO_ok {z : Cond} : ma_Fok zc_FO (z :: zw_t) zf_FO := by
  refine List.forall_mem_cons.mpr ⟨?_, List.forall_mem_cons.mpr ⟨?_, List.forall_mem_cons.mpr ⟨?_, List.forall_mem_cons.mpr ⟨?_, List.forall_mem_cons.mpr ⟨?_, List.forall_mem_cons.mpr ⟨?_, List.forall_mem_cons.mpr ⟨?_, List.forall_mem_cons.mpr ⟨?_, List.forall_mem_cons.mpr ⟨?_, fun _ h => absurd h List.not_mem_nil⟩⟩⟩⟩⟩⟩⟩⟩⟩
  · exact ⟨zc_FO, zt_FO, 9, zy_FO, rfl, rfl, by decide, by decide, fun w h => List.mem_cons_of_mem _ (zi_FO w h), List.mem_cons_of_mem _ (zw_m (i := 79) (by decide +kernel) (by decide +kernel)), zo_FO, zn_FO, Or.inr (Or.inr ⟨by decide, Or.inl ⟨_, rfl⟩⟩), by decide⟩
  · exact ⟨zc_FO, zt_FO, 9, zy_FO, rfl, rfl, by decide, by decide, fun w h => List.mem_cons_of_mem _ (zi_FO w h), List.mem_cons_of_mem _ (zw_m (i := 81) (by decide +kernel) (by decide +kernel)), zo_FO, zn_FO, Or.inr (Or.inr ⟨by decide, Or.inr ⟨_, rfl⟩⟩), by decide⟩
  · exact ⟨zc_FO, zt_FO, 9, zy_FO, rfl, rfl, by decide, by decide, fun w h => List.mem_cons_of_mem _ (zi_FO w h), List.mem_cons_of_mem _ (zw_m (i := 82) (by decide +kernel) (by decide +kernel)), zo_FO, zn_FO, Or.inr (Or.inr ⟨by decide, Or.inr ⟨_, rfl⟩⟩), by decide⟩
  · exact ⟨zc_FO, zt_FO, 9, zy_FO, rfl, rfl, by decide, by decide, fun w h => List.mem_cons_of_mem _ (zi_FO w h), List.mem_cons_of_mem _ (zw_m (i := 83) (by decide +kernel) (by decide +kernel)), zo_FO, zn_FO, Or.inr (Or.inr ⟨by decide, Or.inr ⟨_, rfl⟩⟩), by decide⟩
  · exact ⟨zc_FO, zt_FO, 9, zy_FO, rfl, rfl, by decide, by decide, fun w h => List.mem_cons_of_mem _ (zi_FO w h), List.mem_cons_of_mem _ (zw_m (i := 84) (by decide +kernel) (by decide +kernel)), zo_FO, zn_FO, Or.inr (Or.inr ⟨by decide, Or.inr ⟨_, rfl⟩⟩), by decide⟩
  · exact ⟨zc_FO, zt_FO, 9, zy_FO, rfl, rfl, by decide, by decide, fun w h => List.mem_cons_of_mem _ (zi_FO w h), List.mem_cons_of_mem _ (zw_m (i := 85) (by decide +kernel) (by decide +kernel)), zo_FO, zn_FO, Or.inr (Or.inr ⟨by decide, Or.inr ⟨_, rfl⟩⟩), by decide⟩
  · exact ⟨zc_FO, zt_FO, 9, zy_FO, rfl, rfl, by decide, by decide, fun w h => List.mem_cons_of_mem _ (zi_FO w h), List.mem_cons_of_mem _ (zw_m (i := 87) (by decide +kernel) (by decide +kernel)), zo_FO, zn_FO, Or.inr (Or.inl ⟨rfl, rfl⟩), by decide⟩
  · exact ⟨zc_FO, zt_FO, 9, zy_FO, rfl, rfl, by decide, by decide, fun w h => List.mem_cons_of_mem _ (zi_FO w h), List.mem_cons_of_mem _ (zw_m (i := 88) (by decide +kernel) (by decide +kernel)), zo_FO, zn_FO, Or.inr (Or.inl ⟨rfl, rfl⟩), by decide⟩
  · exact ⟨zc_FO, zt_FO, 9, zy_FO, rfl, rfl, by decide, by decide, fun w h => List.mem_cons_of_mem _ (zi_FO w h), List.mem_cons_of_mem _ (zw_m (i := 86) (by decide +kernel) (by decide +kernel)), zo_FO, zn_FO, Or.inl ⟨rfl, rfl⟩, by decide⟩
def zf_GR : ma_F := [(9, 2, 0, 3), (15, 2, 1, 3), (18, 2, 2, 0), (22, 2, 3, 0), (25, 2, 4, 0)]
theorem zf_GR_ok {z : Cond} : ma_Fok zc_GR (z :: zw_t) zf_GR := by
  refine List.forall_mem_cons.mpr ⟨?_, List.forall_mem_cons.mpr ⟨?_, List.forall_mem_cons.mpr ⟨?_, List.forall_mem_cons.mpr ⟨?_, List.forall_mem_cons.mpr ⟨?_, fun _ h => absurd h List.not_mem_nil⟩⟩⟩⟩⟩
  · exact ⟨zc_GR, zt_GR, 5, zy_GR, rfl, rfl, by decide, by decide, fun w h => List.mem_cons_of_mem _ (zi_GR w h), List.mem_cons_of_mem _ (zw_m (i := 62) (by decide +kernel) (by decide +kernel)), zo_GR, zn_GR, Or.inr (Or.inr ⟨by decide, Or.inr ⟨_, rfl⟩⟩), by decide⟩
  · exact ⟨zc_GR, zt_GR, 5, zy_GR, rfl, rfl, by decide, by decide, fun w h => List.mem_cons_of_mem _ (zi_GR w h), List.mem_cons_of_mem _ (zw_m (i := 63) (by decide +kernel) (by decide +kernel)), zo_GR, zn_GR, Or.inr (Or.inr ⟨by decide, Or.inr ⟨_, rfl⟩⟩), by decide⟩
  · exact ⟨zc_GR, zt_GR, 5, zy_GR, rfl, rfl, by decide, by decide, fun w h => List.mem_cons_of_mem _ (zi_GR w h), List.mem_cons_of_mem _ (zw_m (i := 64) (by decide +kernel) (by decide +kernel)), zo_GR, zn_GR, Or.inl ⟨rfl, rfl⟩, by decide⟩
  · exact ⟨zc_GR, zt_GR, 5, zy_GR, rfl, rfl, by decide, by decide, fun w h => List.mem_cons_of_mem _ (zi_GR w h), List.mem_cons_of_mem _ (zw_m (i := 65) (by decide +kernel) (by decide +kernel)), zo_GR, zn_GR, Or.inl ⟨rfl, rfl⟩, by decide⟩
  · exact ⟨zc_GR, zt_GR, 5, zy_GR, rfl, rfl, by decide, by decide, fun w h => List.mem_cons_of_mem _ (zi_GR w h), List.mem_cons_of_mem _ (zw_m (i := 66) (by decide +kernel) (by decide +kernel)), zo_GR, zn_GR, Or.inl ⟨rfl, rfl⟩, by decide⟩
def zf_RO : ma_F := [(9, 3, 0, 3), (15, 3, 1, 0)]
theorem zf_RO_ok {z : Cond} : ma_Fok zc_RO (z :: zw_t) zf_RO := by
  refine List.forall_mem_cons.mpr ⟨?_, List.forall_mem_cons.mpr ⟨?_, fun _ h => absurd h List.not_mem_nil⟩⟩
  · exact ⟨zc_RO, zt_RO, 2, zy_RO, rfl, rfl, by decide, by decide, fun w h => List.mem_cons_of_mem _ (zi_RO w h), List.mem_cons_of_mem _ (zw_m (i := 114) (by decide +kernel) (by decide +kernel)), zo_RO, zn_RO, Or.inr (Or.inr ⟨by decide, Or.inr ⟨_, rfl⟩⟩), by decide⟩
  · exact ⟨zc_RO, zt_RO, 2, zy_RO, rfl, rfl, by decide, by decide, fun w h => List.mem_cons_of_mem _ (zi_RO w h), List.mem_cons_of_mem _ (zw_m (i := 115) (by decide +kernel) (by decide +kernel)), zo_RO, zn_RO, Or.inl ⟨rfl, rfl⟩, by decide⟩
def zf_LI : ma_F := [(9, 4, 0, 3), (15, 4, 1, 3), (18, 4, 2, 3), (21, 4, 3, 0), (25, 4, 4, 0)]
theorem zf_LI_ok {z : Cond} : ma_Fok zc_LI (z :: zw_t) zf_LI := by
  refine List.forall_mem_cons.mpr ⟨?_, List.forall_mem_cons.mpr ⟨?_, List.forall_mem_cons.mpr ⟨?_, List.forall_mem_cons.mpr ⟨?_, List.forall_mem_cons.mpr ⟨?_, fun _ h => absurd h List.not_mem_nil⟩⟩⟩⟩⟩
  · exact ⟨zc_LI, zt_LI, 5, zy_LI, rfl, rfl, by decide, by decide, fun w h => List.mem_cons_of_mem _ (zi_LI w h), List.mem_cons_of_mem _ (zw_m (i := 127) (by decide +kernel) (by decide +kernel)), zo_LI, zn_LI, Or.inr (Or.inr ⟨by decide, Or.inr ⟨_, rfl⟩⟩), by decide⟩
  · exact ⟨zc_LI, zt_LI, 5, zy_LI, rfl, rfl, by decide, by decide, fun w h => List.mem_cons_of_mem _ (zi_LI w h), List.mem_cons_of_mem _ (zw_m (i := 128) (by decide +kernel) (by decide +kernel)), zo_LI, zn_LI, Or.inr (Or.inr ⟨by decide, Or.inr ⟨_, rfl⟩⟩), by decide⟩
  · exact ⟨zc_LI, zt_LI, 5, zy_LI, rfl, rfl, by decide, by decide, fun w h => List.mem_cons_of_mem _ (zi_LI w h), List.mem_cons_of_mem _ (zw_m (i := 129) (by decide +kernel) (by decide +kernel)), zo_LI, zn_LI, Or.inr (Or.inr ⟨by decide, Or.inr ⟨_, rfl⟩⟩), by decide⟩
  · exact ⟨zc_LI, zt_LI, 5, zy_LI, rfl, rfl, by decide, by decide, fun w h => List.mem_cons_of_mem _ (zi_LI w h), List.mem_cons_of_mem _ (zw_m (i := 130) (by decide +kernel) (by decide +kernel)), zo_LI, zn_LI, Or.inl ⟨rfl, rfl⟩, by decide⟩
  · exact ⟨zc_LI, zt_LI, 5, zy_LI, rfl, rfl, by decide, by decide, fun w h => List.mem_cons_of_mem _ (zi_LI w h), List.mem_cons_of_mem _ (zw_m (i := 131) (by decide +kernel) (by decide +kernel)), zo_LI, zn_LI, Or.inl ⟨rfl, rfl⟩, by decide⟩
def zf_MO : ma_F := [(7, 5, 6, 3), (13, 5, 8, 3), (16, 5, 10, 3), (19, 5, 12, 3), (22, 5, 14, 3), (25, 5, 15, 3), (28, 5, 16, 3), (31, 5, 17, 3), (34, 5, 0, 1), (38, 5, 1, 0), (46, 5, 2, 0), (49, 5, 9, 0), (52, 5, 5, 0), (55, 5, 7, 0), (65, 5, 4, 0), (68, 5, 13, 0), (81, 5, 3, 0), (98, 5, 11, 0)]
theorem zf_MO_ok {z : Cond} : ma_Fok zc_MO (z :: zw_t) zf_MO := by
  refine List.forall_mem_cons.mpr ⟨?_, List.forall_mem_cons.mpr ⟨?_, List.forall_mem_cons.mpr ⟨?_, List.forall_mem_cons.mpr ⟨?_, List.forall_mem_cons.mpr ⟨?_, List.forall_mem_cons.mpr ⟨?_, List.forall_mem_cons.mpr ⟨?_, List.forall_mem_cons.mpr ⟨?_, List.forall_mem_cons.mpr ⟨?_, List.forall_mem_cons.mpr ⟨?_, List.forall_mem_cons.mpr ⟨?_, List.forall_mem_cons.mpr ⟨?_, List.forall_mem_cons.mpr ⟨?_, List.forall_mem_cons.mpr ⟨?_, List.forall_mem_cons.mpr ⟨?_, List.forall_mem_cons.mpr ⟨?_, List.forall_mem_cons.mpr ⟨?_, List.forall_mem_cons.mpr ⟨?_, fun _ h => absurd h List.not_mem_nil⟩⟩⟩⟩⟩⟩⟩⟩⟩⟩⟩⟩⟩⟩⟩⟩⟩⟩
  · exact ⟨zc_MO, zt_MO, 18, zy_MO, rfl, rfl, by decide, by decide, fun w h => List.mem_cons_of_mem _ (zi_MO w h), List.mem_cons_of_mem _ (zw_m (i := 483) (by decide +kernel) (by decide +kernel)), zo_MO, zn_MO, Or.inr (Or.inr ⟨by decide, Or.inr ⟨_, rfl⟩⟩), by decide⟩
  · exact ⟨zc_MO, zt_MO, 18, zy_MO, rfl, rfl, by decide, by decide, fun w h => List.mem_cons_of_mem _ (zi_MO w h), List.mem_cons_of_mem _ (zw_m (i := 485) (by decide +kernel) (by decide +kernel)), zo_MO, zn_MO, Or.inr (Or.inr ⟨by decide, Or.inr ⟨_, rfl⟩⟩), by decide⟩
  · exact ⟨zc_MO, zt_MO, 18, zy_MO, rfl, rfl, by decide, by decide, fun w h => List.mem_cons_of_mem _ (zi_MO w h), List.mem_cons_of_mem _ (zw_m (i := 487) (by decide +kernel) (by decide +kernel)), zo_MO, zn_MO, Or.inr (Or.inr ⟨by decide, Or.inr ⟨_, rfl⟩⟩), by decide⟩
  · exact ⟨zc_MO, zt_MO, 18, zy_MO, rfl, rfl, by decide, by decide, fun w h => List.mem_cons_of_mem _ (zi_MO w h), List.mem_cons_of_mem _ (zw_m (i := 489) (by decide +kernel) (by decide +kernel)), zo_MO, zn_MO, Or.inr (Or.inr ⟨by decide, Or.inr ⟨_, rfl⟩⟩), by decide⟩
  · exact ⟨zc_MO, zt_MO, 18, zy_MO, rfl, rfl, by decide, by decide, fun w h => List.mem_cons_of_mem _ (zi_MO w h), List.mem_cons_of_mem _ (zw_m (i := 491) (by decide +kernel) (by decide +kernel)), zo_MO, zn_MO, Or.inr (Or.inr ⟨by decide, Or.inr ⟨_, rfl⟩⟩), by decide⟩
  · exact ⟨zc_MO, zt_MO, 18, zy_MO, rfl, rfl, by decide, by decide, fun w h => List.mem_cons_of_mem _ (zi_MO w h), List.mem_cons_of_mem _ (zw_m (i := 492) (by decide +kernel) (by decide +kernel)), zo_MO, zn_MO, Or.inr (Or.inr ⟨by decide, Or.inr ⟨_, rfl⟩⟩), by decide⟩
  · exact ⟨zc_MO, zt_MO, 18, zy_MO, rfl, rfl, by decide, by decide, fun w h => List.mem_cons_of_mem _ (zi_MO w h), List.mem_cons_of_mem _ (zw_m (i := 493) (by decide +kernel) (by decide +kernel)), zo_MO, zn_MO, Or.inr (Or.inr ⟨by decide, Or.inr ⟨_, rfl⟩⟩), by decide⟩
  · exact ⟨zc_MO, zt_MO, 18, zy_MO, rfl, rfl, by decide, by decide, fun w h => List.mem_cons_of_mem _ (zi_MO w h), List.mem_cons_of_mem _ (zw_m (i := 494) (by decide +kernel) (by decide +kernel)), zo_MO, zn_MO, Or.inr (Or.inr ⟨by decide, Or.inr ⟨_, rfl⟩⟩), by decide⟩
  · exact ⟨zc_MO, zt_MO, 18, zy_MO, rfl, rfl, by decide, by decide, fun w h => List.mem_cons_of_mem _ (zi_MO w h), List.mem_cons_of_mem _ (zw_m (i := 477) (by decide +kernel) (by decide +kernel)), zo_MO, zn_MO, Or.inr (Or.inl ⟨rfl, rfl⟩), by decide⟩
  · exact ⟨zc_MO, zt_MO, 18, zy_MO, rfl, rfl, by decide, by decide, fun w h => List.mem_cons_of_mem _ (zi_MO w h), List.mem_cons_of_mem _ (zw_m (i := 478) (by decide +kernel) (by decide +kernel)), zo_MO, zn_MO, Or.inl ⟨rfl, rfl⟩, by decide⟩
  · exact ⟨zc_MO, zt_MO, 18, zy_MO, rfl, rfl, by decide, by decide, fun w h => List.mem_cons_of_mem _ (zi_MO w h), List.mem_cons_of_mem _ (zw_m (i := 479) (by decide +kernel) (by decide +kernel)), zo_MO, zn_MO, Or.inl ⟨rfl, rfl⟩, by decide⟩
  · exact ⟨zc_MO, zt_MO, 18, zy_MO, rfl, rfl, by decide, by decide, fun w h => List.mem_cons_of_mem _ (zi_MO w h), List.mem_cons_of_mem _ (zw_m (i := 486) (by decide +kernel) (by decide +kernel)), zo_MO, zn_MO, Or.inl ⟨rfl, rfl⟩, by decide⟩
  · exact ⟨zc_MO, zt_MO, 18, zy_MO, rfl, rfl, by decide, by decide, fun w h => List.mem_cons_of_mem _ (zi_MO w h), List.mem_cons_of_mem _ (zw_m (i := 482) (by decide +kernel) (by decide +kernel)), zo_MO, zn_MO, Or.inl ⟨rfl, rfl⟩, by decide⟩
  · exact ⟨zc_MO, zt_MO, 18, zy_MO, rfl, rfl, by decide, by decide, fun w h => List.mem_cons_of_mem _ (zi_MO w h), List.mem_cons_of_mem _ (zw_m (i := 484) (by decide +kernel) (by decide +kernel)), zo_MO, zn_MO, Or.inl ⟨rfl, rfl⟩, by decide⟩
  · exact ⟨zc_MO, zt_MO, 18, zy_MO, rfl, rfl, by decide, by decide, fun w h => List.mem_cons_of_mem _ (zi_MO w h), List.mem_cons_of_mem _ (zw_m (i := 481) (by decide +kernel) (by decide +kernel)), zo_MO, zn_MO, Or.inl ⟨rfl, rfl⟩, by decide⟩
  · exact ⟨zc_MO, zt_MO, 18, zy_MO, rfl, rfl, by decide, by decide, fun w h => List.mem_cons_of_mem _ (zi_MO w h), List.mem_cons_of_mem _ (zw_m (i := 490) (by decide +kernel) (by decide +kernel)), zo_MO, zn_MO, Or.inl ⟨rfl, rfl⟩, by decide⟩
  · exact ⟨zc_MO, zt_MO, 18, zy_MO, rfl, rfl, by decide, by decide, fun w h => List.mem_cons_of_mem _ (zi_MO w h), List.mem_cons_of_mem _ (zw_m (i := 480) (by decide +kernel) (by decide +kernel)), zo_MO, zn_MO, Or.inl ⟨rfl, rfl⟩, by decide⟩
  · exact ⟨zc_MO, zt_MO, 18, zy_MO, rfl, rfl, by decide, by decide, fun w h => List.mem_cons_of_mem _ (zi_MO w h), List.mem_cons_of_mem _ (zw_m (i := 488) (by decide +kernel) (by decide +kernel)), zo_MO, zn_MO, Or.inl ⟨rfl, rfl⟩, by decide⟩
def y_PC_begin : MethodName := ⟨"PackingCensus", "begin", "(III)I"⟩
abbrev w_PC_begin : Cond := .code y_PC_begin prog_1_method_2_code 4 (some .int)
theorem m_PC_begin : w_PC_begin ∈ zw_t := zw_m (i := 183) (by decide +kernel) (by decide +kernel)
def y_PC_grow : MethodName := ⟨"PackingCensus", "grow", "()I"⟩
abbrev w_PC_grow : Cond := .code y_PC_grow prog_1_method_3_code 2 (some .int)
theorem m_PC_grow : w_PC_grow ∈ zw_t := zw_m (i := 220) (by decide +kernel) (by decide +kernel)
def y_PC_level : MethodName := ⟨"PackingCensus", "level", "()I"⟩
abbrev w_PC_level : Cond := .code y_PC_level prog_1_method_4_code 1 (some .int)
theorem m_PC_level : w_PC_level ∈ zw_t := zw_m (i := 356) (by decide +kernel) (by decide +kernel)
def y_PC_entries : MethodName := ⟨"PackingCensus", "entries", "()I"⟩
abbrev w_PC_entries : Cond := .code y_PC_entries prog_1_method_5_code 1 (some .int)
theorem m_PC_entries : w_PC_entries ∈ zw_t := zw_m (i := 360) (by decide +kernel) (by decide +kernel)
def y_PC_block : MethodName := ⟨"PackingCensus", "block", "(II)I"⟩
abbrev w_PC_block : Cond := .code y_PC_block prog_1_method_6_code 3 (some .int)
theorem m_PC_block : w_PC_block ∈ zw_t := zw_m (i := 364) (by decide +kernel) (by decide +kernel)
def y_PC_order : MethodName := ⟨"PackingCensus", "order", "(I)I"⟩
abbrev w_PC_order : Cond := .code y_PC_order prog_1_method_7_code 2 (some .int)
theorem m_PC_order : w_PC_order ∈ zw_t := zw_m (i := 373) (by decide +kernel) (by decide +kernel)
def y_PC_labelled : MethodName := ⟨"PackingCensus", "labelled", "()I"⟩
abbrev w_PC_labelled : Cond := .code y_PC_labelled prog_1_method_8_code 5 (some .int)
theorem m_PC_labelled : w_PC_labelled ∈ zw_t := zw_m (i := 381) (by decide +kernel) (by decide +kernel)
def y_PC_together : MethodName := ⟨"PackingCensus", "together", "(III)I"⟩
abbrev w_PC_together : Cond := .code y_PC_together prog_1_method_9_code 4 (some .int)
theorem m_PC_together : w_PC_together ∈ zw_t := zw_m (i := 385) (by decide +kernel) (by decide +kernel)
def y_PC_design : MethodName := ⟨"PackingCensus", "design", "(I)Z"⟩
abbrev w_PC_design : Cond := .code y_PC_design prog_1_method_10_code 2 (some .boolean)
theorem m_PC_design : w_PC_design ∈ zw_t := zw_m (i := 393) (by decide +kernel) (by decide +kernel)
def y_PC_designs : MethodName := ⟨"PackingCensus", "designs", "()I"⟩
abbrev w_PC_designs : Cond := .code y_PC_designs prog_1_method_11_code 3 (some .int)
theorem m_PC_designs : w_PC_designs ∈ zw_t := zw_m (i := 401) (by decide +kernel) (by decide +kernel)
def y_PC_orbit : MethodName := ⟨"PackingCensus", "orbit", "(II)I"⟩
abbrev w_PC_orbit : Cond := .code y_PC_orbit prog_1_method_12_code 3 (some .int)
theorem m_PC_orbit : w_PC_orbit ∈ zw_t := zw_m (i := 405) (by decide +kernel) (by decide +kernel)
def y_PC_put : MethodName := ⟨"PackingCensus", "put", "(I)I"⟩
abbrev w_PC_put : Cond := .code y_PC_put prog_1_method_13_code 2 (some .int)
theorem m_PC_put : w_PC_put ∈ zw_t := zw_m (i := 413) (by decide +kernel) (by decide +kernel)
def y_PC_drop : MethodName := ⟨"PackingCensus", "drop", "(I)Z"⟩
abbrev w_PC_drop : Cond := .code y_PC_drop prog_1_method_14_code 2 (some .boolean)
theorem m_PC_drop : w_PC_drop ∈ zw_t := zw_m (i := 421) (by decide +kernel) (by decide +kernel)
def y_PC_swap : MethodName := ⟨"PackingCensus", "swap", "(II)Z"⟩
abbrev w_PC_swap : Cond := .code y_PC_swap prog_1_method_15_code 3 (some .boolean)
theorem m_PC_swap : w_PC_swap ∈ zw_t := zw_m (i := 426) (by decide +kernel) (by decide +kernel)
def y_PC_copy : MethodName := ⟨"PackingCensus", "copy", "(I)Z"⟩
abbrev w_PC_copy : Cond := .code y_PC_copy prog_1_method_16_code 2 (some .boolean)
theorem m_PC_copy : w_PC_copy ∈ zw_t := zw_m (i := 434) (by decide +kernel) (by decide +kernel)
def y_PC_hand : MethodName := ⟨"PackingCensus", "hand", "(I)I"⟩
abbrev w_PC_hand : Cond := .code y_PC_hand prog_1_method_17_code 2 (some .int)
theorem m_PC_hand : w_PC_hand ∈ zw_t := zw_m (i := 438) (by decide +kernel) (by decide +kernel)
def y_PC_formed : MethodName := ⟨"PackingCensus", "formed", "(I)I"⟩
abbrev w_PC_formed : Cond := .code y_PC_formed prog_1_method_18_code 2 (some .int)
theorem m_PC_formed : w_PC_formed ∈ zw_t := zw_m (i := 443) (by decide +kernel) (by decide +kernel)
def y_PC_symmetries : MethodName := ⟨"PackingCensus", "symmetries", "()I"⟩
abbrev w_PC_symmetries : Cond := .code y_PC_symmetries prog_1_method_19_code 1 (some .int)
theorem m_PC_symmetries : w_PC_symmetries ∈ zw_t := zw_m (i := 458) (by decide +kernel) (by decide +kernel)
def y_PC_find : MethodName := ⟨"PackingCensus", "find", "()I"⟩
abbrev w_PC_find : Cond := .code y_PC_find prog_1_method_20_code 1 (some .int)
theorem m_PC_find : w_PC_find ∈ zw_t := zw_m (i := 462) (by decide +kernel) (by decide +kernel)
def y_PC_blocksOfDesign : MethodName := ⟨"PackingCensus", "blocksOfDesign", "(III)I"⟩
abbrev w_PC_blocksOfDesign : Cond := .code y_PC_blocksOfDesign prog_1_method_21_code 6 (some .int)
theorem m_PC_blocksOfDesign : w_PC_blocksOfDesign ∈ zw_t := zw_m (i := 216) (by decide +kernel) (by decide +kernel)
def y_PC_fillSpare : MethodName := ⟨"PackingCensus", "fillSpare", "()Z"⟩
abbrev w_PC_fillSpare : Cond := .code y_PC_fillSpare prog_1_method_22_code 2 (some .boolean)
theorem m_PC_fillSpare : w_PC_fillSpare ∈ zw_t := zw_m (i := 228) (by decide +kernel) (by decide +kernel)
def y_PC_addFormsFrom : MethodName := ⟨"PackingCensus", "addFormsFrom", "(I)Z"⟩
abbrev w_PC_addFormsFrom : Cond := .code y_PC_addFormsFrom prog_1_method_23_code 5 (some .boolean)
theorem m_PC_addFormsFrom : w_PC_addFormsFrom ∈ zw_t := zw_m (i := 236) (by decide +kernel) (by decide +kernel)
def y_PC_staysPacking : MethodName := ⟨"PackingCensus", "staysPacking", "(II)Z"⟩
abbrev w_PC_staysPacking : Cond := .code y_PC_staysPacking prog_1_method_24_code 6 (some .boolean)
theorem m_PC_staysPacking : w_PC_staysPacking ∈ zw_t := zw_m (i := 265) (by decide +kernel) (by decide +kernel)
def y_PC_isDesign : MethodName := ⟨"PackingCensus", "isDesign", "(I)Z"⟩
abbrev w_PC_isDesign : Cond := .code y_PC_isDesign prog_1_method_25_code 4 (some .boolean)
theorem m_PC_isDesign : w_PC_isDesign ∈ zw_t := zw_m (i := 397) (by decide +kernel) (by decide +kernel)
def y_PC_formHand : MethodName := ⟨"PackingCensus", "formHand", "()V"⟩
abbrev w_PC_formHand : Cond := .code y_PC_formHand prog_1_method_26_code 1 none
theorem m_PC_formHand : w_PC_formHand ∈ zw_t := zw_m (i := 447) (by decide +kernel) (by decide +kernel)
def y_MO_bits : MethodName := ⟨"PackingCensusModel", "bits", "(I)I"⟩
abbrev w_MO_bits : Cond := .code y_MO_bits prog_7_method_2_code 3 (some .int)
theorem m_MO_bits : w_MO_bits ∈ zw_t := zw_m (i := 542) (by decide +kernel) (by decide +kernel)
def y_MO_isBlock : MethodName := ⟨"PackingCensusModel", "isBlock", "(I)Z"⟩
abbrev w_MO_isBlock : Cond := .code y_MO_isBlock prog_7_method_3_code 2 (some .boolean)
theorem m_MO_isBlock : w_MO_isBlock ∈ zw_t := zw_m (i := 648) (by decide +kernel) (by decide +kernel)
def y_MO_isPoint : MethodName := ⟨"PackingCensusModel", "isPoint", "(I)Z"⟩
abbrev w_MO_isPoint : Cond := .code y_MO_isPoint prog_7_method_4_code 2 (some .boolean)
theorem m_MO_isPoint : w_MO_isPoint ∈ zw_t := zw_m (i := 627) (by decide +kernel) (by decide +kernel)
def y_MO_isEntry : MethodName := ⟨"PackingCensusModel", "isEntry", "(I)Z"⟩
abbrev w_MO_isEntry : Cond := .code y_MO_isEntry prog_7_method_5_code 2 (some .boolean)
theorem m_MO_isEntry : w_MO_isEntry ∈ zw_t := zw_m (i := 598) (by decide +kernel) (by decide +kernel)
def y_MO_layOut : MethodName := ⟨"PackingCensusModel", "layOut", "()V"⟩
abbrev w_MO_layOut : Cond := .code y_MO_layOut prog_7_method_6_code 2 none
theorem m_MO_layOut : w_MO_layOut ∈ zw_t := zw_m (i := 539) (by decide +kernel) (by decide +kernel)
def y_MO_rename : MethodName := ⟨"PackingCensusModel", "rename", "(I)V"⟩
abbrev w_MO_rename : Cond := .code y_MO_rename prog_7_method_7_code 8 none
theorem m_MO_rename : w_MO_rename ∈ zw_t := zw_m (i := 546) (by decide +kernel) (by decide +kernel)
def y_MO_image : MethodName := ⟨"PackingCensusModel", "image", "(II)I"⟩
abbrev w_MO_image : Cond := .code y_MO_image prog_7_method_8_code 5 (some .int)
theorem m_MO_image : w_MO_image ∈ zw_t := zw_m (i := 582) (by decide +kernel) (by decide +kernel)
def y_MO_none : MethodName := ⟨"PackingCensusModel", "none", "()V"⟩
abbrev w_MO_none : Cond := .code y_MO_none prog_7_method_9_code 2 none
theorem m_MO_none : w_MO_none ∈ zw_t := zw_m (i := 562) (by decide +kernel) (by decide +kernel)
def y_MO_lookAtEntry : MethodName := ⟨"PackingCensusModel", "lookAtEntry", "(I)V"⟩
abbrev w_MO_lookAtEntry : Cond := .code y_MO_lookAtEntry prog_7_method_10_code 3 none
theorem m_MO_lookAtEntry : w_MO_lookAtEntry ∈ zw_t := zw_m (i := 558) (by decide +kernel) (by decide +kernel)
def y_MO_lookAtHand : MethodName := ⟨"PackingCensusModel", "lookAtHand", "()V"⟩
abbrev w_MO_lookAtHand : Cond := .code y_MO_lookAtHand prog_7_method_11_code 2 none
theorem m_MO_lookAtHand : w_MO_lookAtHand ∈ zw_t := zw_m (i := 672) (by decide +kernel) (by decide +kernel)
def y_MO_compare : MethodName := ⟨"PackingCensusModel", "compare", "(II)I"⟩
abbrev w_MO_compare : Cond := .code y_MO_compare prog_7_method_12_code 6 (some .int)
theorem m_MO_compare : w_MO_compare ∈ zw_t := zw_m (i := 578) (by decide +kernel) (by decide +kernel)
def y_MO_leastOne : MethodName := ⟨"PackingCensusModel", "leastOne", "()I"⟩
abbrev w_MO_leastOne : Cond := .code y_MO_leastOne prog_7_method_13_code 3 (some .int)
theorem m_MO_leastOne : w_MO_leastOne ∈ zw_t := zw_m (i := 676) (by decide +kernel) (by decide +kernel)
def y_MO_isLeast : MethodName := ⟨"PackingCensusModel", "isLeast", "()Z"⟩
abbrev w_MO_isLeast : Cond := .code y_MO_isLeast prog_7_method_14_code 3 (some .boolean)
theorem m_MO_isLeast : w_MO_isLeast ∈ zw_t := zw_m (i := 574) (by decide +kernel) (by decide +kernel)
def y_MO_keepers : MethodName := ⟨"PackingCensusModel", "keepers", "()I"⟩
abbrev w_MO_keepers : Cond := .code y_MO_keepers prog_7_method_15_code 3 (some .int)
theorem m_MO_keepers : w_MO_keepers ∈ zw_t := zw_m (i := 606) (by decide +kernel) (by decide +kernel)
def y_MO_meet : MethodName := ⟨"PackingCensusModel", "meet", "(II)I"⟩
abbrev w_MO_meet : Cond := .code y_MO_meet prog_7_method_16_code 6 (some .int)
theorem m_MO_meet : w_MO_meet ∈ zw_t := zw_m (i := 570) (by decide +kernel) (by decide +kernel)
def y_MO_meets : MethodName := ⟨"PackingCensusModel", "meets", "(II)Z"⟩
abbrev w_MO_meets : Cond := .code y_MO_meets prog_7_method_17_code 7 (some .boolean)
theorem m_MO_meets : w_MO_meets ∈ zw_t := zw_m (i := 566) (by decide +kernel) (by decide +kernel)
def y_MO_begin : MethodName := ⟨"PackingCensusModel", "begin", "(III)I"⟩
abbrev w_MO_begin : Cond := .code y_MO_begin prog_7_method_18_code 6 (some .int)
theorem m_MO_begin : w_MO_begin ∈ zw_t := zw_m (i := 535) (by decide +kernel) (by decide +kernel)
def y_MO_extend : MethodName := ⟨"PackingCensusModel", "extend", "(II)Z"⟩
abbrev w_MO_extend : Cond := .code y_MO_extend prog_7_method_19_code 4 (some .boolean)
theorem m_MO_extend : w_MO_extend ∈ zw_t := zw_m (i := 554) (by decide +kernel) (by decide +kernel)
def y_MO_grow : MethodName := ⟨"PackingCensusModel", "grow", "()I"⟩
abbrev w_MO_grow : Cond := .code y_MO_grow prog_7_method_20_code 4 (some .int)
theorem m_MO_grow : w_MO_grow ∈ zw_t := zw_m (i := 550) (by decide +kernel) (by decide +kernel)
def y_MO_level : MethodName := ⟨"PackingCensusModel", "level", "()I"⟩
abbrev w_MO_level : Cond := .code y_MO_level prog_7_method_21_code 1 (some .int)
theorem m_MO_level : w_MO_level ∈ zw_t := zw_m (i := 586) (by decide +kernel) (by decide +kernel)
def y_MO_entries : MethodName := ⟨"PackingCensusModel", "entries", "()I"⟩
abbrev w_MO_entries : Cond := .code y_MO_entries prog_7_method_22_code 1 (some .int)
theorem m_MO_entries : w_MO_entries ∈ zw_t := zw_m (i := 590) (by decide +kernel) (by decide +kernel)
def y_MO_block : MethodName := ⟨"PackingCensusModel", "block", "(II)I"⟩
abbrev w_MO_block : Cond := .code y_MO_block prog_7_method_23_code 3 (some .int)
theorem m_MO_block : w_MO_block ∈ zw_t := zw_m (i := 594) (by decide +kernel) (by decide +kernel)
def y_MO_order : MethodName := ⟨"PackingCensusModel", "order", "(I)I"⟩
abbrev w_MO_order : Cond := .code y_MO_order prog_7_method_24_code 2 (some .int)
theorem m_MO_order : w_MO_order ∈ zw_t := zw_m (i := 602) (by decide +kernel) (by decide +kernel)
def y_MO_pair : MethodName := ⟨"PackingCensusModel", "pair", "(II)V"⟩
abbrev w_MO_pair : Cond := .code y_MO_pair prog_7_method_25_code 6 none
theorem m_MO_pair : w_MO_pair ∈ zw_t := zw_m (i := 615) (by decide +kernel) (by decide +kernel)
def y_MO_tooOften : MethodName := ⟨"PackingCensusModel", "tooOften", "()Z"⟩
abbrev w_MO_tooOften : Cond := .code y_MO_tooOften prog_7_method_26_code 3 (some .boolean)
theorem m_MO_tooOften : w_MO_tooOften ∈ zw_t := zw_m (i := 619) (by decide +kernel) (by decide +kernel)
def y_MO_labelled : MethodName := ⟨"PackingCensusModel", "labelled", "()I"⟩
abbrev w_MO_labelled : Cond := .code y_MO_labelled prog_7_method_27_code 5 (some .int)
theorem m_MO_labelled : w_MO_labelled ∈ zw_t := zw_m (i := 610) (by decide +kernel) (by decide +kernel)
def y_MO_together : MethodName := ⟨"PackingCensusModel", "together", "(III)I"⟩
abbrev w_MO_together : Cond := .code y_MO_together prog_7_method_28_code 4 (some .int)
theorem m_MO_together : w_MO_together ∈ zw_t := zw_m (i := 623) (by decide +kernel) (by decide +kernel)
def y_MO_design : MethodName := ⟨"PackingCensusModel", "design", "(I)Z"⟩
abbrev w_MO_design : Cond := .code y_MO_design prog_7_method_29_code 2 (some .boolean)
theorem m_MO_design : w_MO_design ∈ zw_t := zw_m (i := 631) (by decide +kernel) (by decide +kernel)
def y_MO_designs : MethodName := ⟨"PackingCensusModel", "designs", "()I"⟩
abbrev w_MO_designs : Cond := .code y_MO_designs prog_7_method_30_code 3 (some .int)
theorem m_MO_designs : w_MO_designs ∈ zw_t := zw_m (i := 635) (by decide +kernel) (by decide +kernel)
def y_MO_orbit : MethodName := ⟨"PackingCensusModel", "orbit", "(II)I"⟩
abbrev w_MO_orbit : Cond := .code y_MO_orbit prog_7_method_31_code 6 (some .int)
theorem m_MO_orbit : w_MO_orbit ∈ zw_t := zw_m (i := 640) (by decide +kernel) (by decide +kernel)
def y_MO_put : MethodName := ⟨"PackingCensusModel", "put", "(I)I"⟩
abbrev w_MO_put : Cond := .code y_MO_put prog_7_method_32_code 2 (some .int)
theorem m_MO_put : w_MO_put ∈ zw_t := zw_m (i := 644) (by decide +kernel) (by decide +kernel)
def y_MO_drop : MethodName := ⟨"PackingCensusModel", "drop", "(I)Z"⟩
abbrev w_MO_drop : Cond := .code y_MO_drop prog_7_method_33_code 3 (some .boolean)
theorem m_MO_drop : w_MO_drop ∈ zw_t := zw_m (i := 652) (by decide +kernel) (by decide +kernel)
def y_MO_swap : MethodName := ⟨"PackingCensusModel", "swap", "(II)Z"⟩
abbrev w_MO_swap : Cond := .code y_MO_swap prog_7_method_34_code 7 (some .boolean)
theorem m_MO_swap : w_MO_swap ∈ zw_t := zw_m (i := 656) (by decide +kernel) (by decide +kernel)
def y_MO_copy : MethodName := ⟨"PackingCensusModel", "copy", "(I)Z"⟩
abbrev w_MO_copy : Cond := .code y_MO_copy prog_7_method_35_code 3 (some .boolean)
theorem m_MO_copy : w_MO_copy ∈ zw_t := zw_m (i := 660) (by decide +kernel) (by decide +kernel)
def y_MO_hand : MethodName := ⟨"PackingCensusModel", "hand", "(I)I"⟩
abbrev w_MO_hand : Cond := .code y_MO_hand prog_7_method_36_code 2 (some .int)
theorem m_MO_hand : w_MO_hand ∈ zw_t := zw_m (i := 664) (by decide +kernel) (by decide +kernel)
def y_MO_rowed : MethodName := ⟨"PackingCensusModel", "rowed", "(II)I"⟩
abbrev w_MO_rowed : Cond := .code y_MO_rowed prog_7_method_37_code 5 (some .int)
theorem m_MO_rowed : w_MO_rowed ∈ zw_t := zw_m (i := 680) (by decide +kernel) (by decide +kernel)
def y_MO_formed : MethodName := ⟨"PackingCensusModel", "formed", "(I)I"⟩
abbrev w_MO_formed : Cond := .code y_MO_formed prog_7_method_38_code 3 (some .int)
theorem m_MO_formed : w_MO_formed ∈ zw_t := zw_m (i := 668) (by decide +kernel) (by decide +kernel)
def y_MO_symmetries : MethodName := ⟨"PackingCensusModel", "symmetries", "()I"⟩
abbrev w_MO_symmetries : Cond := .code y_MO_symmetries prog_7_method_39_code 1 (some .int)
theorem m_MO_symmetries : w_MO_symmetries ∈ zw_t := zw_m (i := 684) (by decide +kernel) (by decide +kernel)
def y_MO_find : MethodName := ⟨"PackingCensusModel", "find", "()I"⟩
abbrev w_MO_find : Cond := .code y_MO_find prog_7_method_40_code 5 (some .int)
theorem m_MO_find : w_MO_find ∈ zw_t := zw_m (i := 688) (by decide +kernel) (by decide +kernel)
def y_FO_isForm : MethodName := ⟨"PackingCensus$Former", "isForm", "(LPackingCensus$Row;)Z"⟩
abbrev w_FO_isForm : Cond := .code y_FO_isForm prog_2_method_2_code 2 (some .boolean)
theorem m_FO_isForm : w_FO_isForm ∈ zw_t := zw_m (i := 278) (by decide +kernel) (by decide +kernel)
def y_FO_findForm : MethodName := ⟨"PackingCensus$Former", "findForm", "(LPackingCensus$Row;LPackingCensus$Row;)V"⟩
abbrev w_FO_findForm : Cond := .code y_FO_findForm prog_2_method_3_code 5 none
theorem m_FO_findForm : w_FO_findForm ∈ zw_t := zw_m (i := 451) (by decide +kernel) (by decide +kernel)
def y_FO_symmetriesFound : MethodName := ⟨"PackingCensus$Former", "symmetriesFound", "()I"⟩
abbrev w_FO_symmetriesFound : Cond := .code y_FO_symmetriesFound prog_2_method_4_code 1 (some .int)
theorem m_FO_symmetriesFound : w_FO_symmetriesFound ∈ zw_t := zw_m (i := 343) (by decide +kernel) (by decide +kernel)
def y_FO_leastImageFound : MethodName := ⟨"PackingCensus$Former", "leastImageFound", "(I)I"⟩
abbrev w_FO_leastImageFound : Cond := .code y_FO_leastImageFound prog_2_method_5_code 2 (some .int)
theorem m_FO_leastImageFound : w_FO_leastImageFound ∈ zw_t := zw_m (i := 339) (by decide +kernel) (by decide +kernel)
def y_FO_start : MethodName := ⟨"PackingCensus$Former", "start", "(LPackingCensus$Row;)V"⟩
abbrev w_FO_start : Cond := .code y_FO_start prog_2_method_6_code 3 none
theorem m_FO_start : w_FO_start ∈ zw_t := zw_m (i := 282) (by decide +kernel) (by decide +kernel)
def y_FO_tryPointsFor : MethodName := ⟨"PackingCensus$Former", "tryPointsFor", "(II)V"⟩
abbrev w_FO_tryPointsFor : Cond := .code y_FO_tryPointsFor prog_2_method_7_code 4 none
theorem m_FO_tryPointsFor : w_FO_tryPointsFor ∈ zw_t := zw_m (i := 296) (by decide +kernel) (by decide +kernel)
def y_FO_tryPoint : MethodName := ⟨"PackingCensus$Former", "tryPoint", "(III)V"⟩
abbrev w_FO_tryPoint : Cond := .code y_FO_tryPoint prog_2_method_8_code 4 none
theorem m_FO_tryPoint : w_FO_tryPoint ∈ zw_t := zw_m (i := 308) (by decide +kernel) (by decide +kernel)
def y_FO_settleImages : MethodName := ⟨"PackingCensus$Former", "settleImages", "(II)V"⟩
abbrev w_FO_settleImages : Cond := .code y_FO_settleImages prog_2_method_9_code 4 none
theorem m_FO_settleImages : w_FO_settleImages ∈ zw_t := zw_m (i := 324) (by decide +kernel) (by decide +kernel)
def y_FO_isAsGood : MethodName := ⟨"PackingCensus$Former", "isAsGood", "(II)Z"⟩
abbrev w_FO_isAsGood : Cond := .code y_FO_isAsGood prog_2_method_10_code 6 (some .boolean)
theorem m_FO_isAsGood : w_FO_isAsGood ∈ zw_t := zw_m (i := 312) (by decide +kernel) (by decide +kernel)
def y_FO_makeBest : MethodName := ⟨"PackingCensus$Former", "makeBest", "(II)V"⟩
abbrev w_FO_makeBest : Cond := .code y_FO_makeBest prog_2_method_11_code 4 none
theorem m_FO_makeBest : w_FO_makeBest ∈ zw_t := zw_m (i := 320) (by decide +kernel) (by decide +kernel)
def y_FO_countRenaming : MethodName := ⟨"PackingCensus$Former", "countRenaming", "()V"⟩
abbrev w_FO_countRenaming : Cond := .code y_FO_countRenaming prog_2_method_12_code 2 none
theorem m_FO_countRenaming : w_FO_countRenaming ∈ zw_t := zw_m (i := 301) (by decide +kernel) (by decide +kernel)
def y_GR_lay : MethodName := ⟨"PackingCensus$Ground", "lay", "(II)V"⟩
abbrev w_GR_lay : Cond := .code y_GR_lay prog_3_method_2_code 4 none
theorem m_GR_lay : w_GR_lay ∈ zw_t := zw_m (i := 187) (by decide +kernel) (by decide +kernel)
def y_GR_addKindsEndingAt : MethodName := ⟨"PackingCensus$Ground", "addKindsEndingAt", "(I)V"⟩
abbrev w_GR_addKindsEndingAt : Cond := .code y_GR_addKindsEndingAt prog_3_method_3_code 3 none
theorem m_GR_addKindsEndingAt : w_GR_addKindsEndingAt ∈ zw_t := zw_m (i := 191) (by decide +kernel) (by decide +kernel)
def y_GR_points : MethodName := ⟨"PackingCensus$Ground", "points", "()I"⟩
abbrev w_GR_points : Cond := .code y_GR_points prog_3_method_4_code 1 (some .int)
theorem m_GR_points : w_GR_points ∈ zw_t := zw_m (i := 269) (by decide +kernel) (by decide +kernel)
def y_GR_isPoint : MethodName := ⟨"PackingCensus$Ground", "isPoint", "(I)Z"⟩
abbrev w_GR_isPoint : Cond := .code y_GR_isPoint prog_3_method_5_code 2 (some .boolean)
theorem m_GR_isPoint : w_GR_isPoint ∈ zw_t := zw_m (i := 389) (by decide +kernel) (by decide +kernel)
def y_GR_isBlock : MethodName := ⟨"PackingCensus$Ground", "isBlock", "(I)Z"⟩
abbrev w_GR_isBlock : Cond := .code y_GR_isBlock prog_3_method_6_code 2 (some .boolean)
theorem m_GR_isBlock : w_GR_isBlock ∈ zw_t := zw_m (i := 417) (by decide +kernel) (by decide +kernel)
def y_GR_kinds : MethodName := ⟨"PackingCensus$Ground", "kinds", "()I"⟩
abbrev w_GR_kinds : Cond := .code y_GR_kinds prog_3_method_7_code 1 (some .int)
theorem m_GR_kinds : w_GR_kinds ∈ zw_t := zw_m (i := 257) (by decide +kernel) (by decide +kernel)
def y_GR_kind : MethodName := ⟨"PackingCensus$Ground", "kind", "(I)I"⟩
abbrev w_GR_kind : Cond := .code y_GR_kind prog_3_method_8_code 2 (some .int)
theorem m_GR_kind : w_GR_kind ∈ zw_t := zw_m (i := 261) (by decide +kernel) (by decide +kernel)
def y_GR_firstKindEndingAt : MethodName := ⟨"PackingCensus$Ground", "firstKindEndingAt", "(I)I"⟩
abbrev w_GR_firstKindEndingAt : Cond := .code y_GR_firstKindEndingAt prog_3_method_9_code 2 (some .int)
theorem m_GR_firstKindEndingAt : w_GR_firstKindEndingAt ∈ zw_t := zw_m (i := 316) (by decide +kernel) (by decide +kernel)
def y_GR_renamings : MethodName := ⟨"PackingCensus$Ground", "renamings", "()I"⟩
abbrev w_GR_renamings : Cond := .code y_GR_renamings prog_3_method_10_code 3 (some .int)
theorem m_GR_renamings : w_GR_renamings ∈ zw_t := zw_m (i := 209) (by decide +kernel) (by decide +kernel)
def y_LI_restart : MethodName := ⟨"PackingCensus$Listing", "restart", "(I)V"⟩
abbrev w_LI_restart : Cond := .code y_LI_restart prog_4_method_2_code 2 none
theorem m_LI_restart : w_LI_restart ∈ zw_t := zw_m (i := 205) (by decide +kernel) (by decide +kernel)
def y_LI_addEmptyRow : MethodName := ⟨"PackingCensus$Listing", "addEmptyRow", "(I)V"⟩
abbrev w_LI_addEmptyRow : Cond := .code y_LI_addEmptyRow prog_4_method_3_code 3 none
theorem m_LI_addEmptyRow : w_LI_addEmptyRow ∈ zw_t := zw_m (i := 213) (by decide +kernel) (by decide +kernel)
def y_LI_addRow : MethodName := ⟨"PackingCensus$Listing", "addRow", "(LPackingCensus$Row;LPackingCensus$Former;)V"⟩
abbrev w_LI_addRow : Cond := .code y_LI_addRow prog_4_method_4_code 4 none
theorem m_LI_addRow : w_LI_addRow ∈ zw_t := zw_m (i := 332) (by decide +kernel) (by decide +kernel)
def y_LI_size : MethodName := ⟨"PackingCensus$Listing", "size", "()I"⟩
abbrev w_LI_size : Cond := .code y_LI_size prog_4_method_5_code 1 (some .int)
theorem m_LI_size : w_LI_size ∈ zw_t := zw_m (i := 232) (by decide +kernel) (by decide +kernel)
def y_LI_isFull : MethodName := ⟨"PackingCensus$Listing", "isFull", "()Z"⟩
abbrev w_LI_isFull : Cond := .code y_LI_isFull prog_4_method_6_code 1 (some .boolean)
theorem m_LI_isFull : w_LI_isFull ∈ zw_t := zw_m (i := 328) (by decide +kernel) (by decide +kernel)
def y_LI_has : MethodName := ⟨"PackingCensus$Listing", "has", "(I)Z"⟩
abbrev w_LI_has : Cond := .code y_LI_has prog_4_method_7_code 2 (some .boolean)
theorem m_LI_has : w_LI_has ∈ zw_t := zw_m (i := 368) (by decide +kernel) (by decide +kernel)
def y_LI_rowLength : MethodName := ⟨"PackingCensus$Listing", "rowLength", "()I"⟩
abbrev w_LI_rowLength : Cond := .code y_LI_rowLength prog_4_method_8_code 1 (some .int)
theorem m_LI_rowLength : w_LI_rowLength ∈ zw_t := zw_m (i := 224) (by decide +kernel) (by decide +kernel)
def y_LI_mask : MethodName := ⟨"PackingCensus$Listing", "mask", "(II)I"⟩
abbrev w_LI_mask : Cond := .code y_LI_mask prog_4_method_9_code 3 (some .int)
theorem m_LI_mask : w_LI_mask ∈ zw_t := zw_m (i := 245) (by decide +kernel) (by decide +kernel)
def y_LI_symmetriesOf : MethodName := ⟨"PackingCensus$Listing", "symmetriesOf", "(I)I"⟩
abbrev w_LI_symmetriesOf : Cond := .code y_LI_symmetriesOf prog_4_method_10_code 2 (some .int)
theorem m_LI_symmetriesOf : w_LI_symmetriesOf ∈ zw_t := zw_m (i := 377) (by decide +kernel) (by decide +kernel)
def y_LI_leastImage : MethodName := ⟨"PackingCensus$Listing", "leastImage", "(II)I"⟩
abbrev w_LI_leastImage : Cond := .code y_LI_leastImage prog_4_method_11_code 3 (some .int)
theorem m_LI_leastImage : w_LI_leastImage ∈ zw_t := zw_m (i := 409) (by decide +kernel) (by decide +kernel)
def y_LI_blocksHolding : MethodName := ⟨"PackingCensus$Listing", "blocksHolding", "(II)I"⟩
abbrev w_LI_blocksHolding : Cond := .code y_LI_blocksHolding prog_4_method_12_code 5 (some .int)
theorem m_LI_blocksHolding : w_LI_blocksHolding ∈ zw_t := zw_m (i := 273) (by decide +kernel) (by decide +kernel)
def y_LI_writeTo : MethodName := ⟨"PackingCensus$Listing", "writeTo", "(ILPackingCensus$Row;)V"⟩
abbrev w_LI_writeTo : Cond := .code y_LI_writeTo prog_4_method_13_code 4 none
theorem m_LI_writeTo : w_LI_writeTo ∈ zw_t := zw_m (i := 240) (by decide +kernel) (by decide +kernel)
def y_LI_placeOf : MethodName := ⟨"PackingCensus$Listing", "placeOf", "(LPackingCensus$Row;)I"⟩
abbrev w_LI_placeOf : Cond := .code y_LI_placeOf prog_4_method_14_code 3 (some .int)
theorem m_LI_placeOf : w_LI_placeOf ∈ zw_t := zw_m (i := 466) (by decide +kernel) (by decide +kernel)
def y_LI_isEntry : MethodName := ⟨"PackingCensus$Listing", "isEntry", "(ILPackingCensus$Row;)Z"⟩
abbrev w_LI_isEntry : Cond := .code y_LI_isEntry prog_4_method_15_code 4 (some .boolean)
theorem m_LI_isEntry : w_LI_isEntry ∈ zw_t := zw_m (i := 470) (by decide +kernel) (by decide +kernel)
def y_RO_size : MethodName := ⟨"PackingCensus$Row", "size", "()I"⟩
abbrev w_RO_size : Cond := .code y_RO_size prog_5_method_2_code 1 (some .int)
theorem m_RO_size : w_RO_size ∈ zw_t := zw_m (i := 288) (by decide +kernel) (by decide +kernel)
def y_RO_has : MethodName := ⟨"PackingCensus$Row", "has", "(I)Z"⟩
abbrev w_RO_has : Cond := .code y_RO_has prog_5_method_3_code 2 (some .boolean)
theorem m_RO_has : w_RO_has ∈ zw_t := zw_m (i := 352) (by decide +kernel) (by decide +kernel)
def y_RO_get : MethodName := ⟨"PackingCensus$Row", "get", "(I)I"⟩
abbrev w_RO_get : Cond := .code y_RO_get prog_5_method_4_code 2 (some .int)
theorem m_RO_get : w_RO_get ∈ zw_t := zw_m (i := 292) (by decide +kernel) (by decide +kernel)
def y_RO_last : MethodName := ⟨"PackingCensus$Row", "last", "()I"⟩
abbrev w_RO_last : Cond := .code y_RO_last prog_5_method_5_code 1 (some .int)
theorem m_RO_last : w_RO_last ∈ zw_t := zw_m (i := 253) (by decide +kernel) (by decide +kernel)
def y_RO_clear : MethodName := ⟨"PackingCensus$Row", "clear", "()V"⟩
abbrev w_RO_clear : Cond := .code y_RO_clear prog_5_method_6_code 1 none
theorem m_RO_clear : w_RO_clear ∈ zw_t := zw_m (i := 201) (by decide +kernel) (by decide +kernel)
def y_RO_add : MethodName := ⟨"PackingCensus$Row", "add", "(I)V"⟩
abbrev w_RO_add : Cond := .code y_RO_add prog_5_method_7_code 2 none
theorem m_RO_add : w_RO_add ∈ zw_t := zw_m (i := 249) (by decide +kernel) (by decide +kernel)
def y_RO_removeAt : MethodName := ⟨"PackingCensus$Row", "removeAt", "(I)V"⟩
abbrev w_RO_removeAt : Cond := .code y_RO_removeAt prog_5_method_8_code 3 none
theorem m_RO_removeAt : w_RO_removeAt ∈ zw_t := zw_m (i := 348) (by decide +kernel) (by decide +kernel)
def y_RO_exchangePoints : MethodName := ⟨"PackingCensus$Row", "exchangePoints", "(II)V"⟩
abbrev w_RO_exchangePoints : Cond := .code y_RO_exchangePoints prog_5_method_9_code 5 none
theorem m_RO_exchangePoints : w_RO_exchangePoints ∈ zw_t := zw_m (i := 430) (by decide +kernel) (by decide +kernel)
def y_JI_bitCount : MethodName := ⟨"java/lang/Integer", "bitCount", "(I)I"⟩
abbrev w_JI_bitCount : Cond := .code y_JI_bitCount prog_8_method_49_code 1 (some .int)
theorem m_JI_bitCount : w_JI_bitCount ∈ zw_t := zw_m (i := 194) (by decide +kernel) (by decide +kernel)
end
section
-- PackingCensus.begin(III)I
def s_PC_begin : List (Nat × ma_C) := [
  (0, [(.iload_n 1, 1), (.iconst 3, 1), (.if_icmp .lt 9, 3), (.iload_n 1, 1), (.bipush 6, 2), (.if_icmp .le 6, 3)]),
  (11, [(.bipush (-2), 2), (.ireturn, 1)]),
  (14, [(.iload_n 2, 1), (.iconst 2, 1), (.if_icmp .lt 20, 3), (.iload_n 2, 1), (.iload_n 1, 1), (.iconst 1, 1), (.isub, 1), (.if_icmp .gt 13, 3), (.iload_n 3, 1), (.iconst 1, 1), (.if_icmp .lt 8, 3), (.iload_n 3, 1), (.iconst 4, 1), (.if_icmp .le 6, 3)]),
  (36, [(.bipush (-2), 2), (.ireturn, 1)]),
  (39, [(.aload_n 0, 1), (.getfield 20, 3), (.iload_n 1, 1), (.iload_n 2, 1), (.invokevirtual 61, 3), (.aload_n 0, 1), (.iload_n 3, 1), (.putfield 44, 3), (.aload_n 0, 1), (.iconst 1, 1), (.putfield 55, 3), (.aload_n 0, 1), (.iconst 0, 1), (.putfield 58, 3), (.aload_n 0, 1), (.getfield 24, 3), (.invokevirtual 67, 3), (.aload_n 0, 1), (.iconst 0, 1), (.putfield 51, 3), (.aload_n 0, 1), (.getfield 37, 3), (.iconst 0, 1), (.invokevirtual 70, 3), (.aload_n 0, 1), (.getfield 37, 3), (.aload_n 0, 1), (.getfield 20, 3), (.invokevirtual 74, 3), (.invokevirtual 78, 3), (.iload_n 1, 1), (.iload_n 2, 1), (.iload_n 3, 1), (.invokestatic 81, 3), (.ireturn, 1)])]
theorem o_PC_begin : (s_PC_begin).all (fun q => ma_dec prog_1_method_2_code q.1 q.2) = true := by decide +kernel
def k_PC_begin : List (Nat × Int32) := []
theorem kk_PC_begin {z : Cond} : ma_Kok "PackingCensus" (z :: zw_t) k_PC_begin := fun _ h => absurd h List.not_mem_nil
def e_PC_begin (t_0 t_1 t_2 t_3 t_4 t_5 : ma_T) : ma_E := [(61, 3, some 2, false, t_0), (67, 1, some 3, false, t_1), (70, 2, some 4, false, t_2), (74, 1, some 2, true, t_3), (78, 2, some 4, false, t_4), (81, 3, none, true, t_5)]
theorem ee_PC_begin {l : Launch} {dep : Nat} {z : Cond} {t_0 t_1 t_2 t_3 t_4 t_5 : ma_T} {d_0 : Nat} (h_0 : ma_Met l y_GR_lay (w_GR_lay :: zw_t) d_0 false t_0) (e_0 : d_0 + 1 ≤ dep) {d_1 : Nat} (h_1 : ma_Met l y_RO_clear (w_RO_clear :: zw_t) d_1 false t_1) (e_1 : d_1 + 1 ≤ dep) {d_2 : Nat} (h_2 : ma_Met l y_LI_restart (w_LI_restart :: zw_t) d_2 false t_2) (e_2 : d_2 + 1 ≤ dep) {d_3 : Nat} (h_3 : ma_Met l y_GR_renamings (w_GR_renamings :: zw_t) d_3 true t_3) (e_3 : d_3 + 1 ≤ dep) {d_4 : Nat} (h_4 : ma_Met l y_LI_addEmptyRow (w_LI_addEmptyRow :: zw_t) d_4 false t_4) (e_4 : d_4 + 1 ≤ dep) {d_5 : Nat} (h_5 : ma_Met l y_PC_blocksOfDesign (w_PC_blocksOfDesign :: zw_t) d_5 true t_5) (e_5 : d_5 + 1 ≤ dep) : ma_Eok l "PackingCensus" (z :: zw_t) dep (e_PC_begin t_0 t_1 t_2 t_3 t_4 t_5) := List.forall_mem_cons.mpr ⟨Or.inr ⟨y_GR_lay, prog_3_method_2_code, 4, d_0, 2, none, zw_t, h_0, zw_in m_GR_lay, e_0, by decide, List.mem_cons_of_mem _ (zw_m (w := .methodLink "PackingCensus" 61 y_GR_lay) (i := 184) (by decide +kernel) (by decide +kernel)), List.mem_cons_of_mem _ (zw_m (i := 36) (by decide +kernel) (by decide +kernel)), ⟨by decide, by decide, by decide +kernel⟩, Or.inr ⟨2, (zc_GR, zt_GR, 5), rfl, rfl, List.mem_cons_of_mem _ (zw_m (i := 185) (by decide +kernel) (by decide +kernel)), rfl, List.mem_cons_of_mem _ (zw_m (i := 186) (by decide +kernel) (by decide +kernel))⟩⟩, List.forall_mem_cons.mpr ⟨Or.inr ⟨y_RO_clear, prog_5_method_6_code, 1, d_1, 0, none, zw_t, h_1, zw_in m_RO_clear, e_1, by decide, List.mem_cons_of_mem _ (zw_m (w := .methodLink "PackingCensus" 67 y_RO_clear) (i := 198) (by decide +kernel) (by decide +kernel)), List.mem_cons_of_mem _ (zw_m (i := 37) (by decide +kernel) (by decide +kernel)), ⟨by decide, by decide, by decide +kernel⟩, Or.inr ⟨3, (zc_RO, zt_RO, 2), rfl, rfl, List.mem_cons_of_mem _ (zw_m (i := 199) (by decide +kernel) (by decide +kernel)), rfl, List.mem_cons_of_mem _ (zw_m (i := 200) (by decide +kernel) (by decide +kernel))⟩⟩, List.forall_mem_cons.mpr ⟨Or.inr ⟨y_LI_restart, prog_4_method_2_code, 2, d_2, 1, none, zw_t, h_2, zw_in m_LI_restart, e_2, by decide, List.mem_cons_of_mem _ (zw_m (w := .methodLink "PackingCensus" 70 y_LI_restart) (i := 202) (by decide +kernel) (by decide +kernel)), List.mem_cons_of_mem _ (zw_m (i := 38) (by decide +kernel) (by decide +kernel)), ⟨by decide, by decide, by decide +kernel⟩, Or.inr ⟨4, (zc_LI, zt_LI, 5), rfl, rfl, List.mem_cons_of_mem _ (zw_m (i := 203) (by decide +kernel) (by decide +kernel)), rfl, List.mem_cons_of_mem _ (zw_m (i := 204) (by decide +kernel) (by decide +kernel))⟩⟩, List.forall_mem_cons.mpr ⟨Or.inr ⟨y_GR_renamings, prog_3_method_10_code, 3, d_3, 0, (some .int), zw_t, h_3, zw_in m_GR_renamings, e_3, by decide, List.mem_cons_of_mem _ (zw_m (w := .methodLink "PackingCensus" 74 y_GR_renamings) (i := 206) (by decide +kernel) (by decide +kernel)), List.mem_cons_of_mem _ (zw_m (i := 36) (by decide +kernel) (by decide +kernel)), ⟨by decide, by decide, by decide +kernel⟩, Or.inr ⟨2, (zc_GR, zt_GR, 5), rfl, rfl, List.mem_cons_of_mem _ (zw_m (i := 207) (by decide +kernel) (by decide +kernel)), rfl, List.mem_cons_of_mem _ (zw_m (i := 208) (by decide +kernel) (by decide +kernel))⟩⟩, List.forall_mem_cons.mpr ⟨Or.inr ⟨y_LI_addEmptyRow, prog_4_method_3_code, 3, d_4, 1, none, zw_t, h_4, zw_in m_LI_addEmptyRow, e_4, by decide, List.mem_cons_of_mem _ (zw_m (w := .methodLink "PackingCensus" 78 y_LI_addEmptyRow) (i := 210) (by decide +kernel) (by decide +kernel)), List.mem_cons_of_mem _ (zw_m (i := 38) (by decide +kernel) (by decide +kernel)), ⟨by decide, by decide, by decide +kernel⟩, Or.inr ⟨4, (zc_LI, zt_LI, 5), rfl, rfl, List.mem_cons_of_mem _ (zw_m (i := 211) (by decide +kernel) (by decide +kernel)), rfl, List.mem_cons_of_mem _ (zw_m (i := 212) (by decide +kernel) (by decide +kernel))⟩⟩, List.forall_mem_cons.mpr ⟨Or.inr ⟨y_PC_blocksOfDesign, prog_1_method_21_code, 6, d_5, 3, (some .int), zw_t, h_5, zw_in m_PC_blocksOfDesign, e_5, by decide, List.mem_cons_of_mem _ (zw_m (w := .methodLink "PackingCensus" 81 y_PC_blocksOfDesign) (i := 214) (by decide +kernel) (by decide +kernel)), List.mem_cons_of_mem _ (zw_m (i := 34) (by decide +kernel) (by decide +kernel)), ⟨by decide, by decide, by decide +kernel⟩, Or.inl ⟨rfl, rfl, List.mem_cons_of_mem _ (zw_m (i := 215) (by decide +kernel) (by decide +kernel))⟩⟩, fun _ h => absurd h List.not_mem_nil⟩⟩⟩⟩⟩⟩
theorem z_PC_begin {l : Launch} {dep : Nat} {T : ma_T} {t_0 t_1 t_2 t_3 t_4 t_5 : ma_T} {d_0 : Nat} (h_0 : ma_Met l y_GR_lay (w_GR_lay :: zw_t) d_0 false t_0) (e_0 : d_0 + 1 ≤ dep) {d_1 : Nat} (h_1 : ma_Met l y_RO_clear (w_RO_clear :: zw_t) d_1 false t_1) (e_1 : d_1 + 1 ≤ dep) {d_2 : Nat} (h_2 : ma_Met l y_LI_restart (w_LI_restart :: zw_t) d_2 false t_2) (e_2 : d_2 + 1 ≤ dep) {d_3 : Nat} (h_3 : ma_Met l y_GR_renamings (w_GR_renamings :: zw_t) d_3 true t_3) (e_3 : d_3 + 1 ≤ dep) {d_4 : Nat} (h_4 : ma_Met l y_LI_addEmptyRow (w_LI_addEmptyRow :: zw_t) d_4 false t_4) (e_4 : d_4 + 1 ≤ dep) {d_5 : Nat} (h_5 : ma_Met l y_PC_blocksOfDesign (w_PC_blocksOfDesign :: zw_t) d_5 true t_5) (e_5 : d_5 + 1 ≤ dep) (hT : ∀ as w post, T as w post → as.length ≤ 4)
    (hB : ∀ as w post, T as w post → ∀ Go, ma_cl k_PC_begin zf_PC (e_PC_begin t_0 t_1 t_2 t_3 t_4 t_5) none 1 s_PC_begin post Go → Go 0 (as.map some ++ List.replicate (4 - as.length) none) [] w) :
    ma_Met l y_PC_begin (w_PC_begin :: zw_t) dep true T := ma_met (by decide) o_PC_begin (Or.inr (Or.inl ⟨rfl, rfl, rfl⟩)) kk_PC_begin zf_PC_ok (ee_PC_begin h_0 e_0 h_1 e_1 h_2 e_2 h_3 e_3 h_4 e_4 h_5 e_5) hT hB
-- PackingCensus.grow()I
def s_PC_grow : List (Nat × ma_C) := [
  (0, [(.aload_n 0, 1), (.getfield 55, 3), (.ifCond .ne 5, 3), (.iconst (-1), 1), (.ireturn, 1)]),
  (9, [(.aload_n 0, 1), (.getfield 58, 3), (.ifCond .ne 15, 3), (.aload_n 0, 1), (.getfield 37, 3), (.invokevirtual 85, 3), (.bipush 10, 2), (.if_icmp .lt 6, 3)]),
  (28, [(.bipush (-5), 2), (.ireturn, 1)]),
  (31, [(.aload_n 0, 1), (.invokevirtual 88, 3), (.ifCond .ne 11, 3), (.aload_n 0, 1), (.iconst 1, 1), (.putfield 58, 3), (.bipush (-5), 2), (.ireturn, 1)]),
  (46, [(.aload_n 0, 1), (.getfield 41, 3), (.astore_n 1, 1), (.aload_n 0, 1), (.aload_n 0, 1), (.getfield 37, 3), (.putfield 41, 3), (.aload_n 0, 1), (.aload_n 1, 1), (.putfield 37, 3), (.aload_n 0, 1), (.getfield 37, 3), (.invokevirtual 92, 3), (.ireturn, 1)])]
theorem o_PC_grow : (s_PC_grow).all (fun q => ma_dec prog_1_method_3_code q.1 q.2) = true := by decide +kernel
def k_PC_grow : List (Nat × Int32) := []
theorem kk_PC_grow {z : Cond} : ma_Kok "PackingCensus" (z :: zw_t) k_PC_grow := fun _ h => absurd h List.not_mem_nil
def e_PC_grow (t_0 t_1 t_2 : ma_T) : ma_E := [(85, 1, some 4, true, t_0), (88, 1, some 0, true, t_1), (92, 1, some 4, true, t_2)]
theorem ee_PC_grow {l : Launch} {dep : Nat} {z : Cond} {t_0 t_1 t_2 : ma_T} {d_0 : Nat} (h_0 : ma_Met l y_LI_rowLength (w_LI_rowLength :: zw_t) d_0 true t_0) (e_0 : d_0 + 1 ≤ dep) {d_1 : Nat} (h_1 : ma_Met l y_PC_fillSpare (w_PC_fillSpare :: zw_t) d_1 true t_1) (e_1 : d_1 + 1 ≤ dep) {d_2 : Nat} (h_2 : ma_Met l y_LI_size (w_LI_size :: zw_t) d_2 true t_2) (e_2 : d_2 + 1 ≤ dep) : ma_Eok l "PackingCensus" (z :: zw_t) dep (e_PC_grow t_0 t_1 t_2) := List.forall_mem_cons.mpr ⟨Or.inr ⟨y_LI_rowLength, prog_4_method_8_code, 1, d_0, 0, (some .int), zw_t, h_0, zw_in m_LI_rowLength, e_0, by decide, List.mem_cons_of_mem _ (zw_m (w := .methodLink "PackingCensus" 85 y_LI_rowLength) (i := 221) (by decide +kernel) (by decide +kernel)), List.mem_cons_of_mem _ (zw_m (i := 38) (by decide +kernel) (by decide +kernel)), ⟨by decide, by decide, by decide +kernel⟩, Or.inr ⟨4, (zc_LI, zt_LI, 5), rfl, rfl, List.mem_cons_of_mem _ (zw_m (i := 222) (by decide +kernel) (by decide +kernel)), rfl, List.mem_cons_of_mem _ (zw_m (i := 223) (by decide +kernel) (by decide +kernel))⟩⟩, List.forall_mem_cons.mpr ⟨Or.inr ⟨y_PC_fillSpare, prog_1_method_22_code, 2, d_1, 0, (some .boolean), zw_t, h_1, zw_in m_PC_fillSpare, e_1, by decide, List.mem_cons_of_mem _ (zw_m (w := .methodLink "PackingCensus" 88 y_PC_fillSpare) (i := 225) (by decide +kernel) (by decide +kernel)), List.mem_cons_of_mem _ (zw_m (i := 34) (by decide +kernel) (by decide +kernel)), ⟨by decide, by decide, by decide +kernel⟩, Or.inr ⟨0, (zc_PC, zt_PC, 12), rfl, rfl, List.mem_cons_of_mem _ (zw_m (i := 227) (by decide +kernel) (by decide +kernel)), rfl, List.mem_cons_of_mem _ (zw_m (i := 1) (by decide +kernel) (by decide +kernel))⟩⟩, List.forall_mem_cons.mpr ⟨Or.inr ⟨y_LI_size, prog_4_method_5_code, 1, d_2, 0, (some .int), zw_t, h_2, zw_in m_LI_size, e_2, by decide, List.mem_cons_of_mem _ (zw_m (w := .methodLink "PackingCensus" 92 y_LI_size) (i := 229) (by decide +kernel) (by decide +kernel)), List.mem_cons_of_mem _ (zw_m (i := 38) (by decide +kernel) (by decide +kernel)), ⟨by decide, by decide, by decide +kernel⟩, Or.inr ⟨4, (zc_LI, zt_LI, 5), rfl, rfl, List.mem_cons_of_mem _ (zw_m (i := 230) (by decide +kernel) (by decide +kernel)), rfl, List.mem_cons_of_mem _ (zw_m (i := 231) (by decide +kernel) (by decide +kernel))⟩⟩, fun _ h => absurd h List.not_mem_nil⟩⟩⟩
theorem z_PC_grow {l : Launch} {dep : Nat} {T : ma_T} {t_0 t_1 t_2 : ma_T} {d_0 : Nat} (h_0 : ma_Met l y_LI_rowLength (w_LI_rowLength :: zw_t) d_0 true t_0) (e_0 : d_0 + 1 ≤ dep) {d_1 : Nat} (h_1 : ma_Met l y_PC_fillSpare (w_PC_fillSpare :: zw_t) d_1 true t_1) (e_1 : d_1 + 1 ≤ dep) {d_2 : Nat} (h_2 : ma_Met l y_LI_size (w_LI_size :: zw_t) d_2 true t_2) (e_2 : d_2 + 1 ≤ dep) (hT : ∀ as w post, T as w post → as.length ≤ 2)
    (hB : ∀ as w post, T as w post → ∀ Go, ma_cl k_PC_grow zf_PC (e_PC_grow t_0 t_1 t_2) none 1 s_PC_grow post Go → Go 0 (as.map some ++ List.replicate (2 - as.length) none) [] w) :
    ma_Met l y_PC_grow (w_PC_grow :: zw_t) dep true T := ma_met (by decide) o_PC_grow (Or.inr (Or.inl ⟨rfl, rfl, rfl⟩)) kk_PC_grow zf_PC_ok (ee_PC_grow h_0 e_0 h_1 e_1 h_2 e_2) hT hB
-- PackingCensus.level()I
def s_PC_level : List (Nat × ma_C) := [
  (0, [(.aload_n 0, 1), (.getfield 55, 3), (.ifCond .eq 13, 3), (.aload_n 0, 1), (.getfield 37, 3), (.invokevirtual 85, 3), (.goto 4, 3)]),
  (17, [(.iconst (-1), 1)]),
  (18, [(.ireturn, 1)])]
theorem o_PC_level : (s_PC_level).all (fun q => ma_dec prog_1_method_4_code q.1 q.2) = true := by decide +kernel
def k_PC_level : List (Nat × Int32) := []
theorem kk_PC_level {z : Cond} : ma_Kok "PackingCensus" (z :: zw_t) k_PC_level := fun _ h => absurd h List.not_mem_nil
def e_PC_level (t_0 : ma_T) : ma_E := [(85, 1, some 4, true, t_0)]
theorem ee_PC_level {l : Launch} {dep : Nat} {z : Cond} {t_0 : ma_T} {d_0 : Nat} (h_0 : ma_Met l y_LI_rowLength (w_LI_rowLength :: zw_t) d_0 true t_0) (e_0 : d_0 + 1 ≤ dep) : ma_Eok l "PackingCensus" (z :: zw_t) dep (e_PC_level t_0) := List.forall_mem_cons.mpr ⟨Or.inr ⟨y_LI_rowLength, prog_4_method_8_code, 1, d_0, 0, (some .int), zw_t, h_0, zw_in m_LI_rowLength, e_0, by decide, List.mem_cons_of_mem _ (zw_m (w := .methodLink "PackingCensus" 85 y_LI_rowLength) (i := 221) (by decide +kernel) (by decide +kernel)), List.mem_cons_of_mem _ (zw_m (i := 38) (by decide +kernel) (by decide +kernel)), ⟨by decide, by decide, by decide +kernel⟩, Or.inr ⟨4, (zc_LI, zt_LI, 5), rfl, rfl, List.mem_cons_of_mem _ (zw_m (i := 222) (by decide +kernel) (by decide +kernel)), rfl, List.mem_cons_of_mem _ (zw_m (i := 223) (by decide +kernel) (by decide +kernel))⟩⟩, fun _ h => absurd h List.not_mem_nil⟩
theorem z_PC_level {l : Launch} {dep : Nat} {T : ma_T} {t_0 : ma_T} {d_0 : Nat} (h_0 : ma_Met l y_LI_rowLength (w_LI_rowLength :: zw_t) d_0 true t_0) (e_0 : d_0 + 1 ≤ dep) (hT : ∀ as w post, T as w post → as.length ≤ 1)
    (hB : ∀ as w post, T as w post → ∀ Go, ma_cl k_PC_level zf_PC (e_PC_level t_0) none 1 s_PC_level post Go → Go 0 (as.map some ++ List.replicate (1 - as.length) none) [] w) :
    ma_Met l y_PC_level (w_PC_level :: zw_t) dep true T := ma_met (by decide) o_PC_level (Or.inr (Or.inl ⟨rfl, rfl, rfl⟩)) kk_PC_level zf_PC_ok (ee_PC_level h_0 e_0) hT hB
-- PackingCensus.entries()I
def s_PC_entries : List (Nat × ma_C) := [
  (0, [(.aload_n 0, 1), (.getfield 37, 3), (.invokevirtual 92, 3), (.ireturn, 1)])]
theorem o_PC_entries : (s_PC_entries).all (fun q => ma_dec prog_1_method_5_code q.1 q.2) = true := by decide +kernel
def k_PC_entries : List (Nat × Int32) := []
theorem kk_PC_entries {z : Cond} : ma_Kok "PackingCensus" (z :: zw_t) k_PC_entries := fun _ h => absurd h List.not_mem_nil
def e_PC_entries (t_0 : ma_T) : ma_E := [(92, 1, some 4, true, t_0)]
theorem ee_PC_entries {l : Launch} {dep : Nat} {z : Cond} {t_0 : ma_T} {d_0 : Nat} (h_0 : ma_Met l y_LI_size (w_LI_size :: zw_t) d_0 true t_0) (e_0 : d_0 + 1 ≤ dep) : ma_Eok l "PackingCensus" (z :: zw_t) dep (e_PC_entries t_0) := List.forall_mem_cons.mpr ⟨Or.inr ⟨y_LI_size, prog_4_method_5_code, 1, d_0, 0, (some .int), zw_t, h_0, zw_in m_LI_size, e_0, by decide, List.mem_cons_of_mem _ (zw_m (w := .methodLink "PackingCensus" 92 y_LI_size) (i := 229) (by decide +kernel) (by decide +kernel)), List.mem_cons_of_mem _ (zw_m (i := 38) (by decide +kernel) (by decide +kernel)), ⟨by decide, by decide, by decide +kernel⟩, Or.inr ⟨4, (zc_LI, zt_LI, 5), rfl, rfl, List.mem_cons_of_mem _ (zw_m (i := 230) (by decide +kernel) (by decide +kernel)), rfl, List.mem_cons_of_mem _ (zw_m (i := 231) (by decide +kernel) (by decide +kernel))⟩⟩, fun _ h => absurd h List.not_mem_nil⟩
theorem z_PC_entries {l : Launch} {dep : Nat} {T : ma_T} {t_0 : ma_T} {d_0 : Nat} (h_0 : ma_Met l y_LI_size (w_LI_size :: zw_t) d_0 true t_0) (e_0 : d_0 + 1 ≤ dep) (hT : ∀ as w post, T as w post → as.length ≤ 1)
    (hB : ∀ as w post, T as w post → ∀ Go, ma_cl k_PC_entries zf_PC (e_PC_entries t_0) none 1 s_PC_entries post Go → Go 0 (as.map some ++ List.replicate (1 - as.length) none) [] w) :
    ma_Met l y_PC_entries (w_PC_entries :: zw_t) dep true T := ma_met (by decide) o_PC_entries (Or.inr (Or.inl ⟨rfl, rfl, rfl⟩)) kk_PC_entries zf_PC_ok (ee_PC_entries h_0 e_0) hT hB
-- PackingCensus.block(II)I
def s_PC_block : List (Nat × ma_C) := [
  (0, [(.aload_n 0, 1), (.getfield 37, 3), (.iload_n 1, 1), (.invokevirtual 95, 3), (.ifCond .eq 30, 3), (.iload_n 2, 1), (.ifCond .lt 26, 3), (.iload_n 2, 1), (.aload_n 0, 1), (.getfield 37, 3), (.invokevirtual 85, 3), (.if_icmp .ge 15, 3), (.aload_n 0, 1), (.getfield 37, 3), (.iload_n 1, 1), (.iload_n 2, 1), (.invokevirtual 99, 3), (.goto 4, 3)]),
  (38, [(.iconst (-1), 1)]),
  (39, [(.ireturn, 1)])]
theorem o_PC_block : (s_PC_block).all (fun q => ma_dec prog_1_method_6_code q.1 q.2) = true := by decide +kernel
def k_PC_block : List (Nat × Int32) := []
theorem kk_PC_block {z : Cond} : ma_Kok "PackingCensus" (z :: zw_t) k_PC_block := fun _ h => absurd h List.not_mem_nil
def e_PC_block (t_0 t_1 t_2 : ma_T) : ma_E := [(95, 2, some 4, true, t_0), (85, 1, some 4, true, t_1), (99, 3, some 4, true, t_2)]
theorem ee_PC_block {l : Launch} {dep : Nat} {z : Cond} {t_0 t_1 t_2 : ma_T} {d_0 : Nat} (h_0 : ma_Met l y_LI_has (w_LI_has :: zw_t) d_0 true t_0) (e_0 : d_0 + 1 ≤ dep) {d_1 : Nat} (h_1 : ma_Met l y_LI_rowLength (w_LI_rowLength :: zw_t) d_1 true t_1) (e_1 : d_1 + 1 ≤ dep) {d_2 : Nat} (h_2 : ma_Met l y_LI_mask (w_LI_mask :: zw_t) d_2 true t_2) (e_2 : d_2 + 1 ≤ dep) : ma_Eok l "PackingCensus" (z :: zw_t) dep (e_PC_block t_0 t_1 t_2) := List.forall_mem_cons.mpr ⟨Or.inr ⟨y_LI_has, prog_4_method_7_code, 2, d_0, 1, (some .boolean), zw_t, h_0, zw_in m_LI_has, e_0, by decide, List.mem_cons_of_mem _ (zw_m (w := .methodLink "PackingCensus" 95 y_LI_has) (i := 365) (by decide +kernel) (by decide +kernel)), List.mem_cons_of_mem _ (zw_m (i := 38) (by decide +kernel) (by decide +kernel)), ⟨by decide, by decide, by decide +kernel⟩, Or.inr ⟨4, (zc_LI, zt_LI, 5), rfl, rfl, List.mem_cons_of_mem _ (zw_m (i := 366) (by decide +kernel) (by decide +kernel)), rfl, List.mem_cons_of_mem _ (zw_m (i := 367) (by decide +kernel) (by decide +kernel))⟩⟩, List.forall_mem_cons.mpr ⟨Or.inr ⟨y_LI_rowLength, prog_4_method_8_code, 1, d_1, 0, (some .int), zw_t, h_1, zw_in m_LI_rowLength, e_1, by decide, List.mem_cons_of_mem _ (zw_m (w := .methodLink "PackingCensus" 85 y_LI_rowLength) (i := 221) (by decide +kernel) (by decide +kernel)), List.mem_cons_of_mem _ (zw_m (i := 38) (by decide +kernel) (by decide +kernel)), ⟨by decide, by decide, by decide +kernel⟩, Or.inr ⟨4, (zc_LI, zt_LI, 5), rfl, rfl, List.mem_cons_of_mem _ (zw_m (i := 222) (by decide +kernel) (by decide +kernel)), rfl, List.mem_cons_of_mem _ (zw_m (i := 223) (by decide +kernel) (by decide +kernel))⟩⟩, List.forall_mem_cons.mpr ⟨Or.inr ⟨y_LI_mask, prog_4_method_9_code, 3, d_2, 2, (some .int), zw_t, h_2, zw_in m_LI_mask, e_2, by decide, List.mem_cons_of_mem _ (zw_m (w := .methodLink "PackingCensus" 99 y_LI_mask) (i := 369) (by decide +kernel) (by decide +kernel)), List.mem_cons_of_mem _ (zw_m (i := 38) (by decide +kernel) (by decide +kernel)), ⟨by decide, by decide, by decide +kernel⟩, Or.inr ⟨4, (zc_LI, zt_LI, 5), rfl, rfl, List.mem_cons_of_mem _ (zw_m (i := 243) (by decide +kernel) (by decide +kernel)), rfl, List.mem_cons_of_mem _ (zw_m (i := 244) (by decide +kernel) (by decide +kernel))⟩⟩, fun _ h => absurd h List.not_mem_nil⟩⟩⟩
theorem z_PC_block {l : Launch} {dep : Nat} {T : ma_T} {t_0 t_1 t_2 : ma_T} {d_0 : Nat} (h_0 : ma_Met l y_LI_has (w_LI_has :: zw_t) d_0 true t_0) (e_0 : d_0 + 1 ≤ dep) {d_1 : Nat} (h_1 : ma_Met l y_LI_rowLength (w_LI_rowLength :: zw_t) d_1 true t_1) (e_1 : d_1 + 1 ≤ dep) {d_2 : Nat} (h_2 : ma_Met l y_LI_mask (w_LI_mask :: zw_t) d_2 true t_2) (e_2 : d_2 + 1 ≤ dep) (hT : ∀ as w post, T as w post → as.length ≤ 3)
    (hB : ∀ as w post, T as w post → ∀ Go, ma_cl k_PC_block zf_PC (e_PC_block t_0 t_1 t_2) none 1 s_PC_block post Go → Go 0 (as.map some ++ List.replicate (3 - as.length) none) [] w) :
    ma_Met l y_PC_block (w_PC_block :: zw_t) dep true T := ma_met (by decide) o_PC_block (Or.inr (Or.inl ⟨rfl, rfl, rfl⟩)) kk_PC_block zf_PC_ok (ee_PC_block h_0 e_0 h_1 e_1 h_2 e_2) hT hB
-- PackingCensus.order(I)I
def s_PC_order : List (Nat × ma_C) := [
  (0, [(.aload_n 0, 1), (.getfield 37, 3), (.iload_n 1, 1), (.invokevirtual 95, 3), (.ifCond .eq 14, 3), (.aload_n 0, 1), (.getfield 37, 3), (.iload_n 1, 1), (.invokevirtual 103, 3), (.goto 4, 3)]),
  (22, [(.iconst (-1), 1)]),
  (23, [(.ireturn, 1)])]
theorem o_PC_order : (s_PC_order).all (fun q => ma_dec prog_1_method_7_code q.1 q.2) = true := by decide +kernel
def k_PC_order : List (Nat × Int32) := []
theorem kk_PC_order {z : Cond} : ma_Kok "PackingCensus" (z :: zw_t) k_PC_order := fun _ h => absurd h List.not_mem_nil
def e_PC_order (t_0 t_1 : ma_T) : ma_E := [(95, 2, some 4, true, t_0), (103, 2, some 4, true, t_1)]
theorem ee_PC_order {l : Launch} {dep : Nat} {z : Cond} {t_0 t_1 : ma_T} {d_0 : Nat} (h_0 : ma_Met l y_LI_has (w_LI_has :: zw_t) d_0 true t_0) (e_0 : d_0 + 1 ≤ dep) {d_1 : Nat} (h_1 : ma_Met l y_LI_symmetriesOf (w_LI_symmetriesOf :: zw_t) d_1 true t_1) (e_1 : d_1 + 1 ≤ dep) : ma_Eok l "PackingCensus" (z :: zw_t) dep (e_PC_order t_0 t_1) := List.forall_mem_cons.mpr ⟨Or.inr ⟨y_LI_has, prog_4_method_7_code, 2, d_0, 1, (some .boolean), zw_t, h_0, zw_in m_LI_has, e_0, by decide, List.mem_cons_of_mem _ (zw_m (w := .methodLink "PackingCensus" 95 y_LI_has) (i := 365) (by decide +kernel) (by decide +kernel)), List.mem_cons_of_mem _ (zw_m (i := 38) (by decide +kernel) (by decide +kernel)), ⟨by decide, by decide, by decide +kernel⟩, Or.inr ⟨4, (zc_LI, zt_LI, 5), rfl, rfl, List.mem_cons_of_mem _ (zw_m (i := 366) (by decide +kernel) (by decide +kernel)), rfl, List.mem_cons_of_mem _ (zw_m (i := 367) (by decide +kernel) (by decide +kernel))⟩⟩, List.forall_mem_cons.mpr ⟨Or.inr ⟨y_LI_symmetriesOf, prog_4_method_10_code, 2, d_1, 1, (some .int), zw_t, h_1, zw_in m_LI_symmetriesOf, e_1, by decide, List.mem_cons_of_mem _ (zw_m (w := .methodLink "PackingCensus" 103 y_LI_symmetriesOf) (i := 374) (by decide +kernel) (by decide +kernel)), List.mem_cons_of_mem _ (zw_m (i := 38) (by decide +kernel) (by decide +kernel)), ⟨by decide, by decide, by decide +kernel⟩, Or.inr ⟨4, (zc_LI, zt_LI, 5), rfl, rfl, List.mem_cons_of_mem _ (zw_m (i := 375) (by decide +kernel) (by decide +kernel)), rfl, List.mem_cons_of_mem _ (zw_m (i := 376) (by decide +kernel) (by decide +kernel))⟩⟩, fun _ h => absurd h List.not_mem_nil⟩⟩
theorem z_PC_order {l : Launch} {dep : Nat} {T : ma_T} {t_0 t_1 : ma_T} {d_0 : Nat} (h_0 : ma_Met l y_LI_has (w_LI_has :: zw_t) d_0 true t_0) (e_0 : d_0 + 1 ≤ dep) {d_1 : Nat} (h_1 : ma_Met l y_LI_symmetriesOf (w_LI_symmetriesOf :: zw_t) d_1 true t_1) (e_1 : d_1 + 1 ≤ dep) (hT : ∀ as w post, T as w post → as.length ≤ 2)
    (hB : ∀ as w post, T as w post → ∀ Go, ma_cl k_PC_order zf_PC (e_PC_order t_0 t_1) none 1 s_PC_order post Go → Go 0 (as.map some ++ List.replicate (2 - as.length) none) [] w) :
    ma_Met l y_PC_order (w_PC_order :: zw_t) dep true T := ma_met (by decide) o_PC_order (Or.inr (Or.inl ⟨rfl, rfl, rfl⟩)) kk_PC_order zf_PC_ok (ee_PC_order h_0 e_0 h_1 e_1) hT hB
-- PackingCensus.labelled()I
def s_PC_labelled : List (Nat × ma_C) := [
  (0, [(.iconst 0, 1), (.istore_n 1, 1), (.aload_n 0, 1), (.getfield 20, 3), (.invokevirtual 74, 3), (.istore_n 2, 1), (.iconst 0, 1), (.istore_n 3, 1)]),
  (12, [(.iload_n 3, 1), (.aload_n 0, 1), (.getfield 37, 3), (.invokevirtual 92, 3), (.if_icmp .ge 35, 3), (.aload_n 0, 1), (.getfield 37, 3), (.iload_n 3, 1), (.invokevirtual 103, 3), (.istore 4, 2), (.iload_n 1, 1), (.iload 4, 2), (.ifCond .le 10, 3), (.iload_n 2, 1), (.iload 4, 2), (.idiv, 1), (.goto 4, 3)]),
  (46, [(.iconst 0, 1)]),
  (47, [(.iadd, 1), (.istore_n 1, 1), (.iinc 3 1, 3), (.goto (-40), 3)]),
  (55, [(.iload_n 1, 1), (.ireturn, 1)])]
theorem o_PC_labelled : (s_PC_labelled).all (fun q => ma_dec prog_1_method_8_code q.1 q.2) = true := by decide +kernel
def k_PC_labelled : List (Nat × Int32) := []
theorem kk_PC_labelled {z : Cond} : ma_Kok "PackingCensus" (z :: zw_t) k_PC_labelled := fun _ h => absurd h List.not_mem_nil
def e_PC_labelled (t_0 t_1 t_2 : ma_T) : ma_E := [(74, 1, some 2, true, t_0), (92, 1, some 4, true, t_1), (103, 2, some 4, true, t_2)]
theorem ee_PC_labelled {l : Launch} {dep : Nat} {z : Cond} {t_0 t_1 t_2 : ma_T} {d_0 : Nat} (h_0 : ma_Met l y_GR_renamings (w_GR_renamings :: zw_t) d_0 true t_0) (e_0 : d_0 + 1 ≤ dep) {d_1 : Nat} (h_1 : ma_Met l y_LI_size (w_LI_size :: zw_t) d_1 true t_1) (e_1 : d_1 + 1 ≤ dep) {d_2 : Nat} (h_2 : ma_Met l y_LI_symmetriesOf (w_LI_symmetriesOf :: zw_t) d_2 true t_2) (e_2 : d_2 + 1 ≤ dep) : ma_Eok l "PackingCensus" (z :: zw_t) dep (e_PC_labelled t_0 t_1 t_2) := List.forall_mem_cons.mpr ⟨Or.inr ⟨y_GR_renamings, prog_3_method_10_code, 3, d_0, 0, (some .int), zw_t, h_0, zw_in m_GR_renamings, e_0, by decide, List.mem_cons_of_mem _ (zw_m (w := .methodLink "PackingCensus" 74 y_GR_renamings) (i := 206) (by decide +kernel) (by decide +kernel)), List.mem_cons_of_mem _ (zw_m (i := 36) (by decide +kernel) (by decide +kernel)), ⟨by decide, by decide, by decide +kernel⟩, Or.inr ⟨2, (zc_GR, zt_GR, 5), rfl, rfl, List.mem_cons_of_mem _ (zw_m (i := 207) (by decide +kernel) (by decide +kernel)), rfl, List.mem_cons_of_mem _ (zw_m (i := 208) (by decide +kernel) (by decide +kernel))⟩⟩, List.forall_mem_cons.mpr ⟨Or.inr ⟨y_LI_size, prog_4_method_5_code, 1, d_1, 0, (some .int), zw_t, h_1, zw_in m_LI_size, e_1, by decide, List.mem_cons_of_mem _ (zw_m (w := .methodLink "PackingCensus" 92 y_LI_size) (i := 229) (by decide +kernel) (by decide +kernel)), List.mem_cons_of_mem _ (zw_m (i := 38) (by decide +kernel) (by decide +kernel)), ⟨by decide, by decide, by decide +kernel⟩, Or.inr ⟨4, (zc_LI, zt_LI, 5), rfl, rfl, List.mem_cons_of_mem _ (zw_m (i := 230) (by decide +kernel) (by decide +kernel)), rfl, List.mem_cons_of_mem _ (zw_m (i := 231) (by decide +kernel) (by decide +kernel))⟩⟩, List.forall_mem_cons.mpr ⟨Or.inr ⟨y_LI_symmetriesOf, prog_4_method_10_code, 2, d_2, 1, (some .int), zw_t, h_2, zw_in m_LI_symmetriesOf, e_2, by decide, List.mem_cons_of_mem _ (zw_m (w := .methodLink "PackingCensus" 103 y_LI_symmetriesOf) (i := 374) (by decide +kernel) (by decide +kernel)), List.mem_cons_of_mem _ (zw_m (i := 38) (by decide +kernel) (by decide +kernel)), ⟨by decide, by decide, by decide +kernel⟩, Or.inr ⟨4, (zc_LI, zt_LI, 5), rfl, rfl, List.mem_cons_of_mem _ (zw_m (i := 375) (by decide +kernel) (by decide +kernel)), rfl, List.mem_cons_of_mem _ (zw_m (i := 376) (by decide +kernel) (by decide +kernel))⟩⟩, fun _ h => absurd h List.not_mem_nil⟩⟩⟩
theorem z_PC_labelled {l : Launch} {dep : Nat} {T : ma_T} {t_0 t_1 t_2 : ma_T} {d_0 : Nat} (h_0 : ma_Met l y_GR_renamings (w_GR_renamings :: zw_t) d_0 true t_0) (e_0 : d_0 + 1 ≤ dep) {d_1 : Nat} (h_1 : ma_Met l y_LI_size (w_LI_size :: zw_t) d_1 true t_1) (e_1 : d_1 + 1 ≤ dep) {d_2 : Nat} (h_2 : ma_Met l y_LI_symmetriesOf (w_LI_symmetriesOf :: zw_t) d_2 true t_2) (e_2 : d_2 + 1 ≤ dep) (hT : ∀ as w post, T as w post → as.length ≤ 5)
    (hB : ∀ as w post, T as w post → ∀ Go, ma_cl k_PC_labelled zf_PC (e_PC_labelled t_0 t_1 t_2) none 1 s_PC_labelled post Go → Go 0 (as.map some ++ List.replicate (5 - as.length) none) [] w) :
    ma_Met l y_PC_labelled (w_PC_labelled :: zw_t) dep true T := ma_met (by decide) o_PC_labelled (Or.inr (Or.inl ⟨rfl, rfl, rfl⟩)) kk_PC_labelled zf_PC_ok (ee_PC_labelled h_0 e_0 h_1 e_1 h_2 e_2) hT hB
-- PackingCensus.together(III)I
def s_PC_together : List (Nat × ma_C) := [
  (0, [(.aload_n 0, 1), (.getfield 37, 3), (.iload_n 1, 1), (.invokevirtual 95, 3), (.ifCond .eq 25, 3), (.aload_n 0, 1), (.getfield 20, 3), (.iload_n 2, 1), (.invokevirtual 107, 3), (.ifCond .eq 14, 3), (.aload_n 0, 1), (.getfield 20, 3), (.iload_n 3, 1), (.invokevirtual 107, 3), (.ifCond .ne 5, 3)]),
  (33, [(.iconst (-1), 1), (.ireturn, 1)]),
  (35, [(.aload_n 0, 1), (.getfield 37, 3), (.iload_n 1, 1), (.iconst 1, 1), (.iload_n 2, 1), (.ishl, 1), (.iconst 1, 1), (.iload_n 3, 1), (.ishl, 1), (.ior, 1), (.invokevirtual 110, 3), (.ireturn, 1)])]
theorem o_PC_together : (s_PC_together).all (fun q => ma_dec prog_1_method_9_code q.1 q.2) = true := by decide +kernel
def k_PC_together : List (Nat × Int32) := []
theorem kk_PC_together {z : Cond} : ma_Kok "PackingCensus" (z :: zw_t) k_PC_together := fun _ h => absurd h List.not_mem_nil
def e_PC_together (t_0 t_1 t_2 : ma_T) : ma_E := [(95, 2, some 4, true, t_0), (107, 2, some 2, true, t_1), (110, 3, some 4, true, t_2)]
theorem ee_PC_together {l : Launch} {dep : Nat} {z : Cond} {t_0 t_1 t_2 : ma_T} {d_0 : Nat} (h_0 : ma_Met l y_LI_has (w_LI_has :: zw_t) d_0 true t_0) (e_0 : d_0 + 1 ≤ dep) {d_1 : Nat} (h_1 : ma_Met l y_GR_isPoint (w_GR_isPoint :: zw_t) d_1 true t_1) (e_1 : d_1 + 1 ≤ dep) {d_2 : Nat} (h_2 : ma_Met l y_LI_blocksHolding (w_LI_blocksHolding :: zw_t) d_2 true t_2) (e_2 : d_2 + 1 ≤ dep) : ma_Eok l "PackingCensus" (z :: zw_t) dep (e_PC_together t_0 t_1 t_2) := List.forall_mem_cons.mpr ⟨Or.inr ⟨y_LI_has, prog_4_method_7_code, 2, d_0, 1, (some .boolean), zw_t, h_0, zw_in m_LI_has, e_0, by decide, List.mem_cons_of_mem _ (zw_m (w := .methodLink "PackingCensus" 95 y_LI_has) (i := 365) (by decide +kernel) (by decide +kernel)), List.mem_cons_of_mem _ (zw_m (i := 38) (by decide +kernel) (by decide +kernel)), ⟨by decide, by decide, by decide +kernel⟩, Or.inr ⟨4, (zc_LI, zt_LI, 5), rfl, rfl, List.mem_cons_of_mem _ (zw_m (i := 366) (by decide +kernel) (by decide +kernel)), rfl, List.mem_cons_of_mem _ (zw_m (i := 367) (by decide +kernel) (by decide +kernel))⟩⟩, List.forall_mem_cons.mpr ⟨Or.inr ⟨y_GR_isPoint, prog_3_method_5_code, 2, d_1, 1, (some .boolean), zw_t, h_1, zw_in m_GR_isPoint, e_1, by decide, List.mem_cons_of_mem _ (zw_m (w := .methodLink "PackingCensus" 107 y_GR_isPoint) (i := 386) (by decide +kernel) (by decide +kernel)), List.mem_cons_of_mem _ (zw_m (i := 36) (by decide +kernel) (by decide +kernel)), ⟨by decide, by decide, by decide +kernel⟩, Or.inr ⟨2, (zc_GR, zt_GR, 5), rfl, rfl, List.mem_cons_of_mem _ (zw_m (i := 387) (by decide +kernel) (by decide +kernel)), rfl, List.mem_cons_of_mem _ (zw_m (i := 388) (by decide +kernel) (by decide +kernel))⟩⟩, List.forall_mem_cons.mpr ⟨Or.inr ⟨y_LI_blocksHolding, prog_4_method_12_code, 5, d_2, 2, (some .int), zw_t, h_2, zw_in m_LI_blocksHolding, e_2, by decide, List.mem_cons_of_mem _ (zw_m (w := .methodLink "PackingCensus" 110 y_LI_blocksHolding) (i := 270) (by decide +kernel) (by decide +kernel)), List.mem_cons_of_mem _ (zw_m (i := 38) (by decide +kernel) (by decide +kernel)), ⟨by decide, by decide, by decide +kernel⟩, Or.inr ⟨4, (zc_LI, zt_LI, 5), rfl, rfl, List.mem_cons_of_mem _ (zw_m (i := 271) (by decide +kernel) (by decide +kernel)), rfl, List.mem_cons_of_mem _ (zw_m (i := 272) (by decide +kernel) (by decide +kernel))⟩⟩, fun _ h => absurd h List.not_mem_nil⟩⟩⟩
theorem z_PC_together {l : Launch} {dep : Nat} {T : ma_T} {t_0 t_1 t_2 : ma_T} {d_0 : Nat} (h_0 : ma_Met l y_LI_has (w_LI_has :: zw_t) d_0 true t_0) (e_0 : d_0 + 1 ≤ dep) {d_1 : Nat} (h_1 : ma_Met l y_GR_isPoint (w_GR_isPoint :: zw_t) d_1 true t_1) (e_1 : d_1 + 1 ≤ dep) {d_2 : Nat} (h_2 : ma_Met l y_LI_blocksHolding (w_LI_blocksHolding :: zw_t) d_2 true t_2) (e_2 : d_2 + 1 ≤ dep) (hT : ∀ as w post, T as w post → as.length ≤ 4)
    (hB : ∀ as w post, T as w post → ∀ Go, ma_cl k_PC_together zf_PC (e_PC_together t_0 t_1 t_2) none 1 s_PC_together post Go → Go 0 (as.map some ++ List.replicate (4 - as.length) none) [] w) :
    ma_Met l y_PC_together (w_PC_together :: zw_t) dep true T := ma_met (by decide) o_PC_together (Or.inr (Or.inl ⟨rfl, rfl, rfl⟩)) kk_PC_together zf_PC_ok (ee_PC_together h_0 e_0 h_1 e_1 h_2 e_2) hT hB
-- PackingCensus.design(I)Z
def s_PC_design : List (Nat × ma_C) := [
  (0, [(.aload_n 0, 1), (.getfield 37, 3), (.iload_n 1, 1), (.invokevirtual 95, 3), (.ifCond .eq 15, 3), (.aload_n 0, 1), (.iload_n 1, 1), (.invokevirtual 113, 3), (.ifCond .eq 7, 3), (.iconst 1, 1), (.goto 4, 3)]),
  (23, [(.iconst 0, 1)]),
  (24, [(.ireturn, 1)])]
theorem o_PC_design : (s_PC_design).all (fun q => ma_dec prog_1_method_10_code q.1 q.2) = true := by decide +kernel
def k_PC_design : List (Nat × Int32) := []
theorem kk_PC_design {z : Cond} : ma_Kok "PackingCensus" (z :: zw_t) k_PC_design := fun _ h => absurd h List.not_mem_nil
def e_PC_design (t_0 t_1 : ma_T) : ma_E := [(95, 2, some 4, true, t_0), (113, 2, some 0, true, t_1)]
theorem ee_PC_design {l : Launch} {dep : Nat} {z : Cond} {t_0 t_1 : ma_T} {d_0 : Nat} (h_0 : ma_Met l y_LI_has (w_LI_has :: zw_t) d_0 true t_0) (e_0 : d_0 + 1 ≤ dep) {d_1 : Nat} (h_1 : ma_Met l y_PC_isDesign (w_PC_isDesign :: zw_t) d_1 true t_1) (e_1 : d_1 + 1 ≤ dep) : ma_Eok l "PackingCensus" (z :: zw_t) dep (e_PC_design t_0 t_1) := List.forall_mem_cons.mpr ⟨Or.inr ⟨y_LI_has, prog_4_method_7_code, 2, d_0, 1, (some .boolean), zw_t, h_0, zw_in m_LI_has, e_0, by decide, List.mem_cons_of_mem _ (zw_m (w := .methodLink "PackingCensus" 95 y_LI_has) (i := 365) (by decide +kernel) (by decide +kernel)), List.mem_cons_of_mem _ (zw_m (i := 38) (by decide +kernel) (by decide +kernel)), ⟨by decide, by decide, by decide +kernel⟩, Or.inr ⟨4, (zc_LI, zt_LI, 5), rfl, rfl, List.mem_cons_of_mem _ (zw_m (i := 366) (by decide +kernel) (by decide +kernel)), rfl, List.mem_cons_of_mem _ (zw_m (i := 367) (by decide +kernel) (by decide +kernel))⟩⟩, List.forall_mem_cons.mpr ⟨Or.inr ⟨y_PC_isDesign, prog_1_method_25_code, 4, d_1, 1, (some .boolean), zw_t, h_1, zw_in m_PC_isDesign, e_1, by decide, List.mem_cons_of_mem _ (zw_m (w := .methodLink "PackingCensus" 113 y_PC_isDesign) (i := 394) (by decide +kernel) (by decide +kernel)), List.mem_cons_of_mem _ (zw_m (i := 34) (by decide +kernel) (by decide +kernel)), ⟨by decide, by decide, by decide +kernel⟩, Or.inr ⟨0, (zc_PC, zt_PC, 12), rfl, rfl, List.mem_cons_of_mem _ (zw_m (i := 396) (by decide +kernel) (by decide +kernel)), rfl, List.mem_cons_of_mem _ (zw_m (i := 11) (by decide +kernel) (by decide +kernel))⟩⟩, fun _ h => absurd h List.not_mem_nil⟩⟩
theorem z_PC_design {l : Launch} {dep : Nat} {T : ma_T} {t_0 t_1 : ma_T} {d_0 : Nat} (h_0 : ma_Met l y_LI_has (w_LI_has :: zw_t) d_0 true t_0) (e_0 : d_0 + 1 ≤ dep) {d_1 : Nat} (h_1 : ma_Met l y_PC_isDesign (w_PC_isDesign :: zw_t) d_1 true t_1) (e_1 : d_1 + 1 ≤ dep) (hT : ∀ as w post, T as w post → as.length ≤ 2)
    (hB : ∀ as w post, T as w post → ∀ Go, ma_cl k_PC_design zf_PC (e_PC_design t_0 t_1) none 2 s_PC_design post Go → Go 0 (as.map some ++ List.replicate (2 - as.length) none) [] w) :
    ma_Met l y_PC_design (w_PC_design :: zw_t) dep true T := ma_met (by decide) o_PC_design (Or.inr (Or.inr ⟨rfl, rfl, rfl⟩)) kk_PC_design zf_PC_ok (ee_PC_design h_0 e_0 h_1 e_1) hT hB
-- PackingCensus.designs()I
def s_PC_designs : List (Nat × ma_C) := [
  (0, [(.iconst 0, 1), (.istore_n 1, 1), (.iconst 0, 1), (.istore_n 2, 1)]),
  (4, [(.iload_n 2, 1), (.aload_n 0, 1), (.getfield 37, 3), (.invokevirtual 92, 3), (.if_icmp .ge 25, 3), (.iload_n 1, 1), (.aload_n 0, 1), (.iload_n 2, 1), (.invokevirtual 113, 3), (.ifCond .eq 7, 3), (.iconst 1, 1), (.goto 4, 3)]),
  (28, [(.iconst 0, 1)]),
  (29, [(.iadd, 1), (.istore_n 1, 1), (.iinc 2 1, 3), (.goto (-30), 3)]),
  (37, [(.iload_n 1, 1), (.ireturn, 1)])]
theorem o_PC_designs : (s_PC_designs).all (fun q => ma_dec prog_1_method_11_code q.1 q.2) = true := by decide +kernel
def k_PC_designs : List (Nat × Int32) := []
theorem kk_PC_designs {z : Cond} : ma_Kok "PackingCensus" (z :: zw_t) k_PC_designs := fun _ h => absurd h List.not_mem_nil
def e_PC_designs (t_0 t_1 : ma_T) : ma_E := [(92, 1, some 4, true, t_0), (113, 2, some 0, true, t_1)]
theorem ee_PC_designs {l : Launch} {dep : Nat} {z : Cond} {t_0 t_1 : ma_T} {d_0 : Nat} (h_0 : ma_Met l y_LI_size (w_LI_size :: zw_t) d_0 true t_0) (e_0 : d_0 + 1 ≤ dep) {d_1 : Nat} (h_1 : ma_Met l y_PC_isDesign (w_PC_isDesign :: zw_t) d_1 true t_1) (e_1 : d_1 + 1 ≤ dep) : ma_Eok l "PackingCensus" (z :: zw_t) dep (e_PC_designs t_0 t_1) := List.forall_mem_cons.mpr ⟨Or.inr ⟨y_LI_size, prog_4_method_5_code, 1, d_0, 0, (some .int), zw_t, h_0, zw_in m_LI_size, e_0, by decide, List.mem_cons_of_mem _ (zw_m (w := .methodLink "PackingCensus" 92 y_LI_size) (i := 229) (by decide +kernel) (by decide +kernel)), List.mem_cons_of_mem _ (zw_m (i := 38) (by decide +kernel) (by decide +kernel)), ⟨by decide, by decide, by decide +kernel⟩, Or.inr ⟨4, (zc_LI, zt_LI, 5), rfl, rfl, List.mem_cons_of_mem _ (zw_m (i := 230) (by decide +kernel) (by decide +kernel)), rfl, List.mem_cons_of_mem _ (zw_m (i := 231) (by decide +kernel) (by decide +kernel))⟩⟩, List.forall_mem_cons.mpr ⟨Or.inr ⟨y_PC_isDesign, prog_1_method_25_code, 4, d_1, 1, (some .boolean), zw_t, h_1, zw_in m_PC_isDesign, e_1, by decide, List.mem_cons_of_mem _ (zw_m (w := .methodLink "PackingCensus" 113 y_PC_isDesign) (i := 394) (by decide +kernel) (by decide +kernel)), List.mem_cons_of_mem _ (zw_m (i := 34) (by decide +kernel) (by decide +kernel)), ⟨by decide, by decide, by decide +kernel⟩, Or.inr ⟨0, (zc_PC, zt_PC, 12), rfl, rfl, List.mem_cons_of_mem _ (zw_m (i := 396) (by decide +kernel) (by decide +kernel)), rfl, List.mem_cons_of_mem _ (zw_m (i := 11) (by decide +kernel) (by decide +kernel))⟩⟩, fun _ h => absurd h List.not_mem_nil⟩⟩
theorem z_PC_designs {l : Launch} {dep : Nat} {T : ma_T} {t_0 t_1 : ma_T} {d_0 : Nat} (h_0 : ma_Met l y_LI_size (w_LI_size :: zw_t) d_0 true t_0) (e_0 : d_0 + 1 ≤ dep) {d_1 : Nat} (h_1 : ma_Met l y_PC_isDesign (w_PC_isDesign :: zw_t) d_1 true t_1) (e_1 : d_1 + 1 ≤ dep) (hT : ∀ as w post, T as w post → as.length ≤ 3)
    (hB : ∀ as w post, T as w post → ∀ Go, ma_cl k_PC_designs zf_PC (e_PC_designs t_0 t_1) none 1 s_PC_designs post Go → Go 0 (as.map some ++ List.replicate (3 - as.length) none) [] w) :
    ma_Met l y_PC_designs (w_PC_designs :: zw_t) dep true T := ma_met (by decide) o_PC_designs (Or.inr (Or.inl ⟨rfl, rfl, rfl⟩)) kk_PC_designs zf_PC_ok (ee_PC_designs h_0 e_0 h_1 e_1) hT hB
-- PackingCensus.orbit(II)I
def s_PC_orbit : List (Nat × ma_C) := [
  (0, [(.aload_n 0, 1), (.getfield 37, 3), (.iload_n 1, 1), (.invokevirtual 95, 3), (.ifCond .eq 26, 3), (.aload_n 0, 1), (.getfield 20, 3), (.iload_n 2, 1), (.invokevirtual 107, 3), (.ifCond .eq 15, 3), (.aload_n 0, 1), (.getfield 37, 3), (.iload_n 1, 1), (.iload_n 2, 1), (.invokevirtual 116, 3), (.goto 4, 3)]),
  (34, [(.iconst (-1), 1)]),
  (35, [(.ireturn, 1)])]
theorem o_PC_orbit : (s_PC_orbit).all (fun q => ma_dec prog_1_method_12_code q.1 q.2) = true := by decide +kernel
def k_PC_orbit : List (Nat × Int32) := []
theorem kk_PC_orbit {z : Cond} : ma_Kok "PackingCensus" (z :: zw_t) k_PC_orbit := fun _ h => absurd h List.not_mem_nil
def e_PC_orbit (t_0 t_1 t_2 : ma_T) : ma_E := [(95, 2, some 4, true, t_0), (107, 2, some 2, true, t_1), (116, 3, some 4, true, t_2)]
theorem ee_PC_orbit {l : Launch} {dep : Nat} {z : Cond} {t_0 t_1 t_2 : ma_T} {d_0 : Nat} (h_0 : ma_Met l y_LI_has (w_LI_has :: zw_t) d_0 true t_0) (e_0 : d_0 + 1 ≤ dep) {d_1 : Nat} (h_1 : ma_Met l y_GR_isPoint (w_GR_isPoint :: zw_t) d_1 true t_1) (e_1 : d_1 + 1 ≤ dep) {d_2 : Nat} (h_2 : ma_Met l y_LI_leastImage (w_LI_leastImage :: zw_t) d_2 true t_2) (e_2 : d_2 + 1 ≤ dep) : ma_Eok l "PackingCensus" (z :: zw_t) dep (e_PC_orbit t_0 t_1 t_2) := List.forall_mem_cons.mpr ⟨Or.inr ⟨y_LI_has, prog_4_method_7_code, 2, d_0, 1, (some .boolean), zw_t, h_0, zw_in m_LI_has, e_0, by decide, List.mem_cons_of_mem _ (zw_m (w := .methodLink "PackingCensus" 95 y_LI_has) (i := 365) (by decide +kernel) (by decide +kernel)), List.mem_cons_of_mem _ (zw_m (i := 38) (by decide +kernel) (by decide +kernel)), ⟨by decide, by decide, by decide +kernel⟩, Or.inr ⟨4, (zc_LI, zt_LI, 5), rfl, rfl, List.mem_cons_of_mem _ (zw_m (i := 366) (by decide +kernel) (by decide +kernel)), rfl, List.mem_cons_of_mem _ (zw_m (i := 367) (by decide +kernel) (by decide +kernel))⟩⟩, List.forall_mem_cons.mpr ⟨Or.inr ⟨y_GR_isPoint, prog_3_method_5_code, 2, d_1, 1, (some .boolean), zw_t, h_1, zw_in m_GR_isPoint, e_1, by decide, List.mem_cons_of_mem _ (zw_m (w := .methodLink "PackingCensus" 107 y_GR_isPoint) (i := 386) (by decide +kernel) (by decide +kernel)), List.mem_cons_of_mem _ (zw_m (i := 36) (by decide +kernel) (by decide +kernel)), ⟨by decide, by decide, by decide +kernel⟩, Or.inr ⟨2, (zc_GR, zt_GR, 5), rfl, rfl, List.mem_cons_of_mem _ (zw_m (i := 387) (by decide +kernel) (by decide +kernel)), rfl, List.mem_cons_of_mem _ (zw_m (i := 388) (by decide +kernel) (by decide +kernel))⟩⟩, List.forall_mem_cons.mpr ⟨Or.inr ⟨y_LI_leastImage, prog_4_method_11_code, 3, d_2, 2, (some .int), zw_t, h_2, zw_in m_LI_leastImage, e_2, by decide, List.mem_cons_of_mem _ (zw_m (w := .methodLink "PackingCensus" 116 y_LI_leastImage) (i := 406) (by decide +kernel) (by decide +kernel)), List.mem_cons_of_mem _ (zw_m (i := 38) (by decide +kernel) (by decide +kernel)), ⟨by decide, by decide, by decide +kernel⟩, Or.inr ⟨4, (zc_LI, zt_LI, 5), rfl, rfl, List.mem_cons_of_mem _ (zw_m (i := 407) (by decide +kernel) (by decide +kernel)), rfl, List.mem_cons_of_mem _ (zw_m (i := 408) (by decide +kernel) (by decide +kernel))⟩⟩, fun _ h => absurd h List.not_mem_nil⟩⟩⟩
theorem z_PC_orbit {l : Launch} {dep : Nat} {T : ma_T} {t_0 t_1 t_2 : ma_T} {d_0 : Nat} (h_0 : ma_Met l y_LI_has (w_LI_has :: zw_t) d_0 true t_0) (e_0 : d_0 + 1 ≤ dep) {d_1 : Nat} (h_1 : ma_Met l y_GR_isPoint (w_GR_isPoint :: zw_t) d_1 true t_1) (e_1 : d_1 + 1 ≤ dep) {d_2 : Nat} (h_2 : ma_Met l y_LI_leastImage (w_LI_leastImage :: zw_t) d_2 true t_2) (e_2 : d_2 + 1 ≤ dep) (hT : ∀ as w post, T as w post → as.length ≤ 3)
    (hB : ∀ as w post, T as w post → ∀ Go, ma_cl k_PC_orbit zf_PC (e_PC_orbit t_0 t_1 t_2) none 1 s_PC_orbit post Go → Go 0 (as.map some ++ List.replicate (3 - as.length) none) [] w) :
    ma_Met l y_PC_orbit (w_PC_orbit :: zw_t) dep true T := ma_met (by decide) o_PC_orbit (Or.inr (Or.inl ⟨rfl, rfl, rfl⟩)) kk_PC_orbit zf_PC_ok (ee_PC_orbit h_0 e_0 h_1 e_1 h_2 e_2) hT hB
-- PackingCensus.put(I)I
def s_PC_put : List (Nat × ma_C) := [
  (0, [(.aload_n 0, 1), (.getfield 55, 3), (.ifCond .eq 14, 3), (.aload_n 0, 1), (.getfield 20, 3), (.iload_n 1, 1), (.invokevirtual 119, 3), (.ifCond .ne 6, 3)]),
  (18, [(.bipush (-2), 2), (.ireturn, 1)]),
  (21, [(.aload_n 0, 1), (.getfield 24, 3), (.invokevirtual 122, 3), (.bipush 10, 2), (.if_icmp .lt 6, 3), (.bipush (-5), 2), (.ireturn, 1)]),
  (36, [(.aload_n 0, 1), (.getfield 24, 3), (.iload_n 1, 1), (.invokevirtual 123, 3), (.aload_n 0, 1), (.iconst 0, 1), (.putfield 51, 3), (.aload_n 0, 1), (.getfield 24, 3), (.invokevirtual 122, 3), (.ireturn, 1)])]
theorem o_PC_put : (s_PC_put).all (fun q => ma_dec prog_1_method_13_code q.1 q.2) = true := by decide +kernel
def k_PC_put : List (Nat × Int32) := []
theorem kk_PC_put {z : Cond} : ma_Kok "PackingCensus" (z :: zw_t) k_PC_put := fun _ h => absurd h List.not_mem_nil
def e_PC_put (t_0 t_1 t_2 : ma_T) : ma_E := [(119, 2, some 2, true, t_0), (122, 1, some 3, true, t_1), (123, 2, some 3, false, t_2)]
theorem ee_PC_put {l : Launch} {dep : Nat} {z : Cond} {t_0 t_1 t_2 : ma_T} {d_0 : Nat} (h_0 : ma_Met l y_GR_isBlock (w_GR_isBlock :: zw_t) d_0 true t_0) (e_0 : d_0 + 1 ≤ dep) {d_1 : Nat} (h_1 : ma_Met l y_RO_size (w_RO_size :: zw_t) d_1 true t_1) (e_1 : d_1 + 1 ≤ dep) {d_2 : Nat} (h_2 : ma_Met l y_RO_add (w_RO_add :: zw_t) d_2 false t_2) (e_2 : d_2 + 1 ≤ dep) : ma_Eok l "PackingCensus" (z :: zw_t) dep (e_PC_put t_0 t_1 t_2) := List.forall_mem_cons.mpr ⟨Or.inr ⟨y_GR_isBlock, prog_3_method_6_code, 2, d_0, 1, (some .boolean), zw_t, h_0, zw_in m_GR_isBlock, e_0, by decide, List.mem_cons_of_mem _ (zw_m (w := .methodLink "PackingCensus" 119 y_GR_isBlock) (i := 414) (by decide +kernel) (by decide +kernel)), List.mem_cons_of_mem _ (zw_m (i := 36) (by decide +kernel) (by decide +kernel)), ⟨by decide, by decide, by decide +kernel⟩, Or.inr ⟨2, (zc_GR, zt_GR, 5), rfl, rfl, List.mem_cons_of_mem _ (zw_m (i := 415) (by decide +kernel) (by decide +kernel)), rfl, List.mem_cons_of_mem _ (zw_m (i := 416) (by decide +kernel) (by decide +kernel))⟩⟩, List.forall_mem_cons.mpr ⟨Or.inr ⟨y_RO_size, prog_5_method_2_code, 1, d_1, 0, (some .int), zw_t, h_1, zw_in m_RO_size, e_1, by decide, List.mem_cons_of_mem _ (zw_m (w := .methodLink "PackingCensus" 122 y_RO_size) (i := 344) (by decide +kernel) (by decide +kernel)), List.mem_cons_of_mem _ (zw_m (i := 37) (by decide +kernel) (by decide +kernel)), ⟨by decide, by decide, by decide +kernel⟩, Or.inr ⟨3, (zc_RO, zt_RO, 2), rfl, rfl, List.mem_cons_of_mem _ (zw_m (i := 286) (by decide +kernel) (by decide +kernel)), rfl, List.mem_cons_of_mem _ (zw_m (i := 287) (by decide +kernel) (by decide +kernel))⟩⟩, List.forall_mem_cons.mpr ⟨Or.inr ⟨y_RO_add, prog_5_method_7_code, 2, d_2, 1, none, zw_t, h_2, zw_in m_RO_add, e_2, by decide, List.mem_cons_of_mem _ (zw_m (w := .methodLink "PackingCensus" 123 y_RO_add) (i := 274) (by decide +kernel) (by decide +kernel)), List.mem_cons_of_mem _ (zw_m (i := 37) (by decide +kernel) (by decide +kernel)), ⟨by decide, by decide, by decide +kernel⟩, Or.inr ⟨3, (zc_RO, zt_RO, 2), rfl, rfl, List.mem_cons_of_mem _ (zw_m (i := 247) (by decide +kernel) (by decide +kernel)), rfl, List.mem_cons_of_mem _ (zw_m (i := 248) (by decide +kernel) (by decide +kernel))⟩⟩, fun _ h => absurd h List.not_mem_nil⟩⟩⟩
theorem z_PC_put {l : Launch} {dep : Nat} {T : ma_T} {t_0 t_1 t_2 : ma_T} {d_0 : Nat} (h_0 : ma_Met l y_GR_isBlock (w_GR_isBlock :: zw_t) d_0 true t_0) (e_0 : d_0 + 1 ≤ dep) {d_1 : Nat} (h_1 : ma_Met l y_RO_size (w_RO_size :: zw_t) d_1 true t_1) (e_1 : d_1 + 1 ≤ dep) {d_2 : Nat} (h_2 : ma_Met l y_RO_add (w_RO_add :: zw_t) d_2 false t_2) (e_2 : d_2 + 1 ≤ dep) (hT : ∀ as w post, T as w post → as.length ≤ 2)
    (hB : ∀ as w post, T as w post → ∀ Go, ma_cl k_PC_put zf_PC (e_PC_put t_0 t_1 t_2) none 1 s_PC_put post Go → Go 0 (as.map some ++ List.replicate (2 - as.length) none) [] w) :
    ma_Met l y_PC_put (w_PC_put :: zw_t) dep true T := ma_met (by decide) o_PC_put (Or.inr (Or.inl ⟨rfl, rfl, rfl⟩)) kk_PC_put zf_PC_ok (ee_PC_put h_0 e_0 h_1 e_1 h_2 e_2) hT hB
-- PackingCensus.drop(I)Z
def s_PC_drop : List (Nat × ma_C) := [
  (0, [(.aload_n 0, 1), (.getfield 24, 3), (.iload_n 1, 1), (.invokevirtual 126, 3), (.ifCond .ne 5, 3), (.iconst 0, 1), (.ireturn, 1)]),
  (13, [(.aload_n 0, 1), (.getfield 24, 3), (.iload_n 1, 1), (.invokevirtual 127, 3), (.aload_n 0, 1), (.iconst 0, 1), (.putfield 51, 3), (.iconst 1, 1), (.ireturn, 1)])]
theorem o_PC_drop : (s_PC_drop).all (fun q => ma_dec prog_1_method_14_code q.1 q.2) = true := by decide +kernel
def k_PC_drop : List (Nat × Int32) := []
theorem kk_PC_drop {z : Cond} : ma_Kok "PackingCensus" (z :: zw_t) k_PC_drop := fun _ h => absurd h List.not_mem_nil
def e_PC_drop (t_0 t_1 : ma_T) : ma_E := [(126, 2, some 3, true, t_0), (127, 2, some 3, false, t_1)]
theorem ee_PC_drop {l : Launch} {dep : Nat} {z : Cond} {t_0 t_1 : ma_T} {d_0 : Nat} (h_0 : ma_Met l y_RO_has (w_RO_has :: zw_t) d_0 true t_0) (e_0 : d_0 + 1 ≤ dep) {d_1 : Nat} (h_1 : ma_Met l y_RO_removeAt (w_RO_removeAt :: zw_t) d_1 false t_1) (e_1 : d_1 + 1 ≤ dep) : ma_Eok l "PackingCensus" (z :: zw_t) dep (e_PC_drop t_0 t_1) := List.forall_mem_cons.mpr ⟨Or.inr ⟨y_RO_has, prog_5_method_3_code, 2, d_0, 1, (some .boolean), zw_t, h_0, zw_in m_RO_has, e_0, by decide, List.mem_cons_of_mem _ (zw_m (w := .methodLink "PackingCensus" 126 y_RO_has) (i := 422) (by decide +kernel) (by decide +kernel)), List.mem_cons_of_mem _ (zw_m (i := 37) (by decide +kernel) (by decide +kernel)), ⟨by decide, by decide, by decide +kernel⟩, Or.inr ⟨3, (zc_RO, zt_RO, 2), rfl, rfl, List.mem_cons_of_mem _ (zw_m (i := 350) (by decide +kernel) (by decide +kernel)), rfl, List.mem_cons_of_mem _ (zw_m (i := 351) (by decide +kernel) (by decide +kernel))⟩⟩, List.forall_mem_cons.mpr ⟨Or.inr ⟨y_RO_removeAt, prog_5_method_8_code, 3, d_1, 1, none, zw_t, h_1, zw_in m_RO_removeAt, e_1, by decide, List.mem_cons_of_mem _ (zw_m (w := .methodLink "PackingCensus" 127 y_RO_removeAt) (i := 345) (by decide +kernel) (by decide +kernel)), List.mem_cons_of_mem _ (zw_m (i := 37) (by decide +kernel) (by decide +kernel)), ⟨by decide, by decide, by decide +kernel⟩, Or.inr ⟨3, (zc_RO, zt_RO, 2), rfl, rfl, List.mem_cons_of_mem _ (zw_m (i := 346) (by decide +kernel) (by decide +kernel)), rfl, List.mem_cons_of_mem _ (zw_m (i := 347) (by decide +kernel) (by decide +kernel))⟩⟩, fun _ h => absurd h List.not_mem_nil⟩⟩
theorem z_PC_drop {l : Launch} {dep : Nat} {T : ma_T} {t_0 t_1 : ma_T} {d_0 : Nat} (h_0 : ma_Met l y_RO_has (w_RO_has :: zw_t) d_0 true t_0) (e_0 : d_0 + 1 ≤ dep) {d_1 : Nat} (h_1 : ma_Met l y_RO_removeAt (w_RO_removeAt :: zw_t) d_1 false t_1) (e_1 : d_1 + 1 ≤ dep) (hT : ∀ as w post, T as w post → as.length ≤ 2)
    (hB : ∀ as w post, T as w post → ∀ Go, ma_cl k_PC_drop zf_PC (e_PC_drop t_0 t_1) none 2 s_PC_drop post Go → Go 0 (as.map some ++ List.replicate (2 - as.length) none) [] w) :
    ma_Met l y_PC_drop (w_PC_drop :: zw_t) dep true T := ma_met (by decide) o_PC_drop (Or.inr (Or.inr ⟨rfl, rfl, rfl⟩)) kk_PC_drop zf_PC_ok (ee_PC_drop h_0 e_0 h_1 e_1) hT hB
-- PackingCensus.swap(II)Z
def s_PC_swap : List (Nat × ma_C) := [
  (0, [(.aload_n 0, 1), (.getfield 20, 3), (.iload_n 1, 1), (.invokevirtual 107, 3), (.ifCond .eq 14, 3), (.aload_n 0, 1), (.getfield 20, 3), (.iload_n 2, 1), (.invokevirtual 107, 3), (.ifCond .ne 5, 3)]),
  (22, [(.iconst 0, 1), (.ireturn, 1)]),
  (24, [(.aload_n 0, 1), (.getfield 24, 3), (.iload_n 1, 1), (.iload_n 2, 1), (.invokevirtual 130, 3), (.iconst 1, 1), (.ireturn, 1)])]
theorem o_PC_swap : (s_PC_swap).all (fun q => ma_dec prog_1_method_15_code q.1 q.2) = true := by decide +kernel
def k_PC_swap : List (Nat × Int32) := []
theorem kk_PC_swap {z : Cond} : ma_Kok "PackingCensus" (z :: zw_t) k_PC_swap := fun _ h => absurd h List.not_mem_nil
def e_PC_swap (t_0 t_1 : ma_T) : ma_E := [(107, 2, some 2, true, t_0), (130, 3, some 3, false, t_1)]
theorem ee_PC_swap {l : Launch} {dep : Nat} {z : Cond} {t_0 t_1 : ma_T} {d_0 : Nat} (h_0 : ma_Met l y_GR_isPoint (w_GR_isPoint :: zw_t) d_0 true t_0) (e_0 : d_0 + 1 ≤ dep) {d_1 : Nat} (h_1 : ma_Met l y_RO_exchangePoints (w_RO_exchangePoints :: zw_t) d_1 false t_1) (e_1 : d_1 + 1 ≤ dep) : ma_Eok l "PackingCensus" (z :: zw_t) dep (e_PC_swap t_0 t_1) := List.forall_mem_cons.mpr ⟨Or.inr ⟨y_GR_isPoint, prog_3_method_5_code, 2, d_0, 1, (some .boolean), zw_t, h_0, zw_in m_GR_isPoint, e_0, by decide, List.mem_cons_of_mem _ (zw_m (w := .methodLink "PackingCensus" 107 y_GR_isPoint) (i := 386) (by decide +kernel) (by decide +kernel)), List.mem_cons_of_mem _ (zw_m (i := 36) (by decide +kernel) (by decide +kernel)), ⟨by decide, by decide, by decide +kernel⟩, Or.inr ⟨2, (zc_GR, zt_GR, 5), rfl, rfl, List.mem_cons_of_mem _ (zw_m (i := 387) (by decide +kernel) (by decide +kernel)), rfl, List.mem_cons_of_mem _ (zw_m (i := 388) (by decide +kernel) (by decide +kernel))⟩⟩, List.forall_mem_cons.mpr ⟨Or.inr ⟨y_RO_exchangePoints, prog_5_method_9_code, 5, d_1, 2, none, zw_t, h_1, zw_in m_RO_exchangePoints, e_1, by decide, List.mem_cons_of_mem _ (zw_m (w := .methodLink "PackingCensus" 130 y_RO_exchangePoints) (i := 427) (by decide +kernel) (by decide +kernel)), List.mem_cons_of_mem _ (zw_m (i := 37) (by decide +kernel) (by decide +kernel)), ⟨by decide, by decide, by decide +kernel⟩, Or.inr ⟨3, (zc_RO, zt_RO, 2), rfl, rfl, List.mem_cons_of_mem _ (zw_m (i := 428) (by decide +kernel) (by decide +kernel)), rfl, List.mem_cons_of_mem _ (zw_m (i := 429) (by decide +kernel) (by decide +kernel))⟩⟩, fun _ h => absurd h List.not_mem_nil⟩⟩
theorem z_PC_swap {l : Launch} {dep : Nat} {T : ma_T} {t_0 t_1 : ma_T} {d_0 : Nat} (h_0 : ma_Met l y_GR_isPoint (w_GR_isPoint :: zw_t) d_0 true t_0) (e_0 : d_0 + 1 ≤ dep) {d_1 : Nat} (h_1 : ma_Met l y_RO_exchangePoints (w_RO_exchangePoints :: zw_t) d_1 false t_1) (e_1 : d_1 + 1 ≤ dep) (hT : ∀ as w post, T as w post → as.length ≤ 3)
    (hB : ∀ as w post, T as w post → ∀ Go, ma_cl k_PC_swap zf_PC (e_PC_swap t_0 t_1) none 2 s_PC_swap post Go → Go 0 (as.map some ++ List.replicate (3 - as.length) none) [] w) :
    ma_Met l y_PC_swap (w_PC_swap :: zw_t) dep true T := ma_met (by decide) o_PC_swap (Or.inr (Or.inr ⟨rfl, rfl, rfl⟩)) kk_PC_swap zf_PC_ok (ee_PC_swap h_0 e_0 h_1 e_1) hT hB
end
section
-- PackingCensus.copy(I)Z
def s_PC_copy : List (Nat × ma_C) := [
  (0, [(.aload_n 0, 1), (.getfield 37, 3), (.iload_n 1, 1), (.invokevirtual 95, 3), (.ifCond .ne 5, 3), (.iconst 0, 1), (.ireturn, 1)]),
  (13, [(.aload_n 0, 1), (.getfield 37, 3), (.iload_n 1, 1), (.aload_n 0, 1), (.getfield 24, 3), (.invokevirtual 133, 3), (.aload_n 0, 1), (.iconst 0, 1), (.putfield 51, 3), (.iconst 1, 1), (.ireturn, 1)])]
theorem o_PC_copy : (s_PC_copy).all (fun q => ma_dec prog_1_method_16_code q.1 q.2) = true := by decide +kernel
def k_PC_copy : List (Nat × Int32) := []
theorem kk_PC_copy {z : Cond} : ma_Kok "PackingCensus" (z :: zw_t) k_PC_copy := fun _ h => absurd h List.not_mem_nil
def e_PC_copy (t_0 t_1 : ma_T) : ma_E := [(95, 2, some 4, true, t_0), (133, 3, some 4, false, t_1)]
theorem ee_PC_copy {l : Launch} {dep : Nat} {z : Cond} {t_0 t_1 : ma_T} {d_0 : Nat} (h_0 : ma_Met l y_LI_has (w_LI_has :: zw_t) d_0 true t_0) (e_0 : d_0 + 1 ≤ dep) {d_1 : Nat} (h_1 : ma_Met l y_LI_writeTo (w_LI_writeTo :: zw_t) d_1 false t_1) (e_1 : d_1 + 1 ≤ dep) : ma_Eok l "PackingCensus" (z :: zw_t) dep (e_PC_copy t_0 t_1) := List.forall_mem_cons.mpr ⟨Or.inr ⟨y_LI_has, prog_4_method_7_code, 2, d_0, 1, (some .boolean), zw_t, h_0, zw_in m_LI_has, e_0, by decide, List.mem_cons_of_mem _ (zw_m (w := .methodLink "PackingCensus" 95 y_LI_has) (i := 365) (by decide +kernel) (by decide +kernel)), List.mem_cons_of_mem _ (zw_m (i := 38) (by decide +kernel) (by decide +kernel)), ⟨by decide, by decide, by decide +kernel⟩, Or.inr ⟨4, (zc_LI, zt_LI, 5), rfl, rfl, List.mem_cons_of_mem _ (zw_m (i := 366) (by decide +kernel) (by decide +kernel)), rfl, List.mem_cons_of_mem _ (zw_m (i := 367) (by decide +kernel) (by decide +kernel))⟩⟩, List.forall_mem_cons.mpr ⟨Or.inr ⟨y_LI_writeTo, prog_4_method_13_code, 4, d_1, 2, none, zw_t, h_1, zw_in m_LI_writeTo, e_1, by decide, List.mem_cons_of_mem _ (zw_m (w := .methodLink "PackingCensus" 133 y_LI_writeTo) (i := 237) (by decide +kernel) (by decide +kernel)), List.mem_cons_of_mem _ (zw_m (i := 38) (by decide +kernel) (by decide +kernel)), ⟨by decide, by decide, by decide +kernel⟩, Or.inr ⟨4, (zc_LI, zt_LI, 5), rfl, rfl, List.mem_cons_of_mem _ (zw_m (i := 238) (by decide +kernel) (by decide +kernel)), rfl, List.mem_cons_of_mem _ (zw_m (i := 239) (by decide +kernel) (by decide +kernel))⟩⟩, fun _ h => absurd h List.not_mem_nil⟩⟩
theorem z_PC_copy {l : Launch} {dep : Nat} {T : ma_T} {t_0 t_1 : ma_T} {d_0 : Nat} (h_0 : ma_Met l y_LI_has (w_LI_has :: zw_t) d_0 true t_0) (e_0 : d_0 + 1 ≤ dep) {d_1 : Nat} (h_1 : ma_Met l y_LI_writeTo (w_LI_writeTo :: zw_t) d_1 false t_1) (e_1 : d_1 + 1 ≤ dep) (hT : ∀ as w post, T as w post → as.length ≤ 2)
    (hB : ∀ as w post, T as w post → ∀ Go, ma_cl k_PC_copy zf_PC (e_PC_copy t_0 t_1) none 2 s_PC_copy post Go → Go 0 (as.map some ++ List.replicate (2 - as.length) none) [] w) :
    ma_Met l y_PC_copy (w_PC_copy :: zw_t) dep true T := ma_met (by decide) o_PC_copy (Or.inr (Or.inr ⟨rfl, rfl, rfl⟩)) kk_PC_copy zf_PC_ok (ee_PC_copy h_0 e_0 h_1 e_1) hT hB
-- PackingCensus.hand(I)I
def s_PC_hand : List (Nat × ma_C) := [
  (0, [(.aload_n 0, 1), (.getfield 24, 3), (.iload_n 1, 1), (.invokevirtual 126, 3), (.ifCond .eq 14, 3), (.aload_n 0, 1), (.getfield 24, 3), (.iload_n 1, 1), (.invokevirtual 137, 3), (.goto 4, 3)]),
  (22, [(.iconst (-1), 1)]),
  (23, [(.ireturn, 1)])]
theorem o_PC_hand : (s_PC_hand).all (fun q => ma_dec prog_1_method_17_code q.1 q.2) = true := by decide +kernel
def k_PC_hand : List (Nat × Int32) := []
theorem kk_PC_hand {z : Cond} : ma_Kok "PackingCensus" (z :: zw_t) k_PC_hand := fun _ h => absurd h List.not_mem_nil
def e_PC_hand (t_0 t_1 : ma_T) : ma_E := [(126, 2, some 3, true, t_0), (137, 2, some 3, true, t_1)]
theorem ee_PC_hand {l : Launch} {dep : Nat} {z : Cond} {t_0 t_1 : ma_T} {d_0 : Nat} (h_0 : ma_Met l y_RO_has (w_RO_has :: zw_t) d_0 true t_0) (e_0 : d_0 + 1 ≤ dep) {d_1 : Nat} (h_1 : ma_Met l y_RO_get (w_RO_get :: zw_t) d_1 true t_1) (e_1 : d_1 + 1 ≤ dep) : ma_Eok l "PackingCensus" (z :: zw_t) dep (e_PC_hand t_0 t_1) := List.forall_mem_cons.mpr ⟨Or.inr ⟨y_RO_has, prog_5_method_3_code, 2, d_0, 1, (some .boolean), zw_t, h_0, zw_in m_RO_has, e_0, by decide, List.mem_cons_of_mem _ (zw_m (w := .methodLink "PackingCensus" 126 y_RO_has) (i := 422) (by decide +kernel) (by decide +kernel)), List.mem_cons_of_mem _ (zw_m (i := 37) (by decide +kernel) (by decide +kernel)), ⟨by decide, by decide, by decide +kernel⟩, Or.inr ⟨3, (zc_RO, zt_RO, 2), rfl, rfl, List.mem_cons_of_mem _ (zw_m (i := 350) (by decide +kernel) (by decide +kernel)), rfl, List.mem_cons_of_mem _ (zw_m (i := 351) (by decide +kernel) (by decide +kernel))⟩⟩, List.forall_mem_cons.mpr ⟨Or.inr ⟨y_RO_get, prog_5_method_4_code, 2, d_1, 1, (some .int), zw_t, h_1, zw_in m_RO_get, e_1, by decide, List.mem_cons_of_mem _ (zw_m (w := .methodLink "PackingCensus" 137 y_RO_get) (i := 439) (by decide +kernel) (by decide +kernel)), List.mem_cons_of_mem _ (zw_m (i := 37) (by decide +kernel) (by decide +kernel)), ⟨by decide, by decide, by decide +kernel⟩, Or.inr ⟨3, (zc_RO, zt_RO, 2), rfl, rfl, List.mem_cons_of_mem _ (zw_m (i := 290) (by decide +kernel) (by decide +kernel)), rfl, List.mem_cons_of_mem _ (zw_m (i := 291) (by decide +kernel) (by decide +kernel))⟩⟩, fun _ h => absurd h List.not_mem_nil⟩⟩
theorem z_PC_hand {l : Launch} {dep : Nat} {T : ma_T} {t_0 t_1 : ma_T} {d_0 : Nat} (h_0 : ma_Met l y_RO_has (w_RO_has :: zw_t) d_0 true t_0) (e_0 : d_0 + 1 ≤ dep) {d_1 : Nat} (h_1 : ma_Met l y_RO_get (w_RO_get :: zw_t) d_1 true t_1) (e_1 : d_1 + 1 ≤ dep) (hT : ∀ as w post, T as w post → as.length ≤ 2)
    (hB : ∀ as w post, T as w post → ∀ Go, ma_cl k_PC_hand zf_PC (e_PC_hand t_0 t_1) none 1 s_PC_hand post Go → Go 0 (as.map some ++ List.replicate (2 - as.length) none) [] w) :
    ma_Met l y_PC_hand (w_PC_hand :: zw_t) dep true T := ma_met (by decide) o_PC_hand (Or.inr (Or.inl ⟨rfl, rfl, rfl⟩)) kk_PC_hand zf_PC_ok (ee_PC_hand h_0 e_0 h_1 e_1) hT hB
-- PackingCensus.formed(I)I
def s_PC_formed : List (Nat × ma_C) := [
  (0, [(.aload_n 0, 1), (.getfield 24, 3), (.iload_n 1, 1), (.invokevirtual 126, 3), (.ifCond .ne 5, 3), (.iconst (-1), 1), (.ireturn, 1)]),
  (13, [(.aload_n 0, 1), (.invokevirtual 140, 3), (.aload_n 0, 1), (.getfield 28, 3), (.iload_n 1, 1), (.invokevirtual 126, 3), (.ifCond .eq 14, 3), (.aload_n 0, 1), (.getfield 28, 3), (.iload_n 1, 1), (.invokevirtual 137, 3), (.goto 4, 3)]),
  (39, [(.iconst (-1), 1)]),
  (40, [(.ireturn, 1)])]
theorem o_PC_formed : (s_PC_formed).all (fun q => ma_dec prog_1_method_18_code q.1 q.2) = true := by decide +kernel
def k_PC_formed : List (Nat × Int32) := []
theorem kk_PC_formed {z : Cond} : ma_Kok "PackingCensus" (z :: zw_t) k_PC_formed := fun _ h => absurd h List.not_mem_nil
def e_PC_formed (t_0 t_1 t_2 : ma_T) : ma_E := [(126, 2, some 3, true, t_0), (140, 1, some 0, false, t_1), (137, 2, some 3, true, t_2)]
theorem ee_PC_formed {l : Launch} {dep : Nat} {z : Cond} {t_0 t_1 t_2 : ma_T} {d_0 : Nat} (h_0 : ma_Met l y_RO_has (w_RO_has :: zw_t) d_0 true t_0) (e_0 : d_0 + 1 ≤ dep) {d_1 : Nat} (h_1 : ma_Met l y_PC_formHand (w_PC_formHand :: zw_t) d_1 false t_1) (e_1 : d_1 + 1 ≤ dep) {d_2 : Nat} (h_2 : ma_Met l y_RO_get (w_RO_get :: zw_t) d_2 true t_2) (e_2 : d_2 + 1 ≤ dep) : ma_Eok l "PackingCensus" (z :: zw_t) dep (e_PC_formed t_0 t_1 t_2) := List.forall_mem_cons.mpr ⟨Or.inr ⟨y_RO_has, prog_5_method_3_code, 2, d_0, 1, (some .boolean), zw_t, h_0, zw_in m_RO_has, e_0, by decide, List.mem_cons_of_mem _ (zw_m (w := .methodLink "PackingCensus" 126 y_RO_has) (i := 422) (by decide +kernel) (by decide +kernel)), List.mem_cons_of_mem _ (zw_m (i := 37) (by decide +kernel) (by decide +kernel)), ⟨by decide, by decide, by decide +kernel⟩, Or.inr ⟨3, (zc_RO, zt_RO, 2), rfl, rfl, List.mem_cons_of_mem _ (zw_m (i := 350) (by decide +kernel) (by decide +kernel)), rfl, List.mem_cons_of_mem _ (zw_m (i := 351) (by decide +kernel) (by decide +kernel))⟩⟩, List.forall_mem_cons.mpr ⟨Or.inr ⟨y_PC_formHand, prog_1_method_26_code, 1, d_1, 0, none, zw_t, h_1, zw_in m_PC_formHand, e_1, by decide, List.mem_cons_of_mem _ (zw_m (w := .methodLink "PackingCensus" 140 y_PC_formHand) (i := 444) (by decide +kernel) (by decide +kernel)), List.mem_cons_of_mem _ (zw_m (i := 34) (by decide +kernel) (by decide +kernel)), ⟨by decide, by decide, by decide +kernel⟩, Or.inr ⟨0, (zc_PC, zt_PC, 12), rfl, rfl, List.mem_cons_of_mem _ (zw_m (i := 446) (by decide +kernel) (by decide +kernel)), rfl, List.mem_cons_of_mem _ (zw_m (i := 12) (by decide +kernel) (by decide +kernel))⟩⟩, List.forall_mem_cons.mpr ⟨Or.inr ⟨y_RO_get, prog_5_method_4_code, 2, d_2, 1, (some .int), zw_t, h_2, zw_in m_RO_get, e_2, by decide, List.mem_cons_of_mem _ (zw_m (w := .methodLink "PackingCensus" 137 y_RO_get) (i := 439) (by decide +kernel) (by decide +kernel)), List.mem_cons_of_mem _ (zw_m (i := 37) (by decide +kernel) (by decide +kernel)), ⟨by decide, by decide, by decide +kernel⟩, Or.inr ⟨3, (zc_RO, zt_RO, 2), rfl, rfl, List.mem_cons_of_mem _ (zw_m (i := 290) (by decide +kernel) (by decide +kernel)), rfl, List.mem_cons_of_mem _ (zw_m (i := 291) (by decide +kernel) (by decide +kernel))⟩⟩, fun _ h => absurd h List.not_mem_nil⟩⟩⟩
theorem z_PC_formed {l : Launch} {dep : Nat} {T : ma_T} {t_0 t_1 t_2 : ma_T} {d_0 : Nat} (h_0 : ma_Met l y_RO_has (w_RO_has :: zw_t) d_0 true t_0) (e_0 : d_0 + 1 ≤ dep) {d_1 : Nat} (h_1 : ma_Met l y_PC_formHand (w_PC_formHand :: zw_t) d_1 false t_1) (e_1 : d_1 + 1 ≤ dep) {d_2 : Nat} (h_2 : ma_Met l y_RO_get (w_RO_get :: zw_t) d_2 true t_2) (e_2 : d_2 + 1 ≤ dep) (hT : ∀ as w post, T as w post → as.length ≤ 2)
    (hB : ∀ as w post, T as w post → ∀ Go, ma_cl k_PC_formed zf_PC (e_PC_formed t_0 t_1 t_2) none 1 s_PC_formed post Go → Go 0 (as.map some ++ List.replicate (2 - as.length) none) [] w) :
    ma_Met l y_PC_formed (w_PC_formed :: zw_t) dep true T := ma_met (by decide) o_PC_formed (Or.inr (Or.inl ⟨rfl, rfl, rfl⟩)) kk_PC_formed zf_PC_ok (ee_PC_formed h_0 e_0 h_1 e_1 h_2 e_2) hT hB
-- PackingCensus.symmetries()I
def s_PC_symmetries : List (Nat × ma_C) := [
  (0, [(.aload_n 0, 1), (.getfield 55, 3), (.ifCond .ne 5, 3), (.iconst (-1), 1), (.ireturn, 1)]),
  (9, [(.aload_n 0, 1), (.invokevirtual 140, 3), (.aload_n 0, 1), (.getfield 48, 3), (.ireturn, 1)])]
theorem o_PC_symmetries : (s_PC_symmetries).all (fun q => ma_dec prog_1_method_19_code q.1 q.2) = true := by decide +kernel
def k_PC_symmetries : List (Nat × Int32) := []
theorem kk_PC_symmetries {z : Cond} : ma_Kok "PackingCensus" (z :: zw_t) k_PC_symmetries := fun _ h => absurd h List.not_mem_nil
def e_PC_symmetries (t_0 : ma_T) : ma_E := [(140, 1, some 0, false, t_0)]
theorem ee_PC_symmetries {l : Launch} {dep : Nat} {z : Cond} {t_0 : ma_T} {d_0 : Nat} (h_0 : ma_Met l y_PC_formHand (w_PC_formHand :: zw_t) d_0 false t_0) (e_0 : d_0 + 1 ≤ dep) : ma_Eok l "PackingCensus" (z :: zw_t) dep (e_PC_symmetries t_0) := List.forall_mem_cons.mpr ⟨Or.inr ⟨y_PC_formHand, prog_1_method_26_code, 1, d_0, 0, none, zw_t, h_0, zw_in m_PC_formHand, e_0, by decide, List.mem_cons_of_mem _ (zw_m (w := .methodLink "PackingCensus" 140 y_PC_formHand) (i := 444) (by decide +kernel) (by decide +kernel)), List.mem_cons_of_mem _ (zw_m (i := 34) (by decide +kernel) (by decide +kernel)), ⟨by decide, by decide, by decide +kernel⟩, Or.inr ⟨0, (zc_PC, zt_PC, 12), rfl, rfl, List.mem_cons_of_mem _ (zw_m (i := 446) (by decide +kernel) (by decide +kernel)), rfl, List.mem_cons_of_mem _ (zw_m (i := 12) (by decide +kernel) (by decide +kernel))⟩⟩, fun _ h => absurd h List.not_mem_nil⟩
theorem z_PC_symmetries {l : Launch} {dep : Nat} {T : ma_T} {t_0 : ma_T} {d_0 : Nat} (h_0 : ma_Met l y_PC_formHand (w_PC_formHand :: zw_t) d_0 false t_0) (e_0 : d_0 + 1 ≤ dep) (hT : ∀ as w post, T as w post → as.length ≤ 1)
    (hB : ∀ as w post, T as w post → ∀ Go, ma_cl k_PC_symmetries zf_PC (e_PC_symmetries t_0) none 1 s_PC_symmetries post Go → Go 0 (as.map some ++ List.replicate (1 - as.length) none) [] w) :
    ma_Met l y_PC_symmetries (w_PC_symmetries :: zw_t) dep true T := ma_met (by decide) o_PC_symmetries (Or.inr (Or.inl ⟨rfl, rfl, rfl⟩)) kk_PC_symmetries zf_PC_ok (ee_PC_symmetries h_0 e_0) hT hB
-- PackingCensus.find()I
def s_PC_find : List (Nat × ma_C) := [
  (0, [(.aload_n 0, 1), (.getfield 55, 3), (.ifCond .eq 20, 3), (.aload_n 0, 1), (.getfield 24, 3), (.invokevirtual 122, 3), (.aload_n 0, 1), (.getfield 37, 3), (.invokevirtual 85, 3), (.if_icmp .eq 5, 3)]),
  (24, [(.iconst (-1), 1), (.ireturn, 1)]),
  (26, [(.aload_n 0, 1), (.invokevirtual 140, 3), (.aload_n 0, 1), (.getfield 37, 3), (.aload_n 0, 1), (.getfield 28, 3), (.invokevirtual 143, 3), (.ireturn, 1)])]
theorem o_PC_find : (s_PC_find).all (fun q => ma_dec prog_1_method_20_code q.1 q.2) = true := by decide +kernel
def k_PC_find : List (Nat × Int32) := []
theorem kk_PC_find {z : Cond} : ma_Kok "PackingCensus" (z :: zw_t) k_PC_find := fun _ h => absurd h List.not_mem_nil
def e_PC_find (t_0 t_1 t_2 t_3 : ma_T) : ma_E := [(122, 1, some 3, true, t_0), (85, 1, some 4, true, t_1), (140, 1, some 0, false, t_2), (143, 2, some 4, true, t_3)]
theorem ee_PC_find {l : Launch} {dep : Nat} {z : Cond} {t_0 t_1 t_2 t_3 : ma_T} {d_0 : Nat} (h_0 : ma_Met l y_RO_size (w_RO_size :: zw_t) d_0 true t_0) (e_0 : d_0 + 1 ≤ dep) {d_1 : Nat} (h_1 : ma_Met l y_LI_rowLength (w_LI_rowLength :: zw_t) d_1 true t_1) (e_1 : d_1 + 1 ≤ dep) {d_2 : Nat} (h_2 : ma_Met l y_PC_formHand (w_PC_formHand :: zw_t) d_2 false t_2) (e_2 : d_2 + 1 ≤ dep) {d_3 : Nat} (h_3 : ma_Met l y_LI_placeOf (w_LI_placeOf :: zw_t) d_3 true t_3) (e_3 : d_3 + 1 ≤ dep) : ma_Eok l "PackingCensus" (z :: zw_t) dep (e_PC_find t_0 t_1 t_2 t_3) := List.forall_mem_cons.mpr ⟨Or.inr ⟨y_RO_size, prog_5_method_2_code, 1, d_0, 0, (some .int), zw_t, h_0, zw_in m_RO_size, e_0, by decide, List.mem_cons_of_mem _ (zw_m (w := .methodLink "PackingCensus" 122 y_RO_size) (i := 344) (by decide +kernel) (by decide +kernel)), List.mem_cons_of_mem _ (zw_m (i := 37) (by decide +kernel) (by decide +kernel)), ⟨by decide, by decide, by decide +kernel⟩, Or.inr ⟨3, (zc_RO, zt_RO, 2), rfl, rfl, List.mem_cons_of_mem _ (zw_m (i := 286) (by decide +kernel) (by decide +kernel)), rfl, List.mem_cons_of_mem _ (zw_m (i := 287) (by decide +kernel) (by decide +kernel))⟩⟩, List.forall_mem_cons.mpr ⟨Or.inr ⟨y_LI_rowLength, prog_4_method_8_code, 1, d_1, 0, (some .int), zw_t, h_1, zw_in m_LI_rowLength, e_1, by decide, List.mem_cons_of_mem _ (zw_m (w := .methodLink "PackingCensus" 85 y_LI_rowLength) (i := 221) (by decide +kernel) (by decide +kernel)), List.mem_cons_of_mem _ (zw_m (i := 38) (by decide +kernel) (by decide +kernel)), ⟨by decide, by decide, by decide +kernel⟩, Or.inr ⟨4, (zc_LI, zt_LI, 5), rfl, rfl, List.mem_cons_of_mem _ (zw_m (i := 222) (by decide +kernel) (by decide +kernel)), rfl, List.mem_cons_of_mem _ (zw_m (i := 223) (by decide +kernel) (by decide +kernel))⟩⟩, List.forall_mem_cons.mpr ⟨Or.inr ⟨y_PC_formHand, prog_1_method_26_code, 1, d_2, 0, none, zw_t, h_2, zw_in m_PC_formHand, e_2, by decide, List.mem_cons_of_mem _ (zw_m (w := .methodLink "PackingCensus" 140 y_PC_formHand) (i := 444) (by decide +kernel) (by decide +kernel)), List.mem_cons_of_mem _ (zw_m (i := 34) (by decide +kernel) (by decide +kernel)), ⟨by decide, by decide, by decide +kernel⟩, Or.inr ⟨0, (zc_PC, zt_PC, 12), rfl, rfl, List.mem_cons_of_mem _ (zw_m (i := 446) (by decide +kernel) (by decide +kernel)), rfl, List.mem_cons_of_mem _ (zw_m (i := 12) (by decide +kernel) (by decide +kernel))⟩⟩, List.forall_mem_cons.mpr ⟨Or.inr ⟨y_LI_placeOf, prog_4_method_14_code, 3, d_3, 1, (some .int), zw_t, h_3, zw_in m_LI_placeOf, e_3, by decide, List.mem_cons_of_mem _ (zw_m (w := .methodLink "PackingCensus" 143 y_LI_placeOf) (i := 463) (by decide +kernel) (by decide +kernel)), List.mem_cons_of_mem _ (zw_m (i := 38) (by decide +kernel) (by decide +kernel)), ⟨by decide, by decide, by decide +kernel⟩, Or.inr ⟨4, (zc_LI, zt_LI, 5), rfl, rfl, List.mem_cons_of_mem _ (zw_m (i := 464) (by decide +kernel) (by decide +kernel)), rfl, List.mem_cons_of_mem _ (zw_m (i := 465) (by decide +kernel) (by decide +kernel))⟩⟩, fun _ h => absurd h List.not_mem_nil⟩⟩⟩⟩
theorem z_PC_find {l : Launch} {dep : Nat} {T : ma_T} {t_0 t_1 t_2 t_3 : ma_T} {d_0 : Nat} (h_0 : ma_Met l y_RO_size (w_RO_size :: zw_t) d_0 true t_0) (e_0 : d_0 + 1 ≤ dep) {d_1 : Nat} (h_1 : ma_Met l y_LI_rowLength (w_LI_rowLength :: zw_t) d_1 true t_1) (e_1 : d_1 + 1 ≤ dep) {d_2 : Nat} (h_2 : ma_Met l y_PC_formHand (w_PC_formHand :: zw_t) d_2 false t_2) (e_2 : d_2 + 1 ≤ dep) {d_3 : Nat} (h_3 : ma_Met l y_LI_placeOf (w_LI_placeOf :: zw_t) d_3 true t_3) (e_3 : d_3 + 1 ≤ dep) (hT : ∀ as w post, T as w post → as.length ≤ 1)
    (hB : ∀ as w post, T as w post → ∀ Go, ma_cl k_PC_find zf_PC (e_PC_find t_0 t_1 t_2 t_3) none 1 s_PC_find post Go → Go 0 (as.map some ++ List.replicate (1 - as.length) none) [] w) :
    ma_Met l y_PC_find (w_PC_find :: zw_t) dep true T := ma_met (by decide) o_PC_find (Or.inr (Or.inl ⟨rfl, rfl, rfl⟩)) kk_PC_find zf_PC_ok (ee_PC_find h_0 e_0 h_1 e_1 h_2 e_2 h_3 e_3) hT hB
-- PackingCensus.blocksOfDesign(III)I
def s_PC_blocksOfDesign : List (Nat × ma_C) := [
  (0, [(.iload_n 2, 1), (.iload_n 0, 1), (.iconst 1, 1), (.isub, 1), (.imul, 1), (.istore_n 3, 1), (.iload_n 3, 1), (.iload_n 1, 1), (.iconst 1, 1), (.isub, 1), (.irem, 1), (.ifCond .eq 6, 3), (.bipush (-3), 2), (.ireturn, 1)]),
  (17, [(.iload_n 0, 1), (.iload_n 3, 1), (.iload_n 1, 1), (.iconst 1, 1), (.isub, 1), (.idiv, 1), (.imul, 1), (.istore 4, 2), (.iload 4, 2), (.iload_n 1, 1), (.irem, 1), (.ifCond .eq 6, 3), (.bipush (-3), 2), (.ireturn, 1)]),
  (36, [(.iload 4, 2), (.iload_n 1, 1), (.idiv, 1), (.istore 5, 2), (.iload 5, 2), (.iload_n 0, 1), (.if_icmp .ge 8, 3), (.bipush (-4), 2), (.goto 5, 3)]),
  (53, [(.iload 5, 2)]),
  (55, [(.ireturn, 1)])]
theorem o_PC_blocksOfDesign : (s_PC_blocksOfDesign).all (fun q => ma_dec prog_1_method_21_code q.1 q.2) = true := by decide +kernel
def k_PC_blocksOfDesign : List (Nat × Int32) := []
theorem kk_PC_blocksOfDesign {z : Cond} : ma_Kok "PackingCensus" (z :: zw_t) k_PC_blocksOfDesign := fun _ h => absurd h List.not_mem_nil
def e_PC_blocksOfDesign : ma_E := []
theorem ee_PC_blocksOfDesign {l : Launch} {dep : Nat} {z : Cond} : ma_Eok l "PackingCensus" (z :: zw_t) dep (e_PC_blocksOfDesign) := fun _ h => absurd h List.not_mem_nil
theorem z_PC_blocksOfDesign {l : Launch} {dep : Nat} {T : ma_T} (hT : ∀ as w post, T as w post → as.length ≤ 6)
    (hB : ∀ as w post, T as w post → ∀ Go, ma_cl k_PC_blocksOfDesign zf_PC (e_PC_blocksOfDesign) none 1 s_PC_blocksOfDesign post Go → Go 0 (as.map some ++ List.replicate (6 - as.length) none) [] w) :
    ma_Met l y_PC_blocksOfDesign (w_PC_blocksOfDesign :: zw_t) dep true T := ma_met (by decide) o_PC_blocksOfDesign (Or.inr (Or.inl ⟨rfl, rfl, rfl⟩)) kk_PC_blocksOfDesign zf_PC_ok (ee_PC_blocksOfDesign) hT hB
-- PackingCensus.fillSpare()Z
def s_PC_fillSpare : List (Nat × ma_C) := [
  (0, [(.aload_n 0, 1), (.getfield 41, 3), (.aload_n 0, 1), (.getfield 37, 3), (.invokevirtual 85, 3), (.iconst 1, 1), (.iadd, 1), (.invokevirtual 70, 3), (.iconst 0, 1), (.istore_n 1, 1)]),
  (18, [(.iload_n 1, 1), (.aload_n 0, 1), (.getfield 37, 3), (.invokevirtual 92, 3), (.if_icmp .ge 19, 3), (.aload_n 0, 1), (.iload_n 1, 1), (.invokevirtual 147, 3), (.ifCond .ne 5, 3), (.iconst 0, 1), (.ireturn, 1)]),
  (39, [(.iinc 1 1, 3), (.goto (-24), 3)]),
  (45, [(.iconst 1, 1), (.ireturn, 1)])]
theorem o_PC_fillSpare : (s_PC_fillSpare).all (fun q => ma_dec prog_1_method_22_code q.1 q.2) = true := by decide +kernel
def k_PC_fillSpare : List (Nat × Int32) := []
theorem kk_PC_fillSpare {z : Cond} : ma_Kok "PackingCensus" (z :: zw_t) k_PC_fillSpare := fun _ h => absurd h List.not_mem_nil
def e_PC_fillSpare (t_0 t_1 t_2 t_3 : ma_T) : ma_E := [(85, 1, some 4, true, t_0), (70, 2, some 4, false, t_1), (92, 1, some 4, true, t_2), (147, 2, some 0, true, t_3)]
theorem ee_PC_fillSpare {l : Launch} {dep : Nat} {z : Cond} {t_0 t_1 t_2 t_3 : ma_T} {d_0 : Nat} (h_0 : ma_Met l y_LI_rowLength (w_LI_rowLength :: zw_t) d_0 true t_0) (e_0 : d_0 + 1 ≤ dep) {d_1 : Nat} (h_1 : ma_Met l y_LI_restart (w_LI_restart :: zw_t) d_1 false t_1) (e_1 : d_1 + 1 ≤ dep) {d_2 : Nat} (h_2 : ma_Met l y_LI_size (w_LI_size :: zw_t) d_2 true t_2) (e_2 : d_2 + 1 ≤ dep) {d_3 : Nat} (h_3 : ma_Met l y_PC_addFormsFrom (w_PC_addFormsFrom :: zw_t) d_3 true t_3) (e_3 : d_3 + 1 ≤ dep) : ma_Eok l "PackingCensus" (z :: zw_t) dep (e_PC_fillSpare t_0 t_1 t_2 t_3) := List.forall_mem_cons.mpr ⟨Or.inr ⟨y_LI_rowLength, prog_4_method_8_code, 1, d_0, 0, (some .int), zw_t, h_0, zw_in m_LI_rowLength, e_0, by decide, List.mem_cons_of_mem _ (zw_m (w := .methodLink "PackingCensus" 85 y_LI_rowLength) (i := 221) (by decide +kernel) (by decide +kernel)), List.mem_cons_of_mem _ (zw_m (i := 38) (by decide +kernel) (by decide +kernel)), ⟨by decide, by decide, by decide +kernel⟩, Or.inr ⟨4, (zc_LI, zt_LI, 5), rfl, rfl, List.mem_cons_of_mem _ (zw_m (i := 222) (by decide +kernel) (by decide +kernel)), rfl, List.mem_cons_of_mem _ (zw_m (i := 223) (by decide +kernel) (by decide +kernel))⟩⟩, List.forall_mem_cons.mpr ⟨Or.inr ⟨y_LI_restart, prog_4_method_2_code, 2, d_1, 1, none, zw_t, h_1, zw_in m_LI_restart, e_1, by decide, List.mem_cons_of_mem _ (zw_m (w := .methodLink "PackingCensus" 70 y_LI_restart) (i := 202) (by decide +kernel) (by decide +kernel)), List.mem_cons_of_mem _ (zw_m (i := 38) (by decide +kernel) (by decide +kernel)), ⟨by decide, by decide, by decide +kernel⟩, Or.inr ⟨4, (zc_LI, zt_LI, 5), rfl, rfl, List.mem_cons_of_mem _ (zw_m (i := 203) (by decide +kernel) (by decide +kernel)), rfl, List.mem_cons_of_mem _ (zw_m (i := 204) (by decide +kernel) (by decide +kernel))⟩⟩, List.forall_mem_cons.mpr ⟨Or.inr ⟨y_LI_size, prog_4_method_5_code, 1, d_2, 0, (some .int), zw_t, h_2, zw_in m_LI_size, e_2, by decide, List.mem_cons_of_mem _ (zw_m (w := .methodLink "PackingCensus" 92 y_LI_size) (i := 229) (by decide +kernel) (by decide +kernel)), List.mem_cons_of_mem _ (zw_m (i := 38) (by decide +kernel) (by decide +kernel)), ⟨by decide, by decide, by decide +kernel⟩, Or.inr ⟨4, (zc_LI, zt_LI, 5), rfl, rfl, List.mem_cons_of_mem _ (zw_m (i := 230) (by decide +kernel) (by decide +kernel)), rfl, List.mem_cons_of_mem _ (zw_m (i := 231) (by decide +kernel) (by decide +kernel))⟩⟩, List.forall_mem_cons.mpr ⟨Or.inr ⟨y_PC_addFormsFrom, prog_1_method_23_code, 5, d_3, 1, (some .boolean), zw_t, h_3, zw_in m_PC_addFormsFrom, e_3, by decide, List.mem_cons_of_mem _ (zw_m (w := .methodLink "PackingCensus" 147 y_PC_addFormsFrom) (i := 233) (by decide +kernel) (by decide +kernel)), List.mem_cons_of_mem _ (zw_m (i := 34) (by decide +kernel) (by decide +kernel)), ⟨by decide, by decide, by decide +kernel⟩, Or.inr ⟨0, (zc_PC, zt_PC, 12), rfl, rfl, List.mem_cons_of_mem _ (zw_m (i := 235) (by decide +kernel) (by decide +kernel)), rfl, List.mem_cons_of_mem _ (zw_m (i := 2) (by decide +kernel) (by decide +kernel))⟩⟩, fun _ h => absurd h List.not_mem_nil⟩⟩⟩⟩
theorem z_PC_fillSpare {l : Launch} {dep : Nat} {T : ma_T} {t_0 t_1 t_2 t_3 : ma_T} {d_0 : Nat} (h_0 : ma_Met l y_LI_rowLength (w_LI_rowLength :: zw_t) d_0 true t_0) (e_0 : d_0 + 1 ≤ dep) {d_1 : Nat} (h_1 : ma_Met l y_LI_restart (w_LI_restart :: zw_t) d_1 false t_1) (e_1 : d_1 + 1 ≤ dep) {d_2 : Nat} (h_2 : ma_Met l y_LI_size (w_LI_size :: zw_t) d_2 true t_2) (e_2 : d_2 + 1 ≤ dep) {d_3 : Nat} (h_3 : ma_Met l y_PC_addFormsFrom (w_PC_addFormsFrom :: zw_t) d_3 true t_3) (e_3 : d_3 + 1 ≤ dep) (hT : ∀ as w post, T as w post → as.length ≤ 2)
    (hB : ∀ as w post, T as w post → ∀ Go, ma_cl k_PC_fillSpare zf_PC (e_PC_fillSpare t_0 t_1 t_2 t_3) none 2 s_PC_fillSpare post Go → Go 0 (as.map some ++ List.replicate (2 - as.length) none) [] w) :
    ma_Met l y_PC_fillSpare (w_PC_fillSpare :: zw_t) dep true T := ma_met (by decide) o_PC_fillSpare (Or.inr (Or.inr ⟨rfl, rfl, rfl⟩)) kk_PC_fillSpare zf_PC_ok (ee_PC_fillSpare h_0 e_0 h_1 e_1 h_2 e_2 h_3 e_3) hT hB
-- PackingCensus.addFormsFrom(I)Z
def s_PC_addFormsFrom : List (Nat × ma_C) := [
  (0, [(.aload_n 0, 1), (.getfield 37, 3), (.iload_n 1, 1), (.aload_n 0, 1), (.getfield 31, 3), (.invokevirtual 133, 3), (.aload_n 0, 1), (.getfield 31, 3), (.invokevirtual 150, 3), (.istore_n 2, 1), (.iconst 0, 1), (.istore_n 3, 1)]),
  (22, [(.iload_n 3, 1), (.aload_n 0, 1), (.getfield 20, 3), (.invokevirtual 153, 3), (.if_icmp .ge 104, 3), (.aload_n 0, 1), (.getfield 20, 3), (.iload_n 3, 1), (.invokevirtual 156, 3), (.istore 4, 2), (.iload 4, 2), (.iload_n 2, 1), (.if_icmp .lt 82, 3), (.aload_n 0, 1), (.iload_n 1, 1), (.iload 4, 2), (.invokevirtual 159, 3), (.ifCond .ne 6, 3), (.goto 69, 3)]),
  (62, [(.aload_n 0, 1), (.getfield 31, 3), (.iload 4, 2), (.invokevirtual 123, 3), (.aload_n 0, 1), (.getfield 10, 3), (.aload_n 0, 1), (.getfield 31, 3), (.invokevirtual 163, 3), (.ifCond .eq 30, 3), (.aload_n 0, 1), (.getfield 41, 3), (.invokevirtual 167, 3), (.ifCond .eq 5, 3), (.iconst 0, 1), (.ireturn, 1)]),
  (97, [(.aload_n 0, 1), (.getfield 41, 3), (.aload_n 0, 1), (.getfield 31, 3), (.aload_n 0, 1), (.getfield 10, 3), (.invokevirtual 170, 3)]),
  (112, [(.aload_n 0, 1), (.getfield 31, 3), (.aload_n 0, 1), (.getfield 31, 3), (.invokevirtual 122, 3), (.iconst 1, 1), (.isub, 1), (.invokevirtual 127, 3)]),
  (128, [(.iinc 3 1, 3), (.goto (-109), 3)]),
  (134, [(.iconst 1, 1), (.ireturn, 1)])]
theorem o_PC_addFormsFrom : (s_PC_addFormsFrom).all (fun q => ma_dec prog_1_method_23_code q.1 q.2) = true := by decide +kernel
def k_PC_addFormsFrom : List (Nat × Int32) := []
theorem kk_PC_addFormsFrom {z : Cond} : ma_Kok "PackingCensus" (z :: zw_t) k_PC_addFormsFrom := fun _ h => absurd h List.not_mem_nil
def e_PC_addFormsFrom (t_0 t_1 t_2 t_3 t_4 t_5 t_6 t_7 t_8 t_9 t_10 : ma_T) : ma_E := [(133, 3, some 4, false, t_0), (150, 1, some 3, true, t_1), (153, 1, some 2, true, t_2), (156, 2, some 2, true, t_3), (159, 3, some 0, true, t_4), (123, 2, some 3, false, t_5), (163, 2, some 1, true, t_6), (167, 1, some 4, true, t_7), (170, 3, some 4, false, t_8), (122, 1, some 3, true, t_9), (127, 2, some 3, false, t_10)]
theorem ee_PC_addFormsFrom {l : Launch} {dep : Nat} {z : Cond} {t_0 t_1 t_2 t_3 t_4 t_5 t_6 t_7 t_8 t_9 t_10 : ma_T} {d_0 : Nat} (h_0 : ma_Met l y_LI_writeTo (w_LI_writeTo :: zw_t) d_0 false t_0) (e_0 : d_0 + 1 ≤ dep) {d_1 : Nat} (h_1 : ma_Met l y_RO_last (w_RO_last :: zw_t) d_1 true t_1) (e_1 : d_1 + 1 ≤ dep) {d_2 : Nat} (h_2 : ma_Met l y_GR_kinds (w_GR_kinds :: zw_t) d_2 true t_2) (e_2 : d_2 + 1 ≤ dep) {d_3 : Nat} (h_3 : ma_Met l y_GR_kind (w_GR_kind :: zw_t) d_3 true t_3) (e_3 : d_3 + 1 ≤ dep) {d_4 : Nat} (h_4 : ma_Met l y_PC_staysPacking (w_PC_staysPacking :: zw_t) d_4 true t_4) (e_4 : d_4 + 1 ≤ dep) {d_5 : Nat} (h_5 : ma_Met l y_RO_add (w_RO_add :: zw_t) d_5 false t_5) (e_5 : d_5 + 1 ≤ dep) {d_6 : Nat} (h_6 : ma_Met l y_FO_isForm (w_FO_isForm :: zw_t) d_6 true t_6) (e_6 : d_6 + 1 ≤ dep) {d_7 : Nat} (h_7 : ma_Met l y_LI_isFull (w_LI_isFull :: zw_t) d_7 true t_7) (e_7 : d_7 + 1 ≤ dep) {d_8 : Nat} (h_8 : ma_Met l y_LI_addRow (w_LI_addRow :: zw_t) d_8 false t_8) (e_8 : d_8 + 1 ≤ dep) {d_9 : Nat} (h_9 : ma_Met l y_RO_size (w_RO_size :: zw_t) d_9 true t_9) (e_9 : d_9 + 1 ≤ dep) {d_10 : Nat} (h_10 : ma_Met l y_RO_removeAt (w_RO_removeAt :: zw_t) d_10 false t_10) (e_10 : d_10 + 1 ≤ dep) : ma_Eok l "PackingCensus" (z :: zw_t) dep (e_PC_addFormsFrom t_0 t_1 t_2 t_3 t_4 t_5 t_6 t_7 t_8 t_9 t_10) := List.forall_mem_cons.mpr ⟨Or.inr ⟨y_LI_writeTo, prog_4_method_13_code, 4, d_0, 2, none, zw_t, h_0, zw_in m_LI_writeTo, e_0, by decide, List.mem_cons_of_mem _ (zw_m (w := .methodLink "PackingCensus" 133 y_LI_writeTo) (i := 237) (by decide +kernel) (by decide +kernel)), List.mem_cons_of_mem _ (zw_m (i := 38) (by decide +kernel) (by decide +kernel)), ⟨by decide, by decide, by decide +kernel⟩, Or.inr ⟨4, (zc_LI, zt_LI, 5), rfl, rfl, List.mem_cons_of_mem _ (zw_m (i := 238) (by decide +kernel) (by decide +kernel)), rfl, List.mem_cons_of_mem _ (zw_m (i := 239) (by decide +kernel) (by decide +kernel))⟩⟩, List.forall_mem_cons.mpr ⟨Or.inr ⟨y_RO_last, prog_5_method_5_code, 1, d_1, 0, (some .int), zw_t, h_1, zw_in m_RO_last, e_1, by decide, List.mem_cons_of_mem _ (zw_m (w := .methodLink "PackingCensus" 150 y_RO_last) (i := 250) (by decide +kernel) (by decide +kernel)), List.mem_cons_of_mem _ (zw_m (i := 37) (by decide +kernel) (by decide +kernel)), ⟨by decide, by decide, by decide +kernel⟩, Or.inr ⟨3, (zc_RO, zt_RO, 2), rfl, rfl, List.mem_cons_of_mem _ (zw_m (i := 251) (by decide +kernel) (by decide +kernel)), rfl, List.mem_cons_of_mem _ (zw_m (i := 252) (by decide +kernel) (by decide +kernel))⟩⟩, List.forall_mem_cons.mpr ⟨Or.inr ⟨y_GR_kinds, prog_3_method_7_code, 1, d_2, 0, (some .int), zw_t, h_2, zw_in m_GR_kinds, e_2, by decide, List.mem_cons_of_mem _ (zw_m (w := .methodLink "PackingCensus" 153 y_GR_kinds) (i := 254) (by decide +kernel) (by decide +kernel)), List.mem_cons_of_mem _ (zw_m (i := 36) (by decide +kernel) (by decide +kernel)), ⟨by decide, by decide, by decide +kernel⟩, Or.inr ⟨2, (zc_GR, zt_GR, 5), rfl, rfl, List.mem_cons_of_mem _ (zw_m (i := 255) (by decide +kernel) (by decide +kernel)), rfl, List.mem_cons_of_mem _ (zw_m (i := 256) (by decide +kernel) (by decide +kernel))⟩⟩, List.forall_mem_cons.mpr ⟨Or.inr ⟨y_GR_kind, prog_3_method_8_code, 2, d_3, 1, (some .int), zw_t, h_3, zw_in m_GR_kind, e_3, by decide, List.mem_cons_of_mem _ (zw_m (w := .methodLink "PackingCensus" 156 y_GR_kind) (i := 258) (by decide +kernel) (by decide +kernel)), List.mem_cons_of_mem _ (zw_m (i := 36) (by decide +kernel) (by decide +kernel)), ⟨by decide, by decide, by decide +kernel⟩, Or.inr ⟨2, (zc_GR, zt_GR, 5), rfl, rfl, List.mem_cons_of_mem _ (zw_m (i := 259) (by decide +kernel) (by decide +kernel)), rfl, List.mem_cons_of_mem _ (zw_m (i := 260) (by decide +kernel) (by decide +kernel))⟩⟩, List.forall_mem_cons.mpr ⟨Or.inr ⟨y_PC_staysPacking, prog_1_method_24_code, 6, d_4, 2, (some .boolean), zw_t, h_4, zw_in m_PC_staysPacking, e_4, by decide, List.mem_cons_of_mem _ (zw_m (w := .methodLink "PackingCensus" 159 y_PC_staysPacking) (i := 262) (by decide +kernel) (by decide +kernel)), List.mem_cons_of_mem _ (zw_m (i := 34) (by decide +kernel) (by decide +kernel)), ⟨by decide, by decide, by decide +kernel⟩, Or.inr ⟨0, (zc_PC, zt_PC, 12), rfl, rfl, List.mem_cons_of_mem _ (zw_m (i := 264) (by decide +kernel) (by decide +kernel)), rfl, List.mem_cons_of_mem _ (zw_m (i := 3) (by decide +kernel) (by decide +kernel))⟩⟩, List.forall_mem_cons.mpr ⟨Or.inr ⟨y_RO_add, prog_5_method_7_code, 2, d_5, 1, none, zw_t, h_5, zw_in m_RO_add, e_5, by decide, List.mem_cons_of_mem _ (zw_m (w := .methodLink "PackingCensus" 123 y_RO_add) (i := 274) (by decide +kernel) (by decide +kernel)), List.mem_cons_of_mem _ (zw_m (i := 37) (by decide +kernel) (by decide +kernel)), ⟨by decide, by decide, by decide +kernel⟩, Or.inr ⟨3, (zc_RO, zt_RO, 2), rfl, rfl, List.mem_cons_of_mem _ (zw_m (i := 247) (by decide +kernel) (by decide +kernel)), rfl, List.mem_cons_of_mem _ (zw_m (i := 248) (by decide +kernel) (by decide +kernel))⟩⟩, List.forall_mem_cons.mpr ⟨Or.inr ⟨y_FO_isForm, prog_2_method_2_code, 2, d_6, 1, (some .boolean), zw_t, h_6, zw_in m_FO_isForm, e_6, by decide, List.mem_cons_of_mem _ (zw_m (w := .methodLink "PackingCensus" 163 y_FO_isForm) (i := 275) (by decide +kernel) (by decide +kernel)), List.mem_cons_of_mem _ (zw_m (i := 35) (by decide +kernel) (by decide +kernel)), ⟨by decide, by decide, by decide +kernel⟩, Or.inr ⟨1, (zc_FO, zt_FO, 9), rfl, rfl, List.mem_cons_of_mem _ (zw_m (i := 276) (by decide +kernel) (by decide +kernel)), rfl, List.mem_cons_of_mem _ (zw_m (i := 277) (by decide +kernel) (by decide +kernel))⟩⟩, List.forall_mem_cons.mpr ⟨Or.inr ⟨y_LI_isFull, prog_4_method_6_code, 1, d_7, 0, (some .boolean), zw_t, h_7, zw_in m_LI_isFull, e_7, by decide, List.mem_cons_of_mem _ (zw_m (w := .methodLink "PackingCensus" 167 y_LI_isFull) (i := 325) (by decide +kernel) (by decide +kernel)), List.mem_cons_of_mem _ (zw_m (i := 38) (by decide +kernel) (by decide +kernel)), ⟨by decide, by decide, by decide +kernel⟩, Or.inr ⟨4, (zc_LI, zt_LI, 5), rfl, rfl, List.mem_cons_of_mem _ (zw_m (i := 326) (by decide +kernel) (by decide +kernel)), rfl, List.mem_cons_of_mem _ (zw_m (i := 327) (by decide +kernel) (by decide +kernel))⟩⟩, List.forall_mem_cons.mpr ⟨Or.inr ⟨y_LI_addRow, prog_4_method_4_code, 4, d_8, 2, none, zw_t, h_8, zw_in m_LI_addRow, e_8, by decide, List.mem_cons_of_mem _ (zw_m (w := .methodLink "PackingCensus" 170 y_LI_addRow) (i := 329) (by decide +kernel) (by decide +kernel)), List.mem_cons_of_mem _ (zw_m (i := 38) (by decide +kernel) (by decide +kernel)), ⟨by decide, by decide, by decide +kernel⟩, Or.inr ⟨4, (zc_LI, zt_LI, 5), rfl, rfl, List.mem_cons_of_mem _ (zw_m (i := 330) (by decide +kernel) (by decide +kernel)), rfl, List.mem_cons_of_mem _ (zw_m (i := 331) (by decide +kernel) (by decide +kernel))⟩⟩, List.forall_mem_cons.mpr ⟨Or.inr ⟨y_RO_size, prog_5_method_2_code, 1, d_9, 0, (some .int), zw_t, h_9, zw_in m_RO_size, e_9, by decide, List.mem_cons_of_mem _ (zw_m (w := .methodLink "PackingCensus" 122 y_RO_size) (i := 344) (by decide +kernel) (by decide +kernel)), List.mem_cons_of_mem _ (zw_m (i := 37) (by decide +kernel) (by decide +kernel)), ⟨by decide, by decide, by decide +kernel⟩, Or.inr ⟨3, (zc_RO, zt_RO, 2), rfl, rfl, List.mem_cons_of_mem _ (zw_m (i := 286) (by decide +kernel) (by decide +kernel)), rfl, List.mem_cons_of_mem _ (zw_m (i := 287) (by decide +kernel) (by decide +kernel))⟩⟩, List.forall_mem_cons.mpr ⟨Or.inr ⟨y_RO_removeAt, prog_5_method_8_code, 3, d_10, 1, none, zw_t, h_10, zw_in m_RO_removeAt, e_10, by decide, List.mem_cons_of_mem _ (zw_m (w := .methodLink "PackingCensus" 127 y_RO_removeAt) (i := 345) (by decide +kernel) (by decide +kernel)), List.mem_cons_of_mem _ (zw_m (i := 37) (by decide +kernel) (by decide +kernel)), ⟨by decide, by decide, by decide +kernel⟩, Or.inr ⟨3, (zc_RO, zt_RO, 2), rfl, rfl, List.mem_cons_of_mem _ (zw_m (i := 346) (by decide +kernel) (by decide +kernel)), rfl, List.mem_cons_of_mem _ (zw_m (i := 347) (by decide +kernel) (by decide +kernel))⟩⟩, fun _ h => absurd h List.not_mem_nil⟩⟩⟩⟩⟩⟩⟩⟩⟩⟩⟩
theorem z_PC_addFormsFrom {l : Launch} {dep : Nat} {T : ma_T} {t_0 t_1 t_2 t_3 t_4 t_5 t_6 t_7 t_8 t_9 t_10 : ma_T} {d_0 : Nat} (h_0 : ma_Met l y_LI_writeTo (w_LI_writeTo :: zw_t) d_0 false t_0) (e_0 : d_0 + 1 ≤ dep) {d_1 : Nat} (h_1 : ma_Met l y_RO_last (w_RO_last :: zw_t) d_1 true t_1) (e_1 : d_1 + 1 ≤ dep) {d_2 : Nat} (h_2 : ma_Met l y_GR_kinds (w_GR_kinds :: zw_t) d_2 true t_2) (e_2 : d_2 + 1 ≤ dep) {d_3 : Nat} (h_3 : ma_Met l y_GR_kind (w_GR_kind :: zw_t) d_3 true t_3) (e_3 : d_3 + 1 ≤ dep) {d_4 : Nat} (h_4 : ma_Met l y_PC_staysPacking (w_PC_staysPacking :: zw_t) d_4 true t_4) (e_4 : d_4 + 1 ≤ dep) {d_5 : Nat} (h_5 : ma_Met l y_RO_add (w_RO_add :: zw_t) d_5 false t_5) (e_5 : d_5 + 1 ≤ dep) {d_6 : Nat} (h_6 : ma_Met l y_FO_isForm (w_FO_isForm :: zw_t) d_6 true t_6) (e_6 : d_6 + 1 ≤ dep) {d_7 : Nat} (h_7 : ma_Met l y_LI_isFull (w_LI_isFull :: zw_t) d_7 true t_7) (e_7 : d_7 + 1 ≤ dep) {d_8 : Nat} (h_8 : ma_Met l y_LI_addRow (w_LI_addRow :: zw_t) d_8 false t_8) (e_8 : d_8 + 1 ≤ dep) {d_9 : Nat} (h_9 : ma_Met l y_RO_size (w_RO_size :: zw_t) d_9 true t_9) (e_9 : d_9 + 1 ≤ dep) {d_10 : Nat} (h_10 : ma_Met l y_RO_removeAt (w_RO_removeAt :: zw_t) d_10 false t_10) (e_10 : d_10 + 1 ≤ dep) (hT : ∀ as w post, T as w post → as.length ≤ 5)
    (hB : ∀ as w post, T as w post → ∀ Go, ma_cl k_PC_addFormsFrom zf_PC (e_PC_addFormsFrom t_0 t_1 t_2 t_3 t_4 t_5 t_6 t_7 t_8 t_9 t_10) none 2 s_PC_addFormsFrom post Go → Go 0 (as.map some ++ List.replicate (5 - as.length) none) [] w) :
    ma_Met l y_PC_addFormsFrom (w_PC_addFormsFrom :: zw_t) dep true T := ma_met (by decide) o_PC_addFormsFrom (Or.inr (Or.inr ⟨rfl, rfl, rfl⟩)) kk_PC_addFormsFrom zf_PC_ok (ee_PC_addFormsFrom h_0 e_0 h_1 e_1 h_2 e_2 h_3 e_3 h_4 e_4 h_5 e_5 h_6 e_6 h_7 e_7 h_8 e_8 h_9 e_9 h_10 e_10) hT hB
-- PackingCensus.staysPacking(II)Z
def s_PC_staysPacking : List (Nat × ma_C) := [
  (0, [(.iconst 1, 1), (.istore_n 3, 1)]),
  (2, [(.iload_n 3, 1), (.aload_n 0, 1), (.getfield 20, 3), (.invokevirtual 174, 3), (.if_icmp .ge 62, 3), (.iconst 0, 1), (.istore 4, 2)]),
  (16, [(.iload 4, 2), (.iload_n 3, 1), (.if_icmp .ge 47, 3), (.iconst 1, 1), (.iload 4, 2), (.ishl, 1), (.iconst 1, 1), (.iload_n 3, 1), (.ishl, 1), (.ior, 1), (.istore 5, 2), (.iload_n 2, 1), (.iload 5, 2), (.iand, 1), (.iload 5, 2), (.if_icmp .ne 22, 3), (.aload_n 0, 1), (.getfield 37, 3), (.iload_n 1, 1), (.iload 5, 2), (.invokevirtual 110, 3), (.aload_n 0, 1), (.getfield 44, 3), (.if_icmp .lt 5, 3), (.iconst 0, 1), (.ireturn, 1)]),
  (60, [(.iinc 4 1, 3), (.goto (-47), 3)]),
  (66, [(.iinc 3 1, 3), (.goto (-67), 3)]),
  (72, [(.iconst 1, 1), (.ireturn, 1)])]
theorem o_PC_staysPacking : (s_PC_staysPacking).all (fun q => ma_dec prog_1_method_24_code q.1 q.2) = true := by decide +kernel
def k_PC_staysPacking : List (Nat × Int32) := []
theorem kk_PC_staysPacking {z : Cond} : ma_Kok "PackingCensus" (z :: zw_t) k_PC_staysPacking := fun _ h => absurd h List.not_mem_nil
def e_PC_staysPacking (t_0 t_1 : ma_T) : ma_E := [(174, 1, some 2, true, t_0), (110, 3, some 4, true, t_1)]
theorem ee_PC_staysPacking {l : Launch} {dep : Nat} {z : Cond} {t_0 t_1 : ma_T} {d_0 : Nat} (h_0 : ma_Met l y_GR_points (w_GR_points :: zw_t) d_0 true t_0) (e_0 : d_0 + 1 ≤ dep) {d_1 : Nat} (h_1 : ma_Met l y_LI_blocksHolding (w_LI_blocksHolding :: zw_t) d_1 true t_1) (e_1 : d_1 + 1 ≤ dep) : ma_Eok l "PackingCensus" (z :: zw_t) dep (e_PC_staysPacking t_0 t_1) := List.forall_mem_cons.mpr ⟨Or.inr ⟨y_GR_points, prog_3_method_4_code, 1, d_0, 0, (some .int), zw_t, h_0, zw_in m_GR_points, e_0, by decide, List.mem_cons_of_mem _ (zw_m (w := .methodLink "PackingCensus" 174 y_GR_points) (i := 266) (by decide +kernel) (by decide +kernel)), List.mem_cons_of_mem _ (zw_m (i := 36) (by decide +kernel) (by decide +kernel)), ⟨by decide, by decide, by decide +kernel⟩, Or.inr ⟨2, (zc_GR, zt_GR, 5), rfl, rfl, List.mem_cons_of_mem _ (zw_m (i := 267) (by decide +kernel) (by decide +kernel)), rfl, List.mem_cons_of_mem _ (zw_m (i := 268) (by decide +kernel) (by decide +kernel))⟩⟩, List.forall_mem_cons.mpr ⟨Or.inr ⟨y_LI_blocksHolding, prog_4_method_12_code, 5, d_1, 2, (some .int), zw_t, h_1, zw_in m_LI_blocksHolding, e_1, by decide, List.mem_cons_of_mem _ (zw_m (w := .methodLink "PackingCensus" 110 y_LI_blocksHolding) (i := 270) (by decide +kernel) (by decide +kernel)), List.mem_cons_of_mem _ (zw_m (i := 38) (by decide +kernel) (by decide +kernel)), ⟨by decide, by decide, by decide +kernel⟩, Or.inr ⟨4, (zc_LI, zt_LI, 5), rfl, rfl, List.mem_cons_of_mem _ (zw_m (i := 271) (by decide +kernel) (by decide +kernel)), rfl, List.mem_cons_of_mem _ (zw_m (i := 272) (by decide +kernel) (by decide +kernel))⟩⟩, fun _ h => absurd h List.not_mem_nil⟩⟩
theorem z_PC_staysPacking {l : Launch} {dep : Nat} {T : ma_T} {t_0 t_1 : ma_T} {d_0 : Nat} (h_0 : ma_Met l y_GR_points (w_GR_points :: zw_t) d_0 true t_0) (e_0 : d_0 + 1 ≤ dep) {d_1 : Nat} (h_1 : ma_Met l y_LI_blocksHolding (w_LI_blocksHolding :: zw_t) d_1 true t_1) (e_1 : d_1 + 1 ≤ dep) (hT : ∀ as w post, T as w post → as.length ≤ 6)
    (hB : ∀ as w post, T as w post → ∀ Go, ma_cl k_PC_staysPacking zf_PC (e_PC_staysPacking t_0 t_1) none 2 s_PC_staysPacking post Go → Go 0 (as.map some ++ List.replicate (6 - as.length) none) [] w) :
    ma_Met l y_PC_staysPacking (w_PC_staysPacking :: zw_t) dep true T := ma_met (by decide) o_PC_staysPacking (Or.inr (Or.inr ⟨rfl, rfl, rfl⟩)) kk_PC_staysPacking zf_PC_ok (ee_PC_staysPacking h_0 e_0 h_1 e_1) hT hB
-- PackingCensus.isDesign(I)Z
def s_PC_isDesign : List (Nat × ma_C) := [
  (0, [(.iconst 1, 1), (.istore_n 2, 1)]),
  (2, [(.iload_n 2, 1), (.aload_n 0, 1), (.getfield 20, 3), (.invokevirtual 174, 3), (.if_icmp .ge 46, 3), (.iconst 0, 1), (.istore_n 3, 1)]),
  (15, [(.iload_n 3, 1), (.iload_n 2, 1), (.if_icmp .ge 33, 3), (.aload_n 0, 1), (.getfield 37, 3), (.iload_n 1, 1), (.iconst 1, 1), (.iload_n 3, 1), (.ishl, 1), (.iconst 1, 1), (.iload_n 2, 1), (.ishl, 1), (.ior, 1), (.invokevirtual 110, 3), (.aload_n 0, 1), (.getfield 44, 3), (.if_icmp .eq 5, 3), (.iconst 0, 1), (.ireturn, 1)]),
  (44, [(.iinc 3 1, 3), (.goto (-32), 3)]),
  (50, [(.iinc 2 1, 3), (.goto (-51), 3)]),
  (56, [(.iconst 1, 1), (.ireturn, 1)])]
theorem o_PC_isDesign : (s_PC_isDesign).all (fun q => ma_dec prog_1_method_25_code q.1 q.2) = true := by decide +kernel
def k_PC_isDesign : List (Nat × Int32) := []
theorem kk_PC_isDesign {z : Cond} : ma_Kok "PackingCensus" (z :: zw_t) k_PC_isDesign := fun _ h => absurd h List.not_mem_nil
def e_PC_isDesign (t_0 t_1 : ma_T) : ma_E := [(174, 1, some 2, true, t_0), (110, 3, some 4, true, t_1)]
theorem ee_PC_isDesign {l : Launch} {dep : Nat} {z : Cond} {t_0 t_1 : ma_T} {d_0 : Nat} (h_0 : ma_Met l y_GR_points (w_GR_points :: zw_t) d_0 true t_0) (e_0 : d_0 + 1 ≤ dep) {d_1 : Nat} (h_1 : ma_Met l y_LI_blocksHolding (w_LI_blocksHolding :: zw_t) d_1 true t_1) (e_1 : d_1 + 1 ≤ dep) : ma_Eok l "PackingCensus" (z :: zw_t) dep (e_PC_isDesign t_0 t_1) := List.forall_mem_cons.mpr ⟨Or.inr ⟨y_GR_points, prog_3_method_4_code, 1, d_0, 0, (some .int), zw_t, h_0, zw_in m_GR_points, e_0, by decide, List.mem_cons_of_mem _ (zw_m (w := .methodLink "PackingCensus" 174 y_GR_points) (i := 266) (by decide +kernel) (by decide +kernel)), List.mem_cons_of_mem _ (zw_m (i := 36) (by decide +kernel) (by decide +kernel)), ⟨by decide, by decide, by decide +kernel⟩, Or.inr ⟨2, (zc_GR, zt_GR, 5), rfl, rfl, List.mem_cons_of_mem _ (zw_m (i := 267) (by decide +kernel) (by decide +kernel)), rfl, List.mem_cons_of_mem _ (zw_m (i := 268) (by decide +kernel) (by decide +kernel))⟩⟩, List.forall_mem_cons.mpr ⟨Or.inr ⟨y_LI_blocksHolding, prog_4_method_12_code, 5, d_1, 2, (some .int), zw_t, h_1, zw_in m_LI_blocksHolding, e_1, by decide, List.mem_cons_of_mem _ (zw_m (w := .methodLink "PackingCensus" 110 y_LI_blocksHolding) (i := 270) (by decide +kernel) (by decide +kernel)), List.mem_cons_of_mem _ (zw_m (i := 38) (by decide +kernel) (by decide +kernel)), ⟨by decide, by decide, by decide +kernel⟩, Or.inr ⟨4, (zc_LI, zt_LI, 5), rfl, rfl, List.mem_cons_of_mem _ (zw_m (i := 271) (by decide +kernel) (by decide +kernel)), rfl, List.mem_cons_of_mem _ (zw_m (i := 272) (by decide +kernel) (by decide +kernel))⟩⟩, fun _ h => absurd h List.not_mem_nil⟩⟩
theorem z_PC_isDesign {l : Launch} {dep : Nat} {T : ma_T} {t_0 t_1 : ma_T} {d_0 : Nat} (h_0 : ma_Met l y_GR_points (w_GR_points :: zw_t) d_0 true t_0) (e_0 : d_0 + 1 ≤ dep) {d_1 : Nat} (h_1 : ma_Met l y_LI_blocksHolding (w_LI_blocksHolding :: zw_t) d_1 true t_1) (e_1 : d_1 + 1 ≤ dep) (hT : ∀ as w post, T as w post → as.length ≤ 4)
    (hB : ∀ as w post, T as w post → ∀ Go, ma_cl k_PC_isDesign zf_PC (e_PC_isDesign t_0 t_1) none 2 s_PC_isDesign post Go → Go 0 (as.map some ++ List.replicate (4 - as.length) none) [] w) :
    ma_Met l y_PC_isDesign (w_PC_isDesign :: zw_t) dep true T := ma_met (by decide) o_PC_isDesign (Or.inr (Or.inr ⟨rfl, rfl, rfl⟩)) kk_PC_isDesign zf_PC_ok (ee_PC_isDesign h_0 e_0 h_1 e_1) hT hB
-- PackingCensus.formHand()V
def s_PC_formHand : List (Nat × ma_C) := [
  (0, [(.aload_n 0, 1), (.getfield 51, 3), (.ifCond .ne 34, 3), (.aload_n 0, 1), (.getfield 10, 3), (.aload_n 0, 1), (.getfield 24, 3), (.aload_n 0, 1), (.getfield 28, 3), (.invokevirtual 177, 3), (.aload_n 0, 1), (.aload_n 0, 1), (.getfield 10, 3), (.invokevirtual 181, 3), (.putfield 48, 3), (.aload_n 0, 1), (.iconst 1, 1), (.putfield 51, 3)]),
  (38, [(.return_, 1)])]
theorem o_PC_formHand : (s_PC_formHand).all (fun q => ma_dec prog_1_method_26_code q.1 q.2) = true := by decide +kernel
def k_PC_formHand : List (Nat × Int32) := []
theorem kk_PC_formHand {z : Cond} : ma_Kok "PackingCensus" (z :: zw_t) k_PC_formHand := fun _ h => absurd h List.not_mem_nil
def e_PC_formHand (t_0 t_1 : ma_T) : ma_E := [(177, 3, some 1, false, t_0), (181, 1, some 1, true, t_1)]
theorem ee_PC_formHand {l : Launch} {dep : Nat} {z : Cond} {t_0 t_1 : ma_T} {d_0 : Nat} (h_0 : ma_Met l y_FO_findForm (w_FO_findForm :: zw_t) d_0 false t_0) (e_0 : d_0 + 1 ≤ dep) {d_1 : Nat} (h_1 : ma_Met l y_FO_symmetriesFound (w_FO_symmetriesFound :: zw_t) d_1 true t_1) (e_1 : d_1 + 1 ≤ dep) : ma_Eok l "PackingCensus" (z :: zw_t) dep (e_PC_formHand t_0 t_1) := List.forall_mem_cons.mpr ⟨Or.inr ⟨y_FO_findForm, prog_2_method_3_code, 5, d_0, 2, none, zw_t, h_0, zw_in m_FO_findForm, e_0, by decide, List.mem_cons_of_mem _ (zw_m (w := .methodLink "PackingCensus" 177 y_FO_findForm) (i := 448) (by decide +kernel) (by decide +kernel)), List.mem_cons_of_mem _ (zw_m (i := 35) (by decide +kernel) (by decide +kernel)), ⟨by decide, by decide, by decide +kernel⟩, Or.inr ⟨1, (zc_FO, zt_FO, 9), rfl, rfl, List.mem_cons_of_mem _ (zw_m (i := 449) (by decide +kernel) (by decide +kernel)), rfl, List.mem_cons_of_mem _ (zw_m (i := 450) (by decide +kernel) (by decide +kernel))⟩⟩, List.forall_mem_cons.mpr ⟨Or.inr ⟨y_FO_symmetriesFound, prog_2_method_4_code, 1, d_1, 0, (some .int), zw_t, h_1, zw_in m_FO_symmetriesFound, e_1, by decide, List.mem_cons_of_mem _ (zw_m (w := .methodLink "PackingCensus" 181 y_FO_symmetriesFound) (i := 454) (by decide +kernel) (by decide +kernel)), List.mem_cons_of_mem _ (zw_m (i := 35) (by decide +kernel) (by decide +kernel)), ⟨by decide, by decide, by decide +kernel⟩, Or.inr ⟨1, (zc_FO, zt_FO, 9), rfl, rfl, List.mem_cons_of_mem _ (zw_m (i := 341) (by decide +kernel) (by decide +kernel)), rfl, List.mem_cons_of_mem _ (zw_m (i := 342) (by decide +kernel) (by decide +kernel))⟩⟩, fun _ h => absurd h List.not_mem_nil⟩⟩
theorem z_PC_formHand {l : Launch} {dep : Nat} {T : ma_T} {t_0 t_1 : ma_T} {d_0 : Nat} (h_0 : ma_Met l y_FO_findForm (w_FO_findForm :: zw_t) d_0 false t_0) (e_0 : d_0 + 1 ≤ dep) {d_1 : Nat} (h_1 : ma_Met l y_FO_symmetriesFound (w_FO_symmetriesFound :: zw_t) d_1 true t_1) (e_1 : d_1 + 1 ≤ dep) (hT : ∀ as w post, T as w post → as.length ≤ 1)
    (hB : ∀ as w post, T as w post → ∀ Go, ma_cl k_PC_formHand zf_PC (e_PC_formHand t_0 t_1) none 0 s_PC_formHand post Go → Go 0 (as.map some ++ List.replicate (1 - as.length) none) [] w) :
    ma_Met l y_PC_formHand (w_PC_formHand :: zw_t) dep false T := ma_met (by decide) o_PC_formHand (Or.inl ⟨rfl, rfl, rfl⟩) kk_PC_formHand zf_PC_ok (ee_PC_formHand h_0 e_0 h_1 e_1) hT hB
-- PackingCensusModel.bits(I)I
def s_MO_bits : List (Nat × ma_C) := [
  (0, [(.iconst 0, 1), (.istore_n 1, 1), (.iconst 0, 1), (.istore_n 2, 1)]),
  (4, [(.iload_n 2, 1), (.bipush 6, 2), (.if_icmp .ge 17, 3), (.iload_n 1, 1), (.iload_n 0, 1), (.iload_n 2, 1), (.ishr, 1), (.iconst 1, 1), (.iand, 1), (.iadd, 1), (.istore_n 1, 1), (.iinc 2 1, 3), (.goto (-17), 3)]),
  (24, [(.iload_n 1, 1), (.ireturn, 1)])]
theorem o_MO_bits : (s_MO_bits).all (fun q => ma_dec prog_7_method_2_code q.1 q.2) = true := by decide +kernel
def k_MO_bits : List (Nat × Int32) := []
theorem kk_MO_bits {z : Cond} : ma_Kok "PackingCensusModel" (z :: zw_t) k_MO_bits := fun _ h => absurd h List.not_mem_nil
def e_MO_bits : ma_E := []
theorem ee_MO_bits {l : Launch} {dep : Nat} {z : Cond} : ma_Eok l "PackingCensusModel" (z :: zw_t) dep (e_MO_bits) := fun _ h => absurd h List.not_mem_nil
theorem z_MO_bits {l : Launch} {dep : Nat} {T : ma_T} (hT : ∀ as w post, T as w post → as.length ≤ 3)
    (hB : ∀ as w post, T as w post → ∀ Go, ma_cl k_MO_bits zf_MO (e_MO_bits) none 1 s_MO_bits post Go → Go 0 (as.map some ++ List.replicate (3 - as.length) none) [] w) :
    ma_Met l y_MO_bits (w_MO_bits :: zw_t) dep true T := ma_met (by decide) o_MO_bits (Or.inr (Or.inl ⟨rfl, rfl, rfl⟩)) kk_MO_bits zf_MO_ok (ee_MO_bits) hT hB
-- PackingCensusModel.isBlock(I)Z
def s_MO_isBlock : List (Nat × ma_C) := [
  (0, [(.aload_n 0, 1), (.getfield 34, 3), (.ifCond .eq 32, 3), (.iload_n 1, 1), (.ifCond .lt 28, 3), (.iload_n 1, 1), (.iconst 1, 1), (.aload_n 0, 1), (.getfield 38, 3), (.ishl, 1), (.if_icmp .ge 18, 3), (.iload_n 1, 1), (.invokestatic 42, 3), (.aload_n 0, 1), (.getfield 46, 3), (.if_icmp .ne 7, 3), (.iconst 1, 1), (.goto 4, 3)]),
  (36, [(.iconst 0, 1)]),
  (37, [(.ireturn, 1)])]
theorem o_MO_isBlock : (s_MO_isBlock).all (fun q => ma_dec prog_7_method_3_code q.1 q.2) = true := by decide +kernel
def k_MO_isBlock : List (Nat × Int32) := []
theorem kk_MO_isBlock {z : Cond} : ma_Kok "PackingCensusModel" (z :: zw_t) k_MO_isBlock := fun _ h => absurd h List.not_mem_nil
def e_MO_isBlock (t_0 : ma_T) : ma_E := [(42, 1, none, true, t_0)]
theorem ee_MO_isBlock {l : Launch} {dep : Nat} {z : Cond} {t_0 : ma_T} {d_0 : Nat} (h_0 : ma_Met l y_MO_bits (w_MO_bits :: zw_t) d_0 true t_0) (e_0 : d_0 + 1 ≤ dep) : ma_Eok l "PackingCensusModel" (z :: zw_t) dep (e_MO_isBlock t_0) := List.forall_mem_cons.mpr ⟨Or.inr ⟨y_MO_bits, prog_7_method_2_code, 3, d_0, 1, (some .int), zw_t, h_0, zw_in m_MO_bits, e_0, by decide, List.mem_cons_of_mem _ (zw_m (w := .methodLink "PackingCensusModel" 42 y_MO_bits) (i := 540) (by decide +kernel) (by decide +kernel)), List.mem_cons_of_mem _ (zw_m (i := 39) (by decide +kernel) (by decide +kernel)), ⟨by decide, by decide, by decide +kernel⟩, Or.inl ⟨rfl, rfl, List.mem_cons_of_mem _ (zw_m (i := 541) (by decide +kernel) (by decide +kernel))⟩⟩, fun _ h => absurd h List.not_mem_nil⟩
theorem z_MO_isBlock {l : Launch} {dep : Nat} {T : ma_T} {t_0 : ma_T} {d_0 : Nat} (h_0 : ma_Met l y_MO_bits (w_MO_bits :: zw_t) d_0 true t_0) (e_0 : d_0 + 1 ≤ dep) (hT : ∀ as w post, T as w post → as.length ≤ 2)
    (hB : ∀ as w post, T as w post → ∀ Go, ma_cl k_MO_isBlock zf_MO (e_MO_isBlock t_0) none 2 s_MO_isBlock post Go → Go 0 (as.map some ++ List.replicate (2 - as.length) none) [] w) :
    ma_Met l y_MO_isBlock (w_MO_isBlock :: zw_t) dep true T := ma_met (by decide) o_MO_isBlock (Or.inr (Or.inr ⟨rfl, rfl, rfl⟩)) kk_MO_isBlock zf_MO_ok (ee_MO_isBlock h_0 e_0) hT hB
-- PackingCensusModel.isPoint(I)Z
def s_MO_isPoint : List (Nat × ma_C) := [
  (0, [(.aload_n 0, 1), (.getfield 34, 3), (.ifCond .eq 19, 3), (.iload_n 1, 1), (.ifCond .lt 15, 3), (.iload_n 1, 1), (.aload_n 0, 1), (.getfield 38, 3), (.if_icmp .ge 7, 3), (.iconst 1, 1), (.goto 4, 3)]),
  (23, [(.iconst 0, 1)]),
  (24, [(.ireturn, 1)])]
theorem o_MO_isPoint : (s_MO_isPoint).all (fun q => ma_dec prog_7_method_4_code q.1 q.2) = true := by decide +kernel
def k_MO_isPoint : List (Nat × Int32) := []
theorem kk_MO_isPoint {z : Cond} : ma_Kok "PackingCensusModel" (z :: zw_t) k_MO_isPoint := fun _ h => absurd h List.not_mem_nil
def e_MO_isPoint : ma_E := []
theorem ee_MO_isPoint {l : Launch} {dep : Nat} {z : Cond} : ma_Eok l "PackingCensusModel" (z :: zw_t) dep (e_MO_isPoint) := fun _ h => absurd h List.not_mem_nil
theorem z_MO_isPoint {l : Launch} {dep : Nat} {T : ma_T} (hT : ∀ as w post, T as w post → as.length ≤ 2)
    (hB : ∀ as w post, T as w post → ∀ Go, ma_cl k_MO_isPoint zf_MO (e_MO_isPoint) none 2 s_MO_isPoint post Go → Go 0 (as.map some ++ List.replicate (2 - as.length) none) [] w) :
    ma_Met l y_MO_isPoint (w_MO_isPoint :: zw_t) dep true T := ma_met (by decide) o_MO_isPoint (Or.inr (Or.inr ⟨rfl, rfl, rfl⟩)) kk_MO_isPoint zf_MO_ok (ee_MO_isPoint) hT hB
end
section
-- PackingCensusModel.isEntry(I)Z
def s_MO_isEntry : List (Nat × ma_C) := [
  (0, [(.iload_n 1, 1), (.ifCond .lt 15, 3), (.iload_n 1, 1), (.aload_n 0, 1), (.getfield 49, 3), (.if_icmp .ge 7, 3), (.iconst 1, 1), (.goto 4, 3)]),
  (16, [(.iconst 0, 1)]),
  (17, [(.ireturn, 1)])]
theorem o_MO_isEntry : (s_MO_isEntry).all (fun q => ma_dec prog_7_method_5_code q.1 q.2) = true := by decide +kernel
def k_MO_isEntry : List (Nat × Int32) := []
theorem kk_MO_isEntry {z : Cond} : ma_Kok "PackingCensusModel" (z :: zw_t) k_MO_isEntry := fun _ h => absurd h List.not_mem_nil
def e_MO_isEntry : ma_E := []
theorem ee_MO_isEntry {l : Launch} {dep : Nat} {z : Cond} : ma_Eok l "PackingCensusModel" (z :: zw_t) dep (e_MO_isEntry) := fun _ h => absurd h List.not_mem_nil
theorem z_MO_isEntry {l : Launch} {dep : Nat} {T : ma_T} (hT : ∀ as w post, T as w post → as.length ≤ 2)
    (hB : ∀ as w post, T as w post → ∀ Go, ma_cl k_MO_isEntry zf_MO (e_MO_isEntry) none 2 s_MO_isEntry post Go → Go 0 (as.map some ++ List.replicate (2 - as.length) none) [] w) :
    ma_Met l y_MO_isEntry (w_MO_isEntry :: zw_t) dep true T := ma_met (by decide) o_MO_isEntry (Or.inr (Or.inr ⟨rfl, rfl, rfl⟩)) kk_MO_isEntry zf_MO_ok (ee_MO_isEntry) hT hB
-- PackingCensusModel.layOut()V
def s_MO_layOut : List (Nat × ma_C) := [
  (0, [(.aload_n 0, 1), (.iconst 0, 1), (.putfield 52, 3), (.iconst 0, 1), (.istore_n 1, 1)]),
  (7, [(.iload_n 1, 1), (.iconst 1, 1), (.aload_n 0, 1), (.getfield 38, 3), (.ishl, 1), (.if_icmp .ge 40, 3), (.iload_n 1, 1), (.invokestatic 42, 3), (.aload_n 0, 1), (.getfield 46, 3), (.if_icmp .ne 23, 3), (.aload_n 0, 1), (.getfield 7, 3), (.aload_n 0, 1), (.getfield 52, 3), (.iload_n 1, 1), (.iastore, 1), (.aload_n 0, 1), (.dup, 1), (.getfield 52, 3), (.iconst 1, 1), (.iadd, 1), (.putfield 52, 3)]),
  (48, [(.iinc 1 1, 3), (.goto (-44), 3)]),
  (54, [(.aload_n 0, 1), (.iconst 1, 1), (.putfield 55, 3), (.iconst 2, 1), (.istore_n 1, 1)]),
  (61, [(.iload_n 1, 1), (.aload_n 0, 1), (.getfield 38, 3), (.if_icmp .gt 19, 3), (.aload_n 0, 1), (.aload_n 0, 1), (.getfield 55, 3), (.iload_n 1, 1), (.imul, 1), (.putfield 55, 3), (.iinc 1 1, 3), (.goto (-21), 3)]),
  (85, [(.iconst 0, 1), (.istore_n 1, 1)]),
  (87, [(.iload_n 1, 1), (.aload_n 0, 1), (.getfield 55, 3), (.if_icmp .ge 14, 3), (.aload_n 0, 1), (.iload_n 1, 1), (.invokevirtual 58, 3), (.iinc 1 1, 3), (.goto (-16), 3)]),
  (106, [(.return_, 1)])]
theorem o_MO_layOut : (s_MO_layOut).all (fun q => ma_dec prog_7_method_6_code q.1 q.2) = true := by decide +kernel
def k_MO_layOut : List (Nat × Int32) := []
theorem kk_MO_layOut {z : Cond} : ma_Kok "PackingCensusModel" (z :: zw_t) k_MO_layOut := fun _ h => absurd h List.not_mem_nil
def e_MO_layOut (t_0 t_1 : ma_T) : ma_E := [(42, 1, none, true, t_0), (58, 2, some 5, false, t_1)]
theorem ee_MO_layOut {l : Launch} {dep : Nat} {z : Cond} {t_0 t_1 : ma_T} {d_0 : Nat} (h_0 : ma_Met l y_MO_bits (w_MO_bits :: zw_t) d_0 true t_0) (e_0 : d_0 + 1 ≤ dep) {d_1 : Nat} (h_1 : ma_Met l y_MO_rename (w_MO_rename :: zw_t) d_1 false t_1) (e_1 : d_1 + 1 ≤ dep) : ma_Eok l "PackingCensusModel" (z :: zw_t) dep (e_MO_layOut t_0 t_1) := List.forall_mem_cons.mpr ⟨Or.inr ⟨y_MO_bits, prog_7_method_2_code, 3, d_0, 1, (some .int), zw_t, h_0, zw_in m_MO_bits, e_0, by decide, List.mem_cons_of_mem _ (zw_m (w := .methodLink "PackingCensusModel" 42 y_MO_bits) (i := 540) (by decide +kernel) (by decide +kernel)), List.mem_cons_of_mem _ (zw_m (i := 39) (by decide +kernel) (by decide +kernel)), ⟨by decide, by decide, by decide +kernel⟩, Or.inl ⟨rfl, rfl, List.mem_cons_of_mem _ (zw_m (i := 541) (by decide +kernel) (by decide +kernel))⟩⟩, List.forall_mem_cons.mpr ⟨Or.inr ⟨y_MO_rename, prog_7_method_7_code, 8, d_1, 1, none, zw_t, h_1, zw_in m_MO_rename, e_1, by decide, List.mem_cons_of_mem _ (zw_m (w := .methodLink "PackingCensusModel" 58 y_MO_rename) (i := 543) (by decide +kernel) (by decide +kernel)), List.mem_cons_of_mem _ (zw_m (i := 39) (by decide +kernel) (by decide +kernel)), ⟨by decide, by decide, by decide +kernel⟩, Or.inr ⟨5, (zc_MO, zt_MO, 18), rfl, rfl, List.mem_cons_of_mem _ (zw_m (i := 545) (by decide +kernel) (by decide +kernel)), rfl, List.mem_cons_of_mem _ (zw_m (i := 15) (by decide +kernel) (by decide +kernel))⟩⟩, fun _ h => absurd h List.not_mem_nil⟩⟩
theorem z_MO_layOut {l : Launch} {dep : Nat} {T : ma_T} {t_0 t_1 : ma_T} {d_0 : Nat} (h_0 : ma_Met l y_MO_bits (w_MO_bits :: zw_t) d_0 true t_0) (e_0 : d_0 + 1 ≤ dep) {d_1 : Nat} (h_1 : ma_Met l y_MO_rename (w_MO_rename :: zw_t) d_1 false t_1) (e_1 : d_1 + 1 ≤ dep) (hT : ∀ as w post, T as w post → as.length ≤ 2)
    (hB : ∀ as w post, T as w post → ∀ Go, ma_cl k_MO_layOut zf_MO (e_MO_layOut t_0 t_1) none 0 s_MO_layOut post Go → Go 0 (as.map some ++ List.replicate (2 - as.length) none) [] w) :
    ma_Met l y_MO_layOut (w_MO_layOut :: zw_t) dep false T := ma_met (by decide) o_MO_layOut (Or.inl ⟨rfl, rfl, rfl⟩) kk_MO_layOut zf_MO_ok (ee_MO_layOut h_0 e_0 h_1 e_1) hT hB
-- PackingCensusModel.rename(I)V
def s_MO_rename : List (Nat × ma_C) := [
  (0, [(.iload_n 1, 1), (.istore_n 2, 1), (.iconst 0, 1), (.istore_n 3, 1), (.iconst 0, 1), (.istore 4, 2)]),
  (7, [(.iload 4, 2), (.aload_n 0, 1), (.getfield 38, 3), (.if_icmp .ge 95, 3), (.aload_n 0, 1), (.getfield 38, 3), (.iload 4, 2), (.isub, 1), (.istore 5, 2), (.iload_n 2, 1), (.iload 5, 2), (.irem, 1), (.istore 6, 2), (.iload_n 2, 1), (.iload 5, 2), (.idiv, 1), (.istore_n 2, 1), (.iconst 0, 1), (.istore 7, 2)]),
  (39, [(.iload 6, 2), (.ifCond .gt 13, 3), (.iload_n 3, 1), (.iload 7, 2), (.ishr, 1), (.iconst 1, 1), (.iand, 1), (.iconst 1, 1), (.if_icmp .ne 30, 3)]),
  (54, [(.iload_n 3, 1), (.iload 7, 2), (.ishr, 1), (.iconst 1, 1), (.iand, 1), (.iconst 1, 1), (.if_icmp .ne 8, 3), (.iload 6, 2), (.goto 7, 3)]),
  (69, [(.iload 6, 2), (.iconst 1, 1), (.isub, 1)]),
  (73, [(.istore 6, 2), (.iinc 7 1, 3), (.goto (-39), 3)]),
  (81, [(.iload_n 3, 1), (.iconst 1, 1), (.iload 7, 2), (.ishl, 1), (.ior, 1), (.istore_n 3, 1), (.aload_n 0, 1), (.getfield 13, 3), (.bipush 6, 2), (.iload_n 1, 1), (.imul, 1), (.iload 4, 2), (.iadd, 1), (.iload 7, 2), (.iastore, 1), (.iinc 4 1, 3), (.goto (-98), 3)]),
  (108, [(.return_, 1)])]
theorem o_MO_rename : (s_MO_rename).all (fun q => ma_dec prog_7_method_7_code q.1 q.2) = true := by decide +kernel
def k_MO_rename : List (Nat × Int32) := []
theorem kk_MO_rename {z : Cond} : ma_Kok "PackingCensusModel" (z :: zw_t) k_MO_rename := fun _ h => absurd h List.not_mem_nil
def e_MO_rename : ma_E := []
theorem ee_MO_rename {l : Launch} {dep : Nat} {z : Cond} : ma_Eok l "PackingCensusModel" (z :: zw_t) dep (e_MO_rename) := fun _ h => absurd h List.not_mem_nil
theorem z_MO_rename {l : Launch} {dep : Nat} {T : ma_T} (hT : ∀ as w post, T as w post → as.length ≤ 8)
    (hB : ∀ as w post, T as w post → ∀ Go, ma_cl k_MO_rename zf_MO (e_MO_rename) none 0 s_MO_rename post Go → Go 0 (as.map some ++ List.replicate (8 - as.length) none) [] w) :
    ma_Met l y_MO_rename (w_MO_rename :: zw_t) dep false T := ma_met (by decide) o_MO_rename (Or.inl ⟨rfl, rfl, rfl⟩) kk_MO_rename zf_MO_ok (ee_MO_rename) hT hB
-- PackingCensusModel.image(II)I
def s_MO_image : List (Nat × ma_C) := [
  (0, [(.iconst 0, 1), (.istore_n 3, 1), (.iconst 0, 1), (.istore 4, 2)]),
  (5, [(.iload 4, 2), (.aload_n 0, 1), (.getfield 38, 3), (.if_icmp .ge 40, 3), (.iload_n 1, 1), (.iload 4, 2), (.ishr, 1), (.iconst 1, 1), (.iand, 1), (.iconst 1, 1), (.if_icmp .ne 22, 3), (.iload_n 3, 1), (.iconst 1, 1), (.aload_n 0, 1), (.getfield 13, 3), (.bipush 6, 2), (.iload_n 2, 1), (.imul, 1), (.iload 4, 2), (.iadd, 1), (.iaload, 1), (.ishl, 1), (.ior, 1), (.goto 4, 3)]),
  (43, [(.iload_n 3, 1)]),
  (44, [(.istore_n 3, 1), (.iinc 4 1, 3), (.goto (-43), 3)]),
  (51, [(.iload_n 3, 1), (.ireturn, 1)])]
theorem o_MO_image : (s_MO_image).all (fun q => ma_dec prog_7_method_8_code q.1 q.2) = true := by decide +kernel
def k_MO_image : List (Nat × Int32) := []
theorem kk_MO_image {z : Cond} : ma_Kok "PackingCensusModel" (z :: zw_t) k_MO_image := fun _ h => absurd h List.not_mem_nil
def e_MO_image : ma_E := []
theorem ee_MO_image {l : Launch} {dep : Nat} {z : Cond} : ma_Eok l "PackingCensusModel" (z :: zw_t) dep (e_MO_image) := fun _ h => absurd h List.not_mem_nil
theorem z_MO_image {l : Launch} {dep : Nat} {T : ma_T} (hT : ∀ as w post, T as w post → as.length ≤ 5)
    (hB : ∀ as w post, T as w post → ∀ Go, ma_cl k_MO_image zf_MO (e_MO_image) none 1 s_MO_image post Go → Go 0 (as.map some ++ List.replicate (5 - as.length) none) [] w) :
    ma_Met l y_MO_image (w_MO_image :: zw_t) dep true T := ma_met (by decide) o_MO_image (Or.inr (Or.inl ⟨rfl, rfl, rfl⟩)) kk_MO_image zf_MO_ok (ee_MO_image) hT hB
-- PackingCensusModel.none()V
def s_MO_none : List (Nat × ma_C) := [
  (0, [(.iconst 0, 1), (.istore_n 1, 1)]),
  (2, [(.iload_n 1, 1), (.bipush 64, 2), (.if_icmp .ge 16, 3), (.aload_n 0, 1), (.getfield 25, 3), (.iload_n 1, 1), (.iconst 0, 1), (.iastore, 1), (.iinc 1 1, 3), (.goto (-16), 3)]),
  (21, [(.return_, 1)])]
theorem o_MO_none : (s_MO_none).all (fun q => ma_dec prog_7_method_9_code q.1 q.2) = true := by decide +kernel
def k_MO_none : List (Nat × Int32) := []
theorem kk_MO_none {z : Cond} : ma_Kok "PackingCensusModel" (z :: zw_t) k_MO_none := fun _ h => absurd h List.not_mem_nil
def e_MO_none : ma_E := []
theorem ee_MO_none {l : Launch} {dep : Nat} {z : Cond} : ma_Eok l "PackingCensusModel" (z :: zw_t) dep (e_MO_none) := fun _ h => absurd h List.not_mem_nil
theorem z_MO_none {l : Launch} {dep : Nat} {T : ma_T} (hT : ∀ as w post, T as w post → as.length ≤ 2)
    (hB : ∀ as w post, T as w post → ∀ Go, ma_cl k_MO_none zf_MO (e_MO_none) none 0 s_MO_none post Go → Go 0 (as.map some ++ List.replicate (2 - as.length) none) [] w) :
    ma_Met l y_MO_none (w_MO_none :: zw_t) dep false T := ma_met (by decide) o_MO_none (Or.inl ⟨rfl, rfl, rfl⟩) kk_MO_none zf_MO_ok (ee_MO_none) hT hB
-- PackingCensusModel.lookAtEntry(I)V
def s_MO_lookAtEntry : List (Nat × ma_C) := [
  (0, [(.aload_n 0, 1), (.invokevirtual 62, 3), (.iconst 0, 1), (.istore_n 2, 1)]),
  (6, [(.iload_n 2, 1), (.aload_n 0, 1), (.getfield 65, 3), (.if_icmp .ge 29, 3), (.aload_n 0, 1), (.getfield 25, 3), (.aload_n 0, 1), (.getfield 16, 3), (.bipush 10, 2), (.iload_n 1, 1), (.imul, 1), (.iload_n 2, 1), (.iadd, 1), (.iaload, 1), (.dup2, 1), (.iaload, 1), (.iconst 1, 1), (.iadd, 1), (.iastore, 1), (.iinc 2 1, 3), (.goto (-31), 3)]),
  (40, [(.return_, 1)])]
theorem o_MO_lookAtEntry : (s_MO_lookAtEntry).all (fun q => ma_dec prog_7_method_10_code q.1 q.2) = true := by decide +kernel
def k_MO_lookAtEntry : List (Nat × Int32) := []
theorem kk_MO_lookAtEntry {z : Cond} : ma_Kok "PackingCensusModel" (z :: zw_t) k_MO_lookAtEntry := fun _ h => absurd h List.not_mem_nil
def e_MO_lookAtEntry (t_0 : ma_T) : ma_E := [(62, 1, some 5, false, t_0)]
theorem ee_MO_lookAtEntry {l : Launch} {dep : Nat} {z : Cond} {t_0 : ma_T} {d_0 : Nat} (h_0 : ma_Met l y_MO_none (w_MO_none :: zw_t) d_0 false t_0) (e_0 : d_0 + 1 ≤ dep) : ma_Eok l "PackingCensusModel" (z :: zw_t) dep (e_MO_lookAtEntry t_0) := List.forall_mem_cons.mpr ⟨Or.inr ⟨y_MO_none, prog_7_method_9_code, 2, d_0, 0, none, zw_t, h_0, zw_in m_MO_none, e_0, by decide, List.mem_cons_of_mem _ (zw_m (w := .methodLink "PackingCensusModel" 62 y_MO_none) (i := 559) (by decide +kernel) (by decide +kernel)), List.mem_cons_of_mem _ (zw_m (i := 39) (by decide +kernel) (by decide +kernel)), ⟨by decide, by decide, by decide +kernel⟩, Or.inr ⟨5, (zc_MO, zt_MO, 18), rfl, rfl, List.mem_cons_of_mem _ (zw_m (i := 561) (by decide +kernel) (by decide +kernel)), rfl, List.mem_cons_of_mem _ (zw_m (i := 18) (by decide +kernel) (by decide +kernel))⟩⟩, fun _ h => absurd h List.not_mem_nil⟩
theorem z_MO_lookAtEntry {l : Launch} {dep : Nat} {T : ma_T} {t_0 : ma_T} {d_0 : Nat} (h_0 : ma_Met l y_MO_none (w_MO_none :: zw_t) d_0 false t_0) (e_0 : d_0 + 1 ≤ dep) (hT : ∀ as w post, T as w post → as.length ≤ 3)
    (hB : ∀ as w post, T as w post → ∀ Go, ma_cl k_MO_lookAtEntry zf_MO (e_MO_lookAtEntry t_0) none 0 s_MO_lookAtEntry post Go → Go 0 (as.map some ++ List.replicate (3 - as.length) none) [] w) :
    ma_Met l y_MO_lookAtEntry (w_MO_lookAtEntry :: zw_t) dep false T := ma_met (by decide) o_MO_lookAtEntry (Or.inl ⟨rfl, rfl, rfl⟩) kk_MO_lookAtEntry zf_MO_ok (ee_MO_lookAtEntry h_0 e_0) hT hB
-- PackingCensusModel.lookAtHand()V
def s_MO_lookAtHand : List (Nat × ma_C) := [
  (0, [(.aload_n 0, 1), (.invokevirtual 62, 3), (.iconst 0, 1), (.istore_n 1, 1)]),
  (6, [(.iload_n 1, 1), (.aload_n 0, 1), (.getfield 68, 3), (.if_icmp .ge 24, 3), (.aload_n 0, 1), (.getfield 25, 3), (.aload_n 0, 1), (.getfield 22, 3), (.iload_n 1, 1), (.iaload, 1), (.dup2, 1), (.iaload, 1), (.iconst 1, 1), (.iadd, 1), (.iastore, 1), (.iinc 1 1, 3), (.goto (-26), 3)]),
  (35, [(.return_, 1)])]
theorem o_MO_lookAtHand : (s_MO_lookAtHand).all (fun q => ma_dec prog_7_method_11_code q.1 q.2) = true := by decide +kernel
def k_MO_lookAtHand : List (Nat × Int32) := []
theorem kk_MO_lookAtHand {z : Cond} : ma_Kok "PackingCensusModel" (z :: zw_t) k_MO_lookAtHand := fun _ h => absurd h List.not_mem_nil
def e_MO_lookAtHand (t_0 : ma_T) : ma_E := [(62, 1, some 5, false, t_0)]
theorem ee_MO_lookAtHand {l : Launch} {dep : Nat} {z : Cond} {t_0 : ma_T} {d_0 : Nat} (h_0 : ma_Met l y_MO_none (w_MO_none :: zw_t) d_0 false t_0) (e_0 : d_0 + 1 ≤ dep) : ma_Eok l "PackingCensusModel" (z :: zw_t) dep (e_MO_lookAtHand t_0) := List.forall_mem_cons.mpr ⟨Or.inr ⟨y_MO_none, prog_7_method_9_code, 2, d_0, 0, none, zw_t, h_0, zw_in m_MO_none, e_0, by decide, List.mem_cons_of_mem _ (zw_m (w := .methodLink "PackingCensusModel" 62 y_MO_none) (i := 559) (by decide +kernel) (by decide +kernel)), List.mem_cons_of_mem _ (zw_m (i := 39) (by decide +kernel) (by decide +kernel)), ⟨by decide, by decide, by decide +kernel⟩, Or.inr ⟨5, (zc_MO, zt_MO, 18), rfl, rfl, List.mem_cons_of_mem _ (zw_m (i := 561) (by decide +kernel) (by decide +kernel)), rfl, List.mem_cons_of_mem _ (zw_m (i := 18) (by decide +kernel) (by decide +kernel))⟩⟩, fun _ h => absurd h List.not_mem_nil⟩
theorem z_MO_lookAtHand {l : Launch} {dep : Nat} {T : ma_T} {t_0 : ma_T} {d_0 : Nat} (h_0 : ma_Met l y_MO_none (w_MO_none :: zw_t) d_0 false t_0) (e_0 : d_0 + 1 ≤ dep) (hT : ∀ as w post, T as w post → as.length ≤ 2)
    (hB : ∀ as w post, T as w post → ∀ Go, ma_cl k_MO_lookAtHand zf_MO (e_MO_lookAtHand t_0) none 0 s_MO_lookAtHand post Go → Go 0 (as.map some ++ List.replicate (2 - as.length) none) [] w) :
    ma_Met l y_MO_lookAtHand (w_MO_lookAtHand :: zw_t) dep false T := ma_met (by decide) o_MO_lookAtHand (Or.inl ⟨rfl, rfl, rfl⟩) kk_MO_lookAtHand zf_MO_ok (ee_MO_lookAtHand h_0 e_0) hT hB
-- PackingCensusModel.compare(II)I
def s_MO_compare : List (Nat × ma_C) := [
  (0, [(.iconst 0, 1), (.istore_n 3, 1)]),
  (2, [(.iload_n 3, 1), (.aload_n 0, 1), (.getfield 52, 3), (.if_icmp .ge 65, 3), (.aload_n 0, 1), (.getfield 25, 3), (.aload_n 0, 1), (.aload_n 0, 1), (.getfield 7, 3), (.iload_n 3, 1), (.iaload, 1), (.iload_n 1, 1), (.invokevirtual 71, 3), (.iaload, 1), (.istore 4, 2), (.aload_n 0, 1), (.getfield 25, 3), (.aload_n 0, 1), (.aload_n 0, 1), (.getfield 7, 3), (.iload_n 3, 1), (.iaload, 1), (.iload_n 2, 1), (.invokevirtual 71, 3), (.iaload, 1), (.istore 5, 2), (.iload 4, 2), (.iload 5, 2), (.if_icmp .eq 16, 3), (.iload 4, 2), (.iload 5, 2), (.if_icmp .le 7, 3), (.iconst (-1), 1), (.goto 4, 3)]),
  (64, [(.iconst 1, 1)]),
  (65, [(.ireturn, 1)]),
  (66, [(.iinc 3 1, 3), (.goto (-67), 3)]),
  (72, [(.iconst 0, 1), (.ireturn, 1)])]
theorem o_MO_compare : (s_MO_compare).all (fun q => ma_dec prog_7_method_12_code q.1 q.2) = true := by decide +kernel
def k_MO_compare : List (Nat × Int32) := []
theorem kk_MO_compare {z : Cond} : ma_Kok "PackingCensusModel" (z :: zw_t) k_MO_compare := fun _ h => absurd h List.not_mem_nil
def e_MO_compare (t_0 : ma_T) : ma_E := [(71, 3, some 5, true, t_0)]
theorem ee_MO_compare {l : Launch} {dep : Nat} {z : Cond} {t_0 : ma_T} {d_0 : Nat} (h_0 : ma_Met l y_MO_image (w_MO_image :: zw_t) d_0 true t_0) (e_0 : d_0 + 1 ≤ dep) : ma_Eok l "PackingCensusModel" (z :: zw_t) dep (e_MO_compare t_0) := List.forall_mem_cons.mpr ⟨Or.inr ⟨y_MO_image, prog_7_method_8_code, 5, d_0, 2, (some .int), zw_t, h_0, zw_in m_MO_image, e_0, by decide, List.mem_cons_of_mem _ (zw_m (w := .methodLink "PackingCensusModel" 71 y_MO_image) (i := 579) (by decide +kernel) (by decide +kernel)), List.mem_cons_of_mem _ (zw_m (i := 39) (by decide +kernel) (by decide +kernel)), ⟨by decide, by decide, by decide +kernel⟩, Or.inr ⟨5, (zc_MO, zt_MO, 18), rfl, rfl, List.mem_cons_of_mem _ (zw_m (i := 581) (by decide +kernel) (by decide +kernel)), rfl, List.mem_cons_of_mem _ (zw_m (i := 23) (by decide +kernel) (by decide +kernel))⟩⟩, fun _ h => absurd h List.not_mem_nil⟩
theorem z_MO_compare {l : Launch} {dep : Nat} {T : ma_T} {t_0 : ma_T} {d_0 : Nat} (h_0 : ma_Met l y_MO_image (w_MO_image :: zw_t) d_0 true t_0) (e_0 : d_0 + 1 ≤ dep) (hT : ∀ as w post, T as w post → as.length ≤ 6)
    (hB : ∀ as w post, T as w post → ∀ Go, ma_cl k_MO_compare zf_MO (e_MO_compare t_0) none 1 s_MO_compare post Go → Go 0 (as.map some ++ List.replicate (6 - as.length) none) [] w) :
    ma_Met l y_MO_compare (w_MO_compare :: zw_t) dep true T := ma_met (by decide) o_MO_compare (Or.inr (Or.inl ⟨rfl, rfl, rfl⟩)) kk_MO_compare zf_MO_ok (ee_MO_compare h_0 e_0) hT hB
-- PackingCensusModel.leastOne()I
def s_MO_leastOne : List (Nat × ma_C) := [
  (0, [(.iconst 0, 1), (.istore_n 1, 1), (.iconst 1, 1), (.istore_n 2, 1)]),
  (4, [(.iload_n 2, 1), (.aload_n 0, 1), (.getfield 55, 3), (.if_icmp .ge 24, 3), (.aload_n 0, 1), (.iload_n 2, 1), (.iload_n 1, 1), (.invokevirtual 75, 3), (.ifCond .ge 7, 3), (.iload_n 2, 1), (.goto 4, 3)]),
  (25, [(.iload_n 1, 1)]),
  (26, [(.istore_n 1, 1), (.iinc 2 1, 3), (.goto (-26), 3)]),
  (33, [(.iload_n 1, 1), (.ireturn, 1)])]
theorem o_MO_leastOne : (s_MO_leastOne).all (fun q => ma_dec prog_7_method_13_code q.1 q.2) = true := by decide +kernel
def k_MO_leastOne : List (Nat × Int32) := []
theorem kk_MO_leastOne {z : Cond} : ma_Kok "PackingCensusModel" (z :: zw_t) k_MO_leastOne := fun _ h => absurd h List.not_mem_nil
def e_MO_leastOne (t_0 : ma_T) : ma_E := [(75, 3, some 5, true, t_0)]
theorem ee_MO_leastOne {l : Launch} {dep : Nat} {z : Cond} {t_0 : ma_T} {d_0 : Nat} (h_0 : ma_Met l y_MO_compare (w_MO_compare :: zw_t) d_0 true t_0) (e_0 : d_0 + 1 ≤ dep) : ma_Eok l "PackingCensusModel" (z :: zw_t) dep (e_MO_leastOne t_0) := List.forall_mem_cons.mpr ⟨Or.inr ⟨y_MO_compare, prog_7_method_12_code, 6, d_0, 2, (some .int), zw_t, h_0, zw_in m_MO_compare, e_0, by decide, List.mem_cons_of_mem _ (zw_m (w := .methodLink "PackingCensusModel" 75 y_MO_compare) (i := 575) (by decide +kernel) (by decide +kernel)), List.mem_cons_of_mem _ (zw_m (i := 39) (by decide +kernel) (by decide +kernel)), ⟨by decide, by decide, by decide +kernel⟩, Or.inr ⟨5, (zc_MO, zt_MO, 18), rfl, rfl, List.mem_cons_of_mem _ (zw_m (i := 577) (by decide +kernel) (by decide +kernel)), rfl, List.mem_cons_of_mem _ (zw_m (i := 22) (by decide +kernel) (by decide +kernel))⟩⟩, fun _ h => absurd h List.not_mem_nil⟩
theorem z_MO_leastOne {l : Launch} {dep : Nat} {T : ma_T} {t_0 : ma_T} {d_0 : Nat} (h_0 : ma_Met l y_MO_compare (w_MO_compare :: zw_t) d_0 true t_0) (e_0 : d_0 + 1 ≤ dep) (hT : ∀ as w post, T as w post → as.length ≤ 3)
    (hB : ∀ as w post, T as w post → ∀ Go, ma_cl k_MO_leastOne zf_MO (e_MO_leastOne t_0) none 1 s_MO_leastOne post Go → Go 0 (as.map some ++ List.replicate (3 - as.length) none) [] w) :
    ma_Met l y_MO_leastOne (w_MO_leastOne :: zw_t) dep true T := ma_met (by decide) o_MO_leastOne (Or.inr (Or.inl ⟨rfl, rfl, rfl⟩)) kk_MO_leastOne zf_MO_ok (ee_MO_leastOne h_0 e_0) hT hB
-- PackingCensusModel.isLeast()Z
def s_MO_isLeast : List (Nat × ma_C) := [
  (0, [(.iconst 1, 1), (.istore_n 1, 1), (.iconst 1, 1), (.istore_n 2, 1)]),
  (4, [(.iload_n 2, 1), (.aload_n 0, 1), (.getfield 55, 3), (.if_icmp .ge 28, 3), (.iload_n 1, 1), (.ifCond .eq 24, 3), (.aload_n 0, 1), (.iload_n 2, 1), (.iconst 0, 1), (.invokevirtual 75, 3), (.ifCond .lt 7, 3), (.iconst 1, 1), (.goto 4, 3)]),
  (29, [(.iconst 0, 1)]),
  (30, [(.istore_n 1, 1), (.iinc 2 1, 3), (.goto (-30), 3)]),
  (37, [(.iload_n 1, 1), (.ireturn, 1)])]
theorem o_MO_isLeast : (s_MO_isLeast).all (fun q => ma_dec prog_7_method_14_code q.1 q.2) = true := by decide +kernel
def k_MO_isLeast : List (Nat × Int32) := []
theorem kk_MO_isLeast {z : Cond} : ma_Kok "PackingCensusModel" (z :: zw_t) k_MO_isLeast := fun _ h => absurd h List.not_mem_nil
def e_MO_isLeast (t_0 : ma_T) : ma_E := [(75, 3, some 5, true, t_0)]
theorem ee_MO_isLeast {l : Launch} {dep : Nat} {z : Cond} {t_0 : ma_T} {d_0 : Nat} (h_0 : ma_Met l y_MO_compare (w_MO_compare :: zw_t) d_0 true t_0) (e_0 : d_0 + 1 ≤ dep) : ma_Eok l "PackingCensusModel" (z :: zw_t) dep (e_MO_isLeast t_0) := List.forall_mem_cons.mpr ⟨Or.inr ⟨y_MO_compare, prog_7_method_12_code, 6, d_0, 2, (some .int), zw_t, h_0, zw_in m_MO_compare, e_0, by decide, List.mem_cons_of_mem _ (zw_m (w := .methodLink "PackingCensusModel" 75 y_MO_compare) (i := 575) (by decide +kernel) (by decide +kernel)), List.mem_cons_of_mem _ (zw_m (i := 39) (by decide +kernel) (by decide +kernel)), ⟨by decide, by decide, by decide +kernel⟩, Or.inr ⟨5, (zc_MO, zt_MO, 18), rfl, rfl, List.mem_cons_of_mem _ (zw_m (i := 577) (by decide +kernel) (by decide +kernel)), rfl, List.mem_cons_of_mem _ (zw_m (i := 22) (by decide +kernel) (by decide +kernel))⟩⟩, fun _ h => absurd h List.not_mem_nil⟩
theorem z_MO_isLeast {l : Launch} {dep : Nat} {T : ma_T} {t_0 : ma_T} {d_0 : Nat} (h_0 : ma_Met l y_MO_compare (w_MO_compare :: zw_t) d_0 true t_0) (e_0 : d_0 + 1 ≤ dep) (hT : ∀ as w post, T as w post → as.length ≤ 3)
    (hB : ∀ as w post, T as w post → ∀ Go, ma_cl k_MO_isLeast zf_MO (e_MO_isLeast t_0) none 2 s_MO_isLeast post Go → Go 0 (as.map some ++ List.replicate (3 - as.length) none) [] w) :
    ma_Met l y_MO_isLeast (w_MO_isLeast :: zw_t) dep true T := ma_met (by decide) o_MO_isLeast (Or.inr (Or.inr ⟨rfl, rfl, rfl⟩)) kk_MO_isLeast zf_MO_ok (ee_MO_isLeast h_0 e_0) hT hB
-- PackingCensusModel.keepers()I
def s_MO_keepers : List (Nat × ma_C) := [
  (0, [(.iconst 0, 1), (.istore_n 1, 1), (.iconst 0, 1), (.istore_n 2, 1)]),
  (4, [(.iload_n 2, 1), (.aload_n 0, 1), (.getfield 55, 3), (.if_icmp .ge 26, 3), (.aload_n 0, 1), (.iload_n 2, 1), (.iconst 0, 1), (.invokevirtual 75, 3), (.ifCond .ne 9, 3), (.iload_n 1, 1), (.iconst 1, 1), (.iadd, 1), (.goto 4, 3)]),
  (27, [(.iload_n 1, 1)]),
  (28, [(.istore_n 1, 1), (.iinc 2 1, 3), (.goto (-28), 3)]),
  (35, [(.iload_n 1, 1), (.ireturn, 1)])]
theorem o_MO_keepers : (s_MO_keepers).all (fun q => ma_dec prog_7_method_15_code q.1 q.2) = true := by decide +kernel
def k_MO_keepers : List (Nat × Int32) := []
theorem kk_MO_keepers {z : Cond} : ma_Kok "PackingCensusModel" (z :: zw_t) k_MO_keepers := fun _ h => absurd h List.not_mem_nil
def e_MO_keepers (t_0 : ma_T) : ma_E := [(75, 3, some 5, true, t_0)]
theorem ee_MO_keepers {l : Launch} {dep : Nat} {z : Cond} {t_0 : ma_T} {d_0 : Nat} (h_0 : ma_Met l y_MO_compare (w_MO_compare :: zw_t) d_0 true t_0) (e_0 : d_0 + 1 ≤ dep) : ma_Eok l "PackingCensusModel" (z :: zw_t) dep (e_MO_keepers t_0) := List.forall_mem_cons.mpr ⟨Or.inr ⟨y_MO_compare, prog_7_method_12_code, 6, d_0, 2, (some .int), zw_t, h_0, zw_in m_MO_compare, e_0, by decide, List.mem_cons_of_mem _ (zw_m (w := .methodLink "PackingCensusModel" 75 y_MO_compare) (i := 575) (by decide +kernel) (by decide +kernel)), List.mem_cons_of_mem _ (zw_m (i := 39) (by decide +kernel) (by decide +kernel)), ⟨by decide, by decide, by decide +kernel⟩, Or.inr ⟨5, (zc_MO, zt_MO, 18), rfl, rfl, List.mem_cons_of_mem _ (zw_m (i := 577) (by decide +kernel) (by decide +kernel)), rfl, List.mem_cons_of_mem _ (zw_m (i := 22) (by decide +kernel) (by decide +kernel))⟩⟩, fun _ h => absurd h List.not_mem_nil⟩
theorem z_MO_keepers {l : Launch} {dep : Nat} {T : ma_T} {t_0 : ma_T} {d_0 : Nat} (h_0 : ma_Met l y_MO_compare (w_MO_compare :: zw_t) d_0 true t_0) (e_0 : d_0 + 1 ≤ dep) (hT : ∀ as w post, T as w post → as.length ≤ 3)
    (hB : ∀ as w post, T as w post → ∀ Go, ma_cl k_MO_keepers zf_MO (e_MO_keepers t_0) none 1 s_MO_keepers post Go → Go 0 (as.map some ++ List.replicate (3 - as.length) none) [] w) :
    ma_Met l y_MO_keepers (w_MO_keepers :: zw_t) dep true T := ma_met (by decide) o_MO_keepers (Or.inr (Or.inl ⟨rfl, rfl, rfl⟩)) kk_MO_keepers zf_MO_ok (ee_MO_keepers h_0 e_0) hT hB
-- PackingCensusModel.meet(II)I
def s_MO_meet : List (Nat × ma_C) := [
  (0, [(.iconst 0, 1), (.istore_n 3, 1), (.iconst 0, 1), (.istore 4, 2)]),
  (5, [(.iload 4, 2), (.aload_n 0, 1), (.getfield 52, 3), (.if_icmp .ge 70, 3), (.aload_n 0, 1), (.getfield 7, 3), (.iload 4, 2), (.iaload, 1), (.iload_n 1, 1), (.ishr, 1), (.iconst 1, 1), (.iand, 1), (.iconst 1, 1), (.if_icmp .ne 22, 3), (.aload_n 0, 1), (.getfield 7, 3), (.iload 4, 2), (.iaload, 1), (.iload_n 2, 1), (.ishr, 1), (.iconst 1, 1), (.iand, 1), (.iconst 1, 1), (.if_icmp .ne 7, 3), (.iconst 1, 1), (.goto 4, 3)]),
  (48, [(.iconst 0, 1)]),
  (49, [(.istore 5, 2), (.iload 5, 2), (.ifCond .eq 20, 3), (.iload_n 3, 1), (.aload_n 0, 1), (.getfield 25, 3), (.aload_n 0, 1), (.getfield 7, 3), (.iload 4, 2), (.iaload, 1), (.iaload, 1), (.iadd, 1), (.goto 4, 3)]),
  (73, [(.iload_n 3, 1)]),
  (74, [(.istore_n 3, 1), (.iinc 4 1, 3), (.goto (-73), 3)]),
  (81, [(.iload_n 3, 1), (.ireturn, 1)])]
theorem o_MO_meet : (s_MO_meet).all (fun q => ma_dec prog_7_method_16_code q.1 q.2) = true := by decide +kernel
def k_MO_meet : List (Nat × Int32) := []
theorem kk_MO_meet {z : Cond} : ma_Kok "PackingCensusModel" (z :: zw_t) k_MO_meet := fun _ h => absurd h List.not_mem_nil
def e_MO_meet : ma_E := []
theorem ee_MO_meet {l : Launch} {dep : Nat} {z : Cond} : ma_Eok l "PackingCensusModel" (z :: zw_t) dep (e_MO_meet) := fun _ h => absurd h List.not_mem_nil
theorem z_MO_meet {l : Launch} {dep : Nat} {T : ma_T} (hT : ∀ as w post, T as w post → as.length ≤ 6)
    (hB : ∀ as w post, T as w post → ∀ Go, ma_cl k_MO_meet zf_MO (e_MO_meet) none 1 s_MO_meet post Go → Go 0 (as.map some ++ List.replicate (6 - as.length) none) [] w) :
    ma_Met l y_MO_meet (w_MO_meet :: zw_t) dep true T := ma_met (by decide) o_MO_meet (Or.inr (Or.inl ⟨rfl, rfl, rfl⟩)) kk_MO_meet zf_MO_ok (ee_MO_meet) hT hB
-- PackingCensusModel.meets(II)Z
def s_MO_meets : List (Nat × ma_C) := [
  (0, [(.iconst 1, 1), (.istore_n 3, 1), (.iconst 0, 1), (.istore 4, 2)]),
  (5, [(.iload 4, 2), (.aload_n 0, 1), (.getfield 38, 3), (.if_icmp .ge 62, 3), (.iload 4, 2), (.iconst 1, 1), (.iadd, 1), (.istore 5, 2)]),
  (20, [(.iload 5, 2), (.aload_n 0, 1), (.getfield 38, 3), (.if_icmp .ge 41, 3), (.aload_n 0, 1), (.iload 4, 2), (.iload 5, 2), (.invokevirtual 78, 3), (.istore 6, 2), (.iload_n 3, 1), (.ifCond .eq 19, 3), (.iload 6, 2), (.iload_n 1, 1), (.if_icmp .lt 13, 3), (.iload 6, 2), (.iload_n 2, 1), (.if_icmp .gt 7, 3), (.iconst 1, 1), (.goto 4, 3)]),
  (59, [(.iconst 0, 1)]),
  (60, [(.istore_n 3, 1), (.iinc 5 1, 3), (.goto (-44), 3)]),
  (67, [(.iinc 4 1, 3), (.goto (-65), 3)]),
  (73, [(.iload_n 3, 1), (.ireturn, 1)])]
theorem o_MO_meets : (s_MO_meets).all (fun q => ma_dec prog_7_method_17_code q.1 q.2) = true := by decide +kernel
def k_MO_meets : List (Nat × Int32) := []
theorem kk_MO_meets {z : Cond} : ma_Kok "PackingCensusModel" (z :: zw_t) k_MO_meets := fun _ h => absurd h List.not_mem_nil
def e_MO_meets (t_0 : ma_T) : ma_E := [(78, 3, some 5, true, t_0)]
theorem ee_MO_meets {l : Launch} {dep : Nat} {z : Cond} {t_0 : ma_T} {d_0 : Nat} (h_0 : ma_Met l y_MO_meet (w_MO_meet :: zw_t) d_0 true t_0) (e_0 : d_0 + 1 ≤ dep) : ma_Eok l "PackingCensusModel" (z :: zw_t) dep (e_MO_meets t_0) := List.forall_mem_cons.mpr ⟨Or.inr ⟨y_MO_meet, prog_7_method_16_code, 6, d_0, 2, (some .int), zw_t, h_0, zw_in m_MO_meet, e_0, by decide, List.mem_cons_of_mem _ (zw_m (w := .methodLink "PackingCensusModel" 78 y_MO_meet) (i := 567) (by decide +kernel) (by decide +kernel)), List.mem_cons_of_mem _ (zw_m (i := 39) (by decide +kernel) (by decide +kernel)), ⟨by decide, by decide, by decide +kernel⟩, Or.inr ⟨5, (zc_MO, zt_MO, 18), rfl, rfl, List.mem_cons_of_mem _ (zw_m (i := 569) (by decide +kernel) (by decide +kernel)), rfl, List.mem_cons_of_mem _ (zw_m (i := 20) (by decide +kernel) (by decide +kernel))⟩⟩, fun _ h => absurd h List.not_mem_nil⟩
theorem z_MO_meets {l : Launch} {dep : Nat} {T : ma_T} {t_0 : ma_T} {d_0 : Nat} (h_0 : ma_Met l y_MO_meet (w_MO_meet :: zw_t) d_0 true t_0) (e_0 : d_0 + 1 ≤ dep) (hT : ∀ as w post, T as w post → as.length ≤ 7)
    (hB : ∀ as w post, T as w post → ∀ Go, ma_cl k_MO_meets zf_MO (e_MO_meets t_0) none 2 s_MO_meets post Go → Go 0 (as.map some ++ List.replicate (7 - as.length) none) [] w) :
    ma_Met l y_MO_meets (w_MO_meets :: zw_t) dep true T := ma_met (by decide) o_MO_meets (Or.inr (Or.inr ⟨rfl, rfl, rfl⟩)) kk_MO_meets zf_MO_ok (ee_MO_meets h_0 e_0) hT hB
-- PackingCensusModel.begin(III)I
def s_MO_begin : List (Nat × ma_C) := [
  (0, [(.iload_n 1, 1), (.iconst 3, 1), (.if_icmp .lt 31, 3), (.iload_n 1, 1), (.bipush 6, 2), (.if_icmp .gt 25, 3), (.iload_n 2, 1), (.iconst 2, 1), (.if_icmp .lt 20, 3), (.iload_n 2, 1), (.iload_n 1, 1), (.iconst 1, 1), (.isub, 1), (.if_icmp .gt 13, 3), (.iload_n 3, 1), (.iconst 1, 1), (.if_icmp .lt 8, 3), (.iload_n 3, 1), (.iconst 4, 1), (.if_icmp .le 6, 3)]),
  (33, [(.bipush (-2), 2), (.ireturn, 1)]),
  (36, [(.aload_n 0, 1), (.iconst 1, 1), (.putfield 34, 3), (.aload_n 0, 1), (.iload_n 1, 1), (.putfield 38, 3), (.aload_n 0, 1), (.iload_n 2, 1), (.putfield 46, 3), (.aload_n 0, 1), (.iload_n 3, 1), (.putfield 81, 3), (.aload_n 0, 1), (.iconst 0, 1), (.putfield 65, 3), (.aload_n 0, 1), (.iconst 1, 1), (.putfield 49, 3), (.aload_n 0, 1), (.iconst 0, 1), (.putfield 68, 3), (.aload_n 0, 1), (.invokevirtual 84, 3), (.aload_n 0, 1), (.getfield 81, 3), (.aload_n 0, 1), (.getfield 38, 3), (.iconst 1, 1), (.isub, 1), (.imul, 1), (.istore 4, 2), (.iload 4, 2), (.aload_n 0, 1), (.getfield 46, 3), (.iconst 1, 1), (.isub, 1), (.idiv, 1), (.istore 5, 2), (.iload 5, 2), (.aload_n 0, 1), (.getfield 46, 3), (.iconst 1, 1), (.isub, 1), (.imul, 1), (.iload 4, 2), (.if_icmp .ne 18, 3), (.aload_n 0, 1), (.getfield 38, 3), (.iload 5, 2), (.imul, 1), (.aload_n 0, 1), (.getfield 46, 3), (.irem, 1), (.ifCond .eq 6, 3)]),
  (128, [(.bipush (-3), 2), (.ireturn, 1)]),
  (131, [(.aload_n 0, 1), (.getfield 38, 3), (.iload 5, 2), (.imul, 1), (.aload_n 0, 1), (.getfield 46, 3), (.idiv, 1), (.aload_n 0, 1), (.getfield 38, 3), (.if_icmp .ge 8, 3), (.bipush (-4), 2), (.goto 15, 3)]),
  (155, [(.aload_n 0, 1), (.getfield 38, 3), (.iload 5, 2), (.imul, 1), (.aload_n 0, 1), (.getfield 46, 3), (.idiv, 1)]),
  (167, [(.ireturn, 1)])]
theorem o_MO_begin : (s_MO_begin).all (fun q => ma_dec prog_7_method_18_code q.1 q.2) = true := by decide +kernel
def k_MO_begin : List (Nat × Int32) := []
theorem kk_MO_begin {z : Cond} : ma_Kok "PackingCensusModel" (z :: zw_t) k_MO_begin := fun _ h => absurd h List.not_mem_nil
def e_MO_begin (t_0 : ma_T) : ma_E := [(84, 1, some 5, false, t_0)]
theorem ee_MO_begin {l : Launch} {dep : Nat} {z : Cond} {t_0 : ma_T} {d_0 : Nat} (h_0 : ma_Met l y_MO_layOut (w_MO_layOut :: zw_t) d_0 false t_0) (e_0 : d_0 + 1 ≤ dep) : ma_Eok l "PackingCensusModel" (z :: zw_t) dep (e_MO_begin t_0) := List.forall_mem_cons.mpr ⟨Or.inr ⟨y_MO_layOut, prog_7_method_6_code, 2, d_0, 0, none, zw_t, h_0, zw_in m_MO_layOut, e_0, by decide, List.mem_cons_of_mem _ (zw_m (w := .methodLink "PackingCensusModel" 84 y_MO_layOut) (i := 536) (by decide +kernel) (by decide +kernel)), List.mem_cons_of_mem _ (zw_m (i := 39) (by decide +kernel) (by decide +kernel)), ⟨by decide, by decide, by decide +kernel⟩, Or.inr ⟨5, (zc_MO, zt_MO, 18), rfl, rfl, List.mem_cons_of_mem _ (zw_m (i := 538) (by decide +kernel) (by decide +kernel)), rfl, List.mem_cons_of_mem _ (zw_m (i := 14) (by decide +kernel) (by decide +kernel))⟩⟩, fun _ h => absurd h List.not_mem_nil⟩
theorem z_MO_begin {l : Launch} {dep : Nat} {T : ma_T} {t_0 : ma_T} {d_0 : Nat} (h_0 : ma_Met l y_MO_layOut (w_MO_layOut :: zw_t) d_0 false t_0) (e_0 : d_0 + 1 ≤ dep) (hT : ∀ as w post, T as w post → as.length ≤ 6)
    (hB : ∀ as w post, T as w post → ∀ Go, ma_cl k_MO_begin zf_MO (e_MO_begin t_0) none 1 s_MO_begin post Go → Go 0 (as.map some ++ List.replicate (6 - as.length) none) [] w) :
    ma_Met l y_MO_begin (w_MO_begin :: zw_t) dep true T := ma_met (by decide) o_MO_begin (Or.inr (Or.inl ⟨rfl, rfl, rfl⟩)) kk_MO_begin zf_MO_ok (ee_MO_begin h_0 e_0) hT hB
end
section
-- PackingCensusModel.extend(II)Z
def s_MO_extend : List (Nat × ma_C) := [
  (0, [(.aload_n 0, 1), (.iload_n 1, 1), (.invokevirtual 87, 3), (.aload_n 0, 1), (.getfield 25, 3), (.iload_n 2, 1), (.dup2, 1), (.iaload, 1), (.iconst 1, 1), (.iadd, 1), (.iastore, 1), (.aload_n 0, 1), (.iconst 0, 1), (.aload_n 0, 1), (.getfield 81, 3), (.invokevirtual 90, 3), (.ifCond .eq 10, 3), (.aload_n 0, 1), (.invokevirtual 94, 3), (.ifCond .ne 5, 3)]),
  (34, [(.iconst 1, 1), (.ireturn, 1)]),
  (36, [(.aload_n 0, 1), (.getfield 98, 3), (.bipush 60, 2), (.if_icmp .ne 5, 3), (.iconst 0, 1), (.ireturn, 1)]),
  (47, [(.iconst 0, 1), (.istore_n 3, 1)]),
  (49, [(.iload_n 3, 1), (.aload_n 0, 1), (.getfield 65, 3), (.if_icmp .ge 34, 3), (.aload_n 0, 1), (.getfield 19, 3), (.bipush 10, 2), (.aload_n 0, 1), (.getfield 98, 3), (.imul, 1), (.iload_n 3, 1), (.iadd, 1), (.aload_n 0, 1), (.getfield 16, 3), (.bipush 10, 2), (.iload_n 1, 1), (.imul, 1), (.iload_n 3, 1), (.iadd, 1), (.iaload, 1), (.iastore, 1), (.iinc 3 1, 3), (.goto (-36), 3)]),
  (88, [(.aload_n 0, 1), (.getfield 19, 3), (.bipush 10, 2), (.aload_n 0, 1), (.getfield 98, 3), (.imul, 1), (.aload_n 0, 1), (.getfield 65, 3), (.iadd, 1), (.iload_n 2, 1), (.iastore, 1), (.aload_n 0, 1), (.dup, 1), (.getfield 98, 3), (.iconst 1, 1), (.iadd, 1), (.putfield 98, 3), (.iconst 1, 1), (.ireturn, 1)])]
theorem o_MO_extend : (s_MO_extend).all (fun q => ma_dec prog_7_method_19_code q.1 q.2) = true := by decide +kernel
def k_MO_extend : List (Nat × Int32) := []
theorem kk_MO_extend {z : Cond} : ma_Kok "PackingCensusModel" (z :: zw_t) k_MO_extend := fun _ h => absurd h List.not_mem_nil
def e_MO_extend (t_0 t_1 t_2 : ma_T) : ma_E := [(87, 2, some 5, false, t_0), (90, 3, some 5, true, t_1), (94, 1, some 5, true, t_2)]
theorem ee_MO_extend {l : Launch} {dep : Nat} {z : Cond} {t_0 t_1 t_2 : ma_T} {d_0 : Nat} (h_0 : ma_Met l y_MO_lookAtEntry (w_MO_lookAtEntry :: zw_t) d_0 false t_0) (e_0 : d_0 + 1 ≤ dep) {d_1 : Nat} (h_1 : ma_Met l y_MO_meets (w_MO_meets :: zw_t) d_1 true t_1) (e_1 : d_1 + 1 ≤ dep) {d_2 : Nat} (h_2 : ma_Met l y_MO_isLeast (w_MO_isLeast :: zw_t) d_2 true t_2) (e_2 : d_2 + 1 ≤ dep) : ma_Eok l "PackingCensusModel" (z :: zw_t) dep (e_MO_extend t_0 t_1 t_2) := List.forall_mem_cons.mpr ⟨Or.inr ⟨y_MO_lookAtEntry, prog_7_method_10_code, 3, d_0, 1, none, zw_t, h_0, zw_in m_MO_lookAtEntry, e_0, by decide, List.mem_cons_of_mem _ (zw_m (w := .methodLink "PackingCensusModel" 87 y_MO_lookAtEntry) (i := 555) (by decide +kernel) (by decide +kernel)), List.mem_cons_of_mem _ (zw_m (i := 39) (by decide +kernel) (by decide +kernel)), ⟨by decide, by decide, by decide +kernel⟩, Or.inr ⟨5, (zc_MO, zt_MO, 18), rfl, rfl, List.mem_cons_of_mem _ (zw_m (i := 557) (by decide +kernel) (by decide +kernel)), rfl, List.mem_cons_of_mem _ (zw_m (i := 17) (by decide +kernel) (by decide +kernel))⟩⟩, List.forall_mem_cons.mpr ⟨Or.inr ⟨y_MO_meets, prog_7_method_17_code, 7, d_1, 2, (some .boolean), zw_t, h_1, zw_in m_MO_meets, e_1, by decide, List.mem_cons_of_mem _ (zw_m (w := .methodLink "PackingCensusModel" 90 y_MO_meets) (i := 563) (by decide +kernel) (by decide +kernel)), List.mem_cons_of_mem _ (zw_m (i := 39) (by decide +kernel) (by decide +kernel)), ⟨by decide, by decide, by decide +kernel⟩, Or.inr ⟨5, (zc_MO, zt_MO, 18), rfl, rfl, List.mem_cons_of_mem _ (zw_m (i := 565) (by decide +kernel) (by decide +kernel)), rfl, List.mem_cons_of_mem _ (zw_m (i := 19) (by decide +kernel) (by decide +kernel))⟩⟩, List.forall_mem_cons.mpr ⟨Or.inr ⟨y_MO_isLeast, prog_7_method_14_code, 3, d_2, 0, (some .boolean), zw_t, h_2, zw_in m_MO_isLeast, e_2, by decide, List.mem_cons_of_mem _ (zw_m (w := .methodLink "PackingCensusModel" 94 y_MO_isLeast) (i := 571) (by decide +kernel) (by decide +kernel)), List.mem_cons_of_mem _ (zw_m (i := 39) (by decide +kernel) (by decide +kernel)), ⟨by decide, by decide, by decide +kernel⟩, Or.inr ⟨5, (zc_MO, zt_MO, 18), rfl, rfl, List.mem_cons_of_mem _ (zw_m (i := 573) (by decide +kernel) (by decide +kernel)), rfl, List.mem_cons_of_mem _ (zw_m (i := 21) (by decide +kernel) (by decide +kernel))⟩⟩, fun _ h => absurd h List.not_mem_nil⟩⟩⟩
theorem z_MO_extend {l : Launch} {dep : Nat} {T : ma_T} {t_0 t_1 t_2 : ma_T} {d_0 : Nat} (h_0 : ma_Met l y_MO_lookAtEntry (w_MO_lookAtEntry :: zw_t) d_0 false t_0) (e_0 : d_0 + 1 ≤ dep) {d_1 : Nat} (h_1 : ma_Met l y_MO_meets (w_MO_meets :: zw_t) d_1 true t_1) (e_1 : d_1 + 1 ≤ dep) {d_2 : Nat} (h_2 : ma_Met l y_MO_isLeast (w_MO_isLeast :: zw_t) d_2 true t_2) (e_2 : d_2 + 1 ≤ dep) (hT : ∀ as w post, T as w post → as.length ≤ 4)
    (hB : ∀ as w post, T as w post → ∀ Go, ma_cl k_MO_extend zf_MO (e_MO_extend t_0 t_1 t_2) none 2 s_MO_extend post Go → Go 0 (as.map some ++ List.replicate (4 - as.length) none) [] w) :
    ma_Met l y_MO_extend (w_MO_extend :: zw_t) dep true T := ma_met (by decide) o_MO_extend (Or.inr (Or.inr ⟨rfl, rfl, rfl⟩)) kk_MO_extend zf_MO_ok (ee_MO_extend h_0 e_0 h_1 e_1 h_2 e_2) hT hB
-- PackingCensusModel.grow()I
def s_MO_grow : List (Nat × ma_C) := [
  (0, [(.aload_n 0, 1), (.getfield 34, 3), (.ifCond .ne 5, 3), (.iconst (-1), 1), (.ireturn, 1)]),
  (9, [(.aload_n 0, 1), (.getfield 65, 3), (.bipush 10, 2), (.if_icmp .ne 6, 3), (.bipush (-5), 2), (.ireturn, 1)]),
  (21, [(.aload_n 0, 1), (.iconst 0, 1), (.putfield 98, 3), (.iconst 0, 1), (.istore_n 1, 1)]),
  (28, [(.iload_n 1, 1), (.aload_n 0, 1), (.getfield 49, 3), (.if_icmp .ge 80, 3), (.aload_n 0, 1), (.getfield 65, 3), (.ifCond .ne 7, 3), (.iconst 0, 1), (.goto 19, 3)]),
  (47, [(.aload_n 0, 1), (.getfield 16, 3), (.bipush 10, 2), (.iload_n 1, 1), (.imul, 1), (.aload_n 0, 1), (.getfield 65, 3), (.iadd, 1), (.iconst 1, 1), (.isub, 1), (.iaload, 1)]),
  (63, [(.istore_n 2, 1), (.iconst 0, 1), (.istore_n 3, 1)]),
  (66, [(.iload_n 3, 1), (.aload_n 0, 1), (.getfield 52, 3), (.if_icmp .ge 36, 3), (.aload_n 0, 1), (.getfield 7, 3), (.iload_n 3, 1), (.iaload, 1), (.iload_n 2, 1), (.if_icmp .lt 20, 3), (.aload_n 0, 1), (.iload_n 1, 1), (.aload_n 0, 1), (.getfield 7, 3), (.iload_n 3, 1), (.iaload, 1), (.invokevirtual 101, 3), (.ifCond .ne 6, 3), (.bipush (-5), 2), (.ireturn, 1)]),
  (101, [(.iinc 3 1, 3), (.goto (-38), 3)]),
  (107, [(.iinc 1 1, 3), (.goto (-82), 3)]),
  (113, [(.iconst 0, 1), (.istore_n 1, 1)]),
  (115, [(.iload_n 1, 1), (.bipush 10, 2), (.aload_n 0, 1), (.getfield 98, 3), (.imul, 1), (.if_icmp .ge 21, 3), (.aload_n 0, 1), (.getfield 16, 3), (.iload_n 1, 1), (.aload_n 0, 1), (.getfield 19, 3), (.iload_n 1, 1), (.iaload, 1), (.iastore, 1), (.iinc 1 1, 3), (.goto (-26), 3)]),
  (144, [(.aload_n 0, 1), (.aload_n 0, 1), (.getfield 98, 3), (.putfield 49, 3), (.aload_n 0, 1), (.dup, 1), (.getfield 65, 3), (.iconst 1, 1), (.iadd, 1), (.putfield 65, 3), (.aload_n 0, 1), (.getfield 49, 3), (.ireturn, 1)])]
theorem o_MO_grow : (s_MO_grow).all (fun q => ma_dec prog_7_method_20_code q.1 q.2) = true := by decide +kernel
def k_MO_grow : List (Nat × Int32) := []
theorem kk_MO_grow {z : Cond} : ma_Kok "PackingCensusModel" (z :: zw_t) k_MO_grow := fun _ h => absurd h List.not_mem_nil
def e_MO_grow (t_0 : ma_T) : ma_E := [(101, 3, some 5, true, t_0)]
theorem ee_MO_grow {l : Launch} {dep : Nat} {z : Cond} {t_0 : ma_T} {d_0 : Nat} (h_0 : ma_Met l y_MO_extend (w_MO_extend :: zw_t) d_0 true t_0) (e_0 : d_0 + 1 ≤ dep) : ma_Eok l "PackingCensusModel" (z :: zw_t) dep (e_MO_grow t_0) := List.forall_mem_cons.mpr ⟨Or.inr ⟨y_MO_extend, prog_7_method_19_code, 4, d_0, 2, (some .boolean), zw_t, h_0, zw_in m_MO_extend, e_0, by decide, List.mem_cons_of_mem _ (zw_m (w := .methodLink "PackingCensusModel" 101 y_MO_extend) (i := 551) (by decide +kernel) (by decide +kernel)), List.mem_cons_of_mem _ (zw_m (i := 39) (by decide +kernel) (by decide +kernel)), ⟨by decide, by decide, by decide +kernel⟩, Or.inr ⟨5, (zc_MO, zt_MO, 18), rfl, rfl, List.mem_cons_of_mem _ (zw_m (i := 553) (by decide +kernel) (by decide +kernel)), rfl, List.mem_cons_of_mem _ (zw_m (i := 16) (by decide +kernel) (by decide +kernel))⟩⟩, fun _ h => absurd h List.not_mem_nil⟩
theorem z_MO_grow {l : Launch} {dep : Nat} {T : ma_T} {t_0 : ma_T} {d_0 : Nat} (h_0 : ma_Met l y_MO_extend (w_MO_extend :: zw_t) d_0 true t_0) (e_0 : d_0 + 1 ≤ dep) (hT : ∀ as w post, T as w post → as.length ≤ 4)
    (hB : ∀ as w post, T as w post → ∀ Go, ma_cl k_MO_grow zf_MO (e_MO_grow t_0) none 1 s_MO_grow post Go → Go 0 (as.map some ++ List.replicate (4 - as.length) none) [] w) :
    ma_Met l y_MO_grow (w_MO_grow :: zw_t) dep true T := ma_met (by decide) o_MO_grow (Or.inr (Or.inl ⟨rfl, rfl, rfl⟩)) kk_MO_grow zf_MO_ok (ee_MO_grow h_0 e_0) hT hB
-- PackingCensusModel.level()I
def s_MO_level : List (Nat × ma_C) := [
  (0, [(.aload_n 0, 1), (.getfield 34, 3), (.ifCond .eq 10, 3), (.aload_n 0, 1), (.getfield 65, 3), (.goto 4, 3)]),
  (14, [(.iconst (-1), 1)]),
  (15, [(.ireturn, 1)])]
theorem o_MO_level : (s_MO_level).all (fun q => ma_dec prog_7_method_21_code q.1 q.2) = true := by decide +kernel
def k_MO_level : List (Nat × Int32) := []
theorem kk_MO_level {z : Cond} : ma_Kok "PackingCensusModel" (z :: zw_t) k_MO_level := fun _ h => absurd h List.not_mem_nil
def e_MO_level : ma_E := []
theorem ee_MO_level {l : Launch} {dep : Nat} {z : Cond} : ma_Eok l "PackingCensusModel" (z :: zw_t) dep (e_MO_level) := fun _ h => absurd h List.not_mem_nil
theorem z_MO_level {l : Launch} {dep : Nat} {T : ma_T} (hT : ∀ as w post, T as w post → as.length ≤ 1)
    (hB : ∀ as w post, T as w post → ∀ Go, ma_cl k_MO_level zf_MO (e_MO_level) none 1 s_MO_level post Go → Go 0 (as.map some ++ List.replicate (1 - as.length) none) [] w) :
    ma_Met l y_MO_level (w_MO_level :: zw_t) dep true T := ma_met (by decide) o_MO_level (Or.inr (Or.inl ⟨rfl, rfl, rfl⟩)) kk_MO_level zf_MO_ok (ee_MO_level) hT hB
-- PackingCensusModel.entries()I
def s_MO_entries : List (Nat × ma_C) := [
  (0, [(.aload_n 0, 1), (.getfield 49, 3), (.ireturn, 1)])]
theorem o_MO_entries : (s_MO_entries).all (fun q => ma_dec prog_7_method_22_code q.1 q.2) = true := by decide +kernel
def k_MO_entries : List (Nat × Int32) := []
theorem kk_MO_entries {z : Cond} : ma_Kok "PackingCensusModel" (z :: zw_t) k_MO_entries := fun _ h => absurd h List.not_mem_nil
def e_MO_entries : ma_E := []
theorem ee_MO_entries {l : Launch} {dep : Nat} {z : Cond} : ma_Eok l "PackingCensusModel" (z :: zw_t) dep (e_MO_entries) := fun _ h => absurd h List.not_mem_nil
theorem z_MO_entries {l : Launch} {dep : Nat} {T : ma_T} (hT : ∀ as w post, T as w post → as.length ≤ 1)
    (hB : ∀ as w post, T as w post → ∀ Go, ma_cl k_MO_entries zf_MO (e_MO_entries) none 1 s_MO_entries post Go → Go 0 (as.map some ++ List.replicate (1 - as.length) none) [] w) :
    ma_Met l y_MO_entries (w_MO_entries :: zw_t) dep true T := ma_met (by decide) o_MO_entries (Or.inr (Or.inl ⟨rfl, rfl, rfl⟩)) kk_MO_entries zf_MO_ok (ee_MO_entries) hT hB
-- PackingCensusModel.block(II)I
def s_MO_block : List (Nat × ma_C) := [
  (0, [(.aload_n 0, 1), (.iload_n 1, 1), (.invokevirtual 104, 3), (.ifCond .eq 29, 3), (.iload_n 2, 1), (.ifCond .lt 25, 3), (.iload_n 2, 1), (.aload_n 0, 1), (.getfield 65, 3), (.if_icmp .ge 17, 3), (.aload_n 0, 1), (.getfield 16, 3), (.bipush 10, 2), (.iload_n 1, 1), (.imul, 1), (.iload_n 2, 1), (.iadd, 1), (.iaload, 1), (.goto 4, 3)]),
  (34, [(.iconst (-1), 1)]),
  (35, [(.ireturn, 1)])]
theorem o_MO_block : (s_MO_block).all (fun q => ma_dec prog_7_method_23_code q.1 q.2) = true := by decide +kernel
def k_MO_block : List (Nat × Int32) := []
theorem kk_MO_block {z : Cond} : ma_Kok "PackingCensusModel" (z :: zw_t) k_MO_block := fun _ h => absurd h List.not_mem_nil
def e_MO_block (t_0 : ma_T) : ma_E := [(104, 2, some 5, true, t_0)]
theorem ee_MO_block {l : Launch} {dep : Nat} {z : Cond} {t_0 : ma_T} {d_0 : Nat} (h_0 : ma_Met l y_MO_isEntry (w_MO_isEntry :: zw_t) d_0 true t_0) (e_0 : d_0 + 1 ≤ dep) : ma_Eok l "PackingCensusModel" (z :: zw_t) dep (e_MO_block t_0) := List.forall_mem_cons.mpr ⟨Or.inr ⟨y_MO_isEntry, prog_7_method_5_code, 2, d_0, 1, (some .boolean), zw_t, h_0, zw_in m_MO_isEntry, e_0, by decide, List.mem_cons_of_mem _ (zw_m (w := .methodLink "PackingCensusModel" 104 y_MO_isEntry) (i := 595) (by decide +kernel) (by decide +kernel)), List.mem_cons_of_mem _ (zw_m (i := 39) (by decide +kernel) (by decide +kernel)), ⟨by decide, by decide, by decide +kernel⟩, Or.inr ⟨5, (zc_MO, zt_MO, 18), rfl, rfl, List.mem_cons_of_mem _ (zw_m (i := 597) (by decide +kernel) (by decide +kernel)), rfl, List.mem_cons_of_mem _ (zw_m (i := 24) (by decide +kernel) (by decide +kernel))⟩⟩, fun _ h => absurd h List.not_mem_nil⟩
theorem z_MO_block {l : Launch} {dep : Nat} {T : ma_T} {t_0 : ma_T} {d_0 : Nat} (h_0 : ma_Met l y_MO_isEntry (w_MO_isEntry :: zw_t) d_0 true t_0) (e_0 : d_0 + 1 ≤ dep) (hT : ∀ as w post, T as w post → as.length ≤ 3)
    (hB : ∀ as w post, T as w post → ∀ Go, ma_cl k_MO_block zf_MO (e_MO_block t_0) none 1 s_MO_block post Go → Go 0 (as.map some ++ List.replicate (3 - as.length) none) [] w) :
    ma_Met l y_MO_block (w_MO_block :: zw_t) dep true T := ma_met (by decide) o_MO_block (Or.inr (Or.inl ⟨rfl, rfl, rfl⟩)) kk_MO_block zf_MO_ok (ee_MO_block h_0 e_0) hT hB
-- PackingCensusModel.order(I)I
def s_MO_order : List (Nat × ma_C) := [
  (0, [(.aload_n 0, 1), (.iload_n 1, 1), (.invokevirtual 104, 3), (.ifCond .ne 5, 3), (.iconst (-1), 1), (.ireturn, 1)]),
  (10, [(.aload_n 0, 1), (.iload_n 1, 1), (.invokevirtual 87, 3), (.aload_n 0, 1), (.invokevirtual 108, 3), (.ireturn, 1)])]
theorem o_MO_order : (s_MO_order).all (fun q => ma_dec prog_7_method_24_code q.1 q.2) = true := by decide +kernel
def k_MO_order : List (Nat × Int32) := []
theorem kk_MO_order {z : Cond} : ma_Kok "PackingCensusModel" (z :: zw_t) k_MO_order := fun _ h => absurd h List.not_mem_nil
def e_MO_order (t_0 t_1 t_2 : ma_T) : ma_E := [(104, 2, some 5, true, t_0), (87, 2, some 5, false, t_1), (108, 1, some 5, true, t_2)]
theorem ee_MO_order {l : Launch} {dep : Nat} {z : Cond} {t_0 t_1 t_2 : ma_T} {d_0 : Nat} (h_0 : ma_Met l y_MO_isEntry (w_MO_isEntry :: zw_t) d_0 true t_0) (e_0 : d_0 + 1 ≤ dep) {d_1 : Nat} (h_1 : ma_Met l y_MO_lookAtEntry (w_MO_lookAtEntry :: zw_t) d_1 false t_1) (e_1 : d_1 + 1 ≤ dep) {d_2 : Nat} (h_2 : ma_Met l y_MO_keepers (w_MO_keepers :: zw_t) d_2 true t_2) (e_2 : d_2 + 1 ≤ dep) : ma_Eok l "PackingCensusModel" (z :: zw_t) dep (e_MO_order t_0 t_1 t_2) := List.forall_mem_cons.mpr ⟨Or.inr ⟨y_MO_isEntry, prog_7_method_5_code, 2, d_0, 1, (some .boolean), zw_t, h_0, zw_in m_MO_isEntry, e_0, by decide, List.mem_cons_of_mem _ (zw_m (w := .methodLink "PackingCensusModel" 104 y_MO_isEntry) (i := 595) (by decide +kernel) (by decide +kernel)), List.mem_cons_of_mem _ (zw_m (i := 39) (by decide +kernel) (by decide +kernel)), ⟨by decide, by decide, by decide +kernel⟩, Or.inr ⟨5, (zc_MO, zt_MO, 18), rfl, rfl, List.mem_cons_of_mem _ (zw_m (i := 597) (by decide +kernel) (by decide +kernel)), rfl, List.mem_cons_of_mem _ (zw_m (i := 24) (by decide +kernel) (by decide +kernel))⟩⟩, List.forall_mem_cons.mpr ⟨Or.inr ⟨y_MO_lookAtEntry, prog_7_method_10_code, 3, d_1, 1, none, zw_t, h_1, zw_in m_MO_lookAtEntry, e_1, by decide, List.mem_cons_of_mem _ (zw_m (w := .methodLink "PackingCensusModel" 87 y_MO_lookAtEntry) (i := 555) (by decide +kernel) (by decide +kernel)), List.mem_cons_of_mem _ (zw_m (i := 39) (by decide +kernel) (by decide +kernel)), ⟨by decide, by decide, by decide +kernel⟩, Or.inr ⟨5, (zc_MO, zt_MO, 18), rfl, rfl, List.mem_cons_of_mem _ (zw_m (i := 557) (by decide +kernel) (by decide +kernel)), rfl, List.mem_cons_of_mem _ (zw_m (i := 17) (by decide +kernel) (by decide +kernel))⟩⟩, List.forall_mem_cons.mpr ⟨Or.inr ⟨y_MO_keepers, prog_7_method_15_code, 3, d_2, 0, (some .int), zw_t, h_2, zw_in m_MO_keepers, e_2, by decide, List.mem_cons_of_mem _ (zw_m (w := .methodLink "PackingCensusModel" 108 y_MO_keepers) (i := 603) (by decide +kernel) (by decide +kernel)), List.mem_cons_of_mem _ (zw_m (i := 39) (by decide +kernel) (by decide +kernel)), ⟨by decide, by decide, by decide +kernel⟩, Or.inr ⟨5, (zc_MO, zt_MO, 18), rfl, rfl, List.mem_cons_of_mem _ (zw_m (i := 605) (by decide +kernel) (by decide +kernel)), rfl, List.mem_cons_of_mem _ (zw_m (i := 25) (by decide +kernel) (by decide +kernel))⟩⟩, fun _ h => absurd h List.not_mem_nil⟩⟩⟩
theorem z_MO_order {l : Launch} {dep : Nat} {T : ma_T} {t_0 t_1 t_2 : ma_T} {d_0 : Nat} (h_0 : ma_Met l y_MO_isEntry (w_MO_isEntry :: zw_t) d_0 true t_0) (e_0 : d_0 + 1 ≤ dep) {d_1 : Nat} (h_1 : ma_Met l y_MO_lookAtEntry (w_MO_lookAtEntry :: zw_t) d_1 false t_1) (e_1 : d_1 + 1 ≤ dep) {d_2 : Nat} (h_2 : ma_Met l y_MO_keepers (w_MO_keepers :: zw_t) d_2 true t_2) (e_2 : d_2 + 1 ≤ dep) (hT : ∀ as w post, T as w post → as.length ≤ 2)
    (hB : ∀ as w post, T as w post → ∀ Go, ma_cl k_MO_order zf_MO (e_MO_order t_0 t_1 t_2) none 1 s_MO_order post Go → Go 0 (as.map some ++ List.replicate (2 - as.length) none) [] w) :
    ma_Met l y_MO_order (w_MO_order :: zw_t) dep true T := ma_met (by decide) o_MO_order (Or.inr (Or.inl ⟨rfl, rfl, rfl⟩)) kk_MO_order zf_MO_ok (ee_MO_order h_0 e_0 h_1 e_1 h_2 e_2) hT hB
-- PackingCensusModel.pair(II)V
def s_MO_pair : List (Nat × ma_C) := [
  (0, [(.iconst 0, 1), (.istore_n 3, 1)]),
  (2, [(.iload_n 3, 1), (.aload_n 0, 1), (.getfield 38, 3), (.if_icmp .ge 80, 3), (.iload_n 3, 1), (.iconst 1, 1), (.iadd, 1), (.istore 4, 2)]),
  (15, [(.iload 4, 2), (.aload_n 0, 1), (.getfield 38, 3), (.if_icmp .ge 60, 3), (.iload_n 1, 1), (.iload_n 3, 1), (.ishr, 1), (.iconst 1, 1), (.iand, 1), (.iconst 1, 1), (.if_icmp .ne 17, 3), (.iload_n 1, 1), (.iload 4, 2), (.ishr, 1), (.iconst 1, 1), (.iand, 1), (.iconst 1, 1), (.if_icmp .ne 7, 3), (.iconst 1, 1), (.goto 4, 3)]),
  (47, [(.iconst 0, 1)]),
  (48, [(.istore 5, 2), (.aload_n 0, 1), (.getfield 28, 3), (.bipush 6, 2), (.iload_n 3, 1), (.imul, 1), (.iload 4, 2), (.iadd, 1), (.dup2, 1), (.iaload, 1), (.iload 5, 2), (.ifCond .eq 7, 3), (.iload_n 2, 1), (.goto 4, 3)]),
  (72, [(.iconst 0, 1)]),
  (73, [(.iadd, 1), (.iastore, 1), (.iinc 4 1, 3), (.goto (-63), 3)]),
  (81, [(.iinc 3 1, 3), (.goto (-82), 3)]),
  (87, [(.return_, 1)])]
theorem o_MO_pair : (s_MO_pair).all (fun q => ma_dec prog_7_method_25_code q.1 q.2) = true := by decide +kernel
def k_MO_pair : List (Nat × Int32) := []
theorem kk_MO_pair {z : Cond} : ma_Kok "PackingCensusModel" (z :: zw_t) k_MO_pair := fun _ h => absurd h List.not_mem_nil
def e_MO_pair : ma_E := []
theorem ee_MO_pair {l : Launch} {dep : Nat} {z : Cond} : ma_Eok l "PackingCensusModel" (z :: zw_t) dep (e_MO_pair) := fun _ h => absurd h List.not_mem_nil
theorem z_MO_pair {l : Launch} {dep : Nat} {T : ma_T} (hT : ∀ as w post, T as w post → as.length ≤ 6)
    (hB : ∀ as w post, T as w post → ∀ Go, ma_cl k_MO_pair zf_MO (e_MO_pair) none 0 s_MO_pair post Go → Go 0 (as.map some ++ List.replicate (6 - as.length) none) [] w) :
    ma_Met l y_MO_pair (w_MO_pair :: zw_t) dep false T := ma_met (by decide) o_MO_pair (Or.inl ⟨rfl, rfl, rfl⟩) kk_MO_pair zf_MO_ok (ee_MO_pair) hT hB
-- PackingCensusModel.tooOften()Z
def s_MO_tooOften : List (Nat × ma_C) := [
  (0, [(.iconst 0, 1), (.istore_n 1, 1), (.iconst 0, 1), (.istore_n 2, 1)]),
  (4, [(.iload_n 2, 1), (.bipush 36, 2), (.if_icmp .ge 32, 3), (.iload_n 1, 1), (.ifCond .ne 16, 3), (.aload_n 0, 1), (.getfield 28, 3), (.iload_n 2, 1), (.iaload, 1), (.aload_n 0, 1), (.getfield 81, 3), (.if_icmp .le 7, 3)]),
  (27, [(.iconst 1, 1), (.goto 4, 3)]),
  (31, [(.iconst 0, 1)]),
  (32, [(.istore_n 1, 1), (.iinc 2 1, 3), (.goto (-32), 3)]),
  (39, [(.iload_n 1, 1), (.ireturn, 1)])]
theorem o_MO_tooOften : (s_MO_tooOften).all (fun q => ma_dec prog_7_method_26_code q.1 q.2) = true := by decide +kernel
def k_MO_tooOften : List (Nat × Int32) := []
theorem kk_MO_tooOften {z : Cond} : ma_Kok "PackingCensusModel" (z :: zw_t) k_MO_tooOften := fun _ h => absurd h List.not_mem_nil
def e_MO_tooOften : ma_E := []
theorem ee_MO_tooOften {l : Launch} {dep : Nat} {z : Cond} : ma_Eok l "PackingCensusModel" (z :: zw_t) dep (e_MO_tooOften) := fun _ h => absurd h List.not_mem_nil
theorem z_MO_tooOften {l : Launch} {dep : Nat} {T : ma_T} (hT : ∀ as w post, T as w post → as.length ≤ 3)
    (hB : ∀ as w post, T as w post → ∀ Go, ma_cl k_MO_tooOften zf_MO (e_MO_tooOften) none 2 s_MO_tooOften post Go → Go 0 (as.map some ++ List.replicate (3 - as.length) none) [] w) :
    ma_Met l y_MO_tooOften (w_MO_tooOften :: zw_t) dep true T := ma_met (by decide) o_MO_tooOften (Or.inr (Or.inr ⟨rfl, rfl, rfl⟩)) kk_MO_tooOften zf_MO_ok (ee_MO_tooOften) hT hB
-- PackingCensusModel.labelled()I
def s_MO_labelled : List (Nat × ma_C) := [
  (0, [(.aload_n 0, 1), (.getfield 34, 3), (.ifCond .eq 10, 3), (.aload_n 0, 1), (.getfield 65, 3), (.ifCond .ne 16, 3)]),
  (14, [(.aload_n 0, 1), (.getfield 34, 3), (.ifCond .eq 7, 3), (.iconst 1, 1), (.goto 4, 3)]),
  (25, [(.iconst 0, 1)]),
  (26, [(.ireturn, 1)]),
  (27, [(.iconst 0, 1), (.istore_n 1, 1)]),
  (29, [(.iload_n 1, 1), (.bipush 36, 2), (.if_icmp .ge 16, 3), (.aload_n 0, 1), (.getfield 28, 3), (.iload_n 1, 1), (.iconst 0, 1), (.iastore, 1), (.iinc 1 1, 3), (.goto (-16), 3)]),
  (48, [(.iconst 0, 1), (.istore_n 1, 1), (.iconst 0, 1), (.istore_n 2, 1), (.aload_n 0, 1), (.getfield 31, 3), (.iconst 0, 1), (.iconst 0, 1), (.iastore, 1), (.iconst 0, 1), (.istore_n 3, 1)]),
  (61, [(.iload_n 3, 1), (.ldc 112, 2), (.if_icmp .ge 176, 3), (.iload_n 2, 1), (.ifCond .lt 172, 3), (.aload_n 0, 1), (.getfield 31, 3), (.iload_n 2, 1), (.iaload, 1), (.aload_n 0, 1), (.getfield 52, 3), (.if_icmp .ne 39, 3), (.iinc 2 (-1), 3), (.iload_n 2, 1), (.ifCond .lt 146, 3), (.aload_n 0, 1), (.aload_n 0, 1), (.getfield 7, 3), (.aload_n 0, 1), (.getfield 31, 3), (.iload_n 2, 1), (.iaload, 1), (.iaload, 1), (.iconst (-1), 1), (.invokevirtual 113, 3), (.aload_n 0, 1), (.getfield 31, 3), (.iload_n 2, 1), (.dup2, 1), (.iaload, 1), (.iconst 1, 1), (.iadd, 1), (.iastore, 1), (.goto 117, 3)]),
  (120, [(.aload_n 0, 1), (.aload_n 0, 1), (.getfield 7, 3), (.aload_n 0, 1), (.getfield 31, 3), (.iload_n 2, 1), (.iaload, 1), (.iaload, 1), (.iconst 1, 1), (.invokevirtual 113, 3), (.aload_n 0, 1), (.invokevirtual 117, 3), (.ifCond .ne 7, 3), (.iconst 1, 1), (.goto 4, 3)]),
  (147, [(.iconst 0, 1)]),
  (148, [(.istore 4, 2), (.iload 4, 2), (.ifCond .eq 19, 3), (.iload_n 2, 1), (.aload_n 0, 1), (.getfield 65, 3), (.iconst 1, 1), (.isub, 1), (.if_icmp .ne 9, 3), (.iload_n 1, 1), (.iconst 1, 1), (.iadd, 1), (.goto 4, 3)]),
  (171, [(.iload_n 1, 1)]),
  (172, [(.istore_n 1, 1), (.iload 4, 2), (.ifCond .eq 33, 3), (.iload_n 2, 1), (.aload_n 0, 1), (.getfield 65, 3), (.iconst 1, 1), (.isub, 1), (.if_icmp .ge 23, 3), (.aload_n 0, 1), (.getfield 31, 3), (.iload_n 2, 1), (.iconst 1, 1), (.iadd, 1), (.aload_n 0, 1), (.getfield 31, 3), (.iload_n 2, 1), (.iaload, 1), (.iastore, 1), (.iinc 2 1, 3), (.goto 29, 3)]),
  (208, [(.aload_n 0, 1), (.aload_n 0, 1), (.getfield 7, 3), (.aload_n 0, 1), (.getfield 31, 3), (.iload_n 2, 1), (.iaload, 1), (.iaload, 1), (.iconst (-1), 1), (.invokevirtual 113, 3), (.aload_n 0, 1), (.getfield 31, 3), (.iload_n 2, 1), (.dup2, 1), (.iaload, 1), (.iconst 1, 1), (.iadd, 1), (.iastore, 1)]),
  (234, [(.iinc 3 1, 3), (.goto (-176), 3)]),
  (240, [(.iload_n 1, 1), (.ireturn, 1)])]
theorem o_MO_labelled : (s_MO_labelled).all (fun q => ma_dec prog_7_method_27_code q.1 q.2) = true := by decide +kernel
def k_MO_labelled : List (Nat × Int32) := [(112, 100000000)]
theorem kk_MO_labelled {z : Cond} : ma_Kok "PackingCensusModel" (z :: zw_t) k_MO_labelled := by
  refine List.forall_mem_cons.mpr ⟨?_, fun _ h => absurd h List.not_mem_nil⟩
  · exact List.mem_cons_of_mem _ (zw_m (i := 611) (by decide +kernel) (by decide +kernel))
def e_MO_labelled (t_0 t_1 : ma_T) : ma_E := [(113, 3, some 5, false, t_0), (117, 1, some 5, true, t_1)]
theorem ee_MO_labelled {l : Launch} {dep : Nat} {z : Cond} {t_0 t_1 : ma_T} {d_0 : Nat} (h_0 : ma_Met l y_MO_pair (w_MO_pair :: zw_t) d_0 false t_0) (e_0 : d_0 + 1 ≤ dep) {d_1 : Nat} (h_1 : ma_Met l y_MO_tooOften (w_MO_tooOften :: zw_t) d_1 true t_1) (e_1 : d_1 + 1 ≤ dep) : ma_Eok l "PackingCensusModel" (z :: zw_t) dep (e_MO_labelled t_0 t_1) := List.forall_mem_cons.mpr ⟨Or.inr ⟨y_MO_pair, prog_7_method_25_code, 6, d_0, 2, none, zw_t, h_0, zw_in m_MO_pair, e_0, by decide, List.mem_cons_of_mem _ (zw_m (w := .methodLink "PackingCensusModel" 113 y_MO_pair) (i := 612) (by decide +kernel) (by decide +kernel)), List.mem_cons_of_mem _ (zw_m (i := 39) (by decide +kernel) (by decide +kernel)), ⟨by decide, by decide, by decide +kernel⟩, Or.inr ⟨5, (zc_MO, zt_MO, 18), rfl, rfl, List.mem_cons_of_mem _ (zw_m (i := 614) (by decide +kernel) (by decide +kernel)), rfl, List.mem_cons_of_mem _ (zw_m (i := 26) (by decide +kernel) (by decide +kernel))⟩⟩, List.forall_mem_cons.mpr ⟨Or.inr ⟨y_MO_tooOften, prog_7_method_26_code, 3, d_1, 0, (some .boolean), zw_t, h_1, zw_in m_MO_tooOften, e_1, by decide, List.mem_cons_of_mem _ (zw_m (w := .methodLink "PackingCensusModel" 117 y_MO_tooOften) (i := 616) (by decide +kernel) (by decide +kernel)), List.mem_cons_of_mem _ (zw_m (i := 39) (by decide +kernel) (by decide +kernel)), ⟨by decide, by decide, by decide +kernel⟩, Or.inr ⟨5, (zc_MO, zt_MO, 18), rfl, rfl, List.mem_cons_of_mem _ (zw_m (i := 618) (by decide +kernel) (by decide +kernel)), rfl, List.mem_cons_of_mem _ (zw_m (i := 27) (by decide +kernel) (by decide +kernel))⟩⟩, fun _ h => absurd h List.not_mem_nil⟩⟩
theorem z_MO_labelled {l : Launch} {dep : Nat} {T : ma_T} {t_0 t_1 : ma_T} {d_0 : Nat} (h_0 : ma_Met l y_MO_pair (w_MO_pair :: zw_t) d_0 false t_0) (e_0 : d_0 + 1 ≤ dep) {d_1 : Nat} (h_1 : ma_Met l y_MO_tooOften (w_MO_tooOften :: zw_t) d_1 true t_1) (e_1 : d_1 + 1 ≤ dep) (hT : ∀ as w post, T as w post → as.length ≤ 5)
    (hB : ∀ as w post, T as w post → ∀ Go, ma_cl k_MO_labelled zf_MO (e_MO_labelled t_0 t_1) none 1 s_MO_labelled post Go → Go 0 (as.map some ++ List.replicate (5 - as.length) none) [] w) :
    ma_Met l y_MO_labelled (w_MO_labelled :: zw_t) dep true T := ma_met (by decide) o_MO_labelled (Or.inr (Or.inl ⟨rfl, rfl, rfl⟩)) kk_MO_labelled zf_MO_ok (ee_MO_labelled h_0 e_0 h_1 e_1) hT hB
-- PackingCensusModel.together(III)I
def s_MO_together : List (Nat × ma_C) := [
  (0, [(.aload_n 0, 1), (.iload_n 1, 1), (.invokevirtual 104, 3), (.ifCond .eq 19, 3), (.aload_n 0, 1), (.iload_n 2, 1), (.invokevirtual 120, 3), (.ifCond .eq 11, 3), (.aload_n 0, 1), (.iload_n 3, 1), (.invokevirtual 120, 3), (.ifCond .ne 5, 3)]),
  (24, [(.iconst (-1), 1), (.ireturn, 1)]),
  (26, [(.aload_n 0, 1), (.iload_n 1, 1), (.invokevirtual 87, 3), (.aload_n 0, 1), (.iload_n 2, 1), (.iload_n 3, 1), (.invokevirtual 78, 3), (.ireturn, 1)])]
theorem o_MO_together : (s_MO_together).all (fun q => ma_dec prog_7_method_28_code q.1 q.2) = true := by decide +kernel
def k_MO_together : List (Nat × Int32) := []
theorem kk_MO_together {z : Cond} : ma_Kok "PackingCensusModel" (z :: zw_t) k_MO_together := fun _ h => absurd h List.not_mem_nil
def e_MO_together (t_0 t_1 t_2 t_3 : ma_T) : ma_E := [(104, 2, some 5, true, t_0), (120, 2, some 5, true, t_1), (87, 2, some 5, false, t_2), (78, 3, some 5, true, t_3)]
theorem ee_MO_together {l : Launch} {dep : Nat} {z : Cond} {t_0 t_1 t_2 t_3 : ma_T} {d_0 : Nat} (h_0 : ma_Met l y_MO_isEntry (w_MO_isEntry :: zw_t) d_0 true t_0) (e_0 : d_0 + 1 ≤ dep) {d_1 : Nat} (h_1 : ma_Met l y_MO_isPoint (w_MO_isPoint :: zw_t) d_1 true t_1) (e_1 : d_1 + 1 ≤ dep) {d_2 : Nat} (h_2 : ma_Met l y_MO_lookAtEntry (w_MO_lookAtEntry :: zw_t) d_2 false t_2) (e_2 : d_2 + 1 ≤ dep) {d_3 : Nat} (h_3 : ma_Met l y_MO_meet (w_MO_meet :: zw_t) d_3 true t_3) (e_3 : d_3 + 1 ≤ dep) : ma_Eok l "PackingCensusModel" (z :: zw_t) dep (e_MO_together t_0 t_1 t_2 t_3) := List.forall_mem_cons.mpr ⟨Or.inr ⟨y_MO_isEntry, prog_7_method_5_code, 2, d_0, 1, (some .boolean), zw_t, h_0, zw_in m_MO_isEntry, e_0, by decide, List.mem_cons_of_mem _ (zw_m (w := .methodLink "PackingCensusModel" 104 y_MO_isEntry) (i := 595) (by decide +kernel) (by decide +kernel)), List.mem_cons_of_mem _ (zw_m (i := 39) (by decide +kernel) (by decide +kernel)), ⟨by decide, by decide, by decide +kernel⟩, Or.inr ⟨5, (zc_MO, zt_MO, 18), rfl, rfl, List.mem_cons_of_mem _ (zw_m (i := 597) (by decide +kernel) (by decide +kernel)), rfl, List.mem_cons_of_mem _ (zw_m (i := 24) (by decide +kernel) (by decide +kernel))⟩⟩, List.forall_mem_cons.mpr ⟨Or.inr ⟨y_MO_isPoint, prog_7_method_4_code, 2, d_1, 1, (some .boolean), zw_t, h_1, zw_in m_MO_isPoint, e_1, by decide, List.mem_cons_of_mem _ (zw_m (w := .methodLink "PackingCensusModel" 120 y_MO_isPoint) (i := 624) (by decide +kernel) (by decide +kernel)), List.mem_cons_of_mem _ (zw_m (i := 39) (by decide +kernel) (by decide +kernel)), ⟨by decide, by decide, by decide +kernel⟩, Or.inr ⟨5, (zc_MO, zt_MO, 18), rfl, rfl, List.mem_cons_of_mem _ (zw_m (i := 626) (by decide +kernel) (by decide +kernel)), rfl, List.mem_cons_of_mem _ (zw_m (i := 28) (by decide +kernel) (by decide +kernel))⟩⟩, List.forall_mem_cons.mpr ⟨Or.inr ⟨y_MO_lookAtEntry, prog_7_method_10_code, 3, d_2, 1, none, zw_t, h_2, zw_in m_MO_lookAtEntry, e_2, by decide, List.mem_cons_of_mem _ (zw_m (w := .methodLink "PackingCensusModel" 87 y_MO_lookAtEntry) (i := 555) (by decide +kernel) (by decide +kernel)), List.mem_cons_of_mem _ (zw_m (i := 39) (by decide +kernel) (by decide +kernel)), ⟨by decide, by decide, by decide +kernel⟩, Or.inr ⟨5, (zc_MO, zt_MO, 18), rfl, rfl, List.mem_cons_of_mem _ (zw_m (i := 557) (by decide +kernel) (by decide +kernel)), rfl, List.mem_cons_of_mem _ (zw_m (i := 17) (by decide +kernel) (by decide +kernel))⟩⟩, List.forall_mem_cons.mpr ⟨Or.inr ⟨y_MO_meet, prog_7_method_16_code, 6, d_3, 2, (some .int), zw_t, h_3, zw_in m_MO_meet, e_3, by decide, List.mem_cons_of_mem _ (zw_m (w := .methodLink "PackingCensusModel" 78 y_MO_meet) (i := 567) (by decide +kernel) (by decide +kernel)), List.mem_cons_of_mem _ (zw_m (i := 39) (by decide +kernel) (by decide +kernel)), ⟨by decide, by decide, by decide +kernel⟩, Or.inr ⟨5, (zc_MO, zt_MO, 18), rfl, rfl, List.mem_cons_of_mem _ (zw_m (i := 569) (by decide +kernel) (by decide +kernel)), rfl, List.mem_cons_of_mem _ (zw_m (i := 20) (by decide +kernel) (by decide +kernel))⟩⟩, fun _ h => absurd h List.not_mem_nil⟩⟩⟩⟩
theorem z_MO_together {l : Launch} {dep : Nat} {T : ma_T} {t_0 t_1 t_2 t_3 : ma_T} {d_0 : Nat} (h_0 : ma_Met l y_MO_isEntry (w_MO_isEntry :: zw_t) d_0 true t_0) (e_0 : d_0 + 1 ≤ dep) {d_1 : Nat} (h_1 : ma_Met l y_MO_isPoint (w_MO_isPoint :: zw_t) d_1 true t_1) (e_1 : d_1 + 1 ≤ dep) {d_2 : Nat} (h_2 : ma_Met l y_MO_lookAtEntry (w_MO_lookAtEntry :: zw_t) d_2 false t_2) (e_2 : d_2 + 1 ≤ dep) {d_3 : Nat} (h_3 : ma_Met l y_MO_meet (w_MO_meet :: zw_t) d_3 true t_3) (e_3 : d_3 + 1 ≤ dep) (hT : ∀ as w post, T as w post → as.length ≤ 4)
    (hB : ∀ as w post, T as w post → ∀ Go, ma_cl k_MO_together zf_MO (e_MO_together t_0 t_1 t_2 t_3) none 1 s_MO_together post Go → Go 0 (as.map some ++ List.replicate (4 - as.length) none) [] w) :
    ma_Met l y_MO_together (w_MO_together :: zw_t) dep true T := ma_met (by decide) o_MO_together (Or.inr (Or.inl ⟨rfl, rfl, rfl⟩)) kk_MO_together zf_MO_ok (ee_MO_together h_0 e_0 h_1 e_1 h_2 e_2 h_3 e_3) hT hB
-- PackingCensusModel.design(I)Z
def s_MO_design : List (Nat × ma_C) := [
  (0, [(.aload_n 0, 1), (.iload_n 1, 1), (.invokevirtual 104, 3), (.ifCond .ne 5, 3), (.iconst 0, 1), (.ireturn, 1)]),
  (10, [(.aload_n 0, 1), (.iload_n 1, 1), (.invokevirtual 87, 3), (.aload_n 0, 1), (.aload_n 0, 1), (.getfield 81, 3), (.aload_n 0, 1), (.getfield 81, 3), (.invokevirtual 90, 3), (.ireturn, 1)])]
theorem o_MO_design : (s_MO_design).all (fun q => ma_dec prog_7_method_29_code q.1 q.2) = true := by decide +kernel
def k_MO_design : List (Nat × Int32) := []
theorem kk_MO_design {z : Cond} : ma_Kok "PackingCensusModel" (z :: zw_t) k_MO_design := fun _ h => absurd h List.not_mem_nil
def e_MO_design (t_0 t_1 t_2 : ma_T) : ma_E := [(104, 2, some 5, true, t_0), (87, 2, some 5, false, t_1), (90, 3, some 5, true, t_2)]
theorem ee_MO_design {l : Launch} {dep : Nat} {z : Cond} {t_0 t_1 t_2 : ma_T} {d_0 : Nat} (h_0 : ma_Met l y_MO_isEntry (w_MO_isEntry :: zw_t) d_0 true t_0) (e_0 : d_0 + 1 ≤ dep) {d_1 : Nat} (h_1 : ma_Met l y_MO_lookAtEntry (w_MO_lookAtEntry :: zw_t) d_1 false t_1) (e_1 : d_1 + 1 ≤ dep) {d_2 : Nat} (h_2 : ma_Met l y_MO_meets (w_MO_meets :: zw_t) d_2 true t_2) (e_2 : d_2 + 1 ≤ dep) : ma_Eok l "PackingCensusModel" (z :: zw_t) dep (e_MO_design t_0 t_1 t_2) := List.forall_mem_cons.mpr ⟨Or.inr ⟨y_MO_isEntry, prog_7_method_5_code, 2, d_0, 1, (some .boolean), zw_t, h_0, zw_in m_MO_isEntry, e_0, by decide, List.mem_cons_of_mem _ (zw_m (w := .methodLink "PackingCensusModel" 104 y_MO_isEntry) (i := 595) (by decide +kernel) (by decide +kernel)), List.mem_cons_of_mem _ (zw_m (i := 39) (by decide +kernel) (by decide +kernel)), ⟨by decide, by decide, by decide +kernel⟩, Or.inr ⟨5, (zc_MO, zt_MO, 18), rfl, rfl, List.mem_cons_of_mem _ (zw_m (i := 597) (by decide +kernel) (by decide +kernel)), rfl, List.mem_cons_of_mem _ (zw_m (i := 24) (by decide +kernel) (by decide +kernel))⟩⟩, List.forall_mem_cons.mpr ⟨Or.inr ⟨y_MO_lookAtEntry, prog_7_method_10_code, 3, d_1, 1, none, zw_t, h_1, zw_in m_MO_lookAtEntry, e_1, by decide, List.mem_cons_of_mem _ (zw_m (w := .methodLink "PackingCensusModel" 87 y_MO_lookAtEntry) (i := 555) (by decide +kernel) (by decide +kernel)), List.mem_cons_of_mem _ (zw_m (i := 39) (by decide +kernel) (by decide +kernel)), ⟨by decide, by decide, by decide +kernel⟩, Or.inr ⟨5, (zc_MO, zt_MO, 18), rfl, rfl, List.mem_cons_of_mem _ (zw_m (i := 557) (by decide +kernel) (by decide +kernel)), rfl, List.mem_cons_of_mem _ (zw_m (i := 17) (by decide +kernel) (by decide +kernel))⟩⟩, List.forall_mem_cons.mpr ⟨Or.inr ⟨y_MO_meets, prog_7_method_17_code, 7, d_2, 2, (some .boolean), zw_t, h_2, zw_in m_MO_meets, e_2, by decide, List.mem_cons_of_mem _ (zw_m (w := .methodLink "PackingCensusModel" 90 y_MO_meets) (i := 563) (by decide +kernel) (by decide +kernel)), List.mem_cons_of_mem _ (zw_m (i := 39) (by decide +kernel) (by decide +kernel)), ⟨by decide, by decide, by decide +kernel⟩, Or.inr ⟨5, (zc_MO, zt_MO, 18), rfl, rfl, List.mem_cons_of_mem _ (zw_m (i := 565) (by decide +kernel) (by decide +kernel)), rfl, List.mem_cons_of_mem _ (zw_m (i := 19) (by decide +kernel) (by decide +kernel))⟩⟩, fun _ h => absurd h List.not_mem_nil⟩⟩⟩
theorem z_MO_design {l : Launch} {dep : Nat} {T : ma_T} {t_0 t_1 t_2 : ma_T} {d_0 : Nat} (h_0 : ma_Met l y_MO_isEntry (w_MO_isEntry :: zw_t) d_0 true t_0) (e_0 : d_0 + 1 ≤ dep) {d_1 : Nat} (h_1 : ma_Met l y_MO_lookAtEntry (w_MO_lookAtEntry :: zw_t) d_1 false t_1) (e_1 : d_1 + 1 ≤ dep) {d_2 : Nat} (h_2 : ma_Met l y_MO_meets (w_MO_meets :: zw_t) d_2 true t_2) (e_2 : d_2 + 1 ≤ dep) (hT : ∀ as w post, T as w post → as.length ≤ 2)
    (hB : ∀ as w post, T as w post → ∀ Go, ma_cl k_MO_design zf_MO (e_MO_design t_0 t_1 t_2) none 2 s_MO_design post Go → Go 0 (as.map some ++ List.replicate (2 - as.length) none) [] w) :
    ma_Met l y_MO_design (w_MO_design :: zw_t) dep true T := ma_met (by decide) o_MO_design (Or.inr (Or.inr ⟨rfl, rfl, rfl⟩)) kk_MO_design zf_MO_ok (ee_MO_design h_0 e_0 h_1 e_1 h_2 e_2) hT hB
-- PackingCensusModel.designs()I
def s_MO_designs : List (Nat × ma_C) := [
  (0, [(.iconst 0, 1), (.istore_n 1, 1), (.iconst 0, 1), (.istore_n 2, 1)]),
  (4, [(.iload_n 2, 1), (.aload_n 0, 1), (.getfield 49, 3), (.if_icmp .ge 25, 3), (.aload_n 0, 1), (.iload_n 2, 1), (.invokevirtual 123, 3), (.ifCond .eq 9, 3), (.iload_n 1, 1), (.iconst 1, 1), (.iadd, 1), (.goto 4, 3)]),
  (26, [(.iload_n 1, 1)]),
  (27, [(.istore_n 1, 1), (.iinc 2 1, 3), (.goto (-27), 3)]),
  (34, [(.iload_n 1, 1), (.ireturn, 1)])]
theorem o_MO_designs : (s_MO_designs).all (fun q => ma_dec prog_7_method_30_code q.1 q.2) = true := by decide +kernel
def k_MO_designs : List (Nat × Int32) := []
theorem kk_MO_designs {z : Cond} : ma_Kok "PackingCensusModel" (z :: zw_t) k_MO_designs := fun _ h => absurd h List.not_mem_nil
def e_MO_designs (t_0 : ma_T) : ma_E := [(123, 2, some 5, true, t_0)]
theorem ee_MO_designs {l : Launch} {dep : Nat} {z : Cond} {t_0 : ma_T} {d_0 : Nat} (h_0 : ma_Met l y_MO_design (w_MO_design :: zw_t) d_0 true t_0) (e_0 : d_0 + 1 ≤ dep) : ma_Eok l "PackingCensusModel" (z :: zw_t) dep (e_MO_designs t_0) := List.forall_mem_cons.mpr ⟨Or.inr ⟨y_MO_design, prog_7_method_29_code, 2, d_0, 1, (some .boolean), zw_t, h_0, zw_in m_MO_design, e_0, by decide, List.mem_cons_of_mem _ (zw_m (w := .methodLink "PackingCensusModel" 123 y_MO_design) (i := 636) (by decide +kernel) (by decide +kernel)), List.mem_cons_of_mem _ (zw_m (i := 39) (by decide +kernel) (by decide +kernel)), ⟨by decide, by decide, by decide +kernel⟩, Or.inr ⟨5, (zc_MO, zt_MO, 18), rfl, rfl, List.mem_cons_of_mem _ (zw_m (i := 629) (by decide +kernel) (by decide +kernel)), rfl, List.mem_cons_of_mem _ (zw_m (i := 630) (by decide +kernel) (by decide +kernel))⟩⟩, fun _ h => absurd h List.not_mem_nil⟩
theorem z_MO_designs {l : Launch} {dep : Nat} {T : ma_T} {t_0 : ma_T} {d_0 : Nat} (h_0 : ma_Met l y_MO_design (w_MO_design :: zw_t) d_0 true t_0) (e_0 : d_0 + 1 ≤ dep) (hT : ∀ as w post, T as w post → as.length ≤ 3)
    (hB : ∀ as w post, T as w post → ∀ Go, ma_cl k_MO_designs zf_MO (e_MO_designs t_0) none 1 s_MO_designs post Go → Go 0 (as.map some ++ List.replicate (3 - as.length) none) [] w) :
    ma_Met l y_MO_designs (w_MO_designs :: zw_t) dep true T := ma_met (by decide) o_MO_designs (Or.inr (Or.inl ⟨rfl, rfl, rfl⟩)) kk_MO_designs zf_MO_ok (ee_MO_designs h_0 e_0) hT hB
-- PackingCensusModel.orbit(II)I
def s_MO_orbit : List (Nat × ma_C) := [
  (0, [(.aload_n 0, 1), (.iload_n 1, 1), (.invokevirtual 104, 3), (.ifCond .eq 11, 3), (.aload_n 0, 1), (.iload_n 2, 1), (.invokevirtual 120, 3), (.ifCond .ne 5, 3)]),
  (16, [(.iconst (-1), 1), (.ireturn, 1)]),
  (18, [(.aload_n 0, 1), (.iload_n 1, 1), (.invokevirtual 87, 3), (.iload_n 2, 1), (.istore_n 3, 1), (.iconst 0, 1), (.istore 4, 2)]),
  (28, [(.iload 4, 2), (.aload_n 0, 1), (.getfield 55, 3), (.if_icmp .ge 46, 3), (.aload_n 0, 1), (.getfield 13, 3), (.bipush 6, 2), (.iload 4, 2), (.imul, 1), (.iload_n 2, 1), (.iadd, 1), (.iaload, 1), (.istore 5, 2), (.iload 5, 2), (.iload_n 3, 1), (.if_icmp .ge 18, 3), (.aload_n 0, 1), (.iload 4, 2), (.iconst 0, 1), (.invokevirtual 75, 3), (.ifCond .ne 8, 3), (.iload 5, 2), (.goto 4, 3)]),
  (72, [(.iload_n 3, 1)]),
  (73, [(.istore_n 3, 1), (.iinc 4 1, 3), (.goto (-49), 3)]),
  (80, [(.iload_n 3, 1), (.ireturn, 1)])]
theorem o_MO_orbit : (s_MO_orbit).all (fun q => ma_dec prog_7_method_31_code q.1 q.2) = true := by decide +kernel
def k_MO_orbit : List (Nat × Int32) := []
theorem kk_MO_orbit {z : Cond} : ma_Kok "PackingCensusModel" (z :: zw_t) k_MO_orbit := fun _ h => absurd h List.not_mem_nil
def e_MO_orbit (t_0 t_1 t_2 t_3 : ma_T) : ma_E := [(104, 2, some 5, true, t_0), (120, 2, some 5, true, t_1), (87, 2, some 5, false, t_2), (75, 3, some 5, true, t_3)]
theorem ee_MO_orbit {l : Launch} {dep : Nat} {z : Cond} {t_0 t_1 t_2 t_3 : ma_T} {d_0 : Nat} (h_0 : ma_Met l y_MO_isEntry (w_MO_isEntry :: zw_t) d_0 true t_0) (e_0 : d_0 + 1 ≤ dep) {d_1 : Nat} (h_1 : ma_Met l y_MO_isPoint (w_MO_isPoint :: zw_t) d_1 true t_1) (e_1 : d_1 + 1 ≤ dep) {d_2 : Nat} (h_2 : ma_Met l y_MO_lookAtEntry (w_MO_lookAtEntry :: zw_t) d_2 false t_2) (e_2 : d_2 + 1 ≤ dep) {d_3 : Nat} (h_3 : ma_Met l y_MO_compare (w_MO_compare :: zw_t) d_3 true t_3) (e_3 : d_3 + 1 ≤ dep) : ma_Eok l "PackingCensusModel" (z :: zw_t) dep (e_MO_orbit t_0 t_1 t_2 t_3) := List.forall_mem_cons.mpr ⟨Or.inr ⟨y_MO_isEntry, prog_7_method_5_code, 2, d_0, 1, (some .boolean), zw_t, h_0, zw_in m_MO_isEntry, e_0, by decide, List.mem_cons_of_mem _ (zw_m (w := .methodLink "PackingCensusModel" 104 y_MO_isEntry) (i := 595) (by decide +kernel) (by decide +kernel)), List.mem_cons_of_mem _ (zw_m (i := 39) (by decide +kernel) (by decide +kernel)), ⟨by decide, by decide, by decide +kernel⟩, Or.inr ⟨5, (zc_MO, zt_MO, 18), rfl, rfl, List.mem_cons_of_mem _ (zw_m (i := 597) (by decide +kernel) (by decide +kernel)), rfl, List.mem_cons_of_mem _ (zw_m (i := 24) (by decide +kernel) (by decide +kernel))⟩⟩, List.forall_mem_cons.mpr ⟨Or.inr ⟨y_MO_isPoint, prog_7_method_4_code, 2, d_1, 1, (some .boolean), zw_t, h_1, zw_in m_MO_isPoint, e_1, by decide, List.mem_cons_of_mem _ (zw_m (w := .methodLink "PackingCensusModel" 120 y_MO_isPoint) (i := 624) (by decide +kernel) (by decide +kernel)), List.mem_cons_of_mem _ (zw_m (i := 39) (by decide +kernel) (by decide +kernel)), ⟨by decide, by decide, by decide +kernel⟩, Or.inr ⟨5, (zc_MO, zt_MO, 18), rfl, rfl, List.mem_cons_of_mem _ (zw_m (i := 626) (by decide +kernel) (by decide +kernel)), rfl, List.mem_cons_of_mem _ (zw_m (i := 28) (by decide +kernel) (by decide +kernel))⟩⟩, List.forall_mem_cons.mpr ⟨Or.inr ⟨y_MO_lookAtEntry, prog_7_method_10_code, 3, d_2, 1, none, zw_t, h_2, zw_in m_MO_lookAtEntry, e_2, by decide, List.mem_cons_of_mem _ (zw_m (w := .methodLink "PackingCensusModel" 87 y_MO_lookAtEntry) (i := 555) (by decide +kernel) (by decide +kernel)), List.mem_cons_of_mem _ (zw_m (i := 39) (by decide +kernel) (by decide +kernel)), ⟨by decide, by decide, by decide +kernel⟩, Or.inr ⟨5, (zc_MO, zt_MO, 18), rfl, rfl, List.mem_cons_of_mem _ (zw_m (i := 557) (by decide +kernel) (by decide +kernel)), rfl, List.mem_cons_of_mem _ (zw_m (i := 17) (by decide +kernel) (by decide +kernel))⟩⟩, List.forall_mem_cons.mpr ⟨Or.inr ⟨y_MO_compare, prog_7_method_12_code, 6, d_3, 2, (some .int), zw_t, h_3, zw_in m_MO_compare, e_3, by decide, List.mem_cons_of_mem _ (zw_m (w := .methodLink "PackingCensusModel" 75 y_MO_compare) (i := 575) (by decide +kernel) (by decide +kernel)), List.mem_cons_of_mem _ (zw_m (i := 39) (by decide +kernel) (by decide +kernel)), ⟨by decide, by decide, by decide +kernel⟩, Or.inr ⟨5, (zc_MO, zt_MO, 18), rfl, rfl, List.mem_cons_of_mem _ (zw_m (i := 577) (by decide +kernel) (by decide +kernel)), rfl, List.mem_cons_of_mem _ (zw_m (i := 22) (by decide +kernel) (by decide +kernel))⟩⟩, fun _ h => absurd h List.not_mem_nil⟩⟩⟩⟩
theorem z_MO_orbit {l : Launch} {dep : Nat} {T : ma_T} {t_0 t_1 t_2 t_3 : ma_T} {d_0 : Nat} (h_0 : ma_Met l y_MO_isEntry (w_MO_isEntry :: zw_t) d_0 true t_0) (e_0 : d_0 + 1 ≤ dep) {d_1 : Nat} (h_1 : ma_Met l y_MO_isPoint (w_MO_isPoint :: zw_t) d_1 true t_1) (e_1 : d_1 + 1 ≤ dep) {d_2 : Nat} (h_2 : ma_Met l y_MO_lookAtEntry (w_MO_lookAtEntry :: zw_t) d_2 false t_2) (e_2 : d_2 + 1 ≤ dep) {d_3 : Nat} (h_3 : ma_Met l y_MO_compare (w_MO_compare :: zw_t) d_3 true t_3) (e_3 : d_3 + 1 ≤ dep) (hT : ∀ as w post, T as w post → as.length ≤ 6)
    (hB : ∀ as w post, T as w post → ∀ Go, ma_cl k_MO_orbit zf_MO (e_MO_orbit t_0 t_1 t_2 t_3) none 1 s_MO_orbit post Go → Go 0 (as.map some ++ List.replicate (6 - as.length) none) [] w) :
    ma_Met l y_MO_orbit (w_MO_orbit :: zw_t) dep true T := ma_met (by decide) o_MO_orbit (Or.inr (Or.inl ⟨rfl, rfl, rfl⟩)) kk_MO_orbit zf_MO_ok (ee_MO_orbit h_0 e_0 h_1 e_1 h_2 e_2 h_3 e_3) hT hB
-- PackingCensusModel.put(I)I
def s_MO_put : List (Nat × ma_C) := [
  (0, [(.aload_n 0, 1), (.iload_n 1, 1), (.invokevirtual 126, 3), (.ifCond .ne 6, 3), (.bipush (-2), 2), (.ireturn, 1)]),
  (11, [(.aload_n 0, 1), (.getfield 68, 3), (.bipush 10, 2), (.if_icmp .ne 6, 3), (.bipush (-5), 2), (.ireturn, 1)]),
  (23, [(.aload_n 0, 1), (.getfield 22, 3), (.aload_n 0, 1), (.getfield 68, 3), (.iload_n 1, 1), (.iastore, 1), (.aload_n 0, 1), (.dup, 1), (.getfield 68, 3), (.iconst 1, 1), (.iadd, 1), (.putfield 68, 3), (.aload_n 0, 1), (.getfield 68, 3), (.ireturn, 1)])]
theorem o_MO_put : (s_MO_put).all (fun q => ma_dec prog_7_method_32_code q.1 q.2) = true := by decide +kernel
def k_MO_put : List (Nat × Int32) := []
theorem kk_MO_put {z : Cond} : ma_Kok "PackingCensusModel" (z :: zw_t) k_MO_put := fun _ h => absurd h List.not_mem_nil
def e_MO_put (t_0 : ma_T) : ma_E := [(126, 2, some 5, true, t_0)]
theorem ee_MO_put {l : Launch} {dep : Nat} {z : Cond} {t_0 : ma_T} {d_0 : Nat} (h_0 : ma_Met l y_MO_isBlock (w_MO_isBlock :: zw_t) d_0 true t_0) (e_0 : d_0 + 1 ≤ dep) : ma_Eok l "PackingCensusModel" (z :: zw_t) dep (e_MO_put t_0) := List.forall_mem_cons.mpr ⟨Or.inr ⟨y_MO_isBlock, prog_7_method_3_code, 2, d_0, 1, (some .boolean), zw_t, h_0, zw_in m_MO_isBlock, e_0, by decide, List.mem_cons_of_mem _ (zw_m (w := .methodLink "PackingCensusModel" 126 y_MO_isBlock) (i := 645) (by decide +kernel) (by decide +kernel)), List.mem_cons_of_mem _ (zw_m (i := 39) (by decide +kernel) (by decide +kernel)), ⟨by decide, by decide, by decide +kernel⟩, Or.inr ⟨5, (zc_MO, zt_MO, 18), rfl, rfl, List.mem_cons_of_mem _ (zw_m (i := 647) (by decide +kernel) (by decide +kernel)), rfl, List.mem_cons_of_mem _ (zw_m (i := 29) (by decide +kernel) (by decide +kernel))⟩⟩, fun _ h => absurd h List.not_mem_nil⟩
theorem z_MO_put {l : Launch} {dep : Nat} {T : ma_T} {t_0 : ma_T} {d_0 : Nat} (h_0 : ma_Met l y_MO_isBlock (w_MO_isBlock :: zw_t) d_0 true t_0) (e_0 : d_0 + 1 ≤ dep) (hT : ∀ as w post, T as w post → as.length ≤ 2)
    (hB : ∀ as w post, T as w post → ∀ Go, ma_cl k_MO_put zf_MO (e_MO_put t_0) none 1 s_MO_put post Go → Go 0 (as.map some ++ List.replicate (2 - as.length) none) [] w) :
    ma_Met l y_MO_put (w_MO_put :: zw_t) dep true T := ma_met (by decide) o_MO_put (Or.inr (Or.inl ⟨rfl, rfl, rfl⟩)) kk_MO_put zf_MO_ok (ee_MO_put h_0 e_0) hT hB
end
section
-- PackingCensusModel.drop(I)Z
def s_MO_drop : List (Nat × ma_C) := [
  (0, [(.iload_n 1, 1), (.ifCond .lt 11, 3), (.iload_n 1, 1), (.aload_n 0, 1), (.getfield 68, 3), (.if_icmp .lt 5, 3)]),
  (12, [(.iconst 0, 1), (.ireturn, 1)]),
  (14, [(.aload_n 0, 1), (.dup, 1), (.getfield 68, 3), (.iconst 1, 1), (.isub, 1), (.putfield 68, 3), (.iload_n 1, 1), (.istore_n 2, 1)]),
  (26, [(.iload_n 2, 1), (.aload_n 0, 1), (.getfield 68, 3), (.if_icmp .ge 23, 3), (.aload_n 0, 1), (.getfield 22, 3), (.iload_n 2, 1), (.aload_n 0, 1), (.getfield 22, 3), (.iload_n 2, 1), (.iconst 1, 1), (.iadd, 1), (.iaload, 1), (.iastore, 1), (.iinc 2 1, 3), (.goto (-25), 3)]),
  (54, [(.iconst 1, 1), (.ireturn, 1)])]
theorem o_MO_drop : (s_MO_drop).all (fun q => ma_dec prog_7_method_33_code q.1 q.2) = true := by decide +kernel
def k_MO_drop : List (Nat × Int32) := []
theorem kk_MO_drop {z : Cond} : ma_Kok "PackingCensusModel" (z :: zw_t) k_MO_drop := fun _ h => absurd h List.not_mem_nil
def e_MO_drop : ma_E := []
theorem ee_MO_drop {l : Launch} {dep : Nat} {z : Cond} : ma_Eok l "PackingCensusModel" (z :: zw_t) dep (e_MO_drop) := fun _ h => absurd h List.not_mem_nil
theorem z_MO_drop {l : Launch} {dep : Nat} {T : ma_T} (hT : ∀ as w post, T as w post → as.length ≤ 3)
    (hB : ∀ as w post, T as w post → ∀ Go, ma_cl k_MO_drop zf_MO (e_MO_drop) none 2 s_MO_drop post Go → Go 0 (as.map some ++ List.replicate (3 - as.length) none) [] w) :
    ma_Met l y_MO_drop (w_MO_drop :: zw_t) dep true T := ma_met (by decide) o_MO_drop (Or.inr (Or.inr ⟨rfl, rfl, rfl⟩)) kk_MO_drop zf_MO_ok (ee_MO_drop) hT hB
-- PackingCensusModel.swap(II)Z
def s_MO_swap : List (Nat × ma_C) := [
  (0, [(.aload_n 0, 1), (.iload_n 1, 1), (.invokevirtual 120, 3), (.ifCond .eq 11, 3), (.aload_n 0, 1), (.iload_n 2, 1), (.invokevirtual 120, 3), (.ifCond .ne 5, 3)]),
  (16, [(.iconst 0, 1), (.ireturn, 1)]),
  (18, [(.iconst 0, 1), (.istore_n 3, 1)]),
  (20, [(.iload_n 3, 1), (.aload_n 0, 1), (.getfield 68, 3), (.if_icmp .ge 71, 3), (.aload_n 0, 1), (.getfield 22, 3), (.iload_n 3, 1), (.iaload, 1), (.iload_n 1, 1), (.ishr, 1), (.iconst 1, 1), (.iand, 1), (.istore 4, 2), (.aload_n 0, 1), (.getfield 22, 3), (.iload_n 3, 1), (.iaload, 1), (.iload_n 2, 1), (.ishr, 1), (.iconst 1, 1), (.iand, 1), (.istore 5, 2), (.aload_n 0, 1), (.getfield 22, 3), (.iload_n 3, 1), (.iaload, 1), (.iconst 1, 1), (.iload_n 1, 1), (.ishl, 1), (.iconst (-1), 1), (.ixor, 1), (.iand, 1), (.iconst 1, 1), (.iload_n 2, 1), (.ishl, 1), (.iconst (-1), 1), (.ixor, 1), (.iand, 1), (.istore 6, 2), (.aload_n 0, 1), (.getfield 22, 3), (.iload_n 3, 1), (.iload 6, 2), (.iload 4, 2), (.iload_n 2, 1), (.ishl, 1), (.ior, 1), (.iload 5, 2), (.iload_n 1, 1), (.ishl, 1), (.ior, 1), (.iastore, 1), (.iinc 3 1, 3), (.goto (-73), 3)]),
  (96, [(.iconst 1, 1), (.ireturn, 1)])]
theorem o_MO_swap : (s_MO_swap).all (fun q => ma_dec prog_7_method_34_code q.1 q.2) = true := by decide +kernel
def k_MO_swap : List (Nat × Int32) := []
theorem kk_MO_swap {z : Cond} : ma_Kok "PackingCensusModel" (z :: zw_t) k_MO_swap := fun _ h => absurd h List.not_mem_nil
def e_MO_swap (t_0 : ma_T) : ma_E := [(120, 2, some 5, true, t_0)]
theorem ee_MO_swap {l : Launch} {dep : Nat} {z : Cond} {t_0 : ma_T} {d_0 : Nat} (h_0 : ma_Met l y_MO_isPoint (w_MO_isPoint :: zw_t) d_0 true t_0) (e_0 : d_0 + 1 ≤ dep) : ma_Eok l "PackingCensusModel" (z :: zw_t) dep (e_MO_swap t_0) := List.forall_mem_cons.mpr ⟨Or.inr ⟨y_MO_isPoint, prog_7_method_4_code, 2, d_0, 1, (some .boolean), zw_t, h_0, zw_in m_MO_isPoint, e_0, by decide, List.mem_cons_of_mem _ (zw_m (w := .methodLink "PackingCensusModel" 120 y_MO_isPoint) (i := 624) (by decide +kernel) (by decide +kernel)), List.mem_cons_of_mem _ (zw_m (i := 39) (by decide +kernel) (by decide +kernel)), ⟨by decide, by decide, by decide +kernel⟩, Or.inr ⟨5, (zc_MO, zt_MO, 18), rfl, rfl, List.mem_cons_of_mem _ (zw_m (i := 626) (by decide +kernel) (by decide +kernel)), rfl, List.mem_cons_of_mem _ (zw_m (i := 28) (by decide +kernel) (by decide +kernel))⟩⟩, fun _ h => absurd h List.not_mem_nil⟩
theorem z_MO_swap {l : Launch} {dep : Nat} {T : ma_T} {t_0 : ma_T} {d_0 : Nat} (h_0 : ma_Met l y_MO_isPoint (w_MO_isPoint :: zw_t) d_0 true t_0) (e_0 : d_0 + 1 ≤ dep) (hT : ∀ as w post, T as w post → as.length ≤ 7)
    (hB : ∀ as w post, T as w post → ∀ Go, ma_cl k_MO_swap zf_MO (e_MO_swap t_0) none 2 s_MO_swap post Go → Go 0 (as.map some ++ List.replicate (7 - as.length) none) [] w) :
    ma_Met l y_MO_swap (w_MO_swap :: zw_t) dep true T := ma_met (by decide) o_MO_swap (Or.inr (Or.inr ⟨rfl, rfl, rfl⟩)) kk_MO_swap zf_MO_ok (ee_MO_swap h_0 e_0) hT hB
-- PackingCensusModel.copy(I)Z
def s_MO_copy : List (Nat × ma_C) := [
  (0, [(.aload_n 0, 1), (.iload_n 1, 1), (.invokevirtual 104, 3), (.ifCond .ne 5, 3), (.iconst 0, 1), (.ireturn, 1)]),
  (10, [(.aload_n 0, 1), (.aload_n 0, 1), (.getfield 65, 3), (.putfield 68, 3), (.iconst 0, 1), (.istore_n 2, 1)]),
  (20, [(.iload_n 2, 1), (.aload_n 0, 1), (.getfield 68, 3), (.if_icmp .ge 26, 3), (.aload_n 0, 1), (.getfield 22, 3), (.iload_n 2, 1), (.aload_n 0, 1), (.getfield 16, 3), (.bipush 10, 2), (.iload_n 1, 1), (.imul, 1), (.iload_n 2, 1), (.iadd, 1), (.iaload, 1), (.iastore, 1), (.iinc 2 1, 3), (.goto (-28), 3)]),
  (51, [(.iconst 1, 1), (.ireturn, 1)])]
theorem o_MO_copy : (s_MO_copy).all (fun q => ma_dec prog_7_method_35_code q.1 q.2) = true := by decide +kernel
def k_MO_copy : List (Nat × Int32) := []
theorem kk_MO_copy {z : Cond} : ma_Kok "PackingCensusModel" (z :: zw_t) k_MO_copy := fun _ h => absurd h List.not_mem_nil
def e_MO_copy (t_0 : ma_T) : ma_E := [(104, 2, some 5, true, t_0)]
theorem ee_MO_copy {l : Launch} {dep : Nat} {z : Cond} {t_0 : ma_T} {d_0 : Nat} (h_0 : ma_Met l y_MO_isEntry (w_MO_isEntry :: zw_t) d_0 true t_0) (e_0 : d_0 + 1 ≤ dep) : ma_Eok l "PackingCensusModel" (z :: zw_t) dep (e_MO_copy t_0) := List.forall_mem_cons.mpr ⟨Or.inr ⟨y_MO_isEntry, prog_7_method_5_code, 2, d_0, 1, (some .boolean), zw_t, h_0, zw_in m_MO_isEntry, e_0, by decide, List.mem_cons_of_mem _ (zw_m (w := .methodLink "PackingCensusModel" 104 y_MO_isEntry) (i := 595) (by decide +kernel) (by decide +kernel)), List.mem_cons_of_mem _ (zw_m (i := 39) (by decide +kernel) (by decide +kernel)), ⟨by decide, by decide, by decide +kernel⟩, Or.inr ⟨5, (zc_MO, zt_MO, 18), rfl, rfl, List.mem_cons_of_mem _ (zw_m (i := 597) (by decide +kernel) (by decide +kernel)), rfl, List.mem_cons_of_mem _ (zw_m (i := 24) (by decide +kernel) (by decide +kernel))⟩⟩, fun _ h => absurd h List.not_mem_nil⟩
theorem z_MO_copy {l : Launch} {dep : Nat} {T : ma_T} {t_0 : ma_T} {d_0 : Nat} (h_0 : ma_Met l y_MO_isEntry (w_MO_isEntry :: zw_t) d_0 true t_0) (e_0 : d_0 + 1 ≤ dep) (hT : ∀ as w post, T as w post → as.length ≤ 3)
    (hB : ∀ as w post, T as w post → ∀ Go, ma_cl k_MO_copy zf_MO (e_MO_copy t_0) none 2 s_MO_copy post Go → Go 0 (as.map some ++ List.replicate (3 - as.length) none) [] w) :
    ma_Met l y_MO_copy (w_MO_copy :: zw_t) dep true T := ma_met (by decide) o_MO_copy (Or.inr (Or.inr ⟨rfl, rfl, rfl⟩)) kk_MO_copy zf_MO_ok (ee_MO_copy h_0 e_0) hT hB
-- PackingCensusModel.hand(I)I
def s_MO_hand : List (Nat × ma_C) := [
  (0, [(.iload_n 1, 1), (.ifCond .lt 20, 3), (.iload_n 1, 1), (.aload_n 0, 1), (.getfield 68, 3), (.if_icmp .ge 12, 3), (.aload_n 0, 1), (.getfield 22, 3), (.iload_n 1, 1), (.iaload, 1), (.goto 4, 3)]),
  (21, [(.iconst (-1), 1)]),
  (22, [(.ireturn, 1)])]
theorem o_MO_hand : (s_MO_hand).all (fun q => ma_dec prog_7_method_36_code q.1 q.2) = true := by decide +kernel
def k_MO_hand : List (Nat × Int32) := []
theorem kk_MO_hand {z : Cond} : ma_Kok "PackingCensusModel" (z :: zw_t) k_MO_hand := fun _ h => absurd h List.not_mem_nil
def e_MO_hand : ma_E := []
theorem ee_MO_hand {l : Launch} {dep : Nat} {z : Cond} : ma_Eok l "PackingCensusModel" (z :: zw_t) dep (e_MO_hand) := fun _ h => absurd h List.not_mem_nil
theorem z_MO_hand {l : Launch} {dep : Nat} {T : ma_T} (hT : ∀ as w post, T as w post → as.length ≤ 2)
    (hB : ∀ as w post, T as w post → ∀ Go, ma_cl k_MO_hand zf_MO (e_MO_hand) none 1 s_MO_hand post Go → Go 0 (as.map some ++ List.replicate (2 - as.length) none) [] w) :
    ma_Met l y_MO_hand (w_MO_hand :: zw_t) dep true T := ma_met (by decide) o_MO_hand (Or.inr (Or.inl ⟨rfl, rfl, rfl⟩)) kk_MO_hand zf_MO_ok (ee_MO_hand) hT hB
-- PackingCensusModel.rowed(II)I
def s_MO_rowed : List (Nat × ma_C) := [
  (0, [(.iload_n 2, 1), (.istore_n 3, 1), (.iconst 0, 1), (.istore 4, 2)]),
  (5, [(.iload 4, 2), (.aload_n 0, 1), (.getfield 52, 3), (.if_icmp .ge 41, 3), (.iload_n 3, 1), (.aload_n 0, 1), (.getfield 25, 3), (.aload_n 0, 1), (.aload_n 0, 1), (.getfield 7, 3), (.iload 4, 2), (.iaload, 1), (.iload_n 1, 1), (.invokevirtual 71, 3), (.iaload, 1), (.isub, 1), (.istore_n 3, 1), (.iload_n 3, 1), (.ifCond .ge 11, 3), (.aload_n 0, 1), (.getfield 7, 3), (.iload 4, 2), (.iaload, 1), (.ireturn, 1)]),
  (46, [(.iinc 4 1, 3), (.goto (-44), 3)]),
  (52, [(.iconst (-1), 1), (.ireturn, 1)])]
theorem o_MO_rowed : (s_MO_rowed).all (fun q => ma_dec prog_7_method_37_code q.1 q.2) = true := by decide +kernel
def k_MO_rowed : List (Nat × Int32) := []
theorem kk_MO_rowed {z : Cond} : ma_Kok "PackingCensusModel" (z :: zw_t) k_MO_rowed := fun _ h => absurd h List.not_mem_nil
def e_MO_rowed (t_0 : ma_T) : ma_E := [(71, 3, some 5, true, t_0)]
theorem ee_MO_rowed {l : Launch} {dep : Nat} {z : Cond} {t_0 : ma_T} {d_0 : Nat} (h_0 : ma_Met l y_MO_image (w_MO_image :: zw_t) d_0 true t_0) (e_0 : d_0 + 1 ≤ dep) : ma_Eok l "PackingCensusModel" (z :: zw_t) dep (e_MO_rowed t_0) := List.forall_mem_cons.mpr ⟨Or.inr ⟨y_MO_image, prog_7_method_8_code, 5, d_0, 2, (some .int), zw_t, h_0, zw_in m_MO_image, e_0, by decide, List.mem_cons_of_mem _ (zw_m (w := .methodLink "PackingCensusModel" 71 y_MO_image) (i := 579) (by decide +kernel) (by decide +kernel)), List.mem_cons_of_mem _ (zw_m (i := 39) (by decide +kernel) (by decide +kernel)), ⟨by decide, by decide, by decide +kernel⟩, Or.inr ⟨5, (zc_MO, zt_MO, 18), rfl, rfl, List.mem_cons_of_mem _ (zw_m (i := 581) (by decide +kernel) (by decide +kernel)), rfl, List.mem_cons_of_mem _ (zw_m (i := 23) (by decide +kernel) (by decide +kernel))⟩⟩, fun _ h => absurd h List.not_mem_nil⟩
theorem z_MO_rowed {l : Launch} {dep : Nat} {T : ma_T} {t_0 : ma_T} {d_0 : Nat} (h_0 : ma_Met l y_MO_image (w_MO_image :: zw_t) d_0 true t_0) (e_0 : d_0 + 1 ≤ dep) (hT : ∀ as w post, T as w post → as.length ≤ 5)
    (hB : ∀ as w post, T as w post → ∀ Go, ma_cl k_MO_rowed zf_MO (e_MO_rowed t_0) none 1 s_MO_rowed post Go → Go 0 (as.map some ++ List.replicate (5 - as.length) none) [] w) :
    ma_Met l y_MO_rowed (w_MO_rowed :: zw_t) dep true T := ma_met (by decide) o_MO_rowed (Or.inr (Or.inl ⟨rfl, rfl, rfl⟩)) kk_MO_rowed zf_MO_ok (ee_MO_rowed h_0 e_0) hT hB
-- PackingCensusModel.formed(I)I
def s_MO_formed : List (Nat × ma_C) := [
  (0, [(.iload_n 1, 1), (.ifCond .lt 11, 3), (.iload_n 1, 1), (.aload_n 0, 1), (.getfield 68, 3), (.if_icmp .lt 5, 3)]),
  (12, [(.iconst (-1), 1), (.ireturn, 1)]),
  (14, [(.aload_n 0, 1), (.invokevirtual 129, 3), (.aload_n 0, 1), (.invokevirtual 132, 3), (.istore_n 2, 1), (.aload_n 0, 1), (.iload_n 2, 1), (.iload_n 1, 1), (.invokevirtual 135, 3), (.ireturn, 1)])]
theorem o_MO_formed : (s_MO_formed).all (fun q => ma_dec prog_7_method_38_code q.1 q.2) = true := by decide +kernel
def k_MO_formed : List (Nat × Int32) := []
theorem kk_MO_formed {z : Cond} : ma_Kok "PackingCensusModel" (z :: zw_t) k_MO_formed := fun _ h => absurd h List.not_mem_nil
def e_MO_formed (t_0 t_1 t_2 : ma_T) : ma_E := [(129, 1, some 5, false, t_0), (132, 1, some 5, true, t_1), (135, 3, some 5, true, t_2)]
theorem ee_MO_formed {l : Launch} {dep : Nat} {z : Cond} {t_0 t_1 t_2 : ma_T} {d_0 : Nat} (h_0 : ma_Met l y_MO_lookAtHand (w_MO_lookAtHand :: zw_t) d_0 false t_0) (e_0 : d_0 + 1 ≤ dep) {d_1 : Nat} (h_1 : ma_Met l y_MO_leastOne (w_MO_leastOne :: zw_t) d_1 true t_1) (e_1 : d_1 + 1 ≤ dep) {d_2 : Nat} (h_2 : ma_Met l y_MO_rowed (w_MO_rowed :: zw_t) d_2 true t_2) (e_2 : d_2 + 1 ≤ dep) : ma_Eok l "PackingCensusModel" (z :: zw_t) dep (e_MO_formed t_0 t_1 t_2) := List.forall_mem_cons.mpr ⟨Or.inr ⟨y_MO_lookAtHand, prog_7_method_11_code, 2, d_0, 0, none, zw_t, h_0, zw_in m_MO_lookAtHand, e_0, by decide, List.mem_cons_of_mem _ (zw_m (w := .methodLink "PackingCensusModel" 129 y_MO_lookAtHand) (i := 669) (by decide +kernel) (by decide +kernel)), List.mem_cons_of_mem _ (zw_m (i := 39) (by decide +kernel) (by decide +kernel)), ⟨by decide, by decide, by decide +kernel⟩, Or.inr ⟨5, (zc_MO, zt_MO, 18), rfl, rfl, List.mem_cons_of_mem _ (zw_m (i := 671) (by decide +kernel) (by decide +kernel)), rfl, List.mem_cons_of_mem _ (zw_m (i := 30) (by decide +kernel) (by decide +kernel))⟩⟩, List.forall_mem_cons.mpr ⟨Or.inr ⟨y_MO_leastOne, prog_7_method_13_code, 3, d_1, 0, (some .int), zw_t, h_1, zw_in m_MO_leastOne, e_1, by decide, List.mem_cons_of_mem _ (zw_m (w := .methodLink "PackingCensusModel" 132 y_MO_leastOne) (i := 673) (by decide +kernel) (by decide +kernel)), List.mem_cons_of_mem _ (zw_m (i := 39) (by decide +kernel) (by decide +kernel)), ⟨by decide, by decide, by decide +kernel⟩, Or.inr ⟨5, (zc_MO, zt_MO, 18), rfl, rfl, List.mem_cons_of_mem _ (zw_m (i := 675) (by decide +kernel) (by decide +kernel)), rfl, List.mem_cons_of_mem _ (zw_m (i := 31) (by decide +kernel) (by decide +kernel))⟩⟩, List.forall_mem_cons.mpr ⟨Or.inr ⟨y_MO_rowed, prog_7_method_37_code, 5, d_2, 2, (some .int), zw_t, h_2, zw_in m_MO_rowed, e_2, by decide, List.mem_cons_of_mem _ (zw_m (w := .methodLink "PackingCensusModel" 135 y_MO_rowed) (i := 677) (by decide +kernel) (by decide +kernel)), List.mem_cons_of_mem _ (zw_m (i := 39) (by decide +kernel) (by decide +kernel)), ⟨by decide, by decide, by decide +kernel⟩, Or.inr ⟨5, (zc_MO, zt_MO, 18), rfl, rfl, List.mem_cons_of_mem _ (zw_m (i := 679) (by decide +kernel) (by decide +kernel)), rfl, List.mem_cons_of_mem _ (zw_m (i := 32) (by decide +kernel) (by decide +kernel))⟩⟩, fun _ h => absurd h List.not_mem_nil⟩⟩⟩
theorem z_MO_formed {l : Launch} {dep : Nat} {T : ma_T} {t_0 t_1 t_2 : ma_T} {d_0 : Nat} (h_0 : ma_Met l y_MO_lookAtHand (w_MO_lookAtHand :: zw_t) d_0 false t_0) (e_0 : d_0 + 1 ≤ dep) {d_1 : Nat} (h_1 : ma_Met l y_MO_leastOne (w_MO_leastOne :: zw_t) d_1 true t_1) (e_1 : d_1 + 1 ≤ dep) {d_2 : Nat} (h_2 : ma_Met l y_MO_rowed (w_MO_rowed :: zw_t) d_2 true t_2) (e_2 : d_2 + 1 ≤ dep) (hT : ∀ as w post, T as w post → as.length ≤ 3)
    (hB : ∀ as w post, T as w post → ∀ Go, ma_cl k_MO_formed zf_MO (e_MO_formed t_0 t_1 t_2) none 1 s_MO_formed post Go → Go 0 (as.map some ++ List.replicate (3 - as.length) none) [] w) :
    ma_Met l y_MO_formed (w_MO_formed :: zw_t) dep true T := ma_met (by decide) o_MO_formed (Or.inr (Or.inl ⟨rfl, rfl, rfl⟩)) kk_MO_formed zf_MO_ok (ee_MO_formed h_0 e_0 h_1 e_1 h_2 e_2) hT hB
-- PackingCensusModel.symmetries()I
def s_MO_symmetries : List (Nat × ma_C) := [
  (0, [(.aload_n 0, 1), (.getfield 34, 3), (.ifCond .ne 5, 3), (.iconst (-1), 1), (.ireturn, 1)]),
  (9, [(.aload_n 0, 1), (.invokevirtual 129, 3), (.aload_n 0, 1), (.invokevirtual 108, 3), (.ireturn, 1)])]
theorem o_MO_symmetries : (s_MO_symmetries).all (fun q => ma_dec prog_7_method_39_code q.1 q.2) = true := by decide +kernel
def k_MO_symmetries : List (Nat × Int32) := []
theorem kk_MO_symmetries {z : Cond} : ma_Kok "PackingCensusModel" (z :: zw_t) k_MO_symmetries := fun _ h => absurd h List.not_mem_nil
def e_MO_symmetries (t_0 t_1 : ma_T) : ma_E := [(129, 1, some 5, false, t_0), (108, 1, some 5, true, t_1)]
theorem ee_MO_symmetries {l : Launch} {dep : Nat} {z : Cond} {t_0 t_1 : ma_T} {d_0 : Nat} (h_0 : ma_Met l y_MO_lookAtHand (w_MO_lookAtHand :: zw_t) d_0 false t_0) (e_0 : d_0 + 1 ≤ dep) {d_1 : Nat} (h_1 : ma_Met l y_MO_keepers (w_MO_keepers :: zw_t) d_1 true t_1) (e_1 : d_1 + 1 ≤ dep) : ma_Eok l "PackingCensusModel" (z :: zw_t) dep (e_MO_symmetries t_0 t_1) := List.forall_mem_cons.mpr ⟨Or.inr ⟨y_MO_lookAtHand, prog_7_method_11_code, 2, d_0, 0, none, zw_t, h_0, zw_in m_MO_lookAtHand, e_0, by decide, List.mem_cons_of_mem _ (zw_m (w := .methodLink "PackingCensusModel" 129 y_MO_lookAtHand) (i := 669) (by decide +kernel) (by decide +kernel)), List.mem_cons_of_mem _ (zw_m (i := 39) (by decide +kernel) (by decide +kernel)), ⟨by decide, by decide, by decide +kernel⟩, Or.inr ⟨5, (zc_MO, zt_MO, 18), rfl, rfl, List.mem_cons_of_mem _ (zw_m (i := 671) (by decide +kernel) (by decide +kernel)), rfl, List.mem_cons_of_mem _ (zw_m (i := 30) (by decide +kernel) (by decide +kernel))⟩⟩, List.forall_mem_cons.mpr ⟨Or.inr ⟨y_MO_keepers, prog_7_method_15_code, 3, d_1, 0, (some .int), zw_t, h_1, zw_in m_MO_keepers, e_1, by decide, List.mem_cons_of_mem _ (zw_m (w := .methodLink "PackingCensusModel" 108 y_MO_keepers) (i := 603) (by decide +kernel) (by decide +kernel)), List.mem_cons_of_mem _ (zw_m (i := 39) (by decide +kernel) (by decide +kernel)), ⟨by decide, by decide, by decide +kernel⟩, Or.inr ⟨5, (zc_MO, zt_MO, 18), rfl, rfl, List.mem_cons_of_mem _ (zw_m (i := 605) (by decide +kernel) (by decide +kernel)), rfl, List.mem_cons_of_mem _ (zw_m (i := 25) (by decide +kernel) (by decide +kernel))⟩⟩, fun _ h => absurd h List.not_mem_nil⟩⟩
theorem z_MO_symmetries {l : Launch} {dep : Nat} {T : ma_T} {t_0 t_1 : ma_T} {d_0 : Nat} (h_0 : ma_Met l y_MO_lookAtHand (w_MO_lookAtHand :: zw_t) d_0 false t_0) (e_0 : d_0 + 1 ≤ dep) {d_1 : Nat} (h_1 : ma_Met l y_MO_keepers (w_MO_keepers :: zw_t) d_1 true t_1) (e_1 : d_1 + 1 ≤ dep) (hT : ∀ as w post, T as w post → as.length ≤ 1)
    (hB : ∀ as w post, T as w post → ∀ Go, ma_cl k_MO_symmetries zf_MO (e_MO_symmetries t_0 t_1) none 1 s_MO_symmetries post Go → Go 0 (as.map some ++ List.replicate (1 - as.length) none) [] w) :
    ma_Met l y_MO_symmetries (w_MO_symmetries :: zw_t) dep true T := ma_met (by decide) o_MO_symmetries (Or.inr (Or.inl ⟨rfl, rfl, rfl⟩)) kk_MO_symmetries zf_MO_ok (ee_MO_symmetries h_0 e_0 h_1 e_1) hT hB
-- PackingCensusModel.find()I
def s_MO_find : List (Nat × ma_C) := [
  (0, [(.aload_n 0, 1), (.getfield 34, 3), (.ifCond .eq 14, 3), (.aload_n 0, 1), (.getfield 68, 3), (.aload_n 0, 1), (.getfield 65, 3), (.if_icmp .eq 5, 3)]),
  (18, [(.iconst (-1), 1), (.ireturn, 1)]),
  (20, [(.aload_n 0, 1), (.invokevirtual 129, 3), (.aload_n 0, 1), (.invokevirtual 132, 3), (.istore_n 1, 1), (.iconst 0, 1), (.istore_n 2, 1)]),
  (31, [(.iload_n 2, 1), (.aload_n 0, 1), (.getfield 49, 3), (.if_icmp .ge 67, 3), (.iconst 1, 1), (.istore_n 3, 1), (.iconst 0, 1), (.istore 4, 2)]),
  (44, [(.iload 4, 2), (.aload_n 0, 1), (.getfield 65, 3), (.if_icmp .ge 41, 3), (.iload_n 3, 1), (.ifCond .eq 37, 3), (.aload_n 0, 1), (.getfield 16, 3), (.bipush 10, 2), (.iload_n 2, 1), (.imul, 1), (.iload 4, 2), (.iadd, 1), (.iaload, 1), (.aload_n 0, 1), (.iload_n 1, 1), (.iload 4, 2), (.invokevirtual 135, 3), (.if_icmp .ne 7, 3), (.iconst 1, 1), (.goto 4, 3)]),
  (83, [(.iconst 0, 1)]),
  (84, [(.istore_n 3, 1), (.iinc 4 1, 3), (.goto (-44), 3)]),
  (91, [(.iload_n 3, 1), (.ifCond .eq 5, 3), (.iload_n 2, 1), (.ireturn, 1)]),
  (97, [(.iinc 2 1, 3), (.goto (-69), 3)]),
  (103, [(.iconst (-1), 1), (.ireturn, 1)])]
theorem o_MO_find : (s_MO_find).all (fun q => ma_dec prog_7_method_40_code q.1 q.2) = true := by decide +kernel
def k_MO_find : List (Nat × Int32) := []
theorem kk_MO_find {z : Cond} : ma_Kok "PackingCensusModel" (z :: zw_t) k_MO_find := fun _ h => absurd h List.not_mem_nil
def e_MO_find (t_0 t_1 t_2 : ma_T) : ma_E := [(129, 1, some 5, false, t_0), (132, 1, some 5, true, t_1), (135, 3, some 5, true, t_2)]
theorem ee_MO_find {l : Launch} {dep : Nat} {z : Cond} {t_0 t_1 t_2 : ma_T} {d_0 : Nat} (h_0 : ma_Met l y_MO_lookAtHand (w_MO_lookAtHand :: zw_t) d_0 false t_0) (e_0 : d_0 + 1 ≤ dep) {d_1 : Nat} (h_1 : ma_Met l y_MO_leastOne (w_MO_leastOne :: zw_t) d_1 true t_1) (e_1 : d_1 + 1 ≤ dep) {d_2 : Nat} (h_2 : ma_Met l y_MO_rowed (w_MO_rowed :: zw_t) d_2 true t_2) (e_2 : d_2 + 1 ≤ dep) : ma_Eok l "PackingCensusModel" (z :: zw_t) dep (e_MO_find t_0 t_1 t_2) := List.forall_mem_cons.mpr ⟨Or.inr ⟨y_MO_lookAtHand, prog_7_method_11_code, 2, d_0, 0, none, zw_t, h_0, zw_in m_MO_lookAtHand, e_0, by decide, List.mem_cons_of_mem _ (zw_m (w := .methodLink "PackingCensusModel" 129 y_MO_lookAtHand) (i := 669) (by decide +kernel) (by decide +kernel)), List.mem_cons_of_mem _ (zw_m (i := 39) (by decide +kernel) (by decide +kernel)), ⟨by decide, by decide, by decide +kernel⟩, Or.inr ⟨5, (zc_MO, zt_MO, 18), rfl, rfl, List.mem_cons_of_mem _ (zw_m (i := 671) (by decide +kernel) (by decide +kernel)), rfl, List.mem_cons_of_mem _ (zw_m (i := 30) (by decide +kernel) (by decide +kernel))⟩⟩, List.forall_mem_cons.mpr ⟨Or.inr ⟨y_MO_leastOne, prog_7_method_13_code, 3, d_1, 0, (some .int), zw_t, h_1, zw_in m_MO_leastOne, e_1, by decide, List.mem_cons_of_mem _ (zw_m (w := .methodLink "PackingCensusModel" 132 y_MO_leastOne) (i := 673) (by decide +kernel) (by decide +kernel)), List.mem_cons_of_mem _ (zw_m (i := 39) (by decide +kernel) (by decide +kernel)), ⟨by decide, by decide, by decide +kernel⟩, Or.inr ⟨5, (zc_MO, zt_MO, 18), rfl, rfl, List.mem_cons_of_mem _ (zw_m (i := 675) (by decide +kernel) (by decide +kernel)), rfl, List.mem_cons_of_mem _ (zw_m (i := 31) (by decide +kernel) (by decide +kernel))⟩⟩, List.forall_mem_cons.mpr ⟨Or.inr ⟨y_MO_rowed, prog_7_method_37_code, 5, d_2, 2, (some .int), zw_t, h_2, zw_in m_MO_rowed, e_2, by decide, List.mem_cons_of_mem _ (zw_m (w := .methodLink "PackingCensusModel" 135 y_MO_rowed) (i := 677) (by decide +kernel) (by decide +kernel)), List.mem_cons_of_mem _ (zw_m (i := 39) (by decide +kernel) (by decide +kernel)), ⟨by decide, by decide, by decide +kernel⟩, Or.inr ⟨5, (zc_MO, zt_MO, 18), rfl, rfl, List.mem_cons_of_mem _ (zw_m (i := 679) (by decide +kernel) (by decide +kernel)), rfl, List.mem_cons_of_mem _ (zw_m (i := 32) (by decide +kernel) (by decide +kernel))⟩⟩, fun _ h => absurd h List.not_mem_nil⟩⟩⟩
theorem z_MO_find {l : Launch} {dep : Nat} {T : ma_T} {t_0 t_1 t_2 : ma_T} {d_0 : Nat} (h_0 : ma_Met l y_MO_lookAtHand (w_MO_lookAtHand :: zw_t) d_0 false t_0) (e_0 : d_0 + 1 ≤ dep) {d_1 : Nat} (h_1 : ma_Met l y_MO_leastOne (w_MO_leastOne :: zw_t) d_1 true t_1) (e_1 : d_1 + 1 ≤ dep) {d_2 : Nat} (h_2 : ma_Met l y_MO_rowed (w_MO_rowed :: zw_t) d_2 true t_2) (e_2 : d_2 + 1 ≤ dep) (hT : ∀ as w post, T as w post → as.length ≤ 5)
    (hB : ∀ as w post, T as w post → ∀ Go, ma_cl k_MO_find zf_MO (e_MO_find t_0 t_1 t_2) none 1 s_MO_find post Go → Go 0 (as.map some ++ List.replicate (5 - as.length) none) [] w) :
    ma_Met l y_MO_find (w_MO_find :: zw_t) dep true T := ma_met (by decide) o_MO_find (Or.inr (Or.inl ⟨rfl, rfl, rfl⟩)) kk_MO_find zf_MO_ok (ee_MO_find h_0 e_0 h_1 e_1 h_2 e_2) hT hB
-- PackingCensus$Former.isForm(LPackingCensus$Row;)Z
def s_FO_isForm : List (Nat × ma_C) := [
  (0, [(.aload_n 0, 1), (.aload_n 1, 1), (.invokevirtual 34, 3), (.aload_n 0, 1), (.iconst 1, 1), (.putfield 38, 3), (.aload_n 0, 1), (.iconst 0, 1), (.iconst 0, 1), (.invokevirtual 42, 3), (.aload_n 0, 1), (.getfield 46, 3), (.ifCond .ne 7, 3), (.iconst 1, 1), (.goto 4, 3)]),
  (27, [(.iconst 0, 1)]),
  (28, [(.ireturn, 1)])]
theorem o_FO_isForm : (s_FO_isForm).all (fun q => ma_dec prog_2_method_2_code q.1 q.2) = true := by decide +kernel
def k_FO_isForm : List (Nat × Int32) := []
theorem kk_FO_isForm {z : Cond} : ma_Kok "PackingCensus$Former" (z :: zw_t) k_FO_isForm := fun _ h => absurd h List.not_mem_nil
def e_FO_isForm (t_0 t_1 : ma_T) : ma_E := [(34, 2, some 1, false, t_0), (42, 3, some 1, false, t_1)]
theorem ee_FO_isForm {l : Launch} {dep : Nat} {z : Cond} {t_0 t_1 : ma_T} {d_0 : Nat} (h_0 : ma_Met l y_FO_start (w_FO_start :: zw_t) d_0 false t_0) (e_0 : d_0 + 1 ≤ dep) {d_1 : Nat} (h_1 : ma_Met l y_FO_tryPointsFor (w_FO_tryPointsFor :: zw_t) d_1 false t_1) (e_1 : d_1 + 1 ≤ dep) : ma_Eok l "PackingCensus$Former" (z :: zw_t) dep (e_FO_isForm t_0 t_1) := List.forall_mem_cons.mpr ⟨Or.inr ⟨y_FO_start, prog_2_method_6_code, 3, d_0, 1, none, zw_t, h_0, zw_in m_FO_start, e_0, by decide, List.mem_cons_of_mem _ (zw_m (w := .methodLink "PackingCensus$Former" 34 y_FO_start) (i := 279) (by decide +kernel) (by decide +kernel)), List.mem_cons_of_mem _ (zw_m (i := 35) (by decide +kernel) (by decide +kernel)), ⟨by decide, by decide, by decide +kernel⟩, Or.inr ⟨1, (zc_FO, zt_FO, 9), rfl, rfl, List.mem_cons_of_mem _ (zw_m (i := 281) (by decide +kernel) (by decide +kernel)), rfl, List.mem_cons_of_mem _ (zw_m (i := 4) (by decide +kernel) (by decide +kernel))⟩⟩, List.forall_mem_cons.mpr ⟨Or.inr ⟨y_FO_tryPointsFor, prog_2_method_7_code, 4, d_1, 2, none, zw_t, h_1, zw_in m_FO_tryPointsFor, e_1, by decide, List.mem_cons_of_mem _ (zw_m (w := .methodLink "PackingCensus$Former" 42 y_FO_tryPointsFor) (i := 293) (by decide +kernel) (by decide +kernel)), List.mem_cons_of_mem _ (zw_m (i := 35) (by decide +kernel) (by decide +kernel)), ⟨by decide, by decide, by decide +kernel⟩, Or.inr ⟨1, (zc_FO, zt_FO, 9), rfl, rfl, List.mem_cons_of_mem _ (zw_m (i := 295) (by decide +kernel) (by decide +kernel)), rfl, List.mem_cons_of_mem _ (zw_m (i := 5) (by decide +kernel) (by decide +kernel))⟩⟩, fun _ h => absurd h List.not_mem_nil⟩⟩
theorem z_FO_isForm {l : Launch} {dep : Nat} {T : ma_T} {t_0 t_1 : ma_T} {d_0 : Nat} (h_0 : ma_Met l y_FO_start (w_FO_start :: zw_t) d_0 false t_0) (e_0 : d_0 + 1 ≤ dep) {d_1 : Nat} (h_1 : ma_Met l y_FO_tryPointsFor (w_FO_tryPointsFor :: zw_t) d_1 false t_1) (e_1 : d_1 + 1 ≤ dep) (hT : ∀ as w post, T as w post → as.length ≤ 2)
    (hB : ∀ as w post, T as w post → ∀ Go, ma_cl k_FO_isForm zf_FO (e_FO_isForm t_0 t_1) none 2 s_FO_isForm post Go → Go 0 (as.map some ++ List.replicate (2 - as.length) none) [] w) :
    ma_Met l y_FO_isForm (w_FO_isForm :: zw_t) dep true T := ma_met (by decide) o_FO_isForm (Or.inr (Or.inr ⟨rfl, rfl, rfl⟩)) kk_FO_isForm zf_FO_ok (ee_FO_isForm h_0 e_0 h_1 e_1) hT hB
-- PackingCensus$Former.findForm(LPackingCensus$Row;LPackingCensus$Row;)V
def s_FO_findForm : List (Nat × ma_C) := [
  (0, [(.aload_n 0, 1), (.aload_n 1, 1), (.invokevirtual 34, 3), (.aload_n 0, 1), (.iconst 0, 1), (.putfield 38, 3), (.aload_n 0, 1), (.iconst 0, 1), (.iconst 0, 1), (.invokevirtual 42, 3), (.aload_n 2, 1), (.invokevirtual 49, 3), (.iconst 0, 1), (.istore_n 3, 1)]),
  (22, [(.iload_n 3, 1), (.aload_n 0, 1), (.getfield 12, 3), (.invokevirtual 54, 3), (.if_icmp .ge 41, 3), (.iconst 0, 1), (.istore 4, 2)]),
  (36, [(.iload 4, 2), (.aload_n 0, 1), (.getfield 22, 3), (.iload_n 3, 1), (.iaload, 1), (.if_icmp .ge 21, 3), (.aload_n 2, 1), (.aload_n 0, 1), (.getfield 12, 3), (.iload_n 3, 1), (.invokevirtual 58, 3), (.invokevirtual 62, 3), (.iinc 4 1, 3), (.goto (-26), 3)]),
  (65, [(.iinc 3 1, 3), (.goto (-46), 3)]),
  (71, [(.return_, 1)])]
theorem o_FO_findForm : (s_FO_findForm).all (fun q => ma_dec prog_2_method_3_code q.1 q.2) = true := by decide +kernel
def k_FO_findForm : List (Nat × Int32) := []
theorem kk_FO_findForm {z : Cond} : ma_Kok "PackingCensus$Former" (z :: zw_t) k_FO_findForm := fun _ h => absurd h List.not_mem_nil
def e_FO_findForm (t_0 t_1 t_2 t_3 t_4 t_5 : ma_T) : ma_E := [(34, 2, some 1, false, t_0), (42, 3, some 1, false, t_1), (49, 1, some 3, false, t_2), (54, 1, some 2, true, t_3), (58, 2, some 2, true, t_4), (62, 2, some 3, false, t_5)]
theorem ee_FO_findForm {l : Launch} {dep : Nat} {z : Cond} {t_0 t_1 t_2 t_3 t_4 t_5 : ma_T} {d_0 : Nat} (h_0 : ma_Met l y_FO_start (w_FO_start :: zw_t) d_0 false t_0) (e_0 : d_0 + 1 ≤ dep) {d_1 : Nat} (h_1 : ma_Met l y_FO_tryPointsFor (w_FO_tryPointsFor :: zw_t) d_1 false t_1) (e_1 : d_1 + 1 ≤ dep) {d_2 : Nat} (h_2 : ma_Met l y_RO_clear (w_RO_clear :: zw_t) d_2 false t_2) (e_2 : d_2 + 1 ≤ dep) {d_3 : Nat} (h_3 : ma_Met l y_GR_kinds (w_GR_kinds :: zw_t) d_3 true t_3) (e_3 : d_3 + 1 ≤ dep) {d_4 : Nat} (h_4 : ma_Met l y_GR_kind (w_GR_kind :: zw_t) d_4 true t_4) (e_4 : d_4 + 1 ≤ dep) {d_5 : Nat} (h_5 : ma_Met l y_RO_add (w_RO_add :: zw_t) d_5 false t_5) (e_5 : d_5 + 1 ≤ dep) : ma_Eok l "PackingCensus$Former" (z :: zw_t) dep (e_FO_findForm t_0 t_1 t_2 t_3 t_4 t_5) := List.forall_mem_cons.mpr ⟨Or.inr ⟨y_FO_start, prog_2_method_6_code, 3, d_0, 1, none, zw_t, h_0, zw_in m_FO_start, e_0, by decide, List.mem_cons_of_mem _ (zw_m (w := .methodLink "PackingCensus$Former" 34 y_FO_start) (i := 279) (by decide +kernel) (by decide +kernel)), List.mem_cons_of_mem _ (zw_m (i := 35) (by decide +kernel) (by decide +kernel)), ⟨by decide, by decide, by decide +kernel⟩, Or.inr ⟨1, (zc_FO, zt_FO, 9), rfl, rfl, List.mem_cons_of_mem _ (zw_m (i := 281) (by decide +kernel) (by decide +kernel)), rfl, List.mem_cons_of_mem _ (zw_m (i := 4) (by decide +kernel) (by decide +kernel))⟩⟩, List.forall_mem_cons.mpr ⟨Or.inr ⟨y_FO_tryPointsFor, prog_2_method_7_code, 4, d_1, 2, none, zw_t, h_1, zw_in m_FO_tryPointsFor, e_1, by decide, List.mem_cons_of_mem _ (zw_m (w := .methodLink "PackingCensus$Former" 42 y_FO_tryPointsFor) (i := 293) (by decide +kernel) (by decide +kernel)), List.mem_cons_of_mem _ (zw_m (i := 35) (by decide +kernel) (by decide +kernel)), ⟨by decide, by decide, by decide +kernel⟩, Or.inr ⟨1, (zc_FO, zt_FO, 9), rfl, rfl, List.mem_cons_of_mem _ (zw_m (i := 295) (by decide +kernel) (by decide +kernel)), rfl, List.mem_cons_of_mem _ (zw_m (i := 5) (by decide +kernel) (by decide +kernel))⟩⟩, List.forall_mem_cons.mpr ⟨Or.inr ⟨y_RO_clear, prog_5_method_6_code, 1, d_2, 0, none, zw_t, h_2, zw_in m_RO_clear, e_2, by decide, List.mem_cons_of_mem _ (zw_m (w := .methodLink "PackingCensus$Former" 49 y_RO_clear) (i := 452) (by decide +kernel) (by decide +kernel)), List.mem_cons_of_mem _ (zw_m (i := 37) (by decide +kernel) (by decide +kernel)), ⟨by decide, by decide, by decide +kernel⟩, Or.inr ⟨3, (zc_RO, zt_RO, 2), rfl, rfl, List.mem_cons_of_mem _ (zw_m (i := 199) (by decide +kernel) (by decide +kernel)), rfl, List.mem_cons_of_mem _ (zw_m (i := 200) (by decide +kernel) (by decide +kernel))⟩⟩, List.forall_mem_cons.mpr ⟨Or.inr ⟨y_GR_kinds, prog_3_method_7_code, 1, d_3, 0, (some .int), zw_t, h_3, zw_in m_GR_kinds, e_3, by decide, List.mem_cons_of_mem _ (zw_m (w := .methodLink "PackingCensus$Former" 54 y_GR_kinds) (i := 283) (by decide +kernel) (by decide +kernel)), List.mem_cons_of_mem _ (zw_m (i := 36) (by decide +kernel) (by decide +kernel)), ⟨by decide, by decide, by decide +kernel⟩, Or.inr ⟨2, (zc_GR, zt_GR, 5), rfl, rfl, List.mem_cons_of_mem _ (zw_m (i := 255) (by decide +kernel) (by decide +kernel)), rfl, List.mem_cons_of_mem _ (zw_m (i := 256) (by decide +kernel) (by decide +kernel))⟩⟩, List.forall_mem_cons.mpr ⟨Or.inr ⟨y_GR_kind, prog_3_method_8_code, 2, d_4, 1, (some .int), zw_t, h_4, zw_in m_GR_kind, e_4, by decide, List.mem_cons_of_mem _ (zw_m (w := .methodLink "PackingCensus$Former" 58 y_GR_kind) (i := 284) (by decide +kernel) (by decide +kernel)), List.mem_cons_of_mem _ (zw_m (i := 36) (by decide +kernel) (by decide +kernel)), ⟨by decide, by decide, by decide +kernel⟩, Or.inr ⟨2, (zc_GR, zt_GR, 5), rfl, rfl, List.mem_cons_of_mem _ (zw_m (i := 259) (by decide +kernel) (by decide +kernel)), rfl, List.mem_cons_of_mem _ (zw_m (i := 260) (by decide +kernel) (by decide +kernel))⟩⟩, List.forall_mem_cons.mpr ⟨Or.inr ⟨y_RO_add, prog_5_method_7_code, 2, d_5, 1, none, zw_t, h_5, zw_in m_RO_add, e_5, by decide, List.mem_cons_of_mem _ (zw_m (w := .methodLink "PackingCensus$Former" 62 y_RO_add) (i := 453) (by decide +kernel) (by decide +kernel)), List.mem_cons_of_mem _ (zw_m (i := 37) (by decide +kernel) (by decide +kernel)), ⟨by decide, by decide, by decide +kernel⟩, Or.inr ⟨3, (zc_RO, zt_RO, 2), rfl, rfl, List.mem_cons_of_mem _ (zw_m (i := 247) (by decide +kernel) (by decide +kernel)), rfl, List.mem_cons_of_mem _ (zw_m (i := 248) (by decide +kernel) (by decide +kernel))⟩⟩, fun _ h => absurd h List.not_mem_nil⟩⟩⟩⟩⟩⟩
theorem z_FO_findForm {l : Launch} {dep : Nat} {T : ma_T} {t_0 t_1 t_2 t_3 t_4 t_5 : ma_T} {d_0 : Nat} (h_0 : ma_Met l y_FO_start (w_FO_start :: zw_t) d_0 false t_0) (e_0 : d_0 + 1 ≤ dep) {d_1 : Nat} (h_1 : ma_Met l y_FO_tryPointsFor (w_FO_tryPointsFor :: zw_t) d_1 false t_1) (e_1 : d_1 + 1 ≤ dep) {d_2 : Nat} (h_2 : ma_Met l y_RO_clear (w_RO_clear :: zw_t) d_2 false t_2) (e_2 : d_2 + 1 ≤ dep) {d_3 : Nat} (h_3 : ma_Met l y_GR_kinds (w_GR_kinds :: zw_t) d_3 true t_3) (e_3 : d_3 + 1 ≤ dep) {d_4 : Nat} (h_4 : ma_Met l y_GR_kind (w_GR_kind :: zw_t) d_4 true t_4) (e_4 : d_4 + 1 ≤ dep) {d_5 : Nat} (h_5 : ma_Met l y_RO_add (w_RO_add :: zw_t) d_5 false t_5) (e_5 : d_5 + 1 ≤ dep) (hT : ∀ as w post, T as w post → as.length ≤ 5)
    (hB : ∀ as w post, T as w post → ∀ Go, ma_cl k_FO_findForm zf_FO (e_FO_findForm t_0 t_1 t_2 t_3 t_4 t_5) none 0 s_FO_findForm post Go → Go 0 (as.map some ++ List.replicate (5 - as.length) none) [] w) :
    ma_Met l y_FO_findForm (w_FO_findForm :: zw_t) dep false T := ma_met (by decide) o_FO_findForm (Or.inl ⟨rfl, rfl, rfl⟩) kk_FO_findForm zf_FO_ok (ee_FO_findForm h_0 e_0 h_1 e_1 h_2 e_2 h_3 e_3 h_4 e_4 h_5 e_5) hT hB
-- PackingCensus$Former.symmetriesFound()I
def s_FO_symmetriesFound : List (Nat × ma_C) := [
  (0, [(.aload_n 0, 1), (.getfield 66, 3), (.ireturn, 1)])]
theorem o_FO_symmetriesFound : (s_FO_symmetriesFound).all (fun q => ma_dec prog_2_method_4_code q.1 q.2) = true := by decide +kernel
def k_FO_symmetriesFound : List (Nat × Int32) := []
theorem kk_FO_symmetriesFound {z : Cond} : ma_Kok "PackingCensus$Former" (z :: zw_t) k_FO_symmetriesFound := fun _ h => absurd h List.not_mem_nil
def e_FO_symmetriesFound : ma_E := []
theorem ee_FO_symmetriesFound {l : Launch} {dep : Nat} {z : Cond} : ma_Eok l "PackingCensus$Former" (z :: zw_t) dep (e_FO_symmetriesFound) := fun _ h => absurd h List.not_mem_nil
theorem z_FO_symmetriesFound {l : Launch} {dep : Nat} {T : ma_T} (hT : ∀ as w post, T as w post → as.length ≤ 1)
    (hB : ∀ as w post, T as w post → ∀ Go, ma_cl k_FO_symmetriesFound zf_FO (e_FO_symmetriesFound) none 1 s_FO_symmetriesFound post Go → Go 0 (as.map some ++ List.replicate (1 - as.length) none) [] w) :
    ma_Met l y_FO_symmetriesFound (w_FO_symmetriesFound :: zw_t) dep true T := ma_met (by decide) o_FO_symmetriesFound (Or.inr (Or.inl ⟨rfl, rfl, rfl⟩)) kk_FO_symmetriesFound zf_FO_ok (ee_FO_symmetriesFound) hT hB
-- PackingCensus$Former.leastImageFound(I)I
def s_FO_leastImageFound : List (Nat × ma_C) := [
  (0, [(.aload_n 0, 1), (.getfield 31, 3), (.iload_n 1, 1), (.iaload, 1), (.ireturn, 1)])]
theorem o_FO_leastImageFound : (s_FO_leastImageFound).all (fun q => ma_dec prog_2_method_5_code q.1 q.2) = true := by decide +kernel
def k_FO_leastImageFound : List (Nat × Int32) := []
theorem kk_FO_leastImageFound {z : Cond} : ma_Kok "PackingCensus$Former" (z :: zw_t) k_FO_leastImageFound := fun _ h => absurd h List.not_mem_nil
def e_FO_leastImageFound : ma_E := []
theorem ee_FO_leastImageFound {l : Launch} {dep : Nat} {z : Cond} : ma_Eok l "PackingCensus$Former" (z :: zw_t) dep (e_FO_leastImageFound) := fun _ h => absurd h List.not_mem_nil
theorem z_FO_leastImageFound {l : Launch} {dep : Nat} {T : ma_T} (hT : ∀ as w post, T as w post → as.length ≤ 2)
    (hB : ∀ as w post, T as w post → ∀ Go, ma_cl k_FO_leastImageFound zf_FO (e_FO_leastImageFound) none 1 s_FO_leastImageFound post Go → Go 0 (as.map some ++ List.replicate (2 - as.length) none) [] w) :
    ma_Met l y_FO_leastImageFound (w_FO_leastImageFound :: zw_t) dep true T := ma_met (by decide) o_FO_leastImageFound (Or.inr (Or.inl ⟨rfl, rfl, rfl⟩)) kk_FO_leastImageFound zf_FO_ok (ee_FO_leastImageFound) hT hB
-- PackingCensus$Former.start(LPackingCensus$Row;)V
def s_FO_start : List (Nat × ma_C) := [
  (0, [(.iconst 0, 1), (.istore_n 2, 1)]),
  (2, [(.iload_n 2, 1), (.aload_n 0, 1), (.getfield 12, 3), (.invokevirtual 54, 3), (.if_icmp .ge 23, 3), (.aload_n 0, 1), (.getfield 18, 3), (.aload_n 0, 1), (.getfield 12, 3), (.iload_n 2, 1), (.invokevirtual 58, 3), (.iconst 0, 1), (.iastore, 1), (.iinc 2 1, 3), (.goto (-28), 3)]),
  (33, [(.iconst 0, 1), (.istore_n 2, 1)]),
  (35, [(.iload_n 2, 1), (.aload_n 1, 1), (.invokevirtual 70, 3), (.if_icmp .ge 23, 3), (.aload_n 0, 1), (.getfield 18, 3), (.aload_n 1, 1), (.iload_n 2, 1), (.invokevirtual 73, 3), (.dup2, 1), (.iaload, 1), (.iconst 1, 1), (.iadd, 1), (.iastore, 1), (.iinc 2 1, 3), (.goto (-25), 3)]),
  (63, [(.iconst 0, 1), (.istore_n 2, 1)]),
  (65, [(.iload_n 2, 1), (.aload_n 0, 1), (.getfield 12, 3), (.invokevirtual 54, 3), (.if_icmp .ge 28, 3), (.aload_n 0, 1), (.getfield 22, 3), (.iload_n 2, 1), (.aload_n 0, 1), (.getfield 18, 3), (.aload_n 0, 1), (.getfield 12, 3), (.iload_n 2, 1), (.invokevirtual 58, 3), (.iaload, 1), (.iastore, 1), (.iinc 2 1, 3), (.goto (-33), 3)]),
  (101, [(.iconst 0, 1), (.istore_n 2, 1)]),
  (103, [(.iload_n 2, 1), (.bipush 6, 2), (.if_icmp .ge 16, 3), (.aload_n 0, 1), (.getfield 31, 3), (.iload_n 2, 1), (.iload_n 2, 1), (.iastore, 1), (.iinc 2 1, 3), (.goto (-16), 3)]),
  (122, [(.aload_n 0, 1), (.getfield 25, 3), (.iconst 0, 1), (.iconst 0, 1), (.iastore, 1), (.aload_n 0, 1), (.iconst 0, 1), (.putfield 66, 3), (.aload_n 0, 1), (.iconst 0, 1), (.putfield 46, 3), (.return_, 1)])]
theorem o_FO_start : (s_FO_start).all (fun q => ma_dec prog_2_method_6_code q.1 q.2) = true := by decide +kernel
def k_FO_start : List (Nat × Int32) := []
theorem kk_FO_start {z : Cond} : ma_Kok "PackingCensus$Former" (z :: zw_t) k_FO_start := fun _ h => absurd h List.not_mem_nil
def e_FO_start (t_0 t_1 t_2 t_3 : ma_T) : ma_E := [(54, 1, some 2, true, t_0), (58, 2, some 2, true, t_1), (70, 1, some 3, true, t_2), (73, 2, some 3, true, t_3)]
theorem ee_FO_start {l : Launch} {dep : Nat} {z : Cond} {t_0 t_1 t_2 t_3 : ma_T} {d_0 : Nat} (h_0 : ma_Met l y_GR_kinds (w_GR_kinds :: zw_t) d_0 true t_0) (e_0 : d_0 + 1 ≤ dep) {d_1 : Nat} (h_1 : ma_Met l y_GR_kind (w_GR_kind :: zw_t) d_1 true t_1) (e_1 : d_1 + 1 ≤ dep) {d_2 : Nat} (h_2 : ma_Met l y_RO_size (w_RO_size :: zw_t) d_2 true t_2) (e_2 : d_2 + 1 ≤ dep) {d_3 : Nat} (h_3 : ma_Met l y_RO_get (w_RO_get :: zw_t) d_3 true t_3) (e_3 : d_3 + 1 ≤ dep) : ma_Eok l "PackingCensus$Former" (z :: zw_t) dep (e_FO_start t_0 t_1 t_2 t_3) := List.forall_mem_cons.mpr ⟨Or.inr ⟨y_GR_kinds, prog_3_method_7_code, 1, d_0, 0, (some .int), zw_t, h_0, zw_in m_GR_kinds, e_0, by decide, List.mem_cons_of_mem _ (zw_m (w := .methodLink "PackingCensus$Former" 54 y_GR_kinds) (i := 283) (by decide +kernel) (by decide +kernel)), List.mem_cons_of_mem _ (zw_m (i := 36) (by decide +kernel) (by decide +kernel)), ⟨by decide, by decide, by decide +kernel⟩, Or.inr ⟨2, (zc_GR, zt_GR, 5), rfl, rfl, List.mem_cons_of_mem _ (zw_m (i := 255) (by decide +kernel) (by decide +kernel)), rfl, List.mem_cons_of_mem _ (zw_m (i := 256) (by decide +kernel) (by decide +kernel))⟩⟩, List.forall_mem_cons.mpr ⟨Or.inr ⟨y_GR_kind, prog_3_method_8_code, 2, d_1, 1, (some .int), zw_t, h_1, zw_in m_GR_kind, e_1, by decide, List.mem_cons_of_mem _ (zw_m (w := .methodLink "PackingCensus$Former" 58 y_GR_kind) (i := 284) (by decide +kernel) (by decide +kernel)), List.mem_cons_of_mem _ (zw_m (i := 36) (by decide +kernel) (by decide +kernel)), ⟨by decide, by decide, by decide +kernel⟩, Or.inr ⟨2, (zc_GR, zt_GR, 5), rfl, rfl, List.mem_cons_of_mem _ (zw_m (i := 259) (by decide +kernel) (by decide +kernel)), rfl, List.mem_cons_of_mem _ (zw_m (i := 260) (by decide +kernel) (by decide +kernel))⟩⟩, List.forall_mem_cons.mpr ⟨Or.inr ⟨y_RO_size, prog_5_method_2_code, 1, d_2, 0, (some .int), zw_t, h_2, zw_in m_RO_size, e_2, by decide, List.mem_cons_of_mem _ (zw_m (w := .methodLink "PackingCensus$Former" 70 y_RO_size) (i := 285) (by decide +kernel) (by decide +kernel)), List.mem_cons_of_mem _ (zw_m (i := 37) (by decide +kernel) (by decide +kernel)), ⟨by decide, by decide, by decide +kernel⟩, Or.inr ⟨3, (zc_RO, zt_RO, 2), rfl, rfl, List.mem_cons_of_mem _ (zw_m (i := 286) (by decide +kernel) (by decide +kernel)), rfl, List.mem_cons_of_mem _ (zw_m (i := 287) (by decide +kernel) (by decide +kernel))⟩⟩, List.forall_mem_cons.mpr ⟨Or.inr ⟨y_RO_get, prog_5_method_4_code, 2, d_3, 1, (some .int), zw_t, h_3, zw_in m_RO_get, e_3, by decide, List.mem_cons_of_mem _ (zw_m (w := .methodLink "PackingCensus$Former" 73 y_RO_get) (i := 289) (by decide +kernel) (by decide +kernel)), List.mem_cons_of_mem _ (zw_m (i := 37) (by decide +kernel) (by decide +kernel)), ⟨by decide, by decide, by decide +kernel⟩, Or.inr ⟨3, (zc_RO, zt_RO, 2), rfl, rfl, List.mem_cons_of_mem _ (zw_m (i := 290) (by decide +kernel) (by decide +kernel)), rfl, List.mem_cons_of_mem _ (zw_m (i := 291) (by decide +kernel) (by decide +kernel))⟩⟩, fun _ h => absurd h List.not_mem_nil⟩⟩⟩⟩
theorem z_FO_start {l : Launch} {dep : Nat} {T : ma_T} {t_0 t_1 t_2 t_3 : ma_T} {d_0 : Nat} (h_0 : ma_Met l y_GR_kinds (w_GR_kinds :: zw_t) d_0 true t_0) (e_0 : d_0 + 1 ≤ dep) {d_1 : Nat} (h_1 : ma_Met l y_GR_kind (w_GR_kind :: zw_t) d_1 true t_1) (e_1 : d_1 + 1 ≤ dep) {d_2 : Nat} (h_2 : ma_Met l y_RO_size (w_RO_size :: zw_t) d_2 true t_2) (e_2 : d_2 + 1 ≤ dep) {d_3 : Nat} (h_3 : ma_Met l y_RO_get (w_RO_get :: zw_t) d_3 true t_3) (e_3 : d_3 + 1 ≤ dep) (hT : ∀ as w post, T as w post → as.length ≤ 3)
    (hB : ∀ as w post, T as w post → ∀ Go, ma_cl k_FO_start zf_FO (e_FO_start t_0 t_1 t_2 t_3) none 0 s_FO_start post Go → Go 0 (as.map some ++ List.replicate (3 - as.length) none) [] w) :
    ma_Met l y_FO_start (w_FO_start :: zw_t) dep false T := ma_met (by decide) o_FO_start (Or.inl ⟨rfl, rfl, rfl⟩) kk_FO_start zf_FO_ok (ee_FO_start h_0 e_0 h_1 e_1 h_2 e_2 h_3 e_3) hT hB
-- PackingCensus$Former.tryPointsFor(II)V
def s_FO_tryPointsFor : List (Nat × ma_C) := [
  (0, [(.iload_n 1, 1), (.aload_n 0, 1), (.getfield 12, 3), (.invokevirtual 76, 3), (.if_icmp .lt 8, 3), (.aload_n 0, 1), (.invokevirtual 79, 3), (.return_, 1)]),
  (16, [(.iconst 0, 1), (.istore_n 3, 1)]),
  (18, [(.iload_n 3, 1), (.aload_n 0, 1), (.getfield 12, 3), (.invokevirtual 76, 3), (.if_icmp .ge 39, 3), (.iload_n 2, 1), (.iload_n 3, 1), (.ishr, 1), (.iconst 1, 1), (.iand, 1), (.ifCond .ne 10, 3), (.aload_n 0, 1), (.iload_n 1, 1), (.iload_n 3, 1), (.iload_n 2, 1), (.invokevirtual 82, 3)]),
  (44, [(.aload_n 0, 1), (.getfield 46, 3), (.ifCond .eq 11, 3), (.aload_n 0, 1), (.getfield 38, 3), (.ifCond .eq 4, 3), (.return_, 1)]),
  (59, [(.iinc 3 1, 3), (.goto (-44), 3)]),
  (65, [(.return_, 1)])]
theorem o_FO_tryPointsFor : (s_FO_tryPointsFor).all (fun q => ma_dec prog_2_method_7_code q.1 q.2) = true := by decide +kernel
def k_FO_tryPointsFor : List (Nat × Int32) := []
theorem kk_FO_tryPointsFor {z : Cond} : ma_Kok "PackingCensus$Former" (z :: zw_t) k_FO_tryPointsFor := fun _ h => absurd h List.not_mem_nil
def e_FO_tryPointsFor (t_0 t_1 t_2 : ma_T) : ma_E := [(76, 1, some 2, true, t_0), (79, 1, some 1, false, t_1), (82, 4, some 1, false, t_2)]
theorem ee_FO_tryPointsFor {l : Launch} {dep : Nat} {z : Cond} {t_0 t_1 t_2 : ma_T} {d_0 : Nat} (h_0 : ma_Met l y_GR_points (w_GR_points :: zw_t) d_0 true t_0) (e_0 : d_0 + 1 ≤ dep) {d_1 : Nat} (h_1 : ma_Met l y_FO_countRenaming (w_FO_countRenaming :: zw_t) d_1 false t_1) (e_1 : d_1 + 1 ≤ dep) {d_2 : Nat} (h_2 : ma_Met l y_FO_tryPoint (w_FO_tryPoint :: zw_t) d_2 false t_2) (e_2 : d_2 + 1 ≤ dep) : ma_Eok l "PackingCensus$Former" (z :: zw_t) dep (e_FO_tryPointsFor t_0 t_1 t_2) := List.forall_mem_cons.mpr ⟨Or.inr ⟨y_GR_points, prog_3_method_4_code, 1, d_0, 0, (some .int), zw_t, h_0, zw_in m_GR_points, e_0, by decide, List.mem_cons_of_mem _ (zw_m (w := .methodLink "PackingCensus$Former" 76 y_GR_points) (i := 297) (by decide +kernel) (by decide +kernel)), List.mem_cons_of_mem _ (zw_m (i := 36) (by decide +kernel) (by decide +kernel)), ⟨by decide, by decide, by decide +kernel⟩, Or.inr ⟨2, (zc_GR, zt_GR, 5), rfl, rfl, List.mem_cons_of_mem _ (zw_m (i := 267) (by decide +kernel) (by decide +kernel)), rfl, List.mem_cons_of_mem _ (zw_m (i := 268) (by decide +kernel) (by decide +kernel))⟩⟩, List.forall_mem_cons.mpr ⟨Or.inr ⟨y_FO_countRenaming, prog_2_method_12_code, 2, d_1, 0, none, zw_t, h_1, zw_in m_FO_countRenaming, e_1, by decide, List.mem_cons_of_mem _ (zw_m (w := .methodLink "PackingCensus$Former" 79 y_FO_countRenaming) (i := 298) (by decide +kernel) (by decide +kernel)), List.mem_cons_of_mem _ (zw_m (i := 35) (by decide +kernel) (by decide +kernel)), ⟨by decide, by decide, by decide +kernel⟩, Or.inr ⟨1, (zc_FO, zt_FO, 9), rfl, rfl, List.mem_cons_of_mem _ (zw_m (i := 300) (by decide +kernel) (by decide +kernel)), rfl, List.mem_cons_of_mem _ (zw_m (i := 6) (by decide +kernel) (by decide +kernel))⟩⟩, List.forall_mem_cons.mpr ⟨Or.inr ⟨y_FO_tryPoint, prog_2_method_8_code, 4, d_2, 3, none, zw_t, h_2, zw_in m_FO_tryPoint, e_2, by decide, List.mem_cons_of_mem _ (zw_m (w := .methodLink "PackingCensus$Former" 82 y_FO_tryPoint) (i := 305) (by decide +kernel) (by decide +kernel)), List.mem_cons_of_mem _ (zw_m (i := 35) (by decide +kernel) (by decide +kernel)), ⟨by decide, by decide, by decide +kernel⟩, Or.inr ⟨1, (zc_FO, zt_FO, 9), rfl, rfl, List.mem_cons_of_mem _ (zw_m (i := 307) (by decide +kernel) (by decide +kernel)), rfl, List.mem_cons_of_mem _ (zw_m (i := 7) (by decide +kernel) (by decide +kernel))⟩⟩, fun _ h => absurd h List.not_mem_nil⟩⟩⟩
theorem z_FO_tryPointsFor {l : Launch} {dep : Nat} {T : ma_T} {t_0 t_1 t_2 : ma_T} {d_0 : Nat} (h_0 : ma_Met l y_GR_points (w_GR_points :: zw_t) d_0 true t_0) (e_0 : d_0 + 1 ≤ dep) {d_1 : Nat} (h_1 : ma_Met l y_FO_countRenaming (w_FO_countRenaming :: zw_t) d_1 false t_1) (e_1 : d_1 + 1 ≤ dep) {d_2 : Nat} (h_2 : ma_Met l y_FO_tryPoint (w_FO_tryPoint :: zw_t) d_2 false t_2) (e_2 : d_2 + 1 ≤ dep) (hT : ∀ as w post, T as w post → as.length ≤ 4)
    (hB : ∀ as w post, T as w post → ∀ Go, ma_cl k_FO_tryPointsFor zf_FO (e_FO_tryPointsFor t_0 t_1 t_2) none 0 s_FO_tryPointsFor post Go → Go 0 (as.map some ++ List.replicate (4 - as.length) none) [] w) :
    ma_Met l y_FO_tryPointsFor (w_FO_tryPointsFor :: zw_t) dep false T := ma_met (by decide) o_FO_tryPointsFor (Or.inl ⟨rfl, rfl, rfl⟩) kk_FO_tryPointsFor zf_FO_ok (ee_FO_tryPointsFor h_0 e_0 h_1 e_1 h_2 e_2) hT hB
end
section
-- PackingCensus$Former.tryPoint(III)V
def s_FO_tryPoint : List (Nat × ma_C) := [
  (0, [(.aload_n 0, 1), (.iload_n 1, 1), (.iload_n 2, 1), (.invokevirtual 86, 3), (.ifCond .ne 4, 3), (.return_, 1)]),
  (10, [(.aload_n 0, 1), (.getfield 28, 3), (.iload_n 1, 1), (.iload_n 2, 1), (.iastore, 1), (.iload_n 1, 1), (.iconst 1, 1), (.iadd, 1), (.aload_n 0, 1), (.getfield 12, 3), (.invokevirtual 76, 3), (.if_icmp .ge 9, 3), (.aload_n 0, 1), (.iload_n 1, 1), (.iload_n 2, 1), (.invokevirtual 90, 3)]),
  (36, [(.aload_n 0, 1), (.iload_n 1, 1), (.iconst 1, 1), (.iadd, 1), (.iload_n 3, 1), (.iconst 1, 1), (.iload_n 2, 1), (.ishl, 1), (.ior, 1), (.invokevirtual 42, 3), (.return_, 1)])]
theorem o_FO_tryPoint : (s_FO_tryPoint).all (fun q => ma_dec prog_2_method_8_code q.1 q.2) = true := by decide +kernel
def k_FO_tryPoint : List (Nat × Int32) := []
theorem kk_FO_tryPoint {z : Cond} : ma_Kok "PackingCensus$Former" (z :: zw_t) k_FO_tryPoint := fun _ h => absurd h List.not_mem_nil
def e_FO_tryPoint (t_0 t_1 t_2 t_3 : ma_T) : ma_E := [(86, 3, some 1, true, t_0), (76, 1, some 2, true, t_1), (90, 3, some 1, false, t_2), (42, 3, some 1, false, t_3)]
theorem ee_FO_tryPoint {l : Launch} {dep : Nat} {z : Cond} {t_0 t_1 t_2 t_3 : ma_T} {d_0 : Nat} (h_0 : ma_Met l y_FO_isAsGood (w_FO_isAsGood :: zw_t) d_0 true t_0) (e_0 : d_0 + 1 ≤ dep) {d_1 : Nat} (h_1 : ma_Met l y_GR_points (w_GR_points :: zw_t) d_1 true t_1) (e_1 : d_1 + 1 ≤ dep) {d_2 : Nat} (h_2 : ma_Met l y_FO_settleImages (w_FO_settleImages :: zw_t) d_2 false t_2) (e_2 : d_2 + 1 ≤ dep) {d_3 : Nat} (h_3 : ma_Met l y_FO_tryPointsFor (w_FO_tryPointsFor :: zw_t) d_3 false t_3) (e_3 : d_3 + 1 ≤ dep) : ma_Eok l "PackingCensus$Former" (z :: zw_t) dep (e_FO_tryPoint t_0 t_1 t_2 t_3) := List.forall_mem_cons.mpr ⟨Or.inr ⟨y_FO_isAsGood, prog_2_method_10_code, 6, d_0, 2, (some .boolean), zw_t, h_0, zw_in m_FO_isAsGood, e_0, by decide, List.mem_cons_of_mem _ (zw_m (w := .methodLink "PackingCensus$Former" 86 y_FO_isAsGood) (i := 309) (by decide +kernel) (by decide +kernel)), List.mem_cons_of_mem _ (zw_m (i := 35) (by decide +kernel) (by decide +kernel)), ⟨by decide, by decide, by decide +kernel⟩, Or.inr ⟨1, (zc_FO, zt_FO, 9), rfl, rfl, List.mem_cons_of_mem _ (zw_m (i := 311) (by decide +kernel) (by decide +kernel)), rfl, List.mem_cons_of_mem _ (zw_m (i := 8) (by decide +kernel) (by decide +kernel))⟩⟩, List.forall_mem_cons.mpr ⟨Or.inr ⟨y_GR_points, prog_3_method_4_code, 1, d_1, 0, (some .int), zw_t, h_1, zw_in m_GR_points, e_1, by decide, List.mem_cons_of_mem _ (zw_m (w := .methodLink "PackingCensus$Former" 76 y_GR_points) (i := 297) (by decide +kernel) (by decide +kernel)), List.mem_cons_of_mem _ (zw_m (i := 36) (by decide +kernel) (by decide +kernel)), ⟨by decide, by decide, by decide +kernel⟩, Or.inr ⟨2, (zc_GR, zt_GR, 5), rfl, rfl, List.mem_cons_of_mem _ (zw_m (i := 267) (by decide +kernel) (by decide +kernel)), rfl, List.mem_cons_of_mem _ (zw_m (i := 268) (by decide +kernel) (by decide +kernel))⟩⟩, List.forall_mem_cons.mpr ⟨Or.inr ⟨y_FO_settleImages, prog_2_method_9_code, 4, d_2, 2, none, zw_t, h_2, zw_in m_FO_settleImages, e_2, by decide, List.mem_cons_of_mem _ (zw_m (w := .methodLink "PackingCensus$Former" 90 y_FO_settleImages) (i := 321) (by decide +kernel) (by decide +kernel)), List.mem_cons_of_mem _ (zw_m (i := 35) (by decide +kernel) (by decide +kernel)), ⟨by decide, by decide, by decide +kernel⟩, Or.inr ⟨1, (zc_FO, zt_FO, 9), rfl, rfl, List.mem_cons_of_mem _ (zw_m (i := 323) (by decide +kernel) (by decide +kernel)), rfl, List.mem_cons_of_mem _ (zw_m (i := 10) (by decide +kernel) (by decide +kernel))⟩⟩, List.forall_mem_cons.mpr ⟨Or.inr ⟨y_FO_tryPointsFor, prog_2_method_7_code, 4, d_3, 2, none, zw_t, h_3, zw_in m_FO_tryPointsFor, e_3, by decide, List.mem_cons_of_mem _ (zw_m (w := .methodLink "PackingCensus$Former" 42 y_FO_tryPointsFor) (i := 293) (by decide +kernel) (by decide +kernel)), List.mem_cons_of_mem _ (zw_m (i := 35) (by decide +kernel) (by decide +kernel)), ⟨by decide, by decide, by decide +kernel⟩, Or.inr ⟨1, (zc_FO, zt_FO, 9), rfl, rfl, List.mem_cons_of_mem _ (zw_m (i := 295) (by decide +kernel) (by decide +kernel)), rfl, List.mem_cons_of_mem _ (zw_m (i := 5) (by decide +kernel) (by decide +kernel))⟩⟩, fun _ h => absurd h List.not_mem_nil⟩⟩⟩⟩
theorem z_FO_tryPoint {l : Launch} {dep : Nat} {T : ma_T} {t_0 t_1 t_2 t_3 : ma_T} {d_0 : Nat} (h_0 : ma_Met l y_FO_isAsGood (w_FO_isAsGood :: zw_t) d_0 true t_0) (e_0 : d_0 + 1 ≤ dep) {d_1 : Nat} (h_1 : ma_Met l y_GR_points (w_GR_points :: zw_t) d_1 true t_1) (e_1 : d_1 + 1 ≤ dep) {d_2 : Nat} (h_2 : ma_Met l y_FO_settleImages (w_FO_settleImages :: zw_t) d_2 false t_2) (e_2 : d_2 + 1 ≤ dep) {d_3 : Nat} (h_3 : ma_Met l y_FO_tryPointsFor (w_FO_tryPointsFor :: zw_t) d_3 false t_3) (e_3 : d_3 + 1 ≤ dep) (hT : ∀ as w post, T as w post → as.length ≤ 4)
    (hB : ∀ as w post, T as w post → ∀ Go, ma_cl k_FO_tryPoint zf_FO (e_FO_tryPoint t_0 t_1 t_2 t_3) none 0 s_FO_tryPoint post Go → Go 0 (as.map some ++ List.replicate (4 - as.length) none) [] w) :
    ma_Met l y_FO_tryPoint (w_FO_tryPoint :: zw_t) dep false T := ma_met (by decide) o_FO_tryPoint (Or.inl ⟨rfl, rfl, rfl⟩) kk_FO_tryPoint zf_FO_ok (ee_FO_tryPoint h_0 e_0 h_1 e_1 h_2 e_2 h_3 e_3) hT hB
-- PackingCensus$Former.settleImages(II)V
def s_FO_settleImages : List (Nat × ma_C) := [
  (0, [(.iconst 0, 1), (.istore_n 3, 1)]),
  (2, [(.iload_n 3, 1), (.iconst 1, 1), (.iload_n 1, 1), (.ishl, 1), (.if_icmp .ge 29, 3), (.aload_n 0, 1), (.getfield 25, 3), (.iconst 1, 1), (.iload_n 1, 1), (.ishl, 1), (.iload_n 3, 1), (.ior, 1), (.aload_n 0, 1), (.getfield 25, 3), (.iload_n 3, 1), (.iaload, 1), (.iconst 1, 1), (.iload_n 2, 1), (.ishl, 1), (.ior, 1), (.iastore, 1), (.iinc 3 1, 3), (.goto (-30), 3)]),
  (35, [(.return_, 1)])]
theorem o_FO_settleImages : (s_FO_settleImages).all (fun q => ma_dec prog_2_method_9_code q.1 q.2) = true := by decide +kernel
def k_FO_settleImages : List (Nat × Int32) := []
theorem kk_FO_settleImages {z : Cond} : ma_Kok "PackingCensus$Former" (z :: zw_t) k_FO_settleImages := fun _ h => absurd h List.not_mem_nil
def e_FO_settleImages : ma_E := []
theorem ee_FO_settleImages {l : Launch} {dep : Nat} {z : Cond} : ma_Eok l "PackingCensus$Former" (z :: zw_t) dep (e_FO_settleImages) := fun _ h => absurd h List.not_mem_nil
theorem z_FO_settleImages {l : Launch} {dep : Nat} {T : ma_T} (hT : ∀ as w post, T as w post → as.length ≤ 4)
    (hB : ∀ as w post, T as w post → ∀ Go, ma_cl k_FO_settleImages zf_FO (e_FO_settleImages) none 0 s_FO_settleImages post Go → Go 0 (as.map some ++ List.replicate (4 - as.length) none) [] w) :
    ma_Met l y_FO_settleImages (w_FO_settleImages :: zw_t) dep false T := ma_met (by decide) o_FO_settleImages (Or.inl ⟨rfl, rfl, rfl⟩) kk_FO_settleImages zf_FO_ok (ee_FO_settleImages) hT hB
-- PackingCensus$Former.isAsGood(II)Z
def s_FO_isAsGood : List (Nat × ma_C) := [
  (0, [(.aload_n 0, 1), (.getfield 12, 3), (.iload_n 1, 1), (.iconst 1, 1), (.iadd, 1), (.invokevirtual 93, 3), (.istore_n 3, 1), (.aload_n 0, 1), (.getfield 12, 3), (.iload_n 1, 1), (.invokevirtual 93, 3), (.istore 4, 2)]),
  (21, [(.iload 4, 2), (.iload_n 3, 1), (.if_icmp .ge 86, 3), (.aload_n 0, 1), (.getfield 18, 3), (.aload_n 0, 1), (.getfield 25, 3), (.aload_n 0, 1), (.getfield 12, 3), (.iload 4, 2), (.invokevirtual 58, 3), (.iconst 1, 1), (.iload_n 1, 1), (.ishl, 1), (.ixor, 1), (.iaload, 1), (.iconst 1, 1), (.iload_n 2, 1), (.ishl, 1), (.ior, 1), (.iaload, 1), (.istore 5, 2), (.iload 5, 2), (.aload_n 0, 1), (.getfield 22, 3), (.iload 4, 2), (.iaload, 1), (.if_icmp .ge 5, 3), (.iconst 0, 1), (.ireturn, 1)]),
  (70, [(.iload 5, 2), (.aload_n 0, 1), (.getfield 22, 3), (.iload 4, 2), (.iaload, 1), (.if_icmp .le 25, 3), (.aload_n 0, 1), (.iconst 1, 1), (.putfield 46, 3), (.aload_n 0, 1), (.getfield 38, 3), (.ifCond .eq 5, 3), (.iconst 0, 1), (.ireturn, 1)]),
  (96, [(.aload_n 0, 1), (.iload 4, 2), (.iload 5, 2), (.invokevirtual 96, 3)]),
  (104, [(.iinc 4 1, 3), (.goto (-86), 3)]),
  (110, [(.iconst 1, 1), (.ireturn, 1)])]
theorem o_FO_isAsGood : (s_FO_isAsGood).all (fun q => ma_dec prog_2_method_10_code q.1 q.2) = true := by decide +kernel
def k_FO_isAsGood : List (Nat × Int32) := []
theorem kk_FO_isAsGood {z : Cond} : ma_Kok "PackingCensus$Former" (z :: zw_t) k_FO_isAsGood := fun _ h => absurd h List.not_mem_nil
def e_FO_isAsGood (t_0 t_1 t_2 : ma_T) : ma_E := [(93, 2, some 2, true, t_0), (58, 2, some 2, true, t_1), (96, 3, some 1, false, t_2)]
theorem ee_FO_isAsGood {l : Launch} {dep : Nat} {z : Cond} {t_0 t_1 t_2 : ma_T} {d_0 : Nat} (h_0 : ma_Met l y_GR_firstKindEndingAt (w_GR_firstKindEndingAt :: zw_t) d_0 true t_0) (e_0 : d_0 + 1 ≤ dep) {d_1 : Nat} (h_1 : ma_Met l y_GR_kind (w_GR_kind :: zw_t) d_1 true t_1) (e_1 : d_1 + 1 ≤ dep) {d_2 : Nat} (h_2 : ma_Met l y_FO_makeBest (w_FO_makeBest :: zw_t) d_2 false t_2) (e_2 : d_2 + 1 ≤ dep) : ma_Eok l "PackingCensus$Former" (z :: zw_t) dep (e_FO_isAsGood t_0 t_1 t_2) := List.forall_mem_cons.mpr ⟨Or.inr ⟨y_GR_firstKindEndingAt, prog_3_method_9_code, 2, d_0, 1, (some .int), zw_t, h_0, zw_in m_GR_firstKindEndingAt, e_0, by decide, List.mem_cons_of_mem _ (zw_m (w := .methodLink "PackingCensus$Former" 93 y_GR_firstKindEndingAt) (i := 313) (by decide +kernel) (by decide +kernel)), List.mem_cons_of_mem _ (zw_m (i := 36) (by decide +kernel) (by decide +kernel)), ⟨by decide, by decide, by decide +kernel⟩, Or.inr ⟨2, (zc_GR, zt_GR, 5), rfl, rfl, List.mem_cons_of_mem _ (zw_m (i := 314) (by decide +kernel) (by decide +kernel)), rfl, List.mem_cons_of_mem _ (zw_m (i := 315) (by decide +kernel) (by decide +kernel))⟩⟩, List.forall_mem_cons.mpr ⟨Or.inr ⟨y_GR_kind, prog_3_method_8_code, 2, d_1, 1, (some .int), zw_t, h_1, zw_in m_GR_kind, e_1, by decide, List.mem_cons_of_mem _ (zw_m (w := .methodLink "PackingCensus$Former" 58 y_GR_kind) (i := 284) (by decide +kernel) (by decide +kernel)), List.mem_cons_of_mem _ (zw_m (i := 36) (by decide +kernel) (by decide +kernel)), ⟨by decide, by decide, by decide +kernel⟩, Or.inr ⟨2, (zc_GR, zt_GR, 5), rfl, rfl, List.mem_cons_of_mem _ (zw_m (i := 259) (by decide +kernel) (by decide +kernel)), rfl, List.mem_cons_of_mem _ (zw_m (i := 260) (by decide +kernel) (by decide +kernel))⟩⟩, List.forall_mem_cons.mpr ⟨Or.inr ⟨y_FO_makeBest, prog_2_method_11_code, 4, d_2, 2, none, zw_t, h_2, zw_in m_FO_makeBest, e_2, by decide, List.mem_cons_of_mem _ (zw_m (w := .methodLink "PackingCensus$Former" 96 y_FO_makeBest) (i := 317) (by decide +kernel) (by decide +kernel)), List.mem_cons_of_mem _ (zw_m (i := 35) (by decide +kernel) (by decide +kernel)), ⟨by decide, by decide, by decide +kernel⟩, Or.inr ⟨1, (zc_FO, zt_FO, 9), rfl, rfl, List.mem_cons_of_mem _ (zw_m (i := 319) (by decide +kernel) (by decide +kernel)), rfl, List.mem_cons_of_mem _ (zw_m (i := 9) (by decide +kernel) (by decide +kernel))⟩⟩, fun _ h => absurd h List.not_mem_nil⟩⟩⟩
theorem z_FO_isAsGood {l : Launch} {dep : Nat} {T : ma_T} {t_0 t_1 t_2 : ma_T} {d_0 : Nat} (h_0 : ma_Met l y_GR_firstKindEndingAt (w_GR_firstKindEndingAt :: zw_t) d_0 true t_0) (e_0 : d_0 + 1 ≤ dep) {d_1 : Nat} (h_1 : ma_Met l y_GR_kind (w_GR_kind :: zw_t) d_1 true t_1) (e_1 : d_1 + 1 ≤ dep) {d_2 : Nat} (h_2 : ma_Met l y_FO_makeBest (w_FO_makeBest :: zw_t) d_2 false t_2) (e_2 : d_2 + 1 ≤ dep) (hT : ∀ as w post, T as w post → as.length ≤ 6)
    (hB : ∀ as w post, T as w post → ∀ Go, ma_cl k_FO_isAsGood zf_FO (e_FO_isAsGood t_0 t_1 t_2) none 2 s_FO_isAsGood post Go → Go 0 (as.map some ++ List.replicate (6 - as.length) none) [] w) :
    ma_Met l y_FO_isAsGood (w_FO_isAsGood :: zw_t) dep true T := ma_met (by decide) o_FO_isAsGood (Or.inr (Or.inr ⟨rfl, rfl, rfl⟩)) kk_FO_isAsGood zf_FO_ok (ee_FO_isAsGood h_0 e_0 h_1 e_1 h_2 e_2) hT hB
-- PackingCensus$Former.makeBest(II)V
def s_FO_makeBest : List (Nat × ma_C) := [
  (0, [(.aload_n 0, 1), (.getfield 22, 3), (.iload_n 1, 1), (.iload_n 2, 1), (.iastore, 1), (.iload_n 1, 1), (.iconst 1, 1), (.iadd, 1), (.istore_n 3, 1)]),
  (11, [(.iload_n 3, 1), (.bipush 20, 2), (.if_icmp .ge 16, 3), (.aload_n 0, 1), (.getfield 22, 3), (.iload_n 3, 1), (.iconst (-1), 1), (.iastore, 1), (.iinc 3 1, 3), (.goto (-16), 3)]),
  (30, [(.aload_n 0, 1), (.iconst 0, 1), (.putfield 66, 3), (.return_, 1)])]
theorem o_FO_makeBest : (s_FO_makeBest).all (fun q => ma_dec prog_2_method_11_code q.1 q.2) = true := by decide +kernel
def k_FO_makeBest : List (Nat × Int32) := []
theorem kk_FO_makeBest {z : Cond} : ma_Kok "PackingCensus$Former" (z :: zw_t) k_FO_makeBest := fun _ h => absurd h List.not_mem_nil
def e_FO_makeBest : ma_E := []
theorem ee_FO_makeBest {l : Launch} {dep : Nat} {z : Cond} : ma_Eok l "PackingCensus$Former" (z :: zw_t) dep (e_FO_makeBest) := fun _ h => absurd h List.not_mem_nil
theorem z_FO_makeBest {l : Launch} {dep : Nat} {T : ma_T} (hT : ∀ as w post, T as w post → as.length ≤ 4)
    (hB : ∀ as w post, T as w post → ∀ Go, ma_cl k_FO_makeBest zf_FO (e_FO_makeBest) none 0 s_FO_makeBest post Go → Go 0 (as.map some ++ List.replicate (4 - as.length) none) [] w) :
    ma_Met l y_FO_makeBest (w_FO_makeBest :: zw_t) dep false T := ma_met (by decide) o_FO_makeBest (Or.inl ⟨rfl, rfl, rfl⟩) kk_FO_makeBest zf_FO_ok (ee_FO_makeBest) hT hB
-- PackingCensus$Former.countRenaming()V
def s_FO_countRenaming : List (Nat × ma_C) := [
  (0, [(.aload_n 0, 1), (.dup, 1), (.getfield 66, 3), (.iconst 1, 1), (.iadd, 1), (.putfield 66, 3), (.iconst 0, 1), (.istore_n 1, 1)]),
  (12, [(.iload_n 1, 1), (.aload_n 0, 1), (.getfield 12, 3), (.invokevirtual 76, 3), (.if_icmp .ge 30, 3), (.aload_n 0, 1), (.getfield 31, 3), (.iload_n 1, 1), (.aload_n 0, 1), (.getfield 31, 3), (.iload_n 1, 1), (.iaload, 1), (.aload_n 0, 1), (.getfield 28, 3), (.iload_n 1, 1), (.iaload, 1), (.invokestatic 99, 3), (.iastore, 1), (.iinc 1 1, 3), (.goto (-35), 3)]),
  (50, [(.return_, 1)])]
theorem o_FO_countRenaming : (s_FO_countRenaming).all (fun q => ma_dec prog_2_method_12_code q.1 q.2) = true := by decide +kernel
def k_FO_countRenaming : List (Nat × Int32) := []
theorem kk_FO_countRenaming {z : Cond} : ma_Kok "PackingCensus$Former" (z :: zw_t) k_FO_countRenaming := fun _ h => absurd h List.not_mem_nil
def e_FO_countRenaming (t_0 : ma_T) : ma_E := [(76, 1, some 2, true, t_0), (99, 2, none, true, ma_min)]
theorem ee_FO_countRenaming {l : Launch} {dep : Nat} {z : Cond} {t_0 : ma_T} {d_0 : Nat} (h_0 : ma_Met l y_GR_points (w_GR_points :: zw_t) d_0 true t_0) (e_0 : d_0 + 1 ≤ dep) (hmin : 1 ≤ dep) : ma_Eok l "PackingCensus$Former" (z :: zw_t) dep (e_FO_countRenaming t_0) := List.forall_mem_cons.mpr ⟨Or.inr ⟨y_GR_points, prog_3_method_4_code, 1, d_0, 0, (some .int), zw_t, h_0, zw_in m_GR_points, e_0, by decide, List.mem_cons_of_mem _ (zw_m (w := .methodLink "PackingCensus$Former" 76 y_GR_points) (i := 297) (by decide +kernel) (by decide +kernel)), List.mem_cons_of_mem _ (zw_m (i := 36) (by decide +kernel) (by decide +kernel)), ⟨by decide, by decide, by decide +kernel⟩, Or.inr ⟨2, (zc_GR, zt_GR, 5), rfl, rfl, List.mem_cons_of_mem _ (zw_m (i := 267) (by decide +kernel) (by decide +kernel)), rfl, List.mem_cons_of_mem _ (zw_m (i := 268) (by decide +kernel) (by decide +kernel))⟩⟩, List.forall_mem_cons.mpr ⟨Or.inl ⟨rfl, List.mem_cons_of_mem _ (zw_m (w := .methodLink "PackingCensus$Former" 99 Lib.Math.min.name) (i := 302) (by decide +kernel) (by decide +kernel)), List.mem_cons_of_mem _ (zw_m (w := .static Lib.Math.min.name) (i := 303) (by decide +kernel) (by decide +kernel)), List.mem_cons_of_mem _ (zw_m (w := .initialized "java/lang/Math") (i := 41) (by decide +kernel) (by decide +kernel)), List.mem_cons_of_mem _ (zw_m (w := .code Lib.Math.min.name Lib.Math.min.code 2 (some .int)) (i := 304) (by decide +kernel) (by decide +kernel)), hmin⟩, fun _ h => absurd h List.not_mem_nil⟩⟩
theorem z_FO_countRenaming {l : Launch} {dep : Nat} {T : ma_T} {t_0 : ma_T} {d_0 : Nat} (h_0 : ma_Met l y_GR_points (w_GR_points :: zw_t) d_0 true t_0) (e_0 : d_0 + 1 ≤ dep) (hmin : 1 ≤ dep) (hT : ∀ as w post, T as w post → as.length ≤ 2)
    (hB : ∀ as w post, T as w post → ∀ Go, ma_cl k_FO_countRenaming zf_FO (e_FO_countRenaming t_0) none 0 s_FO_countRenaming post Go → Go 0 (as.map some ++ List.replicate (2 - as.length) none) [] w) :
    ma_Met l y_FO_countRenaming (w_FO_countRenaming :: zw_t) dep false T := ma_met (by decide) o_FO_countRenaming (Or.inl ⟨rfl, rfl, rfl⟩) kk_FO_countRenaming zf_FO_ok (ee_FO_countRenaming h_0 e_0 hmin) hT hB
-- PackingCensus$Ground.lay(II)V
def s_GR_lay : List (Nat × ma_C) := [
  (0, [(.aload_n 0, 1), (.iload_n 1, 1), (.putfield 18, 3), (.aload_n 0, 1), (.iload_n 2, 1), (.putfield 22, 3), (.aload_n 0, 1), (.iconst 0, 1), (.putfield 25, 3), (.iconst 0, 1), (.istore_n 3, 1)]),
  (17, [(.iload_n 3, 1), (.iload_n 1, 1), (.if_icmp .ge 24, 3), (.aload_n 0, 1), (.getfield 15, 3), (.iload_n 3, 1), (.aload_n 0, 1), (.getfield 25, 3), (.iastore, 1), (.aload_n 0, 1), (.iload_n 3, 1), (.invokevirtual 28, 3), (.iinc 3 1, 3), (.goto (-23), 3)]),
  (43, [(.aload_n 0, 1), (.getfield 15, 3), (.iload_n 1, 1), (.aload_n 0, 1), (.getfield 25, 3), (.iastore, 1), (.return_, 1)])]
theorem o_GR_lay : (s_GR_lay).all (fun q => ma_dec prog_3_method_2_code q.1 q.2) = true := by decide +kernel
def k_GR_lay : List (Nat × Int32) := []
theorem kk_GR_lay {z : Cond} : ma_Kok "PackingCensus$Ground" (z :: zw_t) k_GR_lay := fun _ h => absurd h List.not_mem_nil
def e_GR_lay (t_0 : ma_T) : ma_E := [(28, 2, some 2, false, t_0)]
theorem ee_GR_lay {l : Launch} {dep : Nat} {z : Cond} {t_0 : ma_T} {d_0 : Nat} (h_0 : ma_Met l y_GR_addKindsEndingAt (w_GR_addKindsEndingAt :: zw_t) d_0 false t_0) (e_0 : d_0 + 1 ≤ dep) : ma_Eok l "PackingCensus$Ground" (z :: zw_t) dep (e_GR_lay t_0) := List.forall_mem_cons.mpr ⟨Or.inr ⟨y_GR_addKindsEndingAt, prog_3_method_3_code, 3, d_0, 1, none, zw_t, h_0, zw_in m_GR_addKindsEndingAt, e_0, by decide, List.mem_cons_of_mem _ (zw_m (w := .methodLink "PackingCensus$Ground" 28 y_GR_addKindsEndingAt) (i := 188) (by decide +kernel) (by decide +kernel)), List.mem_cons_of_mem _ (zw_m (i := 36) (by decide +kernel) (by decide +kernel)), ⟨by decide, by decide, by decide +kernel⟩, Or.inr ⟨2, (zc_GR, zt_GR, 5), rfl, rfl, List.mem_cons_of_mem _ (zw_m (i := 190) (by decide +kernel) (by decide +kernel)), rfl, List.mem_cons_of_mem _ (zw_m (i := 0) (by decide +kernel) (by decide +kernel))⟩⟩, fun _ h => absurd h List.not_mem_nil⟩
theorem z_GR_lay {l : Launch} {dep : Nat} {T : ma_T} {t_0 : ma_T} {d_0 : Nat} (h_0 : ma_Met l y_GR_addKindsEndingAt (w_GR_addKindsEndingAt :: zw_t) d_0 false t_0) (e_0 : d_0 + 1 ≤ dep) (hT : ∀ as w post, T as w post → as.length ≤ 4)
    (hB : ∀ as w post, T as w post → ∀ Go, ma_cl k_GR_lay zf_GR (e_GR_lay t_0) none 0 s_GR_lay post Go → Go 0 (as.map some ++ List.replicate (4 - as.length) none) [] w) :
    ma_Met l y_GR_lay (w_GR_lay :: zw_t) dep false T := ma_met (by decide) o_GR_lay (Or.inl ⟨rfl, rfl, rfl⟩) kk_GR_lay zf_GR_ok (ee_GR_lay h_0 e_0) hT hB
-- PackingCensus$Ground.addKindsEndingAt(I)V
def s_GR_addKindsEndingAt : List (Nat × ma_C) := [
  (0, [(.iconst 1, 1), (.iload_n 1, 1), (.ishl, 1), (.istore_n 2, 1)]),
  (4, [(.iload_n 2, 1), (.iconst 2, 1), (.iload_n 1, 1), (.ishl, 1), (.if_icmp .ge 49, 3), (.iload_n 2, 1), (.invokestatic 32, 3), (.aload_n 0, 1), (.getfield 22, 3), (.if_icmp .ne 32, 3), (.aload_n 0, 1), (.getfield 25, 3), (.bipush 20, 2), (.if_icmp .ge 23, 3), (.aload_n 0, 1), (.getfield 9, 3), (.aload_n 0, 1), (.getfield 25, 3), (.iload_n 2, 1), (.iastore, 1), (.aload_n 0, 1), (.dup, 1), (.getfield 25, 3), (.iconst 1, 1), (.iadd, 1), (.putfield 25, 3)]),
  (51, [(.iinc 2 1, 3), (.goto (-50), 3)]),
  (57, [(.return_, 1)])]
theorem o_GR_addKindsEndingAt : (s_GR_addKindsEndingAt).all (fun q => ma_dec prog_3_method_3_code q.1 q.2) = true := by decide +kernel
def k_GR_addKindsEndingAt : List (Nat × Int32) := []
theorem kk_GR_addKindsEndingAt {z : Cond} : ma_Kok "PackingCensus$Ground" (z :: zw_t) k_GR_addKindsEndingAt := fun _ h => absurd h List.not_mem_nil
def e_GR_addKindsEndingAt (t_0 : ma_T) : ma_E := [(32, 1, none, true, t_0)]
theorem ee_GR_addKindsEndingAt {l : Launch} {dep : Nat} {z : Cond} {t_0 : ma_T} {d_0 : Nat} (h_0 : ma_Met l y_JI_bitCount (w_JI_bitCount :: zw_t) d_0 true t_0) (e_0 : d_0 + 1 ≤ dep) : ma_Eok l "PackingCensus$Ground" (z :: zw_t) dep (e_GR_addKindsEndingAt t_0) := List.forall_mem_cons.mpr ⟨Or.inr ⟨y_JI_bitCount, prog_8_method_49_code, 1, d_0, 1, (some .int), zw_t, h_0, zw_in m_JI_bitCount, e_0, by decide, List.mem_cons_of_mem _ (zw_m (w := .methodLink "PackingCensus$Ground" 32 y_JI_bitCount) (i := 192) (by decide +kernel) (by decide +kernel)), List.mem_cons_of_mem _ (zw_m (i := 40) (by decide +kernel) (by decide +kernel)), ⟨by decide, by decide, by decide +kernel⟩, Or.inl ⟨rfl, rfl, List.mem_cons_of_mem _ (zw_m (i := 193) (by decide +kernel) (by decide +kernel))⟩⟩, fun _ h => absurd h List.not_mem_nil⟩
theorem z_GR_addKindsEndingAt {l : Launch} {dep : Nat} {T : ma_T} {t_0 : ma_T} {d_0 : Nat} (h_0 : ma_Met l y_JI_bitCount (w_JI_bitCount :: zw_t) d_0 true t_0) (e_0 : d_0 + 1 ≤ dep) (hT : ∀ as w post, T as w post → as.length ≤ 3)
    (hB : ∀ as w post, T as w post → ∀ Go, ma_cl k_GR_addKindsEndingAt zf_GR (e_GR_addKindsEndingAt t_0) none 0 s_GR_addKindsEndingAt post Go → Go 0 (as.map some ++ List.replicate (3 - as.length) none) [] w) :
    ma_Met l y_GR_addKindsEndingAt (w_GR_addKindsEndingAt :: zw_t) dep false T := ma_met (by decide) o_GR_addKindsEndingAt (Or.inl ⟨rfl, rfl, rfl⟩) kk_GR_addKindsEndingAt zf_GR_ok (ee_GR_addKindsEndingAt h_0 e_0) hT hB
-- PackingCensus$Ground.points()I
def s_GR_points : List (Nat × ma_C) := [
  (0, [(.aload_n 0, 1), (.getfield 18, 3), (.ireturn, 1)])]
theorem o_GR_points : (s_GR_points).all (fun q => ma_dec prog_3_method_4_code q.1 q.2) = true := by decide +kernel
def k_GR_points : List (Nat × Int32) := []
theorem kk_GR_points {z : Cond} : ma_Kok "PackingCensus$Ground" (z :: zw_t) k_GR_points := fun _ h => absurd h List.not_mem_nil
def e_GR_points : ma_E := []
theorem ee_GR_points {l : Launch} {dep : Nat} {z : Cond} : ma_Eok l "PackingCensus$Ground" (z :: zw_t) dep (e_GR_points) := fun _ h => absurd h List.not_mem_nil
theorem z_GR_points {l : Launch} {dep : Nat} {T : ma_T} (hT : ∀ as w post, T as w post → as.length ≤ 1)
    (hB : ∀ as w post, T as w post → ∀ Go, ma_cl k_GR_points zf_GR (e_GR_points) none 1 s_GR_points post Go → Go 0 (as.map some ++ List.replicate (1 - as.length) none) [] w) :
    ma_Met l y_GR_points (w_GR_points :: zw_t) dep true T := ma_met (by decide) o_GR_points (Or.inr (Or.inl ⟨rfl, rfl, rfl⟩)) kk_GR_points zf_GR_ok (ee_GR_points) hT hB
-- PackingCensus$Ground.isPoint(I)Z
def s_GR_isPoint : List (Nat × ma_C) := [
  (0, [(.iload_n 1, 1), (.ifCond .lt 15, 3), (.iload_n 1, 1), (.aload_n 0, 1), (.getfield 18, 3), (.if_icmp .ge 7, 3), (.iconst 1, 1), (.goto 4, 3)]),
  (16, [(.iconst 0, 1)]),
  (17, [(.ireturn, 1)])]
theorem o_GR_isPoint : (s_GR_isPoint).all (fun q => ma_dec prog_3_method_5_code q.1 q.2) = true := by decide +kernel
def k_GR_isPoint : List (Nat × Int32) := []
theorem kk_GR_isPoint {z : Cond} : ma_Kok "PackingCensus$Ground" (z :: zw_t) k_GR_isPoint := fun _ h => absurd h List.not_mem_nil
def e_GR_isPoint : ma_E := []
theorem ee_GR_isPoint {l : Launch} {dep : Nat} {z : Cond} : ma_Eok l "PackingCensus$Ground" (z :: zw_t) dep (e_GR_isPoint) := fun _ h => absurd h List.not_mem_nil
theorem z_GR_isPoint {l : Launch} {dep : Nat} {T : ma_T} (hT : ∀ as w post, T as w post → as.length ≤ 2)
    (hB : ∀ as w post, T as w post → ∀ Go, ma_cl k_GR_isPoint zf_GR (e_GR_isPoint) none 2 s_GR_isPoint post Go → Go 0 (as.map some ++ List.replicate (2 - as.length) none) [] w) :
    ma_Met l y_GR_isPoint (w_GR_isPoint :: zw_t) dep true T := ma_met (by decide) o_GR_isPoint (Or.inr (Or.inr ⟨rfl, rfl, rfl⟩)) kk_GR_isPoint zf_GR_ok (ee_GR_isPoint) hT hB
-- PackingCensus$Ground.isBlock(I)Z
def s_GR_isBlock : List (Nat × ma_C) := [
  (0, [(.iload_n 1, 1), (.ifCond .lt 28, 3), (.iload_n 1, 1), (.iconst 1, 1), (.aload_n 0, 1), (.getfield 18, 3), (.ishl, 1), (.if_icmp .ge 18, 3), (.iload_n 1, 1), (.invokestatic 32, 3), (.aload_n 0, 1), (.getfield 22, 3), (.if_icmp .ne 7, 3), (.iconst 1, 1), (.goto 4, 3)]),
  (29, [(.iconst 0, 1)]),
  (30, [(.ireturn, 1)])]
theorem o_GR_isBlock : (s_GR_isBlock).all (fun q => ma_dec prog_3_method_6_code q.1 q.2) = true := by decide +kernel
def k_GR_isBlock : List (Nat × Int32) := []
theorem kk_GR_isBlock {z : Cond} : ma_Kok "PackingCensus$Ground" (z :: zw_t) k_GR_isBlock := fun _ h => absurd h List.not_mem_nil
def e_GR_isBlock (t_0 : ma_T) : ma_E := [(32, 1, none, true, t_0)]
theorem ee_GR_isBlock {l : Launch} {dep : Nat} {z : Cond} {t_0 : ma_T} {d_0 : Nat} (h_0 : ma_Met l y_JI_bitCount (w_JI_bitCount :: zw_t) d_0 true t_0) (e_0 : d_0 + 1 ≤ dep) : ma_Eok l "PackingCensus$Ground" (z :: zw_t) dep (e_GR_isBlock t_0) := List.forall_mem_cons.mpr ⟨Or.inr ⟨y_JI_bitCount, prog_8_method_49_code, 1, d_0, 1, (some .int), zw_t, h_0, zw_in m_JI_bitCount, e_0, by decide, List.mem_cons_of_mem _ (zw_m (w := .methodLink "PackingCensus$Ground" 32 y_JI_bitCount) (i := 192) (by decide +kernel) (by decide +kernel)), List.mem_cons_of_mem _ (zw_m (i := 40) (by decide +kernel) (by decide +kernel)), ⟨by decide, by decide, by decide +kernel⟩, Or.inl ⟨rfl, rfl, List.mem_cons_of_mem _ (zw_m (i := 193) (by decide +kernel) (by decide +kernel))⟩⟩, fun _ h => absurd h List.not_mem_nil⟩
theorem z_GR_isBlock {l : Launch} {dep : Nat} {T : ma_T} {t_0 : ma_T} {d_0 : Nat} (h_0 : ma_Met l y_JI_bitCount (w_JI_bitCount :: zw_t) d_0 true t_0) (e_0 : d_0 + 1 ≤ dep) (hT : ∀ as w post, T as w post → as.length ≤ 2)
    (hB : ∀ as w post, T as w post → ∀ Go, ma_cl k_GR_isBlock zf_GR (e_GR_isBlock t_0) none 2 s_GR_isBlock post Go → Go 0 (as.map some ++ List.replicate (2 - as.length) none) [] w) :
    ma_Met l y_GR_isBlock (w_GR_isBlock :: zw_t) dep true T := ma_met (by decide) o_GR_isBlock (Or.inr (Or.inr ⟨rfl, rfl, rfl⟩)) kk_GR_isBlock zf_GR_ok (ee_GR_isBlock h_0 e_0) hT hB
-- PackingCensus$Ground.kinds()I
def s_GR_kinds : List (Nat × ma_C) := [
  (0, [(.aload_n 0, 1), (.getfield 25, 3), (.ireturn, 1)])]
theorem o_GR_kinds : (s_GR_kinds).all (fun q => ma_dec prog_3_method_7_code q.1 q.2) = true := by decide +kernel
def k_GR_kinds : List (Nat × Int32) := []
theorem kk_GR_kinds {z : Cond} : ma_Kok "PackingCensus$Ground" (z :: zw_t) k_GR_kinds := fun _ h => absurd h List.not_mem_nil
def e_GR_kinds : ma_E := []
theorem ee_GR_kinds {l : Launch} {dep : Nat} {z : Cond} : ma_Eok l "PackingCensus$Ground" (z :: zw_t) dep (e_GR_kinds) := fun _ h => absurd h List.not_mem_nil
theorem z_GR_kinds {l : Launch} {dep : Nat} {T : ma_T} (hT : ∀ as w post, T as w post → as.length ≤ 1)
    (hB : ∀ as w post, T as w post → ∀ Go, ma_cl k_GR_kinds zf_GR (e_GR_kinds) none 1 s_GR_kinds post Go → Go 0 (as.map some ++ List.replicate (1 - as.length) none) [] w) :
    ma_Met l y_GR_kinds (w_GR_kinds :: zw_t) dep true T := ma_met (by decide) o_GR_kinds (Or.inr (Or.inl ⟨rfl, rfl, rfl⟩)) kk_GR_kinds zf_GR_ok (ee_GR_kinds) hT hB
-- PackingCensus$Ground.kind(I)I
def s_GR_kind : List (Nat × ma_C) := [
  (0, [(.aload_n 0, 1), (.getfield 9, 3), (.iload_n 1, 1), (.iaload, 1), (.ireturn, 1)])]
theorem o_GR_kind : (s_GR_kind).all (fun q => ma_dec prog_3_method_8_code q.1 q.2) = true := by decide +kernel
def k_GR_kind : List (Nat × Int32) := []
theorem kk_GR_kind {z : Cond} : ma_Kok "PackingCensus$Ground" (z :: zw_t) k_GR_kind := fun _ h => absurd h List.not_mem_nil
def e_GR_kind : ma_E := []
theorem ee_GR_kind {l : Launch} {dep : Nat} {z : Cond} : ma_Eok l "PackingCensus$Ground" (z :: zw_t) dep (e_GR_kind) := fun _ h => absurd h List.not_mem_nil
theorem z_GR_kind {l : Launch} {dep : Nat} {T : ma_T} (hT : ∀ as w post, T as w post → as.length ≤ 2)
    (hB : ∀ as w post, T as w post → ∀ Go, ma_cl k_GR_kind zf_GR (e_GR_kind) none 1 s_GR_kind post Go → Go 0 (as.map some ++ List.replicate (2 - as.length) none) [] w) :
    ma_Met l y_GR_kind (w_GR_kind :: zw_t) dep true T := ma_met (by decide) o_GR_kind (Or.inr (Or.inl ⟨rfl, rfl, rfl⟩)) kk_GR_kind zf_GR_ok (ee_GR_kind) hT hB
-- PackingCensus$Ground.firstKindEndingAt(I)I
def s_GR_firstKindEndingAt : List (Nat × ma_C) := [
  (0, [(.aload_n 0, 1), (.getfield 15, 3), (.iload_n 1, 1), (.iaload, 1), (.ireturn, 1)])]
theorem o_GR_firstKindEndingAt : (s_GR_firstKindEndingAt).all (fun q => ma_dec prog_3_method_9_code q.1 q.2) = true := by decide +kernel
def k_GR_firstKindEndingAt : List (Nat × Int32) := []
theorem kk_GR_firstKindEndingAt {z : Cond} : ma_Kok "PackingCensus$Ground" (z :: zw_t) k_GR_firstKindEndingAt := fun _ h => absurd h List.not_mem_nil
def e_GR_firstKindEndingAt : ma_E := []
theorem ee_GR_firstKindEndingAt {l : Launch} {dep : Nat} {z : Cond} : ma_Eok l "PackingCensus$Ground" (z :: zw_t) dep (e_GR_firstKindEndingAt) := fun _ h => absurd h List.not_mem_nil
theorem z_GR_firstKindEndingAt {l : Launch} {dep : Nat} {T : ma_T} (hT : ∀ as w post, T as w post → as.length ≤ 2)
    (hB : ∀ as w post, T as w post → ∀ Go, ma_cl k_GR_firstKindEndingAt zf_GR (e_GR_firstKindEndingAt) none 1 s_GR_firstKindEndingAt post Go → Go 0 (as.map some ++ List.replicate (2 - as.length) none) [] w) :
    ma_Met l y_GR_firstKindEndingAt (w_GR_firstKindEndingAt :: zw_t) dep true T := ma_met (by decide) o_GR_firstKindEndingAt (Or.inr (Or.inl ⟨rfl, rfl, rfl⟩)) kk_GR_firstKindEndingAt zf_GR_ok (ee_GR_firstKindEndingAt) hT hB
-- PackingCensus$Ground.renamings()I
def s_GR_renamings : List (Nat × ma_C) := [
  (0, [(.iconst 1, 1), (.istore_n 1, 1), (.iconst 2, 1), (.istore_n 2, 1)]),
  (4, [(.iload_n 2, 1), (.aload_n 0, 1), (.getfield 18, 3), (.if_icmp .gt 13, 3), (.iload_n 1, 1), (.iload_n 2, 1), (.imul, 1), (.istore_n 1, 1), (.iinc 2 1, 3), (.goto (-15), 3)]),
  (22, [(.iload_n 1, 1), (.ireturn, 1)])]
theorem o_GR_renamings : (s_GR_renamings).all (fun q => ma_dec prog_3_method_10_code q.1 q.2) = true := by decide +kernel
def k_GR_renamings : List (Nat × Int32) := []
theorem kk_GR_renamings {z : Cond} : ma_Kok "PackingCensus$Ground" (z :: zw_t) k_GR_renamings := fun _ h => absurd h List.not_mem_nil
def e_GR_renamings : ma_E := []
theorem ee_GR_renamings {l : Launch} {dep : Nat} {z : Cond} : ma_Eok l "PackingCensus$Ground" (z :: zw_t) dep (e_GR_renamings) := fun _ h => absurd h List.not_mem_nil
theorem z_GR_renamings {l : Launch} {dep : Nat} {T : ma_T} (hT : ∀ as w post, T as w post → as.length ≤ 3)
    (hB : ∀ as w post, T as w post → ∀ Go, ma_cl k_GR_renamings zf_GR (e_GR_renamings) none 1 s_GR_renamings post Go → Go 0 (as.map some ++ List.replicate (3 - as.length) none) [] w) :
    ma_Met l y_GR_renamings (w_GR_renamings :: zw_t) dep true T := ma_met (by decide) o_GR_renamings (Or.inr (Or.inl ⟨rfl, rfl, rfl⟩)) kk_GR_renamings zf_GR_ok (ee_GR_renamings) hT hB
end
section
-- PackingCensus$Listing.restart(I)V
def s_LI_restart : List (Nat × ma_C) := [
  (0, [(.aload_n 0, 1), (.iload_n 1, 1), (.putfield 21, 3), (.aload_n 0, 1), (.iconst 0, 1), (.putfield 25, 3), (.return_, 1)])]
theorem o_LI_restart : (s_LI_restart).all (fun q => ma_dec prog_4_method_2_code q.1 q.2) = true := by decide +kernel
def k_LI_restart : List (Nat × Int32) := []
theorem kk_LI_restart {z : Cond} : ma_Kok "PackingCensus$Listing" (z :: zw_t) k_LI_restart := fun _ h => absurd h List.not_mem_nil
def e_LI_restart : ma_E := []
theorem ee_LI_restart {l : Launch} {dep : Nat} {z : Cond} : ma_Eok l "PackingCensus$Listing" (z :: zw_t) dep (e_LI_restart) := fun _ h => absurd h List.not_mem_nil
theorem z_LI_restart {l : Launch} {dep : Nat} {T : ma_T} (hT : ∀ as w post, T as w post → as.length ≤ 2)
    (hB : ∀ as w post, T as w post → ∀ Go, ma_cl k_LI_restart zf_LI (e_LI_restart) none 0 s_LI_restart post Go → Go 0 (as.map some ++ List.replicate (2 - as.length) none) [] w) :
    ma_Met l y_LI_restart (w_LI_restart :: zw_t) dep false T := ma_met (by decide) o_LI_restart (Or.inl ⟨rfl, rfl, rfl⟩) kk_LI_restart zf_LI_ok (ee_LI_restart) hT hB
-- PackingCensus$Listing.addEmptyRow(I)V
def s_LI_addEmptyRow : List (Nat × ma_C) := [
  (0, [(.aload_n 0, 1), (.getfield 15, 3), (.iconst 0, 1), (.iload_n 1, 1), (.iastore, 1), (.iconst 0, 1), (.istore_n 2, 1)]),
  (9, [(.iload_n 2, 1), (.bipush 6, 2), (.if_icmp .ge 16, 3), (.aload_n 0, 1), (.getfield 18, 3), (.iload_n 2, 1), (.iconst 0, 1), (.iastore, 1), (.iinc 2 1, 3), (.goto (-16), 3)]),
  (28, [(.aload_n 0, 1), (.iconst 1, 1), (.putfield 25, 3), (.return_, 1)])]
theorem o_LI_addEmptyRow : (s_LI_addEmptyRow).all (fun q => ma_dec prog_4_method_3_code q.1 q.2) = true := by decide +kernel
def k_LI_addEmptyRow : List (Nat × Int32) := []
theorem kk_LI_addEmptyRow {z : Cond} : ma_Kok "PackingCensus$Listing" (z :: zw_t) k_LI_addEmptyRow := fun _ h => absurd h List.not_mem_nil
def e_LI_addEmptyRow : ma_E := []
theorem ee_LI_addEmptyRow {l : Launch} {dep : Nat} {z : Cond} : ma_Eok l "PackingCensus$Listing" (z :: zw_t) dep (e_LI_addEmptyRow) := fun _ h => absurd h List.not_mem_nil
theorem z_LI_addEmptyRow {l : Launch} {dep : Nat} {T : ma_T} (hT : ∀ as w post, T as w post → as.length ≤ 3)
    (hB : ∀ as w post, T as w post → ∀ Go, ma_cl k_LI_addEmptyRow zf_LI (e_LI_addEmptyRow) none 0 s_LI_addEmptyRow post Go → Go 0 (as.map some ++ List.replicate (3 - as.length) none) [] w) :
    ma_Met l y_LI_addEmptyRow (w_LI_addEmptyRow :: zw_t) dep false T := ma_met (by decide) o_LI_addEmptyRow (Or.inl ⟨rfl, rfl, rfl⟩) kk_LI_addEmptyRow zf_LI_ok (ee_LI_addEmptyRow) hT hB
-- PackingCensus$Listing.addRow(LPackingCensus$Row;LPackingCensus$Former;)V
def s_LI_addRow : List (Nat × ma_C) := [
  (0, [(.aload_n 0, 1), (.invokevirtual 28, 3), (.ifCond .ne 14, 3), (.aload_n 1, 1), (.invokevirtual 32, 3), (.aload_n 0, 1), (.getfield 21, 3), (.if_icmp .eq 4, 3)]),
  (18, [(.return_, 1)]),
  (19, [(.iconst 0, 1), (.istore_n 3, 1)]),
  (21, [(.iload_n 3, 1), (.aload_n 0, 1), (.getfield 21, 3), (.if_icmp .ge 28, 3), (.aload_n 0, 1), (.getfield 9, 3), (.aload_n 0, 1), (.getfield 25, 3), (.bipush 10, 2), (.imul, 1), (.iload_n 3, 1), (.iadd, 1), (.aload_n 1, 1), (.iload_n 3, 1), (.invokevirtual 38, 3), (.iastore, 1), (.iinc 3 1, 3), (.goto (-30), 3)]),
  (54, [(.iconst 0, 1), (.istore_n 3, 1)]),
  (56, [(.iload_n 3, 1), (.bipush 6, 2), (.if_icmp .ge 28, 3), (.aload_n 0, 1), (.getfield 18, 3), (.aload_n 0, 1), (.getfield 25, 3), (.bipush 6, 2), (.imul, 1), (.iload_n 3, 1), (.iadd, 1), (.aload_n 2, 1), (.iload_n 3, 1), (.invokevirtual 42, 3), (.iastore, 1), (.iinc 3 1, 3), (.goto (-28), 3)]),
  (87, [(.aload_n 0, 1), (.getfield 15, 3), (.aload_n 0, 1), (.getfield 25, 3), (.aload_n 2, 1), (.invokevirtual 47, 3), (.iastore, 1), (.aload_n 0, 1), (.dup, 1), (.getfield 25, 3), (.iconst 1, 1), (.iadd, 1), (.putfield 25, 3), (.return_, 1)])]
theorem o_LI_addRow : (s_LI_addRow).all (fun q => ma_dec prog_4_method_4_code q.1 q.2) = true := by decide +kernel
def k_LI_addRow : List (Nat × Int32) := []
theorem kk_LI_addRow {z : Cond} : ma_Kok "PackingCensus$Listing" (z :: zw_t) k_LI_addRow := fun _ h => absurd h List.not_mem_nil
def e_LI_addRow (t_0 t_1 t_2 t_3 t_4 : ma_T) : ma_E := [(28, 1, some 4, true, t_0), (32, 1, some 3, true, t_1), (38, 2, some 3, true, t_2), (42, 2, some 1, true, t_3), (47, 1, some 1, true, t_4)]
theorem ee_LI_addRow {l : Launch} {dep : Nat} {z : Cond} {t_0 t_1 t_2 t_3 t_4 : ma_T} {d_0 : Nat} (h_0 : ma_Met l y_LI_isFull (w_LI_isFull :: zw_t) d_0 true t_0) (e_0 : d_0 + 1 ≤ dep) {d_1 : Nat} (h_1 : ma_Met l y_RO_size (w_RO_size :: zw_t) d_1 true t_1) (e_1 : d_1 + 1 ≤ dep) {d_2 : Nat} (h_2 : ma_Met l y_RO_get (w_RO_get :: zw_t) d_2 true t_2) (e_2 : d_2 + 1 ≤ dep) {d_3 : Nat} (h_3 : ma_Met l y_FO_leastImageFound (w_FO_leastImageFound :: zw_t) d_3 true t_3) (e_3 : d_3 + 1 ≤ dep) {d_4 : Nat} (h_4 : ma_Met l y_FO_symmetriesFound (w_FO_symmetriesFound :: zw_t) d_4 true t_4) (e_4 : d_4 + 1 ≤ dep) : ma_Eok l "PackingCensus$Listing" (z :: zw_t) dep (e_LI_addRow t_0 t_1 t_2 t_3 t_4) := List.forall_mem_cons.mpr ⟨Or.inr ⟨y_LI_isFull, prog_4_method_6_code, 1, d_0, 0, (some .boolean), zw_t, h_0, zw_in m_LI_isFull, e_0, by decide, List.mem_cons_of_mem _ (zw_m (w := .methodLink "PackingCensus$Listing" 28 y_LI_isFull) (i := 333) (by decide +kernel) (by decide +kernel)), List.mem_cons_of_mem _ (zw_m (i := 38) (by decide +kernel) (by decide +kernel)), ⟨by decide, by decide, by decide +kernel⟩, Or.inr ⟨4, (zc_LI, zt_LI, 5), rfl, rfl, List.mem_cons_of_mem _ (zw_m (i := 326) (by decide +kernel) (by decide +kernel)), rfl, List.mem_cons_of_mem _ (zw_m (i := 327) (by decide +kernel) (by decide +kernel))⟩⟩, List.forall_mem_cons.mpr ⟨Or.inr ⟨y_RO_size, prog_5_method_2_code, 1, d_1, 0, (some .int), zw_t, h_1, zw_in m_RO_size, e_1, by decide, List.mem_cons_of_mem _ (zw_m (w := .methodLink "PackingCensus$Listing" 32 y_RO_size) (i := 334) (by decide +kernel) (by decide +kernel)), List.mem_cons_of_mem _ (zw_m (i := 37) (by decide +kernel) (by decide +kernel)), ⟨by decide, by decide, by decide +kernel⟩, Or.inr ⟨3, (zc_RO, zt_RO, 2), rfl, rfl, List.mem_cons_of_mem _ (zw_m (i := 286) (by decide +kernel) (by decide +kernel)), rfl, List.mem_cons_of_mem _ (zw_m (i := 287) (by decide +kernel) (by decide +kernel))⟩⟩, List.forall_mem_cons.mpr ⟨Or.inr ⟨y_RO_get, prog_5_method_4_code, 2, d_2, 1, (some .int), zw_t, h_2, zw_in m_RO_get, e_2, by decide, List.mem_cons_of_mem _ (zw_m (w := .methodLink "PackingCensus$Listing" 38 y_RO_get) (i := 335) (by decide +kernel) (by decide +kernel)), List.mem_cons_of_mem _ (zw_m (i := 37) (by decide +kernel) (by decide +kernel)), ⟨by decide, by decide, by decide +kernel⟩, Or.inr ⟨3, (zc_RO, zt_RO, 2), rfl, rfl, List.mem_cons_of_mem _ (zw_m (i := 290) (by decide +kernel) (by decide +kernel)), rfl, List.mem_cons_of_mem _ (zw_m (i := 291) (by decide +kernel) (by decide +kernel))⟩⟩, List.forall_mem_cons.mpr ⟨Or.inr ⟨y_FO_leastImageFound, prog_2_method_5_code, 2, d_3, 1, (some .int), zw_t, h_3, zw_in m_FO_leastImageFound, e_3, by decide, List.mem_cons_of_mem _ (zw_m (w := .methodLink "PackingCensus$Listing" 42 y_FO_leastImageFound) (i := 336) (by decide +kernel) (by decide +kernel)), List.mem_cons_of_mem _ (zw_m (i := 35) (by decide +kernel) (by decide +kernel)), ⟨by decide, by decide, by decide +kernel⟩, Or.inr ⟨1, (zc_FO, zt_FO, 9), rfl, rfl, List.mem_cons_of_mem _ (zw_m (i := 337) (by decide +kernel) (by decide +kernel)), rfl, List.mem_cons_of_mem _ (zw_m (i := 338) (by decide +kernel) (by decide +kernel))⟩⟩, List.forall_mem_cons.mpr ⟨Or.inr ⟨y_FO_symmetriesFound, prog_2_method_4_code, 1, d_4, 0, (some .int), zw_t, h_4, zw_in m_FO_symmetriesFound, e_4, by decide, List.mem_cons_of_mem _ (zw_m (w := .methodLink "PackingCensus$Listing" 47 y_FO_symmetriesFound) (i := 340) (by decide +kernel) (by decide +kernel)), List.mem_cons_of_mem _ (zw_m (i := 35) (by decide +kernel) (by decide +kernel)), ⟨by decide, by decide, by decide +kernel⟩, Or.inr ⟨1, (zc_FO, zt_FO, 9), rfl, rfl, List.mem_cons_of_mem _ (zw_m (i := 341) (by decide +kernel) (by decide +kernel)), rfl, List.mem_cons_of_mem _ (zw_m (i := 342) (by decide +kernel) (by decide +kernel))⟩⟩, fun _ h => absurd h List.not_mem_nil⟩⟩⟩⟩⟩
theorem z_LI_addRow {l : Launch} {dep : Nat} {T : ma_T} {t_0 t_1 t_2 t_3 t_4 : ma_T} {d_0 : Nat} (h_0 : ma_Met l y_LI_isFull (w_LI_isFull :: zw_t) d_0 true t_0) (e_0 : d_0 + 1 ≤ dep) {d_1 : Nat} (h_1 : ma_Met l y_RO_size (w_RO_size :: zw_t) d_1 true t_1) (e_1 : d_1 + 1 ≤ dep) {d_2 : Nat} (h_2 : ma_Met l y_RO_get (w_RO_get :: zw_t) d_2 true t_2) (e_2 : d_2 + 1 ≤ dep) {d_3 : Nat} (h_3 : ma_Met l y_FO_leastImageFound (w_FO_leastImageFound :: zw_t) d_3 true t_3) (e_3 : d_3 + 1 ≤ dep) {d_4 : Nat} (h_4 : ma_Met l y_FO_symmetriesFound (w_FO_symmetriesFound :: zw_t) d_4 true t_4) (e_4 : d_4 + 1 ≤ dep) (hT : ∀ as w post, T as w post → as.length ≤ 4)
    (hB : ∀ as w post, T as w post → ∀ Go, ma_cl k_LI_addRow zf_LI (e_LI_addRow t_0 t_1 t_2 t_3 t_4) none 0 s_LI_addRow post Go → Go 0 (as.map some ++ List.replicate (4 - as.length) none) [] w) :
    ma_Met l y_LI_addRow (w_LI_addRow :: zw_t) dep false T := ma_met (by decide) o_LI_addRow (Or.inl ⟨rfl, rfl, rfl⟩) kk_LI_addRow zf_LI_ok (ee_LI_addRow h_0 e_0 h_1 e_1 h_2 e_2 h_3 e_3 h_4 e_4) hT hB
-- PackingCensus$Listing.size()I
def s_LI_size : List (Nat × ma_C) := [
  (0, [(.aload_n 0, 1), (.getfield 25, 3), (.ireturn, 1)])]
theorem o_LI_size : (s_LI_size).all (fun q => ma_dec prog_4_method_5_code q.1 q.2) = true := by decide +kernel
def k_LI_size : List (Nat × Int32) := []
theorem kk_LI_size {z : Cond} : ma_Kok "PackingCensus$Listing" (z :: zw_t) k_LI_size := fun _ h => absurd h List.not_mem_nil
def e_LI_size : ma_E := []
theorem ee_LI_size {l : Launch} {dep : Nat} {z : Cond} : ma_Eok l "PackingCensus$Listing" (z :: zw_t) dep (e_LI_size) := fun _ h => absurd h List.not_mem_nil
theorem z_LI_size {l : Launch} {dep : Nat} {T : ma_T} (hT : ∀ as w post, T as w post → as.length ≤ 1)
    (hB : ∀ as w post, T as w post → ∀ Go, ma_cl k_LI_size zf_LI (e_LI_size) none 1 s_LI_size post Go → Go 0 (as.map some ++ List.replicate (1 - as.length) none) [] w) :
    ma_Met l y_LI_size (w_LI_size :: zw_t) dep true T := ma_met (by decide) o_LI_size (Or.inr (Or.inl ⟨rfl, rfl, rfl⟩)) kk_LI_size zf_LI_ok (ee_LI_size) hT hB
-- PackingCensus$Listing.isFull()Z
def s_LI_isFull : List (Nat × ma_C) := [
  (0, [(.aload_n 0, 1), (.getfield 25, 3), (.bipush 60, 2), (.if_icmp .lt 7, 3), (.iconst 1, 1), (.goto 4, 3)]),
  (13, [(.iconst 0, 1)]),
  (14, [(.ireturn, 1)])]
theorem o_LI_isFull : (s_LI_isFull).all (fun q => ma_dec prog_4_method_6_code q.1 q.2) = true := by decide +kernel
def k_LI_isFull : List (Nat × Int32) := []
theorem kk_LI_isFull {z : Cond} : ma_Kok "PackingCensus$Listing" (z :: zw_t) k_LI_isFull := fun _ h => absurd h List.not_mem_nil
def e_LI_isFull : ma_E := []
theorem ee_LI_isFull {l : Launch} {dep : Nat} {z : Cond} : ma_Eok l "PackingCensus$Listing" (z :: zw_t) dep (e_LI_isFull) := fun _ h => absurd h List.not_mem_nil
theorem z_LI_isFull {l : Launch} {dep : Nat} {T : ma_T} (hT : ∀ as w post, T as w post → as.length ≤ 1)
    (hB : ∀ as w post, T as w post → ∀ Go, ma_cl k_LI_isFull zf_LI (e_LI_isFull) none 2 s_LI_isFull post Go → Go 0 (as.map some ++ List.replicate (1 - as.length) none) [] w) :
    ma_Met l y_LI_isFull (w_LI_isFull :: zw_t) dep true T := ma_met (by decide) o_LI_isFull (Or.inr (Or.inr ⟨rfl, rfl, rfl⟩)) kk_LI_isFull zf_LI_ok (ee_LI_isFull) hT hB
-- PackingCensus$Listing.has(I)Z
def s_LI_has : List (Nat × ma_C) := [
  (0, [(.iload_n 1, 1), (.ifCond .lt 15, 3), (.iload_n 1, 1), (.aload_n 0, 1), (.getfield 25, 3), (.if_icmp .ge 7, 3), (.iconst 1, 1), (.goto 4, 3)]),
  (16, [(.iconst 0, 1)]),
  (17, [(.ireturn, 1)])]
theorem o_LI_has : (s_LI_has).all (fun q => ma_dec prog_4_method_7_code q.1 q.2) = true := by decide +kernel
def k_LI_has : List (Nat × Int32) := []
theorem kk_LI_has {z : Cond} : ma_Kok "PackingCensus$Listing" (z :: zw_t) k_LI_has := fun _ h => absurd h List.not_mem_nil
def e_LI_has : ma_E := []
theorem ee_LI_has {l : Launch} {dep : Nat} {z : Cond} : ma_Eok l "PackingCensus$Listing" (z :: zw_t) dep (e_LI_has) := fun _ h => absurd h List.not_mem_nil
theorem z_LI_has {l : Launch} {dep : Nat} {T : ma_T} (hT : ∀ as w post, T as w post → as.length ≤ 2)
    (hB : ∀ as w post, T as w post → ∀ Go, ma_cl k_LI_has zf_LI (e_LI_has) none 2 s_LI_has post Go → Go 0 (as.map some ++ List.replicate (2 - as.length) none) [] w) :
    ma_Met l y_LI_has (w_LI_has :: zw_t) dep true T := ma_met (by decide) o_LI_has (Or.inr (Or.inr ⟨rfl, rfl, rfl⟩)) kk_LI_has zf_LI_ok (ee_LI_has) hT hB
-- PackingCensus$Listing.rowLength()I
def s_LI_rowLength : List (Nat × ma_C) := [
  (0, [(.aload_n 0, 1), (.getfield 21, 3), (.ireturn, 1)])]
theorem o_LI_rowLength : (s_LI_rowLength).all (fun q => ma_dec prog_4_method_8_code q.1 q.2) = true := by decide +kernel
def k_LI_rowLength : List (Nat × Int32) := []
theorem kk_LI_rowLength {z : Cond} : ma_Kok "PackingCensus$Listing" (z :: zw_t) k_LI_rowLength := fun _ h => absurd h List.not_mem_nil
def e_LI_rowLength : ma_E := []
theorem ee_LI_rowLength {l : Launch} {dep : Nat} {z : Cond} : ma_Eok l "PackingCensus$Listing" (z :: zw_t) dep (e_LI_rowLength) := fun _ h => absurd h List.not_mem_nil
theorem z_LI_rowLength {l : Launch} {dep : Nat} {T : ma_T} (hT : ∀ as w post, T as w post → as.length ≤ 1)
    (hB : ∀ as w post, T as w post → ∀ Go, ma_cl k_LI_rowLength zf_LI (e_LI_rowLength) none 1 s_LI_rowLength post Go → Go 0 (as.map some ++ List.replicate (1 - as.length) none) [] w) :
    ma_Met l y_LI_rowLength (w_LI_rowLength :: zw_t) dep true T := ma_met (by decide) o_LI_rowLength (Or.inr (Or.inl ⟨rfl, rfl, rfl⟩)) kk_LI_rowLength zf_LI_ok (ee_LI_rowLength) hT hB
-- PackingCensus$Listing.mask(II)I
def s_LI_mask : List (Nat × ma_C) := [
  (0, [(.aload_n 0, 1), (.getfield 9, 3), (.iload_n 1, 1), (.bipush 10, 2), (.imul, 1), (.iload_n 2, 1), (.iadd, 1), (.iaload, 1), (.ireturn, 1)])]
theorem o_LI_mask : (s_LI_mask).all (fun q => ma_dec prog_4_method_9_code q.1 q.2) = true := by decide +kernel
def k_LI_mask : List (Nat × Int32) := []
theorem kk_LI_mask {z : Cond} : ma_Kok "PackingCensus$Listing" (z :: zw_t) k_LI_mask := fun _ h => absurd h List.not_mem_nil
def e_LI_mask : ma_E := []
theorem ee_LI_mask {l : Launch} {dep : Nat} {z : Cond} : ma_Eok l "PackingCensus$Listing" (z :: zw_t) dep (e_LI_mask) := fun _ h => absurd h List.not_mem_nil
theorem z_LI_mask {l : Launch} {dep : Nat} {T : ma_T} (hT : ∀ as w post, T as w post → as.length ≤ 3)
    (hB : ∀ as w post, T as w post → ∀ Go, ma_cl k_LI_mask zf_LI (e_LI_mask) none 1 s_LI_mask post Go → Go 0 (as.map some ++ List.replicate (3 - as.length) none) [] w) :
    ma_Met l y_LI_mask (w_LI_mask :: zw_t) dep true T := ma_met (by decide) o_LI_mask (Or.inr (Or.inl ⟨rfl, rfl, rfl⟩)) kk_LI_mask zf_LI_ok (ee_LI_mask) hT hB
-- PackingCensus$Listing.symmetriesOf(I)I
def s_LI_symmetriesOf : List (Nat × ma_C) := [
  (0, [(.aload_n 0, 1), (.getfield 15, 3), (.iload_n 1, 1), (.iaload, 1), (.ireturn, 1)])]
theorem o_LI_symmetriesOf : (s_LI_symmetriesOf).all (fun q => ma_dec prog_4_method_10_code q.1 q.2) = true := by decide +kernel
def k_LI_symmetriesOf : List (Nat × Int32) := []
theorem kk_LI_symmetriesOf {z : Cond} : ma_Kok "PackingCensus$Listing" (z :: zw_t) k_LI_symmetriesOf := fun _ h => absurd h List.not_mem_nil
def e_LI_symmetriesOf : ma_E := []
theorem ee_LI_symmetriesOf {l : Launch} {dep : Nat} {z : Cond} : ma_Eok l "PackingCensus$Listing" (z :: zw_t) dep (e_LI_symmetriesOf) := fun _ h => absurd h List.not_mem_nil
theorem z_LI_symmetriesOf {l : Launch} {dep : Nat} {T : ma_T} (hT : ∀ as w post, T as w post → as.length ≤ 2)
    (hB : ∀ as w post, T as w post → ∀ Go, ma_cl k_LI_symmetriesOf zf_LI (e_LI_symmetriesOf) none 1 s_LI_symmetriesOf post Go → Go 0 (as.map some ++ List.replicate (2 - as.length) none) [] w) :
    ma_Met l y_LI_symmetriesOf (w_LI_symmetriesOf :: zw_t) dep true T := ma_met (by decide) o_LI_symmetriesOf (Or.inr (Or.inl ⟨rfl, rfl, rfl⟩)) kk_LI_symmetriesOf zf_LI_ok (ee_LI_symmetriesOf) hT hB
-- PackingCensus$Listing.leastImage(II)I
def s_LI_leastImage : List (Nat × ma_C) := [
  (0, [(.aload_n 0, 1), (.getfield 18, 3), (.iload_n 1, 1), (.bipush 6, 2), (.imul, 1), (.iload_n 2, 1), (.iadd, 1), (.iaload, 1), (.ireturn, 1)])]
theorem o_LI_leastImage : (s_LI_leastImage).all (fun q => ma_dec prog_4_method_11_code q.1 q.2) = true := by decide +kernel
def k_LI_leastImage : List (Nat × Int32) := []
theorem kk_LI_leastImage {z : Cond} : ma_Kok "PackingCensus$Listing" (z :: zw_t) k_LI_leastImage := fun _ h => absurd h List.not_mem_nil
def e_LI_leastImage : ma_E := []
theorem ee_LI_leastImage {l : Launch} {dep : Nat} {z : Cond} : ma_Eok l "PackingCensus$Listing" (z :: zw_t) dep (e_LI_leastImage) := fun _ h => absurd h List.not_mem_nil
theorem z_LI_leastImage {l : Launch} {dep : Nat} {T : ma_T} (hT : ∀ as w post, T as w post → as.length ≤ 3)
    (hB : ∀ as w post, T as w post → ∀ Go, ma_cl k_LI_leastImage zf_LI (e_LI_leastImage) none 1 s_LI_leastImage post Go → Go 0 (as.map some ++ List.replicate (3 - as.length) none) [] w) :
    ma_Met l y_LI_leastImage (w_LI_leastImage :: zw_t) dep true T := ma_met (by decide) o_LI_leastImage (Or.inr (Or.inl ⟨rfl, rfl, rfl⟩)) kk_LI_leastImage zf_LI_ok (ee_LI_leastImage) hT hB
-- PackingCensus$Listing.blocksHolding(II)I
def s_LI_blocksHolding : List (Nat × ma_C) := [
  (0, [(.iconst 0, 1), (.istore_n 3, 1), (.iconst 0, 1), (.istore 4, 2)]),
  (5, [(.iload 4, 2), (.aload_n 0, 1), (.getfield 21, 3), (.if_icmp .ge 30, 3), (.iload_n 3, 1), (.aload_n 0, 1), (.iload_n 1, 1), (.iload 4, 2), (.invokevirtual 50, 3), (.iload_n 2, 1), (.iand, 1), (.iload_n 2, 1), (.if_icmp .ne 7, 3), (.iconst 1, 1), (.goto 4, 3)]),
  (32, [(.iconst 0, 1)]),
  (33, [(.iadd, 1), (.istore_n 3, 1), (.iinc 4 1, 3), (.goto (-33), 3)]),
  (41, [(.iload_n 3, 1), (.ireturn, 1)])]
theorem o_LI_blocksHolding : (s_LI_blocksHolding).all (fun q => ma_dec prog_4_method_12_code q.1 q.2) = true := by decide +kernel
def k_LI_blocksHolding : List (Nat × Int32) := []
theorem kk_LI_blocksHolding {z : Cond} : ma_Kok "PackingCensus$Listing" (z :: zw_t) k_LI_blocksHolding := fun _ h => absurd h List.not_mem_nil
def e_LI_blocksHolding (t_0 : ma_T) : ma_E := [(50, 3, some 4, true, t_0)]
theorem ee_LI_blocksHolding {l : Launch} {dep : Nat} {z : Cond} {t_0 : ma_T} {d_0 : Nat} (h_0 : ma_Met l y_LI_mask (w_LI_mask :: zw_t) d_0 true t_0) (e_0 : d_0 + 1 ≤ dep) : ma_Eok l "PackingCensus$Listing" (z :: zw_t) dep (e_LI_blocksHolding t_0) := List.forall_mem_cons.mpr ⟨Or.inr ⟨y_LI_mask, prog_4_method_9_code, 3, d_0, 2, (some .int), zw_t, h_0, zw_in m_LI_mask, e_0, by decide, List.mem_cons_of_mem _ (zw_m (w := .methodLink "PackingCensus$Listing" 50 y_LI_mask) (i := 242) (by decide +kernel) (by decide +kernel)), List.mem_cons_of_mem _ (zw_m (i := 38) (by decide +kernel) (by decide +kernel)), ⟨by decide, by decide, by decide +kernel⟩, Or.inr ⟨4, (zc_LI, zt_LI, 5), rfl, rfl, List.mem_cons_of_mem _ (zw_m (i := 243) (by decide +kernel) (by decide +kernel)), rfl, List.mem_cons_of_mem _ (zw_m (i := 244) (by decide +kernel) (by decide +kernel))⟩⟩, fun _ h => absurd h List.not_mem_nil⟩
theorem z_LI_blocksHolding {l : Launch} {dep : Nat} {T : ma_T} {t_0 : ma_T} {d_0 : Nat} (h_0 : ma_Met l y_LI_mask (w_LI_mask :: zw_t) d_0 true t_0) (e_0 : d_0 + 1 ≤ dep) (hT : ∀ as w post, T as w post → as.length ≤ 5)
    (hB : ∀ as w post, T as w post → ∀ Go, ma_cl k_LI_blocksHolding zf_LI (e_LI_blocksHolding t_0) none 1 s_LI_blocksHolding post Go → Go 0 (as.map some ++ List.replicate (5 - as.length) none) [] w) :
    ma_Met l y_LI_blocksHolding (w_LI_blocksHolding :: zw_t) dep true T := ma_met (by decide) o_LI_blocksHolding (Or.inr (Or.inl ⟨rfl, rfl, rfl⟩)) kk_LI_blocksHolding zf_LI_ok (ee_LI_blocksHolding h_0 e_0) hT hB
-- PackingCensus$Listing.writeTo(ILPackingCensus$Row;)V
def s_LI_writeTo : List (Nat × ma_C) := [
  (0, [(.aload_n 2, 1), (.invokevirtual 54, 3), (.iconst 0, 1), (.istore_n 3, 1)]),
  (6, [(.iload_n 3, 1), (.aload_n 0, 1), (.getfield 21, 3), (.if_icmp .ge 19, 3), (.aload_n 2, 1), (.aload_n 0, 1), (.iload_n 1, 1), (.iload_n 3, 1), (.invokevirtual 50, 3), (.invokevirtual 57, 3), (.iinc 3 1, 3), (.goto (-21), 3)]),
  (30, [(.return_, 1)])]
theorem o_LI_writeTo : (s_LI_writeTo).all (fun q => ma_dec prog_4_method_13_code q.1 q.2) = true := by decide +kernel
def k_LI_writeTo : List (Nat × Int32) := []
theorem kk_LI_writeTo {z : Cond} : ma_Kok "PackingCensus$Listing" (z :: zw_t) k_LI_writeTo := fun _ h => absurd h List.not_mem_nil
def e_LI_writeTo (t_0 t_1 t_2 : ma_T) : ma_E := [(54, 1, some 3, false, t_0), (50, 3, some 4, true, t_1), (57, 2, some 3, false, t_2)]
theorem ee_LI_writeTo {l : Launch} {dep : Nat} {z : Cond} {t_0 t_1 t_2 : ma_T} {d_0 : Nat} (h_0 : ma_Met l y_RO_clear (w_RO_clear :: zw_t) d_0 false t_0) (e_0 : d_0 + 1 ≤ dep) {d_1 : Nat} (h_1 : ma_Met l y_LI_mask (w_LI_mask :: zw_t) d_1 true t_1) (e_1 : d_1 + 1 ≤ dep) {d_2 : Nat} (h_2 : ma_Met l y_RO_add (w_RO_add :: zw_t) d_2 false t_2) (e_2 : d_2 + 1 ≤ dep) : ma_Eok l "PackingCensus$Listing" (z :: zw_t) dep (e_LI_writeTo t_0 t_1 t_2) := List.forall_mem_cons.mpr ⟨Or.inr ⟨y_RO_clear, prog_5_method_6_code, 1, d_0, 0, none, zw_t, h_0, zw_in m_RO_clear, e_0, by decide, List.mem_cons_of_mem _ (zw_m (w := .methodLink "PackingCensus$Listing" 54 y_RO_clear) (i := 241) (by decide +kernel) (by decide +kernel)), List.mem_cons_of_mem _ (zw_m (i := 37) (by decide +kernel) (by decide +kernel)), ⟨by decide, by decide, by decide +kernel⟩, Or.inr ⟨3, (zc_RO, zt_RO, 2), rfl, rfl, List.mem_cons_of_mem _ (zw_m (i := 199) (by decide +kernel) (by decide +kernel)), rfl, List.mem_cons_of_mem _ (zw_m (i := 200) (by decide +kernel) (by decide +kernel))⟩⟩, List.forall_mem_cons.mpr ⟨Or.inr ⟨y_LI_mask, prog_4_method_9_code, 3, d_1, 2, (some .int), zw_t, h_1, zw_in m_LI_mask, e_1, by decide, List.mem_cons_of_mem _ (zw_m (w := .methodLink "PackingCensus$Listing" 50 y_LI_mask) (i := 242) (by decide +kernel) (by decide +kernel)), List.mem_cons_of_mem _ (zw_m (i := 38) (by decide +kernel) (by decide +kernel)), ⟨by decide, by decide, by decide +kernel⟩, Or.inr ⟨4, (zc_LI, zt_LI, 5), rfl, rfl, List.mem_cons_of_mem _ (zw_m (i := 243) (by decide +kernel) (by decide +kernel)), rfl, List.mem_cons_of_mem _ (zw_m (i := 244) (by decide +kernel) (by decide +kernel))⟩⟩, List.forall_mem_cons.mpr ⟨Or.inr ⟨y_RO_add, prog_5_method_7_code, 2, d_2, 1, none, zw_t, h_2, zw_in m_RO_add, e_2, by decide, List.mem_cons_of_mem _ (zw_m (w := .methodLink "PackingCensus$Listing" 57 y_RO_add) (i := 246) (by decide +kernel) (by decide +kernel)), List.mem_cons_of_mem _ (zw_m (i := 37) (by decide +kernel) (by decide +kernel)), ⟨by decide, by decide, by decide +kernel⟩, Or.inr ⟨3, (zc_RO, zt_RO, 2), rfl, rfl, List.mem_cons_of_mem _ (zw_m (i := 247) (by decide +kernel) (by decide +kernel)), rfl, List.mem_cons_of_mem _ (zw_m (i := 248) (by decide +kernel) (by decide +kernel))⟩⟩, fun _ h => absurd h List.not_mem_nil⟩⟩⟩
theorem z_LI_writeTo {l : Launch} {dep : Nat} {T : ma_T} {t_0 t_1 t_2 : ma_T} {d_0 : Nat} (h_0 : ma_Met l y_RO_clear (w_RO_clear :: zw_t) d_0 false t_0) (e_0 : d_0 + 1 ≤ dep) {d_1 : Nat} (h_1 : ma_Met l y_LI_mask (w_LI_mask :: zw_t) d_1 true t_1) (e_1 : d_1 + 1 ≤ dep) {d_2 : Nat} (h_2 : ma_Met l y_RO_add (w_RO_add :: zw_t) d_2 false t_2) (e_2 : d_2 + 1 ≤ dep) (hT : ∀ as w post, T as w post → as.length ≤ 4)
    (hB : ∀ as w post, T as w post → ∀ Go, ma_cl k_LI_writeTo zf_LI (e_LI_writeTo t_0 t_1 t_2) none 0 s_LI_writeTo post Go → Go 0 (as.map some ++ List.replicate (4 - as.length) none) [] w) :
    ma_Met l y_LI_writeTo (w_LI_writeTo :: zw_t) dep false T := ma_met (by decide) o_LI_writeTo (Or.inl ⟨rfl, rfl, rfl⟩) kk_LI_writeTo zf_LI_ok (ee_LI_writeTo h_0 e_0 h_1 e_1 h_2 e_2) hT hB
-- PackingCensus$Listing.placeOf(LPackingCensus$Row;)I
def s_LI_placeOf : List (Nat × ma_C) := [
  (0, [(.iconst 0, 1), (.istore_n 2, 1)]),
  (2, [(.iload_n 2, 1), (.aload_n 0, 1), (.getfield 25, 3), (.if_icmp .ge 20, 3), (.aload_n 0, 1), (.iload_n 2, 1), (.aload_n 1, 1), (.invokevirtual 61, 3), (.ifCond .eq 5, 3), (.iload_n 2, 1), (.ireturn, 1)]),
  (21, [(.iinc 2 1, 3), (.goto (-22), 3)]),
  (27, [(.iconst (-1), 1), (.ireturn, 1)])]
theorem o_LI_placeOf : (s_LI_placeOf).all (fun q => ma_dec prog_4_method_14_code q.1 q.2) = true := by decide +kernel
def k_LI_placeOf : List (Nat × Int32) := []
theorem kk_LI_placeOf {z : Cond} : ma_Kok "PackingCensus$Listing" (z :: zw_t) k_LI_placeOf := fun _ h => absurd h List.not_mem_nil
def e_LI_placeOf (t_0 : ma_T) : ma_E := [(61, 3, some 4, true, t_0)]
theorem ee_LI_placeOf {l : Launch} {dep : Nat} {z : Cond} {t_0 : ma_T} {d_0 : Nat} (h_0 : ma_Met l y_LI_isEntry (w_LI_isEntry :: zw_t) d_0 true t_0) (e_0 : d_0 + 1 ≤ dep) : ma_Eok l "PackingCensus$Listing" (z :: zw_t) dep (e_LI_placeOf t_0) := List.forall_mem_cons.mpr ⟨Or.inr ⟨y_LI_isEntry, prog_4_method_15_code, 4, d_0, 2, (some .boolean), zw_t, h_0, zw_in m_LI_isEntry, e_0, by decide, List.mem_cons_of_mem _ (zw_m (w := .methodLink "PackingCensus$Listing" 61 y_LI_isEntry) (i := 467) (by decide +kernel) (by decide +kernel)), List.mem_cons_of_mem _ (zw_m (i := 38) (by decide +kernel) (by decide +kernel)), ⟨by decide, by decide, by decide +kernel⟩, Or.inr ⟨4, (zc_LI, zt_LI, 5), rfl, rfl, List.mem_cons_of_mem _ (zw_m (i := 469) (by decide +kernel) (by decide +kernel)), rfl, List.mem_cons_of_mem _ (zw_m (i := 13) (by decide +kernel) (by decide +kernel))⟩⟩, fun _ h => absurd h List.not_mem_nil⟩
theorem z_LI_placeOf {l : Launch} {dep : Nat} {T : ma_T} {t_0 : ma_T} {d_0 : Nat} (h_0 : ma_Met l y_LI_isEntry (w_LI_isEntry :: zw_t) d_0 true t_0) (e_0 : d_0 + 1 ≤ dep) (hT : ∀ as w post, T as w post → as.length ≤ 3)
    (hB : ∀ as w post, T as w post → ∀ Go, ma_cl k_LI_placeOf zf_LI (e_LI_placeOf t_0) none 1 s_LI_placeOf post Go → Go 0 (as.map some ++ List.replicate (3 - as.length) none) [] w) :
    ma_Met l y_LI_placeOf (w_LI_placeOf :: zw_t) dep true T := ma_met (by decide) o_LI_placeOf (Or.inr (Or.inl ⟨rfl, rfl, rfl⟩)) kk_LI_placeOf zf_LI_ok (ee_LI_placeOf h_0 e_0) hT hB
-- PackingCensus$Listing.isEntry(ILPackingCensus$Row;)Z
def s_LI_isEntry : List (Nat × ma_C) := [
  (0, [(.aload_n 2, 1), (.invokevirtual 32, 3), (.aload_n 0, 1), (.getfield 21, 3), (.if_icmp .eq 5, 3), (.iconst 0, 1), (.ireturn, 1)]),
  (13, [(.iconst 0, 1), (.istore_n 3, 1)]),
  (15, [(.iload_n 3, 1), (.aload_n 0, 1), (.getfield 21, 3), (.if_icmp .ge 25, 3), (.aload_n 0, 1), (.iload_n 1, 1), (.iload_n 3, 1), (.invokevirtual 50, 3), (.aload_n 2, 1), (.iload_n 3, 1), (.invokevirtual 38, 3), (.if_icmp .eq 5, 3), (.iconst 0, 1), (.ireturn, 1)]),
  (39, [(.iinc 3 1, 3), (.goto (-27), 3)]),
  (45, [(.iconst 1, 1), (.ireturn, 1)])]
theorem o_LI_isEntry : (s_LI_isEntry).all (fun q => ma_dec prog_4_method_15_code q.1 q.2) = true := by decide +kernel
def k_LI_isEntry : List (Nat × Int32) := []
theorem kk_LI_isEntry {z : Cond} : ma_Kok "PackingCensus$Listing" (z :: zw_t) k_LI_isEntry := fun _ h => absurd h List.not_mem_nil
def e_LI_isEntry (t_0 t_1 t_2 : ma_T) : ma_E := [(32, 1, some 3, true, t_0), (50, 3, some 4, true, t_1), (38, 2, some 3, true, t_2)]
theorem ee_LI_isEntry {l : Launch} {dep : Nat} {z : Cond} {t_0 t_1 t_2 : ma_T} {d_0 : Nat} (h_0 : ma_Met l y_RO_size (w_RO_size :: zw_t) d_0 true t_0) (e_0 : d_0 + 1 ≤ dep) {d_1 : Nat} (h_1 : ma_Met l y_LI_mask (w_LI_mask :: zw_t) d_1 true t_1) (e_1 : d_1 + 1 ≤ dep) {d_2 : Nat} (h_2 : ma_Met l y_RO_get (w_RO_get :: zw_t) d_2 true t_2) (e_2 : d_2 + 1 ≤ dep) : ma_Eok l "PackingCensus$Listing" (z :: zw_t) dep (e_LI_isEntry t_0 t_1 t_2) := List.forall_mem_cons.mpr ⟨Or.inr ⟨y_RO_size, prog_5_method_2_code, 1, d_0, 0, (some .int), zw_t, h_0, zw_in m_RO_size, e_0, by decide, List.mem_cons_of_mem _ (zw_m (w := .methodLink "PackingCensus$Listing" 32 y_RO_size) (i := 334) (by decide +kernel) (by decide +kernel)), List.mem_cons_of_mem _ (zw_m (i := 37) (by decide +kernel) (by decide +kernel)), ⟨by decide, by decide, by decide +kernel⟩, Or.inr ⟨3, (zc_RO, zt_RO, 2), rfl, rfl, List.mem_cons_of_mem _ (zw_m (i := 286) (by decide +kernel) (by decide +kernel)), rfl, List.mem_cons_of_mem _ (zw_m (i := 287) (by decide +kernel) (by decide +kernel))⟩⟩, List.forall_mem_cons.mpr ⟨Or.inr ⟨y_LI_mask, prog_4_method_9_code, 3, d_1, 2, (some .int), zw_t, h_1, zw_in m_LI_mask, e_1, by decide, List.mem_cons_of_mem _ (zw_m (w := .methodLink "PackingCensus$Listing" 50 y_LI_mask) (i := 242) (by decide +kernel) (by decide +kernel)), List.mem_cons_of_mem _ (zw_m (i := 38) (by decide +kernel) (by decide +kernel)), ⟨by decide, by decide, by decide +kernel⟩, Or.inr ⟨4, (zc_LI, zt_LI, 5), rfl, rfl, List.mem_cons_of_mem _ (zw_m (i := 243) (by decide +kernel) (by decide +kernel)), rfl, List.mem_cons_of_mem _ (zw_m (i := 244) (by decide +kernel) (by decide +kernel))⟩⟩, List.forall_mem_cons.mpr ⟨Or.inr ⟨y_RO_get, prog_5_method_4_code, 2, d_2, 1, (some .int), zw_t, h_2, zw_in m_RO_get, e_2, by decide, List.mem_cons_of_mem _ (zw_m (w := .methodLink "PackingCensus$Listing" 38 y_RO_get) (i := 335) (by decide +kernel) (by decide +kernel)), List.mem_cons_of_mem _ (zw_m (i := 37) (by decide +kernel) (by decide +kernel)), ⟨by decide, by decide, by decide +kernel⟩, Or.inr ⟨3, (zc_RO, zt_RO, 2), rfl, rfl, List.mem_cons_of_mem _ (zw_m (i := 290) (by decide +kernel) (by decide +kernel)), rfl, List.mem_cons_of_mem _ (zw_m (i := 291) (by decide +kernel) (by decide +kernel))⟩⟩, fun _ h => absurd h List.not_mem_nil⟩⟩⟩
theorem z_LI_isEntry {l : Launch} {dep : Nat} {T : ma_T} {t_0 t_1 t_2 : ma_T} {d_0 : Nat} (h_0 : ma_Met l y_RO_size (w_RO_size :: zw_t) d_0 true t_0) (e_0 : d_0 + 1 ≤ dep) {d_1 : Nat} (h_1 : ma_Met l y_LI_mask (w_LI_mask :: zw_t) d_1 true t_1) (e_1 : d_1 + 1 ≤ dep) {d_2 : Nat} (h_2 : ma_Met l y_RO_get (w_RO_get :: zw_t) d_2 true t_2) (e_2 : d_2 + 1 ≤ dep) (hT : ∀ as w post, T as w post → as.length ≤ 4)
    (hB : ∀ as w post, T as w post → ∀ Go, ma_cl k_LI_isEntry zf_LI (e_LI_isEntry t_0 t_1 t_2) none 2 s_LI_isEntry post Go → Go 0 (as.map some ++ List.replicate (4 - as.length) none) [] w) :
    ma_Met l y_LI_isEntry (w_LI_isEntry :: zw_t) dep true T := ma_met (by decide) o_LI_isEntry (Or.inr (Or.inr ⟨rfl, rfl, rfl⟩)) kk_LI_isEntry zf_LI_ok (ee_LI_isEntry h_0 e_0 h_1 e_1 h_2 e_2) hT hB
end
section
-- PackingCensus$Row.size()I
def s_RO_size : List (Nat × ma_C) := [
  (0, [(.aload_n 0, 1), (.getfield 15, 3), (.ireturn, 1)])]
theorem o_RO_size : (s_RO_size).all (fun q => ma_dec prog_5_method_2_code q.1 q.2) = true := by decide +kernel
def k_RO_size : List (Nat × Int32) := []
theorem kk_RO_size {z : Cond} : ma_Kok "PackingCensus$Row" (z :: zw_t) k_RO_size := fun _ h => absurd h List.not_mem_nil
def e_RO_size : ma_E := []
theorem ee_RO_size {l : Launch} {dep : Nat} {z : Cond} : ma_Eok l "PackingCensus$Row" (z :: zw_t) dep (e_RO_size) := fun _ h => absurd h List.not_mem_nil
theorem z_RO_size {l : Launch} {dep : Nat} {T : ma_T} (hT : ∀ as w post, T as w post → as.length ≤ 1)
    (hB : ∀ as w post, T as w post → ∀ Go, ma_cl k_RO_size zf_RO (e_RO_size) none 1 s_RO_size post Go → Go 0 (as.map some ++ List.replicate (1 - as.length) none) [] w) :
    ma_Met l y_RO_size (w_RO_size :: zw_t) dep true T := ma_met (by decide) o_RO_size (Or.inr (Or.inl ⟨rfl, rfl, rfl⟩)) kk_RO_size zf_RO_ok (ee_RO_size) hT hB
-- PackingCensus$Row.has(I)Z
def s_RO_has : List (Nat × ma_C) := [
  (0, [(.iload_n 1, 1), (.ifCond .lt 15, 3), (.iload_n 1, 1), (.aload_n 0, 1), (.getfield 15, 3), (.if_icmp .ge 7, 3), (.iconst 1, 1), (.goto 4, 3)]),
  (16, [(.iconst 0, 1)]),
  (17, [(.ireturn, 1)])]
theorem o_RO_has : (s_RO_has).all (fun q => ma_dec prog_5_method_3_code q.1 q.2) = true := by decide +kernel
def k_RO_has : List (Nat × Int32) := []
theorem kk_RO_has {z : Cond} : ma_Kok "PackingCensus$Row" (z :: zw_t) k_RO_has := fun _ h => absurd h List.not_mem_nil
def e_RO_has : ma_E := []
theorem ee_RO_has {l : Launch} {dep : Nat} {z : Cond} : ma_Eok l "PackingCensus$Row" (z :: zw_t) dep (e_RO_has) := fun _ h => absurd h List.not_mem_nil
theorem z_RO_has {l : Launch} {dep : Nat} {T : ma_T} (hT : ∀ as w post, T as w post → as.length ≤ 2)
    (hB : ∀ as w post, T as w post → ∀ Go, ma_cl k_RO_has zf_RO (e_RO_has) none 2 s_RO_has post Go → Go 0 (as.map some ++ List.replicate (2 - as.length) none) [] w) :
    ma_Met l y_RO_has (w_RO_has :: zw_t) dep true T := ma_met (by decide) o_RO_has (Or.inr (Or.inr ⟨rfl, rfl, rfl⟩)) kk_RO_has zf_RO_ok (ee_RO_has) hT hB
-- PackingCensus$Row.get(I)I
def s_RO_get : List (Nat × ma_C) := [
  (0, [(.aload_n 0, 1), (.getfield 9, 3), (.iload_n 1, 1), (.iaload, 1), (.ireturn, 1)])]
theorem o_RO_get : (s_RO_get).all (fun q => ma_dec prog_5_method_4_code q.1 q.2) = true := by decide +kernel
def k_RO_get : List (Nat × Int32) := []
theorem kk_RO_get {z : Cond} : ma_Kok "PackingCensus$Row" (z :: zw_t) k_RO_get := fun _ h => absurd h List.not_mem_nil
def e_RO_get : ma_E := []
theorem ee_RO_get {l : Launch} {dep : Nat} {z : Cond} : ma_Eok l "PackingCensus$Row" (z :: zw_t) dep (e_RO_get) := fun _ h => absurd h List.not_mem_nil
theorem z_RO_get {l : Launch} {dep : Nat} {T : ma_T} (hT : ∀ as w post, T as w post → as.length ≤ 2)
    (hB : ∀ as w post, T as w post → ∀ Go, ma_cl k_RO_get zf_RO (e_RO_get) none 1 s_RO_get post Go → Go 0 (as.map some ++ List.replicate (2 - as.length) none) [] w) :
    ma_Met l y_RO_get (w_RO_get :: zw_t) dep true T := ma_met (by decide) o_RO_get (Or.inr (Or.inl ⟨rfl, rfl, rfl⟩)) kk_RO_get zf_RO_ok (ee_RO_get) hT hB
-- PackingCensus$Row.last()I
def s_RO_last : List (Nat × ma_C) := [
  (0, [(.aload_n 0, 1), (.getfield 15, 3), (.ifCond .le 17, 3), (.aload_n 0, 1), (.getfield 9, 3), (.aload_n 0, 1), (.getfield 15, 3), (.iconst 1, 1), (.isub, 1), (.iaload, 1), (.goto 4, 3)]),
  (21, [(.iconst 0, 1)]),
  (22, [(.ireturn, 1)])]
theorem o_RO_last : (s_RO_last).all (fun q => ma_dec prog_5_method_5_code q.1 q.2) = true := by decide +kernel
def k_RO_last : List (Nat × Int32) := []
theorem kk_RO_last {z : Cond} : ma_Kok "PackingCensus$Row" (z :: zw_t) k_RO_last := fun _ h => absurd h List.not_mem_nil
def e_RO_last : ma_E := []
theorem ee_RO_last {l : Launch} {dep : Nat} {z : Cond} : ma_Eok l "PackingCensus$Row" (z :: zw_t) dep (e_RO_last) := fun _ h => absurd h List.not_mem_nil
theorem z_RO_last {l : Launch} {dep : Nat} {T : ma_T} (hT : ∀ as w post, T as w post → as.length ≤ 1)
    (hB : ∀ as w post, T as w post → ∀ Go, ma_cl k_RO_last zf_RO (e_RO_last) none 1 s_RO_last post Go → Go 0 (as.map some ++ List.replicate (1 - as.length) none) [] w) :
    ma_Met l y_RO_last (w_RO_last :: zw_t) dep true T := ma_met (by decide) o_RO_last (Or.inr (Or.inl ⟨rfl, rfl, rfl⟩)) kk_RO_last zf_RO_ok (ee_RO_last) hT hB
-- PackingCensus$Row.clear()V
def s_RO_clear : List (Nat × ma_C) := [
  (0, [(.aload_n 0, 1), (.iconst 0, 1), (.putfield 15, 3), (.return_, 1)])]
theorem o_RO_clear : (s_RO_clear).all (fun q => ma_dec prog_5_method_6_code q.1 q.2) = true := by decide +kernel
def k_RO_clear : List (Nat × Int32) := []
theorem kk_RO_clear {z : Cond} : ma_Kok "PackingCensus$Row" (z :: zw_t) k_RO_clear := fun _ h => absurd h List.not_mem_nil
def e_RO_clear : ma_E := []
theorem ee_RO_clear {l : Launch} {dep : Nat} {z : Cond} : ma_Eok l "PackingCensus$Row" (z :: zw_t) dep (e_RO_clear) := fun _ h => absurd h List.not_mem_nil
theorem z_RO_clear {l : Launch} {dep : Nat} {T : ma_T} (hT : ∀ as w post, T as w post → as.length ≤ 1)
    (hB : ∀ as w post, T as w post → ∀ Go, ma_cl k_RO_clear zf_RO (e_RO_clear) none 0 s_RO_clear post Go → Go 0 (as.map some ++ List.replicate (1 - as.length) none) [] w) :
    ma_Met l y_RO_clear (w_RO_clear :: zw_t) dep false T := ma_met (by decide) o_RO_clear (Or.inl ⟨rfl, rfl, rfl⟩) kk_RO_clear zf_RO_ok (ee_RO_clear) hT hB
-- PackingCensus$Row.add(I)V
def s_RO_add : List (Nat × ma_C) := [
  (0, [(.aload_n 0, 1), (.getfield 15, 3), (.bipush 10, 2), (.if_icmp .ge 23, 3), (.aload_n 0, 1), (.getfield 9, 3), (.aload_n 0, 1), (.getfield 15, 3), (.iload_n 1, 1), (.iastore, 1), (.aload_n 0, 1), (.dup, 1), (.getfield 15, 3), (.iconst 1, 1), (.iadd, 1), (.putfield 15, 3)]),
  (29, [(.return_, 1)])]
theorem o_RO_add : (s_RO_add).all (fun q => ma_dec prog_5_method_7_code q.1 q.2) = true := by decide +kernel
def k_RO_add : List (Nat × Int32) := []
theorem kk_RO_add {z : Cond} : ma_Kok "PackingCensus$Row" (z :: zw_t) k_RO_add := fun _ h => absurd h List.not_mem_nil
def e_RO_add : ma_E := []
theorem ee_RO_add {l : Launch} {dep : Nat} {z : Cond} : ma_Eok l "PackingCensus$Row" (z :: zw_t) dep (e_RO_add) := fun _ h => absurd h List.not_mem_nil
theorem z_RO_add {l : Launch} {dep : Nat} {T : ma_T} (hT : ∀ as w post, T as w post → as.length ≤ 2)
    (hB : ∀ as w post, T as w post → ∀ Go, ma_cl k_RO_add zf_RO (e_RO_add) none 0 s_RO_add post Go → Go 0 (as.map some ++ List.replicate (2 - as.length) none) [] w) :
    ma_Met l y_RO_add (w_RO_add :: zw_t) dep false T := ma_met (by decide) o_RO_add (Or.inl ⟨rfl, rfl, rfl⟩) kk_RO_add zf_RO_ok (ee_RO_add) hT hB
-- PackingCensus$Row.removeAt(I)V
def s_RO_removeAt : List (Nat × ma_C) := [
  (0, [(.aload_n 0, 1), (.iload_n 1, 1), (.invokevirtual 19, 3), (.ifCond .ne 4, 3), (.return_, 1)]),
  (9, [(.iload_n 1, 1), (.iconst 1, 1), (.iadd, 1), (.istore_n 2, 1)]),
  (13, [(.iload_n 2, 1), (.aload_n 0, 1), (.getfield 15, 3), (.if_icmp .ge 23, 3), (.aload_n 0, 1), (.getfield 9, 3), (.iload_n 2, 1), (.iconst 1, 1), (.isub, 1), (.aload_n 0, 1), (.getfield 9, 3), (.iload_n 2, 1), (.iaload, 1), (.iastore, 1), (.iinc 2 1, 3), (.goto (-25), 3)]),
  (41, [(.aload_n 0, 1), (.dup, 1), (.getfield 15, 3), (.iconst 1, 1), (.isub, 1), (.putfield 15, 3), (.return_, 1)])]
theorem o_RO_removeAt : (s_RO_removeAt).all (fun q => ma_dec prog_5_method_8_code q.1 q.2) = true := by decide +kernel
def k_RO_removeAt : List (Nat × Int32) := []
theorem kk_RO_removeAt {z : Cond} : ma_Kok "PackingCensus$Row" (z :: zw_t) k_RO_removeAt := fun _ h => absurd h List.not_mem_nil
def e_RO_removeAt (t_0 : ma_T) : ma_E := [(19, 2, some 3, true, t_0)]
theorem ee_RO_removeAt {l : Launch} {dep : Nat} {z : Cond} {t_0 : ma_T} {d_0 : Nat} (h_0 : ma_Met l y_RO_has (w_RO_has :: zw_t) d_0 true t_0) (e_0 : d_0 + 1 ≤ dep) : ma_Eok l "PackingCensus$Row" (z :: zw_t) dep (e_RO_removeAt t_0) := List.forall_mem_cons.mpr ⟨Or.inr ⟨y_RO_has, prog_5_method_3_code, 2, d_0, 1, (some .boolean), zw_t, h_0, zw_in m_RO_has, e_0, by decide, List.mem_cons_of_mem _ (zw_m (w := .methodLink "PackingCensus$Row" 19 y_RO_has) (i := 349) (by decide +kernel) (by decide +kernel)), List.mem_cons_of_mem _ (zw_m (i := 37) (by decide +kernel) (by decide +kernel)), ⟨by decide, by decide, by decide +kernel⟩, Or.inr ⟨3, (zc_RO, zt_RO, 2), rfl, rfl, List.mem_cons_of_mem _ (zw_m (i := 350) (by decide +kernel) (by decide +kernel)), rfl, List.mem_cons_of_mem _ (zw_m (i := 351) (by decide +kernel) (by decide +kernel))⟩⟩, fun _ h => absurd h List.not_mem_nil⟩
theorem z_RO_removeAt {l : Launch} {dep : Nat} {T : ma_T} {t_0 : ma_T} {d_0 : Nat} (h_0 : ma_Met l y_RO_has (w_RO_has :: zw_t) d_0 true t_0) (e_0 : d_0 + 1 ≤ dep) (hT : ∀ as w post, T as w post → as.length ≤ 3)
    (hB : ∀ as w post, T as w post → ∀ Go, ma_cl k_RO_removeAt zf_RO (e_RO_removeAt t_0) none 0 s_RO_removeAt post Go → Go 0 (as.map some ++ List.replicate (3 - as.length) none) [] w) :
    ma_Met l y_RO_removeAt (w_RO_removeAt :: zw_t) dep false T := ma_met (by decide) o_RO_removeAt (Or.inl ⟨rfl, rfl, rfl⟩) kk_RO_removeAt zf_RO_ok (ee_RO_removeAt h_0 e_0) hT hB
-- PackingCensus$Row.exchangePoints(II)V
def s_RO_exchangePoints : List (Nat × ma_C) := [
  (0, [(.iconst 0, 1), (.istore_n 3, 1)]),
  (2, [(.iload_n 3, 1), (.aload_n 0, 1), (.getfield 15, 3), (.if_icmp .ge 60, 3), (.aload_n 0, 1), (.getfield 9, 3), (.iload_n 3, 1), (.iaload, 1), (.iload_n 1, 1), (.ishr, 1), (.iconst 1, 1), (.iand, 1), (.aload_n 0, 1), (.getfield 9, 3), (.iload_n 3, 1), (.iaload, 1), (.iload_n 2, 1), (.ishr, 1), (.iconst 1, 1), (.iand, 1), (.if_icmp .eq 7, 3), (.iconst 1, 1), (.goto 4, 3)]),
  (37, [(.iconst 0, 1)]),
  (38, [(.istore 4, 2), (.iload 4, 2), (.ifCond .eq 19, 3), (.aload_n 0, 1), (.getfield 9, 3), (.iload_n 3, 1), (.dup2, 1), (.iaload, 1), (.iconst 1, 1), (.iload_n 1, 1), (.ishl, 1), (.iconst 1, 1), (.iload_n 2, 1), (.ishl, 1), (.ior, 1), (.ixor, 1), (.iastore, 1)]),
  (61, [(.iinc 3 1, 3), (.goto (-62), 3)]),
  (67, [(.return_, 1)])]
theorem o_RO_exchangePoints : (s_RO_exchangePoints).all (fun q => ma_dec prog_5_method_9_code q.1 q.2) = true := by decide +kernel
def k_RO_exchangePoints : List (Nat × Int32) := []
theorem kk_RO_exchangePoints {z : Cond} : ma_Kok "PackingCensus$Row" (z :: zw_t) k_RO_exchangePoints := fun _ h => absurd h List.not_mem_nil
def e_RO_exchangePoints : ma_E := []
theorem ee_RO_exchangePoints {l : Launch} {dep : Nat} {z : Cond} : ma_Eok l "PackingCensus$Row" (z :: zw_t) dep (e_RO_exchangePoints) := fun _ h => absurd h List.not_mem_nil
theorem z_RO_exchangePoints {l : Launch} {dep : Nat} {T : ma_T} (hT : ∀ as w post, T as w post → as.length ≤ 5)
    (hB : ∀ as w post, T as w post → ∀ Go, ma_cl k_RO_exchangePoints zf_RO (e_RO_exchangePoints) none 0 s_RO_exchangePoints post Go → Go 0 (as.map some ++ List.replicate (5 - as.length) none) [] w) :
    ma_Met l y_RO_exchangePoints (w_RO_exchangePoints :: zw_t) dep false T := ma_met (by decide) o_RO_exchangePoints (Or.inl ⟨rfl, rfl, rfl⟩) kk_RO_exchangePoints zf_RO_ok (ee_RO_exchangePoints) hT hB
-- java/lang/Integer.bitCount(I)I
def s_JI_bitCount : List (Nat × ma_C) := [
  (0, [(.iload_n 0, 1), (.iload_n 0, 1), (.iconst 1, 1), (.iushr, 1), (.ldc_w 265, 3), (.iand, 1), (.isub, 1), (.istore_n 0, 1), (.iload_n 0, 1), (.ldc_w 266, 3), (.iand, 1), (.iload_n 0, 1), (.iconst 2, 1), (.iushr, 1), (.ldc_w 266, 3), (.iand, 1), (.iadd, 1), (.istore_n 0, 1), (.iload_n 0, 1), (.iload_n 0, 1), (.iconst 4, 1), (.iushr, 1), (.iadd, 1), (.ldc_w 267, 3), (.iand, 1), (.istore_n 0, 1), (.iload_n 0, 1), (.iload_n 0, 1), (.bipush 8, 2), (.iushr, 1), (.iadd, 1), (.istore_n 0, 1), (.iload_n 0, 1), (.iload_n 0, 1), (.bipush 16, 2), (.iushr, 1), (.iadd, 1), (.istore_n 0, 1), (.iload_n 0, 1), (.bipush 63, 2), (.iand, 1), (.ireturn, 1)])]
theorem o_JI_bitCount : (s_JI_bitCount).all (fun q => ma_dec prog_8_method_49_code q.1 q.2) = true := by decide +kernel
def k_JI_bitCount : List (Nat × Int32) := [(265, 1431655765), (266, 858993459), (267, 252645135)]
theorem kk_JI_bitCount {z : Cond} : ma_Kok "java/lang/Integer" (z :: zw_t) k_JI_bitCount := by
  refine List.forall_mem_cons.mpr ⟨?_, List.forall_mem_cons.mpr ⟨?_, List.forall_mem_cons.mpr ⟨?_, fun _ h => absurd h List.not_mem_nil⟩⟩⟩
  · exact List.mem_cons_of_mem _ (zw_m (i := 195) (by decide +kernel) (by decide +kernel))
  · exact List.mem_cons_of_mem _ (zw_m (i := 196) (by decide +kernel) (by decide +kernel))
  · exact List.mem_cons_of_mem _ (zw_m (i := 197) (by decide +kernel) (by decide +kernel))
def e_JI_bitCount : ma_E := []
theorem ee_JI_bitCount {l : Launch} {dep : Nat} {z : Cond} : ma_Eok l "java/lang/Integer" (z :: zw_t) dep (e_JI_bitCount) := fun _ h => absurd h List.not_mem_nil
theorem z_JI_bitCount {l : Launch} {dep : Nat} {T : ma_T} (hT : ∀ as w post, T as w post → as.length ≤ 1)
    (hB : ∀ as w post, T as w post → ∀ Go, ma_cl k_JI_bitCount [] (e_JI_bitCount) none 1 s_JI_bitCount post Go → Go 0 (as.map some ++ List.replicate (1 - as.length) none) [] w) :
    ma_Met l y_JI_bitCount (w_JI_bitCount :: zw_t) dep true T := ma_met (by decide) o_JI_bitCount (Or.inr (Or.inl ⟨rfl, rfl, rfl⟩)) kk_JI_bitCount (fun _ h => absurd h List.not_mem_nil) (ee_JI_bitCount) hT hB
end
section
/-! WHAT THE CONTRACTS USE -/
theorem bo0 : nI 0 = 0 ∨ nI 0 = 1 := Or.inl nI_0
theorem bo1 : nI 1 = 0 ∨ nI 1 = 1 := Or.inr (by decide +kernel)
/-- a boolean as the machine has it -/
def bI (b : Bool) : Int32 := match b with
  | true => nI 1
  | false => nI 0
theorem bI_bo (b : Bool) : bI b = 0 ∨ bI b = 1 := by
  cases b with
  | true => exact bo1
  | false => exact bo0
theorem bI_t : ¬ bI true = nI 0 := by decide +kernel
theorem bI_ne {b : Bool} {A B : Prop} (f : b = true → A) (g : b = false → B) : (¬ bI b = nI 0 → A) ∧ (¬ (¬ bI b = nI 0) → B) := by
  cases b with
  | true => exact ⟨fun _ => f rfl, fun h => absurd bI_t h⟩
  | false => exact ⟨fun h => absurd rfl h, fun _ => g rfl⟩
theorem bI_eq {b : Bool} {A B : Prop} (f : b = false → A) (g : b = true → B) : (bI b = nI 0 → A) ∧ (¬ (bI b = nI 0) → B) := by
  cases b with
  | true => exact ⟨fun h => absurd h bI_t, fun _ => g rfl⟩
  | false => exact ⟨fun _ => f rfl, fun h => absurd rfl h⟩
theorem bI_at {x : Int32} {b : Bool} {A B : Prop} (hx : x = bI b) (f : b = false → A) (g : b = true → B) : (x = nI 0 → A) ∧ (¬ (x = nI 0) → B) := by
  rw [hx]
  exact bI_eq f g
theorem bI_an {x : Int32} {b : Bool} {A B : Prop} (hx : x = bI b) (f : b = true → A) (g : b = false → B) : (¬ x = nI 0 → A) ∧ (¬ (¬ x = nI 0) → B) := by
  rw [hx]
  exact bI_ne f g
theorem pn_ne {x y : Int32} {A B : Prop} (a b : Nat) (f : a ≠ b → A) (g : a = b → B) (hx : x = nI a := by rfl) (hy : y = nI b := by rfl) (ha : a < 2 ^ 31 := by omega) (hb : b < 2 ^ 31 := by omega) : (¬ x = y → A) ∧ (¬ (¬ x = y) → B) := by
  subst hx hy
  rw [nI_eq ha hb]
  exact ⟨f, fun z => g (Decidable.not_not.mp z)⟩
/-- an int that is an index below n -/
def hs (x : Int32) (n : Nat) : Bool := decide (¬ x < nI 0) && decide (x < nI n)
theorem hs_t {x : Int32} {n : Nat} (hn : n < 2 ^ 31) (h : hs x n = true) : ∃ j, j < n ∧ x = nI j := by
  simp only [hs, Bool.and_eq_true, decide_eq_true_eq] at h
  rw [nI_0] at h
  obtain ⟨j, hj, rfl⟩ := nI_of h.1
  exact ⟨j, (nI_ltI hj hn).mp h.2, rfl⟩
theorem hs_j {j n : Nat} (h : j < n) (hn : n < 2 ^ 31) : hs (nI j) n = true := by
  simp only [hs, Bool.and_eq_true, decide_eq_true_eq]
  rw [nI_0]
  exact ⟨nI_pos (by omega), nI_lt h hn⟩
theorem hs_nj {j n : Nat} (h : n ≤ j) (hn : j < 2 ^ 31) : hs (nI j) n = false := by
  have : ¬ nI j < nI n := nI_nlt h hn
  simp [hs, this]
theorem hs_f1 {x : Int32} {n : Nat} (h : x < nI 0) : hs x n = false := by simp [hs, h]
theorem hs_f2 {x : Int32} {n : Nat} (h : nI n ≤ x) : hs x n = false := by
  have : ¬ x < nI n := Int32.not_lt.mpr h
  simp [hs, this]
theorem hs_t2 {x : Int32} {n : Nat} (h1 : ¬ x < nI 0) (h2 : ¬ nI n ≤ x) : hs x n = true := by
  have : x < nI n := Int32.not_le.mp h2
  simp [hs, h1, this]
/-- the branches of 'has' -/
theorem hs_br {x y : Int32} {n : Nat} {A B : Prop} (hy : y = nI n) (f : hs x n = false → A) (g : hs x n = true → B) : (x < nI 0 → A) ∧ (¬ (x < nI 0) → (y ≤ x → A) ∧ (¬ (y ≤ x) → B)) := by
  subst hy
  exact ⟨fun h => f (hs_f1 h), fun h1 => ⟨fun h => f (hs_f2 h), fun h => g (hs_t2 h1 h)⟩⟩
/-! frames: only these objects' fields, these arrays change -/
def fr (ps qs : List Nat) (w w' : ma_W) : Prop := w'.2.1 = w.2.1 ∧ (∀ p, p ∉ ps → w'.1 p = w.1 p) ∧ ∀ q, q ∉ qs → w'.2.2 q = w.2.2 q
theorem fr_refl (ps qs : List Nat) (w : ma_W) : fr ps qs w w := ⟨rfl, fun _ _ => rfl, fun _ _ => rfl⟩
theorem fr_trans {ps qs : List Nat} {w w' w'' : ma_W} (h : fr ps qs w w') (g : fr ps qs w' w'') : fr ps qs w w'' := ⟨g.1.trans h.1, fun p hp => (g.2.1 p hp).trans (h.2.1 p hp), fun q hq => (g.2.2 q hq).trans (h.2.2 q hq)⟩
theorem fr_mono {ps qs ps' qs' : List Nat} {w w' : ma_W} (h : fr ps qs w w') (hp : ∀ p, p ∈ ps → p ∈ ps') (hq : ∀ q, q ∈ qs → q ∈ qs') : fr ps' qs' w w' := ⟨h.1, fun p h1 => h.2.1 p (fun z => h1 (hp p z)), fun q h1 => h.2.2 q (fun z => h1 (hq q z))⟩
theorem fr_f {ps qs : List Nat} {w w' : ma_W} (h : fr ps qs w w') {p : Nat} (hp : p ∈ ps) (k : Nat) (x : Int32) : fr ps qs w (ma_up w'.1 p k x, w'.2.1, w'.2.2) := ⟨h.1, fun q hq => by
  show ma_up w'.1 p k x q = w.1 q
  rw [ma_up_q _ _ _ (fun e => hq (by rw [e]; exact hp))]
  exact h.2.1 q hq, h.2.2⟩
theorem fr_a {ps qs : List Nat} {w w' : ma_W} (h : fr ps qs w w') {p : Nat} (hp : p ∈ qs) (k : Nat) (x : Int32) : fr ps qs w (w'.1, w'.2.1, ma_up w'.2.2 p k x) := ⟨h.1, h.2.1, fun q hq => by
  show ma_up w'.2.2 p k x q = w.2.2 q
  rw [ma_up_q _ _ _ (fun e => hq (by rw [e]; exact hp))]
  exact h.2.2 q hq⟩
theorem nm1 {a x : Nat} (h : x ≠ a) : x ∉ [a] := fun z => h (List.mem_singleton.mp z)
theorem nm2 {a b x : Nat} (h : x ≠ a) (h2 : x ≠ b) : x ∉ [a, b] := fun z => (List.mem_cons.mp z).elim h (nm1 h2)
theorem nm3 {a b c x : Nat} (h : x ≠ a) (h2 : x ≠ b) (h3 : x ≠ c) : x ∉ [a, b, c] := fun z => (List.mem_cons.mp z).elim h (nm2 h2 h3)
/-! rows and listings by place -/
def zR (p : Nat) : Prop := p = 10 ∨ p = 12 ∨ p = 14
theorem zR_s {p : Nat} (h : zR p) : zc_sh p = .inl 3 := by rcases h with rfl | rfl | rfl <;> rfl
theorem zR_m {p : Nat} (h : zR p) {r : Nat × Nat} : zr r p 0 = p + 1 := by rcases h with rfl | rfl | rfl <;> rfl
theorem zR_a {p : Nat} (h : zR p) : zc_sh (p + 1) = .inr 10 := by rcases h with rfl | rfl | rfl <;> rfl
def zL (p : Nat) : Prop := p = 16 ∨ p = 20
theorem zL_s {p : Nat} (h : zL p) : zc_sh p = .inl 4 := by rcases h with rfl | rfl <;> rfl
theorem zL_m1 {p : Nat} (h : zL p) {r : Nat × Nat} : zr r p 0 = p + 1 := by rcases h with rfl | rfl <;> rfl
theorem zL_m2 {p : Nat} (h : zL p) {r : Nat × Nat} : zr r p 1 = p + 2 := by rcases h with rfl | rfl <;> rfl
theorem zL_m3 {p : Nat} (h : zL p) {r : Nat × Nat} : zr r p 2 = p + 3 := by rcases h with rfl | rfl <;> rfl
theorem zL_a1 {p : Nat} (h : zL p) : zc_sh (p + 1) = .inr 600 := by rcases h with rfl | rfl <;> rfl
theorem zL_a2 {p : Nat} (h : zL p) : zc_sh (p + 2) = .inr 60 := by rcases h with rfl | rfl <;> rfl
theorem zL_a3 {p : Nat} (h : zL p) : zc_sh (p + 3) = .inr 360 := by rcases h with rfl | rfl <;> rfl
/-- a row holds the masks xs -/
def ro (w : ma_W) (p : Nat) (xs : List Nat) : Prop := xs.length ≤ 10 ∧ w.1 p 1 = nI xs.length ∧ ∀ j, j < xs.length → w.2.2 (p + 1) j = nI (xs.getD j 0)
theorem ro_fr {ps qs : List Nat} {w w' : ma_W} {p : Nat} {xs : List Nat} (h : ro w p xs) (hf : fr ps qs w w') (h1 : p ∉ ps) (h2 : p + 1 ∉ qs) : ro w' p xs := ⟨h.1, by rw [hf.2.1 p h1]; exact h.2.1, fun j hj => by rw [hf.2.2 _ h2]; exact h.2.2 j hj⟩
theorem ro_nil {w : ma_W} {p : Nat} : ro (ma_up w.1 p 1 (nI 0), w.2.1, w.2.2) p [] := ⟨by decide, ma_up_s _ _ _ _, fun j hj => absurd hj (Nat.not_lt_zero j)⟩
theorem gd_app_l {xs ys : List Nat} {j : Nat} (h : j < xs.length) : (xs ++ ys).getD j 0 = xs.getD j 0 := by
  rw [List.getD_eq_getElem?_getD, List.getD_eq_getElem?_getD, List.getElem?_append_left h]
theorem gd_app_r {xs : List Nat} {m : Nat} : (xs ++ [m]).getD xs.length 0 = m := by
  rw [List.getD_eq_getElem?_getD, List.getElem?_append_right (Nat.le_refl _), Nat.sub_self]
  rfl
theorem ro_add {w : ma_W} {p m : Nat} {xs : List Nat} (h : ro w p xs) (hl : xs.length < 10) : ro (ma_up w.1 p 1 (nI (xs.length + 1)), w.2.1, ma_up w.2.2 (p + 1) xs.length (nI m)) p (xs ++ [m]) := by
  refine ⟨by rw [List.length_append, List.length_singleton]; omega, ?_, fun j hj => ?_⟩
  · show ma_up w.1 p 1 (nI (xs.length + 1)) p 1 = _
    rw [ma_up_s, List.length_append]
    rfl
  · show ma_up w.2.2 (p + 1) xs.length (nI m) (p + 1) j = _
    by_cases hjl : j = xs.length
    · subst hjl
      rw [ma_up_s, gd_app_r]
    · have hj2 : j < xs.length := by
        rw [List.length_append] at hj
        simp only [List.length_singleton] at hj
        omega
      rw [ma_up_k _ _ _ _ hjl, gd_app_l hj2]
      exact h.2.2 j hj2
end
section
/-! RUNS OF INSTRUCTIONS, by program (wip/whole/qgen.py): what each comes to -/
theorem qq_RO_size_0 {post : ma_P} {Go : ma_G} {w : ma_W} {p0 : Nat} (hGo : ma_cl k_RO_size zf_RO e_RO_size none 1 s_RO_size post Go)
    (h : ma_isk 3 p0 (post (w.1 p0 1) w)) :
    Go 0 [some (.inr p0)] [] w := hGo 0 _ _ rfl _ _ _ h
theorem q_RO_size_0 {post : ma_P} {Go : ma_G} {w : ma_W} {p0 : Nat} (hGo : ma_cl k_RO_size zf_RO e_RO_size none 1 s_RO_size post Go) (h0 : zR p0)
    (h : post (w.1 p0 1) w) :
    Go 0 [some (.inr p0)] [] w := qq_RO_size_0 hGo (by simp only [ma_isk_of (zR_s h0), zR_m h0, ma_ark_of (zR_a h0)]; exact h)
theorem qq_RO_has_0 {post : ma_P} {Go : ma_G} {w : ma_W} {p0 : Nat} {x1 : Int32} (hGo : ma_cl k_RO_has zf_RO e_RO_has none 2 s_RO_has post Go)
    (h : (x1 < (nI 0) → Go 16 [some (.inr p0), some (.inl x1)] [] w) ∧ (¬ (x1 < (nI 0)) → ma_isk 3 p0 (((w.1 p0 1) ≤ x1 → Go 16 [some (.inr p0), some (.inl x1)] [] w) ∧ (¬ ((w.1 p0 1) ≤ x1) → Go 17 [some (.inr p0), some (.inl x1)] [.inl (nI 1)] w)))) :
    Go 0 [some (.inr p0), some (.inl x1)] [] w := hGo 0 _ _ rfl _ _ _ h
theorem q_RO_has_0 {post : ma_P} {Go : ma_G} {w : ma_W} {p0 : Nat} {x1 : Int32} (hGo : ma_cl k_RO_has zf_RO e_RO_has none 2 s_RO_has post Go) (h0 : zR p0)
    (h : (x1 < (nI 0) → Go 16 [some (.inr p0), some (.inl x1)] [] w) ∧ (¬ (x1 < (nI 0)) → ((w.1 p0 1) ≤ x1 → Go 16 [some (.inr p0), some (.inl x1)] [] w) ∧ (¬ ((w.1 p0 1) ≤ x1) → Go 17 [some (.inr p0), some (.inl x1)] [.inl (nI 1)] w))) :
    Go 0 [some (.inr p0), some (.inl x1)] [] w := qq_RO_has_0 hGo (by simp only [ma_isk_of (zR_s h0), zR_m h0, ma_ark_of (zR_a h0)]; exact h)
theorem q_RO_has_16 {post : ma_P} {Go : ma_G} {w : ma_W} {p0 : Nat} {x1 : Int32} (hGo : ma_cl k_RO_has zf_RO e_RO_has none 2 s_RO_has post Go)
    (h : Go 17 [some (.inr p0), some (.inl x1)] [.inl (nI 0)] w) :
    Go 16 [some (.inr p0), some (.inl x1)] [] w := hGo 1 _ _ rfl _ _ _ h
theorem q_RO_has_17 {post : ma_P} {Go : ma_G} {w : ma_W} {p0 : Nat} {x1 : Int32} {y0 : Int32} (hGo : ma_cl k_RO_has zf_RO e_RO_has none 2 s_RO_has post Go)
    (h : (y0 = 0 ∨ y0 = 1) ∧ post y0 w) :
    Go 17 [some (.inr p0), some (.inl x1)] [.inl y0] w := hGo 2 _ _ rfl _ _ _ h
theorem qq_RO_get_0 {post : ma_P} {Go : ma_G} {w : ma_W} {p0 : Nat} {x1 : Int32} (hGo : ma_cl k_RO_get zf_RO e_RO_get none 1 s_RO_get post Go)
    (h : ma_isk 3 p0 (ma_ark (zr w.2.1 p0 0) fun n1 => ∃ j1 : Nat, j1 < n1 ∧ x1 = nI j1 ∧ (post (w.2.2 (zr w.2.1 p0 0) j1) w))) :
    Go 0 [some (.inr p0), some (.inl x1)] [] w := hGo 0 _ _ rfl _ _ _ h
theorem q_RO_get_0 {post : ma_P} {Go : ma_G} {w : ma_W} {p0 : Nat} {x1 : Int32} (hGo : ma_cl k_RO_get zf_RO e_RO_get none 1 s_RO_get post Go) (h0 : zR p0)
    (h : ∃ j1 : Nat, j1 < 10 ∧ x1 = nI j1 ∧ (post (w.2.2 (p0 + 1) j1) w)) :
    Go 0 [some (.inr p0), some (.inl x1)] [] w := qq_RO_get_0 hGo (by simp only [ma_isk_of (zR_s h0), zR_m h0, ma_ark_of (zR_a h0)]; exact h)
theorem qq_RO_last_0 {post : ma_P} {Go : ma_G} {w : ma_W} {p0 : Nat} (hGo : ma_cl k_RO_last zf_RO e_RO_last none 1 s_RO_last post Go)
    (h : ma_isk 3 p0 (((w.1 p0 1) ≤ (nI 0) → Go 21 [some (.inr p0)] [] w) ∧ (¬ ((w.1 p0 1) ≤ (nI 0)) → ma_isk 3 p0 (ma_isk 3 p0 (ma_ark (zr w.2.1 p0 0) fun n1 => ∃ j1 : Nat, j1 < n1 ∧ ((w.1 p0 1) - (nI 1)) = nI j1 ∧ (Go 22 [some (.inr p0)] [.inl (w.2.2 (zr w.2.1 p0 0) j1)] w)))))) :
    Go 0 [some (.inr p0)] [] w := hGo 0 _ _ rfl _ _ _ h
theorem q_RO_last_0 {post : ma_P} {Go : ma_G} {w : ma_W} {p0 : Nat} (hGo : ma_cl k_RO_last zf_RO e_RO_last none 1 s_RO_last post Go) (h0 : zR p0)
    (h : ((w.1 p0 1) ≤ (nI 0) → Go 21 [some (.inr p0)] [] w) ∧ (¬ ((w.1 p0 1) ≤ (nI 0)) → ∃ j1 : Nat, j1 < 10 ∧ ((w.1 p0 1) - (nI 1)) = nI j1 ∧ (Go 22 [some (.inr p0)] [.inl (w.2.2 (p0 + 1) j1)] w))) :
    Go 0 [some (.inr p0)] [] w := qq_RO_last_0 hGo (by simp only [ma_isk_of (zR_s h0), zR_m h0, ma_ark_of (zR_a h0)]; exact h)
theorem q_RO_last_21 {post : ma_P} {Go : ma_G} {w : ma_W} {p0 : Nat} (hGo : ma_cl k_RO_last zf_RO e_RO_last none 1 s_RO_last post Go)
    (h : Go 22 [some (.inr p0)] [.inl (nI 0)] w) :
    Go 21 [some (.inr p0)] [] w := hGo 1 _ _ rfl _ _ _ h
theorem q_RO_last_22 {post : ma_P} {Go : ma_G} {w : ma_W} {p0 : Nat} {y0 : Int32} (hGo : ma_cl k_RO_last zf_RO e_RO_last none 1 s_RO_last post Go)
    (h : post y0 w) :
    Go 22 [some (.inr p0)] [.inl y0] w := hGo 2 _ _ rfl _ _ _ h
theorem qq_RO_clear_0 {post : ma_P} {Go : ma_G} {w : ma_W} {p0 : Nat} (hGo : ma_cl k_RO_clear zf_RO e_RO_clear none 0 s_RO_clear post Go)
    (h : ma_isk 3 p0 (post 0 (ma_up w.1 p0 1 (nI 0), w.2.1, w.2.2))) :
    Go 0 [some (.inr p0)] [] w := hGo 0 _ _ rfl _ _ _ h
theorem q_RO_clear_0 {post : ma_P} {Go : ma_G} {w : ma_W} {p0 : Nat} (hGo : ma_cl k_RO_clear zf_RO e_RO_clear none 0 s_RO_clear post Go) (h0 : zR p0)
    (h : post 0 (ma_up w.1 p0 1 (nI 0), w.2.1, w.2.2)) :
    Go 0 [some (.inr p0)] [] w := qq_RO_clear_0 hGo (by simp only [ma_isk_of (zR_s h0), zR_m h0, ma_ark_of (zR_a h0)]; exact h)
theorem qq_RO_add_0 {post : ma_P} {Go : ma_G} {w : ma_W} {p0 : Nat} {x1 : Int32} (hGo : ma_cl k_RO_add zf_RO e_RO_add none 0 s_RO_add post Go)
    (h : ma_isk 3 p0 (((nI 10) ≤ (w.1 p0 1) → Go 29 [some (.inr p0), some (.inl x1)] [] w) ∧ (¬ ((nI 10) ≤ (w.1 p0 1)) → ma_isk 3 p0 (ma_isk 3 p0 (ma_ark (zr w.2.1 p0 0) fun n1 => ∃ j1 : Nat, j1 < n1 ∧ (w.1 p0 1) = nI j1 ∧ (ma_isk 3 p0 (ma_isk 3 p0 (Go 29 [some (.inr p0), some (.inl x1)] [] (ma_up w.1 p0 1 ((w.1 p0 1) + (nI 1)), w.2.1, ma_up w.2.2 (zr w.2.1 p0 0) j1 x1))))))))) :
    Go 0 [some (.inr p0), some (.inl x1)] [] w := hGo 0 _ _ rfl _ _ _ h
theorem q_RO_add_0 {post : ma_P} {Go : ma_G} {w : ma_W} {p0 : Nat} {x1 : Int32} (hGo : ma_cl k_RO_add zf_RO e_RO_add none 0 s_RO_add post Go) (h0 : zR p0)
    (h : ((nI 10) ≤ (w.1 p0 1) → Go 29 [some (.inr p0), some (.inl x1)] [] w) ∧ (¬ ((nI 10) ≤ (w.1 p0 1)) → ∃ j1 : Nat, j1 < 10 ∧ (w.1 p0 1) = nI j1 ∧ (Go 29 [some (.inr p0), some (.inl x1)] [] (ma_up w.1 p0 1 ((w.1 p0 1) + (nI 1)), w.2.1, ma_up w.2.2 (p0 + 1) j1 x1)))) :
    Go 0 [some (.inr p0), some (.inl x1)] [] w := qq_RO_add_0 hGo (by simp only [ma_isk_of (zR_s h0), zR_m h0, ma_ark_of (zR_a h0)]; exact h)
theorem q_RO_add_29 {post : ma_P} {Go : ma_G} {w : ma_W} {p0 : Nat} {x1 : Int32} (hGo : ma_cl k_RO_add zf_RO e_RO_add none 0 s_RO_add post Go)
    (h : post 0 w) :
    Go 29 [some (.inr p0), some (.inl x1)] [] w := hGo 1 _ _ rfl _ _ _ h
theorem qq_RO_removeAt_0 {t_0 : ma_T} {post : ma_P} {Go : ma_G} {w : ma_W} {p0 : Nat} {x1 : Int32} {o2 : Option ma_V} (hGo : ma_cl k_RO_removeAt zf_RO (e_RO_removeAt t_0) none 0 s_RO_removeAt post Go)
    (h : ma_isk 3 p0 (t_0 [.inr p0, .inl x1] w (fun z1 w1 => (¬ z1 = (nI 0) → Go 9 [some (.inr p0), some (.inl x1), o2] [] w1) ∧ (¬ (¬ z1 = (nI 0)) → post 0 w1)))) :
    Go 0 [some (.inr p0), some (.inl x1), o2] [] w := hGo 0 _ _ rfl _ _ _ h
theorem q_RO_removeAt_0 {t_0 : ma_T} {post : ma_P} {Go : ma_G} {w : ma_W} {p0 : Nat} {x1 : Int32} {o2 : Option ma_V} (hGo : ma_cl k_RO_removeAt zf_RO (e_RO_removeAt t_0) none 0 s_RO_removeAt post Go) (h0 : zR p0)
    (h : t_0 [.inr p0, .inl x1] w (fun z1 w1 => (¬ z1 = (nI 0) → Go 9 [some (.inr p0), some (.inl x1), o2] [] w1) ∧ (¬ (¬ z1 = (nI 0)) → post 0 w1))) :
    Go 0 [some (.inr p0), some (.inl x1), o2] [] w := qq_RO_removeAt_0 hGo (by simp only [ma_isk_of (zR_s h0), zR_m h0, ma_ark_of (zR_a h0)]; exact h)
theorem q_RO_removeAt_9 {t_0 : ma_T} {post : ma_P} {Go : ma_G} {w : ma_W} {p0 : Nat} {x1 : Int32} {o2 : Option ma_V} (hGo : ma_cl k_RO_removeAt zf_RO (e_RO_removeAt t_0) none 0 s_RO_removeAt post Go)
    (h : Go 13 [some (.inr p0), some (.inl x1), some (.inl (x1 + (nI 1)))] [] w) :
    Go 9 [some (.inr p0), some (.inl x1), o2] [] w := hGo 1 _ _ rfl _ _ _ h
theorem qq_RO_removeAt_13 {t_0 : ma_T} {post : ma_P} {Go : ma_G} {w : ma_W} {p0 : Nat} {x1 : Int32} {x2 : Int32} (hGo : ma_cl k_RO_removeAt zf_RO (e_RO_removeAt t_0) none 0 s_RO_removeAt post Go)
    (h : ma_isk 3 p0 (((w.1 p0 1) ≤ x2 → Go 41 [some (.inr p0), some (.inl x1), some (.inl x2)] [] w) ∧ (¬ ((w.1 p0 1) ≤ x2) → ma_isk 3 p0 (ma_isk 3 p0 (ma_ark (zr w.2.1 p0 0) fun n1 => ∃ j1 : Nat, j1 < n1 ∧ x2 = nI j1 ∧ (ma_ark (zr w.2.1 p0 0) fun n2 => ∃ j2 : Nat, j2 < n2 ∧ (x2 - (nI 1)) = nI j2 ∧ (Go 13 [some (.inr p0), some (.inl x1), some (.inl (x2 + nI 1))] [] (w.1, w.2.1, ma_up w.2.2 (zr w.2.1 p0 0) j2 (w.2.2 (zr w.2.1 p0 0) j1))))))))) :
    Go 13 [some (.inr p0), some (.inl x1), some (.inl x2)] [] w := hGo 2 _ _ rfl _ _ _ h
theorem q_RO_removeAt_13 {t_0 : ma_T} {post : ma_P} {Go : ma_G} {w : ma_W} {p0 : Nat} {x1 : Int32} {x2 : Int32} (hGo : ma_cl k_RO_removeAt zf_RO (e_RO_removeAt t_0) none 0 s_RO_removeAt post Go) (h0 : zR p0)
    (h : ((w.1 p0 1) ≤ x2 → Go 41 [some (.inr p0), some (.inl x1), some (.inl x2)] [] w) ∧ (¬ ((w.1 p0 1) ≤ x2) → ∃ j1 : Nat, j1 < 10 ∧ x2 = nI j1 ∧ (∃ j2 : Nat, j2 < 10 ∧ (x2 - (nI 1)) = nI j2 ∧ (Go 13 [some (.inr p0), some (.inl x1), some (.inl (x2 + nI 1))] [] (w.1, w.2.1, ma_up w.2.2 (p0 + 1) j2 (w.2.2 (p0 + 1) j1)))))) :
    Go 13 [some (.inr p0), some (.inl x1), some (.inl x2)] [] w := qq_RO_removeAt_13 hGo (by simp only [ma_isk_of (zR_s h0), zR_m h0, ma_ark_of (zR_a h0)]; exact h)
theorem qq_RO_removeAt_41 {t_0 : ma_T} {post : ma_P} {Go : ma_G} {w : ma_W} {p0 : Nat} {x1 : Int32} {x2 : Int32} (hGo : ma_cl k_RO_removeAt zf_RO (e_RO_removeAt t_0) none 0 s_RO_removeAt post Go)
    (h : ma_isk 3 p0 (ma_isk 3 p0 (post 0 (ma_up w.1 p0 1 ((w.1 p0 1) - (nI 1)), w.2.1, w.2.2)))) :
    Go 41 [some (.inr p0), some (.inl x1), some (.inl x2)] [] w := hGo 3 _ _ rfl _ _ _ h
theorem q_RO_removeAt_41 {t_0 : ma_T} {post : ma_P} {Go : ma_G} {w : ma_W} {p0 : Nat} {x1 : Int32} {x2 : Int32} (hGo : ma_cl k_RO_removeAt zf_RO (e_RO_removeAt t_0) none 0 s_RO_removeAt post Go) (h0 : zR p0)
    (h : post 0 (ma_up w.1 p0 1 ((w.1 p0 1) - (nI 1)), w.2.1, w.2.2)) :
    Go 41 [some (.inr p0), some (.inl x1), some (.inl x2)] [] w := qq_RO_removeAt_41 hGo (by simp only [ma_isk_of (zR_s h0), zR_m h0, ma_ark_of (zR_a h0)]; exact h)
theorem q_RO_exchangePoints_0 {post : ma_P} {Go : ma_G} {w : ma_W} {p0 : Nat} {x1 : Int32} {x2 : Int32} {o3 : Option ma_V} {o4 : Option ma_V} (hGo : ma_cl k_RO_exchangePoints zf_RO e_RO_exchangePoints none 0 s_RO_exchangePoints post Go)
    (h : Go 2 [some (.inr p0), some (.inl x1), some (.inl x2), some (.inl (nI 0)), o4] [] w) :
    Go 0 [some (.inr p0), some (.inl x1), some (.inl x2), o3, o4] [] w := hGo 0 _ _ rfl _ _ _ h
theorem qq_RO_exchangePoints_2 {post : ma_P} {Go : ma_G} {w : ma_W} {p0 : Nat} {x1 : Int32} {x2 : Int32} {x3 : Int32} {o4 : Option ma_V} (hGo : ma_cl k_RO_exchangePoints zf_RO e_RO_exchangePoints none 0 s_RO_exchangePoints post Go)
    (h : ma_isk 3 p0 (((w.1 p0 1) ≤ x3 → Go 67 [some (.inr p0), some (.inl x1), some (.inl x2), some (.inl x3), o4] [] w) ∧ (¬ ((w.1 p0 1) ≤ x3) → ma_isk 3 p0 (ma_ark (zr w.2.1 p0 0) fun n1 => ∃ j1 : Nat, j1 < n1 ∧ x3 = nI j1 ∧ (ma_isk 3 p0 (ma_ark (zr w.2.1 p0 0) fun n2 => ∃ j2 : Nat, j2 < n2 ∧ x3 = nI j2 ∧ (((((w.2.2 (zr w.2.1 p0 0) j1) >>> (x1 &&& 31)) &&& (nI 1)) = (((w.2.2 (zr w.2.1 p0 0) j2) >>> (x2 &&& 31)) &&& (nI 1)) → Go 37 [some (.inr p0), some (.inl x1), some (.inl x2), some (.inl x3), o4] [] w) ∧ (¬ ((((w.2.2 (zr w.2.1 p0 0) j1) >>> (x1 &&& 31)) &&& (nI 1)) = (((w.2.2 (zr w.2.1 p0 0) j2) >>> (x2 &&& 31)) &&& (nI 1))) → Go 38 [some (.inr p0), some (.inl x1), some (.inl x2), some (.inl x3), o4] [.inl (nI 1)] w)))))))) :
    Go 2 [some (.inr p0), some (.inl x1), some (.inl x2), some (.inl x3), o4] [] w := hGo 1 _ _ rfl _ _ _ h
theorem q_RO_exchangePoints_2 {post : ma_P} {Go : ma_G} {w : ma_W} {p0 : Nat} {x1 : Int32} {x2 : Int32} {x3 : Int32} {o4 : Option ma_V} (hGo : ma_cl k_RO_exchangePoints zf_RO e_RO_exchangePoints none 0 s_RO_exchangePoints post Go) (h0 : zR p0)
    (h : ((w.1 p0 1) ≤ x3 → Go 67 [some (.inr p0), some (.inl x1), some (.inl x2), some (.inl x3), o4] [] w) ∧ (¬ ((w.1 p0 1) ≤ x3) → ∃ j1 : Nat, j1 < 10 ∧ x3 = nI j1 ∧ (∃ j2 : Nat, j2 < 10 ∧ x3 = nI j2 ∧ (((((w.2.2 (p0 + 1) j1) >>> (x1 &&& 31)) &&& (nI 1)) = (((w.2.2 (p0 + 1) j2) >>> (x2 &&& 31)) &&& (nI 1)) → Go 37 [some (.inr p0), some (.inl x1), some (.inl x2), some (.inl x3), o4] [] w) ∧ (¬ ((((w.2.2 (p0 + 1) j1) >>> (x1 &&& 31)) &&& (nI 1)) = (((w.2.2 (p0 + 1) j2) >>> (x2 &&& 31)) &&& (nI 1))) → Go 38 [some (.inr p0), some (.inl x1), some (.inl x2), some (.inl x3), o4] [.inl (nI 1)] w))))) :
    Go 2 [some (.inr p0), some (.inl x1), some (.inl x2), some (.inl x3), o4] [] w := qq_RO_exchangePoints_2 hGo (by simp only [ma_isk_of (zR_s h0), zR_m h0, ma_ark_of (zR_a h0)]; exact h)
theorem q_RO_exchangePoints_37 {post : ma_P} {Go : ma_G} {w : ma_W} {p0 : Nat} {x1 : Int32} {x2 : Int32} {x3 : Int32} {o4 : Option ma_V} (hGo : ma_cl k_RO_exchangePoints zf_RO e_RO_exchangePoints none 0 s_RO_exchangePoints post Go)
    (h : Go 38 [some (.inr p0), some (.inl x1), some (.inl x2), some (.inl x3), o4] [.inl (nI 0)] w) :
    Go 37 [some (.inr p0), some (.inl x1), some (.inl x2), some (.inl x3), o4] [] w := hGo 2 _ _ rfl _ _ _ h
theorem qq_RO_exchangePoints_38 {post : ma_P} {Go : ma_G} {w : ma_W} {p0 : Nat} {x1 : Int32} {x2 : Int32} {x3 : Int32} {o4 : Option ma_V} {y0 : Int32} (hGo : ma_cl k_RO_exchangePoints zf_RO e_RO_exchangePoints none 0 s_RO_exchangePoints post Go)
    (h : (y0 = (nI 0) → Go 61 [some (.inr p0), some (.inl x1), some (.inl x2), some (.inl x3), some (.inl y0)] [] w) ∧ (¬ (y0 = (nI 0)) → ma_isk 3 p0 (ma_ark (zr w.2.1 p0 0) fun n1 => ∃ j1 : Nat, j1 < n1 ∧ x3 = nI j1 ∧ (ma_ark (zr w.2.1 p0 0) fun n2 => ∃ j2 : Nat, j2 < n2 ∧ x3 = nI j2 ∧ (Go 61 [some (.inr p0), some (.inl x1), some (.inl x2), some (.inl x3), some (.inl y0)] [] (w.1, w.2.1, ma_up w.2.2 (zr w.2.1 p0 0) j2 ((w.2.2 (zr w.2.1 p0 0) j1) ^^^ (((nI 1) <<< (x1 &&& 31)) ||| ((nI 1) <<< (x2 &&& 31)))))))))) :
    Go 38 [some (.inr p0), some (.inl x1), some (.inl x2), some (.inl x3), o4] [.inl y0] w := hGo 3 _ _ rfl _ _ _ h
theorem q_RO_exchangePoints_38 {post : ma_P} {Go : ma_G} {w : ma_W} {p0 : Nat} {x1 : Int32} {x2 : Int32} {x3 : Int32} {o4 : Option ma_V} {y0 : Int32} (hGo : ma_cl k_RO_exchangePoints zf_RO e_RO_exchangePoints none 0 s_RO_exchangePoints post Go) (h0 : zR p0)
    (h : (y0 = (nI 0) → Go 61 [some (.inr p0), some (.inl x1), some (.inl x2), some (.inl x3), some (.inl y0)] [] w) ∧ (¬ (y0 = (nI 0)) → ∃ j1 : Nat, j1 < 10 ∧ x3 = nI j1 ∧ (∃ j2 : Nat, j2 < 10 ∧ x3 = nI j2 ∧ (Go 61 [some (.inr p0), some (.inl x1), some (.inl x2), some (.inl x3), some (.inl y0)] [] (w.1, w.2.1, ma_up w.2.2 (p0 + 1) j2 ((w.2.2 (p0 + 1) j1) ^^^ (((nI 1) <<< (x1 &&& 31)) ||| ((nI 1) <<< (x2 &&& 31))))))))) :
    Go 38 [some (.inr p0), some (.inl x1), some (.inl x2), some (.inl x3), o4] [.inl y0] w := qq_RO_exchangePoints_38 hGo (by simp only [ma_isk_of (zR_s h0), zR_m h0, ma_ark_of (zR_a h0)]; exact h)
theorem q_RO_exchangePoints_61 {post : ma_P} {Go : ma_G} {w : ma_W} {p0 : Nat} {x1 : Int32} {x2 : Int32} {x3 : Int32} {x4 : Int32} (hGo : ma_cl k_RO_exchangePoints zf_RO e_RO_exchangePoints none 0 s_RO_exchangePoints post Go)
    (h : Go 2 [some (.inr p0), some (.inl x1), some (.inl x2), some (.inl (x3 + nI 1)), some (.inl x4)] [] w) :
    Go 61 [some (.inr p0), some (.inl x1), some (.inl x2), some (.inl x3), some (.inl x4)] [] w := hGo 4 _ _ rfl _ _ _ h
theorem q_RO_exchangePoints_67 {post : ma_P} {Go : ma_G} {w : ma_W} {p0 : Nat} {x1 : Int32} {x2 : Int32} {x3 : Int32} {o4 : Option ma_V} (hGo : ma_cl k_RO_exchangePoints zf_RO e_RO_exchangePoints none 0 s_RO_exchangePoints post Go)
    (h : post 0 w) :
    Go 67 [some (.inr p0), some (.inl x1), some (.inl x2), some (.inl x3), o4] [] w := hGo 5 _ _ rfl _ _ _ h
theorem qq_LI_restart_0 {post : ma_P} {Go : ma_G} {w : ma_W} {p0 : Nat} {x1 : Int32} (hGo : ma_cl k_LI_restart zf_LI e_LI_restart none 0 s_LI_restart post Go)
    (h : ma_isk 4 p0 (ma_isk 4 p0 (post 0 (ma_up (ma_up w.1 p0 3 x1) p0 4 (nI 0), w.2.1, w.2.2)))) :
    Go 0 [some (.inr p0), some (.inl x1)] [] w := hGo 0 _ _ rfl _ _ _ h
theorem q_LI_restart_0 {post : ma_P} {Go : ma_G} {w : ma_W} {p0 : Nat} {x1 : Int32} (hGo : ma_cl k_LI_restart zf_LI e_LI_restart none 0 s_LI_restart post Go) (h0 : zL p0)
    (h : post 0 (ma_up (ma_up w.1 p0 3 x1) p0 4 (nI 0), w.2.1, w.2.2)) :
    Go 0 [some (.inr p0), some (.inl x1)] [] w := qq_LI_restart_0 hGo (by simp only [ma_isk_of (zL_s h0), zL_m1 h0, zL_m2 h0, zL_m3 h0, ma_ark_of (zL_a1 h0), ma_ark_of (zL_a2 h0), ma_ark_of (zL_a3 h0)]; exact h)
theorem qq_LI_addEmptyRow_0 {post : ma_P} {Go : ma_G} {w : ma_W} {p0 : Nat} {x1 : Int32} {o2 : Option ma_V} (hGo : ma_cl k_LI_addEmptyRow zf_LI e_LI_addEmptyRow none 0 s_LI_addEmptyRow post Go)
    (h : ma_isk 4 p0 (ma_ark (zr w.2.1 p0 1) fun n1 => ∃ j1 : Nat, j1 < n1 ∧ (nI 0) = nI j1 ∧ (Go 9 [some (.inr p0), some (.inl x1), some (.inl (nI 0))] [] (w.1, w.2.1, ma_up w.2.2 (zr w.2.1 p0 1) j1 x1)))) :
    Go 0 [some (.inr p0), some (.inl x1), o2] [] w := hGo 0 _ _ rfl _ _ _ h
theorem q_LI_addEmptyRow_0 {post : ma_P} {Go : ma_G} {w : ma_W} {p0 : Nat} {x1 : Int32} {o2 : Option ma_V} (hGo : ma_cl k_LI_addEmptyRow zf_LI e_LI_addEmptyRow none 0 s_LI_addEmptyRow post Go) (h0 : zL p0)
    (h : ∃ j1 : Nat, j1 < 60 ∧ (nI 0) = nI j1 ∧ (Go 9 [some (.inr p0), some (.inl x1), some (.inl (nI 0))] [] (w.1, w.2.1, ma_up w.2.2 (p0 + 2) j1 x1))) :
    Go 0 [some (.inr p0), some (.inl x1), o2] [] w := qq_LI_addEmptyRow_0 hGo (by simp only [ma_isk_of (zL_s h0), zL_m1 h0, zL_m2 h0, zL_m3 h0, ma_ark_of (zL_a1 h0), ma_ark_of (zL_a2 h0), ma_ark_of (zL_a3 h0)]; exact h)
theorem qq_LI_addEmptyRow_9 {post : ma_P} {Go : ma_G} {w : ma_W} {p0 : Nat} {x1 : Int32} {x2 : Int32} (hGo : ma_cl k_LI_addEmptyRow zf_LI e_LI_addEmptyRow none 0 s_LI_addEmptyRow post Go)
    (h : ((nI 6) ≤ x2 → Go 28 [some (.inr p0), some (.inl x1), some (.inl x2)] [] w) ∧ (¬ ((nI 6) ≤ x2) → ma_isk 4 p0 (ma_ark (zr w.2.1 p0 2) fun n1 => ∃ j1 : Nat, j1 < n1 ∧ x2 = nI j1 ∧ (Go 9 [some (.inr p0), some (.inl x1), some (.inl (x2 + nI 1))] [] (w.1, w.2.1, ma_up w.2.2 (zr w.2.1 p0 2) j1 (nI 0)))))) :
    Go 9 [some (.inr p0), some (.inl x1), some (.inl x2)] [] w := hGo 1 _ _ rfl _ _ _ h
theorem q_LI_addEmptyRow_9 {post : ma_P} {Go : ma_G} {w : ma_W} {p0 : Nat} {x1 : Int32} {x2 : Int32} (hGo : ma_cl k_LI_addEmptyRow zf_LI e_LI_addEmptyRow none 0 s_LI_addEmptyRow post Go) (h0 : zL p0)
    (h : ((nI 6) ≤ x2 → Go 28 [some (.inr p0), some (.inl x1), some (.inl x2)] [] w) ∧ (¬ ((nI 6) ≤ x2) → ∃ j1 : Nat, j1 < 360 ∧ x2 = nI j1 ∧ (Go 9 [some (.inr p0), some (.inl x1), some (.inl (x2 + nI 1))] [] (w.1, w.2.1, ma_up w.2.2 (p0 + 3) j1 (nI 0))))) :
    Go 9 [some (.inr p0), some (.inl x1), some (.inl x2)] [] w := qq_LI_addEmptyRow_9 hGo (by simp only [ma_isk_of (zL_s h0), zL_m1 h0, zL_m2 h0, zL_m3 h0, ma_ark_of (zL_a1 h0), ma_ark_of (zL_a2 h0), ma_ark_of (zL_a3 h0)]; exact h)
theorem qq_LI_addEmptyRow_28 {post : ma_P} {Go : ma_G} {w : ma_W} {p0 : Nat} {x1 : Int32} {x2 : Int32} (hGo : ma_cl k_LI_addEmptyRow zf_LI e_LI_addEmptyRow none 0 s_LI_addEmptyRow post Go)
    (h : ma_isk 4 p0 (post 0 (ma_up w.1 p0 4 (nI 1), w.2.1, w.2.2))) :
    Go 28 [some (.inr p0), some (.inl x1), some (.inl x2)] [] w := hGo 2 _ _ rfl _ _ _ h
theorem q_LI_addEmptyRow_28 {post : ma_P} {Go : ma_G} {w : ma_W} {p0 : Nat} {x1 : Int32} {x2 : Int32} (hGo : ma_cl k_LI_addEmptyRow zf_LI e_LI_addEmptyRow none 0 s_LI_addEmptyRow post Go) (h0 : zL p0)
    (h : post 0 (ma_up w.1 p0 4 (nI 1), w.2.1, w.2.2)) :
    Go 28 [some (.inr p0), some (.inl x1), some (.inl x2)] [] w := qq_LI_addEmptyRow_28 hGo (by simp only [ma_isk_of (zL_s h0), zL_m1 h0, zL_m2 h0, zL_m3 h0, ma_ark_of (zL_a1 h0), ma_ark_of (zL_a2 h0), ma_ark_of (zL_a3 h0)]; exact h)
theorem qq_LI_addRow_0 {t_0 t_1 t_2 t_3 t_4 : ma_T} {post : ma_P} {Go : ma_G} {w : ma_W} {p0 : Nat} {p1 : Nat} {o3 : Option ma_V} (hGo : ma_cl k_LI_addRow zf_LI (e_LI_addRow t_0 t_1 t_2 t_3 t_4) none 0 s_LI_addRow post Go)
    (h : ma_isk 4 p0 (t_0 [.inr p0] w (fun z1 w1 => (¬ z1 = (nI 0) → Go 18 [some (.inr p0), some (.inr p1), some (.inr 1), o3] [] w1) ∧ (¬ (¬ z1 = (nI 0)) → ma_isk 3 p1 (t_1 [.inr p1] w1 (fun z2 w2 => ma_isk 4 p0 ((z2 = (w2.1 p0 3) → Go 19 [some (.inr p0), some (.inr p1), some (.inr 1), o3] [] w2) ∧ (¬ (z2 = (w2.1 p0 3)) → Go 18 [some (.inr p0), some (.inr p1), some (.inr 1), o3] [] w2)))))))) :
    Go 0 [some (.inr p0), some (.inr p1), some (.inr 1), o3] [] w := hGo 0 _ _ rfl _ _ _ h
theorem q_LI_addRow_0 {t_0 t_1 t_2 t_3 t_4 : ma_T} {post : ma_P} {Go : ma_G} {w : ma_W} {p0 : Nat} {p1 : Nat} {o3 : Option ma_V} (hGo : ma_cl k_LI_addRow zf_LI (e_LI_addRow t_0 t_1 t_2 t_3 t_4) none 0 s_LI_addRow post Go) (h0 : zL p0) (h1 : zR p1)
    (h : t_0 [.inr p0] w (fun z1 w1 => (¬ z1 = (nI 0) → Go 18 [some (.inr p0), some (.inr p1), some (.inr 1), o3] [] w1) ∧ (¬ (¬ z1 = (nI 0)) → t_1 [.inr p1] w1 (fun z2 w2 => (z2 = (w2.1 p0 3) → Go 19 [some (.inr p0), some (.inr p1), some (.inr 1), o3] [] w2) ∧ (¬ (z2 = (w2.1 p0 3)) → Go 18 [some (.inr p0), some (.inr p1), some (.inr 1), o3] [] w2))))) :
    Go 0 [some (.inr p0), some (.inr p1), some (.inr 1), o3] [] w := qq_LI_addRow_0 hGo (by simp only [ma_isk_of (zL_s h0), zL_m1 h0, zL_m2 h0, zL_m3 h0, ma_ark_of (zL_a1 h0), ma_ark_of (zL_a2 h0), ma_ark_of (zL_a3 h0), ma_isk_of (zR_s h1), zR_m h1, ma_ark_of (zR_a h1)]; exact h)
theorem q_LI_addRow_18 {t_0 t_1 t_2 t_3 t_4 : ma_T} {post : ma_P} {Go : ma_G} {w : ma_W} {p0 : Nat} {p1 : Nat} {o3 : Option ma_V} (hGo : ma_cl k_LI_addRow zf_LI (e_LI_addRow t_0 t_1 t_2 t_3 t_4) none 0 s_LI_addRow post Go)
    (h : post 0 w) :
    Go 18 [some (.inr p0), some (.inr p1), some (.inr 1), o3] [] w := hGo 1 _ _ rfl _ _ _ h
theorem q_LI_addRow_19 {t_0 t_1 t_2 t_3 t_4 : ma_T} {post : ma_P} {Go : ma_G} {w : ma_W} {p0 : Nat} {p1 : Nat} {o3 : Option ma_V} (hGo : ma_cl k_LI_addRow zf_LI (e_LI_addRow t_0 t_1 t_2 t_3 t_4) none 0 s_LI_addRow post Go)
    (h : Go 21 [some (.inr p0), some (.inr p1), some (.inr 1), some (.inl (nI 0))] [] w) :
    Go 19 [some (.inr p0), some (.inr p1), some (.inr 1), o3] [] w := hGo 2 _ _ rfl _ _ _ h
theorem qq_LI_addRow_21 {t_0 t_1 t_2 t_3 t_4 : ma_T} {post : ma_P} {Go : ma_G} {w : ma_W} {p0 : Nat} {p1 : Nat} {x3 : Int32} (hGo : ma_cl k_LI_addRow zf_LI (e_LI_addRow t_0 t_1 t_2 t_3 t_4) none 0 s_LI_addRow post Go)
    (h : ma_isk 4 p0 (((w.1 p0 3) ≤ x3 → Go 54 [some (.inr p0), some (.inr p1), some (.inr 1), some (.inl x3)] [] w) ∧ (¬ ((w.1 p0 3) ≤ x3) → ma_isk 4 p0 (ma_isk 4 p0 (ma_isk 3 p1 (t_2 [.inr p1, .inl x3] w (fun z1 w1 => ma_ark (zr w.2.1 p0 0) fun n2 => ∃ j2 : Nat, j2 < n2 ∧ (((w.1 p0 4) * (nI 10)) + x3) = nI j2 ∧ (Go 21 [some (.inr p0), some (.inr p1), some (.inr 1), some (.inl (x3 + nI 1))] [] (w1.1, w1.2.1, ma_up w1.2.2 (zr w.2.1 p0 0) j2 z1))))))))) :
    Go 21 [some (.inr p0), some (.inr p1), some (.inr 1), some (.inl x3)] [] w := hGo 3 _ _ rfl _ _ _ h
theorem q_LI_addRow_21 {t_0 t_1 t_2 t_3 t_4 : ma_T} {post : ma_P} {Go : ma_G} {w : ma_W} {p0 : Nat} {p1 : Nat} {x3 : Int32} (hGo : ma_cl k_LI_addRow zf_LI (e_LI_addRow t_0 t_1 t_2 t_3 t_4) none 0 s_LI_addRow post Go) (h0 : zL p0) (h1 : zR p1)
    (h : ((w.1 p0 3) ≤ x3 → Go 54 [some (.inr p0), some (.inr p1), some (.inr 1), some (.inl x3)] [] w) ∧ (¬ ((w.1 p0 3) ≤ x3) → t_2 [.inr p1, .inl x3] w (fun z1 w1 => ∃ j2 : Nat, j2 < 600 ∧ (((w.1 p0 4) * (nI 10)) + x3) = nI j2 ∧ (Go 21 [some (.inr p0), some (.inr p1), some (.inr 1), some (.inl (x3 + nI 1))] [] (w1.1, w1.2.1, ma_up w1.2.2 (p0 + 1) j2 z1))))) :
    Go 21 [some (.inr p0), some (.inr p1), some (.inr 1), some (.inl x3)] [] w := qq_LI_addRow_21 hGo (by simp only [ma_isk_of (zL_s h0), zL_m1 h0, zL_m2 h0, zL_m3 h0, ma_ark_of (zL_a1 h0), ma_ark_of (zL_a2 h0), ma_ark_of (zL_a3 h0), ma_isk_of (zR_s h1), zR_m h1, ma_ark_of (zR_a h1)]; exact h)
theorem q_LI_addRow_54 {t_0 t_1 t_2 t_3 t_4 : ma_T} {post : ma_P} {Go : ma_G} {w : ma_W} {p0 : Nat} {p1 : Nat} {x3 : Int32} (hGo : ma_cl k_LI_addRow zf_LI (e_LI_addRow t_0 t_1 t_2 t_3 t_4) none 0 s_LI_addRow post Go)
    (h : Go 56 [some (.inr p0), some (.inr p1), some (.inr 1), some (.inl (nI 0))] [] w) :
    Go 54 [some (.inr p0), some (.inr p1), some (.inr 1), some (.inl x3)] [] w := hGo 4 _ _ rfl _ _ _ h
theorem qq_LI_addRow_56 {t_0 t_1 t_2 t_3 t_4 : ma_T} {post : ma_P} {Go : ma_G} {w : ma_W} {p0 : Nat} {p1 : Nat} {x3 : Int32} (hGo : ma_cl k_LI_addRow zf_LI (e_LI_addRow t_0 t_1 t_2 t_3 t_4) none 0 s_LI_addRow post Go)
    (h : ((nI 6) ≤ x3 → Go 87 [some (.inr p0), some (.inr p1), some (.inr 1), some (.inl x3)] [] w) ∧ (¬ ((nI 6) ≤ x3) → ma_isk 4 p0 (ma_isk 4 p0 (t_3 [.inr 1, .inl x3] w (fun z1 w1 => ma_ark (zr w.2.1 p0 2) fun n2 => ∃ j2 : Nat, j2 < n2 ∧ (((w.1 p0 4) * (nI 6)) + x3) = nI j2 ∧ (Go 56 [some (.inr p0), some (.inr p1), some (.inr 1), some (.inl (x3 + nI 1))] [] (w1.1, w1.2.1, ma_up w1.2.2 (zr w.2.1 p0 2) j2 z1))))))) :
    Go 56 [some (.inr p0), some (.inr p1), some (.inr 1), some (.inl x3)] [] w := hGo 5 _ _ rfl _ _ _ h
theorem q_LI_addRow_56 {t_0 t_1 t_2 t_3 t_4 : ma_T} {post : ma_P} {Go : ma_G} {w : ma_W} {p0 : Nat} {p1 : Nat} {x3 : Int32} (hGo : ma_cl k_LI_addRow zf_LI (e_LI_addRow t_0 t_1 t_2 t_3 t_4) none 0 s_LI_addRow post Go) (h0 : zL p0) (h1 : zR p1)
    (h : ((nI 6) ≤ x3 → Go 87 [some (.inr p0), some (.inr p1), some (.inr 1), some (.inl x3)] [] w) ∧ (¬ ((nI 6) ≤ x3) → t_3 [.inr 1, .inl x3] w (fun z1 w1 => ∃ j2 : Nat, j2 < 360 ∧ (((w.1 p0 4) * (nI 6)) + x3) = nI j2 ∧ (Go 56 [some (.inr p0), some (.inr p1), some (.inr 1), some (.inl (x3 + nI 1))] [] (w1.1, w1.2.1, ma_up w1.2.2 (p0 + 3) j2 z1))))) :
    Go 56 [some (.inr p0), some (.inr p1), some (.inr 1), some (.inl x3)] [] w := qq_LI_addRow_56 hGo (by simp only [ma_isk_of (zL_s h0), zL_m1 h0, zL_m2 h0, zL_m3 h0, ma_ark_of (zL_a1 h0), ma_ark_of (zL_a2 h0), ma_ark_of (zL_a3 h0), ma_isk_of (zR_s h1), zR_m h1, ma_ark_of (zR_a h1)]; exact h)
theorem qq_LI_addRow_87 {t_0 t_1 t_2 t_3 t_4 : ma_T} {post : ma_P} {Go : ma_G} {w : ma_W} {p0 : Nat} {p1 : Nat} {x3 : Int32} (hGo : ma_cl k_LI_addRow zf_LI (e_LI_addRow t_0 t_1 t_2 t_3 t_4) none 0 s_LI_addRow post Go)
    (h : ma_isk 4 p0 (ma_isk 4 p0 (t_4 [.inr 1] w (fun z1 w1 => ma_ark (zr w.2.1 p0 1) fun n2 => ∃ j2 : Nat, j2 < n2 ∧ (w.1 p0 4) = nI j2 ∧ (ma_isk 4 p0 (ma_isk 4 p0 (post 0 (ma_up w1.1 p0 4 ((w1.1 p0 4) + (nI 1)), w1.2.1, ma_up w1.2.2 (zr w.2.1 p0 1) j2 z1)))))))) :
    Go 87 [some (.inr p0), some (.inr p1), some (.inr 1), some (.inl x3)] [] w := hGo 6 _ _ rfl _ _ _ h
theorem q_LI_addRow_87 {t_0 t_1 t_2 t_3 t_4 : ma_T} {post : ma_P} {Go : ma_G} {w : ma_W} {p0 : Nat} {p1 : Nat} {x3 : Int32} (hGo : ma_cl k_LI_addRow zf_LI (e_LI_addRow t_0 t_1 t_2 t_3 t_4) none 0 s_LI_addRow post Go) (h0 : zL p0) (h1 : zR p1)
    (h : t_4 [.inr 1] w (fun z1 w1 => ∃ j2 : Nat, j2 < 60 ∧ (w.1 p0 4) = nI j2 ∧ (post 0 (ma_up w1.1 p0 4 ((w1.1 p0 4) + (nI 1)), w1.2.1, ma_up w1.2.2 (p0 + 2) j2 z1)))) :
    Go 87 [some (.inr p0), some (.inr p1), some (.inr 1), some (.inl x3)] [] w := qq_LI_addRow_87 hGo (by simp only [ma_isk_of (zL_s h0), zL_m1 h0, zL_m2 h0, zL_m3 h0, ma_ark_of (zL_a1 h0), ma_ark_of (zL_a2 h0), ma_ark_of (zL_a3 h0), ma_isk_of (zR_s h1), zR_m h1, ma_ark_of (zR_a h1)]; exact h)
theorem qq_LI_size_0 {post : ma_P} {Go : ma_G} {w : ma_W} {p0 : Nat} (hGo : ma_cl k_LI_size zf_LI e_LI_size none 1 s_LI_size post Go)
    (h : ma_isk 4 p0 (post (w.1 p0 4) w)) :
    Go 0 [some (.inr p0)] [] w := hGo 0 _ _ rfl _ _ _ h
theorem q_LI_size_0 {post : ma_P} {Go : ma_G} {w : ma_W} {p0 : Nat} (hGo : ma_cl k_LI_size zf_LI e_LI_size none 1 s_LI_size post Go) (h0 : zL p0)
    (h : post (w.1 p0 4) w) :
    Go 0 [some (.inr p0)] [] w := qq_LI_size_0 hGo (by simp only [ma_isk_of (zL_s h0), zL_m1 h0, zL_m2 h0, zL_m3 h0, ma_ark_of (zL_a1 h0), ma_ark_of (zL_a2 h0), ma_ark_of (zL_a3 h0)]; exact h)
theorem qq_LI_isFull_0 {post : ma_P} {Go : ma_G} {w : ma_W} {p0 : Nat} (hGo : ma_cl k_LI_isFull zf_LI e_LI_isFull none 2 s_LI_isFull post Go)
    (h : ma_isk 4 p0 (((w.1 p0 4) < (nI 60) → Go 13 [some (.inr p0)] [] w) ∧ (¬ ((w.1 p0 4) < (nI 60)) → Go 14 [some (.inr p0)] [.inl (nI 1)] w))) :
    Go 0 [some (.inr p0)] [] w := hGo 0 _ _ rfl _ _ _ h
theorem q_LI_isFull_0 {post : ma_P} {Go : ma_G} {w : ma_W} {p0 : Nat} (hGo : ma_cl k_LI_isFull zf_LI e_LI_isFull none 2 s_LI_isFull post Go) (h0 : zL p0)
    (h : ((w.1 p0 4) < (nI 60) → Go 13 [some (.inr p0)] [] w) ∧ (¬ ((w.1 p0 4) < (nI 60)) → Go 14 [some (.inr p0)] [.inl (nI 1)] w)) :
    Go 0 [some (.inr p0)] [] w := qq_LI_isFull_0 hGo (by simp only [ma_isk_of (zL_s h0), zL_m1 h0, zL_m2 h0, zL_m3 h0, ma_ark_of (zL_a1 h0), ma_ark_of (zL_a2 h0), ma_ark_of (zL_a3 h0)]; exact h)
theorem q_LI_isFull_13 {post : ma_P} {Go : ma_G} {w : ma_W} {p0 : Nat} (hGo : ma_cl k_LI_isFull zf_LI e_LI_isFull none 2 s_LI_isFull post Go)
    (h : Go 14 [some (.inr p0)] [.inl (nI 0)] w) :
    Go 13 [some (.inr p0)] [] w := hGo 1 _ _ rfl _ _ _ h
theorem q_LI_isFull_14 {post : ma_P} {Go : ma_G} {w : ma_W} {p0 : Nat} {y0 : Int32} (hGo : ma_cl k_LI_isFull zf_LI e_LI_isFull none 2 s_LI_isFull post Go)
    (h : (y0 = 0 ∨ y0 = 1) ∧ post y0 w) :
    Go 14 [some (.inr p0)] [.inl y0] w := hGo 2 _ _ rfl _ _ _ h
theorem qq_LI_has_0 {post : ma_P} {Go : ma_G} {w : ma_W} {p0 : Nat} {x1 : Int32} (hGo : ma_cl k_LI_has zf_LI e_LI_has none 2 s_LI_has post Go)
    (h : (x1 < (nI 0) → Go 16 [some (.inr p0), some (.inl x1)] [] w) ∧ (¬ (x1 < (nI 0)) → ma_isk 4 p0 (((w.1 p0 4) ≤ x1 → Go 16 [some (.inr p0), some (.inl x1)] [] w) ∧ (¬ ((w.1 p0 4) ≤ x1) → Go 17 [some (.inr p0), some (.inl x1)] [.inl (nI 1)] w)))) :
    Go 0 [some (.inr p0), some (.inl x1)] [] w := hGo 0 _ _ rfl _ _ _ h
theorem q_LI_has_0 {post : ma_P} {Go : ma_G} {w : ma_W} {p0 : Nat} {x1 : Int32} (hGo : ma_cl k_LI_has zf_LI e_LI_has none 2 s_LI_has post Go) (h0 : zL p0)
    (h : (x1 < (nI 0) → Go 16 [some (.inr p0), some (.inl x1)] [] w) ∧ (¬ (x1 < (nI 0)) → ((w.1 p0 4) ≤ x1 → Go 16 [some (.inr p0), some (.inl x1)] [] w) ∧ (¬ ((w.1 p0 4) ≤ x1) → Go 17 [some (.inr p0), some (.inl x1)] [.inl (nI 1)] w))) :
    Go 0 [some (.inr p0), some (.inl x1)] [] w := qq_LI_has_0 hGo (by simp only [ma_isk_of (zL_s h0), zL_m1 h0, zL_m2 h0, zL_m3 h0, ma_ark_of (zL_a1 h0), ma_ark_of (zL_a2 h0), ma_ark_of (zL_a3 h0)]; exact h)
theorem q_LI_has_16 {post : ma_P} {Go : ma_G} {w : ma_W} {p0 : Nat} {x1 : Int32} (hGo : ma_cl k_LI_has zf_LI e_LI_has none 2 s_LI_has post Go)
    (h : Go 17 [some (.inr p0), some (.inl x1)] [.inl (nI 0)] w) :
    Go 16 [some (.inr p0), some (.inl x1)] [] w := hGo 1 _ _ rfl _ _ _ h
theorem q_LI_has_17 {post : ma_P} {Go : ma_G} {w : ma_W} {p0 : Nat} {x1 : Int32} {y0 : Int32} (hGo : ma_cl k_LI_has zf_LI e_LI_has none 2 s_LI_has post Go)
    (h : (y0 = 0 ∨ y0 = 1) ∧ post y0 w) :
    Go 17 [some (.inr p0), some (.inl x1)] [.inl y0] w := hGo 2 _ _ rfl _ _ _ h
theorem qq_LI_rowLength_0 {post : ma_P} {Go : ma_G} {w : ma_W} {p0 : Nat} (hGo : ma_cl k_LI_rowLength zf_LI e_LI_rowLength none 1 s_LI_rowLength post Go)
    (h : ma_isk 4 p0 (post (w.1 p0 3) w)) :
    Go 0 [some (.inr p0)] [] w := hGo 0 _ _ rfl _ _ _ h
theorem q_LI_rowLength_0 {post : ma_P} {Go : ma_G} {w : ma_W} {p0 : Nat} (hGo : ma_cl k_LI_rowLength zf_LI e_LI_rowLength none 1 s_LI_rowLength post Go) (h0 : zL p0)
    (h : post (w.1 p0 3) w) :
    Go 0 [some (.inr p0)] [] w := qq_LI_rowLength_0 hGo (by simp only [ma_isk_of (zL_s h0), zL_m1 h0, zL_m2 h0, zL_m3 h0, ma_ark_of (zL_a1 h0), ma_ark_of (zL_a2 h0), ma_ark_of (zL_a3 h0)]; exact h)
theorem qq_LI_mask_0 {post : ma_P} {Go : ma_G} {w : ma_W} {p0 : Nat} {x1 : Int32} {x2 : Int32} (hGo : ma_cl k_LI_mask zf_LI e_LI_mask none 1 s_LI_mask post Go)
    (h : ma_isk 4 p0 (ma_ark (zr w.2.1 p0 0) fun n1 => ∃ j1 : Nat, j1 < n1 ∧ ((x1 * (nI 10)) + x2) = nI j1 ∧ (post (w.2.2 (zr w.2.1 p0 0) j1) w))) :
    Go 0 [some (.inr p0), some (.inl x1), some (.inl x2)] [] w := hGo 0 _ _ rfl _ _ _ h
theorem q_LI_mask_0 {post : ma_P} {Go : ma_G} {w : ma_W} {p0 : Nat} {x1 : Int32} {x2 : Int32} (hGo : ma_cl k_LI_mask zf_LI e_LI_mask none 1 s_LI_mask post Go) (h0 : zL p0)
    (h : ∃ j1 : Nat, j1 < 600 ∧ ((x1 * (nI 10)) + x2) = nI j1 ∧ (post (w.2.2 (p0 + 1) j1) w)) :
    Go 0 [some (.inr p0), some (.inl x1), some (.inl x2)] [] w := qq_LI_mask_0 hGo (by simp only [ma_isk_of (zL_s h0), zL_m1 h0, zL_m2 h0, zL_m3 h0, ma_ark_of (zL_a1 h0), ma_ark_of (zL_a2 h0), ma_ark_of (zL_a3 h0)]; exact h)
theorem qq_LI_symmetriesOf_0 {post : ma_P} {Go : ma_G} {w : ma_W} {p0 : Nat} {x1 : Int32} (hGo : ma_cl k_LI_symmetriesOf zf_LI e_LI_symmetriesOf none 1 s_LI_symmetriesOf post Go)
    (h : ma_isk 4 p0 (ma_ark (zr w.2.1 p0 1) fun n1 => ∃ j1 : Nat, j1 < n1 ∧ x1 = nI j1 ∧ (post (w.2.2 (zr w.2.1 p0 1) j1) w))) :
    Go 0 [some (.inr p0), some (.inl x1)] [] w := hGo 0 _ _ rfl _ _ _ h
theorem q_LI_symmetriesOf_0 {post : ma_P} {Go : ma_G} {w : ma_W} {p0 : Nat} {x1 : Int32} (hGo : ma_cl k_LI_symmetriesOf zf_LI e_LI_symmetriesOf none 1 s_LI_symmetriesOf post Go) (h0 : zL p0)
    (h : ∃ j1 : Nat, j1 < 60 ∧ x1 = nI j1 ∧ (post (w.2.2 (p0 + 2) j1) w)) :
    Go 0 [some (.inr p0), some (.inl x1)] [] w := qq_LI_symmetriesOf_0 hGo (by simp only [ma_isk_of (zL_s h0), zL_m1 h0, zL_m2 h0, zL_m3 h0, ma_ark_of (zL_a1 h0), ma_ark_of (zL_a2 h0), ma_ark_of (zL_a3 h0)]; exact h)
theorem qq_LI_leastImage_0 {post : ma_P} {Go : ma_G} {w : ma_W} {p0 : Nat} {x1 : Int32} {x2 : Int32} (hGo : ma_cl k_LI_leastImage zf_LI e_LI_leastImage none 1 s_LI_leastImage post Go)
    (h : ma_isk 4 p0 (ma_ark (zr w.2.1 p0 2) fun n1 => ∃ j1 : Nat, j1 < n1 ∧ ((x1 * (nI 6)) + x2) = nI j1 ∧ (post (w.2.2 (zr w.2.1 p0 2) j1) w))) :
    Go 0 [some (.inr p0), some (.inl x1), some (.inl x2)] [] w := hGo 0 _ _ rfl _ _ _ h
theorem q_LI_leastImage_0 {post : ma_P} {Go : ma_G} {w : ma_W} {p0 : Nat} {x1 : Int32} {x2 : Int32} (hGo : ma_cl k_LI_leastImage zf_LI e_LI_leastImage none 1 s_LI_leastImage post Go) (h0 : zL p0)
    (h : ∃ j1 : Nat, j1 < 360 ∧ ((x1 * (nI 6)) + x2) = nI j1 ∧ (post (w.2.2 (p0 + 3) j1) w)) :
    Go 0 [some (.inr p0), some (.inl x1), some (.inl x2)] [] w := qq_LI_leastImage_0 hGo (by simp only [ma_isk_of (zL_s h0), zL_m1 h0, zL_m2 h0, zL_m3 h0, ma_ark_of (zL_a1 h0), ma_ark_of (zL_a2 h0), ma_ark_of (zL_a3 h0)]; exact h)
theorem q_LI_blocksHolding_0 {t_0 : ma_T} {post : ma_P} {Go : ma_G} {w : ma_W} {p0 : Nat} {x1 : Int32} {x2 : Int32} {o3 : Option ma_V} {o4 : Option ma_V} (hGo : ma_cl k_LI_blocksHolding zf_LI (e_LI_blocksHolding t_0) none 1 s_LI_blocksHolding post Go)
    (h : Go 5 [some (.inr p0), some (.inl x1), some (.inl x2), some (.inl (nI 0)), some (.inl (nI 0))] [] w) :
    Go 0 [some (.inr p0), some (.inl x1), some (.inl x2), o3, o4] [] w := hGo 0 _ _ rfl _ _ _ h
theorem qq_LI_blocksHolding_5 {t_0 : ma_T} {post : ma_P} {Go : ma_G} {w : ma_W} {p0 : Nat} {x1 : Int32} {x2 : Int32} {x3 : Int32} {x4 : Int32} (hGo : ma_cl k_LI_blocksHolding zf_LI (e_LI_blocksHolding t_0) none 1 s_LI_blocksHolding post Go)
    (h : ma_isk 4 p0 (((w.1 p0 3) ≤ x4 → Go 41 [some (.inr p0), some (.inl x1), some (.inl x2), some (.inl x3), some (.inl x4)] [] w) ∧ (¬ ((w.1 p0 3) ≤ x4) → ma_isk 4 p0 (t_0 [.inr p0, .inl x1, .inl x4] w (fun z1 w1 => (¬ (z1 &&& x2) = x2 → Go 32 [some (.inr p0), some (.inl x1), some (.inl x2), some (.inl x3), some (.inl x4)] [.inl x3] w1) ∧ (¬ (¬ (z1 &&& x2) = x2) → Go 33 [some (.inr p0), some (.inl x1), some (.inl x2), some (.inl x3), some (.inl x4)] [.inl (nI 1), .inl x3] w1)))))) :
    Go 5 [some (.inr p0), some (.inl x1), some (.inl x2), some (.inl x3), some (.inl x4)] [] w := hGo 1 _ _ rfl _ _ _ h
theorem q_LI_blocksHolding_5 {t_0 : ma_T} {post : ma_P} {Go : ma_G} {w : ma_W} {p0 : Nat} {x1 : Int32} {x2 : Int32} {x3 : Int32} {x4 : Int32} (hGo : ma_cl k_LI_blocksHolding zf_LI (e_LI_blocksHolding t_0) none 1 s_LI_blocksHolding post Go) (h0 : zL p0)
    (h : ((w.1 p0 3) ≤ x4 → Go 41 [some (.inr p0), some (.inl x1), some (.inl x2), some (.inl x3), some (.inl x4)] [] w) ∧ (¬ ((w.1 p0 3) ≤ x4) → t_0 [.inr p0, .inl x1, .inl x4] w (fun z1 w1 => (¬ (z1 &&& x2) = x2 → Go 32 [some (.inr p0), some (.inl x1), some (.inl x2), some (.inl x3), some (.inl x4)] [.inl x3] w1) ∧ (¬ (¬ (z1 &&& x2) = x2) → Go 33 [some (.inr p0), some (.inl x1), some (.inl x2), some (.inl x3), some (.inl x4)] [.inl (nI 1), .inl x3] w1)))) :
    Go 5 [some (.inr p0), some (.inl x1), some (.inl x2), some (.inl x3), some (.inl x4)] [] w := qq_LI_blocksHolding_5 hGo (by simp only [ma_isk_of (zL_s h0), zL_m1 h0, zL_m2 h0, zL_m3 h0, ma_ark_of (zL_a1 h0), ma_ark_of (zL_a2 h0), ma_ark_of (zL_a3 h0)]; exact h)
theorem q_LI_blocksHolding_32 {t_0 : ma_T} {post : ma_P} {Go : ma_G} {w : ma_W} {p0 : Nat} {x1 : Int32} {x2 : Int32} {x3 : Int32} {x4 : Int32} {y0 : Int32} (hGo : ma_cl k_LI_blocksHolding zf_LI (e_LI_blocksHolding t_0) none 1 s_LI_blocksHolding post Go)
    (h : Go 33 [some (.inr p0), some (.inl x1), some (.inl x2), some (.inl x3), some (.inl x4)] [.inl (nI 0), .inl y0] w) :
    Go 32 [some (.inr p0), some (.inl x1), some (.inl x2), some (.inl x3), some (.inl x4)] [.inl y0] w := hGo 2 _ _ rfl _ _ _ h
theorem q_LI_blocksHolding_33 {t_0 : ma_T} {post : ma_P} {Go : ma_G} {w : ma_W} {p0 : Nat} {x1 : Int32} {x2 : Int32} {x3 : Int32} {x4 : Int32} {y0 : Int32} {y1 : Int32} (hGo : ma_cl k_LI_blocksHolding zf_LI (e_LI_blocksHolding t_0) none 1 s_LI_blocksHolding post Go)
    (h : Go 5 [some (.inr p0), some (.inl x1), some (.inl x2), some (.inl (y1 + y0)), some (.inl (x4 + nI 1))] [] w) :
    Go 33 [some (.inr p0), some (.inl x1), some (.inl x2), some (.inl x3), some (.inl x4)] [.inl y0, .inl y1] w := hGo 3 _ _ rfl _ _ _ h
theorem q_LI_blocksHolding_41 {t_0 : ma_T} {post : ma_P} {Go : ma_G} {w : ma_W} {p0 : Nat} {x1 : Int32} {x2 : Int32} {x3 : Int32} {x4 : Int32} (hGo : ma_cl k_LI_blocksHolding zf_LI (e_LI_blocksHolding t_0) none 1 s_LI_blocksHolding post Go)
    (h : post x3 w) :
    Go 41 [some (.inr p0), some (.inl x1), some (.inl x2), some (.inl x3), some (.inl x4)] [] w := hGo 4 _ _ rfl _ _ _ h
theorem qq_LI_writeTo_0 {t_0 t_1 t_2 : ma_T} {post : ma_P} {Go : ma_G} {w : ma_W} {p0 : Nat} {x1 : Int32} {p2 : Nat} {o3 : Option ma_V} (hGo : ma_cl k_LI_writeTo zf_LI (e_LI_writeTo t_0 t_1 t_2) none 0 s_LI_writeTo post Go)
    (h : ma_isk 3 p2 (t_0 [.inr p2] w (fun _ w1 => Go 6 [some (.inr p0), some (.inl x1), some (.inr p2), some (.inl (nI 0))] [] w1))) :
    Go 0 [some (.inr p0), some (.inl x1), some (.inr p2), o3] [] w := hGo 0 _ _ rfl _ _ _ h
theorem q_LI_writeTo_0 {t_0 t_1 t_2 : ma_T} {post : ma_P} {Go : ma_G} {w : ma_W} {p0 : Nat} {x1 : Int32} {p2 : Nat} {o3 : Option ma_V} (hGo : ma_cl k_LI_writeTo zf_LI (e_LI_writeTo t_0 t_1 t_2) none 0 s_LI_writeTo post Go) (h0 : zL p0) (h2 : zR p2)
    (h : t_0 [.inr p2] w (fun _ w1 => Go 6 [some (.inr p0), some (.inl x1), some (.inr p2), some (.inl (nI 0))] [] w1)) :
    Go 0 [some (.inr p0), some (.inl x1), some (.inr p2), o3] [] w := qq_LI_writeTo_0 hGo (by simp only [ma_isk_of (zL_s h0), zL_m1 h0, zL_m2 h0, zL_m3 h0, ma_ark_of (zL_a1 h0), ma_ark_of (zL_a2 h0), ma_ark_of (zL_a3 h0), ma_isk_of (zR_s h2), zR_m h2, ma_ark_of (zR_a h2)]; exact h)
theorem qq_LI_writeTo_6 {t_0 t_1 t_2 : ma_T} {post : ma_P} {Go : ma_G} {w : ma_W} {p0 : Nat} {x1 : Int32} {p2 : Nat} {x3 : Int32} (hGo : ma_cl k_LI_writeTo zf_LI (e_LI_writeTo t_0 t_1 t_2) none 0 s_LI_writeTo post Go)
    (h : ma_isk 4 p0 (((w.1 p0 3) ≤ x3 → Go 30 [some (.inr p0), some (.inl x1), some (.inr p2), some (.inl x3)] [] w) ∧ (¬ ((w.1 p0 3) ≤ x3) → ma_isk 4 p0 (t_1 [.inr p0, .inl x1, .inl x3] w (fun z1 w1 => ma_isk 3 p2 (t_2 [.inr p2, .inl z1] w1 (fun _ w2 => Go 6 [some (.inr p0), some (.inl x1), some (.inr p2), some (.inl (x3 + nI 1))] [] w2))))))) :
    Go 6 [some (.inr p0), some (.inl x1), some (.inr p2), some (.inl x3)] [] w := hGo 1 _ _ rfl _ _ _ h
theorem q_LI_writeTo_6 {t_0 t_1 t_2 : ma_T} {post : ma_P} {Go : ma_G} {w : ma_W} {p0 : Nat} {x1 : Int32} {p2 : Nat} {x3 : Int32} (hGo : ma_cl k_LI_writeTo zf_LI (e_LI_writeTo t_0 t_1 t_2) none 0 s_LI_writeTo post Go) (h0 : zL p0) (h2 : zR p2)
    (h : ((w.1 p0 3) ≤ x3 → Go 30 [some (.inr p0), some (.inl x1), some (.inr p2), some (.inl x3)] [] w) ∧ (¬ ((w.1 p0 3) ≤ x3) → t_1 [.inr p0, .inl x1, .inl x3] w (fun z1 w1 => t_2 [.inr p2, .inl z1] w1 (fun _ w2 => Go 6 [some (.inr p0), some (.inl x1), some (.inr p2), some (.inl (x3 + nI 1))] [] w2)))) :
    Go 6 [some (.inr p0), some (.inl x1), some (.inr p2), some (.inl x3)] [] w := qq_LI_writeTo_6 hGo (by simp only [ma_isk_of (zL_s h0), zL_m1 h0, zL_m2 h0, zL_m3 h0, ma_ark_of (zL_a1 h0), ma_ark_of (zL_a2 h0), ma_ark_of (zL_a3 h0), ma_isk_of (zR_s h2), zR_m h2, ma_ark_of (zR_a h2)]; exact h)
theorem q_LI_writeTo_30 {t_0 t_1 t_2 : ma_T} {post : ma_P} {Go : ma_G} {w : ma_W} {p0 : Nat} {x1 : Int32} {p2 : Nat} {x3 : Int32} (hGo : ma_cl k_LI_writeTo zf_LI (e_LI_writeTo t_0 t_1 t_2) none 0 s_LI_writeTo post Go)
    (h : post 0 w) :
    Go 30 [some (.inr p0), some (.inl x1), some (.inr p2), some (.inl x3)] [] w := hGo 2 _ _ rfl _ _ _ h
theorem q_LI_placeOf_0 {t_0 : ma_T} {post : ma_P} {Go : ma_G} {w : ma_W} {p0 : Nat} {p1 : Nat} {o2 : Option ma_V} (hGo : ma_cl k_LI_placeOf zf_LI (e_LI_placeOf t_0) none 1 s_LI_placeOf post Go)
    (h : Go 2 [some (.inr p0), some (.inr p1), some (.inl (nI 0))] [] w) :
    Go 0 [some (.inr p0), some (.inr p1), o2] [] w := hGo 0 _ _ rfl _ _ _ h
theorem qq_LI_placeOf_2 {t_0 : ma_T} {post : ma_P} {Go : ma_G} {w : ma_W} {p0 : Nat} {p1 : Nat} {x2 : Int32} (hGo : ma_cl k_LI_placeOf zf_LI (e_LI_placeOf t_0) none 1 s_LI_placeOf post Go)
    (h : ma_isk 4 p0 (((w.1 p0 4) ≤ x2 → Go 27 [some (.inr p0), some (.inr p1), some (.inl x2)] [] w) ∧ (¬ ((w.1 p0 4) ≤ x2) → ma_isk 4 p0 (t_0 [.inr p0, .inl x2, .inr p1] w (fun z1 w1 => (z1 = (nI 0) → Go 21 [some (.inr p0), some (.inr p1), some (.inl x2)] [] w1) ∧ (¬ (z1 = (nI 0)) → post x2 w1)))))) :
    Go 2 [some (.inr p0), some (.inr p1), some (.inl x2)] [] w := hGo 1 _ _ rfl _ _ _ h
theorem q_LI_placeOf_2 {t_0 : ma_T} {post : ma_P} {Go : ma_G} {w : ma_W} {p0 : Nat} {p1 : Nat} {x2 : Int32} (hGo : ma_cl k_LI_placeOf zf_LI (e_LI_placeOf t_0) none 1 s_LI_placeOf post Go) (h0 : zL p0) (h1 : zR p1)
    (h : ((w.1 p0 4) ≤ x2 → Go 27 [some (.inr p0), some (.inr p1), some (.inl x2)] [] w) ∧ (¬ ((w.1 p0 4) ≤ x2) → t_0 [.inr p0, .inl x2, .inr p1] w (fun z1 w1 => (z1 = (nI 0) → Go 21 [some (.inr p0), some (.inr p1), some (.inl x2)] [] w1) ∧ (¬ (z1 = (nI 0)) → post x2 w1)))) :
    Go 2 [some (.inr p0), some (.inr p1), some (.inl x2)] [] w := qq_LI_placeOf_2 hGo (by simp only [ma_isk_of (zL_s h0), zL_m1 h0, zL_m2 h0, zL_m3 h0, ma_ark_of (zL_a1 h0), ma_ark_of (zL_a2 h0), ma_ark_of (zL_a3 h0), ma_isk_of (zR_s h1), zR_m h1, ma_ark_of (zR_a h1)]; exact h)
theorem q_LI_placeOf_21 {t_0 : ma_T} {post : ma_P} {Go : ma_G} {w : ma_W} {p0 : Nat} {p1 : Nat} {x2 : Int32} (hGo : ma_cl k_LI_placeOf zf_LI (e_LI_placeOf t_0) none 1 s_LI_placeOf post Go)
    (h : Go 2 [some (.inr p0), some (.inr p1), some (.inl (x2 + nI 1))] [] w) :
    Go 21 [some (.inr p0), some (.inr p1), some (.inl x2)] [] w := hGo 2 _ _ rfl _ _ _ h
theorem q_LI_placeOf_27 {t_0 : ma_T} {post : ma_P} {Go : ma_G} {w : ma_W} {p0 : Nat} {p1 : Nat} {x2 : Int32} (hGo : ma_cl k_LI_placeOf zf_LI (e_LI_placeOf t_0) none 1 s_LI_placeOf post Go)
    (h : post (Int32.ofInt (-1)) w) :
    Go 27 [some (.inr p0), some (.inr p1), some (.inl x2)] [] w := hGo 3 _ _ rfl _ _ _ h
theorem qq_LI_isEntry_0 {t_0 t_1 t_2 : ma_T} {post : ma_P} {Go : ma_G} {w : ma_W} {p0 : Nat} {x1 : Int32} {p2 : Nat} {o3 : Option ma_V} (hGo : ma_cl k_LI_isEntry zf_LI (e_LI_isEntry t_0 t_1 t_2) none 2 s_LI_isEntry post Go)
    (h : ma_isk 3 p2 (t_0 [.inr p2] w (fun z1 w1 => ma_isk 4 p0 ((z1 = (w1.1 p0 3) → Go 13 [some (.inr p0), some (.inl x1), some (.inr p2), o3] [] w1) ∧ (¬ (z1 = (w1.1 p0 3)) → ((nI 0) = 0 ∨ (nI 0) = 1) ∧ post (nI 0) w1))))) :
    Go 0 [some (.inr p0), some (.inl x1), some (.inr p2), o3] [] w := hGo 0 _ _ rfl _ _ _ h
theorem q_LI_isEntry_0 {t_0 t_1 t_2 : ma_T} {post : ma_P} {Go : ma_G} {w : ma_W} {p0 : Nat} {x1 : Int32} {p2 : Nat} {o3 : Option ma_V} (hGo : ma_cl k_LI_isEntry zf_LI (e_LI_isEntry t_0 t_1 t_2) none 2 s_LI_isEntry post Go) (h0 : zL p0) (h2 : zR p2)
    (h : t_0 [.inr p2] w (fun z1 w1 => (z1 = (w1.1 p0 3) → Go 13 [some (.inr p0), some (.inl x1), some (.inr p2), o3] [] w1) ∧ (¬ (z1 = (w1.1 p0 3)) → ((nI 0) = 0 ∨ (nI 0) = 1) ∧ post (nI 0) w1))) :
    Go 0 [some (.inr p0), some (.inl x1), some (.inr p2), o3] [] w := qq_LI_isEntry_0 hGo (by simp only [ma_isk_of (zL_s h0), zL_m1 h0, zL_m2 h0, zL_m3 h0, ma_ark_of (zL_a1 h0), ma_ark_of (zL_a2 h0), ma_ark_of (zL_a3 h0), ma_isk_of (zR_s h2), zR_m h2, ma_ark_of (zR_a h2)]; exact h)
theorem q_LI_isEntry_13 {t_0 t_1 t_2 : ma_T} {post : ma_P} {Go : ma_G} {w : ma_W} {p0 : Nat} {x1 : Int32} {p2 : Nat} {o3 : Option ma_V} (hGo : ma_cl k_LI_isEntry zf_LI (e_LI_isEntry t_0 t_1 t_2) none 2 s_LI_isEntry post Go)
    (h : Go 15 [some (.inr p0), some (.inl x1), some (.inr p2), some (.inl (nI 0))] [] w) :
    Go 13 [some (.inr p0), some (.inl x1), some (.inr p2), o3] [] w := hGo 1 _ _ rfl _ _ _ h
theorem qq_LI_isEntry_15 {t_0 t_1 t_2 : ma_T} {post : ma_P} {Go : ma_G} {w : ma_W} {p0 : Nat} {x1 : Int32} {p2 : Nat} {x3 : Int32} (hGo : ma_cl k_LI_isEntry zf_LI (e_LI_isEntry t_0 t_1 t_2) none 2 s_LI_isEntry post Go)
    (h : ma_isk 4 p0 (((w.1 p0 3) ≤ x3 → Go 45 [some (.inr p0), some (.inl x1), some (.inr p2), some (.inl x3)] [] w) ∧ (¬ ((w.1 p0 3) ≤ x3) → ma_isk 4 p0 (t_1 [.inr p0, .inl x1, .inl x3] w (fun z1 w1 => ma_isk 3 p2 (t_2 [.inr p2, .inl x3] w1 (fun z2 w2 => (z1 = z2 → Go 39 [some (.inr p0), some (.inl x1), some (.inr p2), some (.inl x3)] [] w2) ∧ (¬ (z1 = z2) → ((nI 0) = 0 ∨ (nI 0) = 1) ∧ post (nI 0) w2)))))))) :
    Go 15 [some (.inr p0), some (.inl x1), some (.inr p2), some (.inl x3)] [] w := hGo 2 _ _ rfl _ _ _ h
theorem q_LI_isEntry_15 {t_0 t_1 t_2 : ma_T} {post : ma_P} {Go : ma_G} {w : ma_W} {p0 : Nat} {x1 : Int32} {p2 : Nat} {x3 : Int32} (hGo : ma_cl k_LI_isEntry zf_LI (e_LI_isEntry t_0 t_1 t_2) none 2 s_LI_isEntry post Go) (h0 : zL p0) (h2 : zR p2)
    (h : ((w.1 p0 3) ≤ x3 → Go 45 [some (.inr p0), some (.inl x1), some (.inr p2), some (.inl x3)] [] w) ∧ (¬ ((w.1 p0 3) ≤ x3) → t_1 [.inr p0, .inl x1, .inl x3] w (fun z1 w1 => t_2 [.inr p2, .inl x3] w1 (fun z2 w2 => (z1 = z2 → Go 39 [some (.inr p0), some (.inl x1), some (.inr p2), some (.inl x3)] [] w2) ∧ (¬ (z1 = z2) → ((nI 0) = 0 ∨ (nI 0) = 1) ∧ post (nI 0) w2))))) :
    Go 15 [some (.inr p0), some (.inl x1), some (.inr p2), some (.inl x3)] [] w := qq_LI_isEntry_15 hGo (by simp only [ma_isk_of (zL_s h0), zL_m1 h0, zL_m2 h0, zL_m3 h0, ma_ark_of (zL_a1 h0), ma_ark_of (zL_a2 h0), ma_ark_of (zL_a3 h0), ma_isk_of (zR_s h2), zR_m h2, ma_ark_of (zR_a h2)]; exact h)
theorem q_LI_isEntry_39 {t_0 t_1 t_2 : ma_T} {post : ma_P} {Go : ma_G} {w : ma_W} {p0 : Nat} {x1 : Int32} {p2 : Nat} {x3 : Int32} (hGo : ma_cl k_LI_isEntry zf_LI (e_LI_isEntry t_0 t_1 t_2) none 2 s_LI_isEntry post Go)
    (h : Go 15 [some (.inr p0), some (.inl x1), some (.inr p2), some (.inl (x3 + nI 1))] [] w) :
    Go 39 [some (.inr p0), some (.inl x1), some (.inr p2), some (.inl x3)] [] w := hGo 3 _ _ rfl _ _ _ h
theorem q_LI_isEntry_45 {t_0 t_1 t_2 : ma_T} {post : ma_P} {Go : ma_G} {w : ma_W} {p0 : Nat} {x1 : Int32} {p2 : Nat} {x3 : Int32} (hGo : ma_cl k_LI_isEntry zf_LI (e_LI_isEntry t_0 t_1 t_2) none 2 s_LI_isEntry post Go)
    (h : ((nI 1) = 0 ∨ (nI 1) = 1) ∧ post (nI 1) w) :
    Go 45 [some (.inr p0), some (.inl x1), some (.inr p2), some (.inl x3)] [] w := hGo 4 _ _ rfl _ _ _ h
theorem q_GR_lay_0 {t_0 : ma_T} {post : ma_P} {Go : ma_G} {w : ma_W} {x1 : Int32} {x2 : Int32} {o3 : Option ma_V} (hGo : ma_cl k_GR_lay zf_GR (e_GR_lay t_0) none 0 s_GR_lay post Go)
    (h : Go 17 [some (.inr 2), some (.inl x1), some (.inl x2), some (.inl (nI 0))] [] (ma_up (ma_up (ma_up w.1 2 2 x1) 2 3 x2) 2 4 (nI 0), w.2.1, w.2.2)) :
    Go 0 [some (.inr 2), some (.inl x1), some (.inl x2), o3] [] w := hGo 0 _ _ rfl _ _ _ h
theorem q_GR_lay_17 {t_0 : ma_T} {post : ma_P} {Go : ma_G} {w : ma_W} {x1 : Int32} {x2 : Int32} {x3 : Int32} (hGo : ma_cl k_GR_lay zf_GR (e_GR_lay t_0) none 0 s_GR_lay post Go)
    (h : (x1 ≤ x3 → Go 43 [some (.inr 2), some (.inl x1), some (.inl x2), some (.inl x3)] [] w) ∧ (¬ (x1 ≤ x3) → ∃ j1 : Nat, j1 < 7 ∧ x3 = nI j1 ∧ (t_0 [.inr 2, .inl x3] (w.1, w.2.1, ma_up w.2.2 4 j1 (w.1 2 4)) (fun _ w2 => Go 17 [some (.inr 2), some (.inl x1), some (.inl x2), some (.inl (x3 + nI 1))] [] w2)))) :
    Go 17 [some (.inr 2), some (.inl x1), some (.inl x2), some (.inl x3)] [] w := hGo 1 _ _ rfl _ _ _ h
theorem q_GR_lay_43 {t_0 : ma_T} {post : ma_P} {Go : ma_G} {w : ma_W} {x1 : Int32} {x2 : Int32} {x3 : Int32} (hGo : ma_cl k_GR_lay zf_GR (e_GR_lay t_0) none 0 s_GR_lay post Go)
    (h : ∃ j1 : Nat, j1 < 7 ∧ x1 = nI j1 ∧ (post 0 (w.1, w.2.1, ma_up w.2.2 4 j1 (w.1 2 4)))) :
    Go 43 [some (.inr 2), some (.inl x1), some (.inl x2), some (.inl x3)] [] w := hGo 2 _ _ rfl _ _ _ h
theorem q_GR_addKindsEndingAt_0 {t_0 : ma_T} {post : ma_P} {Go : ma_G} {w : ma_W} {x1 : Int32} {o2 : Option ma_V} (hGo : ma_cl k_GR_addKindsEndingAt zf_GR (e_GR_addKindsEndingAt t_0) none 0 s_GR_addKindsEndingAt post Go)
    (h : Go 4 [some (.inr 2), some (.inl x1), some (.inl ((nI 1) <<< (x1 &&& 31)))] [] w) :
    Go 0 [some (.inr 2), some (.inl x1), o2] [] w := hGo 0 _ _ rfl _ _ _ h
theorem q_GR_addKindsEndingAt_4 {t_0 : ma_T} {post : ma_P} {Go : ma_G} {w : ma_W} {x1 : Int32} {x2 : Int32} (hGo : ma_cl k_GR_addKindsEndingAt zf_GR (e_GR_addKindsEndingAt t_0) none 0 s_GR_addKindsEndingAt post Go)
    (h : (((nI 2) <<< (x1 &&& 31)) ≤ x2 → Go 57 [some (.inr 2), some (.inl x1), some (.inl x2)] [] w) ∧ (¬ (((nI 2) <<< (x1 &&& 31)) ≤ x2) → t_0 [.inl x2] w (fun z1 w1 => (¬ z1 = (w1.1 2 3) → Go 51 [some (.inr 2), some (.inl x1), some (.inl x2)] [] w1) ∧ (¬ (¬ z1 = (w1.1 2 3)) → ((nI 20) ≤ (w1.1 2 4) → Go 51 [some (.inr 2), some (.inl x1), some (.inl x2)] [] w1) ∧ (¬ ((nI 20) ≤ (w1.1 2 4)) → ∃ j2 : Nat, j2 < 20 ∧ (w1.1 2 4) = nI j2 ∧ (Go 51 [some (.inr 2), some (.inl x1), some (.inl x2)] [] (ma_up w1.1 2 4 ((w1.1 2 4) + (nI 1)), w1.2.1, ma_up w1.2.2 3 j2 x2))))))) :
    Go 4 [some (.inr 2), some (.inl x1), some (.inl x2)] [] w := hGo 1 _ _ rfl _ _ _ h
theorem q_GR_addKindsEndingAt_51 {t_0 : ma_T} {post : ma_P} {Go : ma_G} {w : ma_W} {x1 : Int32} {x2 : Int32} (hGo : ma_cl k_GR_addKindsEndingAt zf_GR (e_GR_addKindsEndingAt t_0) none 0 s_GR_addKindsEndingAt post Go)
    (h : Go 4 [some (.inr 2), some (.inl x1), some (.inl (x2 + nI 1))] [] w) :
    Go 51 [some (.inr 2), some (.inl x1), some (.inl x2)] [] w := hGo 2 _ _ rfl _ _ _ h
theorem q_GR_addKindsEndingAt_57 {t_0 : ma_T} {post : ma_P} {Go : ma_G} {w : ma_W} {x1 : Int32} {x2 : Int32} (hGo : ma_cl k_GR_addKindsEndingAt zf_GR (e_GR_addKindsEndingAt t_0) none 0 s_GR_addKindsEndingAt post Go)
    (h : post 0 w) :
    Go 57 [some (.inr 2), some (.inl x1), some (.inl x2)] [] w := hGo 3 _ _ rfl _ _ _ h
theorem q_GR_points_0 {post : ma_P} {Go : ma_G} {w : ma_W} (hGo : ma_cl k_GR_points zf_GR e_GR_points none 1 s_GR_points post Go)
    (h : post (w.1 2 2) w) :
    Go 0 [some (.inr 2)] [] w := hGo 0 _ _ rfl _ _ _ h
theorem q_GR_isPoint_0 {post : ma_P} {Go : ma_G} {w : ma_W} {x1 : Int32} (hGo : ma_cl k_GR_isPoint zf_GR e_GR_isPoint none 2 s_GR_isPoint post Go)
    (h : (x1 < (nI 0) → Go 16 [some (.inr 2), some (.inl x1)] [] w) ∧ (¬ (x1 < (nI 0)) → ((w.1 2 2) ≤ x1 → Go 16 [some (.inr 2), some (.inl x1)] [] w) ∧ (¬ ((w.1 2 2) ≤ x1) → Go 17 [some (.inr 2), some (.inl x1)] [.inl (nI 1)] w))) :
    Go 0 [some (.inr 2), some (.inl x1)] [] w := hGo 0 _ _ rfl _ _ _ h
theorem q_GR_isPoint_16 {post : ma_P} {Go : ma_G} {w : ma_W} {x1 : Int32} (hGo : ma_cl k_GR_isPoint zf_GR e_GR_isPoint none 2 s_GR_isPoint post Go)
    (h : Go 17 [some (.inr 2), some (.inl x1)] [.inl (nI 0)] w) :
    Go 16 [some (.inr 2), some (.inl x1)] [] w := hGo 1 _ _ rfl _ _ _ h
theorem q_GR_isPoint_17 {post : ma_P} {Go : ma_G} {w : ma_W} {x1 : Int32} {y0 : Int32} (hGo : ma_cl k_GR_isPoint zf_GR e_GR_isPoint none 2 s_GR_isPoint post Go)
    (h : (y0 = 0 ∨ y0 = 1) ∧ post y0 w) :
    Go 17 [some (.inr 2), some (.inl x1)] [.inl y0] w := hGo 2 _ _ rfl _ _ _ h
theorem q_GR_isBlock_0 {t_0 : ma_T} {post : ma_P} {Go : ma_G} {w : ma_W} {x1 : Int32} (hGo : ma_cl k_GR_isBlock zf_GR (e_GR_isBlock t_0) none 2 s_GR_isBlock post Go)
    (h : (x1 < (nI 0) → Go 29 [some (.inr 2), some (.inl x1)] [] w) ∧ (¬ (x1 < (nI 0)) → (((nI 1) <<< ((w.1 2 2) &&& 31)) ≤ x1 → Go 29 [some (.inr 2), some (.inl x1)] [] w) ∧ (¬ (((nI 1) <<< ((w.1 2 2) &&& 31)) ≤ x1) → t_0 [.inl x1] w (fun z1 w1 => (¬ z1 = (w1.1 2 3) → Go 29 [some (.inr 2), some (.inl x1)] [] w1) ∧ (¬ (¬ z1 = (w1.1 2 3)) → Go 30 [some (.inr 2), some (.inl x1)] [.inl (nI 1)] w1))))) :
    Go 0 [some (.inr 2), some (.inl x1)] [] w := hGo 0 _ _ rfl _ _ _ h
theorem q_GR_isBlock_29 {t_0 : ma_T} {post : ma_P} {Go : ma_G} {w : ma_W} {x1 : Int32} (hGo : ma_cl k_GR_isBlock zf_GR (e_GR_isBlock t_0) none 2 s_GR_isBlock post Go)
    (h : Go 30 [some (.inr 2), some (.inl x1)] [.inl (nI 0)] w) :
    Go 29 [some (.inr 2), some (.inl x1)] [] w := hGo 1 _ _ rfl _ _ _ h
theorem q_GR_isBlock_30 {t_0 : ma_T} {post : ma_P} {Go : ma_G} {w : ma_W} {x1 : Int32} {y0 : Int32} (hGo : ma_cl k_GR_isBlock zf_GR (e_GR_isBlock t_0) none 2 s_GR_isBlock post Go)
    (h : (y0 = 0 ∨ y0 = 1) ∧ post y0 w) :
    Go 30 [some (.inr 2), some (.inl x1)] [.inl y0] w := hGo 2 _ _ rfl _ _ _ h
theorem q_GR_kinds_0 {post : ma_P} {Go : ma_G} {w : ma_W} (hGo : ma_cl k_GR_kinds zf_GR e_GR_kinds none 1 s_GR_kinds post Go)
    (h : post (w.1 2 4) w) :
    Go 0 [some (.inr 2)] [] w := hGo 0 _ _ rfl _ _ _ h
theorem q_GR_kind_0 {post : ma_P} {Go : ma_G} {w : ma_W} {x1 : Int32} (hGo : ma_cl k_GR_kind zf_GR e_GR_kind none 1 s_GR_kind post Go)
    (h : ∃ j1 : Nat, j1 < 20 ∧ x1 = nI j1 ∧ (post (w.2.2 3 j1) w)) :
    Go 0 [some (.inr 2), some (.inl x1)] [] w := hGo 0 _ _ rfl _ _ _ h
theorem q_GR_firstKindEndingAt_0 {post : ma_P} {Go : ma_G} {w : ma_W} {x1 : Int32} (hGo : ma_cl k_GR_firstKindEndingAt zf_GR e_GR_firstKindEndingAt none 1 s_GR_firstKindEndingAt post Go)
    (h : ∃ j1 : Nat, j1 < 7 ∧ x1 = nI j1 ∧ (post (w.2.2 4 j1) w)) :
    Go 0 [some (.inr 2), some (.inl x1)] [] w := hGo 0 _ _ rfl _ _ _ h
theorem q_GR_renamings_0 {post : ma_P} {Go : ma_G} {w : ma_W} {o1 : Option ma_V} {o2 : Option ma_V} (hGo : ma_cl k_GR_renamings zf_GR e_GR_renamings none 1 s_GR_renamings post Go)
    (h : Go 4 [some (.inr 2), some (.inl (nI 1)), some (.inl (nI 2))] [] w) :
    Go 0 [some (.inr 2), o1, o2] [] w := hGo 0 _ _ rfl _ _ _ h
theorem q_GR_renamings_4 {post : ma_P} {Go : ma_G} {w : ma_W} {x1 : Int32} {x2 : Int32} (hGo : ma_cl k_GR_renamings zf_GR e_GR_renamings none 1 s_GR_renamings post Go)
    (h : ((w.1 2 2) < x2 → Go 22 [some (.inr 2), some (.inl x1), some (.inl x2)] [] w) ∧ (¬ ((w.1 2 2) < x2) → Go 4 [some (.inr 2), some (.inl (x1 * x2)), some (.inl (x2 + nI 1))] [] w)) :
    Go 4 [some (.inr 2), some (.inl x1), some (.inl x2)] [] w := hGo 1 _ _ rfl _ _ _ h
theorem q_GR_renamings_22 {post : ma_P} {Go : ma_G} {w : ma_W} {x1 : Int32} {x2 : Int32} (hGo : ma_cl k_GR_renamings zf_GR e_GR_renamings none 1 s_GR_renamings post Go)
    (h : post x1 w) :
    Go 22 [some (.inr 2), some (.inl x1), some (.inl x2)] [] w := hGo 2 _ _ rfl _ _ _ h
end
section
/-! RUNS OF INSTRUCTIONS, by program (wip/whole/qgen.py): what each comes to -/
theorem q_FO_isForm_0 {t_0 t_1 : ma_T} {post : ma_P} {Go : ma_G} {w : ma_W} {p1 : Nat} (hGo : ma_cl k_FO_isForm zf_FO (e_FO_isForm t_0 t_1) none 2 s_FO_isForm post Go)
    (h : t_0 [.inr 1, .inr p1] w (fun _ w1 => ((nI 1) = 0 ∨ (nI 1) = 1) ∧ (t_1 [.inr 1, .inl (nI 0), .inl (nI 0)] (ma_up w1.1 1 7 (nI 1), w1.2.1, w1.2.2) (fun _ w2 => (¬ (w2.1 1 8) = (nI 0) → Go 27 [some (.inr 1), some (.inr p1)] [] w2) ∧ (¬ (¬ (w2.1 1 8) = (nI 0)) → Go 28 [some (.inr 1), some (.inr p1)] [.inl (nI 1)] w2))))) :
    Go 0 [some (.inr 1), some (.inr p1)] [] w := hGo 0 _ _ rfl _ _ _ h
theorem q_FO_isForm_27 {t_0 t_1 : ma_T} {post : ma_P} {Go : ma_G} {w : ma_W} {p1 : Nat} (hGo : ma_cl k_FO_isForm zf_FO (e_FO_isForm t_0 t_1) none 2 s_FO_isForm post Go)
    (h : Go 28 [some (.inr 1), some (.inr p1)] [.inl (nI 0)] w) :
    Go 27 [some (.inr 1), some (.inr p1)] [] w := hGo 1 _ _ rfl _ _ _ h
theorem q_FO_isForm_28 {t_0 t_1 : ma_T} {post : ma_P} {Go : ma_G} {w : ma_W} {p1 : Nat} {y0 : Int32} (hGo : ma_cl k_FO_isForm zf_FO (e_FO_isForm t_0 t_1) none 2 s_FO_isForm post Go)
    (h : (y0 = 0 ∨ y0 = 1) ∧ post y0 w) :
    Go 28 [some (.inr 1), some (.inr p1)] [.inl y0] w := hGo 2 _ _ rfl _ _ _ h
theorem qq_FO_findForm_0 {t_0 t_1 t_2 t_3 t_4 t_5 : ma_T} {post : ma_P} {Go : ma_G} {w : ma_W} {p1 : Nat} {p2 : Nat} {o3 : Option ma_V} {o4 : Option ma_V} (hGo : ma_cl k_FO_findForm zf_FO (e_FO_findForm t_0 t_1 t_2 t_3 t_4 t_5) none 0 s_FO_findForm post Go)
    (h : t_0 [.inr 1, .inr p1] w (fun _ w1 => ((nI 0) = 0 ∨ (nI 0) = 1) ∧ (t_1 [.inr 1, .inl (nI 0), .inl (nI 0)] (ma_up w1.1 1 7 (nI 0), w1.2.1, w1.2.2) (fun _ w2 => ma_isk 3 p2 (t_2 [.inr p2] w2 (fun _ w3 => Go 22 [some (.inr 1), some (.inr p1), some (.inr p2), some (.inl (nI 0)), o4] [] w3)))))) :
    Go 0 [some (.inr 1), some (.inr p1), some (.inr p2), o3, o4] [] w := hGo 0 _ _ rfl _ _ _ h
theorem q_FO_findForm_0 {t_0 t_1 t_2 t_3 t_4 t_5 : ma_T} {post : ma_P} {Go : ma_G} {w : ma_W} {p1 : Nat} {p2 : Nat} {o3 : Option ma_V} {o4 : Option ma_V} (hGo : ma_cl k_FO_findForm zf_FO (e_FO_findForm t_0 t_1 t_2 t_3 t_4 t_5) none 0 s_FO_findForm post Go) (h1 : zR p1) (h2 : zR p2)
    (h : t_0 [.inr 1, .inr p1] w (fun _ w1 => ((nI 0) = 0 ∨ (nI 0) = 1) ∧ (t_1 [.inr 1, .inl (nI 0), .inl (nI 0)] (ma_up w1.1 1 7 (nI 0), w1.2.1, w1.2.2) (fun _ w2 => t_2 [.inr p2] w2 (fun _ w3 => Go 22 [some (.inr 1), some (.inr p1), some (.inr p2), some (.inl (nI 0)), o4] [] w3))))) :
    Go 0 [some (.inr 1), some (.inr p1), some (.inr p2), o3, o4] [] w := qq_FO_findForm_0 hGo (by simp only [ma_isk_of (zR_s h1), zR_m h1, ma_ark_of (zR_a h1), ma_isk_of (zR_s h2), zR_m h2, ma_ark_of (zR_a h2)]; exact h)
theorem q_FO_findForm_22 {t_0 t_1 t_2 t_3 t_4 t_5 : ma_T} {post : ma_P} {Go : ma_G} {w : ma_W} {p1 : Nat} {p2 : Nat} {x3 : Int32} {o4 : Option ma_V} (hGo : ma_cl k_FO_findForm zf_FO (e_FO_findForm t_0 t_1 t_2 t_3 t_4 t_5) none 0 s_FO_findForm post Go)
    (h : t_3 [.inr 2] w (fun z1 w1 => (z1 ≤ x3 → Go 71 [some (.inr 1), some (.inr p1), some (.inr p2), some (.inl x3), o4] [] w1) ∧ (¬ (z1 ≤ x3) → Go 36 [some (.inr 1), some (.inr p1), some (.inr p2), some (.inl x3), some (.inl (nI 0))] [] w1))) :
    Go 22 [some (.inr 1), some (.inr p1), some (.inr p2), some (.inl x3), o4] [] w := hGo 1 _ _ rfl _ _ _ h
theorem qq_FO_findForm_36 {t_0 t_1 t_2 t_3 t_4 t_5 : ma_T} {post : ma_P} {Go : ma_G} {w : ma_W} {p1 : Nat} {p2 : Nat} {x3 : Int32} {x4 : Int32} (hGo : ma_cl k_FO_findForm zf_FO (e_FO_findForm t_0 t_1 t_2 t_3 t_4 t_5) none 0 s_FO_findForm post Go)
    (h : ∃ j1 : Nat, j1 < 20 ∧ x3 = nI j1 ∧ (((w.2.2 6 j1) ≤ x4 → Go 65 [some (.inr 1), some (.inr p1), some (.inr p2), some (.inl x3), some (.inl x4)] [] w) ∧ (¬ ((w.2.2 6 j1) ≤ x4) → t_4 [.inr 2, .inl x3] w (fun z2 w2 => ma_isk 3 p2 (t_5 [.inr p2, .inl z2] w2 (fun _ w3 => Go 36 [some (.inr 1), some (.inr p1), some (.inr p2), some (.inl x3), some (.inl (x4 + nI 1))] [] w3)))))) :
    Go 36 [some (.inr 1), some (.inr p1), some (.inr p2), some (.inl x3), some (.inl x4)] [] w := hGo 2 _ _ rfl _ _ _ h
theorem q_FO_findForm_36 {t_0 t_1 t_2 t_3 t_4 t_5 : ma_T} {post : ma_P} {Go : ma_G} {w : ma_W} {p1 : Nat} {p2 : Nat} {x3 : Int32} {x4 : Int32} (hGo : ma_cl k_FO_findForm zf_FO (e_FO_findForm t_0 t_1 t_2 t_3 t_4 t_5) none 0 s_FO_findForm post Go) (h1 : zR p1) (h2 : zR p2)
    (h : ∃ j1 : Nat, j1 < 20 ∧ x3 = nI j1 ∧ (((w.2.2 6 j1) ≤ x4 → Go 65 [some (.inr 1), some (.inr p1), some (.inr p2), some (.inl x3), some (.inl x4)] [] w) ∧ (¬ ((w.2.2 6 j1) ≤ x4) → t_4 [.inr 2, .inl x3] w (fun z2 w2 => t_5 [.inr p2, .inl z2] w2 (fun _ w3 => Go 36 [some (.inr 1), some (.inr p1), some (.inr p2), some (.inl x3), some (.inl (x4 + nI 1))] [] w3))))) :
    Go 36 [some (.inr 1), some (.inr p1), some (.inr p2), some (.inl x3), some (.inl x4)] [] w := qq_FO_findForm_36 hGo (by simp only [ma_isk_of (zR_s h1), zR_m h1, ma_ark_of (zR_a h1), ma_isk_of (zR_s h2), zR_m h2, ma_ark_of (zR_a h2)]; exact h)
theorem q_FO_findForm_65 {t_0 t_1 t_2 t_3 t_4 t_5 : ma_T} {post : ma_P} {Go : ma_G} {w : ma_W} {p1 : Nat} {p2 : Nat} {x3 : Int32} {x4 : Int32} (hGo : ma_cl k_FO_findForm zf_FO (e_FO_findForm t_0 t_1 t_2 t_3 t_4 t_5) none 0 s_FO_findForm post Go)
    (h : Go 22 [some (.inr 1), some (.inr p1), some (.inr p2), some (.inl (x3 + nI 1)), some (.inl x4)] [] w) :
    Go 65 [some (.inr 1), some (.inr p1), some (.inr p2), some (.inl x3), some (.inl x4)] [] w := hGo 3 _ _ rfl _ _ _ h
theorem q_FO_findForm_71 {t_0 t_1 t_2 t_3 t_4 t_5 : ma_T} {post : ma_P} {Go : ma_G} {w : ma_W} {p1 : Nat} {p2 : Nat} {x3 : Int32} {o4 : Option ma_V} (hGo : ma_cl k_FO_findForm zf_FO (e_FO_findForm t_0 t_1 t_2 t_3 t_4 t_5) none 0 s_FO_findForm post Go)
    (h : post 0 w) :
    Go 71 [some (.inr 1), some (.inr p1), some (.inr p2), some (.inl x3), o4] [] w := hGo 4 _ _ rfl _ _ _ h
theorem q_FO_symmetriesFound_0 {post : ma_P} {Go : ma_G} {w : ma_W} (hGo : ma_cl k_FO_symmetriesFound zf_FO e_FO_symmetriesFound none 1 s_FO_symmetriesFound post Go)
    (h : post (w.1 1 6) w) :
    Go 0 [some (.inr 1)] [] w := hGo 0 _ _ rfl _ _ _ h
theorem q_FO_leastImageFound_0 {post : ma_P} {Go : ma_G} {w : ma_W} {x1 : Int32} (hGo : ma_cl k_FO_leastImageFound zf_FO e_FO_leastImageFound none 1 s_FO_leastImageFound post Go)
    (h : ∃ j1 : Nat, j1 < 6 ∧ x1 = nI j1 ∧ (post (w.2.2 9 j1) w)) :
    Go 0 [some (.inr 1), some (.inl x1)] [] w := hGo 0 _ _ rfl _ _ _ h
theorem q_FO_start_0 {t_0 t_1 t_2 t_3 : ma_T} {post : ma_P} {Go : ma_G} {w : ma_W} {p1 : Nat} {o2 : Option ma_V} (hGo : ma_cl k_FO_start zf_FO (e_FO_start t_0 t_1 t_2 t_3) none 0 s_FO_start post Go)
    (h : Go 2 [some (.inr 1), some (.inr p1), some (.inl (nI 0))] [] w) :
    Go 0 [some (.inr 1), some (.inr p1), o2] [] w := hGo 0 _ _ rfl _ _ _ h
theorem q_FO_start_2 {t_0 t_1 t_2 t_3 : ma_T} {post : ma_P} {Go : ma_G} {w : ma_W} {p1 : Nat} {x2 : Int32} (hGo : ma_cl k_FO_start zf_FO (e_FO_start t_0 t_1 t_2 t_3) none 0 s_FO_start post Go)
    (h : t_0 [.inr 2] w (fun z1 w1 => (z1 ≤ x2 → Go 33 [some (.inr 1), some (.inr p1), some (.inl x2)] [] w1) ∧ (¬ (z1 ≤ x2) → t_1 [.inr 2, .inl x2] w1 (fun z2 w2 => ∃ j3 : Nat, j3 < 64 ∧ z2 = nI j3 ∧ (Go 2 [some (.inr 1), some (.inr p1), some (.inl (x2 + nI 1))] [] (w2.1, w2.2.1, ma_up w2.2.2 5 j3 (nI 0))))))) :
    Go 2 [some (.inr 1), some (.inr p1), some (.inl x2)] [] w := hGo 1 _ _ rfl _ _ _ h
theorem q_FO_start_33 {t_0 t_1 t_2 t_3 : ma_T} {post : ma_P} {Go : ma_G} {w : ma_W} {p1 : Nat} {x2 : Int32} (hGo : ma_cl k_FO_start zf_FO (e_FO_start t_0 t_1 t_2 t_3) none 0 s_FO_start post Go)
    (h : Go 35 [some (.inr 1), some (.inr p1), some (.inl (nI 0))] [] w) :
    Go 33 [some (.inr 1), some (.inr p1), some (.inl x2)] [] w := hGo 2 _ _ rfl _ _ _ h
theorem qq_FO_start_35 {t_0 t_1 t_2 t_3 : ma_T} {post : ma_P} {Go : ma_G} {w : ma_W} {p1 : Nat} {x2 : Int32} (hGo : ma_cl k_FO_start zf_FO (e_FO_start t_0 t_1 t_2 t_3) none 0 s_FO_start post Go)
    (h : ma_isk 3 p1 (t_2 [.inr p1] w (fun z1 w1 => (z1 ≤ x2 → Go 63 [some (.inr 1), some (.inr p1), some (.inl x2)] [] w1) ∧ (¬ (z1 ≤ x2) → ma_isk 3 p1 (t_3 [.inr p1, .inl x2] w1 (fun z2 w2 => ∃ j3 : Nat, j3 < 64 ∧ z2 = nI j3 ∧ (∃ j4 : Nat, j4 < 64 ∧ z2 = nI j4 ∧ (Go 35 [some (.inr 1), some (.inr p1), some (.inl (x2 + nI 1))] [] (w2.1, w2.2.1, ma_up w2.2.2 5 j4 ((w2.2.2 5 j3) + (nI 1))))))))))) :
    Go 35 [some (.inr 1), some (.inr p1), some (.inl x2)] [] w := hGo 3 _ _ rfl _ _ _ h
theorem q_FO_start_35 {t_0 t_1 t_2 t_3 : ma_T} {post : ma_P} {Go : ma_G} {w : ma_W} {p1 : Nat} {x2 : Int32} (hGo : ma_cl k_FO_start zf_FO (e_FO_start t_0 t_1 t_2 t_3) none 0 s_FO_start post Go) (h1 : zR p1)
    (h : t_2 [.inr p1] w (fun z1 w1 => (z1 ≤ x2 → Go 63 [some (.inr 1), some (.inr p1), some (.inl x2)] [] w1) ∧ (¬ (z1 ≤ x2) → t_3 [.inr p1, .inl x2] w1 (fun z2 w2 => ∃ j3 : Nat, j3 < 64 ∧ z2 = nI j3 ∧ (∃ j4 : Nat, j4 < 64 ∧ z2 = nI j4 ∧ (Go 35 [some (.inr 1), some (.inr p1), some (.inl (x2 + nI 1))] [] (w2.1, w2.2.1, ma_up w2.2.2 5 j4 ((w2.2.2 5 j3) + (nI 1))))))))) :
    Go 35 [some (.inr 1), some (.inr p1), some (.inl x2)] [] w := qq_FO_start_35 hGo (by simp only [ma_isk_of (zR_s h1), zR_m h1, ma_ark_of (zR_a h1)]; exact h)
theorem q_FO_start_63 {t_0 t_1 t_2 t_3 : ma_T} {post : ma_P} {Go : ma_G} {w : ma_W} {p1 : Nat} {x2 : Int32} (hGo : ma_cl k_FO_start zf_FO (e_FO_start t_0 t_1 t_2 t_3) none 0 s_FO_start post Go)
    (h : Go 65 [some (.inr 1), some (.inr p1), some (.inl (nI 0))] [] w) :
    Go 63 [some (.inr 1), some (.inr p1), some (.inl x2)] [] w := hGo 4 _ _ rfl _ _ _ h
theorem q_FO_start_65 {t_0 t_1 t_2 t_3 : ma_T} {post : ma_P} {Go : ma_G} {w : ma_W} {p1 : Nat} {x2 : Int32} (hGo : ma_cl k_FO_start zf_FO (e_FO_start t_0 t_1 t_2 t_3) none 0 s_FO_start post Go)
    (h : t_0 [.inr 2] w (fun z1 w1 => (z1 ≤ x2 → Go 101 [some (.inr 1), some (.inr p1), some (.inl x2)] [] w1) ∧ (¬ (z1 ≤ x2) → t_1 [.inr 2, .inl x2] w1 (fun z2 w2 => ∃ j3 : Nat, j3 < 64 ∧ z2 = nI j3 ∧ (∃ j4 : Nat, j4 < 20 ∧ x2 = nI j4 ∧ (Go 65 [some (.inr 1), some (.inr p1), some (.inl (x2 + nI 1))] [] (w2.1, w2.2.1, ma_up w2.2.2 6 j4 (w2.2.2 5 j3)))))))) :
    Go 65 [some (.inr 1), some (.inr p1), some (.inl x2)] [] w := hGo 5 _ _ rfl _ _ _ h
theorem q_FO_start_101 {t_0 t_1 t_2 t_3 : ma_T} {post : ma_P} {Go : ma_G} {w : ma_W} {p1 : Nat} {x2 : Int32} (hGo : ma_cl k_FO_start zf_FO (e_FO_start t_0 t_1 t_2 t_3) none 0 s_FO_start post Go)
    (h : Go 103 [some (.inr 1), some (.inr p1), some (.inl (nI 0))] [] w) :
    Go 101 [some (.inr 1), some (.inr p1), some (.inl x2)] [] w := hGo 6 _ _ rfl _ _ _ h
theorem q_FO_start_103 {t_0 t_1 t_2 t_3 : ma_T} {post : ma_P} {Go : ma_G} {w : ma_W} {p1 : Nat} {x2 : Int32} (hGo : ma_cl k_FO_start zf_FO (e_FO_start t_0 t_1 t_2 t_3) none 0 s_FO_start post Go)
    (h : ((nI 6) ≤ x2 → Go 122 [some (.inr 1), some (.inr p1), some (.inl x2)] [] w) ∧ (¬ ((nI 6) ≤ x2) → ∃ j1 : Nat, j1 < 6 ∧ x2 = nI j1 ∧ (Go 103 [some (.inr 1), some (.inr p1), some (.inl (x2 + nI 1))] [] (w.1, w.2.1, ma_up w.2.2 9 j1 x2)))) :
    Go 103 [some (.inr 1), some (.inr p1), some (.inl x2)] [] w := hGo 7 _ _ rfl _ _ _ h
theorem q_FO_start_122 {t_0 t_1 t_2 t_3 : ma_T} {post : ma_P} {Go : ma_G} {w : ma_W} {p1 : Nat} {x2 : Int32} (hGo : ma_cl k_FO_start zf_FO (e_FO_start t_0 t_1 t_2 t_3) none 0 s_FO_start post Go)
    (h : ∃ j1 : Nat, j1 < 64 ∧ (nI 0) = nI j1 ∧ (((nI 0) = 0 ∨ (nI 0) = 1) ∧ (post 0 (ma_up (ma_up w.1 1 6 (nI 0)) 1 8 (nI 0), w.2.1, ma_up w.2.2 7 j1 (nI 0))))) :
    Go 122 [some (.inr 1), some (.inr p1), some (.inl x2)] [] w := hGo 8 _ _ rfl _ _ _ h
theorem q_FO_tryPointsFor_0 {t_0 t_1 t_2 : ma_T} {post : ma_P} {Go : ma_G} {w : ma_W} {x1 : Int32} {x2 : Int32} {o3 : Option ma_V} (hGo : ma_cl k_FO_tryPointsFor zf_FO (e_FO_tryPointsFor t_0 t_1 t_2) none 0 s_FO_tryPointsFor post Go)
    (h : t_0 [.inr 2] w (fun z1 w1 => (x1 < z1 → Go 16 [some (.inr 1), some (.inl x1), some (.inl x2), o3] [] w1) ∧ (¬ (x1 < z1) → t_1 [.inr 1] w1 (fun _ w2 => post 0 w2)))) :
    Go 0 [some (.inr 1), some (.inl x1), some (.inl x2), o3] [] w := hGo 0 _ _ rfl _ _ _ h
theorem q_FO_tryPointsFor_16 {t_0 t_1 t_2 : ma_T} {post : ma_P} {Go : ma_G} {w : ma_W} {x1 : Int32} {x2 : Int32} {o3 : Option ma_V} (hGo : ma_cl k_FO_tryPointsFor zf_FO (e_FO_tryPointsFor t_0 t_1 t_2) none 0 s_FO_tryPointsFor post Go)
    (h : Go 18 [some (.inr 1), some (.inl x1), some (.inl x2), some (.inl (nI 0))] [] w) :
    Go 16 [some (.inr 1), some (.inl x1), some (.inl x2), o3] [] w := hGo 1 _ _ rfl _ _ _ h
theorem q_FO_tryPointsFor_18 {t_0 t_1 t_2 : ma_T} {post : ma_P} {Go : ma_G} {w : ma_W} {x1 : Int32} {x2 : Int32} {x3 : Int32} (hGo : ma_cl k_FO_tryPointsFor zf_FO (e_FO_tryPointsFor t_0 t_1 t_2) none 0 s_FO_tryPointsFor post Go)
    (h : t_0 [.inr 2] w (fun z1 w1 => (z1 ≤ x3 → Go 65 [some (.inr 1), some (.inl x1), some (.inl x2), some (.inl x3)] [] w1) ∧ (¬ (z1 ≤ x3) → (¬ ((x2 >>> (x3 &&& 31)) &&& (nI 1)) = (nI 0) → Go 44 [some (.inr 1), some (.inl x1), some (.inl x2), some (.inl x3)] [] w1) ∧ (¬ (¬ ((x2 >>> (x3 &&& 31)) &&& (nI 1)) = (nI 0)) → t_2 [.inr 1, .inl x1, .inl x3, .inl x2] w1 (fun _ w2 => Go 44 [some (.inr 1), some (.inl x1), some (.inl x2), some (.inl x3)] [] w2))))) :
    Go 18 [some (.inr 1), some (.inl x1), some (.inl x2), some (.inl x3)] [] w := hGo 2 _ _ rfl _ _ _ h
theorem q_FO_tryPointsFor_44 {t_0 t_1 t_2 : ma_T} {post : ma_P} {Go : ma_G} {w : ma_W} {x1 : Int32} {x2 : Int32} {x3 : Int32} (hGo : ma_cl k_FO_tryPointsFor zf_FO (e_FO_tryPointsFor t_0 t_1 t_2) none 0 s_FO_tryPointsFor post Go)
    (h : ((w.1 1 8) = (nI 0) → Go 59 [some (.inr 1), some (.inl x1), some (.inl x2), some (.inl x3)] [] w) ∧ (¬ ((w.1 1 8) = (nI 0)) → ((w.1 1 7) = (nI 0) → Go 59 [some (.inr 1), some (.inl x1), some (.inl x2), some (.inl x3)] [] w) ∧ (¬ ((w.1 1 7) = (nI 0)) → post 0 w))) :
    Go 44 [some (.inr 1), some (.inl x1), some (.inl x2), some (.inl x3)] [] w := hGo 3 _ _ rfl _ _ _ h
theorem q_FO_tryPointsFor_59 {t_0 t_1 t_2 : ma_T} {post : ma_P} {Go : ma_G} {w : ma_W} {x1 : Int32} {x2 : Int32} {x3 : Int32} (hGo : ma_cl k_FO_tryPointsFor zf_FO (e_FO_tryPointsFor t_0 t_1 t_2) none 0 s_FO_tryPointsFor post Go)
    (h : Go 18 [some (.inr 1), some (.inl x1), some (.inl x2), some (.inl (x3 + nI 1))] [] w) :
    Go 59 [some (.inr 1), some (.inl x1), some (.inl x2), some (.inl x3)] [] w := hGo 4 _ _ rfl _ _ _ h
theorem q_FO_tryPointsFor_65 {t_0 t_1 t_2 : ma_T} {post : ma_P} {Go : ma_G} {w : ma_W} {x1 : Int32} {x2 : Int32} {x3 : Int32} (hGo : ma_cl k_FO_tryPointsFor zf_FO (e_FO_tryPointsFor t_0 t_1 t_2) none 0 s_FO_tryPointsFor post Go)
    (h : post 0 w) :
    Go 65 [some (.inr 1), some (.inl x1), some (.inl x2), some (.inl x3)] [] w := hGo 5 _ _ rfl _ _ _ h
theorem q_FO_tryPoint_0 {t_0 t_1 t_2 t_3 : ma_T} {post : ma_P} {Go : ma_G} {w : ma_W} {x1 : Int32} {x2 : Int32} {x3 : Int32} (hGo : ma_cl k_FO_tryPoint zf_FO (e_FO_tryPoint t_0 t_1 t_2 t_3) none 0 s_FO_tryPoint post Go)
    (h : t_0 [.inr 1, .inl x1, .inl x2] w (fun z1 w1 => (¬ z1 = (nI 0) → Go 10 [some (.inr 1), some (.inl x1), some (.inl x2), some (.inl x3)] [] w1) ∧ (¬ (¬ z1 = (nI 0)) → post 0 w1))) :
    Go 0 [some (.inr 1), some (.inl x1), some (.inl x2), some (.inl x3)] [] w := hGo 0 _ _ rfl _ _ _ h
theorem q_FO_tryPoint_10 {t_0 t_1 t_2 t_3 : ma_T} {post : ma_P} {Go : ma_G} {w : ma_W} {x1 : Int32} {x2 : Int32} {x3 : Int32} (hGo : ma_cl k_FO_tryPoint zf_FO (e_FO_tryPoint t_0 t_1 t_2 t_3) none 0 s_FO_tryPoint post Go)
    (h : ∃ j1 : Nat, j1 < 6 ∧ x1 = nI j1 ∧ (t_1 [.inr 2] (w.1, w.2.1, ma_up w.2.2 8 j1 x2) (fun z2 w2 => (z2 ≤ (x1 + (nI 1)) → Go 36 [some (.inr 1), some (.inl x1), some (.inl x2), some (.inl x3)] [] w2) ∧ (¬ (z2 ≤ (x1 + (nI 1))) → t_2 [.inr 1, .inl x1, .inl x2] w2 (fun _ w3 => Go 36 [some (.inr 1), some (.inl x1), some (.inl x2), some (.inl x3)] [] w3))))) :
    Go 10 [some (.inr 1), some (.inl x1), some (.inl x2), some (.inl x3)] [] w := hGo 1 _ _ rfl _ _ _ h
theorem q_FO_tryPoint_36 {t_0 t_1 t_2 t_3 : ma_T} {post : ma_P} {Go : ma_G} {w : ma_W} {x1 : Int32} {x2 : Int32} {x3 : Int32} (hGo : ma_cl k_FO_tryPoint zf_FO (e_FO_tryPoint t_0 t_1 t_2 t_3) none 0 s_FO_tryPoint post Go)
    (h : t_3 [.inr 1, .inl (x1 + (nI 1)), .inl (x3 ||| ((nI 1) <<< (x2 &&& 31)))] w (fun _ w1 => post 0 w1)) :
    Go 36 [some (.inr 1), some (.inl x1), some (.inl x2), some (.inl x3)] [] w := hGo 2 _ _ rfl _ _ _ h
theorem q_FO_settleImages_0 {post : ma_P} {Go : ma_G} {w : ma_W} {x1 : Int32} {x2 : Int32} {o3 : Option ma_V} (hGo : ma_cl k_FO_settleImages zf_FO e_FO_settleImages none 0 s_FO_settleImages post Go)
    (h : Go 2 [some (.inr 1), some (.inl x1), some (.inl x2), some (.inl (nI 0))] [] w) :
    Go 0 [some (.inr 1), some (.inl x1), some (.inl x2), o3] [] w := hGo 0 _ _ rfl _ _ _ h
theorem q_FO_settleImages_2 {post : ma_P} {Go : ma_G} {w : ma_W} {x1 : Int32} {x2 : Int32} {x3 : Int32} (hGo : ma_cl k_FO_settleImages zf_FO e_FO_settleImages none 0 s_FO_settleImages post Go)
    (h : (((nI 1) <<< (x1 &&& 31)) ≤ x3 → Go 35 [some (.inr 1), some (.inl x1), some (.inl x2), some (.inl x3)] [] w) ∧ (¬ (((nI 1) <<< (x1 &&& 31)) ≤ x3) → ∃ j1 : Nat, j1 < 64 ∧ x3 = nI j1 ∧ (∃ j2 : Nat, j2 < 64 ∧ (((nI 1) <<< (x1 &&& 31)) ||| x3) = nI j2 ∧ (Go 2 [some (.inr 1), some (.inl x1), some (.inl x2), some (.inl (x3 + nI 1))] [] (w.1, w.2.1, ma_up w.2.2 7 j2 ((w.2.2 7 j1) ||| ((nI 1) <<< (x2 &&& 31)))))))) :
    Go 2 [some (.inr 1), some (.inl x1), some (.inl x2), some (.inl x3)] [] w := hGo 1 _ _ rfl _ _ _ h
theorem q_FO_settleImages_35 {post : ma_P} {Go : ma_G} {w : ma_W} {x1 : Int32} {x2 : Int32} {x3 : Int32} (hGo : ma_cl k_FO_settleImages zf_FO e_FO_settleImages none 0 s_FO_settleImages post Go)
    (h : post 0 w) :
    Go 35 [some (.inr 1), some (.inl x1), some (.inl x2), some (.inl x3)] [] w := hGo 2 _ _ rfl _ _ _ h
theorem q_FO_isAsGood_0 {t_0 t_1 t_2 : ma_T} {post : ma_P} {Go : ma_G} {w : ma_W} {x1 : Int32} {x2 : Int32} {o3 : Option ma_V} {o4 : Option ma_V} {o5 : Option ma_V} (hGo : ma_cl k_FO_isAsGood zf_FO (e_FO_isAsGood t_0 t_1 t_2) none 2 s_FO_isAsGood post Go)
    (h : t_0 [.inr 2, .inl (x1 + (nI 1))] w (fun z1 w1 => t_0 [.inr 2, .inl x1] w1 (fun z2 w2 => Go 21 [some (.inr 1), some (.inl x1), some (.inl x2), some (.inl z1), some (.inl z2), o5] [] w2))) :
    Go 0 [some (.inr 1), some (.inl x1), some (.inl x2), o3, o4, o5] [] w := hGo 0 _ _ rfl _ _ _ h
theorem q_FO_isAsGood_21 {t_0 t_1 t_2 : ma_T} {post : ma_P} {Go : ma_G} {w : ma_W} {x1 : Int32} {x2 : Int32} {x3 : Int32} {x4 : Int32} {o5 : Option ma_V} (hGo : ma_cl k_FO_isAsGood zf_FO (e_FO_isAsGood t_0 t_1 t_2) none 2 s_FO_isAsGood post Go)
    (h : (x3 ≤ x4 → Go 110 [some (.inr 1), some (.inl x1), some (.inl x2), some (.inl x3), some (.inl x4), o5] [] w) ∧ (¬ (x3 ≤ x4) → t_1 [.inr 2, .inl x4] w (fun z1 w1 => ∃ j2 : Nat, j2 < 64 ∧ (z1 ^^^ ((nI 1) <<< (x1 &&& 31))) = nI j2 ∧ (∃ j3 : Nat, j3 < 64 ∧ ((w1.2.2 7 j2) ||| ((nI 1) <<< (x2 &&& 31))) = nI j3 ∧ (∃ j4 : Nat, j4 < 20 ∧ x4 = nI j4 ∧ (((w1.2.2 6 j4) ≤ (w1.2.2 5 j3) → Go 70 [some (.inr 1), some (.inl x1), some (.inl x2), some (.inl x3), some (.inl x4), some (.inl (w1.2.2 5 j3))] [] w1) ∧ (¬ ((w1.2.2 6 j4) ≤ (w1.2.2 5 j3)) → ((nI 0) = 0 ∨ (nI 0) = 1) ∧ post (nI 0) w1))))))) :
    Go 21 [some (.inr 1), some (.inl x1), some (.inl x2), some (.inl x3), some (.inl x4), o5] [] w := hGo 1 _ _ rfl _ _ _ h
theorem q_FO_isAsGood_70 {t_0 t_1 t_2 : ma_T} {post : ma_P} {Go : ma_G} {w : ma_W} {x1 : Int32} {x2 : Int32} {x3 : Int32} {x4 : Int32} {x5 : Int32} (hGo : ma_cl k_FO_isAsGood zf_FO (e_FO_isAsGood t_0 t_1 t_2) none 2 s_FO_isAsGood post Go)
    (h : ∃ j1 : Nat, j1 < 20 ∧ x4 = nI j1 ∧ ((x5 ≤ (w.2.2 6 j1) → Go 104 [some (.inr 1), some (.inl x1), some (.inl x2), some (.inl x3), some (.inl x4), some (.inl x5)] [] w) ∧ (¬ (x5 ≤ (w.2.2 6 j1)) → ((nI 1) = 0 ∨ (nI 1) = 1) ∧ (((w.1 1 7) = (nI 0) → Go 96 [some (.inr 1), some (.inl x1), some (.inl x2), some (.inl x3), some (.inl x4), some (.inl x5)] [] (ma_up w.1 1 8 (nI 1), w.2.1, w.2.2)) ∧ (¬ ((w.1 1 7) = (nI 0)) → ((nI 0) = 0 ∨ (nI 0) = 1) ∧ post (nI 0) (ma_up w.1 1 8 (nI 1), w.2.1, w.2.2)))))) :
    Go 70 [some (.inr 1), some (.inl x1), some (.inl x2), some (.inl x3), some (.inl x4), some (.inl x5)] [] w := hGo 2 _ _ rfl _ _ _ h
theorem q_FO_isAsGood_96 {t_0 t_1 t_2 : ma_T} {post : ma_P} {Go : ma_G} {w : ma_W} {x1 : Int32} {x2 : Int32} {x3 : Int32} {x4 : Int32} {x5 : Int32} (hGo : ma_cl k_FO_isAsGood zf_FO (e_FO_isAsGood t_0 t_1 t_2) none 2 s_FO_isAsGood post Go)
    (h : t_2 [.inr 1, .inl x4, .inl x5] w (fun _ w1 => Go 104 [some (.inr 1), some (.inl x1), some (.inl x2), some (.inl x3), some (.inl x4), some (.inl x5)] [] w1)) :
    Go 96 [some (.inr 1), some (.inl x1), some (.inl x2), some (.inl x3), some (.inl x4), some (.inl x5)] [] w := hGo 3 _ _ rfl _ _ _ h
theorem q_FO_isAsGood_104 {t_0 t_1 t_2 : ma_T} {post : ma_P} {Go : ma_G} {w : ma_W} {x1 : Int32} {x2 : Int32} {x3 : Int32} {x4 : Int32} {x5 : Int32} (hGo : ma_cl k_FO_isAsGood zf_FO (e_FO_isAsGood t_0 t_1 t_2) none 2 s_FO_isAsGood post Go)
    (h : Go 21 [some (.inr 1), some (.inl x1), some (.inl x2), some (.inl x3), some (.inl (x4 + nI 1)), some (.inl x5)] [] w) :
    Go 104 [some (.inr 1), some (.inl x1), some (.inl x2), some (.inl x3), some (.inl x4), some (.inl x5)] [] w := hGo 4 _ _ rfl _ _ _ h
theorem q_FO_isAsGood_110 {t_0 t_1 t_2 : ma_T} {post : ma_P} {Go : ma_G} {w : ma_W} {x1 : Int32} {x2 : Int32} {x3 : Int32} {x4 : Int32} {o5 : Option ma_V} (hGo : ma_cl k_FO_isAsGood zf_FO (e_FO_isAsGood t_0 t_1 t_2) none 2 s_FO_isAsGood post Go)
    (h : ((nI 1) = 0 ∨ (nI 1) = 1) ∧ post (nI 1) w) :
    Go 110 [some (.inr 1), some (.inl x1), some (.inl x2), some (.inl x3), some (.inl x4), o5] [] w := hGo 5 _ _ rfl _ _ _ h
theorem q_FO_makeBest_0 {post : ma_P} {Go : ma_G} {w : ma_W} {x1 : Int32} {x2 : Int32} {o3 : Option ma_V} (hGo : ma_cl k_FO_makeBest zf_FO e_FO_makeBest none 0 s_FO_makeBest post Go)
    (h : ∃ j1 : Nat, j1 < 20 ∧ x1 = nI j1 ∧ (Go 11 [some (.inr 1), some (.inl x1), some (.inl x2), some (.inl (x1 + (nI 1)))] [] (w.1, w.2.1, ma_up w.2.2 6 j1 x2))) :
    Go 0 [some (.inr 1), some (.inl x1), some (.inl x2), o3] [] w := hGo 0 _ _ rfl _ _ _ h
theorem q_FO_makeBest_11 {post : ma_P} {Go : ma_G} {w : ma_W} {x1 : Int32} {x2 : Int32} {x3 : Int32} (hGo : ma_cl k_FO_makeBest zf_FO e_FO_makeBest none 0 s_FO_makeBest post Go)
    (h : ((nI 20) ≤ x3 → Go 30 [some (.inr 1), some (.inl x1), some (.inl x2), some (.inl x3)] [] w) ∧ (¬ ((nI 20) ≤ x3) → ∃ j1 : Nat, j1 < 20 ∧ x3 = nI j1 ∧ (Go 11 [some (.inr 1), some (.inl x1), some (.inl x2), some (.inl (x3 + nI 1))] [] (w.1, w.2.1, ma_up w.2.2 6 j1 (Int32.ofInt (-1)))))) :
    Go 11 [some (.inr 1), some (.inl x1), some (.inl x2), some (.inl x3)] [] w := hGo 1 _ _ rfl _ _ _ h
theorem q_FO_makeBest_30 {post : ma_P} {Go : ma_G} {w : ma_W} {x1 : Int32} {x2 : Int32} {x3 : Int32} (hGo : ma_cl k_FO_makeBest zf_FO e_FO_makeBest none 0 s_FO_makeBest post Go)
    (h : post 0 (ma_up w.1 1 6 (nI 0), w.2.1, w.2.2)) :
    Go 30 [some (.inr 1), some (.inl x1), some (.inl x2), some (.inl x3)] [] w := hGo 2 _ _ rfl _ _ _ h
theorem q_FO_countRenaming_0 {t_0 : ma_T} {post : ma_P} {Go : ma_G} {w : ma_W} {o1 : Option ma_V} (hGo : ma_cl k_FO_countRenaming zf_FO (e_FO_countRenaming t_0) none 0 s_FO_countRenaming post Go)
    (h : Go 12 [some (.inr 1), some (.inl (nI 0))] [] (ma_up w.1 1 6 ((w.1 1 6) + (nI 1)), w.2.1, w.2.2)) :
    Go 0 [some (.inr 1), o1] [] w := hGo 0 _ _ rfl _ _ _ h
theorem q_FO_countRenaming_12 {t_0 : ma_T} {post : ma_P} {Go : ma_G} {w : ma_W} {x1 : Int32} (hGo : ma_cl k_FO_countRenaming zf_FO (e_FO_countRenaming t_0) none 0 s_FO_countRenaming post Go)
    (h : t_0 [.inr 2] w (fun z1 w1 => (z1 ≤ x1 → Go 50 [some (.inr 1), some (.inl x1)] [] w1) ∧ (¬ (z1 ≤ x1) → ∃ j2 : Nat, j2 < 6 ∧ x1 = nI j2 ∧ (∃ j3 : Nat, j3 < 6 ∧ x1 = nI j3 ∧ (ma_min [.inl (w1.2.2 9 j2), .inl (w1.2.2 8 j3)] w1 (fun z4 w4 => ∃ j5 : Nat, j5 < 6 ∧ x1 = nI j5 ∧ (Go 12 [some (.inr 1), some (.inl (x1 + nI 1))] [] (w4.1, w4.2.1, ma_up w4.2.2 9 j5 z4)))))))) :
    Go 12 [some (.inr 1), some (.inl x1)] [] w := hGo 1 _ _ rfl _ _ _ h
theorem q_FO_countRenaming_50 {t_0 : ma_T} {post : ma_P} {Go : ma_G} {w : ma_W} {x1 : Int32} (hGo : ma_cl k_FO_countRenaming zf_FO (e_FO_countRenaming t_0) none 0 s_FO_countRenaming post Go)
    (h : post 0 w) :
    Go 50 [some (.inr 1), some (.inl x1)] [] w := hGo 2 _ _ rfl _ _ _ h
end
section
/-! RUNS OF INSTRUCTIONS, by program (wip/whole/qgen.py): what each comes to -/
theorem q_PC_begin_0 {t_0 t_1 t_2 t_3 t_4 t_5 : ma_T} {post : ma_P} {Go : ma_G} {w : ma_W} {x1 : Int32} {x2 : Int32} {x3 : Int32} (hGo : ma_cl k_PC_begin zf_PC (e_PC_begin t_0 t_1 t_2 t_3 t_4 t_5) none 1 s_PC_begin post Go)
    (h : (x1 < (nI 3) → Go 11 [some (.inr 0), some (.inl x1), some (.inl x2), some (.inl x3)] [] w) ∧ (¬ (x1 < (nI 3)) → (x1 ≤ (nI 6) → Go 14 [some (.inr 0), some (.inl x1), some (.inl x2), some (.inl x3)] [] w) ∧ (¬ (x1 ≤ (nI 6)) → Go 11 [some (.inr 0), some (.inl x1), some (.inl x2), some (.inl x3)] [] w))) :
    Go 0 [some (.inr 0), some (.inl x1), some (.inl x2), some (.inl x3)] [] w := hGo 0 _ _ rfl _ _ _ h
theorem q_PC_begin_11 {t_0 t_1 t_2 t_3 t_4 t_5 : ma_T} {post : ma_P} {Go : ma_G} {w : ma_W} {x1 : Int32} {x2 : Int32} {x3 : Int32} (hGo : ma_cl k_PC_begin zf_PC (e_PC_begin t_0 t_1 t_2 t_3 t_4 t_5) none 1 s_PC_begin post Go)
    (h : post (Int32.ofInt (-2)) w) :
    Go 11 [some (.inr 0), some (.inl x1), some (.inl x2), some (.inl x3)] [] w := hGo 1 _ _ rfl _ _ _ h
theorem q_PC_begin_14 {t_0 t_1 t_2 t_3 t_4 t_5 : ma_T} {post : ma_P} {Go : ma_G} {w : ma_W} {x1 : Int32} {x2 : Int32} {x3 : Int32} (hGo : ma_cl k_PC_begin zf_PC (e_PC_begin t_0 t_1 t_2 t_3 t_4 t_5) none 1 s_PC_begin post Go)
    (h : (x2 < (nI 2) → Go 36 [some (.inr 0), some (.inl x1), some (.inl x2), some (.inl x3)] [] w) ∧ (¬ (x2 < (nI 2)) → ((x1 - (nI 1)) < x2 → Go 36 [some (.inr 0), some (.inl x1), some (.inl x2), some (.inl x3)] [] w) ∧ (¬ ((x1 - (nI 1)) < x2) → (x3 < (nI 1) → Go 36 [some (.inr 0), some (.inl x1), some (.inl x2), some (.inl x3)] [] w) ∧ (¬ (x3 < (nI 1)) → (x3 ≤ (nI 4) → Go 39 [some (.inr 0), some (.inl x1), some (.inl x2), some (.inl x3)] [] w) ∧ (¬ (x3 ≤ (nI 4)) → Go 36 [some (.inr 0), some (.inl x1), some (.inl x2), some (.inl x3)] [] w))))) :
    Go 14 [some (.inr 0), some (.inl x1), some (.inl x2), some (.inl x3)] [] w := hGo 2 _ _ rfl _ _ _ h
theorem q_PC_begin_36 {t_0 t_1 t_2 t_3 t_4 t_5 : ma_T} {post : ma_P} {Go : ma_G} {w : ma_W} {x1 : Int32} {x2 : Int32} {x3 : Int32} (hGo : ma_cl k_PC_begin zf_PC (e_PC_begin t_0 t_1 t_2 t_3 t_4 t_5) none 1 s_PC_begin post Go)
    (h : post (Int32.ofInt (-2)) w) :
    Go 36 [some (.inr 0), some (.inl x1), some (.inl x2), some (.inl x3)] [] w := hGo 3 _ _ rfl _ _ _ h
theorem q_PC_begin_39 {t_0 t_1 t_2 t_3 t_4 t_5 : ma_T} {post : ma_P} {Go : ma_G} {w : ma_W} {x1 : Int32} {x2 : Int32} {x3 : Int32} (hGo : ma_cl k_PC_begin zf_PC (e_PC_begin t_0 t_1 t_2 t_3 t_4 t_5) none 1 s_PC_begin post Go)
    (h : t_0 [.inr 2, .inl x1, .inl x2] w (fun _ w1 => ((nI 1) = 0 ∨ (nI 1) = 1) ∧ (((nI 0) = 0 ∨ (nI 0) = 1) ∧ (t_1 [.inr 10] (ma_up (ma_up (ma_up w1.1 0 7 x3) 0 10 (nI 1)) 0 11 (nI 0), w1.2.1, w1.2.2) (fun _ w2 => ((nI 0) = 0 ∨ (nI 0) = 1) ∧ (ma_isk 4 w2.2.1.1 (t_2 [.inr w2.2.1.1, .inl (nI 0)] (ma_up w2.1 0 9 (nI 0), w2.2.1, w2.2.2) (fun _ w3 => t_3 [.inr 2] w3 (fun z4 w4 => ma_isk 4 w3.2.1.1 (t_4 [.inr w3.2.1.1, .inl z4] w4 (fun _ w5 => t_5 [.inl x1, .inl x2, .inl x3] w5 (fun z6 w6 => post z6 w6)))))))))))) :
    Go 39 [some (.inr 0), some (.inl x1), some (.inl x2), some (.inl x3)] [] w := hGo 4 _ _ rfl _ _ _ h
theorem q_PC_grow_0 {t_0 t_1 t_2 : ma_T} {post : ma_P} {Go : ma_G} {w : ma_W} {o1 : Option ma_V} (hGo : ma_cl k_PC_grow zf_PC (e_PC_grow t_0 t_1 t_2) none 1 s_PC_grow post Go)
    (h : (¬ (w.1 0 10) = (nI 0) → Go 9 [some (.inr 0), o1] [] w) ∧ (¬ (¬ (w.1 0 10) = (nI 0)) → post (Int32.ofInt (-1)) w)) :
    Go 0 [some (.inr 0), o1] [] w := hGo 0 _ _ rfl _ _ _ h
theorem q_PC_grow_9 {t_0 t_1 t_2 : ma_T} {post : ma_P} {Go : ma_G} {w : ma_W} {o1 : Option ma_V} (hGo : ma_cl k_PC_grow zf_PC (e_PC_grow t_0 t_1 t_2) none 1 s_PC_grow post Go)
    (h : (¬ (w.1 0 11) = (nI 0) → Go 28 [some (.inr 0), o1] [] w) ∧ (¬ (¬ (w.1 0 11) = (nI 0)) → ma_isk 4 w.2.1.1 (t_0 [.inr w.2.1.1] w (fun z1 w1 => (z1 < (nI 10) → Go 31 [some (.inr 0), o1] [] w1) ∧ (¬ (z1 < (nI 10)) → Go 28 [some (.inr 0), o1] [] w1))))) :
    Go 9 [some (.inr 0), o1] [] w := hGo 1 _ _ rfl _ _ _ h
theorem q_PC_grow_28 {t_0 t_1 t_2 : ma_T} {post : ma_P} {Go : ma_G} {w : ma_W} {o1 : Option ma_V} (hGo : ma_cl k_PC_grow zf_PC (e_PC_grow t_0 t_1 t_2) none 1 s_PC_grow post Go)
    (h : post (Int32.ofInt (-5)) w) :
    Go 28 [some (.inr 0), o1] [] w := hGo 2 _ _ rfl _ _ _ h
theorem q_PC_grow_31 {t_0 t_1 t_2 : ma_T} {post : ma_P} {Go : ma_G} {w : ma_W} {o1 : Option ma_V} (hGo : ma_cl k_PC_grow zf_PC (e_PC_grow t_0 t_1 t_2) none 1 s_PC_grow post Go)
    (h : t_1 [.inr 0] w (fun z1 w1 => (¬ z1 = (nI 0) → Go 46 [some (.inr 0), o1] [] w1) ∧ (¬ (¬ z1 = (nI 0)) → ((nI 1) = 0 ∨ (nI 1) = 1) ∧ (post (Int32.ofInt (-5)) (ma_up w1.1 0 11 (nI 1), w1.2.1, w1.2.2))))) :
    Go 31 [some (.inr 0), o1] [] w := hGo 3 _ _ rfl _ _ _ h
theorem q_PC_grow_46 {t_0 t_1 t_2 : ma_T} {post : ma_P} {Go : ma_G} {w : ma_W} {o1 : Option ma_V} (hGo : ma_cl k_PC_grow zf_PC (e_PC_grow t_0 t_1 t_2) none 1 s_PC_grow post Go)
    (h : ma_isk 4 w.2.1.2 (t_2 [.inr w.2.1.2] (w.1, (w.2.1.2, w.2.1.1), w.2.2) (fun z1 w1 => post z1 w1))) :
    Go 46 [some (.inr 0), o1] [] w := hGo 4 _ _ rfl _ _ _ h
theorem q_PC_level_0 {t_0 : ma_T} {post : ma_P} {Go : ma_G} {w : ma_W} (hGo : ma_cl k_PC_level zf_PC (e_PC_level t_0) none 1 s_PC_level post Go)
    (h : ((w.1 0 10) = (nI 0) → Go 17 [some (.inr 0)] [] w) ∧ (¬ ((w.1 0 10) = (nI 0)) → ma_isk 4 w.2.1.1 (t_0 [.inr w.2.1.1] w (fun z1 w1 => Go 18 [some (.inr 0)] [.inl z1] w1)))) :
    Go 0 [some (.inr 0)] [] w := hGo 0 _ _ rfl _ _ _ h
theorem q_PC_level_17 {t_0 : ma_T} {post : ma_P} {Go : ma_G} {w : ma_W} (hGo : ma_cl k_PC_level zf_PC (e_PC_level t_0) none 1 s_PC_level post Go)
    (h : Go 18 [some (.inr 0)] [.inl (Int32.ofInt (-1))] w) :
    Go 17 [some (.inr 0)] [] w := hGo 1 _ _ rfl _ _ _ h
theorem q_PC_level_18 {t_0 : ma_T} {post : ma_P} {Go : ma_G} {w : ma_W} {y0 : Int32} (hGo : ma_cl k_PC_level zf_PC (e_PC_level t_0) none 1 s_PC_level post Go)
    (h : post y0 w) :
    Go 18 [some (.inr 0)] [.inl y0] w := hGo 2 _ _ rfl _ _ _ h
theorem q_PC_entries_0 {t_0 : ma_T} {post : ma_P} {Go : ma_G} {w : ma_W} (hGo : ma_cl k_PC_entries zf_PC (e_PC_entries t_0) none 1 s_PC_entries post Go)
    (h : ma_isk 4 w.2.1.1 (t_0 [.inr w.2.1.1] w (fun z1 w1 => post z1 w1))) :
    Go 0 [some (.inr 0)] [] w := hGo 0 _ _ rfl _ _ _ h
theorem q_PC_block_0 {t_0 t_1 t_2 : ma_T} {post : ma_P} {Go : ma_G} {w : ma_W} {x1 : Int32} {x2 : Int32} (hGo : ma_cl k_PC_block zf_PC (e_PC_block t_0 t_1 t_2) none 1 s_PC_block post Go)
    (h : ma_isk 4 w.2.1.1 (t_0 [.inr w.2.1.1, .inl x1] w (fun z1 w1 => (z1 = (nI 0) → Go 38 [some (.inr 0), some (.inl x1), some (.inl x2)] [] w1) ∧ (¬ (z1 = (nI 0)) → (x2 < (nI 0) → Go 38 [some (.inr 0), some (.inl x1), some (.inl x2)] [] w1) ∧ (¬ (x2 < (nI 0)) → ma_isk 4 w1.2.1.1 (t_1 [.inr w1.2.1.1] w1 (fun z2 w2 => (z2 ≤ x2 → Go 38 [some (.inr 0), some (.inl x1), some (.inl x2)] [] w2) ∧ (¬ (z2 ≤ x2) → ma_isk 4 w2.2.1.1 (t_2 [.inr w2.2.1.1, .inl x1, .inl x2] w2 (fun z3 w3 => Go 39 [some (.inr 0), some (.inl x1), some (.inl x2)] [.inl z3] w3)))))))))) :
    Go 0 [some (.inr 0), some (.inl x1), some (.inl x2)] [] w := hGo 0 _ _ rfl _ _ _ h
theorem q_PC_block_38 {t_0 t_1 t_2 : ma_T} {post : ma_P} {Go : ma_G} {w : ma_W} {x1 : Int32} {x2 : Int32} (hGo : ma_cl k_PC_block zf_PC (e_PC_block t_0 t_1 t_2) none 1 s_PC_block post Go)
    (h : Go 39 [some (.inr 0), some (.inl x1), some (.inl x2)] [.inl (Int32.ofInt (-1))] w) :
    Go 38 [some (.inr 0), some (.inl x1), some (.inl x2)] [] w := hGo 1 _ _ rfl _ _ _ h
theorem q_PC_block_39 {t_0 t_1 t_2 : ma_T} {post : ma_P} {Go : ma_G} {w : ma_W} {x1 : Int32} {x2 : Int32} {y0 : Int32} (hGo : ma_cl k_PC_block zf_PC (e_PC_block t_0 t_1 t_2) none 1 s_PC_block post Go)
    (h : post y0 w) :
    Go 39 [some (.inr 0), some (.inl x1), some (.inl x2)] [.inl y0] w := hGo 2 _ _ rfl _ _ _ h
theorem q_PC_order_0 {t_0 t_1 : ma_T} {post : ma_P} {Go : ma_G} {w : ma_W} {x1 : Int32} (hGo : ma_cl k_PC_order zf_PC (e_PC_order t_0 t_1) none 1 s_PC_order post Go)
    (h : ma_isk 4 w.2.1.1 (t_0 [.inr w.2.1.1, .inl x1] w (fun z1 w1 => (z1 = (nI 0) → Go 22 [some (.inr 0), some (.inl x1)] [] w1) ∧ (¬ (z1 = (nI 0)) → ma_isk 4 w1.2.1.1 (t_1 [.inr w1.2.1.1, .inl x1] w1 (fun z2 w2 => Go 23 [some (.inr 0), some (.inl x1)] [.inl z2] w2)))))) :
    Go 0 [some (.inr 0), some (.inl x1)] [] w := hGo 0 _ _ rfl _ _ _ h
theorem q_PC_order_22 {t_0 t_1 : ma_T} {post : ma_P} {Go : ma_G} {w : ma_W} {x1 : Int32} (hGo : ma_cl k_PC_order zf_PC (e_PC_order t_0 t_1) none 1 s_PC_order post Go)
    (h : Go 23 [some (.inr 0), some (.inl x1)] [.inl (Int32.ofInt (-1))] w) :
    Go 22 [some (.inr 0), some (.inl x1)] [] w := hGo 1 _ _ rfl _ _ _ h
theorem q_PC_order_23 {t_0 t_1 : ma_T} {post : ma_P} {Go : ma_G} {w : ma_W} {x1 : Int32} {y0 : Int32} (hGo : ma_cl k_PC_order zf_PC (e_PC_order t_0 t_1) none 1 s_PC_order post Go)
    (h : post y0 w) :
    Go 23 [some (.inr 0), some (.inl x1)] [.inl y0] w := hGo 2 _ _ rfl _ _ _ h
theorem q_PC_labelled_0 {t_0 t_1 t_2 : ma_T} {post : ma_P} {Go : ma_G} {w : ma_W} {o1 : Option ma_V} {o2 : Option ma_V} {o3 : Option ma_V} {o4 : Option ma_V} (hGo : ma_cl k_PC_labelled zf_PC (e_PC_labelled t_0 t_1 t_2) none 1 s_PC_labelled post Go)
    (h : t_0 [.inr 2] w (fun z1 w1 => Go 12 [some (.inr 0), some (.inl (nI 0)), some (.inl z1), some (.inl (nI 0)), o4] [] w1)) :
    Go 0 [some (.inr 0), o1, o2, o3, o4] [] w := hGo 0 _ _ rfl _ _ _ h
theorem q_PC_labelled_12 {t_0 t_1 t_2 : ma_T} {post : ma_P} {Go : ma_G} {w : ma_W} {x1 : Int32} {x2 : Int32} {x3 : Int32} {o4 : Option ma_V} (hGo : ma_cl k_PC_labelled zf_PC (e_PC_labelled t_0 t_1 t_2) none 1 s_PC_labelled post Go)
    (h : ma_isk 4 w.2.1.1 (t_1 [.inr w.2.1.1] w (fun z1 w1 => (z1 ≤ x3 → Go 55 [some (.inr 0), some (.inl x1), some (.inl x2), some (.inl x3), o4] [] w1) ∧ (¬ (z1 ≤ x3) → ma_isk 4 w1.2.1.1 (t_2 [.inr w1.2.1.1, .inl x3] w1 (fun z2 w2 => (z2 ≤ (nI 0) → Go 46 [some (.inr 0), some (.inl x1), some (.inl x2), some (.inl x3), some (.inl z2)] [.inl x1] w2) ∧ (¬ (z2 ≤ (nI 0)) → ¬ z2 = 0 ∧ (Go 47 [some (.inr 0), some (.inl x1), some (.inl x2), some (.inl x3), some (.inl z2)] [.inl (x2 / z2), .inl x1] w2)))))))) :
    Go 12 [some (.inr 0), some (.inl x1), some (.inl x2), some (.inl x3), o4] [] w := hGo 1 _ _ rfl _ _ _ h
theorem q_PC_labelled_46 {t_0 t_1 t_2 : ma_T} {post : ma_P} {Go : ma_G} {w : ma_W} {x1 : Int32} {x2 : Int32} {x3 : Int32} {x4 : Int32} {y0 : Int32} (hGo : ma_cl k_PC_labelled zf_PC (e_PC_labelled t_0 t_1 t_2) none 1 s_PC_labelled post Go)
    (h : Go 47 [some (.inr 0), some (.inl x1), some (.inl x2), some (.inl x3), some (.inl x4)] [.inl (nI 0), .inl y0] w) :
    Go 46 [some (.inr 0), some (.inl x1), some (.inl x2), some (.inl x3), some (.inl x4)] [.inl y0] w := hGo 2 _ _ rfl _ _ _ h
theorem q_PC_labelled_47 {t_0 t_1 t_2 : ma_T} {post : ma_P} {Go : ma_G} {w : ma_W} {x1 : Int32} {x2 : Int32} {x3 : Int32} {x4 : Int32} {y0 : Int32} {y1 : Int32} (hGo : ma_cl k_PC_labelled zf_PC (e_PC_labelled t_0 t_1 t_2) none 1 s_PC_labelled post Go)
    (h : Go 12 [some (.inr 0), some (.inl (y1 + y0)), some (.inl x2), some (.inl (x3 + nI 1)), some (.inl x4)] [] w) :
    Go 47 [some (.inr 0), some (.inl x1), some (.inl x2), some (.inl x3), some (.inl x4)] [.inl y0, .inl y1] w := hGo 3 _ _ rfl _ _ _ h
theorem q_PC_labelled_55 {t_0 t_1 t_2 : ma_T} {post : ma_P} {Go : ma_G} {w : ma_W} {x1 : Int32} {x2 : Int32} {x3 : Int32} {o4 : Option ma_V} (hGo : ma_cl k_PC_labelled zf_PC (e_PC_labelled t_0 t_1 t_2) none 1 s_PC_labelled post Go)
    (h : post x1 w) :
    Go 55 [some (.inr 0), some (.inl x1), some (.inl x2), some (.inl x3), o4] [] w := hGo 4 _ _ rfl _ _ _ h
theorem q_PC_together_0 {t_0 t_1 t_2 : ma_T} {post : ma_P} {Go : ma_G} {w : ma_W} {x1 : Int32} {x2 : Int32} {x3 : Int32} (hGo : ma_cl k_PC_together zf_PC (e_PC_together t_0 t_1 t_2) none 1 s_PC_together post Go)
    (h : ma_isk 4 w.2.1.1 (t_0 [.inr w.2.1.1, .inl x1] w (fun z1 w1 => (z1 = (nI 0) → Go 33 [some (.inr 0), some (.inl x1), some (.inl x2), some (.inl x3)] [] w1) ∧ (¬ (z1 = (nI 0)) → t_1 [.inr 2, .inl x2] w1 (fun z2 w2 => (z2 = (nI 0) → Go 33 [some (.inr 0), some (.inl x1), some (.inl x2), some (.inl x3)] [] w2) ∧ (¬ (z2 = (nI 0)) → t_1 [.inr 2, .inl x3] w2 (fun z3 w3 => (¬ z3 = (nI 0) → Go 35 [some (.inr 0), some (.inl x1), some (.inl x2), some (.inl x3)] [] w3) ∧ (¬ (¬ z3 = (nI 0)) → Go 33 [some (.inr 0), some (.inl x1), some (.inl x2), some (.inl x3)] [] w3)))))))) :
    Go 0 [some (.inr 0), some (.inl x1), some (.inl x2), some (.inl x3)] [] w := hGo 0 _ _ rfl _ _ _ h
theorem q_PC_together_33 {t_0 t_1 t_2 : ma_T} {post : ma_P} {Go : ma_G} {w : ma_W} {x1 : Int32} {x2 : Int32} {x3 : Int32} (hGo : ma_cl k_PC_together zf_PC (e_PC_together t_0 t_1 t_2) none 1 s_PC_together post Go)
    (h : post (Int32.ofInt (-1)) w) :
    Go 33 [some (.inr 0), some (.inl x1), some (.inl x2), some (.inl x3)] [] w := hGo 1 _ _ rfl _ _ _ h
theorem q_PC_together_35 {t_0 t_1 t_2 : ma_T} {post : ma_P} {Go : ma_G} {w : ma_W} {x1 : Int32} {x2 : Int32} {x3 : Int32} (hGo : ma_cl k_PC_together zf_PC (e_PC_together t_0 t_1 t_2) none 1 s_PC_together post Go)
    (h : ma_isk 4 w.2.1.1 (t_2 [.inr w.2.1.1, .inl x1, .inl (((nI 1) <<< (x2 &&& 31)) ||| ((nI 1) <<< (x3 &&& 31)))] w (fun z1 w1 => post z1 w1))) :
    Go 35 [some (.inr 0), some (.inl x1), some (.inl x2), some (.inl x3)] [] w := hGo 2 _ _ rfl _ _ _ h
theorem q_PC_design_0 {t_0 t_1 : ma_T} {post : ma_P} {Go : ma_G} {w : ma_W} {x1 : Int32} (hGo : ma_cl k_PC_design zf_PC (e_PC_design t_0 t_1) none 2 s_PC_design post Go)
    (h : ma_isk 4 w.2.1.1 (t_0 [.inr w.2.1.1, .inl x1] w (fun z1 w1 => (z1 = (nI 0) → Go 23 [some (.inr 0), some (.inl x1)] [] w1) ∧ (¬ (z1 = (nI 0)) → t_1 [.inr 0, .inl x1] w1 (fun z2 w2 => (z2 = (nI 0) → Go 23 [some (.inr 0), some (.inl x1)] [] w2) ∧ (¬ (z2 = (nI 0)) → Go 24 [some (.inr 0), some (.inl x1)] [.inl (nI 1)] w2)))))) :
    Go 0 [some (.inr 0), some (.inl x1)] [] w := hGo 0 _ _ rfl _ _ _ h
theorem q_PC_design_23 {t_0 t_1 : ma_T} {post : ma_P} {Go : ma_G} {w : ma_W} {x1 : Int32} (hGo : ma_cl k_PC_design zf_PC (e_PC_design t_0 t_1) none 2 s_PC_design post Go)
    (h : Go 24 [some (.inr 0), some (.inl x1)] [.inl (nI 0)] w) :
    Go 23 [some (.inr 0), some (.inl x1)] [] w := hGo 1 _ _ rfl _ _ _ h
theorem q_PC_design_24 {t_0 t_1 : ma_T} {post : ma_P} {Go : ma_G} {w : ma_W} {x1 : Int32} {y0 : Int32} (hGo : ma_cl k_PC_design zf_PC (e_PC_design t_0 t_1) none 2 s_PC_design post Go)
    (h : (y0 = 0 ∨ y0 = 1) ∧ post y0 w) :
    Go 24 [some (.inr 0), some (.inl x1)] [.inl y0] w := hGo 2 _ _ rfl _ _ _ h
theorem q_PC_designs_0 {t_0 t_1 : ma_T} {post : ma_P} {Go : ma_G} {w : ma_W} {o1 : Option ma_V} {o2 : Option ma_V} (hGo : ma_cl k_PC_designs zf_PC (e_PC_designs t_0 t_1) none 1 s_PC_designs post Go)
    (h : Go 4 [some (.inr 0), some (.inl (nI 0)), some (.inl (nI 0))] [] w) :
    Go 0 [some (.inr 0), o1, o2] [] w := hGo 0 _ _ rfl _ _ _ h
theorem q_PC_designs_4 {t_0 t_1 : ma_T} {post : ma_P} {Go : ma_G} {w : ma_W} {x1 : Int32} {x2 : Int32} (hGo : ma_cl k_PC_designs zf_PC (e_PC_designs t_0 t_1) none 1 s_PC_designs post Go)
    (h : ma_isk 4 w.2.1.1 (t_0 [.inr w.2.1.1] w (fun z1 w1 => (z1 ≤ x2 → Go 37 [some (.inr 0), some (.inl x1), some (.inl x2)] [] w1) ∧ (¬ (z1 ≤ x2) → t_1 [.inr 0, .inl x2] w1 (fun z2 w2 => (z2 = (nI 0) → Go 28 [some (.inr 0), some (.inl x1), some (.inl x2)] [.inl x1] w2) ∧ (¬ (z2 = (nI 0)) → Go 29 [some (.inr 0), some (.inl x1), some (.inl x2)] [.inl (nI 1), .inl x1] w2)))))) :
    Go 4 [some (.inr 0), some (.inl x1), some (.inl x2)] [] w := hGo 1 _ _ rfl _ _ _ h
theorem q_PC_designs_28 {t_0 t_1 : ma_T} {post : ma_P} {Go : ma_G} {w : ma_W} {x1 : Int32} {x2 : Int32} {y0 : Int32} (hGo : ma_cl k_PC_designs zf_PC (e_PC_designs t_0 t_1) none 1 s_PC_designs post Go)
    (h : Go 29 [some (.inr 0), some (.inl x1), some (.inl x2)] [.inl (nI 0), .inl y0] w) :
    Go 28 [some (.inr 0), some (.inl x1), some (.inl x2)] [.inl y0] w := hGo 2 _ _ rfl _ _ _ h
theorem q_PC_designs_29 {t_0 t_1 : ma_T} {post : ma_P} {Go : ma_G} {w : ma_W} {x1 : Int32} {x2 : Int32} {y0 : Int32} {y1 : Int32} (hGo : ma_cl k_PC_designs zf_PC (e_PC_designs t_0 t_1) none 1 s_PC_designs post Go)
    (h : Go 4 [some (.inr 0), some (.inl (y1 + y0)), some (.inl (x2 + nI 1))] [] w) :
    Go 29 [some (.inr 0), some (.inl x1), some (.inl x2)] [.inl y0, .inl y1] w := hGo 3 _ _ rfl _ _ _ h
theorem q_PC_designs_37 {t_0 t_1 : ma_T} {post : ma_P} {Go : ma_G} {w : ma_W} {x1 : Int32} {x2 : Int32} (hGo : ma_cl k_PC_designs zf_PC (e_PC_designs t_0 t_1) none 1 s_PC_designs post Go)
    (h : post x1 w) :
    Go 37 [some (.inr 0), some (.inl x1), some (.inl x2)] [] w := hGo 4 _ _ rfl _ _ _ h
theorem q_PC_orbit_0 {t_0 t_1 t_2 : ma_T} {post : ma_P} {Go : ma_G} {w : ma_W} {x1 : Int32} {x2 : Int32} (hGo : ma_cl k_PC_orbit zf_PC (e_PC_orbit t_0 t_1 t_2) none 1 s_PC_orbit post Go)
    (h : ma_isk 4 w.2.1.1 (t_0 [.inr w.2.1.1, .inl x1] w (fun z1 w1 => (z1 = (nI 0) → Go 34 [some (.inr 0), some (.inl x1), some (.inl x2)] [] w1) ∧ (¬ (z1 = (nI 0)) → t_1 [.inr 2, .inl x2] w1 (fun z2 w2 => (z2 = (nI 0) → Go 34 [some (.inr 0), some (.inl x1), some (.inl x2)] [] w2) ∧ (¬ (z2 = (nI 0)) → ma_isk 4 w2.2.1.1 (t_2 [.inr w2.2.1.1, .inl x1, .inl x2] w2 (fun z3 w3 => Go 35 [some (.inr 0), some (.inl x1), some (.inl x2)] [.inl z3] w3)))))))) :
    Go 0 [some (.inr 0), some (.inl x1), some (.inl x2)] [] w := hGo 0 _ _ rfl _ _ _ h
theorem q_PC_orbit_34 {t_0 t_1 t_2 : ma_T} {post : ma_P} {Go : ma_G} {w : ma_W} {x1 : Int32} {x2 : Int32} (hGo : ma_cl k_PC_orbit zf_PC (e_PC_orbit t_0 t_1 t_2) none 1 s_PC_orbit post Go)
    (h : Go 35 [some (.inr 0), some (.inl x1), some (.inl x2)] [.inl (Int32.ofInt (-1))] w) :
    Go 34 [some (.inr 0), some (.inl x1), some (.inl x2)] [] w := hGo 1 _ _ rfl _ _ _ h
theorem q_PC_orbit_35 {t_0 t_1 t_2 : ma_T} {post : ma_P} {Go : ma_G} {w : ma_W} {x1 : Int32} {x2 : Int32} {y0 : Int32} (hGo : ma_cl k_PC_orbit zf_PC (e_PC_orbit t_0 t_1 t_2) none 1 s_PC_orbit post Go)
    (h : post y0 w) :
    Go 35 [some (.inr 0), some (.inl x1), some (.inl x2)] [.inl y0] w := hGo 2 _ _ rfl _ _ _ h
theorem q_PC_put_0 {t_0 t_1 t_2 : ma_T} {post : ma_P} {Go : ma_G} {w : ma_W} {x1 : Int32} (hGo : ma_cl k_PC_put zf_PC (e_PC_put t_0 t_1 t_2) none 1 s_PC_put post Go)
    (h : ((w.1 0 10) = (nI 0) → Go 18 [some (.inr 0), some (.inl x1)] [] w) ∧ (¬ ((w.1 0 10) = (nI 0)) → t_0 [.inr 2, .inl x1] w (fun z1 w1 => (¬ z1 = (nI 0) → Go 21 [some (.inr 0), some (.inl x1)] [] w1) ∧ (¬ (¬ z1 = (nI 0)) → Go 18 [some (.inr 0), some (.inl x1)] [] w1)))) :
    Go 0 [some (.inr 0), some (.inl x1)] [] w := hGo 0 _ _ rfl _ _ _ h
theorem q_PC_put_18 {t_0 t_1 t_2 : ma_T} {post : ma_P} {Go : ma_G} {w : ma_W} {x1 : Int32} (hGo : ma_cl k_PC_put zf_PC (e_PC_put t_0 t_1 t_2) none 1 s_PC_put post Go)
    (h : post (Int32.ofInt (-2)) w) :
    Go 18 [some (.inr 0), some (.inl x1)] [] w := hGo 1 _ _ rfl _ _ _ h
theorem q_PC_put_21 {t_0 t_1 t_2 : ma_T} {post : ma_P} {Go : ma_G} {w : ma_W} {x1 : Int32} (hGo : ma_cl k_PC_put zf_PC (e_PC_put t_0 t_1 t_2) none 1 s_PC_put post Go)
    (h : t_1 [.inr 10] w (fun z1 w1 => (z1 < (nI 10) → Go 36 [some (.inr 0), some (.inl x1)] [] w1) ∧ (¬ (z1 < (nI 10)) → post (Int32.ofInt (-5)) w1))) :
    Go 21 [some (.inr 0), some (.inl x1)] [] w := hGo 2 _ _ rfl _ _ _ h
theorem q_PC_put_36 {t_0 t_1 t_2 : ma_T} {post : ma_P} {Go : ma_G} {w : ma_W} {x1 : Int32} (hGo : ma_cl k_PC_put zf_PC (e_PC_put t_0 t_1 t_2) none 1 s_PC_put post Go)
    (h : t_2 [.inr 10, .inl x1] w (fun _ w1 => ((nI 0) = 0 ∨ (nI 0) = 1) ∧ (t_1 [.inr 10] (ma_up w1.1 0 9 (nI 0), w1.2.1, w1.2.2) (fun z2 w2 => post z2 w2)))) :
    Go 36 [some (.inr 0), some (.inl x1)] [] w := hGo 3 _ _ rfl _ _ _ h
theorem q_PC_drop_0 {t_0 t_1 : ma_T} {post : ma_P} {Go : ma_G} {w : ma_W} {x1 : Int32} (hGo : ma_cl k_PC_drop zf_PC (e_PC_drop t_0 t_1) none 2 s_PC_drop post Go)
    (h : t_0 [.inr 10, .inl x1] w (fun z1 w1 => (¬ z1 = (nI 0) → Go 13 [some (.inr 0), some (.inl x1)] [] w1) ∧ (¬ (¬ z1 = (nI 0)) → ((nI 0) = 0 ∨ (nI 0) = 1) ∧ post (nI 0) w1))) :
    Go 0 [some (.inr 0), some (.inl x1)] [] w := hGo 0 _ _ rfl _ _ _ h
theorem q_PC_drop_13 {t_0 t_1 : ma_T} {post : ma_P} {Go : ma_G} {w : ma_W} {x1 : Int32} (hGo : ma_cl k_PC_drop zf_PC (e_PC_drop t_0 t_1) none 2 s_PC_drop post Go)
    (h : t_1 [.inr 10, .inl x1] w (fun _ w1 => ((nI 0) = 0 ∨ (nI 0) = 1) ∧ (((nI 1) = 0 ∨ (nI 1) = 1) ∧ post (nI 1) (ma_up w1.1 0 9 (nI 0), w1.2.1, w1.2.2)))) :
    Go 13 [some (.inr 0), some (.inl x1)] [] w := hGo 1 _ _ rfl _ _ _ h
theorem q_PC_swap_0 {t_0 t_1 : ma_T} {post : ma_P} {Go : ma_G} {w : ma_W} {x1 : Int32} {x2 : Int32} (hGo : ma_cl k_PC_swap zf_PC (e_PC_swap t_0 t_1) none 2 s_PC_swap post Go)
    (h : t_0 [.inr 2, .inl x1] w (fun z1 w1 => (z1 = (nI 0) → Go 22 [some (.inr 0), some (.inl x1), some (.inl x2)] [] w1) ∧ (¬ (z1 = (nI 0)) → t_0 [.inr 2, .inl x2] w1 (fun z2 w2 => (¬ z2 = (nI 0) → Go 24 [some (.inr 0), some (.inl x1), some (.inl x2)] [] w2) ∧ (¬ (¬ z2 = (nI 0)) → Go 22 [some (.inr 0), some (.inl x1), some (.inl x2)] [] w2))))) :
    Go 0 [some (.inr 0), some (.inl x1), some (.inl x2)] [] w := hGo 0 _ _ rfl _ _ _ h
theorem q_PC_swap_22 {t_0 t_1 : ma_T} {post : ma_P} {Go : ma_G} {w : ma_W} {x1 : Int32} {x2 : Int32} (hGo : ma_cl k_PC_swap zf_PC (e_PC_swap t_0 t_1) none 2 s_PC_swap post Go)
    (h : ((nI 0) = 0 ∨ (nI 0) = 1) ∧ post (nI 0) w) :
    Go 22 [some (.inr 0), some (.inl x1), some (.inl x2)] [] w := hGo 1 _ _ rfl _ _ _ h
theorem q_PC_swap_24 {t_0 t_1 : ma_T} {post : ma_P} {Go : ma_G} {w : ma_W} {x1 : Int32} {x2 : Int32} (hGo : ma_cl k_PC_swap zf_PC (e_PC_swap t_0 t_1) none 2 s_PC_swap post Go)
    (h : t_1 [.inr 10, .inl x1, .inl x2] w (fun _ w1 => ((nI 1) = 0 ∨ (nI 1) = 1) ∧ post (nI 1) w1)) :
    Go 24 [some (.inr 0), some (.inl x1), some (.inl x2)] [] w := hGo 2 _ _ rfl _ _ _ h
theorem q_PC_copy_0 {t_0 t_1 : ma_T} {post : ma_P} {Go : ma_G} {w : ma_W} {x1 : Int32} (hGo : ma_cl k_PC_copy zf_PC (e_PC_copy t_0 t_1) none 2 s_PC_copy post Go)
    (h : ma_isk 4 w.2.1.1 (t_0 [.inr w.2.1.1, .inl x1] w (fun z1 w1 => (¬ z1 = (nI 0) → Go 13 [some (.inr 0), some (.inl x1)] [] w1) ∧ (¬ (¬ z1 = (nI 0)) → ((nI 0) = 0 ∨ (nI 0) = 1) ∧ post (nI 0) w1)))) :
    Go 0 [some (.inr 0), some (.inl x1)] [] w := hGo 0 _ _ rfl _ _ _ h
theorem q_PC_copy_13 {t_0 t_1 : ma_T} {post : ma_P} {Go : ma_G} {w : ma_W} {x1 : Int32} (hGo : ma_cl k_PC_copy zf_PC (e_PC_copy t_0 t_1) none 2 s_PC_copy post Go)
    (h : ma_isk 4 w.2.1.1 (t_1 [.inr w.2.1.1, .inl x1, .inr 10] w (fun _ w1 => ((nI 0) = 0 ∨ (nI 0) = 1) ∧ (((nI 1) = 0 ∨ (nI 1) = 1) ∧ post (nI 1) (ma_up w1.1 0 9 (nI 0), w1.2.1, w1.2.2))))) :
    Go 13 [some (.inr 0), some (.inl x1)] [] w := hGo 1 _ _ rfl _ _ _ h
theorem q_PC_hand_0 {t_0 t_1 : ma_T} {post : ma_P} {Go : ma_G} {w : ma_W} {x1 : Int32} (hGo : ma_cl k_PC_hand zf_PC (e_PC_hand t_0 t_1) none 1 s_PC_hand post Go)
    (h : t_0 [.inr 10, .inl x1] w (fun z1 w1 => (z1 = (nI 0) → Go 22 [some (.inr 0), some (.inl x1)] [] w1) ∧ (¬ (z1 = (nI 0)) → t_1 [.inr 10, .inl x1] w1 (fun z2 w2 => Go 23 [some (.inr 0), some (.inl x1)] [.inl z2] w2)))) :
    Go 0 [some (.inr 0), some (.inl x1)] [] w := hGo 0 _ _ rfl _ _ _ h
theorem q_PC_hand_22 {t_0 t_1 : ma_T} {post : ma_P} {Go : ma_G} {w : ma_W} {x1 : Int32} (hGo : ma_cl k_PC_hand zf_PC (e_PC_hand t_0 t_1) none 1 s_PC_hand post Go)
    (h : Go 23 [some (.inr 0), some (.inl x1)] [.inl (Int32.ofInt (-1))] w) :
    Go 22 [some (.inr 0), some (.inl x1)] [] w := hGo 1 _ _ rfl _ _ _ h
theorem q_PC_hand_23 {t_0 t_1 : ma_T} {post : ma_P} {Go : ma_G} {w : ma_W} {x1 : Int32} {y0 : Int32} (hGo : ma_cl k_PC_hand zf_PC (e_PC_hand t_0 t_1) none 1 s_PC_hand post Go)
    (h : post y0 w) :
    Go 23 [some (.inr 0), some (.inl x1)] [.inl y0] w := hGo 2 _ _ rfl _ _ _ h
theorem q_PC_formed_0 {t_0 t_1 t_2 : ma_T} {post : ma_P} {Go : ma_G} {w : ma_W} {x1 : Int32} (hGo : ma_cl k_PC_formed zf_PC (e_PC_formed t_0 t_1 t_2) none 1 s_PC_formed post Go)
    (h : t_0 [.inr 10, .inl x1] w (fun z1 w1 => (¬ z1 = (nI 0) → Go 13 [some (.inr 0), some (.inl x1)] [] w1) ∧ (¬ (¬ z1 = (nI 0)) → post (Int32.ofInt (-1)) w1))) :
    Go 0 [some (.inr 0), some (.inl x1)] [] w := hGo 0 _ _ rfl _ _ _ h
theorem q_PC_formed_13 {t_0 t_1 t_2 : ma_T} {post : ma_P} {Go : ma_G} {w : ma_W} {x1 : Int32} (hGo : ma_cl k_PC_formed zf_PC (e_PC_formed t_0 t_1 t_2) none 1 s_PC_formed post Go)
    (h : t_1 [.inr 0] w (fun _ w1 => t_0 [.inr 12, .inl x1] w1 (fun z2 w2 => (z2 = (nI 0) → Go 39 [some (.inr 0), some (.inl x1)] [] w2) ∧ (¬ (z2 = (nI 0)) → t_2 [.inr 12, .inl x1] w2 (fun z3 w3 => Go 40 [some (.inr 0), some (.inl x1)] [.inl z3] w3))))) :
    Go 13 [some (.inr 0), some (.inl x1)] [] w := hGo 1 _ _ rfl _ _ _ h
theorem q_PC_formed_39 {t_0 t_1 t_2 : ma_T} {post : ma_P} {Go : ma_G} {w : ma_W} {x1 : Int32} (hGo : ma_cl k_PC_formed zf_PC (e_PC_formed t_0 t_1 t_2) none 1 s_PC_formed post Go)
    (h : Go 40 [some (.inr 0), some (.inl x1)] [.inl (Int32.ofInt (-1))] w) :
    Go 39 [some (.inr 0), some (.inl x1)] [] w := hGo 2 _ _ rfl _ _ _ h
theorem q_PC_formed_40 {t_0 t_1 t_2 : ma_T} {post : ma_P} {Go : ma_G} {w : ma_W} {x1 : Int32} {y0 : Int32} (hGo : ma_cl k_PC_formed zf_PC (e_PC_formed t_0 t_1 t_2) none 1 s_PC_formed post Go)
    (h : post y0 w) :
    Go 40 [some (.inr 0), some (.inl x1)] [.inl y0] w := hGo 3 _ _ rfl _ _ _ h
theorem q_PC_symmetries_0 {t_0 : ma_T} {post : ma_P} {Go : ma_G} {w : ma_W} (hGo : ma_cl k_PC_symmetries zf_PC (e_PC_symmetries t_0) none 1 s_PC_symmetries post Go)
    (h : (¬ (w.1 0 10) = (nI 0) → Go 9 [some (.inr 0)] [] w) ∧ (¬ (¬ (w.1 0 10) = (nI 0)) → post (Int32.ofInt (-1)) w)) :
    Go 0 [some (.inr 0)] [] w := hGo 0 _ _ rfl _ _ _ h
theorem q_PC_symmetries_9 {t_0 : ma_T} {post : ma_P} {Go : ma_G} {w : ma_W} (hGo : ma_cl k_PC_symmetries zf_PC (e_PC_symmetries t_0) none 1 s_PC_symmetries post Go)
    (h : t_0 [.inr 0] w (fun _ w1 => post (w1.1 0 8) w1)) :
    Go 9 [some (.inr 0)] [] w := hGo 1 _ _ rfl _ _ _ h
theorem q_PC_find_0 {t_0 t_1 t_2 t_3 : ma_T} {post : ma_P} {Go : ma_G} {w : ma_W} (hGo : ma_cl k_PC_find zf_PC (e_PC_find t_0 t_1 t_2 t_3) none 1 s_PC_find post Go)
    (h : ((w.1 0 10) = (nI 0) → Go 24 [some (.inr 0)] [] w) ∧ (¬ ((w.1 0 10) = (nI 0)) → t_0 [.inr 10] w (fun z1 w1 => ma_isk 4 w1.2.1.1 (t_1 [.inr w1.2.1.1] w1 (fun z2 w2 => (z1 = z2 → Go 26 [some (.inr 0)] [] w2) ∧ (¬ (z1 = z2) → Go 24 [some (.inr 0)] [] w2)))))) :
    Go 0 [some (.inr 0)] [] w := hGo 0 _ _ rfl _ _ _ h
theorem q_PC_find_24 {t_0 t_1 t_2 t_3 : ma_T} {post : ma_P} {Go : ma_G} {w : ma_W} (hGo : ma_cl k_PC_find zf_PC (e_PC_find t_0 t_1 t_2 t_3) none 1 s_PC_find post Go)
    (h : post (Int32.ofInt (-1)) w) :
    Go 24 [some (.inr 0)] [] w := hGo 1 _ _ rfl _ _ _ h
theorem q_PC_find_26 {t_0 t_1 t_2 t_3 : ma_T} {post : ma_P} {Go : ma_G} {w : ma_W} (hGo : ma_cl k_PC_find zf_PC (e_PC_find t_0 t_1 t_2 t_3) none 1 s_PC_find post Go)
    (h : t_2 [.inr 0] w (fun _ w1 => ma_isk 4 w1.2.1.1 (t_3 [.inr w1.2.1.1, .inr 12] w1 (fun z2 w2 => post z2 w2)))) :
    Go 26 [some (.inr 0)] [] w := hGo 2 _ _ rfl _ _ _ h
theorem q_PC_blocksOfDesign_0 {post : ma_P} {Go : ma_G} {w : ma_W} {x0 : Int32} {x1 : Int32} {x2 : Int32} {o3 : Option ma_V} {o4 : Option ma_V} {o5 : Option ma_V} (hGo : ma_cl k_PC_blocksOfDesign zf_PC e_PC_blocksOfDesign none 1 s_PC_blocksOfDesign post Go)
    (h : ¬ (x1 - (nI 1)) = 0 ∧ ((((x2 * (x0 - (nI 1))) - (x2 * (x0 - (nI 1))) / (x1 - (nI 1)) * (x1 - (nI 1))) = (nI 0) → Go 17 [some (.inl x0), some (.inl x1), some (.inl x2), some (.inl (x2 * (x0 - (nI 1)))), o4, o5] [] w) ∧ (¬ (((x2 * (x0 - (nI 1))) - (x2 * (x0 - (nI 1))) / (x1 - (nI 1)) * (x1 - (nI 1))) = (nI 0)) → post (Int32.ofInt (-3)) w))) :
    Go 0 [some (.inl x0), some (.inl x1), some (.inl x2), o3, o4, o5] [] w := hGo 0 _ _ rfl _ _ _ h
theorem q_PC_blocksOfDesign_17 {post : ma_P} {Go : ma_G} {w : ma_W} {x0 : Int32} {x1 : Int32} {x2 : Int32} {x3 : Int32} {o4 : Option ma_V} {o5 : Option ma_V} (hGo : ma_cl k_PC_blocksOfDesign zf_PC e_PC_blocksOfDesign none 1 s_PC_blocksOfDesign post Go)
    (h : ¬ (x1 - (nI 1)) = 0 ∧ (¬ x1 = 0 ∧ ((((x0 * (x3 / (x1 - (nI 1)))) - (x0 * (x3 / (x1 - (nI 1)))) / x1 * x1) = (nI 0) → Go 36 [some (.inl x0), some (.inl x1), some (.inl x2), some (.inl x3), some (.inl (x0 * (x3 / (x1 - (nI 1))))), o5] [] w) ∧ (¬ (((x0 * (x3 / (x1 - (nI 1)))) - (x0 * (x3 / (x1 - (nI 1)))) / x1 * x1) = (nI 0)) → post (Int32.ofInt (-3)) w)))) :
    Go 17 [some (.inl x0), some (.inl x1), some (.inl x2), some (.inl x3), o4, o5] [] w := hGo 1 _ _ rfl _ _ _ h
theorem q_PC_blocksOfDesign_36 {post : ma_P} {Go : ma_G} {w : ma_W} {x0 : Int32} {x1 : Int32} {x2 : Int32} {x3 : Int32} {x4 : Int32} {o5 : Option ma_V} (hGo : ma_cl k_PC_blocksOfDesign zf_PC e_PC_blocksOfDesign none 1 s_PC_blocksOfDesign post Go)
    (h : ¬ x1 = 0 ∧ ((x0 ≤ (x4 / x1) → Go 53 [some (.inl x0), some (.inl x1), some (.inl x2), some (.inl x3), some (.inl x4), some (.inl (x4 / x1))] [] w) ∧ (¬ (x0 ≤ (x4 / x1)) → Go 55 [some (.inl x0), some (.inl x1), some (.inl x2), some (.inl x3), some (.inl x4), some (.inl (x4 / x1))] [.inl (Int32.ofInt (-4))] w))) :
    Go 36 [some (.inl x0), some (.inl x1), some (.inl x2), some (.inl x3), some (.inl x4), o5] [] w := hGo 2 _ _ rfl _ _ _ h
theorem q_PC_blocksOfDesign_53 {post : ma_P} {Go : ma_G} {w : ma_W} {x0 : Int32} {x1 : Int32} {x2 : Int32} {x3 : Int32} {x4 : Int32} {x5 : Int32} (hGo : ma_cl k_PC_blocksOfDesign zf_PC e_PC_blocksOfDesign none 1 s_PC_blocksOfDesign post Go)
    (h : Go 55 [some (.inl x0), some (.inl x1), some (.inl x2), some (.inl x3), some (.inl x4), some (.inl x5)] [.inl x5] w) :
    Go 53 [some (.inl x0), some (.inl x1), some (.inl x2), some (.inl x3), some (.inl x4), some (.inl x5)] [] w := hGo 3 _ _ rfl _ _ _ h
theorem q_PC_blocksOfDesign_55 {post : ma_P} {Go : ma_G} {w : ma_W} {x0 : Int32} {x1 : Int32} {x2 : Int32} {x3 : Int32} {x4 : Int32} {x5 : Int32} {y0 : Int32} (hGo : ma_cl k_PC_blocksOfDesign zf_PC e_PC_blocksOfDesign none 1 s_PC_blocksOfDesign post Go)
    (h : post y0 w) :
    Go 55 [some (.inl x0), some (.inl x1), some (.inl x2), some (.inl x3), some (.inl x4), some (.inl x5)] [.inl y0] w := hGo 4 _ _ rfl _ _ _ h
theorem q_PC_fillSpare_0 {t_0 t_1 t_2 t_3 : ma_T} {post : ma_P} {Go : ma_G} {w : ma_W} {o1 : Option ma_V} (hGo : ma_cl k_PC_fillSpare zf_PC (e_PC_fillSpare t_0 t_1 t_2 t_3) none 2 s_PC_fillSpare post Go)
    (h : ma_isk 4 w.2.1.1 (t_0 [.inr w.2.1.1] w (fun z1 w1 => ma_isk 4 w.2.1.2 (t_1 [.inr w.2.1.2, .inl (z1 + (nI 1))] w1 (fun _ w2 => Go 18 [some (.inr 0), some (.inl (nI 0))] [] w2))))) :
    Go 0 [some (.inr 0), o1] [] w := hGo 0 _ _ rfl _ _ _ h
theorem q_PC_fillSpare_18 {t_0 t_1 t_2 t_3 : ma_T} {post : ma_P} {Go : ma_G} {w : ma_W} {x1 : Int32} (hGo : ma_cl k_PC_fillSpare zf_PC (e_PC_fillSpare t_0 t_1 t_2 t_3) none 2 s_PC_fillSpare post Go)
    (h : ma_isk 4 w.2.1.1 (t_2 [.inr w.2.1.1] w (fun z1 w1 => (z1 ≤ x1 → Go 45 [some (.inr 0), some (.inl x1)] [] w1) ∧ (¬ (z1 ≤ x1) → t_3 [.inr 0, .inl x1] w1 (fun z2 w2 => (¬ z2 = (nI 0) → Go 39 [some (.inr 0), some (.inl x1)] [] w2) ∧ (¬ (¬ z2 = (nI 0)) → ((nI 0) = 0 ∨ (nI 0) = 1) ∧ post (nI 0) w2)))))) :
    Go 18 [some (.inr 0), some (.inl x1)] [] w := hGo 1 _ _ rfl _ _ _ h
theorem q_PC_fillSpare_39 {t_0 t_1 t_2 t_3 : ma_T} {post : ma_P} {Go : ma_G} {w : ma_W} {x1 : Int32} (hGo : ma_cl k_PC_fillSpare zf_PC (e_PC_fillSpare t_0 t_1 t_2 t_3) none 2 s_PC_fillSpare post Go)
    (h : Go 18 [some (.inr 0), some (.inl (x1 + nI 1))] [] w) :
    Go 39 [some (.inr 0), some (.inl x1)] [] w := hGo 2 _ _ rfl _ _ _ h
theorem q_PC_fillSpare_45 {t_0 t_1 t_2 t_3 : ma_T} {post : ma_P} {Go : ma_G} {w : ma_W} {x1 : Int32} (hGo : ma_cl k_PC_fillSpare zf_PC (e_PC_fillSpare t_0 t_1 t_2 t_3) none 2 s_PC_fillSpare post Go)
    (h : ((nI 1) = 0 ∨ (nI 1) = 1) ∧ post (nI 1) w) :
    Go 45 [some (.inr 0), some (.inl x1)] [] w := hGo 3 _ _ rfl _ _ _ h
theorem q_PC_addFormsFrom_0 {t_0 t_1 t_2 t_3 t_4 t_5 t_6 t_7 t_8 t_9 t_10 : ma_T} {post : ma_P} {Go : ma_G} {w : ma_W} {x1 : Int32} {o2 : Option ma_V} {o3 : Option ma_V} {o4 : Option ma_V} (hGo : ma_cl k_PC_addFormsFrom zf_PC (e_PC_addFormsFrom t_0 t_1 t_2 t_3 t_4 t_5 t_6 t_7 t_8 t_9 t_10) none 2 s_PC_addFormsFrom post Go)
    (h : ma_isk 4 w.2.1.1 (t_0 [.inr w.2.1.1, .inl x1, .inr 14] w (fun _ w1 => t_1 [.inr 14] w1 (fun z2 w2 => Go 22 [some (.inr 0), some (.inl x1), some (.inl z2), some (.inl (nI 0)), o4] [] w2)))) :
    Go 0 [some (.inr 0), some (.inl x1), o2, o3, o4] [] w := hGo 0 _ _ rfl _ _ _ h
theorem q_PC_addFormsFrom_22 {t_0 t_1 t_2 t_3 t_4 t_5 t_6 t_7 t_8 t_9 t_10 : ma_T} {post : ma_P} {Go : ma_G} {w : ma_W} {x1 : Int32} {x2 : Int32} {x3 : Int32} {o4 : Option ma_V} (hGo : ma_cl k_PC_addFormsFrom zf_PC (e_PC_addFormsFrom t_0 t_1 t_2 t_3 t_4 t_5 t_6 t_7 t_8 t_9 t_10) none 2 s_PC_addFormsFrom post Go)
    (h : t_2 [.inr 2] w (fun z1 w1 => (z1 ≤ x3 → Go 134 [some (.inr 0), some (.inl x1), some (.inl x2), some (.inl x3), o4] [] w1) ∧ (¬ (z1 ≤ x3) → t_3 [.inr 2, .inl x3] w1 (fun z2 w2 => (z2 < x2 → Go 128 [some (.inr 0), some (.inl x1), some (.inl x2), some (.inl x3), some (.inl z2)] [] w2) ∧ (¬ (z2 < x2) → t_4 [.inr 0, .inl x1, .inl z2] w2 (fun z3 w3 => (¬ z3 = (nI 0) → Go 62 [some (.inr 0), some (.inl x1), some (.inl x2), some (.inl x3), some (.inl z2)] [] w3) ∧ (¬ (¬ z3 = (nI 0)) → Go 128 [some (.inr 0), some (.inl x1), some (.inl x2), some (.inl x3), some (.inl z2)] [] w3))))))) :
    Go 22 [some (.inr 0), some (.inl x1), some (.inl x2), some (.inl x3), o4] [] w := hGo 1 _ _ rfl _ _ _ h
theorem q_PC_addFormsFrom_62 {t_0 t_1 t_2 t_3 t_4 t_5 t_6 t_7 t_8 t_9 t_10 : ma_T} {post : ma_P} {Go : ma_G} {w : ma_W} {x1 : Int32} {x2 : Int32} {x3 : Int32} {x4 : Int32} (hGo : ma_cl k_PC_addFormsFrom zf_PC (e_PC_addFormsFrom t_0 t_1 t_2 t_3 t_4 t_5 t_6 t_7 t_8 t_9 t_10) none 2 s_PC_addFormsFrom post Go)
    (h : t_5 [.inr 14, .inl x4] w (fun _ w1 => t_6 [.inr 1, .inr 14] w1 (fun z2 w2 => (z2 = (nI 0) → Go 112 [some (.inr 0), some (.inl x1), some (.inl x2), some (.inl x3), some (.inl x4)] [] w2) ∧ (¬ (z2 = (nI 0)) → ma_isk 4 w2.2.1.2 (t_7 [.inr w2.2.1.2] w2 (fun z3 w3 => (z3 = (nI 0) → Go 97 [some (.inr 0), some (.inl x1), some (.inl x2), some (.inl x3), some (.inl x4)] [] w3) ∧ (¬ (z3 = (nI 0)) → ((nI 0) = 0 ∨ (nI 0) = 1) ∧ post (nI 0) w3))))))) :
    Go 62 [some (.inr 0), some (.inl x1), some (.inl x2), some (.inl x3), some (.inl x4)] [] w := hGo 2 _ _ rfl _ _ _ h
theorem q_PC_addFormsFrom_97 {t_0 t_1 t_2 t_3 t_4 t_5 t_6 t_7 t_8 t_9 t_10 : ma_T} {post : ma_P} {Go : ma_G} {w : ma_W} {x1 : Int32} {x2 : Int32} {x3 : Int32} {x4 : Int32} (hGo : ma_cl k_PC_addFormsFrom zf_PC (e_PC_addFormsFrom t_0 t_1 t_2 t_3 t_4 t_5 t_6 t_7 t_8 t_9 t_10) none 2 s_PC_addFormsFrom post Go)
    (h : ma_isk 4 w.2.1.2 (t_8 [.inr w.2.1.2, .inr 14, .inr 1] w (fun _ w1 => Go 112 [some (.inr 0), some (.inl x1), some (.inl x2), some (.inl x3), some (.inl x4)] [] w1))) :
    Go 97 [some (.inr 0), some (.inl x1), some (.inl x2), some (.inl x3), some (.inl x4)] [] w := hGo 3 _ _ rfl _ _ _ h
theorem q_PC_addFormsFrom_112 {t_0 t_1 t_2 t_3 t_4 t_5 t_6 t_7 t_8 t_9 t_10 : ma_T} {post : ma_P} {Go : ma_G} {w : ma_W} {x1 : Int32} {x2 : Int32} {x3 : Int32} {x4 : Int32} (hGo : ma_cl k_PC_addFormsFrom zf_PC (e_PC_addFormsFrom t_0 t_1 t_2 t_3 t_4 t_5 t_6 t_7 t_8 t_9 t_10) none 2 s_PC_addFormsFrom post Go)
    (h : t_9 [.inr 14] w (fun z1 w1 => t_10 [.inr 14, .inl (z1 - (nI 1))] w1 (fun _ w2 => Go 128 [some (.inr 0), some (.inl x1), some (.inl x2), some (.inl x3), some (.inl x4)] [] w2))) :
    Go 112 [some (.inr 0), some (.inl x1), some (.inl x2), some (.inl x3), some (.inl x4)] [] w := hGo 4 _ _ rfl _ _ _ h
theorem q_PC_addFormsFrom_128 {t_0 t_1 t_2 t_3 t_4 t_5 t_6 t_7 t_8 t_9 t_10 : ma_T} {post : ma_P} {Go : ma_G} {w : ma_W} {x1 : Int32} {x2 : Int32} {x3 : Int32} {x4 : Int32} (hGo : ma_cl k_PC_addFormsFrom zf_PC (e_PC_addFormsFrom t_0 t_1 t_2 t_3 t_4 t_5 t_6 t_7 t_8 t_9 t_10) none 2 s_PC_addFormsFrom post Go)
    (h : Go 22 [some (.inr 0), some (.inl x1), some (.inl x2), some (.inl (x3 + nI 1)), some (.inl x4)] [] w) :
    Go 128 [some (.inr 0), some (.inl x1), some (.inl x2), some (.inl x3), some (.inl x4)] [] w := hGo 5 _ _ rfl _ _ _ h
theorem q_PC_addFormsFrom_134 {t_0 t_1 t_2 t_3 t_4 t_5 t_6 t_7 t_8 t_9 t_10 : ma_T} {post : ma_P} {Go : ma_G} {w : ma_W} {x1 : Int32} {x2 : Int32} {x3 : Int32} {o4 : Option ma_V} (hGo : ma_cl k_PC_addFormsFrom zf_PC (e_PC_addFormsFrom t_0 t_1 t_2 t_3 t_4 t_5 t_6 t_7 t_8 t_9 t_10) none 2 s_PC_addFormsFrom post Go)
    (h : ((nI 1) = 0 ∨ (nI 1) = 1) ∧ post (nI 1) w) :
    Go 134 [some (.inr 0), some (.inl x1), some (.inl x2), some (.inl x3), o4] [] w := hGo 6 _ _ rfl _ _ _ h
theorem q_PC_staysPacking_0 {t_0 t_1 : ma_T} {post : ma_P} {Go : ma_G} {w : ma_W} {x1 : Int32} {x2 : Int32} {o3 : Option ma_V} {o4 : Option ma_V} {o5 : Option ma_V} (hGo : ma_cl k_PC_staysPacking zf_PC (e_PC_staysPacking t_0 t_1) none 2 s_PC_staysPacking post Go)
    (h : Go 2 [some (.inr 0), some (.inl x1), some (.inl x2), some (.inl (nI 1)), o4, o5] [] w) :
    Go 0 [some (.inr 0), some (.inl x1), some (.inl x2), o3, o4, o5] [] w := hGo 0 _ _ rfl _ _ _ h
theorem q_PC_staysPacking_2 {t_0 t_1 : ma_T} {post : ma_P} {Go : ma_G} {w : ma_W} {x1 : Int32} {x2 : Int32} {x3 : Int32} {o4 : Option ma_V} {o5 : Option ma_V} (hGo : ma_cl k_PC_staysPacking zf_PC (e_PC_staysPacking t_0 t_1) none 2 s_PC_staysPacking post Go)
    (h : t_0 [.inr 2] w (fun z1 w1 => (z1 ≤ x3 → Go 72 [some (.inr 0), some (.inl x1), some (.inl x2), some (.inl x3), o4, o5] [] w1) ∧ (¬ (z1 ≤ x3) → Go 16 [some (.inr 0), some (.inl x1), some (.inl x2), some (.inl x3), some (.inl (nI 0)), o5] [] w1))) :
    Go 2 [some (.inr 0), some (.inl x1), some (.inl x2), some (.inl x3), o4, o5] [] w := hGo 1 _ _ rfl _ _ _ h
set_option maxRecDepth 20000 in
theorem q_PC_staysPacking_16 {t_0 t_1 : ma_T} {post : ma_P} {Go : ma_G} {w : ma_W} {x1 : Int32} {x2 : Int32} {x3 : Int32} {x4 : Int32} {o5 : Option ma_V} (hGo : ma_cl k_PC_staysPacking zf_PC (e_PC_staysPacking t_0 t_1) none 2 s_PC_staysPacking post Go)
    (h : (x3 ≤ x4 → Go 66 [some (.inr 0), some (.inl x1), some (.inl x2), some (.inl x3), some (.inl x4), o5] [] w) ∧ (¬ (x3 ≤ x4) → (¬ (x2 &&& (((nI 1) <<< (x4 &&& 31)) ||| ((nI 1) <<< (x3 &&& 31)))) = (((nI 1) <<< (x4 &&& 31)) ||| ((nI 1) <<< (x3 &&& 31))) → Go 60 [some (.inr 0), some (.inl x1), some (.inl x2), some (.inl x3), some (.inl x4), some (.inl (((nI 1) <<< (x4 &&& 31)) ||| ((nI 1) <<< (x3 &&& 31))))] [] w) ∧ (¬ (¬ (x2 &&& (((nI 1) <<< (x4 &&& 31)) ||| ((nI 1) <<< (x3 &&& 31)))) = (((nI 1) <<< (x4 &&& 31)) ||| ((nI 1) <<< (x3 &&& 31)))) → ma_isk 4 w.2.1.1 (t_1 [.inr w.2.1.1, .inl x1, .inl (((nI 1) <<< (x4 &&& 31)) ||| ((nI 1) <<< (x3 &&& 31)))] w (fun z1 w1 => (z1 < (w1.1 0 7) → Go 60 [some (.inr 0), some (.inl x1), some (.inl x2), some (.inl x3), some (.inl x4), some (.inl (((nI 1) <<< (x4 &&& 31)) ||| ((nI 1) <<< (x3 &&& 31))))] [] w1) ∧ (¬ (z1 < (w1.1 0 7)) → ((nI 0) = 0 ∨ (nI 0) = 1) ∧ post (nI 0) w1)))))) :
    Go 16 [some (.inr 0), some (.inl x1), some (.inl x2), some (.inl x3), some (.inl x4), o5] [] w := hGo 2 _ _ rfl _ _ _ h
theorem q_PC_staysPacking_60 {t_0 t_1 : ma_T} {post : ma_P} {Go : ma_G} {w : ma_W} {x1 : Int32} {x2 : Int32} {x3 : Int32} {x4 : Int32} {x5 : Int32} (hGo : ma_cl k_PC_staysPacking zf_PC (e_PC_staysPacking t_0 t_1) none 2 s_PC_staysPacking post Go)
    (h : Go 16 [some (.inr 0), some (.inl x1), some (.inl x2), some (.inl x3), some (.inl (x4 + nI 1)), some (.inl x5)] [] w) :
    Go 60 [some (.inr 0), some (.inl x1), some (.inl x2), some (.inl x3), some (.inl x4), some (.inl x5)] [] w := hGo 3 _ _ rfl _ _ _ h
theorem q_PC_staysPacking_66 {t_0 t_1 : ma_T} {post : ma_P} {Go : ma_G} {w : ma_W} {x1 : Int32} {x2 : Int32} {x3 : Int32} {x4 : Int32} {o5 : Option ma_V} (hGo : ma_cl k_PC_staysPacking zf_PC (e_PC_staysPacking t_0 t_1) none 2 s_PC_staysPacking post Go)
    (h : Go 2 [some (.inr 0), some (.inl x1), some (.inl x2), some (.inl (x3 + nI 1)), some (.inl x4), o5] [] w) :
    Go 66 [some (.inr 0), some (.inl x1), some (.inl x2), some (.inl x3), some (.inl x4), o5] [] w := hGo 4 _ _ rfl _ _ _ h
theorem q_PC_staysPacking_72 {t_0 t_1 : ma_T} {post : ma_P} {Go : ma_G} {w : ma_W} {x1 : Int32} {x2 : Int32} {x3 : Int32} {o4 : Option ma_V} {o5 : Option ma_V} (hGo : ma_cl k_PC_staysPacking zf_PC (e_PC_staysPacking t_0 t_1) none 2 s_PC_staysPacking post Go)
    (h : ((nI 1) = 0 ∨ (nI 1) = 1) ∧ post (nI 1) w) :
    Go 72 [some (.inr 0), some (.inl x1), some (.inl x2), some (.inl x3), o4, o5] [] w := hGo 5 _ _ rfl _ _ _ h
theorem q_PC_isDesign_0 {t_0 t_1 : ma_T} {post : ma_P} {Go : ma_G} {w : ma_W} {x1 : Int32} {o2 : Option ma_V} {o3 : Option ma_V} (hGo : ma_cl k_PC_isDesign zf_PC (e_PC_isDesign t_0 t_1) none 2 s_PC_isDesign post Go)
    (h : Go 2 [some (.inr 0), some (.inl x1), some (.inl (nI 1)), o3] [] w) :
    Go 0 [some (.inr 0), some (.inl x1), o2, o3] [] w := hGo 0 _ _ rfl _ _ _ h
theorem q_PC_isDesign_2 {t_0 t_1 : ma_T} {post : ma_P} {Go : ma_G} {w : ma_W} {x1 : Int32} {x2 : Int32} {o3 : Option ma_V} (hGo : ma_cl k_PC_isDesign zf_PC (e_PC_isDesign t_0 t_1) none 2 s_PC_isDesign post Go)
    (h : t_0 [.inr 2] w (fun z1 w1 => (z1 ≤ x2 → Go 56 [some (.inr 0), some (.inl x1), some (.inl x2), o3] [] w1) ∧ (¬ (z1 ≤ x2) → Go 15 [some (.inr 0), some (.inl x1), some (.inl x2), some (.inl (nI 0))] [] w1))) :
    Go 2 [some (.inr 0), some (.inl x1), some (.inl x2), o3] [] w := hGo 1 _ _ rfl _ _ _ h
theorem q_PC_isDesign_15 {t_0 t_1 : ma_T} {post : ma_P} {Go : ma_G} {w : ma_W} {x1 : Int32} {x2 : Int32} {x3 : Int32} (hGo : ma_cl k_PC_isDesign zf_PC (e_PC_isDesign t_0 t_1) none 2 s_PC_isDesign post Go)
    (h : (x2 ≤ x3 → Go 50 [some (.inr 0), some (.inl x1), some (.inl x2), some (.inl x3)] [] w) ∧ (¬ (x2 ≤ x3) → ma_isk 4 w.2.1.1 (t_1 [.inr w.2.1.1, .inl x1, .inl (((nI 1) <<< (x3 &&& 31)) ||| ((nI 1) <<< (x2 &&& 31)))] w (fun z1 w1 => (z1 = (w1.1 0 7) → Go 44 [some (.inr 0), some (.inl x1), some (.inl x2), some (.inl x3)] [] w1) ∧ (¬ (z1 = (w1.1 0 7)) → ((nI 0) = 0 ∨ (nI 0) = 1) ∧ post (nI 0) w1))))) :
    Go 15 [some (.inr 0), some (.inl x1), some (.inl x2), some (.inl x3)] [] w := hGo 2 _ _ rfl _ _ _ h
theorem q_PC_isDesign_44 {t_0 t_1 : ma_T} {post : ma_P} {Go : ma_G} {w : ma_W} {x1 : Int32} {x2 : Int32} {x3 : Int32} (hGo : ma_cl k_PC_isDesign zf_PC (e_PC_isDesign t_0 t_1) none 2 s_PC_isDesign post Go)
    (h : Go 15 [some (.inr 0), some (.inl x1), some (.inl x2), some (.inl (x3 + nI 1))] [] w) :
    Go 44 [some (.inr 0), some (.inl x1), some (.inl x2), some (.inl x3)] [] w := hGo 3 _ _ rfl _ _ _ h
theorem q_PC_isDesign_50 {t_0 t_1 : ma_T} {post : ma_P} {Go : ma_G} {w : ma_W} {x1 : Int32} {x2 : Int32} {x3 : Int32} (hGo : ma_cl k_PC_isDesign zf_PC (e_PC_isDesign t_0 t_1) none 2 s_PC_isDesign post Go)
    (h : Go 2 [some (.inr 0), some (.inl x1), some (.inl (x2 + nI 1)), some (.inl x3)] [] w) :
    Go 50 [some (.inr 0), some (.inl x1), some (.inl x2), some (.inl x3)] [] w := hGo 4 _ _ rfl _ _ _ h
theorem q_PC_isDesign_56 {t_0 t_1 : ma_T} {post : ma_P} {Go : ma_G} {w : ma_W} {x1 : Int32} {x2 : Int32} {o3 : Option ma_V} (hGo : ma_cl k_PC_isDesign zf_PC (e_PC_isDesign t_0 t_1) none 2 s_PC_isDesign post Go)
    (h : ((nI 1) = 0 ∨ (nI 1) = 1) ∧ post (nI 1) w) :
    Go 56 [some (.inr 0), some (.inl x1), some (.inl x2), o3] [] w := hGo 5 _ _ rfl _ _ _ h
theorem q_PC_formHand_0 {t_0 t_1 : ma_T} {post : ma_P} {Go : ma_G} {w : ma_W} (hGo : ma_cl k_PC_formHand zf_PC (e_PC_formHand t_0 t_1) none 0 s_PC_formHand post Go)
    (h : (¬ (w.1 0 9) = (nI 0) → Go 38 [some (.inr 0)] [] w) ∧ (¬ (¬ (w.1 0 9) = (nI 0)) → t_0 [.inr 1, .inr 10, .inr 12] w (fun _ w1 => t_1 [.inr 1] w1 (fun z2 w2 => ((nI 1) = 0 ∨ (nI 1) = 1) ∧ (Go 38 [some (.inr 0)] [] (ma_up (ma_up w2.1 0 8 z2) 0 9 (nI 1), w2.2.1, w2.2.2)))))) :
    Go 0 [some (.inr 0)] [] w := hGo 0 _ _ rfl _ _ _ h
theorem q_PC_formHand_38 {t_0 t_1 : ma_T} {post : ma_P} {Go : ma_G} {w : ma_W} (hGo : ma_cl k_PC_formHand zf_PC (e_PC_formHand t_0 t_1) none 0 s_PC_formHand post Go)
    (h : post 0 w) :
    Go 38 [some (.inr 0)] [] w := hGo 1 _ _ rfl _ _ _ h
end
section
/-! RUNS OF INSTRUCTIONS, by program (wip/whole/qgen.py): what each comes to -/
theorem q_MO_bits_0 {post : ma_P} {Go : ma_G} {w : ma_W} {x0 : Int32} {o1 : Option ma_V} {o2 : Option ma_V} (hGo : ma_cl k_MO_bits zf_MO e_MO_bits none 1 s_MO_bits post Go)
    (h : Go 4 [some (.inl x0), some (.inl (nI 0)), some (.inl (nI 0))] [] w) :
    Go 0 [some (.inl x0), o1, o2] [] w := hGo 0 _ _ rfl _ _ _ h
theorem q_MO_bits_4 {post : ma_P} {Go : ma_G} {w : ma_W} {x0 : Int32} {x1 : Int32} {x2 : Int32} (hGo : ma_cl k_MO_bits zf_MO e_MO_bits none 1 s_MO_bits post Go)
    (h : ((nI 6) ≤ x2 → Go 24 [some (.inl x0), some (.inl x1), some (.inl x2)] [] w) ∧ (¬ ((nI 6) ≤ x2) → Go 4 [some (.inl x0), some (.inl (x1 + ((x0 >>> (x2 &&& 31)) &&& (nI 1)))), some (.inl (x2 + nI 1))] [] w)) :
    Go 4 [some (.inl x0), some (.inl x1), some (.inl x2)] [] w := hGo 1 _ _ rfl _ _ _ h
theorem q_MO_bits_24 {post : ma_P} {Go : ma_G} {w : ma_W} {x0 : Int32} {x1 : Int32} {x2 : Int32} (hGo : ma_cl k_MO_bits zf_MO e_MO_bits none 1 s_MO_bits post Go)
    (h : post x1 w) :
    Go 24 [some (.inl x0), some (.inl x1), some (.inl x2)] [] w := hGo 2 _ _ rfl _ _ _ h
theorem q_MO_isBlock_0 {t_0 : ma_T} {post : ma_P} {Go : ma_G} {w : ma_W} {x1 : Int32} (hGo : ma_cl k_MO_isBlock zf_MO (e_MO_isBlock t_0) none 2 s_MO_isBlock post Go)
    (h : ((w.1 24 0) = (nI 0) → Go 36 [some (.inr 24), some (.inl x1)] [] w) ∧ (¬ ((w.1 24 0) = (nI 0)) → (x1 < (nI 0) → Go 36 [some (.inr 24), some (.inl x1)] [] w) ∧ (¬ (x1 < (nI 0)) → (((nI 1) <<< ((w.1 24 1) &&& 31)) ≤ x1 → Go 36 [some (.inr 24), some (.inl x1)] [] w) ∧ (¬ (((nI 1) <<< ((w.1 24 1) &&& 31)) ≤ x1) → t_0 [.inl x1] w (fun z1 w1 => (¬ z1 = (w1.1 24 2) → Go 36 [some (.inr 24), some (.inl x1)] [] w1) ∧ (¬ (¬ z1 = (w1.1 24 2)) → Go 37 [some (.inr 24), some (.inl x1)] [.inl (nI 1)] w1)))))) :
    Go 0 [some (.inr 24), some (.inl x1)] [] w := hGo 0 _ _ rfl _ _ _ h
theorem q_MO_isBlock_36 {t_0 : ma_T} {post : ma_P} {Go : ma_G} {w : ma_W} {x1 : Int32} (hGo : ma_cl k_MO_isBlock zf_MO (e_MO_isBlock t_0) none 2 s_MO_isBlock post Go)
    (h : Go 37 [some (.inr 24), some (.inl x1)] [.inl (nI 0)] w) :
    Go 36 [some (.inr 24), some (.inl x1)] [] w := hGo 1 _ _ rfl _ _ _ h
theorem q_MO_isBlock_37 {t_0 : ma_T} {post : ma_P} {Go : ma_G} {w : ma_W} {x1 : Int32} {y0 : Int32} (hGo : ma_cl k_MO_isBlock zf_MO (e_MO_isBlock t_0) none 2 s_MO_isBlock post Go)
    (h : (y0 = 0 ∨ y0 = 1) ∧ post y0 w) :
    Go 37 [some (.inr 24), some (.inl x1)] [.inl y0] w := hGo 2 _ _ rfl _ _ _ h
theorem q_MO_isPoint_0 {post : ma_P} {Go : ma_G} {w : ma_W} {x1 : Int32} (hGo : ma_cl k_MO_isPoint zf_MO e_MO_isPoint none 2 s_MO_isPoint post Go)
    (h : ((w.1 24 0) = (nI 0) → Go 23 [some (.inr 24), some (.inl x1)] [] w) ∧ (¬ ((w.1 24 0) = (nI 0)) → (x1 < (nI 0) → Go 23 [some (.inr 24), some (.inl x1)] [] w) ∧ (¬ (x1 < (nI 0)) → ((w.1 24 1) ≤ x1 → Go 23 [some (.inr 24), some (.inl x1)] [] w) ∧ (¬ ((w.1 24 1) ≤ x1) → Go 24 [some (.inr 24), some (.inl x1)] [.inl (nI 1)] w)))) :
    Go 0 [some (.inr 24), some (.inl x1)] [] w := hGo 0 _ _ rfl _ _ _ h
theorem q_MO_isPoint_23 {post : ma_P} {Go : ma_G} {w : ma_W} {x1 : Int32} (hGo : ma_cl k_MO_isPoint zf_MO e_MO_isPoint none 2 s_MO_isPoint post Go)
    (h : Go 24 [some (.inr 24), some (.inl x1)] [.inl (nI 0)] w) :
    Go 23 [some (.inr 24), some (.inl x1)] [] w := hGo 1 _ _ rfl _ _ _ h
theorem q_MO_isPoint_24 {post : ma_P} {Go : ma_G} {w : ma_W} {x1 : Int32} {y0 : Int32} (hGo : ma_cl k_MO_isPoint zf_MO e_MO_isPoint none 2 s_MO_isPoint post Go)
    (h : (y0 = 0 ∨ y0 = 1) ∧ post y0 w) :
    Go 24 [some (.inr 24), some (.inl x1)] [.inl y0] w := hGo 2 _ _ rfl _ _ _ h
theorem q_MO_isEntry_0 {post : ma_P} {Go : ma_G} {w : ma_W} {x1 : Int32} (hGo : ma_cl k_MO_isEntry zf_MO e_MO_isEntry none 2 s_MO_isEntry post Go)
    (h : (x1 < (nI 0) → Go 16 [some (.inr 24), some (.inl x1)] [] w) ∧ (¬ (x1 < (nI 0)) → ((w.1 24 9) ≤ x1 → Go 16 [some (.inr 24), some (.inl x1)] [] w) ∧ (¬ ((w.1 24 9) ≤ x1) → Go 17 [some (.inr 24), some (.inl x1)] [.inl (nI 1)] w))) :
    Go 0 [some (.inr 24), some (.inl x1)] [] w := hGo 0 _ _ rfl _ _ _ h
theorem q_MO_isEntry_16 {post : ma_P} {Go : ma_G} {w : ma_W} {x1 : Int32} (hGo : ma_cl k_MO_isEntry zf_MO e_MO_isEntry none 2 s_MO_isEntry post Go)
    (h : Go 17 [some (.inr 24), some (.inl x1)] [.inl (nI 0)] w) :
    Go 16 [some (.inr 24), some (.inl x1)] [] w := hGo 1 _ _ rfl _ _ _ h
theorem q_MO_isEntry_17 {post : ma_P} {Go : ma_G} {w : ma_W} {x1 : Int32} {y0 : Int32} (hGo : ma_cl k_MO_isEntry zf_MO e_MO_isEntry none 2 s_MO_isEntry post Go)
    (h : (y0 = 0 ∨ y0 = 1) ∧ post y0 w) :
    Go 17 [some (.inr 24), some (.inl x1)] [.inl y0] w := hGo 2 _ _ rfl _ _ _ h
theorem q_MO_layOut_0 {t_0 t_1 : ma_T} {post : ma_P} {Go : ma_G} {w : ma_W} {o1 : Option ma_V} (hGo : ma_cl k_MO_layOut zf_MO (e_MO_layOut t_0 t_1) none 0 s_MO_layOut post Go)
    (h : Go 7 [some (.inr 24), some (.inl (nI 0))] [] (ma_up w.1 24 5 (nI 0), w.2.1, w.2.2)) :
    Go 0 [some (.inr 24), o1] [] w := hGo 0 _ _ rfl _ _ _ h
theorem q_MO_layOut_7 {t_0 t_1 : ma_T} {post : ma_P} {Go : ma_G} {w : ma_W} {x1 : Int32} (hGo : ma_cl k_MO_layOut zf_MO (e_MO_layOut t_0 t_1) none 0 s_MO_layOut post Go)
    (h : (((nI 1) <<< ((w.1 24 1) &&& 31)) ≤ x1 → Go 54 [some (.inr 24), some (.inl x1)] [] w) ∧ (¬ (((nI 1) <<< ((w.1 24 1) &&& 31)) ≤ x1) → t_0 [.inl x1] w (fun z1 w1 => (¬ z1 = (w1.1 24 2) → Go 48 [some (.inr 24), some (.inl x1)] [] w1) ∧ (¬ (¬ z1 = (w1.1 24 2)) → ∃ j2 : Nat, j2 < 20 ∧ (w1.1 24 5) = nI j2 ∧ (Go 48 [some (.inr 24), some (.inl x1)] [] (ma_up w1.1 24 5 ((w1.1 24 5) + (nI 1)), w1.2.1, ma_up w1.2.2 25 j2 x1)))))) :
    Go 7 [some (.inr 24), some (.inl x1)] [] w := hGo 1 _ _ rfl _ _ _ h
theorem q_MO_layOut_48 {t_0 t_1 : ma_T} {post : ma_P} {Go : ma_G} {w : ma_W} {x1 : Int32} (hGo : ma_cl k_MO_layOut zf_MO (e_MO_layOut t_0 t_1) none 0 s_MO_layOut post Go)
    (h : Go 7 [some (.inr 24), some (.inl (x1 + nI 1))] [] w) :
    Go 48 [some (.inr 24), some (.inl x1)] [] w := hGo 2 _ _ rfl _ _ _ h
theorem q_MO_layOut_54 {t_0 t_1 : ma_T} {post : ma_P} {Go : ma_G} {w : ma_W} {x1 : Int32} (hGo : ma_cl k_MO_layOut zf_MO (e_MO_layOut t_0 t_1) none 0 s_MO_layOut post Go)
    (h : Go 61 [some (.inr 24), some (.inl (nI 2))] [] (ma_up w.1 24 7 (nI 1), w.2.1, w.2.2)) :
    Go 54 [some (.inr 24), some (.inl x1)] [] w := hGo 3 _ _ rfl _ _ _ h
theorem q_MO_layOut_61 {t_0 t_1 : ma_T} {post : ma_P} {Go : ma_G} {w : ma_W} {x1 : Int32} (hGo : ma_cl k_MO_layOut zf_MO (e_MO_layOut t_0 t_1) none 0 s_MO_layOut post Go)
    (h : ((w.1 24 1) < x1 → Go 85 [some (.inr 24), some (.inl x1)] [] w) ∧ (¬ ((w.1 24 1) < x1) → Go 61 [some (.inr 24), some (.inl (x1 + nI 1))] [] (ma_up w.1 24 7 ((w.1 24 7) * x1), w.2.1, w.2.2))) :
    Go 61 [some (.inr 24), some (.inl x1)] [] w := hGo 4 _ _ rfl _ _ _ h
theorem q_MO_layOut_85 {t_0 t_1 : ma_T} {post : ma_P} {Go : ma_G} {w : ma_W} {x1 : Int32} (hGo : ma_cl k_MO_layOut zf_MO (e_MO_layOut t_0 t_1) none 0 s_MO_layOut post Go)
    (h : Go 87 [some (.inr 24), some (.inl (nI 0))] [] w) :
    Go 85 [some (.inr 24), some (.inl x1)] [] w := hGo 5 _ _ rfl _ _ _ h
theorem q_MO_layOut_87 {t_0 t_1 : ma_T} {post : ma_P} {Go : ma_G} {w : ma_W} {x1 : Int32} (hGo : ma_cl k_MO_layOut zf_MO (e_MO_layOut t_0 t_1) none 0 s_MO_layOut post Go)
    (h : ((w.1 24 7) ≤ x1 → Go 106 [some (.inr 24), some (.inl x1)] [] w) ∧ (¬ ((w.1 24 7) ≤ x1) → t_1 [.inr 24, .inl x1] w (fun _ w1 => Go 87 [some (.inr 24), some (.inl (x1 + nI 1))] [] w1))) :
    Go 87 [some (.inr 24), some (.inl x1)] [] w := hGo 6 _ _ rfl _ _ _ h
theorem q_MO_layOut_106 {t_0 t_1 : ma_T} {post : ma_P} {Go : ma_G} {w : ma_W} {x1 : Int32} (hGo : ma_cl k_MO_layOut zf_MO (e_MO_layOut t_0 t_1) none 0 s_MO_layOut post Go)
    (h : post 0 w) :
    Go 106 [some (.inr 24), some (.inl x1)] [] w := hGo 7 _ _ rfl _ _ _ h
theorem q_MO_rename_0 {post : ma_P} {Go : ma_G} {w : ma_W} {x1 : Int32} {o2 : Option ma_V} {o3 : Option ma_V} {o4 : Option ma_V} {o5 : Option ma_V} {o6 : Option ma_V} {o7 : Option ma_V} (hGo : ma_cl k_MO_rename zf_MO e_MO_rename none 0 s_MO_rename post Go)
    (h : Go 7 [some (.inr 24), some (.inl x1), some (.inl x1), some (.inl (nI 0)), some (.inl (nI 0)), o5, o6, o7] [] w) :
    Go 0 [some (.inr 24), some (.inl x1), o2, o3, o4, o5, o6, o7] [] w := hGo 0 _ _ rfl _ _ _ h
theorem q_MO_rename_7 {post : ma_P} {Go : ma_G} {w : ma_W} {x1 : Int32} {x2 : Int32} {x3 : Int32} {x4 : Int32} {o5 : Option ma_V} {o6 : Option ma_V} {o7 : Option ma_V} (hGo : ma_cl k_MO_rename zf_MO e_MO_rename none 0 s_MO_rename post Go)
    (h : ((w.1 24 1) ≤ x4 → Go 108 [some (.inr 24), some (.inl x1), some (.inl x2), some (.inl x3), some (.inl x4), o5, o6, o7] [] w) ∧ (¬ ((w.1 24 1) ≤ x4) → ¬ ((w.1 24 1) - x4) = 0 ∧ (¬ ((w.1 24 1) - x4) = 0 ∧ (Go 39 [some (.inr 24), some (.inl x1), some (.inl (x2 / ((w.1 24 1) - x4))), some (.inl x3), some (.inl x4), some (.inl ((w.1 24 1) - x4)), some (.inl (x2 - x2 / ((w.1 24 1) - x4) * ((w.1 24 1) - x4))), some (.inl (nI 0))] [] w)))) :
    Go 7 [some (.inr 24), some (.inl x1), some (.inl x2), some (.inl x3), some (.inl x4), o5, o6, o7] [] w := hGo 1 _ _ rfl _ _ _ h
theorem q_MO_rename_39 {post : ma_P} {Go : ma_G} {w : ma_W} {x1 : Int32} {x2 : Int32} {x3 : Int32} {x4 : Int32} {x5 : Int32} {x6 : Int32} {x7 : Int32} (hGo : ma_cl k_MO_rename zf_MO e_MO_rename none 0 s_MO_rename post Go)
    (h : ((nI 0) < x6 → Go 54 [some (.inr 24), some (.inl x1), some (.inl x2), some (.inl x3), some (.inl x4), some (.inl x5), some (.inl x6), some (.inl x7)] [] w) ∧ (¬ ((nI 0) < x6) → (¬ ((x3 >>> (x7 &&& 31)) &&& (nI 1)) = (nI 1) → Go 81 [some (.inr 24), some (.inl x1), some (.inl x2), some (.inl x3), some (.inl x4), some (.inl x5), some (.inl x6), some (.inl x7)] [] w) ∧ (¬ (¬ ((x3 >>> (x7 &&& 31)) &&& (nI 1)) = (nI 1)) → Go 54 [some (.inr 24), some (.inl x1), some (.inl x2), some (.inl x3), some (.inl x4), some (.inl x5), some (.inl x6), some (.inl x7)] [] w))) :
    Go 39 [some (.inr 24), some (.inl x1), some (.inl x2), some (.inl x3), some (.inl x4), some (.inl x5), some (.inl x6), some (.inl x7)] [] w := hGo 2 _ _ rfl _ _ _ h
theorem q_MO_rename_54 {post : ma_P} {Go : ma_G} {w : ma_W} {x1 : Int32} {x2 : Int32} {x3 : Int32} {x4 : Int32} {x5 : Int32} {x6 : Int32} {x7 : Int32} (hGo : ma_cl k_MO_rename zf_MO e_MO_rename none 0 s_MO_rename post Go)
    (h : (¬ ((x3 >>> (x7 &&& 31)) &&& (nI 1)) = (nI 1) → Go 69 [some (.inr 24), some (.inl x1), some (.inl x2), some (.inl x3), some (.inl x4), some (.inl x5), some (.inl x6), some (.inl x7)] [] w) ∧ (¬ (¬ ((x3 >>> (x7 &&& 31)) &&& (nI 1)) = (nI 1)) → Go 73 [some (.inr 24), some (.inl x1), some (.inl x2), some (.inl x3), some (.inl x4), some (.inl x5), some (.inl x6), some (.inl x7)] [.inl x6] w)) :
    Go 54 [some (.inr 24), some (.inl x1), some (.inl x2), some (.inl x3), some (.inl x4), some (.inl x5), some (.inl x6), some (.inl x7)] [] w := hGo 3 _ _ rfl _ _ _ h
theorem q_MO_rename_69 {post : ma_P} {Go : ma_G} {w : ma_W} {x1 : Int32} {x2 : Int32} {x3 : Int32} {x4 : Int32} {x5 : Int32} {x6 : Int32} {x7 : Int32} (hGo : ma_cl k_MO_rename zf_MO e_MO_rename none 0 s_MO_rename post Go)
    (h : Go 73 [some (.inr 24), some (.inl x1), some (.inl x2), some (.inl x3), some (.inl x4), some (.inl x5), some (.inl x6), some (.inl x7)] [.inl (x6 - (nI 1))] w) :
    Go 69 [some (.inr 24), some (.inl x1), some (.inl x2), some (.inl x3), some (.inl x4), some (.inl x5), some (.inl x6), some (.inl x7)] [] w := hGo 4 _ _ rfl _ _ _ h
theorem q_MO_rename_73 {post : ma_P} {Go : ma_G} {w : ma_W} {x1 : Int32} {x2 : Int32} {x3 : Int32} {x4 : Int32} {x5 : Int32} {x6 : Int32} {x7 : Int32} {y0 : Int32} (hGo : ma_cl k_MO_rename zf_MO e_MO_rename none 0 s_MO_rename post Go)
    (h : Go 39 [some (.inr 24), some (.inl x1), some (.inl x2), some (.inl x3), some (.inl x4), some (.inl x5), some (.inl y0), some (.inl (x7 + nI 1))] [] w) :
    Go 73 [some (.inr 24), some (.inl x1), some (.inl x2), some (.inl x3), some (.inl x4), some (.inl x5), some (.inl x6), some (.inl x7)] [.inl y0] w := hGo 5 _ _ rfl _ _ _ h
theorem q_MO_rename_81 {post : ma_P} {Go : ma_G} {w : ma_W} {x1 : Int32} {x2 : Int32} {x3 : Int32} {x4 : Int32} {x5 : Int32} {x6 : Int32} {x7 : Int32} (hGo : ma_cl k_MO_rename zf_MO e_MO_rename none 0 s_MO_rename post Go)
    (h : ∃ j1 : Nat, j1 < 4320 ∧ (((nI 6) * x1) + x4) = nI j1 ∧ (Go 7 [some (.inr 24), some (.inl x1), some (.inl x2), some (.inl (x3 ||| ((nI 1) <<< (x7 &&& 31)))), some (.inl (x4 + nI 1)), some (.inl x5), some (.inl x6), some (.inl x7)] [] (w.1, w.2.1, ma_up w.2.2 26 j1 x7))) :
    Go 81 [some (.inr 24), some (.inl x1), some (.inl x2), some (.inl x3), some (.inl x4), some (.inl x5), some (.inl x6), some (.inl x7)] [] w := hGo 6 _ _ rfl _ _ _ h
theorem q_MO_rename_108 {post : ma_P} {Go : ma_G} {w : ma_W} {x1 : Int32} {x2 : Int32} {x3 : Int32} {x4 : Int32} {o5 : Option ma_V} {o6 : Option ma_V} {o7 : Option ma_V} (hGo : ma_cl k_MO_rename zf_MO e_MO_rename none 0 s_MO_rename post Go)
    (h : post 0 w) :
    Go 108 [some (.inr 24), some (.inl x1), some (.inl x2), some (.inl x3), some (.inl x4), o5, o6, o7] [] w := hGo 7 _ _ rfl _ _ _ h
theorem q_MO_image_0 {post : ma_P} {Go : ma_G} {w : ma_W} {x1 : Int32} {x2 : Int32} {o3 : Option ma_V} {o4 : Option ma_V} (hGo : ma_cl k_MO_image zf_MO e_MO_image none 1 s_MO_image post Go)
    (h : Go 5 [some (.inr 24), some (.inl x1), some (.inl x2), some (.inl (nI 0)), some (.inl (nI 0))] [] w) :
    Go 0 [some (.inr 24), some (.inl x1), some (.inl x2), o3, o4] [] w := hGo 0 _ _ rfl _ _ _ h
theorem q_MO_image_5 {post : ma_P} {Go : ma_G} {w : ma_W} {x1 : Int32} {x2 : Int32} {x3 : Int32} {x4 : Int32} (hGo : ma_cl k_MO_image zf_MO e_MO_image none 1 s_MO_image post Go)
    (h : ((w.1 24 1) ≤ x4 → Go 51 [some (.inr 24), some (.inl x1), some (.inl x2), some (.inl x3), some (.inl x4)] [] w) ∧ (¬ ((w.1 24 1) ≤ x4) → (¬ ((x1 >>> (x4 &&& 31)) &&& (nI 1)) = (nI 1) → Go 43 [some (.inr 24), some (.inl x1), some (.inl x2), some (.inl x3), some (.inl x4)] [] w) ∧ (¬ (¬ ((x1 >>> (x4 &&& 31)) &&& (nI 1)) = (nI 1)) → ∃ j1 : Nat, j1 < 4320 ∧ (((nI 6) * x2) + x4) = nI j1 ∧ (Go 44 [some (.inr 24), some (.inl x1), some (.inl x2), some (.inl x3), some (.inl x4)] [.inl (x3 ||| ((nI 1) <<< ((w.2.2 26 j1) &&& 31)))] w)))) :
    Go 5 [some (.inr 24), some (.inl x1), some (.inl x2), some (.inl x3), some (.inl x4)] [] w := hGo 1 _ _ rfl _ _ _ h
theorem q_MO_image_43 {post : ma_P} {Go : ma_G} {w : ma_W} {x1 : Int32} {x2 : Int32} {x3 : Int32} {x4 : Int32} (hGo : ma_cl k_MO_image zf_MO e_MO_image none 1 s_MO_image post Go)
    (h : Go 44 [some (.inr 24), some (.inl x1), some (.inl x2), some (.inl x3), some (.inl x4)] [.inl x3] w) :
    Go 43 [some (.inr 24), some (.inl x1), some (.inl x2), some (.inl x3), some (.inl x4)] [] w := hGo 2 _ _ rfl _ _ _ h
theorem q_MO_image_44 {post : ma_P} {Go : ma_G} {w : ma_W} {x1 : Int32} {x2 : Int32} {x3 : Int32} {x4 : Int32} {y0 : Int32} (hGo : ma_cl k_MO_image zf_MO e_MO_image none 1 s_MO_image post Go)
    (h : Go 5 [some (.inr 24), some (.inl x1), some (.inl x2), some (.inl y0), some (.inl (x4 + nI 1))] [] w) :
    Go 44 [some (.inr 24), some (.inl x1), some (.inl x2), some (.inl x3), some (.inl x4)] [.inl y0] w := hGo 3 _ _ rfl _ _ _ h
theorem q_MO_image_51 {post : ma_P} {Go : ma_G} {w : ma_W} {x1 : Int32} {x2 : Int32} {x3 : Int32} {x4 : Int32} (hGo : ma_cl k_MO_image zf_MO e_MO_image none 1 s_MO_image post Go)
    (h : post x3 w) :
    Go 51 [some (.inr 24), some (.inl x1), some (.inl x2), some (.inl x3), some (.inl x4)] [] w := hGo 4 _ _ rfl _ _ _ h
theorem q_MO_none_0 {post : ma_P} {Go : ma_G} {w : ma_W} {o1 : Option ma_V} (hGo : ma_cl k_MO_none zf_MO e_MO_none none 0 s_MO_none post Go)
    (h : Go 2 [some (.inr 24), some (.inl (nI 0))] [] w) :
    Go 0 [some (.inr 24), o1] [] w := hGo 0 _ _ rfl _ _ _ h
theorem q_MO_none_2 {post : ma_P} {Go : ma_G} {w : ma_W} {x1 : Int32} (hGo : ma_cl k_MO_none zf_MO e_MO_none none 0 s_MO_none post Go)
    (h : ((nI 64) ≤ x1 → Go 21 [some (.inr 24), some (.inl x1)] [] w) ∧ (¬ ((nI 64) ≤ x1) → ∃ j1 : Nat, j1 < 64 ∧ x1 = nI j1 ∧ (Go 2 [some (.inr 24), some (.inl (x1 + nI 1))] [] (w.1, w.2.1, ma_up w.2.2 30 j1 (nI 0))))) :
    Go 2 [some (.inr 24), some (.inl x1)] [] w := hGo 1 _ _ rfl _ _ _ h
theorem q_MO_none_21 {post : ma_P} {Go : ma_G} {w : ma_W} {x1 : Int32} (hGo : ma_cl k_MO_none zf_MO e_MO_none none 0 s_MO_none post Go)
    (h : post 0 w) :
    Go 21 [some (.inr 24), some (.inl x1)] [] w := hGo 2 _ _ rfl _ _ _ h
theorem q_MO_lookAtEntry_0 {t_0 : ma_T} {post : ma_P} {Go : ma_G} {w : ma_W} {x1 : Int32} {o2 : Option ma_V} (hGo : ma_cl k_MO_lookAtEntry zf_MO (e_MO_lookAtEntry t_0) none 0 s_MO_lookAtEntry post Go)
    (h : t_0 [.inr 24] w (fun _ w1 => Go 6 [some (.inr 24), some (.inl x1), some (.inl (nI 0))] [] w1)) :
    Go 0 [some (.inr 24), some (.inl x1), o2] [] w := hGo 0 _ _ rfl _ _ _ h
theorem q_MO_lookAtEntry_6 {t_0 : ma_T} {post : ma_P} {Go : ma_G} {w : ma_W} {x1 : Int32} {x2 : Int32} (hGo : ma_cl k_MO_lookAtEntry zf_MO (e_MO_lookAtEntry t_0) none 0 s_MO_lookAtEntry post Go)
    (h : ((w.1 24 4) ≤ x2 → Go 40 [some (.inr 24), some (.inl x1), some (.inl x2)] [] w) ∧ (¬ ((w.1 24 4) ≤ x2) → ∃ j1 : Nat, j1 < 600 ∧ (((nI 10) * x1) + x2) = nI j1 ∧ (∃ j2 : Nat, j2 < 64 ∧ (w.2.2 27 j1) = nI j2 ∧ (∃ j3 : Nat, j3 < 64 ∧ (w.2.2 27 j1) = nI j3 ∧ (Go 6 [some (.inr 24), some (.inl x1), some (.inl (x2 + nI 1))] [] (w.1, w.2.1, ma_up w.2.2 30 j3 ((w.2.2 30 j2) + (nI 1)))))))) :
    Go 6 [some (.inr 24), some (.inl x1), some (.inl x2)] [] w := hGo 1 _ _ rfl _ _ _ h
theorem q_MO_lookAtEntry_40 {t_0 : ma_T} {post : ma_P} {Go : ma_G} {w : ma_W} {x1 : Int32} {x2 : Int32} (hGo : ma_cl k_MO_lookAtEntry zf_MO (e_MO_lookAtEntry t_0) none 0 s_MO_lookAtEntry post Go)
    (h : post 0 w) :
    Go 40 [some (.inr 24), some (.inl x1), some (.inl x2)] [] w := hGo 2 _ _ rfl _ _ _ h
theorem q_MO_lookAtHand_0 {t_0 : ma_T} {post : ma_P} {Go : ma_G} {w : ma_W} {o1 : Option ma_V} (hGo : ma_cl k_MO_lookAtHand zf_MO (e_MO_lookAtHand t_0) none 0 s_MO_lookAtHand post Go)
    (h : t_0 [.inr 24] w (fun _ w1 => Go 6 [some (.inr 24), some (.inl (nI 0))] [] w1)) :
    Go 0 [some (.inr 24), o1] [] w := hGo 0 _ _ rfl _ _ _ h
theorem q_MO_lookAtHand_6 {t_0 : ma_T} {post : ma_P} {Go : ma_G} {w : ma_W} {x1 : Int32} (hGo : ma_cl k_MO_lookAtHand zf_MO (e_MO_lookAtHand t_0) none 0 s_MO_lookAtHand post Go)
    (h : ((w.1 24 13) ≤ x1 → Go 35 [some (.inr 24), some (.inl x1)] [] w) ∧ (¬ ((w.1 24 13) ≤ x1) → ∃ j1 : Nat, j1 < 10 ∧ x1 = nI j1 ∧ (∃ j2 : Nat, j2 < 64 ∧ (w.2.2 29 j1) = nI j2 ∧ (∃ j3 : Nat, j3 < 64 ∧ (w.2.2 29 j1) = nI j3 ∧ (Go 6 [some (.inr 24), some (.inl (x1 + nI 1))] [] (w.1, w.2.1, ma_up w.2.2 30 j3 ((w.2.2 30 j2) + (nI 1)))))))) :
    Go 6 [some (.inr 24), some (.inl x1)] [] w := hGo 1 _ _ rfl _ _ _ h
theorem q_MO_lookAtHand_35 {t_0 : ma_T} {post : ma_P} {Go : ma_G} {w : ma_W} {x1 : Int32} (hGo : ma_cl k_MO_lookAtHand zf_MO (e_MO_lookAtHand t_0) none 0 s_MO_lookAtHand post Go)
    (h : post 0 w) :
    Go 35 [some (.inr 24), some (.inl x1)] [] w := hGo 2 _ _ rfl _ _ _ h
theorem q_MO_compare_0 {t_0 : ma_T} {post : ma_P} {Go : ma_G} {w : ma_W} {x1 : Int32} {x2 : Int32} {o3 : Option ma_V} {o4 : Option ma_V} {o5 : Option ma_V} (hGo : ma_cl k_MO_compare zf_MO (e_MO_compare t_0) none 1 s_MO_compare post Go)
    (h : Go 2 [some (.inr 24), some (.inl x1), some (.inl x2), some (.inl (nI 0)), o4, o5] [] w) :
    Go 0 [some (.inr 24), some (.inl x1), some (.inl x2), o3, o4, o5] [] w := hGo 0 _ _ rfl _ _ _ h
set_option maxRecDepth 20000 in
theorem q_MO_compare_2 {t_0 : ma_T} {post : ma_P} {Go : ma_G} {w : ma_W} {x1 : Int32} {x2 : Int32} {x3 : Int32} {o4 : Option ma_V} {o5 : Option ma_V} (hGo : ma_cl k_MO_compare zf_MO (e_MO_compare t_0) none 1 s_MO_compare post Go)
    (h : ((w.1 24 5) ≤ x3 → Go 72 [some (.inr 24), some (.inl x1), some (.inl x2), some (.inl x3), o4, o5] [] w) ∧ (¬ ((w.1 24 5) ≤ x3) → ∃ j1 : Nat, j1 < 20 ∧ x3 = nI j1 ∧ (t_0 [.inr 24, .inl (w.2.2 25 j1), .inl x1] w (fun z2 w2 => ∃ j3 : Nat, j3 < 64 ∧ z2 = nI j3 ∧ (∃ j4 : Nat, j4 < 20 ∧ x3 = nI j4 ∧ (t_0 [.inr 24, .inl (w2.2.2 25 j4), .inl x2] w2 (fun z5 w5 => ∃ j6 : Nat, j6 < 64 ∧ z5 = nI j6 ∧ (((w2.2.2 30 j3) = (w5.2.2 30 j6) → Go 66 [some (.inr 24), some (.inl x1), some (.inl x2), some (.inl x3), some (.inl (w2.2.2 30 j3)), some (.inl (w5.2.2 30 j6))] [] w5) ∧ (¬ ((w2.2.2 30 j3) = (w5.2.2 30 j6)) → ((w2.2.2 30 j3) ≤ (w5.2.2 30 j6) → Go 64 [some (.inr 24), some (.inl x1), some (.inl x2), some (.inl x3), some (.inl (w2.2.2 30 j3)), some (.inl (w5.2.2 30 j6))] [] w5) ∧ (¬ ((w2.2.2 30 j3) ≤ (w5.2.2 30 j6)) → Go 65 [some (.inr 24), some (.inl x1), some (.inl x2), some (.inl x3), some (.inl (w2.2.2 30 j3)), some (.inl (w5.2.2 30 j6))] [.inl (Int32.ofInt (-1))] w5)))))))))) :
    Go 2 [some (.inr 24), some (.inl x1), some (.inl x2), some (.inl x3), o4, o5] [] w := hGo 1 _ _ rfl _ _ _ h
theorem q_MO_compare_64 {t_0 : ma_T} {post : ma_P} {Go : ma_G} {w : ma_W} {x1 : Int32} {x2 : Int32} {x3 : Int32} {x4 : Int32} {x5 : Int32} (hGo : ma_cl k_MO_compare zf_MO (e_MO_compare t_0) none 1 s_MO_compare post Go)
    (h : Go 65 [some (.inr 24), some (.inl x1), some (.inl x2), some (.inl x3), some (.inl x4), some (.inl x5)] [.inl (nI 1)] w) :
    Go 64 [some (.inr 24), some (.inl x1), some (.inl x2), some (.inl x3), some (.inl x4), some (.inl x5)] [] w := hGo 2 _ _ rfl _ _ _ h
theorem q_MO_compare_65 {t_0 : ma_T} {post : ma_P} {Go : ma_G} {w : ma_W} {x1 : Int32} {x2 : Int32} {x3 : Int32} {x4 : Int32} {x5 : Int32} {y0 : Int32} (hGo : ma_cl k_MO_compare zf_MO (e_MO_compare t_0) none 1 s_MO_compare post Go)
    (h : post y0 w) :
    Go 65 [some (.inr 24), some (.inl x1), some (.inl x2), some (.inl x3), some (.inl x4), some (.inl x5)] [.inl y0] w := hGo 3 _ _ rfl _ _ _ h
theorem q_MO_compare_66 {t_0 : ma_T} {post : ma_P} {Go : ma_G} {w : ma_W} {x1 : Int32} {x2 : Int32} {x3 : Int32} {x4 : Int32} {x5 : Int32} (hGo : ma_cl k_MO_compare zf_MO (e_MO_compare t_0) none 1 s_MO_compare post Go)
    (h : Go 2 [some (.inr 24), some (.inl x1), some (.inl x2), some (.inl (x3 + nI 1)), some (.inl x4), some (.inl x5)] [] w) :
    Go 66 [some (.inr 24), some (.inl x1), some (.inl x2), some (.inl x3), some (.inl x4), some (.inl x5)] [] w := hGo 4 _ _ rfl _ _ _ h
theorem q_MO_compare_72 {t_0 : ma_T} {post : ma_P} {Go : ma_G} {w : ma_W} {x1 : Int32} {x2 : Int32} {x3 : Int32} {o4 : Option ma_V} {o5 : Option ma_V} (hGo : ma_cl k_MO_compare zf_MO (e_MO_compare t_0) none 1 s_MO_compare post Go)
    (h : post (nI 0) w) :
    Go 72 [some (.inr 24), some (.inl x1), some (.inl x2), some (.inl x3), o4, o5] [] w := hGo 5 _ _ rfl _ _ _ h
theorem q_MO_leastOne_0 {t_0 : ma_T} {post : ma_P} {Go : ma_G} {w : ma_W} {o1 : Option ma_V} {o2 : Option ma_V} (hGo : ma_cl k_MO_leastOne zf_MO (e_MO_leastOne t_0) none 1 s_MO_leastOne post Go)
    (h : Go 4 [some (.inr 24), some (.inl (nI 0)), some (.inl (nI 1))] [] w) :
    Go 0 [some (.inr 24), o1, o2] [] w := hGo 0 _ _ rfl _ _ _ h
theorem q_MO_leastOne_4 {t_0 : ma_T} {post : ma_P} {Go : ma_G} {w : ma_W} {x1 : Int32} {x2 : Int32} (hGo : ma_cl k_MO_leastOne zf_MO (e_MO_leastOne t_0) none 1 s_MO_leastOne post Go)
    (h : ((w.1 24 7) ≤ x2 → Go 33 [some (.inr 24), some (.inl x1), some (.inl x2)] [] w) ∧ (¬ ((w.1 24 7) ≤ x2) → t_0 [.inr 24, .inl x2, .inl x1] w (fun z1 w1 => ((nI 0) ≤ z1 → Go 25 [some (.inr 24), some (.inl x1), some (.inl x2)] [] w1) ∧ (¬ ((nI 0) ≤ z1) → Go 26 [some (.inr 24), some (.inl x1), some (.inl x2)] [.inl x2] w1)))) :
    Go 4 [some (.inr 24), some (.inl x1), some (.inl x2)] [] w := hGo 1 _ _ rfl _ _ _ h
theorem q_MO_leastOne_25 {t_0 : ma_T} {post : ma_P} {Go : ma_G} {w : ma_W} {x1 : Int32} {x2 : Int32} (hGo : ma_cl k_MO_leastOne zf_MO (e_MO_leastOne t_0) none 1 s_MO_leastOne post Go)
    (h : Go 26 [some (.inr 24), some (.inl x1), some (.inl x2)] [.inl x1] w) :
    Go 25 [some (.inr 24), some (.inl x1), some (.inl x2)] [] w := hGo 2 _ _ rfl _ _ _ h
theorem q_MO_leastOne_26 {t_0 : ma_T} {post : ma_P} {Go : ma_G} {w : ma_W} {x1 : Int32} {x2 : Int32} {y0 : Int32} (hGo : ma_cl k_MO_leastOne zf_MO (e_MO_leastOne t_0) none 1 s_MO_leastOne post Go)
    (h : Go 4 [some (.inr 24), some (.inl y0), some (.inl (x2 + nI 1))] [] w) :
    Go 26 [some (.inr 24), some (.inl x1), some (.inl x2)] [.inl y0] w := hGo 3 _ _ rfl _ _ _ h
theorem q_MO_leastOne_33 {t_0 : ma_T} {post : ma_P} {Go : ma_G} {w : ma_W} {x1 : Int32} {x2 : Int32} (hGo : ma_cl k_MO_leastOne zf_MO (e_MO_leastOne t_0) none 1 s_MO_leastOne post Go)
    (h : post x1 w) :
    Go 33 [some (.inr 24), some (.inl x1), some (.inl x2)] [] w := hGo 4 _ _ rfl _ _ _ h
theorem q_MO_isLeast_0 {t_0 : ma_T} {post : ma_P} {Go : ma_G} {w : ma_W} {o1 : Option ma_V} {o2 : Option ma_V} (hGo : ma_cl k_MO_isLeast zf_MO (e_MO_isLeast t_0) none 2 s_MO_isLeast post Go)
    (h : Go 4 [some (.inr 24), some (.inl (nI 1)), some (.inl (nI 1))] [] w) :
    Go 0 [some (.inr 24), o1, o2] [] w := hGo 0 _ _ rfl _ _ _ h
theorem q_MO_isLeast_4 {t_0 : ma_T} {post : ma_P} {Go : ma_G} {w : ma_W} {x1 : Int32} {x2 : Int32} (hGo : ma_cl k_MO_isLeast zf_MO (e_MO_isLeast t_0) none 2 s_MO_isLeast post Go)
    (h : ((w.1 24 7) ≤ x2 → Go 37 [some (.inr 24), some (.inl x1), some (.inl x2)] [] w) ∧ (¬ ((w.1 24 7) ≤ x2) → (x1 = (nI 0) → Go 37 [some (.inr 24), some (.inl x1), some (.inl x2)] [] w) ∧ (¬ (x1 = (nI 0)) → t_0 [.inr 24, .inl x2, .inl (nI 0)] w (fun z1 w1 => (z1 < (nI 0) → Go 29 [some (.inr 24), some (.inl x1), some (.inl x2)] [] w1) ∧ (¬ (z1 < (nI 0)) → Go 30 [some (.inr 24), some (.inl x1), some (.inl x2)] [.inl (nI 1)] w1))))) :
    Go 4 [some (.inr 24), some (.inl x1), some (.inl x2)] [] w := hGo 1 _ _ rfl _ _ _ h
theorem q_MO_isLeast_29 {t_0 : ma_T} {post : ma_P} {Go : ma_G} {w : ma_W} {x1 : Int32} {x2 : Int32} (hGo : ma_cl k_MO_isLeast zf_MO (e_MO_isLeast t_0) none 2 s_MO_isLeast post Go)
    (h : Go 30 [some (.inr 24), some (.inl x1), some (.inl x2)] [.inl (nI 0)] w) :
    Go 29 [some (.inr 24), some (.inl x1), some (.inl x2)] [] w := hGo 2 _ _ rfl _ _ _ h
theorem q_MO_isLeast_30 {t_0 : ma_T} {post : ma_P} {Go : ma_G} {w : ma_W} {x1 : Int32} {x2 : Int32} {y0 : Int32} (hGo : ma_cl k_MO_isLeast zf_MO (e_MO_isLeast t_0) none 2 s_MO_isLeast post Go)
    (h : Go 4 [some (.inr 24), some (.inl y0), some (.inl (x2 + nI 1))] [] w) :
    Go 30 [some (.inr 24), some (.inl x1), some (.inl x2)] [.inl y0] w := hGo 3 _ _ rfl _ _ _ h
theorem q_MO_isLeast_37 {t_0 : ma_T} {post : ma_P} {Go : ma_G} {w : ma_W} {x1 : Int32} {x2 : Int32} (hGo : ma_cl k_MO_isLeast zf_MO (e_MO_isLeast t_0) none 2 s_MO_isLeast post Go)
    (h : (x1 = 0 ∨ x1 = 1) ∧ post x1 w) :
    Go 37 [some (.inr 24), some (.inl x1), some (.inl x2)] [] w := hGo 4 _ _ rfl _ _ _ h
theorem q_MO_keepers_0 {t_0 : ma_T} {post : ma_P} {Go : ma_G} {w : ma_W} {o1 : Option ma_V} {o2 : Option ma_V} (hGo : ma_cl k_MO_keepers zf_MO (e_MO_keepers t_0) none 1 s_MO_keepers post Go)
    (h : Go 4 [some (.inr 24), some (.inl (nI 0)), some (.inl (nI 0))] [] w) :
    Go 0 [some (.inr 24), o1, o2] [] w := hGo 0 _ _ rfl _ _ _ h
theorem q_MO_keepers_4 {t_0 : ma_T} {post : ma_P} {Go : ma_G} {w : ma_W} {x1 : Int32} {x2 : Int32} (hGo : ma_cl k_MO_keepers zf_MO (e_MO_keepers t_0) none 1 s_MO_keepers post Go)
    (h : ((w.1 24 7) ≤ x2 → Go 35 [some (.inr 24), some (.inl x1), some (.inl x2)] [] w) ∧ (¬ ((w.1 24 7) ≤ x2) → t_0 [.inr 24, .inl x2, .inl (nI 0)] w (fun z1 w1 => (¬ z1 = (nI 0) → Go 27 [some (.inr 24), some (.inl x1), some (.inl x2)] [] w1) ∧ (¬ (¬ z1 = (nI 0)) → Go 28 [some (.inr 24), some (.inl x1), some (.inl x2)] [.inl (x1 + (nI 1))] w1)))) :
    Go 4 [some (.inr 24), some (.inl x1), some (.inl x2)] [] w := hGo 1 _ _ rfl _ _ _ h
theorem q_MO_keepers_27 {t_0 : ma_T} {post : ma_P} {Go : ma_G} {w : ma_W} {x1 : Int32} {x2 : Int32} (hGo : ma_cl k_MO_keepers zf_MO (e_MO_keepers t_0) none 1 s_MO_keepers post Go)
    (h : Go 28 [some (.inr 24), some (.inl x1), some (.inl x2)] [.inl x1] w) :
    Go 27 [some (.inr 24), some (.inl x1), some (.inl x2)] [] w := hGo 2 _ _ rfl _ _ _ h
theorem q_MO_keepers_28 {t_0 : ma_T} {post : ma_P} {Go : ma_G} {w : ma_W} {x1 : Int32} {x2 : Int32} {y0 : Int32} (hGo : ma_cl k_MO_keepers zf_MO (e_MO_keepers t_0) none 1 s_MO_keepers post Go)
    (h : Go 4 [some (.inr 24), some (.inl y0), some (.inl (x2 + nI 1))] [] w) :
    Go 28 [some (.inr 24), some (.inl x1), some (.inl x2)] [.inl y0] w := hGo 3 _ _ rfl _ _ _ h
theorem q_MO_keepers_35 {t_0 : ma_T} {post : ma_P} {Go : ma_G} {w : ma_W} {x1 : Int32} {x2 : Int32} (hGo : ma_cl k_MO_keepers zf_MO (e_MO_keepers t_0) none 1 s_MO_keepers post Go)
    (h : post x1 w) :
    Go 35 [some (.inr 24), some (.inl x1), some (.inl x2)] [] w := hGo 4 _ _ rfl _ _ _ h
theorem q_MO_meet_0 {post : ma_P} {Go : ma_G} {w : ma_W} {x1 : Int32} {x2 : Int32} {o3 : Option ma_V} {o4 : Option ma_V} {o5 : Option ma_V} (hGo : ma_cl k_MO_meet zf_MO e_MO_meet none 1 s_MO_meet post Go)
    (h : Go 5 [some (.inr 24), some (.inl x1), some (.inl x2), some (.inl (nI 0)), some (.inl (nI 0)), o5] [] w) :
    Go 0 [some (.inr 24), some (.inl x1), some (.inl x2), o3, o4, o5] [] w := hGo 0 _ _ rfl _ _ _ h
set_option maxRecDepth 20000 in
theorem q_MO_meet_5 {post : ma_P} {Go : ma_G} {w : ma_W} {x1 : Int32} {x2 : Int32} {x3 : Int32} {x4 : Int32} {o5 : Option ma_V} (hGo : ma_cl k_MO_meet zf_MO e_MO_meet none 1 s_MO_meet post Go)
    (h : ((w.1 24 5) ≤ x4 → Go 81 [some (.inr 24), some (.inl x1), some (.inl x2), some (.inl x3), some (.inl x4), o5] [] w) ∧ (¬ ((w.1 24 5) ≤ x4) → ∃ j1 : Nat, j1 < 20 ∧ x4 = nI j1 ∧ ((¬ (((w.2.2 25 j1) >>> (x1 &&& 31)) &&& (nI 1)) = (nI 1) → Go 48 [some (.inr 24), some (.inl x1), some (.inl x2), some (.inl x3), some (.inl x4), o5] [] w) ∧ (¬ (¬ (((w.2.2 25 j1) >>> (x1 &&& 31)) &&& (nI 1)) = (nI 1)) → ∃ j2 : Nat, j2 < 20 ∧ x4 = nI j2 ∧ ((¬ (((w.2.2 25 j2) >>> (x2 &&& 31)) &&& (nI 1)) = (nI 1) → Go 48 [some (.inr 24), some (.inl x1), some (.inl x2), some (.inl x3), some (.inl x4), o5] [] w) ∧ (¬ (¬ (((w.2.2 25 j2) >>> (x2 &&& 31)) &&& (nI 1)) = (nI 1)) → Go 49 [some (.inr 24), some (.inl x1), some (.inl x2), some (.inl x3), some (.inl x4), o5] [.inl (nI 1)] w)))))) :
    Go 5 [some (.inr 24), some (.inl x1), some (.inl x2), some (.inl x3), some (.inl x4), o5] [] w := hGo 1 _ _ rfl _ _ _ h
theorem q_MO_meet_48 {post : ma_P} {Go : ma_G} {w : ma_W} {x1 : Int32} {x2 : Int32} {x3 : Int32} {x4 : Int32} {o5 : Option ma_V} (hGo : ma_cl k_MO_meet zf_MO e_MO_meet none 1 s_MO_meet post Go)
    (h : Go 49 [some (.inr 24), some (.inl x1), some (.inl x2), some (.inl x3), some (.inl x4), o5] [.inl (nI 0)] w) :
    Go 48 [some (.inr 24), some (.inl x1), some (.inl x2), some (.inl x3), some (.inl x4), o5] [] w := hGo 2 _ _ rfl _ _ _ h
theorem q_MO_meet_49 {post : ma_P} {Go : ma_G} {w : ma_W} {x1 : Int32} {x2 : Int32} {x3 : Int32} {x4 : Int32} {o5 : Option ma_V} {y0 : Int32} (hGo : ma_cl k_MO_meet zf_MO e_MO_meet none 1 s_MO_meet post Go)
    (h : (y0 = (nI 0) → Go 73 [some (.inr 24), some (.inl x1), some (.inl x2), some (.inl x3), some (.inl x4), some (.inl y0)] [] w) ∧ (¬ (y0 = (nI 0)) → ∃ j1 : Nat, j1 < 20 ∧ x4 = nI j1 ∧ (∃ j2 : Nat, j2 < 64 ∧ (w.2.2 25 j1) = nI j2 ∧ (Go 74 [some (.inr 24), some (.inl x1), some (.inl x2), some (.inl x3), some (.inl x4), some (.inl y0)] [.inl (x3 + (w.2.2 30 j2))] w)))) :
    Go 49 [some (.inr 24), some (.inl x1), some (.inl x2), some (.inl x3), some (.inl x4), o5] [.inl y0] w := hGo 3 _ _ rfl _ _ _ h
theorem q_MO_meet_73 {post : ma_P} {Go : ma_G} {w : ma_W} {x1 : Int32} {x2 : Int32} {x3 : Int32} {x4 : Int32} {x5 : Int32} (hGo : ma_cl k_MO_meet zf_MO e_MO_meet none 1 s_MO_meet post Go)
    (h : Go 74 [some (.inr 24), some (.inl x1), some (.inl x2), some (.inl x3), some (.inl x4), some (.inl x5)] [.inl x3] w) :
    Go 73 [some (.inr 24), some (.inl x1), some (.inl x2), some (.inl x3), some (.inl x4), some (.inl x5)] [] w := hGo 4 _ _ rfl _ _ _ h
theorem q_MO_meet_74 {post : ma_P} {Go : ma_G} {w : ma_W} {x1 : Int32} {x2 : Int32} {x3 : Int32} {x4 : Int32} {x5 : Int32} {y0 : Int32} (hGo : ma_cl k_MO_meet zf_MO e_MO_meet none 1 s_MO_meet post Go)
    (h : Go 5 [some (.inr 24), some (.inl x1), some (.inl x2), some (.inl y0), some (.inl (x4 + nI 1)), some (.inl x5)] [] w) :
    Go 74 [some (.inr 24), some (.inl x1), some (.inl x2), some (.inl x3), some (.inl x4), some (.inl x5)] [.inl y0] w := hGo 5 _ _ rfl _ _ _ h
theorem q_MO_meet_81 {post : ma_P} {Go : ma_G} {w : ma_W} {x1 : Int32} {x2 : Int32} {x3 : Int32} {x4 : Int32} {o5 : Option ma_V} (hGo : ma_cl k_MO_meet zf_MO e_MO_meet none 1 s_MO_meet post Go)
    (h : post x3 w) :
    Go 81 [some (.inr 24), some (.inl x1), some (.inl x2), some (.inl x3), some (.inl x4), o5] [] w := hGo 6 _ _ rfl _ _ _ h
theorem q_MO_meets_0 {t_0 : ma_T} {post : ma_P} {Go : ma_G} {w : ma_W} {x1 : Int32} {x2 : Int32} {o3 : Option ma_V} {o4 : Option ma_V} {o5 : Option ma_V} {o6 : Option ma_V} (hGo : ma_cl k_MO_meets zf_MO (e_MO_meets t_0) none 2 s_MO_meets post Go)
    (h : Go 5 [some (.inr 24), some (.inl x1), some (.inl x2), some (.inl (nI 1)), some (.inl (nI 0)), o5, o6] [] w) :
    Go 0 [some (.inr 24), some (.inl x1), some (.inl x2), o3, o4, o5, o6] [] w := hGo 0 _ _ rfl _ _ _ h
theorem q_MO_meets_5 {t_0 : ma_T} {post : ma_P} {Go : ma_G} {w : ma_W} {x1 : Int32} {x2 : Int32} {x3 : Int32} {x4 : Int32} {o5 : Option ma_V} {o6 : Option ma_V} (hGo : ma_cl k_MO_meets zf_MO (e_MO_meets t_0) none 2 s_MO_meets post Go)
    (h : ((w.1 24 1) ≤ x4 → Go 73 [some (.inr 24), some (.inl x1), some (.inl x2), some (.inl x3), some (.inl x4), o5, o6] [] w) ∧ (¬ ((w.1 24 1) ≤ x4) → Go 20 [some (.inr 24), some (.inl x1), some (.inl x2), some (.inl x3), some (.inl x4), some (.inl (x4 + (nI 1))), o6] [] w)) :
    Go 5 [some (.inr 24), some (.inl x1), some (.inl x2), some (.inl x3), some (.inl x4), o5, o6] [] w := hGo 1 _ _ rfl _ _ _ h
set_option maxRecDepth 20000 in
theorem q_MO_meets_20 {t_0 : ma_T} {post : ma_P} {Go : ma_G} {w : ma_W} {x1 : Int32} {x2 : Int32} {x3 : Int32} {x4 : Int32} {x5 : Int32} {o6 : Option ma_V} (hGo : ma_cl k_MO_meets zf_MO (e_MO_meets t_0) none 2 s_MO_meets post Go)
    (h : ((w.1 24 1) ≤ x5 → Go 67 [some (.inr 24), some (.inl x1), some (.inl x2), some (.inl x3), some (.inl x4), some (.inl x5), o6] [] w) ∧ (¬ ((w.1 24 1) ≤ x5) → t_0 [.inr 24, .inl x4, .inl x5] w (fun z1 w1 => (x3 = (nI 0) → Go 59 [some (.inr 24), some (.inl x1), some (.inl x2), some (.inl x3), some (.inl x4), some (.inl x5), some (.inl z1)] [] w1) ∧ (¬ (x3 = (nI 0)) → (z1 < x1 → Go 59 [some (.inr 24), some (.inl x1), some (.inl x2), some (.inl x3), some (.inl x4), some (.inl x5), some (.inl z1)] [] w1) ∧ (¬ (z1 < x1) → (x2 < z1 → Go 59 [some (.inr 24), some (.inl x1), some (.inl x2), some (.inl x3), some (.inl x4), some (.inl x5), some (.inl z1)] [] w1) ∧ (¬ (x2 < z1) → Go 60 [some (.inr 24), some (.inl x1), some (.inl x2), some (.inl x3), some (.inl x4), some (.inl x5), some (.inl z1)] [.inl (nI 1)] w1)))))) :
    Go 20 [some (.inr 24), some (.inl x1), some (.inl x2), some (.inl x3), some (.inl x4), some (.inl x5), o6] [] w := hGo 2 _ _ rfl _ _ _ h
theorem q_MO_meets_59 {t_0 : ma_T} {post : ma_P} {Go : ma_G} {w : ma_W} {x1 : Int32} {x2 : Int32} {x3 : Int32} {x4 : Int32} {x5 : Int32} {x6 : Int32} (hGo : ma_cl k_MO_meets zf_MO (e_MO_meets t_0) none 2 s_MO_meets post Go)
    (h : Go 60 [some (.inr 24), some (.inl x1), some (.inl x2), some (.inl x3), some (.inl x4), some (.inl x5), some (.inl x6)] [.inl (nI 0)] w) :
    Go 59 [some (.inr 24), some (.inl x1), some (.inl x2), some (.inl x3), some (.inl x4), some (.inl x5), some (.inl x6)] [] w := hGo 3 _ _ rfl _ _ _ h
theorem q_MO_meets_60 {t_0 : ma_T} {post : ma_P} {Go : ma_G} {w : ma_W} {x1 : Int32} {x2 : Int32} {x3 : Int32} {x4 : Int32} {x5 : Int32} {x6 : Int32} {y0 : Int32} (hGo : ma_cl k_MO_meets zf_MO (e_MO_meets t_0) none 2 s_MO_meets post Go)
    (h : Go 20 [some (.inr 24), some (.inl x1), some (.inl x2), some (.inl y0), some (.inl x4), some (.inl (x5 + nI 1)), some (.inl x6)] [] w) :
    Go 60 [some (.inr 24), some (.inl x1), some (.inl x2), some (.inl x3), some (.inl x4), some (.inl x5), some (.inl x6)] [.inl y0] w := hGo 4 _ _ rfl _ _ _ h
theorem q_MO_meets_67 {t_0 : ma_T} {post : ma_P} {Go : ma_G} {w : ma_W} {x1 : Int32} {x2 : Int32} {x3 : Int32} {x4 : Int32} {x5 : Int32} {o6 : Option ma_V} (hGo : ma_cl k_MO_meets zf_MO (e_MO_meets t_0) none 2 s_MO_meets post Go)
    (h : Go 5 [some (.inr 24), some (.inl x1), some (.inl x2), some (.inl x3), some (.inl (x4 + nI 1)), some (.inl x5), o6] [] w) :
    Go 67 [some (.inr 24), some (.inl x1), some (.inl x2), some (.inl x3), some (.inl x4), some (.inl x5), o6] [] w := hGo 5 _ _ rfl _ _ _ h
theorem q_MO_meets_73 {t_0 : ma_T} {post : ma_P} {Go : ma_G} {w : ma_W} {x1 : Int32} {x2 : Int32} {x3 : Int32} {x4 : Int32} {o5 : Option ma_V} {o6 : Option ma_V} (hGo : ma_cl k_MO_meets zf_MO (e_MO_meets t_0) none 2 s_MO_meets post Go)
    (h : (x3 = 0 ∨ x3 = 1) ∧ post x3 w) :
    Go 73 [some (.inr 24), some (.inl x1), some (.inl x2), some (.inl x3), some (.inl x4), o5, o6] [] w := hGo 6 _ _ rfl _ _ _ h
set_option maxRecDepth 20000 in
theorem q_MO_begin_0 {t_0 : ma_T} {post : ma_P} {Go : ma_G} {w : ma_W} {x1 : Int32} {x2 : Int32} {x3 : Int32} {o4 : Option ma_V} {o5 : Option ma_V} (hGo : ma_cl k_MO_begin zf_MO (e_MO_begin t_0) none 1 s_MO_begin post Go)
    (h : (x1 < (nI 3) → Go 33 [some (.inr 24), some (.inl x1), some (.inl x2), some (.inl x3), o4, o5] [] w) ∧ (¬ (x1 < (nI 3)) → ((nI 6) < x1 → Go 33 [some (.inr 24), some (.inl x1), some (.inl x2), some (.inl x3), o4, o5] [] w) ∧ (¬ ((nI 6) < x1) → (x2 < (nI 2) → Go 33 [some (.inr 24), some (.inl x1), some (.inl x2), some (.inl x3), o4, o5] [] w) ∧ (¬ (x2 < (nI 2)) → ((x1 - (nI 1)) < x2 → Go 33 [some (.inr 24), some (.inl x1), some (.inl x2), some (.inl x3), o4, o5] [] w) ∧ (¬ ((x1 - (nI 1)) < x2) → (x3 < (nI 1) → Go 33 [some (.inr 24), some (.inl x1), some (.inl x2), some (.inl x3), o4, o5] [] w) ∧ (¬ (x3 < (nI 1)) → (x3 ≤ (nI 4) → Go 36 [some (.inr 24), some (.inl x1), some (.inl x2), some (.inl x3), o4, o5] [] w) ∧ (¬ (x3 ≤ (nI 4)) → Go 33 [some (.inr 24), some (.inl x1), some (.inl x2), some (.inl x3), o4, o5] [] w))))))) :
    Go 0 [some (.inr 24), some (.inl x1), some (.inl x2), some (.inl x3), o4, o5] [] w := hGo 0 _ _ rfl _ _ _ h
theorem q_MO_begin_33 {t_0 : ma_T} {post : ma_P} {Go : ma_G} {w : ma_W} {x1 : Int32} {x2 : Int32} {x3 : Int32} {o4 : Option ma_V} {o5 : Option ma_V} (hGo : ma_cl k_MO_begin zf_MO (e_MO_begin t_0) none 1 s_MO_begin post Go)
    (h : post (Int32.ofInt (-2)) w) :
    Go 33 [some (.inr 24), some (.inl x1), some (.inl x2), some (.inl x3), o4, o5] [] w := hGo 1 _ _ rfl _ _ _ h
set_option maxRecDepth 20000 in
theorem q_MO_begin_36 {t_0 : ma_T} {post : ma_P} {Go : ma_G} {w : ma_W} {x1 : Int32} {x2 : Int32} {x3 : Int32} {o4 : Option ma_V} {o5 : Option ma_V} (hGo : ma_cl k_MO_begin zf_MO (e_MO_begin t_0) none 1 s_MO_begin post Go)
    (h : ((nI 1) = 0 ∨ (nI 1) = 1) ∧ (t_0 [.inr 24] (ma_up (ma_up (ma_up (ma_up (ma_up (ma_up (ma_up w.1 24 0 (nI 1)) 24 1 x1) 24 2 x2) 24 3 x3) 24 4 (nI 0)) 24 9 (nI 1)) 24 13 (nI 0), w.2.1, w.2.2) (fun _ w1 => ¬ ((w1.1 24 2) - (nI 1)) = 0 ∧ ((¬ ((((w1.1 24 3) * ((w1.1 24 1) - (nI 1))) / ((w1.1 24 2) - (nI 1))) * ((w1.1 24 2) - (nI 1))) = ((w1.1 24 3) * ((w1.1 24 1) - (nI 1))) → Go 128 [some (.inr 24), some (.inl x1), some (.inl x2), some (.inl x3), some (.inl ((w1.1 24 3) * ((w1.1 24 1) - (nI 1)))), some (.inl (((w1.1 24 3) * ((w1.1 24 1) - (nI 1))) / ((w1.1 24 2) - (nI 1))))] [] w1) ∧ (¬ (¬ ((((w1.1 24 3) * ((w1.1 24 1) - (nI 1))) / ((w1.1 24 2) - (nI 1))) * ((w1.1 24 2) - (nI 1))) = ((w1.1 24 3) * ((w1.1 24 1) - (nI 1)))) → ¬ (w1.1 24 2) = 0 ∧ (((((w1.1 24 1) * (((w1.1 24 3) * ((w1.1 24 1) - (nI 1))) / ((w1.1 24 2) - (nI 1)))) - ((w1.1 24 1) * (((w1.1 24 3) * ((w1.1 24 1) - (nI 1))) / ((w1.1 24 2) - (nI 1)))) / (w1.1 24 2) * (w1.1 24 2)) = (nI 0) → Go 131 [some (.inr 24), some (.inl x1), some (.inl x2), some (.inl x3), some (.inl ((w1.1 24 3) * ((w1.1 24 1) - (nI 1)))), some (.inl (((w1.1 24 3) * ((w1.1 24 1) - (nI 1))) / ((w1.1 24 2) - (nI 1))))] [] w1) ∧ (¬ ((((w1.1 24 1) * (((w1.1 24 3) * ((w1.1 24 1) - (nI 1))) / ((w1.1 24 2) - (nI 1)))) - ((w1.1 24 1) * (((w1.1 24 3) * ((w1.1 24 1) - (nI 1))) / ((w1.1 24 2) - (nI 1)))) / (w1.1 24 2) * (w1.1 24 2)) = (nI 0)) → Go 128 [some (.inr 24), some (.inl x1), some (.inl x2), some (.inl x3), some (.inl ((w1.1 24 3) * ((w1.1 24 1) - (nI 1)))), some (.inl (((w1.1 24 3) * ((w1.1 24 1) - (nI 1))) / ((w1.1 24 2) - (nI 1))))] [] w1))))))) :
    Go 36 [some (.inr 24), some (.inl x1), some (.inl x2), some (.inl x3), o4, o5] [] w := hGo 2 _ _ rfl _ _ _ h
theorem q_MO_begin_128 {t_0 : ma_T} {post : ma_P} {Go : ma_G} {w : ma_W} {x1 : Int32} {x2 : Int32} {x3 : Int32} {x4 : Int32} {x5 : Int32} (hGo : ma_cl k_MO_begin zf_MO (e_MO_begin t_0) none 1 s_MO_begin post Go)
    (h : post (Int32.ofInt (-3)) w) :
    Go 128 [some (.inr 24), some (.inl x1), some (.inl x2), some (.inl x3), some (.inl x4), some (.inl x5)] [] w := hGo 3 _ _ rfl _ _ _ h
theorem q_MO_begin_131 {t_0 : ma_T} {post : ma_P} {Go : ma_G} {w : ma_W} {x1 : Int32} {x2 : Int32} {x3 : Int32} {x4 : Int32} {x5 : Int32} (hGo : ma_cl k_MO_begin zf_MO (e_MO_begin t_0) none 1 s_MO_begin post Go)
    (h : ¬ (w.1 24 2) = 0 ∧ (((w.1 24 1) ≤ (((w.1 24 1) * x5) / (w.1 24 2)) → Go 155 [some (.inr 24), some (.inl x1), some (.inl x2), some (.inl x3), some (.inl x4), some (.inl x5)] [] w) ∧ (¬ ((w.1 24 1) ≤ (((w.1 24 1) * x5) / (w.1 24 2))) → Go 167 [some (.inr 24), some (.inl x1), some (.inl x2), some (.inl x3), some (.inl x4), some (.inl x5)] [.inl (Int32.ofInt (-4))] w))) :
    Go 131 [some (.inr 24), some (.inl x1), some (.inl x2), some (.inl x3), some (.inl x4), some (.inl x5)] [] w := hGo 4 _ _ rfl _ _ _ h
theorem q_MO_begin_155 {t_0 : ma_T} {post : ma_P} {Go : ma_G} {w : ma_W} {x1 : Int32} {x2 : Int32} {x3 : Int32} {x4 : Int32} {x5 : Int32} (hGo : ma_cl k_MO_begin zf_MO (e_MO_begin t_0) none 1 s_MO_begin post Go)
    (h : ¬ (w.1 24 2) = 0 ∧ (Go 167 [some (.inr 24), some (.inl x1), some (.inl x2), some (.inl x3), some (.inl x4), some (.inl x5)] [.inl (((w.1 24 1) * x5) / (w.1 24 2))] w)) :
    Go 155 [some (.inr 24), some (.inl x1), some (.inl x2), some (.inl x3), some (.inl x4), some (.inl x5)] [] w := hGo 5 _ _ rfl _ _ _ h
theorem q_MO_begin_167 {t_0 : ma_T} {post : ma_P} {Go : ma_G} {w : ma_W} {x1 : Int32} {x2 : Int32} {x3 : Int32} {x4 : Int32} {x5 : Int32} {y0 : Int32} (hGo : ma_cl k_MO_begin zf_MO (e_MO_begin t_0) none 1 s_MO_begin post Go)
    (h : post y0 w) :
    Go 167 [some (.inr 24), some (.inl x1), some (.inl x2), some (.inl x3), some (.inl x4), some (.inl x5)] [.inl y0] w := hGo 6 _ _ rfl _ _ _ h
theorem q_MO_extend_0 {t_0 t_1 t_2 : ma_T} {post : ma_P} {Go : ma_G} {w : ma_W} {x1 : Int32} {x2 : Int32} {o3 : Option ma_V} (hGo : ma_cl k_MO_extend zf_MO (e_MO_extend t_0 t_1 t_2) none 2 s_MO_extend post Go)
    (h : t_0 [.inr 24, .inl x1] w (fun _ w1 => ∃ j2 : Nat, j2 < 64 ∧ x2 = nI j2 ∧ (∃ j3 : Nat, j3 < 64 ∧ x2 = nI j3 ∧ (t_1 [.inr 24, .inl (nI 0), .inl (w1.1 24 3)] (w1.1, w1.2.1, ma_up w1.2.2 30 j3 ((w1.2.2 30 j2) + (nI 1))) (fun z4 w4 => (z4 = (nI 0) → Go 34 [some (.inr 24), some (.inl x1), some (.inl x2), o3] [] w4) ∧ (¬ (z4 = (nI 0)) → t_2 [.inr 24] w4 (fun z5 w5 => (¬ z5 = (nI 0) → Go 36 [some (.inr 24), some (.inl x1), some (.inl x2), o3] [] w5) ∧ (¬ (¬ z5 = (nI 0)) → Go 34 [some (.inr 24), some (.inl x1), some (.inl x2), o3] [] w5)))))))) :
    Go 0 [some (.inr 24), some (.inl x1), some (.inl x2), o3] [] w := hGo 0 _ _ rfl _ _ _ h
theorem q_MO_extend_34 {t_0 t_1 t_2 : ma_T} {post : ma_P} {Go : ma_G} {w : ma_W} {x1 : Int32} {x2 : Int32} {o3 : Option ma_V} (hGo : ma_cl k_MO_extend zf_MO (e_MO_extend t_0 t_1 t_2) none 2 s_MO_extend post Go)
    (h : ((nI 1) = 0 ∨ (nI 1) = 1) ∧ post (nI 1) w) :
    Go 34 [some (.inr 24), some (.inl x1), some (.inl x2), o3] [] w := hGo 1 _ _ rfl _ _ _ h
theorem q_MO_extend_36 {t_0 t_1 t_2 : ma_T} {post : ma_P} {Go : ma_G} {w : ma_W} {x1 : Int32} {x2 : Int32} {o3 : Option ma_V} (hGo : ma_cl k_MO_extend zf_MO (e_MO_extend t_0 t_1 t_2) none 2 s_MO_extend post Go)
    (h : (¬ (w.1 24 11) = (nI 60) → Go 47 [some (.inr 24), some (.inl x1), some (.inl x2), o3] [] w) ∧ (¬ (¬ (w.1 24 11) = (nI 60)) → ((nI 0) = 0 ∨ (nI 0) = 1) ∧ post (nI 0) w)) :
    Go 36 [some (.inr 24), some (.inl x1), some (.inl x2), o3] [] w := hGo 2 _ _ rfl _ _ _ h
theorem q_MO_extend_47 {t_0 t_1 t_2 : ma_T} {post : ma_P} {Go : ma_G} {w : ma_W} {x1 : Int32} {x2 : Int32} {o3 : Option ma_V} (hGo : ma_cl k_MO_extend zf_MO (e_MO_extend t_0 t_1 t_2) none 2 s_MO_extend post Go)
    (h : Go 49 [some (.inr 24), some (.inl x1), some (.inl x2), some (.inl (nI 0))] [] w) :
    Go 47 [some (.inr 24), some (.inl x1), some (.inl x2), o3] [] w := hGo 3 _ _ rfl _ _ _ h
theorem q_MO_extend_49 {t_0 t_1 t_2 : ma_T} {post : ma_P} {Go : ma_G} {w : ma_W} {x1 : Int32} {x2 : Int32} {x3 : Int32} (hGo : ma_cl k_MO_extend zf_MO (e_MO_extend t_0 t_1 t_2) none 2 s_MO_extend post Go)
    (h : ((w.1 24 4) ≤ x3 → Go 88 [some (.inr 24), some (.inl x1), some (.inl x2), some (.inl x3)] [] w) ∧ (¬ ((w.1 24 4) ≤ x3) → ∃ j1 : Nat, j1 < 600 ∧ (((nI 10) * x1) + x3) = nI j1 ∧ (∃ j2 : Nat, j2 < 610 ∧ (((nI 10) * (w.1 24 11)) + x3) = nI j2 ∧ (Go 49 [some (.inr 24), some (.inl x1), some (.inl x2), some (.inl (x3 + nI 1))] [] (w.1, w.2.1, ma_up w.2.2 28 j2 (w.2.2 27 j1)))))) :
    Go 49 [some (.inr 24), some (.inl x1), some (.inl x2), some (.inl x3)] [] w := hGo 4 _ _ rfl _ _ _ h
theorem q_MO_extend_88 {t_0 t_1 t_2 : ma_T} {post : ma_P} {Go : ma_G} {w : ma_W} {x1 : Int32} {x2 : Int32} {x3 : Int32} (hGo : ma_cl k_MO_extend zf_MO (e_MO_extend t_0 t_1 t_2) none 2 s_MO_extend post Go)
    (h : ∃ j1 : Nat, j1 < 610 ∧ (((nI 10) * (w.1 24 11)) + (w.1 24 4)) = nI j1 ∧ (((nI 1) = 0 ∨ (nI 1) = 1) ∧ post (nI 1) (ma_up w.1 24 11 ((w.1 24 11) + (nI 1)), w.2.1, ma_up w.2.2 28 j1 x2))) :
    Go 88 [some (.inr 24), some (.inl x1), some (.inl x2), some (.inl x3)] [] w := hGo 5 _ _ rfl _ _ _ h
theorem q_MO_grow_0 {t_0 : ma_T} {post : ma_P} {Go : ma_G} {w : ma_W} {o1 : Option ma_V} {o2 : Option ma_V} {o3 : Option ma_V} (hGo : ma_cl k_MO_grow zf_MO (e_MO_grow t_0) none 1 s_MO_grow post Go)
    (h : (¬ (w.1 24 0) = (nI 0) → Go 9 [some (.inr 24), o1, o2, o3] [] w) ∧ (¬ (¬ (w.1 24 0) = (nI 0)) → post (Int32.ofInt (-1)) w)) :
    Go 0 [some (.inr 24), o1, o2, o3] [] w := hGo 0 _ _ rfl _ _ _ h
theorem q_MO_grow_9 {t_0 : ma_T} {post : ma_P} {Go : ma_G} {w : ma_W} {o1 : Option ma_V} {o2 : Option ma_V} {o3 : Option ma_V} (hGo : ma_cl k_MO_grow zf_MO (e_MO_grow t_0) none 1 s_MO_grow post Go)
    (h : (¬ (w.1 24 4) = (nI 10) → Go 21 [some (.inr 24), o1, o2, o3] [] w) ∧ (¬ (¬ (w.1 24 4) = (nI 10)) → post (Int32.ofInt (-5)) w)) :
    Go 9 [some (.inr 24), o1, o2, o3] [] w := hGo 1 _ _ rfl _ _ _ h
theorem q_MO_grow_21 {t_0 : ma_T} {post : ma_P} {Go : ma_G} {w : ma_W} {o1 : Option ma_V} {o2 : Option ma_V} {o3 : Option ma_V} (hGo : ma_cl k_MO_grow zf_MO (e_MO_grow t_0) none 1 s_MO_grow post Go)
    (h : Go 28 [some (.inr 24), some (.inl (nI 0)), o2, o3] [] (ma_up w.1 24 11 (nI 0), w.2.1, w.2.2)) :
    Go 21 [some (.inr 24), o1, o2, o3] [] w := hGo 2 _ _ rfl _ _ _ h
theorem q_MO_grow_28 {t_0 : ma_T} {post : ma_P} {Go : ma_G} {w : ma_W} {x1 : Int32} {o2 : Option ma_V} {o3 : Option ma_V} (hGo : ma_cl k_MO_grow zf_MO (e_MO_grow t_0) none 1 s_MO_grow post Go)
    (h : ((w.1 24 9) ≤ x1 → Go 113 [some (.inr 24), some (.inl x1), o2, o3] [] w) ∧ (¬ ((w.1 24 9) ≤ x1) → (¬ (w.1 24 4) = (nI 0) → Go 47 [some (.inr 24), some (.inl x1), o2, o3] [] w) ∧ (¬ (¬ (w.1 24 4) = (nI 0)) → Go 63 [some (.inr 24), some (.inl x1), o2, o3] [.inl (nI 0)] w))) :
    Go 28 [some (.inr 24), some (.inl x1), o2, o3] [] w := hGo 3 _ _ rfl _ _ _ h
theorem q_MO_grow_47 {t_0 : ma_T} {post : ma_P} {Go : ma_G} {w : ma_W} {x1 : Int32} {o2 : Option ma_V} {o3 : Option ma_V} (hGo : ma_cl k_MO_grow zf_MO (e_MO_grow t_0) none 1 s_MO_grow post Go)
    (h : ∃ j1 : Nat, j1 < 600 ∧ ((((nI 10) * x1) + (w.1 24 4)) - (nI 1)) = nI j1 ∧ (Go 63 [some (.inr 24), some (.inl x1), o2, o3] [.inl (w.2.2 27 j1)] w)) :
    Go 47 [some (.inr 24), some (.inl x1), o2, o3] [] w := hGo 4 _ _ rfl _ _ _ h
theorem q_MO_grow_63 {t_0 : ma_T} {post : ma_P} {Go : ma_G} {w : ma_W} {x1 : Int32} {o2 : Option ma_V} {o3 : Option ma_V} {y0 : Int32} (hGo : ma_cl k_MO_grow zf_MO (e_MO_grow t_0) none 1 s_MO_grow post Go)
    (h : Go 66 [some (.inr 24), some (.inl x1), some (.inl y0), some (.inl (nI 0))] [] w) :
    Go 63 [some (.inr 24), some (.inl x1), o2, o3] [.inl y0] w := hGo 5 _ _ rfl _ _ _ h
theorem q_MO_grow_66 {t_0 : ma_T} {post : ma_P} {Go : ma_G} {w : ma_W} {x1 : Int32} {x2 : Int32} {x3 : Int32} (hGo : ma_cl k_MO_grow zf_MO (e_MO_grow t_0) none 1 s_MO_grow post Go)
    (h : ((w.1 24 5) ≤ x3 → Go 107 [some (.inr 24), some (.inl x1), some (.inl x2), some (.inl x3)] [] w) ∧ (¬ ((w.1 24 5) ≤ x3) → ∃ j1 : Nat, j1 < 20 ∧ x3 = nI j1 ∧ (((w.2.2 25 j1) < x2 → Go 101 [some (.inr 24), some (.inl x1), some (.inl x2), some (.inl x3)] [] w) ∧ (¬ ((w.2.2 25 j1) < x2) → ∃ j2 : Nat, j2 < 20 ∧ x3 = nI j2 ∧ (t_0 [.inr 24, .inl x1, .inl (w.2.2 25 j2)] w (fun z3 w3 => (¬ z3 = (nI 0) → Go 101 [some (.inr 24), some (.inl x1), some (.inl x2), some (.inl x3)] [] w3) ∧ (¬ (¬ z3 = (nI 0)) → post (Int32.ofInt (-5)) w3))))))) :
    Go 66 [some (.inr 24), some (.inl x1), some (.inl x2), some (.inl x3)] [] w := hGo 6 _ _ rfl _ _ _ h
theorem q_MO_grow_101 {t_0 : ma_T} {post : ma_P} {Go : ma_G} {w : ma_W} {x1 : Int32} {x2 : Int32} {x3 : Int32} (hGo : ma_cl k_MO_grow zf_MO (e_MO_grow t_0) none 1 s_MO_grow post Go)
    (h : Go 66 [some (.inr 24), some (.inl x1), some (.inl x2), some (.inl (x3 + nI 1))] [] w) :
    Go 101 [some (.inr 24), some (.inl x1), some (.inl x2), some (.inl x3)] [] w := hGo 7 _ _ rfl _ _ _ h
theorem q_MO_grow_107 {t_0 : ma_T} {post : ma_P} {Go : ma_G} {w : ma_W} {x1 : Int32} {x2 : Int32} {x3 : Int32} (hGo : ma_cl k_MO_grow zf_MO (e_MO_grow t_0) none 1 s_MO_grow post Go)
    (h : Go 28 [some (.inr 24), some (.inl (x1 + nI 1)), some (.inl x2), some (.inl x3)] [] w) :
    Go 107 [some (.inr 24), some (.inl x1), some (.inl x2), some (.inl x3)] [] w := hGo 8 _ _ rfl _ _ _ h
theorem q_MO_grow_113 {t_0 : ma_T} {post : ma_P} {Go : ma_G} {w : ma_W} {x1 : Int32} {o2 : Option ma_V} {o3 : Option ma_V} (hGo : ma_cl k_MO_grow zf_MO (e_MO_grow t_0) none 1 s_MO_grow post Go)
    (h : Go 115 [some (.inr 24), some (.inl (nI 0)), o2, o3] [] w) :
    Go 113 [some (.inr 24), some (.inl x1), o2, o3] [] w := hGo 9 _ _ rfl _ _ _ h
theorem q_MO_grow_115 {t_0 : ma_T} {post : ma_P} {Go : ma_G} {w : ma_W} {x1 : Int32} {o2 : Option ma_V} {o3 : Option ma_V} (hGo : ma_cl k_MO_grow zf_MO (e_MO_grow t_0) none 1 s_MO_grow post Go)
    (h : (((nI 10) * (w.1 24 11)) ≤ x1 → Go 144 [some (.inr 24), some (.inl x1), o2, o3] [] w) ∧ (¬ (((nI 10) * (w.1 24 11)) ≤ x1) → ∃ j1 : Nat, j1 < 610 ∧ x1 = nI j1 ∧ (∃ j2 : Nat, j2 < 600 ∧ x1 = nI j2 ∧ (Go 115 [some (.inr 24), some (.inl (x1 + nI 1)), o2, o3] [] (w.1, w.2.1, ma_up w.2.2 27 j2 (w.2.2 28 j1)))))) :
    Go 115 [some (.inr 24), some (.inl x1), o2, o3] [] w := hGo 10 _ _ rfl _ _ _ h
theorem q_MO_grow_144 {t_0 : ma_T} {post : ma_P} {Go : ma_G} {w : ma_W} {x1 : Int32} {o2 : Option ma_V} {o3 : Option ma_V} (hGo : ma_cl k_MO_grow zf_MO (e_MO_grow t_0) none 1 s_MO_grow post Go)
    (h : post (w.1 24 11) (ma_up (ma_up w.1 24 9 (w.1 24 11)) 24 4 ((w.1 24 4) + (nI 1)), w.2.1, w.2.2)) :
    Go 144 [some (.inr 24), some (.inl x1), o2, o3] [] w := hGo 11 _ _ rfl _ _ _ h
theorem q_MO_level_0 {post : ma_P} {Go : ma_G} {w : ma_W} (hGo : ma_cl k_MO_level zf_MO e_MO_level none 1 s_MO_level post Go)
    (h : ((w.1 24 0) = (nI 0) → Go 14 [some (.inr 24)] [] w) ∧ (¬ ((w.1 24 0) = (nI 0)) → Go 15 [some (.inr 24)] [.inl (w.1 24 4)] w)) :
    Go 0 [some (.inr 24)] [] w := hGo 0 _ _ rfl _ _ _ h
theorem q_MO_level_14 {post : ma_P} {Go : ma_G} {w : ma_W} (hGo : ma_cl k_MO_level zf_MO e_MO_level none 1 s_MO_level post Go)
    (h : Go 15 [some (.inr 24)] [.inl (Int32.ofInt (-1))] w) :
    Go 14 [some (.inr 24)] [] w := hGo 1 _ _ rfl _ _ _ h
theorem q_MO_level_15 {post : ma_P} {Go : ma_G} {w : ma_W} {y0 : Int32} (hGo : ma_cl k_MO_level zf_MO e_MO_level none 1 s_MO_level post Go)
    (h : post y0 w) :
    Go 15 [some (.inr 24)] [.inl y0] w := hGo 2 _ _ rfl _ _ _ h
theorem q_MO_entries_0 {post : ma_P} {Go : ma_G} {w : ma_W} (hGo : ma_cl k_MO_entries zf_MO e_MO_entries none 1 s_MO_entries post Go)
    (h : post (w.1 24 9) w) :
    Go 0 [some (.inr 24)] [] w := hGo 0 _ _ rfl _ _ _ h
theorem q_MO_block_0 {t_0 : ma_T} {post : ma_P} {Go : ma_G} {w : ma_W} {x1 : Int32} {x2 : Int32} (hGo : ma_cl k_MO_block zf_MO (e_MO_block t_0) none 1 s_MO_block post Go)
    (h : t_0 [.inr 24, .inl x1] w (fun z1 w1 => (z1 = (nI 0) → Go 34 [some (.inr 24), some (.inl x1), some (.inl x2)] [] w1) ∧ (¬ (z1 = (nI 0)) → (x2 < (nI 0) → Go 34 [some (.inr 24), some (.inl x1), some (.inl x2)] [] w1) ∧ (¬ (x2 < (nI 0)) → ((w1.1 24 4) ≤ x2 → Go 34 [some (.inr 24), some (.inl x1), some (.inl x2)] [] w1) ∧ (¬ ((w1.1 24 4) ≤ x2) → ∃ j2 : Nat, j2 < 600 ∧ (((nI 10) * x1) + x2) = nI j2 ∧ (Go 35 [some (.inr 24), some (.inl x1), some (.inl x2)] [.inl (w1.2.2 27 j2)] w1)))))) :
    Go 0 [some (.inr 24), some (.inl x1), some (.inl x2)] [] w := hGo 0 _ _ rfl _ _ _ h
theorem q_MO_block_34 {t_0 : ma_T} {post : ma_P} {Go : ma_G} {w : ma_W} {x1 : Int32} {x2 : Int32} (hGo : ma_cl k_MO_block zf_MO (e_MO_block t_0) none 1 s_MO_block post Go)
    (h : Go 35 [some (.inr 24), some (.inl x1), some (.inl x2)] [.inl (Int32.ofInt (-1))] w) :
    Go 34 [some (.inr 24), some (.inl x1), some (.inl x2)] [] w := hGo 1 _ _ rfl _ _ _ h
theorem q_MO_block_35 {t_0 : ma_T} {post : ma_P} {Go : ma_G} {w : ma_W} {x1 : Int32} {x2 : Int32} {y0 : Int32} (hGo : ma_cl k_MO_block zf_MO (e_MO_block t_0) none 1 s_MO_block post Go)
    (h : post y0 w) :
    Go 35 [some (.inr 24), some (.inl x1), some (.inl x2)] [.inl y0] w := hGo 2 _ _ rfl _ _ _ h
theorem q_MO_order_0 {t_0 t_1 t_2 : ma_T} {post : ma_P} {Go : ma_G} {w : ma_W} {x1 : Int32} (hGo : ma_cl k_MO_order zf_MO (e_MO_order t_0 t_1 t_2) none 1 s_MO_order post Go)
    (h : t_0 [.inr 24, .inl x1] w (fun z1 w1 => (¬ z1 = (nI 0) → Go 10 [some (.inr 24), some (.inl x1)] [] w1) ∧ (¬ (¬ z1 = (nI 0)) → post (Int32.ofInt (-1)) w1))) :
    Go 0 [some (.inr 24), some (.inl x1)] [] w := hGo 0 _ _ rfl _ _ _ h
theorem q_MO_order_10 {t_0 t_1 t_2 : ma_T} {post : ma_P} {Go : ma_G} {w : ma_W} {x1 : Int32} (hGo : ma_cl k_MO_order zf_MO (e_MO_order t_0 t_1 t_2) none 1 s_MO_order post Go)
    (h : t_1 [.inr 24, .inl x1] w (fun _ w1 => t_2 [.inr 24] w1 (fun z2 w2 => post z2 w2))) :
    Go 10 [some (.inr 24), some (.inl x1)] [] w := hGo 1 _ _ rfl _ _ _ h
theorem q_MO_pair_0 {post : ma_P} {Go : ma_G} {w : ma_W} {x1 : Int32} {x2 : Int32} {o3 : Option ma_V} {o4 : Option ma_V} {o5 : Option ma_V} (hGo : ma_cl k_MO_pair zf_MO e_MO_pair none 0 s_MO_pair post Go)
    (h : Go 2 [some (.inr 24), some (.inl x1), some (.inl x2), some (.inl (nI 0)), o4, o5] [] w) :
    Go 0 [some (.inr 24), some (.inl x1), some (.inl x2), o3, o4, o5] [] w := hGo 0 _ _ rfl _ _ _ h
theorem q_MO_pair_2 {post : ma_P} {Go : ma_G} {w : ma_W} {x1 : Int32} {x2 : Int32} {x3 : Int32} {o4 : Option ma_V} {o5 : Option ma_V} (hGo : ma_cl k_MO_pair zf_MO e_MO_pair none 0 s_MO_pair post Go)
    (h : ((w.1 24 1) ≤ x3 → Go 87 [some (.inr 24), some (.inl x1), some (.inl x2), some (.inl x3), o4, o5] [] w) ∧ (¬ ((w.1 24 1) ≤ x3) → Go 15 [some (.inr 24), some (.inl x1), some (.inl x2), some (.inl x3), some (.inl (x3 + (nI 1))), o5] [] w)) :
    Go 2 [some (.inr 24), some (.inl x1), some (.inl x2), some (.inl x3), o4, o5] [] w := hGo 1 _ _ rfl _ _ _ h
theorem q_MO_pair_15 {post : ma_P} {Go : ma_G} {w : ma_W} {x1 : Int32} {x2 : Int32} {x3 : Int32} {x4 : Int32} {o5 : Option ma_V} (hGo : ma_cl k_MO_pair zf_MO e_MO_pair none 0 s_MO_pair post Go)
    (h : ((w.1 24 1) ≤ x4 → Go 81 [some (.inr 24), some (.inl x1), some (.inl x2), some (.inl x3), some (.inl x4), o5] [] w) ∧ (¬ ((w.1 24 1) ≤ x4) → (¬ ((x1 >>> (x3 &&& 31)) &&& (nI 1)) = (nI 1) → Go 47 [some (.inr 24), some (.inl x1), some (.inl x2), some (.inl x3), some (.inl x4), o5] [] w) ∧ (¬ (¬ ((x1 >>> (x3 &&& 31)) &&& (nI 1)) = (nI 1)) → (¬ ((x1 >>> (x4 &&& 31)) &&& (nI 1)) = (nI 1) → Go 47 [some (.inr 24), some (.inl x1), some (.inl x2), some (.inl x3), some (.inl x4), o5] [] w) ∧ (¬ (¬ ((x1 >>> (x4 &&& 31)) &&& (nI 1)) = (nI 1)) → Go 48 [some (.inr 24), some (.inl x1), some (.inl x2), some (.inl x3), some (.inl x4), o5] [.inl (nI 1)] w)))) :
    Go 15 [some (.inr 24), some (.inl x1), some (.inl x2), some (.inl x3), some (.inl x4), o5] [] w := hGo 2 _ _ rfl _ _ _ h
theorem q_MO_pair_47 {post : ma_P} {Go : ma_G} {w : ma_W} {x1 : Int32} {x2 : Int32} {x3 : Int32} {x4 : Int32} {o5 : Option ma_V} (hGo : ma_cl k_MO_pair zf_MO e_MO_pair none 0 s_MO_pair post Go)
    (h : Go 48 [some (.inr 24), some (.inl x1), some (.inl x2), some (.inl x3), some (.inl x4), o5] [.inl (nI 0)] w) :
    Go 47 [some (.inr 24), some (.inl x1), some (.inl x2), some (.inl x3), some (.inl x4), o5] [] w := hGo 3 _ _ rfl _ _ _ h
theorem q_MO_pair_48 {post : ma_P} {Go : ma_G} {w : ma_W} {x1 : Int32} {x2 : Int32} {x3 : Int32} {x4 : Int32} {o5 : Option ma_V} {y0 : Int32} (hGo : ma_cl k_MO_pair zf_MO e_MO_pair none 0 s_MO_pair post Go)
    (h : ∃ j1 : Nat, j1 < 36 ∧ (((nI 6) * x3) + x4) = nI j1 ∧ ((y0 = (nI 0) → Go 72 [some (.inr 24), some (.inl x1), some (.inl x2), some (.inl x3), some (.inl x4), some (.inl y0)] [.inl (w.2.2 31 j1), .inl (((nI 6) * x3) + x4), .inr 31] w) ∧ (¬ (y0 = (nI 0)) → Go 73 [some (.inr 24), some (.inl x1), some (.inl x2), some (.inl x3), some (.inl x4), some (.inl y0)] [.inl x2, .inl (w.2.2 31 j1), .inl (((nI 6) * x3) + x4), .inr 31] w))) :
    Go 48 [some (.inr 24), some (.inl x1), some (.inl x2), some (.inl x3), some (.inl x4), o5] [.inl y0] w := hGo 4 _ _ rfl _ _ _ h
theorem q_MO_pair_72 {post : ma_P} {Go : ma_G} {w : ma_W} {x1 : Int32} {x2 : Int32} {x3 : Int32} {x4 : Int32} {x5 : Int32} {y0 : Int32} {y1 : Int32} {s2 : Nat} (hGo : ma_cl k_MO_pair zf_MO e_MO_pair none 0 s_MO_pair post Go)
    (h : Go 73 [some (.inr 24), some (.inl x1), some (.inl x2), some (.inl x3), some (.inl x4), some (.inl x5)] [.inl (nI 0), .inl y0, .inl y1, .inr s2] w) :
    Go 72 [some (.inr 24), some (.inl x1), some (.inl x2), some (.inl x3), some (.inl x4), some (.inl x5)] [.inl y0, .inl y1, .inr s2] w := hGo 5 _ _ rfl _ _ _ h
theorem q_MO_pair_73 {post : ma_P} {Go : ma_G} {w : ma_W} {x1 : Int32} {x2 : Int32} {x3 : Int32} {x4 : Int32} {x5 : Int32} {y0 : Int32} {y1 : Int32} {y2 : Int32} {s3 : Nat} (hGo : ma_cl k_MO_pair zf_MO e_MO_pair none 0 s_MO_pair post Go)
    (h : ma_ark s3 fun n1 => ∃ j1 : Nat, j1 < n1 ∧ y2 = nI j1 ∧ (Go 15 [some (.inr 24), some (.inl x1), some (.inl x2), some (.inl x3), some (.inl (x4 + nI 1)), some (.inl x5)] [] (w.1, w.2.1, ma_up w.2.2 s3 j1 (y1 + y0)))) :
    Go 73 [some (.inr 24), some (.inl x1), some (.inl x2), some (.inl x3), some (.inl x4), some (.inl x5)] [.inl y0, .inl y1, .inl y2, .inr s3] w := hGo 6 _ _ rfl _ _ _ h
theorem q_MO_pair_81 {post : ma_P} {Go : ma_G} {w : ma_W} {x1 : Int32} {x2 : Int32} {x3 : Int32} {x4 : Int32} {o5 : Option ma_V} (hGo : ma_cl k_MO_pair zf_MO e_MO_pair none 0 s_MO_pair post Go)
    (h : Go 2 [some (.inr 24), some (.inl x1), some (.inl x2), some (.inl (x3 + nI 1)), some (.inl x4), o5] [] w) :
    Go 81 [some (.inr 24), some (.inl x1), some (.inl x2), some (.inl x3), some (.inl x4), o5] [] w := hGo 7 _ _ rfl _ _ _ h
theorem q_MO_pair_87 {post : ma_P} {Go : ma_G} {w : ma_W} {x1 : Int32} {x2 : Int32} {x3 : Int32} {o4 : Option ma_V} {o5 : Option ma_V} (hGo : ma_cl k_MO_pair zf_MO e_MO_pair none 0 s_MO_pair post Go)
    (h : post 0 w) :
    Go 87 [some (.inr 24), some (.inl x1), some (.inl x2), some (.inl x3), o4, o5] [] w := hGo 8 _ _ rfl _ _ _ h
theorem q_MO_tooOften_0 {post : ma_P} {Go : ma_G} {w : ma_W} {o1 : Option ma_V} {o2 : Option ma_V} (hGo : ma_cl k_MO_tooOften zf_MO e_MO_tooOften none 2 s_MO_tooOften post Go)
    (h : Go 4 [some (.inr 24), some (.inl (nI 0)), some (.inl (nI 0))] [] w) :
    Go 0 [some (.inr 24), o1, o2] [] w := hGo 0 _ _ rfl _ _ _ h
theorem q_MO_tooOften_4 {post : ma_P} {Go : ma_G} {w : ma_W} {x1 : Int32} {x2 : Int32} (hGo : ma_cl k_MO_tooOften zf_MO e_MO_tooOften none 2 s_MO_tooOften post Go)
    (h : ((nI 36) ≤ x2 → Go 39 [some (.inr 24), some (.inl x1), some (.inl x2)] [] w) ∧ (¬ ((nI 36) ≤ x2) → (¬ x1 = (nI 0) → Go 27 [some (.inr 24), some (.inl x1), some (.inl x2)] [] w) ∧ (¬ (¬ x1 = (nI 0)) → ∃ j1 : Nat, j1 < 36 ∧ x2 = nI j1 ∧ (((w.2.2 31 j1) ≤ (w.1 24 3) → Go 31 [some (.inr 24), some (.inl x1), some (.inl x2)] [] w) ∧ (¬ ((w.2.2 31 j1) ≤ (w.1 24 3)) → Go 27 [some (.inr 24), some (.inl x1), some (.inl x2)] [] w))))) :
    Go 4 [some (.inr 24), some (.inl x1), some (.inl x2)] [] w := hGo 1 _ _ rfl _ _ _ h
theorem q_MO_tooOften_27 {post : ma_P} {Go : ma_G} {w : ma_W} {x1 : Int32} {x2 : Int32} (hGo : ma_cl k_MO_tooOften zf_MO e_MO_tooOften none 2 s_MO_tooOften post Go)
    (h : Go 32 [some (.inr 24), some (.inl x1), some (.inl x2)] [.inl (nI 1)] w) :
    Go 27 [some (.inr 24), some (.inl x1), some (.inl x2)] [] w := hGo 2 _ _ rfl _ _ _ h
theorem q_MO_tooOften_31 {post : ma_P} {Go : ma_G} {w : ma_W} {x1 : Int32} {x2 : Int32} (hGo : ma_cl k_MO_tooOften zf_MO e_MO_tooOften none 2 s_MO_tooOften post Go)
    (h : Go 32 [some (.inr 24), some (.inl x1), some (.inl x2)] [.inl (nI 0)] w) :
    Go 31 [some (.inr 24), some (.inl x1), some (.inl x2)] [] w := hGo 3 _ _ rfl _ _ _ h
theorem q_MO_tooOften_32 {post : ma_P} {Go : ma_G} {w : ma_W} {x1 : Int32} {x2 : Int32} {y0 : Int32} (hGo : ma_cl k_MO_tooOften zf_MO e_MO_tooOften none 2 s_MO_tooOften post Go)
    (h : Go 4 [some (.inr 24), some (.inl y0), some (.inl (x2 + nI 1))] [] w) :
    Go 32 [some (.inr 24), some (.inl x1), some (.inl x2)] [.inl y0] w := hGo 4 _ _ rfl _ _ _ h
theorem q_MO_tooOften_39 {post : ma_P} {Go : ma_G} {w : ma_W} {x1 : Int32} {x2 : Int32} (hGo : ma_cl k_MO_tooOften zf_MO e_MO_tooOften none 2 s_MO_tooOften post Go)
    (h : (x1 = 0 ∨ x1 = 1) ∧ post x1 w) :
    Go 39 [some (.inr 24), some (.inl x1), some (.inl x2)] [] w := hGo 5 _ _ rfl _ _ _ h
theorem q_MO_labelled_0 {t_0 t_1 : ma_T} {post : ma_P} {Go : ma_G} {w : ma_W} {o1 : Option ma_V} {o2 : Option ma_V} {o3 : Option ma_V} {o4 : Option ma_V} (hGo : ma_cl k_MO_labelled zf_MO (e_MO_labelled t_0 t_1) none 1 s_MO_labelled post Go)
    (h : ((w.1 24 0) = (nI 0) → Go 14 [some (.inr 24), o1, o2, o3, o4] [] w) ∧ (¬ ((w.1 24 0) = (nI 0)) → (¬ (w.1 24 4) = (nI 0) → Go 27 [some (.inr 24), o1, o2, o3, o4] [] w) ∧ (¬ (¬ (w.1 24 4) = (nI 0)) → Go 14 [some (.inr 24), o1, o2, o3, o4] [] w))) :
    Go 0 [some (.inr 24), o1, o2, o3, o4] [] w := hGo 0 _ _ rfl _ _ _ h
theorem q_MO_labelled_14 {t_0 t_1 : ma_T} {post : ma_P} {Go : ma_G} {w : ma_W} {o1 : Option ma_V} {o2 : Option ma_V} {o3 : Option ma_V} {o4 : Option ma_V} (hGo : ma_cl k_MO_labelled zf_MO (e_MO_labelled t_0 t_1) none 1 s_MO_labelled post Go)
    (h : ((w.1 24 0) = (nI 0) → Go 25 [some (.inr 24), o1, o2, o3, o4] [] w) ∧ (¬ ((w.1 24 0) = (nI 0)) → Go 26 [some (.inr 24), o1, o2, o3, o4] [.inl (nI 1)] w)) :
    Go 14 [some (.inr 24), o1, o2, o3, o4] [] w := hGo 1 _ _ rfl _ _ _ h
theorem q_MO_labelled_25 {t_0 t_1 : ma_T} {post : ma_P} {Go : ma_G} {w : ma_W} {o1 : Option ma_V} {o2 : Option ma_V} {o3 : Option ma_V} {o4 : Option ma_V} (hGo : ma_cl k_MO_labelled zf_MO (e_MO_labelled t_0 t_1) none 1 s_MO_labelled post Go)
    (h : Go 26 [some (.inr 24), o1, o2, o3, o4] [.inl (nI 0)] w) :
    Go 25 [some (.inr 24), o1, o2, o3, o4] [] w := hGo 2 _ _ rfl _ _ _ h
theorem q_MO_labelled_26 {t_0 t_1 : ma_T} {post : ma_P} {Go : ma_G} {w : ma_W} {o1 : Option ma_V} {o2 : Option ma_V} {o3 : Option ma_V} {o4 : Option ma_V} {y0 : Int32} (hGo : ma_cl k_MO_labelled zf_MO (e_MO_labelled t_0 t_1) none 1 s_MO_labelled post Go)
    (h : post y0 w) :
    Go 26 [some (.inr 24), o1, o2, o3, o4] [.inl y0] w := hGo 3 _ _ rfl _ _ _ h
theorem q_MO_labelled_27 {t_0 t_1 : ma_T} {post : ma_P} {Go : ma_G} {w : ma_W} {o1 : Option ma_V} {o2 : Option ma_V} {o3 : Option ma_V} {o4 : Option ma_V} (hGo : ma_cl k_MO_labelled zf_MO (e_MO_labelled t_0 t_1) none 1 s_MO_labelled post Go)
    (h : Go 29 [some (.inr 24), some (.inl (nI 0)), o2, o3, o4] [] w) :
    Go 27 [some (.inr 24), o1, o2, o3, o4] [] w := hGo 4 _ _ rfl _ _ _ h
theorem q_MO_labelled_29 {t_0 t_1 : ma_T} {post : ma_P} {Go : ma_G} {w : ma_W} {x1 : Int32} {o2 : Option ma_V} {o3 : Option ma_V} {o4 : Option ma_V} (hGo : ma_cl k_MO_labelled zf_MO (e_MO_labelled t_0 t_1) none 1 s_MO_labelled post Go)
    (h : ((nI 36) ≤ x1 → Go 48 [some (.inr 24), some (.inl x1), o2, o3, o4] [] w) ∧ (¬ ((nI 36) ≤ x1) → ∃ j1 : Nat, j1 < 36 ∧ x1 = nI j1 ∧ (Go 29 [some (.inr 24), some (.inl (x1 + nI 1)), o2, o3, o4] [] (w.1, w.2.1, ma_up w.2.2 31 j1 (nI 0))))) :
    Go 29 [some (.inr 24), some (.inl x1), o2, o3, o4] [] w := hGo 5 _ _ rfl _ _ _ h
theorem q_MO_labelled_48 {t_0 t_1 : ma_T} {post : ma_P} {Go : ma_G} {w : ma_W} {x1 : Int32} {o2 : Option ma_V} {o3 : Option ma_V} {o4 : Option ma_V} (hGo : ma_cl k_MO_labelled zf_MO (e_MO_labelled t_0 t_1) none 1 s_MO_labelled post Go)
    (h : ∃ j1 : Nat, j1 < 10 ∧ (nI 0) = nI j1 ∧ (Go 61 [some (.inr 24), some (.inl (nI 0)), some (.inl (nI 0)), some (.inl (nI 0)), o4] [] (w.1, w.2.1, ma_up w.2.2 32 j1 (nI 0)))) :
    Go 48 [some (.inr 24), some (.inl x1), o2, o3, o4] [] w := hGo 6 _ _ rfl _ _ _ h
set_option maxRecDepth 20000 in
theorem q_MO_labelled_61 {t_0 t_1 : ma_T} {post : ma_P} {Go : ma_G} {w : ma_W} {x1 : Int32} {x2 : Int32} {x3 : Int32} {o4 : Option ma_V} (hGo : ma_cl k_MO_labelled zf_MO (e_MO_labelled t_0 t_1) none 1 s_MO_labelled post Go)
    (h : (100000000 ≤ x3 → Go 240 [some (.inr 24), some (.inl x1), some (.inl x2), some (.inl x3), o4] [] w) ∧ (¬ (100000000 ≤ x3) → (x2 < (nI 0) → Go 240 [some (.inr 24), some (.inl x1), some (.inl x2), some (.inl x3), o4] [] w) ∧ (¬ (x2 < (nI 0)) → ∃ j1 : Nat, j1 < 10 ∧ x2 = nI j1 ∧ ((¬ (w.2.2 32 j1) = (w.1 24 5) → Go 120 [some (.inr 24), some (.inl x1), some (.inl x2), some (.inl x3), o4] [] w) ∧ (¬ (¬ (w.2.2 32 j1) = (w.1 24 5)) → ((x2 + (Int32.ofInt (-1))) < (nI 0) → Go 234 [some (.inr 24), some (.inl x1), some (.inl (x2 + (Int32.ofInt (-1)))), some (.inl x3), o4] [] w) ∧ (¬ ((x2 + (Int32.ofInt (-1))) < (nI 0)) → ∃ j2 : Nat, j2 < 10 ∧ (x2 + (Int32.ofInt (-1))) = nI j2 ∧ (∃ j3 : Nat, j3 < 20 ∧ (w.2.2 32 j2) = nI j3 ∧ (t_0 [.inr 24, .inl (w.2.2 25 j3), .inl (Int32.ofInt (-1))] w (fun _ w4 => ∃ j5 : Nat, j5 < 10 ∧ (x2 + (Int32.ofInt (-1))) = nI j5 ∧ (∃ j6 : Nat, j6 < 10 ∧ (x2 + (Int32.ofInt (-1))) = nI j6 ∧ (Go 234 [some (.inr 24), some (.inl x1), some (.inl (x2 + (Int32.ofInt (-1)))), some (.inl x3), o4] [] (w4.1, w4.2.1, ma_up w4.2.2 32 j6 ((w4.2.2 32 j5) + (nI 1)))))))))))))) :
    Go 61 [some (.inr 24), some (.inl x1), some (.inl x2), some (.inl x3), o4] [] w := hGo 7 _ _ rfl _ _ _ h
theorem q_MO_labelled_120 {t_0 t_1 : ma_T} {post : ma_P} {Go : ma_G} {w : ma_W} {x1 : Int32} {x2 : Int32} {x3 : Int32} {o4 : Option ma_V} (hGo : ma_cl k_MO_labelled zf_MO (e_MO_labelled t_0 t_1) none 1 s_MO_labelled post Go)
    (h : ∃ j1 : Nat, j1 < 10 ∧ x2 = nI j1 ∧ (∃ j2 : Nat, j2 < 20 ∧ (w.2.2 32 j1) = nI j2 ∧ (t_0 [.inr 24, .inl (w.2.2 25 j2), .inl (nI 1)] w (fun _ w3 => t_1 [.inr 24] w3 (fun z4 w4 => (¬ z4 = (nI 0) → Go 147 [some (.inr 24), some (.inl x1), some (.inl x2), some (.inl x3), o4] [] w4) ∧ (¬ (¬ z4 = (nI 0)) → Go 148 [some (.inr 24), some (.inl x1), some (.inl x2), some (.inl x3), o4] [.inl (nI 1)] w4)))))) :
    Go 120 [some (.inr 24), some (.inl x1), some (.inl x2), some (.inl x3), o4] [] w := hGo 8 _ _ rfl _ _ _ h
theorem q_MO_labelled_147 {t_0 t_1 : ma_T} {post : ma_P} {Go : ma_G} {w : ma_W} {x1 : Int32} {x2 : Int32} {x3 : Int32} {o4 : Option ma_V} (hGo : ma_cl k_MO_labelled zf_MO (e_MO_labelled t_0 t_1) none 1 s_MO_labelled post Go)
    (h : Go 148 [some (.inr 24), some (.inl x1), some (.inl x2), some (.inl x3), o4] [.inl (nI 0)] w) :
    Go 147 [some (.inr 24), some (.inl x1), some (.inl x2), some (.inl x3), o4] [] w := hGo 9 _ _ rfl _ _ _ h
theorem q_MO_labelled_148 {t_0 t_1 : ma_T} {post : ma_P} {Go : ma_G} {w : ma_W} {x1 : Int32} {x2 : Int32} {x3 : Int32} {o4 : Option ma_V} {y0 : Int32} (hGo : ma_cl k_MO_labelled zf_MO (e_MO_labelled t_0 t_1) none 1 s_MO_labelled post Go)
    (h : (y0 = (nI 0) → Go 171 [some (.inr 24), some (.inl x1), some (.inl x2), some (.inl x3), some (.inl y0)] [] w) ∧ (¬ (y0 = (nI 0)) → (¬ x2 = ((w.1 24 4) - (nI 1)) → Go 171 [some (.inr 24), some (.inl x1), some (.inl x2), some (.inl x3), some (.inl y0)] [] w) ∧ (¬ (¬ x2 = ((w.1 24 4) - (nI 1))) → Go 172 [some (.inr 24), some (.inl x1), some (.inl x2), some (.inl x3), some (.inl y0)] [.inl (x1 + (nI 1))] w))) :
    Go 148 [some (.inr 24), some (.inl x1), some (.inl x2), some (.inl x3), o4] [.inl y0] w := hGo 10 _ _ rfl _ _ _ h
theorem q_MO_labelled_171 {t_0 t_1 : ma_T} {post : ma_P} {Go : ma_G} {w : ma_W} {x1 : Int32} {x2 : Int32} {x3 : Int32} {x4 : Int32} (hGo : ma_cl k_MO_labelled zf_MO (e_MO_labelled t_0 t_1) none 1 s_MO_labelled post Go)
    (h : Go 172 [some (.inr 24), some (.inl x1), some (.inl x2), some (.inl x3), some (.inl x4)] [.inl x1] w) :
    Go 171 [some (.inr 24), some (.inl x1), some (.inl x2), some (.inl x3), some (.inl x4)] [] w := hGo 11 _ _ rfl _ _ _ h
theorem q_MO_labelled_172 {t_0 t_1 : ma_T} {post : ma_P} {Go : ma_G} {w : ma_W} {x1 : Int32} {x2 : Int32} {x3 : Int32} {x4 : Int32} {y0 : Int32} (hGo : ma_cl k_MO_labelled zf_MO (e_MO_labelled t_0 t_1) none 1 s_MO_labelled post Go)
    (h : (x4 = (nI 0) → Go 208 [some (.inr 24), some (.inl y0), some (.inl x2), some (.inl x3), some (.inl x4)] [] w) ∧ (¬ (x4 = (nI 0)) → (((w.1 24 4) - (nI 1)) ≤ x2 → Go 208 [some (.inr 24), some (.inl y0), some (.inl x2), some (.inl x3), some (.inl x4)] [] w) ∧ (¬ (((w.1 24 4) - (nI 1)) ≤ x2) → ∃ j1 : Nat, j1 < 10 ∧ x2 = nI j1 ∧ (∃ j2 : Nat, j2 < 10 ∧ (x2 + (nI 1)) = nI j2 ∧ (Go 234 [some (.inr 24), some (.inl y0), some (.inl (x2 + nI 1)), some (.inl x3), some (.inl x4)] [] (w.1, w.2.1, ma_up w.2.2 32 j2 (w.2.2 32 j1))))))) :
    Go 172 [some (.inr 24), some (.inl x1), some (.inl x2), some (.inl x3), some (.inl x4)] [.inl y0] w := hGo 12 _ _ rfl _ _ _ h
theorem q_MO_labelled_208 {t_0 t_1 : ma_T} {post : ma_P} {Go : ma_G} {w : ma_W} {x1 : Int32} {x2 : Int32} {x3 : Int32} {x4 : Int32} (hGo : ma_cl k_MO_labelled zf_MO (e_MO_labelled t_0 t_1) none 1 s_MO_labelled post Go)
    (h : ∃ j1 : Nat, j1 < 10 ∧ x2 = nI j1 ∧ (∃ j2 : Nat, j2 < 20 ∧ (w.2.2 32 j1) = nI j2 ∧ (t_0 [.inr 24, .inl (w.2.2 25 j2), .inl (Int32.ofInt (-1))] w (fun _ w3 => ∃ j4 : Nat, j4 < 10 ∧ x2 = nI j4 ∧ (∃ j5 : Nat, j5 < 10 ∧ x2 = nI j5 ∧ (Go 234 [some (.inr 24), some (.inl x1), some (.inl x2), some (.inl x3), some (.inl x4)] [] (w3.1, w3.2.1, ma_up w3.2.2 32 j5 ((w3.2.2 32 j4) + (nI 1))))))))) :
    Go 208 [some (.inr 24), some (.inl x1), some (.inl x2), some (.inl x3), some (.inl x4)] [] w := hGo 13 _ _ rfl _ _ _ h
theorem q_MO_labelled_234 {t_0 t_1 : ma_T} {post : ma_P} {Go : ma_G} {w : ma_W} {x1 : Int32} {x2 : Int32} {x3 : Int32} {o4 : Option ma_V} (hGo : ma_cl k_MO_labelled zf_MO (e_MO_labelled t_0 t_1) none 1 s_MO_labelled post Go)
    (h : Go 61 [some (.inr 24), some (.inl x1), some (.inl x2), some (.inl (x3 + nI 1)), o4] [] w) :
    Go 234 [some (.inr 24), some (.inl x1), some (.inl x2), some (.inl x3), o4] [] w := hGo 14 _ _ rfl _ _ _ h
theorem q_MO_labelled_240 {t_0 t_1 : ma_T} {post : ma_P} {Go : ma_G} {w : ma_W} {x1 : Int32} {x2 : Int32} {x3 : Int32} {o4 : Option ma_V} (hGo : ma_cl k_MO_labelled zf_MO (e_MO_labelled t_0 t_1) none 1 s_MO_labelled post Go)
    (h : post x1 w) :
    Go 240 [some (.inr 24), some (.inl x1), some (.inl x2), some (.inl x3), o4] [] w := hGo 15 _ _ rfl _ _ _ h
theorem q_MO_together_0 {t_0 t_1 t_2 t_3 : ma_T} {post : ma_P} {Go : ma_G} {w : ma_W} {x1 : Int32} {x2 : Int32} {x3 : Int32} (hGo : ma_cl k_MO_together zf_MO (e_MO_together t_0 t_1 t_2 t_3) none 1 s_MO_together post Go)
    (h : t_0 [.inr 24, .inl x1] w (fun z1 w1 => (z1 = (nI 0) → Go 24 [some (.inr 24), some (.inl x1), some (.inl x2), some (.inl x3)] [] w1) ∧ (¬ (z1 = (nI 0)) → t_1 [.inr 24, .inl x2] w1 (fun z2 w2 => (z2 = (nI 0) → Go 24 [some (.inr 24), some (.inl x1), some (.inl x2), some (.inl x3)] [] w2) ∧ (¬ (z2 = (nI 0)) → t_1 [.inr 24, .inl x3] w2 (fun z3 w3 => (¬ z3 = (nI 0) → Go 26 [some (.inr 24), some (.inl x1), some (.inl x2), some (.inl x3)] [] w3) ∧ (¬ (¬ z3 = (nI 0)) → Go 24 [some (.inr 24), some (.inl x1), some (.inl x2), some (.inl x3)] [] w3))))))) :
    Go 0 [some (.inr 24), some (.inl x1), some (.inl x2), some (.inl x3)] [] w := hGo 0 _ _ rfl _ _ _ h
theorem q_MO_together_24 {t_0 t_1 t_2 t_3 : ma_T} {post : ma_P} {Go : ma_G} {w : ma_W} {x1 : Int32} {x2 : Int32} {x3 : Int32} (hGo : ma_cl k_MO_together zf_MO (e_MO_together t_0 t_1 t_2 t_3) none 1 s_MO_together post Go)
    (h : post (Int32.ofInt (-1)) w) :
    Go 24 [some (.inr 24), some (.inl x1), some (.inl x2), some (.inl x3)] [] w := hGo 1 _ _ rfl _ _ _ h
theorem q_MO_together_26 {t_0 t_1 t_2 t_3 : ma_T} {post : ma_P} {Go : ma_G} {w : ma_W} {x1 : Int32} {x2 : Int32} {x3 : Int32} (hGo : ma_cl k_MO_together zf_MO (e_MO_together t_0 t_1 t_2 t_3) none 1 s_MO_together post Go)
    (h : t_2 [.inr 24, .inl x1] w (fun _ w1 => t_3 [.inr 24, .inl x2, .inl x3] w1 (fun z2 w2 => post z2 w2))) :
    Go 26 [some (.inr 24), some (.inl x1), some (.inl x2), some (.inl x3)] [] w := hGo 2 _ _ rfl _ _ _ h
theorem q_MO_design_0 {t_0 t_1 t_2 : ma_T} {post : ma_P} {Go : ma_G} {w : ma_W} {x1 : Int32} (hGo : ma_cl k_MO_design zf_MO (e_MO_design t_0 t_1 t_2) none 2 s_MO_design post Go)
    (h : t_0 [.inr 24, .inl x1] w (fun z1 w1 => (¬ z1 = (nI 0) → Go 10 [some (.inr 24), some (.inl x1)] [] w1) ∧ (¬ (¬ z1 = (nI 0)) → ((nI 0) = 0 ∨ (nI 0) = 1) ∧ post (nI 0) w1))) :
    Go 0 [some (.inr 24), some (.inl x1)] [] w := hGo 0 _ _ rfl _ _ _ h
theorem q_MO_design_10 {t_0 t_1 t_2 : ma_T} {post : ma_P} {Go : ma_G} {w : ma_W} {x1 : Int32} (hGo : ma_cl k_MO_design zf_MO (e_MO_design t_0 t_1 t_2) none 2 s_MO_design post Go)
    (h : t_1 [.inr 24, .inl x1] w (fun _ w1 => t_2 [.inr 24, .inl (w1.1 24 3), .inl (w1.1 24 3)] w1 (fun z2 w2 => (z2 = 0 ∨ z2 = 1) ∧ post z2 w2))) :
    Go 10 [some (.inr 24), some (.inl x1)] [] w := hGo 1 _ _ rfl _ _ _ h
theorem q_MO_designs_0 {t_0 : ma_T} {post : ma_P} {Go : ma_G} {w : ma_W} {o1 : Option ma_V} {o2 : Option ma_V} (hGo : ma_cl k_MO_designs zf_MO (e_MO_designs t_0) none 1 s_MO_designs post Go)
    (h : Go 4 [some (.inr 24), some (.inl (nI 0)), some (.inl (nI 0))] [] w) :
    Go 0 [some (.inr 24), o1, o2] [] w := hGo 0 _ _ rfl _ _ _ h
theorem q_MO_designs_4 {t_0 : ma_T} {post : ma_P} {Go : ma_G} {w : ma_W} {x1 : Int32} {x2 : Int32} (hGo : ma_cl k_MO_designs zf_MO (e_MO_designs t_0) none 1 s_MO_designs post Go)
    (h : ((w.1 24 9) ≤ x2 → Go 34 [some (.inr 24), some (.inl x1), some (.inl x2)] [] w) ∧ (¬ ((w.1 24 9) ≤ x2) → t_0 [.inr 24, .inl x2] w (fun z1 w1 => (z1 = (nI 0) → Go 26 [some (.inr 24), some (.inl x1), some (.inl x2)] [] w1) ∧ (¬ (z1 = (nI 0)) → Go 27 [some (.inr 24), some (.inl x1), some (.inl x2)] [.inl (x1 + (nI 1))] w1)))) :
    Go 4 [some (.inr 24), some (.inl x1), some (.inl x2)] [] w := hGo 1 _ _ rfl _ _ _ h
theorem q_MO_designs_26 {t_0 : ma_T} {post : ma_P} {Go : ma_G} {w : ma_W} {x1 : Int32} {x2 : Int32} (hGo : ma_cl k_MO_designs zf_MO (e_MO_designs t_0) none 1 s_MO_designs post Go)
    (h : Go 27 [some (.inr 24), some (.inl x1), some (.inl x2)] [.inl x1] w) :
    Go 26 [some (.inr 24), some (.inl x1), some (.inl x2)] [] w := hGo 2 _ _ rfl _ _ _ h
theorem q_MO_designs_27 {t_0 : ma_T} {post : ma_P} {Go : ma_G} {w : ma_W} {x1 : Int32} {x2 : Int32} {y0 : Int32} (hGo : ma_cl k_MO_designs zf_MO (e_MO_designs t_0) none 1 s_MO_designs post Go)
    (h : Go 4 [some (.inr 24), some (.inl y0), some (.inl (x2 + nI 1))] [] w) :
    Go 27 [some (.inr 24), some (.inl x1), some (.inl x2)] [.inl y0] w := hGo 3 _ _ rfl _ _ _ h
theorem q_MO_designs_34 {t_0 : ma_T} {post : ma_P} {Go : ma_G} {w : ma_W} {x1 : Int32} {x2 : Int32} (hGo : ma_cl k_MO_designs zf_MO (e_MO_designs t_0) none 1 s_MO_designs post Go)
    (h : post x1 w) :
    Go 34 [some (.inr 24), some (.inl x1), some (.inl x2)] [] w := hGo 4 _ _ rfl _ _ _ h
theorem q_MO_orbit_0 {t_0 t_1 t_2 t_3 : ma_T} {post : ma_P} {Go : ma_G} {w : ma_W} {x1 : Int32} {x2 : Int32} {o3 : Option ma_V} {o4 : Option ma_V} {o5 : Option ma_V} (hGo : ma_cl k_MO_orbit zf_MO (e_MO_orbit t_0 t_1 t_2 t_3) none 1 s_MO_orbit post Go)
    (h : t_0 [.inr 24, .inl x1] w (fun z1 w1 => (z1 = (nI 0) → Go 16 [some (.inr 24), some (.inl x1), some (.inl x2), o3, o4, o5] [] w1) ∧ (¬ (z1 = (nI 0)) → t_1 [.inr 24, .inl x2] w1 (fun z2 w2 => (¬ z2 = (nI 0) → Go 18 [some (.inr 24), some (.inl x1), some (.inl x2), o3, o4, o5] [] w2) ∧ (¬ (¬ z2 = (nI 0)) → Go 16 [some (.inr 24), some (.inl x1), some (.inl x2), o3, o4, o5] [] w2))))) :
    Go 0 [some (.inr 24), some (.inl x1), some (.inl x2), o3, o4, o5] [] w := hGo 0 _ _ rfl _ _ _ h
theorem q_MO_orbit_16 {t_0 t_1 t_2 t_3 : ma_T} {post : ma_P} {Go : ma_G} {w : ma_W} {x1 : Int32} {x2 : Int32} {o3 : Option ma_V} {o4 : Option ma_V} {o5 : Option ma_V} (hGo : ma_cl k_MO_orbit zf_MO (e_MO_orbit t_0 t_1 t_2 t_3) none 1 s_MO_orbit post Go)
    (h : post (Int32.ofInt (-1)) w) :
    Go 16 [some (.inr 24), some (.inl x1), some (.inl x2), o3, o4, o5] [] w := hGo 1 _ _ rfl _ _ _ h
theorem q_MO_orbit_18 {t_0 t_1 t_2 t_3 : ma_T} {post : ma_P} {Go : ma_G} {w : ma_W} {x1 : Int32} {x2 : Int32} {o3 : Option ma_V} {o4 : Option ma_V} {o5 : Option ma_V} (hGo : ma_cl k_MO_orbit zf_MO (e_MO_orbit t_0 t_1 t_2 t_3) none 1 s_MO_orbit post Go)
    (h : t_2 [.inr 24, .inl x1] w (fun _ w1 => Go 28 [some (.inr 24), some (.inl x1), some (.inl x2), some (.inl x2), some (.inl (nI 0)), o5] [] w1)) :
    Go 18 [some (.inr 24), some (.inl x1), some (.inl x2), o3, o4, o5] [] w := hGo 2 _ _ rfl _ _ _ h
set_option maxRecDepth 20000 in
theorem q_MO_orbit_28 {t_0 t_1 t_2 t_3 : ma_T} {post : ma_P} {Go : ma_G} {w : ma_W} {x1 : Int32} {x2 : Int32} {x3 : Int32} {x4 : Int32} {o5 : Option ma_V} (hGo : ma_cl k_MO_orbit zf_MO (e_MO_orbit t_0 t_1 t_2 t_3) none 1 s_MO_orbit post Go)
    (h : ((w.1 24 7) ≤ x4 → Go 80 [some (.inr 24), some (.inl x1), some (.inl x2), some (.inl x3), some (.inl x4), o5] [] w) ∧ (¬ ((w.1 24 7) ≤ x4) → ∃ j1 : Nat, j1 < 4320 ∧ (((nI 6) * x4) + x2) = nI j1 ∧ ((x3 ≤ (w.2.2 26 j1) → Go 72 [some (.inr 24), some (.inl x1), some (.inl x2), some (.inl x3), some (.inl x4), some (.inl (w.2.2 26 j1))] [] w) ∧ (¬ (x3 ≤ (w.2.2 26 j1)) → t_3 [.inr 24, .inl x4, .inl (nI 0)] w (fun z2 w2 => (¬ z2 = (nI 0) → Go 72 [some (.inr 24), some (.inl x1), some (.inl x2), some (.inl x3), some (.inl x4), some (.inl (w.2.2 26 j1))] [] w2) ∧ (¬ (¬ z2 = (nI 0)) → Go 73 [some (.inr 24), some (.inl x1), some (.inl x2), some (.inl x3), some (.inl x4), some (.inl (w.2.2 26 j1))] [.inl (w.2.2 26 j1)] w2)))))) :
    Go 28 [some (.inr 24), some (.inl x1), some (.inl x2), some (.inl x3), some (.inl x4), o5] [] w := hGo 3 _ _ rfl _ _ _ h
theorem q_MO_orbit_72 {t_0 t_1 t_2 t_3 : ma_T} {post : ma_P} {Go : ma_G} {w : ma_W} {x1 : Int32} {x2 : Int32} {x3 : Int32} {x4 : Int32} {x5 : Int32} (hGo : ma_cl k_MO_orbit zf_MO (e_MO_orbit t_0 t_1 t_2 t_3) none 1 s_MO_orbit post Go)
    (h : Go 73 [some (.inr 24), some (.inl x1), some (.inl x2), some (.inl x3), some (.inl x4), some (.inl x5)] [.inl x3] w) :
    Go 72 [some (.inr 24), some (.inl x1), some (.inl x2), some (.inl x3), some (.inl x4), some (.inl x5)] [] w := hGo 4 _ _ rfl _ _ _ h
theorem q_MO_orbit_73 {t_0 t_1 t_2 t_3 : ma_T} {post : ma_P} {Go : ma_G} {w : ma_W} {x1 : Int32} {x2 : Int32} {x3 : Int32} {x4 : Int32} {x5 : Int32} {y0 : Int32} (hGo : ma_cl k_MO_orbit zf_MO (e_MO_orbit t_0 t_1 t_2 t_3) none 1 s_MO_orbit post Go)
    (h : Go 28 [some (.inr 24), some (.inl x1), some (.inl x2), some (.inl y0), some (.inl (x4 + nI 1)), some (.inl x5)] [] w) :
    Go 73 [some (.inr 24), some (.inl x1), some (.inl x2), some (.inl x3), some (.inl x4), some (.inl x5)] [.inl y0] w := hGo 5 _ _ rfl _ _ _ h
theorem q_MO_orbit_80 {t_0 t_1 t_2 t_3 : ma_T} {post : ma_P} {Go : ma_G} {w : ma_W} {x1 : Int32} {x2 : Int32} {x3 : Int32} {x4 : Int32} {o5 : Option ma_V} (hGo : ma_cl k_MO_orbit zf_MO (e_MO_orbit t_0 t_1 t_2 t_3) none 1 s_MO_orbit post Go)
    (h : post x3 w) :
    Go 80 [some (.inr 24), some (.inl x1), some (.inl x2), some (.inl x3), some (.inl x4), o5] [] w := hGo 6 _ _ rfl _ _ _ h
theorem q_MO_put_0 {t_0 : ma_T} {post : ma_P} {Go : ma_G} {w : ma_W} {x1 : Int32} (hGo : ma_cl k_MO_put zf_MO (e_MO_put t_0) none 1 s_MO_put post Go)
    (h : t_0 [.inr 24, .inl x1] w (fun z1 w1 => (¬ z1 = (nI 0) → Go 11 [some (.inr 24), some (.inl x1)] [] w1) ∧ (¬ (¬ z1 = (nI 0)) → post (Int32.ofInt (-2)) w1))) :
    Go 0 [some (.inr 24), some (.inl x1)] [] w := hGo 0 _ _ rfl _ _ _ h
theorem q_MO_put_11 {t_0 : ma_T} {post : ma_P} {Go : ma_G} {w : ma_W} {x1 : Int32} (hGo : ma_cl k_MO_put zf_MO (e_MO_put t_0) none 1 s_MO_put post Go)
    (h : (¬ (w.1 24 13) = (nI 10) → Go 23 [some (.inr 24), some (.inl x1)] [] w) ∧ (¬ (¬ (w.1 24 13) = (nI 10)) → post (Int32.ofInt (-5)) w)) :
    Go 11 [some (.inr 24), some (.inl x1)] [] w := hGo 1 _ _ rfl _ _ _ h
theorem q_MO_put_23 {t_0 : ma_T} {post : ma_P} {Go : ma_G} {w : ma_W} {x1 : Int32} (hGo : ma_cl k_MO_put zf_MO (e_MO_put t_0) none 1 s_MO_put post Go)
    (h : ∃ j1 : Nat, j1 < 10 ∧ (w.1 24 13) = nI j1 ∧ (post ((w.1 24 13) + (nI 1)) (ma_up w.1 24 13 ((w.1 24 13) + (nI 1)), w.2.1, ma_up w.2.2 29 j1 x1))) :
    Go 23 [some (.inr 24), some (.inl x1)] [] w := hGo 2 _ _ rfl _ _ _ h
theorem q_MO_drop_0 {post : ma_P} {Go : ma_G} {w : ma_W} {x1 : Int32} {o2 : Option ma_V} (hGo : ma_cl k_MO_drop zf_MO e_MO_drop none 2 s_MO_drop post Go)
    (h : (x1 < (nI 0) → Go 12 [some (.inr 24), some (.inl x1), o2] [] w) ∧ (¬ (x1 < (nI 0)) → (x1 < (w.1 24 13) → Go 14 [some (.inr 24), some (.inl x1), o2] [] w) ∧ (¬ (x1 < (w.1 24 13)) → Go 12 [some (.inr 24), some (.inl x1), o2] [] w))) :
    Go 0 [some (.inr 24), some (.inl x1), o2] [] w := hGo 0 _ _ rfl _ _ _ h
theorem q_MO_drop_12 {post : ma_P} {Go : ma_G} {w : ma_W} {x1 : Int32} {o2 : Option ma_V} (hGo : ma_cl k_MO_drop zf_MO e_MO_drop none 2 s_MO_drop post Go)
    (h : ((nI 0) = 0 ∨ (nI 0) = 1) ∧ post (nI 0) w) :
    Go 12 [some (.inr 24), some (.inl x1), o2] [] w := hGo 1 _ _ rfl _ _ _ h
theorem q_MO_drop_14 {post : ma_P} {Go : ma_G} {w : ma_W} {x1 : Int32} {o2 : Option ma_V} (hGo : ma_cl k_MO_drop zf_MO e_MO_drop none 2 s_MO_drop post Go)
    (h : Go 26 [some (.inr 24), some (.inl x1), some (.inl x1)] [] (ma_up w.1 24 13 ((w.1 24 13) - (nI 1)), w.2.1, w.2.2)) :
    Go 14 [some (.inr 24), some (.inl x1), o2] [] w := hGo 2 _ _ rfl _ _ _ h
theorem q_MO_drop_26 {post : ma_P} {Go : ma_G} {w : ma_W} {x1 : Int32} {x2 : Int32} (hGo : ma_cl k_MO_drop zf_MO e_MO_drop none 2 s_MO_drop post Go)
    (h : ((w.1 24 13) ≤ x2 → Go 54 [some (.inr 24), some (.inl x1), some (.inl x2)] [] w) ∧ (¬ ((w.1 24 13) ≤ x2) → ∃ j1 : Nat, j1 < 10 ∧ (x2 + (nI 1)) = nI j1 ∧ (∃ j2 : Nat, j2 < 10 ∧ x2 = nI j2 ∧ (Go 26 [some (.inr 24), some (.inl x1), some (.inl (x2 + nI 1))] [] (w.1, w.2.1, ma_up w.2.2 29 j2 (w.2.2 29 j1)))))) :
    Go 26 [some (.inr 24), some (.inl x1), some (.inl x2)] [] w := hGo 3 _ _ rfl _ _ _ h
theorem q_MO_drop_54 {post : ma_P} {Go : ma_G} {w : ma_W} {x1 : Int32} {x2 : Int32} (hGo : ma_cl k_MO_drop zf_MO e_MO_drop none 2 s_MO_drop post Go)
    (h : ((nI 1) = 0 ∨ (nI 1) = 1) ∧ post (nI 1) w) :
    Go 54 [some (.inr 24), some (.inl x1), some (.inl x2)] [] w := hGo 4 _ _ rfl _ _ _ h
theorem q_MO_swap_0 {t_0 : ma_T} {post : ma_P} {Go : ma_G} {w : ma_W} {x1 : Int32} {x2 : Int32} {o3 : Option ma_V} {o4 : Option ma_V} {o5 : Option ma_V} {o6 : Option ma_V} (hGo : ma_cl k_MO_swap zf_MO (e_MO_swap t_0) none 2 s_MO_swap post Go)
    (h : t_0 [.inr 24, .inl x1] w (fun z1 w1 => (z1 = (nI 0) → Go 16 [some (.inr 24), some (.inl x1), some (.inl x2), o3, o4, o5, o6] [] w1) ∧ (¬ (z1 = (nI 0)) → t_0 [.inr 24, .inl x2] w1 (fun z2 w2 => (¬ z2 = (nI 0) → Go 18 [some (.inr 24), some (.inl x1), some (.inl x2), o3, o4, o5, o6] [] w2) ∧ (¬ (¬ z2 = (nI 0)) → Go 16 [some (.inr 24), some (.inl x1), some (.inl x2), o3, o4, o5, o6] [] w2))))) :
    Go 0 [some (.inr 24), some (.inl x1), some (.inl x2), o3, o4, o5, o6] [] w := hGo 0 _ _ rfl _ _ _ h
theorem q_MO_swap_16 {t_0 : ma_T} {post : ma_P} {Go : ma_G} {w : ma_W} {x1 : Int32} {x2 : Int32} {o3 : Option ma_V} {o4 : Option ma_V} {o5 : Option ma_V} {o6 : Option ma_V} (hGo : ma_cl k_MO_swap zf_MO (e_MO_swap t_0) none 2 s_MO_swap post Go)
    (h : ((nI 0) = 0 ∨ (nI 0) = 1) ∧ post (nI 0) w) :
    Go 16 [some (.inr 24), some (.inl x1), some (.inl x2), o3, o4, o5, o6] [] w := hGo 1 _ _ rfl _ _ _ h
theorem q_MO_swap_18 {t_0 : ma_T} {post : ma_P} {Go : ma_G} {w : ma_W} {x1 : Int32} {x2 : Int32} {o3 : Option ma_V} {o4 : Option ma_V} {o5 : Option ma_V} {o6 : Option ma_V} (hGo : ma_cl k_MO_swap zf_MO (e_MO_swap t_0) none 2 s_MO_swap post Go)
    (h : Go 20 [some (.inr 24), some (.inl x1), some (.inl x2), some (.inl (nI 0)), o4, o5, o6] [] w) :
    Go 18 [some (.inr 24), some (.inl x1), some (.inl x2), o3, o4, o5, o6] [] w := hGo 2 _ _ rfl _ _ _ h
set_option maxRecDepth 20000 in
theorem q_MO_swap_20 {t_0 : ma_T} {post : ma_P} {Go : ma_G} {w : ma_W} {x1 : Int32} {x2 : Int32} {x3 : Int32} {o4 : Option ma_V} {o5 : Option ma_V} {o6 : Option ma_V} (hGo : ma_cl k_MO_swap zf_MO (e_MO_swap t_0) none 2 s_MO_swap post Go)
    (h : ((w.1 24 13) ≤ x3 → Go 96 [some (.inr 24), some (.inl x1), some (.inl x2), some (.inl x3), o4, o5, o6] [] w) ∧ (¬ ((w.1 24 13) ≤ x3) → ∃ j1 : Nat, j1 < 10 ∧ x3 = nI j1 ∧ (∃ j2 : Nat, j2 < 10 ∧ x3 = nI j2 ∧ (∃ j3 : Nat, j3 < 10 ∧ x3 = nI j3 ∧ (∃ j4 : Nat, j4 < 10 ∧ x3 = nI j4 ∧ (Go 20 [some (.inr 24), some (.inl x1), some (.inl x2), some (.inl (x3 + nI 1)), some (.inl (((w.2.2 29 j1) >>> (x1 &&& 31)) &&& (nI 1))), some (.inl (((w.2.2 29 j2) >>> (x2 &&& 31)) &&& (nI 1))), some (.inl (((w.2.2 29 j3) &&& (((nI 1) <<< (x1 &&& 31)) ^^^ (Int32.ofInt (-1)))) &&& (((nI 1) <<< (x2 &&& 31)) ^^^ (Int32.ofInt (-1)))))] [] (w.1, w.2.1, ma_up w.2.2 29 j4 (((((w.2.2 29 j3) &&& (((nI 1) <<< (x1 &&& 31)) ^^^ (Int32.ofInt (-1)))) &&& (((nI 1) <<< (x2 &&& 31)) ^^^ (Int32.ofInt (-1)))) ||| ((((w.2.2 29 j1) >>> (x1 &&& 31)) &&& (nI 1)) <<< (x2 &&& 31))) ||| ((((w.2.2 29 j2) >>> (x2 &&& 31)) &&& (nI 1)) <<< (x1 &&& 31)))))))))) :
    Go 20 [some (.inr 24), some (.inl x1), some (.inl x2), some (.inl x3), o4, o5, o6] [] w := hGo 3 _ _ rfl _ _ _ h
theorem q_MO_swap_96 {t_0 : ma_T} {post : ma_P} {Go : ma_G} {w : ma_W} {x1 : Int32} {x2 : Int32} {x3 : Int32} {o4 : Option ma_V} {o5 : Option ma_V} {o6 : Option ma_V} (hGo : ma_cl k_MO_swap zf_MO (e_MO_swap t_0) none 2 s_MO_swap post Go)
    (h : ((nI 1) = 0 ∨ (nI 1) = 1) ∧ post (nI 1) w) :
    Go 96 [some (.inr 24), some (.inl x1), some (.inl x2), some (.inl x3), o4, o5, o6] [] w := hGo 4 _ _ rfl _ _ _ h
theorem q_MO_copy_0 {t_0 : ma_T} {post : ma_P} {Go : ma_G} {w : ma_W} {x1 : Int32} {o2 : Option ma_V} (hGo : ma_cl k_MO_copy zf_MO (e_MO_copy t_0) none 2 s_MO_copy post Go)
    (h : t_0 [.inr 24, .inl x1] w (fun z1 w1 => (¬ z1 = (nI 0) → Go 10 [some (.inr 24), some (.inl x1), o2] [] w1) ∧ (¬ (¬ z1 = (nI 0)) → ((nI 0) = 0 ∨ (nI 0) = 1) ∧ post (nI 0) w1))) :
    Go 0 [some (.inr 24), some (.inl x1), o2] [] w := hGo 0 _ _ rfl _ _ _ h
theorem q_MO_copy_10 {t_0 : ma_T} {post : ma_P} {Go : ma_G} {w : ma_W} {x1 : Int32} {o2 : Option ma_V} (hGo : ma_cl k_MO_copy zf_MO (e_MO_copy t_0) none 2 s_MO_copy post Go)
    (h : Go 20 [some (.inr 24), some (.inl x1), some (.inl (nI 0))] [] (ma_up w.1 24 13 (w.1 24 4), w.2.1, w.2.2)) :
    Go 10 [some (.inr 24), some (.inl x1), o2] [] w := hGo 1 _ _ rfl _ _ _ h
theorem q_MO_copy_20 {t_0 : ma_T} {post : ma_P} {Go : ma_G} {w : ma_W} {x1 : Int32} {x2 : Int32} (hGo : ma_cl k_MO_copy zf_MO (e_MO_copy t_0) none 2 s_MO_copy post Go)
    (h : ((w.1 24 13) ≤ x2 → Go 51 [some (.inr 24), some (.inl x1), some (.inl x2)] [] w) ∧ (¬ ((w.1 24 13) ≤ x2) → ∃ j1 : Nat, j1 < 600 ∧ (((nI 10) * x1) + x2) = nI j1 ∧ (∃ j2 : Nat, j2 < 10 ∧ x2 = nI j2 ∧ (Go 20 [some (.inr 24), some (.inl x1), some (.inl (x2 + nI 1))] [] (w.1, w.2.1, ma_up w.2.2 29 j2 (w.2.2 27 j1)))))) :
    Go 20 [some (.inr 24), some (.inl x1), some (.inl x2)] [] w := hGo 2 _ _ rfl _ _ _ h
theorem q_MO_copy_51 {t_0 : ma_T} {post : ma_P} {Go : ma_G} {w : ma_W} {x1 : Int32} {x2 : Int32} (hGo : ma_cl k_MO_copy zf_MO (e_MO_copy t_0) none 2 s_MO_copy post Go)
    (h : ((nI 1) = 0 ∨ (nI 1) = 1) ∧ post (nI 1) w) :
    Go 51 [some (.inr 24), some (.inl x1), some (.inl x2)] [] w := hGo 3 _ _ rfl _ _ _ h
theorem q_MO_hand_0 {post : ma_P} {Go : ma_G} {w : ma_W} {x1 : Int32} (hGo : ma_cl k_MO_hand zf_MO e_MO_hand none 1 s_MO_hand post Go)
    (h : (x1 < (nI 0) → Go 21 [some (.inr 24), some (.inl x1)] [] w) ∧ (¬ (x1 < (nI 0)) → ((w.1 24 13) ≤ x1 → Go 21 [some (.inr 24), some (.inl x1)] [] w) ∧ (¬ ((w.1 24 13) ≤ x1) → ∃ j1 : Nat, j1 < 10 ∧ x1 = nI j1 ∧ (Go 22 [some (.inr 24), some (.inl x1)] [.inl (w.2.2 29 j1)] w)))) :
    Go 0 [some (.inr 24), some (.inl x1)] [] w := hGo 0 _ _ rfl _ _ _ h
theorem q_MO_hand_21 {post : ma_P} {Go : ma_G} {w : ma_W} {x1 : Int32} (hGo : ma_cl k_MO_hand zf_MO e_MO_hand none 1 s_MO_hand post Go)
    (h : Go 22 [some (.inr 24), some (.inl x1)] [.inl (Int32.ofInt (-1))] w) :
    Go 21 [some (.inr 24), some (.inl x1)] [] w := hGo 1 _ _ rfl _ _ _ h
theorem q_MO_hand_22 {post : ma_P} {Go : ma_G} {w : ma_W} {x1 : Int32} {y0 : Int32} (hGo : ma_cl k_MO_hand zf_MO e_MO_hand none 1 s_MO_hand post Go)
    (h : post y0 w) :
    Go 22 [some (.inr 24), some (.inl x1)] [.inl y0] w := hGo 2 _ _ rfl _ _ _ h
theorem q_MO_rowed_0 {t_0 : ma_T} {post : ma_P} {Go : ma_G} {w : ma_W} {x1 : Int32} {x2 : Int32} {o3 : Option ma_V} {o4 : Option ma_V} (hGo : ma_cl k_MO_rowed zf_MO (e_MO_rowed t_0) none 1 s_MO_rowed post Go)
    (h : Go 5 [some (.inr 24), some (.inl x1), some (.inl x2), some (.inl x2), some (.inl (nI 0))] [] w) :
    Go 0 [some (.inr 24), some (.inl x1), some (.inl x2), o3, o4] [] w := hGo 0 _ _ rfl _ _ _ h
theorem q_MO_rowed_5 {t_0 : ma_T} {post : ma_P} {Go : ma_G} {w : ma_W} {x1 : Int32} {x2 : Int32} {x3 : Int32} {x4 : Int32} (hGo : ma_cl k_MO_rowed zf_MO (e_MO_rowed t_0) none 1 s_MO_rowed post Go)
    (h : ((w.1 24 5) ≤ x4 → Go 52 [some (.inr 24), some (.inl x1), some (.inl x2), some (.inl x3), some (.inl x4)] [] w) ∧ (¬ ((w.1 24 5) ≤ x4) → ∃ j1 : Nat, j1 < 20 ∧ x4 = nI j1 ∧ (t_0 [.inr 24, .inl (w.2.2 25 j1), .inl x1] w (fun z2 w2 => ∃ j3 : Nat, j3 < 64 ∧ z2 = nI j3 ∧ (((nI 0) ≤ (x3 - (w2.2.2 30 j3)) → Go 46 [some (.inr 24), some (.inl x1), some (.inl x2), some (.inl (x3 - (w2.2.2 30 j3))), some (.inl x4)] [] w2) ∧ (¬ ((nI 0) ≤ (x3 - (w2.2.2 30 j3))) → ∃ j4 : Nat, j4 < 20 ∧ x4 = nI j4 ∧ (post (w2.2.2 25 j4) w2))))))) :
    Go 5 [some (.inr 24), some (.inl x1), some (.inl x2), some (.inl x3), some (.inl x4)] [] w := hGo 1 _ _ rfl _ _ _ h
theorem q_MO_rowed_46 {t_0 : ma_T} {post : ma_P} {Go : ma_G} {w : ma_W} {x1 : Int32} {x2 : Int32} {x3 : Int32} {x4 : Int32} (hGo : ma_cl k_MO_rowed zf_MO (e_MO_rowed t_0) none 1 s_MO_rowed post Go)
    (h : Go 5 [some (.inr 24), some (.inl x1), some (.inl x2), some (.inl x3), some (.inl (x4 + nI 1))] [] w) :
    Go 46 [some (.inr 24), some (.inl x1), some (.inl x2), some (.inl x3), some (.inl x4)] [] w := hGo 2 _ _ rfl _ _ _ h
theorem q_MO_rowed_52 {t_0 : ma_T} {post : ma_P} {Go : ma_G} {w : ma_W} {x1 : Int32} {x2 : Int32} {x3 : Int32} {x4 : Int32} (hGo : ma_cl k_MO_rowed zf_MO (e_MO_rowed t_0) none 1 s_MO_rowed post Go)
    (h : post (Int32.ofInt (-1)) w) :
    Go 52 [some (.inr 24), some (.inl x1), some (.inl x2), some (.inl x3), some (.inl x4)] [] w := hGo 3 _ _ rfl _ _ _ h
theorem q_MO_formed_0 {t_0 t_1 t_2 : ma_T} {post : ma_P} {Go : ma_G} {w : ma_W} {x1 : Int32} {o2 : Option ma_V} (hGo : ma_cl k_MO_formed zf_MO (e_MO_formed t_0 t_1 t_2) none 1 s_MO_formed post Go)
    (h : (x1 < (nI 0) → Go 12 [some (.inr 24), some (.inl x1), o2] [] w) ∧ (¬ (x1 < (nI 0)) → (x1 < (w.1 24 13) → Go 14 [some (.inr 24), some (.inl x1), o2] [] w) ∧ (¬ (x1 < (w.1 24 13)) → Go 12 [some (.inr 24), some (.inl x1), o2] [] w))) :
    Go 0 [some (.inr 24), some (.inl x1), o2] [] w := hGo 0 _ _ rfl _ _ _ h
theorem q_MO_formed_12 {t_0 t_1 t_2 : ma_T} {post : ma_P} {Go : ma_G} {w : ma_W} {x1 : Int32} {o2 : Option ma_V} (hGo : ma_cl k_MO_formed zf_MO (e_MO_formed t_0 t_1 t_2) none 1 s_MO_formed post Go)
    (h : post (Int32.ofInt (-1)) w) :
    Go 12 [some (.inr 24), some (.inl x1), o2] [] w := hGo 1 _ _ rfl _ _ _ h
theorem q_MO_formed_14 {t_0 t_1 t_2 : ma_T} {post : ma_P} {Go : ma_G} {w : ma_W} {x1 : Int32} {o2 : Option ma_V} (hGo : ma_cl k_MO_formed zf_MO (e_MO_formed t_0 t_1 t_2) none 1 s_MO_formed post Go)
    (h : t_0 [.inr 24] w (fun _ w1 => t_1 [.inr 24] w1 (fun z2 w2 => t_2 [.inr 24, .inl z2, .inl x1] w2 (fun z3 w3 => post z3 w3)))) :
    Go 14 [some (.inr 24), some (.inl x1), o2] [] w := hGo 2 _ _ rfl _ _ _ h
theorem q_MO_symmetries_0 {t_0 t_1 : ma_T} {post : ma_P} {Go : ma_G} {w : ma_W} (hGo : ma_cl k_MO_symmetries zf_MO (e_MO_symmetries t_0 t_1) none 1 s_MO_symmetries post Go)
    (h : (¬ (w.1 24 0) = (nI 0) → Go 9 [some (.inr 24)] [] w) ∧ (¬ (¬ (w.1 24 0) = (nI 0)) → post (Int32.ofInt (-1)) w)) :
    Go 0 [some (.inr 24)] [] w := hGo 0 _ _ rfl _ _ _ h
theorem q_MO_symmetries_9 {t_0 t_1 : ma_T} {post : ma_P} {Go : ma_G} {w : ma_W} (hGo : ma_cl k_MO_symmetries zf_MO (e_MO_symmetries t_0 t_1) none 1 s_MO_symmetries post Go)
    (h : t_0 [.inr 24] w (fun _ w1 => t_1 [.inr 24] w1 (fun z2 w2 => post z2 w2))) :
    Go 9 [some (.inr 24)] [] w := hGo 1 _ _ rfl _ _ _ h
theorem q_MO_find_0 {t_0 t_1 t_2 : ma_T} {post : ma_P} {Go : ma_G} {w : ma_W} {o1 : Option ma_V} {o2 : Option ma_V} {o3 : Option ma_V} {o4 : Option ma_V} (hGo : ma_cl k_MO_find zf_MO (e_MO_find t_0 t_1 t_2) none 1 s_MO_find post Go)
    (h : ((w.1 24 0) = (nI 0) → Go 18 [some (.inr 24), o1, o2, o3, o4] [] w) ∧ (¬ ((w.1 24 0) = (nI 0)) → ((w.1 24 13) = (w.1 24 4) → Go 20 [some (.inr 24), o1, o2, o3, o4] [] w) ∧ (¬ ((w.1 24 13) = (w.1 24 4)) → Go 18 [some (.inr 24), o1, o2, o3, o4] [] w))) :
    Go 0 [some (.inr 24), o1, o2, o3, o4] [] w := hGo 0 _ _ rfl _ _ _ h
theorem q_MO_find_18 {t_0 t_1 t_2 : ma_T} {post : ma_P} {Go : ma_G} {w : ma_W} {o1 : Option ma_V} {o2 : Option ma_V} {o3 : Option ma_V} {o4 : Option ma_V} (hGo : ma_cl k_MO_find zf_MO (e_MO_find t_0 t_1 t_2) none 1 s_MO_find post Go)
    (h : post (Int32.ofInt (-1)) w) :
    Go 18 [some (.inr 24), o1, o2, o3, o4] [] w := hGo 1 _ _ rfl _ _ _ h
theorem q_MO_find_20 {t_0 t_1 t_2 : ma_T} {post : ma_P} {Go : ma_G} {w : ma_W} {o1 : Option ma_V} {o2 : Option ma_V} {o3 : Option ma_V} {o4 : Option ma_V} (hGo : ma_cl k_MO_find zf_MO (e_MO_find t_0 t_1 t_2) none 1 s_MO_find post Go)
    (h : t_0 [.inr 24] w (fun _ w1 => t_1 [.inr 24] w1 (fun z2 w2 => Go 31 [some (.inr 24), some (.inl z2), some (.inl (nI 0)), o3, o4] [] w2))) :
    Go 20 [some (.inr 24), o1, o2, o3, o4] [] w := hGo 2 _ _ rfl _ _ _ h
theorem q_MO_find_31 {t_0 t_1 t_2 : ma_T} {post : ma_P} {Go : ma_G} {w : ma_W} {x1 : Int32} {x2 : Int32} {o3 : Option ma_V} {o4 : Option ma_V} (hGo : ma_cl k_MO_find zf_MO (e_MO_find t_0 t_1 t_2) none 1 s_MO_find post Go)
    (h : ((w.1 24 9) ≤ x2 → Go 103 [some (.inr 24), some (.inl x1), some (.inl x2), o3, o4] [] w) ∧ (¬ ((w.1 24 9) ≤ x2) → Go 44 [some (.inr 24), some (.inl x1), some (.inl x2), some (.inl (nI 1)), some (.inl (nI 0))] [] w)) :
    Go 31 [some (.inr 24), some (.inl x1), some (.inl x2), o3, o4] [] w := hGo 3 _ _ rfl _ _ _ h
theorem q_MO_find_44 {t_0 t_1 t_2 : ma_T} {post : ma_P} {Go : ma_G} {w : ma_W} {x1 : Int32} {x2 : Int32} {x3 : Int32} {x4 : Int32} (hGo : ma_cl k_MO_find zf_MO (e_MO_find t_0 t_1 t_2) none 1 s_MO_find post Go)
    (h : ((w.1 24 4) ≤ x4 → Go 91 [some (.inr 24), some (.inl x1), some (.inl x2), some (.inl x3), some (.inl x4)] [] w) ∧ (¬ ((w.1 24 4) ≤ x4) → (x3 = (nI 0) → Go 91 [some (.inr 24), some (.inl x1), some (.inl x2), some (.inl x3), some (.inl x4)] [] w) ∧ (¬ (x3 = (nI 0)) → ∃ j1 : Nat, j1 < 600 ∧ (((nI 10) * x2) + x4) = nI j1 ∧ (t_2 [.inr 24, .inl x1, .inl x4] w (fun z2 w2 => (¬ (w.2.2 27 j1) = z2 → Go 83 [some (.inr 24), some (.inl x1), some (.inl x2), some (.inl x3), some (.inl x4)] [] w2) ∧ (¬ (¬ (w.2.2 27 j1) = z2) → Go 84 [some (.inr 24), some (.inl x1), some (.inl x2), some (.inl x3), some (.inl x4)] [.inl (nI 1)] w2)))))) :
    Go 44 [some (.inr 24), some (.inl x1), some (.inl x2), some (.inl x3), some (.inl x4)] [] w := hGo 4 _ _ rfl _ _ _ h
theorem q_MO_find_83 {t_0 t_1 t_2 : ma_T} {post : ma_P} {Go : ma_G} {w : ma_W} {x1 : Int32} {x2 : Int32} {x3 : Int32} {x4 : Int32} (hGo : ma_cl k_MO_find zf_MO (e_MO_find t_0 t_1 t_2) none 1 s_MO_find post Go)
    (h : Go 84 [some (.inr 24), some (.inl x1), some (.inl x2), some (.inl x3), some (.inl x4)] [.inl (nI 0)] w) :
    Go 83 [some (.inr 24), some (.inl x1), some (.inl x2), some (.inl x3), some (.inl x4)] [] w := hGo 5 _ _ rfl _ _ _ h
theorem q_MO_find_84 {t_0 t_1 t_2 : ma_T} {post : ma_P} {Go : ma_G} {w : ma_W} {x1 : Int32} {x2 : Int32} {x3 : Int32} {x4 : Int32} {y0 : Int32} (hGo : ma_cl k_MO_find zf_MO (e_MO_find t_0 t_1 t_2) none 1 s_MO_find post Go)
    (h : Go 44 [some (.inr 24), some (.inl x1), some (.inl x2), some (.inl y0), some (.inl (x4 + nI 1))] [] w) :
    Go 84 [some (.inr 24), some (.inl x1), some (.inl x2), some (.inl x3), some (.inl x4)] [.inl y0] w := hGo 6 _ _ rfl _ _ _ h
theorem q_MO_find_91 {t_0 t_1 t_2 : ma_T} {post : ma_P} {Go : ma_G} {w : ma_W} {x1 : Int32} {x2 : Int32} {x3 : Int32} {x4 : Int32} (hGo : ma_cl k_MO_find zf_MO (e_MO_find t_0 t_1 t_2) none 1 s_MO_find post Go)
    (h : (x3 = (nI 0) → Go 97 [some (.inr 24), some (.inl x1), some (.inl x2), some (.inl x3), some (.inl x4)] [] w) ∧ (¬ (x3 = (nI 0)) → post x2 w)) :
    Go 91 [some (.inr 24), some (.inl x1), some (.inl x2), some (.inl x3), some (.inl x4)] [] w := hGo 7 _ _ rfl _ _ _ h
theorem q_MO_find_97 {t_0 t_1 t_2 : ma_T} {post : ma_P} {Go : ma_G} {w : ma_W} {x1 : Int32} {x2 : Int32} {x3 : Int32} {x4 : Int32} (hGo : ma_cl k_MO_find zf_MO (e_MO_find t_0 t_1 t_2) none 1 s_MO_find post Go)
    (h : Go 31 [some (.inr 24), some (.inl x1), some (.inl (x2 + nI 1)), some (.inl x3), some (.inl x4)] [] w) :
    Go 97 [some (.inr 24), some (.inl x1), some (.inl x2), some (.inl x3), some (.inl x4)] [] w := hGo 8 _ _ rfl _ _ _ h
theorem q_MO_find_103 {t_0 t_1 t_2 : ma_T} {post : ma_P} {Go : ma_G} {w : ma_W} {x1 : Int32} {x2 : Int32} {o3 : Option ma_V} {o4 : Option ma_V} (hGo : ma_cl k_MO_find zf_MO (e_MO_find t_0 t_1 t_2) none 1 s_MO_find post Go)
    (h : post (Int32.ofInt (-1)) w) :
    Go 103 [some (.inr 24), some (.inl x1), some (.inl x2), o3, o4] [] w := hGo 9 _ _ rfl _ _ _ h
end
section
/-! RENAMINGS as lists: σ takes the point p to σ.getD p 0; σ is a renaming of v points if it is a permutation of 0 .. v - 1. -/
def pm_all : Nat → List Nat → List (List Nat)
  | 0, _ => [[]]
  | n + 1, r => r.flatMap (fun q => (pm_all n (r.erase q)).map (fun t => q :: t))
theorem pm_mem : ∀ (n : Nat) (r : List Nat), r.length = n → ∀ s : List Nat, s ∈ pm_all n r ↔ s.Perm r
  | 0, r, h, s => by
    obtain rfl : r = [] := List.eq_nil_of_length_eq_zero h
    simp [pm_all]
  | n + 1, r, h, s => by
    simp only [pm_all, List.mem_flatMap, List.mem_map]
    constructor
    · rintro ⟨q, hq, t, ht, rfl⟩
      have hl : (r.erase q).length = n := by rw [List.length_erase_of_mem hq]; omega
      exact List.cons_perm_iff_perm_erase.mpr ⟨hq, (pm_mem n (r.erase q) hl t).mp ht⟩
    · intro hs
      cases s with
      | nil =>
        have := hs.length_eq
        rw [h] at this
        cases this
      | cons q t =>
        obtain ⟨hq, ht⟩ := List.cons_perm_iff_perm_erase.mp hs
        have hl : (r.erase q).length = n := by rw [List.length_erase_of_mem hq]; omega
        exact ⟨q, hq, t, (pm_mem n (r.erase q) hl t).mpr ht, rfl⟩
theorem pm_nodup : ∀ (n : Nat) (r : List Nat), r.length = n → r.Nodup → (pm_all n r).Nodup
  | 0, r, _, _ => by simp [pm_all]
  | n + 1, r, h, hr => by
    unfold List.Nodup
    simp only [pm_all]
    rw [List.pairwise_flatMap]
    refine ⟨fun q hq => ?_, ?_⟩
    · have hl : (r.erase q).length = n := by rw [List.length_erase_of_mem hq]; omega
      have := pm_nodup n (r.erase q) hl (hr.erase q)
      rw [List.pairwise_map]
      exact List.Pairwise.imp (fun h e => h (List.cons.inj e).2) this
    · refine List.Pairwise.imp (fun {a b} hab x hx y hy e => ?_) hr
      obtain ⟨_, _, rfl⟩ := List.mem_map.mp hx
      obtain ⟨_, _, rfl⟩ := List.mem_map.mp hy
      exact hab (List.cons.inj e).1
/-- all renamings of v points -/
def pm_P (v : Nat) : List (List Nat) := pm_all v (List.range v)
theorem pm_P_mem {v : Nat} {s : List Nat} : s ∈ pm_P v ↔ s.Perm (List.range v) := pm_mem v _ List.length_range s
theorem pm_P_nodup (v : Nat) : (pm_P v).Nodup := pm_nodup v _ List.length_range List.nodup_range
/-- composition: first t, then s -/
def pm_o (s t : List Nat) : List Nat := t.map (fun x => s.getD x 0)
/-- what s takes p to -/
theorem pm_len {v : Nat} {s : List Nat} (h : s.Perm (List.range v)) : s.length = v := by rw [h.length_eq, List.length_range]
theorem pm_lt {v : Nat} {s : List Nat} (h : s.Perm (List.range v)) {p : Nat} (hp : p < v) : s.getD p 0 < v := by
  have hl : p < s.length := by rw [pm_len h]; exact hp
  rw [List.getD_eq_getElem?_getD, List.getElem?_eq_getElem hl]
  exact List.mem_range.mp (h.mem_iff.mp (List.getElem_mem hl))
theorem pm_nd {v : Nat} {s : List Nat} (h : s.Perm (List.range v)) : s.Nodup := (h.nodup_iff).mpr List.nodup_range
theorem pm_inj {v : Nat} {s : List Nat} (h : s.Perm (List.range v)) {p q : Nat} (hp : p < v) (hq : q < v) (e : s.getD p 0 = s.getD q 0) : p = q := by
  have h1 : p < s.length := by rw [pm_len h]; exact hp
  have h2 : q < s.length := by rw [pm_len h]; exact hq
  rw [List.getD_eq_getElem?_getD, List.getD_eq_getElem?_getD, List.getElem?_eq_getElem h1, List.getElem?_eq_getElem h2] at e
  have e : s[p] = s[q] := e
  rcases Nat.lt_trichotomy p q with hl | hl | hl
  · exact absurd e (List.pairwise_iff_getElem.mp (pm_nd h) p q h1 h2 hl)
  · exact hl
  · exact absurd e.symm (List.pairwise_iff_getElem.mp (pm_nd h) q p h2 h1 hl)
theorem pm_sur {v : Nat} {s : List Nat} (h : s.Perm (List.range v)) {y : Nat} (hy : y < v) : ∃ p, p < v ∧ s.getD p 0 = y := by
  obtain ⟨p, hp, e⟩ := List.getElem_of_mem (h.mem_iff.mpr (List.mem_range.mpr hy))
  refine ⟨p, by rw [← pm_len h]; exact hp, ?_⟩
  rw [List.getD_eq_getElem?_getD, List.getElem?_eq_getElem hp]
  exact e
theorem pm_o_at {s t : List Nat} {p : Nat} (hp : p < t.length) : (pm_o s t).getD p 0 = s.getD (t.getD p 0) 0 := by
  simp [pm_o, List.getD_eq_getElem?_getD, List.getElem?_map, List.getElem?_eq_getElem hp]
theorem pm_range_self {v : Nat} {s : List Nat} (h : s.length = v) : (List.range v).map (fun x => s.getD x 0) = s := by
  apply List.ext_getElem?
  intro k
  by_cases hk : k < v
  · rw [List.getElem?_map, List.getElem?_range hk, Option.map_some, List.getElem?_eq_getElem (by omega)]
    simp [List.getD_eq_getElem?_getD, List.getElem?_eq_getElem (show k < s.length by omega)]
  · rw [List.getElem?_eq_none (by simp; omega), List.getElem?_eq_none (by omega)]
theorem pm_o_perm {v : Nat} {s t : List Nat} (hs : s.Perm (List.range v)) (ht : t.Perm (List.range v)) : (pm_o s t).Perm (List.range v) := by
  have h1 : (pm_o s t).Perm ((List.range v).map (fun x => s.getD x 0)) := ht.map _
  rw [pm_range_self (pm_len hs)] at h1
  exact h1.trans hs
/-- the other way -/
def pm_i (v : Nat) (s : List Nat) : List Nat := (List.range v).map (fun y => s.idxOf y)
theorem pm_i_at {v : Nat} {s : List Nat} (h : s.Perm (List.range v)) {p : Nat} (hp : p < v) : (pm_i v s).getD (s.getD p 0) 0 = p := by
  have hl : p < s.length := by rw [pm_len h]; exact hp
  have hy := pm_lt h hp
  simp only [pm_i, List.getD_eq_getElem?_getD, List.getElem?_map, List.getElem?_eq_getElem hl, Option.getD_some] at hy ⊢
  rw [List.getElem?_range hy]
  simp only [Option.map_some, Option.getD_some]
  exact List.Nodup.idxOf_getElem (pm_nd h) p hl
theorem pm_i_lt {v : Nat} {s : List Nat} (h : s.Perm (List.range v)) {y : Nat} (hy : y < v) : (pm_i v s).getD y 0 < v ∧ s.getD ((pm_i v s).getD y 0) 0 = y := by
  obtain ⟨p, hp, e⟩ := pm_sur h hy
  rw [← e, pm_i_at h hp]
  exact ⟨hp, rfl⟩
theorem pm_i_perm {v : Nat} {s : List Nat} (h : s.Perm (List.range v)) : (pm_i v s).Perm (List.range v) := by
  have hl : (pm_i v s).length = v := by simp [pm_i]
  refine (List.perm_ext_iff_of_nodup ?_ List.nodup_range).mpr (fun a => ?_)
  · unfold List.Nodup pm_i
    rw [List.pairwise_map]
    refine List.Pairwise.imp_of_mem (fun {a b} ha hb hab e => hab ?_) (List.nodup_range (n := v))
    have h1 := (pm_i_lt h (List.mem_range.mp ha)).2
    have h2 := (pm_i_lt h (List.mem_range.mp hb)).2
    have ea : (pm_i v s).getD a 0 = s.idxOf a := by
      simp [pm_i, List.getD_eq_getElem?_getD, List.getElem?_range (List.mem_range.mp ha)]
    have eb : (pm_i v s).getD b 0 = s.idxOf b := by
      simp [pm_i, List.getD_eq_getElem?_getD, List.getElem?_range (List.mem_range.mp hb)]
    rw [ea, e, ← eb, h2] at h1
    exact h1.symm
  · constructor
    · intro ha
      obtain ⟨y, hy, rfl⟩ := List.mem_map.mp ha
      have := (pm_i_lt h (List.mem_range.mp hy)).1
      have ey : (pm_i v s).getD y 0 = s.idxOf y := by
        simp [pm_i, List.getD_eq_getElem?_getD, List.getElem?_range (List.mem_range.mp hy)]
      rw [ey] at this
      exact List.mem_range.mpr this
    · intro ha
      have hav := List.mem_range.mp ha
      have h1 := pm_i_at h hav
      have hy := pm_lt h hav
      rw [← h1, List.getD_eq_getElem?_getD, List.getElem?_eq_getElem (by rw [hl]; exact hy)]
      exact List.getElem_mem _
/-- a list without repeats that a map takes into itself, no two to one, is permuted by it -/
theorem pm_mapP {α : Type} {l : List α} {g : α → α} (hn : l.Nodup) (hin : ∀ a ∈ l, g a ∈ l) (hinj : ∀ a ∈ l, ∀ b ∈ l, g a = g b → a = b) (hsur : ∀ b ∈ l, ∃ a ∈ l, g a = b) : (l.map g).Perm l := by
  refine (List.perm_ext_iff_of_nodup ?_ hn).mpr (fun a => ?_)
  · unfold List.Nodup
    rw [List.pairwise_map]
    exact List.Pairwise.imp_of_mem (fun {a b} ha hb hab e => hab (hinj a ha b hb e)) hn
  · constructor
    · intro h
      obtain ⟨b, hb, rfl⟩ := List.mem_map.mp h
      exact hin b hb
    · intro h
      obtain ⟨b, hb, e⟩ := hsur a h
      exact List.mem_map.mpr ⟨b, hb, e⟩
theorem pm_ext {v : Nat} {s t : List Nat} (hs : s.length = v) (ht : t.length = v) (h : ∀ p, p < v → s.getD p 0 = t.getD p 0) : s = t := by
  rw [← pm_range_self hs, ← pm_range_self ht]
  exact List.map_congr_left (fun p hp => h p (List.mem_range.mp hp))
/-- right and left translations permute the renamings -/
theorem pm_right {v : Nat} {t : List Nat} (ht : t.Perm (List.range v)) : ((pm_P v).map (fun s => pm_o s t)).Perm (pm_P v) := by
  refine pm_mapP (pm_P_nodup v) (fun s hs => pm_P_mem.mpr (pm_o_perm (pm_P_mem.mp hs) ht)) (fun a ha b hb e => ?_) (fun b hb => ⟨pm_o b (pm_i v t), pm_P_mem.mpr (pm_o_perm (pm_P_mem.mp hb) (pm_i_perm ht)), ?_⟩)
  · have ha := pm_P_mem.mp ha
    have hb := pm_P_mem.mp hb
    refine pm_ext (pm_len ha) (pm_len hb) (fun y hy => ?_)
    obtain ⟨p, hp, rfl⟩ := pm_sur ht hy
    have hl : p < t.length := by rw [pm_len ht]; exact hp
    rw [← pm_o_at (s := a) hl, ← pm_o_at (s := b) hl, e]
  · have hb := pm_P_mem.mp hb
    have hi := pm_i_perm ht
    refine pm_ext (pm_len (pm_o_perm (pm_o_perm hb hi) ht)) (pm_len hb) (fun p hp => ?_)
    have hl : p < t.length := by rw [pm_len ht]; exact hp
    have h2 : t.getD p 0 < (pm_i v t).length := by rw [pm_len hi]; exact pm_lt ht hp
    rw [pm_o_at hl, pm_o_at h2, pm_i_at ht hp]
theorem pm_left {v : Nat} {t : List Nat} (ht : t.Perm (List.range v)) : ((pm_P v).map (fun s => pm_o t s)).Perm (pm_P v) := by
  refine pm_mapP (pm_P_nodup v) (fun s hs => pm_P_mem.mpr (pm_o_perm ht (pm_P_mem.mp hs))) (fun a ha b hb e => ?_) (fun b hb => ⟨pm_o (pm_i v t) b, pm_P_mem.mpr (pm_o_perm (pm_i_perm ht) (pm_P_mem.mp hb)), ?_⟩)
  · have ha := pm_P_mem.mp ha
    have hb := pm_P_mem.mp hb
    refine pm_ext (pm_len ha) (pm_len hb) (fun p hp => ?_)
    have h1 : p < a.length := by rw [pm_len ha]; exact hp
    have h2 : p < b.length := by rw [pm_len hb]; exact hp
    have : (pm_o t a).getD p 0 = (pm_o t b).getD p 0 := congrArg (fun z => z.getD p 0) e
    rw [pm_o_at h1, pm_o_at h2] at this
    exact pm_inj ht (pm_lt ha hp) (pm_lt hb hp) this
  · have hb := pm_P_mem.mp hb
    have hi := pm_i_perm ht
    refine pm_ext (pm_len (pm_o_perm ht (pm_o_perm hi hb))) (pm_len hb) (fun p hp => ?_)
    have h1 : p < b.length := by rw [pm_len hb]; exact hp
    have h2 : p < (pm_o (pm_i v t) b).length := by rw [pm_len (pm_o_perm hi hb)]; exact hp
    rw [pm_o_at h2, pm_o_at h1]
    exact (pm_i_lt ht (pm_lt hb hp)).2
/-! masks: the image of a mask under a list of points -/
def pm_img : List Nat → Nat → Nat → Nat
  | [], _, _ => 0
  | q :: s, p, m => (if m.testBit p then 2 ^ q else 0) ||| pm_img s (p + 1) m
/-- the image of the mask m -/
def pm_im (s : List Nat) (m : Nat) : Nat := pm_img s 0 m
theorem pm_img_bit (m y : Nat) : ∀ (s : List Nat) (p : Nat), (pm_img s p m).testBit y = true ↔ ∃ k, k < s.length ∧ m.testBit (p + k) = true ∧ s.getD k 0 = y
  | [], p => by simp [pm_img]
  | q :: s, p => by
    rw [pm_img, Nat.testBit_or, Bool.or_eq_true, pm_img_bit m y s (p + 1)]
    constructor
    · rintro (h | ⟨k, hk, h1, h2⟩)
      · refine ⟨0, by simp, ?_⟩
        split at h
        · rename_i hm
          rw [Nat.testBit_two_pow] at h
          exact ⟨hm, by simpa using h⟩
        · simp at h
      · exact ⟨k + 1, by simpa using hk, by rw [← h1]; congr 1; omega, by simpa using h2⟩
    · rintro ⟨k, hk, h1, h2⟩
      cases k with
      | zero =>
        left
        simp only [Nat.add_zero] at h1
        rw [if_pos h1, Nat.testBit_two_pow]
        simpa using h2
      | succ k =>
        right
        exact ⟨k, by simpa using hk, by rw [← h1]; congr 1; omega, by simpa using h2⟩
theorem pm_im_bit {s : List Nat} {m y : Nat} : (pm_im s m).testBit y = true ↔ ∃ p, p < s.length ∧ m.testBit p = true ∧ s.getD p 0 = y := by
  rw [pm_im, pm_img_bit]
  simp
end
section
/-! masks under renamings; rows; the greatest row -/
def pm_cnt (v m : Nat) : Nat := (List.range v).countP (fun p => m.testBit p)
theorem pm_im_lt {v : Nat} {s : List Nat} (hs : s.Perm (List.range v)) (m : Nat) : pm_im s m < 2 ^ v := by
  apply Nat.lt_pow_two_of_testBit
  intro y hy
  cases h : (pm_im s m).testBit y with
  | false => rfl
  | true =>
    obtain ⟨p, hp, -, e⟩ := pm_im_bit.mp h
    have := pm_lt hs (show p < v by rw [← pm_len hs]; exact hp)
    omega
theorem pm_bit_at {v : Nat} {s : List Nat} (hs : s.Perm (List.range v)) (m : Nat) {p : Nat} (hp : p < v) : (pm_im s m).testBit (s.getD p 0) = m.testBit p := by
  rw [Bool.eq_iff_iff, pm_im_bit]
  constructor
  · rintro ⟨q, hq, h1, e⟩
    rw [← pm_inj hs (by rw [← pm_len hs]; exact hq) hp e]
    exact h1
  · intro h
    exact ⟨p, by rw [pm_len hs]; exact hp, h, rfl⟩
theorem pm_cnt_im {v : Nat} {s : List Nat} (hs : s.Perm (List.range v)) (m : Nat) : pm_cnt v (pm_im s m) = pm_cnt v m := by
  unfold pm_cnt
  have e : s.countP (fun p => (pm_im s m).testBit p) = ((List.range v).map (fun x => s.getD x 0)).countP (fun p => (pm_im s m).testBit p) := by rw [pm_range_self (pm_len hs)]
  rw [← hs.countP_eq, e, List.countP_map]
  apply List.countP_congr
  intro p hp
  have := pm_bit_at hs m (List.mem_range.mp hp)
  simp only [Function.comp_apply, this]
theorem pm_im_o {v : Nat} {s t : List Nat} (hs : s.Perm (List.range v)) (ht : t.Perm (List.range v)) (m : Nat) : pm_im (pm_o s t) m = pm_im s (pm_im t m) := by
  apply Nat.eq_of_testBit_eq
  intro y
  rw [Bool.eq_iff_iff, pm_im_bit, pm_im_bit]
  constructor
  · rintro ⟨p, hp, h1, e⟩
    have hp' : p < v := by rw [← pm_len (pm_o_perm hs ht)]; exact hp
    have hpt : p < t.length := by rw [pm_len ht]; exact hp'
    rw [pm_o_at hpt] at e
    exact ⟨t.getD p 0, by rw [pm_len hs]; exact pm_lt ht hp', by rw [pm_bit_at ht m hp']; exact h1, e⟩
  · rintro ⟨x, hx, h1, e⟩
    obtain ⟨p, hp, h2, rfl⟩ := pm_im_bit.mp h1
    exact ⟨p, by rw [pm_len (pm_o_perm hs ht), ← pm_len ht]; exact hp, h2, by rw [pm_o_at hp]; exact e⟩
theorem pm_lt_of_bit {v m y : Nat} (hm : m < 2 ^ v) (h : m.testBit y = true) : y < v := by
  rcases Nat.lt_or_ge y v with h1 | h1
  · exact h1
  · have : m < 2 ^ y := Nat.lt_of_lt_of_le hm (Nat.pow_le_pow_right (by decide) h1)
    rw [Nat.testBit_lt_two_pow this] at h
    cases h
theorem pm_range_at {v p : Nat} (h : p < v) : (List.range v).getD p 0 = p := by
  simp [List.getD_eq_getElem?_getD, List.getElem?_range h]
theorem pm_im_id {v m : Nat} (hm : m < 2 ^ v) : pm_im (List.range v) m = m := by
  apply Nat.eq_of_testBit_eq
  intro y
  rw [Bool.eq_iff_iff, pm_im_bit]
  constructor
  · rintro ⟨p, hp, h1, e⟩
    rw [List.length_range] at hp
    rw [pm_range_at hp] at e
    rw [← e]; exact h1
  · intro h
    have hy := pm_lt_of_bit hm h
    exact ⟨y, by rw [List.length_range]; exact hy, h, pm_range_at hy⟩
theorem pm_im_inv {v m : Nat} {s : List Nat} (hs : s.Perm (List.range v)) (hm : m < 2 ^ v) : pm_im (pm_i v s) (pm_im s m) = m := by
  rw [← pm_im_o (pm_i_perm hs) hs]
  have : pm_o (pm_i v s) s = List.range v := by
    refine pm_ext (pm_len (pm_o_perm (pm_i_perm hs) hs)) List.length_range (fun p hp => ?_)
    rw [pm_o_at (by rw [pm_len hs]; exact hp), pm_i_at hs hp, pm_range_at hp]
  rw [this, pm_im_id hm]
theorem pm_im_inv2 {v m : Nat} {s : List Nat} (hs : s.Perm (List.range v)) (hm : m < 2 ^ v) : pm_im s (pm_im (pm_i v s) m) = m := by
  rw [← pm_im_o hs (pm_i_perm hs)]
  have : pm_o s (pm_i v s) = List.range v := by
    refine pm_ext (pm_len (pm_o_perm hs (pm_i_perm hs))) List.length_range (fun p hp => ?_)
    rw [pm_o_at (by rw [pm_len (pm_i_perm hs)]; exact hp), (pm_i_lt hs hp).2, pm_range_at hp]
  rw [this, pm_im_id hm]
/-- the kinds of blocks, the least mask first -/
def fm_K (v k : Nat) : List Nat := (List.range (2 ^ v)).filter (fun m => pm_cnt v m == k)
theorem fm_K_mem {v k m : Nat} : m ∈ fm_K v k ↔ m < 2 ^ v ∧ pm_cnt v m = k := by simp [fm_K]
theorem fm_K_im {v k m : Nat} {s : List Nat} (hs : s.Perm (List.range v)) (h : m ∈ fm_K v k) : pm_im s m ∈ fm_K v k := fm_K_mem.mpr ⟨pm_im_lt hs m, by rw [pm_cnt_im hs]; exact (fm_K_mem.mp h).2⟩
/-- the row of numbers of the laying f behind the renaming s -/
def fm_row (K : List Nat) (f : Nat → Nat) (s : List Nat) : List Int := K.map (fun b => (f (pm_im s b) : Int))
theorem fm_row_len {K : List Nat} {f : Nat → Nat} {s : List Nat} : (fm_row K f s).length = K.length := by simp [fm_row]
theorem fm_row_eq {K : List Nat} {f g : Nat → Nat} {s t : List Nat} : fm_row K f s = fm_row K g t ↔ ∀ b ∈ K, f (pm_im s b) = g (pm_im t b) := by
  constructor
  · intro h b hb
    have := List.map_inj_left.mp h b hb
    exact Int.ofNat.inj this
  · intro h
    exact List.map_congr_left (fun b hb => by rw [h b hb])
def fm_ord (v : Nat) (K : List Nat) (f : Nat → Nat) : Nat := (pm_P v).countP (fun t => fm_row K f t == fm_row K f (List.range v))
/-- as many renamings lead to a row that comes as there are renamings of the laying to itself -/
theorem fm_coset {v k : Nat} {f : Nat → Nat} {s : List Nat} (hs : s.Perm (List.range v)) : (pm_P v).countP (fun t => fm_row (fm_K v k) f t == fm_row (fm_K v k) f s) = fm_ord v (fm_K v k) f := by
  unfold fm_ord
  rw [← (pm_right (pm_i_perm hs)).countP_eq (fun t => fm_row (fm_K v k) f t == fm_row (fm_K v k) f (List.range v)), List.countP_map]
  apply List.countP_congr
  intro t ht
  have ht := pm_P_mem.mp ht
  simp only [Function.comp_apply, beq_iff_eq, fm_row_eq]
  constructor
  · intro h b hb
    have hb1 := (fm_K_mem.mp hb).1
    rw [pm_im_o ht (pm_i_perm hs), h _ (fm_K_im (pm_i_perm hs) hb), pm_im_inv2 hs hb1, pm_im_id hb1]
  · intro h b hb
    have hb1 := (fm_K_mem.mp hb).1
    have := h _ (fm_K_im hs hb)
    rw [pm_im_o ht (pm_i_perm hs), pm_im_inv hs hb1, pm_im_id (fm_K_mem.mp (fm_K_im hs hb)).1] at this
    exact this
/-! the order of rows of numbers -/
def lx_gt : List Int → List Int → Bool
  | x :: a, y :: b => decide (y < x) || (decide (x = y) && lx_gt a b)
  | _, _ => false
theorem lx_irr : ∀ a : List Int, lx_gt a a = false
  | [] => rfl
  | x :: a => by simp [lx_gt, lx_irr a]
theorem lx_tri : ∀ (a b : List Int), a.length = b.length → a = b ∨ lx_gt a b = true ∨ lx_gt b a = true
  | [], [], _ => Or.inl rfl
  | [], _ :: _, h => by simp at h
  | _ :: _, [], h => by simp at h
  | x :: a, y :: b, h => by
    have hl : a.length = b.length := by simpa using h
    rcases Int.lt_trichotomy x y with h1 | h1 | h1
    · right; right; simp [lx_gt, h1]
    · subst h1
      rcases lx_tri a b hl with h2 | h2 | h2
      · left; rw [h2]
      · right; left; simp [lx_gt, h2]
      · right; right; simp [lx_gt, h2]
    · right; left; simp [lx_gt, h1]
theorem lx_trans : ∀ (a b c : List Int), lx_gt a b = true → lx_gt b c = true → lx_gt a c = true
  | x :: a, y :: b, z :: c, h1, h2 => by
    simp only [lx_gt, Bool.or_eq_true, Bool.and_eq_true, decide_eq_true_eq] at h1 h2 ⊢
    rcases h1 with h1 | ⟨h1, h3⟩ <;> rcases h2 with h2 | ⟨h2, h4⟩
    · left; omega
    · left; omega
    · left; omega
    · right; exact ⟨by omega, lx_trans a b c h3 h4⟩
  | [], _, _, h1, _ => by simp [lx_gt] at h1
  | _ :: _, [], _, h1, _ => by simp [lx_gt] at h1
  | _ :: _, _ :: _, [], _, h2 => by simp [lx_gt] at h2
theorem lx_asym {a b : List Int} (h : lx_gt a b = true) : lx_gt b a = false := by
  cases h2 : lx_gt b a with
  | false => rfl
  | true =>
    have := lx_trans a b a h h2
    rw [lx_irr] at this
    cases this
/-- the best so far and how often it came -/
def lx_step {β : Type} (R : β → List Int) (st : List Int × Nat) (t : β) : List Int × Nat := if lx_gt (R t) st.1 then (R t, 1) else if R t = st.1 then (st.1, st.2 + 1) else st
theorem lx_fold {β : Type} (R : β → List Int) (n : Nat) (hR : ∀ t, (R t).length = n) : ∀ (l : List β) (st : List Int × Nat), st.1.length = n →
    (l.foldl (lx_step R) st).1.length = n ∧ (∀ t ∈ l, lx_gt (R t) (l.foldl (lx_step R) st).1 = false) ∧ lx_gt st.1 (l.foldl (lx_step R) st).1 = false ∧
    ((l.foldl (lx_step R) st).1 = st.1 ∨ ∃ t ∈ l, R t = (l.foldl (lx_step R) st).1) ∧
    (l.foldl (lx_step R) st).2 = (if (l.foldl (lx_step R) st).1 = st.1 then st.2 else 0) + l.countP (fun t => R t == (l.foldl (lx_step R) st).1)
  | [], st, h => by simp [h, lx_irr]
  | t :: l, st, h => by
    rw [List.foldl_cons]
    by_cases h1 : lx_gt (R t) st.1 = true
    · have e : lx_step R st t = (R t, 1) := by simp [lx_step, h1]
      rw [e]
      obtain ⟨a1, a2, a3, a4, a5⟩ := lx_fold R n hR l (R t, 1) (hR t)
      generalize hr : l.foldl (lx_step R) (R t, 1) = r at a1 a2 a3 a4 a5 ⊢
      have hgt : lx_gt st.1 r.1 = false := by
        cases hq : lx_gt st.1 r.1 with
        | false => rfl
        | true =>
          have := lx_trans _ _ _ h1 hq
          rw [a3] at this; cases this
      have hne : ¬ r.1 = st.1 := fun q => by rw [q, h1] at a3; cases a3
      refine ⟨a1, fun u hu => ?_, hgt, Or.inr ?_, ?_⟩
      · rcases List.mem_cons.mp hu with rfl | hu
        · exact a3
        · exact a2 u hu
      · rcases a4 with a4 | ⟨u, hu, e⟩
        · exact ⟨t, List.mem_cons_self, a4.symm⟩
        · exact ⟨u, List.mem_cons_of_mem _ hu, e⟩
      · rw [a5, if_neg hne, List.countP_cons]
        by_cases hq : r.1 = R t
        · simp [hq]; omega
        · have : (R t == r.1) = false := by simp; exact fun z => hq z.symm
          simp [hq, this]
    · by_cases h2 : R t = st.1
      · have e : lx_step R st t = (st.1, st.2 + 1) := by simp [lx_step, h1, h2, lx_irr]
        rw [e]
        obtain ⟨a1, a2, a3, a4, a5⟩ := lx_fold R n hR l (st.1, st.2 + 1) h
        generalize hr : l.foldl (lx_step R) (st.1, st.2 + 1) = r at a1 a2 a3 a4 a5 ⊢
        refine ⟨a1, fun u hu => ?_, a3, ?_, ?_⟩
        · rcases List.mem_cons.mp hu with rfl | hu
          · rw [h2]; exact a3
          · exact a2 u hu
        · rcases a4 with a4 | ⟨u, hu, e⟩
          · exact Or.inl a4
          · exact Or.inr ⟨u, List.mem_cons_of_mem _ hu, e⟩
        · rw [a5, List.countP_cons, h2]
          by_cases hq : r.1 = st.1
          · simp [hq]; omega
          · have : (st.1 == r.1) = false := by simp; exact fun z => hq z.symm
            simp [hq, this]
      · have e : lx_step R st t = st := by simp [lx_step, h1, h2]
        rw [e]
        obtain ⟨a1, a2, a3, a4, a5⟩ := lx_fold R n hR l st h
        generalize hr : l.foldl (lx_step R) st = r at a1 a2 a3 a4 a5 ⊢
        have h3 : lx_gt st.1 (R t) = true := by
          rcases lx_tri (R t) st.1 (by rw [hR, h]) with q | q | q
          · exact absurd q h2
          · exact absurd q h1
          · exact q
        have h4 : lx_gt (R t) r.1 = false := by
          cases hq : lx_gt (R t) r.1 with
          | false => rfl
          | true =>
            have := lx_trans _ _ _ h3 hq
            rw [a3] at this; cases this
        have h5 : ¬ R t = r.1 := fun q => by rw [← q, h3] at a3; cases a3
        refine ⟨a1, fun u hu => ?_, a3, ?_, ?_⟩
        · rcases List.mem_cons.mp hu with rfl | hu
          · exact h4
          · exact a2 u hu
        · rcases a4 with a4 | ⟨u, hu, e⟩
          · exact Or.inl a4
          · exact Or.inr ⟨u, List.mem_cons_of_mem _ hu, e⟩
        · rw [a5, List.countP_cons]
          simp [h5]
end
section
/-! THE SEARCH of the Former, as a function, and what it finds -/
/-- a state: the best row so far, how many renamings led to it, whether the first was beaten, the least images -/
abbrev se_S : Type := List Int × Nat × Bool × List Nat
def se_mk (best : List Int) (j : Nat) (x : Int) : List Int := best.take j ++ x :: List.replicate (best.length - (j + 1)) (-1)
theorem se_mk_len {best : List Int} {j : Nat} {x : Int} (h : j < best.length) : (se_mk best j x).length = best.length := by
  simp [se_mk]; omega
theorem se_mk_lt {best : List Int} {j : Nat} {x : Int} (h : j < best.length) {i : Nat} (hi : i < j) : (se_mk best j x).getD i 0 = best.getD i 0 := by
  simp only [se_mk, List.getD_eq_getElem?_getD]
  rw [List.getElem?_append_left (by simp; omega), List.getElem?_take_of_lt hi]
theorem se_mk_at {best : List Int} {j : Nat} {x : Int} (h : j < best.length) : (se_mk best j x).getD j 0 = x := by
  have hl : (best.take j).length = j := by simp; omega
  simp only [se_mk, List.getD_eq_getElem?_getD]
  rw [List.getElem?_append_right (by omega), hl, Nat.sub_self]
  rfl
theorem se_mk_gt {best : List Int} {j : Nat} {x : Int} (h : j < best.length) {i : Nat} (hi : j < i) (hl : i < best.length) : (se_mk best j x).getD i 0 = -1 := by
  have hl2 : (best.take j).length = j := by simp; omega
  simp only [se_mk, List.getD_eq_getElem?_getD]
  rw [List.getElem?_append_right (by omega), hl2, show i - j = (i - j - 1) + 1 by omega, List.getElem?_cons_succ, List.getElem?_replicate_of_lt (by omega)]
  rfl
/-- isAsGood: the kinds numbered js are looked at; num: how often each comes -/
def se_as (stop : Bool) (num : Nat → Int) : List Nat → List Int × Nat × Bool → Bool × List Int × Nat × Bool
  | [], b => (true, b)
  | j :: js, b =>
    if num j < b.1.getD j 0 then (false, b)
    else if b.1.getD j 0 < num j then
      if stop then (false, b.1, b.2.1, true) else se_as stop num js (se_mk b.1 j (num j), 0, true)
    else se_as stop num js b
def se_cnt (p : List Nat) (st : se_S) : se_S := (st.1, st.2.1 + 1, st.2.2.1, (List.range st.2.2.2.length).map (fun i => if i < p.length then min (st.2.2.2.getD i 0) (p.getD i 0) else st.2.2.2.getD i 0))
/-- how many of the kinds K lie within the points before t -/
def se_kb (K : List Nat) (t : Nat) : Nat := K.countP (fun m => decide (m < 2 ^ t))
def se_num (K : List Nat) (f : Nat → Nat) (p : List Nat) (j : Nat) : Int := (f (pm_im p (K.getD j 0)) : Int)
/-- tryPoint and tryPointsFor: p is settled, r is left -/
def se_try (stop : Bool) (K : List Nat) (f : Nat → Nat) (go : List Nat → List Nat → se_S → se_S) (p r : List Nat) (st : se_S) (q : Nat) : se_S :=
  if (st.2.2.1 && stop) = true then st else
    if (se_as stop (se_num K f (p ++ [q])) (List.range' (se_kb K p.length) (se_kb K (p.length + 1) - se_kb K p.length)) (st.1, st.2.1, st.2.2.1)).1 = true then
      go (p ++ [q]) (r.erase q) ((se_as stop (se_num K f (p ++ [q])) (List.range' (se_kb K p.length) (se_kb K (p.length + 1) - se_kb K p.length)) (st.1, st.2.1, st.2.2.1)).2.1, (se_as stop (se_num K f (p ++ [q])) (List.range' (se_kb K p.length) (se_kb K (p.length + 1) - se_kb K p.length)) (st.1, st.2.1, st.2.2.1)).2.2.1, (se_as stop (se_num K f (p ++ [q])) (List.range' (se_kb K p.length) (se_kb K (p.length + 1) - se_kb K p.length)) (st.1, st.2.1, st.2.2.1)).2.2.2, st.2.2.2)
    else ((se_as stop (se_num K f (p ++ [q])) (List.range' (se_kb K p.length) (se_kb K (p.length + 1) - se_kb K p.length)) (st.1, st.2.1, st.2.2.1)).2.1, (se_as stop (se_num K f (p ++ [q])) (List.range' (se_kb K p.length) (se_kb K (p.length + 1) - se_kb K p.length)) (st.1, st.2.1, st.2.2.1)).2.2.1, (se_as stop (se_num K f (p ++ [q])) (List.range' (se_kb K p.length) (se_kb K (p.length + 1) - se_kb K p.length)) (st.1, st.2.1, st.2.2.1)).2.2.2, st.2.2.2)
def se_all (stop : Bool) (K : List Nat) (f : Nat → Nat) : Nat → List Nat → List Nat → se_S → se_S
  | 0, p, _, st => se_cnt p st
  | n + 1, p, r, st => r.foldl (se_try stop K f (se_all stop K f n) p r) st
/-! what isAsGood answers -/
theorem se_as_more {num : Nat → Int} (hnum : ∀ j, 0 ≤ num j) (n b : Nat) : ∀ (k a : Nat) (best : List Int) (cnt : Nat) (bt : Bool), a + k = b → b ≤ n → best.length = n → (∀ i, i < a → best.getD i 0 = num i) → (∀ i, a ≤ i → i < n → best.getD i 0 = -1) → (k = 0 → cnt = 0 ∧ bt = true) →
    ∃ best1, se_as false num (List.range' a k) (best, cnt, bt) = (true, best1, 0, true) ∧ best1.length = n ∧ (∀ i, i < b → best1.getD i 0 = num i) ∧ ∀ i, b ≤ i → i < n → best1.getD i 0 = -1
  | 0, a, best, cnt, bt, h, hb, hl, h1, h2, h0 => by
    obtain ⟨rfl, rfl⟩ := h0 rfl
    refine ⟨best, by simp [se_as], hl, ?_, ?_⟩
    · intro i hi; exact h1 i (by omega)
    · intro i hi; exact h2 i (by omega)
  | k + 1, a, best, cnt, bt, h, hb, hl, h1, h2, h0 => by
    have ha : best.getD a 0 = -1 := h2 a (Nat.le_refl _) (by omega)
    have hn := hnum a
    have hlt : a < best.length := by omega
    obtain ⟨best1, e, r⟩ := se_as_more hnum n b k (a + 1) (se_mk best a (num a)) 0 true (by omega) hb (by rw [se_mk_len hlt]; exact hl) (fun i hi => by
      by_cases hia : i = a
      · subst hia; exact se_mk_at hlt
      · rw [se_mk_lt hlt (by omega)]; exact h1 i (by omega)) (fun i hi hi2 => se_mk_gt hlt (by omega) (by omega)) (fun _ => ⟨rfl, rfl⟩)
    refine ⟨best1, ?_, r⟩
    rw [List.range'_succ, se_as, if_neg (by rw [ha]; omega), if_pos (by rw [ha]; omega)]
    exact e
theorem se_as_spec {num : Nat → Int} (hnum : ∀ j, 0 ≤ num j) (stop : Bool) (n b : Nat) : ∀ (k a : Nat) (best : List Int) (cnt : Nat) (bt : Bool), a + k = b → b ≤ n → best.length = n → (∀ i, i < a → best.getD i 0 = num i) →
    ((∃ j, j < b ∧ (∀ i, i < j → best.getD i 0 = num i) ∧ num j < best.getD j 0) ∧ se_as stop num (List.range' a k) (best, cnt, bt) = (false, best, cnt, bt)) ∨
    ((∀ i, i < b → best.getD i 0 = num i) ∧ se_as stop num (List.range' a k) (best, cnt, bt) = (true, best, cnt, bt)) ∨
    ((∃ j, j < b ∧ (∀ i, i < j → best.getD i 0 = num i) ∧ best.getD j 0 < num j) ∧ ((stop = true ∧ se_as stop num (List.range' a k) (best, cnt, bt) = (false, best, cnt, true)) ∨
      (stop = false ∧ ∃ best1, se_as stop num (List.range' a k) (best, cnt, bt) = (true, best1, 0, true) ∧ best1.length = n ∧ (∀ i, i < b → best1.getD i 0 = num i) ∧ ∀ i, b ≤ i → i < n → best1.getD i 0 = -1)))
  | 0, a, best, cnt, bt, h, hb, hl, h1 => by
    right; left
    exact ⟨fun i hi => h1 i (by omega), by simp [se_as]⟩
  | k + 1, a, best, cnt, bt, h, hb, hl, h1 => by
    have hlt : a < best.length := by omega
    rw [List.range'_succ, se_as]
    by_cases c1 : num a < best.getD a 0
    · left
      exact ⟨⟨a, by omega, h1, c1⟩, by rw [if_pos c1]⟩
    · by_cases c2 : best.getD a 0 < num a
      · right; right
        refine ⟨⟨a, by omega, h1, c2⟩, ?_⟩
        rw [if_neg c1, if_pos c2]
        cases stop with
        | true => left; exact ⟨rfl, by simp⟩
        | false =>
          right
          refine ⟨rfl, ?_⟩
          obtain ⟨best1, e, r⟩ := se_as_more hnum n b k (a + 1) (se_mk best a (num a)) 0 true (by omega) hb (by rw [se_mk_len hlt]; exact hl) (fun i hi => by
            by_cases hia : i = a
            · subst hia; exact se_mk_at hlt
            · rw [se_mk_lt hlt (by omega)]; exact h1 i (by omega)) (fun i hi hi2 => se_mk_gt hlt (by omega) (by omega)) (fun _ => ⟨rfl, rfl⟩)
          exact ⟨best1, by simpa using e, r⟩
      · have e := se_as_spec hnum stop n b k (a + 1) best cnt bt (by omega) hb hl (fun i hi => by
          by_cases hia : i = a
          · subst hia; omega
          · exact h1 i (by omega))
        rw [if_neg c1, if_neg c2]
        exact e
/-- two rows: at the first place where they differ -/
theorem lx_at : ∀ (j : Nat) (a b : List Int), a.length = b.length → (∀ i, i < j → a.getD i 0 = b.getD i 0) → j < a.length → b.getD j 0 < a.getD j 0 → lx_gt a b = true
  | _, [], _, _, _, h, _ => by simp at h
  | _, _ :: _, [], hl, _, _, _ => by simp at hl
  | 0, x :: a, y :: b, _, _, _, h => by
    have : y < x := by simpa using h
    simp [lx_gt, this]
  | j + 1, x :: a, y :: b, hl, he, hj, h => by
    have h0 : x = y := by simpa using he 0 (by omega)
    have := lx_at j a b (by simpa using hl) (fun i hi => by simpa using he (i + 1) (by omega)) (by simpa using hj) (by simpa using h)
    simp [lx_gt, h0, this]
theorem lx_ext {a b : List Int} (hl : a.length = b.length) (h : ∀ i, i < a.length → a.getD i 0 = b.getD i 0) : a = b := by
  apply List.ext_getElem hl
  intro i h1 h2
  have := h i h1
  simpa [List.getD_eq_getElem?_getD, List.getElem?_eq_getElem h1, List.getElem?_eq_getElem h2] using this
/-! the leaves below p -/
def se_lv (n : Nat) (p r : List Nat) : List (List Nat) := (pm_all n r).map (fun t => p ++ t)
theorem se_lv_succ (n : Nat) (p r : List Nat) : se_lv (n + 1) p r = r.flatMap (fun q => se_lv n (p ++ [q]) (r.erase q)) := by
  simp only [se_lv, pm_all, List.map_flatMap, List.map_map]
  congr 1
  funext q
  apply List.map_congr_left
  intro t _
  simp
theorem se_lv_ne (n : Nat) (p r : List Nat) (h : r.length = n) : ∃ t l, se_lv n p r = t :: l := by
  have : r ∈ pm_all n r := (pm_mem n r h r).mpr (List.Perm.refl _)
  cases hl : se_lv n p r with
  | nil =>
    have : p ++ r ∈ se_lv n p r := List.mem_map.mpr ⟨r, this, rfl⟩
    rw [hl] at this
    cases this
  | cons t l => exact ⟨t, l, rfl⟩
theorem pm_im_app {p s : List Nat} {m : Nat} (h : m < 2 ^ p.length) : pm_im (p ++ s) m = pm_im p m := by
  apply Nat.eq_of_testBit_eq
  intro y
  rw [Bool.eq_iff_iff, pm_im_bit, pm_im_bit]
  constructor
  · rintro ⟨k, hk, h1, e⟩
    have hk2 := pm_lt_of_bit h h1
    refine ⟨k, hk2, h1, ?_⟩
    rw [← e, List.getD_eq_getElem?_getD, List.getD_eq_getElem?_getD, List.getElem?_append_left hk2]
  · rintro ⟨k, hk, h1, e⟩
    refine ⟨k, by rw [List.length_append]; omega, h1, ?_⟩
    rw [← e, List.getD_eq_getElem?_getD, List.getD_eq_getElem?_getD, List.getElem?_append_left hk]
theorem lx_none {β : Type} (R : β → List Int) (st : List Int × Nat) : ∀ (l : List β), (∀ t ∈ l, lx_gt st.1 (R t) = true) → l.foldl (lx_step R) st = st
  | [], _ => rfl
  | t :: l, h => by
    have h1 := h t List.mem_cons_self
    have e : lx_step R st t = st := by
      unfold lx_step
      rw [if_neg (by rw [lx_asym h1]; decide), if_neg (fun q => by rw [q, lx_irr] at h1; cases h1)]
    rw [List.foldl_cons, e]
    exact lx_none R st l (fun u hu => h u (List.mem_cons_of_mem _ hu))
section SE
variable {K : List Nat} {f : Nat → Nat} {v n : Nat}
theorem se_num_pos (p : List Nat) (j : Nat) : 0 ≤ se_num K f p j := Int.natCast_nonneg _
theorem se_row_at {p : List Nat} {j : Nat} (h : j < K.length) : (fm_row K f p).getD j 0 = se_num K f p j := by
  simp [fm_row, se_num, List.getD_eq_getElem?_getD, List.getElem?_map, List.getElem?_eq_getElem h]
theorem se_kb_le (t : Nat) : se_kb K t ≤ K.length := List.countP_le_length
theorem se_kb_mono {t u : Nat} (h : t ≤ u) : se_kb K t ≤ se_kb K u := by
  apply List.countP_mono_left
  intro m _ hm
  simp only [decide_eq_true_eq] at hm ⊢
  exact Nat.lt_of_lt_of_le hm (Nat.pow_le_pow_right (by decide) h)
/-- the kinds lie in order: those before place se_kb K t lie within the points before t -/
def se_srt (K : List Nat) : Prop := ∀ t j, j < se_kb K t → K.getD j 0 < 2 ^ t
theorem se_num_app (hK : se_srt K) {p s : List Nat} {j : Nat} (h : j < se_kb K p.length) : se_num K f (p ++ s) j = se_num K f p j := by
  unfold se_num
  rw [pm_im_app (hK _ _ h)]
theorem se_leaf {k : Nat} {p r t : List Nat} (h : t ∈ se_lv k p r) : ∃ s, t = p ++ s := by
  obtain ⟨s, -, rfl⟩ := List.mem_map.mp h
  exact ⟨s, rfl⟩
/-- the whole search finds the greatest row and how many renamings lead to it -/
theorem se_free (hK : se_srt K) (hv : se_kb K v = K.length) : ∀ (k : Nat) (p r : List Nat) (st : se_S), r.length = k → p.length + k = v → st.1.length = K.length → (∀ i, i < se_kb K p.length → st.1.getD i 0 = se_num K f p i) →
    ((se_all false K f k p r st).1, (se_all false K f k p r st).2.1) = (se_lv k p r).foldl (lx_step (fm_row K f)) (st.1, st.2.1)
  | 0, p, r, st, hr, hp, hl, hb => by
    obtain rfl : r = [] := List.eq_nil_of_length_eq_zero hr
    have e : fm_row K f p = st.1 := by
      refine lx_ext (by rw [fm_row_len, hl]) (fun i hi => ?_)
      rw [fm_row_len] at hi
      rw [se_row_at hi]
      exact (hb i (by rw [show p.length = v by omega, hv]; exact hi)).symm
    simp [se_all, se_cnt, se_lv, pm_all, lx_step, e, lx_irr]
  | k + 1, p, r, st, hr, hp, hl, hb => by
    have key : ∀ (qs : List Nat), (∀ q ∈ qs, q ∈ r) → ∀ st : se_S, st.1.length = K.length → (∀ i, i < se_kb K p.length → st.1.getD i 0 = se_num K f p i) →
        ((qs.foldl (se_try false K f (se_all false K f k) p r) st).1, (qs.foldl (se_try false K f (se_all false K f k) p r) st).2.1) = (qs.flatMap (fun q => se_lv k (p ++ [q]) (r.erase q))).foldl (lx_step (fm_row K f)) (st.1, st.2.1) := by
      intro qs
      induction qs with
      | nil => intro _ st _ _; rfl
      | cons q qs ih =>
        intro hq st hl hb
        have hqr := hq q List.mem_cons_self
        have hrl : (r.erase q).length = k := by rw [List.length_erase_of_mem hqr]; omega
        have hpl : (p ++ [q]).length = p.length + 1 := by simp
        rw [List.foldl_cons, List.flatMap_cons, List.foldl_append]
        have hleaf : ∀ t ∈ se_lv k (p ++ [q]) (r.erase q), ∀ i, i < se_kb K (p.length + 1) → (fm_row K f t).getD i 0 = se_num K f (p ++ [q]) i := by
          intro t ht i hi
          obtain ⟨s, rfl⟩ := se_leaf ht
          rw [se_row_at (Nat.lt_of_lt_of_le hi (se_kb_le _)), se_num_app hK (by rw [hpl]; exact hi)]
        have hpre : ∀ i, i < se_kb K p.length → st.1.getD i 0 = se_num K f (p ++ [q]) i := by
          intro i hi
          rw [hb i hi, se_num_app hK hi]
        -- what the one point does
        have one : ((se_try false K f (se_all false K f k) p r st q).1, (se_try false K f (se_all false K f k) p r st q).2.1) = (se_lv k (p ++ [q]) (r.erase q)).foldl (lx_step (fm_row K f)) (st.1, st.2.1) := by
          have hspec := se_as_spec (se_num_pos (K := K) (f := f) (p ++ [q])) false K.length (se_kb K (p.length + 1)) (se_kb K (p.length + 1) - se_kb K p.length) (se_kb K p.length) st.1 st.2.1 st.2.2.1 (by have := se_kb_mono (K := K) (show p.length ≤ p.length + 1 by omega); omega) (se_kb_le _) hl hpre
          unfold se_try
          rw [if_neg (by simp)]
          rcases hspec with ⟨⟨j, hj, h1, h2⟩, e⟩ | ⟨h1, e⟩ | ⟨⟨j, hj, h1, h2⟩, ⟨h3, -⟩ | ⟨-, best1, e, h3, h4, h5⟩⟩
          · rw [e]
            simp only [Bool.false_eq_true, if_false]
            refine (lx_none _ _ _ (fun t ht => ?_)).symm
            refine lx_at j _ _ (by rw [hl, fm_row_len]) (fun i hi => ?_) (by rw [hl]; exact Nat.lt_of_lt_of_le hj (se_kb_le _)) ?_
            · rw [h1 i hi, hleaf t ht i (by omega)]
            · rw [hleaf t ht j hj]; exact h2
          · rw [e]
            simp only [if_true]
            exact se_free hK hv k (p ++ [q]) (r.erase q) _ hrl (by rw [hpl]; omega) hl (fun i hi => by rw [hpl] at hi; exact h1 i hi)
          · cases h3
          · rw [e]
            simp only [if_true]
            rw [se_free hK hv k (p ++ [q]) (r.erase q) _ hrl (by rw [hpl]; omega) h3 (fun i hi => by rw [hpl] at hi; exact h4 i hi)]
            obtain ⟨t, lv, hlv⟩ := se_lv_ne k (p ++ [q]) (r.erase q) hrl
            rw [hlv, List.foldl_cons, List.foldl_cons]
            have ht : t ∈ se_lv k (p ++ [q]) (r.erase q) := by rw [hlv]; exact List.mem_cons_self
            have e1 : lx_step (fm_row K f) (st.1, st.2.1) t = (fm_row K f t, 1) := by
              have : lx_gt (fm_row K f t) st.1 = true := lx_at j _ _ (by rw [hl, fm_row_len]) (fun i hi => by rw [h1 i hi, hleaf t ht i (by omega)]) (by rw [fm_row_len]; exact Nat.lt_of_lt_of_le hj (se_kb_le _)) (by rw [hleaf t ht j hj]; exact h2)
              simp [lx_step, this]
            have e2 : lx_step (fm_row K f) (best1, 0) t = (fm_row K f t, 1) := by
              by_cases hn : se_kb K (p.length + 1) < K.length
              · have : lx_gt (fm_row K f t) best1 = true := lx_at (se_kb K (p.length + 1)) _ _ (by rw [h3, fm_row_len]) (fun i hi => by rw [h4 i hi, hleaf t ht i hi]) (by rw [fm_row_len]; exact hn) (by
                  rw [h5 _ (Nat.le_refl _) hn, se_row_at hn]
                  have := se_num_pos (K := K) (f := f) t (se_kb K (p.length + 1))
                  omega)
                simp [lx_step, this]
              · have : fm_row K f t = best1 := lx_ext (by rw [h3, fm_row_len]) (fun i hi => by
                  rw [fm_row_len] at hi
                  have hle := se_kb_le (K := K) (p.length + 1)
                  rw [hleaf t ht i (by omega), h4 i (by omega)])
                simp [lx_step, this, lx_irr]
            rw [e1, e2]
        -- and what is left
        have hfold := lx_fold (fm_row K f) K.length (fun t => fm_row_len) (se_lv k (p ++ [q]) (r.erase q)) (st.1, st.2.1) hl
        have e1 : (se_try false K f (se_all false K f k) p r st q).1 = ((se_lv k (p ++ [q]) (r.erase q)).foldl (lx_step (fm_row K f)) (st.1, st.2.1)).1 := congrArg Prod.fst one
        rw [← one]
        refine ih (fun x hx => hq x (List.mem_cons_of_mem _ hx)) _ (by rw [e1]; exact hfold.1) (fun i hi => ?_)
        rw [e1]
        rcases hfold.2.2.2.1 with h1 | ⟨t, ht, h1⟩
        · rw [h1]; exact hb i hi
        · rw [← h1, hleaf t ht i (Nat.lt_of_lt_of_le hi (se_kb_mono (Nat.le_succ _))), se_num_app hK hi]
    rw [se_lv_succ]
    exact key r (fun q h => h) st hl hb
/-- the least images behind one more renaming -/
def se_min (p ls : List Nat) : List Nat := (List.range ls.length).map (fun i => if i < p.length then min (ls.getD i 0) (p.getD i 0) else ls.getD i 0)
theorem se_min_len {p ls : List Nat} : (se_min p ls).length = ls.length := by simp [se_min]
theorem se_min_at {p ls : List Nat} {i : Nat} (hi : i < ls.length) (hp : i < p.length) : (se_min p ls).getD i 0 = min (ls.getD i 0) (p.getD i 0) := by
  simp [se_min, List.getD_eq_getElem?_getD, List.getElem?_map, List.getElem?_range hi, hp]
theorem se_beaten {go : List Nat → List Nat → se_S → se_S} {p r : List Nat} : ∀ (qs : List Nat) (st : se_S), st.2.2.1 = true → qs.foldl (se_try true K f go p r) st = st
  | [], _, _ => rfl
  | q :: qs, st, h => by
    have e : se_try true K f go p r st q = st := by simp [se_try, h]
    rw [List.foldl_cons, e]
    exact se_beaten qs st h
/-- the search that stops when it is beaten -/
theorem se_stop (hK : se_srt K) (hv : se_kb K v = K.length) : ∀ (k : Nat) (p r : List Nat) (st : se_S), r.length = k → p.length + k = v → st.1.length = K.length → (∀ i, i < se_kb K p.length → st.1.getD i 0 = se_num K f p i) → st.2.2.1 = false →
    (se_all true K f k p r st).2.2.1 = (se_lv k p r).any (fun t => lx_gt (fm_row K f t) st.1) ∧
    ((se_all true K f k p r st).2.2.1 = false → se_all true K f k p r st = (st.1, st.2.1 + (se_lv k p r).countP (fun t => fm_row K f t == st.1), false, ((se_lv k p r).filter (fun t => fm_row K f t == st.1)).foldl (fun ls t => se_min t ls) st.2.2.2))
  | 0, p, r, st, hr, hp, hl, hb, hbt => by
    obtain rfl : r = [] := List.eq_nil_of_length_eq_zero hr
    have e : fm_row K f p = st.1 := by
      refine lx_ext (by rw [fm_row_len, hl]) (fun i hi => ?_)
      rw [fm_row_len] at hi
      rw [se_row_at hi]
      exact (hb i (by rw [show p.length = v by omega, hv]; exact hi)).symm
    simp [se_all, se_cnt, se_lv, pm_all, e, lx_irr, hbt, se_min]
  | k + 1, p, r, st, hr, hp, hl, hb, hbt => by
    have key : ∀ (qs : List Nat), (∀ q ∈ qs, q ∈ r) → ∀ st : se_S, st.1.length = K.length → (∀ i, i < se_kb K p.length → st.1.getD i 0 = se_num K f p i) → st.2.2.1 = false →
        (qs.foldl (se_try true K f (se_all true K f k) p r) st).2.2.1 = (qs.flatMap (fun q => se_lv k (p ++ [q]) (r.erase q))).any (fun t => lx_gt (fm_row K f t) st.1) ∧
        ((qs.foldl (se_try true K f (se_all true K f k) p r) st).2.2.1 = false → qs.foldl (se_try true K f (se_all true K f k) p r) st = (st.1, st.2.1 + (qs.flatMap (fun q => se_lv k (p ++ [q]) (r.erase q))).countP (fun t => fm_row K f t == st.1), false, ((qs.flatMap (fun q => se_lv k (p ++ [q]) (r.erase q))).filter (fun t => fm_row K f t == st.1)).foldl (fun ls t => se_min t ls) st.2.2.2)) := by
      intro qs
      induction qs with
      | nil =>
        intro _ st _ _ hbt
        obtain ⟨b1, c1, t1, l1⟩ := st
        dsimp only at hbt
        subst hbt
        simp
      | cons q qs ih =>
        intro hq st hl hb hbt
        have hqr := hq q List.mem_cons_self
        have hrl : (r.erase q).length = k := by rw [List.length_erase_of_mem hqr]; omega
        have hpl : (p ++ [q]).length = p.length + 1 := by simp
        rw [List.foldl_cons, List.flatMap_cons, List.any_append, List.countP_append, List.filter_append, List.foldl_append]
        have hleaf : ∀ t ∈ se_lv k (p ++ [q]) (r.erase q), ∀ i, i < se_kb K (p.length + 1) → (fm_row K f t).getD i 0 = se_num K f (p ++ [q]) i := by
          intro t ht i hi
          obtain ⟨s, rfl⟩ := se_leaf ht
          rw [se_row_at (Nat.lt_of_lt_of_le hi (se_kb_le _)), se_num_app hK (by rw [hpl]; exact hi)]
        have hpre : ∀ i, i < se_kb K p.length → st.1.getD i 0 = se_num K f (p ++ [q]) i := by
          intro i hi
          rw [hb i hi, se_num_app hK hi]
        have one : (se_try true K f (se_all true K f k) p r st q).2.2.1 = (se_lv k (p ++ [q]) (r.erase q)).any (fun t => lx_gt (fm_row K f t) st.1) ∧
            ((se_try true K f (se_all true K f k) p r st q).2.2.1 = false → se_try true K f (se_all true K f k) p r st q = (st.1, st.2.1 + (se_lv k (p ++ [q]) (r.erase q)).countP (fun t => fm_row K f t == st.1), false, ((se_lv k (p ++ [q]) (r.erase q)).filter (fun t => fm_row K f t == st.1)).foldl (fun ls t => se_min t ls) st.2.2.2)) := by
          have hspec := se_as_spec (se_num_pos (K := K) (f := f) (p ++ [q])) true K.length (se_kb K (p.length + 1)) (se_kb K (p.length + 1) - se_kb K p.length) (se_kb K p.length) st.1 st.2.1 st.2.2.1 (by have := se_kb_mono (K := K) (show p.length ≤ p.length + 1 by omega); omega) (se_kb_le _) hl hpre
          unfold se_try
          rw [if_neg (by rw [hbt]; decide)]
          rcases hspec with ⟨⟨j, hj, h1, h2⟩, e⟩ | ⟨h1, e⟩ | ⟨⟨j, hj, h1, h2⟩, ⟨-, e⟩ | ⟨h3, -⟩⟩
          · rw [e]
            simp only [Bool.false_eq_true, if_false]
            have hgt : ∀ t ∈ se_lv k (p ++ [q]) (r.erase q), lx_gt st.1 (fm_row K f t) = true := by
              intro t ht
              refine lx_at j _ _ (by rw [hl, fm_row_len]) (fun i hi => ?_) (by rw [hl]; exact Nat.lt_of_lt_of_le hj (se_kb_le _)) ?_
              · rw [h1 i hi, hleaf t ht i (by omega)]
              · rw [hleaf t ht j hj]; exact h2
            have hany : (se_lv k (p ++ [q]) (r.erase q)).any (fun t => lx_gt (fm_row K f t) st.1) = false := by
              rw [List.any_eq_false]
              intro t ht
              rw [lx_asym (hgt t ht)]; decide
            have hne : ∀ t ∈ se_lv k (p ++ [q]) (r.erase q), ¬ (fm_row K f t == st.1) = true := by
              intro t ht q
              have := hgt t ht
              rw [beq_iff_eq.mp q, lx_irr] at this
              cases this
            rw [hany, List.countP_eq_zero.mpr hne, List.filter_eq_nil_iff.mpr hne]
            refine ⟨hbt, fun _ => ?_⟩
            rw [hbt]
            rfl
          · rw [e]
            simp only [if_true]
            exact se_stop hK hv k (p ++ [q]) (r.erase q) (st.1, st.2.1, st.2.2.1, st.2.2.2) hrl (by rw [hpl]; omega) hl (fun i hi => by rw [hpl] at hi; exact h1 i hi) hbt
          · rw [e]
            simp only [Bool.false_eq_true, if_false]
            refine ⟨?_, fun h => by cases h⟩
            obtain ⟨t, lv, hlv⟩ := se_lv_ne k (p ++ [q]) (r.erase q) hrl
            have ht : t ∈ se_lv k (p ++ [q]) (r.erase q) := by rw [hlv]; exact List.mem_cons_self
            have : lx_gt (fm_row K f t) st.1 = true := lx_at j _ _ (by rw [hl, fm_row_len]) (fun i hi => by rw [h1 i hi, hleaf t ht i (by omega)]) (by rw [fm_row_len]; exact Nat.lt_of_lt_of_le hj (se_kb_le _)) (by rw [hleaf t ht j hj]; exact h2)
            exact (List.any_eq_true.mpr ⟨t, ht, this⟩).symm
          · cases h3
        cases hb1 : (se_try true K f (se_all true K f k) p r st q).2.2.1 with
        | true =>
          rw [se_beaten qs _ hb1, ← one.1, hb1]
          refine ⟨by simp, fun h => by cases h⟩
        | false =>
          have e1 := one.2 hb1
          rw [← one.1, hb1, Bool.false_or]
          rw [e1]
          have := ih (fun x hx => hq x (List.mem_cons_of_mem _ hx)) (st.1, st.2.1 + (se_lv k (p ++ [q]) (r.erase q)).countP (fun t => fm_row K f t == st.1), false, ((se_lv k (p ++ [q]) (r.erase q)).filter (fun t => fm_row K f t == st.1)).foldl (fun ls t => se_min t ls) st.2.2.2) hl hb rfl
          rw [Nat.add_assoc] at this
          exact this
    rw [se_lv_succ]
    exact key r (fun q h => h) st hl hb hbt
end SE
/-- what the two searches find from the start -/
theorem se_root {v : Nat} : se_lv v [] (List.range v) = pm_P v := by simp [se_lv, pm_P]
end
section
/-! LAYINGS as lists of masks; the lists of a census; all packings -/
def ce_row (K xs s : List Nat) : List Int := fm_row K (fun m => xs.count m) s
def ce_isf (v : Nat) (K xs : List Nat) : Bool := (pm_P v).all (fun t => !lx_gt (ce_row K xs t) (ce_row K xs (List.range v)))
def ce_meet (xs : List Nat) (p q : Nat) : Nat := xs.countP (fun m => m.testBit p && m.testBit q)
def ce_pk (v lam : Nat) (xs : List Nat) : Bool := (List.range v).all (fun p => (List.range v).all (fun q => decide (p < q → ce_meet xs p q ≤ lam)))
def ce_last (e : List Nat) : Nat := e.getLast?.getD 0
def ce_next (v lam : Nat) (K : List Nat) (L : List (List Nat)) : List (List Nat) := L.flatMap (fun e => (K.filter (fun b => decide (ce_last e ≤ b) && (ce_pk v lam (e ++ [b]) && ce_isf v K (e ++ [b])))).map (fun b => e ++ [b]))
def ce_L (v k lam : Nat) : Nat → List (List Nat)
  | 0 => [[]]
  | n + 1 => ce_next v lam (fm_K v k) (ce_L v k lam n)
def ce_ext (v lam : Nat) (K e : List Nat) : List Nat := K.filter (fun b => decide (ce_last e ≤ b) && ce_pk v lam (e ++ [b]))
def ce_U (v k lam : Nat) : Nat → List (List Nat)
  | 0 => [[]]
  | n + 1 => (ce_U v k lam n).flatMap (fun e => (ce_ext v lam (fm_K v k) e).map (fun b => e ++ [b]))
theorem ce_pk_iff {v lam : Nat} {xs : List Nat} : ce_pk v lam xs = true ↔ ∀ p q, p < q → q < v → ce_meet xs p q ≤ lam := by
  simp only [ce_pk, List.all_eq_true, List.mem_range, decide_eq_true_eq]
  constructor
  · intro h p q hpq hq
    exact h p (by omega) q hq hpq
  · intro h p _ q hq hpq
    exact h p q hpq hq
theorem ce_pk_init {v lam : Nat} {e : List Nat} {b : Nat} (h : ce_pk v lam (e ++ [b]) = true) : ce_pk v lam e = true := by
  rw [ce_pk_iff] at h ⊢
  intro p q hpq hq
  have := h p q hpq hq
  unfold ce_meet at this ⊢
  rw [List.countP_append] at this
  omega
theorem ce_last_le {e : List Nat} (hs : e.Pairwise (· ≤ ·)) {a : Nat} (ha : a ∈ e) : a ≤ ce_last e := by
  rcases List.eq_nil_or_concat e with rfl | ⟨l, b, rfl⟩
  · cases ha
  · rw [List.concat_eq_append] at hs ha ⊢
    have hl : ce_last (l ++ [b]) = b := by simp [ce_last]
    rw [hl]
    rcases List.mem_append.mp ha with h | h
    · exact (List.pairwise_append.mp hs).2.2 a h b List.mem_cons_self
    · rw [List.mem_singleton.mp h]; exact Nat.le_refl _
theorem ce_U_mem {v k lam : Nat} : ∀ (n : Nat) (x : List Nat), x ∈ ce_U v k lam n ↔ x.length = n ∧ x.Pairwise (· ≤ ·) ∧ (∀ m ∈ x, m ∈ fm_K v k) ∧ ce_pk v lam x = true
  | 0, x => by
    simp only [ce_U, List.mem_singleton]
    constructor
    · rintro rfl
      refine ⟨rfl, List.Pairwise.nil, fun m h => (by cases h), ?_⟩
      rw [ce_pk_iff]
      intro p q _ _
      simp [ce_meet]
    · rintro ⟨h, -⟩
      exact List.eq_nil_of_length_eq_zero h
  | n + 1, x => by
    simp only [ce_U, List.mem_flatMap, List.mem_map, ce_ext, List.mem_filter, Bool.and_eq_true, decide_eq_true_eq]
    constructor
    · rintro ⟨e, he, b, ⟨hb, hlast, hpk⟩, rfl⟩
      obtain ⟨h1, h2, h3, h4⟩ := (ce_U_mem n e).mp he
      refine ⟨by simp [h1], List.pairwise_append.mpr ⟨h2, by simp, fun a ha c hc => ?_⟩, fun m hm => ?_, hpk⟩
      · rw [List.mem_singleton.mp hc]
        exact Nat.le_trans (ce_last_le h2 ha) hlast
      · rcases List.mem_append.mp hm with h | h
        · exact h3 m h
        · rw [List.mem_singleton.mp h]; exact hb
    · rintro ⟨h1, h2, h3, h4⟩
      rcases List.eq_nil_or_concat x with rfl | ⟨e, b, rfl⟩
      · cases h1
      · rw [List.concat_eq_append] at h1 h2 h3 h4 ⊢
        have hp := List.pairwise_append.mp h2
        refine ⟨e, (ce_U_mem n e).mpr ⟨by simpa using h1, hp.1, fun m hm => h3 m (List.mem_append_left _ hm), ce_pk_init h4⟩, b, ⟨h3 b (by simp), ?_, h4⟩, rfl⟩
        unfold ce_last
        cases hl : e.getLast? with
        | none => exact Nat.zero_le _
        | some c => exact hp.2.2 c (List.mem_of_getLast? hl) b List.mem_cons_self
theorem fm_K_nodup (v k : Nat) : (fm_K v k).Nodup := List.Pairwise.filter _ List.nodup_range
theorem ce_U_nodup {v k lam : Nat} : ∀ n, (ce_U v k lam n).Nodup
  | 0 => by simp [ce_U]
  | n + 1 => by
    unfold List.Nodup
    simp only [ce_U]
    rw [List.pairwise_flatMap]
    refine ⟨fun e _ => ?_, ?_⟩
    · rw [List.pairwise_map]
      refine List.Pairwise.imp (fun {a b} hab q => hab ?_) (List.Pairwise.filter _ (fm_K_nodup v k))
      simpa using q
    · refine List.Pairwise.imp (fun {a b} hab x hx y hy q => hab ?_) (ce_U_nodup n)
      obtain ⟨_, _, rfl⟩ := List.mem_map.mp hx
      obtain ⟨_, _, rfl⟩ := List.mem_map.mp hy
      exact (List.append_inj' q rfl).1
theorem ce_sub {v k lam : Nat} : ∀ (n : Nat) (x : List Nat), x ∈ ce_L v k lam n → x ∈ ce_U v k lam n
  | 0, x, h => h
  | n + 1, x, h => by
    simp only [ce_L, ce_next, List.mem_flatMap, List.mem_map, List.mem_filter, Bool.and_eq_true, decide_eq_true_eq] at h
    obtain ⟨e, he, b, ⟨hb, h1, h2, -⟩, rfl⟩ := h
    simp only [ce_U, List.mem_flatMap, List.mem_map, ce_ext, List.mem_filter, Bool.and_eq_true, decide_eq_true_eq]
    exact ⟨e, ce_sub n e he, b, ⟨hb, h1, h2⟩, rfl⟩
theorem ce_L_nodup {v k lam : Nat} : ∀ n, (ce_L v k lam n).Nodup
  | 0 => by simp [ce_L]
  | n + 1 => by
    unfold List.Nodup
    simp only [ce_L, ce_next]
    rw [List.pairwise_flatMap]
    refine ⟨fun e _ => ?_, ?_⟩
    · rw [List.pairwise_map]
      refine List.Pairwise.imp (fun {a b} hab q => hab ?_) (List.Pairwise.filter _ (fm_K_nodup v k))
      simpa using q
    · refine List.Pairwise.imp (fun {a b} hab x hx y hy q => hab ?_) (ce_L_nodup n)
      obtain ⟨_, _, rfl⟩ := List.mem_map.mp hx
      obtain ⟨_, _, rfl⟩ := List.mem_map.mp hy
      exact (List.append_inj' q rfl).1
/-! a laying behind a renaming, as a sorted list -/
def ce_act (t xs : List Nat) : List Nat := (xs.map (pm_im t)).mergeSort (fun a b => decide (a ≤ b))
theorem ce_act_perm (t xs : List Nat) : (ce_act t xs).Perm (xs.map (pm_im t)) := List.mergeSort_perm _ _
theorem ce_act_sorted (t xs : List Nat) : (ce_act t xs).Pairwise (· ≤ ·) := by
  have := List.pairwise_mergeSort (le := fun a b => decide (a ≤ b)) (fun a b c h1 h2 => by simp at h1 h2 ⊢; omega) (fun a b => by simp; omega) (xs.map (pm_im t))
  exact List.Pairwise.imp (fun h => by simpa using h) this
theorem ce_count_map {v : Nat} {t : List Nat} (ht : t.Perm (List.range v)) {m : Nat} (hm : m < 2 ^ v) : ∀ (xs : List Nat), (∀ x ∈ xs, x < 2 ^ v) → (xs.map (pm_im t)).count m = xs.count (pm_im (pm_i v t) m)
  | [], _ => rfl
  | x :: xs, h => by
    rw [List.map_cons, List.count_cons, List.count_cons, ce_count_map ht hm xs (fun y hy => h y (List.mem_cons_of_mem _ hy))]
    have hx := h x List.mem_cons_self
    have : (pm_im t x == m) = (x == pm_im (pm_i v t) m) := by
      rw [Bool.eq_iff_iff, beq_iff_eq, beq_iff_eq]
      constructor
      · rintro rfl; exact (pm_im_inv ht hx).symm
      · rintro rfl; exact pm_im_inv2 ht hm
    rw [this]
/-- its row: the renaming the other way first -/
theorem ce_act_row {v k : Nat} {t s : List Nat} (ht : t.Perm (List.range v)) (hs : s.Perm (List.range v)) {xs : List Nat} (hx : ∀ x ∈ xs, x < 2 ^ v) : ce_row (fm_K v k) (ce_act t xs) s = ce_row (fm_K v k) xs (pm_o (pm_i v t) s) := by
  unfold ce_row
  rw [fm_row_eq]
  intro b hb
  rw [(ce_act_perm t xs).count_eq, ce_count_map ht (pm_im_lt hs b) xs hx, pm_im_o (pm_i_perm ht) hs]
theorem ce_meet_act {v : Nat} {t : List Nat} (ht : t.Perm (List.range v)) (xs : List Nat) {p q : Nat} (hp : p < v) (hq : q < v) : ce_meet (ce_act t xs) (t.getD p 0) (t.getD q 0) = ce_meet xs p q := by
  unfold ce_meet
  rw [(ce_act_perm t xs).countP_eq, List.countP_map]
  apply List.countP_congr
  intro m _
  simp only [Function.comp_apply, pm_bit_at ht m hp, pm_bit_at ht m hq]
theorem ce_meet_comm (xs : List Nat) (p q : Nat) : ce_meet xs p q = ce_meet xs q p := by
  unfold ce_meet
  apply List.countP_congr
  intro m _
  rw [Bool.and_comm]
theorem ce_U_act {v k lam n : Nat} {t x : List Nat} (ht : t.Perm (List.range v)) (h : x ∈ ce_U v k lam n) : ce_act t x ∈ ce_U v k lam n := by
  obtain ⟨h1, h2, h3, h4⟩ := (ce_U_mem n x).mp h
  refine (ce_U_mem n _).mpr ⟨by rw [(ce_act_perm t x).length_eq, List.length_map]; exact h1, ce_act_sorted t x, fun m hm => ?_, ?_⟩
  · obtain ⟨y, hy, rfl⟩ := List.mem_map.mp ((ce_act_perm t x).mem_iff.mp hm)
    exact fm_K_im ht (h3 y hy)
  · rw [ce_pk_iff] at h4 ⊢
    intro p q hpq hq
    obtain ⟨a, ha, rfl⟩ := pm_sur ht (show p < v by omega)
    obtain ⟨b, hb, rfl⟩ := pm_sur ht hq
    rw [ce_meet_act ht x ha hb]
    rcases Nat.lt_trichotomy a b with h | h | h
    · exact h4 a b h hb
    · subst h; omega
    · rw [ce_meet_comm]; exact h4 b a h ha
/-- two sorted layings with one row are one -/
theorem ce_inj {v k lam n : Nat} {x y : List Nat} (hx : x ∈ ce_U v k lam n) (hy : y ∈ ce_U v k lam n) (h : ce_row (fm_K v k) x (List.range v) = ce_row (fm_K v k) y (List.range v)) : x = y := by
  obtain ⟨-, h2, h3, -⟩ := (ce_U_mem n x).mp hx
  obtain ⟨-, g2, g3, -⟩ := (ce_U_mem n y).mp hy
  have hc : ∀ m, x.count m = y.count m := by
    intro m
    by_cases hm : m ∈ fm_K v k
    · have := fm_row_eq.mp h m hm
      have this := this
      rwa [pm_im_id (fm_K_mem.mp hm).1] at this
    · rw [List.count_eq_zero.mpr (fun q => hm (h3 m q)), List.count_eq_zero.mpr (fun q => hm (g3 m q))]
  exact List.Perm.eq_of_pairwise (fun a b _ _ h1 h2 => Nat.le_antisymm h1 h2) h2 g2 (List.perm_iff_count.mpr hc)
theorem ce_row_len {K xs t : List Nat} : (ce_row K xs t).length = K.length := by simp [ce_row, fm_row]
end
section
/-! COUNTING: each packing is like one entry; an entry has as many layings like it as all renamings by its order -/
theorem ct_swap {α β : Type} (r : α → β → Bool) (P : List α) : ∀ (X : List β), (X.map (fun x => P.countP (fun t => r t x))).sum = (P.map (fun t => X.countP (fun x => r t x))).sum
  | [] => by
    have : P.map (fun t => ([] : List β).countP (fun x => r t x)) = P.map (fun _ => 0) := List.map_congr_left (fun t _ => rfl)
    rw [this]
    clear this
    induction P with
    | nil => rfl
    | cons a P ih => simpa using ih
  | x :: X => by
    rw [List.map_cons, List.sum_cons, ct_swap r P X]
    clear ct_swap
    induction P with
    | nil => rfl
    | cons a P ih =>
      rw [List.map_cons, List.sum_cons, List.map_cons, List.sum_cons, List.countP_cons, List.countP_cons, ← ih]
      omega
theorem ct_one {α : Type} {l : List α} {q : α → Bool} (hn : l.Nodup) {a : α} (ha : a ∈ l) (hq : q a = true) (hu : ∀ b ∈ l, q b = true → b = a) : l.countP q = 1 := by
  induction l with
  | nil => cases ha
  | cons c l ih =>
    rw [List.countP_cons]
    have hn2 := List.nodup_cons.mp hn
    rcases List.mem_cons.mp ha with rfl | h
    · rw [if_pos hq, List.countP_eq_zero.mpr (fun b hb hqb => hn2.1 (by rw [← hu b (List.mem_cons_of_mem _ hb) hqb]; exact hb))]
    · have hc : ¬ q c = true := fun hqc => hn2.1 (by rw [hu c List.mem_cons_self hqc]; exact h)
      rw [if_neg hc, ih hn2.2 h (fun b hb => hu b (List.mem_cons_of_mem _ hb))]
theorem ct_const {α : Type} (l : List α) (g : α → Nat) (c : Nat) (h : ∀ a ∈ l, g a = c) : (l.map g).sum = l.length * c := by
  induction l with
  | nil => simp
  | cons a l ih =>
    rw [List.map_cons, List.sum_cons, h a List.mem_cons_self, ih (fun b hb => h b (List.mem_cons_of_mem _ hb)), List.length_cons, Nat.succ_mul]
    omega
theorem ct_ite {α : Type} (l : List α) (q : α → Bool) (g : α → Nat) (c : Nat) (h : ∀ a ∈ l, g a = if q a = true then c else 0) : (l.map g).sum = l.countP q * c := by
  induction l with
  | nil => simp
  | cons a l ih =>
    rw [List.map_cons, List.sum_cons, h a List.mem_cons_self, ih (fun b hb => h b (List.mem_cons_of_mem _ hb)), List.countP_cons]
    by_cases hq : q a = true
    · rw [if_pos hq, if_pos hq, Nat.succ_mul]; omega
    · rw [if_neg hq, if_neg hq, Nat.zero_add, Nat.add_zero]
section CT
variable {v k lam n : Nat}
theorem ce_lt {x : List Nat} (h : x ∈ ce_U v k lam n) : ∀ m ∈ x, m < 2 ^ v := fun m hm => (fm_K_mem.mp (((ce_U_mem n x).mp h).2.2.1 m hm)).1
theorem pm_id : (List.range v).Perm (List.range v) := List.Perm.refl _
theorem pm_i_i {t : List Nat} (ht : t.Perm (List.range v)) : pm_o t (pm_i v t) = List.range v := by
  refine pm_ext (pm_len (pm_o_perm ht (pm_i_perm ht))) List.length_range (fun p hp => ?_)
  rw [pm_o_at (by rw [pm_len (pm_i_perm ht)]; exact hp), (pm_i_lt ht hp).2, pm_range_at hp]
theorem pm_o_id {t : List Nat} (ht : t.Perm (List.range v)) : pm_o t (List.range v) = t := by
  refine pm_ext (pm_len (pm_o_perm ht pm_id)) (pm_len ht) (fun p hp => ?_)
  rw [pm_o_at (by rw [List.length_range]; exact hp), pm_range_at hp]
theorem pm_o_assoc {s t u : List Nat} (ht : t.Perm (List.range v)) (hu : u.Perm (List.range v)) (hs : s.Perm (List.range v)) : pm_o (pm_o s t) u = pm_o s (pm_o t u) := by
  refine pm_ext (pm_len (pm_o_perm (pm_o_perm hs ht) hu)) (pm_len (pm_o_perm hs (pm_o_perm ht hu))) (fun p hp => ?_)
  have h1 : p < u.length := by rw [pm_len hu]; exact hp
  have h2 : p < (pm_o t u).length := by rw [pm_len (pm_o_perm ht hu)]; exact hp
  have h3 : u.getD p 0 < t.length := by rw [pm_len ht]; exact pm_lt hu hp
  rw [pm_o_at h1, pm_o_at h2, pm_o_at h3, pm_o_at h1]
/-- rows of rows: what holds of one renaming holds behind any other -/
theorem ce_row_o {x y : List Nat} {t s : List Nat} (ht : t.Perm (List.range v)) (hs : s.Perm (List.range v)) (h : ce_row (fm_K v k) x t = ce_row (fm_K v k) y (List.range v)) : ce_row (fm_K v k) x (pm_o t s) = ce_row (fm_K v k) y s := by
  unfold ce_row at h ⊢
  rw [fm_row_eq] at h ⊢
  intro b hb
  have := h (pm_im s b) (fm_K_im hs hb)
  have this := this
  rw [pm_im_id (pm_im_lt hs b)] at this
  rw [pm_im_o ht hs]
  exact this
theorem ce_isf_iff {x : List Nat} : ce_isf v (fm_K v k) x = true ↔ ∀ t, t.Perm (List.range v) → lx_gt (ce_row (fm_K v k) x t) (ce_row (fm_K v k) x (List.range v)) = false := by
  simp only [ce_isf, List.all_eq_true, pm_P_mem, Bool.not_eq_true']
/-- x is like e -/
def ce_rel (v k : Nat) (e x : List Nat) : Bool := (pm_P v).any (fun t => ce_row (fm_K v k) e t == ce_row (fm_K v k) x (List.range v))
theorem ce_rel_iff {e x : List Nat} : ce_rel v k e x = true ↔ ∃ t, t.Perm (List.range v) ∧ ce_row (fm_K v k) e t = ce_row (fm_K v k) x (List.range v) := by
  simp only [ce_rel, List.any_eq_true, pm_P_mem, beq_iff_eq]
/-- the form of a packing -/
theorem ce_form {x : List Nat} (hx : x ∈ ce_U v k lam n) : ∃ e, e ∈ ce_U v k lam n ∧ ce_isf v (fm_K v k) e = true ∧ ce_rel v k e x = true := by
  have hf := lx_fold (ce_row (fm_K v k) x) (fm_K v k).length (fun t => ce_row_len) (pm_P v) (ce_row (fm_K v k) x (List.range v), 0) ce_row_len
  obtain ⟨t0, ht0, e0⟩ : ∃ t0, t0.Perm (List.range v) ∧ ce_row (fm_K v k) x t0 = ((pm_P v).foldl (lx_step (ce_row (fm_K v k) x)) (ce_row (fm_K v k) x (List.range v), 0)).1 := by
    rcases hf.2.2.2.1 with h | ⟨t, ht, h⟩
    · exact ⟨List.range v, pm_id, h.symm⟩
    · exact ⟨t, pm_P_mem.mp ht, h⟩
  have hmax : ∀ t, t.Perm (List.range v) → lx_gt (ce_row (fm_K v k) x t) (ce_row (fm_K v k) x t0) = false := by
    intro t ht
    rw [e0]
    exact hf.2.1 t (pm_P_mem.mpr ht)
  have hi := pm_i_perm ht0
  have hrow : ∀ s, s.Perm (List.range v) → ce_row (fm_K v k) (ce_act (pm_i v t0) x) s = ce_row (fm_K v k) x (pm_o t0 s) := by
    intro s hs
    rw [ce_act_row hi hs (ce_lt hx)]
    have : pm_i v (pm_i v t0) = t0 := by
      refine pm_ext (pm_len (pm_i_perm hi)) (pm_len ht0) (fun p hp => ?_)
      obtain ⟨q, hq, rfl⟩ := pm_sur hi hp
      rw [pm_i_at hi hq, (pm_i_lt ht0 hq).2]
    rw [this]
  refine ⟨ce_act (pm_i v t0) x, ce_U_act hi hx, ?_, ?_⟩
  · rw [ce_isf_iff]
    intro t ht
    rw [hrow t ht, hrow _ pm_id, pm_o_id ht0]
    exact hmax _ (pm_o_perm ht0 ht)
  · rw [ce_rel_iff]
    exact ⟨pm_i v t0, hi, by rw [hrow _ hi, pm_i_i ht0]⟩
theorem ce_form_u {e1 e2 x : List Nat} (h1 : e1 ∈ ce_U v k lam n) (h2 : e2 ∈ ce_U v k lam n) (f1 : ce_isf v (fm_K v k) e1 = true) (f2 : ce_isf v (fm_K v k) e2 = true) (r1 : ce_rel v k e1 x = true) (r2 : ce_rel v k e2 x = true) : e1 = e2 := by
  obtain ⟨t1, p1, q1⟩ := ce_rel_iff.mp r1
  obtain ⟨t2, p2, q2⟩ := ce_rel_iff.mp r2
  have a1 : ce_row (fm_K v k) e1 (pm_o t1 (pm_i v t2)) = ce_row (fm_K v k) e2 (List.range v) := by
    rw [ce_row_o p1 (pm_i_perm p2) q1, ← ce_row_o p2 (pm_i_perm p2) q2, pm_i_i p2]
  have a2 : ce_row (fm_K v k) e2 (pm_o t2 (pm_i v t1)) = ce_row (fm_K v k) e1 (List.range v) := by
    rw [ce_row_o p2 (pm_i_perm p1) q2, ← ce_row_o p1 (pm_i_perm p1) q1, pm_i_i p1]
  have b1 := ce_isf_iff.mp f1 _ (pm_o_perm p1 (pm_i_perm p2))
  have b2 := ce_isf_iff.mp f2 _ (pm_o_perm p2 (pm_i_perm p1))
  rw [a1] at b1
  rw [a2] at b2
  rcases lx_tri (ce_row (fm_K v k) e1 (List.range v)) (ce_row (fm_K v k) e2 (List.range v)) (by simp [ce_row, fm_row]) with h | h | h
  · exact ce_inj h1 h2 h
  · rw [b2] at h; cases h
  · rw [b1] at h; cases h
def ce_ord (v k : Nat) (e : List Nat) : Nat := fm_ord v (fm_K v k) (fun m => e.count m)
theorem ce_ord_pos {e : List Nat} : 0 < ce_ord v k e := by
  unfold ce_ord fm_ord
  rw [List.countP_pos_iff]
  exact ⟨List.range v, pm_P_mem.mpr pm_id, by simp⟩
theorem ce_orbit {e : List Nat} (he : e ∈ ce_U v k lam n) : (ce_U v k lam n).countP (fun x => ce_rel v k e x) * ce_ord v k e = (pm_P v).length := by
  have h1 : ((pm_P v).map (fun t => (ce_U v k lam n).countP (fun x => ce_row (fm_K v k) e t == ce_row (fm_K v k) x (List.range v)))).sum = (pm_P v).length * 1 := by
    refine ct_const _ _ _ (fun t ht => ?_)
    have ht := pm_P_mem.mp ht
    have hi := pm_i_perm ht
    have hrow : ce_row (fm_K v k) (ce_act (pm_i v t) e) (List.range v) = ce_row (fm_K v k) e t := by
      rw [ce_act_row hi pm_id (ce_lt he)]
      have : pm_i v (pm_i v t) = t := by
        refine pm_ext (pm_len (pm_i_perm hi)) (pm_len ht) (fun p hp => ?_)
        obtain ⟨q, hq, rfl⟩ := pm_sur hi hp
        rw [pm_i_at hi hq, (pm_i_lt ht hq).2]
      rw [this, pm_o_id ht]
    refine ct_one (ce_U_nodup n) (ce_U_act hi he) (by rw [hrow]; simp) (fun b hb hq => ?_)
    exact ce_inj hb (ce_U_act hi he) (by rw [hrow]; exact (beq_iff_eq.mp hq).symm)
  have h2 := ct_swap (fun t x => ce_row (fm_K v k) e t == ce_row (fm_K v k) x (List.range v)) (pm_P v) (ce_U v k lam n)
  rw [h1, Nat.mul_one] at h2
  rw [← h2]
  refine (ct_ite _ (fun x => ce_rel v k e x) _ _ (fun x hx => ?_)).symm
  by_cases hr : ce_rel v k e x = true
  · rw [if_pos hr]
    obtain ⟨s, hs, q⟩ := ce_rel_iff.mp hr
    rw [← q]
    exact fm_coset hs
  · rw [if_neg hr, List.countP_eq_zero]
    intro t ht q
    exact hr (ce_rel_iff.mpr ⟨t, pm_P_mem.mp ht, beq_iff_eq.mp q⟩)
/-- ALL PACKINGS, by the entries and their orders: whatever list L has each form once -/
theorem ce_count {L : List (List Nat)} (hn : L.Nodup) (hL : ∀ e, e ∈ L ↔ e ∈ ce_U v k lam n ∧ ce_isf v (fm_K v k) e = true) : (ce_U v k lam n).length = (L.map (fun e => (pm_P v).length / ce_ord v k e)).sum := by
  have h1 : ((ce_U v k lam n).map (fun x => L.countP (fun e => ce_rel v k e x))).sum = (ce_U v k lam n).length * 1 := by
    refine ct_const _ _ _ (fun x hx => ?_)
    obtain ⟨e, he, hf, hr⟩ := ce_form hx
    refine ct_one hn ((hL e).mpr ⟨he, hf⟩) hr (fun b hb hq => ?_)
    obtain ⟨hb1, hb2⟩ := (hL b).mp hb
    exact ce_form_u hb1 he hb2 hf hq hr
  rw [Nat.mul_one, ct_swap (fun e x => ce_rel v k e x)] at h1
  rw [← h1]
  congr 1
  refine List.map_congr_left (fun e he => ?_)
  rw [← ce_orbit ((hL e).mp he).1, Nat.mul_div_cancel _ ce_ord_pos]
end CT
end
section
/-! A FORM WITHOUT ITS LAST BLOCK IS A FORM: so the list has every form -/
theorem lx_first : ∀ (a b : List Int), lx_gt a b = true → ∃ j, j < a.length ∧ (∀ i, i < j → a.getD i 0 = b.getD i 0) ∧ b.getD j 0 < a.getD j 0
  | [], _, h => by simp [lx_gt] at h
  | _ :: _, [], h => by simp [lx_gt] at h
  | x :: a, y :: b, h => by
    simp only [lx_gt, Bool.or_eq_true, Bool.and_eq_true, decide_eq_true_eq] at h
    rcases h with h | ⟨rfl, h⟩
    · exact ⟨0, by simp, fun i hi => by omega, by simpa using h⟩
    · obtain ⟨j, h1, h2, h3⟩ := lx_first a b h
      refine ⟨j + 1, by simpa using h1, fun i hi => ?_, by simpa using h3⟩
      cases i with
      | zero => rfl
      | succ i => simpa using h2 i (by omega)
theorem ct_zero : ∀ (b : List Nat), (∀ i, b.getD i 0 = 0) → b.sum = 0
  | [], _ => rfl
  | x :: b, h => by
    have h0 : x = 0 := by simpa using h 0
    rw [List.sum_cons, h0, ct_zero b (fun i => by simpa using h (i + 1))]
theorem ct_less : ∀ (j : Nat) (a b : List Nat), a.length = b.length → j < a.length → (∀ i, i < j → a.getD i 0 = b.getD i 0) → b.getD j 0 < a.getD j 0 → (∀ i, j < i → b.getD i 0 = 0) → b.sum < a.sum
  | _, [], _, _, h, _, _, _ => by simp at h
  | _, _ :: _, [], h, _, _, _, _ => by simp at h
  | 0, x :: a, y :: b, _, _, _, h2, h3 => by
    have hz := ct_zero b (fun i => by simpa using h3 (i + 1) (by omega))
    have : y < x := by simpa using h2
    rw [List.sum_cons, List.sum_cons, hz]
    omega
  | j + 1, x :: a, y :: b, hl, hj, h1, h2, h3 => by
    have h0 : x = y := by simpa using h1 0 (by omega)
    have := ct_less j a b (by simpa using hl) (by simpa using hj) (fun i hi => by simpa using h1 (i + 1) (by omega)) (by simpa using h2) (fun i hi => by simpa using h3 (i + 1) (by omega))
    rw [List.sum_cons, List.sum_cons]
    omega
section CO
variable {v k lam n : Nat}
theorem ce_total {t e : List Nat} (ht : t.Perm (List.range v)) (he : ∀ m ∈ e, m ∈ fm_K v k) : ((fm_K v k).map (fun b => e.count (pm_im t b))).sum = e.length := by
  have h1 := ct_swap (fun m b => m == pm_im t b) e (fm_K v k)
  have h2 : (fm_K v k).map (fun b => e.count (pm_im t b)) = (fm_K v k).map (fun b => e.countP (fun m => m == pm_im t b)) := List.map_congr_left (fun b _ => rfl)
  rw [h2, h1, ct_const _ _ 1, Nat.mul_one]
  intro m hm
  have hmK := he m hm
  have hm2 := (fm_K_mem.mp hmK).1
  refine ct_one (fm_K_nodup v k) (fm_K_im (pm_i_perm ht) hmK) (by rw [pm_im_inv2 ht hm2]; simp) (fun b hb hq => ?_)
  rw [beq_iff_eq.mp hq, pm_im_inv ht (fm_K_mem.mp hb).1]
theorem fm_K_sorted : (fm_K v k).Pairwise (· < ·) := List.Pairwise.filter _ List.pairwise_lt_range
theorem ce_row_at {e t : List Nat} {i : Nat} (hi : i < (fm_K v k).length) : (ce_row (fm_K v k) e t).getD i 0 = (e.count (pm_im t ((fm_K v k).getD i 0)) : Int) := by
  simp [ce_row, fm_row, List.getD_eq_getElem?_getD, List.getElem?_map, List.getElem?_eq_getElem hi]
theorem fm_K_at {i : Nat} (hi : i < (fm_K v k).length) : (fm_K v k).getD i 0 ∈ fm_K v k := by
  rw [List.getD_eq_getElem?_getD, List.getElem?_eq_getElem hi]
  exact List.getElem_mem hi
theorem fm_K_ix {m : Nat} (h : m ∈ fm_K v k) : ∃ i, i < (fm_K v k).length ∧ (fm_K v k).getD i 0 = m := by
  obtain ⟨i, hi, e⟩ := List.getElem_of_mem h
  exact ⟨i, hi, by rw [List.getD_eq_getElem?_getD, List.getElem?_eq_getElem hi]; exact e⟩
theorem fm_K_lt {i j : Nat} (hij : i < j) (hj : j < (fm_K v k).length) : (fm_K v k).getD i 0 < (fm_K v k).getD j 0 := by
  rw [List.getD_eq_getElem?_getD, List.getD_eq_getElem?_getD, List.getElem?_eq_getElem hj, List.getElem?_eq_getElem (show i < (fm_K v k).length by omega)]
  exact List.pairwise_iff_getElem.mp fm_K_sorted i j (by omega) hj hij
theorem ce_init {e : List Nat} {b : Nat} (hx : e ++ [b] ∈ ce_U v k lam (n + 1)) (hf : ce_isf v (fm_K v k) (e ++ [b]) = true) : ce_isf v (fm_K v k) e = true := by
  obtain ⟨-, hs, hK, -⟩ := (ce_U_mem _ _).mp hx
  have heK : ∀ m ∈ e, m ∈ fm_K v k := fun m hm => hK m (List.mem_append_left _ hm)
  have hbK : b ∈ fm_K v k := hK b (by simp)
  have hle : ∀ m ∈ e, m ≤ b := fun m hm => (List.pairwise_append.mp hs).2.2 m hm b List.mem_cons_self
  rw [ce_isf_iff] at hf ⊢
  intro t ht
  cases hg : lx_gt (ce_row (fm_K v k) e t) (ce_row (fm_K v k) e (List.range v)) with
  | false => rfl
  | true =>
    exfalso
    obtain ⟨j0, hj0, h1, h2⟩ := lx_first _ _ hg
    have hj0 : j0 < (fm_K v k).length := by simpa [ce_row, fm_row] using hj0
    have idr : ∀ i, i < (fm_K v k).length → (ce_row (fm_K v k) e (List.range v)).getD i 0 = (e.count ((fm_K v k).getD i 0) : Int) := by
      intro i hi
      rw [ce_row_at hi, pm_im_id (fm_K_mem.mp (fm_K_at hi)).1]
    obtain ⟨jb, hjb, ejb⟩ := fm_K_ix hbK
    -- the first place at which they differ lies ahead of b's
    have hlt : j0 < jb := by
      rcases Nat.lt_or_ge j0 jb with h | h
      · exact h
      · exfalso
        have := ct_less j0 ((fm_K v k).map (fun b => e.count (pm_im t b))) ((fm_K v k).map (fun b => e.count b)) (by simp) (by simpa using hj0) (fun i hi => ?_) ?_ (fun i hi => ?_)
        · rw [ce_total ht heK] at this
          have hid : (fm_K v k).map (fun b => e.count b) = (fm_K v k).map (fun b => e.count (pm_im (List.range v) b)) := List.map_congr_left (fun b hb => by rw [pm_im_id (fm_K_mem.mp hb).1])
          rw [hid, ce_total pm_id heK] at this
          omega
        · have hi' : i < (fm_K v k).length := by omega
          have := h1 i hi
          rw [ce_row_at hi', idr i hi'] at this
          have := Int.ofNat.inj this
          simpa [List.getD_eq_getElem?_getD, List.getElem?_map, List.getElem?_eq_getElem hi'] using this
        · rw [idr j0 hj0, ce_row_at hj0] at h2
          have := Int.ofNat_lt.mp h2
          simpa [List.getD_eq_getElem?_getD, List.getElem?_map, List.getElem?_eq_getElem hj0] using this
        · by_cases hi' : i < (fm_K v k).length
          · have hbi : b < (fm_K v k).getD i 0 := by rw [← ejb]; exact fm_K_lt (by omega) hi'
            have : e.count ((fm_K v k).getD i 0) = 0 := List.count_eq_zero.mpr (fun q => by have := hle _ q; omega)
            simpa [List.getD_eq_getElem?_getD, List.getElem?_map, List.getElem?_eq_getElem hi'] using this
          · simp [List.getD_eq_getElem?_getD, List.getElem?_eq_none (show ((fm_K v k).map (fun b => e.count b)).length ≤ i by simpa using hi')]
    obtain ⟨j1, hj1, ej1⟩ := fm_K_ix (fm_K_im (pm_i_perm ht) hbK)
    have hb2 := (fm_K_mem.mp hbK).1
    have one : ∀ i, i < (fm_K v k).length → (pm_im t ((fm_K v k).getD i 0) = b ↔ i = j1) := by
      intro i hi
      constructor
      · intro q
        have hq : (fm_K v k).getD i 0 = (fm_K v k).getD j1 0 := by rw [ej1, ← q, pm_im_inv ht (fm_K_mem.mp (fm_K_at hi)).1]
        rcases Nat.lt_trichotomy i j1 with h | h | h
        · have := fm_K_lt h hj1; omega
        · exact h
        · have := fm_K_lt h hi; omega
      · rintro rfl
        rw [ej1, pm_im_inv2 ht hb2]
    have rx : ∀ (s : List Nat) (i : Nat), i < (fm_K v k).length → (ce_row (fm_K v k) (e ++ [b]) s).getD i 0 = (ce_row (fm_K v k) e s).getD i 0 + (if pm_im s ((fm_K v k).getD i 0) = b then 1 else 0) := by
      intro s i hi
      rw [ce_row_at hi, ce_row_at hi, List.count_append, List.count_singleton]
      by_cases hq : pm_im s ((fm_K v k).getD i 0) = b
      · rw [if_pos hq, if_pos (by rw [hq]; exact beq_self_eq_true b)]
        rfl
      · rw [if_neg hq, if_neg (fun z => hq (beq_iff_eq.mp z).symm)]
        rfl
    have rid : ∀ i, i < jb → (ce_row (fm_K v k) (e ++ [b]) (List.range v)).getD i 0 = (ce_row (fm_K v k) e (List.range v)).getD i 0 := by
      intro i hi
      have hi' : i < (fm_K v k).length := by omega
      rw [rx _ i hi', pm_im_id (fm_K_mem.mp (fm_K_at hi')).1, if_neg (fun q => by have := fm_K_lt hi hjb; omega)]
      omega
    have hlen : (ce_row (fm_K v k) (e ++ [b]) t).length = (ce_row (fm_K v k) (e ++ [b]) (List.range v)).length := by simp [ce_row, fm_row]
    have hlen2 : (ce_row (fm_K v k) (e ++ [b]) t).length = (fm_K v k).length := by simp [ce_row, fm_row]
    have hcon : lx_gt (ce_row (fm_K v k) (e ++ [b]) t) (ce_row (fm_K v k) (e ++ [b]) (List.range v)) = true := by
      rcases Nat.lt_or_ge j1 j0 with h | h
      · refine lx_at j1 _ _ hlen (fun i hi => ?_) (by omega) ?_
        · rw [rx t i (by omega), rid i (by omega), if_neg (fun q => by have := (one i (by omega)).mp q; omega), h1 i (by omega)]
          omega
        · rw [rx t j1 hj1, rid j1 (by omega), if_pos ((one j1 hj1).mpr rfl), h1 j1 h]
          omega
      · refine lx_at j0 _ _ hlen (fun i hi => ?_) (by omega) ?_
        · rw [rx t i (by omega), rid i (by omega), if_neg (fun q => by have := (one i (by omega)).mp q; omega), h1 i hi]
          omega
        · rw [rx t j0 hj0, rid j0 hlt]
          split <;> omega
    rw [hf t ht] at hcon
    cases hcon
theorem ce_L_mem : ∀ (n : Nat) (x : List Nat), x ∈ ce_L v k lam n ↔ x ∈ ce_U v k lam n ∧ ce_isf v (fm_K v k) x = true
  | 0, x => by
    simp only [ce_L, ce_U, List.mem_singleton]
    constructor
    · rintro rfl
      refine ⟨rfl, ?_⟩
      rw [ce_isf_iff]
      intro t _
      have : ce_row (fm_K v k) [] t = ce_row (fm_K v k) [] (List.range v) := by
        unfold ce_row
        rw [fm_row_eq]
        intro b _
        simp
      rw [this, lx_irr]
    · exact fun h => h.1
  | n + 1, x => by
    constructor
    · intro h
      refine ⟨ce_sub _ _ h, ?_⟩
      simp only [ce_L, ce_next, List.mem_flatMap, List.mem_map, List.mem_filter, Bool.and_eq_true, decide_eq_true_eq] at h
      obtain ⟨e, -, b, ⟨-, -, -, hf⟩, rfl⟩ := h
      exact hf
    · rintro ⟨hU, hf⟩
      have hU2 := hU
      simp only [ce_U, List.mem_flatMap, List.mem_map, ce_ext, List.mem_filter, Bool.and_eq_true, decide_eq_true_eq] at hU
      obtain ⟨e, he, b, ⟨hb, h1, h2⟩, rfl⟩ := hU
      simp only [ce_L, ce_next, List.mem_flatMap, List.mem_map, List.mem_filter, Bool.and_eq_true, decide_eq_true_eq]
      exact ⟨e, (ce_L_mem n e).mpr ⟨he, ce_init hU2 hf⟩, b, ⟨hb, h1, h2, hf⟩, rfl⟩
/-- the number of packings, by the list -/
theorem ce_labelled : (ce_U v k lam n).length = ((ce_L v k lam n).map (fun e => (pm_P v).length / ce_ord v k e)).sum := ce_count (ce_L_nodup n) (ce_L_mem n)
end CO
end
section
/-! THE REFERENCE'S COUNT OF ALL PACKINGS: by going back and forth; how many steps it takes -/
section LB
variable {v k lam : Nat}
/-- g: what comes of e with one more block b, and the kinds from b on -/
def lb_in (v lam : Nat) (c : Nat → Nat) (g : List Nat → List Nat → Nat) (e : List Nat) : List Nat → Nat
  | [] => c 0
  | b :: ks => c 1 + (if ce_pk v lam (e ++ [b]) = true then g (e ++ [b]) (b :: ks) else 0) + lb_in v lam c g e ks
/-- how many packings begin with e and go on with j more of the kinds ks, not falling -/
def lb_C (v lam : Nat) : Nat → List Nat → List Nat → Nat
  | 0, _, _ => 1
  | j + 1, e, ks => lb_in v lam (fun _ => 0) (lb_C v lam j) e ks
/-- how many steps it takes until the place behind e is left -/
def lb_S (v lam : Nat) : Nat → List Nat → List Nat → Nat
  | 0, _, _ => 0
  | j + 1, e, ks => lb_in v lam (fun _ => 1) (lb_S v lam j) e ks
/-- how many places are come to -/
def lb_N (v lam : Nat) : Nat → List Nat → List Nat → Nat
  | 0, _, _ => 0
  | j + 1, e, ks => 1 + lb_in v lam (fun _ => 0) (lb_N v lam j) e ks
theorem lb_S_le (M : Nat) : ∀ (j : Nat) (e ks : List Nat), ks.length ≤ M → lb_S v lam j e ks ≤ (M + 1) * lb_N v lam j e ks
  | 0, e, ks, _ => by simp [lb_S]
  | j + 1, e, ks, h => by
    have key : ∀ ks : List Nat, ks.length ≤ M → lb_in v lam (fun _ => 1) (lb_S v lam j) e ks ≤ (ks.length + 1) + (M + 1) * lb_in v lam (fun _ => 0) (lb_N v lam j) e ks := by
      intro ks
      induction ks with
      | nil => intro _; simp [lb_in]
      | cons b ks ih =>
        intro hl
        have h1 := ih (by simp at hl; omega)
        have h2 := lb_S_le M j (e ++ [b]) (b :: ks) hl
        simp only [lb_in]
        split
        · rw [Nat.zero_add, Nat.mul_add, List.length_cons]
          omega
        · simp only [Nat.zero_add, Nat.add_zero, List.length_cons]
          omega
    have := key ks h
    simp only [lb_S, lb_N]
    rw [Nat.mul_add, Nat.mul_one]
    omega
/-- the kinds that may come behind e -/
def lb_K (K e : List Nat) : List Nat := K.dropWhile (fun b => decide (b < ce_last e))
theorem lb_drop {K : List Nat} (hK : K.Pairwise (· < ·)) {a : Nat} : ∀ b, b ∈ K.dropWhile (fun b => decide (b < a)) ↔ b ∈ K ∧ a ≤ b := by
  induction K with
  | nil => intro b; simp
  | cons c K ih =>
    intro b
    have hc := List.pairwise_cons.mp hK
    by_cases h : c < a
    · rw [List.dropWhile_cons_of_pos (by simpa using h), ih hc.2 b, List.mem_cons]
      constructor
      · rintro ⟨h1, h2⟩; exact ⟨Or.inr h1, h2⟩
      · rintro ⟨rfl | h1, h2⟩
        · omega
        · exact ⟨h1, h2⟩
    · rw [List.dropWhile_cons_of_neg (by simpa using h), List.mem_cons]
      constructor
      · rintro (rfl | h1)
        · exact ⟨Or.inl rfl, by omega⟩
        · have := hc.1 b h1
          exact ⟨Or.inr h1, by omega⟩
      · exact fun h1 => h1.1
/-- the sum over what may come next: for kinds in order, the kinds from b on are those not below b -/
theorem lb_in_sum {K : List Nat} (hK : K.Pairwise (· < ·)) (g : List Nat → List Nat → Nat) (e : List Nat) : ∀ a : Nat, lb_in v lam (fun _ => 0) g e (K.dropWhile (fun b => decide (b < a))) = (((K.filter (fun b => decide (a ≤ b) && ce_pk v lam (e ++ [b])))).map (fun b => g (e ++ [b]) (K.dropWhile (fun c => decide (c < b))))).sum := by
  intro a
  -- over a suffix of K
  have key : ∀ (ks : List Nat), ks.Pairwise (· < ·) → lb_in v lam (fun _ => 0) g e ks = ((ks.filter (fun b => ce_pk v lam (e ++ [b]))).map (fun b => g (e ++ [b]) (ks.dropWhile (fun c => decide (c < b))))).sum := by
    intro ks
    induction ks with
    | nil => intro _; simp [lb_in]
    | cons b ks ih =>
      intro hs
      have hc := List.pairwise_cons.mp hs
      have e1 : ∀ d ∈ ks.filter (fun b => ce_pk v lam (e ++ [b])), g (e ++ [d]) ((b :: ks).dropWhile (fun c => decide (c < d))) = g (e ++ [d]) (ks.dropWhile (fun c => decide (c < d))) := by
        intro d hd
        have hbd := hc.1 d (List.mem_filter.mp hd).1
        rw [List.dropWhile_cons_of_pos (by simpa using hbd)]
      simp only [lb_in, Nat.zero_add]
      rw [ih hc.2]
      by_cases hp : ce_pk v lam (e ++ [b]) = true
      · rw [if_pos hp, List.filter_cons_of_pos (p := fun b => ce_pk v lam (e ++ [b])) hp, List.map_cons, List.sum_cons, List.dropWhile_cons_of_neg (by simp), List.map_congr_left e1]
      · rw [if_neg hp, List.filter_cons_of_neg (p := fun b => ce_pk v lam (e ++ [b])) hp, List.map_congr_left e1, Nat.zero_add]
  induction K with
  | nil => simp [lb_in]
  | cons c K ih =>
    have hc := List.pairwise_cons.mp hK
    by_cases h : c < a
    · rw [List.dropWhile_cons_of_pos (by simpa using h), ih hc.2, List.filter_cons_of_neg (by simp; intro q; omega)]
      congr 1
      refine List.map_congr_left (fun d hd => ?_)
      have hd2 := (List.mem_filter.mp hd)
      have : c < d := hc.1 d hd2.1
      rw [List.dropWhile_cons_of_pos (by simpa using this)]
    · rw [List.dropWhile_cons_of_neg (by simpa using h), key _ hK]
      congr 1
      have hf : (c :: K).filter (fun b => decide (a ≤ b) && ce_pk v lam (e ++ [b])) = (c :: K).filter (fun b => ce_pk v lam (e ++ [b])) := by
        refine List.filter_congr (fun d hd => ?_)
        have : a ≤ d := by
          rcases List.mem_cons.mp hd with rfl | h2
          · omega
          · have := hc.1 d h2; omega
        simp [this]
      rw [hf]
theorem lb_flat {α β : Type} (l : List α) (f : α → List β) (g : β → Nat) : ((l.flatMap f).map g).sum = (l.map (fun a => ((f a).map g).sum)).sum := by
  induction l with
  | nil => rfl
  | cons a l ih => rw [List.flatMap_cons, List.map_append, List.sum_append_nat, ih, List.map_cons, List.sum_cons]
theorem lb_last (e : List Nat) (b : Nat) : ce_last (e ++ [b]) = b := by simp [ce_last]
/-- the count is that of all packings -/
theorem lb_count : ∀ (j d : Nat), ((ce_U v k lam d).map (fun e => lb_C v lam j e (lb_K (fm_K v k) e))).sum = (ce_U v k lam (d + j)).length
  | 0, d => by
    simp only [lb_C]
    rw [ct_const _ _ 1 (fun _ _ => rfl), Nat.mul_one, Nat.add_zero]
  | j + 1, d => by
    have h := lb_count j (d + 1)
    rw [show d + (j + 1) = d + 1 + j by omega, ← h]
    simp only [ce_U]
    rw [lb_flat]
    congr 1
    refine List.map_congr_left (fun e _ => ?_)
    simp only [lb_C, lb_K]
    rw [lb_in_sum fm_K_sorted, List.map_map]
    unfold ce_ext
    congr 1
    refine List.map_congr_left (fun b _ => ?_)
    simp only [Function.comp_apply, lb_last]
theorem lb_root {n : Nat} : lb_C v lam n [] (fm_K v k) = (ce_U v k lam n).length := by
  have h := lb_count (v := v) (k := k) (lam := lam) n 0
  simp only [ce_U, List.map_cons, List.map_nil, List.sum_cons, List.sum_nil, Nat.add_zero, Nat.zero_add] at h
  rw [← h]
  congr 1
  have : ce_last [] = 0 := rfl
  unfold lb_K
  rw [this]
  cases fm_K v k with
  | nil => rfl
  | cons b l => rw [List.dropWhile_cons_of_neg (by simp)]
end LB
end
section
/-! WHAT THE TWO PROGRAMS ANSWER, in the words of layings -/
section SP
variable {v k lam : Nat}
/-- the greatest row that a renaming leads to -/
def sp_max (v : Nat) (K xs : List Nat) : List Int := ((pm_P v).foldl (lx_step (ce_row K xs)) (ce_row K xs (List.range v), 0)).1
theorem sp_max_spec (xs : List Nat) : (∃ t, t.Perm (List.range v) ∧ ce_row (fm_K v k) xs t = sp_max v (fm_K v k) xs) ∧ ∀ t, t.Perm (List.range v) → lx_gt (ce_row (fm_K v k) xs t) (sp_max v (fm_K v k) xs) = false := by
  have hf := lx_fold (ce_row (fm_K v k) xs) (fm_K v k).length (fun t => ce_row_len) (pm_P v) (ce_row (fm_K v k) xs (List.range v), 0) ce_row_len
  refine ⟨?_, fun t ht => hf.2.1 t (pm_P_mem.mpr ht)⟩
  rcases hf.2.2.2.1 with h | ⟨t, ht, h⟩
  · exact ⟨List.range v, pm_id, h.symm⟩
  · exact ⟨t, pm_P_mem.mp ht, h⟩
theorem sp_max_len (xs : List Nat) : (sp_max v (fm_K v k) xs).length = (fm_K v k).length := (lx_fold (ce_row (fm_K v k) xs) (fm_K v k).length (fun t => ce_row_len) (pm_P v) (ce_row (fm_K v k) xs (List.range v), 0) ce_row_len).1
theorem sp_max_u {xs : List Nat} {B : List Int} (h1 : ∃ t, t.Perm (List.range v) ∧ ce_row (fm_K v k) xs t = B) (h2 : ∀ t, t.Perm (List.range v) → lx_gt (ce_row (fm_K v k) xs t) B = false) : B = sp_max v (fm_K v k) xs := by
  obtain ⟨⟨t, ht, e⟩, hm⟩ := sp_max_spec (v := v) (k := k) xs
  obtain ⟨s, hs, f⟩ := h1
  have a := h2 t ht
  have b := hm s hs
  rw [e] at a
  rw [f] at b
  rcases lx_tri B (sp_max v (fm_K v k) xs) (by rw [← f, sp_max_len]; exact fm_row_len) with h | h | h
  · exact h
  · rw [b] at h; cases h
  · rw [a] at h; cases h
/-- as often as the search counts -/
theorem sp_cnt (xs : List Nat) : ((pm_P v).foldl (lx_step (ce_row (fm_K v k) xs)) (ce_row (fm_K v k) xs (List.range v), 0)).2 = ce_ord v k xs := by
  have hf := (lx_fold (ce_row (fm_K v k) xs) (fm_K v k).length (fun t => ce_row_len) (pm_P v) (ce_row (fm_K v k) xs (List.range v), 0) ce_row_len).2.2.2.2
  rw [hf]
  obtain ⟨⟨t, ht, e⟩, -⟩ := sp_max_spec (v := v) (k := k) xs
  have h1 : ((pm_P v).foldl (lx_step (ce_row (fm_K v k) xs)) (ce_row (fm_K v k) xs (List.range v), 0)).1 = ce_row (fm_K v k) xs t := e.symm
  rw [h1]
  have := fm_coset (v := v) (k := k) (f := fun m => xs.count m) ht
  unfold ce_ord
  rw [← this]
  split <;> simp [ce_row]
/-- the row of masks of a row of numbers -/
def sp_un (K : List Nat) (u : List Int) : List Nat := (List.range K.length).flatMap (fun j => List.replicate (u.getD j 0).toNat (K.getD j 0))
/-- a laying whose blocks are renamed -/
theorem sp_ren_row {t s xs : List Nat} (ht : t.Perm (List.range v)) (hs : s.Perm (List.range v)) (hx : ∀ x ∈ xs, x < 2 ^ v) : ce_row (fm_K v k) (xs.map (pm_im t)) s = ce_row (fm_K v k) xs (pm_o (pm_i v t) s) := by
  unfold ce_row
  rw [fm_row_eq]
  intro b hb
  rw [ce_count_map ht (pm_im_lt hs b) xs hx, pm_im_o (pm_i_perm ht) hs]
theorem sp_ren_max {t xs : List Nat} (ht : t.Perm (List.range v)) (hx : ∀ x ∈ xs, x < 2 ^ v) : sp_max v (fm_K v k) (xs.map (pm_im t)) = sp_max v (fm_K v k) xs := by
  obtain ⟨⟨s, hs, e⟩, hm⟩ := sp_max_spec (v := v) (k := k) xs
  refine (sp_max_u ⟨pm_o t s, pm_o_perm ht hs, ?_⟩ (fun u hu => ?_)).symm
  · rw [sp_ren_row ht (pm_o_perm ht hs) hx, ← pm_o_assoc ht hs (pm_i_perm ht)]
    have : pm_o (pm_i v t) t = List.range v := by
      refine pm_ext (pm_len (pm_o_perm (pm_i_perm ht) ht)) List.length_range (fun p hp => ?_)
      rw [pm_o_at (by rw [pm_len ht]; exact hp), pm_i_at ht hp, pm_range_at hp]
    rw [this]
    have h2 : pm_o (List.range v) s = s := by
      refine pm_ext (pm_len (pm_o_perm pm_id hs)) (pm_len hs) (fun p hp => ?_)
      rw [pm_o_at (by rw [pm_len hs]; exact hp), pm_range_at (pm_lt hs hp)]
    rw [h2]
    exact e
  · rw [sp_ren_row ht hu hx]
    exact hm _ (pm_o_perm (pm_i_perm ht) hu)
theorem sp_ren_ord {t xs : List Nat} (ht : t.Perm (List.range v)) (hx : ∀ x ∈ xs, x < 2 ^ v) : ce_ord v k (xs.map (pm_im t)) = ce_ord v k xs := by
  have h1 : ∀ ys : List Nat, ce_ord v k ys = (pm_P v).countP (fun s => ce_row (fm_K v k) ys s == sp_max v (fm_K v k) ys) := by
    intro ys
    obtain ⟨⟨s, hs, e⟩, -⟩ := sp_max_spec (v := v) (k := k) ys
    have := fm_coset (v := v) (k := k) (f := fun m => ys.count m) hs
    unfold ce_ord
    rw [← this, ← e]
    rfl
  rw [h1, h1, sp_ren_max ht hx, ← (pm_left (pm_i_perm ht)).countP_eq (fun s => ce_row (fm_K v k) xs s == sp_max v (fm_K v k) xs), List.countP_map]
  apply List.countP_congr
  intro s hs
  simp only [Function.comp_apply, sp_ren_row ht (pm_P_mem.mp hs) hx]
/-- one block more: only the pairs in it count -/
theorem sp_stays {e : List Nat} {b : Nat} (he : ce_pk v lam e = true) : ce_pk v lam (e ++ [b]) = true ↔ ∀ p q, p < q → q < v → b.testBit p = true → b.testBit q = true → ce_meet e p q < lam := by
  rw [ce_pk_iff] at he ⊢
  have hm : ∀ p q, ce_meet (e ++ [b]) p q = ce_meet e p q + (if (b.testBit p && b.testBit q) = true then 1 else 0) := by
    intro p q
    unfold ce_meet
    rw [List.countP_append, List.countP_cons, List.countP_nil, Nat.zero_add]
  constructor
  · intro h p q hpq hq hp1 hq1
    have := h p q hpq hq
    rw [hm, hp1, hq1] at this
    simp at this
    omega
  · intro h p q hpq hq
    have h0 := he p q hpq hq
    rw [hm]
    split
    · rename_i hb
      simp only [Bool.and_eq_true] at hb
      have := h p q hpq hq hb.1 hb.2
      omega
    · omega
/-- the least point to which a renaming of e to itself takes p -/
def sp_orb (v k : Nat) (e : List Nat) (p : Nat) : Nat := ((pm_P v).filter (fun t => ce_row (fm_K v k) e t == ce_row (fm_K v k) e (List.range v))).foldl (fun b t => min b (t.getD p 0)) p
end SP
end
section
/-! ints of the machine against naturals: masks below 64, points below 6 -/
theorem bi_one : ∀ p, p < 31 → nI 1 <<< (nI p &&& 31) = nI (2 ^ p) := by decide +kernel
theorem bi_two : ∀ p, p < 30 → nI 2 <<< (nI p &&& 31) = nI (2 ^ (p + 1)) := by decide +kernel
theorem bi_bit : ∀ m, m < 64 → ∀ p, p < 7 → (nI m >>> (nI p &&& 31)) &&& nI 1 = nI (if m.testBit p = true then 1 else 0) := by decide +kernel
theorem bi_or : ∀ a, a < 64 → ∀ b, b < 64 → nI a ||| nI b = nI (a ||| b) := by decide +kernel
theorem bi_and : ∀ a, a < 64 → ∀ b, b < 64 → nI a &&& nI b = nI (a &&& b) := by decide +kernel
theorem bi_xor : ∀ a, a < 64 → ∀ b, b < 64 → nI a ^^^ nI b = nI (a ^^^ b) := by decide +kernel
/-- a block holds two points -/
theorem bi_pair : ∀ m, m < 64 → ∀ p, p < 6 → ∀ q, q < 6 → ((m &&& (2 ^ p ||| 2 ^ q) = (2 ^ p ||| 2 ^ q)) ↔ (m.testBit p && m.testBit q) = true) := by decide +kernel
/-- the swap of two points, on v points -/
def bi_tau (v p q : Nat) : List Nat := (List.range v).map (fun x => if x = p then q else if x = q then p else x)
theorem bi_tau3 : ∀ p, p < 3 → ∀ q, q < 3 → (bi_tau 3 p q).isPerm (List.range 3) = true ∧ ∀ m, m < 8 → pm_im (bi_tau 3 p q) m = (if m.testBit p = m.testBit q then m else m ^^^ (2 ^ p ||| 2 ^ q)) := by decide +kernel
theorem bi_tau4 : ∀ p, p < 4 → ∀ q, q < 4 → (bi_tau 4 p q).isPerm (List.range 4) = true ∧ ∀ m, m < 16 → pm_im (bi_tau 4 p q) m = (if m.testBit p = m.testBit q then m else m ^^^ (2 ^ p ||| 2 ^ q)) := by decide +kernel
theorem bi_tau5 : ∀ p, p < 5 → ∀ q, q < 5 → (bi_tau 5 p q).isPerm (List.range 5) = true ∧ ∀ m, m < 32 → pm_im (bi_tau 5 p q) m = (if m.testBit p = m.testBit q then m else m ^^^ (2 ^ p ||| 2 ^ q)) := by decide +kernel
theorem bi_tau6 : ∀ p, p < 6 → ∀ q, q < 6 → (bi_tau 6 p q).isPerm (List.range 6) = true ∧ ∀ m, m < 64 → pm_im (bi_tau 6 p q) m = (if m.testBit p = m.testBit q then m else m ^^^ (2 ^ p ||| 2 ^ q)) := by decide +kernel
/-- the reference's numbering of renamings: by its digits, the points that are left in order -/
def bi_ref : Nat → List Nat → Nat → List Nat
  | 0, _, _ => []
  | n + 1, r, i => r.getD (i % (n + 1)) 0 :: bi_ref n (r.erase (r.getD (i % (n + 1)) 0)) (i / (n + 1))
/-- and back: the number of a renaming -/
def bi_rk : List Nat → List Nat → Nat
  | _, [] => 0
  | r, q :: s => r.idxOf q + r.length * bi_rk (r.erase q) s
theorem bi_refP {v N : Nat} (h1 : ((List.range N).all (fun i => (bi_ref v (List.range v) i).isPerm (List.range v) && bi_rk (List.range v) (bi_ref v (List.range v) i) == i)) = true) (h2 : ((pm_P v).all (fun s => decide (bi_rk (List.range v) s < N) && bi_ref v (List.range v) (bi_rk (List.range v) s) == s)) = true) : ((List.range N).map (bi_ref v (List.range v))).Perm (pm_P v) := by
  simp only [List.all_eq_true, Bool.and_eq_true, beq_iff_eq, decide_eq_true_eq, List.mem_range] at h1 h2
  refine (List.perm_ext_iff_of_nodup ?_ (pm_P_nodup v)).mpr (fun s => ?_)
  · unfold List.Nodup
    rw [List.pairwise_map]
    refine List.Pairwise.imp_of_mem (fun {a b} ha hb hab e => hab ?_) (List.nodup_range (n := N))
    rw [← (h1 a (List.mem_range.mp ha)).2, e, (h1 b (List.mem_range.mp hb)).2]
  · constructor
    · intro h
      obtain ⟨i, hi, rfl⟩ := List.mem_map.mp h
      exact pm_P_mem.mpr (List.isPerm_iff.mp (h1 i (List.mem_range.mp hi)).1)
    · intro h
      obtain ⟨h3, h4⟩ := h2 s h
      exact List.mem_map.mpr ⟨bi_rk (List.range v) s, List.mem_range.mpr h3, h4⟩
theorem bi_ref3 : ((List.range 6).map (bi_ref 3 (List.range 3))).Perm (pm_P 3) := bi_refP (by decide +kernel) (by decide +kernel)
theorem bi_ref4 : ((List.range 24).map (bi_ref 4 (List.range 4))).Perm (pm_P 4) := bi_refP (by decide +kernel) (by decide +kernel)
theorem bi_ref5 : ((List.range 120).map (bi_ref 5 (List.range 5))).Perm (pm_P 5) := bi_refP (by decide +kernel) (by decide +kernel)
theorem bi_ref6 : ((List.range 720).map (bi_ref 6 (List.range 6))).Perm (pm_P 6) := bi_refP (by decide +kernel) (by decide +kernel)
end
section
/-! CONTRACTS: Row -/
def T_RO_size : ma_T := fun as w post => ∃ p, as = [.inr p] ∧ zR p ∧ post (w.1 p 1) w
theorem i_RO_size {p : Nat} {w : ma_W} {post : ma_P} (h : zR p) (hp : post (w.1 p 1) w) : T_RO_size [.inr p] w post := ⟨p, rfl, h, hp⟩
theorem c_RO_size {l : Launch} : ma_Met l y_RO_size (w_RO_size :: zw_t) 0 true T_RO_size := by
  refine z_RO_size (by rintro as w post ⟨p, rfl, -⟩; simp) ?_
  rintro as w post ⟨p, rfl, h0, hp⟩ Go hGo
  exact q_RO_size_0 hGo h0 hp
def T_RO_has : ma_T := fun as w post => ∃ p x n, as = [.inr p, .inl x] ∧ zR p ∧ w.1 p 1 = nI n ∧ post (bI (hs x n)) w
theorem i_RO_has {p n : Nat} {x : Int32} {w : ma_W} {post : ma_P} (h : zR p) (hn : w.1 p 1 = nI n) (hp : post (bI (hs x n)) w) : T_RO_has [.inr p, .inl x] w post := ⟨p, x, n, rfl, h, hn, hp⟩
theorem c_RO_has {l : Launch} : ma_Met l y_RO_has (w_RO_has :: zw_t) 0 true T_RO_has := by
  refine z_RO_has (by rintro as w post ⟨p, x, n, rfl, -⟩; simp) ?_
  rintro as w post ⟨p, x, n, rfl, h0, hn, hp⟩ Go hGo
  refine q_RO_has_0 hGo h0 (hs_br hn (fun h => q_RO_has_16 hGo (q_RO_has_17 hGo ⟨bo0, ?_⟩)) (fun h => q_RO_has_17 hGo ⟨bo1, ?_⟩))
  · rw [h] at hp; exact hp
  · rw [h] at hp; exact hp
def T_RO_get : ma_T := fun as w post => ∃ p j, as = [.inr p, .inl (nI j)] ∧ zR p ∧ j < 10 ∧ post (w.2.2 (p + 1) j) w
theorem i_RO_get {p j : Nat} {w : ma_W} {post : ma_P} (h : zR p) (hj : j < 10) (hp : post (w.2.2 (p + 1) j) w) : T_RO_get [.inr p, .inl (nI j)] w post := ⟨p, j, rfl, h, hj, hp⟩
theorem c_RO_get {l : Launch} : ma_Met l y_RO_get (w_RO_get :: zw_t) 0 true T_RO_get := by
  refine z_RO_get (by rintro as w post ⟨p, j, rfl, -⟩; simp) ?_
  rintro as w post ⟨p, j, rfl, h0, hj, hp⟩ Go hGo
  exact q_RO_get_0 hGo h0 ⟨j, hj, rfl, hp⟩
def T_RO_last : ma_T := fun as w post => ∃ p xs, as = [.inr p] ∧ zR p ∧ ro w p xs ∧ post (nI (ce_last xs)) w
theorem i_RO_last {p : Nat} {xs : List Nat} {w : ma_W} {post : ma_P} (h : zR p) (hx : ro w p xs) (hp : post (nI (ce_last xs)) w) : T_RO_last [.inr p] w post := ⟨p, xs, rfl, h, hx, hp⟩
theorem c_RO_last {l : Launch} : ma_Met l y_RO_last (w_RO_last :: zw_t) 0 true T_RO_last := by
  refine z_RO_last (by rintro as w post ⟨p, xs, rfl, -⟩; simp) ?_
  rintro as w post ⟨p, xs, rfl, h0, hx, hp⟩ Go hGo
  have hl := hx.1
  refine q_RO_last_0 hGo h0 (pk_le xs.length 0 (fun h => ?_) (fun h => ?_) hx.2.1 rfl (by omega) (by omega))
  · obtain rfl : xs = [] := List.eq_nil_of_length_eq_zero (by omega)
    exact q_RO_last_21 hGo (q_RO_last_22 hGo hp)
  · refine ⟨xs.length - 1, by omega, ?_, q_RO_last_22 hGo ?_⟩
    · rw [hx.2.1, pk_sub (by omega)]
    · rw [hx.2.2 _ (by omega)]
      have e : ce_last xs = xs.getD (xs.length - 1) 0 := by
        unfold ce_last
        rw [List.getLast?_eq_getElem?, List.getD_eq_getElem?_getD]
      rw [← e]
      exact hp
def T_RO_clear : ma_T := fun as w post => ∃ p, as = [.inr p] ∧ zR p ∧ post 0 (ma_up w.1 p 1 (nI 0), w.2.1, w.2.2)
theorem i_RO_clear {p : Nat} {w : ma_W} {post : ma_P} (h : zR p) (hp : post 0 (ma_up w.1 p 1 (nI 0), w.2.1, w.2.2)) : T_RO_clear [.inr p] w post := ⟨p, rfl, h, hp⟩
theorem c_RO_clear {l : Launch} : ma_Met l y_RO_clear (w_RO_clear :: zw_t) 0 false T_RO_clear := by
  refine z_RO_clear (by rintro as w post ⟨p, rfl, -⟩; simp) ?_
  rintro as w post ⟨p, rfl, h0, hp⟩ Go hGo
  exact q_RO_clear_0 hGo h0 hp
def T_RO_add : ma_T := fun as w post => ∃ p x n, as = [.inr p, .inl x] ∧ zR p ∧ w.1 p 1 = nI n ∧ n < 10 ∧ post 0 (ma_up w.1 p 1 (nI (n + 1)), w.2.1, ma_up w.2.2 (p + 1) n x)
theorem i_RO_add {p n : Nat} {x : Int32} {w : ma_W} {post : ma_P} (h : zR p) (hn : w.1 p 1 = nI n) (h10 : n < 10) (hp : post 0 (ma_up w.1 p 1 (nI (n + 1)), w.2.1, ma_up w.2.2 (p + 1) n x)) : T_RO_add [.inr p, .inl x] w post := ⟨p, x, n, rfl, h, hn, h10, hp⟩
theorem c_RO_add {l : Launch} : ma_Met l y_RO_add (w_RO_add :: zw_t) 0 false T_RO_add := by
  refine z_RO_add (by rintro as w post ⟨p, x, n, rfl, -⟩; simp) ?_
  rintro as w post ⟨p, x, n, rfl, h0, hn, h10, hp⟩ Go hGo
  refine q_RO_add_0 hGo h0 (pk_le 10 n (fun h => absurd h (by omega)) (fun h => ⟨n, h10, hn, q_RO_add_29 hGo ?_⟩) rfl hn (by omega) (by omega))
  rw [hn, nI_add]
  exact hp
/-- a row without its place j -/
def T_RO_removeAt : ma_T := fun as w post => ∃ p j xs, as = [.inr p, .inl (nI j)] ∧ zR p ∧ ro w p xs ∧ j < xs.length ∧ ∀ w', fr [p] [p + 1] w w' → ro w' p (xs.eraseIdx j) → post 0 w'
theorem i_RO_removeAt {p j : Nat} {xs : List Nat} {w : ma_W} {post : ma_P} (h : zR p) (hx : ro w p xs) (hj : j < xs.length) (hp : ∀ w', fr [p] [p + 1] w w' → ro w' p (xs.eraseIdx j) → post 0 w') : T_RO_removeAt [.inr p, .inl (nI j)] w post := ⟨p, j, xs, rfl, h, hx, hj, hp⟩
theorem c_RO_removeAt {l : Launch} : ma_Met l y_RO_removeAt (w_RO_removeAt :: zw_t) 1 false T_RO_removeAt := by
  refine z_RO_removeAt c_RO_has (by decide) (by rintro as w post ⟨p, j, xs, rfl, -⟩; simp) ?_
  rintro as w post ⟨p, j, xs, rfl, h0, hx, hj, hp⟩ Go hGo
  have hl := hx.1
  have loop : ∀ (d n : Nat) (w' : ma_W), n + d = xs.length → j + 1 ≤ n → fr [p] [p + 1] w w' → w'.1 p 1 = nI xs.length → (∀ i, i < xs.length → w'.2.2 (p + 1) i = nI (xs.getD (if j ≤ i ∧ i + 1 < n then i + 1 else i) 0)) → Go 13 [some (.inr p), some (.inl (nI j)), some (.inl (nI n))] [] w' := by
    intro d
    induction d with
    | zero =>
      intro n w' hd hjn hf hlen ha
      refine q_RO_removeAt_13 hGo h0 (pk_le xs.length n (fun h => q_RO_removeAt_41 hGo h0 (hp _ (fr_f hf (by simp) _ _) ⟨?_, ?_, fun i hi => ?_⟩)) (fun h => absurd h (by omega)) hlen rfl (by omega) (by omega))
      · rw [List.length_eraseIdx_of_lt hj]; omega
      · show ma_up w'.1 p 1 _ p 1 = _
        rw [ma_up_s, hlen, pk_sub (by omega), List.length_eraseIdx_of_lt hj]
      · rw [List.length_eraseIdx_of_lt hj] at hi
        show w'.2.2 (p + 1) i = _
        rw [ha i (by omega), List.getD_eq_getElem?_getD, List.getD_eq_getElem?_getD, List.getElem?_eraseIdx]
        by_cases hij : i < j
        · rw [if_pos hij, if_neg (by omega)]
        · rw [if_neg hij, if_pos (by omega)]
    | succ d ih =>
      intro n w' hd hjn hf hlen ha
      refine q_RO_removeAt_13 hGo h0 (pk_le xs.length n (fun h => absurd h (by omega)) (fun h => ⟨n, by omega, rfl, n - 1, by omega, pk_sub (by omega), ?_⟩) hlen rfl (by omega) (by omega))
      rw [nI_add]
      refine ih (n + 1) _ (by omega) (by omega) (fr_a hf (by simp) _ _) hlen (fun i hi => ?_)
      show ma_up w'.2.2 (p + 1) (n - 1) (w'.2.2 (p + 1) n) (p + 1) i = _
      by_cases hin : i = n - 1
      · subst hin
        rw [ma_up_s, ha n (by omega), if_neg (by omega), if_pos (by omega)]
        congr 2
        omega
      · rw [ma_up_k _ _ _ _ hin, ha i hi]
        congr 2
        by_cases h1 : j ≤ i ∧ i + 1 < n
        · rw [if_pos h1, if_pos (by omega)]
        · rw [if_neg h1, if_neg (by omega)]
  refine q_RO_removeAt_0 hGo h0 (i_RO_has h0 hx.2.1 ?_)
  rw [hs_j hj (by omega)]
  refine bI_ne (fun _ => q_RO_removeAt_9 hGo ?_) (fun h => by cases h)
  rw [nI_add]
  refine loop (xs.length - (j + 1)) (j + 1) w (by omega) (Nat.le_refl _) (fr_refl _ _ _) hx.2.1 (fun i hi => ?_)
  rw [hx.2.2 i hi, if_neg (by omega)]
/-- two points change places in a mask -/
def sw (a b m : Nat) : Nat := if m.testBit a = m.testBit b then m else m ^^^ (2 ^ a ||| 2 ^ b)
theorem sw_lt : ∀ a, a < 6 → ∀ b, b < 6 → 2 ^ a ||| 2 ^ b < 64 := by decide +kernel
def T_RO_exchangePoints : ma_T := fun as w post => ∃ p a b xs, as = [.inr p, .inl (nI a), .inl (nI b)] ∧ zR p ∧ a < 6 ∧ b < 6 ∧ ro w p xs ∧ (∀ m ∈ xs, m < 64) ∧ ∀ w', fr [p] [p + 1] w w' → ro w' p (xs.map (sw a b)) → post 0 w'
theorem i_RO_exchangePoints {p a b : Nat} {xs : List Nat} {w : ma_W} {post : ma_P} (h : zR p) (ha : a < 6) (hb : b < 6) (hx : ro w p xs) (hm : ∀ m ∈ xs, m < 64) (hp : ∀ w', fr [p] [p + 1] w w' → ro w' p (xs.map (sw a b)) → post 0 w') : T_RO_exchangePoints [.inr p, .inl (nI a), .inl (nI b)] w post := ⟨p, a, b, xs, rfl, h, ha, hb, hx, hm, hp⟩
theorem c_RO_exchangePoints {l : Launch} : ma_Met l y_RO_exchangePoints (w_RO_exchangePoints :: zw_t) 0 false T_RO_exchangePoints := by
  refine z_RO_exchangePoints (by rintro as w post ⟨p, a, b, xs, rfl, -⟩; simp) ?_
  rintro as w post ⟨p, a, b, xs, rfl, h0, hal, hbl, hx, hm, hp⟩ Go hGo
  have hl := hx.1
  have hgm : ∀ i, i < xs.length → xs.getD i 0 < 64 := by
    intro i hi
    rw [List.getD_eq_getElem?_getD, List.getElem?_eq_getElem hi]
    exact hm _ (List.getElem_mem hi)
  have loop : ∀ (d n : Nat) (w' : ma_W) (o : Option ma_V), n + d = xs.length → fr [p] [p + 1] w w' → w'.1 p 1 = nI xs.length → (∀ i, i < xs.length → w'.2.2 (p + 1) i = nI (if i < n then sw a b (xs.getD i 0) else xs.getD i 0)) → Go 2 [some (.inr p), some (.inl (nI a)), some (.inl (nI b)), some (.inl (nI n)), o] [] w' := by
    intro d
    induction d with
    | zero =>
      intro n w' o hd hf hlen ha
      refine q_RO_exchangePoints_2 hGo h0 (pk_le xs.length n (fun h => q_RO_exchangePoints_67 hGo (hp _ hf ⟨?_, ?_, fun i hi => ?_⟩)) (fun h => absurd h (by omega)) hlen rfl (by omega) (by omega))
      · rw [List.length_map]; exact hl
      · rw [List.length_map]; exact hlen
      · rw [List.length_map] at hi
        rw [ha i hi, if_pos (by omega), List.getD_eq_getElem?_getD, List.getD_eq_getElem?_getD, List.getElem?_map, List.getElem?_eq_getElem hi]
        rfl
    | succ d ih =>
      intro n w' o hd hf hlen ha
      have hn : n < xs.length := by omega
      have hv : w'.2.2 (p + 1) n = nI (xs.getD n 0) := by rw [ha n hn, if_neg (by omega)]
      have hg := hgm n hn
      have next : ∀ (w'' : ma_W) (y : Int32), fr [p] [p + 1] w w'' → w''.1 p 1 = nI xs.length → (∀ i, i < xs.length → w''.2.2 (p + 1) i = nI (if i < n + 1 then sw a b (xs.getD i 0) else xs.getD i 0)) → Go 61 [some (.inr p), some (.inl (nI a)), some (.inl (nI b)), some (.inl (nI n)), some (.inl y)] [] w'' := by
        intro w'' y h1 h2 h3
        refine q_RO_exchangePoints_61 hGo ?_
        rw [nI_add]
        exact ih (n + 1) w'' _ (by omega) h1 h2 h3
      refine q_RO_exchangePoints_2 hGo h0 (pk_le xs.length n (fun h => absurd h (by omega)) (fun h => ⟨n, by omega, rfl, n, by omega, rfl, ?_⟩) hlen rfl (by omega) (by omega))
      rw [hv, bi_bit _ hg a (by omega), bi_bit _ hg b (by omega)]
      have same : ∀ o, ((xs.getD n 0).testBit a = (xs.getD n 0).testBit b) → Go 38 [some (.inr p), some (.inl (nI a)), some (.inl (nI b)), some (.inl (nI n)), o] [.inl (nI 0)] w' := by
        intro o he
        refine q_RO_exchangePoints_38 hGo h0 (pk_eq 0 0 (fun _ => next w' _ hf hlen (fun i hi => ?_)) (fun h => absurd rfl h))
        rw [ha i hi]
        congr 1
        by_cases hin : i = n
        · subst hin
          rw [if_neg (by omega), if_pos (by omega), sw, if_pos he]
        · by_cases h1 : i < n
          · rw [if_pos h1, if_pos (by omega)]
          · rw [if_neg h1, if_neg (by omega)]
      have diff : ∀ o, ¬ ((xs.getD n 0).testBit a = (xs.getD n 0).testBit b) → Go 38 [some (.inr p), some (.inl (nI a)), some (.inl (nI b)), some (.inl (nI n)), o] [.inl (nI 1)] w' := by
        intro o he
        refine q_RO_exchangePoints_38 hGo h0 (pk_eq 1 0 (fun h => absurd h (by omega)) (fun _ => ⟨n, by omega, rfl, n, by omega, rfl, next _ _ (fr_a hf (by simp) _ _) hlen (fun i hi => ?_)⟩))
        show ma_up w'.2.2 (p + 1) n _ (p + 1) i = _
        by_cases hin : i = n
        · subst hin
          rw [ma_up_s, hv, bi_one a (by omega), bi_one b (by omega), bi_or _ (Nat.pow_lt_pow_right (by decide) (by omega) : 2 ^ a < 2 ^ 6) _ (Nat.pow_lt_pow_right (by decide) (by omega) : 2 ^ b < 2 ^ 6), bi_xor _ hg _ (sw_lt a hal b hbl), if_pos (by omega), sw, if_neg he]
        · rw [ma_up_k _ _ _ _ hin, ha i hi]
          congr 1
          by_cases h1 : i < n
          · rw [if_pos h1, if_pos (by omega)]
          · rw [if_neg h1, if_neg (by omega)]
      cases ha2 : (xs.getD n 0).testBit a with
      | false =>
        cases hb2 : (xs.getD n 0).testBit b with
        | false => exact pk_eq 0 0 (fun _ => q_RO_exchangePoints_37 hGo (same _ (by rw [ha2, hb2]))) (fun h => absurd rfl h)
        | true => exact pk_eq 0 1 (fun h => absurd h (by omega)) (fun _ => diff _ (by rw [ha2, hb2]; decide))
      | true =>
        cases hb2 : (xs.getD n 0).testBit b with
        | false => exact pk_eq 1 0 (fun h => absurd h (by omega)) (fun _ => diff _ (by rw [ha2, hb2]; decide))
        | true => exact pk_eq 1 1 (fun _ => q_RO_exchangePoints_37 hGo (same _ (by rw [ha2, hb2]))) (fun h => absurd rfl h)
  refine q_RO_exchangePoints_0 hGo (loop xs.length 0 w _ (by omega) (fr_refl _ _ _) hx.2.1 (fun i hi => ?_))
  rw [hx.2.2 i hi, if_neg (by omega)]
end
section
/-! CONTRACTS: Listing -/
theorem gd_at {α : Type} {l : List α} {d : α} {j : Nat} (h : j < l.length) : l.getD j d = l[j] := by
  rw [List.getD_eq_getElem?_getD, List.getElem?_eq_getElem h]
  rfl
theorem tk_succ {e : List Nat} {n : Nat} (h : n < e.length) : e.take (n + 1) = e.take n ++ [e.getD n 0] := by
  rw [List.take_add_one, List.getElem?_eq_getElem h, gd_at h]
  rfl
theorem tk_len {e : List Nat} {n : Nat} (h : n ≤ e.length) : (e.take n).length = n := by rw [List.length_take]; omega
theorem nI_mul (a b : Nat) : nI a * nI b = nI (a * b) := pk_mul a b
/-- the entry at i is e -/
def le_ (w : ma_W) (p i : Nat) (e : List Nat) : Prop := ∀ j, j < e.length → w.2.2 (p + 1) (i * 10 + j) = nI (e.getD j 0)
def T_LI_restart : ma_T := fun as w post => ∃ p x, as = [.inr p, .inl x] ∧ zL p ∧ post 0 (ma_up (ma_up w.1 p 3 x) p 4 (nI 0), w.2.1, w.2.2)
theorem i_LI_restart {p : Nat} {x : Int32} {w : ma_W} {post : ma_P} (h : zL p) (hp : post 0 (ma_up (ma_up w.1 p 3 x) p 4 (nI 0), w.2.1, w.2.2)) : T_LI_restart [.inr p, .inl x] w post := ⟨p, x, rfl, h, hp⟩
theorem c_LI_restart {l : Launch} : ma_Met l y_LI_restart (w_LI_restart :: zw_t) 0 false T_LI_restart := by
  refine z_LI_restart (by rintro as w post ⟨p, x, rfl, -⟩; simp) ?_
  rintro as w post ⟨p, x, rfl, h0, hp⟩ Go hGo
  exact q_LI_restart_0 hGo h0 hp
def T_LI_addEmptyRow : ma_T := fun as w post => ∃ p x, as = [.inr p, .inl x] ∧ zL p ∧ ∀ w', fr [p] [p + 2, p + 3] w w' → w'.1 p 3 = w.1 p 3 → w'.1 p 4 = nI 1 → w'.2.2 (p + 2) 0 = x → (∀ j, j < 6 → w'.2.2 (p + 3) j = nI 0) → post 0 w'
theorem i_LI_addEmptyRow {p : Nat} {x : Int32} {w : ma_W} {post : ma_P} (h : zL p) (hp : ∀ w', fr [p] [p + 2, p + 3] w w' → w'.1 p 3 = w.1 p 3 → w'.1 p 4 = nI 1 → w'.2.2 (p + 2) 0 = x → (∀ j, j < 6 → w'.2.2 (p + 3) j = nI 0) → post 0 w') : T_LI_addEmptyRow [.inr p, .inl x] w post := ⟨p, x, rfl, h, hp⟩
theorem c_LI_addEmptyRow {l : Launch} : ma_Met l y_LI_addEmptyRow (w_LI_addEmptyRow :: zw_t) 0 false T_LI_addEmptyRow := by
  refine z_LI_addEmptyRow (by rintro as w post ⟨p, x, rfl, -⟩; simp) ?_
  rintro as w post ⟨p, x, rfl, h0, hp⟩ Go hGo
  have loop : ∀ (d n : Nat) (w' : ma_W), n + d = 6 → fr [p] [p + 2, p + 3] w w' → w'.1 p = w.1 p → w'.2.2 (p + 2) 0 = x → (∀ j, j < n → w'.2.2 (p + 3) j = nI 0) → Go 9 [some (.inr p), some (.inl x), some (.inl (nI n))] [] w' := by
    intro d
    induction d with
    | zero =>
      intro n w' hd hf hk hx ha
      refine q_LI_addEmptyRow_9 hGo h0 (pk_le 6 n (fun _ => q_LI_addEmptyRow_28 hGo h0 (hp _ (fr_f hf (by simp) _ _) ?_ (ma_up_s _ _ _ _) hx (fun j hj => ha j (by omega)))) (fun h => absurd h (by omega)))
      show ma_up w'.1 p 4 (nI 1) p 3 = w.1 p 3
      rw [ma_up_k _ _ _ _ (by decide), hk]
    | succ d ih =>
      intro n w' hd hf hk hx ha
      refine q_LI_addEmptyRow_9 hGo h0 (pk_le 6 n (fun h => absurd h (by omega)) (fun _ => ⟨n, by omega, rfl, ?_⟩))
      rw [nI_add]
      refine ih (n + 1) _ (by omega) (fr_a hf (by simp) _ _) hk ?_ (fun j hj => ?_)
      · show ma_up w'.2.2 (p + 3) n (nI 0) (p + 2) 0 = x
        rw [ma_up_p _ _ _ _ (by omega), hx]
      · show ma_up w'.2.2 (p + 3) n (nI 0) (p + 3) j = nI 0
        by_cases h : j = n
        · subst h; rw [ma_up_s]
        · rw [ma_up_k _ _ _ _ h, ha j (by omega)]
  exact q_LI_addEmptyRow_0 hGo h0 ⟨0, by decide, rfl, loop 6 0 _ (by omega) (fr_a (fr_refl _ _ _) (by simp) _ _) rfl (ma_up_s _ _ _ _) (fun j hj => absurd hj (Nat.not_lt_zero j))⟩
def T_LI_size : ma_T := fun as w post => ∃ p, as = [.inr p] ∧ zL p ∧ post (w.1 p 4) w
theorem i_LI_size {p : Nat} {w : ma_W} {post : ma_P} (h : zL p) (hp : post (w.1 p 4) w) : T_LI_size [.inr p] w post := ⟨p, rfl, h, hp⟩
theorem c_LI_size {l : Launch} : ma_Met l y_LI_size (w_LI_size :: zw_t) 0 true T_LI_size := by
  refine z_LI_size (by rintro as w post ⟨p, rfl, -⟩; simp) ?_
  rintro as w post ⟨p, rfl, h0, hp⟩ Go hGo
  exact q_LI_size_0 hGo h0 hp
def T_LI_rowLength : ma_T := fun as w post => ∃ p, as = [.inr p] ∧ zL p ∧ post (w.1 p 3) w
theorem i_LI_rowLength {p : Nat} {w : ma_W} {post : ma_P} (h : zL p) (hp : post (w.1 p 3) w) : T_LI_rowLength [.inr p] w post := ⟨p, rfl, h, hp⟩
theorem c_LI_rowLength {l : Launch} : ma_Met l y_LI_rowLength (w_LI_rowLength :: zw_t) 0 true T_LI_rowLength := by
  refine z_LI_rowLength (by rintro as w post ⟨p, rfl, -⟩; simp) ?_
  rintro as w post ⟨p, rfl, h0, hp⟩ Go hGo
  exact q_LI_rowLength_0 hGo h0 hp
def T_LI_isFull : ma_T := fun as w post => ∃ p n, as = [.inr p] ∧ zL p ∧ w.1 p 4 = nI n ∧ n < 2 ^ 31 ∧ post (bI (decide (60 ≤ n))) w
theorem i_LI_isFull {p n : Nat} {w : ma_W} {post : ma_P} (h : zL p) (hn : w.1 p 4 = nI n) (hn2 : n < 2 ^ 31) (hp : post (bI (decide (60 ≤ n))) w) : T_LI_isFull [.inr p] w post := ⟨p, n, rfl, h, hn, hn2, hp⟩
theorem c_LI_isFull {l : Launch} : ma_Met l y_LI_isFull (w_LI_isFull :: zw_t) 0 true T_LI_isFull := by
  refine z_LI_isFull (by rintro as w post ⟨p, n, rfl, -⟩; simp) ?_
  rintro as w post ⟨p, n, rfl, h0, hn, hn2, hp⟩ Go hGo
  refine q_LI_isFull_0 hGo h0 (pk_lt n 60 (fun h => q_LI_isFull_13 hGo (q_LI_isFull_14 hGo ⟨bo0, ?_⟩)) (fun h => q_LI_isFull_14 hGo ⟨bo1, ?_⟩) hn rfl hn2 (by omega))
  · rw [decide_eq_false (by omega)] at hp; exact hp
  · rw [decide_eq_true h] at hp; exact hp
def T_LI_has : ma_T := fun as w post => ∃ p x n, as = [.inr p, .inl x] ∧ zL p ∧ w.1 p 4 = nI n ∧ post (bI (hs x n)) w
theorem i_LI_has {p n : Nat} {x : Int32} {w : ma_W} {post : ma_P} (h : zL p) (hn : w.1 p 4 = nI n) (hp : post (bI (hs x n)) w) : T_LI_has [.inr p, .inl x] w post := ⟨p, x, n, rfl, h, hn, hp⟩
theorem c_LI_has {l : Launch} : ma_Met l y_LI_has (w_LI_has :: zw_t) 0 true T_LI_has := by
  refine z_LI_has (by rintro as w post ⟨p, x, n, rfl, -⟩; simp) ?_
  rintro as w post ⟨p, x, n, rfl, h0, hn, hp⟩ Go hGo
  refine q_LI_has_0 hGo h0 (hs_br hn (fun h => q_LI_has_16 hGo (q_LI_has_17 hGo ⟨bo0, ?_⟩)) (fun h => q_LI_has_17 hGo ⟨bo1, ?_⟩))
  · rw [h] at hp; exact hp
  · rw [h] at hp; exact hp
def T_LI_mask : ma_T := fun as w post => ∃ p i j, as = [.inr p, .inl (nI i), .inl (nI j)] ∧ zL p ∧ i * 10 + j < 600 ∧ post (w.2.2 (p + 1) (i * 10 + j)) w
theorem i_LI_mask {p i j : Nat} {w : ma_W} {post : ma_P} (h : zL p) (hj : i * 10 + j < 600) (hp : post (w.2.2 (p + 1) (i * 10 + j)) w) : T_LI_mask [.inr p, .inl (nI i), .inl (nI j)] w post := ⟨p, i, j, rfl, h, hj, hp⟩
theorem c_LI_mask {l : Launch} : ma_Met l y_LI_mask (w_LI_mask :: zw_t) 0 true T_LI_mask := by
  refine z_LI_mask (by rintro as w post ⟨p, i, j, rfl, -⟩; simp) ?_
  rintro as w post ⟨p, i, j, rfl, h0, hj, hp⟩ Go hGo
  exact q_LI_mask_0 hGo h0 ⟨i * 10 + j, hj, by rw [nI_mul, nI_add], hp⟩
def T_LI_symmetriesOf : ma_T := fun as w post => ∃ p i, as = [.inr p, .inl (nI i)] ∧ zL p ∧ i < 60 ∧ post (w.2.2 (p + 2) i) w
theorem i_LI_symmetriesOf {p i : Nat} {w : ma_W} {post : ma_P} (h : zL p) (hj : i < 60) (hp : post (w.2.2 (p + 2) i) w) : T_LI_symmetriesOf [.inr p, .inl (nI i)] w post := ⟨p, i, rfl, h, hj, hp⟩
theorem c_LI_symmetriesOf {l : Launch} : ma_Met l y_LI_symmetriesOf (w_LI_symmetriesOf :: zw_t) 0 true T_LI_symmetriesOf := by
  refine z_LI_symmetriesOf (by rintro as w post ⟨p, i, rfl, -⟩; simp) ?_
  rintro as w post ⟨p, i, rfl, h0, hj, hp⟩ Go hGo
  exact q_LI_symmetriesOf_0 hGo h0 ⟨i, hj, rfl, hp⟩
def T_LI_leastImage : ma_T := fun as w post => ∃ p i j, as = [.inr p, .inl (nI i), .inl (nI j)] ∧ zL p ∧ i * 6 + j < 360 ∧ post (w.2.2 (p + 3) (i * 6 + j)) w
theorem i_LI_leastImage {p i j : Nat} {w : ma_W} {post : ma_P} (h : zL p) (hj : i * 6 + j < 360) (hp : post (w.2.2 (p + 3) (i * 6 + j)) w) : T_LI_leastImage [.inr p, .inl (nI i), .inl (nI j)] w post := ⟨p, i, j, rfl, h, hj, hp⟩
theorem c_LI_leastImage {l : Launch} : ma_Met l y_LI_leastImage (w_LI_leastImage :: zw_t) 0 true T_LI_leastImage := by
  refine z_LI_leastImage (by rintro as w post ⟨p, i, j, rfl, -⟩; simp) ?_
  rintro as w post ⟨p, i, j, rfl, h0, hj, hp⟩ Go hGo
  exact q_LI_leastImage_0 hGo h0 ⟨i * 6 + j, hj, by rw [nI_mul, nI_add], hp⟩
/-- how many blocks of the entry hold the points m -/
def T_LI_blocksHolding : ma_T := fun as w post => ∃ p i m e, as = [.inr p, .inl (nI i), .inl (nI m)] ∧ zL p ∧ i < 60 ∧ m < 64 ∧ e.length ≤ 10 ∧ w.1 p 3 = nI e.length ∧ le_ w p i e ∧ (∀ x ∈ e, x < 64) ∧ post (nI (e.countP (fun b => b &&& m == m))) w
theorem i_LI_blocksHolding {p i m : Nat} {e : List Nat} {w : ma_W} {post : ma_P} (h : zL p) (hi : i < 60) (hm : m < 64) (he : e.length ≤ 10) (hl : w.1 p 3 = nI e.length) (ha : le_ w p i e) (hx : ∀ x ∈ e, x < 64) (hp : post (nI (e.countP (fun b => b &&& m == m))) w) : T_LI_blocksHolding [.inr p, .inl (nI i), .inl (nI m)] w post := ⟨p, i, m, e, rfl, h, hi, hm, he, hl, ha, hx, hp⟩
theorem c_LI_blocksHolding {l : Launch} : ma_Met l y_LI_blocksHolding (w_LI_blocksHolding :: zw_t) 1 true T_LI_blocksHolding := by
  refine z_LI_blocksHolding c_LI_mask (by decide) (by rintro as w post ⟨p, i, m, e, rfl, -⟩; simp) ?_
  rintro as w post ⟨p, i, m, e, rfl, h0, hi, hm, he, hl, ha, hx, hp⟩ Go hGo
  have loop : ∀ (d n : Nat), n + d = e.length → Go 5 [some (.inr p), some (.inl (nI i)), some (.inl (nI m)), some (.inl (nI ((e.take n).countP (fun b => b &&& m == m)))), some (.inl (nI n))] [] w := by
    intro d
    induction d with
    | zero =>
      intro n hd
      refine q_LI_blocksHolding_5 hGo h0 (pk_le e.length n (fun _ => q_LI_blocksHolding_41 hGo ?_) (fun h => absurd h (by omega)) hl rfl (by omega) (by omega))
      rw [List.take_of_length_le (by omega)]
      exact hp
    | succ d ih =>
      intro n hd
      have hn : n < e.length := by omega
      have hg : e.getD n 0 < 64 := by rw [gd_at hn]; exact hx _ (List.getElem_mem hn)
      have hstep := ih (n + 1) (by omega)
      rw [tk_succ hn, List.countP_append, List.countP_singleton] at hstep
      refine q_LI_blocksHolding_5 hGo h0 (pk_le e.length n (fun h => absurd h (by omega)) (fun _ => i_LI_mask h0 (by omega) ?_) hl rfl (by omega) (by omega))
      rw [ha n hn, bi_and _ hg _ hm]
      refine pn_ne (e.getD n 0 &&& m) m (fun h => q_LI_blocksHolding_32 hGo (q_LI_blocksHolding_33 hGo ?_)) (fun h => q_LI_blocksHolding_33 hGo ?_) rfl rfl (Nat.lt_of_le_of_lt Nat.and_le_left (by omega)) (by omega)
      · rw [nI_add, nI_add]
        rw [if_neg (by simpa using h)] at hstep
        exact hstep
      · rw [nI_add, nI_add]
        rw [if_pos (by simpa using h)] at hstep
        exact hstep
  exact q_LI_blocksHolding_0 hGo (loop e.length 0 (by omega))
/-- an entry is written into a row -/
def T_LI_writeTo : ma_T := fun as w post => ∃ p i q e, as = [.inr p, .inl (nI i), .inr q] ∧ zL p ∧ zR q ∧ i < 60 ∧ e.length ≤ 10 ∧ w.1 p 3 = nI e.length ∧ le_ w p i e ∧ ∀ w', fr [q] [q + 1] w w' → ro w' q e → post 0 w'
theorem i_LI_writeTo {p i q : Nat} {e : List Nat} {w : ma_W} {post : ma_P} (h : zL p) (hq : zR q) (hi : i < 60) (he : e.length ≤ 10) (hl : w.1 p 3 = nI e.length) (ha : le_ w p i e) (hp : ∀ w', fr [q] [q + 1] w w' → ro w' q e → post 0 w') : T_LI_writeTo [.inr p, .inl (nI i), .inr q] w post := ⟨p, i, q, e, rfl, h, hq, hi, he, hl, ha, hp⟩
theorem zLR {p q : Nat} (hp : zL p) (hq : zR q) : p ≠ q ∧ p + 1 ≠ q + 1 ∧ p + 2 ≠ q + 1 ∧ p + 3 ≠ q + 1 := by
  rcases hp with rfl | rfl <;> rcases hq with rfl | rfl | rfl <;> decide
theorem c_LI_writeTo {l : Launch} : ma_Met l y_LI_writeTo (w_LI_writeTo :: zw_t) 1 false T_LI_writeTo := by
  refine z_LI_writeTo c_RO_clear (by decide) c_LI_mask (by decide) c_RO_add (by decide) (by rintro as w post ⟨p, i, q, e, rfl, -⟩; simp) ?_
  rintro as w post ⟨p, i, q, e, rfl, h0, h2, hi, he, hl, ha, hp⟩ Go hGo
  have hne := zLR h0 h2
  have loop : ∀ (d n : Nat) (w' : ma_W), n + d = e.length → fr [q] [q + 1] w w' → ro w' q (e.take n) → Go 6 [some (.inr p), some (.inl (nI i)), some (.inr q), some (.inl (nI n))] [] w' := by
    intro d
    induction d with
    | zero =>
      intro n w' hd hf hr
      have hl' : w'.1 p 3 = nI e.length := by rw [hf.2.1 p (nm1 hne.1)]; exact hl
      refine q_LI_writeTo_6 hGo h0 h2 (pk_le e.length n (fun _ => q_LI_writeTo_30 hGo (hp _ hf ?_)) (fun h => absurd h (by omega)) hl' rfl (by omega) (by omega))
      rw [List.take_of_length_le (by omega)] at hr
      exact hr
    | succ d ih =>
      intro n w' hd hf hr
      have hn : n < e.length := by omega
      have hl' : w'.1 p 3 = nI e.length := by rw [hf.2.1 p (nm1 hne.1)]; exact hl
      have hlen : (e.take n).length = n := tk_len (by omega)
      have hr1 := hr.2.1
      rw [hlen] at hr1
      refine q_LI_writeTo_6 hGo h0 h2 (pk_le e.length n (fun h => absurd h (by omega)) (fun _ => i_LI_mask h0 (by omega) (i_RO_add h2 hr1 (by omega) ?_)) hl' rfl (by omega) (by omega))
      rw [nI_add]
      have hv : w'.2.2 (p + 1) (i * 10 + n) = nI (e.getD n 0) := by rw [hf.2.2 (p + 1) (nm1 hne.2.1), ha n hn]
      rw [hv]
      have hr2 := ro_add (m := e.getD n 0) hr (by omega)
      rw [hlen, ← tk_succ hn] at hr2
      exact ih (n + 1) _ (by omega) (fr_a (fr_f hf (by simp) 1 _) (by simp) _ _) hr2
  refine q_LI_writeTo_0 hGo h0 h2 (i_RO_clear h2 (loop e.length 0 _ (by omega) (fr_f (fr_refl _ _ _) (by simp) _ _) ?_))
  exact ro_nil
theorem nI_in2 {a b : Nat} (ha : a < 64) (hb : b < 64) : nI a = nI b ↔ a = b := nI_eq (by omega) (by omega)
/-- is the entry this row -/
def T_LI_isEntry : ma_T := fun as w post => ∃ p i q e xs, as = [.inr p, .inl (nI i), .inr q] ∧ zL p ∧ zR q ∧ i < 60 ∧ e.length ≤ 10 ∧ w.1 p 3 = nI e.length ∧ le_ w p i e ∧ ro w q xs ∧ (∀ x ∈ e, x < 64) ∧ (∀ x ∈ xs, x < 64) ∧ post (bI (decide (e = xs))) w
theorem i_LI_isEntry {p i q : Nat} {e xs : List Nat} {w : ma_W} {post : ma_P} (h : zL p) (hq : zR q) (hi : i < 60) (he : e.length ≤ 10) (hl : w.1 p 3 = nI e.length) (ha : le_ w p i e) (hr : ro w q xs) (h1 : ∀ x ∈ e, x < 64) (h2 : ∀ x ∈ xs, x < 64) (hp : post (bI (decide (e = xs))) w) : T_LI_isEntry [.inr p, .inl (nI i), .inr q] w post := ⟨p, i, q, e, xs, rfl, h, hq, hi, he, hl, ha, hr, h1, h2, hp⟩
theorem c_LI_isEntry {l : Launch} : ma_Met l y_LI_isEntry (w_LI_isEntry :: zw_t) 1 true T_LI_isEntry := by
  refine z_LI_isEntry c_RO_size (by decide) c_LI_mask (by decide) c_RO_get (by decide) (by rintro as w post ⟨p, i, q, e, xs, rfl, -⟩; simp) ?_
  rintro as w post ⟨p, i, q, e, xs, rfl, h0, h2, hi, he, hl, ha, hr, hm1, hm2, hp⟩ Go hGo
  have hxl := hr.1
  have loop : xs.length = e.length → ∀ (d n : Nat), n + d = e.length → (∀ j, j < n → e.getD j 0 = xs.getD j 0) → Go 15 [some (.inr p), some (.inl (nI i)), some (.inr q), some (.inl (nI n))] [] w := by
    intro hlen d
    induction d with
    | zero =>
      intro n hd hs
      refine q_LI_isEntry_15 hGo h0 h2 (pk_le e.length n (fun _ => q_LI_isEntry_45 hGo ⟨bo1, ?_⟩) (fun h => absurd h (by omega)) hl rfl (by omega) (by omega))
      have : e = xs := by
        apply List.ext_getElem hlen.symm
        intro j h1 h2
        have := hs j (by omega)
        rw [gd_at h1, gd_at h2] at this
        exact this
      rw [decide_eq_true this] at hp
      exact hp
    | succ d ih =>
      intro n hd hs
      have hn : n < e.length := by omega
      have hg1 : e.getD n 0 < 64 := by rw [gd_at hn]; exact hm1 _ (List.getElem_mem hn)
      have hg2 : xs.getD n 0 < 64 := by rw [gd_at (by omega)]; exact hm2 _ (List.getElem_mem _)
      refine q_LI_isEntry_15 hGo h0 h2 (pk_le e.length n (fun h => absurd h (by omega)) (fun _ => i_LI_mask h0 (by omega) (i_RO_get h2 (by omega) ?_)) hl rfl (by omega) (by omega))
      rw [ha n hn, hr.2.2 n (by omega)]
      refine pk_eq (e.getD n 0) (xs.getD n 0) (fun h => q_LI_isEntry_39 hGo ?_) (fun h => ⟨bo0, ?_⟩)
      · rw [nI_add]
        refine ih (n + 1) (by omega) (fun j hj => ?_)
        by_cases hjn : j = n
        · subst hjn; exact h
        · exact hs j (by omega)
      · have : ¬ e = xs := fun z => h (by rw [z])
        rw [decide_eq_false this] at hp
        exact hp
  refine q_LI_isEntry_0 hGo h0 h2 (i_RO_size h2 (pk_eq xs.length e.length (fun h => q_LI_isEntry_13 hGo (loop h e.length 0 (by omega) (fun j hj => absurd hj (Nat.not_lt_zero j)))) (fun h => ⟨bo0, ?_⟩) hr.2.1 hl (by omega) (by omega)))
  have : ¬ e = xs := fun z => h (by rw [z])
  rw [decide_eq_false this] at hp
  exact hp
/-- the first place of a row in a list -/
def fi (xs : List Nat) : List (List Nat) → Nat → Int32
  | [], _ => Int32.ofInt (-1)
  | e :: es, i => if e = xs then nI i else fi xs es (i + 1)
theorem fi_cons (xs e : List Nat) (es : List (List Nat)) (i : Nat) : fi xs (e :: es) i = if e = xs then nI i else fi xs es (i + 1) := rfl
def T_LI_placeOf : ma_T := fun as w post => ∃ p q n es xs, as = [.inr p, .inr q] ∧ zL p ∧ zR q ∧ es.length ≤ 60 ∧ n ≤ 10 ∧ w.1 p 3 = nI n ∧ w.1 p 4 = nI es.length ∧ (∀ i, i < es.length → (es.getD i []).length = n ∧ le_ w p i (es.getD i []) ∧ ∀ x ∈ es.getD i [], x < 64) ∧ ro w q xs ∧ (∀ x ∈ xs, x < 64) ∧ post (fi xs es 0) w
theorem i_LI_placeOf {p q n : Nat} {es : List (List Nat)} {xs : List Nat} {w : ma_W} {post : ma_P} (h : zL p) (hq : zR q) (h60 : es.length ≤ 60) (h10 : n ≤ 10) (hn : w.1 p 3 = nI n) (hl : w.1 p 4 = nI es.length) (ha : ∀ i, i < es.length → (es.getD i []).length = n ∧ le_ w p i (es.getD i []) ∧ ∀ x ∈ es.getD i [], x < 64) (hr : ro w q xs) (hx : ∀ x ∈ xs, x < 64) (hp : post (fi xs es 0) w) : T_LI_placeOf [.inr p, .inr q] w post := ⟨p, q, n, es, xs, rfl, h, hq, h60, h10, hn, hl, ha, hr, hx, hp⟩
theorem c_LI_placeOf {l : Launch} : ma_Met l y_LI_placeOf (w_LI_placeOf :: zw_t) 2 true T_LI_placeOf := by
  refine z_LI_placeOf c_LI_isEntry (by decide) (by rintro as w post ⟨p, q, n, es, xs, rfl, -⟩; simp) ?_
  rintro as w post ⟨p, q, n, es, xs, rfl, h0, h1, h60, h10, hn, hl, ha, hr, hx, hp⟩ Go hGo
  have loop : ∀ (d i : Nat), i + d = es.length → fi xs (es.drop i) i = fi xs es 0 → Go 2 [some (.inr p), some (.inr q), some (.inl (nI i))] [] w := by
    intro d
    induction d with
    | zero =>
      intro i hd he
      refine q_LI_placeOf_2 hGo h0 h1 (pk_le es.length i (fun _ => q_LI_placeOf_27 hGo ?_) (fun h => absurd h (by omega)) hl rfl (by omega) (by omega))
      rw [← he, List.drop_eq_nil_of_le (by omega)] at hp
      exact hp
    | succ d ih =>
      intro i hd he
      have hi : i < es.length := by omega
      obtain ⟨h3, h4, h5⟩ := ha i hi
      rw [List.drop_eq_getElem_cons hi, fi_cons] at he
      rw [gd_at hi] at h3 h4 h5
      refine q_LI_placeOf_2 hGo h0 h1 (pk_le es.length i (fun h => absurd h (by omega)) (fun _ => i_LI_isEntry h0 h1 (by omega) (by omega) (by rw [h3]; exact hn) h4 hr h5 hx ?_) hl rfl (by omega) (by omega))
      refine bI_eq (fun h => q_LI_placeOf_21 hGo ?_) (fun h => ?_)
      · rw [nI_add]
        rw [if_neg (of_decide_eq_false h)] at he
        exact ih (i + 1) (by omega) he
      · rw [if_pos (of_decide_eq_true h)] at he
        rw [← he] at hp
        exact hp
  exact q_LI_placeOf_0 hGo (loop es.length 0 (by omega) rfl)
/-- a row, its order and its least images are added -/
def T_LI_addRow : ma_T := fun as w post => ∃ p q i xs, as = [.inr p, .inr q, .inr 1] ∧ zL p ∧ zR q ∧ ro w q xs ∧ w.1 p 3 = nI xs.length ∧ w.1 p 4 = nI i ∧ i < 60 ∧ ∀ w', fr [p] [p + 1, p + 2, p + 3] w w' → w'.1 p 3 = nI xs.length → w'.1 p 4 = nI (i + 1) → (∀ j, w'.2.2 (p + 1) j = if i * 10 ≤ j ∧ j < i * 10 + xs.length then nI (xs.getD (j - i * 10) 0) else w.2.2 (p + 1) j) → (∀ j, w'.2.2 (p + 2) j = if j = i then w.1 1 6 else w.2.2 (p + 2) j) → (∀ j, w'.2.2 (p + 3) j = if i * 6 ≤ j ∧ j < i * 6 + 6 then w.2.2 9 (j - i * 6) else w.2.2 (p + 3) j) → post 0 w'
theorem i_LI_addRow {p q i : Nat} {xs : List Nat} {w : ma_W} {post : ma_P} (h : zL p) (hq : zR q) (hr : ro w q xs) (hl : w.1 p 3 = nI xs.length) (hc : w.1 p 4 = nI i) (hi : i < 60) (hp : ∀ w', fr [p] [p + 1, p + 2, p + 3] w w' → w'.1 p 3 = nI xs.length → w'.1 p 4 = nI (i + 1) → (∀ j, w'.2.2 (p + 1) j = if i * 10 ≤ j ∧ j < i * 10 + xs.length then nI (xs.getD (j - i * 10) 0) else w.2.2 (p + 1) j) → (∀ j, w'.2.2 (p + 2) j = if j = i then w.1 1 6 else w.2.2 (p + 2) j) → (∀ j, w'.2.2 (p + 3) j = if i * 6 ≤ j ∧ j < i * 6 + 6 then w.2.2 9 (j - i * 6) else w.2.2 (p + 3) j) → post 0 w') : T_LI_addRow [.inr p, .inr q, .inr 1] w post := ⟨p, q, i, xs, rfl, h, hq, hr, hl, hc, hi, hp⟩
def T_FO_leastImageFound : ma_T := fun as w post => ∃ j, as = [.inr 1, .inl (nI j)] ∧ j < 6 ∧ post (w.2.2 9 j) w
theorem i_FO_leastImageFound {j : Nat} {w : ma_W} {post : ma_P} (hj : j < 6) (hp : post (w.2.2 9 j) w) : T_FO_leastImageFound [.inr 1, .inl (nI j)] w post := ⟨j, rfl, hj, hp⟩
theorem c_FO_leastImageFound {l : Launch} : ma_Met l y_FO_leastImageFound (w_FO_leastImageFound :: zw_t) 0 true T_FO_leastImageFound := by
  refine z_FO_leastImageFound (by rintro as w post ⟨j, rfl, -⟩; simp) ?_
  rintro as w post ⟨j, rfl, hj, hp⟩ Go hGo
  exact q_FO_leastImageFound_0 hGo ⟨j, hj, rfl, hp⟩
def T_FO_symmetriesFound : ma_T := fun as w post => as = [.inr 1] ∧ post (w.1 1 6) w
theorem i_FO_symmetriesFound {w : ma_W} {post : ma_P} (hp : post (w.1 1 6) w) : T_FO_symmetriesFound [.inr 1] w post := ⟨rfl, hp⟩
theorem c_FO_symmetriesFound {l : Launch} : ma_Met l y_FO_symmetriesFound (w_FO_symmetriesFound :: zw_t) 0 true T_FO_symmetriesFound := by
  refine z_FO_symmetriesFound (by rintro as w post ⟨rfl, -⟩; simp) ?_
  rintro as w post ⟨rfl, hp⟩ Go hGo
  exact q_FO_symmetriesFound_0 hGo hp
theorem zL_big {p : Nat} (h : zL p) : 16 ≤ p := by rcases h with rfl | rfl <;> decide
theorem zR_bd {p : Nat} (h : zR p) : 10 ≤ p ∧ p ≤ 14 := by rcases h with rfl | rfl | rfl <;> decide
theorem c_LI_addRow {l : Launch} : ma_Met l y_LI_addRow (w_LI_addRow :: zw_t) 1 false T_LI_addRow := by
  refine z_LI_addRow c_LI_isFull (by decide) c_RO_size (by decide) c_RO_get (by decide) c_FO_leastImageFound (by decide) c_FO_symmetriesFound (by decide) (by rintro as w post ⟨p, q, i, xs, rfl, -⟩; simp) ?_
  rintro as w post ⟨p, q, i, xs, rfl, h0, h1, hr, hl, hc, hi, hp⟩ Go hGo
  have hxl := hr.1
  have hbp := zL_big h0
  have hbq := zR_bd h1
  -- the third loop: least images, and the end
  have loop2 : ∀ (d n : Nat) (w' : ma_W), n + d = 6 → fr [p] [p + 1, p + 2, p + 3] w w' → w'.1 = w.1 → (∀ j, w'.2.2 (p + 1) j = if i * 10 ≤ j ∧ j < i * 10 + xs.length then nI (xs.getD (j - i * 10) 0) else w.2.2 (p + 1) j) → w'.2.2 (p + 2) = w.2.2 (p + 2) → (∀ j, w'.2.2 (p + 3) j = if i * 6 ≤ j ∧ j < i * 6 + n then w.2.2 9 (j - i * 6) else w.2.2 (p + 3) j) → Go 56 [some (.inr p), some (.inr q), some (.inr 1), some (.inl (nI n))] [] w' := by
    intro d
    induction d with
    | zero =>
      intro n w' hd hf hw hA1 hA2 hA3
      refine q_LI_addRow_56 hGo h0 h1 (pk_le 6 n (fun _ => q_LI_addRow_87 hGo h0 h1 (i_FO_symmetriesFound ⟨i, hi, by rw [hw]; exact hc, hp _ (fr_a (fr_f hf (by simp) 4 _) (by simp) _ _) ?_ ?_ (fun j => ?_) (fun j => ?_) (fun j => ?_)⟩)) (fun h => absurd h (by omega)))
      · show ma_up w'.1 p 4 _ p 3 = _
        rw [ma_up_k _ _ _ _ (by decide), hw, hl]
      · show ma_up w'.1 p 4 _ p 4 = _
        rw [ma_up_s, hw, hc, nI_add]
      · show ma_up w'.2.2 (p + 2) i _ (p + 1) j = _
        rw [ma_up_p _ _ _ _ (by omega)]
        exact hA1 j
      · show ma_up w'.2.2 (p + 2) i _ (p + 2) j = _
        by_cases hji : j = i
        · subst hji
          rw [ma_up_s, if_pos rfl, hw]
        · rw [ma_up_k _ _ _ _ hji, if_neg hji, hA2]
      · show ma_up w'.2.2 (p + 2) i _ (p + 3) j = _
        rw [ma_up_p _ _ _ _ (by omega), hA3 j, show n = 6 by omega]
    | succ d ih =>
      intro n w' hd hf hw hA1 hA2 hA3
      refine q_LI_addRow_56 hGo h0 h1 (pk_le 6 n (fun h => absurd h (by omega)) (fun _ => i_FO_leastImageFound (by omega) ⟨i * 6 + n, by omega, by rw [hw, hc, nI_mul, nI_add], ?_⟩))
      rw [nI_add]
      refine ih (n + 1) _ (by omega) (fr_a hf (by simp) _ _) hw (fun j => ?_) ?_ (fun j => ?_)
      · show ma_up w'.2.2 (p + 3) (i * 6 + n) _ (p + 1) j = _
        rw [ma_up_p _ _ _ _ (by omega)]
        exact hA1 j
      · show ma_up w'.2.2 (p + 3) (i * 6 + n) _ (p + 2) = _
        rw [ma_up_q _ _ _ (by omega)]
        exact hA2
      · show ma_up w'.2.2 (p + 3) (i * 6 + n) _ (p + 3) j = _
        by_cases hj : j = i * 6 + n
        · subst hj
          rw [ma_up_s, if_pos (by omega), hf.2.2 9 (nm3 (by omega) (by omega) (by omega)), show i * 6 + n - i * 6 = n by omega]
        · rw [ma_up_k _ _ _ _ hj, hA3 j]
          by_cases h2 : i * 6 ≤ j ∧ j < i * 6 + n
          · rw [if_pos h2, if_pos (by omega)]
          · rw [if_neg h2, if_neg (by omega)]
  have loop1 : ∀ (d n : Nat) (w' : ma_W), n + d = xs.length → fr [p] [p + 1, p + 2, p + 3] w w' → w'.1 = w.1 → (∀ j, w'.2.2 (p + 1) j = if i * 10 ≤ j ∧ j < i * 10 + n then nI (xs.getD (j - i * 10) 0) else w.2.2 (p + 1) j) → w'.2.2 (p + 2) = w.2.2 (p + 2) → w'.2.2 (p + 3) = w.2.2 (p + 3) → Go 21 [some (.inr p), some (.inr q), some (.inr 1), some (.inl (nI n))] [] w' := by
    intro d
    induction d with
    | zero =>
      intro n w' hd hf hw hA1 hA2 hA3
      refine q_LI_addRow_21 hGo h0 h1 (pk_le xs.length n (fun _ => q_LI_addRow_54 hGo (loop2 6 0 w' (by omega) hf hw (fun j => ?_) hA2 (fun j => ?_))) (fun h => absurd h (by omega)) (by rw [hw]; exact hl) rfl (by omega) (by omega))
      · rw [hA1 j, show n = xs.length by omega]
      · rw [hA3, if_neg (by omega)]
    | succ d ih =>
      intro n w' hd hf hw hA1 hA2 hA3
      have hn : n < xs.length := by omega
      refine q_LI_addRow_21 hGo h0 h1 (pk_le xs.length n (fun h => absurd h (by omega)) (fun _ => i_RO_get h1 (by omega) ⟨i * 10 + n, by omega, by rw [hw, hc, nI_mul, nI_add], ?_⟩) (by rw [hw]; exact hl) rfl (by omega) (by omega))
      rw [nI_add]
      refine ih (n + 1) _ (by omega) (fr_a hf (by simp) _ _) hw (fun j => ?_) ?_ ?_
      · show ma_up w'.2.2 (p + 1) (i * 10 + n) _ (p + 1) j = _
        by_cases hj : j = i * 10 + n
        · subst hj
          rw [ma_up_s, if_pos (by omega), hf.2.2 (q + 1) (nm3 (by omega) (by omega) (by omega)), hr.2.2 n hn, show i * 10 + n - i * 10 = n by omega]
        · rw [ma_up_k _ _ _ _ hj, hA1 j]
          by_cases h2 : i * 10 ≤ j ∧ j < i * 10 + n
          · rw [if_pos h2, if_pos (by omega)]
          · rw [if_neg h2, if_neg (by omega)]
      · show ma_up w'.2.2 (p + 1) (i * 10 + n) _ (p + 2) = _
        rw [ma_up_q _ _ _ (by omega)]
        exact hA2
      · show ma_up w'.2.2 (p + 1) (i * 10 + n) _ (p + 3) = _
        rw [ma_up_q _ _ _ (by omega)]
        exact hA3
  refine q_LI_addRow_0 hGo h0 h1 (i_LI_isFull h0 hc (by omega) ?_)
  rw [decide_eq_false (by omega)]
  refine bI_ne (fun h => by cases h) (fun _ => i_RO_size h1 (pk_eq xs.length xs.length (fun _ => q_LI_addRow_19 hGo (loop1 xs.length 0 w (by omega) (fr_refl _ _ _) rfl (fun j => ?_) rfl rfl)) (fun h => absurd rfl h) hr.2.1 hl (by omega) (by omega)))
  rw [if_neg (by omega)]
end
section
/-! CONTRACTS: Ground -/
/-- the numbers of a census -/
def vk (v k : Nat) : Prop := 3 ≤ v ∧ v ≤ 6 ∧ 2 ≤ k ∧ k < v
/-- the kinds below M -/
def kb (v k M : Nat) : List Nat := (List.range M).filter (fun m => pm_cnt v m == k)
theorem kb_K (v k : Nat) : kb v k (2 ^ v) = fm_K v k := rfl
theorem kb_1 {v k : Nat} (h : vk v k) : kb v k 1 = [] := by
  obtain ⟨-, -, h, -⟩ := h
  have : pm_cnt v 0 = 0 := by simp [pm_cnt]
  simp [kb, List.range_succ, this]
  omega
theorem kb_s (v k M : Nat) : kb v k (M + 1) = kb v k M ++ (if pm_cnt v M = k then [M] else []) := by
  unfold kb
  rw [List.range_succ, List.filter_append]
  congr 1
  by_cases h : pm_cnt v M = k
  · rw [if_pos h]; simp [h]
  · rw [if_neg h]; simp [h]
def kb_ok (v k : Nat) : Bool := decide ((fm_K v k).length ≤ 20) && ((List.range (v + 1)).all (fun t => decide (se_kb (fm_K v k) t = (kb v k (2 ^ t)).length)) && (decide (se_kb (fm_K v k) v = (fm_K v k).length) && ((List.range 7).all (fun t => (List.range (se_kb (fm_K v k) t)).all (fun j => decide ((fm_K v k).getD j 0 < 2 ^ t))) && (List.range 7).all (fun t => (List.range (fm_K v k).length).all (fun j => decide (se_kb (fm_K v k) t ≤ j → 2 ^ t ≤ (fm_K v k).getD j 0))))))
theorem kb_all : (List.range 7).all (fun v => (List.range v).all (fun k => (decide (k < 2)) || kb_ok v k)) = true := by decide +kernel
theorem kb_fin {v k : Nat} (h : vk v k) : (fm_K v k).length ≤ 20 ∧ (∀ t, t < v + 1 → se_kb (fm_K v k) t = (kb v k (2 ^ t)).length) ∧ se_kb (fm_K v k) v = (fm_K v k).length ∧ (∀ t, t < 7 → ∀ j, j < se_kb (fm_K v k) t → (fm_K v k).getD j 0 < 2 ^ t) ∧ ∀ t, t < 7 → ∀ j, j < (fm_K v k).length → se_kb (fm_K v k) t ≤ j → 2 ^ t ≤ (fm_K v k).getD j 0 := by
  obtain ⟨h1, h2, h3, h4⟩ := h
  have h9 := List.all_eq_true.mp (List.all_eq_true.mp kb_all v (List.mem_range.mpr (by omega))) k (List.mem_range.mpr h4)
  rw [decide_eq_false (by omega), Bool.false_or] at h9
  simp only [kb_ok, Bool.and_eq_true, decide_eq_true_eq, List.all_eq_true, List.mem_range] at h9
  exact h9
theorem kb_pre {v k M N : Nat} (h : M ≤ N) : ∃ l, kb v k N = kb v k M ++ l := by
  induction N with
  | zero => obtain rfl : M = 0 := by omega
            exact ⟨[], by simp⟩
  | succ N ih =>
    by_cases hM : M = N + 1
    · subst hM; exact ⟨[], by simp⟩
    · obtain ⟨l, hl⟩ := ih (by omega)
      exact ⟨l ++ (if pm_cnt v N = k then [N] else []), by rw [kb_s, hl, List.append_assoc]⟩
theorem kb_le {v k M : Nat} (h : vk v k) (hM : M ≤ 2 ^ v) : (kb v k M).length ≤ (fm_K v k).length := by
  obtain ⟨l, hl⟩ := kb_pre (v := v) (k := k) hM
  rw [← kb_K, hl, List.length_append]
  omega
theorem vk_20 {v k : Nat} (h : vk v k) : (fm_K v k).length ≤ 20 := (kb_fin h).1
theorem vk_kb {v k t : Nat} (h : vk v k) (ht : t ≤ v) : se_kb (fm_K v k) t = (kb v k (2 ^ t)).length := (kb_fin h).2.1 t (by omega)
theorem vk_v {v k : Nat} (h : vk v k) : se_kb (fm_K v k) v = (fm_K v k).length := (kb_fin h).2.2.1
theorem vk_64 {v k m : Nat} (h : vk v k) (hm : m ∈ fm_K v k) : m < 64 := by
  have h1 := (fm_K_mem.mp hm).1
  have h2 : 2 ^ v ≤ 2 ^ 6 := Nat.pow_le_pow_right (by decide) h.2.1
  omega
theorem cnt6 : ∀ v, v < 7 → ∀ m, m < 2 ^ v → pm_cnt 6 m = pm_cnt v m := by decide +kernel
theorem cnt_le (v m : Nat) : pm_cnt v m ≤ v := by
  unfold pm_cnt
  have := List.countP_le_length (p := fun p => m.testBit p) (l := List.range v)
  rwa [List.length_range] at this
/-- the ground of a census -/
def gr (v k : Nat) (w : ma_W) : Prop := w.1 2 2 = nI v ∧ w.1 2 3 = nI k ∧ w.1 2 4 = nI (fm_K v k).length ∧ (∀ j, j < (fm_K v k).length → w.2.2 3 j = nI ((fm_K v k).getD j 0)) ∧ ∀ t, t ≤ v → w.2.2 4 t = nI (se_kb (fm_K v k) t)
theorem gr_fr {v k : Nat} {ps qs : List Nat} {w w' : ma_W} (h : gr v k w) (hf : fr ps qs w w') (h1 : 2 ∉ ps) (h2 : 3 ∉ qs) (h3 : 4 ∉ qs) : gr v k w' := by
  unfold gr
  rw [hf.2.1 2 h1, hf.2.2 3 h2, hf.2.2 4 h3]
  exact h
def T_GR_points : ma_T := fun as w post => as = [.inr 2] ∧ post (w.1 2 2) w
theorem i_GR_points {w : ma_W} {post : ma_P} (hp : post (w.1 2 2) w) : T_GR_points [.inr 2] w post := ⟨rfl, hp⟩
theorem c_GR_points {l : Launch} : ma_Met l y_GR_points (w_GR_points :: zw_t) 0 true T_GR_points := by
  refine z_GR_points (by rintro as w post ⟨rfl, -⟩; simp) ?_
  rintro as w post ⟨rfl, hp⟩ Go hGo
  exact q_GR_points_0 hGo hp
def T_GR_kinds : ma_T := fun as w post => as = [.inr 2] ∧ post (w.1 2 4) w
theorem i_GR_kinds {w : ma_W} {post : ma_P} (hp : post (w.1 2 4) w) : T_GR_kinds [.inr 2] w post := ⟨rfl, hp⟩
theorem c_GR_kinds {l : Launch} : ma_Met l y_GR_kinds (w_GR_kinds :: zw_t) 0 true T_GR_kinds := by
  refine z_GR_kinds (by rintro as w post ⟨rfl, -⟩; simp) ?_
  rintro as w post ⟨rfl, hp⟩ Go hGo
  exact q_GR_kinds_0 hGo hp
def T_GR_kind : ma_T := fun as w post => ∃ j, as = [.inr 2, .inl (nI j)] ∧ j < 20 ∧ post (w.2.2 3 j) w
theorem i_GR_kind {j : Nat} {w : ma_W} {post : ma_P} (hj : j < 20) (hp : post (w.2.2 3 j) w) : T_GR_kind [.inr 2, .inl (nI j)] w post := ⟨j, rfl, hj, hp⟩
theorem c_GR_kind {l : Launch} : ma_Met l y_GR_kind (w_GR_kind :: zw_t) 0 true T_GR_kind := by
  refine z_GR_kind (by rintro as w post ⟨j, rfl, -⟩; simp) ?_
  rintro as w post ⟨j, rfl, hj, hp⟩ Go hGo
  exact q_GR_kind_0 hGo ⟨j, hj, rfl, hp⟩
def T_GR_firstKindEndingAt : ma_T := fun as w post => ∃ j, as = [.inr 2, .inl (nI j)] ∧ j < 7 ∧ post (w.2.2 4 j) w
theorem i_GR_firstKindEndingAt {j : Nat} {w : ma_W} {post : ma_P} (hj : j < 7) (hp : post (w.2.2 4 j) w) : T_GR_firstKindEndingAt [.inr 2, .inl (nI j)] w post := ⟨j, rfl, hj, hp⟩
theorem c_GR_firstKindEndingAt {l : Launch} : ma_Met l y_GR_firstKindEndingAt (w_GR_firstKindEndingAt :: zw_t) 0 true T_GR_firstKindEndingAt := by
  refine z_GR_firstKindEndingAt (by rintro as w post ⟨j, rfl, -⟩; simp) ?_
  rintro as w post ⟨j, rfl, hj, hp⟩ Go hGo
  exact q_GR_firstKindEndingAt_0 hGo ⟨j, hj, rfl, hp⟩
def T_GR_isPoint : ma_T := fun as w post => ∃ x n, as = [.inr 2, .inl x] ∧ w.1 2 2 = nI n ∧ post (bI (hs x n)) w
theorem i_GR_isPoint {n : Nat} {x : Int32} {w : ma_W} {post : ma_P} (hn : w.1 2 2 = nI n) (hp : post (bI (hs x n)) w) : T_GR_isPoint [.inr 2, .inl x] w post := ⟨x, n, rfl, hn, hp⟩
theorem c_GR_isPoint {l : Launch} : ma_Met l y_GR_isPoint (w_GR_isPoint :: zw_t) 0 true T_GR_isPoint := by
  refine z_GR_isPoint (by rintro as w post ⟨x, n, rfl, -⟩; simp) ?_
  rintro as w post ⟨x, n, rfl, hn, hp⟩ Go hGo
  refine q_GR_isPoint_0 hGo (hs_br hn (fun h => q_GR_isPoint_16 hGo (q_GR_isPoint_17 hGo ⟨bo0, ?_⟩)) (fun h => q_GR_isPoint_17 hGo ⟨bo1, ?_⟩))
  · rw [h] at hp; exact hp
  · rw [h] at hp; exact hp
/-- how many renamings there are -/
def fc : Nat → Nat
  | 0 => 1
  | n + 1 => fc n * (n + 1)
def T_GR_renamings : ma_T := fun as w post => ∃ v, as = [.inr 2] ∧ v ≤ 6 ∧ w.1 2 2 = nI v ∧ post (nI (fc v)) w
theorem i_GR_renamings {v : Nat} {w : ma_W} {post : ma_P} (hv : v ≤ 6) (h : w.1 2 2 = nI v) (hp : post (nI (fc v)) w) : T_GR_renamings [.inr 2] w post := ⟨v, rfl, hv, h, hp⟩
theorem c_GR_renamings {l : Launch} : ma_Met l y_GR_renamings (w_GR_renamings :: zw_t) 0 true T_GR_renamings := by
  refine z_GR_renamings (by rintro as w post ⟨v, rfl, -⟩; simp) ?_
  rintro as w post ⟨v, rfl, hv, hn, hp⟩ Go hGo
  have loop : ∀ (d n : Nat), n + 1 + d = v + 1 → Go 4 [some (.inr 2), some (.inl (nI (fc n))), some (.inl (nI (n + 1)))] [] w := by
    intro d
    induction d with
    | zero =>
      intro n hd
      refine q_GR_renamings_4 hGo (pk_lt v (n + 1) (fun _ => q_GR_renamings_22 hGo ?_) (fun h => absurd h (by omega)) hn rfl (by omega) (by omega))
      rw [show n = v by omega]
      exact hp
    | succ d ih =>
      intro n hd
      refine q_GR_renamings_4 hGo (pk_lt v (n + 1) (fun h => absurd h (by omega)) (fun _ => ?_) hn rfl (by omega) (by omega))
      rw [nI_mul, nI_add]
      exact ih (n + 1) (by omega)
  by_cases h0 : v = 0
  · subst h0
    exact q_GR_renamings_0 hGo (q_GR_renamings_4 hGo (pk_lt 0 2 (fun _ => q_GR_renamings_22 hGo hp) (fun h => absurd h (by omega)) hn rfl (by omega) (by omega)))
  · exact q_GR_renamings_0 hGo (loop (v - 1) 1 (by omega))
def T_JI_bitCount : ma_T := fun as w post => ∃ m, as = [.inl (nI m)] ∧ m < 64 ∧ post (nI (pm_cnt 6 m)) w
theorem i_JI_bitCount {m : Nat} {w : ma_W} {post : ma_P} (hm : m < 64) (hp : post (nI (pm_cnt 6 m)) w) : T_JI_bitCount [.inl (nI m)] w post := ⟨m, rfl, hm, hp⟩
theorem pw64 {v : Nat} (h : v ≤ 6) : 2 ^ v ≤ 64 := Nat.pow_le_pow_right (by decide) h
/-- is an int a block -/
def isb (v k : Nat) (x : Int32) : Bool := hs x (2 ^ v) && (pm_cnt v x.toNatClampNeg == k)
theorem isb_t {v k : Nat} {x : Int32} (hv : v ≤ 6) (h : isb v k x = true) : ∃ m, m ∈ fm_K v k ∧ x = nI m := by
  simp only [isb, Bool.and_eq_true, beq_iff_eq] at h
  have h6 := pw64 hv
  obtain ⟨j, hj, rfl⟩ := hs_t (by omega) h.1
  rw [nI_clamp (by omega)] at h
  exact ⟨j, fm_K_mem.mpr ⟨hj, h.2⟩, rfl⟩
def T_GR_isBlock : ma_T := fun as w post => ∃ x v k, as = [.inr 2, .inl x] ∧ vk v k ∧ w.1 2 2 = nI v ∧ w.1 2 3 = nI k ∧ post (bI (isb v k x)) w
theorem i_GR_isBlock {v k : Nat} {x : Int32} {w : ma_W} {post : ma_P} (hv : vk v k) (h1 : w.1 2 2 = nI v) (h2 : w.1 2 3 = nI k) (hp : post (bI (isb v k x)) w) : T_GR_isBlock [.inr 2, .inl x] w post := ⟨x, v, k, rfl, hv, h1, h2, hp⟩
theorem c_GR_isBlock {l : Launch} (cb : ma_Met l y_JI_bitCount (w_JI_bitCount :: zw_t) 0 true T_JI_bitCount) : ma_Met l y_GR_isBlock (w_GR_isBlock :: zw_t) 1 true T_GR_isBlock := by
  refine z_GR_isBlock cb (by decide) (by rintro as w post ⟨x, v, k, rfl, -⟩; simp) ?_
  rintro as w post ⟨x, v, k, rfl, hv, h1, h2, hp⟩ Go hGo
  have hv6 := hv.2.1
  have h6 := pw64 hv6
  have no : isb v k x = false → Go 29 [some (.inr 2), some (.inl x)] [] w := fun h => q_GR_isBlock_29 hGo (q_GR_isBlock_30 hGo ⟨bo0, by rw [h] at hp; exact hp⟩)
  refine q_GR_isBlock_0 hGo (hs_br (n := 2 ^ v) (by rw [h1, bi_one v (by omega)]) (fun h => no (by simp [isb, h])) (fun h => ?_))
  obtain ⟨j, hj, rfl⟩ := hs_t (by omega) h
  have hc := cnt6 v (by omega) j hj
  have hle := cnt_le v j
  refine i_JI_bitCount (by omega) (pn_ne (pm_cnt 6 j) k (fun h9 => no ?_) (fun h9 => q_GR_isBlock_30 hGo ⟨bo1, ?_⟩) rfl h2 (by omega) (by have := hv.2.2.2; omega))
  · rw [hc] at h9
    simp [isb, nI_clamp (show j < 2 ^ 31 by omega), h9]
  · rw [hc] at h9
    have : isb v k (nI j) = true := by simp [isb, nI_clamp (show j < 2 ^ 31 by omega), h9, h]
    rw [this] at hp
    exact hp
/-- the kinds below M stand in the ground -/
def gk (v k M : Nat) (w : ma_W) : Prop := w.1 2 4 = nI (kb v k M).length ∧ ∀ j, j < (kb v k M).length → w.2.2 3 j = nI ((kb v k M).getD j 0)
def T_GR_addKindsEndingAt : ma_T := fun as w post => ∃ t v k, as = [.inr 2, .inl (nI t)] ∧ vk v k ∧ t < v ∧ w.1 2 3 = nI k ∧ gk v k (2 ^ t) w ∧ ∀ w', fr [2] [3] w w' → w'.1 2 2 = w.1 2 2 → w'.1 2 3 = w.1 2 3 → gk v k (2 ^ (t + 1)) w' → post 0 w'
theorem i_GR_addKindsEndingAt {t v k : Nat} {w : ma_W} {post : ma_P} (hv : vk v k) (ht : t < v) (hk : w.1 2 3 = nI k) (hg : gk v k (2 ^ t) w) (hp : ∀ w', fr [2] [3] w w' → w'.1 2 2 = w.1 2 2 → w'.1 2 3 = w.1 2 3 → gk v k (2 ^ (t + 1)) w' → post 0 w') : T_GR_addKindsEndingAt [.inr 2, .inl (nI t)] w post := ⟨t, v, k, rfl, hv, ht, hk, hg, hp⟩
theorem c_GR_addKindsEndingAt {l : Launch} (cb : ma_Met l y_JI_bitCount (w_JI_bitCount :: zw_t) 0 true T_JI_bitCount) : ma_Met l y_GR_addKindsEndingAt (w_GR_addKindsEndingAt :: zw_t) 1 false T_GR_addKindsEndingAt := by
  refine z_GR_addKindsEndingAt cb (by decide) (by rintro as w post ⟨t, v, k, rfl, -⟩; simp) ?_
  rintro as w post ⟨t, v, k, rfl, hv, ht, hk, hg, hp⟩ Go hGo
  have hv6 := hv.2.1
  have h6 := pw64 hv6
  have hkv := hv.2.2.2
  have hpt : 2 ^ (t + 1) ≤ 2 ^ v := Nat.pow_le_pow_right (by decide) ht
  have h20 := vk_20 hv
  have loop : ∀ (d M : Nat) (w' : ma_W), M + d = 2 ^ (t + 1) → fr [2] [3] w w' → w'.1 2 2 = w.1 2 2 → w'.1 2 3 = w.1 2 3 → gk v k M w' → Go 4 [some (.inr 2), some (.inl (nI t)), some (.inl (nI M))] [] w' := by
    intro d
    induction d with
    | zero =>
      intro M w' hd hf hw2 hw3 hgM
      refine q_GR_addKindsEndingAt_4 hGo (pk_le (2 ^ (t + 1)) M (fun _ => q_GR_addKindsEndingAt_57 hGo (hp _ hf hw2 hw3 ?_)) (fun h => absurd h (by omega)) (bi_two t (by omega)) rfl (by omega) (by omega))
      rw [show 2 ^ (t + 1) = M by omega]
      exact hgM
    | succ d ih =>
      intro M w' hd hf hw2 hw3 hgM
      have hM : M < 2 ^ v := by omega
      have hc := cnt6 v (by omega) M hM
      have hle := cnt_le v M
      have hs1 := kb_s v k M
      have hle1 := kb_le hv (show M + 1 ≤ 2 ^ v by omega)
      have next : ∀ w'' : ma_W, fr [2] [3] w w'' → w''.1 2 2 = w.1 2 2 → w''.1 2 3 = w.1 2 3 → gk v k (M + 1) w'' → Go 51 [some (.inr 2), some (.inl (nI t)), some (.inl (nI M))] [] w'' := by
        intro w'' a1 a2 a3 a4
        refine q_GR_addKindsEndingAt_51 hGo ?_
        rw [nI_add]
        exact ih (M + 1) w'' (by omega) a1 a2 a3 a4
      refine q_GR_addKindsEndingAt_4 hGo (pk_le (2 ^ (t + 1)) M (fun h => absurd h (by omega)) (fun _ => i_JI_bitCount (by omega) (pn_ne (pm_cnt 6 M) k (fun h => ?_) (fun h => ?_) rfl (by rw [hw3]; exact hk) (by omega) (by omega))) (bi_two t (by omega)) rfl (by omega) (by omega))
      · refine next w' hf hw2 hw3 ?_
        unfold gk
        rw [hs1, if_neg (by omega), List.append_nil]
        exact hgM
      · rw [if_pos (by omega)] at hs1
        have hl : (kb v k (M + 1)).length = (kb v k M).length + 1 := by rw [hs1, List.length_append]; rfl
        refine pk_le 20 (kb v k M).length (fun h => absurd h (by omega)) (fun _ => ⟨(kb v k M).length, by omega, hgM.1, next _ (fr_a (fr_f hf (by simp) 4 _) (by simp) _ _) ?_ ?_ ⟨?_, fun j hj => ?_⟩⟩) rfl hgM.1 (by omega) (by omega)
        · try dsimp only
          rw [ma_up_k _ _ _ _ (by decide), hw2]
        · try dsimp only
          rw [ma_up_k _ _ _ _ (by decide), hw3]
        · try dsimp only
          rw [ma_up_s, hgM.1, nI_add, hl]
        · try dsimp only
          rw [hl] at hj
          rw [hs1]
          by_cases hj2 : j = (kb v k M).length
          · subst hj2
            rw [ma_up_s, gd_app_r]
          · rw [ma_up_k _ _ _ _ hj2, gd_app_l (by omega)]
            exact hgM.2 j (by omega)
  refine q_GR_addKindsEndingAt_0 hGo ?_
  rw [bi_one t (by omega)]
  exact loop (2 ^ t) (2 ^ t) w (by rw [Nat.pow_succ]; omega) (fr_refl _ _ _) rfl rfl hg
def T_GR_lay : ma_T := fun as w post => ∃ v k, as = [.inr 2, .inl (nI v), .inl (nI k)] ∧ vk v k ∧ ∀ w', fr [2] [3, 4] w w' → gr v k w' → post 0 w'
theorem i_GR_lay {v k : Nat} {w : ma_W} {post : ma_P} (hv : vk v k) (hp : ∀ w', fr [2] [3, 4] w w' → gr v k w' → post 0 w') : T_GR_lay [.inr 2, .inl (nI v), .inl (nI k)] w post := ⟨v, k, rfl, hv, hp⟩
theorem c_GR_lay {l : Launch} (cb : ma_Met l y_JI_bitCount (w_JI_bitCount :: zw_t) 0 true T_JI_bitCount) : ma_Met l y_GR_lay (w_GR_lay :: zw_t) 2 false T_GR_lay := by
  refine z_GR_lay (c_GR_addKindsEndingAt cb) (by decide) (by rintro as w post ⟨v, k, rfl, -⟩; simp) ?_
  rintro as w post ⟨v, k, rfl, hv, hp⟩ Go hGo
  have hv6 := hv.2.1
  have loop : ∀ (d t : Nat) (w' : ma_W), t + d = v → fr [2] [3, 4] w w' → w'.1 2 2 = nI v → w'.1 2 3 = nI k → gk v k (2 ^ t) w' → (∀ s, s < t → w'.2.2 4 s = nI (se_kb (fm_K v k) s)) → Go 17 [some (.inr 2), some (.inl (nI v)), some (.inl (nI k)), some (.inl (nI t))] [] w' := by
    intro d
    induction d with
    | zero =>
      intro t w' hd hf hw2 hw3 hg ha
      obtain rfl : t = v := by omega
      refine q_GR_lay_17 hGo (pk_le t t (fun _ => q_GR_lay_43 hGo ⟨t, by omega, rfl, hp _ (fr_a hf (by simp) _ _) ⟨hw2, hw3, ?_, fun j hj => ?_, fun s hs => ?_⟩⟩) (fun h => absurd h (by omega)))
      · rw [← kb_K]; exact hg.1
      · try dsimp only
        rw [ma_up_p _ _ _ _ (by decide), ← kb_K]
        rw [← kb_K] at hj
        exact hg.2 j hj
      · try dsimp only
        by_cases hst : s = t
        · subst hst
          rw [ma_up_s, hg.1, vk_kb hv (Nat.le_refl _)]
        · rw [ma_up_k _ _ _ _ hst]
          exact ha s (by omega)
    | succ d ih =>
      intro t w' hd hf hw2 hw3 hg ha
      refine q_GR_lay_17 hGo (pk_le v t (fun h => absurd h (by omega)) (fun _ => ⟨t, by omega, rfl, i_GR_addKindsEndingAt hv (by omega) hw3 ⟨hg.1, fun j hj => ?_⟩ (fun w'' g1 g2 g3 g4 => ?_)⟩))
      · try dsimp only
        rw [ma_up_p _ _ _ _ (by decide)]
        exact hg.2 j hj
      · rw [nI_add]
        refine ih (t + 1) w'' (by omega) (fr_trans (fr_a hf (by simp) _ _) (fr_mono g1 (fun _ h => h) (fun q h => by simp at h; simp [h]))) (by rw [g2]; exact hw2) (by rw [g3]; exact hw3) g4 (fun s hs => ?_)
        rw [g1.2.2 4 (nm1 (by decide))]
        try dsimp only
        by_cases hst : s = t
        · subst hst
          rw [ma_up_s, hg.1, vk_kb hv (by omega)]
        · rw [ma_up_k _ _ _ _ hst]
          exact ha s (by omega)
  refine q_GR_lay_0 hGo (loop v 0 _ (by omega) (fr_f (fr_f (fr_f (fr_refl _ _ _) (by simp) 2 (nI v)) (by simp) 3 (nI k)) (by simp) 4 (nI 0)) ?_ ?_ ⟨?_, fun j hj => ?_⟩ (fun s hs => absurd hs (Nat.not_lt_zero s)))
  · try dsimp only
    rw [ma_up_k _ _ _ _ (by decide), ma_up_k _ _ _ _ (by decide), ma_up_s]
  · try dsimp only
    rw [ma_up_k _ _ _ _ (by decide), ma_up_s]
  · try dsimp only
    rw [ma_up_s, show (2 : Nat) ^ 0 = 1 by decide, kb_1 hv]
    rfl
  · rw [show (2 : Nat) ^ 0 = 1 by decide, kb_1 hv] at hj
    exact absurd hj (Nat.not_lt_zero j)
end
section
/-! CONTRACTS: Former -/
theorem ma_no {l : Launch} {y : MethodName} {ws : List Cond} {d : Nat} {rv : Bool} : ma_Met l y ws d rv (fun _ _ _ => False) := fun _ _ _ _ _ _ _ h => h.elim
/-! points that are taken, points that are left -/
def us (p : List Nat) : Nat := p.foldl (fun u q => u ||| 2 ^ q) 0
theorem us_app (p : List Nat) (q : Nat) : us (p ++ [q]) = us p ||| 2 ^ q := by simp [us, List.foldl_append]
theorem us_go (y : Nat) : ∀ (p : List Nat) (u : Nat), (p.foldl (fun u q => u ||| 2 ^ q) u).testBit y = true ↔ u.testBit y = true ∨ y ∈ p
  | [], u => by simp
  | q :: p, u => by
    rw [List.foldl_cons, us_go y p, Nat.testBit_or, Bool.or_eq_true, Nat.testBit_two_pow, decide_eq_true_eq, List.mem_cons]
    constructor
    · rintro ((h | h) | h)
      · exact Or.inl h
      · exact Or.inr (Or.inl h.symm)
      · exact Or.inr (Or.inr h)
    · rintro (h | h | h)
      · exact Or.inl (Or.inl h)
      · exact Or.inl (Or.inr h.symm)
      · exact Or.inr h
theorem us_bit (p : List Nat) (y : Nat) : (us p).testBit y = true ↔ y ∈ p := by
  rw [us, us_go]
  simp
theorem us_lt {p : List Nat} {v : Nat} (h : ∀ x ∈ p, x < v) : us p < 2 ^ v := by
  apply Nat.lt_pow_two_of_testBit
  intro i hi
  cases hb : (us p).testBit i with
  | false => rfl
  | true =>
    have := h i ((us_bit p i).mp hb)
    omega
def pp (v : Nat) (p : List Nat) : Prop := p.Nodup ∧ ∀ x ∈ p, x < v
def rem_ (v : Nat) (p : List Nat) : List Nat := (List.range v).filter (fun q => !p.contains q)
theorem rem_mem {v : Nat} {p : List Nat} {q : Nat} : q ∈ rem_ v p ↔ q < v ∧ q ∉ p := by simp [rem_]
theorem rem_perm {v : Nat} {p : List Nat} (h : pp v p) : (p ++ rem_ v p).Perm (List.range v) := by
  refine (List.perm_ext_iff_of_nodup ?_ List.nodup_range).mpr (fun a => ?_)
  · refine List.nodup_append.mpr ⟨h.1, List.Pairwise.filter _ List.nodup_range, fun a ha b hb e => ?_⟩
    subst e
    exact (rem_mem.mp hb).2 ha
  · rw [List.mem_append, rem_mem, List.mem_range]
    constructor
    · rintro (h1 | h1)
      · exact h.2 a h1
      · exact h1.1
    · intro h1
      by_cases ha : a ∈ p
      · exact Or.inl ha
      · exact Or.inr ⟨h1, ha⟩
theorem rem_len {v : Nat} {p : List Nat} (h : pp v p) : p.length + (rem_ v p).length = v := by
  have := (rem_perm h).length_eq
  rwa [List.length_append, List.length_range] at this
theorem pp_app {v q : Nat} {p : List Nat} (h : pp v p) (hq : q ∈ rem_ v p) : pp v (p ++ [q]) := by
  obtain ⟨h1, h2⟩ := rem_mem.mp hq
  refine ⟨List.nodup_append.mpr ⟨h.1, by simp, fun a ha b hb e => ?_⟩, fun x hx => ?_⟩
  · rw [List.mem_singleton.mp hb] at e
    rw [e] at ha
    exact h2 ha
  · rcases List.mem_append.mp hx with h3 | h3
    · exact h.2 x h3
    · rw [List.mem_singleton.mp h3]; exact h1
theorem rem_erase {v q : Nat} {p : List Nat} : (rem_ v p).erase q = rem_ v (p ++ [q]) := by
  have hn : (rem_ v p).Nodup := List.Pairwise.filter _ List.nodup_range
  rw [hn.erase_eq_filter, rem_, rem_, List.filter_filter]
  refine List.filter_congr (fun x _ => ?_)
  by_cases h1 : x ∈ p <;> by_cases h2 : x = q <;> simp [h1, h2]
theorem pp_le {v : Nat} {p : List Nat} (h : pp v p) : p.length ≤ v := by have := rem_len h; omega
/-! images under points that are settled -/
theorem im_K {v k m : Nat} {p : List Nat} (h : pp v p) (hm : m ∈ fm_K v k) (hl : m < 2 ^ p.length) : pm_im p m ∈ fm_K v k := by
  rw [← pm_im_app (s := rem_ v p) hl]
  exact fm_K_im (rem_perm h) hm
theorem xs_all : (List.range 6).all (fun t => (List.range 64).all (fun m => decide (2 ^ t ≤ m → m < 2 ^ (t + 1) → m ^^^ 2 ^ t < 2 ^ t ∧ m.testBit t = true) && (List.range t).all (fun i => decide ((m ^^^ 2 ^ t).testBit i = m.testBit i)))) = true := by decide +kernel
theorem xs_fin (t : Nat) (ht : t < 6) (m : Nat) (hm : m < 64) (h1 : 2 ^ t ≤ m) (h2 : m < 2 ^ (t + 1)) : m ^^^ 2 ^ t < 2 ^ t ∧ m.testBit t = true ∧ ∀ i, i < t → (m ^^^ 2 ^ t).testBit i = m.testBit i := by
  have h9 := List.all_eq_true.mp (List.all_eq_true.mp xs_all t (List.mem_range.mpr ht)) m (List.mem_range.mpr hm)
  simp only [Bool.and_eq_true, decide_eq_true_eq, List.all_eq_true, List.mem_range] at h9
  exact ⟨(h9.1 h1 h2).1, (h9.1 h1 h2).2, h9.2⟩
theorem ys_fin : ∀ t, t < 6 → ∀ m, m < 32 → m < 2 ^ t → 2 ^ t ||| m = 2 ^ t + m ∧ 2 ^ t + m < 64 ∧ (2 ^ t + m) ^^^ 2 ^ t = m ∧ 2 ^ t + m < 2 ^ (t + 1) := by decide +kernel
theorem pm_im_64 {v : Nat} {p : List Nat} (h : pp v p) (hv : v ≤ 6) (m : Nat) : pm_im p m < 64 := by
  have : pm_im p m < 2 ^ 6 := by
    apply Nat.lt_pow_two_of_testBit
    intro y hy
    cases hb : (pm_im p m).testBit y with
    | false => rfl
    | true =>
      obtain ⟨i, hi, -, e⟩ := pm_im_bit.mp hb
      rw [gd_at hi] at e
      have := h.2 _ (List.getElem_mem hi)
      omega
  exact this
theorem im_split {p : List Nat} {q m : Nat} (ht : p.length < 6) (hm : m < 64) (h1 : 2 ^ p.length ≤ m) (h2 : m < 2 ^ (p.length + 1)) : pm_im (p ++ [q]) m = pm_im p (m ^^^ 2 ^ p.length) ||| 2 ^ q := by
  obtain ⟨-, hb, hx⟩ := xs_fin p.length ht m hm h1 h2
  apply Nat.eq_of_testBit_eq
  intro y
  rw [Bool.eq_iff_iff, Nat.testBit_or, Bool.or_eq_true, pm_im_bit, pm_im_bit, Nat.testBit_two_pow, decide_eq_true_eq]
  constructor
  · rintro ⟨i, hi, h3, e⟩
    rw [List.length_append] at hi
    simp only [List.length_singleton] at hi
    by_cases hip : i = p.length
    · subst hip
      right
      rw [gd_app_r] at e
      exact e
    · left
      have hil : i < p.length := by omega
      exact ⟨i, hil, by rw [hx i hil]; exact h3, by rw [← e, gd_app_l hil]⟩
  · rintro (⟨i, hi, h3, e⟩ | e)
    · exact ⟨i, by rw [List.length_append]; omega, by rw [← hx i hi]; exact h3, by rw [gd_app_l hi]; exact e⟩
    · exact ⟨p.length, by simp, hb, by rw [gd_app_r]; exact e⟩
theorem vk_lo {v k t j : Nat} (h : vk v k) (ht : t < 7) (hj : j < (fm_K v k).length) (h2 : se_kb (fm_K v k) t ≤ j) : 2 ^ t ≤ (fm_K v k).getD j 0 := (kb_fin h).2.2.2.2 t ht j hj h2
theorem vk_hi {v k t j : Nat} (h : vk v k) (ht : t < 7) (h2 : j < se_kb (fm_K v k) t) : (fm_K v k).getD j 0 < 2 ^ t := (kb_fin h).2.2.2.1 t ht j h2
theorem K_mem {v k j : Nat} (hj : j < (fm_K v k).length) : (fm_K v k).getD j 0 ∈ fm_K v k := by
  rw [gd_at hj]
  exact List.getElem_mem hj
/-! ints that may be -1 -/
def iI (z : Int) : Int32 := Int32.ofInt z
theorem iI_fin : ∀ a : Nat, a < 12 → ∀ b : Nat, b < 11 → (iI ((a : Int) - 1) ≤ nI b ↔ (a : Int) - 1 ≤ b) ∧ (nI b ≤ iI ((a : Int) - 1) ↔ (b : Int) ≤ (a : Int) - 1) := by decide +kernel
theorem iI_cmp {z : Int} {b : Nat} (h1 : -1 ≤ z) (h2 : z ≤ 10) (hb : b ≤ 10) : (iI z ≤ nI b ↔ z ≤ b) ∧ (nI b ≤ iI z ↔ (b : Int) ≤ z) := by
  obtain ⟨a, ha⟩ : ∃ a : Nat, z = (a : Int) - 1 := ⟨(z + 1).toNat, by omega⟩
  subst ha
  exact iI_fin a (by omega) b (by omega)
theorem iI_n (n : Nat) : iI (n : Int) = nI n := rfl
/-- the state of the search as the Former holds it -/
def fb (K : List Nat) (st : se_S) (w : ma_W) : Prop := st.1.length = K.length ∧ (∀ j, j < K.length → -1 ≤ st.1.getD j 0 ∧ st.1.getD j 0 ≤ 10 ∧ w.2.2 6 j = iI (st.1.getD j 0)) ∧ w.1 1 6 = nI st.2.1 ∧ w.1 1 8 = bI st.2.2.1 ∧ st.2.2.2.length = 6 ∧ ∀ i, i < 6 → w.2.2 9 i = nI (st.2.2.2.getD i 0) ∧ st.2.2.2.getD i 0 < 6
/-- what lies under the search and does not change -/
def fu (v k : Nat) (f : Nat → Nat) (w : ma_W) : Prop := gr v k w ∧ ∀ m, m ∈ fm_K v k → w.2.2 5 m = nI (f m)
theorem fu_fr {v k : Nat} {f : Nat → Nat} {w w' : ma_W} (h : fu v k f w) (hf : fr [1] [6, 7, 8, 9] w w') : fu v k f w' := ⟨gr_fr h.1 hf (by decide) (by decide) (by decide), fun m hm => by rw [hf.2.2 5 (by decide)]; exact h.2 m hm⟩
def im_ (p : List Nat) (w : ma_W) : Prop := ∀ m, m < 2 ^ p.length → w.2.2 7 m = nI (pm_im p m)
def tk_ (p : List Nat) (w : ma_W) : Prop := ∀ i, i < p.length → w.2.2 8 i = nI (p.getD i 0)
/-- makeBest -/
def T_FO_makeBest : ma_T := fun as w post => ∃ j n, as = [.inr 1, .inl (nI j), .inl (nI n)] ∧ j < 20 ∧ ∀ w', fr [1] [6] w w' → w'.1 1 6 = nI 0 → w'.1 1 7 = w.1 1 7 → w'.1 1 8 = w.1 1 8 → (∀ i, i < 20 → w'.2.2 6 i = if i < j then w.2.2 6 i else if i = j then nI n else iI (-1)) → post 0 w'
theorem i_FO_makeBest {j n : Nat} {w : ma_W} {post : ma_P} (hj : j < 20) (hp : ∀ w', fr [1] [6] w w' → w'.1 1 6 = nI 0 → w'.1 1 7 = w.1 1 7 → w'.1 1 8 = w.1 1 8 → (∀ i, i < 20 → w'.2.2 6 i = if i < j then w.2.2 6 i else if i = j then nI n else iI (-1)) → post 0 w') : T_FO_makeBest [.inr 1, .inl (nI j), .inl (nI n)] w post := ⟨j, n, rfl, hj, hp⟩
theorem c_FO_makeBest {l : Launch} : ma_Met l y_FO_makeBest (w_FO_makeBest :: zw_t) 0 false T_FO_makeBest := by
  refine z_FO_makeBest (by rintro as w post ⟨j, n, rfl, -⟩; simp) ?_
  rintro as w post ⟨j, n, rfl, hj, hp⟩ Go hGo
  have loop : ∀ (d i : Nat) (w' : ma_W), i + d = 20 → j < i → fr [1] [6] w w' → w'.1 = w.1 → (∀ x, x < 20 → w'.2.2 6 x = if x < j then w.2.2 6 x else if x = j then nI n else if x < i then iI (-1) else w.2.2 6 x) → Go 11 [some (.inr 1), some (.inl (nI j)), some (.inl (nI n)), some (.inl (nI i))] [] w' := by
    intro d
    induction d with
    | zero =>
      intro i w' hd hji hf hw ha
      refine q_FO_makeBest_11 hGo (pk_le 20 i (fun _ => q_FO_makeBest_30 hGo (hp _ (fr_f hf (by simp) _ _) (rfl) ?_ ?_ (fun x hx => ?_))) (fun h => absurd h (by omega)))
      · try dsimp only
        rw [ma_up_k _ _ _ _ (by decide), hw]
      · try dsimp only
        rw [ma_up_k _ _ _ _ (by decide), hw]
      · show w'.2.2 6 x = _
        rw [ha x hx, if_pos (show x < i by omega)]
    | succ d ih =>
      intro i w' hd hji hf hw ha
      refine q_FO_makeBest_11 hGo (pk_le 20 i (fun h => absurd h (by omega)) (fun _ => ⟨i, by omega, rfl, ?_⟩))
      rw [nI_add]
      refine ih (i + 1) _ (by omega) (by omega) (fr_a hf (by simp) _ _) hw (fun x hx => ?_)
      try dsimp only
      by_cases hxi : x = i
      · subst hxi
        rw [ma_up_s, if_neg (by omega), if_neg (by omega), if_pos (by omega)]
        rfl
      · rw [ma_up_k _ _ _ _ hxi, ha x hx]
        by_cases h1 : x < i
        · rw [if_pos h1, if_pos (show x < i + 1 by omega)]
        · rw [if_neg h1, if_neg (show ¬ x < i + 1 by omega)]
  refine q_FO_makeBest_0 hGo ⟨j, hj, rfl, ?_⟩
  rw [nI_add]
  refine loop (20 - (j + 1)) (j + 1) _ (by omega) (by omega) (fr_a (fr_refl _ _ _) (by simp) _ _) rfl (fun x hx => ?_)
  try dsimp only
  by_cases hxj : x = j
  · subst hxj
    rw [ma_up_s, if_neg (by omega), if_pos rfl]
  · rw [ma_up_k _ _ _ _ hxj]
    by_cases h1 : x < j
    · rw [if_pos h1]
    · rw [if_neg h1, if_neg hxj, if_neg (by omega)]
theorem fb_mk {K : List Nat} {st : se_S} {w w' : ma_W} {j n : Nat} (h : fb K st w) (hK : K.length ≤ 20) (hj : j < K.length) (hn : n ≤ 10) (hf : fr [1] [6] w w') (h6 : w'.1 1 6 = nI 0) (h8 : w'.1 1 8 = bI true) (ha : ∀ i, i < 20 → w'.2.2 6 i = if i < j then w.2.2 6 i else if i = j then nI n else iI (-1)) : fb K (se_mk st.1 j (n : Int), 0, true, st.2.2.2) w' := by
  obtain ⟨g1, g2, g3, g4, g5, g6⟩ := h
  have hjl : j < st.1.length := by omega
  refine ⟨by show (se_mk st.1 j (n : Int)).length = _; rw [se_mk_len hjl]; exact g1, fun i hi => ?_, h6, h8, g5, fun i hi => by rw [hf.2.2 9 (by decide)]; exact g6 i hi⟩
  show -1 ≤ (se_mk st.1 j (n : Int)).getD i 0 ∧ (se_mk st.1 j (n : Int)).getD i 0 ≤ 10 ∧ w'.2.2 6 i = iI ((se_mk st.1 j (n : Int)).getD i 0)
  rw [ha i (by omega)]
  rcases Nat.lt_trichotomy i j with h1 | h1 | h1
  · rw [se_mk_lt hjl h1, if_pos h1]
    exact g2 i hi
  · subst h1
    rw [se_mk_at hjl, if_neg (by omega), if_pos rfl]
    exact ⟨by omega, by omega, (iI_n n).symm⟩
  · rw [se_mk_gt hjl h1 (by omega), if_neg (by omega), if_neg (by omega)]
    exact ⟨by decide, by decide, rfl⟩
/-- a search that stops: what answers true has changed nothing -/
theorem se_as_stop (num : Nat → Int) : ∀ (js : List Nat) (b : List Int × Nat × Bool), (se_as true num js b).1 = true → se_as true num js b = (true, b)
  | [], b, _ => rfl
  | j :: js, b, h => by
    unfold se_as at h ⊢
    by_cases h1 : num j < b.1.getD j 0
    · rw [if_pos h1] at h; cases h
    · rw [if_neg h1] at h ⊢
      by_cases h2 : b.1.getD j 0 < num j
      · rw [if_pos h2, if_pos rfl] at h; cases h
      · rw [if_neg h2] at h ⊢
        exact se_as_stop num js b h
/-- the kinds whose greatest point is t -/
def se_js (K : List Nat) (t : Nat) : List Nat := List.range' (se_kb K t) (se_kb K (t + 1) - se_kb K t)
def se_A (stop : Bool) (K : List Nat) (f : Nat → Nat) (p : List Nat) (q : Nat) (st : se_S) : Bool × List Int × Nat × Bool := se_as stop (se_num K f (p ++ [q])) (se_js K p.length) (st.1, st.2.1, st.2.2.1)
def T_FO_isAsGood : ma_T := fun as w post => ∃ v k f p q st stop, as = [.inr 1, .inl (nI p.length), .inl (nI q)] ∧ vk v k ∧ (∀ m, f m ≤ 10) ∧ pp v (p ++ [q]) ∧ fu v k f w ∧ fb (fm_K v k) st w ∧ im_ p w ∧ w.1 1 7 = bI stop ∧ ∀ w', fr [1] [6] w w' → w'.1 1 7 = bI stop → fb (fm_K v k) ((se_A stop (fm_K v k) f p q st).2.1, (se_A stop (fm_K v k) f p q st).2.2.1, (se_A stop (fm_K v k) f p q st).2.2.2, st.2.2.2) w' → post (bI (se_A stop (fm_K v k) f p q st).1) w'
theorem i_FO_isAsGood {v k : Nat} {f : Nat → Nat} {p : List Nat} {q : Nat} {st : se_S} {stop : Bool} {w : ma_W} {post : ma_P} (hv : vk v k) (hf : ∀ m, f m ≤ 10) (hp : pp v (p ++ [q])) (hu : fu v k f w) (hb : fb (fm_K v k) st w) (hi : im_ p w) (hs : w.1 1 7 = bI stop) (h : ∀ w', fr [1] [6] w w' → w'.1 1 7 = bI stop → fb (fm_K v k) ((se_A stop (fm_K v k) f p q st).2.1, (se_A stop (fm_K v k) f p q st).2.2.1, (se_A stop (fm_K v k) f p q st).2.2.2, st.2.2.2) w' → post (bI (se_A stop (fm_K v k) f p q st).1) w') : T_FO_isAsGood [.inr 1, .inl (nI p.length), .inl (nI q)] w post := ⟨v, k, f, p, q, st, stop, rfl, hv, hf, hp, hu, hb, hi, hs, h⟩
theorem pp_init {v : Nat} {p : List Nat} {q : Nat} (h : pp v (p ++ [q])) : pp v p ∧ q < v ∧ q ∉ p := by
  have h1 := List.nodup_append.mp h.1
  exact ⟨⟨h1.1, fun x hx => h.2 x (List.mem_append_left _ hx)⟩, h.2 q (by simp), fun hq => h1.2.2 q hq q (by simp) rfl⟩
theorem c_FO_isAsGood {l : Launch} : ma_Met l y_FO_isAsGood (w_FO_isAsGood :: zw_t) 1 true T_FO_isAsGood := by
  refine z_FO_isAsGood c_GR_firstKindEndingAt (by decide) c_GR_kind (by decide) c_FO_makeBest (by decide) (by rintro as w post ⟨v, k, f, p, q, st, stop, rfl, -⟩; simp) ?_
  rintro as w post ⟨v, k, f, p, q, st, stop, rfl, hv, hf, hpq, hu, hb, hi, hs, hp⟩ Go hGo
  obtain ⟨hpp, hqv, hqp⟩ := pp_init hpq
  have hv6 := hv.2.1
  have hpl : p.length < v := by
    have := pp_le hpq
    rw [List.length_append, List.length_singleton] at this
    omega
  have h20 := vk_20 hv
  have hmono := se_kb_mono (K := fm_K v k) (show p.length ≤ p.length + 1 by omega)
  have hle := se_kb_le (K := fm_K v k) (p.length + 1)
  have loop : ∀ (d j : Nat) (b : se_S) (w' : ma_W) (o : Option ma_V), j + d = se_kb (fm_K v k) (p.length + 1) → se_kb (fm_K v k) p.length ≤ j → fr [1] [6] w w' → w'.1 1 7 = bI stop → fb (fm_K v k) b w' → b.2.2.2 = st.2.2.2 → se_as stop (se_num (fm_K v k) f (p ++ [q])) (List.range' j d) (b.1, b.2.1, b.2.2.1) = se_A stop (fm_K v k) f p q st → Go 21 [some (.inr 1), some (.inl (nI p.length)), some (.inl (nI q)), some (.inl (nI (se_kb (fm_K v k) (p.length + 1)))), some (.inl (nI j)), o] [] w' := by
    intro d
    induction d with
    | zero =>
      intro j b w' o hd hlo hfr hs' hb' hls he
      refine q_FO_isAsGood_21 hGo (pk_le (se_kb (fm_K v k) (p.length + 1)) j (fun _ => q_FO_isAsGood_110 hGo ⟨bo1, ?_⟩) (fun h => absurd h (by omega)))
      have h9 := hp w' hfr hs'
      rw [← he] at h9
      rw [← hls] at h9
      exact h9 hb'
    | succ d ih =>
      intro j b w' o hd hlo hfr hs' hb' hls he
      have hjK : j < (fm_K v k).length := by omega
      have hm := K_mem hjK
      have hm64 := vk_64 hv hm
      have hml := vk_lo hv (by omega) hjK hlo
      have hmh : (fm_K v k).getD j 0 < 2 ^ (p.length + 1) := vk_hi hv (by omega) (by omega)
      obtain ⟨hx1, -, -⟩ := xs_fin p.length (by omega) _ hm64 hml hmh
      have hpt : 2 ^ p.length ≤ 2 ^ 5 := Nat.pow_le_pow_right (by decide) (by omega)
      have hq2 : 2 ^ q ≤ 2 ^ 5 := Nat.pow_le_pow_right (by decide) (by omega)
      have himp : pm_im p ((fm_K v k).getD j 0 ^^^ 2 ^ p.length) < 64 := pm_im_64 hpp hv6 _
      have hsp := im_split (q := q) (by omega) hm64 hml hmh
      have hK2 : pm_im (p ++ [q]) ((fm_K v k).getD j 0) ∈ fm_K v k := im_K hpq hm (by rw [List.length_append]; exact hmh)
      have hnum : w'.2.2 5 (pm_im (p ++ [q]) ((fm_K v k).getD j 0)) = nI (f (pm_im (p ++ [q]) ((fm_K v k).getD j 0))) := by rw [hfr.2.2 5 (by decide)]; exact hu.2 _ hK2
      have h64b := vk_64 hv hK2
      obtain ⟨hbl, hba, hrest⟩ := hb'
      obtain ⟨hz1, hz2, hz3⟩ := hba j hjK
      have hcmp := iI_cmp hz1 hz2 (hf (pm_im (p ++ [q]) ((fm_K v k).getD j 0)))
      rw [List.range'_succ] at he
      unfold se_as at he
      refine q_FO_isAsGood_21 hGo (pk_le (se_kb (fm_K v k) (p.length + 1)) j (fun h => absurd h (by omega)) (fun _ => i_GR_kind (by omega) ⟨(fm_K v k).getD j 0 ^^^ 2 ^ p.length, by omega, ?_, pm_im (p ++ [q]) ((fm_K v k).getD j 0), h64b, ?_, j, by omega, rfl, ?_⟩))
      · rw [hfr.2.2 3 (by decide), hu.1.2.2.2.1 j hjK, bi_one _ (by omega), bi_xor _ hm64 _ (by omega)]
      · rw [hfr.2.2 7 (by decide), hi _ hx1, bi_one _ (by omega), bi_or _ himp _ (by omega), hsp]
      · rw [hz3, hnum, hcmp.1]
        refine ⟨fun h1 => ?_, fun h1 => ⟨bo0, ?_⟩⟩
        · refine q_FO_isAsGood_70 hGo ⟨j, by omega, rfl, ?_⟩
          rw [hz3, hcmp.2]
          have next : ∀ (b2 : se_S) (w2 : ma_W), fr [1] [6] w w2 → w2.1 1 7 = bI stop → fb (fm_K v k) b2 w2 → b2.2.2.2 = st.2.2.2 → se_as stop (se_num (fm_K v k) f (p ++ [q])) (List.range' (j + 1) d) (b2.1, b2.2.1, b2.2.2.1) = se_A stop (fm_K v k) f p q st → Go 104 [some (.inr 1), some (.inl (nI p.length)), some (.inl (nI q)), some (.inl (nI (se_kb (fm_K v k) (p.length + 1)))), some (.inl (nI j)), some (.inl (nI (f (pm_im (p ++ [q]) ((fm_K v k).getD j 0)))))] [] w2 := by
            intro b2 w2 a1 a2 a3 a4 a5
            refine q_FO_isAsGood_104 hGo ?_
            rw [nI_add]
            exact ih (j + 1) b2 w2 _ (by omega) (by omega) a1 a2 a3 a4 a5
          have hnn : ¬ se_num (fm_K v k) f (p ++ [q]) j < b.1.getD j 0 := by unfold se_num; omega
          rw [if_neg hnn] at he
          refine ⟨fun h2 => next b w' hfr hs' ⟨hbl, hba, hrest⟩ hls ?_, fun h2 => ⟨bo1, ?_⟩⟩
          · have : ¬ b.1.getD j 0 < se_num (fm_K v k) f (p ++ [q]) j := by unfold se_num; omega
            rw [if_neg this] at he
            exact he
          · have : b.1.getD j 0 < se_num (fm_K v k) f (p ++ [q]) j := by unfold se_num; omega
            rw [if_pos this] at he
            have hfr8 : fr [1] [6] w (ma_up w'.1 1 8 (nI 1), w'.2.1, w'.2.2) := fr_f hfr (by simp) _ _
            have hs8 : ma_up w'.1 1 8 (nI 1) 1 7 = bI stop := by rw [ma_up_k _ _ _ _ (by decide)]; exact hs'
            refine bI_at hs' (fun hst => ?_) (fun hst => ⟨bo0, ?_⟩)
            · subst hst
              refine q_FO_isAsGood_96 hGo (i_FO_makeBest (by omega) (fun w2 g1 g2 g3 g4 g5 => next (se_mk b.1 j (f (pm_im (p ++ [q]) ((fm_K v k).getD j 0)) : Int), 0, true, b.2.2.2) w2 (fr_trans hfr8 g1) (by rw [g3]; exact hs8) ?_ hls ?_))
              · refine fb_mk (w := (ma_up w'.1 1 8 (nI 1), w'.2.1, w'.2.2)) (st := (b.1, b.2.1, true, b.2.2.2)) ⟨hbl, hba, ?_, rfl, hrest.2.2.1, hrest.2.2.2⟩ h20 hjK (hf _) g1 g2 (by rw [g4]; exact rfl) g5
                try dsimp only
                rw [ma_up_k _ _ _ _ (by decide)]
                exact hrest.1
              · rw [if_neg (by decide)] at he
                exact he
            · subst hst
              rw [if_pos rfl] at he
              have h9 := hp (ma_up w'.1 1 8 (nI 1), w'.2.1, w'.2.2) hfr8 hs8
              rw [← he] at h9
              refine h9 ⟨hbl, hba, ?_, rfl, ?_⟩
              · try dsimp only
                rw [ma_up_k _ _ _ _ (by decide)]
                exact hrest.1
              · rw [← hls]; exact hrest.2.2
        · have : se_num (fm_K v k) f (p ++ [q]) j < b.1.getD j 0 := by unfold se_num; omega
          rw [if_pos this] at he
          have h9 := hp w' hfr hs'
          rw [← he, ← hls] at h9
          exact h9 ⟨hbl, hba, hrest⟩
  refine q_FO_isAsGood_0 hGo ?_
  rw [nI_add]
  refine i_GR_firstKindEndingAt (by omega) (i_GR_firstKindEndingAt (by omega) ?_)
  rw [hu.1.2.2.2.2 _ (by omega), hu.1.2.2.2.2 _ (by omega)]
  exact loop (se_kb (fm_K v k) (p.length + 1) - se_kb (fm_K v k) p.length) (se_kb (fm_K v k) p.length) st w _ (by omega) (Nat.le_refl _) (fr_refl _ _ _) hs hb rfl rfl
end
section
/-! CONTRACTS: Former, the search -/
def T_FO_settleImages : ma_T := fun as w post => ∃ (t q : Nat) (f : Nat → Nat), as = [.inr 1, .inl (nI t), .inl (nI q)] ∧ t < 6 ∧ q < 6 ∧ (∀ m, m < 2 ^ t → w.2.2 7 m = nI (f m) ∧ f m < 64) ∧ ∀ w', fr [] [7] w w' → (∀ m, m < 2 ^ t → w'.2.2 7 m = w.2.2 7 m) → (∀ m, m < 2 ^ t → w'.2.2 7 (2 ^ t + m) = nI (f m ||| 2 ^ q)) → post 0 w'
theorem i_FO_settleImages {t q : Nat} {f : Nat → Nat} {w : ma_W} {post : ma_P} (ht : t < 6) (hq : q < 6) (hf : ∀ m, m < 2 ^ t → w.2.2 7 m = nI (f m) ∧ f m < 64) (hp : ∀ w', fr [] [7] w w' → (∀ m, m < 2 ^ t → w'.2.2 7 m = w.2.2 7 m) → (∀ m, m < 2 ^ t → w'.2.2 7 (2 ^ t + m) = nI (f m ||| 2 ^ q)) → post 0 w') : T_FO_settleImages [.inr 1, .inl (nI t), .inl (nI q)] w post := ⟨t, q, f, rfl, ht, hq, hf, hp⟩
theorem c_FO_settleImages {l : Launch} : ma_Met l y_FO_settleImages (w_FO_settleImages :: zw_t) 0 false T_FO_settleImages := by
  refine z_FO_settleImages (by rintro as w post ⟨t, q, f, rfl, -⟩; simp) ?_
  rintro as w post ⟨t, q, f, rfl, ht, hq, hf, hp⟩ Go hGo
  have hpt : 2 ^ t ≤ 2 ^ 5 := Nat.pow_le_pow_right (by decide) (by omega)
  have hpq : 2 ^ q ≤ 2 ^ 5 := Nat.pow_le_pow_right (by decide) (by omega)
  have loop : ∀ (d n : Nat) (w' : ma_W), n + d = 2 ^ t → fr [] [7] w w' → (∀ m, m < 2 ^ t → w'.2.2 7 m = w.2.2 7 m) → (∀ m, m < n → w'.2.2 7 (2 ^ t + m) = nI (f m ||| 2 ^ q)) → Go 2 [some (.inr 1), some (.inl (nI t)), some (.inl (nI q)), some (.inl (nI n))] [] w' := by
    intro d
    induction d with
    | zero =>
      intro n w' hd hfr h1 h2
      exact q_FO_settleImages_2 hGo (pk_le (2 ^ t) n (fun _ => q_FO_settleImages_35 hGo (hp _ hfr h1 (fun m hm => h2 m (by omega)))) (fun h => absurd h (by omega)) (bi_one t (by omega)) rfl (by omega) (by omega))
    | succ d ih =>
      intro n w' hd hfr h1 h2
      have hn : n < 2 ^ t := by omega
      obtain ⟨hy1, hy2, -, -⟩ := ys_fin t ht n (by omega) hn
      obtain ⟨hf1, hf2⟩ := hf n hn
      refine q_FO_settleImages_2 hGo (pk_le (2 ^ t) n (fun h => absurd h (by omega)) (fun _ => ⟨n, by omega, rfl, 2 ^ t + n, hy2, ?_, ?_⟩) (bi_one t (by omega)) rfl (by omega) (by omega))
      · rw [bi_one t (by omega), bi_or _ (by omega) _ (by omega), hy1]
      · rw [nI_add, h1 n hn, hf1, bi_one q (by omega), bi_or _ hf2 _ (by omega)]
        refine ih (n + 1) _ (by omega) (fr_a hfr (by simp) _ _) (fun m hm => ?_) (fun m hm => ?_)
        · try dsimp only
          rw [ma_up_k _ _ _ _ (by omega)]
          exact h1 m hm
        · show ma_up w'.2.2 7 (2 ^ t + n) _ 7 (2 ^ t + m) = _
          by_cases hmn : m = n
          · subst hmn; rw [ma_up_s]
          · rw [ma_up_k _ _ _ _ (by omega)]
            exact h2 m (by omega)
  exact q_FO_settleImages_0 hGo (loop (2 ^ t) 0 w (by omega) (fr_refl _ _ _) (fun _ _ => rfl) (fun m hm => absurd hm (Nat.not_lt_zero m)))
theorem i_min {a b : Nat} {w : ma_W} {post : ma_P} (ha : a < 2 ^ 31) (hb : b < 2 ^ 31) (hp : post (nI (min a b)) w) : ma_min [.inl (nI a), .inl (nI b)] w post := by
  refine ⟨nI a, nI b, rfl, ?_⟩
  by_cases h : b < a
  · rw [if_pos (nI_lt h ha)]
    rw [show min a b = b by omega] at hp
    exact hp
  · rw [if_neg (nI_nlt (by omega) hb)]
    rw [show min a b = a by omega] at hp
    exact hp
def T_FO_countRenaming : ma_T := fun as w post => ∃ v K p st, as = [.inr 1] ∧ v ≤ 6 ∧ w.1 2 2 = nI v ∧ p.length = v ∧ (∀ x ∈ p, x < 6) ∧ tk_ p w ∧ fb K st w ∧ ∀ w', fr [1] [9] w w' → w'.1 1 7 = w.1 1 7 → fb K (se_cnt p st) w' → post 0 w'
theorem i_FO_countRenaming {v : Nat} {K p : List Nat} {st : se_S} {w : ma_W} {post : ma_P} (hv : v ≤ 6) (h2 : w.1 2 2 = nI v) (hl : p.length = v) (hx : ∀ x ∈ p, x < 6) (ht : tk_ p w) (hb : fb K st w) (hp : ∀ w', fr [1] [9] w w' → w'.1 1 7 = w.1 1 7 → fb K (se_cnt p st) w' → post 0 w') : T_FO_countRenaming [.inr 1] w post := ⟨v, K, p, st, rfl, hv, h2, hl, hx, ht, hb, hp⟩
theorem c_FO_countRenaming {l : Launch} : ma_Met l y_FO_countRenaming (w_FO_countRenaming :: zw_t) 1 false T_FO_countRenaming := by
  refine z_FO_countRenaming c_GR_points (by decide) (by decide) (by rintro as w post ⟨v, K, p, st, rfl, -⟩; simp) ?_
  rintro as w post ⟨v, K, p, st, rfl, hv, h2, hl, hx, ht, hb, hp⟩ Go hGo
  obtain ⟨g1, g2, g3, g4, g5, g6⟩ := hb
  have hpx : ∀ i, i < v → p.getD i 0 < 6 := by
    intro i hi
    rw [gd_at (by omega)]
    exact hx _ (List.getElem_mem _)
  have loop : ∀ (d n : Nat) (w' : ma_W), n + d = v → fr [1] [9] w w' → w'.1 1 7 = w.1 1 7 → w'.1 1 8 = w.1 1 8 → w'.1 1 6 = nI (st.2.1 + 1) → (∀ i, i < 6 → w'.2.2 9 i = nI (if i < n then min (st.2.2.2.getD i 0) (p.getD i 0) else st.2.2.2.getD i 0)) → Go 12 [some (.inr 1), some (.inl (nI n))] [] w' := by
    intro d
    induction d with
    | zero =>
      intro n w' hd hfr h7 h8 h6 h9
      refine q_FO_countRenaming_12 hGo (i_GR_points (pk_le v n (fun _ => q_FO_countRenaming_50 hGo (hp _ hfr h7 ⟨g1, fun j hj => ?_, h6, by rw [h8]; exact g4, ?_, fun i hi => ?_⟩)) (fun h => absurd h (by omega)) (by rw [hfr.2.1 2 (by decide)]; exact h2) rfl (by omega) (by omega)))
      · rw [hfr.2.2 6 (by decide)]; exact g2 j hj
      · show ((List.range st.2.2.2.length).map _).length = 6
        rw [List.length_map, List.length_range]; exact g5
      · have e : (se_cnt p st).2.2.2.getD i 0 = if i < n then min (st.2.2.2.getD i 0) (p.getD i 0) else st.2.2.2.getD i 0 := by
          show ((List.range st.2.2.2.length).map _).getD i 0 = _
          rw [List.getD_eq_getElem?_getD, List.getElem?_map, List.getElem?_range (by omega), hl, show n = v by omega]
          rfl
        rw [e, h9 i hi]
        refine ⟨rfl, ?_⟩
        have h0 := (g6 i hi).2
        split <;> omega
    | succ d ih =>
      intro n w' hd hfr h7 h8 h6 h9
      have h9n := h9 n (by omega)
      rw [if_neg (by omega)] at h9n
      have h0 := (g6 n (by omega)).2
      have hpn := hpx n (by omega)
      refine q_FO_countRenaming_12 hGo (i_GR_points (pk_le v n (fun h => absurd h (by omega)) (fun _ => ⟨n, by omega, rfl, n, by omega, rfl, ?_⟩) (by rw [hfr.2.1 2 (by decide)]; exact h2) rfl (by omega) (by omega)))
      rw [h9n, hfr.2.2 8 (by decide), ht n (by omega)]
      refine i_min (by omega) (by omega) ⟨n, by omega, rfl, ?_⟩
      rw [nI_add]
      refine ih (n + 1) _ (by omega) (fr_a hfr (by simp) _ _) h7 h8 h6 (fun i hi => ?_)
      try dsimp only
      by_cases hin : i = n
      · subst hin
        rw [ma_up_s, if_pos (by omega)]
      · rw [ma_up_k _ _ _ _ hin, h9 i hi]
        by_cases h1 : i < n
        · rw [if_pos h1, if_pos (show i < n + 1 by omega)]
        · rw [if_neg h1, if_neg (show ¬ i < n + 1 by omega)]
  refine q_FO_countRenaming_0 hGo (loop v 0 _ (by omega) (fr_f (fr_refl _ _ _) (by simp) _ _) ?_ ?_ ?_ (fun i hi => ?_))
  · try dsimp only
    rw [ma_up_k _ _ _ _ (by decide)]
  · try dsimp only
    rw [ma_up_k _ _ _ _ (by decide)]
  · try dsimp only
    rw [ma_up_s, g3, nI_add]
  · rw [if_neg (Nat.not_lt_zero i)]
    exact (g6 i hi).1
/-- what the search asks for and gives: p is settled, n points are left -/
def sq (n : Nat) (v k : Nat) (f : Nat → Nat) (p : List Nat) (st : se_S) (stop : Bool) (w : ma_W) : Prop := vk v k ∧ (∀ m, f m ≤ 10) ∧ pp v p ∧ p.length + n = v ∧ fu v k f w ∧ fb (fm_K v k) st w ∧ (p.length < v → im_ p w) ∧ tk_ p w ∧ w.1 1 7 = bI stop ∧ (st.2.2.1 && stop) = false
def sr (k v : Nat) (p : List Nat) (st' : se_S) (stop : Bool) (w w' : ma_W) : Prop := fr [1] [6, 7, 8, 9] w w' ∧ (∀ m, m < 2 ^ p.length → w'.2.2 7 m = w.2.2 7 m) ∧ (∀ i, i < p.length → w'.2.2 8 i = w.2.2 8 i) ∧ fb (fm_K v k) st' w' ∧ w'.1 1 7 = bI stop
def T_FO_tryPointsFor (n : Nat) : ma_T := fun as w post => ∃ v k f p st stop, as = [.inr 1, .inl (nI p.length), .inl (nI (us p))] ∧ sq n v k f p st stop w ∧ ∀ w', sr k v p (se_all stop (fm_K v k) f n p (rem_ v p) st) stop w w' → post 0 w'
theorem i_FO_tryPointsFor {n v k : Nat} {f : Nat → Nat} {p : List Nat} {st : se_S} {stop : Bool} {w : ma_W} {post : ma_P} (h : sq n v k f p st stop w) (hp : ∀ w', sr k v p (se_all stop (fm_K v k) f n p (rem_ v p) st) stop w w' → post 0 w') : T_FO_tryPointsFor n [.inr 1, .inl (nI p.length), .inl (nI (us p))] w post := ⟨v, k, f, p, st, stop, rfl, h, hp⟩
def T_FO_tryPoint (n : Nat) : ma_T := fun as w post => ∃ v k f p st stop q, as = [.inr 1, .inl (nI p.length), .inl (nI q), .inl (nI (us p))] ∧ sq (n + 1) v k f p st stop w ∧ q ∈ rem_ v p ∧ ∀ w', sr k v p (se_try stop (fm_K v k) f (se_all stop (fm_K v k) f n) p (rem_ v p) st q) stop w w' → post 0 w'
theorem i_FO_tryPoint {n v k : Nat} {f : Nat → Nat} {p : List Nat} {st : se_S} {stop : Bool} {q : Nat} {w : ma_W} {post : ma_P} (h : sq (n + 1) v k f p st stop w) (hq : q ∈ rem_ v p) (hp : ∀ w', sr k v p (se_try stop (fm_K v k) f (se_all stop (fm_K v k) f n) p (rem_ v p) st q) stop w w' → post 0 w') : T_FO_tryPoint n [.inr 1, .inl (nI p.length), .inl (nI q), .inl (nI (us p))] w post := ⟨v, k, f, p, st, stop, q, rfl, h, hq, hp⟩
theorem fb_fr {K : List Nat} {st : se_S} {ps qs : List Nat} {w w' : ma_W} (h : fb K st w) (hf : fr ps qs w w') (h1 : 1 ∉ ps) (h2 : 6 ∉ qs) (h3 : 9 ∉ qs) : fb K st w' := by
  unfold fb
  rw [hf.2.1 1 h1, hf.2.2 6 h2, hf.2.2 9 h3]
  exact h
theorem se_try_eq {stop : Bool} {K : List Nat} {f : Nat → Nat} {go : List Nat → List Nat → se_S → se_S} {p r : List Nat} {st : se_S} {q : Nat} (h : (st.2.2.1 && stop) = false) : se_try stop K f go p r st q = if (se_A stop K f p q st).1 = true then go (p ++ [q]) (r.erase q) ((se_A stop K f p q st).2.1, (se_A stop K f p q st).2.2.1, (se_A stop K f p q st).2.2.2, st.2.2.2) else ((se_A stop K f p q st).2.1, (se_A stop K f p q st).2.2.1, (se_A stop K f p q st).2.2.2, st.2.2.2) := by
  unfold se_try
  rw [if_neg (by rw [h]; decide)]
  rfl
theorem c_FO_tryPoint {l : Launch} {n d : Nat} (hd : 1 ≤ d) (ct : ma_Met l y_FO_tryPointsFor (w_FO_tryPointsFor :: zw_t) d false (T_FO_tryPointsFor n)) : ma_Met l y_FO_tryPoint (w_FO_tryPoint :: zw_t) (d + 1) false (T_FO_tryPoint n) := by
  refine z_FO_tryPoint c_FO_isAsGood (by omega) c_GR_points (by omega) c_FO_settleImages (by omega) ct (by omega) (by rintro as w post ⟨v, k, f, p, st, stop, q, rfl, -⟩; simp) ?_
  rintro as w post ⟨v, k, f, p, st, stop, q, rfl, ⟨hv, hf, hpp, hpn, hu, hb, him, htk, hs, hbs⟩, hq, hp⟩ Go hGo
  have hv6 := hv.2.1
  have hpq := pp_app hpp hq
  have hqv := (rem_mem.mp hq).1
  have hpl : p.length < v := by omega
  have hlen : (p ++ [q]).length = p.length + 1 := by simp
  rw [se_try_eq hbs] at hp
  refine q_FO_tryPoint_0 hGo (i_FO_isAsGood hv hf hpq hu hb (him hpl) hs (fun w1 hf1 hs1 hb1 => bI_ne (fun hA => ?_) (fun hA => ?_)))
  · rw [if_pos hA] at hp
    have hbs1 : ((se_A stop (fm_K v k) f p q st).2.2.2 && stop) = false := by
      cases stop with
      | false => simp
      | true =>
        have e : se_A true (fm_K v k) f p q st = (true, st.1, st.2.1, st.2.2.1) := se_as_stop _ _ _ hA
        rw [e]
        exact hbs
    have hfm : fr [1] [6, 7, 8, 9] w w1 := fr_mono hf1 (fun _ h => h) (fun x h => by rw [List.mem_singleton.mp h]; decide)
    -- the rest of the search, once takenTo and the images are settled
    have last : ∀ w3 : ma_W, fr [1] [6, 7, 8, 9] w w3 → w3.1 1 7 = bI stop → fb (fm_K v k) ((se_A stop (fm_K v k) f p q st).2.1, (se_A stop (fm_K v k) f p q st).2.2.1, (se_A stop (fm_K v k) f p q st).2.2.2, st.2.2.2) w3 → (∀ m, m < 2 ^ p.length → w3.2.2 7 m = w.2.2 7 m) → (p.length + 1 < v → ∀ m, m < 2 ^ p.length → w3.2.2 7 (2 ^ p.length + m) = nI (pm_im p m ||| 2 ^ q)) → (∀ i, i < p.length → w3.2.2 8 i = w.2.2 8 i) → w3.2.2 8 p.length = nI q → Go 36 [some (.inr 1), some (.inl (nI p.length)), some (.inl (nI q)), some (.inl (nI (us p)))] [] w3 := by
      intro w3 a1 a2 a3 a4 a5 a6 a7
      have hus : nI (us p) ||| (nI 1 <<< (nI q &&& 31)) = nI (us (p ++ [q])) := by
        have h1 : us p < 64 := Nat.lt_of_lt_of_le (us_lt hpp.2) (pw64 hv6)
        have h2 : 2 ^ q ≤ 2 ^ 5 := Nat.pow_le_pow_right (by decide) (by omega)
        rw [bi_one q (by omega), bi_or _ h1 _ (by omega), us_app]
      refine q_FO_tryPoint_36 hGo ?_
      rw [hus, nI_add, ← hlen]
      refine i_FO_tryPointsFor (v := v) (k := k) (f := f) (st := ((se_A stop (fm_K v k) f p q st).2.1, (se_A stop (fm_K v k) f p q st).2.2.1, (se_A stop (fm_K v k) f p q st).2.2.2, st.2.2.2)) (stop := stop) ⟨hv, hf, hpq, by rw [hlen]; omega, fu_fr hu a1, a3, fun hlt m hm => ?_, fun i hi => ?_, a2, hbs1⟩ (fun w4 ⟨b1, b2, b3, b4, b5⟩ => ?_)
      · rw [hlen] at hm hlt
        by_cases hm2 : m < 2 ^ p.length
        · rw [a4 m hm2, him hpl m hm2, pm_im_app hm2]
        · have h2p : 2 ^ (p.length + 1) = 2 ^ p.length + 2 ^ p.length := by rw [Nat.pow_succ]; omega
          have h25 : 2 ^ p.length ≤ 2 ^ 5 := Nat.pow_le_pow_right (by decide) (by omega)
          have h5 := a5 hlt (m - 2 ^ p.length) (by omega)
          obtain ⟨-, -, hx, -⟩ := ys_fin p.length (by omega) (m - 2 ^ p.length) (by omega) (by omega)
          rw [show 2 ^ p.length + (m - 2 ^ p.length) = m by omega] at h5 hx
          rw [h5, im_split (by omega) (by omega) (by omega) hm, hx]
      · rw [hlen] at hi
        by_cases hip : i = p.length
        · subst hip
          rw [a7, gd_app_r]
        · rw [a6 i (by omega), htk i (by omega), gd_app_l (by omega)]
      · rw [rem_erase] at hp
        have h2p : 2 ^ p.length ≤ 2 ^ (p ++ [q]).length := Nat.pow_le_pow_right (by decide) (by omega)
        exact hp w4 ⟨fr_trans a1 b1, fun m hm => by rw [b2 m (by omega), a4 m hm], fun i hi => by rw [b3 i (by omega), a6 i hi], b4, b5⟩
    have hfa : fr [1] [6, 7, 8, 9] w (w1.1, w1.2.1, ma_up w1.2.2 8 p.length (nI q)) := fr_a hfm (by decide) _ _
    have hb2 : fb (fm_K v k) ((se_A stop (fm_K v k) f p q st).2.1, (se_A stop (fm_K v k) f p q st).2.2.1, (se_A stop (fm_K v k) f p q st).2.2.2, st.2.2.2) (w1.1, w1.2.1, ma_up w1.2.2 8 p.length (nI q)) := fb_fr hb1 (fr_a (fr_refl [] [8] w1) (by decide) _ _) (by decide) (by decide) (by decide)
    have h8 : ∀ i, i < p.length → ma_up w1.2.2 8 p.length (nI q) 8 i = w.2.2 8 i := fun i hi => by rw [ma_up_k _ _ _ _ (by omega), hf1.2.2 8 (by decide)]
    have h7 : ∀ m, ma_up w1.2.2 8 p.length (nI q) 7 m = w.2.2 7 m := fun m => by rw [ma_up_p _ _ _ _ (by decide), hf1.2.2 7 (by decide)]
    refine q_FO_tryPoint_10 hGo ⟨p.length, by omega, rfl, i_GR_points ?_⟩
    rw [nI_add]
    refine pk_le v (p.length + 1) (fun h => last _ hfa hs1 hb2 (fun m _ => h7 m) (fun h9 => absurd h9 (by omega)) h8 (show ma_up w1.2.2 8 p.length (nI q) 8 p.length = nI q from ma_up_s _ _ _ _)) (fun h => i_FO_settleImages (f := pm_im p) (by omega) (by omega) (fun m hm => ⟨by rw [← him hpl m hm]; exact h7 m, pm_im_64 hpp hv6 m⟩) (fun w3 c1 c2 c3 => last w3 (fr_trans hfa (fr_mono c1 (fun _ h => absurd h List.not_mem_nil) (fun x h => by rw [List.mem_singleton.mp h]; decide))) (by rw [c1.2.1 1 List.not_mem_nil]; exact hs1) (fb_fr hb2 c1 List.not_mem_nil (by decide) (by decide)) (fun m hm => by rw [c2 m hm]; exact h7 m) (fun _ => c3) (fun i hi => by rw [c1.2.2 8 (by decide)]; exact h8 i hi) (by rw [c1.2.2 8 (by decide)]; exact (show ma_up w1.2.2 8 p.length (nI q) 8 p.length = nI q from ma_up_s _ _ _ _)))) (by rw [hf1.2.1 2 (by decide)]; exact hu.1.1) rfl (by omega) (by omega)
  · rw [if_neg (by rw [hA]; decide)] at hp
    exact hp w1 ⟨fr_mono hf1 (fun _ h => h) (fun x h => by rw [List.mem_singleton.mp h]; decide), fun m _ => by rw [hf1.2.2 7 (by decide)], fun i _ => by rw [hf1.2.2 8 (by decide)], hb1, hs1⟩
/-- the points before n that are left -/
def rm_ (n : Nat) (p : List Nat) : List Nat := (List.range n).filter (fun q => !p.contains q)
theorem rm_s (n : Nat) (p : List Nat) : rm_ (n + 1) p = rm_ n p ++ (if n ∈ p then [] else [n]) := by
  unfold rm_
  rw [List.range_succ, List.filter_append]
  congr 1
  by_cases h : n ∈ p <;> simp [h]
theorem c_FO_tryPointsFor0 {l : Launch} {d : Nat} (hd : 2 ≤ d) : ma_Met l y_FO_tryPointsFor (w_FO_tryPointsFor :: zw_t) d false (T_FO_tryPointsFor 0) := by
  refine z_FO_tryPointsFor c_GR_points (by omega) c_FO_countRenaming (by omega) (ma_no (d := 0)) (by omega) (by rintro as w post ⟨v, k, f, p, st, stop, rfl, -⟩; simp) ?_
  rintro as w post ⟨v, k, f, p, st, stop, rfl, ⟨hv, hf, hpp, hpn, hu, hb, him, htk, hs, hbs⟩, hp⟩ Go hGo
  have hv6 := hv.2.1
  refine q_FO_tryPointsFor_0 hGo (i_GR_points (pk_lt p.length v (fun h => absurd h (by omega)) (fun _ => i_FO_countRenaming hv6 hu.1.1 (by omega) (fun x hx => Nat.lt_of_lt_of_le (hpp.2 x hx) hv6) htk hb (fun w' h1 h2 h3 => ?_)) rfl hu.1.1 (by omega) (by omega)))
  exact hp w' ⟨fr_mono h1 (fun _ h => h) (fun x h => by rw [List.mem_singleton.mp h]; decide), fun m _ => by rw [h1.2.2 7 (by decide)], fun i _ => by rw [h1.2.2 8 (by decide)], h3, by rw [h2]; exact hs⟩
theorem c_FO_tryPointsForS {l : Launch} {n d0 : Nat} (hd0 : 1 ≤ d0) (ct : ma_Met l y_FO_tryPoint (w_FO_tryPoint :: zw_t) d0 false (T_FO_tryPoint n)) : ma_Met l y_FO_tryPointsFor (w_FO_tryPointsFor :: zw_t) (d0 + 1) false (T_FO_tryPointsFor (n + 1)) := by
  refine z_FO_tryPointsFor c_GR_points (by omega) c_FO_countRenaming (by omega) ct (by omega) (by rintro as w post ⟨v, k, f, p, st, stop, rfl, -⟩; simp) ?_
  rintro as w post ⟨v, k, f, p, st, stop, rfl, ⟨hv, hf, hpp, hpn, hu, hb, him, htk, hs, hbs⟩, hp⟩ Go hGo
  have hv6 := hv.2.1
  have hpl : p.length < v := by omega
  have hus : us p < 64 := Nat.lt_of_lt_of_le (us_lt hpp.2) (pw64 hv6)
  have loop : ∀ (d m : Nat) (s : se_S) (w' : ma_W), m + d = v → (rm_ m p).foldl (se_try stop (fm_K v k) f (se_all stop (fm_K v k) f n) p (rem_ v p)) st = s → (s.2.2.1 && stop) = false → sr k v p s stop w w' → Go 18 [some (.inr 1), some (.inl (nI p.length)), some (.inl (nI (us p))), some (.inl (nI m))] [] w' := by
    intro d
    induction d with
    | zero =>
      intro m s w' hd he hbs' hr
      refine q_FO_tryPointsFor_18 hGo (i_GR_points (pk_le v m (fun _ => q_FO_tryPointsFor_65 hGo (hp w' ?_)) (fun h => absurd h (by omega)) (by rw [hr.1.2.1 2 (by decide)]; exact hu.1.1) rfl (by omega) (by omega)))
      have : se_all stop (fm_K v k) f (n + 1) p (rem_ v p) st = s := by
        rw [← he, show m = v by omega]
        rfl
      rw [this]
      exact hr
    | succ d ih =>
      intro m s w' hd he hbs' hr
      obtain ⟨r1, r2, r3, r4, r5⟩ := hr
      have hu' := fu_fr hu r1
      -- behind the point m
      have next : ∀ (s2 : se_S) (w2 : ma_W), (rm_ (m + 1) p).foldl (se_try stop (fm_K v k) f (se_all stop (fm_K v k) f n) p (rem_ v p)) st = s2 → sr k v p s2 stop w w2 → Go 44 [some (.inr 1), some (.inl (nI p.length)), some (.inl (nI (us p))), some (.inl (nI m))] [] w2 := by
        intro s2 w2 he2 hr2
        have go59 : (s2.2.2.1 && stop) = false → Go 59 [some (.inr 1), some (.inl (nI p.length)), some (.inl (nI (us p))), some (.inl (nI m))] [] w2 := by
          intro h
          refine q_FO_tryPointsFor_59 hGo ?_
          rw [nI_add]
          exact ih (m + 1) s2 w2 (by omega) he2 h hr2
        refine q_FO_tryPointsFor_44 hGo (bI_at hr2.2.2.2.1.2.2.2.1 (fun h => go59 (by rw [h]; rfl)) (fun h => bI_at hr2.2.2.2.2 (fun h2 => go59 (by rw [h2, Bool.and_false])) (fun h2 => hp w2 ?_)))
        subst h2
        have : se_all true (fm_K v k) f (n + 1) p (rem_ v p) st = s2 := by
          show (rem_ v p).foldl _ st = s2
          have hsplit : ∃ l, rem_ v p = rm_ (m + 1) p ++ l := by
            have key : ∀ e, ∃ l, rm_ (m + 1 + e) p = rm_ (m + 1) p ++ l := by
              intro e
              induction e with
              | zero => exact ⟨[], by simp⟩
              | succ e ih2 =>
                obtain ⟨l, hl⟩ := ih2
                exact ⟨l ++ (if m + 1 + e ∈ p then [] else [m + 1 + e]), by rw [← Nat.add_assoc, rm_s, hl, List.append_assoc]⟩
            obtain ⟨l, hl⟩ := key d
            rw [show m + 1 + d = v by omega] at hl
            exact ⟨l, hl⟩
          obtain ⟨l, hl⟩ := hsplit
          conv => lhs; arg 3; rw [hl]
          rw [List.foldl_append, he2]
          exact se_beaten l s2 h
        rw [this]
        exact hr2
      refine q_FO_tryPointsFor_18 hGo (i_GR_points (pk_le v m (fun h => absurd h (by omega)) (fun _ => ?_) (by rw [r1.2.1 2 (by decide)]; exact hu.1.1) rfl (by omega) (by omega)))
      rw [bi_bit _ hus m (by omega)]
      by_cases hm : m ∈ p
      · rw [if_pos ((us_bit p m).mpr hm)]
        refine pn_ne 1 0 (fun _ => next s w' ?_ ⟨r1, r2, r3, r4, r5⟩) (fun h => absurd h (by decide))
        rw [rm_s, if_pos hm, List.append_nil]
        exact he
      · rw [if_neg (fun h => hm ((us_bit p m).mp h))]
        refine pn_ne 0 0 (fun h => absurd rfl h) (fun _ => i_FO_tryPoint (v := v) (k := k) (f := f) (st := s) (stop := stop) ⟨hv, hf, hpp, hpn, hu', r4, fun h9 x hx => by rw [r2 x hx]; exact him h9 x hx, fun i hi => by rw [r3 i hi]; exact htk i hi, r5, hbs'⟩ (rem_mem.mpr ⟨by omega, hm⟩) (fun w2 ⟨b1, b2, b3, b4, b5⟩ => next _ w2 ?_ ⟨fr_trans r1 b1, fun x hx => by rw [b2 x hx, r2 x hx], fun i hi => by rw [b3 i hi, r3 i hi], b4, b5⟩))
        rw [rm_s, if_neg hm, List.foldl_append, he]
        rfl
  refine q_FO_tryPointsFor_0 hGo (i_GR_points (pk_lt p.length v (fun _ => q_FO_tryPointsFor_16 hGo (loop v 0 st w (by omega) rfl hbs ⟨fr_refl _ _ _, fun _ _ => rfl, fun _ _ => rfl, hb, hs⟩)) (fun h => absurd h (by omega)) rfl hu.1.1 (by omega) (by omega)))
theorem c_FO_tryPointsForN {l : Launch} : ∀ n d, 2 * n + 2 ≤ d → ma_Met l y_FO_tryPointsFor (w_FO_tryPointsFor :: zw_t) d false (T_FO_tryPointsFor n)
  | 0, d, h => c_FO_tryPointsFor0 h
  | n + 1, 0, h => absurd h (by omega)
  | n + 1, 1, h => absurd h (by omega)
  | n + 1, d + 2, h => c_FO_tryPointsForS (by omega) (c_FO_tryPoint (by omega) (c_FO_tryPointsForN n d (by omega)))
def T_FO_tryPointsAny : ma_T := fun as w post => ∃ n, n ≤ 6 ∧ T_FO_tryPointsFor n as w post
theorem i_FO_tryPointsAny {n v k : Nat} {f : Nat → Nat} {p : List Nat} {st : se_S} {stop : Bool} {w : ma_W} {post : ma_P} (hn : n ≤ 6) (h : sq n v k f p st stop w) (hp : ∀ w', sr k v p (se_all stop (fm_K v k) f n p (rem_ v p) st) stop w w' → post 0 w') : T_FO_tryPointsAny [.inr 1, .inl (nI p.length), .inl (nI (us p))] w post := ⟨n, hn, i_FO_tryPointsFor h hp⟩
theorem c_FO_tryPointsFor {l : Launch} : ma_Met l y_FO_tryPointsFor (w_FO_tryPointsFor :: zw_t) 14 false T_FO_tryPointsAny := by
  rintro D ad cA as w sz post ⟨n, hn, h⟩ hD
  exact c_FO_tryPointsForN n 14 (by omega) D ad cA as w sz post h hD
/-! Integer.bitCount -/
def us_r (x : Int32) (n : Nat) : Int32 := (x.toUInt32 >>> ((nI n).toUInt32 &&& Int32.toUInt32 31)).toInt32
def bc1 (x : Int32) : Int32 := x - (us_r x 1 &&& 1431655765)
def bc2 (x : Int32) : Int32 := (x &&& 858993459) + (us_r x 2 &&& 858993459)
def bc3 (x : Int32) : Int32 := (x + us_r x 4) &&& 252645135
def bc4 (x : Int32) : Int32 := x + us_r x 8
def bc5 (x : Int32) : Int32 := x + us_r x 16
theorem bc_all : ∀ m, m < 64 → bc5 (bc4 (bc3 (bc2 (bc1 (nI m))))) &&& nI 63 = nI (pm_cnt 6 m) := by decide +kernel
theorem q_JI_bitCount_0 {post : ma_P} {Go : ma_G} {w : ma_W} {x0 : Int32} (hGo : ma_cl k_JI_bitCount [] e_JI_bitCount none 1 s_JI_bitCount post Go) (h : post (bc5 (bc4 (bc3 (bc2 (bc1 x0)))) &&& nI 63) w) : Go 0 [some (.inl x0)] [] w := hGo 0 _ _ rfl _ _ _ h
theorem c_JI_bitCount {l : Launch} : ma_Met l y_JI_bitCount (w_JI_bitCount :: zw_t) 0 true T_JI_bitCount := by
  refine z_JI_bitCount (by rintro as w post ⟨m, rfl, -⟩; simp) ?_
  rintro as w post ⟨m, rfl, hm, hp⟩ Go hGo
  refine q_JI_bitCount_0 hGo ?_
  rw [bc_all m hm]
  exact hp
end
section
/-! CONTRACTS: Former, what it is asked -/
/-- how often the blocks come: all together as many as there are -/
theorem cs_all {K xs : List Nat} (hn : K.Nodup) (hx : ∀ x ∈ xs, x ∈ K) : (K.map (fun m => xs.count m)).sum = xs.length := by
  have h := ct_swap (fun t x => t == x) xs K
  have e1 : K.map (fun x => xs.countP (fun t => t == x)) = K.map (fun m => xs.count m) := rfl
  rw [e1] at h
  rw [h, ct_const xs _ 1 (fun t ht => ct_one hn (hx t ht) (by simp) (fun b _ hb => (beq_iff_eq.mp hb).symm)), Nat.mul_one]
theorem K_perm {v k : Nat} {t : List Nat} (ht : t.Perm (List.range v)) : ((fm_K v k).map (pm_im t)).Perm (fm_K v k) := by
  refine pm_mapP (fm_K_nodup v k) (fun a ha => fm_K_im ht ha) (fun a ha b hb e => ?_) (fun b hb => ⟨pm_im (pm_i v t) b, fm_K_im (pm_i_perm ht) hb, pm_im_inv2 ht (fm_K_mem.mp hb).1⟩)
  rw [← pm_im_inv ht (fm_K_mem.mp ha).1, e, pm_im_inv ht (fm_K_mem.mp hb).1]
theorem cs_row {v k : Nat} {t xs : List Nat} (ht : t.Perm (List.range v)) (hx : ∀ x ∈ xs, x ∈ fm_K v k) : ((fm_K v k).map (fun b => xs.count (pm_im t b))).sum = xs.length := by
  have h := ((K_perm (k := k) ht).map (fun m => xs.count m)).sum_nat
  rw [List.map_map, cs_all (fm_K_nodup v k) hx] at h
  exact h
theorem fl_len (g : Nat → List Nat) : ∀ (l : List Nat), (l.flatMap g).length = (l.map (fun j => (g j).length)).sum
  | [] => rfl
  | a :: l => by rw [List.flatMap_cons, List.length_append, fl_len g l, List.map_cons, List.sum_cons]
theorem rng_map {α β : Type} (l : List α) (d : α) (g : α → β) : (List.range l.length).map (fun j => g (l.getD j d)) = l.map g := by
  apply List.ext_getElem (by simp)
  intro i h1 h2
  have hi : i < l.length := by simpa using h2
  simp [List.getElem?_eq_getElem hi]
/-- a form has as many blocks as the laying -/
theorem un_len {v k : Nat} {t xs : List Nat} (ht : t.Perm (List.range v)) (hx : ∀ x ∈ xs, x ∈ fm_K v k) : (sp_un (fm_K v k) (ce_row (fm_K v k) xs t)).length = xs.length := by
  unfold sp_un
  rw [fl_len, ← cs_row ht hx]
  have : (List.range (fm_K v k).length).map (fun j => (List.replicate ((ce_row (fm_K v k) xs t).getD j 0).toNat ((fm_K v k).getD j 0)).length) = (List.range (fm_K v k).length).map (fun j => xs.count (pm_im t ((fm_K v k).getD j 0))) := by
    refine List.map_congr_left (fun j hj => ?_)
    rw [List.length_replicate, ce_row_at (List.mem_range.mp hj)]
    rfl
  rw [this, rng_map (fm_K v k) 0 (fun b => xs.count (pm_im t b))]
theorem un_len_max {v k : Nat} {xs : List Nat} (hx : ∀ x ∈ xs, x ∈ fm_K v k) : (sp_un (fm_K v k) (sp_max v (fm_K v k) xs)).length = xs.length := by
  obtain ⟨⟨t, ht, e⟩, -⟩ := sp_max_spec (v := v) (k := k) xs
  rw [← e]
  exact un_len ht hx
/-- the laying is laid out -/
def T_FO_start : ma_T := fun as w post => ∃ p v k xs, as = [.inr 1, .inr p] ∧ zR p ∧ vk v k ∧ gr v k w ∧ ro w p xs ∧ (∀ x ∈ xs, x ∈ fm_K v k) ∧ ∀ w', fr [1] [5, 6, 7, 9] w w' → (∀ m, m ∈ fm_K v k → w'.2.2 5 m = nI (xs.count m)) → (∀ j, j < (fm_K v k).length → w'.2.2 6 j = nI (xs.count ((fm_K v k).getD j 0))) → (∀ i, i < 6 → w'.2.2 9 i = nI i) → w'.2.2 7 0 = nI 0 → w'.1 1 6 = nI 0 → w'.1 1 8 = nI 0 → post 0 w'
theorem i_FO_start {p v k : Nat} {xs : List Nat} {w : ma_W} {post : ma_P} (h0 : zR p) (hv : vk v k) (hg : gr v k w) (hr : ro w p xs) (hx : ∀ x ∈ xs, x ∈ fm_K v k) (hp : ∀ w', fr [1] [5, 6, 7, 9] w w' → (∀ m, m ∈ fm_K v k → w'.2.2 5 m = nI (xs.count m)) → (∀ j, j < (fm_K v k).length → w'.2.2 6 j = nI (xs.count ((fm_K v k).getD j 0))) → (∀ i, i < 6 → w'.2.2 9 i = nI i) → w'.2.2 7 0 = nI 0 → w'.1 1 6 = nI 0 → w'.1 1 8 = nI 0 → post 0 w') : T_FO_start [.inr 1, .inr p] w post := ⟨p, v, k, xs, rfl, h0, hv, hg, hr, hx, hp⟩
theorem c_FO_start {l : Launch} : ma_Met l y_FO_start (w_FO_start :: zw_t) 1 false T_FO_start := by
  refine z_FO_start c_GR_kinds (by decide) c_GR_kind (by decide) c_RO_size (by decide) c_RO_get (by decide) (by rintro as w post ⟨p, v, k, xs, rfl, -⟩; simp) ?_
  rintro as w post ⟨p, v, k, xs, rfl, h0, hv, hg, hr, hx, hp⟩ Go hGo
  have h20 := vk_20 hv
  have hl := hr.1
  have hbp := zR_bd h0
  have hgf : ∀ w' : ma_W, fr [1] [5, 6, 7, 9] w w' → gr v k w' := fun w' h => gr_fr hg h (by decide) (by decide) (by decide)
  have hrf : ∀ w' : ma_W, fr [1] [5, 6, 7, 9] w w' → ro w' p xs := fun w' h => ro_fr hr h (nm1 (by omega)) (fun z => by
    simp only [List.mem_cons, List.not_mem_nil, or_false] at z
    omega)
  have hgx : ∀ i, i < xs.length → xs.getD i 0 ∈ fm_K v k := by
    intro i hi
    rw [gd_at hi]
    exact hx _ (List.getElem_mem hi)
  have loop4 : ∀ (d i : Nat) (w' : ma_W), i + d = 6 → fr [1] [5, 6, 7, 9] w w' → w'.1 = w.1 → (∀ m, m ∈ fm_K v k → w'.2.2 5 m = nI (xs.count m)) → (∀ j, j < (fm_K v k).length → w'.2.2 6 j = nI (xs.count ((fm_K v k).getD j 0))) → (∀ x, x < i → w'.2.2 9 x = nI x) → Go 103 [some (.inr 1), some (.inr p), some (.inl (nI i))] [] w' := by
    intro d
    induction d with
    | zero =>
      intro i w' hd hf hw h5 h6 h9
      refine q_FO_start_103 hGo (pk_le 6 i (fun _ => q_FO_start_122 hGo ⟨0, by decide, rfl, bo0, hp _ (fr_a (fr_f (fr_f hf (by decide) 6 _) (by decide) 8 _) (by decide) _ _) (fun m hm => ?_) (fun j hj => ?_) (fun x hx => ?_) (rfl) ?_ (rfl)⟩) (fun h => absurd h (by omega)))
      · try dsimp only
        rw [ma_up_p _ _ _ _ (by decide)]; exact h5 m hm
      · try dsimp only
        rw [ma_up_p _ _ _ _ (by decide)]; exact h6 j hj
      · try dsimp only
        rw [ma_up_p _ _ _ _ (by decide)]; exact h9 x (by omega)
      · try dsimp only
        rw [ma_up_k _ _ _ _ (by decide), ma_up_s]
    | succ d ih =>
      intro i w' hd hf hw h5 h6 h9
      refine q_FO_start_103 hGo (pk_le 6 i (fun h => absurd h (by omega)) (fun _ => ⟨i, by omega, rfl, ?_⟩))
      rw [nI_add]
      refine ih (i + 1) _ (by omega) (fr_a hf (by decide) _ _) hw (fun m hm => ?_) (fun j hj => ?_) (fun x hx => ?_)
      · try dsimp only
        rw [ma_up_p _ _ _ _ (by decide)]; exact h5 m hm
      · try dsimp only
        rw [ma_up_p _ _ _ _ (by decide)]; exact h6 j hj
      · try dsimp only
        by_cases hxi : x = i
        · subst hxi; rw [ma_up_s]
        · rw [ma_up_k _ _ _ _ hxi]; exact h9 x (by omega)
  have loop3 : ∀ (d b : Nat) (w' : ma_W), b + d = (fm_K v k).length → fr [1] [5, 6, 7, 9] w w' → w'.1 = w.1 → (∀ m, m ∈ fm_K v k → w'.2.2 5 m = nI (xs.count m)) → (∀ j, j < b → w'.2.2 6 j = nI (xs.count ((fm_K v k).getD j 0))) → Go 65 [some (.inr 1), some (.inr p), some (.inl (nI b))] [] w' := by
    intro d
    induction d with
    | zero =>
      intro b w' hd hf hw h5 h6
      exact q_FO_start_65 hGo (i_GR_kinds (pk_le (fm_K v k).length b (fun _ => q_FO_start_101 hGo (loop4 6 0 w' (by omega) hf hw h5 (fun j hj => h6 j (by omega)) (fun x hx => absurd hx (Nat.not_lt_zero x)))) (fun h => absurd h (by omega)) (hgf w' hf).2.2.1 rfl (by omega) (by omega)))
    | succ d ih =>
      intro b w' hd hf hw h5 h6
      have hb : b < (fm_K v k).length := by omega
      have hm := K_mem hb
      refine q_FO_start_65 hGo (i_GR_kinds (pk_le (fm_K v k).length b (fun h => absurd h (by omega)) (fun _ => i_GR_kind (by omega) ⟨(fm_K v k).getD b 0, vk_64 hv hm, (hgf w' hf).2.2.2.1 b hb, b, by omega, rfl, ?_⟩) (hgf w' hf).2.2.1 rfl (by omega) (by omega)))
      rw [nI_add, h5 _ hm]
      refine ih (b + 1) _ (by omega) (fr_a hf (by decide) _ _) hw (fun m hm => ?_) (fun j hj => ?_)
      · try dsimp only
        rw [ma_up_p _ _ _ _ (by decide)]; exact h5 m hm
      · try dsimp only
        by_cases hjb : j = b
        · subst hjb; rw [ma_up_s]
        · rw [ma_up_k _ _ _ _ hjb]; exact h6 j (by omega)
  have loop2 : ∀ (d n : Nat) (w' : ma_W), n + d = xs.length → fr [1] [5, 6, 7, 9] w w' → w'.1 = w.1 → (∀ m, m ∈ fm_K v k → w'.2.2 5 m = nI ((xs.take n).count m)) → Go 35 [some (.inr 1), some (.inr p), some (.inl (nI n))] [] w' := by
    intro d
    induction d with
    | zero =>
      intro n w' hd hf hw h5
      refine q_FO_start_35 hGo h0 (i_RO_size h0 (pk_le xs.length n (fun _ => q_FO_start_63 hGo (loop3 (fm_K v k).length 0 w' (by omega) hf hw (fun m hm => ?_) (fun j hj => absurd hj (Nat.not_lt_zero j)))) (fun h => absurd h (by omega)) (hrf w' hf).2.1 rfl (by omega) (by omega)))
      rw [h5 m hm, List.take_of_length_le (by omega)]
    | succ d ih =>
      intro n w' hd hf hw h5
      have hn : n < xs.length := by omega
      have hm := hgx n hn
      refine q_FO_start_35 hGo h0 (i_RO_size h0 (pk_le xs.length n (fun h => absurd h (by omega)) (fun _ => i_RO_get h0 (by omega) ⟨xs.getD n 0, vk_64 hv hm, (hrf w' hf).2.2 n hn, xs.getD n 0, vk_64 hv hm, (hrf w' hf).2.2 n hn, ?_⟩) (hrf w' hf).2.1 rfl (by omega) (by omega)))
      rw [nI_add, h5 _ hm, nI_add]
      refine ih (n + 1) _ (by omega) (fr_a hf (by decide) _ _) hw (fun m hm2 => ?_)
      try dsimp only
      rw [tk_succ hn, List.count_append]
      by_cases hmn : m = xs.getD n 0
      · subst hmn
        rw [ma_up_s]
        simp
      · rw [ma_up_k _ _ _ _ hmn, h5 m hm2, List.count_eq_zero.mpr (show m ∉ [xs.getD n 0] from nm1 hmn), Nat.add_zero]
  have loop1 : ∀ (d b : Nat) (w' : ma_W), b + d = (fm_K v k).length → fr [1] [5, 6, 7, 9] w w' → w'.1 = w.1 → (∀ j, j < b → w'.2.2 5 ((fm_K v k).getD j 0) = nI 0) → Go 2 [some (.inr 1), some (.inr p), some (.inl (nI b))] [] w' := by
    intro d
    induction d with
    | zero =>
      intro b w' hd hf hw h5
      refine q_FO_start_2 hGo (i_GR_kinds (pk_le (fm_K v k).length b (fun _ => q_FO_start_33 hGo (loop2 xs.length 0 w' (by omega) hf hw (fun m hm => ?_))) (fun h => absurd h (by omega)) (hgf w' hf).2.2.1 rfl (by omega) (by omega)))
      obtain ⟨j, hj, e⟩ := List.getElem_of_mem hm
      have := h5 j (by omega)
      rw [gd_at hj, e] at this
      rw [this]
      rfl
    | succ d ih =>
      intro b w' hd hf hw h5
      have hb : b < (fm_K v k).length := by omega
      have hm := K_mem hb
      refine q_FO_start_2 hGo (i_GR_kinds (pk_le (fm_K v k).length b (fun h => absurd h (by omega)) (fun _ => i_GR_kind (by omega) ⟨(fm_K v k).getD b 0, vk_64 hv hm, (hgf w' hf).2.2.2.1 b hb, ?_⟩) (hgf w' hf).2.2.1 rfl (by omega) (by omega)))
      rw [nI_add]
      refine ih (b + 1) _ (by omega) (fr_a hf (by decide) _ _) hw (fun j hj => ?_)
      show ma_up w'.2.2 5 ((fm_K v k).getD b 0) _ 5 ((fm_K v k).getD j 0) = _
      by_cases hjb : (fm_K v k).getD j 0 = (fm_K v k).getD b 0
      · rw [hjb, ma_up_s]
      · rw [ma_up_k _ _ _ _ hjb]
        refine h5 j ?_
        have : j ≠ b := fun z => hjb (by rw [z])
        omega
  exact q_FO_start_0 hGo (loop1 (fm_K v k).length 0 w (by omega) (fr_refl _ _ _) rfl (fun j hj => absurd hj (Nat.not_lt_zero j)))
/-- the search begins -/
def st0 (v k : Nat) (xs : List Nat) : se_S := (ce_row (fm_K v k) xs (List.range v), 0, false, List.range 6)
theorem st0_len {v k : Nat} {xs : List Nat} : (st0 v k xs).1.length = (fm_K v k).length := ce_row_len (K := fm_K v k) (xs := xs) (t := List.range v)
theorem st0_at {v k j : Nat} {xs : List Nat} (hj : j < (fm_K v k).length) : (ce_row (fm_K v k) xs (List.range v)).getD j 0 = (xs.count ((fm_K v k).getD j 0) : Int) := by
  rw [ce_row_at hj, pm_im_id (fm_K_mem.mp (K_mem hj)).1]
theorem rem_nil (v : Nat) : rem_ v [] = List.range v := by simp [rem_]
theorem st0_sq {v k : Nat} {xs : List Nat} {stop : Bool} {w w' : ma_W} (hv : vk v k) (hx : xs.length ≤ 10) (hg : gr v k w) (hf : fr [1] [5, 6, 7, 9] w w') (h5 : ∀ m, m ∈ fm_K v k → w'.2.2 5 m = nI (xs.count m)) (h6 : ∀ j, j < (fm_K v k).length → w'.2.2 6 j = nI (xs.count ((fm_K v k).getD j 0))) (h9 : ∀ i, i < 6 → w'.2.2 9 i = nI i) (h7 : w'.2.2 7 0 = nI 0) (hc : w'.1 1 6 = nI 0) (hb : w'.1 1 8 = nI 0) : sq v v k (fun m => xs.count m) [] (st0 v k xs) stop (ma_up w'.1 1 7 (bI stop), w'.2.1, w'.2.2) := by
  have hgr : gr v k w' := gr_fr hg hf (by decide) (by decide) (by decide)
  refine ⟨hv, fun m => Nat.le_trans List.count_le_length hx, ⟨List.nodup_nil, fun x h => absurd h List.not_mem_nil⟩, by simp, ⟨gr_fr hgr (fr_f (fr_refl [1] [] w') (by decide) 7 (bI stop)) (by decide) (by decide) (by decide), h5⟩, ⟨st0_len, fun j hj => ?_, ?_, ?_, rfl, fun i hi => ?_⟩, fun _ m hm => ?_, fun i hi => absurd hi (Nat.not_lt_zero i), rfl, rfl⟩
  · have hcnt : xs.count ((fm_K v k).getD j 0) ≤ xs.length := List.count_le_length
    show -1 ≤ (ce_row (fm_K v k) xs (List.range v)).getD j 0 ∧ (ce_row (fm_K v k) xs (List.range v)).getD j 0 ≤ 10 ∧ w'.2.2 6 j = iI ((ce_row (fm_K v k) xs (List.range v)).getD j 0)
    rw [st0_at hj, h6 j hj]
    exact ⟨by omega, by omega, rfl⟩
  · try dsimp only
    rw [ma_up_k _ _ _ _ (by decide)]; exact hc
  · try dsimp only
    rw [ma_up_k _ _ _ _ (by decide)]; exact hb
  · have : (List.range 6).getD i 0 = i := pm_range_at hi
    show w'.2.2 9 i = nI ((List.range 6).getD i 0) ∧ (List.range 6).getD i 0 < 6
    rw [this]
    exact ⟨h9 i hi, hi⟩
  · have : m = 0 := by simpa using hm
    subst this
    exact h7
theorem se_min_fold {v i : Nat} (hi : i < 6) (hv : i < v) : ∀ (l : List (List Nat)) (ls : List Nat), ls.length = 6 → (∀ t ∈ l, t.length = v) → (l.foldl (fun ls t => se_min t ls) ls).getD i 0 = l.foldl (fun b t => min b (t.getD i 0)) (ls.getD i 0)
  | [], _, _, _ => rfl
  | t :: l, ls, h, ht => by
    rw [List.foldl_cons, List.foldl_cons, se_min_fold hi hv l _ (by rw [se_min_len]; exact h) (fun u hu => ht u (List.mem_cons_of_mem _ hu)), se_min_at (by omega) (by rw [ht t List.mem_cons_self]; exact hv)]
theorem vk_srt {v k : Nat} (h : vk v k) : se_srt (fm_K v k) := by
  intro t j hj
  rcases Nat.lt_or_ge t 7 with h1 | h1
  · exact vk_hi h h1 hj
  · have hjl : j < (fm_K v k).length := Nat.lt_of_lt_of_le hj (se_kb_le t)
    have := vk_64 h (K_mem hjl)
    have h2 : 2 ^ 7 ≤ 2 ^ t := Nat.pow_le_pow_right (by decide) h1
    omega
/-- what a search with stop finds -/
theorem st0_stop {v k : Nat} {xs : List Nat} (hv : vk v k) : (se_all true (fm_K v k) (fun m => xs.count m) v [] (rem_ v []) (st0 v k xs)).2.2.1 = !ce_isf v (fm_K v k) xs ∧ (ce_isf v (fm_K v k) xs = true → (se_all true (fm_K v k) (fun m => xs.count m) v [] (rem_ v []) (st0 v k xs)).2.1 = ce_ord v k xs ∧ ∀ i, i < v → (se_all true (fm_K v k) (fun m => xs.count m) v [] (rem_ v []) (st0 v k xs)).2.2.2.getD i 0 = sp_orb v k xs i) := by
  rw [rem_nil]
  have h := se_stop (K := fm_K v k) (f := fun m => xs.count m) (vk_srt hv) (vk_v hv) v [] (List.range v) (st0 v k xs) List.length_range (by simp) st0_len (fun i hi => by
    have : se_kb (fm_K v k) 0 = 0 := by
      unfold se_kb
      rw [List.countP_eq_zero]
      intro m hm
      have := (fm_K_mem.mp hm).2
      have h0 : m ≠ 0 := by
        intro e
        rw [e] at this
        have h2 := hv.2.2.1
        have : pm_cnt v 0 = 0 := by simp [pm_cnt]
        omega
      simp
      omega
    rw [List.length_nil, this] at hi
    exact absurd hi (Nat.not_lt_zero i)) rfl
  rw [se_root] at h
  have hany : (pm_P v).any (fun t => lx_gt (fm_row (fm_K v k) (fun m => xs.count m) t) (st0 v k xs).1) = !ce_isf v (fm_K v k) xs := by
    unfold ce_isf
    rw [List.not_all_eq_any_not]
    congr 1
    funext t
    rw [Bool.not_not]
    rfl
  rw [hany] at h
  refine ⟨h.1, fun hf => ?_⟩
  have h2 := h.2 (by rw [h.1, hf]; rfl)
  rw [h2]
  refine ⟨?_, fun i hi => ?_⟩
  · show 0 + _ = ce_ord v k xs
    rw [Nat.zero_add]
    rfl
  · have hv6 := hv.2.1
    show (List.foldl _ (List.range 6) _).getD i 0 = _
    rw [se_min_fold (by omega) hi _ _ List.length_range (fun t ht => pm_len (pm_P_mem.mp (List.mem_filter.mp ht).1)), pm_range_at (by omega)]
    rfl
/-- .. without stop -/
theorem st0_free {v k : Nat} {xs : List Nat} (hv : vk v k) : (se_all false (fm_K v k) (fun m => xs.count m) v [] (rem_ v []) (st0 v k xs)).1 = sp_max v (fm_K v k) xs ∧ (se_all false (fm_K v k) (fun m => xs.count m) v [] (rem_ v []) (st0 v k xs)).2.1 = ce_ord v k xs := by
  rw [rem_nil]
  have h := se_free (K := fm_K v k) (f := fun m => xs.count m) (vk_srt hv) (vk_v hv) v [] (List.range v) (st0 v k xs) List.length_range (by simp) st0_len (fun i hi => by
    have : se_kb (fm_K v k) 0 = 0 := by
      unfold se_kb
      rw [List.countP_eq_zero]
      intro m hm
      have := (fm_K_mem.mp hm).2
      have h0 : m ≠ 0 := by
        intro e
        rw [e] at this
        have h2 := hv.2.2.1
        have : pm_cnt v 0 = 0 := by simp [pm_cnt]
        omega
      simp
      omega
    rw [List.length_nil, this] at hi
    exact absurd hi (Nat.not_lt_zero i))
  rw [se_root] at h
  exact ⟨congrArg Prod.fst h, (congrArg Prod.snd h).trans (sp_cnt xs)⟩
def T_FO_isForm : ma_T := fun as w post => ∃ p v k xs, as = [.inr 1, .inr p] ∧ zR p ∧ vk v k ∧ gr v k w ∧ ro w p xs ∧ (∀ x ∈ xs, x ∈ fm_K v k) ∧ ∀ w', fr [1] [5, 6, 7, 8, 9] w w' → (ce_isf v (fm_K v k) xs = true → w'.1 1 6 = nI (ce_ord v k xs) ∧ ∀ i, i < v → w'.2.2 9 i = nI (sp_orb v k xs i)) → post (bI (ce_isf v (fm_K v k) xs)) w'
theorem i_FO_isForm {p v k : Nat} {xs : List Nat} {w : ma_W} {post : ma_P} (h0 : zR p) (hv : vk v k) (hg : gr v k w) (hr : ro w p xs) (hx : ∀ x ∈ xs, x ∈ fm_K v k) (hp : ∀ w', fr [1] [5, 6, 7, 8, 9] w w' → (ce_isf v (fm_K v k) xs = true → w'.1 1 6 = nI (ce_ord v k xs) ∧ ∀ i, i < v → w'.2.2 9 i = nI (sp_orb v k xs i)) → post (bI (ce_isf v (fm_K v k) xs)) w') : T_FO_isForm [.inr 1, .inr p] w post := ⟨p, v, k, xs, rfl, h0, hv, hg, hr, hx, hp⟩
theorem fr_5 {w w1 w2 : ma_W} {x : Int32} (h1 : fr [1] [5, 6, 7, 9] w w1) (h2 : fr [1] [6, 7, 8, 9] (ma_up w1.1 1 7 x, w1.2.1, w1.2.2) w2) : fr [1] [5, 6, 7, 8, 9] w w2 := by
  refine fr_trans (fr_f (fr_mono h1 (fun _ h => h) (fun q h => ?_)) (by decide) 7 x) (fr_mono h2 (fun _ h => h) (fun q h => ?_))
  · simp only [List.mem_cons, List.not_mem_nil, or_false] at h ⊢
    omega
  · simp only [List.mem_cons, List.not_mem_nil, or_false] at h ⊢
    omega
theorem c_FO_isForm {l : Launch} : ma_Met l y_FO_isForm (w_FO_isForm :: zw_t) 15 true T_FO_isForm := by
  refine z_FO_isForm c_FO_start (by decide) c_FO_tryPointsFor (by decide) (by rintro as w post ⟨p, v, k, xs, rfl, -⟩; simp) ?_
  rintro as w post ⟨p, v, k, xs, rfl, h0, hv, hg, hr, hx, hp⟩ Go hGo
  have hv6 := hv.2.1
  obtain ⟨hst1, hst2⟩ := st0_stop (xs := xs) hv
  refine q_FO_isForm_0 hGo (i_FO_start h0 hv hg hr hx (fun w1 hf h5 h6 h9 h7 hc hb => ⟨bo1, ?_⟩))
  have hsq := st0_sq (stop := true) hv hr.1 hg hf h5 h6 h9 h7 hc hb
  refine i_FO_tryPointsAny (p := []) hv6 hsq (fun w2 ⟨r1, r2, r3, r4, r5⟩ => ?_)
  obtain ⟨b1, b2, b3, b4, b5, b6⟩ := r4
  rw [hst1] at b4
  have h9 := hp w2 (fr_5 hf r1) (fun hf => ⟨by rw [b3, (hst2 hf).1], fun i hi => by rw [(b6 i (by omega)).1, (hst2 hf).2 i hi]⟩)
  refine bI_an b4 (fun h => q_FO_isForm_27 hGo (q_FO_isForm_28 hGo ⟨bo0, ?_⟩)) (fun h => q_FO_isForm_28 hGo ⟨bo1, ?_⟩)
  · rw [Bool.not_eq_true'] at h
    rw [h] at h9
    exact h9
  · rw [Bool.not_eq_false'] at h
    rw [h] at h9
    exact h9
/-- the form of a laying is written into a row -/
def T_FO_findForm : ma_T := fun as w post => ∃ p q v k xs, as = [.inr 1, .inr p, .inr q] ∧ zR p ∧ zR q ∧ vk v k ∧ gr v k w ∧ ro w p xs ∧ (∀ x ∈ xs, x ∈ fm_K v k) ∧ ∀ w', fr [1, q] [5, 6, 7, 8, 9, q + 1] w w' → w'.1 1 6 = nI (ce_ord v k xs) → ro w' q (sp_un (fm_K v k) (sp_max v (fm_K v k) xs)) → post 0 w'
theorem i_FO_findForm {p q v k : Nat} {xs : List Nat} {w : ma_W} {post : ma_P} (h0 : zR p) (h1 : zR q) (hv : vk v k) (hg : gr v k w) (hr : ro w p xs) (hx : ∀ x ∈ xs, x ∈ fm_K v k) (hp : ∀ w', fr [1, q] [5, 6, 7, 8, 9, q + 1] w w' → w'.1 1 6 = nI (ce_ord v k xs) → ro w' q (sp_un (fm_K v k) (sp_max v (fm_K v k) xs)) → post 0 w') : T_FO_findForm [.inr 1, .inr p, .inr q] w post := ⟨p, q, v, k, xs, rfl, h0, h1, hv, hg, hr, hx, hp⟩
/-- the first b kinds' part of a form -/
def unp (K : List Nat) (u : List Int) (b : Nat) : List Nat := (List.range b).flatMap (fun j => List.replicate (u.getD j 0).toNat (K.getD j 0))
theorem unp_s (K : List Nat) (u : List Int) (b : Nat) : unp K u (b + 1) = unp K u b ++ List.replicate (u.getD b 0).toNat (K.getD b 0) := by
  unfold unp
  rw [List.range_succ, List.flatMap_append]
  simp
theorem unp_le (K : List Nat) (u : List Int) {b c : Nat} (h : b ≤ c) : (unp K u b).length ≤ (unp K u c).length := by
  induction c with
  | zero => obtain rfl : b = 0 := by omega
            exact Nat.le_refl _
  | succ c ih =>
    by_cases hb : b = c + 1
    · subst hb; exact Nat.le_refl _
    · have := ih (by omega)
      rw [unp_s, List.length_append]
      omega
theorem c_FO_findForm {l : Launch} : ma_Met l y_FO_findForm (w_FO_findForm :: zw_t) 15 false T_FO_findForm := by
  refine z_FO_findForm c_FO_start (by decide) c_FO_tryPointsFor (by decide) c_RO_clear (by decide) c_GR_kinds (by decide) c_GR_kind (by decide) c_RO_add (by decide) (by rintro as w post ⟨p, q, v, k, xs, rfl, -⟩; simp) ?_
  rintro as w post ⟨p, q, v, k, xs, rfl, h1, h2, hv, hg, hr, hx, hp⟩ Go hGo
  have hv6 := hv.2.1
  have h20 := vk_20 hv
  have hxl := hr.1
  have hbq := zR_bd h2
  obtain ⟨hst1, hst2⟩ := st0_free (xs := xs) hv
  have hul : (unp (fm_K v k) (sp_max v (fm_K v k) xs) (fm_K v k).length).length = xs.length := un_len_max hx
  refine q_FO_findForm_0 hGo h1 h2 (i_FO_start h1 hv hg hr hx (fun w1 hf h5 h6 h9 h7 hc hb => ⟨bo0, ?_⟩))
  have hsq := st0_sq (stop := false) hv hr.1 hg hf h5 h6 h9 h7 hc hb
  refine i_FO_tryPointsAny (p := []) hv6 hsq (fun w2 ⟨r1, r2, r3, r4, r5⟩ => ?_)
  obtain ⟨b1, b2, b3, b4, b5, b6⟩ := r4
  rw [hst1] at b2
  rw [hst2] at b3
  have hfr := fr_5 hf r1
  have hfr0 : fr [1, q] [5, 6, 7, 8, 9, q + 1] w w2 := fr_mono hfr (fun x h => by simp at h; simp [h]) (fun x h => by
    simp only [List.mem_cons, List.not_mem_nil, or_false] at h ⊢
    omega)
  have hkeep : ∀ w' : ma_W, fr [q] [q + 1] w2 w' → gr v k w' ∧ (∀ j, j < (fm_K v k).length → w'.2.2 6 j = iI ((sp_max v (fm_K v k) xs).getD j 0)) ∧ w'.1 1 6 = nI (ce_ord v k xs) ∧ fr [1, q] [5, 6, 7, 8, 9, q + 1] w w' := by
    intro w' h
    refine ⟨gr_fr (gr_fr hg hfr (by decide) (by decide) (by decide)) h (nm1 (by omega)) (nm1 (by omega)) (nm1 (by omega)), fun j hj => by rw [h.2.2 6 (nm1 (by omega))]; exact (b2 j hj).2.2, by rw [h.2.1 1 (nm1 (by omega))]; exact b3, fr_trans hfr0 (fr_mono h (fun x hx => by rw [List.mem_singleton.mp hx]; simp) (fun x hx => by rw [List.mem_singleton.mp hx]; simp))⟩
  have hbest : ∀ j, j < (fm_K v k).length → ∃ n : Nat, (sp_max v (fm_K v k) xs).getD j 0 = (n : Int) ∧ n ≤ 10 := by
    intro j hj
    obtain ⟨⟨t, ht, e⟩, -⟩ := sp_max_spec (v := v) (k := k) xs
    refine ⟨xs.count (pm_im t ((fm_K v k).getD j 0)), ?_, Nat.le_trans List.count_le_length hxl⟩
    rw [← e, ce_row_at hj]
  have loop : ∀ (d b : Nat) (w' : ma_W) (o : Option ma_V), b + d = (fm_K v k).length → fr [q] [q + 1] w2 w' → ro w' q (unp (fm_K v k) (sp_max v (fm_K v k) xs) b) → Go 22 [some (.inr 1), some (.inr p), some (.inr q), some (.inl (nI b)), o] [] w' := by
    intro d
    induction d with
    | zero =>
      intro b w' o hd hfq hro
      obtain ⟨hg', h6', hc', hfw⟩ := hkeep w' hfq
      refine q_FO_findForm_22 hGo (i_GR_kinds (pk_le (fm_K v k).length b (fun _ => q_FO_findForm_71 hGo (hp w' hfw hc' ?_)) (fun h => absurd h (by omega)) hg'.2.2.1 rfl (by omega) (by omega)))
      rw [show b = (fm_K v k).length by omega] at hro
      exact hro
    | succ d ih =>
      intro b w' o hd hfq hro
      have hb : b < (fm_K v k).length := by omega
      obtain ⟨n, hn, hn10⟩ := hbest b hb
      have hus := unp_s (fm_K v k) (sp_max v (fm_K v k) xs) b
      rw [hn] at hus
      have hnn : ((n : Int)).toNat = n := rfl
      rw [hnn] at hus
      have hul2 := unp_le (fm_K v k) (sp_max v (fm_K v k) xs) (show b + 1 ≤ (fm_K v k).length by omega)
      rw [hul, hus, List.length_append, List.length_replicate] at hul2
      have inner : ∀ (e i : Nat) (w3 : ma_W), i + e = n → fr [q] [q + 1] w2 w3 → ro w3 q (unp (fm_K v k) (sp_max v (fm_K v k) xs) b ++ List.replicate i ((fm_K v k).getD b 0)) → Go 36 [some (.inr 1), some (.inr p), some (.inr q), some (.inl (nI b)), some (.inl (nI i))] [] w3 := by
        intro e
        induction e with
        | zero =>
          intro i w3 he hf3 hr3
          obtain ⟨hg3, h63, -, -⟩ := hkeep w3 hf3
          refine q_FO_findForm_36 hGo h1 h2 ⟨b, by omega, rfl, pk_le n i (fun _ => q_FO_findForm_65 hGo ?_) (fun h => absurd h (by omega)) (by rw [h63 b hb, hn]; rfl) rfl (by omega) (by omega)⟩
          rw [nI_add]
          refine ih (b + 1) w3 _ (by omega) hf3 ?_
          rw [hus, show n = i by omega]
          exact hr3
        | succ e ihe =>
          intro i w3 he hf3 hr3
          obtain ⟨hg3, h63, -, -⟩ := hkeep w3 hf3
          have hlen : (unp (fm_K v k) (sp_max v (fm_K v k) xs) b ++ List.replicate i ((fm_K v k).getD b 0)).length = (unp (fm_K v k) (sp_max v (fm_K v k) xs) b).length + i := by rw [List.length_append, List.length_replicate]
          refine q_FO_findForm_36 hGo h1 h2 ⟨b, by omega, rfl, pk_le n i (fun h => absurd h (by omega)) (fun _ => i_GR_kind (by omega) (i_RO_add h2 hr3.2.1 (by omega) ?_)) (by rw [h63 b hb, hn]; rfl) rfl (by omega) (by omega)⟩
          rw [nI_add, hg3.2.2.2.1 b hb]
          refine ihe (i + 1) _ (by omega) (fr_a (fr_f hf3 (by simp) 1 _) (by simp) _ _) ?_
          have := ro_add (m := (fm_K v k).getD b 0) hr3 (by omega)
          rw [List.append_assoc, ← List.replicate_succ'] at this
          exact this
      obtain ⟨hg', h6', hc', hfw⟩ := hkeep w' hfq
      refine q_FO_findForm_22 hGo (i_GR_kinds (pk_le (fm_K v k).length b (fun h => absurd h (by omega)) (fun _ => inner n 0 w' (by omega) hfq ?_) hg'.2.2.1 rfl (by omega) (by omega)))
      rw [List.replicate_zero, List.append_nil]
      exact hro
  exact i_RO_clear h2 (loop (fm_K v k).length 0 _ _ (by omega) (fr_f (fr_refl _ _ _) (by simp) _ _) ro_nil)
end
section
/-! CONTRACTS: PackingCensus, what it does with its lists -/
/-- a listing holds the entries es, with their orders and least images -/
def ls (v k : Nat) (w : ma_W) (p n : Nat) (es : List (List Nat)) : Prop := es.length ≤ 60 ∧ n ≤ 10 ∧ w.1 p 3 = nI n ∧ w.1 p 4 = nI es.length ∧ ∀ i, i < es.length → (es.getD i []).length = n ∧ (∀ x ∈ es.getD i [], x ∈ fm_K v k) ∧ le_ w p i (es.getD i []) ∧ w.2.2 (p + 2) i = nI (ce_ord v k (es.getD i [])) ∧ ∀ x, x < v → w.2.2 (p + 3) (i * 6 + x) = nI (sp_orb v k (es.getD i []) x)
theorem ls_fr {v k p n : Nat} {es : List (List Nat)} {ps qs : List Nat} {w w' : ma_W} (h : ls v k w p n es) (hf : fr ps qs w w') (h0 : p ∉ ps) (h1 : p + 1 ∉ qs) (h2 : p + 2 ∉ qs) (h3 : p + 3 ∉ qs) : ls v k w' p n es := by
  unfold ls le_
  rw [hf.2.1 p h0, hf.2.2 _ h1, hf.2.2 _ h2, hf.2.2 _ h3]
  exact h
/-- which listing is which -/
def xr (w : ma_W) : Prop := w.2.1 = (16, 20) ∨ w.2.1 = (20, 16)
theorem xr_1 {w : ma_W} (h : xr w) : zL w.2.1.1 := by rcases h with h | h <;> rw [h] <;> simp [zL]
theorem xr_2 {w : ma_W} (h : xr w) : zL w.2.1.2 := by rcases h with h | h <;> rw [h] <;> simp [zL]
theorem xr_ne {w : ma_W} (h : xr w) : w.2.1.1 + 4 ≤ w.2.1.2 ∨ w.2.1.2 + 4 ≤ w.2.1.1 := by rcases h with h | h <;> rw [h] <;> decide
theorem xr_fr {ps qs : List Nat} {w w' : ma_W} (h : xr w) (hf : fr ps qs w w') : xr w' := by
  unfold xr
  rw [hf.1]
  exact h
theorem K64 {v k : Nat} (hv : vk v k) {e : List Nat} (h : ∀ x ∈ e, x ∈ fm_K v k) : ∀ x ∈ e, x < 64 := fun x hx => vk_64 hv (h x hx)
/-- all pairs p < q < v -/
def al (v : Nat) (F : Nat → Nat → Bool) : Bool := (List.range v).all (fun q => (List.range q).all (fun p => F p q))
theorem al_t {v : Nat} {F : Nat → Nat → Bool} (h : ∀ q, q < v → ∀ p, p < q → F p q = true) : al v F = true := by
  simp only [al, List.all_eq_true, List.mem_range]
  exact h
theorem al_f {v : Nat} {F : Nat → Nat → Bool} {p q : Nat} (hq : q < v) (hp : p < q) (h : F p q = false) : al v F = false := by
  cases ha : al v F with
  | false => rfl
  | true =>
    simp only [al, List.all_eq_true, List.mem_range] at ha
    rw [ha q hq p hp] at h
    cases h
theorem al_iff {v : Nat} {F : Nat → Nat → Bool} : al v F = true ↔ ∀ q, q < v → ∀ p, p < q → F p q = true := by simp only [al, List.all_eq_true, List.mem_range]
/-- two points as they are written them -/
theorem pr_e {p q : Nat} (hp : p < 6) (hq : q < 6) : (nI 1 <<< (nI p &&& 31)) ||| (nI 1 <<< (nI q &&& 31)) = nI (2 ^ p ||| 2 ^ q) := by
  have h1 : 2 ^ p ≤ 2 ^ 5 := Nat.pow_le_pow_right (by decide) (by omega)
  have h2 : 2 ^ q ≤ 2 ^ 5 := Nat.pow_le_pow_right (by decide) (by omega)
  rw [bi_one p (by omega), bi_one q (by omega), bi_or _ (by omega) _ (by omega)]
/-- how many blocks hold two points -/
theorem meet_e {e : List Nat} {p q : Nat} (hp : p < 6) (hq : q < 6) (he : ∀ x ∈ e, x < 64) : e.countP (fun b => b &&& (2 ^ p ||| 2 ^ q) == (2 ^ p ||| 2 ^ q)) = ce_meet e p q := by
  unfold ce_meet
  refine List.countP_congr (fun b hb => ?_)
  rw [beq_iff_eq]
  exact bi_pair b (he b hb) p hp q hq
/-- the entry i, as the contracts want it -/
theorem ls_at {v k p n i : Nat} {es : List (List Nat)} {w : ma_W} (hv : vk v k) (h : ls v k w p n es) (hi : i < es.length) : i < 60 ∧ (es.getD i []).length ≤ 10 ∧ w.1 p 3 = nI (es.getD i []).length ∧ le_ w p i (es.getD i []) ∧ ∀ x ∈ es.getD i [], x < 64 := by
  obtain ⟨h1, h2, h3, h4, h5⟩ := h
  obtain ⟨g1, g2, g3, -, -⟩ := h5 i hi
  exact ⟨by omega, by omega, by rw [g1]; exact h3, g3, K64 hv g2⟩
theorem cm_le (e : List Nat) (p q : Nat) : ce_meet e p q ≤ e.length := List.countP_le_length
/-- one block more stays a packing: as it is looked at -/
def sto (v lam : Nat) (e : List Nat) (m : Nat) : Bool := al v (fun p q => !(m.testBit p && m.testBit q) || decide (ce_meet e p q < lam))
def T_PC_staysPacking : ma_T := fun as w post => ∃ v k n lam i m es, as = [.inr 0, .inl (nI i), .inl (nI m)] ∧ vk v k ∧ xr w ∧ ls v k w w.2.1.1 n es ∧ i < es.length ∧ m < 64 ∧ w.1 2 2 = nI v ∧ w.1 0 7 = nI lam ∧ lam < 2 ^ 31 ∧ post (bI (sto v lam (es.getD i []) m)) w
theorem i_PC_staysPacking {v k n lam i m : Nat} {es : List (List Nat)} {w : ma_W} {post : ma_P} (hv : vk v k) (hx : xr w) (hl : ls v k w w.2.1.1 n es) (hi : i < es.length) (hm : m < 64) (h2 : w.1 2 2 = nI v) (h7 : w.1 0 7 = nI lam) (hlam : lam < 2 ^ 31) (hp : post (bI (sto v lam (es.getD i []) m)) w) : T_PC_staysPacking [.inr 0, .inl (nI i), .inl (nI m)] w post := ⟨v, k, n, lam, i, m, es, rfl, hv, hx, hl, hi, hm, h2, h7, hlam, hp⟩
theorem c_PC_staysPacking {l : Launch} : ma_Met l y_PC_staysPacking (w_PC_staysPacking :: zw_t) 2 true T_PC_staysPacking := by
  refine z_PC_staysPacking c_GR_points (by decide) c_LI_blocksHolding (by decide) (by rintro as w post ⟨v, k, n, lam, i, m, es, rfl, -⟩; simp) ?_
  rintro as w post ⟨v, k, n, lam, i, m, es, rfl, hv, hx, hl, hi, hm, h2, h7, hlam, hp⟩ Go hGo
  have hv6 := hv.2.1
  obtain ⟨hi60, he10, he3, hle, he64⟩ := ls_at hv hl hi
  have hz := xr_1 hx
  have loop : ∀ (d q : Nat) (o4 o5 : Option ma_V), q + d = v → (∀ b, b < q → ∀ a, a < b → (!(m.testBit a && m.testBit b) || decide (ce_meet (es.getD i []) a b < lam)) = true) → Go 2 [some (.inr 0), some (.inl (nI i)), some (.inl (nI m)), some (.inl (nI q)), o4, o5] [] w := by
    intro d
    induction d with
    | zero =>
      intro q o4 o5 hd hall
      refine q_PC_staysPacking_2 hGo (i_GR_points (pk_le v q (fun _ => q_PC_staysPacking_72 hGo ⟨bo1, ?_⟩) (fun h => absurd h (by omega)) h2 rfl (by omega) (by omega)))
      have : sto v lam (es.getD i []) m = true := al_t (fun b hb a ha => hall b (by omega) a ha)
      rw [this] at hp
      exact hp
    | succ d ih =>
      intro q o4 o5 hd hall
      have inner : ∀ (c p : Nat) (o5 : Option ma_V), p + c = q → (∀ a, a < p → (!(m.testBit a && m.testBit q) || decide (ce_meet (es.getD i []) a q < lam)) = true) → Go 16 [some (.inr 0), some (.inl (nI i)), some (.inl (nI m)), some (.inl (nI q)), some (.inl (nI p)), o5] [] w := by
        intro c
        induction c with
        | zero =>
          intro p o5 hc hin
          refine q_PC_staysPacking_16 hGo (pk_le q p (fun _ => q_PC_staysPacking_66 hGo ?_) (fun h => absurd h (by omega)))
          rw [nI_add]
          refine ih (q + 1) _ _ (by omega) (fun b hb a ha => ?_)
          by_cases hbq : b = q
          · subst hbq; exact hin a (by omega)
          · exact hall b (by omega) a ha
        | succ c ihc =>
          intro p o5 hc hin
          have hp6 : p < 6 := by omega
          have hq6 : q < 6 := by omega
          have hsw := sw_lt p hp6 q hq6
          have next : (!(m.testBit p && m.testBit q) || decide (ce_meet (es.getD i []) p q < lam)) = true → ∀ x : Int32, Go 60 [some (.inr 0), some (.inl (nI i)), some (.inl (nI m)), some (.inl (nI q)), some (.inl (nI p)), some (.inl x)] [] w := by
            intro h x
            refine q_PC_staysPacking_60 hGo ?_
            rw [nI_add]
            refine ihc (p + 1) _ (by omega) (fun a ha => ?_)
            by_cases hap : a = p
            · subst hap; exact h
            · exact hin a (by omega)
          refine q_PC_staysPacking_16 hGo (pk_le q p (fun h => absurd h (by omega)) (fun _ => ?_))
          rw [pr_e hp6 hq6, bi_and _ hm _ hsw, ma_isk_of (zL_s hz)]
          refine pn_ne (m &&& (2 ^ p ||| 2 ^ q)) (2 ^ p ||| 2 ^ q) (fun h => next ?_ _) (fun h => i_LI_blocksHolding hz hi60 hsw he10 he3 hle he64 ?_) rfl rfl (Nat.lt_of_le_of_lt Nat.and_le_left (by omega)) (by omega)
          · have : ¬ (m.testBit p && m.testBit q) = true := fun z => h ((bi_pair m hm p hp6 q hq6).mpr z)
            simp only [Bool.not_eq_true] at this
            rw [this]
            rfl
          · rw [meet_e hp6 hq6 he64]
            have hcm := cm_le (es.getD i []) p q
            have hpb := (bi_pair m hm p hp6 q hq6).mp h
            refine pk_lt (ce_meet (es.getD i []) p q) lam (fun h9 => next (by rw [decide_eq_true h9, Bool.or_true]) _) (fun h9 => ⟨bo0, ?_⟩) rfl h7 (by omega) hlam
            have : sto v lam (es.getD i []) m = false := al_f (p := p) (q := q) (by omega) (by omega) (by rw [hpb, decide_eq_false (by omega)]; rfl)
            rw [this] at hp
            exact hp
      exact q_PC_staysPacking_2 hGo (i_GR_points (pk_le v q (fun h => absurd h (by omega)) (fun _ => inner q 0 _ (by omega) (fun a ha => absurd ha (Nat.not_lt_zero a))) h2 rfl (by omega) (by omega)))
  refine q_PC_staysPacking_0 hGo (loop (v - 1) 1 _ _ (by have := hv.1; omega) (fun b hb a ha => absurd ha (by omega)))
/-- is an entry a design -/
def isd (v lam : Nat) (e : List Nat) : Bool := al v (fun p q => decide (ce_meet e p q = lam))
def T_PC_isDesign : ma_T := fun as w post => ∃ v k n lam i es, as = [.inr 0, .inl (nI i)] ∧ vk v k ∧ xr w ∧ ls v k w w.2.1.1 n es ∧ i < es.length ∧ w.1 2 2 = nI v ∧ w.1 0 7 = nI lam ∧ lam < 2 ^ 31 ∧ post (bI (isd v lam (es.getD i []))) w
theorem i_PC_isDesign {v k n lam i : Nat} {es : List (List Nat)} {w : ma_W} {post : ma_P} (hv : vk v k) (hx : xr w) (hl : ls v k w w.2.1.1 n es) (hi : i < es.length) (h2 : w.1 2 2 = nI v) (h7 : w.1 0 7 = nI lam) (hlam : lam < 2 ^ 31) (hp : post (bI (isd v lam (es.getD i []))) w) : T_PC_isDesign [.inr 0, .inl (nI i)] w post := ⟨v, k, n, lam, i, es, rfl, hv, hx, hl, hi, h2, h7, hlam, hp⟩
theorem c_PC_isDesign {l : Launch} : ma_Met l y_PC_isDesign (w_PC_isDesign :: zw_t) 2 true T_PC_isDesign := by
  refine z_PC_isDesign c_GR_points (by decide) c_LI_blocksHolding (by decide) (by rintro as w post ⟨v, k, n, lam, i, es, rfl, -⟩; simp) ?_
  rintro as w post ⟨v, k, n, lam, i, es, rfl, hv, hx, hl, hi, h2, h7, hlam, hp⟩ Go hGo
  have hv6 := hv.2.1
  obtain ⟨hi60, he10, he3, hle, he64⟩ := ls_at hv hl hi
  have hz := xr_1 hx
  have loop : ∀ (d q : Nat) (o : Option ma_V), q + d = v → (∀ b, b < q → ∀ a, a < b → decide (ce_meet (es.getD i []) a b = lam) = true) → Go 2 [some (.inr 0), some (.inl (nI i)), some (.inl (nI q)), o] [] w := by
    intro d
    induction d with
    | zero =>
      intro q o hd hall
      refine q_PC_isDesign_2 hGo (i_GR_points (pk_le v q (fun _ => q_PC_isDesign_56 hGo ⟨bo1, ?_⟩) (fun h => absurd h (by omega)) h2 rfl (by omega) (by omega)))
      have : isd v lam (es.getD i []) = true := al_t (fun b hb a ha => hall b (by omega) a ha)
      rw [this] at hp
      exact hp
    | succ d ih =>
      intro q o hd hall
      have inner : ∀ (c p : Nat), p + c = q → (∀ a, a < p → decide (ce_meet (es.getD i []) a q = lam) = true) → Go 15 [some (.inr 0), some (.inl (nI i)), some (.inl (nI q)), some (.inl (nI p))] [] w := by
        intro c
        induction c with
        | zero =>
          intro p hc hin
          refine q_PC_isDesign_15 hGo (pk_le q p (fun _ => q_PC_isDesign_50 hGo ?_) (fun h => absurd h (by omega)))
          rw [nI_add]
          refine ih (q + 1) _ (by omega) (fun b hb a ha => ?_)
          by_cases hbq : b = q
          · subst hbq; exact hin a (by omega)
          · exact hall b (by omega) a ha
        | succ c ihc =>
          intro p hc hin
          have hp6 : p < 6 := by omega
          have hq6 : q < 6 := by omega
          refine q_PC_isDesign_15 hGo (pk_le q p (fun h => absurd h (by omega)) (fun _ => ?_))
          rw [pr_e hp6 hq6, ma_isk_of (zL_s hz)]
          refine i_LI_blocksHolding hz hi60 (sw_lt p hp6 q hq6) he10 he3 hle he64 ?_
          rw [meet_e hp6 hq6 he64]
          have hcm := cm_le (es.getD i []) p q
          refine pk_eq (ce_meet (es.getD i []) p q) lam (fun h9 => q_PC_isDesign_44 hGo ?_) (fun h9 => ⟨bo0, ?_⟩) rfl h7 (by omega) hlam
          · rw [nI_add]
            refine ihc (p + 1) (by omega) (fun a ha => ?_)
            by_cases hap : a = p
            · subst hap; exact decide_eq_true h9
            · exact hin a (by omega)
          · have : isd v lam (es.getD i []) = false := al_f (p := p) (q := q) (by omega) (by omega) (decide_eq_false h9)
            rw [this] at hp
            exact hp
      exact q_PC_isDesign_2 hGo (i_GR_points (pk_le v q (fun h => absurd h (by omega)) (fun _ => inner q 0 (by omega) (fun a ha => absurd ha (Nat.not_lt_zero a))) h2 rfl (by omega) (by omega)))
  refine q_PC_isDesign_0 hGo (loop (v - 1) 1 _ (by have := hv.1; omega) (fun b hb a ha => absurd ha (by omega)))
/-- the form of the hand -/
def hf_ (v k : Nat) (xs : List Nat) (w : ma_W) : Prop := ∃ b, w.1 0 9 = bI b ∧ (b = true → ro w 12 (sp_un (fm_K v k) (sp_max v (fm_K v k) xs)) ∧ w.1 0 8 = nI (ce_ord v k xs))
def T_PC_formHand : ma_T := fun as w post => ∃ v k xs, as = [.inr 0] ∧ vk v k ∧ gr v k w ∧ ro w 10 xs ∧ (∀ x ∈ xs, x ∈ fm_K v k) ∧ hf_ v k xs w ∧ ∀ w', fr [0, 1, 12] [5, 6, 7, 8, 9, 13] w w' → (∀ j, j ≠ 8 → j ≠ 9 → w'.1 0 j = w.1 0 j) → w'.1 0 9 = nI 1 → ro w' 12 (sp_un (fm_K v k) (sp_max v (fm_K v k) xs)) → w'.1 0 8 = nI (ce_ord v k xs) → post 0 w'
theorem i_PC_formHand {v k : Nat} {xs : List Nat} {w : ma_W} {post : ma_P} (hv : vk v k) (hg : gr v k w) (hr : ro w 10 xs) (hx : ∀ x ∈ xs, x ∈ fm_K v k) (hh : hf_ v k xs w) (hp : ∀ w', fr [0, 1, 12] [5, 6, 7, 8, 9, 13] w w' → (∀ j, j ≠ 8 → j ≠ 9 → w'.1 0 j = w.1 0 j) → w'.1 0 9 = nI 1 → ro w' 12 (sp_un (fm_K v k) (sp_max v (fm_K v k) xs)) → w'.1 0 8 = nI (ce_ord v k xs) → post 0 w') : T_PC_formHand [.inr 0] w post := ⟨v, k, xs, rfl, hv, hg, hr, hx, hh, hp⟩
theorem c_PC_formHand {l : Launch} : ma_Met l y_PC_formHand (w_PC_formHand :: zw_t) 16 false T_PC_formHand := by
  refine z_PC_formHand c_FO_findForm (by decide) c_FO_symmetriesFound (by decide) (by rintro as w post ⟨v, k, xs, rfl, -⟩; simp) ?_
  rintro as w post ⟨v, k, xs, rfl, hv, hg, hr, hx, ⟨b, hb1, hb2⟩, hp⟩ Go hGo
  refine q_PC_formHand_0 hGo (bI_an hb1 (fun h => q_PC_formHand_38 hGo ?_) (fun h => ?_))
  · subst h
    obtain ⟨h1, h2⟩ := hb2 rfl
    exact hp w (fr_refl _ _ _) (fun _ _ _ => rfl) hb1 h1 h2
  · refine i_FO_findForm (Or.inl rfl) (Or.inr (Or.inl rfl)) hv hg hr hx (fun w1 f1 f2 f3 => i_FO_symmetriesFound ⟨bo1, q_PC_formHand_38 hGo (hp _ (fr_f (fr_f (fr_mono f1 (fun x h => ?_) (fun x h => ?_)) (by decide) 8 _) (by decide) 9 _) (fun j h8 h9 => ?_) (rfl) ?_ ?_)⟩)
    · simp only [List.mem_cons, List.not_mem_nil, or_false] at h ⊢
      omega
    · simp only [List.mem_cons, List.not_mem_nil, or_false] at h ⊢
      omega
    · try dsimp only
      rw [ma_up_k _ _ _ _ h9, ma_up_k _ _ _ _ h8, f1.2.1 0 (by decide)]
    · exact ro_fr f3 (fr_f (fr_f (fr_refl [0] [] w1) (by decide) 8 (w1.1 1 6)) (by decide) 9 (nI 1)) (by decide) (by decide)
    · try dsimp only
      rw [ma_up_k _ _ _ _ (by decide), ma_up_s, f2]
end
section
/-! CONTRACTS: PackingCensus, the next level -/
/-- what comes of an entry with one more block of the kinds ks -/
def cnd (v lam : Nat) (K e ks : List Nat) : List (List Nat) := (ks.filter (fun b => decide (ce_last e ≤ b) && (ce_pk v lam (e ++ [b]) && ce_isf v K (e ++ [b])))).map (fun b => e ++ [b])
theorem cnd_s {v lam : Nat} {K e : List Nat} {b : Nat} (h : b < K.length) : cnd v lam K e (K.take (b + 1)) = cnd v lam K e (K.take b) ++ (if (decide (ce_last e ≤ K.getD b 0) && (ce_pk v lam (e ++ [K.getD b 0]) && ce_isf v K (e ++ [K.getD b 0]))) = true then [e ++ [K.getD b 0]] else []) := by
  unfold cnd
  rw [tk_succ h, List.filter_append, List.map_append]
  congr 1
  by_cases hc : (decide (ce_last e ≤ K.getD b 0) && (ce_pk v lam (e ++ [K.getD b 0]) && ce_isf v K (e ++ [K.getD b 0]))) = true
  · rw [if_pos hc, List.filter_cons_of_pos (p := fun b => decide (ce_last e ≤ b) && (ce_pk v lam (e ++ [b]) && ce_isf v K (e ++ [b]))) hc]
    rfl
  · rw [if_neg hc, List.filter_cons_of_neg (p := fun b => decide (ce_last e ≤ b) && (ce_pk v lam (e ++ [b]) && ce_isf v K (e ++ [b]))) hc]
    rfl
theorem cnd_le {v lam : Nat} {K e : List Nat} {b : Nat} (h : b ≤ K.length) : (cnd v lam K e (K.take b)).length ≤ (cnd v lam K e K).length := by
  have : cnd v lam K e K = cnd v lam K e (K.take b) ++ cnd v lam K e (K.drop b) := by
    unfold cnd
    rw [← List.map_append, ← List.filter_append, List.take_append_drop]
  rw [this, List.length_append]
  omega
theorem next_eq (v lam : Nat) (K : List Nat) (L : List (List Nat)) : ce_next v lam K L = L.flatMap (fun e => cnd v lam K e K) := rfl
theorem sto_pk {v lam m : Nat} {e : List Nat} (he : ce_pk v lam e = true) : sto v lam e m = ce_pk v lam (e ++ [m]) := by
  rw [Bool.eq_iff_iff, sp_stays he]
  unfold sto
  rw [al_iff]
  constructor
  · intro h p q hpq hq h1 h2
    have := h q hq p hpq
    rw [h1, h2] at this
    simpa using this
  · intro h q hq p hpq
    by_cases h1 : m.testBit p = true
    · by_cases h2 : m.testBit q = true
      · simp [h p q hpq hq h1 h2]
      · simp [h2]
    · simp [h1]
theorem gdL {l : List (List Nat)} {e : List Nat} {i : Nat} (h : i < l.length) : (l ++ [e]).getD i [] = l.getD i [] := by
  rw [List.getD_eq_getElem?_getD, List.getD_eq_getElem?_getD, List.getElem?_append_left h]
theorem gdE {l : List (List Nat)} {e : List Nat} : (l ++ [e]).getD l.length [] = e := by
  rw [List.getD_eq_getElem?_getD, List.getElem?_append_right (Nat.le_refl _), Nat.sub_self]
  rfl
/-- a row added to a listing -/
theorem ls_add {v k p n : Nat} {es : List (List Nat)} {xs : List Nat} {w w' : ma_W} (hv : vk v k) (h : ls v k w p n es) (h60 : es.length < 60) (hn : xs.length = n) (hx : ∀ x ∈ xs, x ∈ fm_K v k) (ho : w.1 1 6 = nI (ce_ord v k xs)) (hi : ∀ x, x < v → w.2.2 9 x = nI (sp_orb v k xs x)) (h3 : w'.1 p 3 = nI n) (h4 : w'.1 p 4 = nI (es.length + 1)) (a1 : ∀ j, w'.2.2 (p + 1) j = if es.length * 10 ≤ j ∧ j < es.length * 10 + n then nI (xs.getD (j - es.length * 10) 0) else w.2.2 (p + 1) j) (a2 : ∀ j, w'.2.2 (p + 2) j = if j = es.length then w.1 1 6 else w.2.2 (p + 2) j) (a3 : ∀ j, w'.2.2 (p + 3) j = if es.length * 6 ≤ j ∧ j < es.length * 6 + 6 then w.2.2 9 (j - es.length * 6) else w.2.2 (p + 3) j) : ls v k w' p n (es ++ [xs]) := by
  obtain ⟨g1, g2, g3, g4, g5⟩ := h
  have hv6 := hv.2.1
  refine ⟨by rw [List.length_append]; exact h60, g2, h3, by rw [List.length_append]; exact h4, fun i hi2 => ?_⟩
  by_cases hie : i = es.length
  · subst hie
    rw [gdE]
    refine ⟨hn, hx, fun j hj => ?_, ?_, fun x hx2 => ?_⟩
    · rw [a1, if_pos (by omega), show es.length * 10 + j - es.length * 10 = j by omega]
    · rw [a2, if_pos rfl, ho]
    · rw [a3, if_pos (by omega), show es.length * 6 + x - es.length * 6 = x by omega, hi x hx2]
  · have hil : i < es.length := by
      rw [List.length_append] at hi2
      simp only [List.length_singleton] at hi2
      omega
    rw [gdL hil]
    obtain ⟨e1, e2, e3, e4, e5⟩ := g5 i hil
    refine ⟨e1, e2, fun j hj => ?_, ?_, fun x hx2 => ?_⟩
    · rw [a1, if_neg (by omega)]; exact e3 j hj
    · rw [a2, if_neg hie]; exact e4
    · rw [a3, if_neg (by omega)]; exact e5 x hx2
/-- what the next level changes: y the listing that is filled -/
def gp (y : Nat) : List Nat := [1, 14, y]
def gq (y : Nat) : List Nat := [5, 6, 7, 8, 9, 15, y + 1, y + 2, y + 3]
theorem gp_n {y p : Nat} (h1 : p ≠ 1) (h2 : p ≠ 14) (h3 : p ≠ y) : p ∉ gp y := nm3 h1 h2 h3
theorem gq_n {y p : Nat} (h : p < 5 ∨ (10 ≤ p ∧ p < 15) ∨ 16 ≤ p) (h1 : p ≠ y + 1) (h2 : p ≠ y + 2) (h3 : p ≠ y + 3) : p ∉ gq y := by
  intro z
  simp only [gq, List.mem_cons, List.not_mem_nil, or_false] at z
  omega
def T_PC_addFormsFrom : ma_T := fun as w post => ∃ v k n lam i es dn, as = [.inr 0, .inl (nI i)] ∧ vk v k ∧ xr w ∧ gr v k w ∧ w.1 0 7 = nI lam ∧ lam < 2 ^ 31 ∧ n < 10 ∧ ls v k w w.2.1.1 n es ∧ i < es.length ∧ ce_pk v lam (es.getD i []) = true ∧ ls v k w w.2.1.2 (n + 1) dn ∧ ∀ w', fr (gp w.2.1.2) (gq w.2.1.2) w w' → ((dn ++ cnd v lam (fm_K v k) (es.getD i []) (fm_K v k)).length ≤ 60 → ls v k w' w.2.1.2 (n + 1) (dn ++ cnd v lam (fm_K v k) (es.getD i []) (fm_K v k))) → post (bI (decide ((dn ++ cnd v lam (fm_K v k) (es.getD i []) (fm_K v k)).length ≤ 60))) w'
theorem i_PC_addFormsFrom {v k n lam i : Nat} {es dn : List (List Nat)} {w : ma_W} {post : ma_P} (hv : vk v k) (hx : xr w) (hg : gr v k w) (h7 : w.1 0 7 = nI lam) (hlam : lam < 2 ^ 31) (hn : n < 10) (hl : ls v k w w.2.1.1 n es) (hi : i < es.length) (hpk : ce_pk v lam (es.getD i []) = true) (hd : ls v k w w.2.1.2 (n + 1) dn) (hp : ∀ w', fr (gp w.2.1.2) (gq w.2.1.2) w w' → ((dn ++ cnd v lam (fm_K v k) (es.getD i []) (fm_K v k)).length ≤ 60 → ls v k w' w.2.1.2 (n + 1) (dn ++ cnd v lam (fm_K v k) (es.getD i []) (fm_K v k))) → post (bI (decide ((dn ++ cnd v lam (fm_K v k) (es.getD i []) (fm_K v k)).length ≤ 60))) w') : T_PC_addFormsFrom [.inr 0, .inl (nI i)] w post := ⟨v, k, n, lam, i, es, dn, rfl, hv, hx, hg, h7, hlam, hn, hl, hi, hpk, hd, hp⟩
theorem ei_last {xs : List Nat} {m : Nat} : (xs ++ [m]).eraseIdx xs.length = xs := by
  rw [List.eraseIdx_append_of_length_le (Nat.le_refl _), Nat.sub_self]
  simp
theorem c_PC_addFormsFrom {l : Launch} : ma_Met l y_PC_addFormsFrom (w_PC_addFormsFrom :: zw_t) 16 true T_PC_addFormsFrom := by
  refine z_PC_addFormsFrom c_LI_writeTo (by decide) c_RO_last (by decide) c_GR_kinds (by decide) c_GR_kind (by decide) c_PC_staysPacking (by decide) c_RO_add (by decide) c_FO_isForm (by decide) c_LI_isFull (by decide) c_LI_addRow (by decide) c_RO_size (by decide) c_RO_removeAt (by decide) (by rintro as w post ⟨v, k, n, lam, i, es, dn, rfl, -⟩; simp) ?_
  rintro as w post ⟨v, k, n, lam, i, es, dn, rfl, hv, hx, hg, h7, hlam, hn, hl, hi, hpk, hd, hp⟩ Go hGo
  obtain ⟨hi60, he10, he3, hle, he64⟩ := ls_at hv hl hi
  have hz1 := xr_1 hx
  have hz2 := xr_2 hx
  have hne := xr_ne hx
  have hb1 := zL_big hz1
  have hb2 := zL_big hz2
  have h20 := vk_20 hv
  have hen : (es.getD i []).length = n := (hl.2.2.2.2 i hi).1
  have heK : ∀ x ∈ es.getD i [], x ∈ fm_K v k := (hl.2.2.2.2 i hi).2.1
  obtain ⟨e, hee⟩ : ∃ e, es.getD i [] = e := ⟨_, rfl⟩
  rw [hee] at he10 he3 hle he64 hen heK hpk hp
  have hlast : ce_last e < 64 := by
    unfold ce_last
    cases hq : e.getLast? with
    | none => decide
    | some a => exact he64 a (List.mem_of_getLast? hq)
  have h14 : zR 14 := Or.inr (Or.inr rfl)
  -- what a change of the places above keeps
  have keep : ∀ w' : ma_W, fr (gp w.2.1.2) (gq w.2.1.2) w w' → w'.2.1 = w.2.1 ∧ gr v k w' ∧ w'.1 0 7 = nI lam ∧ ls v k w' w.2.1.1 n es := by
    intro w' hf
    refine ⟨hf.1, gr_fr hg hf (gp_n (by decide) (by decide) (by omega)) (gq_n (by omega) (by omega) (by omega) (by omega)) (gq_n (by omega) (by omega) (by omega) (by omega)), by rw [hf.2.1 0 (gp_n (by decide) (by decide) (by omega))]; exact h7, ls_fr hl hf (gp_n (by omega) (by omega) (by omega)) (gq_n (by omega) (by omega) (by omega) (by omega)) (gq_n (by omega) (by omega) (by omega) (by omega)) (gq_n (by omega) (by omega) (by omega) (by omega))⟩
  have sub1 : ∀ {w1 w2 : ma_W}, fr [14] [15] w1 w2 → fr (gp w.2.1.2) (gq w.2.1.2) w1 w2 := fun h => fr_mono h (fun x hx => by rw [List.mem_singleton.mp hx]; simp [gp]) (fun x hx => by rw [List.mem_singleton.mp hx]; simp [gq])
  have sub2 : ∀ {w1 w2 : ma_W}, fr [1] [5, 6, 7, 8, 9] w1 w2 → fr (gp w.2.1.2) (gq w.2.1.2) w1 w2 := fun h => fr_mono h (fun x hx => by rw [List.mem_singleton.mp hx]; simp [gp]) (fun x hx => by
    simp only [gq, List.mem_cons, List.not_mem_nil, or_false] at hx ⊢
    omega)
  have sub3 : ∀ {w1 w2 : ma_W}, fr [w.2.1.2] [w.2.1.2 + 1, w.2.1.2 + 2, w.2.1.2 + 3] w1 w2 → fr (gp w.2.1.2) (gq w.2.1.2) w1 w2 := fun h => fr_mono h (fun x hx => by rw [List.mem_singleton.mp hx]; simp [gp]) (fun x hx => by
    simp only [gq, List.mem_cons, List.not_mem_nil, or_false] at hx ⊢
    omega)
  have lskeep : ∀ {w1 w2 : ma_W} {ps qs : List Nat} {d : List (List Nat)}, fr ps qs w1 w2 → (∀ x ∈ ps, x < 16) → (∀ x ∈ qs, x < 16) → ls v k w1 w.2.1.2 (n + 1) d → ls v k w2 w.2.1.2 (n + 1) d := by
    intro w1 w2 ps qs d hf h1 h2 h
    exact ls_fr h hf (fun z => by have := h1 _ z; omega) (fun z => by have := h2 _ z; omega) (fun z => by have := h2 _ z; omega) (fun z => by have := h2 _ z; omega)
  have loop : ∀ (d b : Nat) (w' : ma_W) (o : Option ma_V), b + d = (fm_K v k).length → fr (gp w.2.1.2) (gq w.2.1.2) w w' → ro w' 14 e → ls v k w' w.2.1.2 (n + 1) (dn ++ cnd v lam (fm_K v k) e ((fm_K v k).take b)) → Go 22 [some (.inr 0), some (.inl (nI i)), some (.inl (nI (ce_last e))), some (.inl (nI b)), o] [] w' := by
    intro d
    induction d with
    | zero =>
      intro b w' o hb hf hr hls
      obtain ⟨-, hg', -, -⟩ := keep w' hf
      refine q_PC_addFormsFrom_22 hGo (i_GR_kinds (pk_le (fm_K v k).length b (fun _ => q_PC_addFormsFrom_134 hGo ⟨bo1, ?_⟩) (fun h => absurd h (by omega)) hg'.2.2.1 rfl (by omega) (by omega)))
      rw [List.take_of_length_le (by omega)] at hls
      have h9 := hp w' hf (fun _ => hls)
      rw [decide_eq_true hls.1] at h9
      exact h9
    | succ d ih =>
      intro b w' o hb hf hr hls
      have hbK : b < (fm_K v k).length := by omega
      have hm := K_mem hbK
      have hm64 := vk_64 hv hm
      obtain ⟨hw1, hg', h7', hl'⟩ := keep w' hf
      have hcs := cnd_s (v := v) (lam := lam) (e := e) hbK
      have hcl := cnd_le (v := v) (lam := lam) (e := e) (show b + 1 ≤ (fm_K v k).length by omega)
      obtain ⟨m, hme⟩ : ∃ m, (fm_K v k).getD b 0 = m := ⟨_, rfl⟩
      rw [hme] at hm hm64 hcs
      have next : ∀ (w2 : ma_W) (y : Int32), fr (gp w.2.1.2) (gq w.2.1.2) w w2 → ro w2 14 e → ls v k w2 w.2.1.2 (n + 1) (dn ++ cnd v lam (fm_K v k) e ((fm_K v k).take (b + 1))) → Go 128 [some (.inr 0), some (.inl (nI i)), some (.inl (nI (ce_last e))), some (.inl (nI b)), some (.inl y)] [] w2 := by
        intro w2 y a1 a2 a3
        refine q_PC_addFormsFrom_128 hGo ?_
        rw [nI_add]
        exact ih (b + 1) w2 _ (by omega) a1 a2 a3
      have skip : (decide (ce_last e ≤ m) && (ce_pk v lam (e ++ [m]) && ce_isf v (fm_K v k) (e ++ [m]))) = false → ∀ (w2 : ma_W) (y : Int32), fr (gp w.2.1.2) (gq w.2.1.2) w w2 → ro w2 14 e → ls v k w2 w.2.1.2 (n + 1) (dn ++ cnd v lam (fm_K v k) e ((fm_K v k).take b)) → Go 128 [some (.inr 0), some (.inl (nI i)), some (.inl (nI (ce_last e))), some (.inl (nI b)), some (.inl y)] [] w2 := by
        intro hc w2 y a1 a2 a3
        refine next w2 y a1 a2 ?_
        rw [hcs, if_neg (by rw [hc]; decide), List.append_nil]
        exact a3
      refine q_PC_addFormsFrom_22 hGo (i_GR_kinds (pk_le (fm_K v k).length b (fun h => absurd h (by omega)) (fun _ => i_GR_kind (by omega) ?_) hg'.2.2.1 rfl (by omega) (by omega)))
      rw [hg'.2.2.2.1 b hbK, hme]
      refine pk_lt m (ce_last e) (fun h => skip (by rw [decide_eq_false (by omega)]; rfl) w' _ hf hr hls) (fun hge => ?_) rfl rfl (by omega) (by omega)
      refine i_PC_staysPacking (es := es) hv (by unfold xr; rw [hw1]; exact hx) (by rw [hw1]; exact hl') hi hm64 hg'.1 h7' hlam ?_
      rw [hee, sto_pk hpk]
      refine bI_ne (fun hpk1 => ?_) (fun hpk1 => skip (by rw [hpk1, Bool.false_and, Bool.and_false]) w' _ hf hr hls)
      -- the block is tried
      have hemK : ∀ x ∈ e ++ [m], x ∈ fm_K v k := by
        intro x hx
        rcases List.mem_append.mp hx with h | h
        · exact heK x h
        · rw [List.mem_singleton.mp h]; exact hm
      have hr10 : e.length < 10 := by omega
      refine q_PC_addFormsFrom_62 hGo (i_RO_add h14 hr.2.1 hr10 ?_)
      have hfA : fr [14] [15] w' (ma_up w'.1 14 1 (nI (e.length + 1)), w'.2.1, ma_up w'.2.2 15 e.length (nI m)) := fr_a (fr_f (fr_refl _ _ _) (by decide) 1 _) (by decide) _ _
      have hrA := ro_add (m := m) hr hr10
      have hgA : gr v k (ma_up w'.1 14 1 (nI (e.length + 1)), w'.2.1, ma_up w'.2.2 15 e.length (nI m)) := gr_fr hg' hfA (by decide) (by decide) (by decide)
      have hlsA := lskeep hfA (by simp) (by simp) hls
      refine i_FO_isForm h14 hv hgA hrA hemK (fun w2 f2 ho => ?_)
      have hls2 := lskeep f2 (by simp) (by simp) hlsA
      have hr2 : ro w2 14 (e ++ [m]) := ro_fr hrA f2 (by decide) (by decide)
      have hf2 : fr (gp w.2.1.2) (gq w.2.1.2) w w2 := fr_trans hf (fr_trans (sub1 hfA) (sub2 f2))
      -- the block is taken away again
      have back : ∀ w3 : ma_W, fr (gp w.2.1.2) (gq w.2.1.2) w w3 → ro w3 14 (e ++ [m]) → ls v k w3 w.2.1.2 (n + 1) (dn ++ cnd v lam (fm_K v k) e ((fm_K v k).take (b + 1))) → Go 112 [some (.inr 0), some (.inl (nI i)), some (.inl (nI (ce_last e))), some (.inl (nI b)), some (.inl (nI m))] [] w3 := by
        intro w3 a1 a2 a3
        refine q_PC_addFormsFrom_112 hGo (i_RO_size h14 ?_)
        have hlm : (e ++ [m]).length = e.length + 1 := by simp
        rw [a2.2.1, pk_sub (by omega), show (e ++ [m]).length - 1 = e.length by omega]
        refine i_RO_removeAt h14 a2 (by omega) (fun w4 f4 r4 => next w4 _ (fr_trans a1 (sub1 f4)) ?_ (lskeep f4 (by simp) (by simp) a3))
        rw [ei_last] at r4
        exact r4
      refine bI_eq (fun hno => back w2 hf2 hr2 ?_) (fun hyes => ?_)
      · rw [hcs, if_neg (by rw [hno, Bool.and_false, Bool.and_false]; decide), List.append_nil]
        exact hls2
      · rw [if_pos (by rw [decide_eq_true hge, hpk1, hyes]; rfl)] at hcs
        have hw2 : w2.2.1 = w.2.1 := hf2.1
        rw [hw2, ma_isk_of (zL_s hz2)]
        have hl60 := hls2.1
        refine i_LI_isFull hz2 hls2.2.2.2.1 (by omega) (bI_eq (fun hfull => ?_) (fun hfull => ⟨bo0, ?_⟩))
        · have hfull := of_decide_eq_false hfull
          refine q_PC_addFormsFrom_97 hGo ?_
          rw [hw2, ma_isk_of (zL_s hz2)]
          have hlm : (e ++ [m]).length = n + 1 := by simp [hen]
          refine i_LI_addRow hz2 h14 hr2 (by rw [hlm]; exact hls2.2.2.1) hls2.2.2.2.1 (by omega) (fun w3 f3 c1 c2 c3 c4 c5 => back w3 (fr_trans hf2 (sub3 f3)) (ro_fr hr2 f3 (nm1 (by omega)) (nm3 (by omega) (by omega) (by omega))) ?_)
          rw [hcs, ← List.append_assoc]
          rw [hlm] at c1 c3
          exact ls_add hv hls2 (by omega) hlm hemK (ho hyes).1 (ho hyes).2 c1 c2 c3 c4 c5
        · have hfull := of_decide_eq_true hfull
          have hbig : ¬ (dn ++ cnd v lam (fm_K v k) e (fm_K v k)).length ≤ 60 := by
            rw [hcs, List.length_append] at hcl
            rw [List.length_append] at hfull ⊢
            simp only [List.length_singleton] at hcl
            omega
          have h9 := hp w2 hf2 (fun z => absurd z hbig)
          rw [decide_eq_false hbig] at h9
          exact h9
  refine q_PC_addFormsFrom_0 hGo ?_
  rw [ma_isk_of (zL_s hz1)]
  refine i_LI_writeTo hz1 h14 hi60 he10 he3 hle (fun w1 f1 r1 => i_RO_last h14 r1 (loop (fm_K v k).length 0 w1 _ (by omega) (sub1 f1) r1 ?_))
  rw [List.take_zero, show cnd v lam (fm_K v k) e [] = [] from rfl, List.append_nil]
  exact lskeep f1 (by simp) (by simp) hd
/-- the next level is filled in, if it has room -/
def T_PC_fillSpare : ma_T := fun as w post => ∃ v k n lam es, as = [.inr 0] ∧ vk v k ∧ xr w ∧ gr v k w ∧ w.1 0 7 = nI lam ∧ lam < 2 ^ 31 ∧ n < 10 ∧ ls v k w w.2.1.1 n es ∧ (∀ e ∈ es, ce_pk v lam e = true) ∧ ∀ w', fr (gp w.2.1.2) (gq w.2.1.2) w w' → ((ce_next v lam (fm_K v k) es).length ≤ 60 → ls v k w' w.2.1.2 (n + 1) (ce_next v lam (fm_K v k) es)) → post (bI (decide ((ce_next v lam (fm_K v k) es).length ≤ 60))) w'
theorem i_PC_fillSpare {v k n lam : Nat} {es : List (List Nat)} {w : ma_W} {post : ma_P} (hv : vk v k) (hx : xr w) (hg : gr v k w) (h7 : w.1 0 7 = nI lam) (hlam : lam < 2 ^ 31) (hn : n < 10) (hl : ls v k w w.2.1.1 n es) (hpk : ∀ e ∈ es, ce_pk v lam e = true) (hp : ∀ w', fr (gp w.2.1.2) (gq w.2.1.2) w w' → ((ce_next v lam (fm_K v k) es).length ≤ 60 → ls v k w' w.2.1.2 (n + 1) (ce_next v lam (fm_K v k) es)) → post (bI (decide ((ce_next v lam (fm_K v k) es).length ≤ 60))) w') : T_PC_fillSpare [.inr 0] w post := ⟨v, k, n, lam, es, rfl, hv, hx, hg, h7, hlam, hn, hl, hpk, hp⟩
theorem nx_s {v lam : Nat} {K : List Nat} {es : List (List Nat)} {i : Nat} (h : i < es.length) : ce_next v lam K (es.take (i + 1)) = ce_next v lam K (es.take i) ++ cnd v lam K (es.getD i []) K := by
  rw [next_eq, next_eq, List.take_add_one, List.getElem?_eq_getElem h, gd_at h, List.flatMap_append]
  simp
theorem nx_le {v lam : Nat} {K : List Nat} {es : List (List Nat)} {i : Nat} : (ce_next v lam K (es.take i)).length ≤ (ce_next v lam K es).length := by
  have : ce_next v lam K es = ce_next v lam K (es.take i) ++ ce_next v lam K (es.drop i) := by
    rw [next_eq, next_eq, next_eq, ← List.flatMap_append, List.take_append_drop]
  rw [this, List.length_append]
  omega
theorem c_PC_fillSpare {l : Launch} : ma_Met l y_PC_fillSpare (w_PC_fillSpare :: zw_t) 17 true T_PC_fillSpare := by
  refine z_PC_fillSpare c_LI_rowLength (by decide) c_LI_restart (by decide) c_LI_size (by decide) c_PC_addFormsFrom (by decide) (by rintro as w post ⟨v, k, n, lam, es, rfl, -⟩; simp) ?_
  rintro as w post ⟨v, k, n, lam, es, rfl, hv, hx, hg, h7, hlam, hn, hl, hpk, hp⟩ Go hGo
  have hz1 := xr_1 hx
  have hz2 := xr_2 hx
  have hne := xr_ne hx
  have hb1 := zL_big hz1
  have hb2 := zL_big hz2
  have h60 := hl.1
  have loop : ∀ (d i : Nat) (w' : ma_W), i + d = es.length → fr (gp w.2.1.2) (gq w.2.1.2) w w' → ls v k w' w.2.1.2 (n + 1) (ce_next v lam (fm_K v k) (es.take i)) → Go 18 [some (.inr 0), some (.inl (nI i))] [] w' := by
    intro d
    induction d with
    | zero =>
      intro i w' hd hf hls
      have hw : w'.2.1 = w.2.1 := hf.1
      have hl' : ls v k w' w.2.1.1 n es := ls_fr hl hf (gp_n (by omega) (by omega) (by omega)) (gq_n (by omega) (by omega) (by omega) (by omega)) (gq_n (by omega) (by omega) (by omega) (by omega)) (gq_n (by omega) (by omega) (by omega) (by omega))
      refine q_PC_fillSpare_18 hGo ?_
      rw [hw, ma_isk_of (zL_s hz1)]
      refine i_LI_size hz1 (pk_le es.length i (fun _ => q_PC_fillSpare_45 hGo ⟨bo1, ?_⟩) (fun h => absurd h (by omega)) hl'.2.2.2.1 rfl (by omega) (by omega))
      rw [List.take_of_length_le (by omega)] at hls
      have h9 := hp w' hf (fun _ => hls)
      rw [decide_eq_true hls.1] at h9
      exact h9
    | succ d ih =>
      intro i w' hd hf hls
      have hi : i < es.length := by omega
      have hw : w'.2.1 = w.2.1 := hf.1
      have hl' : ls v k w' w.2.1.1 n es := ls_fr hl hf (gp_n (by omega) (by omega) (by omega)) (gq_n (by omega) (by omega) (by omega) (by omega)) (gq_n (by omega) (by omega) (by omega) (by omega)) (gq_n (by omega) (by omega) (by omega) (by omega))
      have hg' : gr v k w' := gr_fr hg hf (gp_n (by decide) (by decide) (by omega)) (gq_n (by omega) (by omega) (by omega) (by omega)) (gq_n (by omega) (by omega) (by omega) (by omega))
      refine q_PC_fillSpare_18 hGo ?_
      rw [hw, ma_isk_of (zL_s hz1)]
      refine i_LI_size hz1 (pk_le es.length i (fun h => absurd h (by omega)) (fun _ => ?_) hl'.2.2.2.1 rfl (by omega) (by omega))
      have hmem : es.getD i [] ∈ es := by rw [gd_at hi]; exact List.getElem_mem hi
      refine i_PC_addFormsFrom (es := es) (dn := ce_next v lam (fm_K v k) (es.take i)) hv (xr_fr hx hf) hg' (by rw [hf.2.1 0 (gp_n (by decide) (by decide) (by omega))]; exact h7) hlam hn (by rw [hw]; exact hl') hi (hpk _ hmem) (by rw [hw]; exact hls) (fun w2 f2 g2 => ?_)
      rw [hw] at f2 g2
      rw [← nx_s hi] at g2 ⊢
      refine bI_ne (fun h => q_PC_fillSpare_39 hGo ?_) (fun h => ⟨bo0, ?_⟩)
      · rw [nI_add]
        exact ih (i + 1) w2 (by omega) (fr_trans hf f2) (g2 (of_decide_eq_true h))
      · have h := of_decide_eq_false h
        have hle := nx_le (v := v) (lam := lam) (K := fm_K v k) (es := es) (i := i + 1)
        have hbig : ¬ (ce_next v lam (fm_K v k) es).length ≤ 60 := by omega
        have h9 := hp w2 (fr_trans hf f2) (fun z => absurd z hbig)
        rw [decide_eq_false hbig] at h9
        exact h9
  refine q_PC_fillSpare_0 hGo ?_
  rw [ma_isk_of (zL_s hz1)]
  refine i_LI_rowLength hz1 ?_
  rw [ma_isk_of (zL_s hz2)]
  refine i_LI_restart hz2 (loop es.length 0 _ (by omega) (fr_f (fr_f (fr_refl _ _ _) (by simp [gp]) 3 _) (by simp [gp]) 4 _) ⟨by simp [ce_next], by omega, ?_, ?_, fun i hi => ?_⟩)
  · try dsimp only
    rw [ma_up_k _ _ _ _ (by decide), ma_up_s, hl.2.2.1, nI_add]
  · try dsimp only
    rw [ma_up_s]
    rfl
  · simp [ce_next] at hi
end
section
/-! THE STATE of both programs and what they answer -/
abbrev cs_ : Type := Option (Nat × Nat × Nat × Nat)
def es_ (c : cs_) : List (List Nat) := match c with
  | none => []
  | some (v, k, lam, n) => ce_L v k lam n
def vv (c : cs_) : Nat := match c with
  | none => 0
  | some (v, _, _, _) => v
def lv (c : cs_) : Nat := match c with
  | none => 0
  | some (_, _, _, n) => n
def NO : Int32 := Int32.ofInt (-1)
def e_at (c : cs_) (i : Int32) : List Nat := (es_ c).getD i.toNatClampNeg []
def A_level (c : cs_) : Int32 := match c with
  | none => NO
  | some (_, _, _, n) => nI n
def A_entries (c : cs_) : Int32 := nI (es_ c).length
def A_block (c : cs_) (i j : Int32) : Int32 := if (hs i (es_ c).length && hs j (lv c)) = true then nI ((e_at c i).getD j.toNatClampNeg 0) else NO
def A_order (c : cs_) (i : Int32) : Int32 := match c with
  | none => NO
  | some (v, k, lam, n) => if hs i (ce_L v k lam n).length = true then nI (ce_ord v k (e_at c i)) else NO
def A_labelled (c : cs_) : Int32 := match c with
  | none => nI 0
  | some (v, k, lam, n) => nI (ce_U v k lam n).length
def A_together (c : cs_) (i p q : Int32) : Int32 := if (hs i (es_ c).length && (hs p (vv c) && hs q (vv c))) = true then nI (ce_meet (e_at c i) p.toNatClampNeg q.toNatClampNeg) else NO
def A_design (c : cs_) (i : Int32) : Bool := match c with
  | none => false
  | some (v, k, lam, n) => hs i (ce_L v k lam n).length && isd v lam (e_at c i)
def A_designs (c : cs_) : Int32 := match c with
  | none => nI 0
  | some (v, k, lam, n) => nI ((ce_L v k lam n).countP (fun e => isd v lam e))
def A_orbit (c : cs_) (i p : Int32) : Int32 := match c with
  | none => NO
  | some (v, k, lam, n) => if (hs i (ce_L v k lam n).length && hs p v) = true then nI (sp_orb v k (e_at c i) p.toNatClampNeg) else NO
def A_put (c : cs_) (xs : List Nat) (x : Int32) : Int32 := match c with
  | none => Int32.ofInt (-2)
  | some (v, k, _, _) => if isb v k x = true then (if xs.length < 10 then nI (xs.length + 1) else Int32.ofInt (-5)) else Int32.ofInt (-2)
def N_put (c : cs_) (xs : List Nat) (x : Int32) : List Nat := match c with
  | none => xs
  | some (v, k, _, _) => if isb v k x = true ∧ xs.length < 10 then xs ++ [x.toNatClampNeg] else xs
def A_drop (xs : List Nat) (j : Int32) : Bool := hs j xs.length
def N_drop (xs : List Nat) (j : Int32) : List Nat := if hs j xs.length = true then xs.eraseIdx j.toNatClampNeg else xs
def A_swap (c : cs_) (p q : Int32) : Bool := hs p (vv c) && hs q (vv c)
def N_swap (c : cs_) (xs : List Nat) (p q : Int32) : List Nat := if (hs p (vv c) && hs q (vv c)) = true then xs.map (sw p.toNatClampNeg q.toNatClampNeg) else xs
def A_copy (c : cs_) (i : Int32) : Bool := hs i (es_ c).length
def N_copy (c : cs_) (xs : List Nat) (i : Int32) : List Nat := if hs i (es_ c).length = true then e_at c i else xs
def A_hand (xs : List Nat) (j : Int32) : Int32 := if hs j xs.length = true then nI (xs.getD j.toNatClampNeg 0) else NO
def fo_ (v k : Nat) (xs : List Nat) : List Nat := sp_un (fm_K v k) (sp_max v (fm_K v k) xs)
def A_formed (c : cs_) (xs : List Nat) (j : Int32) : Int32 := match c with
  | none => NO
  | some (v, k, _, _) => if hs j xs.length = true then nI ((fo_ v k xs).getD j.toNatClampNeg 0) else NO
def A_symmetries (c : cs_) (xs : List Nat) : Int32 := match c with
  | none => NO
  | some (v, k, _, _) => nI (ce_ord v k xs)
def A_find (c : cs_) (xs : List Nat) : Int32 := match c with
  | none => NO
  | some (v, k, lam, n) => if xs.length = n then fi (fo_ v k xs) (ce_L v k lam n) 0 else NO
def A_grow (c : cs_) : Int32 := match c with
  | none => NO
  | some (v, k, lam, n) => if n < 10 ∧ (ce_L v k lam (n + 1)).length ≤ 60 then nI (ce_L v k lam (n + 1)).length else Int32.ofInt (-5)
def N_grow (c : cs_) : cs_ := match c with
  | none => none
  | some (v, k, lam, n) => if n < 10 ∧ (ce_L v k lam (n + 1)).length ≤ 60 then some (v, k, lam, n + 1) else some (v, k, lam, n)
/-- is a begin taken -/
def okb (x y z : Int32) : Bool := decide (¬ x < nI 3) && (decide (x ≤ nI 6) && (decide (¬ y < nI 2) && (decide (¬ x - nI 1 < y) && (decide (¬ z < nI 1) && decide (z ≤ nI 4)))))
def A_bd (v k lam : Nat) : Int32 := if (lam * (v - 1)) % (k - 1) = 0 ∧ (v * (lam * (v - 1) / (k - 1))) % k = 0 then (if v * (lam * (v - 1) / (k - 1)) / k < v then Int32.ofInt (-4) else nI (v * (lam * (v - 1) / (k - 1)) / k)) else Int32.ofInt (-3)
def A_begin (x y z : Int32) : Int32 := if okb x y z = true then A_bd x.toNatClampNeg y.toNatClampNeg z.toNatClampNeg else Int32.ofInt (-2)
def N_begin (c : cs_) (x y z : Int32) : cs_ := if okb x y z = true then some (x.toNatClampNeg, y.toNatClampNeg, z.toNatClampNeg, 0) else c
def N_beginX (xs : List Nat) (x y z : Int32) : List Nat := if okb x y z = true then [] else xs
/-- how the state is held -/
def XI (c : cs_) (xs : List Nat) (w : ma_W) : Prop := xr w ∧ ro w 10 xs ∧ match c with
  | none => xs = [] ∧ w.1 0 10 = nI 0 ∧ w.1 2 2 = nI 0 ∧ w.1 w.2.1.1 3 = nI 0 ∧ w.1 w.2.1.1 4 = nI 0
  | some (v, k, lam, n) => vk v k ∧ (1 ≤ lam ∧ lam ≤ 4) ∧ w.1 0 10 = nI 1 ∧ w.1 0 7 = nI lam ∧ gr v k w ∧ ls v k w w.2.1.1 n (ce_L v k lam n) ∧ (∀ x ∈ xs, x ∈ fm_K v k) ∧ (∃ b, w.1 0 11 = bI b ∧ (b = true → 60 < (ce_L v k lam (n + 1)).length)) ∧ hf_ v k xs w
theorem XI_c {c : cs_} {xs : List Nat} {w : ma_W} (h : XI c xs w) : zL w.2.1.1 ∧ w.1 w.2.1.1 4 = nI (es_ c).length ∧ w.1 w.2.1.1 3 = nI (lv c) ∧ w.1 2 2 = nI (vv c) ∧ (es_ c).length ≤ 60 ∧ lv c ≤ 10 ∧ vv c ≤ 6 := by
  obtain ⟨h1, h2, h3⟩ := h
  refine ⟨xr_1 h1, ?_⟩
  match c, h3 with
  | none, ⟨_, _, g3, g4, g5⟩ => exact ⟨g5, g4, g3, by decide, by decide, by decide⟩
  | some (v, k, lam, n), ⟨g1, _, _, _, g5, g6, _⟩ => exact ⟨g6.2.2.2.1, g6.2.2.1, g5.1, g6.1, g6.2.1, g1.2.1⟩
/-- the places of the reference are not touched -/
def frX (w w' : ma_W) : Prop := (∀ p, 24 ≤ p → w'.1 p = w.1 p) ∧ ∀ q, 24 ≤ q → w'.2.2 q = w.2.2 q
theorem frX_refl (w : ma_W) : frX w w := ⟨fun _ _ => rfl, fun _ _ => rfl⟩
theorem frX_of {ps qs : List Nat} {w w' : ma_W} (h : fr ps qs w w') (h1 : ∀ p ∈ ps, p < 24) (h2 : ∀ q ∈ qs, q < 24) : frX w w' := ⟨fun p hp => h.2.1 p (fun z => by have := h1 p z; omega), fun q hq => h.2.2 q (fun z => by have := h2 q z; omega)⟩
theorem frX_trans {w w' w'' : ma_W} (h : frX w w') (g : frX w' w'') : frX w w'' := ⟨fun p hp => (g.1 p hp).trans (h.1 p hp), fun q hq => (g.2 q hq).trans (h.2 q hq)⟩
end
section
/-! CONTRACTS: PackingCensus, calls that only look -/
def T_PC_level : ma_T := fun as w post => ∃ c xs, as = [.inr 0] ∧ XI c xs w ∧ post (A_level c) w
theorem c_PC_level {l : Launch} : ma_Met l y_PC_level (w_PC_level :: zw_t) 1 true T_PC_level := by
  refine z_PC_level c_LI_rowLength (by decide) (by rintro as w post ⟨c, xs, rfl, -⟩; simp) ?_
  rintro as w post ⟨c, xs, rfl, hX, hp⟩ Go hGo
  obtain ⟨hz, -, h3, -⟩ := XI_c hX
  obtain ⟨-, -, hc⟩ := hX
  refine q_PC_level_0 hGo ?_
  rw [ma_isk_of (zL_s hz)]
  match c, hc, h3, hp with
  | none, hc, _, hp => exact bI_at (b := false) hc.2.1 (fun _ => q_PC_level_17 hGo (q_PC_level_18 hGo hp)) (fun h => by cases h)
  | some (v, k, lam, n), hc, h3, hp => exact bI_at (b := true) hc.2.2.1 (fun h => by cases h) (fun _ => i_LI_rowLength hz (q_PC_level_18 hGo (by rw [h3]; exact hp)))
def T_PC_entries : ma_T := fun as w post => ∃ c xs, as = [.inr 0] ∧ XI c xs w ∧ post (A_entries c) w
theorem c_PC_entries {l : Launch} : ma_Met l y_PC_entries (w_PC_entries :: zw_t) 1 true T_PC_entries := by
  refine z_PC_entries c_LI_size (by decide) (by rintro as w post ⟨c, xs, rfl, -⟩; simp) ?_
  rintro as w post ⟨c, xs, rfl, hX, hp⟩ Go hGo
  obtain ⟨hz, h4, -⟩ := XI_c hX
  refine q_PC_entries_0 hGo ?_
  rw [ma_isk_of (zL_s hz)]
  exact i_LI_size hz (by rw [h4]; exact hp)
/-- an entry of the list -/
theorem XI_e {c : cs_} {xs : List Nat} {w : ma_W} {j : Nat} (h : XI c xs w) (hj : j < (es_ c).length) : ∃ v k lam n, c = some (v, k, lam, n) ∧ vk v k ∧ (1 ≤ lam ∧ lam ≤ 4) ∧ w.1 0 7 = nI lam ∧ gr v k w ∧ ls v k w w.2.1.1 n (ce_L v k lam n) ∧ j < (ce_L v k lam n).length := by
  obtain ⟨h1, h2, h3⟩ := h
  match c, h3, hj with
  | none, _, hj => exact absurd hj (Nat.not_lt_zero j)
  | some (v, k, lam, n), ⟨g1, g2, g3, g4, g5, g6, g7⟩, hj => exact ⟨v, k, lam, n, rfl, g1, g2, g4, g5, g6, hj⟩
def T_PC_block : ma_T := fun as w post => ∃ c xs x y, as = [.inr 0, .inl x, .inl y] ∧ XI c xs w ∧ post (A_block c x y) w
theorem c_PC_block {l : Launch} : ma_Met l y_PC_block (w_PC_block :: zw_t) 1 true T_PC_block := by
  refine z_PC_block c_LI_has (by decide) c_LI_rowLength (by decide) c_LI_mask (by decide) (by rintro as w post ⟨c, xs, x, y, rfl, -⟩; simp) ?_
  rintro as w post ⟨c, xs, x, y, rfl, hX, hp⟩ Go hGo
  obtain ⟨hz, h4, h3, -, h60, h10, -⟩ := XI_c hX
  have no : (hs x (es_ c).length && hs y (lv c)) = false → Go 38 [some (.inr 0), some (.inl x), some (.inl y)] [] w := by
    intro h
    refine q_PC_block_38 hGo (q_PC_block_39 hGo ?_)
    rw [A_block, if_neg (by rw [h]; decide)] at hp
    exact hp
  refine q_PC_block_0 hGo ?_
  rw [ma_isk_of (zL_s hz)]
  refine i_LI_has hz h4 (bI_eq (fun h => no (by rw [h]; rfl)) (fun h => ⟨fun h9 => no (by rw [hs_f1 h9, Bool.and_false]), fun h9 => ?_⟩))
  rw [ma_isk_of (zL_s hz)]
  refine i_LI_rowLength hz ?_
  rw [h3]
  refine ⟨fun h8 => no (by rw [hs_f2 h8, Bool.and_false]), fun h8 => ?_⟩
  rw [ma_isk_of (zL_s hz)]
  have hy := hs_t2 h9 h8
  obtain ⟨i, hi, rfl⟩ := hs_t (by omega) h
  obtain ⟨j, hj, rfl⟩ := hs_t (by omega) hy
  rw [A_block, if_pos (by rw [h, hy]; rfl), e_at, nI_clamp (by omega), nI_clamp (by omega)] at hp
  obtain ⟨v, k, lam, n, rfl, hv, -, -, -, hl, hi2⟩ := XI_e hX hi
  obtain ⟨g1, -, g3, -⟩ := hl.2.2.2.2 i hi2
  refine i_LI_mask hz (by omega) (q_PC_block_39 hGo ?_)
  rw [g3 j (by rw [g1]; exact hj)]
  exact hp
def T_PC_order : ma_T := fun as w post => ∃ c xs x, as = [.inr 0, .inl x] ∧ XI c xs w ∧ post (A_order c x) w
theorem c_PC_order {l : Launch} : ma_Met l y_PC_order (w_PC_order :: zw_t) 1 true T_PC_order := by
  refine z_PC_order c_LI_has (by decide) c_LI_symmetriesOf (by decide) (by rintro as w post ⟨c, xs, x, rfl, -⟩; simp) ?_
  rintro as w post ⟨c, xs, x, rfl, hX, hp⟩ Go hGo
  obtain ⟨hz, h4, h3, -, h60, h10, -⟩ := XI_c hX
  refine q_PC_order_0 hGo ?_
  rw [ma_isk_of (zL_s hz)]
  refine i_LI_has hz h4 (bI_eq (fun h => q_PC_order_22 hGo (q_PC_order_23 hGo ?_)) (fun h => ?_))
  · match c, h, hp with
    | none, _, hp => exact hp
    | some (v, k, lam, n), h, hp =>
      have h : hs x (ce_L v k lam n).length = false := h
      simp only [A_order, h] at hp
      exact hp
  · rw [ma_isk_of (zL_s hz)]
    obtain ⟨i, hi, rfl⟩ := hs_t (by omega) h
    obtain ⟨v, k, lam, n, rfl, hv, -, -, -, hl, hi2⟩ := XI_e hX hi
    obtain ⟨-, -, -, g4, -⟩ := hl.2.2.2.2 i hi2
    refine i_LI_symmetriesOf hz (by have := hl.1; omega) (q_PC_order_23 hGo ?_)
    rw [g4]
    have h : hs (nI i) (ce_L v k lam n).length = true := h
    simp only [A_order, h, if_true, e_at, nI_clamp (show i < 2 ^ 31 by omega)] at hp
    exact hp
def T_PC_together : ma_T := fun as w post => ∃ c xs x y z, as = [.inr 0, .inl x, .inl y, .inl z] ∧ XI c xs w ∧ post (A_together c x y z) w
theorem c_PC_together {l : Launch} : ma_Met l y_PC_together (w_PC_together :: zw_t) 2 true T_PC_together := by
  refine z_PC_together c_LI_has (by decide) c_GR_isPoint (by decide) c_LI_blocksHolding (by decide) (by rintro as w post ⟨c, xs, x, y, z, rfl, -⟩; simp) ?_
  rintro as w post ⟨c, xs, x, y, z, rfl, hX, hp⟩ Go hGo
  obtain ⟨hz, h4, h3, h2, h60, h10, hv6⟩ := XI_c hX
  have no : (hs x (es_ c).length && (hs y (vv c) && hs z (vv c))) = false → Go 33 [some (.inr 0), some (.inl x), some (.inl y), some (.inl z)] [] w := by
    intro h
    refine q_PC_together_33 hGo ?_
    rw [A_together, if_neg (by rw [h]; decide)] at hp
    exact hp
  refine q_PC_together_0 hGo ?_
  rw [ma_isk_of (zL_s hz)]
  refine i_LI_has hz h4 (bI_eq (fun h => no (by rw [h]; rfl)) (fun hx1 => i_GR_isPoint h2 (bI_eq (fun h => no (by rw [h]; simp)) (fun hy1 => i_GR_isPoint h2 (bI_ne (fun hz1 => ?_) (fun h => no (by rw [h]; simp)))))))
  rw [A_together, if_pos (by rw [hx1, hy1, hz1]; rfl)] at hp
  obtain ⟨i, hi, rfl⟩ := hs_t (by omega) hx1
  obtain ⟨a, ha, rfl⟩ := hs_t (by omega) hy1
  obtain ⟨b, hb, rfl⟩ := hs_t (by omega) hz1
  rw [e_at, nI_clamp (by omega), nI_clamp (by omega), nI_clamp (by omega)] at hp
  obtain ⟨v, k, lam, n, rfl, hv, -, -, -, hl, hi2⟩ := XI_e hX hi
  obtain ⟨hi60, he10, he3, hle, he64⟩ := ls_at hv hl hi2
  refine q_PC_together_35 hGo ?_
  rw [ma_isk_of (zL_s hz), pr_e (by omega) (by omega)]
  refine i_LI_blocksHolding hz hi60 (sw_lt a (by omega) b (by omega)) he10 he3 hle he64 ?_
  rw [meet_e (by omega) (by omega) he64]
  exact hp
def T_PC_design : ma_T := fun as w post => ∃ c xs x, as = [.inr 0, .inl x] ∧ XI c xs w ∧ post (bI (A_design c x)) w
theorem c_PC_design {l : Launch} : ma_Met l y_PC_design (w_PC_design :: zw_t) 3 true T_PC_design := by
  refine z_PC_design c_LI_has (by decide) c_PC_isDesign (by decide) (by rintro as w post ⟨c, xs, x, rfl, -⟩; simp) ?_
  rintro as w post ⟨c, xs, x, rfl, hX, hp⟩ Go hGo
  obtain ⟨hz, h4, h3, h2, h60, h10, hv6⟩ := XI_c hX
  have no : A_design c x = false → Go 23 [some (.inr 0), some (.inl x)] [] w := fun h => q_PC_design_23 hGo (q_PC_design_24 hGo ⟨bo0, by rw [h] at hp; exact hp⟩)
  refine q_PC_design_0 hGo ?_
  rw [ma_isk_of (zL_s hz)]
  refine i_LI_has hz h4 (bI_eq (fun h => no ?_) (fun h => ?_))
  · match c, h with
    | none, _ => rfl
    | some (v, k, lam, n), h =>
      have h : hs x (ce_L v k lam n).length = false := h
      simp [A_design, h]
  · obtain ⟨i, hi, rfl⟩ := hs_t (by omega) h
    obtain ⟨v, k, lam, n, rfl, hv, hlam, h7, hg, hl, hi2⟩ := XI_e hX hi
    have h : hs (nI i) (ce_L v k lam n).length = true := h
    have hA : A_design (some (v, k, lam, n)) (nI i) = isd v lam ((ce_L v k lam n).getD i []) := by
      simp [A_design, h, e_at, nI_clamp (show i < 2 ^ 31 by omega), es_]
    refine i_PC_isDesign (es := ce_L v k lam n) hv hX.1 hl hi2 hg.1 h7 (by omega) (bI_eq (fun h9 => no (by rw [hA]; exact h9)) (fun h9 => q_PC_design_24 hGo ⟨bo1, ?_⟩))
    rw [hA, h9] at hp
    exact hp
def T_PC_orbit : ma_T := fun as w post => ∃ c xs x y, as = [.inr 0, .inl x, .inl y] ∧ XI c xs w ∧ post (A_orbit c x y) w
theorem c_PC_orbit {l : Launch} : ma_Met l y_PC_orbit (w_PC_orbit :: zw_t) 1 true T_PC_orbit := by
  refine z_PC_orbit c_LI_has (by decide) c_GR_isPoint (by decide) c_LI_leastImage (by decide) (by rintro as w post ⟨c, xs, x, y, rfl, -⟩; simp) ?_
  rintro as w post ⟨c, xs, x, y, rfl, hX, hp⟩ Go hGo
  obtain ⟨hz, h4, h3, h2, h60, h10, hv6⟩ := XI_c hX
  have no : (hs x (es_ c).length && hs y (vv c)) = false → Go 34 [some (.inr 0), some (.inl x), some (.inl y)] [] w := by
    intro h
    refine q_PC_orbit_34 hGo (q_PC_orbit_35 hGo ?_)
    match c, h, hp with
    | none, _, hp => exact hp
    | some (v, k, lam, n), h, hp =>
      have h : (hs x (ce_L v k lam n).length && hs y v) = false := h
      simp only [A_orbit, h] at hp
      exact hp
  refine q_PC_orbit_0 hGo ?_
  rw [ma_isk_of (zL_s hz)]
  refine i_LI_has hz h4 (bI_eq (fun h => no (by rw [h]; rfl)) (fun hx1 => i_GR_isPoint h2 (bI_eq (fun h => no (by rw [h, Bool.and_false])) (fun hy1 => ?_))))
  rw [ma_isk_of (zL_s hz)]
  obtain ⟨i, hi, rfl⟩ := hs_t (by omega) hx1
  obtain ⟨a, ha, rfl⟩ := hs_t (by omega) hy1
  obtain ⟨v, k, lam, n, rfl, hv, -, -, -, hl, hi2⟩ := XI_e hX hi
  obtain ⟨-, -, -, -, g5⟩ := hl.2.2.2.2 i hi2
  have hh : (hs (nI i) (ce_L v k lam n).length && hs (nI a) v) = true := by
    have h1 : hs (nI i) (ce_L v k lam n).length = true := hx1
    have h2 : hs (nI a) v = true := hy1
    rw [h1, h2]
    rfl
  simp only [A_orbit, hh, if_true, e_at, nI_clamp (show i < 2 ^ 31 by omega), nI_clamp (show a < 2 ^ 31 by omega)] at hp
  refine i_LI_leastImage hz (by have := hl.1; have : a < v := ha; have := hv.2.1; omega) (q_PC_orbit_35 hGo ?_)
  rw [g5 a ha]
  exact hp
def T_PC_designs : ma_T := fun as w post => ∃ c xs, as = [.inr 0] ∧ XI c xs w ∧ post (A_designs c) w
theorem c_PC_designs {l : Launch} : ma_Met l y_PC_designs (w_PC_designs :: zw_t) 3 true T_PC_designs := by
  refine z_PC_designs c_LI_size (by decide) c_PC_isDesign (by decide) (by rintro as w post ⟨c, xs, rfl, -⟩; simp) ?_
  rintro as w post ⟨c, xs, rfl, hX, hp⟩ Go hGo
  obtain ⟨hz, h4, h3, h2, h60, h10, hv6⟩ := XI_c hX
  refine q_PC_designs_0 hGo ?_
  match c, hX, h4, hp with
  | none, hX, h4, hp =>
    refine q_PC_designs_4 hGo ?_
    rw [ma_isk_of (zL_s hz)]
    exact i_LI_size hz (pk_le 0 0 (fun _ => q_PC_designs_37 hGo hp) (fun h => absurd h (by omega)) h4 rfl (by omega) (by omega))
  | some (v, k, lam, n), hX, h4, hp =>
    obtain ⟨hx, -, hv, hlam, -, h7, hg, hl, -⟩ := hX
    have hl60 := hl.1
    have loop : ∀ (d i : Nat), i + d = (ce_L v k lam n).length → Go 4 [some (.inr 0), some (.inl (nI (((ce_L v k lam n).take i).countP (fun e => isd v lam e)))), some (.inl (nI i))] [] w := by
      intro d
      induction d with
      | zero =>
        intro i hd
        refine q_PC_designs_4 hGo ?_
        rw [ma_isk_of (zL_s hz)]
        refine i_LI_size hz (pk_le (ce_L v k lam n).length i (fun _ => q_PC_designs_37 hGo ?_) (fun h => absurd h (by omega)) h4 rfl (by omega) (by omega))
        rw [List.take_of_length_le (by omega)]
        exact hp
      | succ d ih =>
        intro i hd
        have hi : i < (ce_L v k lam n).length := by omega
        have hstep := ih (i + 1) (by omega)
        rw [List.take_add_one, List.getElem?_eq_getElem hi, ← gd_at (d := []) hi, Option.toList_some, List.countP_append, List.countP_singleton] at hstep
        refine q_PC_designs_4 hGo ?_
        rw [ma_isk_of (zL_s hz)]
        refine i_LI_size hz (pk_le (ce_L v k lam n).length i (fun h => absurd h (by omega)) (fun _ => i_PC_isDesign (es := ce_L v k lam n) hv hx hl hi hg.1 h7 (by omega) (bI_eq (fun h => q_PC_designs_28 hGo (q_PC_designs_29 hGo ?_)) (fun h => q_PC_designs_29 hGo ?_))) h4 rfl (by omega) (by omega))
        · rw [nI_add, nI_add]
          rw [if_neg (by rw [h]; decide)] at hstep
          exact hstep
        · rw [nI_add, nI_add]
          rw [if_pos h] at hstep
          exact hstep
    exact loop (ce_L v k lam n).length 0 (by omega)
theorem fcP : ∀ v, v < 7 → (pm_P v).length = fc v := by decide +kernel
theorem fc_le : ∀ v, v < 7 → fc v ≤ 720 := by decide +kernel
theorem ord_le {v k : Nat} {e : List Nat} : ce_ord v k e ≤ (pm_P v).length := List.countP_le_length
def T_PC_labelled : ma_T := fun as w post => ∃ c xs, as = [.inr 0] ∧ XI c xs w ∧ post (A_labelled c) w
theorem c_PC_labelled {l : Launch} : ma_Met l y_PC_labelled (w_PC_labelled :: zw_t) 1 true T_PC_labelled := by
  refine z_PC_labelled c_GR_renamings (by decide) c_LI_size (by decide) c_LI_symmetriesOf (by decide) (by rintro as w post ⟨c, xs, rfl, -⟩; simp) ?_
  rintro as w post ⟨c, xs, rfl, hX, hp⟩ Go hGo
  obtain ⟨hz, h4, h3, h2, h60, h10, hv6⟩ := XI_c hX
  refine q_PC_labelled_0 hGo (i_GR_renamings hv6 h2 ?_)
  match c, hX, h4, hp, hv6 with
  | none, hX, h4, hp, _ =>
    refine q_PC_labelled_12 hGo ?_
    rw [ma_isk_of (zL_s hz)]
    exact i_LI_size hz (pk_le 0 0 (fun _ => q_PC_labelled_55 hGo hp) (fun h => absurd h (by omega)) h4 rfl (by omega) (by omega))
  | some (v, k, lam, n), hX, h4, hp, hv6 =>
    obtain ⟨hx, -, hv, hlam, -, h7, hg, hl, -⟩ := hX
    have hl60 := hl.1
    have hv6 : v ≤ 6 := hv6
    have hfP := fcP v (by omega)
    have hfc := fc_le v (by omega)
    have loop : ∀ (d i : Nat) (o : Option ma_V), i + d = (ce_L v k lam n).length → Go 12 [some (.inr 0), some (.inl (nI (((ce_L v k lam n).take i).map (fun e => (pm_P v).length / ce_ord v k e)).sum)), some (.inl (nI (fc v))), some (.inl (nI i)), o] [] w := by
      intro d
      induction d with
      | zero =>
        intro i o hd
        refine q_PC_labelled_12 hGo ?_
        rw [ma_isk_of (zL_s hz)]
        refine i_LI_size hz (pk_le (ce_L v k lam n).length i (fun _ => q_PC_labelled_55 hGo ?_) (fun h => absurd h (by omega)) h4 rfl (by omega) (by omega))
        rw [List.take_of_length_le (by omega), ← ce_labelled]
        exact hp
      | succ d ih =>
        intro i o hd
        have hi : i < (ce_L v k lam n).length := by omega
        have hstep := fun o => ih (i + 1) o (by omega)
        rw [List.take_add_one, List.getElem?_eq_getElem hi, ← gd_at (d := []) hi, Option.toList_some, List.map_append, List.sum_append_nat, List.map_singleton, List.sum_singleton] at hstep
        obtain ⟨-, -, -, g4, -⟩ := hl.2.2.2.2 i hi
        have hpos := ce_ord_pos (v := v) (k := k) (e := (ce_L v k lam n).getD i [])
        have hle := ord_le (v := v) (k := k) (e := (ce_L v k lam n).getD i [])
        refine q_PC_labelled_12 hGo ?_
        rw [ma_isk_of (zL_s hz)]
        refine i_LI_size hz (pk_le (ce_L v k lam n).length i (fun h => absurd h (by omega)) (fun _ => ?_) h4 rfl (by omega) (by omega))
        rw [ma_isk_of (zL_s hz)]
        refine i_LI_symmetriesOf hz (by omega) ?_
        rw [g4]
        refine pk_le (ce_ord v k ((ce_L v k lam n).getD i [])) 0 (fun h => absurd h (by omega)) (fun _ => ⟨nI_ne0 hpos (by omega), q_PC_labelled_47 hGo ?_⟩) rfl rfl (by omega) (by omega)
        rw [pk_div (by omega) hpos (by omega), nI_add, nI_add, ← hfP]
        rw [← hfP] at hstep
        exact hstep _
    exact loop (ce_L v k lam n).length 0 _ (by omega)
def T_PC_hand : ma_T := fun as w post => ∃ c xs x, as = [.inr 0, .inl x] ∧ XI c xs w ∧ post (A_hand xs x) w
theorem c_PC_hand {l : Launch} : ma_Met l y_PC_hand (w_PC_hand :: zw_t) 1 true T_PC_hand := by
  refine z_PC_hand c_RO_has (by decide) c_RO_get (by decide) (by rintro as w post ⟨c, xs, x, rfl, -⟩; simp) ?_
  rintro as w post ⟨c, xs, x, rfl, hX, hp⟩ Go hGo
  obtain ⟨-, hr, -⟩ := hX
  have hl := hr.1
  refine q_PC_hand_0 hGo (i_RO_has (Or.inl rfl) hr.2.1 (bI_eq (fun h => q_PC_hand_22 hGo (q_PC_hand_23 hGo ?_)) (fun h => ?_)))
  · rw [A_hand, if_neg (by rw [h]; decide)] at hp
    exact hp
  · rw [A_hand, if_pos h] at hp
    obtain ⟨j, hj, rfl⟩ := hs_t (by omega) h
    rw [nI_clamp (by omega)] at hp
    refine i_RO_get (Or.inl rfl) (by omega) (q_PC_hand_23 hGo ?_)
    rw [hr.2.2 j hj]
    exact hp
end
section
/-! CONTRACTS: PackingCensus, calls that act -/
theorem mem0 {w w' : ma_W} {ps qs : List Nat} (hf : fr ps qs w w') (h : XI none [] w) (h0 : 0 ∉ ps) (h2 : 2 ∉ ps) (h3 : ∀ p ∈ ps, p < 16) (h10 : 10 ∉ ps) (h11 : 11 ∉ qs) : XI none [] w' := by
  obtain ⟨a1, a2, a3, a4, a5, a6, a7⟩ := h
  have hz := zL_big (xr_1 a1)
  refine ⟨xr_fr a1 hf, ro_fr a2 hf h10 h11, rfl, ?_, ?_, ?_, ?_⟩
  · rw [hf.2.1 0 h0]; exact a4
  · rw [hf.2.1 2 h2]; exact a5
  · rw [hf.1, hf.2.1 _ (fun z => by have := h3 _ z; omega)]; exact a6
  · rw [hf.1, hf.2.1 _ (fun z => by have := h3 _ z; omega)]; exact a7
/-- the hand has changed, its form is not known any more -/
theorem XI_upd {c : cs_} {xs ys : List Nat} {w w' : ma_W} (h : XI c xs w) (hf : fr [0, 10] [11] w w') (hk : ∀ j, j ≠ 9 → w'.1 0 j = w.1 0 j) (h9 : w'.1 0 9 = nI 0) (hr : ro w' 10 ys) (hy : match c with
    | none => ys = []
    | some (v, k, _, _) => ∀ x ∈ ys, x ∈ fm_K v k) : XI c ys w' := by
  obtain ⟨a1, a2, a3⟩ := h
  have hb := zL_big (xr_1 a1)
  have hn0 : w.2.1.1 ∉ [0, 10] := nm2 (by omega) (by omega)
  refine ⟨xr_fr a1 hf, hr, ?_⟩
  match c, a3, hy with
  | none, ⟨b1, b2, b3, b4, b5⟩, hy =>
    refine ⟨hy, by rw [hk 10 (by decide)]; exact b2, by rw [hf.2.1 2 (by decide)]; exact b3, ?_, ?_⟩
    · rw [hf.1, hf.2.1 _ hn0]; exact b4
    · rw [hf.1, hf.2.1 _ hn0]; exact b5
  | some (v, k, lam, n), ⟨b1, b2, b3, b4, b5, b6, b7, ⟨b, b8, b9⟩, b10⟩, hy =>
    refine ⟨b1, b2, by rw [hk 10 (by decide)]; exact b3, by rw [hk 7 (by decide)]; exact b4, gr_fr b5 hf (by decide) (by decide) (by decide), ?_, hy, ⟨b, by rw [hk 11 (by decide)]; exact b8, b9⟩, false, h9, fun z => by cases z⟩
    rw [hf.1]
    exact ls_fr b6 hf hn0 (nm1 (by omega)) (nm1 (by omega)) (nm1 (by omega))
theorem up9 {w : ma_W} {x : Int32} : ∀ j, j ≠ 9 → ma_up w.1 0 9 x 0 j = w.1 0 j := fun j hj => ma_up_k _ _ _ _ hj
def T_PC_put : ma_T := fun as w post => ∃ c xs x, as = [.inr 0, .inl x] ∧ XI c xs w ∧ ∀ w', XI c (N_put c xs x) w' → frX w w' → post (A_put c xs x) w'
theorem c_PC_put {l : Launch} (cb : ma_Met l y_JI_bitCount (w_JI_bitCount :: zw_t) 0 true T_JI_bitCount) : ma_Met l y_PC_put (w_PC_put :: zw_t) 2 true T_PC_put := by
  refine z_PC_put (c_GR_isBlock cb) (by decide) c_RO_size (by decide) c_RO_add (by decide) (by rintro as w post ⟨c, xs, x, rfl, -⟩; simp) ?_
  rintro as w post ⟨c, xs, x, rfl, hX, hp⟩ Go hGo
  have h10 : zR 10 := Or.inl rfl
  match c, hX, hp with
  | none, hX, hp => exact q_PC_put_0 hGo (bI_at (b := false) hX.2.2.2.1 (fun _ => q_PC_put_18 hGo (hp w hX (frX_refl w))) (fun h => by cases h))
  | some (v, k, lam, n), hX, hp =>
    obtain ⟨a1, a2, b1, b2, b3, b4, b5, b6, b7, b8, b9⟩ := id hX
    have hl := a2.1
    refine q_PC_put_0 hGo (bI_at (b := true) b3 (fun h => by cases h) (fun _ => i_GR_isBlock b1 b5.1 b5.2.1 (bI_ne (fun h => ?_) (fun h => q_PC_put_18 hGo ?_))))
    · refine q_PC_put_21 hGo (i_RO_size h10 (pk_lt xs.length 10 (fun h1 => q_PC_put_36 hGo (i_RO_add h10 a2.2.1 h1 ⟨bo0, i_RO_size h10 ?_⟩)) (fun h1 => ?_) a2.2.1 rfl (by omega) (by omega)))
      · obtain ⟨m, hm, rfl⟩ := isb_t b1.2.1 h
        have hm64 := vk_64 b1 hm
        have hN : N_put (some (v, k, lam, n)) xs (nI m) = xs ++ [m] := by
          simp only [N_put, h, h1, and_self, if_true, nI_clamp (show m < 2 ^ 31 by omega)]
        have hA : A_put (some (v, k, lam, n)) xs (nI m) = nI (xs.length + 1) := by
          simp only [A_put, h, h1, if_true]
        rw [hN, hA] at hp
        have hra := ro_add (m := m) a2 h1
        show post (ma_up (ma_up w.1 10 1 (nI (xs.length + 1))) 0 9 (nI 0) 10 1) _
        rw [ma_up_p _ _ _ _ (by decide), ma_up_s]
        have hfr : fr [0, 10] [11] w (ma_up (ma_up w.1 10 1 (nI (xs.length + 1))) 0 9 (nI 0), w.2.1, ma_up w.2.2 11 xs.length (nI m)) := fr_a (fr_f (fr_f (fr_refl _ _ _) (by decide) 1 _) (by decide) 9 _) (by decide) _ _
        refine hp _ (XI_upd hX hfr (fun j hj => ?_) (rfl) (ro_fr hra (fr_f (fr_refl [0] [] _) (by decide) 9 (nI 0)) (by decide) (by decide)) (fun y hy => ?_)) (frX_of hfr (by decide) (by decide))
        · try dsimp only
          rw [ma_up_k _ _ _ _ hj, ma_up_p _ _ _ _ (by decide)]
        · rcases List.mem_append.mp hy with h2 | h2
          · exact b7 y h2
          · rw [List.mem_singleton.mp h2]; exact hm
      · have hN : N_put (some (v, k, lam, n)) xs x = xs := by
          simp only [N_put]
          rw [if_neg (fun z => absurd z.2 (by omega))]
        have hA : A_put (some (v, k, lam, n)) xs x = Int32.ofInt (-5) := by
          simp only [A_put, h, if_true]
          rw [if_neg (by omega)]
        rw [hN, hA] at hp
        exact hp w hX (frX_refl w)
    · have hN : N_put (some (v, k, lam, n)) xs x = xs := by
        simp only [N_put]
        rw [if_neg (fun z => by rw [h] at z; cases z.1)]
      have hA : A_put (some (v, k, lam, n)) xs x = Int32.ofInt (-2) := by
        simp only [A_put]
        rw [if_neg (by rw [h]; decide)]
      rw [hN, hA] at hp
      exact hp w hX (frX_refl w)
def T_PC_drop : ma_T := fun as w post => ∃ c xs x, as = [.inr 0, .inl x] ∧ XI c xs w ∧ ∀ w', XI c (N_drop xs x) w' → frX w w' → post (bI (A_drop xs x)) w'
theorem c_PC_drop {l : Launch} : ma_Met l y_PC_drop (w_PC_drop :: zw_t) 2 true T_PC_drop := by
  refine z_PC_drop c_RO_has (by decide) c_RO_removeAt (by decide) (by rintro as w post ⟨c, xs, x, rfl, -⟩; simp) ?_
  rintro as w post ⟨c, xs, x, rfl, hX, hp⟩ Go hGo
  have h10 : zR 10 := Or.inl rfl
  have hr := hX.2.1
  have hl := hr.1
  refine q_PC_drop_0 hGo (i_RO_has h10 hr.2.1 (bI_ne (fun h => ?_) (fun h => ⟨bo0, ?_⟩)))
  · have hp2 := hp
    rw [N_drop, if_pos h, A_drop, h] at hp2
    obtain ⟨j, hj, rfl⟩ := hs_t (by omega) h
    rw [nI_clamp (by omega)] at hp2
    refine q_PC_drop_13 hGo (i_RO_removeAt h10 hr hj (fun w1 f1 r1 => ⟨bo0, bo1, ?_⟩))
    have hfr : fr [0, 10] [11] w (ma_up w1.1 0 9 (nI 0), w1.2.1, w1.2.2) := fr_f (fr_mono f1 (fun x hx => by rw [List.mem_singleton.mp hx]; decide) (fun _ h => h)) (by decide) 9 _
    refine hp2 _ (XI_upd hX hfr (fun j hj => ?_) (rfl) (ro_fr r1 (fr_f (fr_refl [0] [] w1) (by decide) 9 (nI 0)) (by decide) (by decide)) ?_) (frX_of hfr (by decide) (by decide))
    · try dsimp only
      rw [ma_up_k _ _ _ _ hj, f1.2.1 0 (by decide)]
    · obtain ⟨-, -, a3⟩ := hX
      match c, a3 with
      | none, ⟨b1, _⟩ => rw [b1] at hj; exact absurd hj (Nat.not_lt_zero j)
      | some (v, k, lam, n), ⟨b1, b2, b3, b4, b5, b6, b7, _⟩ => exact fun y hy => b7 y (List.mem_of_mem_eraseIdx hy)
  · rw [N_drop, if_neg (by rw [h]; decide), A_drop, h] at hp
    exact hp w hX (frX_refl w)
theorem tau_ok {v a b : Nat} (h3 : 3 ≤ v) (h6 : v ≤ 6) (ha : a < v) (hb : b < v) : (bi_tau v a b).Perm (List.range v) ∧ ∀ m, m < 2 ^ v → pm_im (bi_tau v a b) m = sw a b m := by
  have : v = 3 ∨ v = 4 ∨ v = 5 ∨ v = 6 := by omega
  rcases this with rfl | rfl | rfl | rfl
  · obtain ⟨h1, h2⟩ := bi_tau3 a ha b hb
    exact ⟨List.isPerm_iff.mp h1, h2⟩
  · obtain ⟨h1, h2⟩ := bi_tau4 a ha b hb
    exact ⟨List.isPerm_iff.mp h1, h2⟩
  · obtain ⟨h1, h2⟩ := bi_tau5 a ha b hb
    exact ⟨List.isPerm_iff.mp h1, h2⟩
  · obtain ⟨h1, h2⟩ := bi_tau6 a ha b hb
    exact ⟨List.isPerm_iff.mp h1, h2⟩
/-- a swap keeps blocks, the greatest row and the order -/
theorem sw_keep {v k a b : Nat} {xs : List Nat} (hv : vk v k) (ha : a < v) (hb : b < v) (hx : ∀ x ∈ xs, x ∈ fm_K v k) : (∀ x ∈ xs.map (sw a b), x ∈ fm_K v k) ∧ sp_max v (fm_K v k) (xs.map (sw a b)) = sp_max v (fm_K v k) xs ∧ ce_ord v k (xs.map (sw a b)) = ce_ord v k xs := by
  obtain ⟨h1, h2⟩ := tau_ok hv.1 hv.2.1 ha hb
  have hlt : ∀ x ∈ xs, x < 2 ^ v := fun x h => (fm_K_mem.mp (hx x h)).1
  have e : xs.map (sw a b) = xs.map (pm_im (bi_tau v a b)) := List.map_congr_left (fun x h => (h2 x (hlt x h)).symm)
  rw [e]
  refine ⟨fun y hy => ?_, sp_ren_max h1 hlt, sp_ren_ord h1 hlt⟩
  obtain ⟨x, hx1, rfl⟩ := List.mem_map.mp hy
  exact fm_K_im h1 (hx x hx1)
def T_PC_swap : ma_T := fun as w post => ∃ c xs x y, as = [.inr 0, .inl x, .inl y] ∧ XI c xs w ∧ ∀ w', XI c (N_swap c xs x y) w' → frX w w' → post (bI (A_swap c x y)) w'
theorem c_PC_swap {l : Launch} : ma_Met l y_PC_swap (w_PC_swap :: zw_t) 1 true T_PC_swap := by
  refine z_PC_swap c_GR_isPoint (by decide) c_RO_exchangePoints (by decide) (by rintro as w post ⟨c, xs, x, y, rfl, -⟩; simp) ?_
  rintro as w post ⟨c, xs, x, y, rfl, hX, hp⟩ Go hGo
  obtain ⟨-, -, -, h2, -, -, hv6⟩ := XI_c hX
  have no : (hs x (vv c) && hs y (vv c)) = false → Go 22 [some (.inr 0), some (.inl x), some (.inl y)] [] w := by
    intro h
    refine q_PC_swap_22 hGo ⟨bo0, ?_⟩
    rw [N_swap, if_neg (by rw [h]; decide), A_swap, h] at hp
    exact hp w hX (frX_refl w)
  refine q_PC_swap_0 hGo (i_GR_isPoint h2 (bI_eq (fun h => no (by rw [h]; rfl)) (fun hx => i_GR_isPoint h2 (bI_ne (fun hy => ?_) (fun h => no (by rw [h, Bool.and_false]))))))
  have hh : (hs x (vv c) && hs y (vv c)) = true := by rw [hx, hy]; rfl
  rw [N_swap, if_pos hh, A_swap, hh] at hp
  obtain ⟨a, ha, rfl⟩ := hs_t (by omega) hx
  obtain ⟨b, hb, rfl⟩ := hs_t (by omega) hy
  rw [nI_clamp (by omega), nI_clamp (by omega)] at hp
  match c, hX, hp, ha, hb with
  | none, _, _, ha, _ => exact absurd ha (Nat.not_lt_zero a)
  | some (v, k, lam, n), hX, hp, ha, hb =>
    have ha : a < v := ha
    have hb : b < v := hb
    obtain ⟨a1, a2, b1, b2, b3, b4, b5, b6, b7, b8, b9⟩ := hX
    obtain ⟨s1, s2, s3⟩ := sw_keep b1 ha hb b7
    have hv6 : v ≤ 6 := hv6
    refine q_PC_swap_24 hGo (i_RO_exchangePoints (Or.inl rfl) (by omega) (by omega) a2 (K64 b1 b7) (fun w1 f1 r1 => ⟨bo1, hp w1 ⟨xr_fr a1 f1, r1, b1, b2, ?_, ?_, gr_fr b5 f1 (by decide) (by decide) (by decide), ?_, s1, ?_, ?_⟩ (frX_of f1 (by decide) (by decide))⟩))
    · rw [f1.2.1 0 (by decide)]; exact b3
    · rw [f1.2.1 0 (by decide)]; exact b4
    · have hbz := zL_big (xr_1 a1)
      rw [f1.1]
      exact ls_fr b6 f1 (nm1 (by omega)) (nm1 (by omega)) (nm1 (by omega)) (nm1 (by omega))
    · rw [f1.2.1 0 (by decide)]; exact b8
    · obtain ⟨b, c1, c2⟩ := b9
      refine ⟨b, by rw [f1.2.1 0 (by decide)]; exact c1, fun hb1 => ?_⟩
      obtain ⟨d1, d2⟩ := c2 hb1
      rw [s2, s3]
      exact ⟨ro_fr d1 f1 (by decide) (by decide), by rw [f1.2.1 0 (by decide)]; exact d2⟩
def T_PC_copy : ma_T := fun as w post => ∃ c xs x, as = [.inr 0, .inl x] ∧ XI c xs w ∧ ∀ w', XI c (N_copy c xs x) w' → frX w w' → post (bI (A_copy c x)) w'
theorem c_PC_copy {l : Launch} : ma_Met l y_PC_copy (w_PC_copy :: zw_t) 2 true T_PC_copy := by
  refine z_PC_copy c_LI_has (by decide) c_LI_writeTo (by decide) (by rintro as w post ⟨c, xs, x, rfl, -⟩; simp) ?_
  rintro as w post ⟨c, xs, x, rfl, hX, hp⟩ Go hGo
  obtain ⟨hz, h4, -, -, h60, -, -⟩ := XI_c hX
  refine q_PC_copy_0 hGo ?_
  rw [ma_isk_of (zL_s hz)]
  refine i_LI_has hz h4 (bI_ne (fun h => ?_) (fun h => ⟨bo0, ?_⟩))
  · rw [N_copy, if_pos h, A_copy, h] at hp
    obtain ⟨i, hi, rfl⟩ := hs_t (by omega) h
    rw [e_at, nI_clamp (by omega)] at hp
    obtain ⟨v, k, lam, n, rfl, hv, -, -, -, hl, hi2⟩ := XI_e hX hi
    obtain ⟨hi60, he10, he3, hle, he64⟩ := ls_at hv hl hi2
    refine q_PC_copy_13 hGo ?_
    rw [ma_isk_of (zL_s hz)]
    refine i_LI_writeTo hz (Or.inl rfl) hi60 he10 he3 hle (fun w1 f1 r1 => ⟨bo0, bo1, ?_⟩)
    have hfr : fr [0, 10] [11] w (ma_up w1.1 0 9 (nI 0), w1.2.1, w1.2.2) := fr_f (fr_mono f1 (fun x hx => by rw [List.mem_singleton.mp hx]; decide) (fun _ h => h)) (by decide) 9 _
    refine hp _ (XI_upd hX hfr (fun j hj => ?_) (rfl) (ro_fr r1 (fr_f (fr_refl [0] [] w1) (by decide) 9 (nI 0)) (by decide) (by decide)) (hl.2.2.2.2 i hi2).2.1) (frX_of hfr (by decide) (by decide))
    try dsimp only
    rw [ma_up_k _ _ _ _ hj, f1.2.1 0 (by decide)]
  · rw [N_copy, if_neg (by rw [h]; decide), A_copy, h] at hp
    exact hp w hX (frX_refl w)
/-- the state behind formHand -/
theorem XI_fh {v k lam n : Nat} {xs : List Nat} {w w' : ma_W} (h : XI (some (v, k, lam, n)) xs w) (hf : fr [0, 1, 12] [5, 6, 7, 8, 9, 13] w w') (hk : ∀ j, j ≠ 8 → j ≠ 9 → w'.1 0 j = w.1 0 j) (h9 : w'.1 0 9 = nI 1) (hr : ro w' 12 (sp_un (fm_K v k) (sp_max v (fm_K v k) xs))) (h8 : w'.1 0 8 = nI (ce_ord v k xs)) : XI (some (v, k, lam, n)) xs w' := by
  obtain ⟨a1, a2, b1, b2, b3, b4, b5, b6, b7, ⟨b, b8, b9⟩, b10⟩ := h
  have hb := zL_big (xr_1 a1)
  have nq : ∀ p, 16 ≤ p → p ∉ [5, 6, 7, 8, 9, 13] := fun p hp z => by
    simp only [List.mem_cons, List.not_mem_nil, or_false] at z
    omega
  refine ⟨xr_fr a1 hf, ro_fr a2 hf (by decide) (by decide), b1, b2, by rw [hk 10 (by decide) (by decide)]; exact b3, by rw [hk 7 (by decide) (by decide)]; exact b4, gr_fr b5 hf (by decide) (by decide) (by decide), ?_, b7, ⟨b, by rw [hk 11 (by decide) (by decide)]; exact b8, b9⟩, true, h9, fun _ => ⟨hr, h8⟩⟩
  rw [hf.1]
  exact ls_fr b6 hf (nm3 (by omega) (by omega) (by omega)) (nq _ (by omega)) (nq _ (by omega)) (nq _ (by omega))
theorem fhX {w w' : ma_W} (hf : fr [0, 1, 12] [5, 6, 7, 8, 9, 13] w w') : frX w w' := frX_of hf (by decide) (by decide)
def T_PC_symmetries : ma_T := fun as w post => ∃ c xs, as = [.inr 0] ∧ XI c xs w ∧ ∀ w', XI c xs w' → frX w w' → post (A_symmetries c xs) w'
theorem c_PC_symmetries {l : Launch} : ma_Met l y_PC_symmetries (w_PC_symmetries :: zw_t) 17 true T_PC_symmetries := by
  refine z_PC_symmetries c_PC_formHand (by decide) (by rintro as w post ⟨c, xs, rfl, -⟩; simp) ?_
  rintro as w post ⟨c, xs, rfl, hX, hp⟩ Go hGo
  match c, hX, hp with
  | none, hX, hp => exact q_PC_symmetries_0 hGo (bI_an (b := false) hX.2.2.2.1 (fun h => by cases h) (fun _ => hp w hX (frX_refl w)))
  | some (v, k, lam, n), hX, hp =>
    obtain ⟨a1, a2, b1, b2, b3, b4, b5, b6, b7, b8, b9⟩ := id hX
    refine q_PC_symmetries_0 hGo (bI_an (b := true) b3 (fun _ => q_PC_symmetries_9 hGo (i_PC_formHand b1 b5 a2 b7 b9 (fun w1 f1 f2 f3 f4 f5 => ?_))) (fun h => by cases h))
    rw [f5]
    exact hp w1 (XI_fh hX f1 f2 f3 f4 f5) (fhX f1)
def T_PC_formed : ma_T := fun as w post => ∃ c xs x, as = [.inr 0, .inl x] ∧ XI c xs w ∧ ∀ w', XI c xs w' → frX w w' → post (A_formed c xs x) w'
theorem c_PC_formed {l : Launch} : ma_Met l y_PC_formed (w_PC_formed :: zw_t) 17 true T_PC_formed := by
  refine z_PC_formed c_RO_has (by decide) c_PC_formHand (by decide) c_RO_get (by decide) (by rintro as w post ⟨c, xs, x, rfl, -⟩; simp) ?_
  rintro as w post ⟨c, xs, x, rfl, hX, hp⟩ Go hGo
  have h10 : zR 10 := Or.inl rfl
  have h12 : zR 12 := Or.inr (Or.inl rfl)
  have hr := hX.2.1
  have hl := hr.1
  refine q_PC_formed_0 hGo (i_RO_has h10 hr.2.1 (bI_ne (fun h => ?_) (fun h => ?_)))
  · obtain ⟨j, hj, rfl⟩ := hs_t (by omega) h
    match c, hX, hp with
    | none, hX, _ =>
      have e := hX.2.2.1
      rw [e] at hj
      exact absurd hj (Nat.not_lt_zero j)
    | some (v, k, lam, n), hX, hp =>
      obtain ⟨a1, a2, b1, b2, b3, b4, b5, b6, b7, b8, b9⟩ := id hX
      have hlen := un_len_max (v := v) (k := k) b7
      refine q_PC_formed_13 hGo (i_PC_formHand b1 b5 a2 b7 b9 (fun w1 f1 f2 f3 f4 f5 => i_RO_has h12 f4.2.1 ?_))
      rw [hs_j (by omega) (by omega)]
      refine bI_eq (fun h => by cases h) (fun _ => i_RO_get h12 (by omega) (q_PC_formed_40 hGo ?_))
      rw [f4.2.2 j (by omega)]
      have h9 := hp w1 (XI_fh hX f1 f2 f3 f4 f5) (fhX f1)
      simp only [A_formed, h, if_true, nI_clamp (show j < 2 ^ 31 by omega)] at h9
      exact h9
  · have h9 := hp w hX (frX_refl w)
    match c, h9 with
    | none, h9 => exact h9
    | some (v, k, lam, n), h9 =>
      simp only [A_formed] at h9
      rw [if_neg (by rw [h]; decide)] at h9
      exact h9
def T_PC_find : ma_T := fun as w post => ∃ c xs, as = [.inr 0] ∧ XI c xs w ∧ ∀ w', XI c xs w' → frX w w' → post (A_find c xs) w'
theorem un_K {v k : Nat} {xs : List Nat} : ∀ x ∈ sp_un (fm_K v k) (sp_max v (fm_K v k) xs), x ∈ fm_K v k := by
  intro x hx
  obtain ⟨j, hj, h⟩ := List.mem_flatMap.mp hx
  rw [List.mem_replicate] at h
  rw [h.2]
  exact K_mem (List.mem_range.mp hj)
theorem c_PC_find {l : Launch} : ma_Met l y_PC_find (w_PC_find :: zw_t) 17 true T_PC_find := by
  refine z_PC_find c_RO_size (by decide) c_LI_rowLength (by decide) c_PC_formHand (by decide) c_LI_placeOf (by decide) (by rintro as w post ⟨c, xs, rfl, -⟩; simp) ?_
  rintro as w post ⟨c, xs, rfl, hX, hp⟩ Go hGo
  have h10 : zR 10 := Or.inl rfl
  have h12 : zR 12 := Or.inr (Or.inl rfl)
  match c, hX, hp with
  | none, hX, hp => exact q_PC_find_0 hGo (bI_at (b := false) hX.2.2.2.1 (fun _ => q_PC_find_24 hGo (hp w hX (frX_refl w))) (fun h => by cases h))
  | some (v, k, lam, n), hX, hp =>
    obtain ⟨a1, a2, b1, b2, b3, b4, b5, b6, b7, b8, b9⟩ := id hX
    have hz := xr_1 a1
    have hl := a2.1
    have hn := b6.2.1
    refine q_PC_find_0 hGo (bI_at (b := true) b3 (fun h => by cases h) (fun _ => i_RO_size h10 ?_))
    rw [ma_isk_of (zL_s hz)]
    refine i_LI_rowLength hz (pk_eq xs.length n (fun h => q_PC_find_26 hGo ?_) (fun h => q_PC_find_24 hGo ?_) a2.2.1 b6.2.2.1 (by omega) (by omega))
    · refine i_PC_formHand b1 b5 a2 b7 b9 (fun w1 f1 f2 f3 f4 f5 => ?_)
      have hX1 := XI_fh hX f1 f2 f3 f4 f5
      obtain ⟨c1, c2, d1, d2, d3, d4, d5, d6, d7, d8, d9⟩ := id hX1
      have hz1 := xr_1 c1
      rw [ma_isk_of (zL_s hz1)]
      refine i_LI_placeOf hz1 h12 d6.1 d6.2.1 d6.2.2.1 d6.2.2.2.1 (fun i hi => ?_) f4 (K64 b1 un_K) ?_
      · obtain ⟨g1, g2, g3, -, -⟩ := d6.2.2.2.2 i hi
        exact ⟨g1, g3, K64 b1 g2⟩
      · have h9 := hp w1 hX1 (fhX f1)
        simp only [A_find, h, if_true] at h9
        exact h9
    · have h9 := hp w hX (frX_refl w)
      simp only [A_find] at h9
      rw [if_neg h] at h9
      exact h9
end
section
/-! CONTRACTS: PackingCensus, begin and grow -/
theorem rng {x : Int32} {a b : Nat} (h1 : ¬ x < nI a) (h2 : x ≤ nI b) (ha : a < 2 ^ 31) (hb : b < 2 ^ 31) : ∃ j, a ≤ j ∧ j ≤ b ∧ x = nI j := by
  have g1 := Int32.not_lt.mp h1
  rw [Int32.le_iff_toInt_le, nI_toInt ha] at g1
  rw [Int32.le_iff_toInt_le, nI_toInt hb] at h2
  refine ⟨x.toInt.toNat, by omega, by omega, ?_⟩
  apply Int32.toInt_inj.mp
  rw [nI_toInt (by omega)]
  omega
theorem okb_t {x y z : Int32} (h : okb x y z = true) : ∃ v k lam, vk v k ∧ 1 ≤ lam ∧ lam ≤ 4 ∧ x = nI v ∧ y = nI k ∧ z = nI lam := by
  simp only [okb, Bool.and_eq_true, decide_eq_true_eq] at h
  obtain ⟨h1, h2, h3, h4, h5, h6⟩ := h
  obtain ⟨v, hv1, hv2, rfl⟩ := rng h1 h2 (by decide) (by decide)
  rw [pk_sub (by omega)] at h4
  obtain ⟨k, hk1, hk2, rfl⟩ := rng h3 (Int32.not_lt.mp h4) (by decide) (by omega)
  obtain ⟨lam, hl1, hl2, rfl⟩ := rng h5 h6 (by decide) (by decide)
  exact ⟨v, k, lam, ⟨hv1, hv2, hk1, by omega⟩, hl1, hl2, rfl, rfl, rfl⟩
def T_PC_blocksOfDesign : ma_T := fun as w post => ∃ v k lam, as = [.inl (nI v), .inl (nI k), .inl (nI lam)] ∧ vk v k ∧ 1 ≤ lam ∧ lam ≤ 4 ∧ post (A_bd v k lam) w
theorem i_PC_blocksOfDesign {v k lam : Nat} {w : ma_W} {post : ma_P} (hv : vk v k) (h1 : 1 ≤ lam) (h4 : lam ≤ 4) (hp : post (A_bd v k lam) w) : T_PC_blocksOfDesign [.inl (nI v), .inl (nI k), .inl (nI lam)] w post := ⟨v, k, lam, rfl, hv, h1, h4, hp⟩
theorem c_PC_blocksOfDesign {l : Launch} : ma_Met l y_PC_blocksOfDesign (w_PC_blocksOfDesign :: zw_t) 0 true T_PC_blocksOfDesign := by
  refine z_PC_blocksOfDesign (by rintro as w post ⟨v, k, lam, rfl, -⟩; simp) ?_
  rintro as w post ⟨v, k, lam, rfl, hv, h1, h4, hp⟩ Go hGo
  obtain ⟨hv1, hv2, hk1, hk2⟩ := hv
  have hb1 : lam * (v - 1) ≤ 4 * 5 := Nat.mul_le_mul h4 (by omega)
  have hb2 : lam * (v - 1) / (k - 1) ≤ 20 := Nat.le_trans (Nat.div_le_self _ _) hb1
  have hb3 : v * (lam * (v - 1) / (k - 1)) ≤ 6 * 20 := Nat.mul_le_mul hv2 hb2
  have hb4 : v * (lam * (v - 1) / (k - 1)) / k ≤ 120 := Nat.le_trans (Nat.div_le_self _ _) hb3
  have hm1 : (lam * (v - 1)) % (k - 1) ≤ lam * (v - 1) := Nat.mod_le _ _
  have hm2 : (v * (lam * (v - 1) / (k - 1))) % k ≤ v * (lam * (v - 1) / (k - 1)) := Nat.mod_le _ _
  have hk0 : ¬ nI (k - 1) = 0 := nI_ne0 (by omega) (by omega)
  have hk9 : ¬ nI k = 0 := nI_ne0 (by omega) (by omega)
  refine q_PC_blocksOfDesign_0 hGo ?_
  rw [pk_sub (show 1 ≤ k by omega), pk_sub (show 1 ≤ v by omega), nI_mul, pk_rem (by omega) (by omega) (by omega)]
  refine ⟨hk0, pk_eq ((lam * (v - 1)) % (k - 1)) 0 (fun h => q_PC_blocksOfDesign_17 hGo ?_) (fun h => ?_) rfl rfl (by omega) (by omega)⟩
  · rw [pk_sub (show 1 ≤ k by omega), pk_div (by omega) (by omega) (by omega), nI_mul, pk_rem (by omega) (by omega) (by omega)]
    refine ⟨hk0, hk9, pk_eq ((v * (lam * (v - 1) / (k - 1))) % k) 0 (fun h2 => q_PC_blocksOfDesign_36 hGo ?_) (fun h2 => ?_) rfl rfl (by omega) (by omega)⟩
    · rw [pk_div (by omega) (by omega) (by omega)]
      rw [A_bd, if_pos ⟨h, h2⟩] at hp
      refine ⟨hk9, pk_le v (v * (lam * (v - 1) / (k - 1)) / k) (fun h3 => q_PC_blocksOfDesign_53 hGo (q_PC_blocksOfDesign_55 hGo ?_)) (fun h3 => q_PC_blocksOfDesign_55 hGo ?_) rfl rfl (by omega) (by omega)⟩
      · rw [if_neg (by omega)] at hp; exact hp
      · rw [if_pos h3] at hp; exact hp
    · rw [A_bd, if_neg (fun z => h2 z.2)] at hp
      exact hp
  · rw [A_bd, if_neg (fun z => h z.1)] at hp
    exact hp
/-! the empty laying -/
theorem row_nil {v k : Nat} {t : List Nat} : ce_row (fm_K v k) [] t = ce_row (fm_K v k) [] (List.range v) := by
  unfold ce_row
  rw [fm_row_eq]
  intro b _
  rfl
theorem ord_nil {v k : Nat} (hv : vk v k) : ce_ord v k [] = fc v := by
  rw [← fcP v (by have := hv.2.1; omega)]
  unfold ce_ord fm_ord
  rw [List.countP_eq_length]
  intro t _
  rw [beq_iff_eq]
  exact row_nil
theorem fmin_le (p : Nat) : ∀ (l : List (List Nat)) (b : Nat), l.foldl (fun b t => min b (t.getD p 0)) b ≤ b ∧ ∀ t ∈ l, l.foldl (fun b t => min b (t.getD p 0)) b ≤ t.getD p 0
  | [], b => ⟨Nat.le_refl _, fun t h => absurd h List.not_mem_nil⟩
  | s :: l, b => by
    obtain ⟨h1, h2⟩ := fmin_le p l (min b (s.getD p 0))
    rw [List.foldl_cons]
    refine ⟨by omega, fun t ht => ?_⟩
    rcases List.mem_cons.mp ht with rfl | h
    · omega
    · exact h2 t h
theorem orb_nil {v k p : Nat} (hv : vk v k) (hp : p < v) : sp_orb v k [] p = 0 := by
  have h0 : 0 < v := by omega
  obtain ⟨h1, -⟩ := tau_ok hv.1 hv.2.1 hp h0
  have hm : bi_tau v p 0 ∈ (pm_P v).filter (fun t => ce_row (fm_K v k) [] t == ce_row (fm_K v k) [] (List.range v)) := List.mem_filter.mpr ⟨pm_P_mem.mpr h1, by rw [beq_iff_eq]; exact row_nil⟩
  have h2 := (fmin_le p _ p).2 _ hm
  have h3 : (bi_tau v p 0).getD p 0 = 0 := by
    unfold bi_tau
    rw [List.getD_eq_getElem?_getD, List.getElem?_map, List.getElem?_range hp]
    simp
  rw [h3] at h2
  unfold sp_orb
  omega
def T_PC_begin : ma_T := fun as w post => ∃ c xs x y z, as = [.inr 0, .inl x, .inl y, .inl z] ∧ XI c xs w ∧ ∀ w', XI (N_begin c x y z) (N_beginX xs x y z) w' → frX w w' → post (A_begin x y z) w'
theorem c_PC_begin {l : Launch} (cb : ma_Met l y_JI_bitCount (w_JI_bitCount :: zw_t) 0 true T_JI_bitCount) : ma_Met l y_PC_begin (w_PC_begin :: zw_t) 3 true T_PC_begin := by
  refine z_PC_begin (c_GR_lay cb) (by decide) c_RO_clear (by decide) c_LI_restart (by decide) c_GR_renamings (by decide) c_LI_addEmptyRow (by decide) c_PC_blocksOfDesign (by decide) (by rintro as w post ⟨c, xs, x, y, z, rfl, -⟩; simp) ?_
  rintro as w post ⟨c, xs, x, y, z, rfl, hX, hp⟩ Go hGo
  have no : okb x y z = false → post (Int32.ofInt (-2)) w := by
    intro h
    rw [N_begin, N_beginX, A_begin, if_neg (by rw [h]; decide), if_neg (by rw [h]; decide), if_neg (by rw [h]; decide)] at hp
    exact hp w hX (frX_refl w)
  have yes : okb x y z = true → Go 39 [some (.inr 0), some (.inl x), some (.inl y), some (.inl z)] [] w := by
    intro h
    rw [N_begin, N_beginX, A_begin, if_pos h, if_pos h, if_pos h] at hp
    obtain ⟨v, k, lam, hv, hl1, hl4, rfl, rfl, rfl⟩ := okb_t h
    obtain ⟨hv1, hv2, hk1, hk2⟩ := id hv
    rw [nI_clamp (by omega), nI_clamp (by omega), nI_clamp (by omega)] at hp
    have hx := hX.1
    have hz := xr_1 hx
    have hbz := zL_big hz
    have hz23 : w.2.1.1 ≤ 20 := by rcases hz with h | h <;> rw [h] <;> decide
    refine q_PC_begin_39 hGo (i_GR_lay hv (fun w1 f1 g1 => ⟨bo1, bo0, i_RO_clear (Or.inl rfl) ⟨bo0, ?_⟩⟩))
    have hz1 : zL w1.2.1.1 := by rw [f1.1]; exact hz
    have hbz : 16 ≤ w1.2.1.1 := by rw [f1.1]; exact hbz
    have hz23 : w1.2.1.1 ≤ 20 := by rw [f1.1]; exact hz23
    have fin : ∀ w3 : ma_W, w3.2.1 = w1.2.1 → fr [0, 10, w1.2.1.1] [] w1 w3 → w3.1 0 7 = nI lam → w3.1 0 10 = nI 1 → w3.1 0 11 = nI 0 → w3.1 0 9 = nI 0 → w3.1 10 1 = nI 0 → w3.1 w1.2.1.1 3 = nI 0 → T_GR_renamings [.inr 2] w3 (fun z4 w4 => ma_isk 4 w3.2.1.1 (T_LI_addEmptyRow [.inr w3.2.1.1, .inl z4] w4 (fun _ w5 => T_PC_blocksOfDesign [.inl (nI v), .inl (nI k), .inl (nI lam)] w5 (fun z6 w6 => post z6 w6)))) := by
      intro w3 e1 f3 e7 e10 e11 e9 er e3
      have g3 : gr v k w3 := gr_fr g1 f3 (nm3 (by decide) (by decide) (by omega)) List.not_mem_nil List.not_mem_nil
      refine i_GR_renamings hv2 g3.1 ?_
      rw [e1, ma_isk_of (zL_s hz1)]
      refine i_LI_addEmptyRow hz1 (fun w5 f5 c3 c4 c2 ci => i_PC_blocksOfDesign hv hl1 hl4 (hp w5 ?_ ?_))
      · have g5 : gr v k w5 := gr_fr g3 f5 (nm1 (by omega)) (nm2 (by omega) (by omega)) (nm2 (by omega) (by omega))
        have hr5 : w5.2.1 = w1.2.1 := f5.1.trans e1
        refine ⟨by unfold xr; rw [hr5, f1.1]; exact hx, ⟨by decide, ?_, fun j hj => absurd hj (Nat.not_lt_zero j)⟩, hv, ⟨hl1, hl4⟩, ?_, ?_, g5, ?_, fun x h => absurd h List.not_mem_nil, ⟨false, ?_, fun h => by cases h⟩, false, ?_, fun h => by cases h⟩
        · rw [f5.2.1 10 (nm1 (by omega))]; exact er
        · rw [f5.2.1 0 (nm1 (by omega))]; exact e10
        · rw [f5.2.1 0 (nm1 (by omega))]; exact e7
        · rw [hr5]
          refine ⟨by show 1 ≤ 60; decide, by decide, by rw [c3]; exact e3, c4, fun i hi => ?_⟩
          obtain rfl : i = 0 := by
            have : i < 1 := hi
            omega
          refine ⟨rfl, fun x h => absurd h List.not_mem_nil, fun j hj => absurd hj (Nat.not_lt_zero j), ?_, fun x hx2 => ?_⟩
          · rw [c2]
            exact congrArg nI (ord_nil hv).symm
          · rw [show 0 * 6 + x = x by omega, ci x (by omega)]
            exact congrArg nI (orb_nil hv hx2).symm
        · rw [f5.2.1 0 (nm1 (by omega))]; exact e11
        · rw [f5.2.1 0 (nm1 (by omega))]; exact e9
      · exact frX_trans (frX_of f1 (by decide) (by decide)) (frX_trans (frX_of f3 (fun p hp => by
          simp only [List.mem_cons, List.not_mem_nil, or_false] at hp
          omega) (fun q hq => absurd hq List.not_mem_nil)) (frX_of f5 (fun p hp => by
          simp only [List.mem_cons, List.not_mem_nil, or_false] at hp
          omega) (fun q hq => by
          simp only [List.mem_cons, List.not_mem_nil, or_false] at hq
          omega)))
    rw [ma_isk_of (zL_s hz1)]
    refine i_LI_restart hz1 (fin _ rfl (fr_f (fr_f (fr_f (fr_f (fr_f (fr_f (fr_f (fr_refl _ _ _) (by simp) 7 _) (by simp) 10 _) (by simp) 11 _) (by simp) 1 _) (by simp) 9 _) (by simp) 3 _) (by simp) 4 _) ?_ ?_ ?_ ?_ ?_ ?_)
    all_goals simp [ma_up]
    all_goals omega
  refine q_PC_begin_0 hGo ⟨fun h => q_PC_begin_11 hGo (no ?_), fun h1 => ⟨fun h2 => q_PC_begin_14 hGo ⟨fun h => q_PC_begin_36 hGo (no ?_), fun h3 => ⟨fun h => q_PC_begin_36 hGo (no ?_), fun h4 => ⟨fun h => q_PC_begin_36 hGo (no ?_), fun h5 => ⟨fun h6 => yes ?_, fun h => q_PC_begin_36 hGo (no ?_)⟩⟩⟩⟩, fun h => q_PC_begin_11 hGo (no ?_)⟩⟩
  · simp [okb, h]
  · simp [okb, h]
  · simp [okb, h]
  · simp [okb, h]
  · simp only [okb, Bool.and_eq_true, decide_eq_true_eq]
    exact ⟨h1, h2, h3, h4, h5, h6⟩
  · simp [okb, h]
  · simp [okb, h]
def T_PC_grow : ma_T := fun as w post => ∃ c xs, as = [.inr 0] ∧ XI c xs w ∧ ∀ w', XI (N_grow c) xs w' → frX w w' → post (A_grow c) w'
theorem L_pk {v k lam n : Nat} : ∀ e ∈ ce_L v k lam n, ce_pk v lam e = true := fun e he => ((ce_U_mem n e).mp (ce_sub n e he)).2.2.2
theorem c_PC_grow {l : Launch} : ma_Met l y_PC_grow (w_PC_grow :: zw_t) 18 true T_PC_grow := by
  refine z_PC_grow c_LI_rowLength (by decide) c_PC_fillSpare (by decide) c_LI_size (by decide) (by rintro as w post ⟨c, xs, rfl, -⟩; simp) ?_
  rintro as w post ⟨c, xs, rfl, hX, hp⟩ Go hGo
  match c, hX, hp with
  | none, hX, hp => exact q_PC_grow_0 hGo (bI_an (b := false) hX.2.2.2.1 (fun h => by cases h) (fun _ => hp w hX (frX_refl w)))
  | some (v, k, lam, n), hX, hp =>
    obtain ⟨a1, a2, b1, b2, b3, b4, b5, b6, b7, ⟨b, b8, b9⟩, b10⟩ := id hX
    have hz := xr_1 a1
    have hz2 := xr_2 a1
    have hne := xr_ne a1
    have hb1 := zL_big hz
    have hb2 := zL_big hz2
    have hb3 : w.2.1.2 ≤ 20 := by rcases hz2 with h | h <;> rw [h] <;> decide
    have hn10 := b6.2.1
    have full : ¬ (n < 10 ∧ (ce_L v k lam (n + 1)).length ≤ 60) → ∀ w', XI (some (v, k, lam, n)) xs w' → frX w w' → post (Int32.ofInt (-5)) w' := by
      intro h w' h1 h2
      have h9 := hp w'
      simp only [N_grow, A_grow] at h9
      rw [if_neg h, if_neg h] at h9
      exact h9 h1 h2
    refine q_PC_grow_0 hGo (bI_an (b := true) b3 (fun _ => ?_) (fun h => by cases h))
    refine q_PC_grow_9 hGo (bI_an b8 (fun h => q_PC_grow_28 hGo (full (fun z => by have := b9 h; omega) w hX (frX_refl w))) (fun hbf => ?_))
    rw [ma_isk_of (zL_s hz)]
    refine i_LI_rowLength hz (pk_lt n 10 (fun hn => q_PC_grow_31 hGo ?_) (fun hn => q_PC_grow_28 hGo (full (fun z => by omega) w hX (frX_refl w))) b6.2.2.1 rfl (by omega) (by omega))
    refine i_PC_fillSpare b1 a1 b5 b4 (by omega) hn b6 L_pk (fun w1 f1 g1 => ?_)
    have hnx : ce_next v lam (fm_K v k) (ce_L v k lam n) = ce_L v k lam (n + 1) := rfl
    rw [hnx] at g1 ⊢
    have n0 : (0 : Nat) ∉ gp w.2.1.2 := gp_n (by decide) (by decide) (by omega)
    have hXf : frX w w1 := frX_of f1 (fun p hp => by
      simp only [gp, List.mem_cons, List.not_mem_nil, or_false] at hp
      omega) (fun q hq => by
      simp only [gq, List.mem_cons, List.not_mem_nil, or_false] at hq
      omega)
    have hg1 : gr v k w1 := gr_fr b5 f1 (gp_n (by decide) (by decide) (by omega)) (gq_n (by omega) (by omega) (by omega) (by omega)) (gq_n (by omega) (by omega) (by omega) (by omega))
    have hr1 : ro w1 10 xs := ro_fr a2 f1 (gp_n (by decide) (by decide) (by omega)) (gq_n (by omega) (by omega) (by omega) (by omega))
    have hh1 : hf_ v k xs w1 := by
      obtain ⟨bb, c1, c2⟩ := b10
      refine ⟨bb, by rw [f1.2.1 0 n0]; exact c1, fun hb => ?_⟩
      obtain ⟨d1, d2⟩ := c2 hb
      exact ⟨ro_fr d1 f1 (gp_n (by decide) (by decide) (by omega)) (gq_n (by omega) (by omega) (by omega) (by omega)), by rw [f1.2.1 0 n0]; exact d2⟩
    have hl1 : ls v k w1 w.2.1.1 n (ce_L v k lam n) := ls_fr b6 f1 (gp_n (by omega) (by omega) (by omega)) (gq_n (by omega) (by omega) (by omega) (by omega)) (gq_n (by omega) (by omega) (by omega) (by omega)) (gq_n (by omega) (by omega) (by omega) (by omega))
    refine bI_ne (fun h => q_PC_grow_46 hGo ?_) (fun h => ⟨bo1, ?_⟩)
    · have h := of_decide_eq_true h
      have hl2 := g1 h
      rw [f1.1, ma_isk_of (zL_s hz2)]
      refine i_LI_size hz2 ?_
      have hc : n < 10 ∧ (ce_L v k lam (n + 1)).length ≤ 60 := ⟨hn, h⟩
      have h9 := hp (w1.1, (w.2.1.2, w.2.1.1), w1.2.2)
      simp only [N_grow, A_grow] at h9
      rw [if_pos hc, if_pos hc] at h9
      show post (w1.1 w.2.1.2 4) _
      rw [hl2.2.2.2.1]
      refine h9 ⟨?_, hr1, b1, b2, by rw [← b3]; exact congrFun (f1.2.1 0 n0) 10, by rw [← b4]; exact congrFun (f1.2.1 0 n0) 7, hg1, hl2, b7, ⟨false, ?_, fun z => by cases z⟩, hh1⟩ ⟨hXf.1, hXf.2⟩
      · rcases a1 with a1 | a1 <;> rw [a1]
        · exact Or.inr rfl
        · exact Or.inl rfl
      · show w1.1 0 11 = _
        rw [f1.2.1 0 n0, b8, hbf]
    · have h := of_decide_eq_false h
      refine full (fun z => h z.2) _ ⟨xr_fr (xr_fr a1 f1) (fr_f (fr_refl [0] [] w1) (by decide) 11 (nI 1)), ro_fr hr1 (fr_f (fr_refl [0] [] w1) (by decide) 11 (nI 1)) (by decide) (by decide), b1, b2, ?_, ?_, gr_fr hg1 (fr_f (fr_refl [0] [] w1) (by decide) 11 (nI 1)) (by decide) (by decide) (by decide), ?_, b7, ⟨true, rfl, fun _ => by omega⟩, ?_⟩ (frX_trans hXf (frX_of (fr_f (fr_refl [0] [] w1) (by decide) 11 (nI 1)) (by decide) (by decide)))
      · try dsimp only
        rw [ma_up_k _ _ _ _ (by decide), f1.2.1 0 n0]; exact b3
      · try dsimp only
        rw [ma_up_k _ _ _ _ (by decide), f1.2.1 0 n0]; exact b4
      · have hl2 : ls v k w1 w1.2.1.1 n (ce_L v k lam n) := by rw [f1.1]; exact hl1
        have hb9 : 16 ≤ w1.2.1.1 := by rw [f1.1]; exact hb1
        exact ls_fr hl2 (fr_f (fr_refl [0] [] w1) (by decide) 11 (nI 1)) (show w1.2.1.1 ∉ [0] from nm1 (by omega)) List.not_mem_nil List.not_mem_nil List.not_mem_nil
      · obtain ⟨bb, c1, c2⟩ := hh1
        refine ⟨bb, ?_, fun hb => ?_⟩
        · try dsimp only
          rw [ma_up_k _ _ _ _ (by decide)]; exact c1
        · obtain ⟨d1, d2⟩ := c2 hb
          refine ⟨ro_fr d1 (fr_f (fr_refl [0] [] w1) (by decide) 11 (nI 1)) (by decide) (by decide), ?_⟩
          try dsimp only
          rw [ma_up_k _ _ _ _ (by decide)]; exact d2
end
section
/-! CONTRACTS: the reference, its small methods -/
/-- its renaming number i -/
def pi_ (v i : Nat) : List Nat := bi_ref v (List.range v) i
theorem pi_P {v : Nat} (h3 : 3 ≤ v) (h6 : v ≤ 6) : ((List.range (fc v)).map (pi_ v)).Perm (pm_P v) := by
  have : v = 3 ∨ v = 4 ∨ v = 5 ∨ v = 6 := by omega
  rcases this with rfl | rfl | rfl | rfl
  · exact bi_ref3
  · exact bi_ref4
  · exact bi_ref5
  · exact bi_ref6
theorem pi_perm {v i : Nat} (h3 : 3 ≤ v) (h6 : v ≤ 6) (hi : i < fc v) : (pi_ v i).Perm (List.range v) := pm_P_mem.mp ((pi_P h3 h6).mem_iff.mp (List.mem_map.mpr ⟨i, List.mem_range.mpr hi, rfl⟩))
theorem pi_0 : ∀ v, v < 7 → pi_ v 0 = List.range v := by decide +kernel
theorem fc_pos : ∀ v, v < 7 → 0 < fc v := by decide +kernel
/-- the reference's ground -/
def mg (v k : Nat) (w : ma_W) : Prop := w.1 24 0 = nI 1 ∧ w.1 24 1 = nI v ∧ w.1 24 2 = nI k ∧ w.1 24 5 = nI (fm_K v k).length ∧ w.1 24 7 = nI (fc v) ∧ (∀ j, j < (fm_K v k).length → w.2.2 25 j = nI ((fm_K v k).getD j 0)) ∧ ∀ i, i < fc v → ∀ p, p < v → w.2.2 26 (6 * i + p) = nI ((pi_ v i).getD p 0)
theorem mg_fr {v k : Nat} {qs : List Nat} {w w' : ma_W} (h : mg v k w) (hf : fr [] qs w w') (h1 : 25 ∉ qs) (h2 : 26 ∉ qs) : mg v k w' := by
  unfold mg
  rw [hf.2.1 24 List.not_mem_nil, hf.2.2 25 h1, hf.2.2 26 h2]
  exact h
/-- how often each block comes -/
def tm (xs : List Nat) (w : ma_W) : Prop := ∀ m, m < 64 → w.2.2 30 m = nI (xs.count m)
def T_MO_bits : ma_T := fun as w post => ∃ m, as = [.inl (nI m)] ∧ m < 64 ∧ post (nI (pm_cnt 6 m)) w
theorem i_MO_bits {m : Nat} {w : ma_W} {post : ma_P} (hm : m < 64) (hp : post (nI (pm_cnt 6 m)) w) : T_MO_bits [.inl (nI m)] w post := ⟨m, rfl, hm, hp⟩
theorem cnt_s (n m : Nat) : pm_cnt (n + 1) m = pm_cnt n m + (if m.testBit n = true then 1 else 0) := by
  unfold pm_cnt
  rw [List.range_succ, List.countP_append, List.countP_singleton]
theorem c_MO_bits {l : Launch} : ma_Met l y_MO_bits (w_MO_bits :: zw_t) 0 true T_MO_bits := by
  refine z_MO_bits (by rintro as w post ⟨m, rfl, -⟩; simp) ?_
  rintro as w post ⟨m, rfl, hm, hp⟩ Go hGo
  have loop : ∀ (d n : Nat), n + d = 6 → Go 4 [some (.inl (nI m)), some (.inl (nI (pm_cnt n m))), some (.inl (nI n))] [] w := by
    intro d
    induction d with
    | zero =>
      intro n hd
      obtain rfl : n = 6 := by omega
      exact q_MO_bits_4 hGo (pk_le 6 6 (fun _ => q_MO_bits_24 hGo hp) (fun h => absurd h (by omega)))
    | succ d ih =>
      intro n hd
      refine q_MO_bits_4 hGo (pk_le 6 n (fun h => absurd h (by omega)) (fun _ => ?_))
      rw [bi_bit m hm n (by omega), nI_add, nI_add, ← cnt_s]
      exact ih (n + 1) (by omega)
  exact q_MO_bits_0 hGo (loop 6 0 (by omega))
def T_MO_isEntry : ma_T := fun as w post => ∃ x n, as = [.inr 24, .inl x] ∧ w.1 24 9 = nI n ∧ post (bI (hs x n)) w
theorem i_MO_isEntry {n : Nat} {x : Int32} {w : ma_W} {post : ma_P} (hn : w.1 24 9 = nI n) (hp : post (bI (hs x n)) w) : T_MO_isEntry [.inr 24, .inl x] w post := ⟨x, n, rfl, hn, hp⟩
theorem c_MO_isEntry {l : Launch} : ma_Met l y_MO_isEntry (w_MO_isEntry :: zw_t) 0 true T_MO_isEntry := by
  refine z_MO_isEntry (by rintro as w post ⟨x, n, rfl, -⟩; simp) ?_
  rintro as w post ⟨x, n, rfl, hn, hp⟩ Go hGo
  refine q_MO_isEntry_0 hGo (hs_br hn (fun h => q_MO_isEntry_16 hGo (q_MO_isEntry_17 hGo ⟨bo0, ?_⟩)) (fun h => q_MO_isEntry_17 hGo ⟨bo1, ?_⟩))
  · rw [h] at hp; exact hp
  · rw [h] at hp; exact hp
/-- b: has a census begun -/
def T_MO_isPoint : ma_T := fun as w post => ∃ x v b, as = [.inr 24, .inl x] ∧ w.1 24 0 = bI b ∧ (b = false → v = 0) ∧ (b = true → w.1 24 1 = nI v) ∧ post (bI (hs x v)) w
theorem i_MO_isPoint {v : Nat} {b : Bool} {x : Int32} {w : ma_W} {post : ma_P} (h0 : w.1 24 0 = bI b) (h1 : b = false → v = 0) (h2 : b = true → w.1 24 1 = nI v) (hp : post (bI (hs x v)) w) : T_MO_isPoint [.inr 24, .inl x] w post := ⟨x, v, b, rfl, h0, h1, h2, hp⟩
theorem hs_0 (x : Int32) : hs x 0 = false := by
  cases h : hs x 0 with
  | false => rfl
  | true =>
    obtain ⟨j, hj, -⟩ := hs_t (by decide) h
    exact absurd hj (Nat.not_lt_zero j)
theorem c_MO_isPoint {l : Launch} : ma_Met l y_MO_isPoint (w_MO_isPoint :: zw_t) 0 true T_MO_isPoint := by
  refine z_MO_isPoint (by rintro as w post ⟨x, v, b, rfl, -⟩; simp) ?_
  rintro as w post ⟨x, v, b, rfl, h0, h1, h2, hp⟩ Go hGo
  have no : hs x v = false → Go 23 [some (.inr 24), some (.inl x)] [] w := fun h => q_MO_isPoint_23 hGo (q_MO_isPoint_24 hGo ⟨bo0, by rw [h] at hp; exact hp⟩)
  refine q_MO_isPoint_0 hGo (bI_at h0 (fun h => no (by rw [h1 h]; exact hs_0 x)) (fun h => hs_br (h2 h) no (fun h9 => q_MO_isPoint_24 hGo ⟨bo1, ?_⟩)))
  rw [h9] at hp
  exact hp
def T_MO_isBlock : ma_T := fun as w post => (∃ x, as = [.inr 24, .inl x] ∧ w.1 24 0 = nI 0 ∧ post (nI 0) w) ∨ ∃ x v k, as = [.inr 24, .inl x] ∧ vk v k ∧ mg v k w ∧ post (bI (isb v k x)) w
theorem c_MO_isBlock {l : Launch} : ma_Met l y_MO_isBlock (w_MO_isBlock :: zw_t) 1 true T_MO_isBlock := by
  refine z_MO_isBlock c_MO_bits (by decide) (by rintro as w post (⟨x, rfl, -⟩ | ⟨x, v, k, rfl, -⟩) <;> simp) ?_
  rintro as w post (⟨x, rfl, h0, hp⟩ | ⟨x, v, k, rfl, hv, hg, hp⟩) Go hGo
  · exact q_MO_isBlock_0 hGo (bI_at (b := false) h0 (fun _ => q_MO_isBlock_36 hGo (q_MO_isBlock_37 hGo ⟨bo0, hp⟩)) (fun h => by cases h))
  · obtain ⟨g0, g1, g2, -⟩ := hg
    have hv6 := hv.2.1
    have h6 := pw64 hv6
    have no : isb v k x = false → Go 36 [some (.inr 24), some (.inl x)] [] w := fun h => q_MO_isBlock_36 hGo (q_MO_isBlock_37 hGo ⟨bo0, by rw [h] at hp; exact hp⟩)
    refine q_MO_isBlock_0 hGo (bI_at (b := true) g0 (fun h => by cases h) (fun _ => hs_br (n := 2 ^ v) (by rw [g1, bi_one v (by omega)]) (fun h => no (by simp [isb, h])) (fun h => ?_)))
    obtain ⟨j, hj, rfl⟩ := hs_t (by omega) h
    have hc := cnt6 v (by omega) j hj
    have hle := cnt_le v j
    refine i_MO_bits (by omega) (pn_ne (pm_cnt 6 j) k (fun h9 => no ?_) (fun h9 => q_MO_isBlock_37 hGo ⟨bo1, ?_⟩) rfl g2 (by omega) (by have := hv.2.2.2; omega))
    · rw [hc] at h9
      simp [isb, nI_clamp (show j < 2 ^ 31 by omega), h9]
    · rw [hc] at h9
      have : isb v k (nI j) = true := by simp [isb, nI_clamp (show j < 2 ^ 31 by omega), h9, h]
      rw [this] at hp
      exact hp
/-- the image of a mask under the first points of a renaming -/
theorem img_app (m q : Nat) : ∀ (s : List Nat) (p : Nat), pm_img (s ++ [q]) p m = pm_img s p m ||| (if m.testBit (p + s.length) = true then 2 ^ q else 0)
  | [], p => by simp [pm_img]
  | a :: s, p => by
    rw [List.cons_append, pm_img, pm_img, img_app m q s (p + 1), Nat.or_assoc, List.length_cons, show p + 1 + s.length = p + (s.length + 1) by omega]
theorem im_take {t : List Nat} {m n : Nat} (h : n < t.length) : pm_im (t.take (n + 1)) m = pm_im (t.take n) m ||| (if m.testBit n = true then 2 ^ (t.getD n 0) else 0) := by
  rw [tk_succ h, pm_im, img_app, Nat.zero_add, tk_len (Nat.le_of_lt h)]
  rfl
theorem pt_64 {v i : Nat} (h3 : 3 ≤ v) (h6 : v ≤ 6) (hi : i < fc v) (n m : Nat) : pm_im ((pi_ v i).take n) m < 64 := by
  have hp := pi_perm h3 h6 hi
  refine pm_im_64 (v := v) ⟨(pm_nd hp).sublist (List.take_sublist _ _), fun x hx => ?_⟩ h6 m
  exact List.mem_range.mp (hp.mem_iff.mp (List.mem_of_mem_take hx))
def T_MO_image : ma_T := fun as w post => ∃ v k m i, as = [.inr 24, .inl (nI m), .inl (nI i)] ∧ vk v k ∧ mg v k w ∧ m < 64 ∧ i < fc v ∧ post (nI (pm_im (pi_ v i) m)) w
theorem i_MO_image {v k m i : Nat} {w : ma_W} {post : ma_P} (hv : vk v k) (hg : mg v k w) (hm : m < 64) (hi : i < fc v) (hp : post (nI (pm_im (pi_ v i) m)) w) : T_MO_image [.inr 24, .inl (nI m), .inl (nI i)] w post := ⟨v, k, m, i, rfl, hv, hg, hm, hi, hp⟩
theorem c_MO_image {l : Launch} : ma_Met l y_MO_image (w_MO_image :: zw_t) 0 true T_MO_image := by
  refine z_MO_image (by rintro as w post ⟨v, k, m, i, rfl, -⟩; simp) ?_
  rintro as w post ⟨v, k, m, i, rfl, hv, hg, hm, hi, hp⟩ Go hGo
  obtain ⟨h3, h6, -, -⟩ := hv
  obtain ⟨g0, g1, g2, g5, g7, g25, g26⟩ := hg
  have hper := pi_perm h3 h6 hi
  have hlen := pm_len hper
  have hfc := fc_le v (by omega)
  have loop : ∀ (d n : Nat), n + d = v → Go 5 [some (.inr 24), some (.inl (nI m)), some (.inl (nI i)), some (.inl (nI (pm_im ((pi_ v i).take n) m))), some (.inl (nI n))] [] w := by
    intro d
    induction d with
    | zero =>
      intro n hd
      refine q_MO_image_5 hGo (pk_le v n (fun _ => q_MO_image_51 hGo ?_) (fun h => absurd h (by omega)) g1 rfl (by omega) (by omega))
      rw [List.take_of_length_le (by omega)]
      exact hp
    | succ d ih =>
      intro n hd
      have hstep := ih (n + 1) (by omega)
      rw [im_take (by omega)] at hstep
      have hlt := pm_lt hper (show n < v by omega)
      refine q_MO_image_5 hGo (pk_le v n (fun h => absurd h (by omega)) (fun _ => ?_) g1 rfl (by omega) (by omega))
      rw [bi_bit m hm n (by omega)]
      by_cases hb : m.testBit n = true
      · rw [if_pos hb] at hstep ⊢
        refine pn_ne 1 1 (fun h => absurd rfl h) (fun _ => ⟨6 * i + n, by omega, by rw [nI_mul, nI_add], q_MO_image_44 hGo ?_⟩)
        have h2 : 2 ^ ((pi_ v i).getD n 0) ≤ 2 ^ 5 := Nat.pow_le_pow_right (by decide) (by omega)
        rw [g26 i hi n (by omega), bi_one _ (by omega), bi_or _ (pt_64 h3 h6 hi n m) _ (by omega), nI_add]
        exact hstep
      · rw [if_neg hb] at hstep ⊢
        refine pn_ne 0 1 (fun _ => q_MO_image_43 hGo (q_MO_image_44 hGo ?_)) (fun h => absurd h (by decide))
        rw [Nat.or_zero] at hstep
        rw [nI_add]
        exact hstep
  exact q_MO_image_0 hGo (loop v 0 (by omega))
end
section
/-! CONTRACTS: the reference, how it looks at layings -/
def T_MO_none : ma_T := fun as w post => as = [.inr 24] ∧ ∀ w', fr [] [30] w w' → tm [] w' → post 0 w'
theorem i_MO_none {w : ma_W} {post : ma_P} (hp : ∀ w', fr [] [30] w w' → tm [] w' → post 0 w') : T_MO_none [.inr 24] w post := ⟨rfl, hp⟩
theorem c_MO_none {l : Launch} : ma_Met l y_MO_none (w_MO_none :: zw_t) 0 false T_MO_none := by
  refine z_MO_none (by rintro as w post ⟨rfl, -⟩; simp) ?_
  rintro as w post ⟨rfl, hp⟩ Go hGo
  have loop : ∀ (d n : Nat) (w' : ma_W), n + d = 64 → fr [] [30] w w' → (∀ m, m < n → w'.2.2 30 m = nI 0) → Go 2 [some (.inr 24), some (.inl (nI n))] [] w' := by
    intro d
    induction d with
    | zero =>
      intro n w' hd hf h0
      exact q_MO_none_2 hGo (pk_le 64 n (fun _ => q_MO_none_21 hGo (hp w' hf (fun m hm => h0 m (by omega)))) (fun h => absurd h (by omega)))
    | succ d ih =>
      intro n w' hd hf h0
      refine q_MO_none_2 hGo (pk_le 64 n (fun h => absurd h (by omega)) (fun _ => ⟨n, by omega, rfl, ?_⟩))
      rw [nI_add]
      refine ih (n + 1) _ (by omega) (fr_a hf (by simp) _ _) (fun m hm => ?_)
      by_cases hmn : m = n
      · subst hmn
        exact ma_up_s _ _ _ _
      · exact (ma_up_k _ _ _ _ hmn).trans (h0 m (by omega))
  exact q_MO_none_0 hGo (loop 64 0 w (by omega) (fr_refl _ _ _) (fun m hm => absurd hm (Nat.not_lt_zero m)))
/-- one block more is counted -/
theorem tm_s {xs : List Nat} {n : Nat} {w : ma_W} (hn : n < xs.length) (h : tm (xs.take n) w) : tm (xs.take (n + 1)) (w.1, w.2.1, ma_up w.2.2 30 (xs.getD n 0) (nI ((xs.take n).count (xs.getD n 0) + 1))) := by
  intro m hm
  rw [tk_succ hn, List.count_append]
  by_cases hmn : m = xs.getD n 0
  · subst hmn
    refine (ma_up_s _ _ _ _).trans ?_
    simp
  · refine (ma_up_k _ _ _ _ hmn).trans ?_
    rw [h m hm, List.count_eq_zero.mpr (show m ∉ [xs.getD n 0] from nm1 hmn), Nat.add_zero]
/-- the hand of the reference -/
def mh (xs : List Nat) (w : ma_W) : Prop := xs.length ≤ 10 ∧ w.1 24 13 = nI xs.length ∧ ∀ j, j < xs.length → w.2.2 29 j = nI (xs.getD j 0)
theorem mh_fr {xs : List Nat} {qs : List Nat} {w w' : ma_W} (h : mh xs w) (hf : fr [] qs w w') (h1 : 29 ∉ qs) : mh xs w' := by
  unfold mh
  rw [hf.2.1 24 List.not_mem_nil, hf.2.2 29 h1]
  exact h
def T_MO_lookAtHand : ma_T := fun as w post => ∃ xs, as = [.inr 24] ∧ mh xs w ∧ (∀ x ∈ xs, x < 64) ∧ ∀ w', fr [] [30] w w' → tm xs w' → post 0 w'
theorem i_MO_lookAtHand {xs : List Nat} {w : ma_W} {post : ma_P} (h : mh xs w) (hx : ∀ x ∈ xs, x < 64) (hp : ∀ w', fr [] [30] w w' → tm xs w' → post 0 w') : T_MO_lookAtHand [.inr 24] w post := ⟨xs, rfl, h, hx, hp⟩
theorem gx64 {xs : List Nat} (hx : ∀ x ∈ xs, x < 64) {n : Nat} (hn : n < xs.length) : xs.getD n 0 < 64 := by
  rw [gd_at hn]
  exact hx _ (List.getElem_mem hn)
theorem c_MO_lookAtHand {l : Launch} : ma_Met l y_MO_lookAtHand (w_MO_lookAtHand :: zw_t) 1 false T_MO_lookAtHand := by
  refine z_MO_lookAtHand c_MO_none (by decide) (by rintro as w post ⟨xs, rfl, -⟩; simp) ?_
  rintro as w post ⟨xs, rfl, hh, hx, hp⟩ Go hGo
  have hl := hh.1
  have loop : ∀ (d n : Nat) (w' : ma_W), n + d = xs.length → fr [] [30] w w' → tm (xs.take n) w' → Go 6 [some (.inr 24), some (.inl (nI n))] [] w' := by
    intro d
    induction d with
    | zero =>
      intro n w' hd hf ht
      have hh' := mh_fr hh hf (by decide)
      rw [List.take_of_length_le (by omega)] at ht
      exact q_MO_lookAtHand_6 hGo (pk_le xs.length n (fun _ => q_MO_lookAtHand_35 hGo (hp w' hf ht)) (fun h => absurd h (by omega)) hh'.2.1 rfl (by omega) (by omega))
    | succ d ih =>
      intro n w' hd hf ht
      have hn : n < xs.length := by omega
      have hh' := mh_fr hh hf (by decide)
      have hg := gx64 hx hn
      refine q_MO_lookAtHand_6 hGo (pk_le xs.length n (fun h => absurd h (by omega)) (fun _ => ⟨n, by omega, rfl, xs.getD n 0, hg, hh'.2.2 n hn, xs.getD n 0, hg, hh'.2.2 n hn, ?_⟩) hh'.2.1 rfl (by omega) (by omega))
      rw [ht _ hg, nI_add, nI_add]
      exact ih (n + 1) _ (by omega) (fr_a hf (by simp) _ _) (tm_s hn ht)
  exact q_MO_lookAtHand_0 hGo (i_MO_none (fun w1 f1 t1 => loop xs.length 0 w1 (by omega) f1 (by rw [List.take_zero]; exact t1)))
def T_MO_lookAtEntry : ma_T := fun as w post => ∃ i e, as = [.inr 24, .inl (nI i)] ∧ i < 60 ∧ e.length ≤ 10 ∧ w.1 24 4 = nI e.length ∧ (∀ j, j < e.length → w.2.2 27 (10 * i + j) = nI (e.getD j 0)) ∧ (∀ x ∈ e, x < 64) ∧ ∀ w', fr [] [30] w w' → tm e w' → post 0 w'
theorem i_MO_lookAtEntry {i : Nat} {e : List Nat} {w : ma_W} {post : ma_P} (hi : i < 60) (he : e.length ≤ 10) (h4 : w.1 24 4 = nI e.length) (ha : ∀ j, j < e.length → w.2.2 27 (10 * i + j) = nI (e.getD j 0)) (hx : ∀ x ∈ e, x < 64) (hp : ∀ w', fr [] [30] w w' → tm e w' → post 0 w') : T_MO_lookAtEntry [.inr 24, .inl (nI i)] w post := ⟨i, e, rfl, hi, he, h4, ha, hx, hp⟩
theorem c_MO_lookAtEntry {l : Launch} : ma_Met l y_MO_lookAtEntry (w_MO_lookAtEntry :: zw_t) 1 false T_MO_lookAtEntry := by
  refine z_MO_lookAtEntry c_MO_none (by decide) (by rintro as w post ⟨i, e, rfl, -⟩; simp) ?_
  rintro as w post ⟨i, e, rfl, hi, he, h4, ha, hx, hp⟩ Go hGo
  have loop : ∀ (d n : Nat) (w' : ma_W), n + d = e.length → fr [] [30] w w' → tm (e.take n) w' → Go 6 [some (.inr 24), some (.inl (nI i)), some (.inl (nI n))] [] w' := by
    intro d
    induction d with
    | zero =>
      intro n w' hd hf ht
      rw [List.take_of_length_le (by omega)] at ht
      exact q_MO_lookAtEntry_6 hGo (pk_le e.length n (fun _ => q_MO_lookAtEntry_40 hGo (hp w' hf ht)) (fun h => absurd h (by omega)) (by rw [hf.2.1 24 List.not_mem_nil]; exact h4) rfl (by omega) (by omega))
    | succ d ih =>
      intro n w' hd hf ht
      have hn : n < e.length := by omega
      have hg := gx64 hx hn
      have hv : w'.2.2 27 (10 * i + n) = nI (e.getD n 0) := by rw [hf.2.2 27 (by decide)]; exact ha n hn
      refine q_MO_lookAtEntry_6 hGo (pk_le e.length n (fun h => absurd h (by omega)) (fun _ => ⟨10 * i + n, by omega, by rw [nI_mul, nI_add], e.getD n 0, hg, hv, e.getD n 0, hg, hv, ?_⟩) (by rw [hf.2.1 24 List.not_mem_nil]; exact h4) rfl (by omega) (by omega))
      rw [ht _ hg, nI_add, nI_add]
      exact ih (n + 1) _ (by omega) (fr_a hf (by simp) _ _) (tm_s hn ht)
  exact q_MO_lookAtEntry_0 hGo (i_MO_none (fun w1 f1 t1 => loop e.length 0 w1 (by omega) f1 (by rw [List.take_zero]; exact t1)))
/-- rows compared -/
def cmpv (a b : List Int) : Int32 := if lx_gt a b = true then Int32.ofInt (-1) else if a = b then nI 0 else nI 1
theorem cm_1 : (nI 0 ≤ Int32.ofInt (-1) ↔ False) ∧ (Int32.ofInt (-1) < nI 0 ↔ True) ∧ (Int32.ofInt (-1) = nI 0 ↔ False) ∧ (nI 0 ≤ nI 0 ↔ True) ∧ (nI 0 < nI 0 ↔ False) ∧ (nI 0 ≤ nI 1 ↔ True) ∧ (nI 1 < nI 0 ↔ False) ∧ (nI 1 = nI 0 ↔ False) := by decide +kernel
theorem cmp_ge {a b : List Int} {A B : Prop} (f : lx_gt a b = false → A) (g : lx_gt a b = true → B) : (nI 0 ≤ cmpv a b → A) ∧ (¬ (nI 0 ≤ cmpv a b) → B) := by
  obtain ⟨h1, h2, h3, h4, h5, h6, h7, h8⟩ := cm_1
  unfold cmpv
  by_cases h : lx_gt a b = true
  · rw [if_pos h, h1]
    exact ⟨fun z => z.elim, fun _ => g h⟩
  · rw [if_neg h]
    have hA := f (by simpa using h)
    by_cases he : a = b
    · rw [if_pos he, h4]
      exact ⟨fun _ => hA, fun z => absurd trivial z⟩
    · rw [if_neg he, h6]
      exact ⟨fun _ => hA, fun z => absurd trivial z⟩
theorem cmp_lt {a b : List Int} {A B : Prop} (f : lx_gt a b = true → A) (g : lx_gt a b = false → B) : (cmpv a b < nI 0 → A) ∧ (¬ (cmpv a b < nI 0) → B) := by
  obtain ⟨h1, h2, h3, h4, h5, h6, h7, h8⟩ := cm_1
  unfold cmpv
  by_cases h : lx_gt a b = true
  · rw [if_pos h, h2]
    exact ⟨fun _ => f h, fun z => absurd trivial z⟩
  · rw [if_neg h]
    have hB := g (by simpa using h)
    by_cases he : a = b
    · rw [if_pos he, h5]
      exact ⟨fun z => z.elim, fun _ => hB⟩
    · rw [if_neg he, h7]
      exact ⟨fun z => z.elim, fun _ => hB⟩
theorem cmp_ne {a b : List Int} {A B : Prop} (f : ¬ a = b → A) (g : a = b → B) : (¬ cmpv a b = nI 0 → A) ∧ (¬ (¬ cmpv a b = nI 0) → B) := by
  obtain ⟨h1, h2, h3, h4, h5, h6, h7, h8⟩ := cm_1
  unfold cmpv
  by_cases h : lx_gt a b = true
  · rw [if_pos h, h3]
    have hne : ¬ a = b := fun z => by rw [z, lx_irr] at h; cases h
    exact ⟨fun _ => f hne, fun z => absurd (fun y => y) z⟩
  · rw [if_neg h]
    by_cases he : a = b
    · rw [if_pos he]
      exact ⟨fun z => absurd rfl z, fun _ => g he⟩
    · rw [if_neg he, h8]
      exact ⟨fun _ => f he, fun z => absurd (fun y => y) z⟩
/-- the row behind renaming i -/
def rw_ (v k : Nat) (xs : List Nat) (i : Nat) : List Int := ce_row (fm_K v k) xs (pi_ v i)
theorem rw_at {v k i j : Nat} {xs : List Nat} (hj : j < (fm_K v k).length) : (rw_ v k xs i).getD j 0 = (xs.count (pm_im (pi_ v i) ((fm_K v k).getD j 0)) : Int) := ce_row_at hj
theorem rw_len {v k i : Nat} {xs : List Nat} : (rw_ v k xs i).length = (fm_K v k).length := ce_row_len
def T_MO_compare : ma_T := fun as w post => ∃ v k xs i j, as = [.inr 24, .inl (nI i), .inl (nI j)] ∧ vk v k ∧ mg v k w ∧ tm xs w ∧ xs.length ≤ 2000 ∧ i < fc v ∧ j < fc v ∧ post (cmpv (rw_ v k xs i) (rw_ v k xs j)) w
theorem i_MO_compare {v k i j : Nat} {xs : List Nat} {w : ma_W} {post : ma_P} (hv : vk v k) (hg : mg v k w) (ht : tm xs w) (hx : xs.length ≤ 2000) (hi : i < fc v) (hj : j < fc v) (hp : post (cmpv (rw_ v k xs i) (rw_ v k xs j)) w) : T_MO_compare [.inr 24, .inl (nI i), .inl (nI j)] w post := ⟨v, k, xs, i, j, rfl, hv, hg, ht, hx, hi, hj, hp⟩
theorem c_MO_compare {l : Launch} : ma_Met l y_MO_compare (w_MO_compare :: zw_t) 1 true T_MO_compare := by
  refine z_MO_compare c_MO_image (by decide) (by rintro as w post ⟨v, k, xs, i, j, rfl, -⟩; simp) ?_
  rintro as w post ⟨v, k, xs, i, j, rfl, hv, hg, ht, hx, hi, hj, hp⟩ Go hGo
  obtain ⟨h3, h6, -, -⟩ := id hv
  have h20 := vk_20 hv
  have h25 := hg.2.2.2.2.2.1
  have loop : ∀ (d b : Nat) (o4 o5 : Option ma_V), b + d = (fm_K v k).length → (∀ n, n < b → (rw_ v k xs i).getD n 0 = (rw_ v k xs j).getD n 0) → Go 2 [some (.inr 24), some (.inl (nI i)), some (.inl (nI j)), some (.inl (nI b)), o4, o5] [] w := by
    intro d
    induction d with
    | zero =>
      intro b o4 o5 hd hs
      refine q_MO_compare_2 hGo (pk_le (fm_K v k).length b (fun _ => q_MO_compare_72 hGo ?_) (fun h => absurd h (by omega)) hg.2.2.2.1 rfl (by omega) (by omega))
      have he : rw_ v k xs i = rw_ v k xs j := lx_ext (by rw [rw_len, rw_len]) (fun n hn => hs n (by rw [rw_len] at hn; omega))
      rw [cmpv, he, lx_irr, if_neg (by decide), if_pos rfl] at hp
      exact hp
    | succ d ih =>
      intro b o4 o5 hd hs
      have hb : b < (fm_K v k).length := by omega
      have hm := K_mem hb
      have hm64 := vk_64 hv hm
      have ha := vk_64 hv (fm_K_im (pi_perm h3 h6 hi) hm)
      have hc := vk_64 hv (fm_K_im (pi_perm h3 h6 hj) hm)
      have hl1 : xs.count (pm_im (pi_ v i) ((fm_K v k).getD b 0)) ≤ xs.length := List.count_le_length
      have hl2 : xs.count (pm_im (pi_ v j) ((fm_K v k).getD b 0)) ≤ xs.length := List.count_le_length
      refine q_MO_compare_2 hGo (pk_le (fm_K v k).length b (fun h => absurd h (by omega)) (fun _ => ⟨b, by omega, rfl, ?_⟩) hg.2.2.2.1 rfl (by omega) (by omega))
      rw [h25 b hb]
      refine i_MO_image hv hg hm64 hi ⟨_, ha, rfl, b, by omega, rfl, ?_⟩
      rw [h25 b hb]
      refine i_MO_image hv hg hm64 hj ⟨_, hc, rfl, ?_⟩
      rw [ht _ ha, ht _ hc]
      refine pk_eq _ _ (fun h => q_MO_compare_66 hGo ?_) (fun h => pk_le _ _ (fun h9 => q_MO_compare_64 hGo (q_MO_compare_65 hGo ?_)) (fun h9 => q_MO_compare_65 hGo ?_) rfl rfl (by omega) (by omega)) rfl rfl (by omega) (by omega)
      · rw [nI_add]
        refine ih (b + 1) _ _ (by omega) (fun n hn => ?_)
        by_cases hnb : n = b
        · subst hnb
          rw [rw_at hb, rw_at hb, h]
        · exact hs n (by omega)
      · have hgt : lx_gt (rw_ v k xs j) (rw_ v k xs i) = true := lx_at b _ _ (by rw [rw_len, rw_len]) (fun n hn => (hs n hn).symm) (by rw [rw_len]; exact hb) (by rw [rw_at hb, rw_at hb]; omega)
        have hne : ¬ rw_ v k xs i = rw_ v k xs j := fun z => by rw [z, lx_irr] at hgt; cases hgt
        rw [cmpv, lx_asym hgt, if_neg (by decide), if_neg hne] at hp
        exact hp
      · have hgt : lx_gt (rw_ v k xs i) (rw_ v k xs j) = true := lx_at b _ _ (by rw [rw_len, rw_len]) hs (by rw [rw_len]; exact hb) (by rw [rw_at hb, rw_at hb]; omega)
        rw [cmpv, if_pos hgt] at hp
        exact hp
  exact q_MO_compare_0 hGo (loop (fm_K v k).length 0 _ _ (by omega) (fun n hn => absurd hn (Nat.not_lt_zero n)))
/-- all renamings, by their numbers -/
theorem all_pi {v k : Nat} (hv : vk v k) (P : List Nat → Prop) (h : ∀ i, i < fc v → P (pi_ v i)) : ∀ t, t.Perm (List.range v) → P t := by
  intro t ht
  obtain ⟨i, hi, e⟩ := List.mem_map.mp ((pi_P hv.1 hv.2.1).mem_iff.mpr (pm_P_mem.mpr ht))
  rw [← e]
  exact h i (List.mem_range.mp hi)
def T_MO_leastOne : ma_T := fun as w post => ∃ v k xs, as = [.inr 24] ∧ vk v k ∧ mg v k w ∧ tm xs w ∧ xs.length ≤ 2000 ∧ ∀ b, b < fc v → rw_ v k xs b = sp_max v (fm_K v k) xs → post (nI b) w
theorem i_MO_leastOne {v k : Nat} {xs : List Nat} {w : ma_W} {post : ma_P} (hv : vk v k) (hg : mg v k w) (ht : tm xs w) (hx : xs.length ≤ 2000) (hp : ∀ b, b < fc v → rw_ v k xs b = sp_max v (fm_K v k) xs → post (nI b) w) : T_MO_leastOne [.inr 24] w post := ⟨v, k, xs, rfl, hv, hg, ht, hx, hp⟩
theorem c_MO_leastOne {l : Launch} : ma_Met l y_MO_leastOne (w_MO_leastOne :: zw_t) 2 true T_MO_leastOne := by
  refine z_MO_leastOne c_MO_compare (by decide) (by rintro as w post ⟨v, k, xs, rfl, -⟩; simp) ?_
  rintro as w post ⟨v, k, xs, rfl, hv, hg, ht, hx, hp⟩ Go hGo
  have hv6 := hv.2.1
  have hfc := fc_le v (by omega)
  have hpos := fc_pos v (by omega)
  have h7 := hg.2.2.2.2.1
  have loop : ∀ (d n b : Nat), n + d = fc v → b < fc v → 0 < n → (∀ i, i < n → lx_gt (rw_ v k xs i) (rw_ v k xs b) = false) → Go 4 [some (.inr 24), some (.inl (nI b)), some (.inl (nI n))] [] w := by
    intro d
    induction d with
    | zero =>
      intro n b hd hb hn hs
      refine q_MO_leastOne_4 hGo (pk_le (fc v) n (fun _ => q_MO_leastOne_33 hGo (hp b hb ?_)) (fun h => absurd h (by omega)) h7 rfl (by omega) (by omega))
      exact sp_max_u ⟨pi_ v b, pi_perm hv.1 hv6 hb, rfl⟩ (all_pi hv _ (fun i hi => hs i (by omega)))
    | succ d ih =>
      intro n b hd hb hn hs
      refine q_MO_leastOne_4 hGo (pk_le (fc v) n (fun h => absurd h (by omega)) (fun _ => i_MO_compare hv hg ht hx (by omega) hb (cmp_ge (fun h => q_MO_leastOne_25 hGo (q_MO_leastOne_26 hGo ?_)) (fun h => q_MO_leastOne_26 hGo ?_))) h7 rfl (by omega) (by omega))
      · rw [nI_add]
        refine ih (n + 1) b (by omega) hb (by omega) (fun i hi => ?_)
        by_cases hin : i = n
        · subst hin; exact h
        · exact hs i (by omega)
      · rw [nI_add]
        refine ih (n + 1) n (by omega) (by omega) (by omega) (fun i hi => ?_)
        by_cases hin : i = n
        · subst hin; exact lx_irr _
        · cases hq : lx_gt (rw_ v k xs i) (rw_ v k xs n) with
          | false => rfl
          | true =>
            have := lx_trans _ _ _ hq h
            rw [hs i (by omega)] at this
            cases this
  exact q_MO_leastOne_0 hGo (loop (fc v - 1) 1 0 (by omega) hpos (by decide) (fun i hi => by
    obtain rfl : i = 0 := by omega
    exact lx_irr _))
theorem rw_0 {v k : Nat} {xs : List Nat} (hv : vk v k) : rw_ v k xs 0 = ce_row (fm_K v k) xs (List.range v) := by
  unfold rw_
  rw [pi_0 v (by have := hv.2.1; omega)]
def T_MO_isLeast : ma_T := fun as w post => ∃ v k xs, as = [.inr 24] ∧ vk v k ∧ mg v k w ∧ tm xs w ∧ xs.length ≤ 2000 ∧ post (bI (ce_isf v (fm_K v k) xs)) w
theorem i_MO_isLeast {v k : Nat} {xs : List Nat} {w : ma_W} {post : ma_P} (hv : vk v k) (hg : mg v k w) (ht : tm xs w) (hx : xs.length ≤ 2000) (hp : post (bI (ce_isf v (fm_K v k) xs)) w) : T_MO_isLeast [.inr 24] w post := ⟨v, k, xs, rfl, hv, hg, ht, hx, hp⟩
theorem c_MO_isLeast {l : Launch} : ma_Met l y_MO_isLeast (w_MO_isLeast :: zw_t) 2 true T_MO_isLeast := by
  refine z_MO_isLeast c_MO_compare (by decide) (by rintro as w post ⟨v, k, xs, rfl, -⟩; simp) ?_
  rintro as w post ⟨v, k, xs, rfl, hv, hg, ht, hx, hp⟩ Go hGo
  have hv6 := hv.2.1
  have hfc := fc_le v (by omega)
  have hpos := fc_pos v (by omega)
  have h7 := hg.2.2.2.2.1
  have bad : ∀ i, i < fc v → lx_gt (rw_ v k xs i) (rw_ v k xs 0) = true → ce_isf v (fm_K v k) xs = false := by
    intro i hi h
    cases hq : ce_isf v (fm_K v k) xs with
    | false => rfl
    | true =>
      have := ce_isf_iff.mp hq (pi_ v i) (pi_perm hv.1 hv6 hi)
      rw [← rw_0 hv] at this
      rw [show lx_gt (ce_row (fm_K v k) xs (pi_ v i)) (rw_ v k xs 0) = true from h] at this
      cases this
  have loop : ∀ (d n : Nat) (g : Bool), n + d = fc v → (g = true → ∀ i, i < n → lx_gt (rw_ v k xs i) (rw_ v k xs 0) = false) → (g = false → ce_isf v (fm_K v k) xs = false) → Go 4 [some (.inr 24), some (.inl (bI g)), some (.inl (nI n))] [] w := by
    intro d
    induction d with
    | zero =>
      intro n g hd h1 h2
      refine q_MO_isLeast_4 hGo (pk_le (fc v) n (fun _ => q_MO_isLeast_37 hGo ⟨bI_bo g, ?_⟩) (fun h => absurd h (by omega)) h7 rfl (by omega) (by omega))
      cases g with
      | false => rw [h2 rfl] at hp; exact hp
      | true =>
        have : ce_isf v (fm_K v k) xs = true := ce_isf_iff.mpr (all_pi hv _ (fun i hi => by
          have := h1 rfl i (by omega)
          rw [rw_0 hv] at this
          exact this))
        rw [this] at hp
        exact hp
    | succ d ih =>
      intro n g hd h1 h2
      refine q_MO_isLeast_4 hGo (pk_le (fc v) n (fun h => absurd h (by omega)) (fun _ => bI_eq (fun hgf => q_MO_isLeast_37 hGo ⟨bI_bo g, ?_⟩) (fun hgt => i_MO_compare hv hg ht hx (by omega) hpos (cmp_lt (fun h => q_MO_isLeast_29 hGo (q_MO_isLeast_30 hGo ?_)) (fun h => q_MO_isLeast_30 hGo ?_)))) h7 rfl (by omega) (by omega))
      · rw [h2 hgf] at hp
        rw [hgf]
        exact hp
      · rw [nI_add]
        exact ih (n + 1) false (by omega) (fun z => by cases z) (fun _ => bad n (by omega) h)
      · rw [nI_add]
        refine ih (n + 1) true (by omega) (fun _ i hi => ?_) (fun z => by cases z)
        by_cases hin : i = n
        · subst hin; exact h
        · exact h1 hgt i (by omega)
  exact q_MO_isLeast_0 hGo (loop (fc v - 1) 1 true (by omega) (fun _ i hi => by
    obtain rfl : i = 0 := by omega
    exact lx_irr _) (fun z => by cases z))
def T_MO_keepers : ma_T := fun as w post => ∃ v k xs, as = [.inr 24] ∧ vk v k ∧ mg v k w ∧ tm xs w ∧ xs.length ≤ 2000 ∧ post (nI (ce_ord v k xs)) w
theorem i_MO_keepers {v k : Nat} {xs : List Nat} {w : ma_W} {post : ma_P} (hv : vk v k) (hg : mg v k w) (ht : tm xs w) (hx : xs.length ≤ 2000) (hp : post (nI (ce_ord v k xs)) w) : T_MO_keepers [.inr 24] w post := ⟨v, k, xs, rfl, hv, hg, ht, hx, hp⟩
theorem ord_pi {v k : Nat} {xs : List Nat} (hv : vk v k) : ce_ord v k xs = (List.range (fc v)).countP (fun i => rw_ v k xs i == rw_ v k xs 0) := by
  unfold ce_ord fm_ord
  rw [← (pi_P hv.1 hv.2.1).countP_eq, List.countP_map, rw_0 hv]
  rfl
theorem c_MO_keepers {l : Launch} : ma_Met l y_MO_keepers (w_MO_keepers :: zw_t) 2 true T_MO_keepers := by
  refine z_MO_keepers c_MO_compare (by decide) (by rintro as w post ⟨v, k, xs, rfl, -⟩; simp) ?_
  rintro as w post ⟨v, k, xs, rfl, hv, hg, ht, hx, hp⟩ Go hGo
  have hv6 := hv.2.1
  have hfc := fc_le v (by omega)
  have hpos := fc_pos v (by omega)
  have h7 := hg.2.2.2.2.1
  rw [ord_pi hv] at hp
  have loop : ∀ (d n : Nat), n + d = fc v → Go 4 [some (.inr 24), some (.inl (nI ((List.range n).countP (fun i => rw_ v k xs i == rw_ v k xs 0)))), some (.inl (nI n))] [] w := by
    intro d
    induction d with
    | zero =>
      intro n hd
      refine q_MO_keepers_4 hGo (pk_le (fc v) n (fun _ => q_MO_keepers_35 hGo ?_) (fun h => absurd h (by omega)) h7 rfl (by omega) (by omega))
      rw [show n = fc v by omega]
      exact hp
    | succ d ih =>
      intro n hd
      have hstep := ih (n + 1) (by omega)
      rw [List.range_succ, List.countP_append, List.countP_singleton] at hstep
      refine q_MO_keepers_4 hGo (pk_le (fc v) n (fun h => absurd h (by omega)) (fun _ => i_MO_compare hv hg ht hx (by omega) hpos (cmp_ne (fun h => q_MO_keepers_27 hGo (q_MO_keepers_28 hGo ?_)) (fun h => q_MO_keepers_28 hGo ?_))) h7 rfl (by omega) (by omega))
      · rw [if_neg (fun z => h (beq_iff_eq.mp z)), Nat.add_zero] at hstep
        rw [nI_add]
        exact hstep
      · rw [if_pos (beq_iff_eq.mpr h)] at hstep
        rw [nI_add, nI_add]
        exact hstep
  exact q_MO_keepers_0 hGo (loop (fc v) 0 (by omega))
end
