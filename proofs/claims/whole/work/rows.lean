section
/-! THE WORDS OF THE TABLES (begun from kit/laws/SKELETON.whole) -/
/-- a method by its rows, by its rows of tables_1 -/
def lw_okq (q : MethodName × Nat) : Prop := (q.1.cls ≠ "java/lang/invoke/MethodHandle" ∧ q.1.cls ≠ "java/lang/invoke/VarHandle") ∧ Cond.instantiable q.1.cls q.2 ∈ tables_1 ∧ Cond.privateMethod q.1 ∈ tables_1 ∧ Cond.instanceMethod q.1 ∈ tables_1
theorem lw_p0 : lw_okq (⟨"PackingCensus$Ground", "addKindsEndingAt", "(I)V"⟩, 5) := ⟨⟨by decide +kernel, by decide +kernel⟩, List.mem_of_getElem? (i := 24) (by decide +kernel), List.mem_of_getElem? (i := 156) (by decide +kernel), List.mem_of_getElem? (i := 157) (by decide +kernel)⟩
theorem lw_p1 : lw_okq (⟨"PackingCensus", "fillSpare", "()Z"⟩, 12) := ⟨⟨by decide +kernel, by decide +kernel⟩, List.mem_of_getElem? (i := 10) (by decide +kernel), List.mem_of_getElem? (i := 193) (by decide +kernel), List.mem_of_getElem? (i := 194) (by decide +kernel)⟩
theorem lw_p2 : lw_okq (⟨"PackingCensus", "addFormsFrom", "(I)Z"⟩, 12) := ⟨⟨by decide +kernel, by decide +kernel⟩, List.mem_of_getElem? (i := 10) (by decide +kernel), List.mem_of_getElem? (i := 201) (by decide +kernel), List.mem_of_getElem? (i := 202) (by decide +kernel)⟩
theorem lw_p3 : lw_okq (⟨"PackingCensus", "staysPacking", "(II)Z"⟩, 12) := ⟨⟨by decide +kernel, by decide +kernel⟩, List.mem_of_getElem? (i := 10) (by decide +kernel), List.mem_of_getElem? (i := 230) (by decide +kernel), List.mem_of_getElem? (i := 231) (by decide +kernel)⟩
theorem lw_p4 : lw_okq (⟨"PackingCensus$Former", "start", "(LPackingCensus$Row;)V"⟩, 9) := ⟨⟨by decide +kernel, by decide +kernel⟩, List.mem_of_getElem? (i := 18) (by decide +kernel), List.mem_of_getElem? (i := 247) (by decide +kernel), List.mem_of_getElem? (i := 248) (by decide +kernel)⟩
theorem lw_p5 : lw_okq (⟨"PackingCensus$Former", "tryPointsFor", "(II)V"⟩, 9) := ⟨⟨by decide +kernel, by decide +kernel⟩, List.mem_of_getElem? (i := 18) (by decide +kernel), List.mem_of_getElem? (i := 261) (by decide +kernel), List.mem_of_getElem? (i := 262) (by decide +kernel)⟩
theorem lw_p6 : lw_okq (⟨"PackingCensus$Former", "countRenaming", "()V"⟩, 9) := ⟨⟨by decide +kernel, by decide +kernel⟩, List.mem_of_getElem? (i := 18) (by decide +kernel), List.mem_of_getElem? (i := 266) (by decide +kernel), List.mem_of_getElem? (i := 267) (by decide +kernel)⟩
theorem lw_p7 : lw_okq (⟨"PackingCensus$Former", "tryPoint", "(III)V"⟩, 9) := ⟨⟨by decide +kernel, by decide +kernel⟩, List.mem_of_getElem? (i := 18) (by decide +kernel), List.mem_of_getElem? (i := 273) (by decide +kernel), List.mem_of_getElem? (i := 274) (by decide +kernel)⟩
theorem lw_p8 : lw_okq (⟨"PackingCensus$Former", "isAsGood", "(II)Z"⟩, 9) := ⟨⟨by decide +kernel, by decide +kernel⟩, List.mem_of_getElem? (i := 18) (by decide +kernel), List.mem_of_getElem? (i := 277) (by decide +kernel), List.mem_of_getElem? (i := 278) (by decide +kernel)⟩
theorem lw_p9 : lw_okq (⟨"PackingCensus$Former", "makeBest", "(II)V"⟩, 9) := ⟨⟨by decide +kernel, by decide +kernel⟩, List.mem_of_getElem? (i := 18) (by decide +kernel), List.mem_of_getElem? (i := 285) (by decide +kernel), List.mem_of_getElem? (i := 286) (by decide +kernel)⟩
theorem lw_p10 : lw_okq (⟨"PackingCensus$Former", "settleImages", "(II)V"⟩, 9) := ⟨⟨by decide +kernel, by decide +kernel⟩, List.mem_of_getElem? (i := 18) (by decide +kernel), List.mem_of_getElem? (i := 289) (by decide +kernel), List.mem_of_getElem? (i := 290) (by decide +kernel)⟩
theorem lw_p11 : lw_okq (⟨"PackingCensus", "isDesign", "(I)Z"⟩, 12) := ⟨⟨by decide +kernel, by decide +kernel⟩, List.mem_of_getElem? (i := 10) (by decide +kernel), List.mem_of_getElem? (i := 362) (by decide +kernel), List.mem_of_getElem? (i := 363) (by decide +kernel)⟩
theorem lw_p12 : lw_okq (⟨"PackingCensus", "formHand", "()V"⟩, 12) := ⟨⟨by decide +kernel, by decide +kernel⟩, List.mem_of_getElem? (i := 10) (by decide +kernel), List.mem_of_getElem? (i := 412) (by decide +kernel), List.mem_of_getElem? (i := 413) (by decide +kernel)⟩
theorem lw_p13 : lw_okq (⟨"PackingCensus$Listing", "isEntry", "(ILPackingCensus$Row;)Z"⟩, 5) := ⟨⟨by decide +kernel, by decide +kernel⟩, List.mem_of_getElem? (i := 89) (by decide +kernel), List.mem_of_getElem? (i := 435) (by decide +kernel), List.mem_of_getElem? (i := 436) (by decide +kernel)⟩
theorem lw_p14 : lw_okq (⟨"PackingCensusModel", "layOut", "()V"⟩, 18) := ⟨⟨by decide +kernel, by decide +kernel⟩, List.mem_of_getElem? (i := 439) (by decide +kernel), List.mem_of_getElem? (i := 504) (by decide +kernel), List.mem_of_getElem? (i := 505) (by decide +kernel)⟩
theorem lw_p15 : lw_okq (⟨"PackingCensusModel", "rename", "(I)V"⟩, 18) := ⟨⟨by decide +kernel, by decide +kernel⟩, List.mem_of_getElem? (i := 439) (by decide +kernel), List.mem_of_getElem? (i := 511) (by decide +kernel), List.mem_of_getElem? (i := 512) (by decide +kernel)⟩
def lw_privs_1 : List (MethodName × Nat) := [(⟨"PackingCensus$Ground", "addKindsEndingAt", "(I)V"⟩, 5), (⟨"PackingCensus", "fillSpare", "()Z"⟩, 12), (⟨"PackingCensus", "addFormsFrom", "(I)Z"⟩, 12), (⟨"PackingCensus", "staysPacking", "(II)Z"⟩, 12), (⟨"PackingCensus$Former", "start", "(LPackingCensus$Row;)V"⟩, 9), (⟨"PackingCensus$Former", "tryPointsFor", "(II)V"⟩, 9), (⟨"PackingCensus$Former", "countRenaming", "()V"⟩, 9), (⟨"PackingCensus$Former", "tryPoint", "(III)V"⟩, 9), (⟨"PackingCensus$Former", "isAsGood", "(II)Z"⟩, 9), (⟨"PackingCensus$Former", "makeBest", "(II)V"⟩, 9), (⟨"PackingCensus$Former", "settleImages", "(II)V"⟩, 9), (⟨"PackingCensus", "isDesign", "(I)Z"⟩, 12), (⟨"PackingCensus", "formHand", "()V"⟩, 12), (⟨"PackingCensus$Listing", "isEntry", "(ILPackingCensus$Row;)Z"⟩, 5), (⟨"PackingCensusModel", "layOut", "()V"⟩, 18), (⟨"PackingCensusModel", "rename", "(I)V"⟩, 18)]
theorem lw_r1 : ∀ q ∈ lw_privs_1, lw_okq q := List.forall_mem_cons.mpr ⟨lw_p0, List.forall_mem_cons.mpr ⟨lw_p1, List.forall_mem_cons.mpr ⟨lw_p2, List.forall_mem_cons.mpr ⟨lw_p3, List.forall_mem_cons.mpr ⟨lw_p4, List.forall_mem_cons.mpr ⟨lw_p5, List.forall_mem_cons.mpr ⟨lw_p6, List.forall_mem_cons.mpr ⟨lw_p7, List.forall_mem_cons.mpr ⟨lw_p8, List.forall_mem_cons.mpr ⟨lw_p9, List.forall_mem_cons.mpr ⟨lw_p10, List.forall_mem_cons.mpr ⟨lw_p11, List.forall_mem_cons.mpr ⟨lw_p12, List.forall_mem_cons.mpr ⟨lw_p13, List.forall_mem_cons.mpr ⟨lw_p14, List.forall_mem_cons.mpr ⟨lw_p15, fun _ h => absurd h List.not_mem_nil⟩⟩⟩⟩⟩⟩⟩⟩⟩⟩⟩⟩⟩⟩⟩⟩
theorem lw_p16 : lw_okq (⟨"PackingCensusModel", "extend", "(II)Z"⟩, 18) := ⟨⟨by decide +kernel, by decide +kernel⟩, List.mem_of_getElem? (i := 439) (by decide +kernel), List.mem_of_getElem? (i := 519) (by decide +kernel), List.mem_of_getElem? (i := 520) (by decide +kernel)⟩
theorem lw_p17 : lw_okq (⟨"PackingCensusModel", "lookAtEntry", "(I)V"⟩, 18) := ⟨⟨by decide +kernel, by decide +kernel⟩, List.mem_of_getElem? (i := 439) (by decide +kernel), List.mem_of_getElem? (i := 523) (by decide +kernel), List.mem_of_getElem? (i := 524) (by decide +kernel)⟩
theorem lw_p18 : lw_okq (⟨"PackingCensusModel", "none", "()V"⟩, 18) := ⟨⟨by decide +kernel, by decide +kernel⟩, List.mem_of_getElem? (i := 439) (by decide +kernel), List.mem_of_getElem? (i := 527) (by decide +kernel), List.mem_of_getElem? (i := 528) (by decide +kernel)⟩
theorem lw_p19 : lw_okq (⟨"PackingCensusModel", "meets", "(II)Z"⟩, 18) := ⟨⟨by decide +kernel, by decide +kernel⟩, List.mem_of_getElem? (i := 439) (by decide +kernel), List.mem_of_getElem? (i := 531) (by decide +kernel), List.mem_of_getElem? (i := 532) (by decide +kernel)⟩
theorem lw_p20 : lw_okq (⟨"PackingCensusModel", "meet", "(II)I"⟩, 18) := ⟨⟨by decide +kernel, by decide +kernel⟩, List.mem_of_getElem? (i := 439) (by decide +kernel), List.mem_of_getElem? (i := 535) (by decide +kernel), List.mem_of_getElem? (i := 536) (by decide +kernel)⟩
theorem lw_p21 : lw_okq (⟨"PackingCensusModel", "isLeast", "()Z"⟩, 18) := ⟨⟨by decide +kernel, by decide +kernel⟩, List.mem_of_getElem? (i := 439) (by decide +kernel), List.mem_of_getElem? (i := 539) (by decide +kernel), List.mem_of_getElem? (i := 540) (by decide +kernel)⟩
theorem lw_p22 : lw_okq (⟨"PackingCensusModel", "compare", "(II)I"⟩, 18) := ⟨⟨by decide +kernel, by decide +kernel⟩, List.mem_of_getElem? (i := 439) (by decide +kernel), List.mem_of_getElem? (i := 543) (by decide +kernel), List.mem_of_getElem? (i := 544) (by decide +kernel)⟩
theorem lw_p23 : lw_okq (⟨"PackingCensusModel", "image", "(II)I"⟩, 18) := ⟨⟨by decide +kernel, by decide +kernel⟩, List.mem_of_getElem? (i := 439) (by decide +kernel), List.mem_of_getElem? (i := 547) (by decide +kernel), List.mem_of_getElem? (i := 548) (by decide +kernel)⟩
theorem lw_p24 : lw_okq (⟨"PackingCensusModel", "isEntry", "(I)Z"⟩, 18) := ⟨⟨by decide +kernel, by decide +kernel⟩, List.mem_of_getElem? (i := 439) (by decide +kernel), List.mem_of_getElem? (i := 563) (by decide +kernel), List.mem_of_getElem? (i := 564) (by decide +kernel)⟩
theorem lw_p25 : lw_okq (⟨"PackingCensusModel", "keepers", "()I"⟩, 18) := ⟨⟨by decide +kernel, by decide +kernel⟩, List.mem_of_getElem? (i := 439) (by decide +kernel), List.mem_of_getElem? (i := 571) (by decide +kernel), List.mem_of_getElem? (i := 572) (by decide +kernel)⟩
theorem lw_p26 : lw_okq (⟨"PackingCensusModel", "pair", "(II)V"⟩, 18) := ⟨⟨by decide +kernel, by decide +kernel⟩, List.mem_of_getElem? (i := 439) (by decide +kernel), List.mem_of_getElem? (i := 580) (by decide +kernel), List.mem_of_getElem? (i := 581) (by decide +kernel)⟩
theorem lw_p27 : lw_okq (⟨"PackingCensusModel", "tooOften", "()Z"⟩, 18) := ⟨⟨by decide +kernel, by decide +kernel⟩, List.mem_of_getElem? (i := 439) (by decide +kernel), List.mem_of_getElem? (i := 584) (by decide +kernel), List.mem_of_getElem? (i := 585) (by decide +kernel)⟩
theorem lw_p28 : lw_okq (⟨"PackingCensusModel", "isPoint", "(I)Z"⟩, 18) := ⟨⟨by decide +kernel, by decide +kernel⟩, List.mem_of_getElem? (i := 439) (by decide +kernel), List.mem_of_getElem? (i := 592) (by decide +kernel), List.mem_of_getElem? (i := 593) (by decide +kernel)⟩
theorem lw_p29 : lw_okq (⟨"PackingCensusModel", "isBlock", "(I)Z"⟩, 18) := ⟨⟨by decide +kernel, by decide +kernel⟩, List.mem_of_getElem? (i := 439) (by decide +kernel), List.mem_of_getElem? (i := 613) (by decide +kernel), List.mem_of_getElem? (i := 614) (by decide +kernel)⟩
theorem lw_p30 : lw_okq (⟨"PackingCensusModel", "lookAtHand", "()V"⟩, 18) := ⟨⟨by decide +kernel, by decide +kernel⟩, List.mem_of_getElem? (i := 439) (by decide +kernel), List.mem_of_getElem? (i := 637) (by decide +kernel), List.mem_of_getElem? (i := 638) (by decide +kernel)⟩
theorem lw_p31 : lw_okq (⟨"PackingCensusModel", "leastOne", "()I"⟩, 18) := ⟨⟨by decide +kernel, by decide +kernel⟩, List.mem_of_getElem? (i := 439) (by decide +kernel), List.mem_of_getElem? (i := 641) (by decide +kernel), List.mem_of_getElem? (i := 642) (by decide +kernel)⟩
def lw_privs_2 : List (MethodName × Nat) := [(⟨"PackingCensusModel", "extend", "(II)Z"⟩, 18), (⟨"PackingCensusModel", "lookAtEntry", "(I)V"⟩, 18), (⟨"PackingCensusModel", "none", "()V"⟩, 18), (⟨"PackingCensusModel", "meets", "(II)Z"⟩, 18), (⟨"PackingCensusModel", "meet", "(II)I"⟩, 18), (⟨"PackingCensusModel", "isLeast", "()Z"⟩, 18), (⟨"PackingCensusModel", "compare", "(II)I"⟩, 18), (⟨"PackingCensusModel", "image", "(II)I"⟩, 18), (⟨"PackingCensusModel", "isEntry", "(I)Z"⟩, 18), (⟨"PackingCensusModel", "keepers", "()I"⟩, 18), (⟨"PackingCensusModel", "pair", "(II)V"⟩, 18), (⟨"PackingCensusModel", "tooOften", "()Z"⟩, 18), (⟨"PackingCensusModel", "isPoint", "(I)Z"⟩, 18), (⟨"PackingCensusModel", "isBlock", "(I)Z"⟩, 18), (⟨"PackingCensusModel", "lookAtHand", "()V"⟩, 18), (⟨"PackingCensusModel", "leastOne", "()I"⟩, 18)]
theorem lw_r2 : ∀ q ∈ lw_privs_2, lw_okq q := List.forall_mem_cons.mpr ⟨lw_p16, List.forall_mem_cons.mpr ⟨lw_p17, List.forall_mem_cons.mpr ⟨lw_p18, List.forall_mem_cons.mpr ⟨lw_p19, List.forall_mem_cons.mpr ⟨lw_p20, List.forall_mem_cons.mpr ⟨lw_p21, List.forall_mem_cons.mpr ⟨lw_p22, List.forall_mem_cons.mpr ⟨lw_p23, List.forall_mem_cons.mpr ⟨lw_p24, List.forall_mem_cons.mpr ⟨lw_p25, List.forall_mem_cons.mpr ⟨lw_p26, List.forall_mem_cons.mpr ⟨lw_p27, List.forall_mem_cons.mpr ⟨lw_p28, List.forall_mem_cons.mpr ⟨lw_p29, List.forall_mem_cons.mpr ⟨lw_p30, List.forall_mem_cons.mpr ⟨lw_p31, fun _ h => absurd h List.not_mem_nil⟩⟩⟩⟩⟩⟩⟩⟩⟩⟩⟩⟩⟩⟩⟩⟩
theorem lw_p32 : lw_okq (⟨"PackingCensusModel", "rowed", "(II)I"⟩, 18) := ⟨⟨by decide +kernel, by decide +kernel⟩, List.mem_of_getElem? (i := 439) (by decide +kernel), List.mem_of_getElem? (i := 645) (by decide +kernel), List.mem_of_getElem? (i := 646) (by decide +kernel)⟩
def lw_privs_3 : List (MethodName × Nat) := [(⟨"PackingCensusModel", "rowed", "(II)I"⟩, 18)]
theorem lw_r3 : ∀ q ∈ lw_privs_3, lw_okq q := List.forall_mem_cons.mpr ⟨lw_p32, fun _ h => absurd h List.not_mem_nil⟩
def lw_privs : List (MethodName × Nat) := lw_privs_1 ++ (lw_privs_2 ++ (lw_privs_3))
def lw_tbl : List Cond := k2_sels lw_privs ++ tables_1
theorem lw_privs_ok : ∀ q ∈ lw_privs, lw_okq q := by
  show ∀ q ∈ lw_privs_1 ++ (lw_privs_2 ++ (lw_privs_3)), lw_okq q
  exact List.forall_mem_append.mpr ⟨lw_r1, List.forall_mem_append.mpr ⟨lw_r2, lw_r3⟩⟩
end
section
/-! NAMES, by program (wip/whole/gen.py): objects, fields, methods, their instructions, links. Made anew when the program lands anew. -/
/-- the words that every call keeps -/
def zw_t : List Cond := lw_tbl.filter goodWord
theorem zw_m {w : Cond} {i : Nat} (h : lw_tbl[i]? = some w) (g : goodWord w = true) : w ∈ zw_t := List.mem_filter.mpr ⟨List.mem_of_getElem? h, g⟩
def zc_PC : String := "PackingCensus"
def zt_PC : u_T := fun k => match k with
  | 0 => ("PackingCensus", "ground", "LPackingCensus$Ground;", true)
  | 1 => ("PackingCensus", "former", "LPackingCensus$Former;", true)
  | 2 => ("PackingCensus", "hand", "LPackingCensus$Row;", true)
  | 3 => ("PackingCensus", "handForm", "LPackingCensus$Row;", true)
  | 4 => ("PackingCensus", "trial", "LPackingCensus$Row;", true)
  | 5 => ("PackingCensus", "listing", "LPackingCensus$Listing;", false)
  | 6 => ("PackingCensus", "spare", "LPackingCensus$Listing;", false)
  | 7 => ("PackingCensus", "lambda", "I", false)
  | 8 => ("PackingCensus", "handOrder", "I", false)
  | 9 => ("PackingCensus", "handFormKnown", "Z", false)
  | 10 => ("PackingCensus", "begun", "Z", false)
  | _ => ("PackingCensus", "nextTooLong", "Z", false)
def zy_PC : Nat → FieldType := fun k => match k with
  | 0 => .object "PackingCensus$Ground"
  | 1 => .object "PackingCensus$Former"
  | 2 => .object "PackingCensus$Row"
  | 3 => .object "PackingCensus$Row"
  | 4 => .object "PackingCensus$Row"
  | 5 => .object "PackingCensus$Listing"
  | 6 => .object "PackingCensus$Listing"
  | 7 => .int
  | 8 => .int
  | 9 => .boolean
  | 10 => .boolean
  | _ => .boolean
theorem zn_PC : ∀ a, a < 12 → ∀ b, b < 12 → a ≠ b → (zt_PC a).2.1 ≠ (zt_PC b).2.1 := by decide +kernel
theorem zo_PC : ∀ k, k < 12 → parseFieldDescriptor (zt_PC k).2.2.1 = some (zy_PC k) := by decide +kernel
theorem zi_PC : ∀ w ∈ u_ws zc_PC zt_PC 12, w ∈ zw_t := by
  have h : ∀ k, k < 12 → lw_tbl[[155, 157, 159, 161, 163, 165, 167, 169, 171, 173, 175, 177].getD k 0]? = some (u_lay zc_PC zt_PC k) := by decide +kernel
  intro w hw
  obtain ⟨k, hk, rfl⟩ := List.mem_map.mp hw
  have hg : ∀ k, k < 12 → goodWord (u_lay zc_PC zt_PC k) = true := by decide +kernel
  exact zw_m (h k (List.mem_range.mp hk)) (hg k (List.mem_range.mp hk))
def zc_FO : String := "PackingCensus$Former"
def zt_FO : u_T := fun k => match k with
  | 0 => ("PackingCensus$Former", "ground", "LPackingCensus$Ground;", true)
  | 1 => ("PackingCensus$Former", "times", "[I", true)
  | 2 => ("PackingCensus$Former", "best", "[I", true)
  | 3 => ("PackingCensus$Former", "image", "[I", true)
  | 4 => ("PackingCensus$Former", "takenTo", "[I", true)
  | 5 => ("PackingCensus$Former", "leastImages", "[I", true)
  | 6 => ("PackingCensus$Former", "bestRenamings", "I", false)
  | 7 => ("PackingCensus$Former", "stopWhenBeaten", "Z", false)
  | _ => ("PackingCensus$Former", "beaten", "Z", false)
def zy_FO : Nat → FieldType := fun k => match k with
  | 0 => .object "PackingCensus$Ground"
  | 1 => .array .int
  | 2 => .array .int
  | 3 => .array .int
  | 4 => .array .int
  | 5 => .array .int
  | 6 => .int
  | 7 => .boolean
  | _ => .boolean
theorem zn_FO : ∀ a, a < 9 → ∀ b, b < 9 → a ≠ b → (zt_FO a).2.1 ≠ (zt_FO b).2.1 := by decide +kernel
theorem zo_FO : ∀ k, k < 9 → parseFieldDescriptor (zt_FO k).2.2.1 = some (zy_FO k) := by decide +kernel
theorem zi_FO : ∀ w ∈ u_ws zc_FO zt_FO 9, w ∈ zw_t := by
  have h : ∀ k, k < 9 → lw_tbl[[89, 91, 93, 95, 97, 99, 101, 103, 105].getD k 0]? = some (u_lay zc_FO zt_FO k) := by decide +kernel
  intro w hw
  obtain ⟨k, hk, rfl⟩ := List.mem_map.mp hw
  have hg : ∀ k, k < 9 → goodWord (u_lay zc_FO zt_FO k) = true := by decide +kernel
  exact zw_m (h k (List.mem_range.mp hk)) (hg k (List.mem_range.mp hk))
def zc_GR : String := "PackingCensus$Ground"
def zt_GR : u_T := fun k => match k with
  | 0 => ("PackingCensus$Ground", "kindMasks", "[I", true)
  | 1 => ("PackingCensus$Ground", "kindsBefore", "[I", true)
  | 2 => ("PackingCensus$Ground", "pointCount", "I", false)
  | 3 => ("PackingCensus$Ground", "blockSize", "I", false)
  | _ => ("PackingCensus$Ground", "kindCount", "I", false)
def zy_GR : Nat → FieldType := fun k => match k with
  | 0 => .array .int
  | 1 => .array .int
  | 2 => .int
  | 3 => .int
  | _ => .int
theorem zn_GR : ∀ a, a < 5 → ∀ b, b < 5 → a ≠ b → (zt_GR a).2.1 ≠ (zt_GR b).2.1 := by decide +kernel
theorem zo_GR : ∀ k, k < 5 → parseFieldDescriptor (zt_GR k).2.2.1 = some (zy_GR k) := by decide +kernel
theorem zi_GR : ∀ w ∈ u_ws zc_GR zt_GR 5, w ∈ zw_t := by
  have h : ∀ k, k < 5 → lw_tbl[[67, 69, 71, 73, 75].getD k 0]? = some (u_lay zc_GR zt_GR k) := by decide +kernel
  intro w hw
  obtain ⟨k, hk, rfl⟩ := List.mem_map.mp hw
  have hg : ∀ k, k < 5 → goodWord (u_lay zc_GR zt_GR k) = true := by decide +kernel
  exact zw_m (h k (List.mem_range.mp hk)) (hg k (List.mem_range.mp hk))
def zc_RO : String := "PackingCensus$Row"
def zt_RO : u_T := fun k => match k with
  | 0 => ("PackingCensus$Row", "masks", "[I", true)
  | _ => ("PackingCensus$Row", "length", "I", false)
def zy_RO : Nat → FieldType := fun k => match k with
  | 0 => .array .int
  | _ => .int
theorem zn_RO : ∀ a, a < 2 → ∀ b, b < 2 → a ≠ b → (zt_RO a).2.1 ≠ (zt_RO b).2.1 := by decide +kernel
theorem zo_RO : ∀ k, k < 2 → parseFieldDescriptor (zt_RO k).2.2.1 = some (zy_RO k) := by decide +kernel
theorem zi_RO : ∀ w ∈ u_ws zc_RO zt_RO 2, w ∈ zw_t := by
  have h : ∀ k, k < 2 → lw_tbl[[116, 118].getD k 0]? = some (u_lay zc_RO zt_RO k) := by decide +kernel
  intro w hw
  obtain ⟨k, hk, rfl⟩ := List.mem_map.mp hw
  have hg : ∀ k, k < 2 → goodWord (u_lay zc_RO zt_RO k) = true := by decide +kernel
  exact zw_m (h k (List.mem_range.mp hk)) (hg k (List.mem_range.mp hk))
def zc_LI : String := "PackingCensus$Listing"
def zt_LI : u_T := fun k => match k with
  | 0 => ("PackingCensus$Listing", "masks", "[I", true)
  | 1 => ("PackingCensus$Listing", "orders", "[I", true)
  | 2 => ("PackingCensus$Listing", "images", "[I", true)
  | 3 => ("PackingCensus$Listing", "blocksEach", "I", false)
  | _ => ("PackingCensus$Listing", "count", "I", false)
def zy_LI : Nat → FieldType := fun k => match k with
  | 0 => .array .int
  | 1 => .array .int
  | 2 => .array .int
  | 3 => .int
  | _ => .int
theorem zn_LI : ∀ a, a < 5 → ∀ b, b < 5 → a ≠ b → (zt_LI a).2.1 ≠ (zt_LI b).2.1 := by decide +kernel
theorem zo_LI : ∀ k, k < 5 → parseFieldDescriptor (zt_LI k).2.2.1 = some (zy_LI k) := by decide +kernel
theorem zi_LI : ∀ w ∈ u_ws zc_LI zt_LI 5, w ∈ zw_t := by
  have h : ∀ k, k < 5 → lw_tbl[[132, 134, 136, 138, 140].getD k 0]? = some (u_lay zc_LI zt_LI k) := by decide +kernel
  intro w hw
  obtain ⟨k, hk, rfl⟩ := List.mem_map.mp hw
  have hg : ∀ k, k < 5 → goodWord (u_lay zc_LI zt_LI k) = true := by decide +kernel
  exact zw_m (h k (List.mem_range.mp hk)) (hg k (List.mem_range.mp hk))
def zc_MO : String := "PackingCensusModel"
def zt_MO : u_T := fun k => match k with
  | 0 => ("PackingCensusModel", "begun", "Z", false)
  | 1 => ("PackingCensusModel", "v", "I", false)
  | 2 => ("PackingCensusModel", "k", "I", false)
  | 3 => ("PackingCensusModel", "lambda", "I", false)
  | 4 => ("PackingCensusModel", "deep", "I", false)
  | 5 => ("PackingCensusModel", "kinds", "I", false)
  | 6 => ("PackingCensusModel", "blocks", "[I", true)
  | 7 => ("PackingCensusModel", "many", "I", false)
  | 8 => ("PackingCensusModel", "perms", "[I", true)
  | 9 => ("PackingCensusModel", "size", "I", false)
  | 10 => ("PackingCensusModel", "list", "[I", true)
  | 11 => ("PackingCensusModel", "made", "I", false)
  | 12 => ("PackingCensusModel", "fresh", "[I", true)
  | 13 => ("PackingCensusModel", "held", "I", false)
  | 14 => ("PackingCensusModel", "cards", "[I", true)
  | 15 => ("PackingCensusModel", "times", "[I", true)
  | 16 => ("PackingCensusModel", "pairs", "[I", true)
  | _ => ("PackingCensusModel", "at", "[I", true)
def zy_MO : Nat → FieldType := fun k => match k with
  | 0 => .boolean
  | 1 => .int
  | 2 => .int
  | 3 => .int
  | 4 => .int
  | 5 => .int
  | 6 => .array .int
  | 7 => .int
  | 8 => .array .int
  | 9 => .int
  | 10 => .array .int
  | 11 => .int
  | 12 => .array .int
  | 13 => .int
  | 14 => .array .int
  | 15 => .array .int
  | 16 => .array .int
  | _ => .array .int
theorem zn_MO : ∀ a, a < 18 → ∀ b, b < 18 → a ≠ b → (zt_MO a).2.1 ≠ (zt_MO b).2.1 := by decide +kernel
theorem zo_MO : ∀ k, k < 18 → parseFieldDescriptor (zt_MO k).2.2.1 = some (zy_MO k) := by decide +kernel
theorem zi_MO : ∀ w ∈ u_ws zc_MO zt_MO 18, w ∈ zw_t := by
  have h : ∀ k, k < 18 → lw_tbl[[495, 497, 499, 501, 503, 505, 507, 509, 511, 513, 515, 517, 519, 521, 523, 525, 527, 529].getD k 0]? = some (u_lay zc_MO zt_MO k) := by decide +kernel
  intro w hw
  obtain ⟨k, hk, rfl⟩ := List.mem_map.mp hw
  have hg : ∀ k, k < 18 → goodWord (u_lay zc_MO zt_MO k) = true := by decide +kernel
  exact zw_m (h k (List.mem_range.mp hk)) (hg k (List.mem_range.mp hk))
abbrev zc_cl : List vw_C := [(zc_PC, zt_PC, 12), (zc_FO, zt_FO, 9), (zc_GR, zt_GR, 5), (zc_RO, zt_RO, 2), (zc_LI, zt_LI, 5), (zc_MO, zt_MO, 18)]
def zc_fk : Nat → List Nat := fun c => match c with
  | 0 => [2, 2, 2, 2, 2, 2, 2, 0, 0, 1, 1, 1]
  | 1 => [2, 2, 2, 2, 2, 2, 0, 1, 1]
  | 2 => [2, 2, 0, 0, 0]
  | 3 => [2, 0]
  | 4 => [2, 2, 2, 0, 0]
  | _ => [1, 0, 0, 0, 0, 0, 2, 0, 2, 0, 2, 0, 2, 0, 2, 2, 2, 2]
def zc_shl : List (Nat ⊕ Nat) := [.inl 0, .inl 1, .inl 2, .inr 20, .inr 7, .inr 64, .inr 20, .inr 64, .inr 6, .inr 6, .inl 3, .inr 10, .inl 3, .inr 10, .inl 3, .inr 10, .inl 4, .inr 600, .inr 60, .inr 360, .inl 4, .inr 600, .inr 60, .inr 360, .inl 5, .inr 20, .inr 4320, .inr 600, .inr 610, .inr 10, .inr 64, .inr 36, .inr 10]
def zc_sh (p : Nat) : Nat ⊕ Nat := zc_shl.getD p (.inr 0)
theorem zc_sh_n {p : Nat} (h : 33 ≤ p) : zc_sh p = .inr 0 := by
  rw [zc_sh, List.getD_eq_getElem?_getD, List.getElem?_eq_none (show zc_shl.length ≤ p from h)]
  rfl
theorem zc_sh_l {p c : Nat} (h : zc_sh p = .inl c) : p < 33 := by
  rcases Nat.lt_or_ge p 33 with h1 | h1
  · exact h1
  · rw [zc_sh_n h1] at h; cases h
theorem zc_sh_r {p n : Nat} (h : zc_sh p = .inr n) (h0 : 0 < n) : p < 33 := by
  rcases Nat.lt_or_ge p 33 with h1 | h1
  · exact h1
  · rw [zc_sh_n h1] at h
    have := Sum.inr.inj h
    omega
theorem zc_sh_s {p n : Nat} (h : zc_sh p = .inr n) : n < 2 ^ 31 := by
  rcases Nat.lt_or_ge p 33 with h1 | h1
  · have key : ∀ p, p < 33 → (match zc_sh p with
      | .inr n => Nat.blt n 5000
      | .inl _ => true) = true := by decide +kernel
    have := key p h1
    rw [h] at this
    have := Nat.blt_eq.mp this
    omega
  · rw [zc_sh_n h1] at h
    have := Sum.inr.inj h
    omega
def zr_l (r : Nat × Nat) : List (List Nat) := [[2, 1, 10, 12, 14, r.1, r.2, 0, 0, 0, 0, 0], [2, 5, 6, 7, 8, 9, 0, 0, 0], [3, 4, 0, 0, 0], [], [], [], [], [], [], [], [11, 0], [], [13, 0], [], [15, 0], [], [17, 18, 19, 0, 0], [], [], [], [21, 22, 23, 0, 0], [], [], [], [0, 0, 0, 0, 0, 0, 25, 0, 26, 0, 27, 0, 28, 0, 29, 30, 31, 32], [], [], [], [], [], [], [], []]
/-- what the reference fields hold -/
def zr (r : Nat × Nat) (p k : Nat) : Nat := ((zr_l r).getD p []).getD k 0
theorem zr_5 (y : Nat) (r : Nat × Nat) : ∀ a b, ¬ (a = 0 ∧ b = 5) → zr (y, r.2) a b = zr r a b := by
  intro a b h
  cases a with
  | succ a => rfl
  | zero =>
    rcases b with _ | _ | _ | _ | _ | _ | b
    · rfl
    · rfl
    · rfl
    · rfl
    · rfl
    · exact absurd ⟨rfl, rfl⟩ h
    · rfl
theorem zr_6 (y : Nat) (r : Nat × Nat) : ∀ a b, ¬ (a = 0 ∧ b = 6) → zr (r.1, y) a b = zr r a b := by
  intro a b h
  cases a with
  | succ a => rfl
  | zero =>
    rcases b with _ | _ | _ | _ | _ | _ | _ | b
    · rfl
    · rfl
    · rfl
    · rfl
    · rfl
    · rfl
    · exact absurd ⟨rfl, rfl⟩ h
    · rfl
theorem zw_in {y y2 : MethodName} {b b2 : ByteArray} {n n2 : Nat} {r r2 : Option FieldType} (h : Cond.code y2 b2 n2 r2 ∈ zw_t) : GoodIn (Cond.code y b n r :: zw_t) (Cond.code y2 b2 n2 r2 :: zw_t) := by
  intro w hw
  have hm : w ∈ zw_t := (List.mem_cons.mp hw).elim (fun e => by rw [e]; exact h) (fun h => h)
  exact ⟨List.mem_cons_of_mem _ hm, good_of_word (List.mem_filter.mp hm).2⟩
end
section
/-! THE ABSTRACT MACHINE. A value is an int or a place of the world; a world is the int fields, the two reference fields that change, and the int arrays, by place. A method's transformer says from which arguments and world it comes to which answers and worlds. -/
abbrev ma_V : Type := Int32 ⊕ Nat
abbrev ma_W : Type := (Nat → Nat → Int32) × (Nat × Nat) × (Nat → Nat → Int32)
abbrev ma_P : Type := Int32 → ma_W → Prop
abbrev ma_T : Type := List ma_V → ma_W → ma_P → Prop
abbrev ma_L : Type := List (Option ma_V)
abbrev ma_G : Type := Nat → ma_L → List ma_V → ma_W → Prop
abbrev ma_C : Type := List (ClassFile.Instr × Nat)
def ma_up {α : Type} (f : Nat → Nat → α) (p k : Nat) (x : α) : Nat → Nat → α := fun q j => if q = p ∧ j = k then x else f q j
theorem ma_up_s {α : Type} (f : Nat → Nat → α) (p k : Nat) (x : α) : ma_up f p k x p k = x := by simp [ma_up]
theorem ma_up_p {α : Type} (f : Nat → Nat → α) {p q : Nat} (k j : Nat) (x : α) (h : q ≠ p) : ma_up f p k x q j = f q j := by simp [ma_up, h]
theorem ma_up_q {α : Type} (f : Nat → Nat → α) {p q : Nat} (k : Nat) (x : α) (h : q ≠ p) : ma_up f p k x q = f q := by funext j; simp [ma_up, h]
theorem ma_up_k {α : Type} (f : Nat → Nat → α) (p q : Nat) {k j : Nat} (x : α) (h : j ≠ k) : ma_up f p k x q j = f q j := by simp [ma_up, h]
/-- a value on the machine: place p lies at the address ad p -/
def ma_cv (ad : Nat → Nat) (v : ma_V) : Value := match v with
  | .inl x => .int x
  | .inr p => .ref (ad p)
theorem ma_cat (ad : Nat → Nat) (v : ma_V) : (ma_cv ad v).category = 1 := by cases v <;> rfl
/-- kinds of fields: 0 int, 1 boolean, 2 a reference -/
def ma_fv (ad : Nat → Nat) (w : ma_W) (p k t : Nat) : Value := if t = 2 then .ref (ad (zr w.2.1 p k)) else .int (w.1 p k)
def ma_fs (ad : Nat → Nat) (w : ma_W) (p : Nat) (ts : List Nat) : List Value := (List.range ts.length).map (fun k => ma_fv ad w p k (ts.getD k 0))
def ma_el (ad : Nat → Nat) (cA : ClassId) (w : ma_W) (p : Nat) : va_E := match zc_sh p with
  | .inl c => .inr (c, ma_fs ad w p (zc_fk c))
  | .inr n => .inl (cA, n, .inl (w.2.2 p))
def ma_cw (ad : Nat → Nat) (cA : ClassId) (w : ma_W) : va_W := (List.range 33).map (fun p => (ad p, ma_el ad cA w p))
theorem ma_fs_len (ad : Nat → Nat) (w : ma_W) (p : Nat) (ts : List Nat) : (ma_fs ad w p ts).length = ts.length := by simp [ma_fs]
theorem ma_fs_get (ad : Nat → Nat) (w : ma_W) (p : Nat) (ts : List Nat) {k : Nat} (h : k < ts.length) : (ma_fs ad w p ts)[k]? = some (ma_fv ad w p k (ts.getD k 0)) := by simp [ma_fs, h]
section MA1
variable {ad : Nat → Nat} {cA : ClassId} {w w' : ma_W} {p : Nat}
theorem ma_cw_len : (ma_cw ad cA w).length = 33 := by simp [ma_cw]
theorem ma_cw_get (h : p < 33) : (ma_cw ad cA w)[p]? = some (ad p, ma_el ad cA w p) := by simp [ma_cw, h]
theorem ma_cw_of {k : Nat} {q : Nat × va_E} (h : (ma_cw ad cA w)[k]? = some q) : k < 33 ∧ q = (ad k, ma_el ad cA w k) := by
  have hk : k < 33 := by
    have := (List.getElem?_eq_some_iff.mp h).1
    rwa [ma_cw_len] at this
  rw [ma_cw_get hk] at h
  exact ⟨hk, (Option.some.inj h).symm⟩
theorem ma_cw_set {e : va_E} (hp : p < 33) (he : ma_el ad cA w' p = e) (ho : ∀ q, q ≠ p → ma_el ad cA w' q = ma_el ad cA w q) : (ma_cw ad cA w).set p (ad p, e) = ma_cw ad cA w' := by
  apply List.ext_getElem?
  intro k
  by_cases hk : k = p
  · subst hk
    rw [List.getElem?_set_self (by rw [ma_cw_len]; exact hp), ma_cw_get hp, he]
  · rw [List.getElem?_set_ne (Ne.symm hk)]
    by_cases hN : k < 33
    · rw [ma_cw_get hN, ma_cw_get hN, ho k hk]
    · rw [List.getElem?_eq_none (by rw [ma_cw_len]; omega), List.getElem?_eq_none (by rw [ma_cw_len]; omega)]
/-- the world behind a store of an int field -/
theorem ma_set_i {c k : Nat} {x : Int32} (hp : p < 33) (hs : zc_sh p = .inl c) (hk : k < (zc_fk c).length) (ht : (zc_fk c).getD k 0 ≠ 2) :
    (ma_cw ad cA w).set p (ad p, .inr (c, (ma_fs ad w p (zc_fk c)).set k (.int x))) = ma_cw ad cA (ma_up w.1 p k x, w.2) := by
  refine ma_cw_set hp ?_ ?_
  · simp only [ma_el, hs]
    refine congrArg (fun z => Sum.inr (c, z)) ?_
    apply List.ext_getElem?
    intro j
    by_cases hj : j = k
    · subst hj
      rw [List.getElem?_set_self (by rw [ma_fs_len]; exact hk), ma_fs_get _ _ _ _ hk, ma_fv, if_neg ht]
      simp [ma_up]
    · rw [List.getElem?_set_ne (Ne.symm hj)]
      by_cases hl : j < (zc_fk c).length
      · rw [ma_fs_get _ _ _ _ hl, ma_fs_get _ _ _ _ hl]
        simp [ma_fv, ma_up, hj]
      · rw [List.getElem?_eq_none (by rw [ma_fs_len]; omega), List.getElem?_eq_none (by rw [ma_fs_len]; omega)]
  · intro q hq
    cases h : zc_sh q with
    | inl d => simp [ma_el, h, ma_fs, ma_fv, ma_up, hq]
    | inr n => simp [ma_el, h]
/-- .. of a reference field: there are two that change -/
theorem ma_set_r {k y : Nat} {r : Nat × Nat} (hk : k < 12) (hr : zr r 0 k = y) (hz : ∀ q j, ¬ (q = 0 ∧ j = k) → zr r q j = zr w.2.1 q j) (ht : (zc_fk 0).getD k 0 = 2) :
    (ma_cw ad cA w).set 0 (ad 0, .inr (0, (ma_fs ad w 0 (zc_fk 0)).set k (.ref (ad y)))) = ma_cw ad cA (w.1, r, w.2.2) := by
  have h12 : (zc_fk 0).length = 12 := rfl
  refine ma_cw_set (by decide) ?_ ?_
  · show Sum.inr (0, ma_fs ad (w.1, r, w.2.2) 0 (zc_fk 0)) = _
    refine congrArg (fun z => Sum.inr (0, z)) ?_
    apply List.ext_getElem?
    intro j
    by_cases hj : j = k
    · subst hj
      rw [List.getElem?_set_self (by rw [ma_fs_len, h12]; exact hk), ma_fs_get _ _ _ _ (by rw [h12]; exact hk), ma_fv, if_pos ht]
      simp only [hr]
    · rw [List.getElem?_set_ne (Ne.symm hj)]
      by_cases hl : j < (zc_fk 0).length
      · rw [ma_fs_get _ _ _ _ hl, ma_fs_get _ _ _ _ hl]
        simp only [ma_fv]
        rw [hz 0 j (fun e => hj e.2)]
      · rw [List.getElem?_eq_none (by rw [ma_fs_len]; omega), List.getElem?_eq_none (by rw [ma_fs_len]; omega)]
  · intro q hq
    cases h : zc_sh q with
    | inl d =>
      simp only [ma_el, h]
      refine congrArg (fun z => Sum.inr (d, z)) ?_
      simp only [ma_fs]
      refine List.map_congr_left (fun j _ => ?_)
      simp only [ma_fv]
      rw [hz q j (fun e => hq e.1)]
    | inr n => simp [ma_el, h]
/-- .. of an array's element -/
theorem ma_set_a {n i : Nat} {x : Int32} (hp : p < 33) (hs : zc_sh p = .inr n) :
    (ma_cw ad cA w).set p (ad p, .inl (cA, n, .inl (upd (w.2.2 p) i x))) = ma_cw ad cA (w.1, w.2.1, ma_up w.2.2 p i x) := by
  refine ma_cw_set hp ?_ ?_
  · simp only [ma_el, hs]
    refine congrArg (fun z => Sum.inl (cA, n, Sum.inl z)) ?_
    funext j
    simp [ma_up, upd]
  · intro q hq
    cases h : zc_sh q with
    | inl d => simp [ma_el, h, ma_fs, ma_fv]
    | inr n =>
      simp only [ma_el, h]
      rw [ma_up_q _ _ _ hq]
end MA1
/-- which cells a method may change -/
def ma_A (ad : Nat → Nat) (sz : Nat) : Nat → Prop := fun q => (∃ p, p < 33 ∧ q = ad p) ∨ sz ≤ q
/-- the places lie apart -/
def ma_D (ad : Nat → Nat) : Prop := ∀ i j, i < 33 → j < 33 → ad i = ad j → i = j
theorem ma_D.d {ad : Nat → Nat} {cA : ClassId} {w : ma_W} {A : Nat → Prop} (h : ma_D ad) (hA : ∀ p, p < 33 → A (ad p)) : va_D A (ma_cw ad cA w) := by
  refine ⟨fun i j p q hi hj hpq => ?_, fun k q hk => ?_⟩
  · obtain ⟨h1, rfl⟩ := ma_cw_of hi
    obtain ⟨h2, rfl⟩ := ma_cw_of hj
    exact h i j h1 h2 hpq
  · obtain ⟨h1, rfl⟩ := ma_cw_of hk
    exact hA k h1
/-! locals -/
def ma_loc (ad : Nat → Nat) (ls : Array Slot) (L : ma_L) : Prop := ls.size = L.length ∧ lv_wf ls ∧ ∀ (k : Nat) (v : ma_V), L[k]? = some (some v) → ls[k]? = some (.val (ma_cv ad v))
def ma_kn (ad : Nat → Nat) (L : ma_L) : List (Nat × Value) := (List.range L.length).filterMap (fun k => match L[k]? with
  | some (some v) => some (k, ma_cv ad v)
  | _ => none)
theorem ma_kn_mem {ad : Nat → Nat} {L : ma_L} {q : Nat × Value} : q ∈ ma_kn ad L ↔ ∃ (k : Nat) (v : ma_V), L[k]? = some (some v) ∧ q = (k, ma_cv ad v) := by
  unfold ma_kn
  rw [List.mem_filterMap]
  constructor
  · rintro ⟨k, -, h⟩
    split at h
    · rename_i v hv
      exact ⟨k, v, hv, (Option.some.inj h).symm⟩
    · cases h
  · rintro ⟨k, v, hv, rfl⟩
    refine ⟨k, List.mem_range.mpr (List.getElem?_eq_some_iff.mp hv).1, ?_⟩
    rw [hv]
theorem ma_loc.has {ad : Nat → Nat} {ls : Array Slot} {L : ma_L} (h : ma_loc ad ls L) : lv_has ls L.length (ma_kn ad L) := by
  refine ⟨h.1, h.2.1, fun q hq => ?_⟩
  obtain ⟨k, v, hv, rfl⟩ := ma_kn_mem.mp hq
  exact h.2.2 k v hv
theorem ma_loc.set {ad : Nat → Nat} {ls' : Array Slot} {L : ma_L} {i : Nat} {v : ma_V} (h : lv_has ls' L.length ((i, ma_cv ad v) :: (ma_kn ad L).filter (fun q => !(q.1 == i) && !(q.1 + 1 == i && q.2.category == 2)))) : ma_loc ad ls' (L.set i (some v)) := by
  refine ⟨by rw [h.1, List.length_set], h.2.1, fun k u hk => ?_⟩
  by_cases hki : k = i
  · subst hki
    have hl : k < L.length := by
      have := (List.getElem?_eq_some_iff.mp hk).1
      rwa [List.length_set] at this
    rw [List.getElem?_set_self hl] at hk
    cases hk
    exact h.2.2 _ List.mem_cons_self
  · rw [List.getElem?_set_ne (Ne.symm hki)] at hk
    refine h.2.2 (k, ma_cv ad u) (List.mem_cons_of_mem _ (List.mem_filter.mpr ⟨ma_kn_mem.mpr ⟨k, u, hk, rfl⟩, ?_⟩))
    simp [hki, ma_cat]
/-! the transformer of a run of instructions -/
def ma_look {α : Type} : List (Nat × α) → Nat → Option α
  | [], _ => none
  | (a, b) :: l, i => if a = i then some b else ma_look l i
theorem ma_look_mem {α : Type} {i : Nat} {b : α} : ∀ {l : List (Nat × α)}, ma_look l i = some b → (i, b) ∈ l
  | [], h => by simp [ma_look] at h
  | (a, c) :: l, h => by
    unfold ma_look at h
    split at h
    · rename_i e
      cases h
      subst e
      exact List.mem_cons_self
    · exact List.mem_cons_of_mem _ (ma_look_mem h)
def ma_o {α : Type} (o : Option α) (f : α → Prop) : Prop := match o with
  | some a => f a
  | none => False
theorem ma_o_spec {α : Type} {o : Option α} {f : α → Prop} (h : ma_o o f) : ∃ a, o = some a ∧ f a := by
  cases o with
  | none => exact h.elim
  | some a => exact ⟨a, rfl, h⟩
def ma_rd (L : ma_L) (k : Nat) (f : ma_V → Prop) : Prop := match L[k]? with
  | some (some v) => f v
  | _ => False
theorem ma_rd_spec {L : ma_L} {k : Nat} {f : ma_V → Prop} (h : ma_rd L k f) : ∃ v, L[k]? = some (some v) ∧ f v := by
  unfold ma_rd at h
  split at h
  · rename_i v hv
    exact ⟨v, hv, h⟩
  · exact h.elim
def ma_I (v : ma_V) (f : Int32 → Prop) : Prop := match v with
  | .inl x => f x
  | .inr _ => False
def ma_R (v : ma_V) (f : Nat → Prop) : Prop := match v with
  | .inl _ => False
  | .inr p => f p
theorem ma_I_spec {v : ma_V} {f : Int32 → Prop} (h : ma_I v f) : ∃ x, v = .inl x ∧ f x := by
  cases v with
  | inl x => exact ⟨x, rfl, h⟩
  | inr p => exact h.elim
theorem ma_R_spec {v : ma_V} {f : Nat → Prop} (h : ma_R v f) : ∃ p, v = .inr p ∧ f p := by
  cases v with
  | inl x => exact h.elim
  | inr p => exact ⟨p, rfl, h⟩
def ma_1 (S : List ma_V) (f : ma_V → List ma_V → Prop) : Prop := match S with
  | v :: S => f v S
  | [] => False
theorem ma_1_spec {S : List ma_V} {f : ma_V → List ma_V → Prop} (h : ma_1 S f) : ∃ v S', S = v :: S' ∧ f v S' := by
  cases S with
  | nil => exact h.elim
  | cons v S => exact ⟨v, S, rfl, h⟩
/-- the int on top -/
def ma_i1 (S : List ma_V) (f : Int32 → List ma_V → Prop) : Prop := ma_1 S fun v S => ma_I v fun x => f x S
theorem ma_i1_spec {S : List ma_V} {f : Int32 → List ma_V → Prop} (h : ma_i1 S f) : ∃ x S', S = .inl x :: S' ∧ f x S' := by
  obtain ⟨v, S', e, h1⟩ := ma_1_spec h
  obtain ⟨x, e2, h2⟩ := ma_I_spec h1
  exact ⟨x, S', by rw [e, e2], h2⟩
/-- two ints: the upper is y -/
def ma_i2 (S : List ma_V) (f : Int32 → Int32 → List ma_V → Prop) : Prop := ma_i1 S fun y S => ma_i1 S fun x S => f x y S
theorem ma_i2_spec {S : List ma_V} {f : Int32 → Int32 → List ma_V → Prop} (h : ma_i2 S f) : ∃ x y S', S = .inl y :: .inl x :: S' ∧ f x y S' := by
  obtain ⟨y, S', e, h1⟩ := ma_i1_spec h
  obtain ⟨x, S2, e2, h2⟩ := ma_i1_spec h1
  exact ⟨x, y, S2, by rw [e, e2], h2⟩
def ma_r1 (S : List ma_V) (f : Nat → List ma_V → Prop) : Prop := ma_1 S fun v S => ma_R v fun x => f x S
theorem ma_r1_spec {S : List ma_V} {f : Nat → List ma_V → Prop} (h : ma_r1 S f) : ∃ x S', S = .inr x :: S' ∧ f x S' := by
  obtain ⟨v, S', e, h1⟩ := ma_1_spec h
  obtain ⟨x, e2, h2⟩ := ma_R_spec h1
  exact ⟨x, S', by rw [e, e2], h2⟩
def ma_b (b : Bool) (K : Prop) : Prop := match b with
  | true => K
  | false => False
theorem ma_b_spec {b : Bool} {K : Prop} (h : ma_b b K) : b = true ∧ K := by
  cases b with
  | false => exact h.elim
  | true => exact ⟨rfl, h⟩
def ma_cmp (c : ClassFile.Cond) (x y : Int32) : Prop := match c with
  | .eq => x = y
  | .ne => ¬ x = y
  | .lt => x < y
  | .ge => y ≤ x
  | .gt => y < x
  | .le => x ≤ y
def ma_tg (pc : Nat) (off : Int) : Nat := ((pc : Int) + off).toNat
/-- the place p holds an object of the kind c -/
def ma_isk (c p : Nat) (K : Prop) : Prop := match zc_sh p with
  | .inl d => ma_b (Nat.beq d c) K
  | .inr _ => False
theorem ma_isk_spec {c p : Nat} {K : Prop} (h : ma_isk c p K) : p < 33 ∧ zc_sh p = .inl c ∧ K := by
  unfold ma_isk at h
  split at h
  · rename_i d hd
    obtain ⟨h1, h2⟩ := ma_b_spec h
    rw [Nat.eq_of_beq_eq_true h1] at hd
    exact ⟨zc_sh_l hd, hd, h2⟩
  · exact h.elim
theorem ma_isk_of {c p : Nat} {K : Prop} (h : zc_sh p = .inl c) : ma_isk c p K = K := by
  unfold ma_isk
  rw [h]
  show ma_b (Nat.beq c c) K = K
  rw [Nat.beq_refl]
  rfl
/-- .. an array -/
def ma_ark (p : Nat) (f : Nat → Prop) : Prop := match zc_sh p with
  | .inr n => f n
  | .inl _ => False
theorem ma_ark_spec {p : Nat} {f : Nat → Prop} (h : ma_ark p f) : ∃ n, zc_sh p = .inr n ∧ f n := by
  unfold ma_ark at h
  split at h
  · rename_i n hn
    exact ⟨n, hn, h⟩
  · exact h.elim
theorem ma_ark_of {p n : Nat} {f : Nat → Prop} (h : zc_sh p = .inr n) : ma_ark p f = f n := by
  unfold ma_ark
  rw [h]
/-- an index -/
def ma_ix (i : Int32) (n : Nat) (f : Nat → Prop) : Prop := ∃ j : Nat, j < n ∧ i = nI j ∧ f j
/-- the script, where there is one: its place, its length, its ints -/
abbrev ma_S : Type := Option (Nat × Nat × (Nat → Int32))
def ma_ld (sc : ma_S) (w : ma_W) (p : Nat) (i : Int32) (f : Int32 → Prop) : Prop := match sc with
  | none => ma_ark p fun n => ma_ix i n fun j => f (w.2.2 p j)
  | some (q, n, xs) => match Nat.beq p q with
    | true => ma_ix i n fun j => f (xs j)
    | false => ma_ark p fun n => ma_ix i n fun j => f (w.2.2 p j)
def ma_psh (rv : Bool) (x : Int32) (S : List ma_V) : List ma_V := match rv with
  | true => .inl x :: S
  | false => S
/-- a method that is called: how many words it takes, the kind of its receiver (none: it is static), whether it answers, its transformer -/
abbrev ma_E : Type := List (Nat × Nat × Option Nat × Bool × ma_T)
/-- a field: the kind of its object, its number, its kind -/
abbrev ma_F : Type := List (Nat × Nat × Nat × Nat)
/-- kinds in ma_F: 0 int, 1 boolean, 2 a reference, 3 a final reference -/
def ma_gf (w : ma_W) (p k t : Nat) : ma_V := match t with
  | 0 => .inl (w.1 p k)
  | 1 => .inl (w.1 p k)
  | _ => .inr (zr w.2.1 p k)
def ma_pr (w : ma_W) (p k q : Nat) (f : ma_W → Prop) : Prop := match Nat.beq p 0, k with
  | true, 5 => f (w.1, (q, w.2.1.2), w.2.2)
  | true, 6 => f (w.1, (w.2.1.1, q), w.2.2)
  | _, _ => False
def ma_pf (w : ma_W) (p k t : Nat) (v : ma_V) (f : ma_W → Prop) : Prop := match t with
  | 0 => ma_I v fun x => f (ma_up w.1 p k x, w.2)
  | 1 => ma_I v fun x => (x = 0 ∨ x = 1) ∧ f (ma_up w.1 p k x, w.2)
  | 2 => ma_R v fun q => ma_pr w p k q f
  | _ => False
/-- a constant -/
def ma_k (j : Int) : Int32 := match j with
  | .ofNat n => nI n
  | .negSucc n => Int32.ofInt (.negSucc n)
/-- the ends of a method -/
def ma_ir (rt : Nat) (post : ma_P) (S : List ma_V) (w : ma_W) : Prop := match S, rt with
  | [.inl x], 1 => post x w
  | [.inl x], 2 => (x = 0 ∨ x = 1) ∧ post x w
  | _, _ => False
def ma_vr (rt : Nat) (post : ma_P) (S : List ma_V) (w : ma_W) : Prop := match S, rt with
  | [], 0 => post 0 w
  | _, _ => False
theorem ma_ir_spec {rt : Nat} {post : ma_P} {S : List ma_V} {w : ma_W} (h : ma_ir rt post S w) : ∃ x, S = [.inl x] ∧ (rt = 1 ∨ (rt = 2 ∧ (x = 0 ∨ x = 1))) ∧ post x w := by
  unfold ma_ir at h
  split at h
  · exact ⟨_, rfl, Or.inl rfl, h⟩
  · exact ⟨_, rfl, Or.inr ⟨rfl, h.1⟩, h.2⟩
  · exact h.elim
theorem ma_vr_spec {rt : Nat} {post : ma_P} {S : List ma_V} {w : ma_W} (h : ma_vr rt post S w) : S = [] ∧ rt = 0 ∧ post 0 w := by
  unfold ma_vr at h
  split at h
  · exact ⟨rfl, rfl, h⟩
  · exact h.elim
/-- one instruction; Go: behind a jump; k: at the next instruction; rt: the method answers 0 nothing, 1 an int, 2 a boolean -/
def ma_stp (K : List (Nat × Int32)) (F : ma_F) (E : ma_E) (sc : ma_S) (rt : Nat) (post : ma_P) (Go : ma_G) (i : ClassFile.Instr) (pc : Nat) (k : ma_L → List ma_V → ma_W → Prop) (L : ma_L) (S : List ma_V) (w : ma_W) : Prop := match i with
  | .iconst j => k L (.inl (ma_k j) :: S) w
  | .bipush j => k L (.inl (ma_k j) :: S) w
  | .sipush j => k L (.inl (ma_k j) :: S) w
  | .ldc j => ma_o (ma_look K j) fun x => k L (.inl x :: S) w
  | .ldc_w j => ma_o (ma_look K j) fun x => k L (.inl x :: S) w
  | .iload j => ma_rd L j fun v => ma_I v fun x => k L (.inl x :: S) w
  | .iload_n j => ma_rd L j.val fun v => ma_I v fun x => k L (.inl x :: S) w
  | .aload j => ma_rd L j fun v => ma_R v fun x => k L (.inr x :: S) w
  | .aload_n j => ma_rd L j.val fun v => ma_R v fun x => k L (.inr x :: S) w
  | .istore j => ma_i1 S fun x S => ma_b (Nat.blt j L.length) (k (L.set j (some (.inl x))) S w)
  | .istore_n j => ma_i1 S fun x S => ma_b (Nat.blt j.val L.length) (k (L.set j.val (some (.inl x))) S w)
  | .astore j => ma_r1 S fun x S => ma_b (Nat.blt j L.length) (k (L.set j (some (.inr x))) S w)
  | .astore_n j => ma_r1 S fun x S => ma_b (Nat.blt j.val L.length) (k (L.set j.val (some (.inr x))) S w)
  | .iinc j d => ma_rd L j fun v => ma_I v fun x => k (L.set j (some (.inl (x + ma_k d)))) S w
  | .iadd => ma_i2 S fun x y S => k L (.inl (x + y) :: S) w
  | .isub => ma_i2 S fun x y S => k L (.inl (x - y) :: S) w
  | .imul => ma_i2 S fun x y S => k L (.inl (x * y) :: S) w
  | .iand => ma_i2 S fun x y S => k L (.inl (x &&& y) :: S) w
  | .ior => ma_i2 S fun x y S => k L (.inl (x ||| y) :: S) w
  | .ixor => ma_i2 S fun x y S => k L (.inl (x ^^^ y) :: S) w
  | .ishl => ma_i2 S fun x y S => k L (.inl (x <<< (y &&& 31)) :: S) w
  | .ishr => ma_i2 S fun x y S => k L (.inl (x >>> (y &&& 31)) :: S) w
  | .iushr => ma_i2 S fun x y S => k L (.inl ((x.toUInt32 >>> (y.toUInt32 &&& Int32.toUInt32 31)).toInt32) :: S) w
  | .idiv => ma_i2 S fun x y S => ¬ y = 0 ∧ k L (.inl (x / y) :: S) w
  | .irem => ma_i2 S fun x y S => ¬ y = 0 ∧ k L (.inl (x - x / y * y) :: S) w
  | .ineg => ma_i1 S fun x S => k L (.inl (-x) :: S) w
  | .dup => ma_1 S fun a S => k L (a :: a :: S) w
  | .dup2 => ma_1 S fun a S => ma_1 S fun b S => k L (a :: b :: a :: b :: S) w
  | .pop => ma_1 S fun _ S => k L S w
  | .goto d => Go (ma_tg pc d) L S w
  | .ifCond c d => ma_i1 S fun x S => (ma_cmp c x (nI 0) → Go (ma_tg pc d) L S w) ∧ (¬ ma_cmp c x (nI 0) → k L S w)
  | .if_icmp c d => ma_i2 S fun x y S => (ma_cmp c x y → Go (ma_tg pc d) L S w) ∧ (¬ ma_cmp c x y → k L S w)
  | .getfield j => ma_o (ma_look F j) fun q => ma_r1 S fun p S => ma_isk q.1 p (k L (ma_gf w p q.2.1 q.2.2 :: S) w)
  | .putfield j => ma_o (ma_look F j) fun q => ma_1 S fun v S => ma_r1 S fun p S => ma_isk q.1 p (ma_pf w p q.2.1 q.2.2 v fun w => k L S w)
  | .iaload => ma_i1 S fun i S => ma_r1 S fun p S => ma_ld sc w p i fun x => k L (.inl x :: S) w
  | .iastore => ma_i2 S fun i x S => ma_r1 S fun p S => ma_ark p fun m => ma_ix i m fun j => k L S (w.1, w.2.1, ma_up w.2.2 p j x)
  | .arraylength => ma_r1 S fun p S => ma_o sc fun q => p = q.1 ∧ k L (.inl (nI q.2.1) :: S) w
  | .invokevirtual j => ma_o (ma_look E j) fun q => ma_o q.2.1 fun c => ma_b (Nat.ble q.1 S.length && Nat.ble (S.drop q.1).length 8) (ma_o ((S.take q.1).getLast?) fun v => ma_R v fun p => ma_isk c p (q.2.2.2 (S.take q.1).reverse w fun x w => k L (ma_psh q.2.2.1 x (S.drop q.1)) w))
  | .invokestatic j => ma_o (ma_look E j) fun q => ma_b (q.2.1.isNone && (Nat.ble q.1 S.length && Nat.ble (S.drop q.1).length 8)) (q.2.2.2 (S.take q.1).reverse w fun x w => k L (ma_psh q.2.2.1 x (S.drop q.1)) w)
  | .tableswitch d lo hi offs => ma_i1 S fun x S => (x.toInt < lo ∨ hi < x.toInt → Go (ma_tg pc d) L S w) ∧ (¬ x.toInt < lo → ¬ hi < x.toInt → ma_o (offs[(x.toInt - lo).toNat]?) fun o => Go (ma_tg pc o) L S w)
  | .ireturn => ma_ir rt post S w
  | .return_ => ma_vr rt post S w
  | _ => False
/-- a run of instructions -/
def ma_wp (K : List (Nat × Int32)) (F : ma_F) (E : ma_E) (sc : ma_S) (rt : Nat) (post : ma_P) (Go : ma_G) : ma_C → Nat → ma_L → List ma_V → ma_W → Prop
  | [], pc, L, S, w => Go pc L S w
  | (i, n) :: r, pc, L, S, w => ma_stp K F E sc rt post Go i pc (fun L S w => ma_wp K F E sc rt post Go r (pc + n) L S w) L S w
/-- lengths and targets as the rows want them -/
def ma_lok (pc : Nat) (i : ClassFile.Instr) (n : Nat) : Bool := match i with
  | .iconst j => n == 1 && decide (Int32.ofInt j = ma_k j)
  | .bipush j => n == 2 && decide ((Int8.ofInt j).toInt32 = ma_k j)
  | .sipush j => n == 3 && decide ((Int16.ofInt j).toInt32 = ma_k j)
  | .iinc _ d => n == 3 && decide (Int32.ofInt d = ma_k d)
  | .ldc _ | .iload _ | .aload _ | .istore _ | .astore _ => n == 2
  | .ldc_w _ | .getfield _ | .putfield _ | .invokevirtual _ | .invokestatic _ => n == 3
  | .goto d | .ifCond _ d | .if_icmp _ d => n == 3 && decide (0 ≤ (pc : Int) + d)
  | .tableswitch d _ _ offs => decide (0 ≤ (pc : Int) + d) && offs.toList.all (fun o => decide (0 ≤ (pc : Int) + o))
  | _ => n == 1
def ma_dec (cc : ByteArray) : Nat → ma_C → Bool
  | _, [] => true
  | pc, (i, n) :: r => decide (decode cc pc = .ok (i, n)) && (ma_lok pc i n && ma_dec cc (pc + n) r)
end
section
/-! THE ABSTRACT MACHINE IS SOUND: a row for each instruction of the kit is used once, here. -/
/-- at this state the machine comes to its end Q -/
def ma_go (p : Program) (l : Launch) (e : Env) (R : Room) (s : State) (m : MethodId) (args : Array Value) (below : List Frame) (meth : Method) (c : Code) (cells slots : Nat) (Q : State → Prop) (D : va_G) (ad : Nat → Nat) (cA : ClassId) (A : Nat → Prop) : ma_G := fun pc L S w =>
  ∀ (H : Heap) (locs : List Loc) (ls : Array Slot), va_P D zc_cl (ma_cw ad cA w) H → va_S A s.heap H locs → ma_loc ad ls L → ls.size = c.maxLocals → W p l e R s m args below meth c H locs cells slots Q (F0 m pc ls (S.map (ma_cv ad)))
def ma_Kok (own : String) (Ts : List Cond) (K : List (Nat × Int32)) : Prop := ∀ q ∈ K, Cond.constant own q.1 q.2 ∈ Ts
def ma_tyk (ty : FieldType) (t : Nat) : Prop := (t = 0 ∧ ty = .int) ∨ (t = 1 ∧ ty = .boolean) ∨ (2 ≤ t ∧ ((∃ C, ty = .object C) ∨ ∃ a, ty = .array a))
def ma_Fok (own : String) (Ts : List Cond) (F : ma_F) : Prop := ∀ q ∈ F, ∃ (C : String) (T : u_T) (n : Nat) (ty : Nat → FieldType),
  zc_cl[q.2.1]? = some (C, T, n) ∧ (zc_fk q.2.1).length = n ∧ q.2.2.1 < n ∧ ((zc_fk q.2.1).getD q.2.2.1 0 = 2 ↔ 2 ≤ q.2.2.2) ∧ (∀ w ∈ u_ws C T n, w ∈ Ts) ∧ Cond.fieldLink own q.1 (T q.2.2.1).1 (T q.2.2.1).2.1 (T q.2.2.1).2.2.1 ∈ Ts ∧ (∀ k, k < n → parseFieldDescriptor (T k).2.2.1 = some (ty k)) ∧ (∀ a, a < n → ∀ b, b < n → a ≠ b → (T a).2.1 ≠ (T b).2.1) ∧ ma_tyk (ty q.2.2.1) q.2.2.2 ∧ (q.2.2.2 < 3 → (T q.2.2.1).2.2.2 = false)
def ma_rm (d : Nat) : Room := { frames := d, cells := 0, slots := 0, locals := 60 * d }
def ma_rv (rv : Bool) (x : Int32) : Option Value := match rv with
  | true => some (.int x)
  | false => none
def ma_Q (D : va_G) (ad : Nat → Nat) (cA : ClassId) (A : Nat → Prop) (rv : Bool) (post : ma_P) : Array Value → State → Outcome → State → Prop := fun _ st oc t =>
  (∃ (x : Int32) (w : ma_W), oc = .returned (ma_rv rv x) ∧ post x w ∧ va_P D zc_cl (ma_cw ad cA w) t.heap) ∧ va_F A st t
/-- a method's contract by its transformer; d: how many frames lie above it at most -/
def ma_Met (l : Launch) (y : MethodName) (ws : List Cond) (d : Nat) (rv : Bool) (T : ma_T) : Prop :=
  ∀ (D : va_G) (ad : Nat → Nat) (cA : ClassId) (as : List ma_V) (w : ma_W) (sz : Nat) (post : ma_P), T as w post → ma_D ad →
    Met l y ws (ma_rm d) (va_Pc (as.map (ma_cv ad)) (fun U => U.heap.size = sz ∧ va_P D zc_cl (ma_cw ad cA w) U.heap ∧ va_K D zc_cl [(cA, .int)] U)) (ma_Q D ad cA (ma_A ad sz) rv post) 0 0 (ma_A ad sz)
def ma_Eok (l : Launch) (own : String) (Ts : List Cond) (dep : Nat) (E : ma_E) : Prop := ∀ q ∈ E, ∃ (y : MethodName) (bytes : ByteArray) (maxL d n : Nat) (ret : Option FieldType) (ws' : List Cond),
  ma_Met l y (Cond.code y bytes maxL ret :: ws') d q.2.2.2.1 q.2.2.2.2 ∧ GoodIn Ts (Cond.code y bytes maxL ret :: ws') ∧ d + 1 ≤ dep ∧ maxL ≤ 40 ∧ Cond.methodLink own q.1 y ∈ Ts ∧ Cond.initialized y.cls ∈ Ts ∧ (y.cls ≠ "java/lang/invoke/MethodHandle" ∧ y.cls ≠ "java/lang/invoke/VarHandle" ∧ (parseMethodDescriptor y.desc).map (fun d => d.parameters.length) = some n) ∧
  ((q.2.2.1 = none ∧ q.2.1 = n ∧ Cond.static y ∈ Ts) ∨ ∃ (c : Nat) (r : vw_C), q.2.2.1 = some c ∧ q.2.1 = n + 1 ∧ Cond.instanceMethod y ∈ Ts ∧ zc_cl[c]? = some r ∧ Cond.selects r.1 y y ∈ Ts)
theorem ma_tgt {pc : Nat} {d : Int} (h : 0 ≤ (pc : Int) + d) : (pc : Int) + d = (ma_tg pc d : Int) := (Int.toNat_of_nonneg h).symm
theorem ma_sum (ad : Nat → Nat) (S : List ma_V) : ((S.map (ma_cv ad)).map fun v => v.category).sum = S.length := by
  induction S with
  | nil => rfl
  | cons v S ih =>
    rw [List.map_cons, List.map_cons, List.sum_cons, ih, ma_cat, List.length_cons]
    omega
theorem ma_narb {x : Int32} (h : x = 0 ∨ x = 1) : narrow .boolean (.int x) = .int x := by
  rcases h with rfl | rfl <;> rfl
theorem ma_fitb {x : Int32} (h : x = 0 ∨ x = 1) : fits .boolean (.int x) = true := by
  rcases h with rfl | rfl <;> rfl
theorem ma_sl_len (ad : Nat → Nat) : ∀ as : List ma_V, (lg_sl (as.map (ma_cv ad))).length = as.length
  | [] => rfl
  | v :: as => by
    have h := ma_sl_len ad as
    have e : lg_sl ((v :: as).map (ma_cv ad)) = (if (ma_cv ad v).category = 2 then [Slot.val (ma_cv ad v), Slot.second] else [Slot.val (ma_cv ad v)]) ++ lg_sl (as.map (ma_cv ad)) := rfl
    rw [e, List.length_append, h, ma_cat, List.length_cons]
    simp
    omega
section MA2
variable {p : Program} {l : Launch} {e : Env} {R : Room} {s : State} {m : MethodId} {args : Array Value} {below : List Frame} {meth : Method} {c : Code} {cells slots : Nat} {Q : State → Prop}
variable {D : va_G} {ad : Nat → Nat} {cA : ClassId} {A : Nat → Prop} {cc : ByteArray} {own : String} {Ts : List Cond} {H : Heap} {locs : List Loc} {ls : Array Slot}
/-- behind a call -/
theorem ma_call {pc : Nat} {st0 rest : List Value} {A1 : Nat → Prop} {rv : Bool} {post : ma_P} {a : Array Value} (hr : va_Run p l e R s m args below meth c H locs cells slots 0 0 (F0 m pc ls st0) rest (ma_Q D ad cA A1 rv post a) A1) (hS : va_S A s.heap H locs) (hA : ∀ q, A1 q → A q)
    (kk : ∀ (x : Int32) (w : ma_W) (H1 : Heap) (locs1 : List Loc), post x w → va_P D zc_cl (ma_cw ad cA w) H1 → va_S A s.heap H1 locs1 → W p l e R s m args below meth c H1 locs1 cells slots Q (F0 m (pc + 3) ls ((ma_rv rv x).toList ++ rest))) : W p l e R s m args below meth c H locs cells slots Q (F0 m pc ls st0) := by
  intro T hT X
  obtain ⟨v, st₀, t, T', L, h0, X', hL, e1, e2, ⟨⟨x, w, hv, hp, hb⟩, hz, hk⟩, st⟩ := hr T hT X
  cases hv
  rw [h0] at hz hk
  obtain ⟨t2, a1, b1⟩ := kk x w T'.heap (locs ++ L) hp (by rw [e1]; exact hb)
    ⟨Nat.le_trans hS.1 (by rw [e1]; exact hz), fun q h1 h2 => by rw [e1, hk q (Nat.lt_of_lt_of_le h1 hS.1) (fun z => h2 (hA q z))]; exact hS.2.1 q h1 h2, fun q hq => by
      rcases List.mem_append.mp hq with h | h
      · exact hS.2.2 q h
      · exact hA _ (hL q h)⟩ T' rfl X'
  exact ⟨t2, st t2 a1, b1⟩
theorem ma_blind {av : List Value} {sz : Nat} {ws : va_W} {tys : List (ClassId × FieldType)} : FrameBlind (va_Pc av (fun U => U.heap.size = sz ∧ va_P D zc_cl ws U.heap ∧ va_K D zc_cl tys U)) := by
  intro a U g mk q
  obtain ⟨q0, q1, qP, qK⟩ := q
  exact ⟨q0, q1, qP, va_K.moved (u := U) (U := U.calling g mk a) (Vm.Alike.refl U.vm) qK⟩
variable {K : List (Nat × Int32)} {F : ma_F} {E : ma_E} {sc : ma_S} {rt : Nat} {post : ma_P} {dep : Nat}
set_option maxHeartbeats 4000000 in
set_option maxRecDepth 100000 in
/-- one instruction -/
theorem ma_one (hx : p.tables.exec = Jvm.exec) (hb : c.code = cc) (hown : s.vm.findClass own = some m.cls) (hts : ∀ w ∈ Ts, w.before args s = true) (hK : va_K D zc_cl [(cA, .int)] s) (hDD : ma_D ad) (hAA : ∀ q, ma_A ad s.heap.size q → A q)
    (hKo : ma_Kok own Ts K) (hFo : ma_Fok own Ts F) (hEo : ma_Eok l own Ts dep E) (hR : dep ≤ R.frames ∧ 60 * dep ≤ R.locals) (hcs : cells ≤ R.cells ∧ slots ≤ R.slots)
    (hsc : ∀ q, sc = some q → va_X (ad q.1) q.2.1 q.2.2 s s.heap ∧ ad q.1 < s.heap.size ∧ ¬ A (ad q.1) ∧ q.2.1 < 2 ^ 31)
    (hRi : ∀ (pc : Nat) (H : Heap) (locs : List Loc) (ls : Array Slot) (x : Int32) (w : ma_W), decode cc pc = .ok (.ireturn, 1) → va_P D zc_cl (ma_cw ad cA w) H → va_S A s.heap H locs → (rt = 1 ∨ (rt = 2 ∧ (x = 0 ∨ x = 1))) → post x w → W p l e R s m args below meth c H locs cells slots Q (F0 m pc ls [.int x]))
    (hRv : ∀ (pc : Nat) (H : Heap) (locs : List Loc) (ls : Array Slot) (w : ma_W), decode cc pc = .ok (.return_, 1) → va_P D zc_cl (ma_cw ad cA w) H → va_S A s.heap H locs → rt = 0 → post 0 w → W p l e R s m args below meth c H locs cells slots Q (F0 m pc ls []))
    {i : ClassFile.Instr} {n pc : Nat} {k : ma_L → List ma_V → ma_W → Prop} {L : ma_L} {S : List ma_V} {w : ma_W} (hdg : decode cc pc = .ok (i, n)) (hlk : ma_lok pc i n = true)
    (h : ma_stp K F E sc rt post (ma_go p l e R s m args below meth c cells slots Q D ad cA A) i pc k L S w)
    (hk : ∀ L S w, k L S w → ma_go p l e R s m args below meth c cells slots Q D ad cA A (pc + n) L S w) :
    ma_go p l e R s m args below meth c cells slots Q D ad cA A pc L S w := by
  have hA' : ∀ q, q < 33 → A (ad q) := fun q hq => hAA _ (Or.inl ⟨q, hq, rfl⟩)
  intro H locs ls hP hS hL hz
  have hD : ∀ w, va_D A (ma_cw ad cA w) := fun w => hDD.d hA'
  cases i
  case iconst j =>
    obtain ⟨rfl, hv⟩ : n = 1 ∧ Int32.ofInt j = ma_k j := by simpa [ma_lok] using hlk
    exact lv_iconst hx hb hdg hv (hk _ _ _ h H locs ls hP hS hL hz)
  case bipush j =>
    obtain ⟨rfl, hv⟩ : n = 2 ∧ (Int8.ofInt j).toInt32 = ma_k j := by simpa [ma_lok] using hlk
    exact lv_bipush hx hb hdg hv (hk _ _ _ h H locs ls hP hS hL hz)
  case sipush j =>
    obtain ⟨rfl, hv⟩ : n = 3 ∧ (Int16.ofInt j).toInt32 = ma_k j := by simpa [ma_lok] using hlk
    exact lv_sipush hx hb hdg hv (hk _ _ _ h H locs ls hP hS hL hz)
  case ldc j =>
    obtain rfl : n = 2 := by simpa [ma_lok] using hlk
    obtain ⟨x, hl, h_1⟩ := ma_o_spec h
    exact lv_ldc hx hb hown (hts _ (hKo _ (ma_look_mem hl))) hdg (hk _ _ _ h_1 H locs ls hP hS hL hz)
  case ldc_w j =>
    obtain rfl : n = 3 := by simpa [ma_lok] using hlk
    obtain ⟨x, hl, h_1⟩ := ma_o_spec h
    exact lv_ldcw hx hb hown (hts _ (hKo _ (ma_look_mem hl))) hdg (hk _ _ _ h_1 H locs ls hP hS hL hz)
  case iload j =>
    obtain rfl : n = 2 := by simpa [ma_lok] using hlk
    obtain ⟨v, hl, h_1⟩ := ma_rd_spec h
    obtain ⟨x, rfl, h_2⟩ := ma_I_spec h_1
    exact lv_iload hx hb hdg (hL.2.2 j _ hl) (hk _ _ _ h_2 H locs ls hP hS hL hz)
  case iload_n j =>
    obtain rfl : n = 1 := by simpa [ma_lok] using hlk
    obtain ⟨v, hl, h_1⟩ := ma_rd_spec h
    obtain ⟨x, rfl, h_2⟩ := ma_I_spec h_1
    exact lv_iload_n hx hb hdg rfl (hL.2.2 j.val _ hl) (hk _ _ _ h_2 H locs ls hP hS hL hz)
  case aload j =>
    obtain rfl : n = 2 := by simpa [ma_lok] using hlk
    obtain ⟨v, hl, h_1⟩ := ma_rd_spec h
    obtain ⟨x, rfl, h_2⟩ := ma_R_spec h_1
    exact lv_aload hx hb hdg (hL.2.2 j _ hl) (hk _ _ _ h_2 H locs ls hP hS hL hz)
  case aload_n j =>
    obtain rfl : n = 1 := by simpa [ma_lok] using hlk
    obtain ⟨v, hl, h_1⟩ := ma_rd_spec h
    obtain ⟨x, rfl, h_2⟩ := ma_R_spec h_1
    exact lv_aload_n hx hb hdg rfl (hL.2.2 j.val _ hl) (hk _ _ _ h_2 H locs ls hP hS hL hz)
  case istore j =>
    obtain rfl : n = 2 := by simpa [ma_lok] using hlk
    obtain ⟨x, S, rfl, h_1⟩ := ma_i1_spec h
    obtain ⟨hj0, h_2⟩ := ma_b_spec h_1
    have hj := Nat.blt_eq.mp hj0
    exact lv_istore hx hb hdg hL.has hj rfl (fun ls' h' => hk _ _ _ h_2 H locs ls' hP hS (ma_loc.set (v := .inl x) h') (by rw [h'.1, ← hL.1]; exact hz))
  case istore_n j =>
    obtain rfl : n = 1 := by simpa [ma_lok] using hlk
    obtain ⟨x, S, rfl, h_1⟩ := ma_i1_spec h
    obtain ⟨hj0, h_2⟩ := ma_b_spec h_1
    have hj := Nat.blt_eq.mp hj0
    exact lv_istore_n hx hb hdg rfl hL.has hj rfl (fun ls' h' => hk _ _ _ h_2 H locs ls' hP hS (ma_loc.set (v := .inl x) h') (by rw [h'.1, ← hL.1]; exact hz))
  case astore j =>
    obtain rfl : n = 2 := by simpa [ma_lok] using hlk
    obtain ⟨x, S, rfl, h_1⟩ := ma_r1_spec h
    obtain ⟨hj0, h_2⟩ := ma_b_spec h_1
    have hj := Nat.blt_eq.mp hj0
    exact lv_astore hx hb hdg hL.has hj rfl (fun ls' h' => hk _ _ _ h_2 H locs ls' hP hS (ma_loc.set (v := .inr x) h') (by rw [h'.1, ← hL.1]; exact hz))
  case astore_n j =>
    obtain rfl : n = 1 := by simpa [ma_lok] using hlk
    obtain ⟨x, S, rfl, h_1⟩ := ma_r1_spec h
    obtain ⟨hj0, h_2⟩ := ma_b_spec h_1
    have hj := Nat.blt_eq.mp hj0
    exact lv_astore_n hx hb hdg rfl hL.has hj rfl (fun ls' h' => hk _ _ _ h_2 H locs ls' hP hS (ma_loc.set (v := .inr x) h') (by rw [h'.1, ← hL.1]; exact hz))
  case iinc j d =>
    obtain ⟨rfl, hv⟩ : n = 3 ∧ Int32.ofInt d = ma_k d := by simpa [ma_lok] using hlk
    obtain ⟨v, hl, h_1⟩ := ma_rd_spec h
    obtain ⟨x, rfl, h_2⟩ := ma_I_spec h_1
    obtain ⟨q, hq⟩ := List.getElem?_of_mem (ma_kn_mem.mpr ⟨j, .inl x, hl, rfl⟩ : (j, ma_cv ad (.inl x)) ∈ ma_kn ad L)
    exact lv_iinc hx hb hdg hL.has hq (by rw [hv]) (List.getElem?_eq_some_iff.mp hl).1 rfl (fun ls' h' => hk _ _ _ h_2 H locs ls' hP hS (ma_loc.set (v := .inl (x + ma_k d)) h') (by rw [h'.1, ← hL.1]; exact hz))
  case iadd =>
    obtain rfl : n = 1 := by simpa [ma_lok] using hlk
    obtain ⟨x, y, S, rfl, h_1⟩ := ma_i2_spec h
    exact lv_iadd hx hb hdg (hk _ _ _ h_1 H locs ls hP hS hL hz)
  case isub =>
    obtain rfl : n = 1 := by simpa [ma_lok] using hlk
    obtain ⟨x, y, S, rfl, h_1⟩ := ma_i2_spec h
    exact lv_isub hx hb hdg (hk _ _ _ h_1 H locs ls hP hS hL hz)
  case imul =>
    obtain rfl : n = 1 := by simpa [ma_lok] using hlk
    obtain ⟨x, y, S, rfl, h_1⟩ := ma_i2_spec h
    exact lv_imul hx hb hdg (hk _ _ _ h_1 H locs ls hP hS hL hz)
  case iand =>
    obtain rfl : n = 1 := by simpa [ma_lok] using hlk
    obtain ⟨x, y, S, rfl, h_1⟩ := ma_i2_spec h
    exact lv_iand hx hb hdg (hk _ _ _ h_1 H locs ls hP hS hL hz)
  case ior =>
    obtain rfl : n = 1 := by simpa [ma_lok] using hlk
    obtain ⟨x, y, S, rfl, h_1⟩ := ma_i2_spec h
    exact lv_ior hx hb hdg (hk _ _ _ h_1 H locs ls hP hS hL hz)
  case ixor =>
    obtain rfl : n = 1 := by simpa [ma_lok] using hlk
    obtain ⟨x, y, S, rfl, h_1⟩ := ma_i2_spec h
    exact lv_ixor hx hb hdg (hk _ _ _ h_1 H locs ls hP hS hL hz)
  case ishl =>
    obtain rfl : n = 1 := by simpa [ma_lok] using hlk
    obtain ⟨x, y, S, rfl, h_1⟩ := ma_i2_spec h
    exact lv_ishl hx hb hdg (hk _ _ _ h_1 H locs ls hP hS hL hz)
  case ishr =>
    obtain rfl : n = 1 := by simpa [ma_lok] using hlk
    obtain ⟨x, y, S, rfl, h_1⟩ := ma_i2_spec h
    exact lv_ishr hx hb hdg (hk _ _ _ h_1 H locs ls hP hS hL hz)
  case iushr =>
    obtain rfl : n = 1 := by simpa [ma_lok] using hlk
    obtain ⟨x, y, S, rfl, h_1⟩ := ma_i2_spec h
    exact lv_iushr hx hb hdg rfl (hk _ _ _ h_1 H locs ls hP hS hL hz)
  case idiv =>
    obtain rfl : n = 1 := by simpa [ma_lok] using hlk
    obtain ⟨x, y, S, rfl, h0, h_1⟩ := ma_i2_spec h
    exact lv_idiv hx hb hdg h0 (hk _ _ _ h_1 H locs ls hP hS hL hz)
  case irem =>
    obtain rfl : n = 1 := by simpa [ma_lok] using hlk
    obtain ⟨x, y, S, rfl, h0, h_1⟩ := ma_i2_spec h
    exact lv_irem hx hb hdg h0 (hk _ _ _ h_1 H locs ls hP hS hL hz)
  case ineg =>
    obtain rfl : n = 1 := by simpa [ma_lok] using hlk
    obtain ⟨x, S, rfl, h_1⟩ := ma_i1_spec h
    exact lv_ineg hx hb hdg (hk _ _ _ h_1 H locs ls hP hS hL hz)
  case dup =>
    obtain rfl : n = 1 := by simpa [ma_lok] using hlk
    obtain ⟨a, S, rfl, h_1⟩ := ma_1_spec h
    exact lv_dup hx hb hdg (ma_cat ad a) (hk _ _ _ h_1 H locs ls hP hS hL hz)
  case dup2 =>
    obtain rfl : n = 1 := by simpa [ma_lok] using hlk
    obtain ⟨a, S, rfl, h_1⟩ := ma_1_spec h
    obtain ⟨b, S, rfl, h_2⟩ := ma_1_spec h_1
    exact lv_dup2_11 hx hb hdg (ma_cat ad a) (ma_cat ad b) (hk _ _ _ h_2 H locs ls hP hS hL hz)
  case pop =>
    obtain rfl : n = 1 := by simpa [ma_lok] using hlk
    obtain ⟨a, S, rfl, h_1⟩ := ma_1_spec h
    exact lv_pop hx hb hdg (ma_cat ad a) (hk _ _ _ h_1 H locs ls hP hS hL hz)
  case goto d =>
    obtain ⟨rfl, h0⟩ : n = 3 ∧ 0 ≤ (pc : Int) + d := by simpa [ma_lok] using hlk
    exact lv_goto hx hb hdg (ma_tgt h0) (h H locs ls hP hS hL hz)
  case ifCond cd d =>
    obtain ⟨rfl, h0⟩ : n = 3 ∧ 0 ≤ (pc : Int) + d := by simpa [ma_lok] using hlk
    obtain ⟨x, S, rfl, ht, hf⟩ := ma_i1_spec h
    simp only [nI_0] at ht hf
    cases cd
    · exact lv_if_eq hx hb hdg (ma_tgt h0) (fun q => ht q H locs ls hP hS hL hz) (fun q => hk _ _ _ (hf q) H locs ls hP hS hL hz)
    · exact lv_if_ne hx hb hdg (ma_tgt h0) (fun q => ht q H locs ls hP hS hL hz) (fun q => hk _ _ _ (hf (fun z => z q)) H locs ls hP hS hL hz)
    · exact lv_if_lt hx hb hdg (ma_tgt h0) (fun q => ht q H locs ls hP hS hL hz) (fun q => hk _ _ _ (hf q) H locs ls hP hS hL hz)
    · exact lv_if_ge hx hb hdg (ma_tgt h0) (fun q => ht q H locs ls hP hS hL hz) (fun q => hk _ _ _ (hf q) H locs ls hP hS hL hz)
    · exact lv_if_gt hx hb hdg (ma_tgt h0) (fun q => ht q H locs ls hP hS hL hz) (fun q => hk _ _ _ (hf q) H locs ls hP hS hL hz)
    · exact lv_if_le hx hb hdg (ma_tgt h0) (fun q => ht q H locs ls hP hS hL hz) (fun q => hk _ _ _ (hf q) H locs ls hP hS hL hz)
  case if_icmp cd d =>
    obtain ⟨rfl, h0⟩ : n = 3 ∧ 0 ≤ (pc : Int) + d := by simpa [ma_lok] using hlk
    obtain ⟨x, y, S, rfl, ht, hf⟩ := ma_i2_spec h
    cases cd
    · exact lv_icmp_eq hx hb hdg (ma_tgt h0) (fun q => ht q H locs ls hP hS hL hz) (fun q => hk _ _ _ (hf q) H locs ls hP hS hL hz)
    · exact lv_icmp_ne hx hb hdg (ma_tgt h0) (fun q => ht q H locs ls hP hS hL hz) (fun q => hk _ _ _ (hf (fun z => z q)) H locs ls hP hS hL hz)
    · exact lv_icmp_lt hx hb hdg (ma_tgt h0) (fun q => ht q H locs ls hP hS hL hz) (fun q => hk _ _ _ (hf q) H locs ls hP hS hL hz)
    · exact lv_icmp_ge hx hb hdg (ma_tgt h0) (fun q => ht q H locs ls hP hS hL hz) (fun q => hk _ _ _ (hf q) H locs ls hP hS hL hz)
    · exact lv_icmp_gt hx hb hdg (ma_tgt h0) (fun q => ht q H locs ls hP hS hL hz) (fun q => hk _ _ _ (hf q) H locs ls hP hS hL hz)
    · exact lv_icmp_le hx hb hdg (ma_tgt h0) (fun q => ht q H locs ls hP hS hL hz) (fun q => hk _ _ _ (hf q) H locs ls hP hS hL hz)
  case getfield j =>
    obtain rfl : n = 3 := by simpa [ma_lok] using hlk
    obtain ⟨⟨ci, kf, t⟩, hl, h_1⟩ := ma_o_spec h
    obtain ⟨q, S, rfl, h_2⟩ := ma_r1_spec h_1
    obtain ⟨hq, hs, h_3⟩ := ma_isk_spec h_2
    obtain ⟨C, T, n, ty, hc, hlen, hkn, hkd, hin, hlink, -, -, -, -⟩ := hFo _ (ma_look_mem hl)
    dsimp only at hc hlen hkn hkd hlink hs h_3
    have hkl : kf < (zc_fk ci).length := by rw [hlen]; exact hkn
    have he : (ma_cw ad cA w)[q]? = some (ad q, .inr (ci, ma_fs ad w q (zc_fk ci))) := by rw [ma_cw_get hq, ma_el, hs]
    have hv : (ma_fs ad w q (zc_fk ci))[kf]? = some (ma_cv ad (ma_gf w q kf t)) := by
      rw [ma_fs_get _ _ _ _ hkl, ma_fv]
      by_cases ht : 2 ≤ t
      · rw [if_pos (hkd.mpr ht)]
        obtain ⟨t', rfl⟩ : ∃ t', t = t' + 2 := ⟨t - 2, by omega⟩
        rfl
      · rw [if_neg (fun z => ht (hkd.mp z))]
        have : t = 0 ∨ t = 1 := by omega
        rcases this with rfl | rfl <;> rfl
    exact va_get hx hb hts hin hown hK hP q he hc kf hkn (hts _ hlink) (fun _ h9 => h9) hv hdg (hk _ _ _ h_3 H locs ls hP hS hL hz)
  case putfield j =>
    obtain rfl : n = 3 := by simpa [ma_lok] using hlk
    obtain ⟨⟨ci, kf, t⟩, hl, h_1⟩ := ma_o_spec h
    obtain ⟨v, S, rfl, h_2⟩ := ma_1_spec h_1
    obtain ⟨q, S, rfl, h_3⟩ := ma_r1_spec h_2
    obtain ⟨hq, hs, h_4⟩ := ma_isk_spec h_3
    obtain ⟨C, T, n, ty, hc, hlen, hkn, hkd, hin, hlink, hty, hnm, htk, hfin⟩ := hFo _ (ma_look_mem hl)
    dsimp only at hc hlen hkn hkd hlink hs h_4 htk hfin
    have hkl : kf < (zc_fk ci).length := by rw [hlen]; exact hkn
    have he : (ma_cw ad cA w)[q]? = some (ad q, .inr (ci, ma_fs ad w q (zc_fk ci))) := by rw [ma_cw_get hq, ma_el, hs]
    have hint : ∀ x : Int32, t < 2 → (t = 1 → x = 0 ∨ x = 1) → k L S (ma_up w.1 q kf x, w.2) → W p l e R s m args below meth c H locs cells slots Q (F0 m pc ls (.int x :: .ref (ad q) :: S.map (ma_cv ad))) := by
      intro x ht hx1 h_9
      have hf : narrow (ty kf) (.int x) = .int x ∧ fits (ty kf) (.int x) = true := by
        rcases htk with ⟨h1, h2⟩ | ⟨h1, h2⟩ | ⟨h1, -⟩
        · rw [h2]; exact ⟨rfl, rfl⟩
        · rw [h2]; exact ⟨ma_narb (hx1 h1), ma_fitb (hx1 h1)⟩
        · omega
      refine va_put (v := .int x) hx hb hts hin ty hty hnm hown hK hP (hD w) hS q he hc kf hkn (hts _ hlink) (fun _ h9 => h9) (hfin (by omega)) (hty kf hkn) hf.1 hf.2 (by rw [ma_fs_len]; exact hkl) hdg (fun H1 locs1 hP1 _ hS1 => ?_)
      rw [ma_set_i hq hs hkl (fun z => by have := hkd.mp z; omega)] at hP1
      exact hk _ _ _ h_9 H1 locs1 ls hP1 hS1 hL hz
    have href : ∀ (y : Nat) (r : Nat × Nat), t = 2 → q = 0 → ci = 0 → kf < 12 → zr r 0 kf = y → (∀ a b, ¬ (a = 0 ∧ b = kf) → zr r a b = zr w.2.1 a b) → k L S (w.1, r, w.2.2) → W p l e R s m args below meth c H locs cells slots Q (F0 m pc ls (.ref (ad y) :: .ref (ad q) :: S.map (ma_cv ad))) := by
      intro y r ht hq0 hci hk12 hy hzr h_9
      subst ht hq0 hci
      have hf : narrow (ty kf) (.ref (ad y)) = .ref (ad y) ∧ fits (ty kf) (.ref (ad y)) = true := by
        rcases htk with ⟨h1, -⟩ | ⟨h1, -⟩ | ⟨-, ⟨C, h2⟩ | ⟨b, h2⟩⟩
        · cases h1
        · cases h1
        · rw [h2]; exact ⟨rfl, rfl⟩
        · rw [h2]; exact ⟨rfl, rfl⟩
      refine va_put (v := .ref (ad y)) hx hb hts hin ty hty hnm hown hK hP (hD w) hS 0 he hc kf hkn (hts _ hlink) (fun _ h9 => h9) (hfin (by omega)) (hty kf hkn) hf.1 hf.2 (by rw [ma_fs_len]; exact hkl) hdg (fun H1 locs1 hP1 _ hS1 => ?_)
      rw [ma_set_r hk12 hy hzr (hkd.mpr (Nat.le_refl 2))] at hP1
      exact hk _ _ _ h_9 H1 locs1 ls hP1 hS1 hL hz
    unfold ma_pf at h_4
    split at h_4
    · obtain ⟨x, rfl, h_5⟩ := ma_I_spec h_4
      exact hint x (by decide) (fun z => by cases z) h_5
    · obtain ⟨x, rfl, h1, h_5⟩ := ma_I_spec h_4
      exact hint x (by decide) (fun _ => h1) h_5
    · obtain ⟨y, rfl, h_5⟩ := ma_R_spec h_4
      unfold ma_pr at h_5
      split at h_5
      · rename_i hq0
        have hq0 := Nat.eq_of_beq_eq_true hq0
        subst hq0
        have hci : ci = 0 := (Sum.inl.inj hs).symm
        exact href y (y, w.2.1.2) rfl rfl hci (by decide) rfl (zr_5 y w.2.1) h_5
      · rename_i hq0
        have hq0 := Nat.eq_of_beq_eq_true hq0
        subst hq0
        have hci : ci = 0 := (Sum.inl.inj hs).symm
        exact href y (w.2.1.1, y) rfl rfl hci (by decide) rfl (zr_6 y w.2.1) h_5
      · exact h_5.elim
    · exact h_4.elim
  case iaload =>
    obtain rfl : n = 1 := by simpa [ma_lok] using hlk
    obtain ⟨i, S, rfl, h_1⟩ := ma_i1_spec h
    obtain ⟨q, S, rfl, h_2⟩ := ma_r1_spec h_1
    have hord : (ma_ark q fun n => ma_ix i n fun j => k L (.inl (w.2.2 q j) :: S) w) → W p l e R s m args below meth c H locs cells slots Q (F0 m pc ls (.int i :: .ref (ad q) :: S.map (ma_cv ad))) := by
      intro h_2
      obtain ⟨n, hs, j, hj, rfl, h_5⟩ := ma_ark_spec h_2
      have hq := zc_sh_r hs (by omega)
      have hn := zc_sh_s hs
      have he : (ma_cw ad cA w)[q]? = some (ad q, .inl (cA, n, .inl (w.2.2 q))) := by rw [ma_cw_get hq, ma_el, hs]
      refine va_iald hx hb hK hP q 0 he rfl (vp_in_nI hj hn) hdg ?_
      rw [nI_clamp (by omega)]
      exact hk _ _ _ h_5 H locs ls hP hS hL hz
    unfold ma_ld at h_2
    split at h_2
    · exact hord h_2
    · rename_i b n xs
      obtain ⟨hX, hbl, hbA, hnn⟩ := hsc _ rfl
      split at h_2
      · rename_i hqb
        have hqb := Nat.eq_of_beq_eq_true hqb
        subst hqb
        obtain ⟨j, hj, rfl, h_5⟩ := h_2
        refine va_sld hx hb hX hbl hbA hS (vp_in_nI hj hnn) hdg ?_
        dsimp only at hnn hj
        rw [nI_clamp (by omega)]
        exact hk _ _ _ h_5 H locs ls hP hS hL hz
      · exact hord h_2
  case iastore =>
    obtain rfl : n = 1 := by simpa [ma_lok] using hlk
    obtain ⟨i, x, S, rfl, h_1⟩ := ma_i2_spec h
    obtain ⟨q, S, rfl, h_2⟩ := ma_r1_spec h_1
    obtain ⟨n, hs, j, hj, rfl, h_3⟩ := ma_ark_spec h_2
    have hq := zc_sh_r hs (by omega)
    have hn := zc_sh_s hs
    have he : (ma_cw ad cA w)[q]? = some (ad q, .inl (cA, n, .inl (w.2.2 q))) := by rw [ma_cw_get hq, ma_el, hs]
    refine va_iast hx hb hK hP (hD w) hS q 0 he rfl (vp_in_nI hj hn) hdg (fun H1 locs1 hP1 _ hS1 => ?_)
    rw [nI_clamp (by omega), ma_set_a hq hs] at hP1
    exact hk _ _ _ h_3 H1 locs1 ls hP1 hS1 hL hz
  case arraylength =>
    obtain rfl : n = 1 := by simpa [ma_lok] using hlk
    obtain ⟨q, S, rfl, h_1⟩ := ma_r1_spec h
    obtain ⟨b, hb2, rfl, h_2⟩ := ma_o_spec h_1
    obtain ⟨hX, hbl, hbA, -⟩ := hsc _ hb2
    exact va_slen hx hb hX hbl hbA hS hdg (hk _ _ _ h_2 H locs ls hP hS hL hz)
  case invokevirtual j =>
    obtain rfl : n = 3 := by simpa [ma_lok] using hlk
    obtain ⟨⟨na, rc, rv, T⟩, hl, h_1⟩ := ma_o_spec h
    obtain ⟨ci, hrc, h_2⟩ := ma_o_spec h_1
    obtain ⟨hbb, h_3⟩ := ma_b_spec h_2
    obtain ⟨v, hv, h_4⟩ := ma_o_spec h_3
    obtain ⟨q, rfl, h_5⟩ := ma_R_spec h_4
    obtain ⟨hq, hs, h_6⟩ := ma_isk_spec h_5
    dsimp only at hrc hbb hv hs h_6
    rw [Bool.and_eq_true] at hbb
    have hn := Nat.le_of_ble_eq_true hbb.1
    have hlen := Nat.le_of_ble_eq_true hbb.2
    obtain ⟨ys, hys⟩ := List.getLast?_eq_some_iff.mp hv
    obtain ⟨y, bytes, maxL, d, np, ret, ws', hM, hG, hd, hmx, hlink, hini, hnames, hkind⟩ := hEo _ (ma_look_mem hl)
    dsimp only at hM hkind hlink
    rcases hkind with ⟨h1, -⟩ | ⟨ci', r, h1, hna, hinst, hr, hsel⟩
    · rw [hrc] at h1; cases h1
    · obtain rfl : ci = ci' := Option.some.inj (hrc.symm.trans h1)
      have hS0 : S = ys ++ .inr q :: S.drop na := by
        have := (List.take_append_drop na S).symm
        rw [hys, List.append_assoc] at this
        exact this
      have hyl : ys.length = np := by
        have h2 : (S.take na).length = na := by rw [List.length_take]; omega
        rw [hys, List.length_append, List.length_singleton] at h2
        omega
      rw [hys, List.reverse_append] at h_6
      have he : (ma_cw ad cA w)[q]? = some (ad q, .inr (ci, ma_fs ad w q (zc_fk ci))) := by rw [ma_cw_get hq, ma_el, hs]
      have hst : S.map (ma_cv ad) = (ys.reverse.map (ma_cv ad)).reverse ++ .ref (ad q) :: (S.drop na).map (ma_cv ad) := by
        conv => lhs; rw [hS0]
        rw [List.map_append, List.map_cons, List.map_reverse, List.reverse_reverse]
        rfl
      have hRR : d + 1 ≤ R.frames ∧ 8 + (maxL + 11) + 60 * d ≤ R.locals := by omega
      rw [hst]
      refine ma_call (A := A) (va_runV (As := ys.reverse.map (ma_cv ad)) (rest := (S.drop na).map (ma_cv ad)) ⟨hx, hb, rfl, hown, hts⟩ (hM D ad cA (.inr q :: ys.reverse) w H.size _ h_6 hDD)
        ⟨callB_of np hts hG rfl rfl rfl (hts _ hini) (hts _ hlink) hnames hRR, hts _ hinst, hts _ hsel⟩
        ⟨ma_blind, va_recv hK hP hr he, fun U hU hW => ⟨rfl, by rw [hU], by rw [hU]; exact hP, va_K.moved hW.alike hK⟩⟩
        rfl (by rw [List.length_map, List.length_reverse]; exact hyl) hz rfl (lv_room (by rw [ma_sum]; exact hlen)) hdg ⟨hcs.1, hcs.2⟩) hS (fun q hq => ?_) (fun x w1 H1 locs1 hp hP1 hS1 => ?_)
      · rcases hq with hq | hq
        · exact hAA _ (Or.inl hq)
        · exact hAA _ (Or.inr (Nat.le_trans hS.1 hq))
      · have := hk _ _ _ hp H1 locs1 ls hP1 hS1 hL hz
        cases rv <;> exact this
  case invokestatic j =>
    obtain rfl : n = 3 := by simpa [ma_lok] using hlk
    obtain ⟨⟨na, rc, rv, T⟩, hl, h_1⟩ := ma_o_spec h
    obtain ⟨hbb, h_2⟩ := ma_b_spec h_1
    dsimp only at hbb h_2
    rw [Bool.and_eq_true, Bool.and_eq_true] at hbb
    have hrc := Option.isNone_iff_eq_none.mp hbb.1
    have hn := Nat.le_of_ble_eq_true hbb.2.1
    have hlen := Nat.le_of_ble_eq_true hbb.2.2
    obtain ⟨y, bytes, maxL, d, np, ret, ws', hM, hG, hd, hmx, hlink, hini, hnames, hkind⟩ := hEo _ (ma_look_mem hl)
    dsimp only at hM hkind hlink
    rcases hkind with ⟨-, hna, hstat⟩ | ⟨ci', r, h1, -⟩
    · have hyl : (S.take na).length = np := by rw [List.length_take]; omega
      have hst : S.map (ma_cv ad) = ((S.take na).reverse.map (ma_cv ad)).reverse ++ (S.drop na).map (ma_cv ad) := by
        rw [List.map_reverse, List.reverse_reverse, ← List.map_append, List.take_append_drop]
      have hRR : d + 1 ≤ R.frames ∧ 8 + (maxL + 11) + 60 * d ≤ R.locals := by omega
      rw [hst]
      refine ma_call (A := A) (va_runS (As := (S.take na).reverse.map (ma_cv ad)) (rest := (S.drop na).map (ma_cv ad)) ⟨hx, hb, rfl, hown, hts⟩ (hM D ad cA (S.take na).reverse w H.size _ h_2 hDD)
        ⟨callB_of np hts hG rfl rfl rfl (hts _ hini) (hts _ hlink) hnames hRR, hts _ hstat⟩
        ⟨ma_blind, fun U hU hW => ⟨rfl, by rw [hU], by rw [hU]; exact hP, va_K.moved hW.alike hK⟩⟩
        rfl (by rw [List.length_map, List.length_reverse]; exact hyl) hz rfl (lv_room (by rw [ma_sum]; exact hlen)) hdg ⟨hcs.1, hcs.2⟩) hS (fun q hq => ?_) (fun x w1 H1 locs1 hp hP1 hS1 => ?_)
      · rcases hq with hq | hq
        · exact hAA _ (Or.inl hq)
        · exact hAA _ (Or.inr (Nat.le_trans hS.1 hq))
      · have := hk _ _ _ hp H1 locs1 ls hP1 hS1 hL hz
        cases rv <;> exact this
    · rw [hrc] at h1; cases h1
  case tableswitch d lo hi offs =>
    obtain ⟨h0, hoff⟩ : 0 ≤ (pc : Int) + d ∧ ∀ o ∈ offs.toList, 0 ≤ (pc : Int) + o := by
      simp only [ma_lok, Bool.and_eq_true, decide_eq_true_eq, List.all_eq_true] at hlk
      exact hlk
    obtain ⟨x, S, rfl, h1, h2⟩ := ma_i1_spec h
    by_cases hout : x.toInt < lo ∨ hi < x.toInt
    · exact lv_tableOut hx hb hdg hout (ma_tgt h0) (h1 hout H locs ls hP hS hL hz)
    · have ha : ¬ x.toInt < lo := fun z => hout (Or.inl z)
      have hb' : ¬ hi < x.toInt := fun z => hout (Or.inr z)
      obtain ⟨o, ho, hgo⟩ := ma_o_spec (h2 ha hb')
      have hmem : o ∈ offs.toList := by
        have := Array.mem_of_getElem? ho
        exact Array.mem_toList_iff.mpr this
      exact lv_tableIn hx hb hdg ha hb' ho (ma_tgt (hoff o hmem)) (hgo H locs ls hP hS hL hz)
  case ireturn =>
    obtain rfl : n = 1 := by simpa [ma_lok] using hlk
    obtain ⟨x, rfl, h_1, h_2⟩ := ma_ir_spec h
    exact hRi pc H locs ls _ w hdg hP hS h_1 h_2
  case return_ =>
    obtain rfl : n = 1 := by simpa [ma_lok] using hlk
    obtain ⟨rfl, h_1, h_2⟩ := ma_vr_spec h
    exact hRv pc H locs ls w hdg hP hS h_1 h_2
  all_goals exact False.elim h
set_option maxHeartbeats 4000000 in
/-- a run of instructions -/
theorem ma_run (hx : p.tables.exec = Jvm.exec) (hb : c.code = cc) (hown : s.vm.findClass own = some m.cls) (hts : ∀ w ∈ Ts, w.before args s = true) (hK : va_K D zc_cl [(cA, .int)] s) (hDD : ma_D ad) (hAA : ∀ q, ma_A ad s.heap.size q → A q)
    (hKo : ma_Kok own Ts K) (hFo : ma_Fok own Ts F) (hEo : ma_Eok l own Ts dep E) (hR : dep ≤ R.frames ∧ 60 * dep ≤ R.locals) (hcs : cells ≤ R.cells ∧ slots ≤ R.slots)
    (hsc : ∀ q, sc = some q → va_X (ad q.1) q.2.1 q.2.2 s s.heap ∧ ad q.1 < s.heap.size ∧ ¬ A (ad q.1) ∧ q.2.1 < 2 ^ 31)
    (hRi : ∀ (pc : Nat) (H : Heap) (locs : List Loc) (ls : Array Slot) (x : Int32) (w : ma_W), decode cc pc = .ok (.ireturn, 1) → va_P D zc_cl (ma_cw ad cA w) H → va_S A s.heap H locs → (rt = 1 ∨ (rt = 2 ∧ (x = 0 ∨ x = 1))) → post x w → W p l e R s m args below meth c H locs cells slots Q (F0 m pc ls [.int x]))
    (hRv : ∀ (pc : Nat) (H : Heap) (locs : List Loc) (ls : Array Slot) (w : ma_W), decode cc pc = .ok (.return_, 1) → va_P D zc_cl (ma_cw ad cA w) H → va_S A s.heap H locs → rt = 0 → post 0 w → W p l e R s m args below meth c H locs cells slots Q (F0 m pc ls [])) :
    ∀ (seg : ma_C) (pc : Nat), ma_dec cc pc seg = true → ∀ (L : ma_L) (S : List ma_V) (w : ma_W), ma_wp K F E sc rt post (ma_go p l e R s m args below meth c cells slots Q D ad cA A) seg pc L S w → ma_go p l e R s m args below meth c cells slots Q D ad cA A pc L S w := by
  intro seg
  induction seg with
  | nil => intro pc _ L S w h; exact h
  | cons q r ih =>
    obtain ⟨i, n⟩ := q
    intro pc hd L S w h
    simp only [ma_dec, Bool.and_eq_true, decide_eq_true_eq] at hd
    obtain ⟨hdg, hlk, hdr⟩ := hd
    exact ma_one hx hb hown hts hK hDD hAA hKo hFo hEo hR hcs hsc hRi hRv hdg hlk h (fun L S w h => ih (pc + n) hdr L S w h)
end MA2
/-- a predicate that is closed backwards under a method's runs of instructions -/
def ma_cl (K : List (Nat × Int32)) (F : ma_F) (E : ma_E) (sc : ma_S) (rt : Nat) (segs : List (Nat × ma_C)) (post : ma_P) (Go : ma_G) : Prop :=
  ∀ (i pc : Nat) (seg : ma_C), segs[i]? = some (pc, seg) → ∀ (L : ma_L) (S : List ma_V) (w : ma_W), ma_wp K F E sc rt post Go seg pc L S w → Go pc L S w
theorem ma_segs {cc : ByteArray} {segs : List (Nat × ma_C)} (h : segs.all (fun q => ma_dec cc q.1 q.2) = true) {i pc : Nat} {seg : ma_C} (hi : segs[i]? = some (pc, seg)) : ma_dec cc pc seg = true := List.all_eq_true.mp h _ (List.mem_of_getElem? hi)
set_option maxHeartbeats 4000000 in
/-- A METHOD'S CONTRACT from its body's -/
theorem ma_met {l : Launch} {y : MethodName} {cc : ByteArray} {maxL : Nat} {ret : Option FieldType} {ws' : List Cond} {K : List (Nat × Int32)} {F : ma_F} {E : ma_E} {rt : Nat} {rv : Bool} {segs : List (Nat × ma_C)} {dep : Nat} {T : ma_T}
    (hy : plainName y.cls = true) (hseg : segs.all (fun q => ma_dec cc q.1 q.2) = true) (hret : (ret = none ∧ rt = 0 ∧ rv = false) ∨ (ret = some .int ∧ rt = 1 ∧ rv = true) ∨ (ret = some .boolean ∧ rt = 2 ∧ rv = true))
    (hKo : ma_Kok y.cls (Cond.code y cc maxL ret :: ws') K) (hFo : ma_Fok y.cls (Cond.code y cc maxL ret :: ws') F) (hEo : ma_Eok l y.cls (Cond.code y cc maxL ret :: ws') dep E)
    (hT : ∀ as w post, T as w post → as.length ≤ maxL)
    (hpost : ∀ as w post, T as w post → ∀ Go, ma_cl K F E none rt segs post Go → Go 0 (as.map some ++ List.replicate (maxL - as.length) none) [] w) :
    ma_Met l y (Cond.code y cc maxL ret :: ws') dep rv T := by
  intro D ad cA as w sz post hTp hDD
  refine Met.ofW (cc := cc) (maxL := maxL) (ret := ret) hy rfl ?_
  intro p e s m args below meth c s₁ B hml hv
  obtain ⟨rfl, hsz, hP, hK⟩ := hv
  subst hsz
  have hx := B.exec
  have hb := B.bytes
  have hr := B.returns
  have hts := atoms_spec (ws := Cond.code y cc maxL ret :: ws') B.pre
  have hown : s.vm.findClass y.cls = some m.cls := findClass_of_methodNamed B.named
  have hlocks := B.notSynchronized
  have hlen := hT as w post hTp
  have hsl : (lg_sl (as.map (ma_cv ad))).length = as.length := by
    exact ma_sl_len ad as
  have hl := lv_entry (as.map (ma_cv ad)) (n := maxL) (by rw [hsl]; exact hlen)
  rw [lg_entry_eq]
  generalize (lg_sl (as.map (ma_cv ad)) ++ List.replicate (maxL - (lg_sl (as.map (ma_cv ad))).length) Slot.unset).toArray = ls at hl ⊢
  have hargs : ∀ (as : List ma_V) (i k : Nat) (v : ma_V), as[k]? = some v → (i + k, ma_cv ad v) ∈ lv_args i (as.map (ma_cv ad)) := by
    intro as
    induction as with
    | nil => intro i k v h; simp at h
    | cons a as ih =>
      intro i k v h
      rw [List.map_cons]
      simp only [lv_args, ma_cat]
      cases k with
      | zero => simp at h; subst h; exact List.mem_cons_self
      | succ k =>
        rw [List.getElem?_cons_succ] at h
        have := ih (i + 1) k v h
        rw [show i + (k + 1) = i + 1 + k by omega]
        exact List.mem_cons_of_mem _ (by simpa using this)
  have hloc : ma_loc ad ls (as.map some ++ List.replicate (maxL - as.length) none) := by
    refine ⟨by rw [hl.1]; simp; omega, hl.2.1, fun k v hk => ?_⟩
    by_cases hka : k < as.length
    · rw [List.getElem?_append_left (by simpa using hka), List.getElem?_map] at hk
      cases hq : as[k]? with
      | none => rw [hq] at hk; cases hk
      | some u =>
        rw [hq] at hk
        cases hk
        have := hl.2.2 _ (hargs as 0 k v hq)
        simpa using this
    · rw [List.getElem?_append_right (by simp; omega)] at hk
      have := List.mem_of_getElem? hk
      rw [List.mem_replicate] at this
      cases this.2
  have hgo : ma_go p l e (headSpec (Cond.code y cc maxL ret :: ws') (ma_rm dep)).room s m (as.map (ma_cv ad)).toArray below meth c 0 0 (MQ below (ma_Q D ad cA (ma_A ad s.heap.size) rv post) (as.map (ma_cv ad)).toArray s 0 0 (ma_A ad s.heap.size)) D ad cA (ma_A ad s.heap.size) 0 (as.map some ++ List.replicate (maxL - as.length) none) [] w := by
    refine hpost as w post hTp _ (fun i pc seg hi => ma_run hx hb hown hts hK hDD (fun _ h => h) hKo hFo hEo ⟨Nat.le_refl _, Nat.le_refl _⟩ ⟨Nat.le_refl _, Nat.le_refl _⟩ (fun q h => by cases h) ?_ ?_ seg pc (ma_segs hseg hi))
    · intro pc H locs ls x w hdg hP hS hrb hp
      rcases hret with ⟨-, h1, -⟩ | ⟨h1, -, h3⟩ | ⟨h1, h2, h3⟩
      · rcases hrb with h | ⟨h, -⟩
        · rw [h1] at h; cases h
        · rw [h1] at h; cases h
      · subst h3
        have hq : ∀ t : State, t.heap = H → s.WarmedH t.vm → ma_Q D ad cA (ma_A ad s.heap.size) true post (as.map (ma_cv ad)).toArray s (.returned (some (.int x))) t := fun t ht _ => ⟨⟨x, w, rfl, hp, by rw [ht]; exact hP⟩, hS.F ht⟩
        exact W.iret hx hb (hr.trans h1) hq hS.2.2 hdg
      · subst h3
        have hq : ∀ t : State, t.heap = H → s.WarmedH t.vm → ma_Q D ad cA (ma_A ad s.heap.size) true post (as.map (ma_cv ad)).toArray s (.returned (some (.int x))) t := fun t ht _ => ⟨⟨x, w, rfl, hp, by rw [ht]; exact hP⟩, hS.F ht⟩
        refine W.zret hx hb (hr.trans h1) (ma_narb ?_) hq hS.2.2 hdg
        rcases hrb with h | ⟨-, h⟩
        · rw [h2] at h; cases h
        · exact h
    · intro pc H locs ls w hdg hP hS hr0 hp
      rcases hret with ⟨h1, -, h3⟩ | ⟨-, h2, -⟩ | ⟨-, h2, -⟩
      · subst h3
        have hq : ∀ t : State, t.heap = H → s.WarmedH t.vm → ma_Q D ad cA (ma_A ad s.heap.size) false post (as.map (ma_cv ad)).toArray s (.returned none) t := fun t ht _ => ⟨⟨0, w, rfl, hp, by rw [ht]; exact hP⟩, hS.F ht⟩
        exact W.vret hx hb (hr.trans h1) hq hS.2.2 hdg
      · rw [hr0] at h2; cases h2
      · rw [hr0] at h2; cases h2
  exact hgo s.heap [] ls hP va_S.rf hloc (by rw [hl.1]; exact hml.symm)
end
