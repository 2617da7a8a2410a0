/-! NAMES, by program (wip/whole/gen.py): objects, fields, methods, their instructions, links. Made anew when the program lands anew. -/
/-- the words that every call keeps -/
def zw_t : List Cond := lw_tbl.filter goodWord
theorem zw_m {w : Cond} {i : Nat} (h : lw_tbl[i]? = some w) (g : goodWord w = true) : w ∈ zw_t := List.mem_filter.mpr ⟨List.mem_of_getElem? h, g⟩
def zc_PC : String := "PackingCensus"
def zt_PC : u_T := fun k => match k with
  | 0 => ("PackingCensus", "ground", "LPackingCensus$Ground;", true)
  | 1 => ("PackingCensus", "former", "LPackingCensus$Former;", true)
  | 2 => ("PackingCensus", "hand", "LPackingCensus$Row;", true)
  | 3 => ("PackingCensus", "handForm", "LPackingCensus$Row;", true)
  | 4 => ("PackingCensus", "trial", "LPackingCensus$Row;", true)
  | 5 => ("PackingCensus", "listing", "LPackingCensus$Listing;", false)
  | 6 => ("PackingCensus", "spare", "LPackingCensus$Listing;", false)
  | 7 => ("PackingCensus", "lambda", "I", false)
  | 8 => ("PackingCensus", "handOrder", "I", false)
  | 9 => ("PackingCensus", "handFormKnown", "Z", false)
  | 10 => ("PackingCensus", "begun", "Z", false)
  | _ => ("PackingCensus", "nextTooLong", "Z", false)
def zy_PC : Nat → FieldType := fun k => match k with
  | 0 => .object "PackingCensus$Ground"
  | 1 => .object "PackingCensus$Former"
  | 2 => .object "PackingCensus$Row"
  | 3 => .object "PackingCensus$Row"
  | 4 => .object "PackingCensus$Row"
  | 5 => .object "PackingCensus$Listing"
  | 6 => .object "PackingCensus$Listing"
  | 7 => .int
  | 8 => .int
  | 9 => .boolean
  | 10 => .boolean
  | _ => .boolean
theorem zn_PC : ∀ a, a < 12 → ∀ b, b < 12 → a ≠ b → (zt_PC a).2.1 ≠ (zt_PC b).2.1 := by decide +kernel
theorem zo_PC : ∀ k, k < 12 → parseFieldDescriptor (zt_PC k).2.2.1 = some (zy_PC k) := by decide +kernel
theorem zi_PC : ∀ w ∈ u_ws zc_PC zt_PC 12, w ∈ zw_t := by
  have h : ∀ k, k < 12 → lw_tbl[[155, 157, 159, 161, 163, 165, 167, 169, 171, 173, 175, 177].getD k 0]? = some (u_lay zc_PC zt_PC k) := by decide +kernel
  intro w hw
  obtain ⟨k, hk, rfl⟩ := List.mem_map.mp hw
  have hg : ∀ k, k < 12 → goodWord (u_lay zc_PC zt_PC k) = true := by decide +kernel
  exact zw_m (h k (List.mem_range.mp hk)) (hg k (List.mem_range.mp hk))
def zc_FO : String := "PackingCensus$Former"
def zt_FO : u_T := fun k => match k with
  | 0 => ("PackingCensus$Former", "ground", "LPackingCensus$Ground;", true)
  | 1 => ("PackingCensus$Former", "times", "[I", true)
  | 2 => ("PackingCensus$Former", "best", "[I", true)
  | 3 => ("PackingCensus$Former", "image", "[I", true)
  | 4 => ("PackingCensus$Former", "takenTo", "[I", true)
  | 5 => ("PackingCensus$Former", "leastImages", "[I", true)
  | 6 => ("PackingCensus$Former", "bestRenamings", "I", false)
  | 7 => ("PackingCensus$Former", "stopWhenBeaten", "Z", false)
  | _ => ("PackingCensus$Former", "beaten", "Z", false)
def zy_FO : Nat → FieldType := fun k => match k with
  | 0 => .object "PackingCensus$Ground"
  | 1 => .array .int
  | 2 => .array .int
  | 3 => .array .int
  | 4 => .array .int
  | 5 => .array .int
  | 6 => .int
  | 7 => .boolean
  | _ => .boolean
theorem zn_FO : ∀ a, a < 9 → ∀ b, b < 9 → a ≠ b → (zt_FO a).2.1 ≠ (zt_FO b).2.1 := by decide +kernel
theorem zo_FO : ∀ k, k < 9 → parseFieldDescriptor (zt_FO k).2.2.1 = some (zy_FO k) := by decide +kernel
theorem zi_FO : ∀ w ∈ u_ws zc_FO zt_FO 9, w ∈ zw_t := by
  have h : ∀ k, k < 9 → lw_tbl[[89, 91, 93, 95, 97, 99, 101, 103, 105].getD k 0]? = some (u_lay zc_FO zt_FO k) := by decide +kernel
  intro w hw
  obtain ⟨k, hk, rfl⟩ := List.mem_map.mp hw
  have hg : ∀ k, k < 9 → goodWord (u_lay zc_FO zt_FO k) = true := by decide +kernel
  exact zw_m (h k (List.mem_range.mp hk)) (hg k (List.mem_range.mp hk))
def zc_GR : String := "PackingCensus$Ground"
def zt_GR : u_T := fun k => match k with
  | 0 => ("PackingCensus$Ground", "kindMasks", "[I", true)
  | 1 => ("PackingCensus$Ground", "kindsBefore", "[I", true)
  | 2 => ("PackingCensus$Ground", "pointCount", "I", false)
  | 3 => ("PackingCensus$Ground", "blockSize", "I", false)
  | _ => ("PackingCensus$Ground", "kindCount", "I", false)
def zy_GR : Nat → FieldType := fun k => match k with
  | 0 => .array .int
  | 1 => .array .int
  | 2 => .int
  | 3 => .int
  | _ => .int
theorem zn_GR : ∀ a, a < 5 → ∀ b, b < 5 → a ≠ b → (zt_GR a).2.1 ≠ (zt_GR b).2.1 := by decide +kernel
theorem zo_GR : ∀ k, k < 5 → parseFieldDescriptor (zt_GR k).2.2.1 = some (zy_GR k) := by decide +kernel
theorem zi_GR : ∀ w ∈ u_ws zc_GR zt_GR 5, w ∈ zw_t := by
  have h : ∀ k, k < 5 → lw_tbl[[67, 69, 71, 73, 75].getD k 0]? = some (u_lay zc_GR zt_GR k) := by decide +kernel
  intro w hw
  obtain ⟨k, hk, rfl⟩ := List.mem_map.mp hw
  have hg : ∀ k, k < 5 → goodWord (u_lay zc_GR zt_GR k) = true := by decide +kernel
  exact zw_m (h k (List.mem_range.mp hk)) (hg k (List.mem_range.mp hk))
def zc_RO : String := "PackingCensus$Row"
def zt_RO : u_T := fun k => match k with
  | 0 => ("PackingCensus$Row", "masks", "[I", true)
  | _ => ("PackingCensus$Row", "length", "I", false)
def zy_RO : Nat → FieldType := fun k => match k with
  | 0 => .array .int
  | _ => .int
theorem zn_RO : ∀ a, a < 2 → ∀ b, b < 2 → a ≠ b → (zt_RO a).2.1 ≠ (zt_RO b).2.1 := by decide +kernel
theorem zo_RO : ∀ k, k < 2 → parseFieldDescriptor (zt_RO k).2.2.1 = some (zy_RO k) := by decide +kernel
theorem zi_RO : ∀ w ∈ u_ws zc_RO zt_RO 2, w ∈ zw_t := by
  have h : ∀ k, k < 2 → lw_tbl[[116, 118].getD k 0]? = some (u_lay zc_RO zt_RO k) := by decide +kernel
  intro w hw
  obtain ⟨k, hk, rfl⟩ := List.mem_map.mp hw
  have hg : ∀ k, k < 2 → goodWord (u_lay zc_RO zt_RO k) = true := by decide +kernel
  exact zw_m (h k (List.mem_range.mp hk)) (hg k (List.mem_range.mp hk))
def zc_LI : String := "PackingCensus$Listing"
def zt_LI : u_T := fun k => match k with
  | 0 => ("PackingCensus$Listing", "masks", "[I", true)
  | 1 => ("PackingCensus$Listing", "orders", "[I", true)
  | 2 => ("PackingCensus$Listing", "images", "[I", true)
  | 3 => ("PackingCensus$Listing", "blocksEach", "I", false)
  | _ => ("PackingCensus$Listing", "count", "I", false)
def zy_LI : Nat → FieldType := fun k => match k with
  | 0 => .array .int
  | 1 => .array .int
  | 2 => .array .int
  | 3 => .int
  | _ => .int
theorem zn_LI : ∀ a, a < 5 → ∀ b, b < 5 → a ≠ b → (zt_LI a).2.1 ≠ (zt_LI b).2.1 := by decide +kernel
theorem zo_LI : ∀ k, k < 5 → parseFieldDescriptor (zt_LI k).2.2.1 = some (zy_LI k) := by decide +kernel
theorem zi_LI : ∀ w ∈ u_ws zc_LI zt_LI 5, w ∈ zw_t := by
  have h : ∀ k, k < 5 → lw_tbl[[132, 134, 136, 138, 140].getD k 0]? = some (u_lay zc_LI zt_LI k) := by decide +kernel
  intro w hw
  obtain ⟨k, hk, rfl⟩ := List.mem_map.mp hw
  have hg : ∀ k, k < 5 → goodWord (u_lay zc_LI zt_LI k) = true := by decide +kernel
  exact zw_m (h k (List.mem_range.mp hk)) (hg k (List.mem_range.mp hk))
def zc_MO : String := "PackingCensusModel"
def zt_MO : u_T := fun k => match k with
  | 0 => ("PackingCensusModel", "begun", "Z", false)
  | 1 => ("PackingCensusModel", "v", "I", false)
  | 2 => ("PackingCensusModel", "k", "I", false)
  | 3 => ("PackingCensusModel", "lambda", "I", false)
  | 4 => ("PackingCensusModel", "deep", "I", false)
  | 5 => ("PackingCensusModel", "kinds", "I", false)
  | 6 => ("PackingCensusModel", "blocks", "[I", true)
  | 7 => ("PackingCensusModel", "many", "I", false)
  | 8 => ("PackingCensusModel", "perms", "[I", true)
  | 9 => ("PackingCensusModel", "size", "I", false)
  | 10 => ("PackingCensusModel", "list", "[I", true)
  | 11 => ("PackingCensusModel", "made", "I", false)
  | 12 => ("PackingCensusModel", "fresh", "[I", true)
  | 13 => ("PackingCensusModel", "held", "I", false)
  | 14 => ("PackingCensusModel", "cards", "[I", true)
  | 15 => ("PackingCensusModel", "times", "[I", true)
  | 16 => ("PackingCensusModel", "pairs", "[I", true)
  | _ => ("PackingCensusModel", "at", "[I", true)
def zy_MO : Nat → FieldType := fun k => match k with
  | 0 => .boolean
  | 1 => .int
  | 2 => .int
  | 3 => .int
  | 4 => .int
  | 5 => .int
  | 6 => .array .int
  | 7 => .int
  | 8 => .array .int
  | 9 => .int
  | 10 => .array .int
  | 11 => .int
  | 12 => .array .int
  | 13 => .int
  | 14 => .array .int
  | 15 => .array .int
  | 16 => .array .int
  | _ => .array .int
theorem zn_MO : ∀ a, a < 18 → ∀ b, b < 18 → a ≠ b → (zt_MO a).2.1 ≠ (zt_MO b).2.1 := by decide +kernel
theorem zo_MO : ∀ k, k < 18 → parseFieldDescriptor (zt_MO k).2.2.1 = some (zy_MO k) := by decide +kernel
theorem zi_MO : ∀ w ∈ u_ws zc_MO zt_MO 18, w ∈ zw_t := by
  have h : ∀ k, k < 18 → lw_tbl[[495, 497, 499, 501, 503, 505, 507, 509, 511, 513, 515, 517, 519, 521, 523, 525, 527, 529].getD k 0]? = some (u_lay zc_MO zt_MO k) := by decide +kernel
  intro w hw
  obtain ⟨k, hk, rfl⟩ := List.mem_map.mp hw
  have hg : ∀ k, k < 18 → goodWord (u_lay zc_MO zt_MO k) = true := by decide +kernel
  exact zw_m (h k (List.mem_range.mp hk)) (hg k (List.mem_range.mp hk))
abbrev zc_cl : List vw_C := [(zc_PC, zt_PC, 12), (zc_FO, zt_FO, 9), (zc_GR, zt_GR, 5), (zc_RO, zt_RO, 2), (zc_LI, zt_LI, 5), (zc_MO, zt_MO, 18)]
def zc_fk : Nat → List Nat := fun c => match c with
  | 0 => [2, 2, 2, 2, 2, 2, 2, 0, 0, 1, 1, 1]
  | 1 => [2, 2, 2, 2, 2, 2, 0, 1, 1]
  | 2 => [2, 2, 0, 0, 0]
  | 3 => [2, 0]
  | 4 => [2, 2, 2, 0, 0]
  | _ => [1, 0, 0, 0, 0, 0, 2, 0, 2, 0, 2, 0, 2, 0, 2, 2, 2, 2]
def zc_shl : List (Nat ⊕ Nat) := [.inl 0, .inl 1, .inl 2, .inr 20, .inr 7, .inr 64, .inr 20, .inr 64, .inr 6, .inr 6, .inl 3, .inr 10, .inl 3, .inr 10, .inl 3, .inr 10, .inl 4, .inr 600, .inr 60, .inr 360, .inl 4, .inr 600, .inr 60, .inr 360, .inl 5, .inr 20, .inr 4320, .inr 600, .inr 610, .inr 10, .inr 64, .inr 36, .inr 10]
def zc_sh (p : Nat) : Nat ⊕ Nat := zc_shl.getD p (.inr 0)
theorem zc_sh_n {p : Nat} (h : 33 ≤ p) : zc_sh p = .inr 0 := by
  rw [zc_sh, List.getD_eq_getElem?_getD, List.getElem?_eq_none (show zc_shl.length ≤ p from h)]
  rfl
theorem zc_sh_l {p c : Nat} (h : zc_sh p = .inl c) : p < 33 := by
  rcases Nat.lt_or_ge p 33 with h1 | h1
  · exact h1
  · rw [zc_sh_n h1] at h; cases h
theorem zc_sh_r {p n : Nat} (h : zc_sh p = .inr n) (h0 : 0 < n) : p < 33 := by
  rcases Nat.lt_or_ge p 33 with h1 | h1
  · exact h1
  · rw [zc_sh_n h1] at h
    have := Sum.inr.inj h
    omega
theorem zc_sh_s {p n : Nat} (h : zc_sh p = .inr n) : n < 2 ^ 31 := by
  rcases Nat.lt_or_ge p 33 with h1 | h1
  · have key : ∀ p, p < 33 → (match zc_sh p with
      | .inr n => Nat.blt n 5000
      | .inl _ => true) = true := by decide +kernel
    have := key p h1
    rw [h] at this
    have := Nat.blt_eq.mp this
    omega
  · rw [zc_sh_n h1] at h
    have := Sum.inr.inj h
    omega
def zr_l (r : Nat × Nat) : List (List Nat) := [[2, 1, 10, 12, 14, r.1, r.2, 0, 0, 0, 0, 0], [2, 5, 6, 7, 8, 9, 0, 0, 0], [3, 4, 0, 0, 0], [], [], [], [], [], [], [], [11, 0], [], [13, 0], [], [15, 0], [], [17, 18, 19, 0, 0], [], [], [], [21, 22, 23, 0, 0], [], [], [], [0, 0, 0, 0, 0, 0, 25, 0, 26, 0, 27, 0, 28, 0, 29, 30, 31, 32], [], [], [], [], [], [], [], []]
/-- what the reference fields hold -/
def zr (r : Nat × Nat) (p k : Nat) : Nat := ((zr_l r).getD p []).getD k 0
theorem zr_5 (y : Nat) (r : Nat × Nat) : ∀ a b, ¬ (a = 0 ∧ b = 5) → zr (y, r.2) a b = zr r a b := by
  intro a b h
  cases a with
  | succ a => rfl
  | zero =>
    rcases b with _ | _ | _ | _ | _ | _ | b
    · rfl
    · rfl
    · rfl
    · rfl
    · rfl
    · exact absurd ⟨rfl, rfl⟩ h
    · rfl
theorem zr_6 (y : Nat) (r : Nat × Nat) : ∀ a b, ¬ (a = 0 ∧ b = 6) → zr (r.1, y) a b = zr r a b := by
  intro a b h
  cases a with
  | succ a => rfl
  | zero =>
    rcases b with _ | _ | _ | _ | _ | _ | _ | b
    · rfl
    · rfl
    · rfl
    · rfl
    · rfl
    · rfl
    · exact absurd ⟨rfl, rfl⟩ h
    · rfl
theorem zw_in {z : Cond} {y2 : MethodName} {b2 : ByteArray} {n2 : Nat} {r2 : Option FieldType} (h : Cond.code y2 b2 n2 r2 ∈ zw_t) : GoodIn (z :: zw_t) (Cond.code y2 b2 n2 r2 :: zw_t) := by
  intro w hw
  have hm : w ∈ zw_t := (List.mem_cons.mp hw).elim (fun e => by rw [e]; exact h) (fun h => h)
  exact ⟨List.mem_cons_of_mem _ hm, good_of_word (List.mem_filter.mp hm).2⟩
