/-! CONTRACTS: Former -/
theorem ma_no {l : Launch} {y : MethodName} {ws : List Cond} {d : Nat} {rv : Bool} : ma_Met l y ws d rv (fun _ _ _ => False) := fun _ _ _ _ _ _ _ h => h.elim
/-! points that are taken, points that are left -/
def us (p : List Nat) : Nat := p.foldl (fun u q => u ||| 2 ^ q) 0
theorem us_app (p : List Nat) (q : Nat) : us (p ++ [q]) = us p ||| 2 ^ q := by simp [us, List.foldl_append]
theorem us_go (y : Nat) : ∀ (p : List Nat) (u : Nat), (p.foldl (fun u q => u ||| 2 ^ q) u).testBit y = true ↔ u.testBit y = true ∨ y ∈ p
  | [], u => by simp
  | q :: p, u => by
    rw [List.foldl_cons, us_go y p, Nat.testBit_or, Bool.or_eq_true, Nat.testBit_two_pow, decide_eq_true_eq, List.mem_cons]
    constructor
    · rintro ((h | h) | h)
      · exact Or.inl h
      · exact Or.inr (Or.inl h.symm)
      · exact Or.inr (Or.inr h)
    · rintro (h | h | h)
      · exact Or.inl (Or.inl h)
      · exact Or.inl (Or.inr h.symm)
      · exact Or.inr h
theorem us_bit (p : List Nat) (y : Nat) : (us p).testBit y = true ↔ y ∈ p := by
  rw [us, us_go]
  simp
theorem us_lt {p : List Nat} {v : Nat} (h : ∀ x ∈ p, x < v) : us p < 2 ^ v := by
  apply Nat.lt_pow_two_of_testBit
  intro i hi
  cases hb : (us p).testBit i with
  | false => rfl
  | true =>
    have := h i ((us_bit p i).mp hb)
    omega
def pp (v : Nat) (p : List Nat) : Prop := p.Nodup ∧ ∀ x ∈ p, x < v
def rem_ (v : Nat) (p : List Nat) : List Nat := (List.range v).filter (fun q => !p.contains q)
theorem rem_mem {v : Nat} {p : List Nat} {q : Nat} : q ∈ rem_ v p ↔ q < v ∧ q ∉ p := by simp [rem_]
theorem rem_perm {v : Nat} {p : List Nat} (h : pp v p) : (p ++ rem_ v p).Perm (List.range v) := by
  refine (List.perm_ext_iff_of_nodup ?_ List.nodup_range).mpr (fun a => ?_)
  · refine List.nodup_append.mpr ⟨h.1, List.Pairwise.filter _ List.nodup_range, fun a ha b hb e => ?_⟩
    subst e
    exact (rem_mem.mp hb).2 ha
  · rw [List.mem_append, rem_mem, List.mem_range]
    constructor
    · rintro (h1 | h1)
      · exact h.2 a h1
      · exact h1.1
    · intro h1
      by_cases ha : a ∈ p
      · exact Or.inl ha
      · exact Or.inr ⟨h1, ha⟩
theorem rem_len {v : Nat} {p : List Nat} (h : pp v p) : p.length + (rem_ v p).length = v := by
  have := (rem_perm h).length_eq
  rwa [List.length_append, List.length_range] at this
theorem pp_app {v q : Nat} {p : List Nat} (h : pp v p) (hq : q ∈ rem_ v p) : pp v (p ++ [q]) := by
  obtain ⟨h1, h2⟩ := rem_mem.mp hq
  refine ⟨List.nodup_append.mpr ⟨h.1, by simp, fun a ha b hb e => ?_⟩, fun x hx => ?_⟩
  · rw [List.mem_singleton.mp hb] at e
    rw [e] at ha
    exact h2 ha
  · rcases List.mem_append.mp hx with h3 | h3
    · exact h.2 x h3
    · rw [List.mem_singleton.mp h3]; exact h1
theorem rem_erase {v q : Nat} {p : List Nat} : (rem_ v p).erase q = rem_ v (p ++ [q]) := by
  have hn : (rem_ v p).Nodup := List.Pairwise.filter _ List.nodup_range
  rw [hn.erase_eq_filter, rem_, rem_, List.filter_filter]
  refine List.filter_congr (fun x _ => ?_)
  by_cases h1 : x ∈ p <;> by_cases h2 : x = q <;> simp [h1, h2]
theorem pp_le {v : Nat} {p : List Nat} (h : pp v p) : p.length ≤ v := by have := rem_len h; omega
/-! images under points that are settled -/
theorem im_K {v k m : Nat} {p : List Nat} (h : pp v p) (hm : m ∈ fm_K v k) (hl : m < 2 ^ p.length) : pm_im p m ∈ fm_K v k := by
  rw [← pm_im_app (s := rem_ v p) hl]
  exact fm_K_im (rem_perm h) hm
theorem xs_all : (List.range 6).all (fun t => (List.range 64).all (fun m => decide (2 ^ t ≤ m → m < 2 ^ (t + 1) → m ^^^ 2 ^ t < 2 ^ t ∧ m.testBit t = true) && (List.range t).all (fun i => decide ((m ^^^ 2 ^ t).testBit i = m.testBit i)))) = true := by decide +kernel
theorem xs_fin (t : Nat) (ht : t < 6) (m : Nat) (hm : m < 64) (h1 : 2 ^ t ≤ m) (h2 : m < 2 ^ (t + 1)) : m ^^^ 2 ^ t < 2 ^ t ∧ m.testBit t = true ∧ ∀ i, i < t → (m ^^^ 2 ^ t).testBit i = m.testBit i := by
  have h9 := List.all_eq_true.mp (List.all_eq_true.mp xs_all t (List.mem_range.mpr ht)) m (List.mem_range.mpr hm)
  simp only [Bool.and_eq_true, decide_eq_true_eq, List.all_eq_true, List.mem_range] at h9
  exact ⟨(h9.1 h1 h2).1, (h9.1 h1 h2).2, h9.2⟩
theorem ys_fin : ∀ t, t < 6 → ∀ m, m < 32 → m < 2 ^ t → 2 ^ t ||| m = 2 ^ t + m ∧ 2 ^ t + m < 64 ∧ (2 ^ t + m) ^^^ 2 ^ t = m ∧ 2 ^ t + m < 2 ^ (t + 1) := by decide +kernel
theorem pm_im_64 {v : Nat} {p : List Nat} (h : pp v p) (hv : v ≤ 6) (m : Nat) : pm_im p m < 64 := by
  have : pm_im p m < 2 ^ 6 := by
    apply Nat.lt_pow_two_of_testBit
    intro y hy
    cases hb : (pm_im p m).testBit y with
    | false => rfl
    | true =>
      obtain ⟨i, hi, -, e⟩ := pm_im_bit.mp hb
      rw [gd_at hi] at e
      have := h.2 _ (List.getElem_mem hi)
      omega
  exact this
theorem im_split {p : List Nat} {q m : Nat} (ht : p.length < 6) (hm : m < 64) (h1 : 2 ^ p.length ≤ m) (h2 : m < 2 ^ (p.length + 1)) : pm_im (p ++ [q]) m = pm_im p (m ^^^ 2 ^ p.length) ||| 2 ^ q := by
  obtain ⟨-, hb, hx⟩ := xs_fin p.length ht m hm h1 h2
  apply Nat.eq_of_testBit_eq
  intro y
  rw [Bool.eq_iff_iff, Nat.testBit_or, Bool.or_eq_true, pm_im_bit, pm_im_bit, Nat.testBit_two_pow, decide_eq_true_eq]
  constructor
  · rintro ⟨i, hi, h3, e⟩
    rw [List.length_append] at hi
    simp only [List.length_singleton] at hi
    by_cases hip : i = p.length
    · subst hip
      right
      rw [gd_app_r] at e
      exact e
    · left
      have hil : i < p.length := by omega
      exact ⟨i, hil, by rw [hx i hil]; exact h3, by rw [← e, gd_app_l hil]⟩
  · rintro (⟨i, hi, h3, e⟩ | e)
    · exact ⟨i, by rw [List.length_append]; omega, by rw [← hx i hi]; exact h3, by rw [gd_app_l hi]; exact e⟩
    · exact ⟨p.length, by simp, hb, by rw [gd_app_r]; exact e⟩
theorem vk_lo {v k t j : Nat} (h : vk v k) (ht : t < 7) (hj : j < (fm_K v k).length) (h2 : se_kb (fm_K v k) t ≤ j) : 2 ^ t ≤ (fm_K v k).getD j 0 := (kb_fin h).2.2.2.2 t ht j hj h2
theorem vk_hi {v k t j : Nat} (h : vk v k) (ht : t < 7) (h2 : j < se_kb (fm_K v k) t) : (fm_K v k).getD j 0 < 2 ^ t := (kb_fin h).2.2.2.1 t ht j h2
theorem K_mem {v k j : Nat} (hj : j < (fm_K v k).length) : (fm_K v k).getD j 0 ∈ fm_K v k := by
  rw [gd_at hj]
  exact List.getElem_mem hj
/-! ints that may be -1 -/
def iI (z : Int) : Int32 := Int32.ofInt z
theorem iI_fin : ∀ a : Nat, a < 12 → ∀ b : Nat, b < 11 → (iI ((a : Int) - 1) ≤ nI b ↔ (a : Int) - 1 ≤ b) ∧ (nI b ≤ iI ((a : Int) - 1) ↔ (b : Int) ≤ (a : Int) - 1) := by decide +kernel
theorem iI_cmp {z : Int} {b : Nat} (h1 : -1 ≤ z) (h2 : z ≤ 10) (hb : b ≤ 10) : (iI z ≤ nI b ↔ z ≤ b) ∧ (nI b ≤ iI z ↔ (b : Int) ≤ z) := by
  obtain ⟨a, ha⟩ : ∃ a : Nat, z = (a : Int) - 1 := ⟨(z + 1).toNat, by omega⟩
  subst ha
  exact iI_fin a (by omega) b (by omega)
theorem iI_n (n : Nat) : iI (n : Int) = nI n := rfl
/-- the state of the search as the Former holds it -/
def fb (K : List Nat) (st : se_S) (w : ma_W) : Prop := st.1.length = K.length ∧ (∀ j, j < K.length → -1 ≤ st.1.getD j 0 ∧ st.1.getD j 0 ≤ 10 ∧ w.2.2 6 j = iI (st.1.getD j 0)) ∧ w.1 1 6 = nI st.2.1 ∧ w.1 1 8 = bI st.2.2.1 ∧ st.2.2.2.length = 6 ∧ ∀ i, i < 6 → w.2.2 9 i = nI (st.2.2.2.getD i 0) ∧ st.2.2.2.getD i 0 < 6
/-- what lies under the search and does not change -/
def fu (v k : Nat) (f : Nat → Nat) (w : ma_W) : Prop := gr v k w ∧ ∀ m, m ∈ fm_K v k → w.2.2 5 m = nI (f m)
theorem fu_fr {v k : Nat} {f : Nat → Nat} {w w' : ma_W} (h : fu v k f w) (hf : fr [1] [6, 7, 8, 9] w w') : fu v k f w' := ⟨gr_fr h.1 hf (by decide) (by decide) (by decide), fun m hm => by rw [hf.2.2 5 (by decide)]; exact h.2 m hm⟩
def im_ (p : List Nat) (w : ma_W) : Prop := ∀ m, m < 2 ^ p.length → w.2.2 7 m = nI (pm_im p m)
def tk_ (p : List Nat) (w : ma_W) : Prop := ∀ i, i < p.length → w.2.2 8 i = nI (p.getD i 0)
/-- makeBest -/
def T_FO_makeBest : ma_T := fun as w post => ∃ j n, as = [.inr 1, .inl (nI j), .inl (nI n)] ∧ j < 20 ∧ ∀ w', fr [1] [6] w w' → w'.1 1 6 = nI 0 → w'.1 1 7 = w.1 1 7 → w'.1 1 8 = w.1 1 8 → (∀ i, i < 20 → w'.2.2 6 i = if i < j then w.2.2 6 i else if i = j then nI n else iI (-1)) → post 0 w'
theorem i_FO_makeBest {j n : Nat} {w : ma_W} {post : ma_P} (hj : j < 20) (hp : ∀ w', fr [1] [6] w w' → w'.1 1 6 = nI 0 → w'.1 1 7 = w.1 1 7 → w'.1 1 8 = w.1 1 8 → (∀ i, i < 20 → w'.2.2 6 i = if i < j then w.2.2 6 i else if i = j then nI n else iI (-1)) → post 0 w') : T_FO_makeBest [.inr 1, .inl (nI j), .inl (nI n)] w post := ⟨j, n, rfl, hj, hp⟩
theorem c_FO_makeBest {l : Launch} : ma_Met l y_FO_makeBest (w_FO_makeBest :: zw_t) 0 false T_FO_makeBest := by
  refine z_FO_makeBest (by rintro as w post ⟨j, n, rfl, -⟩; simp) ?_
  rintro as w post ⟨j, n, rfl, hj, hp⟩ Go hGo
  have loop : ∀ (d i : Nat) (w' : ma_W), i + d = 20 → j < i → fr [1] [6] w w' → w'.1 = w.1 → (∀ x, x < 20 → w'.2.2 6 x = if x < j then w.2.2 6 x else if x = j then nI n else if x < i then iI (-1) else w.2.2 6 x) → Go 11 [some (.inr 1), some (.inl (nI j)), some (.inl (nI n)), some (.inl (nI i))] [] w' := by
    intro d
    induction d with
    | zero =>
      intro i w' hd hji hf hw ha
      refine q_FO_makeBest_11 hGo (pk_le 20 i (fun _ => q_FO_makeBest_30 hGo (hp _ (fr_f hf (by simp) _ _) (rfl) ?_ ?_ (fun x hx => ?_))) (fun h => absurd h (by omega)))
      · try dsimp only
        rw [ma_up_k _ _ _ _ (by decide), hw]
      · try dsimp only
        rw [ma_up_k _ _ _ _ (by decide), hw]
      · show w'.2.2 6 x = _
        rw [ha x hx, if_pos (show x < i by omega)]
    | succ d ih =>
      intro i w' hd hji hf hw ha
      refine q_FO_makeBest_11 hGo (pk_le 20 i (fun h => absurd h (by omega)) (fun _ => ⟨i, by omega, rfl, ?_⟩))
      rw [nI_add]
      refine ih (i + 1) _ (by omega) (by omega) (fr_a hf (by simp) _ _) hw (fun x hx => ?_)
      try dsimp only
      by_cases hxi : x = i
      · subst hxi
        rw [ma_up_s, if_neg (by omega), if_neg (by omega), if_pos (by omega)]
        rfl
      · rw [ma_up_k _ _ _ _ hxi, ha x hx]
        by_cases h1 : x < i
        · rw [if_pos h1, if_pos (show x < i + 1 by omega)]
        · rw [if_neg h1, if_neg (show ¬ x < i + 1 by omega)]
  refine q_FO_makeBest_0 hGo ⟨j, hj, rfl, ?_⟩
  rw [nI_add]
  refine loop (20 - (j + 1)) (j + 1) _ (by omega) (by omega) (fr_a (fr_refl _ _ _) (by simp) _ _) rfl (fun x hx => ?_)
  try dsimp only
  by_cases hxj : x = j
  · subst hxj
    rw [ma_up_s, if_neg (by omega), if_pos rfl]
  · rw [ma_up_k _ _ _ _ hxj]
    by_cases h1 : x < j
    · rw [if_pos h1]
    · rw [if_neg h1, if_neg hxj, if_neg (by omega)]
theorem fb_mk {K : List Nat} {st : se_S} {w w' : ma_W} {j n : Nat} (h : fb K st w) (hK : K.length ≤ 20) (hj : j < K.length) (hn : n ≤ 10) (hf : fr [1] [6] w w') (h6 : w'.1 1 6 = nI 0) (h8 : w'.1 1 8 = bI true) (ha : ∀ i, i < 20 → w'.2.2 6 i = if i < j then w.2.2 6 i else if i = j then nI n else iI (-1)) : fb K (se_mk st.1 j (n : Int), 0, true, st.2.2.2) w' := by
  obtain ⟨g1, g2, g3, g4, g5, g6⟩ := h
  have hjl : j < st.1.length := by omega
  refine ⟨by show (se_mk st.1 j (n : Int)).length = _; rw [se_mk_len hjl]; exact g1, fun i hi => ?_, h6, h8, g5, fun i hi => by rw [hf.2.2 9 (by decide)]; exact g6 i hi⟩
  show -1 ≤ (se_mk st.1 j (n : Int)).getD i 0 ∧ (se_mk st.1 j (n : Int)).getD i 0 ≤ 10 ∧ w'.2.2 6 i = iI ((se_mk st.1 j (n : Int)).getD i 0)
  rw [ha i (by omega)]
  rcases Nat.lt_trichotomy i j with h1 | h1 | h1
  · rw [se_mk_lt hjl h1, if_pos h1]
    exact g2 i hi
  · subst h1
    rw [se_mk_at hjl, if_neg (by omega), if_pos rfl]
    exact ⟨by omega, by omega, (iI_n n).symm⟩
  · rw [se_mk_gt hjl h1 (by omega), if_neg (by omega), if_neg (by omega)]
    exact ⟨by decide, by decide, rfl⟩
/-- a search that stops: what answers true has changed nothing -/
theorem se_as_stop (num : Nat → Int) : ∀ (js : List Nat) (b : List Int × Nat × Bool), (se_as true num js b).1 = true → se_as true num js b = (true, b)
  | [], b, _ => rfl
  | j :: js, b, h => by
    unfold se_as at h ⊢
    by_cases h1 : num j < b.1.getD j 0
    · rw [if_pos h1] at h; cases h
    · rw [if_neg h1] at h ⊢
      by_cases h2 : b.1.getD j 0 < num j
      · rw [if_pos h2, if_pos rfl] at h; cases h
      · rw [if_neg h2] at h ⊢
        exact se_as_stop num js b h
/-- the kinds whose greatest point is t -/
def se_js (K : List Nat) (t : Nat) : List Nat := List.range' (se_kb K t) (se_kb K (t + 1) - se_kb K t)
def se_A (stop : Bool) (K : List Nat) (f : Nat → Nat) (p : List Nat) (q : Nat) (st : se_S) : Bool × List Int × Nat × Bool := se_as stop (se_num K f (p ++ [q])) (se_js K p.length) (st.1, st.2.1, st.2.2.1)
def T_FO_isAsGood : ma_T := fun as w post => ∃ v k f p q st stop, as = [.inr 1, .inl (nI p.length), .inl (nI q)] ∧ vk v k ∧ (∀ m, f m ≤ 10) ∧ pp v (p ++ [q]) ∧ fu v k f w ∧ fb (fm_K v k) st w ∧ im_ p w ∧ w.1 1 7 = bI stop ∧ ∀ w', fr [1] [6] w w' → w'.1 1 7 = bI stop → fb (fm_K v k) ((se_A stop (fm_K v k) f p q st).2.1, (se_A stop (fm_K v k) f p q st).2.2.1, (se_A stop (fm_K v k) f p q st).2.2.2, st.2.2.2) w' → post (bI (se_A stop (fm_K v k) f p q st).1) w'
theorem i_FO_isAsGood {v k : Nat} {f : Nat → Nat} {p : List Nat} {q : Nat} {st : se_S} {stop : Bool} {w : ma_W} {post : ma_P} (hv : vk v k) (hf : ∀ m, f m ≤ 10) (hp : pp v (p ++ [q])) (hu : fu v k f w) (hb : fb (fm_K v k) st w) (hi : im_ p w) (hs : w.1 1 7 = bI stop) (h : ∀ w', fr [1] [6] w w' → w'.1 1 7 = bI stop → fb (fm_K v k) ((se_A stop (fm_K v k) f p q st).2.1, (se_A stop (fm_K v k) f p q st).2.2.1, (se_A stop (fm_K v k) f p q st).2.2.2, st.2.2.2) w' → post (bI (se_A stop (fm_K v k) f p q st).1) w') : T_FO_isAsGood [.inr 1, .inl (nI p.length), .inl (nI q)] w post := ⟨v, k, f, p, q, st, stop, rfl, hv, hf, hp, hu, hb, hi, hs, h⟩
theorem pp_init {v : Nat} {p : List Nat} {q : Nat} (h : pp v (p ++ [q])) : pp v p ∧ q < v ∧ q ∉ p := by
  have h1 := List.nodup_append.mp h.1
  exact ⟨⟨h1.1, fun x hx => h.2 x (List.mem_append_left _ hx)⟩, h.2 q (by simp), fun hq => h1.2.2 q hq q (by simp) rfl⟩
theorem c_FO_isAsGood {l : Launch} : ma_Met l y_FO_isAsGood (w_FO_isAsGood :: zw_t) 1 true T_FO_isAsGood := by
  refine z_FO_isAsGood c_GR_firstKindEndingAt (by decide) c_GR_kind (by decide) c_FO_makeBest (by decide) (by rintro as w post ⟨v, k, f, p, q, st, stop, rfl, -⟩; simp) ?_
  rintro as w post ⟨v, k, f, p, q, st, stop, rfl, hv, hf, hpq, hu, hb, hi, hs, hp⟩ Go hGo
  obtain ⟨hpp, hqv, hqp⟩ := pp_init hpq
  have hv6 := hv.2.1
  have hpl : p.length < v := by
    have := pp_le hpq
    rw [List.length_append, List.length_singleton] at this
    omega
  have h20 := vk_20 hv
  have hmono := se_kb_mono (K := fm_K v k) (show p.length ≤ p.length + 1 by omega)
  have hle := se_kb_le (K := fm_K v k) (p.length + 1)
  have loop : ∀ (d j : Nat) (b : se_S) (w' : ma_W) (o : Option ma_V), j + d = se_kb (fm_K v k) (p.length + 1) → se_kb (fm_K v k) p.length ≤ j → fr [1] [6] w w' → w'.1 1 7 = bI stop → fb (fm_K v k) b w' → b.2.2.2 = st.2.2.2 → se_as stop (se_num (fm_K v k) f (p ++ [q])) (List.range' j d) (b.1, b.2.1, b.2.2.1) = se_A stop (fm_K v k) f p q st → Go 21 [some (.inr 1), some (.inl (nI p.length)), some (.inl (nI q)), some (.inl (nI (se_kb (fm_K v k) (p.length + 1)))), some (.inl (nI j)), o] [] w' := by
    intro d
    induction d with
    | zero =>
      intro j b w' o hd hlo hfr hs' hb' hls he
      refine q_FO_isAsGood_21 hGo (pk_le (se_kb (fm_K v k) (p.length + 1)) j (fun _ => q_FO_isAsGood_110 hGo ⟨bo1, ?_⟩) (fun h => absurd h (by omega)))
      have h9 := hp w' hfr hs'
      rw [← he] at h9
      rw [← hls] at h9
      exact h9 hb'
    | succ d ih =>
      intro j b w' o hd hlo hfr hs' hb' hls he
      have hjK : j < (fm_K v k).length := by omega
      have hm := K_mem hjK
      have hm64 := vk_64 hv hm
      have hml := vk_lo hv (by omega) hjK hlo
      have hmh : (fm_K v k).getD j 0 < 2 ^ (p.length + 1) := vk_hi hv (by omega) (by omega)
      obtain ⟨hx1, -, -⟩ := xs_fin p.length (by omega) _ hm64 hml hmh
      have hpt : 2 ^ p.length ≤ 2 ^ 5 := Nat.pow_le_pow_right (by decide) (by omega)
      have hq2 : 2 ^ q ≤ 2 ^ 5 := Nat.pow_le_pow_right (by decide) (by omega)
      have himp : pm_im p ((fm_K v k).getD j 0 ^^^ 2 ^ p.length) < 64 := pm_im_64 hpp hv6 _
      have hsp := im_split (q := q) (by omega) hm64 hml hmh
      have hK2 : pm_im (p ++ [q]) ((fm_K v k).getD j 0) ∈ fm_K v k := im_K hpq hm (by rw [List.length_append]; exact hmh)
      have hnum : w'.2.2 5 (pm_im (p ++ [q]) ((fm_K v k).getD j 0)) = nI (f (pm_im (p ++ [q]) ((fm_K v k).getD j 0))) := by rw [hfr.2.2 5 (by decide)]; exact hu.2 _ hK2
      have h64b := vk_64 hv hK2
      obtain ⟨hbl, hba, hrest⟩ := hb'
      obtain ⟨hz1, hz2, hz3⟩ := hba j hjK
      have hcmp := iI_cmp hz1 hz2 (hf (pm_im (p ++ [q]) ((fm_K v k).getD j 0)))
      rw [List.range'_succ] at he
      unfold se_as at he
      refine q_FO_isAsGood_21 hGo (pk_le (se_kb (fm_K v k) (p.length + 1)) j (fun h => absurd h (by omega)) (fun _ => i_GR_kind (by omega) ⟨(fm_K v k).getD j 0 ^^^ 2 ^ p.length, by omega, ?_, pm_im (p ++ [q]) ((fm_K v k).getD j 0), h64b, ?_, j, by omega, rfl, ?_⟩))
      · rw [hfr.2.2 3 (by decide), hu.1.2.2.2.1 j hjK, bi_one _ (by omega), bi_xor _ hm64 _ (by omega)]
      · rw [hfr.2.2 7 (by decide), hi _ hx1, bi_one _ (by omega), bi_or _ himp _ (by omega), hsp]
      · rw [hz3, hnum, hcmp.1]
        refine ⟨fun h1 => ?_, fun h1 => ⟨bo0, ?_⟩⟩
        · refine q_FO_isAsGood_70 hGo ⟨j, by omega, rfl, ?_⟩
          rw [hz3, hcmp.2]
          have next : ∀ (b2 : se_S) (w2 : ma_W), fr [1] [6] w w2 → w2.1 1 7 = bI stop → fb (fm_K v k) b2 w2 → b2.2.2.2 = st.2.2.2 → se_as stop (se_num (fm_K v k) f (p ++ [q])) (List.range' (j + 1) d) (b2.1, b2.2.1, b2.2.2.1) = se_A stop (fm_K v k) f p q st → Go 104 [some (.inr 1), some (.inl (nI p.length)), some (.inl (nI q)), some (.inl (nI (se_kb (fm_K v k) (p.length + 1)))), some (.inl (nI j)), some (.inl (nI (f (pm_im (p ++ [q]) ((fm_K v k).getD j 0)))))] [] w2 := by
            intro b2 w2 a1 a2 a3 a4 a5
            refine q_FO_isAsGood_104 hGo ?_
            rw [nI_add]
            exact ih (j + 1) b2 w2 _ (by omega) (by omega) a1 a2 a3 a4 a5
          have hnn : ¬ se_num (fm_K v k) f (p ++ [q]) j < b.1.getD j 0 := by unfold se_num; omega
          rw [if_neg hnn] at he
          refine ⟨fun h2 => next b w' hfr hs' ⟨hbl, hba, hrest⟩ hls ?_, fun h2 => ⟨bo1, ?_⟩⟩
          · have : ¬ b.1.getD j 0 < se_num (fm_K v k) f (p ++ [q]) j := by unfold se_num; omega
            rw [if_neg this] at he
            exact he
          · have : b.1.getD j 0 < se_num (fm_K v k) f (p ++ [q]) j := by unfold se_num; omega
            rw [if_pos this] at he
            have hfr8 : fr [1] [6] w (ma_up w'.1 1 8 (nI 1), w'.2.1, w'.2.2) := fr_f hfr (by simp) _ _
            have hs8 : ma_up w'.1 1 8 (nI 1) 1 7 = bI stop := by rw [ma_up_k _ _ _ _ (by decide)]; exact hs'
            refine bI_at hs' (fun hst => ?_) (fun hst => ⟨bo0, ?_⟩)
            · subst hst
              refine q_FO_isAsGood_96 hGo (i_FO_makeBest (by omega) (fun w2 g1 g2 g3 g4 g5 => next (se_mk b.1 j (f (pm_im (p ++ [q]) ((fm_K v k).getD j 0)) : Int), 0, true, b.2.2.2) w2 (fr_trans hfr8 g1) (by rw [g3]; exact hs8) ?_ hls ?_))
              · refine fb_mk (w := (ma_up w'.1 1 8 (nI 1), w'.2.1, w'.2.2)) (st := (b.1, b.2.1, true, b.2.2.2)) ⟨hbl, hba, ?_, rfl, hrest.2.2.1, hrest.2.2.2⟩ h20 hjK (hf _) g1 g2 (by rw [g4]; exact rfl) g5
                try dsimp only
                rw [ma_up_k _ _ _ _ (by decide)]
                exact hrest.1
              · rw [if_neg (by decide)] at he
                exact he
            · subst hst
              rw [if_pos rfl] at he
              have h9 := hp (ma_up w'.1 1 8 (nI 1), w'.2.1, w'.2.2) hfr8 hs8
              rw [← he] at h9
              refine h9 ⟨hbl, hba, ?_, rfl, ?_⟩
              · try dsimp only
                rw [ma_up_k _ _ _ _ (by decide)]
                exact hrest.1
              · rw [← hls]; exact hrest.2.2
        · have : se_num (fm_K v k) f (p ++ [q]) j < b.1.getD j 0 := by unfold se_num; omega
          rw [if_pos this] at he
          have h9 := hp w' hfr hs'
          rw [← he, ← hls] at h9
          exact h9 ⟨hbl, hba, hrest⟩
  refine q_FO_isAsGood_0 hGo ?_
  rw [nI_add]
  refine i_GR_firstKindEndingAt (by omega) (i_GR_firstKindEndingAt (by omega) ?_)
  rw [hu.1.2.2.2.2 _ (by omega), hu.1.2.2.2.2 _ (by omega)]
  exact loop (se_kb (fm_K v k) (p.length + 1) - se_kb (fm_K v k) p.length) (se_kb (fm_K v k) p.length) st w _ (by omega) (Nat.le_refl _) (fr_refl _ _ _) hs hb rfl rfl
