/-! THE SEARCH of the Former, as a function, and what it finds -/
/-- a state: the best row so far, how many renamings led to it, whether the first was beaten, the least images -/
abbrev se_S : Type := List Int × Nat × Bool × List Nat
def se_mk (best : List Int) (j : Nat) (x : Int) : List Int := best.take j ++ x :: List.replicate (best.length - (j + 1)) (-1)
theorem se_mk_len {best : List Int} {j : Nat} {x : Int} (h : j < best.length) : (se_mk best j x).length = best.length := by
  simp [se_mk]; omega
theorem se_mk_lt {best : List Int} {j : Nat} {x : Int} (h : j < best.length) {i : Nat} (hi : i < j) : (se_mk best j x).getD i 0 = best.getD i 0 := by
  simp only [se_mk, List.getD_eq_getElem?_getD]
  rw [List.getElem?_append_left (by simp; omega), List.getElem?_take_of_lt hi]
theorem se_mk_at {best : List Int} {j : Nat} {x : Int} (h : j < best.length) : (se_mk best j x).getD j 0 = x := by
  have hl : (best.take j).length = j := by simp; omega
  simp only [se_mk, List.getD_eq_getElem?_getD]
  rw [List.getElem?_append_right (by omega), hl, Nat.sub_self]
  rfl
theorem se_mk_gt {best : List Int} {j : Nat} {x : Int} (h : j < best.length) {i : Nat} (hi : j < i) (hl : i < best.length) : (se_mk best j x).getD i 0 = -1 := by
  have hl2 : (best.take j).length = j := by simp; omega
  simp only [se_mk, List.getD_eq_getElem?_getD]
  rw [List.getElem?_append_right (by omega), hl2, show i - j = (i - j - 1) + 1 by omega, List.getElem?_cons_succ, List.getElem?_replicate_of_lt (by omega)]
  rfl
/-- isAsGood: the kinds numbered js are looked at; num: how often each comes -/
def se_as (stop : Bool) (num : Nat → Int) : List Nat → List Int × Nat × Bool → Bool × List Int × Nat × Bool
  | [], b => (true, b)
  | j :: js, b =>
    if num j < b.1.getD j 0 then (false, b)
    else if b.1.getD j 0 < num j then
      if stop then (false, b.1, b.2.1, true) else se_as stop num js (se_mk b.1 j (num j), 0, true)
    else se_as stop num js b
def se_cnt (p : List Nat) (st : se_S) : se_S := (st.1, st.2.1 + 1, st.2.2.1, (List.range st.2.2.2.length).map (fun i => if i < p.length then min (st.2.2.2.getD i 0) (p.getD i 0) else st.2.2.2.getD i 0))
/-- how many of the kinds K lie within the points before t -/
def se_kb (K : List Nat) (t : Nat) : Nat := K.countP (fun m => decide (m < 2 ^ t))
def se_num (K : List Nat) (f : Nat → Nat) (p : List Nat) (j : Nat) : Int := (f (pm_im p (K.getD j 0)) : Int)
/-- tryPoint and tryPointsFor: p is settled, r is left -/
def se_try (stop : Bool) (K : List Nat) (f : Nat → Nat) (go : List Nat → List Nat → se_S → se_S) (p r : List Nat) (st : se_S) (q : Nat) : se_S :=
  if (st.2.2.1 && stop) = true then st else
    if (se_as stop (se_num K f (p ++ [q])) (List.range' (se_kb K p.length) (se_kb K (p.length + 1) - se_kb K p.length)) (st.1, st.2.1, st.2.2.1)).1 = true then
      go (p ++ [q]) (r.erase q) ((se_as stop (se_num K f (p ++ [q])) (List.range' (se_kb K p.length) (se_kb K (p.length + 1) - se_kb K p.length)) (st.1, st.2.1, st.2.2.1)).2.1, (se_as stop (se_num K f (p ++ [q])) (List.range' (se_kb K p.length) (se_kb K (p.length + 1) - se_kb K p.length)) (st.1, st.2.1, st.2.2.1)).2.2.1, (se_as stop (se_num K f (p ++ [q])) (List.range' (se_kb K p.length) (se_kb K (p.length + 1) - se_kb K p.length)) (st.1, st.2.1, st.2.2.1)).2.2.2, st.2.2.2)
    else ((se_as stop (se_num K f (p ++ [q])) (List.range' (se_kb K p.length) (se_kb K (p.length + 1) - se_kb K p.length)) (st.1, st.2.1, st.2.2.1)).2.1, (se_as stop (se_num K f (p ++ [q])) (List.range' (se_kb K p.length) (se_kb K (p.length + 1) - se_kb K p.length)) (st.1, st.2.1, st.2.2.1)).2.2.1, (se_as stop (se_num K f (p ++ [q])) (List.range' (se_kb K p.length) (se_kb K (p.length + 1) - se_kb K p.length)) (st.1, st.2.1, st.2.2.1)).2.2.2, st.2.2.2)
def se_all (stop : Bool) (K : List Nat) (f : Nat → Nat) : Nat → List Nat → List Nat → se_S → se_S
  | 0, p, _, st => se_cnt p st
  | n + 1, p, r, st => r.foldl (se_try stop K f (se_all stop K f n) p r) st
/-! what isAsGood answers -/
theorem se_as_more {num : Nat → Int} (hnum : ∀ j, 0 ≤ num j) (n b : Nat) : ∀ (k a : Nat) (best : List Int) (cnt : Nat) (bt : Bool), a + k = b → b ≤ n → best.length = n → (∀ i, i < a → best.getD i 0 = num i) → (∀ i, a ≤ i → i < n → best.getD i 0 = -1) → (k = 0 → cnt = 0 ∧ bt = true) →
    ∃ best1, se_as false num (List.range' a k) (best, cnt, bt) = (true, best1, 0, true) ∧ best1.length = n ∧ (∀ i, i < b → best1.getD i 0 = num i) ∧ ∀ i, b ≤ i → i < n → best1.getD i 0 = -1
  | 0, a, best, cnt, bt, h, hb, hl, h1, h2, h0 => by
    obtain ⟨rfl, rfl⟩ := h0 rfl
    refine ⟨best, by simp [se_as], hl, ?_, ?_⟩
    · intro i hi; exact h1 i (by omega)
    · intro i hi; exact h2 i (by omega)
  | k + 1, a, best, cnt, bt, h, hb, hl, h1, h2, h0 => by
    have ha : best.getD a 0 = -1 := h2 a (Nat.le_refl _) (by omega)
    have hn := hnum a
    have hlt : a < best.length := by omega
    obtain ⟨best1, e, r⟩ := se_as_more hnum n b k (a + 1) (se_mk best a (num a)) 0 true (by omega) hb (by rw [se_mk_len hlt]; exact hl) (fun i hi => by
      by_cases hia : i = a
      · subst hia; exact se_mk_at hlt
      · rw [se_mk_lt hlt (by omega)]; exact h1 i (by omega)) (fun i hi hi2 => se_mk_gt hlt (by omega) (by omega)) (fun _ => ⟨rfl, rfl⟩)
    refine ⟨best1, ?_, r⟩
    rw [List.range'_succ, se_as, if_neg (by rw [ha]; omega), if_pos (by rw [ha]; omega)]
    exact e
theorem se_as_spec {num : Nat → Int} (hnum : ∀ j, 0 ≤ num j) (stop : Bool) (n b : Nat) : ∀ (k a : Nat) (best : List Int) (cnt : Nat) (bt : Bool), a + k = b → b ≤ n → best.length = n → (∀ i, i < a → best.getD i 0 = num i) →
    ((∃ j, j < b ∧ (∀ i, i < j → best.getD i 0 = num i) ∧ num j < best.getD j 0) ∧ se_as stop num (List.range' a k) (best, cnt, bt) = (false, best, cnt, bt)) ∨
    ((∀ i, i < b → best.getD i 0 = num i) ∧ se_as stop num (List.range' a k) (best, cnt, bt) = (true, best, cnt, bt)) ∨
    ((∃ j, j < b ∧ (∀ i, i < j → best.getD i 0 = num i) ∧ best.getD j 0 < num j) ∧ ((stop = true ∧ se_as stop num (List.range' a k) (best, cnt, bt) = (false, best, cnt, true)) ∨
      (stop = false ∧ ∃ best1, se_as stop num (List.range' a k) (best, cnt, bt) = (true, best1, 0, true) ∧ best1.length = n ∧ (∀ i, i < b → best1.getD i 0 = num i) ∧ ∀ i, b ≤ i → i < n → best1.getD i 0 = -1)))
  | 0, a, best, cnt, bt, h, hb, hl, h1 => by
    right; left
    exact ⟨fun i hi => h1 i (by omega), by simp [se_as]⟩
  | k + 1, a, best, cnt, bt, h, hb, hl, h1 => by
    have hlt : a < best.length := by omega
    rw [List.range'_succ, se_as]
    by_cases c1 : num a < best.getD a 0
    · left
      exact ⟨⟨a, by omega, h1, c1⟩, by rw [if_pos c1]⟩
    · by_cases c2 : best.getD a 0 < num a
      · right; right
        refine ⟨⟨a, by omega, h1, c2⟩, ?_⟩
        rw [if_neg c1, if_pos c2]
        cases stop with
        | true => left; exact ⟨rfl, by simp⟩
        | false =>
          right
          refine ⟨rfl, ?_⟩
          obtain ⟨best1, e, r⟩ := se_as_more hnum n b k (a + 1) (se_mk best a (num a)) 0 true (by omega) hb (by rw [se_mk_len hlt]; exact hl) (fun i hi => by
            by_cases hia : i = a
            · subst hia; exact se_mk_at hlt
            · rw [se_mk_lt hlt (by omega)]; exact h1 i (by omega)) (fun i hi hi2 => se_mk_gt hlt (by omega) (by omega)) (fun _ => ⟨rfl, rfl⟩)
          exact ⟨best1, by simpa using e, r⟩
      · have e := se_as_spec hnum stop n b k (a + 1) best cnt bt (by omega) hb hl (fun i hi => by
          by_cases hia : i = a
          · subst hia; omega
          · exact h1 i (by omega))
        rw [if_neg c1, if_neg c2]
        exact e
/-- two rows: at the first place where they differ -/
theorem lx_at : ∀ (j : Nat) (a b : List Int), a.length = b.length → (∀ i, i < j → a.getD i 0 = b.getD i 0) → j < a.length → b.getD j 0 < a.getD j 0 → lx_gt a b = true
  | _, [], _, _, _, h, _ => by simp at h
  | _, _ :: _, [], hl, _, _, _ => by simp at hl
  | 0, x :: a, y :: b, _, _, _, h => by
    have : y < x := by simpa using h
    simp [lx_gt, this]
  | j + 1, x :: a, y :: b, hl, he, hj, h => by
    have h0 : x = y := by simpa using he 0 (by omega)
    have := lx_at j a b (by simpa using hl) (fun i hi => by simpa using he (i + 1) (by omega)) (by simpa using hj) (by simpa using h)
    simp [lx_gt, h0, this]
theorem lx_ext {a b : List Int} (hl : a.length = b.length) (h : ∀ i, i < a.length → a.getD i 0 = b.getD i 0) : a = b := by
  apply List.ext_getElem hl
  intro i h1 h2
  have := h i h1
  simpa [List.getD_eq_getElem?_getD, List.getElem?_eq_getElem h1, List.getElem?_eq_getElem h2] using this
/-! the leaves below p -/
def se_lv (n : Nat) (p r : List Nat) : List (List Nat) := (pm_all n r).map (fun t => p ++ t)
theorem se_lv_succ (n : Nat) (p r : List Nat) : se_lv (n + 1) p r = r.flatMap (fun q => se_lv n (p ++ [q]) (r.erase q)) := by
  simp only [se_lv, pm_all, List.map_flatMap, List.map_map]
  congr 1
  funext q
  apply List.map_congr_left
  intro t _
  simp
theorem se_lv_ne (n : Nat) (p r : List Nat) (h : r.length = n) : ∃ t l, se_lv n p r = t :: l := by
  have : r ∈ pm_all n r := (pm_mem n r h r).mpr (List.Perm.refl _)
  cases hl : se_lv n p r with
  | nil =>
    have : p ++ r ∈ se_lv n p r := List.mem_map.mpr ⟨r, this, rfl⟩
    rw [hl] at this
    cases this
  | cons t l => exact ⟨t, l, rfl⟩
theorem pm_im_app {p s : List Nat} {m : Nat} (h : m < 2 ^ p.length) : pm_im (p ++ s) m = pm_im p m := by
  apply Nat.eq_of_testBit_eq
  intro y
  rw [Bool.eq_iff_iff, pm_im_bit, pm_im_bit]
  constructor
  · rintro ⟨k, hk, h1, e⟩
    have hk2 := pm_lt_of_bit h h1
    refine ⟨k, hk2, h1, ?_⟩
    rw [← e, List.getD_eq_getElem?_getD, List.getD_eq_getElem?_getD, List.getElem?_append_left hk2]
  · rintro ⟨k, hk, h1, e⟩
    refine ⟨k, by rw [List.length_append]; omega, h1, ?_⟩
    rw [← e, List.getD_eq_getElem?_getD, List.getD_eq_getElem?_getD, List.getElem?_append_left hk]
theorem lx_none {β : Type} (R : β → List Int) (st : List Int × Nat) : ∀ (l : List β), (∀ t ∈ l, lx_gt st.1 (R t) = true) → l.foldl (lx_step R) st = st
  | [], _ => rfl
  | t :: l, h => by
    have h1 := h t List.mem_cons_self
    have e : lx_step R st t = st := by
      unfold lx_step
      rw [if_neg (by rw [lx_asym h1]; decide), if_neg (fun q => by rw [q, lx_irr] at h1; cases h1)]
    rw [List.foldl_cons, e]
    exact lx_none R st l (fun u hu => h u (List.mem_cons_of_mem _ hu))
section SE
variable {K : List Nat} {f : Nat → Nat} {v n : Nat}
theorem se_num_pos (p : List Nat) (j : Nat) : 0 ≤ se_num K f p j := Int.natCast_nonneg _
theorem se_row_at {p : List Nat} {j : Nat} (h : j < K.length) : (fm_row K f p).getD j 0 = se_num K f p j := by
  simp [fm_row, se_num, List.getD_eq_getElem?_getD, List.getElem?_map, List.getElem?_eq_getElem h]
theorem se_kb_le (t : Nat) : se_kb K t ≤ K.length := List.countP_le_length
theorem se_kb_mono {t u : Nat} (h : t ≤ u) : se_kb K t ≤ se_kb K u := by
  apply List.countP_mono_left
  intro m _ hm
  simp only [decide_eq_true_eq] at hm ⊢
  exact Nat.lt_of_lt_of_le hm (Nat.pow_le_pow_right (by decide) h)
/-- the kinds lie in order: those before place se_kb K t lie within the points before t -/
def se_srt (K : List Nat) : Prop := ∀ t j, j < se_kb K t → K.getD j 0 < 2 ^ t
theorem se_num_app (hK : se_srt K) {p s : List Nat} {j : Nat} (h : j < se_kb K p.length) : se_num K f (p ++ s) j = se_num K f p j := by
  unfold se_num
  rw [pm_im_app (hK _ _ h)]
theorem se_leaf {k : Nat} {p r t : List Nat} (h : t ∈ se_lv k p r) : ∃ s, t = p ++ s := by
  obtain ⟨s, -, rfl⟩ := List.mem_map.mp h
  exact ⟨s, rfl⟩
/-- the whole search finds the greatest row and how many renamings lead to it -/
theorem se_free (hK : se_srt K) (hv : se_kb K v = K.length) : ∀ (k : Nat) (p r : List Nat) (st : se_S), r.length = k → p.length + k = v → st.1.length = K.length → (∀ i, i < se_kb K p.length → st.1.getD i 0 = se_num K f p i) →
    ((se_all false K f k p r st).1, (se_all false K f k p r st).2.1) = (se_lv k p r).foldl (lx_step (fm_row K f)) (st.1, st.2.1)
  | 0, p, r, st, hr, hp, hl, hb => by
    obtain rfl : r = [] := List.eq_nil_of_length_eq_zero hr
    have e : fm_row K f p = st.1 := by
      refine lx_ext (by rw [fm_row_len, hl]) (fun i hi => ?_)
      rw [fm_row_len] at hi
      rw [se_row_at hi]
      exact (hb i (by rw [show p.length = v by omega, hv]; exact hi)).symm
    simp [se_all, se_cnt, se_lv, pm_all, lx_step, e, lx_irr]
  | k + 1, p, r, st, hr, hp, hl, hb => by
    have key : ∀ (qs : List Nat), (∀ q ∈ qs, q ∈ r) → ∀ st : se_S, st.1.length = K.length → (∀ i, i < se_kb K p.length → st.1.getD i 0 = se_num K f p i) →
        ((qs.foldl (se_try false K f (se_all false K f k) p r) st).1, (qs.foldl (se_try false K f (se_all false K f k) p r) st).2.1) = (qs.flatMap (fun q => se_lv k (p ++ [q]) (r.erase q))).foldl (lx_step (fm_row K f)) (st.1, st.2.1) := by
      intro qs
      induction qs with
      | nil => intro _ st _ _; rfl
      | cons q qs ih =>
        intro hq st hl hb
        have hqr := hq q List.mem_cons_self
        have hrl : (r.erase q).length = k := by rw [List.length_erase_of_mem hqr]; omega
        have hpl : (p ++ [q]).length = p.length + 1 := by simp
        rw [List.foldl_cons, List.flatMap_cons, List.foldl_append]
        have hleaf : ∀ t ∈ se_lv k (p ++ [q]) (r.erase q), ∀ i, i < se_kb K (p.length + 1) → (fm_row K f t).getD i 0 = se_num K f (p ++ [q]) i := by
          intro t ht i hi
          obtain ⟨s, rfl⟩ := se_leaf ht
          rw [se_row_at (Nat.lt_of_lt_of_le hi (se_kb_le _)), se_num_app hK (by rw [hpl]; exact hi)]
        have hpre : ∀ i, i < se_kb K p.length → st.1.getD i 0 = se_num K f (p ++ [q]) i := by
          intro i hi
          rw [hb i hi, se_num_app hK hi]
        -- what the one point does
        have one : ((se_try false K f (se_all false K f k) p r st q).1, (se_try false K f (se_all false K f k) p r st q).2.1) = (se_lv k (p ++ [q]) (r.erase q)).foldl (lx_step (fm_row K f)) (st.1, st.2.1) := by
          have hspec := se_as_spec (se_num_pos (K := K) (f := f) (p ++ [q])) false K.length (se_kb K (p.length + 1)) (se_kb K (p.length + 1) - se_kb K p.length) (se_kb K p.length) st.1 st.2.1 st.2.2.1 (by have := se_kb_mono (K := K) (show p.length ≤ p.length + 1 by omega); omega) (se_kb_le _) hl hpre
          unfold se_try
          rw [if_neg (by simp)]
          rcases hspec with ⟨⟨j, hj, h1, h2⟩, e⟩ | ⟨h1, e⟩ | ⟨⟨j, hj, h1, h2⟩, ⟨h3, -⟩ | ⟨-, best1, e, h3, h4, h5⟩⟩
          · rw [e]
            simp only [Bool.false_eq_true, if_false]
            refine (lx_none _ _ _ (fun t ht => ?_)).symm
            refine lx_at j _ _ (by rw [hl, fm_row_len]) (fun i hi => ?_) (by rw [hl]; exact Nat.lt_of_lt_of_le hj (se_kb_le _)) ?_
            · rw [h1 i hi, hleaf t ht i (by omega)]
            · rw [hleaf t ht j hj]; exact h2
          · rw [e]
            simp only [if_true]
            exact se_free hK hv k (p ++ [q]) (r.erase q) _ hrl (by rw [hpl]; omega) hl (fun i hi => by rw [hpl] at hi; exact h1 i hi)
          · cases h3
          · rw [e]
            simp only [if_true]
            rw [se_free hK hv k (p ++ [q]) (r.erase q) _ hrl (by rw [hpl]; omega) h3 (fun i hi => by rw [hpl] at hi; exact h4 i hi)]
            obtain ⟨t, lv, hlv⟩ := se_lv_ne k (p ++ [q]) (r.erase q) hrl
            rw [hlv, List.foldl_cons, List.foldl_cons]
            have ht : t ∈ se_lv k (p ++ [q]) (r.erase q) := by rw [hlv]; exact List.mem_cons_self
            have e1 : lx_step (fm_row K f) (st.1, st.2.1) t = (fm_row K f t, 1) := by
              have : lx_gt (fm_row K f t) st.1 = true := lx_at j _ _ (by rw [hl, fm_row_len]) (fun i hi => by rw [h1 i hi, hleaf t ht i (by omega)]) (by rw [fm_row_len]; exact Nat.lt_of_lt_of_le hj (se_kb_le _)) (by rw [hleaf t ht j hj]; exact h2)
              simp [lx_step, this]
            have e2 : lx_step (fm_row K f) (best1, 0) t = (fm_row K f t, 1) := by
              by_cases hn : se_kb K (p.length + 1) < K.length
              · have : lx_gt (fm_row K f t) best1 = true := lx_at (se_kb K (p.length + 1)) _ _ (by rw [h3, fm_row_len]) (fun i hi => by rw [h4 i hi, hleaf t ht i hi]) (by rw [fm_row_len]; exact hn) (by
                  rw [h5 _ (Nat.le_refl _) hn, se_row_at hn]
                  have := se_num_pos (K := K) (f := f) t (se_kb K (p.length + 1))
                  omega)
                simp [lx_step, this]
              · have : fm_row K f t = best1 := lx_ext (by rw [h3, fm_row_len]) (fun i hi => by
                  rw [fm_row_len] at hi
                  have hle := se_kb_le (K := K) (p.length + 1)
                  rw [hleaf t ht i (by omega), h4 i (by omega)])
                simp [lx_step, this, lx_irr]
            rw [e1, e2]
        -- and what is left
        have hfold := lx_fold (fm_row K f) K.length (fun t => fm_row_len) (se_lv k (p ++ [q]) (r.erase q)) (st.1, st.2.1) hl
        have e1 : (se_try false K f (se_all false K f k) p r st q).1 = ((se_lv k (p ++ [q]) (r.erase q)).foldl (lx_step (fm_row K f)) (st.1, st.2.1)).1 := congrArg Prod.fst one
        rw [← one]
        refine ih (fun x hx => hq x (List.mem_cons_of_mem _ hx)) _ (by rw [e1]; exact hfold.1) (fun i hi => ?_)
        rw [e1]
        rcases hfold.2.2.2.1 with h1 | ⟨t, ht, h1⟩
        · rw [h1]; exact hb i hi
        · rw [← h1, hleaf t ht i (Nat.lt_of_lt_of_le hi (se_kb_mono (Nat.le_succ _))), se_num_app hK hi]
    rw [se_lv_succ]
    exact key r (fun q h => h) st hl hb
/-- the least images behind one more renaming -/
def se_min (p ls : List Nat) : List Nat := (List.range ls.length).map (fun i => if i < p.length then min (ls.getD i 0) (p.getD i 0) else ls.getD i 0)
theorem se_min_len {p ls : List Nat} : (se_min p ls).length = ls.length := by simp [se_min]
theorem se_min_at {p ls : List Nat} {i : Nat} (hi : i < ls.length) (hp : i < p.length) : (se_min p ls).getD i 0 = min (ls.getD i 0) (p.getD i 0) := by
  simp [se_min, List.getD_eq_getElem?_getD, List.getElem?_map, List.getElem?_range hi, hp]
theorem se_beaten {go : List Nat → List Nat → se_S → se_S} {p r : List Nat} : ∀ (qs : List Nat) (st : se_S), st.2.2.1 = true → qs.foldl (se_try true K f go p r) st = st
  | [], _, _ => rfl
  | q :: qs, st, h => by
    have e : se_try true K f go p r st q = st := by simp [se_try, h]
    rw [List.foldl_cons, e]
    exact se_beaten qs st h
/-- the search that stops when it is beaten -/
theorem se_stop (hK : se_srt K) (hv : se_kb K v = K.length) : ∀ (k : Nat) (p r : List Nat) (st : se_S), r.length = k → p.length + k = v → st.1.length = K.length → (∀ i, i < se_kb K p.length → st.1.getD i 0 = se_num K f p i) → st.2.2.1 = false →
    (se_all true K f k p r st).2.2.1 = (se_lv k p r).any (fun t => lx_gt (fm_row K f t) st.1) ∧
    ((se_all true K f k p r st).2.2.1 = false → se_all true K f k p r st = (st.1, st.2.1 + (se_lv k p r).countP (fun t => fm_row K f t == st.1), false, ((se_lv k p r).filter (fun t => fm_row K f t == st.1)).foldl (fun ls t => se_min t ls) st.2.2.2))
  | 0, p, r, st, hr, hp, hl, hb, hbt => by
    obtain rfl : r = [] := List.eq_nil_of_length_eq_zero hr
    have e : fm_row K f p = st.1 := by
      refine lx_ext (by rw [fm_row_len, hl]) (fun i hi => ?_)
      rw [fm_row_len] at hi
      rw [se_row_at hi]
      exact (hb i (by rw [show p.length = v by omega, hv]; exact hi)).symm
    simp [se_all, se_cnt, se_lv, pm_all, e, lx_irr, hbt, se_min]
  | k + 1, p, r, st, hr, hp, hl, hb, hbt => by
    have key : ∀ (qs : List Nat), (∀ q ∈ qs, q ∈ r) → ∀ st : se_S, st.1.length = K.length → (∀ i, i < se_kb K p.length → st.1.getD i 0 = se_num K f p i) → st.2.2.1 = false →
        (qs.foldl (se_try true K f (se_all true K f k) p r) st).2.2.1 = (qs.flatMap (fun q => se_lv k (p ++ [q]) (r.erase q))).any (fun t => lx_gt (fm_row K f t) st.1) ∧
        ((qs.foldl (se_try true K f (se_all true K f k) p r) st).2.2.1 = false → qs.foldl (se_try true K f (se_all true K f k) p r) st = (st.1, st.2.1 + (qs.flatMap (fun q => se_lv k (p ++ [q]) (r.erase q))).countP (fun t => fm_row K f t == st.1), false, ((qs.flatMap (fun q => se_lv k (p ++ [q]) (r.erase q))).filter (fun t => fm_row K f t == st.1)).foldl (fun ls t => se_min t ls) st.2.2.2)) := by
      intro qs
      induction qs with
      | nil =>
        intro _ st _ _ hbt
        obtain ⟨b1, c1, t1, l1⟩ := st
        dsimp only at hbt
        subst hbt
        simp
      | cons q qs ih =>
        intro hq st hl hb hbt
        have hqr := hq q List.mem_cons_self
        have hrl : (r.erase q).length = k := by rw [List.length_erase_of_mem hqr]; omega
        have hpl : (p ++ [q]).length = p.length + 1 := by simp
        rw [List.foldl_cons, List.flatMap_cons, List.any_append, List.countP_append, List.filter_append, List.foldl_append]
        have hleaf : ∀ t ∈ se_lv k (p ++ [q]) (r.erase q), ∀ i, i < se_kb K (p.length + 1) → (fm_row K f t).getD i 0 = se_num K f (p ++ [q]) i := by
          intro t ht i hi
          obtain ⟨s, rfl⟩ := se_leaf ht
          rw [se_row_at (Nat.lt_of_lt_of_le hi (se_kb_le _)), se_num_app hK (by rw [hpl]; exact hi)]
        have hpre : ∀ i, i < se_kb K p.length → st.1.getD i 0 = se_num K f (p ++ [q]) i := by
          intro i hi
          rw [hb i hi, se_num_app hK hi]
        have one : (se_try true K f (se_all true K f k) p r st q).2.2.1 = (se_lv k (p ++ [q]) (r.erase q)).any (fun t => lx_gt (fm_row K f t) st.1) ∧
            ((se_try true K f (se_all true K f k) p r st q).2.2.1 = false → se_try true K f (se_all true K f k) p r st q = (st.1, st.2.1 + (se_lv k (p ++ [q]) (r.erase q)).countP (fun t => fm_row K f t == st.1), false, ((se_lv k (p ++ [q]) (r.erase q)).filter (fun t => fm_row K f t == st.1)).foldl (fun ls t => se_min t ls) st.2.2.2)) := by
          have hspec := se_as_spec (se_num_pos (K := K) (f := f) (p ++ [q])) true K.length (se_kb K (p.length + 1)) (se_kb K (p.length + 1) - se_kb K p.length) (se_kb K p.length) st.1 st.2.1 st.2.2.1 (by have := se_kb_mono (K := K) (show p.length ≤ p.length + 1 by omega); omega) (se_kb_le _) hl hpre
          unfold se_try
          rw [if_neg (by rw [hbt]; decide)]
          rcases hspec with ⟨⟨j, hj, h1, h2⟩, e⟩ | ⟨h1, e⟩ | ⟨⟨j, hj, h1, h2⟩, ⟨-, e⟩ | ⟨h3, -⟩⟩
          · rw [e]
            simp only [Bool.false_eq_true, if_false]
            have hgt : ∀ t ∈ se_lv k (p ++ [q]) (r.erase q), lx_gt st.1 (fm_row K f t) = true := by
              intro t ht
              refine lx_at j _ _ (by rw [hl, fm_row_len]) (fun i hi => ?_) (by rw [hl]; exact Nat.lt_of_lt_of_le hj (se_kb_le _)) ?_
              · rw [h1 i hi, hleaf t ht i (by omega)]
              · rw [hleaf t ht j hj]; exact h2
            have hany : (se_lv k (p ++ [q]) (r.erase q)).any (fun t => lx_gt (fm_row K f t) st.1) = false := by
              rw [List.any_eq_false]
              intro t ht
              rw [lx_asym (hgt t ht)]; decide
            have hne : ∀ t ∈ se_lv k (p ++ [q]) (r.erase q), ¬ (fm_row K f t == st.1) = true := by
              intro t ht q
              have := hgt t ht
              rw [beq_iff_eq.mp q, lx_irr] at this
              cases this
            rw [hany, List.countP_eq_zero.mpr hne, List.filter_eq_nil_iff.mpr hne]
            refine ⟨hbt, fun _ => ?_⟩
            rw [hbt]
            rfl
          · rw [e]
            simp only [if_true]
            exact se_stop hK hv k (p ++ [q]) (r.erase q) (st.1, st.2.1, st.2.2.1, st.2.2.2) hrl (by rw [hpl]; omega) hl (fun i hi => by rw [hpl] at hi; exact h1 i hi) hbt
          · rw [e]
            simp only [Bool.false_eq_true, if_false]
            refine ⟨?_, fun h => by cases h⟩
            obtain ⟨t, lv, hlv⟩ := se_lv_ne k (p ++ [q]) (r.erase q) hrl
            have ht : t ∈ se_lv k (p ++ [q]) (r.erase q) := by rw [hlv]; exact List.mem_cons_self
            have : lx_gt (fm_row K f t) st.1 = true := lx_at j _ _ (by rw [hl, fm_row_len]) (fun i hi => by rw [h1 i hi, hleaf t ht i (by omega)]) (by rw [fm_row_len]; exact Nat.lt_of_lt_of_le hj (se_kb_le _)) (by rw [hleaf t ht j hj]; exact h2)
            exact (List.any_eq_true.mpr ⟨t, ht, this⟩).symm
          · cases h3
        cases hb1 : (se_try true K f (se_all true K f k) p r st q).2.2.1 with
        | true =>
          rw [se_beaten qs _ hb1, ← one.1, hb1]
          refine ⟨by simp, fun h => by cases h⟩
        | false =>
          have e1 := one.2 hb1
          rw [← one.1, hb1, Bool.false_or]
          rw [e1]
          have := ih (fun x hx => hq x (List.mem_cons_of_mem _ hx)) (st.1, st.2.1 + (se_lv k (p ++ [q]) (r.erase q)).countP (fun t => fm_row K f t == st.1), false, ((se_lv k (p ++ [q]) (r.erase q)).filter (fun t => fm_row K f t == st.1)).foldl (fun ls t => se_min t ls) st.2.2.2) hl hb rfl
          rw [Nat.add_assoc] at this
          exact this
    rw [se_lv_succ]
    exact key r (fun q h => h) st hl hb hbt
end SE
/-- what the two searches find from the start -/
theorem se_root {v : Nat} : se_lv v [] (List.range v) = pm_P v := by simp [se_lv, pm_P]
