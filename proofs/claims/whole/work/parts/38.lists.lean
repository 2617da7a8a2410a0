/-! CONTRACTS: PackingCensus, what it does with its lists -/
/-- a listing holds the entries es, with their orders and least images -/
def ls (v k : Nat) (w : ma_W) (p n : Nat) (es : List (List Nat)) : Prop := es.length ≤ 60 ∧ n ≤ 10 ∧ w.1 p 3 = nI n ∧ w.1 p 4 = nI es.length ∧ ∀ i, i < es.length → (es.getD i []).length = n ∧ (∀ x ∈ es.getD i [], x ∈ fm_K v k) ∧ le_ w p i (es.getD i []) ∧ w.2.2 (p + 2) i = nI (ce_ord v k (es.getD i [])) ∧ ∀ x, x < v → w.2.2 (p + 3) (i * 6 + x) = nI (sp_orb v k (es.getD i []) x)
theorem ls_fr {v k p n : Nat} {es : List (List Nat)} {ps qs : List Nat} {w w' : ma_W} (h : ls v k w p n es) (hf : fr ps qs w w') (h0 : p ∉ ps) (h1 : p + 1 ∉ qs) (h2 : p + 2 ∉ qs) (h3 : p + 3 ∉ qs) : ls v k w' p n es := by
  unfold ls le_
  rw [hf.2.1 p h0, hf.2.2 _ h1, hf.2.2 _ h2, hf.2.2 _ h3]
  exact h
/-- which listing is which -/
def xr (w : ma_W) : Prop := w.2.1 = (16, 20) ∨ w.2.1 = (20, 16)
theorem xr_1 {w : ma_W} (h : xr w) : zL w.2.1.1 := by rcases h with h | h <;> rw [h] <;> simp [zL]
theorem xr_2 {w : ma_W} (h : xr w) : zL w.2.1.2 := by rcases h with h | h <;> rw [h] <;> simp [zL]
theorem xr_ne {w : ma_W} (h : xr w) : w.2.1.1 + 4 ≤ w.2.1.2 ∨ w.2.1.2 + 4 ≤ w.2.1.1 := by rcases h with h | h <;> rw [h] <;> decide
theorem xr_fr {ps qs : List Nat} {w w' : ma_W} (h : xr w) (hf : fr ps qs w w') : xr w' := by
  unfold xr
  rw [hf.1]
  exact h
theorem K64 {v k : Nat} (hv : vk v k) {e : List Nat} (h : ∀ x ∈ e, x ∈ fm_K v k) : ∀ x ∈ e, x < 64 := fun x hx => vk_64 hv (h x hx)
/-- all pairs p < q < v -/
def al (v : Nat) (F : Nat → Nat → Bool) : Bool := (List.range v).all (fun q => (List.range q).all (fun p => F p q))
theorem al_t {v : Nat} {F : Nat → Nat → Bool} (h : ∀ q, q < v → ∀ p, p < q → F p q = true) : al v F = true := by
  simp only [al, List.all_eq_true, List.mem_range]
  exact h
theorem al_f {v : Nat} {F : Nat → Nat → Bool} {p q : Nat} (hq : q < v) (hp : p < q) (h : F p q = false) : al v F = false := by
  cases ha : al v F with
  | false => rfl
  | true =>
    simp only [al, List.all_eq_true, List.mem_range] at ha
    rw [ha q hq p hp] at h
    cases h
theorem al_iff {v : Nat} {F : Nat → Nat → Bool} : al v F = true ↔ ∀ q, q < v → ∀ p, p < q → F p q = true := by simp only [al, List.all_eq_true, List.mem_range]
/-- two points as they are written them -/
theorem pr_e {p q : Nat} (hp : p < 6) (hq : q < 6) : (nI 1 <<< (nI p &&& 31)) ||| (nI 1 <<< (nI q &&& 31)) = nI (2 ^ p ||| 2 ^ q) := by
  have h1 : 2 ^ p ≤ 2 ^ 5 := Nat.pow_le_pow_right (by decide) (by omega)
  have h2 : 2 ^ q ≤ 2 ^ 5 := Nat.pow_le_pow_right (by decide) (by omega)
  rw [bi_one p (by omega), bi_one q (by omega), bi_or _ (by omega) _ (by omega)]
/-- how many blocks hold two points -/
theorem meet_e {e : List Nat} {p q : Nat} (hp : p < 6) (hq : q < 6) (he : ∀ x ∈ e, x < 64) : e.countP (fun b => b &&& (2 ^ p ||| 2 ^ q) == (2 ^ p ||| 2 ^ q)) = ce_meet e p q := by
  unfold ce_meet
  refine List.countP_congr (fun b hb => ?_)
  rw [beq_iff_eq]
  exact bi_pair b (he b hb) p hp q hq
/-- the entry i, as the contracts want it -/
theorem ls_at {v k p n i : Nat} {es : List (List Nat)} {w : ma_W} (hv : vk v k) (h : ls v k w p n es) (hi : i < es.length) : i < 60 ∧ (es.getD i []).length ≤ 10 ∧ w.1 p 3 = nI (es.getD i []).length ∧ le_ w p i (es.getD i []) ∧ ∀ x ∈ es.getD i [], x < 64 := by
  obtain ⟨h1, h2, h3, h4, h5⟩ := h
  obtain ⟨g1, g2, g3, -, -⟩ := h5 i hi
  exact ⟨by omega, by omega, by rw [g1]; exact h3, g3, K64 hv g2⟩
theorem cm_le (e : List Nat) (p q : Nat) : ce_meet e p q ≤ e.length := List.countP_le_length
/-- one block more stays a packing: as it is looked at -/
def sto (v lam : Nat) (e : List Nat) (m : Nat) : Bool := al v (fun p q => !(m.testBit p && m.testBit q) || decide (ce_meet e p q < lam))
def T_PC_staysPacking : ma_T := fun as w post => ∃ v k n lam i m es, as = [.inr 0, .inl (nI i), .inl (nI m)] ∧ vk v k ∧ xr w ∧ ls v k w w.2.1.1 n es ∧ i < es.length ∧ m < 64 ∧ w.1 2 2 = nI v ∧ w.1 0 7 = nI lam ∧ lam < 2 ^ 31 ∧ post (bI (sto v lam (es.getD i []) m)) w
theorem i_PC_staysPacking {v k n lam i m : Nat} {es : List (List Nat)} {w : ma_W} {post : ma_P} (hv : vk v k) (hx : xr w) (hl : ls v k w w.2.1.1 n es) (hi : i < es.length) (hm : m < 64) (h2 : w.1 2 2 = nI v) (h7 : w.1 0 7 = nI lam) (hlam : lam < 2 ^ 31) (hp : post (bI (sto v lam (es.getD i []) m)) w) : T_PC_staysPacking [.inr 0, .inl (nI i), .inl (nI m)] w post := ⟨v, k, n, lam, i, m, es, rfl, hv, hx, hl, hi, hm, h2, h7, hlam, hp⟩
theorem c_PC_staysPacking {l : Launch} : ma_Met l y_PC_staysPacking (w_PC_staysPacking :: zw_t) 2 true T_PC_staysPacking := by
  refine z_PC_staysPacking c_GR_points (by decide) c_LI_blocksHolding (by decide) (by rintro as w post ⟨v, k, n, lam, i, m, es, rfl, -⟩; simp) ?_
  rintro as w post ⟨v, k, n, lam, i, m, es, rfl, hv, hx, hl, hi, hm, h2, h7, hlam, hp⟩ Go hGo
  have hv6 := hv.2.1
  obtain ⟨hi60, he10, he3, hle, he64⟩ := ls_at hv hl hi
  have hz := xr_1 hx
  have loop : ∀ (d q : Nat) (o4 o5 : Option ma_V), q + d = v → (∀ b, b < q → ∀ a, a < b → (!(m.testBit a && m.testBit b) || decide (ce_meet (es.getD i []) a b < lam)) = true) → Go 2 [some (.inr 0), some (.inl (nI i)), some (.inl (nI m)), some (.inl (nI q)), o4, o5] [] w := by
    intro d
    induction d with
    | zero =>
      intro q o4 o5 hd hall
      refine q_PC_staysPacking_2 hGo (i_GR_points (pk_le v q (fun _ => q_PC_staysPacking_72 hGo ⟨bo1, ?_⟩) (fun h => absurd h (by omega)) h2 rfl (by omega) (by omega)))
      have : sto v lam (es.getD i []) m = true := al_t (fun b hb a ha => hall b (by omega) a ha)
      rw [this] at hp
      exact hp
    | succ d ih =>
      intro q o4 o5 hd hall
      have inner : ∀ (c p : Nat) (o5 : Option ma_V), p + c = q → (∀ a, a < p → (!(m.testBit a && m.testBit q) || decide (ce_meet (es.getD i []) a q < lam)) = true) → Go 16 [some (.inr 0), some (.inl (nI i)), some (.inl (nI m)), some (.inl (nI q)), some (.inl (nI p)), o5] [] w := by
        intro c
        induction c with
        | zero =>
          intro p o5 hc hin
          refine q_PC_staysPacking_16 hGo (pk_le q p (fun _ => q_PC_staysPacking_66 hGo ?_) (fun h => absurd h (by omega)))
          rw [nI_add]
          refine ih (q + 1) _ _ (by omega) (fun b hb a ha => ?_)
          by_cases hbq : b = q
          · subst hbq; exact hin a (by omega)
          · exact hall b (by omega) a ha
        | succ c ihc =>
          intro p o5 hc hin
          have hp6 : p < 6 := by omega
          have hq6 : q < 6 := by omega
          have hsw := sw_lt p hp6 q hq6
          have next : (!(m.testBit p && m.testBit q) || decide (ce_meet (es.getD i []) p q < lam)) = true → ∀ x : Int32, Go 60 [some (.inr 0), some (.inl (nI i)), some (.inl (nI m)), some (.inl (nI q)), some (.inl (nI p)), some (.inl x)] [] w := by
            intro h x
            refine q_PC_staysPacking_60 hGo ?_
            rw [nI_add]
            refine ihc (p + 1) _ (by omega) (fun a ha => ?_)
            by_cases hap : a = p
            · subst hap; exact h
            · exact hin a (by omega)
          refine q_PC_staysPacking_16 hGo (pk_le q p (fun h => absurd h (by omega)) (fun _ => ?_))
          rw [pr_e hp6 hq6, bi_and _ hm _ hsw, ma_isk_of (zL_s hz)]
          refine pn_ne (m &&& (2 ^ p ||| 2 ^ q)) (2 ^ p ||| 2 ^ q) (fun h => next ?_ _) (fun h => i_LI_blocksHolding hz hi60 hsw he10 he3 hle he64 ?_) rfl rfl (Nat.lt_of_le_of_lt Nat.and_le_left (by omega)) (by omega)
          · have : ¬ (m.testBit p && m.testBit q) = true := fun z => h ((bi_pair m hm p hp6 q hq6).mpr z)
            simp only [Bool.not_eq_true] at this
            rw [this]
            rfl
          · rw [meet_e hp6 hq6 he64]
            have hcm := cm_le (es.getD i []) p q
            have hpb := (bi_pair m hm p hp6 q hq6).mp h
            refine pk_lt (ce_meet (es.getD i []) p q) lam (fun h9 => next (by rw [decide_eq_true h9, Bool.or_true]) _) (fun h9 => ⟨bo0, ?_⟩) rfl h7 (by omega) hlam
            have : sto v lam (es.getD i []) m = false := al_f (p := p) (q := q) (by omega) (by omega) (by rw [hpb, decide_eq_false (by omega)]; rfl)
            rw [this] at hp
            exact hp
      exact q_PC_staysPacking_2 hGo (i_GR_points (pk_le v q (fun h => absurd h (by omega)) (fun _ => inner q 0 _ (by omega) (fun a ha => absurd ha (Nat.not_lt_zero a))) h2 rfl (by omega) (by omega)))
  refine q_PC_staysPacking_0 hGo (loop (v - 1) 1 _ _ (by have := hv.1; omega) (fun b hb a ha => absurd ha (by omega)))
/-- is an entry a design -/
def isd (v lam : Nat) (e : List Nat) : Bool := al v (fun p q => decide (ce_meet e p q = lam))
def T_PC_isDesign : ma_T := fun as w post => ∃ v k n lam i es, as = [.inr 0, .inl (nI i)] ∧ vk v k ∧ xr w ∧ ls v k w w.2.1.1 n es ∧ i < es.length ∧ w.1 2 2 = nI v ∧ w.1 0 7 = nI lam ∧ lam < 2 ^ 31 ∧ post (bI (isd v lam (es.getD i []))) w
theorem i_PC_isDesign {v k n lam i : Nat} {es : List (List Nat)} {w : ma_W} {post : ma_P} (hv : vk v k) (hx : xr w) (hl : ls v k w w.2.1.1 n es) (hi : i < es.length) (h2 : w.1 2 2 = nI v) (h7 : w.1 0 7 = nI lam) (hlam : lam < 2 ^ 31) (hp : post (bI (isd v lam (es.getD i []))) w) : T_PC_isDesign [.inr 0, .inl (nI i)] w post := ⟨v, k, n, lam, i, es, rfl, hv, hx, hl, hi, h2, h7, hlam, hp⟩
theorem c_PC_isDesign {l : Launch} : ma_Met l y_PC_isDesign (w_PC_isDesign :: zw_t) 2 true T_PC_isDesign := by
  refine z_PC_isDesign c_GR_points (by decide) c_LI_blocksHolding (by decide) (by rintro as w post ⟨v, k, n, lam, i, es, rfl, -⟩; simp) ?_
  rintro as w post ⟨v, k, n, lam, i, es, rfl, hv, hx, hl, hi, h2, h7, hlam, hp⟩ Go hGo
  have hv6 := hv.2.1
  obtain ⟨hi60, he10, he3, hle, he64⟩ := ls_at hv hl hi
  have hz := xr_1 hx
  have loop : ∀ (d q : Nat) (o : Option ma_V), q + d = v → (∀ b, b < q → ∀ a, a < b → decide (ce_meet (es.getD i []) a b = lam) = true) → Go 2 [some (.inr 0), some (.inl (nI i)), some (.inl (nI q)), o] [] w := by
    intro d
    induction d with
    | zero =>
      intro q o hd hall
      refine q_PC_isDesign_2 hGo (i_GR_points (pk_le v q (fun _ => q_PC_isDesign_56 hGo ⟨bo1, ?_⟩) (fun h => absurd h (by omega)) h2 rfl (by omega) (by omega)))
      have : isd v lam (es.getD i []) = true := al_t (fun b hb a ha => hall b (by omega) a ha)
      rw [this] at hp
      exact hp
    | succ d ih =>
      intro q o hd hall
      have inner : ∀ (c p : Nat), p + c = q → (∀ a, a < p → decide (ce_meet (es.getD i []) a q = lam) = true) → Go 15 [some (.inr 0), some (.inl (nI i)), some (.inl (nI q)), some (.inl (nI p))] [] w := by
        intro c
        induction c with
        | zero =>
          intro p hc hin
          refine q_PC_isDesign_15 hGo (pk_le q p (fun _ => q_PC_isDesign_50 hGo ?_) (fun h => absurd h (by omega)))
          rw [nI_add]
          refine ih (q + 1) _ (by omega) (fun b hb a ha => ?_)
          by_cases hbq : b = q
          · subst hbq; exact hin a (by omega)
          · exact hall b (by omega) a ha
        | succ c ihc =>
          intro p hc hin
          have hp6 : p < 6 := by omega
          have hq6 : q < 6 := by omega
          refine q_PC_isDesign_15 hGo (pk_le q p (fun h => absurd h (by omega)) (fun _ => ?_))
          rw [pr_e hp6 hq6, ma_isk_of (zL_s hz)]
          refine i_LI_blocksHolding hz hi60 (sw_lt p hp6 q hq6) he10 he3 hle he64 ?_
          rw [meet_e hp6 hq6 he64]
          have hcm := cm_le (es.getD i []) p q
          refine pk_eq (ce_meet (es.getD i []) p q) lam (fun h9 => q_PC_isDesign_44 hGo ?_) (fun h9 => ⟨bo0, ?_⟩) rfl h7 (by omega) hlam
          · rw [nI_add]
            refine ihc (p + 1) (by omega) (fun a ha => ?_)
            by_cases hap : a = p
            · subst hap; exact decide_eq_true h9
            · exact hin a (by omega)
          · have : isd v lam (es.getD i []) = false := al_f (p := p) (q := q) (by omega) (by omega) (decide_eq_false h9)
            rw [this] at hp
            exact hp
      exact q_PC_isDesign_2 hGo (i_GR_points (pk_le v q (fun h => absurd h (by omega)) (fun _ => inner q 0 (by omega) (fun a ha => absurd ha (Nat.not_lt_zero a))) h2 rfl (by omega) (by omega)))
  refine q_PC_isDesign_0 hGo (loop (v - 1) 1 _ (by have := hv.1; omega) (fun b hb a ha => absurd ha (by omega)))
/-- the form of the hand -/
def hf_ (v k : Nat) (xs : List Nat) (w : ma_W) : Prop := ∃ b, w.1 0 9 = bI b ∧ (b = true → ro w 12 (sp_un (fm_K v k) (sp_max v (fm_K v k) xs)) ∧ w.1 0 8 = nI (ce_ord v k xs))
def T_PC_formHand : ma_T := fun as w post => ∃ v k xs, as = [.inr 0] ∧ vk v k ∧ gr v k w ∧ ro w 10 xs ∧ (∀ x ∈ xs, x ∈ fm_K v k) ∧ hf_ v k xs w ∧ ∀ w', fr [0, 1, 12] [5, 6, 7, 8, 9, 13] w w' → (∀ j, j ≠ 8 → j ≠ 9 → w'.1 0 j = w.1 0 j) → w'.1 0 9 = nI 1 → ro w' 12 (sp_un (fm_K v k) (sp_max v (fm_K v k) xs)) → w'.1 0 8 = nI (ce_ord v k xs) → post 0 w'
theorem i_PC_formHand {v k : Nat} {xs : List Nat} {w : ma_W} {post : ma_P} (hv : vk v k) (hg : gr v k w) (hr : ro w 10 xs) (hx : ∀ x ∈ xs, x ∈ fm_K v k) (hh : hf_ v k xs w) (hp : ∀ w', fr [0, 1, 12] [5, 6, 7, 8, 9, 13] w w' → (∀ j, j ≠ 8 → j ≠ 9 → w'.1 0 j = w.1 0 j) → w'.1 0 9 = nI 1 → ro w' 12 (sp_un (fm_K v k) (sp_max v (fm_K v k) xs)) → w'.1 0 8 = nI (ce_ord v k xs) → post 0 w') : T_PC_formHand [.inr 0] w post := ⟨v, k, xs, rfl, hv, hg, hr, hx, hh, hp⟩
theorem c_PC_formHand {l : Launch} : ma_Met l y_PC_formHand (w_PC_formHand :: zw_t) 16 false T_PC_formHand := by
  refine z_PC_formHand c_FO_findForm (by decide) c_FO_symmetriesFound (by decide) (by rintro as w post ⟨v, k, xs, rfl, -⟩; simp) ?_
  rintro as w post ⟨v, k, xs, rfl, hv, hg, hr, hx, ⟨b, hb1, hb2⟩, hp⟩ Go hGo
  refine q_PC_formHand_0 hGo (bI_an hb1 (fun h => q_PC_formHand_38 hGo ?_) (fun h => ?_))
  · subst h
    obtain ⟨h1, h2⟩ := hb2 rfl
    exact hp w (fr_refl _ _ _) (fun _ _ _ => rfl) hb1 h1 h2
  · refine i_FO_findForm (Or.inl rfl) (Or.inr (Or.inl rfl)) hv hg hr hx (fun w1 f1 f2 f3 => i_FO_symmetriesFound ⟨bo1, q_PC_formHand_38 hGo (hp _ (fr_f (fr_f (fr_mono f1 (fun x h => ?_) (fun x h => ?_)) (by decide) 8 _) (by decide) 9 _) (fun j h8 h9 => ?_) (rfl) ?_ ?_)⟩)
    · simp only [List.mem_cons, List.not_mem_nil, or_false] at h ⊢
      omega
    · simp only [List.mem_cons, List.not_mem_nil, or_false] at h ⊢
      omega
    · try dsimp only
      rw [ma_up_k _ _ _ _ h9, ma_up_k _ _ _ _ h8, f1.2.1 0 (by decide)]
    · exact ro_fr f3 (fr_f (fr_f (fr_refl [0] [] w1) (by decide) 8 (w1.1 1 6)) (by decide) 9 (nI 1)) (by decide) (by decide)
    · try dsimp only
      rw [ma_up_k _ _ _ _ (by decide), ma_up_s, f2]
