/-! CONTRACTS: Former, the search -/
def T_FO_settleImages : ma_T := fun as w post => ∃ (t q : Nat) (f : Nat → Nat), as = [.inr 1, .inl (nI t), .inl (nI q)] ∧ t < 6 ∧ q < 6 ∧ (∀ m, m < 2 ^ t → w.2.2 7 m = nI (f m) ∧ f m < 64) ∧ ∀ w', fr [] [7] w w' → (∀ m, m < 2 ^ t → w'.2.2 7 m = w.2.2 7 m) → (∀ m, m < 2 ^ t → w'.2.2 7 (2 ^ t + m) = nI (f m ||| 2 ^ q)) → post 0 w'
theorem i_FO_settleImages {t q : Nat} {f : Nat → Nat} {w : ma_W} {post : ma_P} (ht : t < 6) (hq : q < 6) (hf : ∀ m, m < 2 ^ t → w.2.2 7 m = nI (f m) ∧ f m < 64) (hp : ∀ w', fr [] [7] w w' → (∀ m, m < 2 ^ t → w'.2.2 7 m = w.2.2 7 m) → (∀ m, m < 2 ^ t → w'.2.2 7 (2 ^ t + m) = nI (f m ||| 2 ^ q)) → post 0 w') : T_FO_settleImages [.inr 1, .inl (nI t), .inl (nI q)] w post := ⟨t, q, f, rfl, ht, hq, hf, hp⟩
theorem c_FO_settleImages {l : Launch} : ma_Met l y_FO_settleImages (w_FO_settleImages :: zw_t) 0 false T_FO_settleImages := by
  refine z_FO_settleImages (by rintro as w post ⟨t, q, f, rfl, -⟩; simp) ?_
  rintro as w post ⟨t, q, f, rfl, ht, hq, hf, hp⟩ Go hGo
  have hpt : 2 ^ t ≤ 2 ^ 5 := Nat.pow_le_pow_right (by decide) (by omega)
  have hpq : 2 ^ q ≤ 2 ^ 5 := Nat.pow_le_pow_right (by decide) (by omega)
  have loop : ∀ (d n : Nat) (w' : ma_W), n + d = 2 ^ t → fr [] [7] w w' → (∀ m, m < 2 ^ t → w'.2.2 7 m = w.2.2 7 m) → (∀ m, m < n → w'.2.2 7 (2 ^ t + m) = nI (f m ||| 2 ^ q)) → Go 2 [some (.inr 1), some (.inl (nI t)), some (.inl (nI q)), some (.inl (nI n))] [] w' := by
    intro d
    induction d with
    | zero =>
      intro n w' hd hfr h1 h2
      exact q_FO_settleImages_2 hGo (pk_le (2 ^ t) n (fun _ => q_FO_settleImages_35 hGo (hp _ hfr h1 (fun m hm => h2 m (by omega)))) (fun h => absurd h (by omega)) (bi_one t (by omega)) rfl (by omega) (by omega))
    | succ d ih =>
      intro n w' hd hfr h1 h2
      have hn : n < 2 ^ t := by omega
      obtain ⟨hy1, hy2, -, -⟩ := ys_fin t ht n (by omega) hn
      obtain ⟨hf1, hf2⟩ := hf n hn
      refine q_FO_settleImages_2 hGo (pk_le (2 ^ t) n (fun h => absurd h (by omega)) (fun _ => ⟨n, by omega, rfl, 2 ^ t + n, hy2, ?_, ?_⟩) (bi_one t (by omega)) rfl (by omega) (by omega))
      · rw [bi_one t (by omega), bi_or _ (by omega) _ (by omega), hy1]
      · rw [nI_add, h1 n hn, hf1, bi_one q (by omega), bi_or _ hf2 _ (by omega)]
        refine ih (n + 1) _ (by omega) (fr_a hfr (by simp) _ _) (fun m hm => ?_) (fun m hm => ?_)
        · try dsimp only
          rw [ma_up_k _ _ _ _ (by omega)]
          exact h1 m hm
        · show ma_up w'.2.2 7 (2 ^ t + n) _ 7 (2 ^ t + m) = _
          by_cases hmn : m = n
          · subst hmn; rw [ma_up_s]
          · rw [ma_up_k _ _ _ _ (by omega)]
            exact h2 m (by omega)
  exact q_FO_settleImages_0 hGo (loop (2 ^ t) 0 w (by omega) (fr_refl _ _ _) (fun _ _ => rfl) (fun m hm => absurd hm (Nat.not_lt_zero m)))
theorem i_min {a b : Nat} {w : ma_W} {post : ma_P} (ha : a < 2 ^ 31) (hb : b < 2 ^ 31) (hp : post (nI (min a b)) w) : ma_min [.inl (nI a), .inl (nI b)] w post := by
  refine ⟨nI a, nI b, rfl, ?_⟩
  by_cases h : b < a
  · rw [if_pos (nI_lt h ha)]
    rw [show min a b = b by omega] at hp
    exact hp
  · rw [if_neg (nI_nlt (by omega) hb)]
    rw [show min a b = a by omega] at hp
    exact hp
def T_FO_countRenaming : ma_T := fun as w post => ∃ v K p st, as = [.inr 1] ∧ v ≤ 6 ∧ w.1 2 2 = nI v ∧ p.length = v ∧ (∀ x ∈ p, x < 6) ∧ tk_ p w ∧ fb K st w ∧ ∀ w', fr [1] [9] w w' → w'.1 1 7 = w.1 1 7 → fb K (se_cnt p st) w' → post 0 w'
theorem i_FO_countRenaming {v : Nat} {K p : List Nat} {st : se_S} {w : ma_W} {post : ma_P} (hv : v ≤ 6) (h2 : w.1 2 2 = nI v) (hl : p.length = v) (hx : ∀ x ∈ p, x < 6) (ht : tk_ p w) (hb : fb K st w) (hp : ∀ w', fr [1] [9] w w' → w'.1 1 7 = w.1 1 7 → fb K (se_cnt p st) w' → post 0 w') : T_FO_countRenaming [.inr 1] w post := ⟨v, K, p, st, rfl, hv, h2, hl, hx, ht, hb, hp⟩
theorem c_FO_countRenaming {l : Launch} : ma_Met l y_FO_countRenaming (w_FO_countRenaming :: zw_t) 1 false T_FO_countRenaming := by
  refine z_FO_countRenaming c_GR_points (by decide) (by decide) (by rintro as w post ⟨v, K, p, st, rfl, -⟩; simp) ?_
  rintro as w post ⟨v, K, p, st, rfl, hv, h2, hl, hx, ht, hb, hp⟩ Go hGo
  obtain ⟨g1, g2, g3, g4, g5, g6⟩ := hb
  have hpx : ∀ i, i < v → p.getD i 0 < 6 := by
    intro i hi
    rw [gd_at (by omega)]
    exact hx _ (List.getElem_mem _)
  have loop : ∀ (d n : Nat) (w' : ma_W), n + d = v → fr [1] [9] w w' → w'.1 1 7 = w.1 1 7 → w'.1 1 8 = w.1 1 8 → w'.1 1 6 = nI (st.2.1 + 1) → (∀ i, i < 6 → w'.2.2 9 i = nI (if i < n then min (st.2.2.2.getD i 0) (p.getD i 0) else st.2.2.2.getD i 0)) → Go 12 [some (.inr 1), some (.inl (nI n))] [] w' := by
    intro d
    induction d with
    | zero =>
      intro n w' hd hfr h7 h8 h6 h9
      refine q_FO_countRenaming_12 hGo (i_GR_points (pk_le v n (fun _ => q_FO_countRenaming_50 hGo (hp _ hfr h7 ⟨g1, fun j hj => ?_, h6, by rw [h8]; exact g4, ?_, fun i hi => ?_⟩)) (fun h => absurd h (by omega)) (by rw [hfr.2.1 2 (by decide)]; exact h2) rfl (by omega) (by omega)))
      · rw [hfr.2.2 6 (by decide)]; exact g2 j hj
      · show ((List.range st.2.2.2.length).map _).length = 6
        rw [List.length_map, List.length_range]; exact g5
      · have e : (se_cnt p st).2.2.2.getD i 0 = if i < n then min (st.2.2.2.getD i 0) (p.getD i 0) else st.2.2.2.getD i 0 := by
          show ((List.range st.2.2.2.length).map _).getD i 0 = _
          rw [List.getD_eq_getElem?_getD, List.getElem?_map, List.getElem?_range (by omega), hl, show n = v by omega]
          rfl
        rw [e, h9 i hi]
        refine ⟨rfl, ?_⟩
        have h0 := (g6 i hi).2
        split <;> omega
    | succ d ih =>
      intro n w' hd hfr h7 h8 h6 h9
      have h9n := h9 n (by omega)
      rw [if_neg (by omega)] at h9n
      have h0 := (g6 n (by omega)).2
      have hpn := hpx n (by omega)
      refine q_FO_countRenaming_12 hGo (i_GR_points (pk_le v n (fun h => absurd h (by omega)) (fun _ => ⟨n, by omega, rfl, n, by omega, rfl, ?_⟩) (by rw [hfr.2.1 2 (by decide)]; exact h2) rfl (by omega) (by omega)))
      rw [h9n, hfr.2.2 8 (by decide), ht n (by omega)]
      refine i_min (by omega) (by omega) ⟨n, by omega, rfl, ?_⟩
      rw [nI_add]
      refine ih (n + 1) _ (by omega) (fr_a hfr (by simp) _ _) h7 h8 h6 (fun i hi => ?_)
      try dsimp only
      by_cases hin : i = n
      · subst hin
        rw [ma_up_s, if_pos (by omega)]
      · rw [ma_up_k _ _ _ _ hin, h9 i hi]
        by_cases h1 : i < n
        · rw [if_pos h1, if_pos (show i < n + 1 by omega)]
        · rw [if_neg h1, if_neg (show ¬ i < n + 1 by omega)]
  refine q_FO_countRenaming_0 hGo (loop v 0 _ (by omega) (fr_f (fr_refl _ _ _) (by simp) _ _) ?_ ?_ ?_ (fun i hi => ?_))
  · try dsimp only
    rw [ma_up_k _ _ _ _ (by decide)]
  · try dsimp only
    rw [ma_up_k _ _ _ _ (by decide)]
  · try dsimp only
    rw [ma_up_s, g3, nI_add]
  · rw [if_neg (Nat.not_lt_zero i)]
    exact (g6 i hi).1
/-- what the search asks for and gives: p is settled, n points are left -/
def sq (n : Nat) (v k : Nat) (f : Nat → Nat) (p : List Nat) (st : se_S) (stop : Bool) (w : ma_W) : Prop := vk v k ∧ (∀ m, f m ≤ 10) ∧ pp v p ∧ p.length + n = v ∧ fu v k f w ∧ fb (fm_K v k) st w ∧ (p.length < v → im_ p w) ∧ tk_ p w ∧ w.1 1 7 = bI stop ∧ (st.2.2.1 && stop) = false
def sr (k v : Nat) (p : List Nat) (st' : se_S) (stop : Bool) (w w' : ma_W) : Prop := fr [1] [6, 7, 8, 9] w w' ∧ (∀ m, m < 2 ^ p.length → w'.2.2 7 m = w.2.2 7 m) ∧ (∀ i, i < p.length → w'.2.2 8 i = w.2.2 8 i) ∧ fb (fm_K v k) st' w' ∧ w'.1 1 7 = bI stop
def T_FO_tryPointsFor (n : Nat) : ma_T := fun as w post => ∃ v k f p st stop, as = [.inr 1, .inl (nI p.length), .inl (nI (us p))] ∧ sq n v k f p st stop w ∧ ∀ w', sr k v p (se_all stop (fm_K v k) f n p (rem_ v p) st) stop w w' → post 0 w'
theorem i_FO_tryPointsFor {n v k : Nat} {f : Nat → Nat} {p : List Nat} {st : se_S} {stop : Bool} {w : ma_W} {post : ma_P} (h : sq n v k f p st stop w) (hp : ∀ w', sr k v p (se_all stop (fm_K v k) f n p (rem_ v p) st) stop w w' → post 0 w') : T_FO_tryPointsFor n [.inr 1, .inl (nI p.length), .inl (nI (us p))] w post := ⟨v, k, f, p, st, stop, rfl, h, hp⟩
def T_FO_tryPoint (n : Nat) : ma_T := fun as w post => ∃ v k f p st stop q, as = [.inr 1, .inl (nI p.length), .inl (nI q), .inl (nI (us p))] ∧ sq (n + 1) v k f p st stop w ∧ q ∈ rem_ v p ∧ ∀ w', sr k v p (se_try stop (fm_K v k) f (se_all stop (fm_K v k) f n) p (rem_ v p) st q) stop w w' → post 0 w'
theorem i_FO_tryPoint {n v k : Nat} {f : Nat → Nat} {p : List Nat} {st : se_S} {stop : Bool} {q : Nat} {w : ma_W} {post : ma_P} (h : sq (n + 1) v k f p st stop w) (hq : q ∈ rem_ v p) (hp : ∀ w', sr k v p (se_try stop (fm_K v k) f (se_all stop (fm_K v k) f n) p (rem_ v p) st q) stop w w' → post 0 w') : T_FO_tryPoint n [.inr 1, .inl (nI p.length), .inl (nI q), .inl (nI (us p))] w post := ⟨v, k, f, p, st, stop, q, rfl, h, hq, hp⟩
theorem fb_fr {K : List Nat} {st : se_S} {ps qs : List Nat} {w w' : ma_W} (h : fb K st w) (hf : fr ps qs w w') (h1 : 1 ∉ ps) (h2 : 6 ∉ qs) (h3 : 9 ∉ qs) : fb K st w' := by
  unfold fb
  rw [hf.2.1 1 h1, hf.2.2 6 h2, hf.2.2 9 h3]
  exact h
theorem se_try_eq {stop : Bool} {K : List Nat} {f : Nat → Nat} {go : List Nat → List Nat → se_S → se_S} {p r : List Nat} {st : se_S} {q : Nat} (h : (st.2.2.1 && stop) = false) : se_try stop K f go p r st q = if (se_A stop K f p q st).1 = true then go (p ++ [q]) (r.erase q) ((se_A stop K f p q st).2.1, (se_A stop K f p q st).2.2.1, (se_A stop K f p q st).2.2.2, st.2.2.2) else ((se_A stop K f p q st).2.1, (se_A stop K f p q st).2.2.1, (se_A stop K f p q st).2.2.2, st.2.2.2) := by
  unfold se_try
  rw [if_neg (by rw [h]; decide)]
  rfl
theorem c_FO_tryPoint {l : Launch} {n d : Nat} (hd : 1 ≤ d) (ct : ma_Met l y_FO_tryPointsFor (w_FO_tryPointsFor :: zw_t) d false (T_FO_tryPointsFor n)) : ma_Met l y_FO_tryPoint (w_FO_tryPoint :: zw_t) (d + 1) false (T_FO_tryPoint n) := by
  refine z_FO_tryPoint c_FO_isAsGood (by omega) c_GR_points (by omega) c_FO_settleImages (by omega) ct (by omega) (by rintro as w post ⟨v, k, f, p, st, stop, q, rfl, -⟩; simp) ?_
  rintro as w post ⟨v, k, f, p, st, stop, q, rfl, ⟨hv, hf, hpp, hpn, hu, hb, him, htk, hs, hbs⟩, hq, hp⟩ Go hGo
  have hv6 := hv.2.1
  have hpq := pp_app hpp hq
  have hqv := (rem_mem.mp hq).1
  have hpl : p.length < v := by omega
  have hlen : (p ++ [q]).length = p.length + 1 := by simp
  rw [se_try_eq hbs] at hp
  refine q_FO_tryPoint_0 hGo (i_FO_isAsGood hv hf hpq hu hb (him hpl) hs (fun w1 hf1 hs1 hb1 => bI_ne (fun hA => ?_) (fun hA => ?_)))
  · rw [if_pos hA] at hp
    have hbs1 : ((se_A stop (fm_K v k) f p q st).2.2.2 && stop) = false := by
      cases stop with
      | false => simp
      | true =>
        have e : se_A true (fm_K v k) f p q st = (true, st.1, st.2.1, st.2.2.1) := se_as_stop _ _ _ hA
        rw [e]
        exact hbs
    have hfm : fr [1] [6, 7, 8, 9] w w1 := fr_mono hf1 (fun _ h => h) (fun x h => by rw [List.mem_singleton.mp h]; decide)
    -- the rest of the search, once takenTo and the images are settled
    have last : ∀ w3 : ma_W, fr [1] [6, 7, 8, 9] w w3 → w3.1 1 7 = bI stop → fb (fm_K v k) ((se_A stop (fm_K v k) f p q st).2.1, (se_A stop (fm_K v k) f p q st).2.2.1, (se_A stop (fm_K v k) f p q st).2.2.2, st.2.2.2) w3 → (∀ m, m < 2 ^ p.length → w3.2.2 7 m = w.2.2 7 m) → (p.length + 1 < v → ∀ m, m < 2 ^ p.length → w3.2.2 7 (2 ^ p.length + m) = nI (pm_im p m ||| 2 ^ q)) → (∀ i, i < p.length → w3.2.2 8 i = w.2.2 8 i) → w3.2.2 8 p.length = nI q → Go 36 [some (.inr 1), some (.inl (nI p.length)), some (.inl (nI q)), some (.inl (nI (us p)))] [] w3 := by
      intro w3 a1 a2 a3 a4 a5 a6 a7
      have hus : nI (us p) ||| (nI 1 <<< (nI q &&& 31)) = nI (us (p ++ [q])) := by
        have h1 : us p < 64 := Nat.lt_of_lt_of_le (us_lt hpp.2) (pw64 hv6)
        have h2 : 2 ^ q ≤ 2 ^ 5 := Nat.pow_le_pow_right (by decide) (by omega)
        rw [bi_one q (by omega), bi_or _ h1 _ (by omega), us_app]
      refine q_FO_tryPoint_36 hGo ?_
      rw [hus, nI_add, ← hlen]
      refine i_FO_tryPointsFor (v := v) (k := k) (f := f) (st := ((se_A stop (fm_K v k) f p q st).2.1, (se_A stop (fm_K v k) f p q st).2.2.1, (se_A stop (fm_K v k) f p q st).2.2.2, st.2.2.2)) (stop := stop) ⟨hv, hf, hpq, by rw [hlen]; omega, fu_fr hu a1, a3, fun hlt m hm => ?_, fun i hi => ?_, a2, hbs1⟩ (fun w4 ⟨b1, b2, b3, b4, b5⟩ => ?_)
      · rw [hlen] at hm hlt
        by_cases hm2 : m < 2 ^ p.length
        · rw [a4 m hm2, him hpl m hm2, pm_im_app hm2]
        · have h2p : 2 ^ (p.length + 1) = 2 ^ p.length + 2 ^ p.length := by rw [Nat.pow_succ]; omega
          have h25 : 2 ^ p.length ≤ 2 ^ 5 := Nat.pow_le_pow_right (by decide) (by omega)
          have h5 := a5 hlt (m - 2 ^ p.length) (by omega)
          obtain ⟨-, -, hx, -⟩ := ys_fin p.length (by omega) (m - 2 ^ p.length) (by omega) (by omega)
          rw [show 2 ^ p.length + (m - 2 ^ p.length) = m by omega] at h5 hx
          rw [h5, im_split (by omega) (by omega) (by omega) hm, hx]
      · rw [hlen] at hi
        by_cases hip : i = p.length
        · subst hip
          rw [a7, gd_app_r]
        · rw [a6 i (by omega), htk i (by omega), gd_app_l (by omega)]
      · rw [rem_erase] at hp
        have h2p : 2 ^ p.length ≤ 2 ^ (p ++ [q]).length := Nat.pow_le_pow_right (by decide) (by omega)
        exact hp w4 ⟨fr_trans a1 b1, fun m hm => by rw [b2 m (by omega), a4 m hm], fun i hi => by rw [b3 i (by omega), a6 i hi], b4, b5⟩
    have hfa : fr [1] [6, 7, 8, 9] w (w1.1, w1.2.1, ma_up w1.2.2 8 p.length (nI q)) := fr_a hfm (by decide) _ _
    have hb2 : fb (fm_K v k) ((se_A stop (fm_K v k) f p q st).2.1, (se_A stop (fm_K v k) f p q st).2.2.1, (se_A stop (fm_K v k) f p q st).2.2.2, st.2.2.2) (w1.1, w1.2.1, ma_up w1.2.2 8 p.length (nI q)) := fb_fr hb1 (fr_a (fr_refl [] [8] w1) (by decide) _ _) (by decide) (by decide) (by decide)
    have h8 : ∀ i, i < p.length → ma_up w1.2.2 8 p.length (nI q) 8 i = w.2.2 8 i := fun i hi => by rw [ma_up_k _ _ _ _ (by omega), hf1.2.2 8 (by decide)]
    have h7 : ∀ m, ma_up w1.2.2 8 p.length (nI q) 7 m = w.2.2 7 m := fun m => by rw [ma_up_p _ _ _ _ (by decide), hf1.2.2 7 (by decide)]
    refine q_FO_tryPoint_10 hGo ⟨p.length, by omega, rfl, i_GR_points ?_⟩
    rw [nI_add]
    refine pk_le v (p.length + 1) (fun h => last _ hfa hs1 hb2 (fun m _ => h7 m) (fun h9 => absurd h9 (by omega)) h8 (show ma_up w1.2.2 8 p.length (nI q) 8 p.length = nI q from ma_up_s _ _ _ _)) (fun h => i_FO_settleImages (f := pm_im p) (by omega) (by omega) (fun m hm => ⟨by rw [← him hpl m hm]; exact h7 m, pm_im_64 hpp hv6 m⟩) (fun w3 c1 c2 c3 => last w3 (fr_trans hfa (fr_mono c1 (fun _ h => absurd h List.not_mem_nil) (fun x h => by rw [List.mem_singleton.mp h]; decide))) (by rw [c1.2.1 1 List.not_mem_nil]; exact hs1) (fb_fr hb2 c1 List.not_mem_nil (by decide) (by decide)) (fun m hm => by rw [c2 m hm]; exact h7 m) (fun _ => c3) (fun i hi => by rw [c1.2.2 8 (by decide)]; exact h8 i hi) (by rw [c1.2.2 8 (by decide)]; exact (show ma_up w1.2.2 8 p.length (nI q) 8 p.length = nI q from ma_up_s _ _ _ _)))) (by rw [hf1.2.1 2 (by decide)]; exact hu.1.1) rfl (by omega) (by omega)
  · rw [if_neg (by rw [hA]; decide)] at hp
    exact hp w1 ⟨fr_mono hf1 (fun _ h => h) (fun x h => by rw [List.mem_singleton.mp h]; decide), fun m _ => by rw [hf1.2.2 7 (by decide)], fun i _ => by rw [hf1.2.2 8 (by decide)], hb1, hs1⟩
/-- the points before n that are left -/
def rm_ (n : Nat) (p : List Nat) : List Nat := (List.range n).filter (fun q => !p.contains q)
theorem rm_s (n : Nat) (p : List Nat) : rm_ (n + 1) p = rm_ n p ++ (if n ∈ p then [] else [n]) := by
  unfold rm_
  rw [List.range_succ, List.filter_append]
  congr 1
  by_cases h : n ∈ p <;> simp [h]
theorem c_FO_tryPointsFor0 {l : Launch} {d : Nat} (hd : 2 ≤ d) : ma_Met l y_FO_tryPointsFor (w_FO_tryPointsFor :: zw_t) d false (T_FO_tryPointsFor 0) := by
  refine z_FO_tryPointsFor c_GR_points (by omega) c_FO_countRenaming (by omega) (ma_no (d := 0)) (by omega) (by rintro as w post ⟨v, k, f, p, st, stop, rfl, -⟩; simp) ?_
  rintro as w post ⟨v, k, f, p, st, stop, rfl, ⟨hv, hf, hpp, hpn, hu, hb, him, htk, hs, hbs⟩, hp⟩ Go hGo
  have hv6 := hv.2.1
  refine q_FO_tryPointsFor_0 hGo (i_GR_points (pk_lt p.length v (fun h => absurd h (by omega)) (fun _ => i_FO_countRenaming hv6 hu.1.1 (by omega) (fun x hx => Nat.lt_of_lt_of_le (hpp.2 x hx) hv6) htk hb (fun w' h1 h2 h3 => ?_)) rfl hu.1.1 (by omega) (by omega)))
  exact hp w' ⟨fr_mono h1 (fun _ h => h) (fun x h => by rw [List.mem_singleton.mp h]; decide), fun m _ => by rw [h1.2.2 7 (by decide)], fun i _ => by rw [h1.2.2 8 (by decide)], h3, by rw [h2]; exact hs⟩
theorem c_FO_tryPointsForS {l : Launch} {n d0 : Nat} (hd0 : 1 ≤ d0) (ct : ma_Met l y_FO_tryPoint (w_FO_tryPoint :: zw_t) d0 false (T_FO_tryPoint n)) : ma_Met l y_FO_tryPointsFor (w_FO_tryPointsFor :: zw_t) (d0 + 1) false (T_FO_tryPointsFor (n + 1)) := by
  refine z_FO_tryPointsFor c_GR_points (by omega) c_FO_countRenaming (by omega) ct (by omega) (by rintro as w post ⟨v, k, f, p, st, stop, rfl, -⟩; simp) ?_
  rintro as w post ⟨v, k, f, p, st, stop, rfl, ⟨hv, hf, hpp, hpn, hu, hb, him, htk, hs, hbs⟩, hp⟩ Go hGo
  have hv6 := hv.2.1
  have hpl : p.length < v := by omega
  have hus : us p < 64 := Nat.lt_of_lt_of_le (us_lt hpp.2) (pw64 hv6)
  have loop : ∀ (d m : Nat) (s : se_S) (w' : ma_W), m + d = v → (rm_ m p).foldl (se_try stop (fm_K v k) f (se_all stop (fm_K v k) f n) p (rem_ v p)) st = s → (s.2.2.1 && stop) = false → sr k v p s stop w w' → Go 18 [some (.inr 1), some (.inl (nI p.length)), some (.inl (nI (us p))), some (.inl (nI m))] [] w' := by
    intro d
    induction d with
    | zero =>
      intro m s w' hd he hbs' hr
      refine q_FO_tryPointsFor_18 hGo (i_GR_points (pk_le v m (fun _ => q_FO_tryPointsFor_65 hGo (hp w' ?_)) (fun h => absurd h (by omega)) (by rw [hr.1.2.1 2 (by decide)]; exact hu.1.1) rfl (by omega) (by omega)))
      have : se_all stop (fm_K v k) f (n + 1) p (rem_ v p) st = s := by
        rw [← he, show m = v by omega]
        rfl
      rw [this]
      exact hr
    | succ d ih =>
      intro m s w' hd he hbs' hr
      obtain ⟨r1, r2, r3, r4, r5⟩ := hr
      have hu' := fu_fr hu r1
      -- behind the point m
      have next : ∀ (s2 : se_S) (w2 : ma_W), (rm_ (m + 1) p).foldl (se_try stop (fm_K v k) f (se_all stop (fm_K v k) f n) p (rem_ v p)) st = s2 → sr k v p s2 stop w w2 → Go 44 [some (.inr 1), some (.inl (nI p.length)), some (.inl (nI (us p))), some (.inl (nI m))] [] w2 := by
        intro s2 w2 he2 hr2
        have go59 : (s2.2.2.1 && stop) = false → Go 59 [some (.inr 1), some (.inl (nI p.length)), some (.inl (nI (us p))), some (.inl (nI m))] [] w2 := by
          intro h
          refine q_FO_tryPointsFor_59 hGo ?_
          rw [nI_add]
          exact ih (m + 1) s2 w2 (by omega) he2 h hr2
        refine q_FO_tryPointsFor_44 hGo (bI_at hr2.2.2.2.1.2.2.2.1 (fun h => go59 (by rw [h]; rfl)) (fun h => bI_at hr2.2.2.2.2 (fun h2 => go59 (by rw [h2, Bool.and_false])) (fun h2 => hp w2 ?_)))
        subst h2
        have : se_all true (fm_K v k) f (n + 1) p (rem_ v p) st = s2 := by
          show (rem_ v p).foldl _ st = s2
          have hsplit : ∃ l, rem_ v p = rm_ (m + 1) p ++ l := by
            have key : ∀ e, ∃ l, rm_ (m + 1 + e) p = rm_ (m + 1) p ++ l := by
              intro e
              induction e with
              | zero => exact ⟨[], by simp⟩
              | succ e ih2 =>
                obtain ⟨l, hl⟩ := ih2
                exact ⟨l ++ (if m + 1 + e ∈ p then [] else [m + 1 + e]), by rw [← Nat.add_assoc, rm_s, hl, List.append_assoc]⟩
            obtain ⟨l, hl⟩ := key d
            rw [show m + 1 + d = v by omega] at hl
            exact ⟨l, hl⟩
          obtain ⟨l, hl⟩ := hsplit
          conv => lhs; arg 3; rw [hl]
          rw [List.foldl_append, he2]
          exact se_beaten l s2 h
        rw [this]
        exact hr2
      refine q_FO_tryPointsFor_18 hGo (i_GR_points (pk_le v m (fun h => absurd h (by omega)) (fun _ => ?_) (by rw [r1.2.1 2 (by decide)]; exact hu.1.1) rfl (by omega) (by omega)))
      rw [bi_bit _ hus m (by omega)]
      by_cases hm : m ∈ p
      · rw [if_pos ((us_bit p m).mpr hm)]
        refine pn_ne 1 0 (fun _ => next s w' ?_ ⟨r1, r2, r3, r4, r5⟩) (fun h => absurd h (by decide))
        rw [rm_s, if_pos hm, List.append_nil]
        exact he
      · rw [if_neg (fun h => hm ((us_bit p m).mp h))]
        refine pn_ne 0 0 (fun h => absurd rfl h) (fun _ => i_FO_tryPoint (v := v) (k := k) (f := f) (st := s) (stop := stop) ⟨hv, hf, hpp, hpn, hu', r4, fun h9 x hx => by rw [r2 x hx]; exact him h9 x hx, fun i hi => by rw [r3 i hi]; exact htk i hi, r5, hbs'⟩ (rem_mem.mpr ⟨by omega, hm⟩) (fun w2 ⟨b1, b2, b3, b4, b5⟩ => next _ w2 ?_ ⟨fr_trans r1 b1, fun x hx => by rw [b2 x hx, r2 x hx], fun i hi => by rw [b3 i hi, r3 i hi], b4, b5⟩))
        rw [rm_s, if_neg hm, List.foldl_append, he]
        rfl
  refine q_FO_tryPointsFor_0 hGo (i_GR_points (pk_lt p.length v (fun _ => q_FO_tryPointsFor_16 hGo (loop v 0 st w (by omega) rfl hbs ⟨fr_refl _ _ _, fun _ _ => rfl, fun _ _ => rfl, hb, hs⟩)) (fun h => absurd h (by omega)) rfl hu.1.1 (by omega) (by omega)))
theorem c_FO_tryPointsForN {l : Launch} : ∀ n d, 2 * n + 2 ≤ d → ma_Met l y_FO_tryPointsFor (w_FO_tryPointsFor :: zw_t) d false (T_FO_tryPointsFor n)
  | 0, d, h => c_FO_tryPointsFor0 h
  | n + 1, 0, h => absurd h (by omega)
  | n + 1, 1, h => absurd h (by omega)
  | n + 1, d + 2, h => c_FO_tryPointsForS (by omega) (c_FO_tryPoint (by omega) (c_FO_tryPointsForN n d (by omega)))
def T_FO_tryPointsAny : ma_T := fun as w post => ∃ n, n ≤ 6 ∧ T_FO_tryPointsFor n as w post
theorem i_FO_tryPointsAny {n v k : Nat} {f : Nat → Nat} {p : List Nat} {st : se_S} {stop : Bool} {w : ma_W} {post : ma_P} (hn : n ≤ 6) (h : sq n v k f p st stop w) (hp : ∀ w', sr k v p (se_all stop (fm_K v k) f n p (rem_ v p) st) stop w w' → post 0 w') : T_FO_tryPointsAny [.inr 1, .inl (nI p.length), .inl (nI (us p))] w post := ⟨n, hn, i_FO_tryPointsFor h hp⟩
theorem c_FO_tryPointsFor {l : Launch} : ma_Met l y_FO_tryPointsFor (w_FO_tryPointsFor :: zw_t) 14 false T_FO_tryPointsAny := by
  rintro D ad cA as w sz post ⟨n, hn, h⟩ hD
  exact c_FO_tryPointsForN n 14 (by omega) D ad cA as w sz post h hD
/-! Integer.bitCount -/
def us_r (x : Int32) (n : Nat) : Int32 := (x.toUInt32 >>> ((nI n).toUInt32 &&& Int32.toUInt32 31)).toInt32
def bc1 (x : Int32) : Int32 := x - (us_r x 1 &&& 1431655765)
def bc2 (x : Int32) : Int32 := (x &&& 858993459) + (us_r x 2 &&& 858993459)
def bc3 (x : Int32) : Int32 := (x + us_r x 4) &&& 252645135
def bc4 (x : Int32) : Int32 := x + us_r x 8
def bc5 (x : Int32) : Int32 := x + us_r x 16
theorem bc_all : ∀ m, m < 64 → bc5 (bc4 (bc3 (bc2 (bc1 (nI m))))) &&& nI 63 = nI (pm_cnt 6 m) := by decide +kernel
theorem q_JI_bitCount_0 {post : ma_P} {Go : ma_G} {w : ma_W} {x0 : Int32} (hGo : ma_cl k_JI_bitCount [] e_JI_bitCount none 1 s_JI_bitCount post Go) (h : post (bc5 (bc4 (bc3 (bc2 (bc1 x0)))) &&& nI 63) w) : Go 0 [some (.inl x0)] [] w := hGo 0 _ _ rfl _ _ _ h
theorem c_JI_bitCount {l : Launch} : ma_Met l y_JI_bitCount (w_JI_bitCount :: zw_t) 0 true T_JI_bitCount := by
  refine z_JI_bitCount (by rintro as w post ⟨m, rfl, -⟩; simp) ?_
  rintro as w post ⟨m, rfl, hm, hp⟩ Go hGo
  refine q_JI_bitCount_0 hGo ?_
  rw [bc_all m hm]
  exact hp
