/-! THE LAW'S LOOP -/
theorem lw_end {Go : ma_G} {w : ma_W} {i L : Nat} {xs : Nat → Int32} (hGo : lwcl L xs Go) : Go 567 (lwL i) [] w := hGo 21 _ _ rfl _ _ _ ⟨bo1, rfl⟩
theorem lw_room {i L : Nat} (hL : L ≤ 2048) (hi : i ≤ 2052) (h : ¬ (nI L - nI 4 < nI i)) : i + 4 ≤ L := by
  by_cases hl : 4 ≤ L
  · obtain ⟨d, rfl⟩ := Nat.exists_eq_add_of_le' hl
    have e : nI (d + 4) - nI 4 = nI d := by rw [← nI_add]; exact Int32.add_sub_cancel _ _
    rw [e, nI_ltI (by omega) (by omega)] at h
    omega
  · exfalso
    have h0 : nI L - nI 4 < nI 0 := by
      rcases (show L = 0 ∨ L = 1 ∨ L = 2 ∨ L = 3 by omega) with rfl | rfl | rfl | rfl <;> decide +kernel
    refine h (Int32.lt_of_lt_of_le h0 ?_)
    rw [nI_0]
    exact Int32.not_lt.mp (nI_pos (by omega))
theorem lw_case {Go : ma_G} {w : ma_W} {c : cs_} {hd : List Nat} {i L : Nat} {xs : Nat → Int32} (hGo : lwcl L xs Go) (hi : i + 4 ≤ L) (hX : XI c hd w) (hM : MI c hd w) (hO : okc c) (hN : lwN i Go) : ∀ j : Nat, j < 19 → ma_o ((#[92, 135, 148, 161, 174, 207, 230, 243, 286, 309, 322, 355, 378, 401, 434, 457, 480, 503, 516] : Array Int)[((j : Int) - 0).toNat]?) fun o => Go (ma_tg 32 o) (lwL i) [] w
  | 0, _ => u_LW_begin hGo hi hX hM hO hN
  | 1, _ => u_LW_grow hGo hi hX hM hO hN
  | 2, _ => u_LW_level hGo hi hX hM hO hN
  | 3, _ => u_LW_entries hGo hi hX hM hO hN
  | 4, _ => u_LW_block hGo hi hX hM hO hN
  | 5, _ => u_LW_order hGo hi hX hM hO hN
  | 6, _ => u_LW_labelled hGo hi hX hM hO hN
  | 7, _ => u_LW_together hGo hi hX hM hO hN
  | 8, _ => u_LW_design hGo hi hX hM hO hN
  | 9, _ => u_LW_designs hGo hi hX hM hO hN
  | 10, _ => u_LW_orbit hGo hi hX hM hO hN
  | 11, _ => u_LW_put hGo hi hX hM hO hN
  | 12, _ => u_LW_drop hGo hi hX hM hO hN
  | 13, _ => u_LW_swap hGo hi hX hM hO hN
  | 14, _ => u_LW_copy hGo hi hX hM hO hN
  | 15, _ => u_LW_hand hGo hi hX hM hO hN
  | 16, _ => u_LW_formed hGo hi hX hM hO hN
  | 17, _ => u_LW_symmetries hGo hi hX hM hO hN
  | 18, _ => u_LW_find hGo hi hX hM hO hN
  | j + 19, h => absurd h (by omega)
theorem lw_head {Go : ma_G} {w : ma_W} {c : cs_} {hd : List Nat} {i L : Nat} {xs : Nat → Int32} (hGo : lwcl L xs Go) (hL : L ≤ 2048) (hi : i ≤ 2052) (hX : XI c hd w) (hM : MI c hd w) (hO : okc c) (hN : i + 4 ≤ L → lwN i Go) : Go 18 (lwL i) [] w := by
  refine hGo 0 _ _ rfl _ _ _ ?_
  show 33 = 33 ∧ ((nI L - nI 4 < nI i → Go 567 (lwL i) [] w) ∧ (¬ (nI L - nI 4 < nI i) → ma_ix (nI i) L fun a => (((xs a &&& nI 31).toInt < 0 ∨ 18 < (xs a &&& nI 31).toInt → Go 561 (lwL i) [] w) ∧ (¬ (xs a &&& nI 31).toInt < 0 → ¬ 18 < (xs a &&& nI 31).toInt → ma_o ((#[92, 135, 148, 161, 174, 207, 230, 243, 286, 309, 322, 355, 378, 401, 434, 457, 480, 503, 516] : Array Int)[((xs a &&& nI 31).toInt - 0).toNat]?) fun o => Go (ma_tg 32 o) (lwL i) [] w))))
  refine ⟨rfl, fun _ => lw_end hGo, fun h => ?_⟩
  have hi4 := lw_room hL hi h
  refine ⟨i, by omega, rfl, ?_⟩
  obtain ⟨j, hj, e⟩ := pk_andE (xs i) (m := nI 31) 5 (by decide +kernel)
  rw [e, nI_toInt (by omega)]
  exact ⟨fun _ => hN hi4 _ _ _ hX hM hO, fun _ h2 => lw_case hGo hi4 hX hM hO (hN hi4) j (by omega)⟩
theorem lw_loop {Go : ma_G} {L : Nat} {xs : Nat → Int32} (hGo : lwcl L xs Go) (hL : L ≤ 2048) : ∀ (n i : Nat), L ≤ i + n → i ≤ L + 3 → ∀ (c : cs_) (hd : List Nat) (w : ma_W), XI c hd w → MI c hd w → okc c → Go 18 (lwL i) [] w
  | 0, i, hn, hi, c, hd, w, hX, hM, hO => lw_head hGo hL (by omega) hX hM hO (fun h => absurd h (by omega))
  | n + 1, i, hn, hi, c, hd, w, hX, hM, hO => lw_head hGo hL (by omega) hX hM hO (fun h c hd w hX hM hO => by
    refine hGo 20 _ _ rfl _ _ _ ?_
    show Go 18 [some (.inr 33), some (.inr 0), some (.inr 24), some (.inl (nI i + nI 4))] [] w
    rw [nI_add]
    exact lw_loop hGo hL n (i + 4) (by omega) (by omega) c hd w hX hM hO)
