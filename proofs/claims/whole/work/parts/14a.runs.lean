/-! RUNS OF INSTRUCTIONS, by program (wip/whole/qgen.py): what each comes to -/
theorem qq_RO_size_0 {post : ma_P} {Go : ma_G} {w : ma_W} {p0 : Nat} (hGo : ma_cl k_RO_size zf_RO e_RO_size none 1 s_RO_size post Go)
    (h : ma_isk 3 p0 (post (w.1 p0 1) w)) :
    Go 0 [some (.inr p0)] [] w := hGo 0 _ _ rfl _ _ _ h
theorem q_RO_size_0 {post : ma_P} {Go : ma_G} {w : ma_W} {p0 : Nat} (hGo : ma_cl k_RO_size zf_RO e_RO_size none 1 s_RO_size post Go) (h0 : zR p0)
    (h : post (w.1 p0 1) w) :
    Go 0 [some (.inr p0)] [] w := qq_RO_size_0 hGo (by simp only [ma_isk_of (zR_s h0), zR_m h0, ma_ark_of (zR_a h0)]; exact h)
theorem qq_RO_has_0 {post : ma_P} {Go : ma_G} {w : ma_W} {p0 : Nat} {x1 : Int32} (hGo : ma_cl k_RO_has zf_RO e_RO_has none 2 s_RO_has post Go)
    (h : (x1 < (nI 0) → Go 16 [some (.inr p0), some (.inl x1)] [] w) ∧ (¬ (x1 < (nI 0)) → ma_isk 3 p0 (((w.1 p0 1) ≤ x1 → Go 16 [some (.inr p0), some (.inl x1)] [] w) ∧ (¬ ((w.1 p0 1) ≤ x1) → Go 17 [some (.inr p0), some (.inl x1)] [.inl (nI 1)] w)))) :
    Go 0 [some (.inr p0), some (.inl x1)] [] w := hGo 0 _ _ rfl _ _ _ h
theorem q_RO_has_0 {post : ma_P} {Go : ma_G} {w : ma_W} {p0 : Nat} {x1 : Int32} (hGo : ma_cl k_RO_has zf_RO e_RO_has none 2 s_RO_has post Go) (h0 : zR p0)
    (h : (x1 < (nI 0) → Go 16 [some (.inr p0), some (.inl x1)] [] w) ∧ (¬ (x1 < (nI 0)) → ((w.1 p0 1) ≤ x1 → Go 16 [some (.inr p0), some (.inl x1)] [] w) ∧ (¬ ((w.1 p0 1) ≤ x1) → Go 17 [some (.inr p0), some (.inl x1)] [.inl (nI 1)] w))) :
    Go 0 [some (.inr p0), some (.inl x1)] [] w := qq_RO_has_0 hGo (by simp only [ma_isk_of (zR_s h0), zR_m h0, ma_ark_of (zR_a h0)]; exact h)
theorem q_RO_has_16 {post : ma_P} {Go : ma_G} {w : ma_W} {p0 : Nat} {x1 : Int32} (hGo : ma_cl k_RO_has zf_RO e_RO_has none 2 s_RO_has post Go)
    (h : Go 17 [some (.inr p0), some (.inl x1)] [.inl (nI 0)] w) :
    Go 16 [some (.inr p0), some (.inl x1)] [] w := hGo 1 _ _ rfl _ _ _ h
theorem q_RO_has_17 {post : ma_P} {Go : ma_G} {w : ma_W} {p0 : Nat} {x1 : Int32} {y0 : Int32} (hGo : ma_cl k_RO_has zf_RO e_RO_has none 2 s_RO_has post Go)
    (h : (y0 = 0 ∨ y0 = 1) ∧ post y0 w) :
    Go 17 [some (.inr p0), some (.inl x1)] [.inl y0] w := hGo 2 _ _ rfl _ _ _ h
theorem qq_RO_get_0 {post : ma_P} {Go : ma_G} {w : ma_W} {p0 : Nat} {x1 : Int32} (hGo : ma_cl k_RO_get zf_RO e_RO_get none 1 s_RO_get post Go)
    (h : ma_isk 3 p0 (ma_ark (zr w.2.1 p0 0) fun n1 => ∃ j1 : Nat, j1 < n1 ∧ x1 = nI j1 ∧ (post (w.2.2 (zr w.2.1 p0 0) j1) w))) :
    Go 0 [some (.inr p0), some (.inl x1)] [] w := hGo 0 _ _ rfl _ _ _ h
theorem q_RO_get_0 {post : ma_P} {Go : ma_G} {w : ma_W} {p0 : Nat} {x1 : Int32} (hGo : ma_cl k_RO_get zf_RO e_RO_get none 1 s_RO_get post Go) (h0 : zR p0)
    (h : ∃ j1 : Nat, j1 < 10 ∧ x1 = nI j1 ∧ (post (w.2.2 (p0 + 1) j1) w)) :
    Go 0 [some (.inr p0), some (.inl x1)] [] w := qq_RO_get_0 hGo (by simp only [ma_isk_of (zR_s h0), zR_m h0, ma_ark_of (zR_a h0)]; exact h)
theorem qq_RO_last_0 {post : ma_P} {Go : ma_G} {w : ma_W} {p0 : Nat} (hGo : ma_cl k_RO_last zf_RO e_RO_last none 1 s_RO_last post Go)
    (h : ma_isk 3 p0 (((w.1 p0 1) ≤ (nI 0) → Go 21 [some (.inr p0)] [] w) ∧ (¬ ((w.1 p0 1) ≤ (nI 0)) → ma_isk 3 p0 (ma_isk 3 p0 (ma_ark (zr w.2.1 p0 0) fun n1 => ∃ j1 : Nat, j1 < n1 ∧ ((w.1 p0 1) - (nI 1)) = nI j1 ∧ (Go 22 [some (.inr p0)] [.inl (w.2.2 (zr w.2.1 p0 0) j1)] w)))))) :
    Go 0 [some (.inr p0)] [] w := hGo 0 _ _ rfl _ _ _ h
theorem q_RO_last_0 {post : ma_P} {Go : ma_G} {w : ma_W} {p0 : Nat} (hGo : ma_cl k_RO_last zf_RO e_RO_last none 1 s_RO_last post Go) (h0 : zR p0)
    (h : ((w.1 p0 1) ≤ (nI 0) → Go 21 [some (.inr p0)] [] w) ∧ (¬ ((w.1 p0 1) ≤ (nI 0)) → ∃ j1 : Nat, j1 < 10 ∧ ((w.1 p0 1) - (nI 1)) = nI j1 ∧ (Go 22 [some (.inr p0)] [.inl (w.2.2 (p0 + 1) j1)] w))) :
    Go 0 [some (.inr p0)] [] w := qq_RO_last_0 hGo (by simp only [ma_isk_of (zR_s h0), zR_m h0, ma_ark_of (zR_a h0)]; exact h)
theorem q_RO_last_21 {post : ma_P} {Go : ma_G} {w : ma_W} {p0 : Nat} (hGo : ma_cl k_RO_last zf_RO e_RO_last none 1 s_RO_last post Go)
    (h : Go 22 [some (.inr p0)] [.inl (nI 0)] w) :
    Go 21 [some (.inr p0)] [] w := hGo 1 _ _ rfl _ _ _ h
theorem q_RO_last_22 {post : ma_P} {Go : ma_G} {w : ma_W} {p0 : Nat} {y0 : Int32} (hGo : ma_cl k_RO_last zf_RO e_RO_last none 1 s_RO_last post Go)
    (h : post y0 w) :
    Go 22 [some (.inr p0)] [.inl y0] w := hGo 2 _ _ rfl _ _ _ h
theorem qq_RO_clear_0 {post : ma_P} {Go : ma_G} {w : ma_W} {p0 : Nat} (hGo : ma_cl k_RO_clear zf_RO e_RO_clear none 0 s_RO_clear post Go)
    (h : ma_isk 3 p0 (post 0 (ma_up w.1 p0 1 (nI 0), w.2.1, w.2.2))) :
    Go 0 [some (.inr p0)] [] w := hGo 0 _ _ rfl _ _ _ h
theorem q_RO_clear_0 {post : ma_P} {Go : ma_G} {w : ma_W} {p0 : Nat} (hGo : ma_cl k_RO_clear zf_RO e_RO_clear none 0 s_RO_clear post Go) (h0 : zR p0)
    (h : post 0 (ma_up w.1 p0 1 (nI 0), w.2.1, w.2.2)) :
    Go 0 [some (.inr p0)] [] w := qq_RO_clear_0 hGo (by simp only [ma_isk_of (zR_s h0), zR_m h0, ma_ark_of (zR_a h0)]; exact h)
theorem qq_RO_add_0 {post : ma_P} {Go : ma_G} {w : ma_W} {p0 : Nat} {x1 : Int32} (hGo : ma_cl k_RO_add zf_RO e_RO_add none 0 s_RO_add post Go)
    (h : ma_isk 3 p0 (((nI 10) ≤ (w.1 p0 1) → Go 29 [some (.inr p0), some (.inl x1)] [] w) ∧ (¬ ((nI 10) ≤ (w.1 p0 1)) → ma_isk 3 p0 (ma_isk 3 p0 (ma_ark (zr w.2.1 p0 0) fun n1 => ∃ j1 : Nat, j1 < n1 ∧ (w.1 p0 1) = nI j1 ∧ (ma_isk 3 p0 (ma_isk 3 p0 (Go 29 [some (.inr p0), some (.inl x1)] [] (ma_up w.1 p0 1 ((w.1 p0 1) + (nI 1)), w.2.1, ma_up w.2.2 (zr w.2.1 p0 0) j1 x1))))))))) :
    Go 0 [some (.inr p0), some (.inl x1)] [] w := hGo 0 _ _ rfl _ _ _ h
theorem q_RO_add_0 {post : ma_P} {Go : ma_G} {w : ma_W} {p0 : Nat} {x1 : Int32} (hGo : ma_cl k_RO_add zf_RO e_RO_add none 0 s_RO_add post Go) (h0 : zR p0)
    (h : ((nI 10) ≤ (w.1 p0 1) → Go 29 [some (.inr p0), some (.inl x1)] [] w) ∧ (¬ ((nI 10) ≤ (w.1 p0 1)) → ∃ j1 : Nat, j1 < 10 ∧ (w.1 p0 1) = nI j1 ∧ (Go 29 [some (.inr p0), some (.inl x1)] [] (ma_up w.1 p0 1 ((w.1 p0 1) + (nI 1)), w.2.1, ma_up w.2.2 (p0 + 1) j1 x1)))) :
    Go 0 [some (.inr p0), some (.inl x1)] [] w := qq_RO_add_0 hGo (by simp only [ma_isk_of (zR_s h0), zR_m h0, ma_ark_of (zR_a h0)]; exact h)
theorem q_RO_add_29 {post : ma_P} {Go : ma_G} {w : ma_W} {p0 : Nat} {x1 : Int32} (hGo : ma_cl k_RO_add zf_RO e_RO_add none 0 s_RO_add post Go)
    (h : post 0 w) :
    Go 29 [some (.inr p0), some (.inl x1)] [] w := hGo 1 _ _ rfl _ _ _ h
theorem qq_RO_removeAt_0 {t_0 : ma_T} {post : ma_P} {Go : ma_G} {w : ma_W} {p0 : Nat} {x1 : Int32} {o2 : Option ma_V} (hGo : ma_cl k_RO_removeAt zf_RO (e_RO_removeAt t_0) none 0 s_RO_removeAt post Go)
    (h : ma_isk 3 p0 (t_0 [.inr p0, .inl x1] w (fun z1 w1 => (¬ z1 = (nI 0) → Go 9 [some (.inr p0), some (.inl x1), o2] [] w1) ∧ (¬ (¬ z1 = (nI 0)) → post 0 w1)))) :
    Go 0 [some (.inr p0), some (.inl x1), o2] [] w := hGo 0 _ _ rfl _ _ _ h
theorem q_RO_removeAt_0 {t_0 : ma_T} {post : ma_P} {Go : ma_G} {w : ma_W} {p0 : Nat} {x1 : Int32} {o2 : Option ma_V} (hGo : ma_cl k_RO_removeAt zf_RO (e_RO_removeAt t_0) none 0 s_RO_removeAt post Go) (h0 : zR p0)
    (h : t_0 [.inr p0, .inl x1] w (fun z1 w1 => (¬ z1 = (nI 0) → Go 9 [some (.inr p0), some (.inl x1), o2] [] w1) ∧ (¬ (¬ z1 = (nI 0)) → post 0 w1))) :
    Go 0 [some (.inr p0), some (.inl x1), o2] [] w := qq_RO_removeAt_0 hGo (by simp only [ma_isk_of (zR_s h0), zR_m h0, ma_ark_of (zR_a h0)]; exact h)
theorem q_RO_removeAt_9 {t_0 : ma_T} {post : ma_P} {Go : ma_G} {w : ma_W} {p0 : Nat} {x1 : Int32} {o2 : Option ma_V} (hGo : ma_cl k_RO_removeAt zf_RO (e_RO_removeAt t_0) none 0 s_RO_removeAt post Go)
    (h : Go 13 [some (.inr p0), some (.inl x1), some (.inl (x1 + (nI 1)))] [] w) :
    Go 9 [some (.inr p0), some (.inl x1), o2] [] w := hGo 1 _ _ rfl _ _ _ h
theorem qq_RO_removeAt_13 {t_0 : ma_T} {post : ma_P} {Go : ma_G} {w : ma_W} {p0 : Nat} {x1 : Int32} {x2 : Int32} (hGo : ma_cl k_RO_removeAt zf_RO (e_RO_removeAt t_0) none 0 s_RO_removeAt post Go)
    (h : ma_isk 3 p0 (((w.1 p0 1) ≤ x2 → Go 41 [some (.inr p0), some (.inl x1), some (.inl x2)] [] w) ∧ (¬ ((w.1 p0 1) ≤ x2) → ma_isk 3 p0 (ma_isk 3 p0 (ma_ark (zr w.2.1 p0 0) fun n1 => ∃ j1 : Nat, j1 < n1 ∧ x2 = nI j1 ∧ (ma_ark (zr w.2.1 p0 0) fun n2 => ∃ j2 : Nat, j2 < n2 ∧ (x2 - (nI 1)) = nI j2 ∧ (Go 13 [some (.inr p0), some (.inl x1), some (.inl (x2 + nI 1))] [] (w.1, w.2.1, ma_up w.2.2 (zr w.2.1 p0 0) j2 (w.2.2 (zr w.2.1 p0 0) j1))))))))) :
    Go 13 [some (.inr p0), some (.inl x1), some (.inl x2)] [] w := hGo 2 _ _ rfl _ _ _ h
theorem q_RO_removeAt_13 {t_0 : ma_T} {post : ma_P} {Go : ma_G} {w : ma_W} {p0 : Nat} {x1 : Int32} {x2 : Int32} (hGo : ma_cl k_RO_removeAt zf_RO (e_RO_removeAt t_0) none 0 s_RO_removeAt post Go) (h0 : zR p0)
    (h : ((w.1 p0 1) ≤ x2 → Go 41 [some (.inr p0), some (.inl x1), some (.inl x2)] [] w) ∧ (¬ ((w.1 p0 1) ≤ x2) → ∃ j1 : Nat, j1 < 10 ∧ x2 = nI j1 ∧ (∃ j2 : Nat, j2 < 10 ∧ (x2 - (nI 1)) = nI j2 ∧ (Go 13 [some (.inr p0), some (.inl x1), some (.inl (x2 + nI 1))] [] (w.1, w.2.1, ma_up w.2.2 (p0 + 1) j2 (w.2.2 (p0 + 1) j1)))))) :
    Go 13 [some (.inr p0), some (.inl x1), some (.inl x2)] [] w := qq_RO_removeAt_13 hGo (by simp only [ma_isk_of (zR_s h0), zR_m h0, ma_ark_of (zR_a h0)]; exact h)
theorem qq_RO_removeAt_41 {t_0 : ma_T} {post : ma_P} {Go : ma_G} {w : ma_W} {p0 : Nat} {x1 : Int32} {x2 : Int32} (hGo : ma_cl k_RO_removeAt zf_RO (e_RO_removeAt t_0) none 0 s_RO_removeAt post Go)
    (h : ma_isk 3 p0 (ma_isk 3 p0 (post 0 (ma_up w.1 p0 1 ((w.1 p0 1) - (nI 1)), w.2.1, w.2.2)))) :
    Go 41 [some (.inr p0), some (.inl x1), some (.inl x2)] [] w := hGo 3 _ _ rfl _ _ _ h
theorem q_RO_removeAt_41 {t_0 : ma_T} {post : ma_P} {Go : ma_G} {w : ma_W} {p0 : Nat} {x1 : Int32} {x2 : Int32} (hGo : ma_cl k_RO_removeAt zf_RO (e_RO_removeAt t_0) none 0 s_RO_removeAt post Go) (h0 : zR p0)
    (h : post 0 (ma_up w.1 p0 1 ((w.1 p0 1) - (nI 1)), w.2.1, w.2.2)) :
    Go 41 [some (.inr p0), some (.inl x1), some (.inl x2)] [] w := qq_RO_removeAt_41 hGo (by simp only [ma_isk_of (zR_s h0), zR_m h0, ma_ark_of (zR_a h0)]; exact h)
theorem q_RO_exchangePoints_0 {post : ma_P} {Go : ma_G} {w : ma_W} {p0 : Nat} {x1 : Int32} {x2 : Int32} {o3 : Option ma_V} {o4 : Option ma_V} (hGo : ma_cl k_RO_exchangePoints zf_RO e_RO_exchangePoints none 0 s_RO_exchangePoints post Go)
    (h : Go 2 [some (.inr p0), some (.inl x1), some (.inl x2), some (.inl (nI 0)), o4] [] w) :
    Go 0 [some (.inr p0), some (.inl x1), some (.inl x2), o3, o4] [] w := hGo 0 _ _ rfl _ _ _ h
theorem qq_RO_exchangePoints_2 {post : ma_P} {Go : ma_G} {w : ma_W} {p0 : Nat} {x1 : Int32} {x2 : Int32} {x3 : Int32} {o4 : Option ma_V} (hGo : ma_cl k_RO_exchangePoints zf_RO e_RO_exchangePoints none 0 s_RO_exchangePoints post Go)
    (h : ma_isk 3 p0 (((w.1 p0 1) ≤ x3 → Go 67 [some (.inr p0), some (.inl x1), some (.inl x2), some (.inl x3), o4] [] w) ∧ (¬ ((w.1 p0 1) ≤ x3) → ma_isk 3 p0 (ma_ark (zr w.2.1 p0 0) fun n1 => ∃ j1 : Nat, j1 < n1 ∧ x3 = nI j1 ∧ (ma_isk 3 p0 (ma_ark (zr w.2.1 p0 0) fun n2 => ∃ j2 : Nat, j2 < n2 ∧ x3 = nI j2 ∧ (((((w.2.2 (zr w.2.1 p0 0) j1) >>> (x1 &&& 31)) &&& (nI 1)) = (((w.2.2 (zr w.2.1 p0 0) j2) >>> (x2 &&& 31)) &&& (nI 1)) → Go 37 [some (.inr p0), some (.inl x1), some (.inl x2), some (.inl x3), o4] [] w) ∧ (¬ ((((w.2.2 (zr w.2.1 p0 0) j1) >>> (x1 &&& 31)) &&& (nI 1)) = (((w.2.2 (zr w.2.1 p0 0) j2) >>> (x2 &&& 31)) &&& (nI 1))) → Go 38 [some (.inr p0), some (.inl x1), some (.inl x2), some (.inl x3), o4] [.inl (nI 1)] w)))))))) :
    Go 2 [some (.inr p0), some (.inl x1), some (.inl x2), some (.inl x3), o4] [] w := hGo 1 _ _ rfl _ _ _ h
theorem q_RO_exchangePoints_2 {post : ma_P} {Go : ma_G} {w : ma_W} {p0 : Nat} {x1 : Int32} {x2 : Int32} {x3 : Int32} {o4 : Option ma_V} (hGo : ma_cl k_RO_exchangePoints zf_RO e_RO_exchangePoints none 0 s_RO_exchangePoints post Go) (h0 : zR p0)
    (h : ((w.1 p0 1) ≤ x3 → Go 67 [some (.inr p0), some (.inl x1), some (.inl x2), some (.inl x3), o4] [] w) ∧ (¬ ((w.1 p0 1) ≤ x3) → ∃ j1 : Nat, j1 < 10 ∧ x3 = nI j1 ∧ (∃ j2 : Nat, j2 < 10 ∧ x3 = nI j2 ∧ (((((w.2.2 (p0 + 1) j1) >>> (x1 &&& 31)) &&& (nI 1)) = (((w.2.2 (p0 + 1) j2) >>> (x2 &&& 31)) &&& (nI 1)) → Go 37 [some (.inr p0), some (.inl x1), some (.inl x2), some (.inl x3), o4] [] w) ∧ (¬ ((((w.2.2 (p0 + 1) j1) >>> (x1 &&& 31)) &&& (nI 1)) = (((w.2.2 (p0 + 1) j2) >>> (x2 &&& 31)) &&& (nI 1))) → Go 38 [some (.inr p0), some (.inl x1), some (.inl x2), some (.inl x3), o4] [.inl (nI 1)] w))))) :
    Go 2 [some (.inr p0), some (.inl x1), some (.inl x2), some (.inl x3), o4] [] w := qq_RO_exchangePoints_2 hGo (by simp only [ma_isk_of (zR_s h0), zR_m h0, ma_ark_of (zR_a h0)]; exact h)
theorem q_RO_exchangePoints_37 {post : ma_P} {Go : ma_G} {w : ma_W} {p0 : Nat} {x1 : Int32} {x2 : Int32} {x3 : Int32} {o4 : Option ma_V} (hGo : ma_cl k_RO_exchangePoints zf_RO e_RO_exchangePoints none 0 s_RO_exchangePoints post Go)
    (h : Go 38 [some (.inr p0), some (.inl x1), some (.inl x2), some (.inl x3), o4] [.inl (nI 0)] w) :
    Go 37 [some (.inr p0), some (.inl x1), some (.inl x2), some (.inl x3), o4] [] w := hGo 2 _ _ rfl _ _ _ h
theorem qq_RO_exchangePoints_38 {post : ma_P} {Go : ma_G} {w : ma_W} {p0 : Nat} {x1 : Int32} {x2 : Int32} {x3 : Int32} {o4 : Option ma_V} {y0 : Int32} (hGo : ma_cl k_RO_exchangePoints zf_RO e_RO_exchangePoints none 0 s_RO_exchangePoints post Go)
    (h : (y0 = (nI 0) → Go 61 [some (.inr p0), some (.inl x1), some (.inl x2), some (.inl x3), some (.inl y0)] [] w) ∧ (¬ (y0 = (nI 0)) → ma_isk 3 p0 (ma_ark (zr w.2.1 p0 0) fun n1 => ∃ j1 : Nat, j1 < n1 ∧ x3 = nI j1 ∧ (ma_ark (zr w.2.1 p0 0) fun n2 => ∃ j2 : Nat, j2 < n2 ∧ x3 = nI j2 ∧ (Go 61 [some (.inr p0), some (.inl x1), some (.inl x2), some (.inl x3), some (.inl y0)] [] (w.1, w.2.1, ma_up w.2.2 (zr w.2.1 p0 0) j2 ((w.2.2 (zr w.2.1 p0 0) j1) ^^^ (((nI 1) <<< (x1 &&& 31)) ||| ((nI 1) <<< (x2 &&& 31)))))))))) :
    Go 38 [some (.inr p0), some (.inl x1), some (.inl x2), some (.inl x3), o4] [.inl y0] w := hGo 3 _ _ rfl _ _ _ h
theorem q_RO_exchangePoints_38 {post : ma_P} {Go : ma_G} {w : ma_W} {p0 : Nat} {x1 : Int32} {x2 : Int32} {x3 : Int32} {o4 : Option ma_V} {y0 : Int32} (hGo : ma_cl k_RO_exchangePoints zf_RO e_RO_exchangePoints none 0 s_RO_exchangePoints post Go) (h0 : zR p0)
    (h : (y0 = (nI 0) → Go 61 [some (.inr p0), some (.inl x1), some (.inl x2), some (.inl x3), some (.inl y0)] [] w) ∧ (¬ (y0 = (nI 0)) → ∃ j1 : Nat, j1 < 10 ∧ x3 = nI j1 ∧ (∃ j2 : Nat, j2 < 10 ∧ x3 = nI j2 ∧ (Go 61 [some (.inr p0), some (.inl x1), some (.inl x2), some (.inl x3), some (.inl y0)] [] (w.1, w.2.1, ma_up w.2.2 (p0 + 1) j2 ((w.2.2 (p0 + 1) j1) ^^^ (((nI 1) <<< (x1 &&& 31)) ||| ((nI 1) <<< (x2 &&& 31))))))))) :
    Go 38 [some (.inr p0), some (.inl x1), some (.inl x2), some (.inl x3), o4] [.inl y0] w := qq_RO_exchangePoints_38 hGo (by simp only [ma_isk_of (zR_s h0), zR_m h0, ma_ark_of (zR_a h0)]; exact h)
theorem q_RO_exchangePoints_61 {post : ma_P} {Go : ma_G} {w : ma_W} {p0 : Nat} {x1 : Int32} {x2 : Int32} {x3 : Int32} {x4 : Int32} (hGo : ma_cl k_RO_exchangePoints zf_RO e_RO_exchangePoints none 0 s_RO_exchangePoints post Go)
    (h : Go 2 [some (.inr p0), some (.inl x1), some (.inl x2), some (.inl (x3 + nI 1)), some (.inl x4)] [] w) :
    Go 61 [some (.inr p0), some (.inl x1), some (.inl x2), some (.inl x3), some (.inl x4)] [] w := hGo 4 _ _ rfl _ _ _ h
theorem q_RO_exchangePoints_67 {post : ma_P} {Go : ma_G} {w : ma_W} {p0 : Nat} {x1 : Int32} {x2 : Int32} {x3 : Int32} {o4 : Option ma_V} (hGo : ma_cl k_RO_exchangePoints zf_RO e_RO_exchangePoints none 0 s_RO_exchangePoints post Go)
    (h : post 0 w) :
    Go 67 [some (.inr p0), some (.inl x1), some (.inl x2), some (.inl x3), o4] [] w := hGo 5 _ _ rfl _ _ _ h
theorem qq_LI_restart_0 {post : ma_P} {Go : ma_G} {w : ma_W} {p0 : Nat} {x1 : Int32} (hGo : ma_cl k_LI_restart zf_LI e_LI_restart none 0 s_LI_restart post Go)
    (h : ma_isk 4 p0 (ma_isk 4 p0 (post 0 (ma_up (ma_up w.1 p0 3 x1) p0 4 (nI 0), w.2.1, w.2.2)))) :
    Go 0 [some (.inr p0), some (.inl x1)] [] w := hGo 0 _ _ rfl _ _ _ h
theorem q_LI_restart_0 {post : ma_P} {Go : ma_G} {w : ma_W} {p0 : Nat} {x1 : Int32} (hGo : ma_cl k_LI_restart zf_LI e_LI_restart none 0 s_LI_restart post Go) (h0 : zL p0)
    (h : post 0 (ma_up (ma_up w.1 p0 3 x1) p0 4 (nI 0), w.2.1, w.2.2)) :
    Go 0 [some (.inr p0), some (.inl x1)] [] w := qq_LI_restart_0 hGo (by simp only [ma_isk_of (zL_s h0), zL_m1 h0, zL_m2 h0, zL_m3 h0, ma_ark_of (zL_a1 h0), ma_ark_of (zL_a2 h0), ma_ark_of (zL_a3 h0)]; exact h)
theorem qq_LI_addEmptyRow_0 {post : ma_P} {Go : ma_G} {w : ma_W} {p0 : Nat} {x1 : Int32} {o2 : Option ma_V} (hGo : ma_cl k_LI_addEmptyRow zf_LI e_LI_addEmptyRow none 0 s_LI_addEmptyRow post Go)
    (h : ma_isk 4 p0 (ma_ark (zr w.2.1 p0 1) fun n1 => ∃ j1 : Nat, j1 < n1 ∧ (nI 0) = nI j1 ∧ (Go 9 [some (.inr p0), some (.inl x1), some (.inl (nI 0))] [] (w.1, w.2.1, ma_up w.2.2 (zr w.2.1 p0 1) j1 x1)))) :
    Go 0 [some (.inr p0), some (.inl x1), o2] [] w := hGo 0 _ _ rfl _ _ _ h
theorem q_LI_addEmptyRow_0 {post : ma_P} {Go : ma_G} {w : ma_W} {p0 : Nat} {x1 : Int32} {o2 : Option ma_V} (hGo : ma_cl k_LI_addEmptyRow zf_LI e_LI_addEmptyRow none 0 s_LI_addEmptyRow post Go) (h0 : zL p0)
    (h : ∃ j1 : Nat, j1 < 60 ∧ (nI 0) = nI j1 ∧ (Go 9 [some (.inr p0), some (.inl x1), some (.inl (nI 0))] [] (w.1, w.2.1, ma_up w.2.2 (p0 + 2) j1 x1))) :
    Go 0 [some (.inr p0), some (.inl x1), o2] [] w := qq_LI_addEmptyRow_0 hGo (by simp only [ma_isk_of (zL_s h0), zL_m1 h0, zL_m2 h0, zL_m3 h0, ma_ark_of (zL_a1 h0), ma_ark_of (zL_a2 h0), ma_ark_of (zL_a3 h0)]; exact h)
theorem qq_LI_addEmptyRow_9 {post : ma_P} {Go : ma_G} {w : ma_W} {p0 : Nat} {x1 : Int32} {x2 : Int32} (hGo : ma_cl k_LI_addEmptyRow zf_LI e_LI_addEmptyRow none 0 s_LI_addEmptyRow post Go)
    (h : ((nI 6) ≤ x2 → Go 28 [some (.inr p0), some (.inl x1), some (.inl x2)] [] w) ∧ (¬ ((nI 6) ≤ x2) → ma_isk 4 p0 (ma_ark (zr w.2.1 p0 2) fun n1 => ∃ j1 : Nat, j1 < n1 ∧ x2 = nI j1 ∧ (Go 9 [some (.inr p0), some (.inl x1), some (.inl (x2 + nI 1))] [] (w.1, w.2.1, ma_up w.2.2 (zr w.2.1 p0 2) j1 (nI 0)))))) :
    Go 9 [some (.inr p0), some (.inl x1), some (.inl x2)] [] w := hGo 1 _ _ rfl _ _ _ h
theorem q_LI_addEmptyRow_9 {post : ma_P} {Go : ma_G} {w : ma_W} {p0 : Nat} {x1 : Int32} {x2 : Int32} (hGo : ma_cl k_LI_addEmptyRow zf_LI e_LI_addEmptyRow none 0 s_LI_addEmptyRow post Go) (h0 : zL p0)
    (h : ((nI 6) ≤ x2 → Go 28 [some (.inr p0), some (.inl x1), some (.inl x2)] [] w) ∧ (¬ ((nI 6) ≤ x2) → ∃ j1 : Nat, j1 < 360 ∧ x2 = nI j1 ∧ (Go 9 [some (.inr p0), some (.inl x1), some (.inl (x2 + nI 1))] [] (w.1, w.2.1, ma_up w.2.2 (p0 + 3) j1 (nI 0))))) :
    Go 9 [some (.inr p0), some (.inl x1), some (.inl x2)] [] w := qq_LI_addEmptyRow_9 hGo (by simp only [ma_isk_of (zL_s h0), zL_m1 h0, zL_m2 h0, zL_m3 h0, ma_ark_of (zL_a1 h0), ma_ark_of (zL_a2 h0), ma_ark_of (zL_a3 h0)]; exact h)
theorem qq_LI_addEmptyRow_28 {post : ma_P} {Go : ma_G} {w : ma_W} {p0 : Nat} {x1 : Int32} {x2 : Int32} (hGo : ma_cl k_LI_addEmptyRow zf_LI e_LI_addEmptyRow none 0 s_LI_addEmptyRow post Go)
    (h : ma_isk 4 p0 (post 0 (ma_up w.1 p0 4 (nI 1), w.2.1, w.2.2))) :
    Go 28 [some (.inr p0), some (.inl x1), some (.inl x2)] [] w := hGo 2 _ _ rfl _ _ _ h
theorem q_LI_addEmptyRow_28 {post : ma_P} {Go : ma_G} {w : ma_W} {p0 : Nat} {x1 : Int32} {x2 : Int32} (hGo : ma_cl k_LI_addEmptyRow zf_LI e_LI_addEmptyRow none 0 s_LI_addEmptyRow post Go) (h0 : zL p0)
    (h : post 0 (ma_up w.1 p0 4 (nI 1), w.2.1, w.2.2)) :
    Go 28 [some (.inr p0), some (.inl x1), some (.inl x2)] [] w := qq_LI_addEmptyRow_28 hGo (by simp only [ma_isk_of (zL_s h0), zL_m1 h0, zL_m2 h0, zL_m3 h0, ma_ark_of (zL_a1 h0), ma_ark_of (zL_a2 h0), ma_ark_of (zL_a3 h0)]; exact h)
theorem qq_LI_addRow_0 {t_0 t_1 t_2 t_3 t_4 : ma_T} {post : ma_P} {Go : ma_G} {w : ma_W} {p0 : Nat} {p1 : Nat} {o3 : Option ma_V} (hGo : ma_cl k_LI_addRow zf_LI (e_LI_addRow t_0 t_1 t_2 t_3 t_4) none 0 s_LI_addRow post Go)
    (h : ma_isk 4 p0 (t_0 [.inr p0] w (fun z1 w1 => (¬ z1 = (nI 0) → Go 18 [some (.inr p0), some (.inr p1), some (.inr 1), o3] [] w1) ∧ (¬ (¬ z1 = (nI 0)) → ma_isk 3 p1 (t_1 [.inr p1] w1 (fun z2 w2 => ma_isk 4 p0 ((z2 = (w2.1 p0 3) → Go 19 [some (.inr p0), some (.inr p1), some (.inr 1), o3] [] w2) ∧ (¬ (z2 = (w2.1 p0 3)) → Go 18 [some (.inr p0), some (.inr p1), some (.inr 1), o3] [] w2)))))))) :
    Go 0 [some (.inr p0), some (.inr p1), some (.inr 1), o3] [] w := hGo 0 _ _ rfl _ _ _ h
theorem q_LI_addRow_0 {t_0 t_1 t_2 t_3 t_4 : ma_T} {post : ma_P} {Go : ma_G} {w : ma_W} {p0 : Nat} {p1 : Nat} {o3 : Option ma_V} (hGo : ma_cl k_LI_addRow zf_LI (e_LI_addRow t_0 t_1 t_2 t_3 t_4) none 0 s_LI_addRow post Go) (h0 : zL p0) (h1 : zR p1)
    (h : t_0 [.inr p0] w (fun z1 w1 => (¬ z1 = (nI 0) → Go 18 [some (.inr p0), some (.inr p1), some (.inr 1), o3] [] w1) ∧ (¬ (¬ z1 = (nI 0)) → t_1 [.inr p1] w1 (fun z2 w2 => (z2 = (w2.1 p0 3) → Go 19 [some (.inr p0), some (.inr p1), some (.inr 1), o3] [] w2) ∧ (¬ (z2 = (w2.1 p0 3)) → Go 18 [some (.inr p0), some (.inr p1), some (.inr 1), o3] [] w2))))) :
    Go 0 [some (.inr p0), some (.inr p1), some (.inr 1), o3] [] w := qq_LI_addRow_0 hGo (by simp only [ma_isk_of (zL_s h0), zL_m1 h0, zL_m2 h0, zL_m3 h0, ma_ark_of (zL_a1 h0), ma_ark_of (zL_a2 h0), ma_ark_of (zL_a3 h0), ma_isk_of (zR_s h1), zR_m h1, ma_ark_of (zR_a h1)]; exact h)
theorem q_LI_addRow_18 {t_0 t_1 t_2 t_3 t_4 : ma_T} {post : ma_P} {Go : ma_G} {w : ma_W} {p0 : Nat} {p1 : Nat} {o3 : Option ma_V} (hGo : ma_cl k_LI_addRow zf_LI (e_LI_addRow t_0 t_1 t_2 t_3 t_4) none 0 s_LI_addRow post Go)
    (h : post 0 w) :
    Go 18 [some (.inr p0), some (.inr p1), some (.inr 1), o3] [] w := hGo 1 _ _ rfl _ _ _ h
theorem q_LI_addRow_19 {t_0 t_1 t_2 t_3 t_4 : ma_T} {post : ma_P} {Go : ma_G} {w : ma_W} {p0 : Nat} {p1 : Nat} {o3 : Option ma_V} (hGo : ma_cl k_LI_addRow zf_LI (e_LI_addRow t_0 t_1 t_2 t_3 t_4) none 0 s_LI_addRow post Go)
    (h : Go 21 [some (.inr p0), some (.inr p1), some (.inr 1), some (.inl (nI 0))] [] w) :
    Go 19 [some (.inr p0), some (.inr p1), some (.inr 1), o3] [] w := hGo 2 _ _ rfl _ _ _ h
theorem qq_LI_addRow_21 {t_0 t_1 t_2 t_3 t_4 : ma_T} {post : ma_P} {Go : ma_G} {w : ma_W} {p0 : Nat} {p1 : Nat} {x3 : Int32} (hGo : ma_cl k_LI_addRow zf_LI (e_LI_addRow t_0 t_1 t_2 t_3 t_4) none 0 s_LI_addRow post Go)
    (h : ma_isk 4 p0 (((w.1 p0 3) ≤ x3 → Go 54 [some (.inr p0), some (.inr p1), some (.inr 1), some (.inl x3)] [] w) ∧ (¬ ((w.1 p0 3) ≤ x3) → ma_isk 4 p0 (ma_isk 4 p0 (ma_isk 3 p1 (t_2 [.inr p1, .inl x3] w (fun z1 w1 => ma_ark (zr w.2.1 p0 0) fun n2 => ∃ j2 : Nat, j2 < n2 ∧ (((w.1 p0 4) * (nI 10)) + x3) = nI j2 ∧ (Go 21 [some (.inr p0), some (.inr p1), some (.inr 1), some (.inl (x3 + nI 1))] [] (w1.1, w1.2.1, ma_up w1.2.2 (zr w.2.1 p0 0) j2 z1))))))))) :
    Go 21 [some (.inr p0), some (.inr p1), some (.inr 1), some (.inl x3)] [] w := hGo 3 _ _ rfl _ _ _ h
theorem q_LI_addRow_21 {t_0 t_1 t_2 t_3 t_4 : ma_T} {post : ma_P} {Go : ma_G} {w : ma_W} {p0 : Nat} {p1 : Nat} {x3 : Int32} (hGo : ma_cl k_LI_addRow zf_LI (e_LI_addRow t_0 t_1 t_2 t_3 t_4) none 0 s_LI_addRow post Go) (h0 : zL p0) (h1 : zR p1)
    (h : ((w.1 p0 3) ≤ x3 → Go 54 [some (.inr p0), some (.inr p1), some (.inr 1), some (.inl x3)] [] w) ∧ (¬ ((w.1 p0 3) ≤ x3) → t_2 [.inr p1, .inl x3] w (fun z1 w1 => ∃ j2 : Nat, j2 < 600 ∧ (((w.1 p0 4) * (nI 10)) + x3) = nI j2 ∧ (Go 21 [some (.inr p0), some (.inr p1), some (.inr 1), some (.inl (x3 + nI 1))] [] (w1.1, w1.2.1, ma_up w1.2.2 (p0 + 1) j2 z1))))) :
    Go 21 [some (.inr p0), some (.inr p1), some (.inr 1), some (.inl x3)] [] w := qq_LI_addRow_21 hGo (by simp only [ma_isk_of (zL_s h0), zL_m1 h0, zL_m2 h0, zL_m3 h0, ma_ark_of (zL_a1 h0), ma_ark_of (zL_a2 h0), ma_ark_of (zL_a3 h0), ma_isk_of (zR_s h1), zR_m h1, ma_ark_of (zR_a h1)]; exact h)
theorem q_LI_addRow_54 {t_0 t_1 t_2 t_3 t_4 : ma_T} {post : ma_P} {Go : ma_G} {w : ma_W} {p0 : Nat} {p1 : Nat} {x3 : Int32} (hGo : ma_cl k_LI_addRow zf_LI (e_LI_addRow t_0 t_1 t_2 t_3 t_4) none 0 s_LI_addRow post Go)
    (h : Go 56 [some (.inr p0), some (.inr p1), some (.inr 1), some (.inl (nI 0))] [] w) :
    Go 54 [some (.inr p0), some (.inr p1), some (.inr 1), some (.inl x3)] [] w := hGo 4 _ _ rfl _ _ _ h
theorem qq_LI_addRow_56 {t_0 t_1 t_2 t_3 t_4 : ma_T} {post : ma_P} {Go : ma_G} {w : ma_W} {p0 : Nat} {p1 : Nat} {x3 : Int32} (hGo : ma_cl k_LI_addRow zf_LI (e_LI_addRow t_0 t_1 t_2 t_3 t_4) none 0 s_LI_addRow post Go)
    (h : ((nI 6) ≤ x3 → Go 87 [some (.inr p0), some (.inr p1), some (.inr 1), some (.inl x3)] [] w) ∧ (¬ ((nI 6) ≤ x3) → ma_isk 4 p0 (ma_isk 4 p0 (t_3 [.inr 1, .inl x3] w (fun z1 w1 => ma_ark (zr w.2.1 p0 2) fun n2 => ∃ j2 : Nat, j2 < n2 ∧ (((w.1 p0 4) * (nI 6)) + x3) = nI j2 ∧ (Go 56 [some (.inr p0), some (.inr p1), some (.inr 1), some (.inl (x3 + nI 1))] [] (w1.1, w1.2.1, ma_up w1.2.2 (zr w.2.1 p0 2) j2 z1))))))) :
    Go 56 [some (.inr p0), some (.inr p1), some (.inr 1), some (.inl x3)] [] w := hGo 5 _ _ rfl _ _ _ h
theorem q_LI_addRow_56 {t_0 t_1 t_2 t_3 t_4 : ma_T} {post : ma_P} {Go : ma_G} {w : ma_W} {p0 : Nat} {p1 : Nat} {x3 : Int32} (hGo : ma_cl k_LI_addRow zf_LI (e_LI_addRow t_0 t_1 t_2 t_3 t_4) none 0 s_LI_addRow post Go) (h0 : zL p0) (h1 : zR p1)
    (h : ((nI 6) ≤ x3 → Go 87 [some (.inr p0), some (.inr p1), some (.inr 1), some (.inl x3)] [] w) ∧ (¬ ((nI 6) ≤ x3) → t_3 [.inr 1, .inl x3] w (fun z1 w1 => ∃ j2 : Nat, j2 < 360 ∧ (((w.1 p0 4) * (nI 6)) + x3) = nI j2 ∧ (Go 56 [some (.inr p0), some (.inr p1), some (.inr 1), some (.inl (x3 + nI 1))] [] (w1.1, w1.2.1, ma_up w1.2.2 (p0 + 3) j2 z1))))) :
    Go 56 [some (.inr p0), some (.inr p1), some (.inr 1), some (.inl x3)] [] w := qq_LI_addRow_56 hGo (by simp only [ma_isk_of (zL_s h0), zL_m1 h0, zL_m2 h0, zL_m3 h0, ma_ark_of (zL_a1 h0), ma_ark_of (zL_a2 h0), ma_ark_of (zL_a3 h0), ma_isk_of (zR_s h1), zR_m h1, ma_ark_of (zR_a h1)]; exact h)
theorem qq_LI_addRow_87 {t_0 t_1 t_2 t_3 t_4 : ma_T} {post : ma_P} {Go : ma_G} {w : ma_W} {p0 : Nat} {p1 : Nat} {x3 : Int32} (hGo : ma_cl k_LI_addRow zf_LI (e_LI_addRow t_0 t_1 t_2 t_3 t_4) none 0 s_LI_addRow post Go)
    (h : ma_isk 4 p0 (ma_isk 4 p0 (t_4 [.inr 1] w (fun z1 w1 => ma_ark (zr w.2.1 p0 1) fun n2 => ∃ j2 : Nat, j2 < n2 ∧ (w.1 p0 4) = nI j2 ∧ (ma_isk 4 p0 (ma_isk 4 p0 (post 0 (ma_up w1.1 p0 4 ((w1.1 p0 4) + (nI 1)), w1.2.1, ma_up w1.2.2 (zr w.2.1 p0 1) j2 z1)))))))) :
    Go 87 [some (.inr p0), some (.inr p1), some (.inr 1), some (.inl x3)] [] w := hGo 6 _ _ rfl _ _ _ h
theorem q_LI_addRow_87 {t_0 t_1 t_2 t_3 t_4 : ma_T} {post : ma_P} {Go : ma_G} {w : ma_W} {p0 : Nat} {p1 : Nat} {x3 : Int32} (hGo : ma_cl k_LI_addRow zf_LI (e_LI_addRow t_0 t_1 t_2 t_3 t_4) none 0 s_LI_addRow post Go) (h0 : zL p0) (h1 : zR p1)
    (h : t_4 [.inr 1] w (fun z1 w1 => ∃ j2 : Nat, j2 < 60 ∧ (w.1 p0 4) = nI j2 ∧ (post 0 (ma_up w1.1 p0 4 ((w1.1 p0 4) + (nI 1)), w1.2.1, ma_up w1.2.2 (p0 + 2) j2 z1)))) :
    Go 87 [some (.inr p0), some (.inr p1), some (.inr 1), some (.inl x3)] [] w := qq_LI_addRow_87 hGo (by simp only [ma_isk_of (zL_s h0), zL_m1 h0, zL_m2 h0, zL_m3 h0, ma_ark_of (zL_a1 h0), ma_ark_of (zL_a2 h0), ma_ark_of (zL_a3 h0), ma_isk_of (zR_s h1), zR_m h1, ma_ark_of (zR_a h1)]; exact h)
theorem qq_LI_size_0 {post : ma_P} {Go : ma_G} {w : ma_W} {p0 : Nat} (hGo : ma_cl k_LI_size zf_LI e_LI_size none 1 s_LI_size post Go)
    (h : ma_isk 4 p0 (post (w.1 p0 4) w)) :
    Go 0 [some (.inr p0)] [] w := hGo 0 _ _ rfl _ _ _ h
theorem q_LI_size_0 {post : ma_P} {Go : ma_G} {w : ma_W} {p0 : Nat} (hGo : ma_cl k_LI_size zf_LI e_LI_size none 1 s_LI_size post Go) (h0 : zL p0)
    (h : post (w.1 p0 4) w) :
    Go 0 [some (.inr p0)] [] w := qq_LI_size_0 hGo (by simp only [ma_isk_of (zL_s h0), zL_m1 h0, zL_m2 h0, zL_m3 h0, ma_ark_of (zL_a1 h0), ma_ark_of (zL_a2 h0), ma_ark_of (zL_a3 h0)]; exact h)
theorem qq_LI_isFull_0 {post : ma_P} {Go : ma_G} {w : ma_W} {p0 : Nat} (hGo : ma_cl k_LI_isFull zf_LI e_LI_isFull none 2 s_LI_isFull post Go)
    (h : ma_isk 4 p0 (((w.1 p0 4) < (nI 60) → Go 13 [some (.inr p0)] [] w) ∧ (¬ ((w.1 p0 4) < (nI 60)) → Go 14 [some (.inr p0)] [.inl (nI 1)] w))) :
    Go 0 [some (.inr p0)] [] w := hGo 0 _ _ rfl _ _ _ h
theorem q_LI_isFull_0 {post : ma_P} {Go : ma_G} {w : ma_W} {p0 : Nat} (hGo : ma_cl k_LI_isFull zf_LI e_LI_isFull none 2 s_LI_isFull post Go) (h0 : zL p0)
    (h : ((w.1 p0 4) < (nI 60) → Go 13 [some (.inr p0)] [] w) ∧ (¬ ((w.1 p0 4) < (nI 60)) → Go 14 [some (.inr p0)] [.inl (nI 1)] w)) :
    Go 0 [some (.inr p0)] [] w := qq_LI_isFull_0 hGo (by simp only [ma_isk_of (zL_s h0), zL_m1 h0, zL_m2 h0, zL_m3 h0, ma_ark_of (zL_a1 h0), ma_ark_of (zL_a2 h0), ma_ark_of (zL_a3 h0)]; exact h)
theorem q_LI_isFull_13 {post : ma_P} {Go : ma_G} {w : ma_W} {p0 : Nat} (hGo : ma_cl k_LI_isFull zf_LI e_LI_isFull none 2 s_LI_isFull post Go)
    (h : Go 14 [some (.inr p0)] [.inl (nI 0)] w) :
    Go 13 [some (.inr p0)] [] w := hGo 1 _ _ rfl _ _ _ h
theorem q_LI_isFull_14 {post : ma_P} {Go : ma_G} {w : ma_W} {p0 : Nat} {y0 : Int32} (hGo : ma_cl k_LI_isFull zf_LI e_LI_isFull none 2 s_LI_isFull post Go)
    (h : (y0 = 0 ∨ y0 = 1) ∧ post y0 w) :
    Go 14 [some (.inr p0)] [.inl y0] w := hGo 2 _ _ rfl _ _ _ h
theorem qq_LI_has_0 {post : ma_P} {Go : ma_G} {w : ma_W} {p0 : Nat} {x1 : Int32} (hGo : ma_cl k_LI_has zf_LI e_LI_has none 2 s_LI_has post Go)
    (h : (x1 < (nI 0) → Go 16 [some (.inr p0), some (.inl x1)] [] w) ∧ (¬ (x1 < (nI 0)) → ma_isk 4 p0 (((w.1 p0 4) ≤ x1 → Go 16 [some (.inr p0), some (.inl x1)] [] w) ∧ (¬ ((w.1 p0 4) ≤ x1) → Go 17 [some (.inr p0), some (.inl x1)] [.inl (nI 1)] w)))) :
    Go 0 [some (.inr p0), some (.inl x1)] [] w := hGo 0 _ _ rfl _ _ _ h
theorem q_LI_has_0 {post : ma_P} {Go : ma_G} {w : ma_W} {p0 : Nat} {x1 : Int32} (hGo : ma_cl k_LI_has zf_LI e_LI_has none 2 s_LI_has post Go) (h0 : zL p0)
    (h : (x1 < (nI 0) → Go 16 [some (.inr p0), some (.inl x1)] [] w) ∧ (¬ (x1 < (nI 0)) → ((w.1 p0 4) ≤ x1 → Go 16 [some (.inr p0), some (.inl x1)] [] w) ∧ (¬ ((w.1 p0 4) ≤ x1) → Go 17 [some (.inr p0), some (.inl x1)] [.inl (nI 1)] w))) :
    Go 0 [some (.inr p0), some (.inl x1)] [] w := qq_LI_has_0 hGo (by simp only [ma_isk_of (zL_s h0), zL_m1 h0, zL_m2 h0, zL_m3 h0, ma_ark_of (zL_a1 h0), ma_ark_of (zL_a2 h0), ma_ark_of (zL_a3 h0)]; exact h)
theorem q_LI_has_16 {post : ma_P} {Go : ma_G} {w : ma_W} {p0 : Nat} {x1 : Int32} (hGo : ma_cl k_LI_has zf_LI e_LI_has none 2 s_LI_has post Go)
    (h : Go 17 [some (.inr p0), some (.inl x1)] [.inl (nI 0)] w) :
    Go 16 [some (.inr p0), some (.inl x1)] [] w := hGo 1 _ _ rfl _ _ _ h
theorem q_LI_has_17 {post : ma_P} {Go : ma_G} {w : ma_W} {p0 : Nat} {x1 : Int32} {y0 : Int32} (hGo : ma_cl k_LI_has zf_LI e_LI_has none 2 s_LI_has post Go)
    (h : (y0 = 0 ∨ y0 = 1) ∧ post y0 w) :
    Go 17 [some (.inr p0), some (.inl x1)] [.inl y0] w := hGo 2 _ _ rfl _ _ _ h
theorem qq_LI_rowLength_0 {post : ma_P} {Go : ma_G} {w : ma_W} {p0 : Nat} (hGo : ma_cl k_LI_rowLength zf_LI e_LI_rowLength none 1 s_LI_rowLength post Go)
    (h : ma_isk 4 p0 (post (w.1 p0 3) w)) :
    Go 0 [some (.inr p0)] [] w := hGo 0 _ _ rfl _ _ _ h
theorem q_LI_rowLength_0 {post : ma_P} {Go : ma_G} {w : ma_W} {p0 : Nat} (hGo : ma_cl k_LI_rowLength zf_LI e_LI_rowLength none 1 s_LI_rowLength post Go) (h0 : zL p0)
    (h : post (w.1 p0 3) w) :
    Go 0 [some (.inr p0)] [] w := qq_LI_rowLength_0 hGo (by simp only [ma_isk_of (zL_s h0), zL_m1 h0, zL_m2 h0, zL_m3 h0, ma_ark_of (zL_a1 h0), ma_ark_of (zL_a2 h0), ma_ark_of (zL_a3 h0)]; exact h)
theorem qq_LI_mask_0 {post : ma_P} {Go : ma_G} {w : ma_W} {p0 : Nat} {x1 : Int32} {x2 : Int32} (hGo : ma_cl k_LI_mask zf_LI e_LI_mask none 1 s_LI_mask post Go)
    (h : ma_isk 4 p0 (ma_ark (zr w.2.1 p0 0) fun n1 => ∃ j1 : Nat, j1 < n1 ∧ ((x1 * (nI 10)) + x2) = nI j1 ∧ (post (w.2.2 (zr w.2.1 p0 0) j1) w))) :
    Go 0 [some (.inr p0), some (.inl x1), some (.inl x2)] [] w := hGo 0 _ _ rfl _ _ _ h
theorem q_LI_mask_0 {post : ma_P} {Go : ma_G} {w : ma_W} {p0 : Nat} {x1 : Int32} {x2 : Int32} (hGo : ma_cl k_LI_mask zf_LI e_LI_mask none 1 s_LI_mask post Go) (h0 : zL p0)
    (h : ∃ j1 : Nat, j1 < 600 ∧ ((x1 * (nI 10)) + x2) = nI j1 ∧ (post (w.2.2 (p0 + 1) j1) w)) :
    Go 0 [some (.inr p0), some (.inl x1), some (.inl x2)] [] w := qq_LI_mask_0 hGo (by simp only [ma_isk_of (zL_s h0), zL_m1 h0, zL_m2 h0, zL_m3 h0, ma_ark_of (zL_a1 h0), ma_ark_of (zL_a2 h0), ma_ark_of (zL_a3 h0)]; exact h)
theorem qq_LI_symmetriesOf_0 {post : ma_P} {Go : ma_G} {w : ma_W} {p0 : Nat} {x1 : Int32} (hGo : ma_cl k_LI_symmetriesOf zf_LI e_LI_symmetriesOf none 1 s_LI_symmetriesOf post Go)
    (h : ma_isk 4 p0 (ma_ark (zr w.2.1 p0 1) fun n1 => ∃ j1 : Nat, j1 < n1 ∧ x1 = nI j1 ∧ (post (w.2.2 (zr w.2.1 p0 1) j1) w))) :
    Go 0 [some (.inr p0), some (.inl x1)] [] w := hGo 0 _ _ rfl _ _ _ h
theorem q_LI_symmetriesOf_0 {post : ma_P} {Go : ma_G} {w : ma_W} {p0 : Nat} {x1 : Int32} (hGo : ma_cl k_LI_symmetriesOf zf_LI e_LI_symmetriesOf none 1 s_LI_symmetriesOf post Go) (h0 : zL p0)
    (h : ∃ j1 : Nat, j1 < 60 ∧ x1 = nI j1 ∧ (post (w.2.2 (p0 + 2) j1) w)) :
    Go 0 [some (.inr p0), some (.inl x1)] [] w := qq_LI_symmetriesOf_0 hGo (by simp only [ma_isk_of (zL_s h0), zL_m1 h0, zL_m2 h0, zL_m3 h0, ma_ark_of (zL_a1 h0), ma_ark_of (zL_a2 h0), ma_ark_of (zL_a3 h0)]; exact h)
theorem qq_LI_leastImage_0 {post : ma_P} {Go : ma_G} {w : ma_W} {p0 : Nat} {x1 : Int32} {x2 : Int32} (hGo : ma_cl k_LI_leastImage zf_LI e_LI_leastImage none 1 s_LI_leastImage post Go)
    (h : ma_isk 4 p0 (ma_ark (zr w.2.1 p0 2) fun n1 => ∃ j1 : Nat, j1 < n1 ∧ ((x1 * (nI 6)) + x2) = nI j1 ∧ (post (w.2.2 (zr w.2.1 p0 2) j1) w))) :
    Go 0 [some (.inr p0), some (.inl x1), some (.inl x2)] [] w := hGo 0 _ _ rfl _ _ _ h
theorem q_LI_leastImage_0 {post : ma_P} {Go : ma_G} {w : ma_W} {p0 : Nat} {x1 : Int32} {x2 : Int32} (hGo : ma_cl k_LI_leastImage zf_LI e_LI_leastImage none 1 s_LI_leastImage post Go) (h0 : zL p0)
    (h : ∃ j1 : Nat, j1 < 360 ∧ ((x1 * (nI 6)) + x2) = nI j1 ∧ (post (w.2.2 (p0 + 3) j1) w)) :
    Go 0 [some (.inr p0), some (.inl x1), some (.inl x2)] [] w := qq_LI_leastImage_0 hGo (by simp only [ma_isk_of (zL_s h0), zL_m1 h0, zL_m2 h0, zL_m3 h0, ma_ark_of (zL_a1 h0), ma_ark_of (zL_a2 h0), ma_ark_of (zL_a3 h0)]; exact h)
theorem q_LI_blocksHolding_0 {t_0 : ma_T} {post : ma_P} {Go : ma_G} {w : ma_W} {p0 : Nat} {x1 : Int32} {x2 : Int32} {o3 : Option ma_V} {o4 : Option ma_V} (hGo : ma_cl k_LI_blocksHolding zf_LI (e_LI_blocksHolding t_0) none 1 s_LI_blocksHolding post Go)
    (h : Go 5 [some (.inr p0), some (.inl x1), some (.inl x2), some (.inl (nI 0)), some (.inl (nI 0))] [] w) :
    Go 0 [some (.inr p0), some (.inl x1), some (.inl x2), o3, o4] [] w := hGo 0 _ _ rfl _ _ _ h
theorem qq_LI_blocksHolding_5 {t_0 : ma_T} {post : ma_P} {Go : ma_G} {w : ma_W} {p0 : Nat} {x1 : Int32} {x2 : Int32} {x3 : Int32} {x4 : Int32} (hGo : ma_cl k_LI_blocksHolding zf_LI (e_LI_blocksHolding t_0) none 1 s_LI_blocksHolding post Go)
    (h : ma_isk 4 p0 (((w.1 p0 3) ≤ x4 → Go 41 [some (.inr p0), some (.inl x1), some (.inl x2), some (.inl x3), some (.inl x4)] [] w) ∧ (¬ ((w.1 p0 3) ≤ x4) → ma_isk 4 p0 (t_0 [.inr p0, .inl x1, .inl x4] w (fun z1 w1 => (¬ (z1 &&& x2) = x2 → Go 32 [some (.inr p0), some (.inl x1), some (.inl x2), some (.inl x3), some (.inl x4)] [.inl x3] w1) ∧ (¬ (¬ (z1 &&& x2) = x2) → Go 33 [some (.inr p0), some (.inl x1), some (.inl x2), some (.inl x3), some (.inl x4)] [.inl (nI 1), .inl x3] w1)))))) :
    Go 5 [some (.inr p0), some (.inl x1), some (.inl x2), some (.inl x3), some (.inl x4)] [] w := hGo 1 _ _ rfl _ _ _ h
theorem q_LI_blocksHolding_5 {t_0 : ma_T} {post : ma_P} {Go : ma_G} {w : ma_W} {p0 : Nat} {x1 : Int32} {x2 : Int32} {x3 : Int32} {x4 : Int32} (hGo : ma_cl k_LI_blocksHolding zf_LI (e_LI_blocksHolding t_0) none 1 s_LI_blocksHolding post Go) (h0 : zL p0)
    (h : ((w.1 p0 3) ≤ x4 → Go 41 [some (.inr p0), some (.inl x1), some (.inl x2), some (.inl x3), some (.inl x4)] [] w) ∧ (¬ ((w.1 p0 3) ≤ x4) → t_0 [.inr p0, .inl x1, .inl x4] w (fun z1 w1 => (¬ (z1 &&& x2) = x2 → Go 32 [some (.inr p0), some (.inl x1), some (.inl x2), some (.inl x3), some (.inl x4)] [.inl x3] w1) ∧ (¬ (¬ (z1 &&& x2) = x2) → Go 33 [some (.inr p0), some (.inl x1), some (.inl x2), some (.inl x3), some (.inl x4)] [.inl (nI 1), .inl x3] w1)))) :
    Go 5 [some (.inr p0), some (.inl x1), some (.inl x2), some (.inl x3), some (.inl x4)] [] w := qq_LI_blocksHolding_5 hGo (by simp only [ma_isk_of (zL_s h0), zL_m1 h0, zL_m2 h0, zL_m3 h0, ma_ark_of (zL_a1 h0), ma_ark_of (zL_a2 h0), ma_ark_of (zL_a3 h0)]; exact h)
theorem q_LI_blocksHolding_32 {t_0 : ma_T} {post : ma_P} {Go : ma_G} {w : ma_W} {p0 : Nat} {x1 : Int32} {x2 : Int32} {x3 : Int32} {x4 : Int32} {y0 : Int32} (hGo : ma_cl k_LI_blocksHolding zf_LI (e_LI_blocksHolding t_0) none 1 s_LI_blocksHolding post Go)
    (h : Go 33 [some (.inr p0), some (.inl x1), some (.inl x2), some (.inl x3), some (.inl x4)] [.inl (nI 0), .inl y0] w) :
    Go 32 [some (.inr p0), some (.inl x1), some (.inl x2), some (.inl x3), some (.inl x4)] [.inl y0] w := hGo 2 _ _ rfl _ _ _ h
theorem q_LI_blocksHolding_33 {t_0 : ma_T} {post : ma_P} {Go : ma_G} {w : ma_W} {p0 : Nat} {x1 : Int32} {x2 : Int32} {x3 : Int32} {x4 : Int32} {y0 : Int32} {y1 : Int32} (hGo : ma_cl k_LI_blocksHolding zf_LI (e_LI_blocksHolding t_0) none 1 s_LI_blocksHolding post Go)
    (h : Go 5 [some (.inr p0), some (.inl x1), some (.inl x2), some (.inl (y1 + y0)), some (.inl (x4 + nI 1))] [] w) :
    Go 33 [some (.inr p0), some (.inl x1), some (.inl x2), some (.inl x3), some (.inl x4)] [.inl y0, .inl y1] w := hGo 3 _ _ rfl _ _ _ h
theorem q_LI_blocksHolding_41 {t_0 : ma_T} {post : ma_P} {Go : ma_G} {w : ma_W} {p0 : Nat} {x1 : Int32} {x2 : Int32} {x3 : Int32} {x4 : Int32} (hGo : ma_cl k_LI_blocksHolding zf_LI (e_LI_blocksHolding t_0) none 1 s_LI_blocksHolding post Go)
    (h : post x3 w) :
    Go 41 [some (.inr p0), some (.inl x1), some (.inl x2), some (.inl x3), some (.inl x4)] [] w := hGo 4 _ _ rfl _ _ _ h
theorem qq_LI_writeTo_0 {t_0 t_1 t_2 : ma_T} {post : ma_P} {Go : ma_G} {w : ma_W} {p0 : Nat} {x1 : Int32} {p2 : Nat} {o3 : Option ma_V} (hGo : ma_cl k_LI_writeTo zf_LI (e_LI_writeTo t_0 t_1 t_2) none 0 s_LI_writeTo post Go)
    (h : ma_isk 3 p2 (t_0 [.inr p2] w (fun _ w1 => Go 6 [some (.inr p0), some (.inl x1), some (.inr p2), some (.inl (nI 0))] [] w1))) :
    Go 0 [some (.inr p0), some (.inl x1), some (.inr p2), o3] [] w := hGo 0 _ _ rfl _ _ _ h
theorem q_LI_writeTo_0 {t_0 t_1 t_2 : ma_T} {post : ma_P} {Go : ma_G} {w : ma_W} {p0 : Nat} {x1 : Int32} {p2 : Nat} {o3 : Option ma_V} (hGo : ma_cl k_LI_writeTo zf_LI (e_LI_writeTo t_0 t_1 t_2) none 0 s_LI_writeTo post Go) (h0 : zL p0) (h2 : zR p2)
    (h : t_0 [.inr p2] w (fun _ w1 => Go 6 [some (.inr p0), some (.inl x1), some (.inr p2), some (.inl (nI 0))] [] w1)) :
    Go 0 [some (.inr p0), some (.inl x1), some (.inr p2), o3] [] w := qq_LI_writeTo_0 hGo (by simp only [ma_isk_of (zL_s h0), zL_m1 h0, zL_m2 h0, zL_m3 h0, ma_ark_of (zL_a1 h0), ma_ark_of (zL_a2 h0), ma_ark_of (zL_a3 h0), ma_isk_of (zR_s h2), zR_m h2, ma_ark_of (zR_a h2)]; exact h)
theorem qq_LI_writeTo_6 {t_0 t_1 t_2 : ma_T} {post : ma_P} {Go : ma_G} {w : ma_W} {p0 : Nat} {x1 : Int32} {p2 : Nat} {x3 : Int32} (hGo : ma_cl k_LI_writeTo zf_LI (e_LI_writeTo t_0 t_1 t_2) none 0 s_LI_writeTo post Go)
    (h : ma_isk 4 p0 (((w.1 p0 3) ≤ x3 → Go 30 [some (.inr p0), some (.inl x1), some (.inr p2), some (.inl x3)] [] w) ∧ (¬ ((w.1 p0 3) ≤ x3) → ma_isk 4 p0 (t_1 [.inr p0, .inl x1, .inl x3] w (fun z1 w1 => ma_isk 3 p2 (t_2 [.inr p2, .inl z1] w1 (fun _ w2 => Go 6 [some (.inr p0), some (.inl x1), some (.inr p2), some (.inl (x3 + nI 1))] [] w2))))))) :
    Go 6 [some (.inr p0), some (.inl x1), some (.inr p2), some (.inl x3)] [] w := hGo 1 _ _ rfl _ _ _ h
theorem q_LI_writeTo_6 {t_0 t_1 t_2 : ma_T} {post : ma_P} {Go : ma_G} {w : ma_W} {p0 : Nat} {x1 : Int32} {p2 : Nat} {x3 : Int32} (hGo : ma_cl k_LI_writeTo zf_LI (e_LI_writeTo t_0 t_1 t_2) none 0 s_LI_writeTo post Go) (h0 : zL p0) (h2 : zR p2)
    (h : ((w.1 p0 3) ≤ x3 → Go 30 [some (.inr p0), some (.inl x1), some (.inr p2), some (.inl x3)] [] w) ∧ (¬ ((w.1 p0 3) ≤ x3) → t_1 [.inr p0, .inl x1, .inl x3] w (fun z1 w1 => t_2 [.inr p2, .inl z1] w1 (fun _ w2 => Go 6 [some (.inr p0), some (.inl x1), some (.inr p2), some (.inl (x3 + nI 1))] [] w2)))) :
    Go 6 [some (.inr p0), some (.inl x1), some (.inr p2), some (.inl x3)] [] w := qq_LI_writeTo_6 hGo (by simp only [ma_isk_of (zL_s h0), zL_m1 h0, zL_m2 h0, zL_m3 h0, ma_ark_of (zL_a1 h0), ma_ark_of (zL_a2 h0), ma_ark_of (zL_a3 h0), ma_isk_of (zR_s h2), zR_m h2, ma_ark_of (zR_a h2)]; exact h)
theorem q_LI_writeTo_30 {t_0 t_1 t_2 : ma_T} {post : ma_P} {Go : ma_G} {w : ma_W} {p0 : Nat} {x1 : Int32} {p2 : Nat} {x3 : Int32} (hGo : ma_cl k_LI_writeTo zf_LI (e_LI_writeTo t_0 t_1 t_2) none 0 s_LI_writeTo post Go)
    (h : post 0 w) :
    Go 30 [some (.inr p0), some (.inl x1), some (.inr p2), some (.inl x3)] [] w := hGo 2 _ _ rfl _ _ _ h
theorem q_LI_placeOf_0 {t_0 : ma_T} {post : ma_P} {Go : ma_G} {w : ma_W} {p0 : Nat} {p1 : Nat} {o2 : Option ma_V} (hGo : ma_cl k_LI_placeOf zf_LI (e_LI_placeOf t_0) none 1 s_LI_placeOf post Go)
    (h : Go 2 [some (.inr p0), some (.inr p1), some (.inl (nI 0))] [] w) :
    Go 0 [some (.inr p0), some (.inr p1), o2] [] w := hGo 0 _ _ rfl _ _ _ h
theorem qq_LI_placeOf_2 {t_0 : ma_T} {post : ma_P} {Go : ma_G} {w : ma_W} {p0 : Nat} {p1 : Nat} {x2 : Int32} (hGo : ma_cl k_LI_placeOf zf_LI (e_LI_placeOf t_0) none 1 s_LI_placeOf post Go)
    (h : ma_isk 4 p0 (((w.1 p0 4) ≤ x2 → Go 27 [some (.inr p0), some (.inr p1), some (.inl x2)] [] w) ∧ (¬ ((w.1 p0 4) ≤ x2) → ma_isk 4 p0 (t_0 [.inr p0, .inl x2, .inr p1] w (fun z1 w1 => (z1 = (nI 0) → Go 21 [some (.inr p0), some (.inr p1), some (.inl x2)] [] w1) ∧ (¬ (z1 = (nI 0)) → post x2 w1)))))) :
    Go 2 [some (.inr p0), some (.inr p1), some (.inl x2)] [] w := hGo 1 _ _ rfl _ _ _ h
theorem q_LI_placeOf_2 {t_0 : ma_T} {post : ma_P} {Go : ma_G} {w : ma_W} {p0 : Nat} {p1 : Nat} {x2 : Int32} (hGo : ma_cl k_LI_placeOf zf_LI (e_LI_placeOf t_0) none 1 s_LI_placeOf post Go) (h0 : zL p0) (h1 : zR p1)
    (h : ((w.1 p0 4) ≤ x2 → Go 27 [some (.inr p0), some (.inr p1), some (.inl x2)] [] w) ∧ (¬ ((w.1 p0 4) ≤ x2) → t_0 [.inr p0, .inl x2, .inr p1] w (fun z1 w1 => (z1 = (nI 0) → Go 21 [some (.inr p0), some (.inr p1), some (.inl x2)] [] w1) ∧ (¬ (z1 = (nI 0)) → post x2 w1)))) :
    Go 2 [some (.inr p0), some (.inr p1), some (.inl x2)] [] w := qq_LI_placeOf_2 hGo (by simp only [ma_isk_of (zL_s h0), zL_m1 h0, zL_m2 h0, zL_m3 h0, ma_ark_of (zL_a1 h0), ma_ark_of (zL_a2 h0), ma_ark_of (zL_a3 h0), ma_isk_of (zR_s h1), zR_m h1, ma_ark_of (zR_a h1)]; exact h)
theorem q_LI_placeOf_21 {t_0 : ma_T} {post : ma_P} {Go : ma_G} {w : ma_W} {p0 : Nat} {p1 : Nat} {x2 : Int32} (hGo : ma_cl k_LI_placeOf zf_LI (e_LI_placeOf t_0) none 1 s_LI_placeOf post Go)
    (h : Go 2 [some (.inr p0), some (.inr p1), some (.inl (x2 + nI 1))] [] w) :
    Go 21 [some (.inr p0), some (.inr p1), some (.inl x2)] [] w := hGo 2 _ _ rfl _ _ _ h
theorem q_LI_placeOf_27 {t_0 : ma_T} {post : ma_P} {Go : ma_G} {w : ma_W} {p0 : Nat} {p1 : Nat} {x2 : Int32} (hGo : ma_cl k_LI_placeOf zf_LI (e_LI_placeOf t_0) none 1 s_LI_placeOf post Go)
    (h : post (Int32.ofInt (-1)) w) :
    Go 27 [some (.inr p0), some (.inr p1), some (.inl x2)] [] w := hGo 3 _ _ rfl _ _ _ h
theorem qq_LI_isEntry_0 {t_0 t_1 t_2 : ma_T} {post : ma_P} {Go : ma_G} {w : ma_W} {p0 : Nat} {x1 : Int32} {p2 : Nat} {o3 : Option ma_V} (hGo : ma_cl k_LI_isEntry zf_LI (e_LI_isEntry t_0 t_1 t_2) none 2 s_LI_isEntry post Go)
    (h : ma_isk 3 p2 (t_0 [.inr p2] w (fun z1 w1 => ma_isk 4 p0 ((z1 = (w1.1 p0 3) → Go 13 [some (.inr p0), some (.inl x1), some (.inr p2), o3] [] w1) ∧ (¬ (z1 = (w1.1 p0 3)) → ((nI 0) = 0 ∨ (nI 0) = 1) ∧ post (nI 0) w1))))) :
    Go 0 [some (.inr p0), some (.inl x1), some (.inr p2), o3] [] w := hGo 0 _ _ rfl _ _ _ h
theorem q_LI_isEntry_0 {t_0 t_1 t_2 : ma_T} {post : ma_P} {Go : ma_G} {w : ma_W} {p0 : Nat} {x1 : Int32} {p2 : Nat} {o3 : Option ma_V} (hGo : ma_cl k_LI_isEntry zf_LI (e_LI_isEntry t_0 t_1 t_2) none 2 s_LI_isEntry post Go) (h0 : zL p0) (h2 : zR p2)
    (h : t_0 [.inr p2] w (fun z1 w1 => (z1 = (w1.1 p0 3) → Go 13 [some (.inr p0), some (.inl x1), some (.inr p2), o3] [] w1) ∧ (¬ (z1 = (w1.1 p0 3)) → ((nI 0) = 0 ∨ (nI 0) = 1) ∧ post (nI 0) w1))) :
    Go 0 [some (.inr p0), some (.inl x1), some (.inr p2), o3] [] w := qq_LI_isEntry_0 hGo (by simp only [ma_isk_of (zL_s h0), zL_m1 h0, zL_m2 h0, zL_m3 h0, ma_ark_of (zL_a1 h0), ma_ark_of (zL_a2 h0), ma_ark_of (zL_a3 h0), ma_isk_of (zR_s h2), zR_m h2, ma_ark_of (zR_a h2)]; exact h)
theorem q_LI_isEntry_13 {t_0 t_1 t_2 : ma_T} {post : ma_P} {Go : ma_G} {w : ma_W} {p0 : Nat} {x1 : Int32} {p2 : Nat} {o3 : Option ma_V} (hGo : ma_cl k_LI_isEntry zf_LI (e_LI_isEntry t_0 t_1 t_2) none 2 s_LI_isEntry post Go)
    (h : Go 15 [some (.inr p0), some (.inl x1), some (.inr p2), some (.inl (nI 0))] [] w) :
    Go 13 [some (.inr p0), some (.inl x1), some (.inr p2), o3] [] w := hGo 1 _ _ rfl _ _ _ h
theorem qq_LI_isEntry_15 {t_0 t_1 t_2 : ma_T} {post : ma_P} {Go : ma_G} {w : ma_W} {p0 : Nat} {x1 : Int32} {p2 : Nat} {x3 : Int32} (hGo : ma_cl k_LI_isEntry zf_LI (e_LI_isEntry t_0 t_1 t_2) none 2 s_LI_isEntry post Go)
    (h : ma_isk 4 p0 (((w.1 p0 3) ≤ x3 → Go 45 [some (.inr p0), some (.inl x1), some (.inr p2), some (.inl x3)] [] w) ∧ (¬ ((w.1 p0 3) ≤ x3) → ma_isk 4 p0 (t_1 [.inr p0, .inl x1, .inl x3] w (fun z1 w1 => ma_isk 3 p2 (t_2 [.inr p2, .inl x3] w1 (fun z2 w2 => (z1 = z2 → Go 39 [some (.inr p0), some (.inl x1), some (.inr p2), some (.inl x3)] [] w2) ∧ (¬ (z1 = z2) → ((nI 0) = 0 ∨ (nI 0) = 1) ∧ post (nI 0) w2)))))))) :
    Go 15 [some (.inr p0), some (.inl x1), some (.inr p2), some (.inl x3)] [] w := hGo 2 _ _ rfl _ _ _ h
theorem q_LI_isEntry_15 {t_0 t_1 t_2 : ma_T} {post : ma_P} {Go : ma_G} {w : ma_W} {p0 : Nat} {x1 : Int32} {p2 : Nat} {x3 : Int32} (hGo : ma_cl k_LI_isEntry zf_LI (e_LI_isEntry t_0 t_1 t_2) none 2 s_LI_isEntry post Go) (h0 : zL p0) (h2 : zR p2)
    (h : ((w.1 p0 3) ≤ x3 → Go 45 [some (.inr p0), some (.inl x1), some (.inr p2), some (.inl x3)] [] w) ∧ (¬ ((w.1 p0 3) ≤ x3) → t_1 [.inr p0, .inl x1, .inl x3] w (fun z1 w1 => t_2 [.inr p2, .inl x3] w1 (fun z2 w2 => (z1 = z2 → Go 39 [some (.inr p0), some (.inl x1), some (.inr p2), some (.inl x3)] [] w2) ∧ (¬ (z1 = z2) → ((nI 0) = 0 ∨ (nI 0) = 1) ∧ post (nI 0) w2))))) :
    Go 15 [some (.inr p0), some (.inl x1), some (.inr p2), some (.inl x3)] [] w := qq_LI_isEntry_15 hGo (by simp only [ma_isk_of (zL_s h0), zL_m1 h0, zL_m2 h0, zL_m3 h0, ma_ark_of (zL_a1 h0), ma_ark_of (zL_a2 h0), ma_ark_of (zL_a3 h0), ma_isk_of (zR_s h2), zR_m h2, ma_ark_of (zR_a h2)]; exact h)
theorem q_LI_isEntry_39 {t_0 t_1 t_2 : ma_T} {post : ma_P} {Go : ma_G} {w : ma_W} {p0 : Nat} {x1 : Int32} {p2 : Nat} {x3 : Int32} (hGo : ma_cl k_LI_isEntry zf_LI (e_LI_isEntry t_0 t_1 t_2) none 2 s_LI_isEntry post Go)
    (h : Go 15 [some (.inr p0), some (.inl x1), some (.inr p2), some (.inl (x3 + nI 1))] [] w) :
    Go 39 [some (.inr p0), some (.inl x1), some (.inr p2), some (.inl x3)] [] w := hGo 3 _ _ rfl _ _ _ h
theorem q_LI_isEntry_45 {t_0 t_1 t_2 : ma_T} {post : ma_P} {Go : ma_G} {w : ma_W} {p0 : Nat} {x1 : Int32} {p2 : Nat} {x3 : Int32} (hGo : ma_cl k_LI_isEntry zf_LI (e_LI_isEntry t_0 t_1 t_2) none 2 s_LI_isEntry post Go)
    (h : ((nI 1) = 0 ∨ (nI 1) = 1) ∧ post (nI 1) w) :
    Go 45 [some (.inr p0), some (.inl x1), some (.inr p2), some (.inl x3)] [] w := hGo 4 _ _ rfl _ _ _ h
theorem q_GR_lay_0 {t_0 : ma_T} {post : ma_P} {Go : ma_G} {w : ma_W} {x1 : Int32} {x2 : Int32} {o3 : Option ma_V} (hGo : ma_cl k_GR_lay zf_GR (e_GR_lay t_0) none 0 s_GR_lay post Go)
    (h : Go 17 [some (.inr 2), some (.inl x1), some (.inl x2), some (.inl (nI 0))] [] (ma_up (ma_up (ma_up w.1 2 2 x1) 2 3 x2) 2 4 (nI 0), w.2.1, w.2.2)) :
    Go 0 [some (.inr 2), some (.inl x1), some (.inl x2), o3] [] w := hGo 0 _ _ rfl _ _ _ h
theorem q_GR_lay_17 {t_0 : ma_T} {post : ma_P} {Go : ma_G} {w : ma_W} {x1 : Int32} {x2 : Int32} {x3 : Int32} (hGo : ma_cl k_GR_lay zf_GR (e_GR_lay t_0) none 0 s_GR_lay post Go)
    (h : (x1 ≤ x3 → Go 43 [some (.inr 2), some (.inl x1), some (.inl x2), some (.inl x3)] [] w) ∧ (¬ (x1 ≤ x3) → ∃ j1 : Nat, j1 < 7 ∧ x3 = nI j1 ∧ (t_0 [.inr 2, .inl x3] (w.1, w.2.1, ma_up w.2.2 4 j1 (w.1 2 4)) (fun _ w2 => Go 17 [some (.inr 2), some (.inl x1), some (.inl x2), some (.inl (x3 + nI 1))] [] w2)))) :
    Go 17 [some (.inr 2), some (.inl x1), some (.inl x2), some (.inl x3)] [] w := hGo 1 _ _ rfl _ _ _ h
theorem q_GR_lay_43 {t_0 : ma_T} {post : ma_P} {Go : ma_G} {w : ma_W} {x1 : Int32} {x2 : Int32} {x3 : Int32} (hGo : ma_cl k_GR_lay zf_GR (e_GR_lay t_0) none 0 s_GR_lay post Go)
    (h : ∃ j1 : Nat, j1 < 7 ∧ x1 = nI j1 ∧ (post 0 (w.1, w.2.1, ma_up w.2.2 4 j1 (w.1 2 4)))) :
    Go 43 [some (.inr 2), some (.inl x1), some (.inl x2), some (.inl x3)] [] w := hGo 2 _ _ rfl _ _ _ h
theorem q_GR_addKindsEndingAt_0 {t_0 : ma_T} {post : ma_P} {Go : ma_G} {w : ma_W} {x1 : Int32} {o2 : Option ma_V} (hGo : ma_cl k_GR_addKindsEndingAt zf_GR (e_GR_addKindsEndingAt t_0) none 0 s_GR_addKindsEndingAt post Go)
    (h : Go 4 [some (.inr 2), some (.inl x1), some (.inl ((nI 1) <<< (x1 &&& 31)))] [] w) :
    Go 0 [some (.inr 2), some (.inl x1), o2] [] w := hGo 0 _ _ rfl _ _ _ h
theorem q_GR_addKindsEndingAt_4 {t_0 : ma_T} {post : ma_P} {Go : ma_G} {w : ma_W} {x1 : Int32} {x2 : Int32} (hGo : ma_cl k_GR_addKindsEndingAt zf_GR (e_GR_addKindsEndingAt t_0) none 0 s_GR_addKindsEndingAt post Go)
    (h : (((nI 2) <<< (x1 &&& 31)) ≤ x2 → Go 57 [some (.inr 2), some (.inl x1), some (.inl x2)] [] w) ∧ (¬ (((nI 2) <<< (x1 &&& 31)) ≤ x2) → t_0 [.inl x2] w (fun z1 w1 => (¬ z1 = (w1.1 2 3) → Go 51 [some (.inr 2), some (.inl x1), some (.inl x2)] [] w1) ∧ (¬ (¬ z1 = (w1.1 2 3)) → ((nI 20) ≤ (w1.1 2 4) → Go 51 [some (.inr 2), some (.inl x1), some (.inl x2)] [] w1) ∧ (¬ ((nI 20) ≤ (w1.1 2 4)) → ∃ j2 : Nat, j2 < 20 ∧ (w1.1 2 4) = nI j2 ∧ (Go 51 [some (.inr 2), some (.inl x1), some (.inl x2)] [] (ma_up w1.1 2 4 ((w1.1 2 4) + (nI 1)), w1.2.1, ma_up w1.2.2 3 j2 x2))))))) :
    Go 4 [some (.inr 2), some (.inl x1), some (.inl x2)] [] w := hGo 1 _ _ rfl _ _ _ h
theorem q_GR_addKindsEndingAt_51 {t_0 : ma_T} {post : ma_P} {Go : ma_G} {w : ma_W} {x1 : Int32} {x2 : Int32} (hGo : ma_cl k_GR_addKindsEndingAt zf_GR (e_GR_addKindsEndingAt t_0) none 0 s_GR_addKindsEndingAt post Go)
    (h : Go 4 [some (.inr 2), some (.inl x1), some (.inl (x2 + nI 1))] [] w) :
    Go 51 [some (.inr 2), some (.inl x1), some (.inl x2)] [] w := hGo 2 _ _ rfl _ _ _ h
theorem q_GR_addKindsEndingAt_57 {t_0 : ma_T} {post : ma_P} {Go : ma_G} {w : ma_W} {x1 : Int32} {x2 : Int32} (hGo : ma_cl k_GR_addKindsEndingAt zf_GR (e_GR_addKindsEndingAt t_0) none 0 s_GR_addKindsEndingAt post Go)
    (h : post 0 w) :
    Go 57 [some (.inr 2), some (.inl x1), some (.inl x2)] [] w := hGo 3 _ _ rfl _ _ _ h
theorem q_GR_points_0 {post : ma_P} {Go : ma_G} {w : ma_W} (hGo : ma_cl k_GR_points zf_GR e_GR_points none 1 s_GR_points post Go)
    (h : post (w.1 2 2) w) :
    Go 0 [some (.inr 2)] [] w := hGo 0 _ _ rfl _ _ _ h
theorem q_GR_isPoint_0 {post : ma_P} {Go : ma_G} {w : ma_W} {x1 : Int32} (hGo : ma_cl k_GR_isPoint zf_GR e_GR_isPoint none 2 s_GR_isPoint post Go)
    (h : (x1 < (nI 0) → Go 16 [some (.inr 2), some (.inl x1)] [] w) ∧ (¬ (x1 < (nI 0)) → ((w.1 2 2) ≤ x1 → Go 16 [some (.inr 2), some (.inl x1)] [] w) ∧ (¬ ((w.1 2 2) ≤ x1) → Go 17 [some (.inr 2), some (.inl x1)] [.inl (nI 1)] w))) :
    Go 0 [some (.inr 2), some (.inl x1)] [] w := hGo 0 _ _ rfl _ _ _ h
theorem q_GR_isPoint_16 {post : ma_P} {Go : ma_G} {w : ma_W} {x1 : Int32} (hGo : ma_cl k_GR_isPoint zf_GR e_GR_isPoint none 2 s_GR_isPoint post Go)
    (h : Go 17 [some (.inr 2), some (.inl x1)] [.inl (nI 0)] w) :
    Go 16 [some (.inr 2), some (.inl x1)] [] w := hGo 1 _ _ rfl _ _ _ h
theorem q_GR_isPoint_17 {post : ma_P} {Go : ma_G} {w : ma_W} {x1 : Int32} {y0 : Int32} (hGo : ma_cl k_GR_isPoint zf_GR e_GR_isPoint none 2 s_GR_isPoint post Go)
    (h : (y0 = 0 ∨ y0 = 1) ∧ post y0 w) :
    Go 17 [some (.inr 2), some (.inl x1)] [.inl y0] w := hGo 2 _ _ rfl _ _ _ h
theorem q_GR_isBlock_0 {t_0 : ma_T} {post : ma_P} {Go : ma_G} {w : ma_W} {x1 : Int32} (hGo : ma_cl k_GR_isBlock zf_GR (e_GR_isBlock t_0) none 2 s_GR_isBlock post Go)
    (h : (x1 < (nI 0) → Go 29 [some (.inr 2), some (.inl x1)] [] w) ∧ (¬ (x1 < (nI 0)) → (((nI 1) <<< ((w.1 2 2) &&& 31)) ≤ x1 → Go 29 [some (.inr 2), some (.inl x1)] [] w) ∧ (¬ (((nI 1) <<< ((w.1 2 2) &&& 31)) ≤ x1) → t_0 [.inl x1] w (fun z1 w1 => (¬ z1 = (w1.1 2 3) → Go 29 [some (.inr 2), some (.inl x1)] [] w1) ∧ (¬ (¬ z1 = (w1.1 2 3)) → Go 30 [some (.inr 2), some (.inl x1)] [.inl (nI 1)] w1))))) :
    Go 0 [some (.inr 2), some (.inl x1)] [] w := hGo 0 _ _ rfl _ _ _ h
theorem q_GR_isBlock_29 {t_0 : ma_T} {post : ma_P} {Go : ma_G} {w : ma_W} {x1 : Int32} (hGo : ma_cl k_GR_isBlock zf_GR (e_GR_isBlock t_0) none 2 s_GR_isBlock post Go)
    (h : Go 30 [some (.inr 2), some (.inl x1)] [.inl (nI 0)] w) :
    Go 29 [some (.inr 2), some (.inl x1)] [] w := hGo 1 _ _ rfl _ _ _ h
theorem q_GR_isBlock_30 {t_0 : ma_T} {post : ma_P} {Go : ma_G} {w : ma_W} {x1 : Int32} {y0 : Int32} (hGo : ma_cl k_GR_isBlock zf_GR (e_GR_isBlock t_0) none 2 s_GR_isBlock post Go)
    (h : (y0 = 0 ∨ y0 = 1) ∧ post y0 w) :
    Go 30 [some (.inr 2), some (.inl x1)] [.inl y0] w := hGo 2 _ _ rfl _ _ _ h
theorem q_GR_kinds_0 {post : ma_P} {Go : ma_G} {w : ma_W} (hGo : ma_cl k_GR_kinds zf_GR e_GR_kinds none 1 s_GR_kinds post Go)
    (h : post (w.1 2 4) w) :
    Go 0 [some (.inr 2)] [] w := hGo 0 _ _ rfl _ _ _ h
theorem q_GR_kind_0 {post : ma_P} {Go : ma_G} {w : ma_W} {x1 : Int32} (hGo : ma_cl k_GR_kind zf_GR e_GR_kind none 1 s_GR_kind post Go)
    (h : ∃ j1 : Nat, j1 < 20 ∧ x1 = nI j1 ∧ (post (w.2.2 3 j1) w)) :
    Go 0 [some (.inr 2), some (.inl x1)] [] w := hGo 0 _ _ rfl _ _ _ h
theorem q_GR_firstKindEndingAt_0 {post : ma_P} {Go : ma_G} {w : ma_W} {x1 : Int32} (hGo : ma_cl k_GR_firstKindEndingAt zf_GR e_GR_firstKindEndingAt none 1 s_GR_firstKindEndingAt post Go)
    (h : ∃ j1 : Nat, j1 < 7 ∧ x1 = nI j1 ∧ (post (w.2.2 4 j1) w)) :
    Go 0 [some (.inr 2), some (.inl x1)] [] w := hGo 0 _ _ rfl _ _ _ h
theorem q_GR_renamings_0 {post : ma_P} {Go : ma_G} {w : ma_W} {o1 : Option ma_V} {o2 : Option ma_V} (hGo : ma_cl k_GR_renamings zf_GR e_GR_renamings none 1 s_GR_renamings post Go)
    (h : Go 4 [some (.inr 2), some (.inl (nI 1)), some (.inl (nI 2))] [] w) :
    Go 0 [some (.inr 2), o1, o2] [] w := hGo 0 _ _ rfl _ _ _ h
theorem q_GR_renamings_4 {post : ma_P} {Go : ma_G} {w : ma_W} {x1 : Int32} {x2 : Int32} (hGo : ma_cl k_GR_renamings zf_GR e_GR_renamings none 1 s_GR_renamings post Go)
    (h : ((w.1 2 2) < x2 → Go 22 [some (.inr 2), some (.inl x1), some (.inl x2)] [] w) ∧ (¬ ((w.1 2 2) < x2) → Go 4 [some (.inr 2), some (.inl (x1 * x2)), some (.inl (x2 + nI 1))] [] w)) :
    Go 4 [some (.inr 2), some (.inl x1), some (.inl x2)] [] w := hGo 1 _ _ rfl _ _ _ h
theorem q_GR_renamings_22 {post : ma_P} {Go : ma_G} {w : ma_W} {x1 : Int32} {x2 : Int32} (hGo : ma_cl k_GR_renamings zf_GR e_GR_renamings none 1 s_GR_renamings post Go)
    (h : post x1 w) :
    Go 22 [some (.inr 2), some (.inl x1), some (.inl x2)] [] w := hGo 2 _ _ rfl _ _ _ h
