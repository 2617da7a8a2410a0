/-! RUNS OF INSTRUCTIONS, by program (wip/whole/qgen.py): what each comes to -/
theorem q_FO_isForm_0 {t_0 t_1 : ma_T} {post : ma_P} {Go : ma_G} {w : ma_W} {p1 : Nat} (hGo : ma_cl k_FO_isForm zf_FO (e_FO_isForm t_0 t_1) none 2 s_FO_isForm post Go)
    (h : t_0 [.inr 1, .inr p1] w (fun _ w1 => ((nI 1) = 0 ∨ (nI 1) = 1) ∧ (t_1 [.inr 1, .inl (nI 0), .inl (nI 0)] (ma_up w1.1 1 7 (nI 1), w1.2.1, w1.2.2) (fun _ w2 => (¬ (w2.1 1 8) = (nI 0) → Go 27 [some (.inr 1), some (.inr p1)] [] w2) ∧ (¬ (¬ (w2.1 1 8) = (nI 0)) → Go 28 [some (.inr 1), some (.inr p1)] [.inl (nI 1)] w2))))) :
    Go 0 [some (.inr 1), some (.inr p1)] [] w := hGo 0 _ _ rfl _ _ _ h
theorem q_FO_isForm_27 {t_0 t_1 : ma_T} {post : ma_P} {Go : ma_G} {w : ma_W} {p1 : Nat} (hGo : ma_cl k_FO_isForm zf_FO (e_FO_isForm t_0 t_1) none 2 s_FO_isForm post Go)
    (h : Go 28 [some (.inr 1), some (.inr p1)] [.inl (nI 0)] w) :
    Go 27 [some (.inr 1), some (.inr p1)] [] w := hGo 1 _ _ rfl _ _ _ h
theorem q_FO_isForm_28 {t_0 t_1 : ma_T} {post : ma_P} {Go : ma_G} {w : ma_W} {p1 : Nat} {y0 : Int32} (hGo : ma_cl k_FO_isForm zf_FO (e_FO_isForm t_0 t_1) none 2 s_FO_isForm post Go)
    (h : (y0 = 0 ∨ y0 = 1) ∧ post y0 w) :
    Go 28 [some (.inr 1), some (.inr p1)] [.inl y0] w := hGo 2 _ _ rfl _ _ _ h
theorem qq_FO_findForm_0 {t_0 t_1 t_2 t_3 t_4 t_5 : ma_T} {post : ma_P} {Go : ma_G} {w : ma_W} {p1 : Nat} {p2 : Nat} {o3 : Option ma_V} {o4 : Option ma_V} (hGo : ma_cl k_FO_findForm zf_FO (e_FO_findForm t_0 t_1 t_2 t_3 t_4 t_5) none 0 s_FO_findForm post Go)
    (h : t_0 [.inr 1, .inr p1] w (fun _ w1 => ((nI 0) = 0 ∨ (nI 0) = 1) ∧ (t_1 [.inr 1, .inl (nI 0), .inl (nI 0)] (ma_up w1.1 1 7 (nI 0), w1.2.1, w1.2.2) (fun _ w2 => ma_isk 3 p2 (t_2 [.inr p2] w2 (fun _ w3 => Go 22 [some (.inr 1), some (.inr p1), some (.inr p2), some (.inl (nI 0)), o4] [] w3)))))) :
    Go 0 [some (.inr 1), some (.inr p1), some (.inr p2), o3, o4] [] w := hGo 0 _ _ rfl _ _ _ h
theorem q_FO_findForm_0 {t_0 t_1 t_2 t_3 t_4 t_5 : ma_T} {post : ma_P} {Go : ma_G} {w : ma_W} {p1 : Nat} {p2 : Nat} {o3 : Option ma_V} {o4 : Option ma_V} (hGo : ma_cl k_FO_findForm zf_FO (e_FO_findForm t_0 t_1 t_2 t_3 t_4 t_5) none 0 s_FO_findForm post Go) (h1 : zR p1) (h2 : zR p2)
    (h : t_0 [.inr 1, .inr p1] w (fun _ w1 => ((nI 0) = 0 ∨ (nI 0) = 1) ∧ (t_1 [.inr 1, .inl (nI 0), .inl (nI 0)] (ma_up w1.1 1 7 (nI 0), w1.2.1, w1.2.2) (fun _ w2 => t_2 [.inr p2] w2 (fun _ w3 => Go 22 [some (.inr 1), some (.inr p1), some (.inr p2), some (.inl (nI 0)), o4] [] w3))))) :
    Go 0 [some (.inr 1), some (.inr p1), some (.inr p2), o3, o4] [] w := qq_FO_findForm_0 hGo (by simp only [ma_isk_of (zR_s h1), zR_m h1, ma_ark_of (zR_a h1), ma_isk_of (zR_s h2), zR_m h2, ma_ark_of (zR_a h2)]; exact h)
theorem q_FO_findForm_22 {t_0 t_1 t_2 t_3 t_4 t_5 : ma_T} {post : ma_P} {Go : ma_G} {w : ma_W} {p1 : Nat} {p2 : Nat} {x3 : Int32} {o4 : Option ma_V} (hGo : ma_cl k_FO_findForm zf_FO (e_FO_findForm t_0 t_1 t_2 t_3 t_4 t_5) none 0 s_FO_findForm post Go)
    (h : t_3 [.inr 2] w (fun z1 w1 => (z1 ≤ x3 → Go 71 [some (.inr 1), some (.inr p1), some (.inr p2), some (.inl x3), o4] [] w1) ∧ (¬ (z1 ≤ x3) → Go 36 [some (.inr 1), some (.inr p1), some (.inr p2), some (.inl x3), some (.inl (nI 0))] [] w1))) :
    Go 22 [some (.inr 1), some (.inr p1), some (.inr p2), some (.inl x3), o4] [] w := hGo 1 _ _ rfl _ _ _ h
theorem qq_FO_findForm_36 {t_0 t_1 t_2 t_3 t_4 t_5 : ma_T} {post : ma_P} {Go : ma_G} {w : ma_W} {p1 : Nat} {p2 : Nat} {x3 : Int32} {x4 : Int32} (hGo : ma_cl k_FO_findForm zf_FO (e_FO_findForm t_0 t_1 t_2 t_3 t_4 t_5) none 0 s_FO_findForm post Go)
    (h : ∃ j1 : Nat, j1 < 20 ∧ x3 = nI j1 ∧ (((w.2.2 6 j1) ≤ x4 → Go 65 [some (.inr 1), some (.inr p1), some (.inr p2), some (.inl x3), some (.inl x4)] [] w) ∧ (¬ ((w.2.2 6 j1) ≤ x4) → t_4 [.inr 2, .inl x3] w (fun z2 w2 => ma_isk 3 p2 (t_5 [.inr p2, .inl z2] w2 (fun _ w3 => Go 36 [some (.inr 1), some (.inr p1), some (.inr p2), some (.inl x3), some (.inl (x4 + nI 1))] [] w3)))))) :
    Go 36 [some (.inr 1), some (.inr p1), some (.inr p2), some (.inl x3), some (.inl x4)] [] w := hGo 2 _ _ rfl _ _ _ h
theorem q_FO_findForm_36 {t_0 t_1 t_2 t_3 t_4 t_5 : ma_T} {post : ma_P} {Go : ma_G} {w : ma_W} {p1 : Nat} {p2 : Nat} {x3 : Int32} {x4 : Int32} (hGo : ma_cl k_FO_findForm zf_FO (e_FO_findForm t_0 t_1 t_2 t_3 t_4 t_5) none 0 s_FO_findForm post Go) (h1 : zR p1) (h2 : zR p2)
    (h : ∃ j1 : Nat, j1 < 20 ∧ x3 = nI j1 ∧ (((w.2.2 6 j1) ≤ x4 → Go 65 [some (.inr 1), some (.inr p1), some (.inr p2), some (.inl x3), some (.inl x4)] [] w) ∧ (¬ ((w.2.2 6 j1) ≤ x4) → t_4 [.inr 2, .inl x3] w (fun z2 w2 => t_5 [.inr p2, .inl z2] w2 (fun _ w3 => Go 36 [some (.inr 1), some (.inr p1), some (.inr p2), some (.inl x3), some (.inl (x4 + nI 1))] [] w3))))) :
    Go 36 [some (.inr 1), some (.inr p1), some (.inr p2), some (.inl x3), some (.inl x4)] [] w := qq_FO_findForm_36 hGo (by simp only [ma_isk_of (zR_s h1), zR_m h1, ma_ark_of (zR_a h1), ma_isk_of (zR_s h2), zR_m h2, ma_ark_of (zR_a h2)]; exact h)
theorem q_FO_findForm_65 {t_0 t_1 t_2 t_3 t_4 t_5 : ma_T} {post : ma_P} {Go : ma_G} {w : ma_W} {p1 : Nat} {p2 : Nat} {x3 : Int32} {x4 : Int32} (hGo : ma_cl k_FO_findForm zf_FO (e_FO_findForm t_0 t_1 t_2 t_3 t_4 t_5) none 0 s_FO_findForm post Go)
    (h : Go 22 [some (.inr 1), some (.inr p1), some (.inr p2), some (.inl (x3 + nI 1)), some (.inl x4)] [] w) :
    Go 65 [some (.inr 1), some (.inr p1), some (.inr p2), some (.inl x3), some (.inl x4)] [] w := hGo 3 _ _ rfl _ _ _ h
theorem q_FO_findForm_71 {t_0 t_1 t_2 t_3 t_4 t_5 : ma_T} {post : ma_P} {Go : ma_G} {w : ma_W} {p1 : Nat} {p2 : Nat} {x3 : Int32} {o4 : Option ma_V} (hGo : ma_cl k_FO_findForm zf_FO (e_FO_findForm t_0 t_1 t_2 t_3 t_4 t_5) none 0 s_FO_findForm post Go)
    (h : post 0 w) :
    Go 71 [some (.inr 1), some (.inr p1), some (.inr p2), some (.inl x3), o4] [] w := hGo 4 _ _ rfl _ _ _ h
theorem q_FO_symmetriesFound_0 {post : ma_P} {Go : ma_G} {w : ma_W} (hGo : ma_cl k_FO_symmetriesFound zf_FO e_FO_symmetriesFound none 1 s_FO_symmetriesFound post Go)
    (h : post (w.1 1 6) w) :
    Go 0 [some (.inr 1)] [] w := hGo 0 _ _ rfl _ _ _ h
theorem q_FO_leastImageFound_0 {post : ma_P} {Go : ma_G} {w : ma_W} {x1 : Int32} (hGo : ma_cl k_FO_leastImageFound zf_FO e_FO_leastImageFound none 1 s_FO_leastImageFound post Go)
    (h : ∃ j1 : Nat, j1 < 6 ∧ x1 = nI j1 ∧ (post (w.2.2 9 j1) w)) :
    Go 0 [some (.inr 1), some (.inl x1)] [] w := hGo 0 _ _ rfl _ _ _ h
theorem q_FO_start_0 {t_0 t_1 t_2 t_3 : ma_T} {post : ma_P} {Go : ma_G} {w : ma_W} {p1 : Nat} {o2 : Option ma_V} (hGo : ma_cl k_FO_start zf_FO (e_FO_start t_0 t_1 t_2 t_3) none 0 s_FO_start post Go)
    (h : Go 2 [some (.inr 1), some (.inr p1), some (.inl (nI 0))] [] w) :
    Go 0 [some (.inr 1), some (.inr p1), o2] [] w := hGo 0 _ _ rfl _ _ _ h
theorem q_FO_start_2 {t_0 t_1 t_2 t_3 : ma_T} {post : ma_P} {Go : ma_G} {w : ma_W} {p1 : Nat} {x2 : Int32} (hGo : ma_cl k_FO_start zf_FO (e_FO_start t_0 t_1 t_2 t_3) none 0 s_FO_start post Go)
    (h : t_0 [.inr 2] w (fun z1 w1 => (z1 ≤ x2 → Go 33 [some (.inr 1), some (.inr p1), some (.inl x2)] [] w1) ∧ (¬ (z1 ≤ x2) → t_1 [.inr 2, .inl x2] w1 (fun z2 w2 => ∃ j3 : Nat, j3 < 64 ∧ z2 = nI j3 ∧ (Go 2 [some (.inr 1), some (.inr p1), some (.inl (x2 + nI 1))] [] (w2.1, w2.2.1, ma_up w2.2.2 5 j3 (nI 0))))))) :
    Go 2 [some (.inr 1), some (.inr p1), some (.inl x2)] [] w := hGo 1 _ _ rfl _ _ _ h
theorem q_FO_start_33 {t_0 t_1 t_2 t_3 : ma_T} {post : ma_P} {Go : ma_G} {w : ma_W} {p1 : Nat} {x2 : Int32} (hGo : ma_cl k_FO_start zf_FO (e_FO_start t_0 t_1 t_2 t_3) none 0 s_FO_start post Go)
    (h : Go 35 [some (.inr 1), some (.inr p1), some (.inl (nI 0))] [] w) :
    Go 33 [some (.inr 1), some (.inr p1), some (.inl x2)] [] w := hGo 2 _ _ rfl _ _ _ h
theorem qq_FO_start_35 {t_0 t_1 t_2 t_3 : ma_T} {post : ma_P} {Go : ma_G} {w : ma_W} {p1 : Nat} {x2 : Int32} (hGo : ma_cl k_FO_start zf_FO (e_FO_start t_0 t_1 t_2 t_3) none 0 s_FO_start post Go)
    (h : ma_isk 3 p1 (t_2 [.inr p1] w (fun z1 w1 => (z1 ≤ x2 → Go 63 [some (.inr 1), some (.inr p1), some (.inl x2)] [] w1) ∧ (¬ (z1 ≤ x2) → ma_isk 3 p1 (t_3 [.inr p1, .inl x2] w1 (fun z2 w2 => ∃ j3 : Nat, j3 < 64 ∧ z2 = nI j3 ∧ (∃ j4 : Nat, j4 < 64 ∧ z2 = nI j4 ∧ (Go 35 [some (.inr 1), some (.inr p1), some (.inl (x2 + nI 1))] [] (w2.1, w2.2.1, ma_up w2.2.2 5 j4 ((w2.2.2 5 j3) + (nI 1))))))))))) :
    Go 35 [some (.inr 1), some (.inr p1), some (.inl x2)] [] w := hGo 3 _ _ rfl _ _ _ h
theorem q_FO_start_35 {t_0 t_1 t_2 t_3 : ma_T} {post : ma_P} {Go : ma_G} {w : ma_W} {p1 : Nat} {x2 : Int32} (hGo : ma_cl k_FO_start zf_FO (e_FO_start t_0 t_1 t_2 t_3) none 0 s_FO_start post Go) (h1 : zR p1)
    (h : t_2 [.inr p1] w (fun z1 w1 => (z1 ≤ x2 → Go 63 [some (.inr 1), some (.inr p1), some (.inl x2)] [] w1) ∧ (¬ (z1 ≤ x2) → t_3 [.inr p1, .inl x2] w1 (fun z2 w2 => ∃ j3 : Nat, j3 < 64 ∧ z2 = nI j3 ∧ (∃ j4 : Nat, j4 < 64 ∧ z2 = nI j4 ∧ (Go 35 [some (.inr 1), some (.inr p1), some (.inl (x2 + nI 1))] [] (w2.1, w2.2.1, ma_up w2.2.2 5 j4 ((w2.2.2 5 j3) + (nI 1))))))))) :
    Go 35 [some (.inr 1), some (.inr p1), some (.inl x2)] [] w := qq_FO_start_35 hGo (by simp only [ma_isk_of (zR_s h1), zR_m h1, ma_ark_of (zR_a h1)]; exact h)
theorem q_FO_start_63 {t_0 t_1 t_2 t_3 : ma_T} {post : ma_P} {Go : ma_G} {w : ma_W} {p1 : Nat} {x2 : Int32} (hGo : ma_cl k_FO_start zf_FO (e_FO_start t_0 t_1 t_2 t_3) none 0 s_FO_start post Go)
    (h : Go 65 [some (.inr 1), some (.inr p1), some (.inl (nI 0))] [] w) :
    Go 63 [some (.inr 1), some (.inr p1), some (.inl x2)] [] w := hGo 4 _ _ rfl _ _ _ h
theorem q_FO_start_65 {t_0 t_1 t_2 t_3 : ma_T} {post : ma_P} {Go : ma_G} {w : ma_W} {p1 : Nat} {x2 : Int32} (hGo : ma_cl k_FO_start zf_FO (e_FO_start t_0 t_1 t_2 t_3) none 0 s_FO_start post Go)
    (h : t_0 [.inr 2] w (fun z1 w1 => (z1 ≤ x2 → Go 101 [some (.inr 1), some (.inr p1), some (.inl x2)] [] w1) ∧ (¬ (z1 ≤ x2) → t_1 [.inr 2, .inl x2] w1 (fun z2 w2 => ∃ j3 : Nat, j3 < 64 ∧ z2 = nI j3 ∧ (∃ j4 : Nat, j4 < 20 ∧ x2 = nI j4 ∧ (Go 65 [some (.inr 1), some (.inr p1), some (.inl (x2 + nI 1))] [] (w2.1, w2.2.1, ma_up w2.2.2 6 j4 (w2.2.2 5 j3)))))))) :
    Go 65 [some (.inr 1), some (.inr p1), some (.inl x2)] [] w := hGo 5 _ _ rfl _ _ _ h
theorem q_FO_start_101 {t_0 t_1 t_2 t_3 : ma_T} {post : ma_P} {Go : ma_G} {w : ma_W} {p1 : Nat} {x2 : Int32} (hGo : ma_cl k_FO_start zf_FO (e_FO_start t_0 t_1 t_2 t_3) none 0 s_FO_start post Go)
    (h : Go 103 [some (.inr 1), some (.inr p1), some (.inl (nI 0))] [] w) :
    Go 101 [some (.inr 1), some (.inr p1), some (.inl x2)] [] w := hGo 6 _ _ rfl _ _ _ h
theorem q_FO_start_103 {t_0 t_1 t_2 t_3 : ma_T} {post : ma_P} {Go : ma_G} {w : ma_W} {p1 : Nat} {x2 : Int32} (hGo : ma_cl k_FO_start zf_FO (e_FO_start t_0 t_1 t_2 t_3) none 0 s_FO_start post Go)
    (h : ((nI 6) ≤ x2 → Go 122 [some (.inr 1), some (.inr p1), some (.inl x2)] [] w) ∧ (¬ ((nI 6) ≤ x2) → ∃ j1 : Nat, j1 < 6 ∧ x2 = nI j1 ∧ (Go 103 [some (.inr 1), some (.inr p1), some (.inl (x2 + nI 1))] [] (w.1, w.2.1, ma_up w.2.2 9 j1 x2)))) :
    Go 103 [some (.inr 1), some (.inr p1), some (.inl x2)] [] w := hGo 7 _ _ rfl _ _ _ h
theorem q_FO_start_122 {t_0 t_1 t_2 t_3 : ma_T} {post : ma_P} {Go : ma_G} {w : ma_W} {p1 : Nat} {x2 : Int32} (hGo : ma_cl k_FO_start zf_FO (e_FO_start t_0 t_1 t_2 t_3) none 0 s_FO_start post Go)
    (h : ∃ j1 : Nat, j1 < 64 ∧ (nI 0) = nI j1 ∧ (((nI 0) = 0 ∨ (nI 0) = 1) ∧ (post 0 (ma_up (ma_up w.1 1 6 (nI 0)) 1 8 (nI 0), w.2.1, ma_up w.2.2 7 j1 (nI 0))))) :
    Go 122 [some (.inr 1), some (.inr p1), some (.inl x2)] [] w := hGo 8 _ _ rfl _ _ _ h
theorem q_FO_tryPointsFor_0 {t_0 t_1 t_2 : ma_T} {post : ma_P} {Go : ma_G} {w : ma_W} {x1 : Int32} {x2 : Int32} {o3 : Option ma_V} (hGo : ma_cl k_FO_tryPointsFor zf_FO (e_FO_tryPointsFor t_0 t_1 t_2) none 0 s_FO_tryPointsFor post Go)
    (h : t_0 [.inr 2] w (fun z1 w1 => (x1 < z1 → Go 16 [some (.inr 1), some (.inl x1), some (.inl x2), o3] [] w1) ∧ (¬ (x1 < z1) → t_1 [.inr 1] w1 (fun _ w2 => post 0 w2)))) :
    Go 0 [some (.inr 1), some (.inl x1), some (.inl x2), o3] [] w := hGo 0 _ _ rfl _ _ _ h
theorem q_FO_tryPointsFor_16 {t_0 t_1 t_2 : ma_T} {post : ma_P} {Go : ma_G} {w : ma_W} {x1 : Int32} {x2 : Int32} {o3 : Option ma_V} (hGo : ma_cl k_FO_tryPointsFor zf_FO (e_FO_tryPointsFor t_0 t_1 t_2) none 0 s_FO_tryPointsFor post Go)
    (h : Go 18 [some (.inr 1), some (.inl x1), some (.inl x2), some (.inl (nI 0))] [] w) :
    Go 16 [some (.inr 1), some (.inl x1), some (.inl x2), o3] [] w := hGo 1 _ _ rfl _ _ _ h
theorem q_FO_tryPointsFor_18 {t_0 t_1 t_2 : ma_T} {post : ma_P} {Go : ma_G} {w : ma_W} {x1 : Int32} {x2 : Int32} {x3 : Int32} (hGo : ma_cl k_FO_tryPointsFor zf_FO (e_FO_tryPointsFor t_0 t_1 t_2) none 0 s_FO_tryPointsFor post Go)
    (h : t_0 [.inr 2] w (fun z1 w1 => (z1 ≤ x3 → Go 65 [some (.inr 1), some (.inl x1), some (.inl x2), some (.inl x3)] [] w1) ∧ (¬ (z1 ≤ x3) → (¬ ((x2 >>> (x3 &&& 31)) &&& (nI 1)) = (nI 0) → Go 44 [some (.inr 1), some (.inl x1), some (.inl x2), some (.inl x3)] [] w1) ∧ (¬ (¬ ((x2 >>> (x3 &&& 31)) &&& (nI 1)) = (nI 0)) → t_2 [.inr 1, .inl x1, .inl x3, .inl x2] w1 (fun _ w2 => Go 44 [some (.inr 1), some (.inl x1), some (.inl x2), some (.inl x3)] [] w2))))) :
    Go 18 [some (.inr 1), some (.inl x1), some (.inl x2), some (.inl x3)] [] w := hGo 2 _ _ rfl _ _ _ h
theorem q_FO_tryPointsFor_44 {t_0 t_1 t_2 : ma_T} {post : ma_P} {Go : ma_G} {w : ma_W} {x1 : Int32} {x2 : Int32} {x3 : Int32} (hGo : ma_cl k_FO_tryPointsFor zf_FO (e_FO_tryPointsFor t_0 t_1 t_2) none 0 s_FO_tryPointsFor post Go)
    (h : ((w.1 1 8) = (nI 0) → Go 59 [some (.inr 1), some (.inl x1), some (.inl x2), some (.inl x3)] [] w) ∧ (¬ ((w.1 1 8) = (nI 0)) → ((w.1 1 7) = (nI 0) → Go 59 [some (.inr 1), some (.inl x1), some (.inl x2), some (.inl x3)] [] w) ∧ (¬ ((w.1 1 7) = (nI 0)) → post 0 w))) :
    Go 44 [some (.inr 1), some (.inl x1), some (.inl x2), some (.inl x3)] [] w := hGo 3 _ _ rfl _ _ _ h
theorem q_FO_tryPointsFor_59 {t_0 t_1 t_2 : ma_T} {post : ma_P} {Go : ma_G} {w : ma_W} {x1 : Int32} {x2 : Int32} {x3 : Int32} (hGo : ma_cl k_FO_tryPointsFor zf_FO (e_FO_tryPointsFor t_0 t_1 t_2) none 0 s_FO_tryPointsFor post Go)
    (h : Go 18 [some (.inr 1), some (.inl x1), some (.inl x2), some (.inl (x3 + nI 1))] [] w) :
    Go 59 [some (.inr 1), some (.inl x1), some (.inl x2), some (.inl x3)] [] w := hGo 4 _ _ rfl _ _ _ h
theorem q_FO_tryPointsFor_65 {t_0 t_1 t_2 : ma_T} {post : ma_P} {Go : ma_G} {w : ma_W} {x1 : Int32} {x2 : Int32} {x3 : Int32} (hGo : ma_cl k_FO_tryPointsFor zf_FO (e_FO_tryPointsFor t_0 t_1 t_2) none 0 s_FO_tryPointsFor post Go)
    (h : post 0 w) :
    Go 65 [some (.inr 1), some (.inl x1), some (.inl x2), some (.inl x3)] [] w := hGo 5 _ _ rfl _ _ _ h
theorem q_FO_tryPoint_0 {t_0 t_1 t_2 t_3 : ma_T} {post : ma_P} {Go : ma_G} {w : ma_W} {x1 : Int32} {x2 : Int32} {x3 : Int32} (hGo : ma_cl k_FO_tryPoint zf_FO (e_FO_tryPoint t_0 t_1 t_2 t_3) none 0 s_FO_tryPoint post Go)
    (h : t_0 [.inr 1, .inl x1, .inl x2] w (fun z1 w1 => (¬ z1 = (nI 0) → Go 10 [some (.inr 1), some (.inl x1), some (.inl x2), some (.inl x3)] [] w1) ∧ (¬ (¬ z1 = (nI 0)) → post 0 w1))) :
    Go 0 [some (.inr 1), some (.inl x1), some (.inl x2), some (.inl x3)] [] w := hGo 0 _ _ rfl _ _ _ h
theorem q_FO_tryPoint_10 {t_0 t_1 t_2 t_3 : ma_T} {post : ma_P} {Go : ma_G} {w : ma_W} {x1 : Int32} {x2 : Int32} {x3 : Int32} (hGo : ma_cl k_FO_tryPoint zf_FO (e_FO_tryPoint t_0 t_1 t_2 t_3) none 0 s_FO_tryPoint post Go)
    (h : ∃ j1 : Nat, j1 < 6 ∧ x1 = nI j1 ∧ (t_1 [.inr 2] (w.1, w.2.1, ma_up w.2.2 8 j1 x2) (fun z2 w2 => (z2 ≤ (x1 + (nI 1)) → Go 36 [some (.inr 1), some (.inl x1), some (.inl x2), some (.inl x3)] [] w2) ∧ (¬ (z2 ≤ (x1 + (nI 1))) → t_2 [.inr 1, .inl x1, .inl x2] w2 (fun _ w3 => Go 36 [some (.inr 1), some (.inl x1), some (.inl x2), some (.inl x3)] [] w3))))) :
    Go 10 [some (.inr 1), some (.inl x1), some (.inl x2), some (.inl x3)] [] w := hGo 1 _ _ rfl _ _ _ h
theorem q_FO_tryPoint_36 {t_0 t_1 t_2 t_3 : ma_T} {post : ma_P} {Go : ma_G} {w : ma_W} {x1 : Int32} {x2 : Int32} {x3 : Int32} (hGo : ma_cl k_FO_tryPoint zf_FO (e_FO_tryPoint t_0 t_1 t_2 t_3) none 0 s_FO_tryPoint post Go)
    (h : t_3 [.inr 1, .inl (x1 + (nI 1)), .inl (x3 ||| ((nI 1) <<< (x2 &&& 31)))] w (fun _ w1 => post 0 w1)) :
    Go 36 [some (.inr 1), some (.inl x1), some (.inl x2), some (.inl x3)] [] w := hGo 2 _ _ rfl _ _ _ h
theorem q_FO_settleImages_0 {post : ma_P} {Go : ma_G} {w : ma_W} {x1 : Int32} {x2 : Int32} {o3 : Option ma_V} (hGo : ma_cl k_FO_settleImages zf_FO e_FO_settleImages none 0 s_FO_settleImages post Go)
    (h : Go 2 [some (.inr 1), some (.inl x1), some (.inl x2), some (.inl (nI 0))] [] w) :
    Go 0 [some (.inr 1), some (.inl x1), some (.inl x2), o3] [] w := hGo 0 _ _ rfl _ _ _ h
theorem q_FO_settleImages_2 {post : ma_P} {Go : ma_G} {w : ma_W} {x1 : Int32} {x2 : Int32} {x3 : Int32} (hGo : ma_cl k_FO_settleImages zf_FO e_FO_settleImages none 0 s_FO_settleImages post Go)
    (h : (((nI 1) <<< (x1 &&& 31)) ≤ x3 → Go 35 [some (.inr 1), some (.inl x1), some (.inl x2), some (.inl x3)] [] w) ∧ (¬ (((nI 1) <<< (x1 &&& 31)) ≤ x3) → ∃ j1 : Nat, j1 < 64 ∧ x3 = nI j1 ∧ (∃ j2 : Nat, j2 < 64 ∧ (((nI 1) <<< (x1 &&& 31)) ||| x3) = nI j2 ∧ (Go 2 [some (.inr 1), some (.inl x1), some (.inl x2), some (.inl (x3 + nI 1))] [] (w.1, w.2.1, ma_up w.2.2 7 j2 ((w.2.2 7 j1) ||| ((nI 1) <<< (x2 &&& 31)))))))) :
    Go 2 [some (.inr 1), some (.inl x1), some (.inl x2), some (.inl x3)] [] w := hGo 1 _ _ rfl _ _ _ h
theorem q_FO_settleImages_35 {post : ma_P} {Go : ma_G} {w : ma_W} {x1 : Int32} {x2 : Int32} {x3 : Int32} (hGo : ma_cl k_FO_settleImages zf_FO e_FO_settleImages none 0 s_FO_settleImages post Go)
    (h : post 0 w) :
    Go 35 [some (.inr 1), some (.inl x1), some (.inl x2), some (.inl x3)] [] w := hGo 2 _ _ rfl _ _ _ h
theorem q_FO_isAsGood_0 {t_0 t_1 t_2 : ma_T} {post : ma_P} {Go : ma_G} {w : ma_W} {x1 : Int32} {x2 : Int32} {o3 : Option ma_V} {o4 : Option ma_V} {o5 : Option ma_V} (hGo : ma_cl k_FO_isAsGood zf_FO (e_FO_isAsGood t_0 t_1 t_2) none 2 s_FO_isAsGood post Go)
    (h : t_0 [.inr 2, .inl (x1 + (nI 1))] w (fun z1 w1 => t_0 [.inr 2, .inl x1] w1 (fun z2 w2 => Go 21 [some (.inr 1), some (.inl x1), some (.inl x2), some (.inl z1), some (.inl z2), o5] [] w2))) :
    Go 0 [some (.inr 1), some (.inl x1), some (.inl x2), o3, o4, o5] [] w := hGo 0 _ _ rfl _ _ _ h
theorem q_FO_isAsGood_21 {t_0 t_1 t_2 : ma_T} {post : ma_P} {Go : ma_G} {w : ma_W} {x1 : Int32} {x2 : Int32} {x3 : Int32} {x4 : Int32} {o5 : Option ma_V} (hGo : ma_cl k_FO_isAsGood zf_FO (e_FO_isAsGood t_0 t_1 t_2) none 2 s_FO_isAsGood post Go)
    (h : (x3 ≤ x4 → Go 110 [some (.inr 1), some (.inl x1), some (.inl x2), some (.inl x3), some (.inl x4), o5] [] w) ∧ (¬ (x3 ≤ x4) → t_1 [.inr 2, .inl x4] w (fun z1 w1 => ∃ j2 : Nat, j2 < 64 ∧ (z1 ^^^ ((nI 1) <<< (x1 &&& 31))) = nI j2 ∧ (∃ j3 : Nat, j3 < 64 ∧ ((w1.2.2 7 j2) ||| ((nI 1) <<< (x2 &&& 31))) = nI j3 ∧ (∃ j4 : Nat, j4 < 20 ∧ x4 = nI j4 ∧ (((w1.2.2 6 j4) ≤ (w1.2.2 5 j3) → Go 70 [some (.inr 1), some (.inl x1), some (.inl x2), some (.inl x3), some (.inl x4), some (.inl (w1.2.2 5 j3))] [] w1) ∧ (¬ ((w1.2.2 6 j4) ≤ (w1.2.2 5 j3)) → ((nI 0) = 0 ∨ (nI 0) = 1) ∧ post (nI 0) w1))))))) :
    Go 21 [some (.inr 1), some (.inl x1), some (.inl x2), some (.inl x3), some (.inl x4), o5] [] w := hGo 1 _ _ rfl _ _ _ h
theorem q_FO_isAsGood_70 {t_0 t_1 t_2 : ma_T} {post : ma_P} {Go : ma_G} {w : ma_W} {x1 : Int32} {x2 : Int32} {x3 : Int32} {x4 : Int32} {x5 : Int32} (hGo : ma_cl k_FO_isAsGood zf_FO (e_FO_isAsGood t_0 t_1 t_2) none 2 s_FO_isAsGood post Go)
    (h : ∃ j1 : Nat, j1 < 20 ∧ x4 = nI j1 ∧ ((x5 ≤ (w.2.2 6 j1) → Go 104 [some (.inr 1), some (.inl x1), some (.inl x2), some (.inl x3), some (.inl x4), some (.inl x5)] [] w) ∧ (¬ (x5 ≤ (w.2.2 6 j1)) → ((nI 1) = 0 ∨ (nI 1) = 1) ∧ (((w.1 1 7) = (nI 0) → Go 96 [some (.inr 1), some (.inl x1), some (.inl x2), some (.inl x3), some (.inl x4), some (.inl x5)] [] (ma_up w.1 1 8 (nI 1), w.2.1, w.2.2)) ∧ (¬ ((w.1 1 7) = (nI 0)) → ((nI 0) = 0 ∨ (nI 0) = 1) ∧ post (nI 0) (ma_up w.1 1 8 (nI 1), w.2.1, w.2.2)))))) :
    Go 70 [some (.inr 1), some (.inl x1), some (.inl x2), some (.inl x3), some (.inl x4), some (.inl x5)] [] w := hGo 2 _ _ rfl _ _ _ h
theorem q_FO_isAsGood_96 {t_0 t_1 t_2 : ma_T} {post : ma_P} {Go : ma_G} {w : ma_W} {x1 : Int32} {x2 : Int32} {x3 : Int32} {x4 : Int32} {x5 : Int32} (hGo : ma_cl k_FO_isAsGood zf_FO (e_FO_isAsGood t_0 t_1 t_2) none 2 s_FO_isAsGood post Go)
    (h : t_2 [.inr 1, .inl x4, .inl x5] w (fun _ w1 => Go 104 [some (.inr 1), some (.inl x1), some (.inl x2), some (.inl x3), some (.inl x4), some (.inl x5)] [] w1)) :
    Go 96 [some (.inr 1), some (.inl x1), some (.inl x2), some (.inl x3), some (.inl x4), some (.inl x5)] [] w := hGo 3 _ _ rfl _ _ _ h
theorem q_FO_isAsGood_104 {t_0 t_1 t_2 : ma_T} {post : ma_P} {Go : ma_G} {w : ma_W} {x1 : Int32} {x2 : Int32} {x3 : Int32} {x4 : Int32} {x5 : Int32} (hGo : ma_cl k_FO_isAsGood zf_FO (e_FO_isAsGood t_0 t_1 t_2) none 2 s_FO_isAsGood post Go)
    (h : Go 21 [some (.inr 1), some (.inl x1), some (.inl x2), some (.inl x3), some (.inl (x4 + nI 1)), some (.inl x5)] [] w) :
    Go 104 [some (.inr 1), some (.inl x1), some (.inl x2), some (.inl x3), some (.inl x4), some (.inl x5)] [] w := hGo 4 _ _ rfl _ _ _ h
theorem q_FO_isAsGood_110 {t_0 t_1 t_2 : ma_T} {post : ma_P} {Go : ma_G} {w : ma_W} {x1 : Int32} {x2 : Int32} {x3 : Int32} {x4 : Int32} {o5 : Option ma_V} (hGo : ma_cl k_FO_isAsGood zf_FO (e_FO_isAsGood t_0 t_1 t_2) none 2 s_FO_isAsGood post Go)
    (h : ((nI 1) = 0 ∨ (nI 1) = 1) ∧ post (nI 1) w) :
    Go 110 [some (.inr 1), some (.inl x1), some (.inl x2), some (.inl x3), some (.inl x4), o5] [] w := hGo 5 _ _ rfl _ _ _ h
theorem q_FO_makeBest_0 {post : ma_P} {Go : ma_G} {w : ma_W} {x1 : Int32} {x2 : Int32} {o3 : Option ma_V} (hGo : ma_cl k_FO_makeBest zf_FO e_FO_makeBest none 0 s_FO_makeBest post Go)
    (h : ∃ j1 : Nat, j1 < 20 ∧ x1 = nI j1 ∧ (Go 11 [some (.inr 1), some (.inl x1), some (.inl x2), some (.inl (x1 + (nI 1)))] [] (w.1, w.2.1, ma_up w.2.2 6 j1 x2))) :
    Go 0 [some (.inr 1), some (.inl x1), some (.inl x2), o3] [] w := hGo 0 _ _ rfl _ _ _ h
theorem q_FO_makeBest_11 {post : ma_P} {Go : ma_G} {w : ma_W} {x1 : Int32} {x2 : Int32} {x3 : Int32} (hGo : ma_cl k_FO_makeBest zf_FO e_FO_makeBest none 0 s_FO_makeBest post Go)
    (h : ((nI 20) ≤ x3 → Go 30 [some (.inr 1), some (.inl x1), some (.inl x2), some (.inl x3)] [] w) ∧ (¬ ((nI 20) ≤ x3) → ∃ j1 : Nat, j1 < 20 ∧ x3 = nI j1 ∧ (Go 11 [some (.inr 1), some (.inl x1), some (.inl x2), some (.inl (x3 + nI 1))] [] (w.1, w.2.1, ma_up w.2.2 6 j1 (Int32.ofInt (-1)))))) :
    Go 11 [some (.inr 1), some (.inl x1), some (.inl x2), some (.inl x3)] [] w := hGo 1 _ _ rfl _ _ _ h
theorem q_FO_makeBest_30 {post : ma_P} {Go : ma_G} {w : ma_W} {x1 : Int32} {x2 : Int32} {x3 : Int32} (hGo : ma_cl k_FO_makeBest zf_FO e_FO_makeBest none 0 s_FO_makeBest post Go)
    (h : post 0 (ma_up w.1 1 6 (nI 0), w.2.1, w.2.2)) :
    Go 30 [some (.inr 1), some (.inl x1), some (.inl x2), some (.inl x3)] [] w := hGo 2 _ _ rfl _ _ _ h
theorem q_FO_countRenaming_0 {t_0 : ma_T} {post : ma_P} {Go : ma_G} {w : ma_W} {o1 : Option ma_V} (hGo : ma_cl k_FO_countRenaming zf_FO (e_FO_countRenaming t_0) none 0 s_FO_countRenaming post Go)
    (h : Go 12 [some (.inr 1), some (.inl (nI 0))] [] (ma_up w.1 1 6 ((w.1 1 6) + (nI 1)), w.2.1, w.2.2)) :
    Go 0 [some (.inr 1), o1] [] w := hGo 0 _ _ rfl _ _ _ h
theorem q_FO_countRenaming_12 {t_0 : ma_T} {post : ma_P} {Go : ma_G} {w : ma_W} {x1 : Int32} (hGo : ma_cl k_FO_countRenaming zf_FO (e_FO_countRenaming t_0) none 0 s_FO_countRenaming post Go)
    (h : t_0 [.inr 2] w (fun z1 w1 => (z1 ≤ x1 → Go 50 [some (.inr 1), some (.inl x1)] [] w1) ∧ (¬ (z1 ≤ x1) → ∃ j2 : Nat, j2 < 6 ∧ x1 = nI j2 ∧ (∃ j3 : Nat, j3 < 6 ∧ x1 = nI j3 ∧ (ma_min [.inl (w1.2.2 9 j2), .inl (w1.2.2 8 j3)] w1 (fun z4 w4 => ∃ j5 : Nat, j5 < 6 ∧ x1 = nI j5 ∧ (Go 12 [some (.inr 1), some (.inl (x1 + nI 1))] [] (w4.1, w4.2.1, ma_up w4.2.2 9 j5 z4)))))))) :
    Go 12 [some (.inr 1), some (.inl x1)] [] w := hGo 1 _ _ rfl _ _ _ h
theorem q_FO_countRenaming_50 {t_0 : ma_T} {post : ma_P} {Go : ma_G} {w : ma_W} {x1 : Int32} (hGo : ma_cl k_FO_countRenaming zf_FO (e_FO_countRenaming t_0) none 0 s_FO_countRenaming post Go)
    (h : post 0 w) :
    Go 50 [some (.inr 1), some (.inl x1)] [] w := hGo 2 _ _ rfl _ _ _ h
