/-! RUNS OF INSTRUCTIONS, by program (wip/whole/qgen.py): what each comes to -/
theorem q_MO_bits_0 {post : ma_P} {Go : ma_G} {w : ma_W} {x0 : Int32} {o1 : Option ma_V} {o2 : Option ma_V} (hGo : ma_cl k_MO_bits zf_MO e_MO_bits none 1 s_MO_bits post Go)
    (h : Go 4 [some (.inl x0), some (.inl (nI 0)), some (.inl (nI 0))] [] w) :
    Go 0 [some (.inl x0), o1, o2] [] w := hGo 0 _ _ rfl _ _ _ h
theorem q_MO_bits_4 {post : ma_P} {Go : ma_G} {w : ma_W} {x0 : Int32} {x1 : Int32} {x2 : Int32} (hGo : ma_cl k_MO_bits zf_MO e_MO_bits none 1 s_MO_bits post Go)
    (h : ((nI 6) ≤ x2 → Go 24 [some (.inl x0), some (.inl x1), some (.inl x2)] [] w) ∧ (¬ ((nI 6) ≤ x2) → Go 4 [some (.inl x0), some (.inl (x1 + ((x0 >>> (x2 &&& 31)) &&& (nI 1)))), some (.inl (x2 + nI 1))] [] w)) :
    Go 4 [some (.inl x0), some (.inl x1), some (.inl x2)] [] w := hGo 1 _ _ rfl _ _ _ h
theorem q_MO_bits_24 {post : ma_P} {Go : ma_G} {w : ma_W} {x0 : Int32} {x1 : Int32} {x2 : Int32} (hGo : ma_cl k_MO_bits zf_MO e_MO_bits none 1 s_MO_bits post Go)
    (h : post x1 w) :
    Go 24 [some (.inl x0), some (.inl x1), some (.inl x2)] [] w := hGo 2 _ _ rfl _ _ _ h
theorem q_MO_isBlock_0 {t_0 : ma_T} {post : ma_P} {Go : ma_G} {w : ma_W} {x1 : Int32} (hGo : ma_cl k_MO_isBlock zf_MO (e_MO_isBlock t_0) none 2 s_MO_isBlock post Go)
    (h : ((w.1 24 0) = (nI 0) → Go 36 [some (.inr 24), some (.inl x1)] [] w) ∧ (¬ ((w.1 24 0) = (nI 0)) → (x1 < (nI 0) → Go 36 [some (.inr 24), some (.inl x1)] [] w) ∧ (¬ (x1 < (nI 0)) → (((nI 1) <<< ((w.1 24 1) &&& 31)) ≤ x1 → Go 36 [some (.inr 24), some (.inl x1)] [] w) ∧ (¬ (((nI 1) <<< ((w.1 24 1) &&& 31)) ≤ x1) → t_0 [.inl x1] w (fun z1 w1 => (¬ z1 = (w1.1 24 2) → Go 36 [some (.inr 24), some (.inl x1)] [] w1) ∧ (¬ (¬ z1 = (w1.1 24 2)) → Go 37 [some (.inr 24), some (.inl x1)] [.inl (nI 1)] w1)))))) :
    Go 0 [some (.inr 24), some (.inl x1)] [] w := hGo 0 _ _ rfl _ _ _ h
theorem q_MO_isBlock_36 {t_0 : ma_T} {post : ma_P} {Go : ma_G} {w : ma_W} {x1 : Int32} (hGo : ma_cl k_MO_isBlock zf_MO (e_MO_isBlock t_0) none 2 s_MO_isBlock post Go)
    (h : Go 37 [some (.inr 24), some (.inl x1)] [.inl (nI 0)] w) :
    Go 36 [some (.inr 24), some (.inl x1)] [] w := hGo 1 _ _ rfl _ _ _ h
theorem q_MO_isBlock_37 {t_0 : ma_T} {post : ma_P} {Go : ma_G} {w : ma_W} {x1 : Int32} {y0 : Int32} (hGo : ma_cl k_MO_isBlock zf_MO (e_MO_isBlock t_0) none 2 s_MO_isBlock post Go)
    (h : (y0 = 0 ∨ y0 = 1) ∧ post y0 w) :
    Go 37 [some (.inr 24), some (.inl x1)] [.inl y0] w := hGo 2 _ _ rfl _ _ _ h
theorem q_MO_isPoint_0 {post : ma_P} {Go : ma_G} {w : ma_W} {x1 : Int32} (hGo : ma_cl k_MO_isPoint zf_MO e_MO_isPoint none 2 s_MO_isPoint post Go)
    (h : ((w.1 24 0) = (nI 0) → Go 23 [some (.inr 24), some (.inl x1)] [] w) ∧ (¬ ((w.1 24 0) = (nI 0)) → (x1 < (nI 0) → Go 23 [some (.inr 24), some (.inl x1)] [] w) ∧ (¬ (x1 < (nI 0)) → ((w.1 24 1) ≤ x1 → Go 23 [some (.inr 24), some (.inl x1)] [] w) ∧ (¬ ((w.1 24 1) ≤ x1) → Go 24 [some (.inr 24), some (.inl x1)] [.inl (nI 1)] w)))) :
    Go 0 [some (.inr 24), some (.inl x1)] [] w := hGo 0 _ _ rfl _ _ _ h
theorem q_MO_isPoint_23 {post : ma_P} {Go : ma_G} {w : ma_W} {x1 : Int32} (hGo : ma_cl k_MO_isPoint zf_MO e_MO_isPoint none 2 s_MO_isPoint post Go)
    (h : Go 24 [some (.inr 24), some (.inl x1)] [.inl (nI 0)] w) :
    Go 23 [some (.inr 24), some (.inl x1)] [] w := hGo 1 _ _ rfl _ _ _ h
theorem q_MO_isPoint_24 {post : ma_P} {Go : ma_G} {w : ma_W} {x1 : Int32} {y0 : Int32} (hGo : ma_cl k_MO_isPoint zf_MO e_MO_isPoint none 2 s_MO_isPoint post Go)
    (h : (y0 = 0 ∨ y0 = 1) ∧ post y0 w) :
    Go 24 [some (.inr 24), some (.inl x1)] [.inl y0] w := hGo 2 _ _ rfl _ _ _ h
theorem q_MO_isEntry_0 {post : ma_P} {Go : ma_G} {w : ma_W} {x1 : Int32} (hGo : ma_cl k_MO_isEntry zf_MO e_MO_isEntry none 2 s_MO_isEntry post Go)
    (h : (x1 < (nI 0) → Go 16 [some (.inr 24), some (.inl x1)] [] w) ∧ (¬ (x1 < (nI 0)) → ((w.1 24 9) ≤ x1 → Go 16 [some (.inr 24), some (.inl x1)] [] w) ∧ (¬ ((w.1 24 9) ≤ x1) → Go 17 [some (.inr 24), some (.inl x1)] [.inl (nI 1)] w))) :
    Go 0 [some (.inr 24), some (.inl x1)] [] w := hGo 0 _ _ rfl _ _ _ h
theorem q_MO_isEntry_16 {post : ma_P} {Go : ma_G} {w : ma_W} {x1 : Int32} (hGo : ma_cl k_MO_isEntry zf_MO e_MO_isEntry none 2 s_MO_isEntry post Go)
    (h : Go 17 [some (.inr 24), some (.inl x1)] [.inl (nI 0)] w) :
    Go 16 [some (.inr 24), some (.inl x1)] [] w := hGo 1 _ _ rfl _ _ _ h
theorem q_MO_isEntry_17 {post : ma_P} {Go : ma_G} {w : ma_W} {x1 : Int32} {y0 : Int32} (hGo : ma_cl k_MO_isEntry zf_MO e_MO_isEntry none 2 s_MO_isEntry post Go)
    (h : (y0 = 0 ∨ y0 = 1) ∧ post y0 w) :
    Go 17 [some (.inr 24), some (.inl x1)] [.inl y0] w := hGo 2 _ _ rfl _ _ _ h
theorem q_MO_layOut_0 {t_0 t_1 : ma_T} {post : ma_P} {Go : ma_G} {w : ma_W} {o1 : Option ma_V} (hGo : ma_cl k_MO_layOut zf_MO (e_MO_layOut t_0 t_1) none 0 s_MO_layOut post Go)
    (h : Go 7 [some (.inr 24), some (.inl (nI 0))] [] (ma_up w.1 24 5 (nI 0), w.2.1, w.2.2)) :
    Go 0 [some (.inr 24), o1] [] w := hGo 0 _ _ rfl _ _ _ h
theorem q_MO_layOut_7 {t_0 t_1 : ma_T} {post : ma_P} {Go : ma_G} {w : ma_W} {x1 : Int32} (hGo : ma_cl k_MO_layOut zf_MO (e_MO_layOut t_0 t_1) none 0 s_MO_layOut post Go)
    (h : (((nI 1) <<< ((w.1 24 1) &&& 31)) ≤ x1 → Go 54 [some (.inr 24), some (.inl x1)] [] w) ∧ (¬ (((nI 1) <<< ((w.1 24 1) &&& 31)) ≤ x1) → t_0 [.inl x1] w (fun z1 w1 => (¬ z1 = (w1.1 24 2) → Go 48 [some (.inr 24), some (.inl x1)] [] w1) ∧ (¬ (¬ z1 = (w1.1 24 2)) → ∃ j2 : Nat, j2 < 20 ∧ (w1.1 24 5) = nI j2 ∧ (Go 48 [some (.inr 24), some (.inl x1)] [] (ma_up w1.1 24 5 ((w1.1 24 5) + (nI 1)), w1.2.1, ma_up w1.2.2 25 j2 x1)))))) :
    Go 7 [some (.inr 24), some (.inl x1)] [] w := hGo 1 _ _ rfl _ _ _ h
theorem q_MO_layOut_48 {t_0 t_1 : ma_T} {post : ma_P} {Go : ma_G} {w : ma_W} {x1 : Int32} (hGo : ma_cl k_MO_layOut zf_MO (e_MO_layOut t_0 t_1) none 0 s_MO_layOut post Go)
    (h : Go 7 [some (.inr 24), some (.inl (x1 + nI 1))] [] w) :
    Go 48 [some (.inr 24), some (.inl x1)] [] w := hGo 2 _ _ rfl _ _ _ h
theorem q_MO_layOut_54 {t_0 t_1 : ma_T} {post : ma_P} {Go : ma_G} {w : ma_W} {x1 : Int32} (hGo : ma_cl k_MO_layOut zf_MO (e_MO_layOut t_0 t_1) none 0 s_MO_layOut post Go)
    (h : Go 61 [some (.inr 24), some (.inl (nI 2))] [] (ma_up w.1 24 7 (nI 1), w.2.1, w.2.2)) :
    Go 54 [some (.inr 24), some (.inl x1)] [] w := hGo 3 _ _ rfl _ _ _ h
theorem q_MO_layOut_61 {t_0 t_1 : ma_T} {post : ma_P} {Go : ma_G} {w : ma_W} {x1 : Int32} (hGo : ma_cl k_MO_layOut zf_MO (e_MO_layOut t_0 t_1) none 0 s_MO_layOut post Go)
    (h : ((w.1 24 1) < x1 → Go 85 [some (.inr 24), some (.inl x1)] [] w) ∧ (¬ ((w.1 24 1) < x1) → Go 61 [some (.inr 24), some (.inl (x1 + nI 1))] [] (ma_up w.1 24 7 ((w.1 24 7) * x1), w.2.1, w.2.2))) :
    Go 61 [some (.inr 24), some (.inl x1)] [] w := hGo 4 _ _ rfl _ _ _ h
theorem q_MO_layOut_85 {t_0 t_1 : ma_T} {post : ma_P} {Go : ma_G} {w : ma_W} {x1 : Int32} (hGo : ma_cl k_MO_layOut zf_MO (e_MO_layOut t_0 t_1) none 0 s_MO_layOut post Go)
    (h : Go 87 [some (.inr 24), some (.inl (nI 0))] [] w) :
    Go 85 [some (.inr 24), some (.inl x1)] [] w := hGo 5 _ _ rfl _ _ _ h
theorem q_MO_layOut_87 {t_0 t_1 : ma_T} {post : ma_P} {Go : ma_G} {w : ma_W} {x1 : Int32} (hGo : ma_cl k_MO_layOut zf_MO (e_MO_layOut t_0 t_1) none 0 s_MO_layOut post Go)
    (h : ((w.1 24 7) ≤ x1 → Go 106 [some (.inr 24), some (.inl x1)] [] w) ∧ (¬ ((w.1 24 7) ≤ x1) → t_1 [.inr 24, .inl x1] w (fun _ w1 => Go 87 [some (.inr 24), some (.inl (x1 + nI 1))] [] w1))) :
    Go 87 [some (.inr 24), some (.inl x1)] [] w := hGo 6 _ _ rfl _ _ _ h
theorem q_MO_layOut_106 {t_0 t_1 : ma_T} {post : ma_P} {Go : ma_G} {w : ma_W} {x1 : Int32} (hGo : ma_cl k_MO_layOut zf_MO (e_MO_layOut t_0 t_1) none 0 s_MO_layOut post Go)
    (h : post 0 w) :
    Go 106 [some (.inr 24), some (.inl x1)] [] w := hGo 7 _ _ rfl _ _ _ h
theorem q_MO_rename_0 {post : ma_P} {Go : ma_G} {w : ma_W} {x1 : Int32} {o2 : Option ma_V} {o3 : Option ma_V} {o4 : Option ma_V} {o5 : Option ma_V} {o6 : Option ma_V} {o7 : Option ma_V} (hGo : ma_cl k_MO_rename zf_MO e_MO_rename none 0 s_MO_rename post Go)
    (h : Go 7 [some (.inr 24), some (.inl x1), some (.inl x1), some (.inl (nI 0)), some (.inl (nI 0)), o5, o6, o7] [] w) :
    Go 0 [some (.inr 24), some (.inl x1), o2, o3, o4, o5, o6, o7] [] w := hGo 0 _ _ rfl _ _ _ h
theorem q_MO_rename_7 {post : ma_P} {Go : ma_G} {w : ma_W} {x1 : Int32} {x2 : Int32} {x3 : Int32} {x4 : Int32} {o5 : Option ma_V} {o6 : Option ma_V} {o7 : Option ma_V} (hGo : ma_cl k_MO_rename zf_MO e_MO_rename none 0 s_MO_rename post Go)
    (h : ((w.1 24 1) ≤ x4 → Go 108 [some (.inr 24), some (.inl x1), some (.inl x2), some (.inl x3), some (.inl x4), o5, o6, o7] [] w) ∧ (¬ ((w.1 24 1) ≤ x4) → ¬ ((w.1 24 1) - x4) = 0 ∧ (¬ ((w.1 24 1) - x4) = 0 ∧ (Go 39 [some (.inr 24), some (.inl x1), some (.inl (x2 / ((w.1 24 1) - x4))), some (.inl x3), some (.inl x4), some (.inl ((w.1 24 1) - x4)), some (.inl (x2 - x2 / ((w.1 24 1) - x4) * ((w.1 24 1) - x4))), some (.inl (nI 0))] [] w)))) :
    Go 7 [some (.inr 24), some (.inl x1), some (.inl x2), some (.inl x3), some (.inl x4), o5, o6, o7] [] w := hGo 1 _ _ rfl _ _ _ h
theorem q_MO_rename_39 {post : ma_P} {Go : ma_G} {w : ma_W} {x1 : Int32} {x2 : Int32} {x3 : Int32} {x4 : Int32} {x5 : Int32} {x6 : Int32} {x7 : Int32} (hGo : ma_cl k_MO_rename zf_MO e_MO_rename none 0 s_MO_rename post Go)
    (h : ((nI 0) < x6 → Go 54 [some (.inr 24), some (.inl x1), some (.inl x2), some (.inl x3), some (.inl x4), some (.inl x5), some (.inl x6), some (.inl x7)] [] w) ∧ (¬ ((nI 0) < x6) → (¬ ((x3 >>> (x7 &&& 31)) &&& (nI 1)) = (nI 1) → Go 81 [some (.inr 24), some (.inl x1), some (.inl x2), some (.inl x3), some (.inl x4), some (.inl x5), some (.inl x6), some (.inl x7)] [] w) ∧ (¬ (¬ ((x3 >>> (x7 &&& 31)) &&& (nI 1)) = (nI 1)) → Go 54 [some (.inr 24), some (.inl x1), some (.inl x2), some (.inl x3), some (.inl x4), some (.inl x5), some (.inl x6), some (.inl x7)] [] w))) :
    Go 39 [some (.inr 24), some (.inl x1), some (.inl x2), some (.inl x3), some (.inl x4), some (.inl x5), some (.inl x6), some (.inl x7)] [] w := hGo 2 _ _ rfl _ _ _ h
theorem q_MO_rename_54 {post : ma_P} {Go : ma_G} {w : ma_W} {x1 : Int32} {x2 : Int32} {x3 : Int32} {x4 : Int32} {x5 : Int32} {x6 : Int32} {x7 : Int32} (hGo : ma_cl k_MO_rename zf_MO e_MO_rename none 0 s_MO_rename post Go)
    (h : (¬ ((x3 >>> (x7 &&& 31)) &&& (nI 1)) = (nI 1) → Go 69 [some (.inr 24), some (.inl x1), some (.inl x2), some (.inl x3), some (.inl x4), some (.inl x5), some (.inl x6), some (.inl x7)] [] w) ∧ (¬ (¬ ((x3 >>> (x7 &&& 31)) &&& (nI 1)) = (nI 1)) → Go 73 [some (.inr 24), some (.inl x1), some (.inl x2), some (.inl x3), some (.inl x4), some (.inl x5), some (.inl x6), some (.inl x7)] [.inl x6] w)) :
    Go 54 [some (.inr 24), some (.inl x1), some (.inl x2), some (.inl x3), some (.inl x4), some (.inl x5), some (.inl x6), some (.inl x7)] [] w := hGo 3 _ _ rfl _ _ _ h
theorem q_MO_rename_69 {post : ma_P} {Go : ma_G} {w : ma_W} {x1 : Int32} {x2 : Int32} {x3 : Int32} {x4 : Int32} {x5 : Int32} {x6 : Int32} {x7 : Int32} (hGo : ma_cl k_MO_rename zf_MO e_MO_rename none 0 s_MO_rename post Go)
    (h : Go 73 [some (.inr 24), some (.inl x1), some (.inl x2), some (.inl x3), some (.inl x4), some (.inl x5), some (.inl x6), some (.inl x7)] [.inl (x6 - (nI 1))] w) :
    Go 69 [some (.inr 24), some (.inl x1), some (.inl x2), some (.inl x3), some (.inl x4), some (.inl x5), some (.inl x6), some (.inl x7)] [] w := hGo 4 _ _ rfl _ _ _ h
theorem q_MO_rename_73 {post : ma_P} {Go : ma_G} {w : ma_W} {x1 : Int32} {x2 : Int32} {x3 : Int32} {x4 : Int32} {x5 : Int32} {x6 : Int32} {x7 : Int32} {y0 : Int32} (hGo : ma_cl k_MO_rename zf_MO e_MO_rename none 0 s_MO_rename post Go)
    (h : Go 39 [some (.inr 24), some (.inl x1), some (.inl x2), some (.inl x3), some (.inl x4), some (.inl x5), some (.inl y0), some (.inl (x7 + nI 1))] [] w) :
    Go 73 [some (.inr 24), some (.inl x1), some (.inl x2), some (.inl x3), some (.inl x4), some (.inl x5), some (.inl x6), some (.inl x7)] [.inl y0] w := hGo 5 _ _ rfl _ _ _ h
theorem q_MO_rename_81 {post : ma_P} {Go : ma_G} {w : ma_W} {x1 : Int32} {x2 : Int32} {x3 : Int32} {x4 : Int32} {x5 : Int32} {x6 : Int32} {x7 : Int32} (hGo : ma_cl k_MO_rename zf_MO e_MO_rename none 0 s_MO_rename post Go)
    (h : ∃ j1 : Nat, j1 < 4320 ∧ (((nI 6) * x1) + x4) = nI j1 ∧ (Go 7 [some (.inr 24), some (.inl x1), some (.inl x2), some (.inl (x3 ||| ((nI 1) <<< (x7 &&& 31)))), some (.inl (x4 + nI 1)), some (.inl x5), some (.inl x6), some (.inl x7)] [] (w.1, w.2.1, ma_up w.2.2 26 j1 x7))) :
    Go 81 [some (.inr 24), some (.inl x1), some (.inl x2), some (.inl x3), some (.inl x4), some (.inl x5), some (.inl x6), some (.inl x7)] [] w := hGo 6 _ _ rfl _ _ _ h
theorem q_MO_rename_108 {post : ma_P} {Go : ma_G} {w : ma_W} {x1 : Int32} {x2 : Int32} {x3 : Int32} {x4 : Int32} {o5 : Option ma_V} {o6 : Option ma_V} {o7 : Option ma_V} (hGo : ma_cl k_MO_rename zf_MO e_MO_rename none 0 s_MO_rename post Go)
    (h : post 0 w) :
    Go 108 [some (.inr 24), some (.inl x1), some (.inl x2), some (.inl x3), some (.inl x4), o5, o6, o7] [] w := hGo 7 _ _ rfl _ _ _ h
theorem q_MO_image_0 {post : ma_P} {Go : ma_G} {w : ma_W} {x1 : Int32} {x2 : Int32} {o3 : Option ma_V} {o4 : Option ma_V} (hGo : ma_cl k_MO_image zf_MO e_MO_image none 1 s_MO_image post Go)
    (h : Go 5 [some (.inr 24), some (.inl x1), some (.inl x2), some (.inl (nI 0)), some (.inl (nI 0))] [] w) :
    Go 0 [some (.inr 24), some (.inl x1), some (.inl x2), o3, o4] [] w := hGo 0 _ _ rfl _ _ _ h
theorem q_MO_image_5 {post : ma_P} {Go : ma_G} {w : ma_W} {x1 : Int32} {x2 : Int32} {x3 : Int32} {x4 : Int32} (hGo : ma_cl k_MO_image zf_MO e_MO_image none 1 s_MO_image post Go)
    (h : ((w.1 24 1) ≤ x4 → Go 51 [some (.inr 24), some (.inl x1), some (.inl x2), some (.inl x3), some (.inl x4)] [] w) ∧ (¬ ((w.1 24 1) ≤ x4) → (¬ ((x1 >>> (x4 &&& 31)) &&& (nI 1)) = (nI 1) → Go 43 [some (.inr 24), some (.inl x1), some (.inl x2), some (.inl x3), some (.inl x4)] [] w) ∧ (¬ (¬ ((x1 >>> (x4 &&& 31)) &&& (nI 1)) = (nI 1)) → ∃ j1 : Nat, j1 < 4320 ∧ (((nI 6) * x2) + x4) = nI j1 ∧ (Go 44 [some (.inr 24), some (.inl x1), some (.inl x2), some (.inl x3), some (.inl x4)] [.inl (x3 ||| ((nI 1) <<< ((w.2.2 26 j1) &&& 31)))] w)))) :
    Go 5 [some (.inr 24), some (.inl x1), some (.inl x2), some (.inl x3), some (.inl x4)] [] w := hGo 1 _ _ rfl _ _ _ h
theorem q_MO_image_43 {post : ma_P} {Go : ma_G} {w : ma_W} {x1 : Int32} {x2 : Int32} {x3 : Int32} {x4 : Int32} (hGo : ma_cl k_MO_image zf_MO e_MO_image none 1 s_MO_image post Go)
    (h : Go 44 [some (.inr 24), some (.inl x1), some (.inl x2), some (.inl x3), some (.inl x4)] [.inl x3] w) :
    Go 43 [some (.inr 24), some (.inl x1), some (.inl x2), some (.inl x3), some (.inl x4)] [] w := hGo 2 _ _ rfl _ _ _ h
theorem q_MO_image_44 {post : ma_P} {Go : ma_G} {w : ma_W} {x1 : Int32} {x2 : Int32} {x3 : Int32} {x4 : Int32} {y0 : Int32} (hGo : ma_cl k_MO_image zf_MO e_MO_image none 1 s_MO_image post Go)
    (h : Go 5 [some (.inr 24), some (.inl x1), some (.inl x2), some (.inl y0), some (.inl (x4 + nI 1))] [] w) :
    Go 44 [some (.inr 24), some (.inl x1), some (.inl x2), some (.inl x3), some (.inl x4)] [.inl y0] w := hGo 3 _ _ rfl _ _ _ h
theorem q_MO_image_51 {post : ma_P} {Go : ma_G} {w : ma_W} {x1 : Int32} {x2 : Int32} {x3 : Int32} {x4 : Int32} (hGo : ma_cl k_MO_image zf_MO e_MO_image none 1 s_MO_image post Go)
    (h : post x3 w) :
    Go 51 [some (.inr 24), some (.inl x1), some (.inl x2), some (.inl x3), some (.inl x4)] [] w := hGo 4 _ _ rfl _ _ _ h
theorem q_MO_none_0 {post : ma_P} {Go : ma_G} {w : ma_W} {o1 : Option ma_V} (hGo : ma_cl k_MO_none zf_MO e_MO_none none 0 s_MO_none post Go)
    (h : Go 2 [some (.inr 24), some (.inl (nI 0))] [] w) :
    Go 0 [some (.inr 24), o1] [] w := hGo 0 _ _ rfl _ _ _ h
theorem q_MO_none_2 {post : ma_P} {Go : ma_G} {w : ma_W} {x1 : Int32} (hGo : ma_cl k_MO_none zf_MO e_MO_none none 0 s_MO_none post Go)
    (h : ((nI 64) ≤ x1 → Go 21 [some (.inr 24), some (.inl x1)] [] w) ∧ (¬ ((nI 64) ≤ x1) → ∃ j1 : Nat, j1 < 64 ∧ x1 = nI j1 ∧ (Go 2 [some (.inr 24), some (.inl (x1 + nI 1))] [] (w.1, w.2.1, ma_up w.2.2 30 j1 (nI 0))))) :
    Go 2 [some (.inr 24), some (.inl x1)] [] w := hGo 1 _ _ rfl _ _ _ h
theorem q_MO_none_21 {post : ma_P} {Go : ma_G} {w : ma_W} {x1 : Int32} (hGo : ma_cl k_MO_none zf_MO e_MO_none none 0 s_MO_none post Go)
    (h : post 0 w) :
    Go 21 [some (.inr 24), some (.inl x1)] [] w := hGo 2 _ _ rfl _ _ _ h
theorem q_MO_lookAtEntry_0 {t_0 : ma_T} {post : ma_P} {Go : ma_G} {w : ma_W} {x1 : Int32} {o2 : Option ma_V} (hGo : ma_cl k_MO_lookAtEntry zf_MO (e_MO_lookAtEntry t_0) none 0 s_MO_lookAtEntry post Go)
    (h : t_0 [.inr 24] w (fun _ w1 => Go 6 [some (.inr 24), some (.inl x1), some (.inl (nI 0))] [] w1)) :
    Go 0 [some (.inr 24), some (.inl x1), o2] [] w := hGo 0 _ _ rfl _ _ _ h
theorem q_MO_lookAtEntry_6 {t_0 : ma_T} {post : ma_P} {Go : ma_G} {w : ma_W} {x1 : Int32} {x2 : Int32} (hGo : ma_cl k_MO_lookAtEntry zf_MO (e_MO_lookAtEntry t_0) none 0 s_MO_lookAtEntry post Go)
    (h : ((w.1 24 4) ≤ x2 → Go 40 [some (.inr 24), some (.inl x1), some (.inl x2)] [] w) ∧ (¬ ((w.1 24 4) ≤ x2) → ∃ j1 : Nat, j1 < 600 ∧ (((nI 10) * x1) + x2) = nI j1 ∧ (∃ j2 : Nat, j2 < 64 ∧ (w.2.2 27 j1) = nI j2 ∧ (∃ j3 : Nat, j3 < 64 ∧ (w.2.2 27 j1) = nI j3 ∧ (Go 6 [some (.inr 24), some (.inl x1), some (.inl (x2 + nI 1))] [] (w.1, w.2.1, ma_up w.2.2 30 j3 ((w.2.2 30 j2) + (nI 1)))))))) :
    Go 6 [some (.inr 24), some (.inl x1), some (.inl x2)] [] w := hGo 1 _ _ rfl _ _ _ h
theorem q_MO_lookAtEntry_40 {t_0 : ma_T} {post : ma_P} {Go : ma_G} {w : ma_W} {x1 : Int32} {x2 : Int32} (hGo : ma_cl k_MO_lookAtEntry zf_MO (e_MO_lookAtEntry t_0) none 0 s_MO_lookAtEntry post Go)
    (h : post 0 w) :
    Go 40 [some (.inr 24), some (.inl x1), some (.inl x2)] [] w := hGo 2 _ _ rfl _ _ _ h
theorem q_MO_lookAtHand_0 {t_0 : ma_T} {post : ma_P} {Go : ma_G} {w : ma_W} {o1 : Option ma_V} (hGo : ma_cl k_MO_lookAtHand zf_MO (e_MO_lookAtHand t_0) none 0 s_MO_lookAtHand post Go)
    (h : t_0 [.inr 24] w (fun _ w1 => Go 6 [some (.inr 24), some (.inl (nI 0))] [] w1)) :
    Go 0 [some (.inr 24), o1] [] w := hGo 0 _ _ rfl _ _ _ h
theorem q_MO_lookAtHand_6 {t_0 : ma_T} {post : ma_P} {Go : ma_G} {w : ma_W} {x1 : Int32} (hGo : ma_cl k_MO_lookAtHand zf_MO (e_MO_lookAtHand t_0) none 0 s_MO_lookAtHand post Go)
    (h : ((w.1 24 13) ≤ x1 → Go 35 [some (.inr 24), some (.inl x1)] [] w) ∧ (¬ ((w.1 24 13) ≤ x1) → ∃ j1 : Nat, j1 < 10 ∧ x1 = nI j1 ∧ (∃ j2 : Nat, j2 < 64 ∧ (w.2.2 29 j1) = nI j2 ∧ (∃ j3 : Nat, j3 < 64 ∧ (w.2.2 29 j1) = nI j3 ∧ (Go 6 [some (.inr 24), some (.inl (x1 + nI 1))] [] (w.1, w.2.1, ma_up w.2.2 30 j3 ((w.2.2 30 j2) + (nI 1)))))))) :
    Go 6 [some (.inr 24), some (.inl x1)] [] w := hGo 1 _ _ rfl _ _ _ h
theorem q_MO_lookAtHand_35 {t_0 : ma_T} {post : ma_P} {Go : ma_G} {w : ma_W} {x1 : Int32} (hGo : ma_cl k_MO_lookAtHand zf_MO (e_MO_lookAtHand t_0) none 0 s_MO_lookAtHand post Go)
    (h : post 0 w) :
    Go 35 [some (.inr 24), some (.inl x1)] [] w := hGo 2 _ _ rfl _ _ _ h
theorem q_MO_compare_0 {t_0 : ma_T} {post : ma_P} {Go : ma_G} {w : ma_W} {x1 : Int32} {x2 : Int32} {o3 : Option ma_V} {o4 : Option ma_V} {o5 : Option ma_V} (hGo : ma_cl k_MO_compare zf_MO (e_MO_compare t_0) none 1 s_MO_compare post Go)
    (h : Go 2 [some (.inr 24), some (.inl x1), some (.inl x2), some (.inl (nI 0)), o4, o5] [] w) :
    Go 0 [some (.inr 24), some (.inl x1), some (.inl x2), o3, o4, o5] [] w := hGo 0 _ _ rfl _ _ _ h
set_option maxRecDepth 20000 in
theorem q_MO_compare_2 {t_0 : ma_T} {post : ma_P} {Go : ma_G} {w : ma_W} {x1 : Int32} {x2 : Int32} {x3 : Int32} {o4 : Option ma_V} {o5 : Option ma_V} (hGo : ma_cl k_MO_compare zf_MO (e_MO_compare t_0) none 1 s_MO_compare post Go)
    (h : ((w.1 24 5) ≤ x3 → Go 72 [some (.inr 24), some (.inl x1), some (.inl x2), some (.inl x3), o4, o5] [] w) ∧ (¬ ((w.1 24 5) ≤ x3) → ∃ j1 : Nat, j1 < 20 ∧ x3 = nI j1 ∧ (t_0 [.inr 24, .inl (w.2.2 25 j1), .inl x1] w (fun z2 w2 => ∃ j3 : Nat, j3 < 64 ∧ z2 = nI j3 ∧ (∃ j4 : Nat, j4 < 20 ∧ x3 = nI j4 ∧ (t_0 [.inr 24, .inl (w2.2.2 25 j4), .inl x2] w2 (fun z5 w5 => ∃ j6 : Nat, j6 < 64 ∧ z5 = nI j6 ∧ (((w2.2.2 30 j3) = (w5.2.2 30 j6) → Go 66 [some (.inr 24), some (.inl x1), some (.inl x2), some (.inl x3), some (.inl (w2.2.2 30 j3)), some (.inl (w5.2.2 30 j6))] [] w5) ∧ (¬ ((w2.2.2 30 j3) = (w5.2.2 30 j6)) → ((w2.2.2 30 j3) ≤ (w5.2.2 30 j6) → Go 64 [some (.inr 24), some (.inl x1), some (.inl x2), some (.inl x3), some (.inl (w2.2.2 30 j3)), some (.inl (w5.2.2 30 j6))] [] w5) ∧ (¬ ((w2.2.2 30 j3) ≤ (w5.2.2 30 j6)) → Go 65 [some (.inr 24), some (.inl x1), some (.inl x2), some (.inl x3), some (.inl (w2.2.2 30 j3)), some (.inl (w5.2.2 30 j6))] [.inl (Int32.ofInt (-1))] w5)))))))))) :
    Go 2 [some (.inr 24), some (.inl x1), some (.inl x2), some (.inl x3), o4, o5] [] w := hGo 1 _ _ rfl _ _ _ h
theorem q_MO_compare_64 {t_0 : ma_T} {post : ma_P} {Go : ma_G} {w : ma_W} {x1 : Int32} {x2 : Int32} {x3 : Int32} {x4 : Int32} {x5 : Int32} (hGo : ma_cl k_MO_compare zf_MO (e_MO_compare t_0) none 1 s_MO_compare post Go)
    (h : Go 65 [some (.inr 24), some (.inl x1), some (.inl x2), some (.inl x3), some (.inl x4), some (.inl x5)] [.inl (nI 1)] w) :
    Go 64 [some (.inr 24), some (.inl x1), some (.inl x2), some (.inl x3), some (.inl x4), some (.inl x5)] [] w := hGo 2 _ _ rfl _ _ _ h
theorem q_MO_compare_65 {t_0 : ma_T} {post : ma_P} {Go : ma_G} {w : ma_W} {x1 : Int32} {x2 : Int32} {x3 : Int32} {x4 : Int32} {x5 : Int32} {y0 : Int32} (hGo : ma_cl k_MO_compare zf_MO (e_MO_compare t_0) none 1 s_MO_compare post Go)
    (h : post y0 w) :
    Go 65 [some (.inr 24), some (.inl x1), some (.inl x2), some (.inl x3), some (.inl x4), some (.inl x5)] [.inl y0] w := hGo 3 _ _ rfl _ _ _ h
theorem q_MO_compare_66 {t_0 : ma_T} {post : ma_P} {Go : ma_G} {w : ma_W} {x1 : Int32} {x2 : Int32} {x3 : Int32} {x4 : Int32} {x5 : Int32} (hGo : ma_cl k_MO_compare zf_MO (e_MO_compare t_0) none 1 s_MO_compare post Go)
    (h : Go 2 [some (.inr 24), some (.inl x1), some (.inl x2), some (.inl (x3 + nI 1)), some (.inl x4), some (.inl x5)] [] w) :
    Go 66 [some (.inr 24), some (.inl x1), some (.inl x2), some (.inl x3), some (.inl x4), some (.inl x5)] [] w := hGo 4 _ _ rfl _ _ _ h
theorem q_MO_compare_72 {t_0 : ma_T} {post : ma_P} {Go : ma_G} {w : ma_W} {x1 : Int32} {x2 : Int32} {x3 : Int32} {o4 : Option ma_V} {o5 : Option ma_V} (hGo : ma_cl k_MO_compare zf_MO (e_MO_compare t_0) none 1 s_MO_compare post Go)
    (h : post (nI 0) w) :
    Go 72 [some (.inr 24), some (.inl x1), some (.inl x2), some (.inl x3), o4, o5] [] w := hGo 5 _ _ rfl _ _ _ h
theorem q_MO_leastOne_0 {t_0 : ma_T} {post : ma_P} {Go : ma_G} {w : ma_W} {o1 : Option ma_V} {o2 : Option ma_V} (hGo : ma_cl k_MO_leastOne zf_MO (e_MO_leastOne t_0) none 1 s_MO_leastOne post Go)
    (h : Go 4 [some (.inr 24), some (.inl (nI 0)), some (.inl (nI 1))] [] w) :
    Go 0 [some (.inr 24), o1, o2] [] w := hGo 0 _ _ rfl _ _ _ h
theorem q_MO_leastOne_4 {t_0 : ma_T} {post : ma_P} {Go : ma_G} {w : ma_W} {x1 : Int32} {x2 : Int32} (hGo : ma_cl k_MO_leastOne zf_MO (e_MO_leastOne t_0) none 1 s_MO_leastOne post Go)
    (h : ((w.1 24 7) ≤ x2 → Go 33 [some (.inr 24), some (.inl x1), some (.inl x2)] [] w) ∧ (¬ ((w.1 24 7) ≤ x2) → t_0 [.inr 24, .inl x2, .inl x1] w (fun z1 w1 => ((nI 0) ≤ z1 → Go 25 [some (.inr 24), some (.inl x1), some (.inl x2)] [] w1) ∧ (¬ ((nI 0) ≤ z1) → Go 26 [some (.inr 24), some (.inl x1), some (.inl x2)] [.inl x2] w1)))) :
    Go 4 [some (.inr 24), some (.inl x1), some (.inl x2)] [] w := hGo 1 _ _ rfl _ _ _ h
theorem q_MO_leastOne_25 {t_0 : ma_T} {post : ma_P} {Go : ma_G} {w : ma_W} {x1 : Int32} {x2 : Int32} (hGo : ma_cl k_MO_leastOne zf_MO (e_MO_leastOne t_0) none 1 s_MO_leastOne post Go)
    (h : Go 26 [some (.inr 24), some (.inl x1), some (.inl x2)] [.inl x1] w) :
    Go 25 [some (.inr 24), some (.inl x1), some (.inl x2)] [] w := hGo 2 _ _ rfl _ _ _ h
theorem q_MO_leastOne_26 {t_0 : ma_T} {post : ma_P} {Go : ma_G} {w : ma_W} {x1 : Int32} {x2 : Int32} {y0 : Int32} (hGo : ma_cl k_MO_leastOne zf_MO (e_MO_leastOne t_0) none 1 s_MO_leastOne post Go)
    (h : Go 4 [some (.inr 24), some (.inl y0), some (.inl (x2 + nI 1))] [] w) :
    Go 26 [some (.inr 24), some (.inl x1), some (.inl x2)] [.inl y0] w := hGo 3 _ _ rfl _ _ _ h
theorem q_MO_leastOne_33 {t_0 : ma_T} {post : ma_P} {Go : ma_G} {w : ma_W} {x1 : Int32} {x2 : Int32} (hGo : ma_cl k_MO_leastOne zf_MO (e_MO_leastOne t_0) none 1 s_MO_leastOne post Go)
    (h : post x1 w) :
    Go 33 [some (.inr 24), some (.inl x1), some (.inl x2)] [] w := hGo 4 _ _ rfl _ _ _ h
theorem q_MO_isLeast_0 {t_0 : ma_T} {post : ma_P} {Go : ma_G} {w : ma_W} {o1 : Option ma_V} {o2 : Option ma_V} (hGo : ma_cl k_MO_isLeast zf_MO (e_MO_isLeast t_0) none 2 s_MO_isLeast post Go)
    (h : Go 4 [some (.inr 24), some (.inl (nI 1)), some (.inl (nI 1))] [] w) :
    Go 0 [some (.inr 24), o1, o2] [] w := hGo 0 _ _ rfl _ _ _ h
theorem q_MO_isLeast_4 {t_0 : ma_T} {post : ma_P} {Go : ma_G} {w : ma_W} {x1 : Int32} {x2 : Int32} (hGo : ma_cl k_MO_isLeast zf_MO (e_MO_isLeast t_0) none 2 s_MO_isLeast post Go)
    (h : ((w.1 24 7) ≤ x2 → Go 37 [some (.inr 24), some (.inl x1), some (.inl x2)] [] w) ∧ (¬ ((w.1 24 7) ≤ x2) → (x1 = (nI 0) → Go 37 [some (.inr 24), some (.inl x1), some (.inl x2)] [] w) ∧ (¬ (x1 = (nI 0)) → t_0 [.inr 24, .inl x2, .inl (nI 0)] w (fun z1 w1 => (z1 < (nI 0) → Go 29 [some (.inr 24), some (.inl x1), some (.inl x2)] [] w1) ∧ (¬ (z1 < (nI 0)) → Go 30 [some (.inr 24), some (.inl x1), some (.inl x2)] [.inl (nI 1)] w1))))) :
    Go 4 [some (.inr 24), some (.inl x1), some (.inl x2)] [] w := hGo 1 _ _ rfl _ _ _ h
theorem q_MO_isLeast_29 {t_0 : ma_T} {post : ma_P} {Go : ma_G} {w : ma_W} {x1 : Int32} {x2 : Int32} (hGo : ma_cl k_MO_isLeast zf_MO (e_MO_isLeast t_0) none 2 s_MO_isLeast post Go)
    (h : Go 30 [some (.inr 24), some (.inl x1), some (.inl x2)] [.inl (nI 0)] w) :
    Go 29 [some (.inr 24), some (.inl x1), some (.inl x2)] [] w := hGo 2 _ _ rfl _ _ _ h
theorem q_MO_isLeast_30 {t_0 : ma_T} {post : ma_P} {Go : ma_G} {w : ma_W} {x1 : Int32} {x2 : Int32} {y0 : Int32} (hGo : ma_cl k_MO_isLeast zf_MO (e_MO_isLeast t_0) none 2 s_MO_isLeast post Go)
    (h : Go 4 [some (.inr 24), some (.inl y0), some (.inl (x2 + nI 1))] [] w) :
    Go 30 [some (.inr 24), some (.inl x1), some (.inl x2)] [.inl y0] w := hGo 3 _ _ rfl _ _ _ h
theorem q_MO_isLeast_37 {t_0 : ma_T} {post : ma_P} {Go : ma_G} {w : ma_W} {x1 : Int32} {x2 : Int32} (hGo : ma_cl k_MO_isLeast zf_MO (e_MO_isLeast t_0) none 2 s_MO_isLeast post Go)
    (h : (x1 = 0 ∨ x1 = 1) ∧ post x1 w) :
    Go 37 [some (.inr 24), some (.inl x1), some (.inl x2)] [] w := hGo 4 _ _ rfl _ _ _ h
theorem q_MO_keepers_0 {t_0 : ma_T} {post : ma_P} {Go : ma_G} {w : ma_W} {o1 : Option ma_V} {o2 : Option ma_V} (hGo : ma_cl k_MO_keepers zf_MO (e_MO_keepers t_0) none 1 s_MO_keepers post Go)
    (h : Go 4 [some (.inr 24), some (.inl (nI 0)), some (.inl (nI 0))] [] w) :
    Go 0 [some (.inr 24), o1, o2] [] w := hGo 0 _ _ rfl _ _ _ h
theorem q_MO_keepers_4 {t_0 : ma_T} {post : ma_P} {Go : ma_G} {w : ma_W} {x1 : Int32} {x2 : Int32} (hGo : ma_cl k_MO_keepers zf_MO (e_MO_keepers t_0) none 1 s_MO_keepers post Go)
    (h : ((w.1 24 7) ≤ x2 → Go 35 [some (.inr 24), some (.inl x1), some (.inl x2)] [] w) ∧ (¬ ((w.1 24 7) ≤ x2) → t_0 [.inr 24, .inl x2, .inl (nI 0)] w (fun z1 w1 => (¬ z1 = (nI 0) → Go 27 [some (.inr 24), some (.inl x1), some (.inl x2)] [] w1) ∧ (¬ (¬ z1 = (nI 0)) → Go 28 [some (.inr 24), some (.inl x1), some (.inl x2)] [.inl (x1 + (nI 1))] w1)))) :
    Go 4 [some (.inr 24), some (.inl x1), some (.inl x2)] [] w := hGo 1 _ _ rfl _ _ _ h
theorem q_MO_keepers_27 {t_0 : ma_T} {post : ma_P} {Go : ma_G} {w : ma_W} {x1 : Int32} {x2 : Int32} (hGo : ma_cl k_MO_keepers zf_MO (e_MO_keepers t_0) none 1 s_MO_keepers post Go)
    (h : Go 28 [some (.inr 24), some (.inl x1), some (.inl x2)] [.inl x1] w) :
    Go 27 [some (.inr 24), some (.inl x1), some (.inl x2)] [] w := hGo 2 _ _ rfl _ _ _ h
theorem q_MO_keepers_28 {t_0 : ma_T} {post : ma_P} {Go : ma_G} {w : ma_W} {x1 : Int32} {x2 : Int32} {y0 : Int32} (hGo : ma_cl k_MO_keepers zf_MO (e_MO_keepers t_0) none 1 s_MO_keepers post Go)
    (h : Go 4 [some (.inr 24), some (.inl y0), some (.inl (x2 + nI 1))] [] w) :
    Go 28 [some (.inr 24), some (.inl x1), some (.inl x2)] [.inl y0] w := hGo 3 _ _ rfl _ _ _ h
theorem q_MO_keepers_35 {t_0 : ma_T} {post : ma_P} {Go : ma_G} {w : ma_W} {x1 : Int32} {x2 : Int32} (hGo : ma_cl k_MO_keepers zf_MO (e_MO_keepers t_0) none 1 s_MO_keepers post Go)
    (h : post x1 w) :
    Go 35 [some (.inr 24), some (.inl x1), some (.inl x2)] [] w := hGo 4 _ _ rfl _ _ _ h
theorem q_MO_meet_0 {post : ma_P} {Go : ma_G} {w : ma_W} {x1 : Int32} {x2 : Int32} {o3 : Option ma_V} {o4 : Option ma_V} {o5 : Option ma_V} (hGo : ma_cl k_MO_meet zf_MO e_MO_meet none 1 s_MO_meet post Go)
    (h : Go 5 [some (.inr 24), some (.inl x1), some (.inl x2), some (.inl (nI 0)), some (.inl (nI 0)), o5] [] w) :
    Go 0 [some (.inr 24), some (.inl x1), some (.inl x2), o3, o4, o5] [] w := hGo 0 _ _ rfl _ _ _ h
set_option maxRecDepth 20000 in
theorem q_MO_meet_5 {post : ma_P} {Go : ma_G} {w : ma_W} {x1 : Int32} {x2 : Int32} {x3 : Int32} {x4 : Int32} {o5 : Option ma_V} (hGo : ma_cl k_MO_meet zf_MO e_MO_meet none 1 s_MO_meet post Go)
    (h : ((w.1 24 5) ≤ x4 → Go 81 [some (.inr 24), some (.inl x1), some (.inl x2), some (.inl x3), some (.inl x4), o5] [] w) ∧ (¬ ((w.1 24 5) ≤ x4) → ∃ j1 : Nat, j1 < 20 ∧ x4 = nI j1 ∧ ((¬ (((w.2.2 25 j1) >>> (x1 &&& 31)) &&& (nI 1)) = (nI 1) → Go 48 [some (.inr 24), some (.inl x1), some (.inl x2), some (.inl x3), some (.inl x4), o5] [] w) ∧ (¬ (¬ (((w.2.2 25 j1) >>> (x1 &&& 31)) &&& (nI 1)) = (nI 1)) → ∃ j2 : Nat, j2 < 20 ∧ x4 = nI j2 ∧ ((¬ (((w.2.2 25 j2) >>> (x2 &&& 31)) &&& (nI 1)) = (nI 1) → Go 48 [some (.inr 24), some (.inl x1), some (.inl x2), some (.inl x3), some (.inl x4), o5] [] w) ∧ (¬ (¬ (((w.2.2 25 j2) >>> (x2 &&& 31)) &&& (nI 1)) = (nI 1)) → Go 49 [some (.inr 24), some (.inl x1), some (.inl x2), some (.inl x3), some (.inl x4), o5] [.inl (nI 1)] w)))))) :
    Go 5 [some (.inr 24), some (.inl x1), some (.inl x2), some (.inl x3), some (.inl x4), o5] [] w := hGo 1 _ _ rfl _ _ _ h
theorem q_MO_meet_48 {post : ma_P} {Go : ma_G} {w : ma_W} {x1 : Int32} {x2 : Int32} {x3 : Int32} {x4 : Int32} {o5 : Option ma_V} (hGo : ma_cl k_MO_meet zf_MO e_MO_meet none 1 s_MO_meet post Go)
    (h : Go 49 [some (.inr 24), some (.inl x1), some (.inl x2), some (.inl x3), some (.inl x4), o5] [.inl (nI 0)] w) :
    Go 48 [some (.inr 24), some (.inl x1), some (.inl x2), some (.inl x3), some (.inl x4), o5] [] w := hGo 2 _ _ rfl _ _ _ h
theorem q_MO_meet_49 {post : ma_P} {Go : ma_G} {w : ma_W} {x1 : Int32} {x2 : Int32} {x3 : Int32} {x4 : Int32} {o5 : Option ma_V} {y0 : Int32} (hGo : ma_cl k_MO_meet zf_MO e_MO_meet none 1 s_MO_meet post Go)
    (h : (y0 = (nI 0) → Go 73 [some (.inr 24), some (.inl x1), some (.inl x2), some (.inl x3), some (.inl x4), some (.inl y0)] [] w) ∧ (¬ (y0 = (nI 0)) → ∃ j1 : Nat, j1 < 20 ∧ x4 = nI j1 ∧ (∃ j2 : Nat, j2 < 64 ∧ (w.2.2 25 j1) = nI j2 ∧ (Go 74 [some (.inr 24), some (.inl x1), some (.inl x2), some (.inl x3), some (.inl x4), some (.inl y0)] [.inl (x3 + (w.2.2 30 j2))] w)))) :
    Go 49 [some (.inr 24), some (.inl x1), some (.inl x2), some (.inl x3), some (.inl x4), o5] [.inl y0] w := hGo 3 _ _ rfl _ _ _ h
theorem q_MO_meet_73 {post : ma_P} {Go : ma_G} {w : ma_W} {x1 : Int32} {x2 : Int32} {x3 : Int32} {x4 : Int32} {x5 : Int32} (hGo : ma_cl k_MO_meet zf_MO e_MO_meet none 1 s_MO_meet post Go)
    (h : Go 74 [some (.inr 24), some (.inl x1), some (.inl x2), some (.inl x3), some (.inl x4), some (.inl x5)] [.inl x3] w) :
    Go 73 [some (.inr 24), some (.inl x1), some (.inl x2), some (.inl x3), some (.inl x4), some (.inl x5)] [] w := hGo 4 _ _ rfl _ _ _ h
theorem q_MO_meet_74 {post : ma_P} {Go : ma_G} {w : ma_W} {x1 : Int32} {x2 : Int32} {x3 : Int32} {x4 : Int32} {x5 : Int32} {y0 : Int32} (hGo : ma_cl k_MO_meet zf_MO e_MO_meet none 1 s_MO_meet post Go)
    (h : Go 5 [some (.inr 24), some (.inl x1), some (.inl x2), some (.inl y0), some (.inl (x4 + nI 1)), some (.inl x5)] [] w) :
    Go 74 [some (.inr 24), some (.inl x1), some (.inl x2), some (.inl x3), some (.inl x4), some (.inl x5)] [.inl y0] w := hGo 5 _ _ rfl _ _ _ h
theorem q_MO_meet_81 {post : ma_P} {Go : ma_G} {w : ma_W} {x1 : Int32} {x2 : Int32} {x3 : Int32} {x4 : Int32} {o5 : Option ma_V} (hGo : ma_cl k_MO_meet zf_MO e_MO_meet none 1 s_MO_meet post Go)
    (h : post x3 w) :
    Go 81 [some (.inr 24), some (.inl x1), some (.inl x2), some (.inl x3), some (.inl x4), o5] [] w := hGo 6 _ _ rfl _ _ _ h
theorem q_MO_meets_0 {t_0 : ma_T} {post : ma_P} {Go : ma_G} {w : ma_W} {x1 : Int32} {x2 : Int32} {o3 : Option ma_V} {o4 : Option ma_V} {o5 : Option ma_V} {o6 : Option ma_V} (hGo : ma_cl k_MO_meets zf_MO (e_MO_meets t_0) none 2 s_MO_meets post Go)
    (h : Go 5 [some (.inr 24), some (.inl x1), some (.inl x2), some (.inl (nI 1)), some (.inl (nI 0)), o5, o6] [] w) :
    Go 0 [some (.inr 24), some (.inl x1), some (.inl x2), o3, o4, o5, o6] [] w := hGo 0 _ _ rfl _ _ _ h
theorem q_MO_meets_5 {t_0 : ma_T} {post : ma_P} {Go : ma_G} {w : ma_W} {x1 : Int32} {x2 : Int32} {x3 : Int32} {x4 : Int32} {o5 : Option ma_V} {o6 : Option ma_V} (hGo : ma_cl k_MO_meets zf_MO (e_MO_meets t_0) none 2 s_MO_meets post Go)
    (h : ((w.1 24 1) ≤ x4 → Go 73 [some (.inr 24), some (.inl x1), some (.inl x2), some (.inl x3), some (.inl x4), o5, o6] [] w) ∧ (¬ ((w.1 24 1) ≤ x4) → Go 20 [some (.inr 24), some (.inl x1), some (.inl x2), some (.inl x3), some (.inl x4), some (.inl (x4 + (nI 1))), o6] [] w)) :
    Go 5 [some (.inr 24), some (.inl x1), some (.inl x2), some (.inl x3), some (.inl x4), o5, o6] [] w := hGo 1 _ _ rfl _ _ _ h
set_option maxRecDepth 20000 in
theorem q_MO_meets_20 {t_0 : ma_T} {post : ma_P} {Go : ma_G} {w : ma_W} {x1 : Int32} {x2 : Int32} {x3 : Int32} {x4 : Int32} {x5 : Int32} {o6 : Option ma_V} (hGo : ma_cl k_MO_meets zf_MO (e_MO_meets t_0) none 2 s_MO_meets post Go)
    (h : ((w.1 24 1) ≤ x5 → Go 67 [some (.inr 24), some (.inl x1), some (.inl x2), some (.inl x3), some (.inl x4), some (.inl x5), o6] [] w) ∧ (¬ ((w.1 24 1) ≤ x5) → t_0 [.inr 24, .inl x4, .inl x5] w (fun z1 w1 => (x3 = (nI 0) → Go 59 [some (.inr 24), some (.inl x1), some (.inl x2), some (.inl x3), some (.inl x4), some (.inl x5), some (.inl z1)] [] w1) ∧ (¬ (x3 = (nI 0)) → (z1 < x1 → Go 59 [some (.inr 24), some (.inl x1), some (.inl x2), some (.inl x3), some (.inl x4), some (.inl x5), some (.inl z1)] [] w1) ∧ (¬ (z1 < x1) → (x2 < z1 → Go 59 [some (.inr 24), some (.inl x1), some (.inl x2), some (.inl x3), some (.inl x4), some (.inl x5), some (.inl z1)] [] w1) ∧ (¬ (x2 < z1) → Go 60 [some (.inr 24), some (.inl x1), some (.inl x2), some (.inl x3), some (.inl x4), some (.inl x5), some (.inl z1)] [.inl (nI 1)] w1)))))) :
    Go 20 [some (.inr 24), some (.inl x1), some (.inl x2), some (.inl x3), some (.inl x4), some (.inl x5), o6] [] w := hGo 2 _ _ rfl _ _ _ h
theorem q_MO_meets_59 {t_0 : ma_T} {post : ma_P} {Go : ma_G} {w : ma_W} {x1 : Int32} {x2 : Int32} {x3 : Int32} {x4 : Int32} {x5 : Int32} {x6 : Int32} (hGo : ma_cl k_MO_meets zf_MO (e_MO_meets t_0) none 2 s_MO_meets post Go)
    (h : Go 60 [some (.inr 24), some (.inl x1), some (.inl x2), some (.inl x3), some (.inl x4), some (.inl x5), some (.inl x6)] [.inl (nI 0)] w) :
    Go 59 [some (.inr 24), some (.inl x1), some (.inl x2), some (.inl x3), some (.inl x4), some (.inl x5), some (.inl x6)] [] w := hGo 3 _ _ rfl _ _ _ h
theorem q_MO_meets_60 {t_0 : ma_T} {post : ma_P} {Go : ma_G} {w : ma_W} {x1 : Int32} {x2 : Int32} {x3 : Int32} {x4 : Int32} {x5 : Int32} {x6 : Int32} {y0 : Int32} (hGo : ma_cl k_MO_meets zf_MO (e_MO_meets t_0) none 2 s_MO_meets post Go)
    (h : Go 20 [some (.inr 24), some (.inl x1), some (.inl x2), some (.inl y0), some (.inl x4), some (.inl (x5 + nI 1)), some (.inl x6)] [] w) :
    Go 60 [some (.inr 24), some (.inl x1), some (.inl x2), some (.inl x3), some (.inl x4), some (.inl x5), some (.inl x6)] [.inl y0] w := hGo 4 _ _ rfl _ _ _ h
theorem q_MO_meets_67 {t_0 : ma_T} {post : ma_P} {Go : ma_G} {w : ma_W} {x1 : Int32} {x2 : Int32} {x3 : Int32} {x4 : Int32} {x5 : Int32} {o6 : Option ma_V} (hGo : ma_cl k_MO_meets zf_MO (e_MO_meets t_0) none 2 s_MO_meets post Go)
    (h : Go 5 [some (.inr 24), some (.inl x1), some (.inl x2), some (.inl x3), some (.inl (x4 + nI 1)), some (.inl x5), o6] [] w) :
    Go 67 [some (.inr 24), some (.inl x1), some (.inl x2), some (.inl x3), some (.inl x4), some (.inl x5), o6] [] w := hGo 5 _ _ rfl _ _ _ h
theorem q_MO_meets_73 {t_0 : ma_T} {post : ma_P} {Go : ma_G} {w : ma_W} {x1 : Int32} {x2 : Int32} {x3 : Int32} {x4 : Int32} {o5 : Option ma_V} {o6 : Option ma_V} (hGo : ma_cl k_MO_meets zf_MO (e_MO_meets t_0) none 2 s_MO_meets post Go)
    (h : (x3 = 0 ∨ x3 = 1) ∧ post x3 w) :
    Go 73 [some (.inr 24), some (.inl x1), some (.inl x2), some (.inl x3), some (.inl x4), o5, o6] [] w := hGo 6 _ _ rfl _ _ _ h
set_option maxRecDepth 20000 in
theorem q_MO_begin_0 {t_0 : ma_T} {post : ma_P} {Go : ma_G} {w : ma_W} {x1 : Int32} {x2 : Int32} {x3 : Int32} {o4 : Option ma_V} {o5 : Option ma_V} (hGo : ma_cl k_MO_begin zf_MO (e_MO_begin t_0) none 1 s_MO_begin post Go)
    (h : (x1 < (nI 3) → Go 33 [some (.inr 24), some (.inl x1), some (.inl x2), some (.inl x3), o4, o5] [] w) ∧ (¬ (x1 < (nI 3)) → ((nI 6) < x1 → Go 33 [some (.inr 24), some (.inl x1), some (.inl x2), some (.inl x3), o4, o5] [] w) ∧ (¬ ((nI 6) < x1) → (x2 < (nI 2) → Go 33 [some (.inr 24), some (.inl x1), some (.inl x2), some (.inl x3), o4, o5] [] w) ∧ (¬ (x2 < (nI 2)) → ((x1 - (nI 1)) < x2 → Go 33 [some (.inr 24), some (.inl x1), some (.inl x2), some (.inl x3), o4, o5] [] w) ∧ (¬ ((x1 - (nI 1)) < x2) → (x3 < (nI 1) → Go 33 [some (.inr 24), some (.inl x1), some (.inl x2), some (.inl x3), o4, o5] [] w) ∧ (¬ (x3 < (nI 1)) → (x3 ≤ (nI 4) → Go 36 [some (.inr 24), some (.inl x1), some (.inl x2), some (.inl x3), o4, o5] [] w) ∧ (¬ (x3 ≤ (nI 4)) → Go 33 [some (.inr 24), some (.inl x1), some (.inl x2), some (.inl x3), o4, o5] [] w))))))) :
    Go 0 [some (.inr 24), some (.inl x1), some (.inl x2), some (.inl x3), o4, o5] [] w := hGo 0 _ _ rfl _ _ _ h
theorem q_MO_begin_33 {t_0 : ma_T} {post : ma_P} {Go : ma_G} {w : ma_W} {x1 : Int32} {x2 : Int32} {x3 : Int32} {o4 : Option ma_V} {o5 : Option ma_V} (hGo : ma_cl k_MO_begin zf_MO (e_MO_begin t_0) none 1 s_MO_begin post Go)
    (h : post (Int32.ofInt (-2)) w) :
    Go 33 [some (.inr 24), some (.inl x1), some (.inl x2), some (.inl x3), o4, o5] [] w := hGo 1 _ _ rfl _ _ _ h
set_option maxRecDepth 20000 in
theorem q_MO_begin_36 {t_0 : ma_T} {post : ma_P} {Go : ma_G} {w : ma_W} {x1 : Int32} {x2 : Int32} {x3 : Int32} {o4 : Option ma_V} {o5 : Option ma_V} (hGo : ma_cl k_MO_begin zf_MO (e_MO_begin t_0) none 1 s_MO_begin post Go)
    (h : ((nI 1) = 0 ∨ (nI 1) = 1) ∧ (t_0 [.inr 24] (ma_up (ma_up (ma_up (ma_up (ma_up (ma_up (ma_up w.1 24 0 (nI 1)) 24 1 x1) 24 2 x2) 24 3 x3) 24 4 (nI 0)) 24 9 (nI 1)) 24 13 (nI 0), w.2.1, w.2.2) (fun _ w1 => ¬ ((w1.1 24 2) - (nI 1)) = 0 ∧ ((¬ ((((w1.1 24 3) * ((w1.1 24 1) - (nI 1))) / ((w1.1 24 2) - (nI 1))) * ((w1.1 24 2) - (nI 1))) = ((w1.1 24 3) * ((w1.1 24 1) - (nI 1))) → Go 128 [some (.inr 24), some (.inl x1), some (.inl x2), some (.inl x3), some (.inl ((w1.1 24 3) * ((w1.1 24 1) - (nI 1)))), some (.inl (((w1.1 24 3) * ((w1.1 24 1) - (nI 1))) / ((w1.1 24 2) - (nI 1))))] [] w1) ∧ (¬ (¬ ((((w1.1 24 3) * ((w1.1 24 1) - (nI 1))) / ((w1.1 24 2) - (nI 1))) * ((w1.1 24 2) - (nI 1))) = ((w1.1 24 3) * ((w1.1 24 1) - (nI 1)))) → ¬ (w1.1 24 2) = 0 ∧ (((((w1.1 24 1) * (((w1.1 24 3) * ((w1.1 24 1) - (nI 1))) / ((w1.1 24 2) - (nI 1)))) - ((w1.1 24 1) * (((w1.1 24 3) * ((w1.1 24 1) - (nI 1))) / ((w1.1 24 2) - (nI 1)))) / (w1.1 24 2) * (w1.1 24 2)) = (nI 0) → Go 131 [some (.inr 24), some (.inl x1), some (.inl x2), some (.inl x3), some (.inl ((w1.1 24 3) * ((w1.1 24 1) - (nI 1)))), some (.inl (((w1.1 24 3) * ((w1.1 24 1) - (nI 1))) / ((w1.1 24 2) - (nI 1))))] [] w1) ∧ (¬ ((((w1.1 24 1) * (((w1.1 24 3) * ((w1.1 24 1) - (nI 1))) / ((w1.1 24 2) - (nI 1)))) - ((w1.1 24 1) * (((w1.1 24 3) * ((w1.1 24 1) - (nI 1))) / ((w1.1 24 2) - (nI 1)))) / (w1.1 24 2) * (w1.1 24 2)) = (nI 0)) → Go 128 [some (.inr 24), some (.inl x1), some (.inl x2), some (.inl x3), some (.inl ((w1.1 24 3) * ((w1.1 24 1) - (nI 1)))), some (.inl (((w1.1 24 3) * ((w1.1 24 1) - (nI 1))) / ((w1.1 24 2) - (nI 1))))] [] w1))))))) :
    Go 36 [some (.inr 24), some (.inl x1), some (.inl x2), some (.inl x3), o4, o5] [] w := hGo 2 _ _ rfl _ _ _ h
theorem q_MO_begin_128 {t_0 : ma_T} {post : ma_P} {Go : ma_G} {w : ma_W} {x1 : Int32} {x2 : Int32} {x3 : Int32} {x4 : Int32} {x5 : Int32} (hGo : ma_cl k_MO_begin zf_MO (e_MO_begin t_0) none 1 s_MO_begin post Go)
    (h : post (Int32.ofInt (-3)) w) :
    Go 128 [some (.inr 24), some (.inl x1), some (.inl x2), some (.inl x3), some (.inl x4), some (.inl x5)] [] w := hGo 3 _ _ rfl _ _ _ h
theorem q_MO_begin_131 {t_0 : ma_T} {post : ma_P} {Go : ma_G} {w : ma_W} {x1 : Int32} {x2 : Int32} {x3 : Int32} {x4 : Int32} {x5 : Int32} (hGo : ma_cl k_MO_begin zf_MO (e_MO_begin t_0) none 1 s_MO_begin post Go)
    (h : ¬ (w.1 24 2) = 0 ∧ (((w.1 24 1) ≤ (((w.1 24 1) * x5) / (w.1 24 2)) → Go 155 [some (.inr 24), some (.inl x1), some (.inl x2), some (.inl x3), some (.inl x4), some (.inl x5)] [] w) ∧ (¬ ((w.1 24 1) ≤ (((w.1 24 1) * x5) / (w.1 24 2))) → Go 167 [some (.inr 24), some (.inl x1), some (.inl x2), some (.inl x3), some (.inl x4), some (.inl x5)] [.inl (Int32.ofInt (-4))] w))) :
    Go 131 [some (.inr 24), some (.inl x1), some (.inl x2), some (.inl x3), some (.inl x4), some (.inl x5)] [] w := hGo 4 _ _ rfl _ _ _ h
theorem q_MO_begin_155 {t_0 : ma_T} {post : ma_P} {Go : ma_G} {w : ma_W} {x1 : Int32} {x2 : Int32} {x3 : Int32} {x4 : Int32} {x5 : Int32} (hGo : ma_cl k_MO_begin zf_MO (e_MO_begin t_0) none 1 s_MO_begin post Go)
    (h : ¬ (w.1 24 2) = 0 ∧ (Go 167 [some (.inr 24), some (.inl x1), some (.inl x2), some (.inl x3), some (.inl x4), some (.inl x5)] [.inl (((w.1 24 1) * x5) / (w.1 24 2))] w)) :
    Go 155 [some (.inr 24), some (.inl x1), some (.inl x2), some (.inl x3), some (.inl x4), some (.inl x5)] [] w := hGo 5 _ _ rfl _ _ _ h
theorem q_MO_begin_167 {t_0 : ma_T} {post : ma_P} {Go : ma_G} {w : ma_W} {x1 : Int32} {x2 : Int32} {x3 : Int32} {x4 : Int32} {x5 : Int32} {y0 : Int32} (hGo : ma_cl k_MO_begin zf_MO (e_MO_begin t_0) none 1 s_MO_begin post Go)
    (h : post y0 w) :
    Go 167 [some (.inr 24), some (.inl x1), some (.inl x2), some (.inl x3), some (.inl x4), some (.inl x5)] [.inl y0] w := hGo 6 _ _ rfl _ _ _ h
theorem q_MO_extend_0 {t_0 t_1 t_2 : ma_T} {post : ma_P} {Go : ma_G} {w : ma_W} {x1 : Int32} {x2 : Int32} {o3 : Option ma_V} (hGo : ma_cl k_MO_extend zf_MO (e_MO_extend t_0 t_1 t_2) none 2 s_MO_extend post Go)
    (h : t_0 [.inr 24, .inl x1] w (fun _ w1 => ∃ j2 : Nat, j2 < 64 ∧ x2 = nI j2 ∧ (∃ j3 : Nat, j3 < 64 ∧ x2 = nI j3 ∧ (t_1 [.inr 24, .inl (nI 0), .inl (w1.1 24 3)] (w1.1, w1.2.1, ma_up w1.2.2 30 j3 ((w1.2.2 30 j2) + (nI 1))) (fun z4 w4 => (z4 = (nI 0) → Go 34 [some (.inr 24), some (.inl x1), some (.inl x2), o3] [] w4) ∧ (¬ (z4 = (nI 0)) → t_2 [.inr 24] w4 (fun z5 w5 => (¬ z5 = (nI 0) → Go 36 [some (.inr 24), some (.inl x1), some (.inl x2), o3] [] w5) ∧ (¬ (¬ z5 = (nI 0)) → Go 34 [some (.inr 24), some (.inl x1), some (.inl x2), o3] [] w5)))))))) :
    Go 0 [some (.inr 24), some (.inl x1), some (.inl x2), o3] [] w := hGo 0 _ _ rfl _ _ _ h
theorem q_MO_extend_34 {t_0 t_1 t_2 : ma_T} {post : ma_P} {Go : ma_G} {w : ma_W} {x1 : Int32} {x2 : Int32} {o3 : Option ma_V} (hGo : ma_cl k_MO_extend zf_MO (e_MO_extend t_0 t_1 t_2) none 2 s_MO_extend post Go)
    (h : ((nI 1) = 0 ∨ (nI 1) = 1) ∧ post (nI 1) w) :
    Go 34 [some (.inr 24), some (.inl x1), some (.inl x2), o3] [] w := hGo 1 _ _ rfl _ _ _ h
theorem q_MO_extend_36 {t_0 t_1 t_2 : ma_T} {post : ma_P} {Go : ma_G} {w : ma_W} {x1 : Int32} {x2 : Int32} {o3 : Option ma_V} (hGo : ma_cl k_MO_extend zf_MO (e_MO_extend t_0 t_1 t_2) none 2 s_MO_extend post Go)
    (h : (¬ (w.1 24 11) = (nI 60) → Go 47 [some (.inr 24), some (.inl x1), some (.inl x2), o3] [] w) ∧ (¬ (¬ (w.1 24 11) = (nI 60)) → ((nI 0) = 0 ∨ (nI 0) = 1) ∧ post (nI 0) w)) :
    Go 36 [some (.inr 24), some (.inl x1), some (.inl x2), o3] [] w := hGo 2 _ _ rfl _ _ _ h
theorem q_MO_extend_47 {t_0 t_1 t_2 : ma_T} {post : ma_P} {Go : ma_G} {w : ma_W} {x1 : Int32} {x2 : Int32} {o3 : Option ma_V} (hGo : ma_cl k_MO_extend zf_MO (e_MO_extend t_0 t_1 t_2) none 2 s_MO_extend post Go)
    (h : Go 49 [some (.inr 24), some (.inl x1), some (.inl x2), some (.inl (nI 0))] [] w) :
    Go 47 [some (.inr 24), some (.inl x1), some (.inl x2), o3] [] w := hGo 3 _ _ rfl _ _ _ h
theorem q_MO_extend_49 {t_0 t_1 t_2 : ma_T} {post : ma_P} {Go : ma_G} {w : ma_W} {x1 : Int32} {x2 : Int32} {x3 : Int32} (hGo : ma_cl k_MO_extend zf_MO (e_MO_extend t_0 t_1 t_2) none 2 s_MO_extend post Go)
    (h : ((w.1 24 4) ≤ x3 → Go 88 [some (.inr 24), some (.inl x1), some (.inl x2), some (.inl x3)] [] w) ∧ (¬ ((w.1 24 4) ≤ x3) → ∃ j1 : Nat, j1 < 600 ∧ (((nI 10) * x1) + x3) = nI j1 ∧ (∃ j2 : Nat, j2 < 610 ∧ (((nI 10) * (w.1 24 11)) + x3) = nI j2 ∧ (Go 49 [some (.inr 24), some (.inl x1), some (.inl x2), some (.inl (x3 + nI 1))] [] (w.1, w.2.1, ma_up w.2.2 28 j2 (w.2.2 27 j1)))))) :
    Go 49 [some (.inr 24), some (.inl x1), some (.inl x2), some (.inl x3)] [] w := hGo 4 _ _ rfl _ _ _ h
theorem q_MO_extend_88 {t_0 t_1 t_2 : ma_T} {post : ma_P} {Go : ma_G} {w : ma_W} {x1 : Int32} {x2 : Int32} {x3 : Int32} (hGo : ma_cl k_MO_extend zf_MO (e_MO_extend t_0 t_1 t_2) none 2 s_MO_extend post Go)
    (h : ∃ j1 : Nat, j1 < 610 ∧ (((nI 10) * (w.1 24 11)) + (w.1 24 4)) = nI j1 ∧ (((nI 1) = 0 ∨ (nI 1) = 1) ∧ post (nI 1) (ma_up w.1 24 11 ((w.1 24 11) + (nI 1)), w.2.1, ma_up w.2.2 28 j1 x2))) :
    Go 88 [some (.inr 24), some (.inl x1), some (.inl x2), some (.inl x3)] [] w := hGo 5 _ _ rfl _ _ _ h
theorem q_MO_grow_0 {t_0 : ma_T} {post : ma_P} {Go : ma_G} {w : ma_W} {o1 : Option ma_V} {o2 : Option ma_V} {o3 : Option ma_V} (hGo : ma_cl k_MO_grow zf_MO (e_MO_grow t_0) none 1 s_MO_grow post Go)
    (h : (¬ (w.1 24 0) = (nI 0) → Go 9 [some (.inr 24), o1, o2, o3] [] w) ∧ (¬ (¬ (w.1 24 0) = (nI 0)) → post (Int32.ofInt (-1)) w)) :
    Go 0 [some (.inr 24), o1, o2, o3] [] w := hGo 0 _ _ rfl _ _ _ h
theorem q_MO_grow_9 {t_0 : ma_T} {post : ma_P} {Go : ma_G} {w : ma_W} {o1 : Option ma_V} {o2 : Option ma_V} {o3 : Option ma_V} (hGo : ma_cl k_MO_grow zf_MO (e_MO_grow t_0) none 1 s_MO_grow post Go)
    (h : (¬ (w.1 24 4) = (nI 10) → Go 21 [some (.inr 24), o1, o2, o3] [] w) ∧ (¬ (¬ (w.1 24 4) = (nI 10)) → post (Int32.ofInt (-5)) w)) :
    Go 9 [some (.inr 24), o1, o2, o3] [] w := hGo 1 _ _ rfl _ _ _ h
theorem q_MO_grow_21 {t_0 : ma_T} {post : ma_P} {Go : ma_G} {w : ma_W} {o1 : Option ma_V} {o2 : Option ma_V} {o3 : Option ma_V} (hGo : ma_cl k_MO_grow zf_MO (e_MO_grow t_0) none 1 s_MO_grow post Go)
    (h : Go 28 [some (.inr 24), some (.inl (nI 0)), o2, o3] [] (ma_up w.1 24 11 (nI 0), w.2.1, w.2.2)) :
    Go 21 [some (.inr 24), o1, o2, o3] [] w := hGo 2 _ _ rfl _ _ _ h
theorem q_MO_grow_28 {t_0 : ma_T} {post : ma_P} {Go : ma_G} {w : ma_W} {x1 : Int32} {o2 : Option ma_V} {o3 : Option ma_V} (hGo : ma_cl k_MO_grow zf_MO (e_MO_grow t_0) none 1 s_MO_grow post Go)
    (h : ((w.1 24 9) ≤ x1 → Go 113 [some (.inr 24), some (.inl x1), o2, o3] [] w) ∧ (¬ ((w.1 24 9) ≤ x1) → (¬ (w.1 24 4) = (nI 0) → Go 47 [some (.inr 24), some (.inl x1), o2, o3] [] w) ∧ (¬ (¬ (w.1 24 4) = (nI 0)) → Go 63 [some (.inr 24), some (.inl x1), o2, o3] [.inl (nI 0)] w))) :
    Go 28 [some (.inr 24), some (.inl x1), o2, o3] [] w := hGo 3 _ _ rfl _ _ _ h
theorem q_MO_grow_47 {t_0 : ma_T} {post : ma_P} {Go : ma_G} {w : ma_W} {x1 : Int32} {o2 : Option ma_V} {o3 : Option ma_V} (hGo : ma_cl k_MO_grow zf_MO (e_MO_grow t_0) none 1 s_MO_grow post Go)
    (h : ∃ j1 : Nat, j1 < 600 ∧ ((((nI 10) * x1) + (w.1 24 4)) - (nI 1)) = nI j1 ∧ (Go 63 [some (.inr 24), some (.inl x1), o2, o3] [.inl (w.2.2 27 j1)] w)) :
    Go 47 [some (.inr 24), some (.inl x1), o2, o3] [] w := hGo 4 _ _ rfl _ _ _ h
theorem q_MO_grow_63 {t_0 : ma_T} {post : ma_P} {Go : ma_G} {w : ma_W} {x1 : Int32} {o2 : Option ma_V} {o3 : Option ma_V} {y0 : Int32} (hGo : ma_cl k_MO_grow zf_MO (e_MO_grow t_0) none 1 s_MO_grow post Go)
    (h : Go 66 [some (.inr 24), some (.inl x1), some (.inl y0), some (.inl (nI 0))] [] w) :
    Go 63 [some (.inr 24), some (.inl x1), o2, o3] [.inl y0] w := hGo 5 _ _ rfl _ _ _ h
theorem q_MO_grow_66 {t_0 : ma_T} {post : ma_P} {Go : ma_G} {w : ma_W} {x1 : Int32} {x2 : Int32} {x3 : Int32} (hGo : ma_cl k_MO_grow zf_MO (e_MO_grow t_0) none 1 s_MO_grow post Go)
    (h : ((w.1 24 5) ≤ x3 → Go 107 [some (.inr 24), some (.inl x1), some (.inl x2), some (.inl x3)] [] w) ∧ (¬ ((w.1 24 5) ≤ x3) → ∃ j1 : Nat, j1 < 20 ∧ x3 = nI j1 ∧ (((w.2.2 25 j1) < x2 → Go 101 [some (.inr 24), some (.inl x1), some (.inl x2), some (.inl x3)] [] w) ∧ (¬ ((w.2.2 25 j1) < x2) → ∃ j2 : Nat, j2 < 20 ∧ x3 = nI j2 ∧ (t_0 [.inr 24, .inl x1, .inl (w.2.2 25 j2)] w (fun z3 w3 => (¬ z3 = (nI 0) → Go 101 [some (.inr 24), some (.inl x1), some (.inl x2), some (.inl x3)] [] w3) ∧ (¬ (¬ z3 = (nI 0)) → post (Int32.ofInt (-5)) w3))))))) :
    Go 66 [some (.inr 24), some (.inl x1), some (.inl x2), some (.inl x3)] [] w := hGo 6 _ _ rfl _ _ _ h
theorem q_MO_grow_101 {t_0 : ma_T} {post : ma_P} {Go : ma_G} {w : ma_W} {x1 : Int32} {x2 : Int32} {x3 : Int32} (hGo : ma_cl k_MO_grow zf_MO (e_MO_grow t_0) none 1 s_MO_grow post Go)
    (h : Go 66 [some (.inr 24), some (.inl x1), some (.inl x2), some (.inl (x3 + nI 1))] [] w) :
    Go 101 [some (.inr 24), some (.inl x1), some (.inl x2), some (.inl x3)] [] w := hGo 7 _ _ rfl _ _ _ h
theorem q_MO_grow_107 {t_0 : ma_T} {post : ma_P} {Go : ma_G} {w : ma_W} {x1 : Int32} {x2 : Int32} {x3 : Int32} (hGo : ma_cl k_MO_grow zf_MO (e_MO_grow t_0) none 1 s_MO_grow post Go)
    (h : Go 28 [some (.inr 24), some (.inl (x1 + nI 1)), some (.inl x2), some (.inl x3)] [] w) :
    Go 107 [some (.inr 24), some (.inl x1), some (.inl x2), some (.inl x3)] [] w := hGo 8 _ _ rfl _ _ _ h
theorem q_MO_grow_113 {t_0 : ma_T} {post : ma_P} {Go : ma_G} {w : ma_W} {x1 : Int32} {o2 : Option ma_V} {o3 : Option ma_V} (hGo : ma_cl k_MO_grow zf_MO (e_MO_grow t_0) none 1 s_MO_grow post Go)
    (h : Go 115 [some (.inr 24), some (.inl (nI 0)), o2, o3] [] w) :
    Go 113 [some (.inr 24), some (.inl x1), o2, o3] [] w := hGo 9 _ _ rfl _ _ _ h
theorem q_MO_grow_115 {t_0 : ma_T} {post : ma_P} {Go : ma_G} {w : ma_W} {x1 : Int32} {o2 : Option ma_V} {o3 : Option ma_V} (hGo : ma_cl k_MO_grow zf_MO (e_MO_grow t_0) none 1 s_MO_grow post Go)
    (h : (((nI 10) * (w.1 24 11)) ≤ x1 → Go 144 [some (.inr 24), some (.inl x1), o2, o3] [] w) ∧ (¬ (((nI 10) * (w.1 24 11)) ≤ x1) → ∃ j1 : Nat, j1 < 610 ∧ x1 = nI j1 ∧ (∃ j2 : Nat, j2 < 600 ∧ x1 = nI j2 ∧ (Go 115 [some (.inr 24), some (.inl (x1 + nI 1)), o2, o3] [] (w.1, w.2.1, ma_up w.2.2 27 j2 (w.2.2 28 j1)))))) :
    Go 115 [some (.inr 24), some (.inl x1), o2, o3] [] w := hGo 10 _ _ rfl _ _ _ h
theorem q_MO_grow_144 {t_0 : ma_T} {post : ma_P} {Go : ma_G} {w : ma_W} {x1 : Int32} {o2 : Option ma_V} {o3 : Option ma_V} (hGo : ma_cl k_MO_grow zf_MO (e_MO_grow t_0) none 1 s_MO_grow post Go)
    (h : post (w.1 24 11) (ma_up (ma_up w.1 24 9 (w.1 24 11)) 24 4 ((w.1 24 4) + (nI 1)), w.2.1, w.2.2)) :
    Go 144 [some (.inr 24), some (.inl x1), o2, o3] [] w := hGo 11 _ _ rfl _ _ _ h
theorem q_MO_level_0 {post : ma_P} {Go : ma_G} {w : ma_W} (hGo : ma_cl k_MO_level zf_MO e_MO_level none 1 s_MO_level post Go)
    (h : ((w.1 24 0) = (nI 0) → Go 14 [some (.inr 24)] [] w) ∧ (¬ ((w.1 24 0) = (nI 0)) → Go 15 [some (.inr 24)] [.inl (w.1 24 4)] w)) :
    Go 0 [some (.inr 24)] [] w := hGo 0 _ _ rfl _ _ _ h
theorem q_MO_level_14 {post : ma_P} {Go : ma_G} {w : ma_W} (hGo : ma_cl k_MO_level zf_MO e_MO_level none 1 s_MO_level post Go)
    (h : Go 15 [some (.inr 24)] [.inl (Int32.ofInt (-1))] w) :
    Go 14 [some (.inr 24)] [] w := hGo 1 _ _ rfl _ _ _ h
theorem q_MO_level_15 {post : ma_P} {Go : ma_G} {w : ma_W} {y0 : Int32} (hGo : ma_cl k_MO_level zf_MO e_MO_level none 1 s_MO_level post Go)
    (h : post y0 w) :
    Go 15 [some (.inr 24)] [.inl y0] w := hGo 2 _ _ rfl _ _ _ h
theorem q_MO_entries_0 {post : ma_P} {Go : ma_G} {w : ma_W} (hGo : ma_cl k_MO_entries zf_MO e_MO_entries none 1 s_MO_entries post Go)
    (h : post (w.1 24 9) w) :
    Go 0 [some (.inr 24)] [] w := hGo 0 _ _ rfl _ _ _ h
theorem q_MO_block_0 {t_0 : ma_T} {post : ma_P} {Go : ma_G} {w : ma_W} {x1 : Int32} {x2 : Int32} (hGo : ma_cl k_MO_block zf_MO (e_MO_block t_0) none 1 s_MO_block post Go)
    (h : t_0 [.inr 24, .inl x1] w (fun z1 w1 => (z1 = (nI 0) → Go 34 [some (.inr 24), some (.inl x1), some (.inl x2)] [] w1) ∧ (¬ (z1 = (nI 0)) → (x2 < (nI 0) → Go 34 [some (.inr 24), some (.inl x1), some (.inl x2)] [] w1) ∧ (¬ (x2 < (nI 0)) → ((w1.1 24 4) ≤ x2 → Go 34 [some (.inr 24), some (.inl x1), some (.inl x2)] [] w1) ∧ (¬ ((w1.1 24 4) ≤ x2) → ∃ j2 : Nat, j2 < 600 ∧ (((nI 10) * x1) + x2) = nI j2 ∧ (Go 35 [some (.inr 24), some (.inl x1), some (.inl x2)] [.inl (w1.2.2 27 j2)] w1)))))) :
    Go 0 [some (.inr 24), some (.inl x1), some (.inl x2)] [] w := hGo 0 _ _ rfl _ _ _ h
theorem q_MO_block_34 {t_0 : ma_T} {post : ma_P} {Go : ma_G} {w : ma_W} {x1 : Int32} {x2 : Int32} (hGo : ma_cl k_MO_block zf_MO (e_MO_block t_0) none 1 s_MO_block post Go)
    (h : Go 35 [some (.inr 24), some (.inl x1), some (.inl x2)] [.inl (Int32.ofInt (-1))] w) :
    Go 34 [some (.inr 24), some (.inl x1), some (.inl x2)] [] w := hGo 1 _ _ rfl _ _ _ h
theorem q_MO_block_35 {t_0 : ma_T} {post : ma_P} {Go : ma_G} {w : ma_W} {x1 : Int32} {x2 : Int32} {y0 : Int32} (hGo : ma_cl k_MO_block zf_MO (e_MO_block t_0) none 1 s_MO_block post Go)
    (h : post y0 w) :
    Go 35 [some (.inr 24), some (.inl x1), some (.inl x2)] [.inl y0] w := hGo 2 _ _ rfl _ _ _ h
theorem q_MO_order_0 {t_0 t_1 t_2 : ma_T} {post : ma_P} {Go : ma_G} {w : ma_W} {x1 : Int32} (hGo : ma_cl k_MO_order zf_MO (e_MO_order t_0 t_1 t_2) none 1 s_MO_order post Go)
    (h : t_0 [.inr 24, .inl x1] w (fun z1 w1 => (¬ z1 = (nI 0) → Go 10 [some (.inr 24), some (.inl x1)] [] w1) ∧ (¬ (¬ z1 = (nI 0)) → post (Int32.ofInt (-1)) w1))) :
    Go 0 [some (.inr 24), some (.inl x1)] [] w := hGo 0 _ _ rfl _ _ _ h
theorem q_MO_order_10 {t_0 t_1 t_2 : ma_T} {post : ma_P} {Go : ma_G} {w : ma_W} {x1 : Int32} (hGo : ma_cl k_MO_order zf_MO (e_MO_order t_0 t_1 t_2) none 1 s_MO_order post Go)
    (h : t_1 [.inr 24, .inl x1] w (fun _ w1 => t_2 [.inr 24] w1 (fun z2 w2 => post z2 w2))) :
    Go 10 [some (.inr 24), some (.inl x1)] [] w := hGo 1 _ _ rfl _ _ _ h
theorem q_MO_pair_0 {post : ma_P} {Go : ma_G} {w : ma_W} {x1 : Int32} {x2 : Int32} {o3 : Option ma_V} {o4 : Option ma_V} {o5 : Option ma_V} (hGo : ma_cl k_MO_pair zf_MO e_MO_pair none 0 s_MO_pair post Go)
    (h : Go 2 [some (.inr 24), some (.inl x1), some (.inl x2), some (.inl (nI 0)), o4, o5] [] w) :
    Go 0 [some (.inr 24), some (.inl x1), some (.inl x2), o3, o4, o5] [] w := hGo 0 _ _ rfl _ _ _ h
theorem q_MO_pair_2 {post : ma_P} {Go : ma_G} {w : ma_W} {x1 : Int32} {x2 : Int32} {x3 : Int32} {o4 : Option ma_V} {o5 : Option ma_V} (hGo : ma_cl k_MO_pair zf_MO e_MO_pair none 0 s_MO_pair post Go)
    (h : ((w.1 24 1) ≤ x3 → Go 87 [some (.inr 24), some (.inl x1), some (.inl x2), some (.inl x3), o4, o5] [] w) ∧ (¬ ((w.1 24 1) ≤ x3) → Go 15 [some (.inr 24), some (.inl x1), some (.inl x2), some (.inl x3), some (.inl (x3 + (nI 1))), o5] [] w)) :
    Go 2 [some (.inr 24), some (.inl x1), some (.inl x2), some (.inl x3), o4, o5] [] w := hGo 1 _ _ rfl _ _ _ h
theorem q_MO_pair_15 {post : ma_P} {Go : ma_G} {w : ma_W} {x1 : Int32} {x2 : Int32} {x3 : Int32} {x4 : Int32} {o5 : Option ma_V} (hGo : ma_cl k_MO_pair zf_MO e_MO_pair none 0 s_MO_pair post Go)
    (h : ((w.1 24 1) ≤ x4 → Go 81 [some (.inr 24), some (.inl x1), some (.inl x2), some (.inl x3), some (.inl x4), o5] [] w) ∧ (¬ ((w.1 24 1) ≤ x4) → (¬ ((x1 >>> (x3 &&& 31)) &&& (nI 1)) = (nI 1) → Go 47 [some (.inr 24), some (.inl x1), some (.inl x2), some (.inl x3), some (.inl x4), o5] [] w) ∧ (¬ (¬ ((x1 >>> (x3 &&& 31)) &&& (nI 1)) = (nI 1)) → (¬ ((x1 >>> (x4 &&& 31)) &&& (nI 1)) = (nI 1) → Go 47 [some (.inr 24), some (.inl x1), some (.inl x2), some (.inl x3), some (.inl x4), o5] [] w) ∧ (¬ (¬ ((x1 >>> (x4 &&& 31)) &&& (nI 1)) = (nI 1)) → Go 48 [some (.inr 24), some (.inl x1), some (.inl x2), some (.inl x3), some (.inl x4), o5] [.inl (nI 1)] w)))) :
    Go 15 [some (.inr 24), some (.inl x1), some (.inl x2), some (.inl x3), some (.inl x4), o5] [] w := hGo 2 _ _ rfl _ _ _ h
theorem q_MO_pair_47 {post : ma_P} {Go : ma_G} {w : ma_W} {x1 : Int32} {x2 : Int32} {x3 : Int32} {x4 : Int32} {o5 : Option ma_V} (hGo : ma_cl k_MO_pair zf_MO e_MO_pair none 0 s_MO_pair post Go)
    (h : Go 48 [some (.inr 24), some (.inl x1), some (.inl x2), some (.inl x3), some (.inl x4), o5] [.inl (nI 0)] w) :
    Go 47 [some (.inr 24), some (.inl x1), some (.inl x2), some (.inl x3), some (.inl x4), o5] [] w := hGo 3 _ _ rfl _ _ _ h
theorem q_MO_pair_48 {post : ma_P} {Go : ma_G} {w : ma_W} {x1 : Int32} {x2 : Int32} {x3 : Int32} {x4 : Int32} {o5 : Option ma_V} {y0 : Int32} (hGo : ma_cl k_MO_pair zf_MO e_MO_pair none 0 s_MO_pair post Go)
    (h : ∃ j1 : Nat, j1 < 36 ∧ (((nI 6) * x3) + x4) = nI j1 ∧ ((y0 = (nI 0) → Go 72 [some (.inr 24), some (.inl x1), some (.inl x2), some (.inl x3), some (.inl x4), some (.inl y0)] [.inl (w.2.2 31 j1), .inl (((nI 6) * x3) + x4), .inr 31] w) ∧ (¬ (y0 = (nI 0)) → Go 73 [some (.inr 24), some (.inl x1), some (.inl x2), some (.inl x3), some (.inl x4), some (.inl y0)] [.inl x2, .inl (w.2.2 31 j1), .inl (((nI 6) * x3) + x4), .inr 31] w))) :
    Go 48 [some (.inr 24), some (.inl x1), some (.inl x2), some (.inl x3), some (.inl x4), o5] [.inl y0] w := hGo 4 _ _ rfl _ _ _ h
theorem q_MO_pair_72 {post : ma_P} {Go : ma_G} {w : ma_W} {x1 : Int32} {x2 : Int32} {x3 : Int32} {x4 : Int32} {x5 : Int32} {y0 : Int32} {y1 : Int32} {s2 : Nat} (hGo : ma_cl k_MO_pair zf_MO e_MO_pair none 0 s_MO_pair post Go)
    (h : Go 73 [some (.inr 24), some (.inl x1), some (.inl x2), some (.inl x3), some (.inl x4), some (.inl x5)] [.inl (nI 0), .inl y0, .inl y1, .inr s2] w) :
    Go 72 [some (.inr 24), some (.inl x1), some (.inl x2), some (.inl x3), some (.inl x4), some (.inl x5)] [.inl y0, .inl y1, .inr s2] w := hGo 5 _ _ rfl _ _ _ h
theorem q_MO_pair_73 {post : ma_P} {Go : ma_G} {w : ma_W} {x1 : Int32} {x2 : Int32} {x3 : Int32} {x4 : Int32} {x5 : Int32} {y0 : Int32} {y1 : Int32} {y2 : Int32} {s3 : Nat} (hGo : ma_cl k_MO_pair zf_MO e_MO_pair none 0 s_MO_pair post Go)
    (h : ma_ark s3 fun n1 => ∃ j1 : Nat, j1 < n1 ∧ y2 = nI j1 ∧ (Go 15 [some (.inr 24), some (.inl x1), some (.inl x2), some (.inl x3), some (.inl (x4 + nI 1)), some (.inl x5)] [] (w.1, w.2.1, ma_up w.2.2 s3 j1 (y1 + y0)))) :
    Go 73 [some (.inr 24), some (.inl x1), some (.inl x2), some (.inl x3), some (.inl x4), some (.inl x5)] [.inl y0, .inl y1, .inl y2, .inr s3] w := hGo 6 _ _ rfl _ _ _ h
theorem q_MO_pair_81 {post : ma_P} {Go : ma_G} {w : ma_W} {x1 : Int32} {x2 : Int32} {x3 : Int32} {x4 : Int32} {o5 : Option ma_V} (hGo : ma_cl k_MO_pair zf_MO e_MO_pair none 0 s_MO_pair post Go)
    (h : Go 2 [some (.inr 24), some (.inl x1), some (.inl x2), some (.inl (x3 + nI 1)), some (.inl x4), o5] [] w) :
    Go 81 [some (.inr 24), some (.inl x1), some (.inl x2), some (.inl x3), some (.inl x4), o5] [] w := hGo 7 _ _ rfl _ _ _ h
theorem q_MO_pair_87 {post : ma_P} {Go : ma_G} {w : ma_W} {x1 : Int32} {x2 : Int32} {x3 : Int32} {o4 : Option ma_V} {o5 : Option ma_V} (hGo : ma_cl k_MO_pair zf_MO e_MO_pair none 0 s_MO_pair post Go)
    (h : post 0 w) :
    Go 87 [some (.inr 24), some (.inl x1), some (.inl x2), some (.inl x3), o4, o5] [] w := hGo 8 _ _ rfl _ _ _ h
theorem q_MO_tooOften_0 {post : ma_P} {Go : ma_G} {w : ma_W} {o1 : Option ma_V} {o2 : Option ma_V} (hGo : ma_cl k_MO_tooOften zf_MO e_MO_tooOften none 2 s_MO_tooOften post Go)
    (h : Go 4 [some (.inr 24), some (.inl (nI 0)), some (.inl (nI 0))] [] w) :
    Go 0 [some (.inr 24), o1, o2] [] w := hGo 0 _ _ rfl _ _ _ h
theorem q_MO_tooOften_4 {post : ma_P} {Go : ma_G} {w : ma_W} {x1 : Int32} {x2 : Int32} (hGo : ma_cl k_MO_tooOften zf_MO e_MO_tooOften none 2 s_MO_tooOften post Go)
    (h : ((nI 36) ≤ x2 → Go 39 [some (.inr 24), some (.inl x1), some (.inl x2)] [] w) ∧ (¬ ((nI 36) ≤ x2) → (¬ x1 = (nI 0) → Go 27 [some (.inr 24), some (.inl x1), some (.inl x2)] [] w) ∧ (¬ (¬ x1 = (nI 0)) → ∃ j1 : Nat, j1 < 36 ∧ x2 = nI j1 ∧ (((w.2.2 31 j1) ≤ (w.1 24 3) → Go 31 [some (.inr 24), some (.inl x1), some (.inl x2)] [] w) ∧ (¬ ((w.2.2 31 j1) ≤ (w.1 24 3)) → Go 27 [some (.inr 24), some (.inl x1), some (.inl x2)] [] w))))) :
    Go 4 [some (.inr 24), some (.inl x1), some (.inl x2)] [] w := hGo 1 _ _ rfl _ _ _ h
theorem q_MO_tooOften_27 {post : ma_P} {Go : ma_G} {w : ma_W} {x1 : Int32} {x2 : Int32} (hGo : ma_cl k_MO_tooOften zf_MO e_MO_tooOften none 2 s_MO_tooOften post Go)
    (h : Go 32 [some (.inr 24), some (.inl x1), some (.inl x2)] [.inl (nI 1)] w) :
    Go 27 [some (.inr 24), some (.inl x1), some (.inl x2)] [] w := hGo 2 _ _ rfl _ _ _ h
theorem q_MO_tooOften_31 {post : ma_P} {Go : ma_G} {w : ma_W} {x1 : Int32} {x2 : Int32} (hGo : ma_cl k_MO_tooOften zf_MO e_MO_tooOften none 2 s_MO_tooOften post Go)
    (h : Go 32 [some (.inr 24), some (.inl x1), some (.inl x2)] [.inl (nI 0)] w) :
    Go 31 [some (.inr 24), some (.inl x1), some (.inl x2)] [] w := hGo 3 _ _ rfl _ _ _ h
theorem q_MO_tooOften_32 {post : ma_P} {Go : ma_G} {w : ma_W} {x1 : Int32} {x2 : Int32} {y0 : Int32} (hGo : ma_cl k_MO_tooOften zf_MO e_MO_tooOften none 2 s_MO_tooOften post Go)
    (h : Go 4 [some (.inr 24), some (.inl y0), some (.inl (x2 + nI 1))] [] w) :
    Go 32 [some (.inr 24), some (.inl x1), some (.inl x2)] [.inl y0] w := hGo 4 _ _ rfl _ _ _ h
theorem q_MO_tooOften_39 {post : ma_P} {Go : ma_G} {w : ma_W} {x1 : Int32} {x2 : Int32} (hGo : ma_cl k_MO_tooOften zf_MO e_MO_tooOften none 2 s_MO_tooOften post Go)
    (h : (x1 = 0 ∨ x1 = 1) ∧ post x1 w) :
    Go 39 [some (.inr 24), some (.inl x1), some (.inl x2)] [] w := hGo 5 _ _ rfl _ _ _ h
theorem q_MO_labelled_0 {t_0 t_1 : ma_T} {post : ma_P} {Go : ma_G} {w : ma_W} {o1 : Option ma_V} {o2 : Option ma_V} {o3 : Option ma_V} {o4 : Option ma_V} (hGo : ma_cl k_MO_labelled zf_MO (e_MO_labelled t_0 t_1) none 1 s_MO_labelled post Go)
    (h : ((w.1 24 0) = (nI 0) → Go 14 [some (.inr 24), o1, o2, o3, o4] [] w) ∧ (¬ ((w.1 24 0) = (nI 0)) → (¬ (w.1 24 4) = (nI 0) → Go 27 [some (.inr 24), o1, o2, o3, o4] [] w) ∧ (¬ (¬ (w.1 24 4) = (nI 0)) → Go 14 [some (.inr 24), o1, o2, o3, o4] [] w))) :
    Go 0 [some (.inr 24), o1, o2, o3, o4] [] w := hGo 0 _ _ rfl _ _ _ h
theorem q_MO_labelled_14 {t_0 t_1 : ma_T} {post : ma_P} {Go : ma_G} {w : ma_W} {o1 : Option ma_V} {o2 : Option ma_V} {o3 : Option ma_V} {o4 : Option ma_V} (hGo : ma_cl k_MO_labelled zf_MO (e_MO_labelled t_0 t_1) none 1 s_MO_labelled post Go)
    (h : ((w.1 24 0) = (nI 0) → Go 25 [some (.inr 24), o1, o2, o3, o4] [] w) ∧ (¬ ((w.1 24 0) = (nI 0)) → Go 26 [some (.inr 24), o1, o2, o3, o4] [.inl (nI 1)] w)) :
    Go 14 [some (.inr 24), o1, o2, o3, o4] [] w := hGo 1 _ _ rfl _ _ _ h
theorem q_MO_labelled_25 {t_0 t_1 : ma_T} {post : ma_P} {Go : ma_G} {w : ma_W} {o1 : Option ma_V} {o2 : Option ma_V} {o3 : Option ma_V} {o4 : Option ma_V} (hGo : ma_cl k_MO_labelled zf_MO (e_MO_labelled t_0 t_1) none 1 s_MO_labelled post Go)
    (h : Go 26 [some (.inr 24), o1, o2, o3, o4] [.inl (nI 0)] w) :
    Go 25 [some (.inr 24), o1, o2, o3, o4] [] w := hGo 2 _ _ rfl _ _ _ h
theorem q_MO_labelled_26 {t_0 t_1 : ma_T} {post : ma_P} {Go : ma_G} {w : ma_W} {o1 : Option ma_V} {o2 : Option ma_V} {o3 : Option ma_V} {o4 : Option ma_V} {y0 : Int32} (hGo : ma_cl k_MO_labelled zf_MO (e_MO_labelled t_0 t_1) none 1 s_MO_labelled post Go)
    (h : post y0 w) :
    Go 26 [some (.inr 24), o1, o2, o3, o4] [.inl y0] w := hGo 3 _ _ rfl _ _ _ h
theorem q_MO_labelled_27 {t_0 t_1 : ma_T} {post : ma_P} {Go : ma_G} {w : ma_W} {o1 : Option ma_V} {o2 : Option ma_V} {o3 : Option ma_V} {o4 : Option ma_V} (hGo : ma_cl k_MO_labelled zf_MO (e_MO_labelled t_0 t_1) none 1 s_MO_labelled post Go)
    (h : Go 29 [some (.inr 24), some (.inl (nI 0)), o2, o3, o4] [] w) :
    Go 27 [some (.inr 24), o1, o2, o3, o4] [] w := hGo 4 _ _ rfl _ _ _ h
theorem q_MO_labelled_29 {t_0 t_1 : ma_T} {post : ma_P} {Go : ma_G} {w : ma_W} {x1 : Int32} {o2 : Option ma_V} {o3 : Option ma_V} {o4 : Option ma_V} (hGo : ma_cl k_MO_labelled zf_MO (e_MO_labelled t_0 t_1) none 1 s_MO_labelled post Go)
    (h : ((nI 36) ≤ x1 → Go 48 [some (.inr 24), some (.inl x1), o2, o3, o4] [] w) ∧ (¬ ((nI 36) ≤ x1) → ∃ j1 : Nat, j1 < 36 ∧ x1 = nI j1 ∧ (Go 29 [some (.inr 24), some (.inl (x1 + nI 1)), o2, o3, o4] [] (w.1, w.2.1, ma_up w.2.2 31 j1 (nI 0))))) :
    Go 29 [some (.inr 24), some (.inl x1), o2, o3, o4] [] w := hGo 5 _ _ rfl _ _ _ h
theorem q_MO_labelled_48 {t_0 t_1 : ma_T} {post : ma_P} {Go : ma_G} {w : ma_W} {x1 : Int32} {o2 : Option ma_V} {o3 : Option ma_V} {o4 : Option ma_V} (hGo : ma_cl k_MO_labelled zf_MO (e_MO_labelled t_0 t_1) none 1 s_MO_labelled post Go)
    (h : ∃ j1 : Nat, j1 < 10 ∧ (nI 0) = nI j1 ∧ (Go 61 [some (.inr 24), some (.inl (nI 0)), some (.inl (nI 0)), some (.inl (nI 0)), o4] [] (w.1, w.2.1, ma_up w.2.2 32 j1 (nI 0)))) :
    Go 48 [some (.inr 24), some (.inl x1), o2, o3, o4] [] w := hGo 6 _ _ rfl _ _ _ h
set_option maxRecDepth 20000 in
theorem q_MO_labelled_61 {t_0 t_1 : ma_T} {post : ma_P} {Go : ma_G} {w : ma_W} {x1 : Int32} {x2 : Int32} {x3 : Int32} {o4 : Option ma_V} (hGo : ma_cl k_MO_labelled zf_MO (e_MO_labelled t_0 t_1) none 1 s_MO_labelled post Go)
    (h : (100000000 ≤ x3 → Go 240 [some (.inr 24), some (.inl x1), some (.inl x2), some (.inl x3), o4] [] w) ∧ (¬ (100000000 ≤ x3) → (x2 < (nI 0) → Go 240 [some (.inr 24), some (.inl x1), some (.inl x2), some (.inl x3), o4] [] w) ∧ (¬ (x2 < (nI 0)) → ∃ j1 : Nat, j1 < 10 ∧ x2 = nI j1 ∧ ((¬ (w.2.2 32 j1) = (w.1 24 5) → Go 120 [some (.inr 24), some (.inl x1), some (.inl x2), some (.inl x3), o4] [] w) ∧ (¬ (¬ (w.2.2 32 j1) = (w.1 24 5)) → ((x2 + (Int32.ofInt (-1))) < (nI 0) → Go 234 [some (.inr 24), some (.inl x1), some (.inl (x2 + (Int32.ofInt (-1)))), some (.inl x3), o4] [] w) ∧ (¬ ((x2 + (Int32.ofInt (-1))) < (nI 0)) → ∃ j2 : Nat, j2 < 10 ∧ (x2 + (Int32.ofInt (-1))) = nI j2 ∧ (∃ j3 : Nat, j3 < 20 ∧ (w.2.2 32 j2) = nI j3 ∧ (t_0 [.inr 24, .inl (w.2.2 25 j3), .inl (Int32.ofInt (-1))] w (fun _ w4 => ∃ j5 : Nat, j5 < 10 ∧ (x2 + (Int32.ofInt (-1))) = nI j5 ∧ (∃ j6 : Nat, j6 < 10 ∧ (x2 + (Int32.ofInt (-1))) = nI j6 ∧ (Go 234 [some (.inr 24), some (.inl x1), some (.inl (x2 + (Int32.ofInt (-1)))), some (.inl x3), o4] [] (w4.1, w4.2.1, ma_up w4.2.2 32 j6 ((w4.2.2 32 j5) + (nI 1)))))))))))))) :
    Go 61 [some (.inr 24), some (.inl x1), some (.inl x2), some (.inl x3), o4] [] w := hGo 7 _ _ rfl _ _ _ h
theorem q_MO_labelled_120 {t_0 t_1 : ma_T} {post : ma_P} {Go : ma_G} {w : ma_W} {x1 : Int32} {x2 : Int32} {x3 : Int32} {o4 : Option ma_V} (hGo : ma_cl k_MO_labelled zf_MO (e_MO_labelled t_0 t_1) none 1 s_MO_labelled post Go)
    (h : ∃ j1 : Nat, j1 < 10 ∧ x2 = nI j1 ∧ (∃ j2 : Nat, j2 < 20 ∧ (w.2.2 32 j1) = nI j2 ∧ (t_0 [.inr 24, .inl (w.2.2 25 j2), .inl (nI 1)] w (fun _ w3 => t_1 [.inr 24] w3 (fun z4 w4 => (¬ z4 = (nI 0) → Go 147 [some (.inr 24), some (.inl x1), some (.inl x2), some (.inl x3), o4] [] w4) ∧ (¬ (¬ z4 = (nI 0)) → Go 148 [some (.inr 24), some (.inl x1), some (.inl x2), some (.inl x3), o4] [.inl (nI 1)] w4)))))) :
    Go 120 [some (.inr 24), some (.inl x1), some (.inl x2), some (.inl x3), o4] [] w := hGo 8 _ _ rfl _ _ _ h
theorem q_MO_labelled_147 {t_0 t_1 : ma_T} {post : ma_P} {Go : ma_G} {w : ma_W} {x1 : Int32} {x2 : Int32} {x3 : Int32} {o4 : Option ma_V} (hGo : ma_cl k_MO_labelled zf_MO (e_MO_labelled t_0 t_1) none 1 s_MO_labelled post Go)
    (h : Go 148 [some (.inr 24), some (.inl x1), some (.inl x2), some (.inl x3), o4] [.inl (nI 0)] w) :
    Go 147 [some (.inr 24), some (.inl x1), some (.inl x2), some (.inl x3), o4] [] w := hGo 9 _ _ rfl _ _ _ h
theorem q_MO_labelled_148 {t_0 t_1 : ma_T} {post : ma_P} {Go : ma_G} {w : ma_W} {x1 : Int32} {x2 : Int32} {x3 : Int32} {o4 : Option ma_V} {y0 : Int32} (hGo : ma_cl k_MO_labelled zf_MO (e_MO_labelled t_0 t_1) none 1 s_MO_labelled post Go)
    (h : (y0 = (nI 0) → Go 171 [some (.inr 24), some (.inl x1), some (.inl x2), some (.inl x3), some (.inl y0)] [] w) ∧ (¬ (y0 = (nI 0)) → (¬ x2 = ((w.1 24 4) - (nI 1)) → Go 171 [some (.inr 24), some (.inl x1), some (.inl x2), some (.inl x3), some (.inl y0)] [] w) ∧ (¬ (¬ x2 = ((w.1 24 4) - (nI 1))) → Go 172 [some (.inr 24), some (.inl x1), some (.inl x2), some (.inl x3), some (.inl y0)] [.inl (x1 + (nI 1))] w))) :
    Go 148 [some (.inr 24), some (.inl x1), some (.inl x2), some (.inl x3), o4] [.inl y0] w := hGo 10 _ _ rfl _ _ _ h
theorem q_MO_labelled_171 {t_0 t_1 : ma_T} {post : ma_P} {Go : ma_G} {w : ma_W} {x1 : Int32} {x2 : Int32} {x3 : Int32} {x4 : Int32} (hGo : ma_cl k_MO_labelled zf_MO (e_MO_labelled t_0 t_1) none 1 s_MO_labelled post Go)
    (h : Go 172 [some (.inr 24), some (.inl x1), some (.inl x2), some (.inl x3), some (.inl x4)] [.inl x1] w) :
    Go 171 [some (.inr 24), some (.inl x1), some (.inl x2), some (.inl x3), some (.inl x4)] [] w := hGo 11 _ _ rfl _ _ _ h
theorem q_MO_labelled_172 {t_0 t_1 : ma_T} {post : ma_P} {Go : ma_G} {w : ma_W} {x1 : Int32} {x2 : Int32} {x3 : Int32} {x4 : Int32} {y0 : Int32} (hGo : ma_cl k_MO_labelled zf_MO (e_MO_labelled t_0 t_1) none 1 s_MO_labelled post Go)
    (h : (x4 = (nI 0) → Go 208 [some (.inr 24), some (.inl y0), some (.inl x2), some (.inl x3), some (.inl x4)] [] w) ∧ (¬ (x4 = (nI 0)) → (((w.1 24 4) - (nI 1)) ≤ x2 → Go 208 [some (.inr 24), some (.inl y0), some (.inl x2), some (.inl x3), some (.inl x4)] [] w) ∧ (¬ (((w.1 24 4) - (nI 1)) ≤ x2) → ∃ j1 : Nat, j1 < 10 ∧ x2 = nI j1 ∧ (∃ j2 : Nat, j2 < 10 ∧ (x2 + (nI 1)) = nI j2 ∧ (Go 234 [some (.inr 24), some (.inl y0), some (.inl (x2 + nI 1)), some (.inl x3), some (.inl x4)] [] (w.1, w.2.1, ma_up w.2.2 32 j2 (w.2.2 32 j1))))))) :
    Go 172 [some (.inr 24), some (.inl x1), some (.inl x2), some (.inl x3), some (.inl x4)] [.inl y0] w := hGo 12 _ _ rfl _ _ _ h
theorem q_MO_labelled_208 {t_0 t_1 : ma_T} {post : ma_P} {Go : ma_G} {w : ma_W} {x1 : Int32} {x2 : Int32} {x3 : Int32} {x4 : Int32} (hGo : ma_cl k_MO_labelled zf_MO (e_MO_labelled t_0 t_1) none 1 s_MO_labelled post Go)
    (h : ∃ j1 : Nat, j1 < 10 ∧ x2 = nI j1 ∧ (∃ j2 : Nat, j2 < 20 ∧ (w.2.2 32 j1) = nI j2 ∧ (t_0 [.inr 24, .inl (w.2.2 25 j2), .inl (Int32.ofInt (-1))] w (fun _ w3 => ∃ j4 : Nat, j4 < 10 ∧ x2 = nI j4 ∧ (∃ j5 : Nat, j5 < 10 ∧ x2 = nI j5 ∧ (Go 234 [some (.inr 24), some (.inl x1), some (.inl x2), some (.inl x3), some (.inl x4)] [] (w3.1, w3.2.1, ma_up w3.2.2 32 j5 ((w3.2.2 32 j4) + (nI 1))))))))) :
    Go 208 [some (.inr 24), some (.inl x1), some (.inl x2), some (.inl x3), some (.inl x4)] [] w := hGo 13 _ _ rfl _ _ _ h
theorem q_MO_labelled_234 {t_0 t_1 : ma_T} {post : ma_P} {Go : ma_G} {w : ma_W} {x1 : Int32} {x2 : Int32} {x3 : Int32} {o4 : Option ma_V} (hGo : ma_cl k_MO_labelled zf_MO (e_MO_labelled t_0 t_1) none 1 s_MO_labelled post Go)
    (h : Go 61 [some (.inr 24), some (.inl x1), some (.inl x2), some (.inl (x3 + nI 1)), o4] [] w) :
    Go 234 [some (.inr 24), some (.inl x1), some (.inl x2), some (.inl x3), o4] [] w := hGo 14 _ _ rfl _ _ _ h
theorem q_MO_labelled_240 {t_0 t_1 : ma_T} {post : ma_P} {Go : ma_G} {w : ma_W} {x1 : Int32} {x2 : Int32} {x3 : Int32} {o4 : Option ma_V} (hGo : ma_cl k_MO_labelled zf_MO (e_MO_labelled t_0 t_1) none 1 s_MO_labelled post Go)
    (h : post x1 w) :
    Go 240 [some (.inr 24), some (.inl x1), some (.inl x2), some (.inl x3), o4] [] w := hGo 15 _ _ rfl _ _ _ h
theorem q_MO_together_0 {t_0 t_1 t_2 t_3 : ma_T} {post : ma_P} {Go : ma_G} {w : ma_W} {x1 : Int32} {x2 : Int32} {x3 : Int32} (hGo : ma_cl k_MO_together zf_MO (e_MO_together t_0 t_1 t_2 t_3) none 1 s_MO_together post Go)
    (h : t_0 [.inr 24, .inl x1] w (fun z1 w1 => (z1 = (nI 0) → Go 24 [some (.inr 24), some (.inl x1), some (.inl x2), some (.inl x3)] [] w1) ∧ (¬ (z1 = (nI 0)) → t_1 [.inr 24, .inl x2] w1 (fun z2 w2 => (z2 = (nI 0) → Go 24 [some (.inr 24), some (.inl x1), some (.inl x2), some (.inl x3)] [] w2) ∧ (¬ (z2 = (nI 0)) → t_1 [.inr 24, .inl x3] w2 (fun z3 w3 => (¬ z3 = (nI 0) → Go 26 [some (.inr 24), some (.inl x1), some (.inl x2), some (.inl x3)] [] w3) ∧ (¬ (¬ z3 = (nI 0)) → Go 24 [some (.inr 24), some (.inl x1), some (.inl x2), some (.inl x3)] [] w3))))))) :
    Go 0 [some (.inr 24), some (.inl x1), some (.inl x2), some (.inl x3)] [] w := hGo 0 _ _ rfl _ _ _ h
theorem q_MO_together_24 {t_0 t_1 t_2 t_3 : ma_T} {post : ma_P} {Go : ma_G} {w : ma_W} {x1 : Int32} {x2 : Int32} {x3 : Int32} (hGo : ma_cl k_MO_together zf_MO (e_MO_together t_0 t_1 t_2 t_3) none 1 s_MO_together post Go)
    (h : post (Int32.ofInt (-1)) w) :
    Go 24 [some (.inr 24), some (.inl x1), some (.inl x2), some (.inl x3)] [] w := hGo 1 _ _ rfl _ _ _ h
theorem q_MO_together_26 {t_0 t_1 t_2 t_3 : ma_T} {post : ma_P} {Go : ma_G} {w : ma_W} {x1 : Int32} {x2 : Int32} {x3 : Int32} (hGo : ma_cl k_MO_together zf_MO (e_MO_together t_0 t_1 t_2 t_3) none 1 s_MO_together post Go)
    (h : t_2 [.inr 24, .inl x1] w (fun _ w1 => t_3 [.inr 24, .inl x2, .inl x3] w1 (fun z2 w2 => post z2 w2))) :
    Go 26 [some (.inr 24), some (.inl x1), some (.inl x2), some (.inl x3)] [] w := hGo 2 _ _ rfl _ _ _ h
theorem q_MO_design_0 {t_0 t_1 t_2 : ma_T} {post : ma_P} {Go : ma_G} {w : ma_W} {x1 : Int32} (hGo : ma_cl k_MO_design zf_MO (e_MO_design t_0 t_1 t_2) none 2 s_MO_design post Go)
    (h : t_0 [.inr 24, .inl x1] w (fun z1 w1 => (¬ z1 = (nI 0) → Go 10 [some (.inr 24), some (.inl x1)] [] w1) ∧ (¬ (¬ z1 = (nI 0)) → ((nI 0) = 0 ∨ (nI 0) = 1) ∧ post (nI 0) w1))) :
    Go 0 [some (.inr 24), some (.inl x1)] [] w := hGo 0 _ _ rfl _ _ _ h
theorem q_MO_design_10 {t_0 t_1 t_2 : ma_T} {post : ma_P} {Go : ma_G} {w : ma_W} {x1 : Int32} (hGo : ma_cl k_MO_design zf_MO (e_MO_design t_0 t_1 t_2) none 2 s_MO_design post Go)
    (h : t_1 [.inr 24, .inl x1] w (fun _ w1 => t_2 [.inr 24, .inl (w1.1 24 3), .inl (w1.1 24 3)] w1 (fun z2 w2 => (z2 = 0 ∨ z2 = 1) ∧ post z2 w2))) :
    Go 10 [some (.inr 24), some (.inl x1)] [] w := hGo 1 _ _ rfl _ _ _ h
theorem q_MO_designs_0 {t_0 : ma_T} {post : ma_P} {Go : ma_G} {w : ma_W} {o1 : Option ma_V} {o2 : Option ma_V} (hGo : ma_cl k_MO_designs zf_MO (e_MO_designs t_0) none 1 s_MO_designs post Go)
    (h : Go 4 [some (.inr 24), some (.inl (nI 0)), some (.inl (nI 0))] [] w) :
    Go 0 [some (.inr 24), o1, o2] [] w := hGo 0 _ _ rfl _ _ _ h
theorem q_MO_designs_4 {t_0 : ma_T} {post : ma_P} {Go : ma_G} {w : ma_W} {x1 : Int32} {x2 : Int32} (hGo : ma_cl k_MO_designs zf_MO (e_MO_designs t_0) none 1 s_MO_designs post Go)
    (h : ((w.1 24 9) ≤ x2 → Go 34 [some (.inr 24), some (.inl x1), some (.inl x2)] [] w) ∧ (¬ ((w.1 24 9) ≤ x2) → t_0 [.inr 24, .inl x2] w (fun z1 w1 => (z1 = (nI 0) → Go 26 [some (.inr 24), some (.inl x1), some (.inl x2)] [] w1) ∧ (¬ (z1 = (nI 0)) → Go 27 [some (.inr 24), some (.inl x1), some (.inl x2)] [.inl (x1 + (nI 1))] w1)))) :
    Go 4 [some (.inr 24), some (.inl x1), some (.inl x2)] [] w := hGo 1 _ _ rfl _ _ _ h
theorem q_MO_designs_26 {t_0 : ma_T} {post : ma_P} {Go : ma_G} {w : ma_W} {x1 : Int32} {x2 : Int32} (hGo : ma_cl k_MO_designs zf_MO (e_MO_designs t_0) none 1 s_MO_designs post Go)
    (h : Go 27 [some (.inr 24), some (.inl x1), some (.inl x2)] [.inl x1] w) :
    Go 26 [some (.inr 24), some (.inl x1), some (.inl x2)] [] w := hGo 2 _ _ rfl _ _ _ h
theorem q_MO_designs_27 {t_0 : ma_T} {post : ma_P} {Go : ma_G} {w : ma_W} {x1 : Int32} {x2 : Int32} {y0 : Int32} (hGo : ma_cl k_MO_designs zf_MO (e_MO_designs t_0) none 1 s_MO_designs post Go)
    (h : Go 4 [some (.inr 24), some (.inl y0), some (.inl (x2 + nI 1))] [] w) :
    Go 27 [some (.inr 24), some (.inl x1), some (.inl x2)] [.inl y0] w := hGo 3 _ _ rfl _ _ _ h
theorem q_MO_designs_34 {t_0 : ma_T} {post : ma_P} {Go : ma_G} {w : ma_W} {x1 : Int32} {x2 : Int32} (hGo : ma_cl k_MO_designs zf_MO (e_MO_designs t_0) none 1 s_MO_designs post Go)
    (h : post x1 w) :
    Go 34 [some (.inr 24), some (.inl x1), some (.inl x2)] [] w := hGo 4 _ _ rfl _ _ _ h
theorem q_MO_orbit_0 {t_0 t_1 t_2 t_3 : ma_T} {post : ma_P} {Go : ma_G} {w : ma_W} {x1 : Int32} {x2 : Int32} {o3 : Option ma_V} {o4 : Option ma_V} {o5 : Option ma_V} (hGo : ma_cl k_MO_orbit zf_MO (e_MO_orbit t_0 t_1 t_2 t_3) none 1 s_MO_orbit post Go)
    (h : t_0 [.inr 24, .inl x1] w (fun z1 w1 => (z1 = (nI 0) → Go 16 [some (.inr 24), some (.inl x1), some (.inl x2), o3, o4, o5] [] w1) ∧ (¬ (z1 = (nI 0)) → t_1 [.inr 24, .inl x2] w1 (fun z2 w2 => (¬ z2 = (nI 0) → Go 18 [some (.inr 24), some (.inl x1), some (.inl x2), o3, o4, o5] [] w2) ∧ (¬ (¬ z2 = (nI 0)) → Go 16 [some (.inr 24), some (.inl x1), some (.inl x2), o3, o4, o5] [] w2))))) :
    Go 0 [some (.inr 24), some (.inl x1), some (.inl x2), o3, o4, o5] [] w := hGo 0 _ _ rfl _ _ _ h
theorem q_MO_orbit_16 {t_0 t_1 t_2 t_3 : ma_T} {post : ma_P} {Go : ma_G} {w : ma_W} {x1 : Int32} {x2 : Int32} {o3 : Option ma_V} {o4 : Option ma_V} {o5 : Option ma_V} (hGo : ma_cl k_MO_orbit zf_MO (e_MO_orbit t_0 t_1 t_2 t_3) none 1 s_MO_orbit post Go)
    (h : post (Int32.ofInt (-1)) w) :
    Go 16 [some (.inr 24), some (.inl x1), some (.inl x2), o3, o4, o5] [] w := hGo 1 _ _ rfl _ _ _ h
theorem q_MO_orbit_18 {t_0 t_1 t_2 t_3 : ma_T} {post : ma_P} {Go : ma_G} {w : ma_W} {x1 : Int32} {x2 : Int32} {o3 : Option ma_V} {o4 : Option ma_V} {o5 : Option ma_V} (hGo : ma_cl k_MO_orbit zf_MO (e_MO_orbit t_0 t_1 t_2 t_3) none 1 s_MO_orbit post Go)
    (h : t_2 [.inr 24, .inl x1] w (fun _ w1 => Go 28 [some (.inr 24), some (.inl x1), some (.inl x2), some (.inl x2), some (.inl (nI 0)), o5] [] w1)) :
    Go 18 [some (.inr 24), some (.inl x1), some (.inl x2), o3, o4, o5] [] w := hGo 2 _ _ rfl _ _ _ h
set_option maxRecDepth 20000 in
theorem q_MO_orbit_28 {t_0 t_1 t_2 t_3 : ma_T} {post : ma_P} {Go : ma_G} {w : ma_W} {x1 : Int32} {x2 : Int32} {x3 : Int32} {x4 : Int32} {o5 : Option ma_V} (hGo : ma_cl k_MO_orbit zf_MO (e_MO_orbit t_0 t_1 t_2 t_3) none 1 s_MO_orbit post Go)
    (h : ((w.1 24 7) ≤ x4 → Go 80 [some (.inr 24), some (.inl x1), some (.inl x2), some (.inl x3), some (.inl x4), o5] [] w) ∧ (¬ ((w.1 24 7) ≤ x4) → ∃ j1 : Nat, j1 < 4320 ∧ (((nI 6) * x4) + x2) = nI j1 ∧ ((x3 ≤ (w.2.2 26 j1) → Go 72 [some (.inr 24), some (.inl x1), some (.inl x2), some (.inl x3), some (.inl x4), some (.inl (w.2.2 26 j1))] [] w) ∧ (¬ (x3 ≤ (w.2.2 26 j1)) → t_3 [.inr 24, .inl x4, .inl (nI 0)] w (fun z2 w2 => (¬ z2 = (nI 0) → Go 72 [some (.inr 24), some (.inl x1), some (.inl x2), some (.inl x3), some (.inl x4), some (.inl (w.2.2 26 j1))] [] w2) ∧ (¬ (¬ z2 = (nI 0)) → Go 73 [some (.inr 24), some (.inl x1), some (.inl x2), some (.inl x3), some (.inl x4), some (.inl (w.2.2 26 j1))] [.inl (w.2.2 26 j1)] w2)))))) :
    Go 28 [some (.inr 24), some (.inl x1), some (.inl x2), some (.inl x3), some (.inl x4), o5] [] w := hGo 3 _ _ rfl _ _ _ h
theorem q_MO_orbit_72 {t_0 t_1 t_2 t_3 : ma_T} {post : ma_P} {Go : ma_G} {w : ma_W} {x1 : Int32} {x2 : Int32} {x3 : Int32} {x4 : Int32} {x5 : Int32} (hGo : ma_cl k_MO_orbit zf_MO (e_MO_orbit t_0 t_1 t_2 t_3) none 1 s_MO_orbit post Go)
    (h : Go 73 [some (.inr 24), some (.inl x1), some (.inl x2), some (.inl x3), some (.inl x4), some (.inl x5)] [.inl x3] w) :
    Go 72 [some (.inr 24), some (.inl x1), some (.inl x2), some (.inl x3), some (.inl x4), some (.inl x5)] [] w := hGo 4 _ _ rfl _ _ _ h
theorem q_MO_orbit_73 {t_0 t_1 t_2 t_3 : ma_T} {post : ma_P} {Go : ma_G} {w : ma_W} {x1 : Int32} {x2 : Int32} {x3 : Int32} {x4 : Int32} {x5 : Int32} {y0 : Int32} (hGo : ma_cl k_MO_orbit zf_MO (e_MO_orbit t_0 t_1 t_2 t_3) none 1 s_MO_orbit post Go)
    (h : Go 28 [some (.inr 24), some (.inl x1), some (.inl x2), some (.inl y0), some (.inl (x4 + nI 1)), some (.inl x5)] [] w) :
    Go 73 [some (.inr 24), some (.inl x1), some (.inl x2), some (.inl x3), some (.inl x4), some (.inl x5)] [.inl y0] w := hGo 5 _ _ rfl _ _ _ h
theorem q_MO_orbit_80 {t_0 t_1 t_2 t_3 : ma_T} {post : ma_P} {Go : ma_G} {w : ma_W} {x1 : Int32} {x2 : Int32} {x3 : Int32} {x4 : Int32} {o5 : Option ma_V} (hGo : ma_cl k_MO_orbit zf_MO (e_MO_orbit t_0 t_1 t_2 t_3) none 1 s_MO_orbit post Go)
    (h : post x3 w) :
    Go 80 [some (.inr 24), some (.inl x1), some (.inl x2), some (.inl x3), some (.inl x4), o5] [] w := hGo 6 _ _ rfl _ _ _ h
theorem q_MO_put_0 {t_0 : ma_T} {post : ma_P} {Go : ma_G} {w : ma_W} {x1 : Int32} (hGo : ma_cl k_MO_put zf_MO (e_MO_put t_0) none 1 s_MO_put post Go)
    (h : t_0 [.inr 24, .inl x1] w (fun z1 w1 => (¬ z1 = (nI 0) → Go 11 [some (.inr 24), some (.inl x1)] [] w1) ∧ (¬ (¬ z1 = (nI 0)) → post (Int32.ofInt (-2)) w1))) :
    Go 0 [some (.inr 24), some (.inl x1)] [] w := hGo 0 _ _ rfl _ _ _ h
theorem q_MO_put_11 {t_0 : ma_T} {post : ma_P} {Go : ma_G} {w : ma_W} {x1 : Int32} (hGo : ma_cl k_MO_put zf_MO (e_MO_put t_0) none 1 s_MO_put post Go)
    (h : (¬ (w.1 24 13) = (nI 10) → Go 23 [some (.inr 24), some (.inl x1)] [] w) ∧ (¬ (¬ (w.1 24 13) = (nI 10)) → post (Int32.ofInt (-5)) w)) :
    Go 11 [some (.inr 24), some (.inl x1)] [] w := hGo 1 _ _ rfl _ _ _ h
theorem q_MO_put_23 {t_0 : ma_T} {post : ma_P} {Go : ma_G} {w : ma_W} {x1 : Int32} (hGo : ma_cl k_MO_put zf_MO (e_MO_put t_0) none 1 s_MO_put post Go)
    (h : ∃ j1 : Nat, j1 < 10 ∧ (w.1 24 13) = nI j1 ∧ (post ((w.1 24 13) + (nI 1)) (ma_up w.1 24 13 ((w.1 24 13) + (nI 1)), w.2.1, ma_up w.2.2 29 j1 x1))) :
    Go 23 [some (.inr 24), some (.inl x1)] [] w := hGo 2 _ _ rfl _ _ _ h
theorem q_MO_drop_0 {post : ma_P} {Go : ma_G} {w : ma_W} {x1 : Int32} {o2 : Option ma_V} (hGo : ma_cl k_MO_drop zf_MO e_MO_drop none 2 s_MO_drop post Go)
    (h : (x1 < (nI 0) → Go 12 [some (.inr 24), some (.inl x1), o2] [] w) ∧ (¬ (x1 < (nI 0)) → (x1 < (w.1 24 13) → Go 14 [some (.inr 24), some (.inl x1), o2] [] w) ∧ (¬ (x1 < (w.1 24 13)) → Go 12 [some (.inr 24), some (.inl x1), o2] [] w))) :
    Go 0 [some (.inr 24), some (.inl x1), o2] [] w := hGo 0 _ _ rfl _ _ _ h
theorem q_MO_drop_12 {post : ma_P} {Go : ma_G} {w : ma_W} {x1 : Int32} {o2 : Option ma_V} (hGo : ma_cl k_MO_drop zf_MO e_MO_drop none 2 s_MO_drop post Go)
    (h : ((nI 0) = 0 ∨ (nI 0) = 1) ∧ post (nI 0) w) :
    Go 12 [some (.inr 24), some (.inl x1), o2] [] w := hGo 1 _ _ rfl _ _ _ h
theorem q_MO_drop_14 {post : ma_P} {Go : ma_G} {w : ma_W} {x1 : Int32} {o2 : Option ma_V} (hGo : ma_cl k_MO_drop zf_MO e_MO_drop none 2 s_MO_drop post Go)
    (h : Go 26 [some (.inr 24), some (.inl x1), some (.inl x1)] [] (ma_up w.1 24 13 ((w.1 24 13) - (nI 1)), w.2.1, w.2.2)) :
    Go 14 [some (.inr 24), some (.inl x1), o2] [] w := hGo 2 _ _ rfl _ _ _ h
theorem q_MO_drop_26 {post : ma_P} {Go : ma_G} {w : ma_W} {x1 : Int32} {x2 : Int32} (hGo : ma_cl k_MO_drop zf_MO e_MO_drop none 2 s_MO_drop post Go)
    (h : ((w.1 24 13) ≤ x2 → Go 54 [some (.inr 24), some (.inl x1), some (.inl x2)] [] w) ∧ (¬ ((w.1 24 13) ≤ x2) → ∃ j1 : Nat, j1 < 10 ∧ (x2 + (nI 1)) = nI j1 ∧ (∃ j2 : Nat, j2 < 10 ∧ x2 = nI j2 ∧ (Go 26 [some (.inr 24), some (.inl x1), some (.inl (x2 + nI 1))] [] (w.1, w.2.1, ma_up w.2.2 29 j2 (w.2.2 29 j1)))))) :
    Go 26 [some (.inr 24), some (.inl x1), some (.inl x2)] [] w := hGo 3 _ _ rfl _ _ _ h
theorem q_MO_drop_54 {post : ma_P} {Go : ma_G} {w : ma_W} {x1 : Int32} {x2 : Int32} (hGo : ma_cl k_MO_drop zf_MO e_MO_drop none 2 s_MO_drop post Go)
    (h : ((nI 1) = 0 ∨ (nI 1) = 1) ∧ post (nI 1) w) :
    Go 54 [some (.inr 24), some (.inl x1), some (.inl x2)] [] w := hGo 4 _ _ rfl _ _ _ h
theorem q_MO_swap_0 {t_0 : ma_T} {post : ma_P} {Go : ma_G} {w : ma_W} {x1 : Int32} {x2 : Int32} {o3 : Option ma_V} {o4 : Option ma_V} {o5 : Option ma_V} {o6 : Option ma_V} (hGo : ma_cl k_MO_swap zf_MO (e_MO_swap t_0) none 2 s_MO_swap post Go)
    (h : t_0 [.inr 24, .inl x1] w (fun z1 w1 => (z1 = (nI 0) → Go 16 [some (.inr 24), some (.inl x1), some (.inl x2), o3, o4, o5, o6] [] w1) ∧ (¬ (z1 = (nI 0)) → t_0 [.inr 24, .inl x2] w1 (fun z2 w2 => (¬ z2 = (nI 0) → Go 18 [some (.inr 24), some (.inl x1), some (.inl x2), o3, o4, o5, o6] [] w2) ∧ (¬ (¬ z2 = (nI 0)) → Go 16 [some (.inr 24), some (.inl x1), some (.inl x2), o3, o4, o5, o6] [] w2))))) :
    Go 0 [some (.inr 24), some (.inl x1), some (.inl x2), o3, o4, o5, o6] [] w := hGo 0 _ _ rfl _ _ _ h
theorem q_MO_swap_16 {t_0 : ma_T} {post : ma_P} {Go : ma_G} {w : ma_W} {x1 : Int32} {x2 : Int32} {o3 : Option ma_V} {o4 : Option ma_V} {o5 : Option ma_V} {o6 : Option ma_V} (hGo : ma_cl k_MO_swap zf_MO (e_MO_swap t_0) none 2 s_MO_swap post Go)
    (h : ((nI 0) = 0 ∨ (nI 0) = 1) ∧ post (nI 0) w) :
    Go 16 [some (.inr 24), some (.inl x1), some (.inl x2), o3, o4, o5, o6] [] w := hGo 1 _ _ rfl _ _ _ h
theorem q_MO_swap_18 {t_0 : ma_T} {post : ma_P} {Go : ma_G} {w : ma_W} {x1 : Int32} {x2 : Int32} {o3 : Option ma_V} {o4 : Option ma_V} {o5 : Option ma_V} {o6 : Option ma_V} (hGo : ma_cl k_MO_swap zf_MO (e_MO_swap t_0) none 2 s_MO_swap post Go)
    (h : Go 20 [some (.inr 24), some (.inl x1), some (.inl x2), some (.inl (nI 0)), o4, o5, o6] [] w) :
    Go 18 [some (.inr 24), some (.inl x1), some (.inl x2), o3, o4, o5, o6] [] w := hGo 2 _ _ rfl _ _ _ h
set_option maxRecDepth 20000 in
theorem q_MO_swap_20 {t_0 : ma_T} {post : ma_P} {Go : ma_G} {w : ma_W} {x1 : Int32} {x2 : Int32} {x3 : Int32} {o4 : Option ma_V} {o5 : Option ma_V} {o6 : Option ma_V} (hGo : ma_cl k_MO_swap zf_MO (e_MO_swap t_0) none 2 s_MO_swap post Go)
    (h : ((w.1 24 13) ≤ x3 → Go 96 [some (.inr 24), some (.inl x1), some (.inl x2), some (.inl x3), o4, o5, o6] [] w) ∧ (¬ ((w.1 24 13) ≤ x3) → ∃ j1 : Nat, j1 < 10 ∧ x3 = nI j1 ∧ (∃ j2 : Nat, j2 < 10 ∧ x3 = nI j2 ∧ (∃ j3 : Nat, j3 < 10 ∧ x3 = nI j3 ∧ (∃ j4 : Nat, j4 < 10 ∧ x3 = nI j4 ∧ (Go 20 [some (.inr 24), some (.inl x1), some (.inl x2), some (.inl (x3 + nI 1)), some (.inl (((w.2.2 29 j1) >>> (x1 &&& 31)) &&& (nI 1))), some (.inl (((w.2.2 29 j2) >>> (x2 &&& 31)) &&& (nI 1))), some (.inl (((w.2.2 29 j3) &&& (((nI 1) <<< (x1 &&& 31)) ^^^ (Int32.ofInt (-1)))) &&& (((nI 1) <<< (x2 &&& 31)) ^^^ (Int32.ofInt (-1)))))] [] (w.1, w.2.1, ma_up w.2.2 29 j4 (((((w.2.2 29 j3) &&& (((nI 1) <<< (x1 &&& 31)) ^^^ (Int32.ofInt (-1)))) &&& (((nI 1) <<< (x2 &&& 31)) ^^^ (Int32.ofInt (-1)))) ||| ((((w.2.2 29 j1) >>> (x1 &&& 31)) &&& (nI 1)) <<< (x2 &&& 31))) ||| ((((w.2.2 29 j2) >>> (x2 &&& 31)) &&& (nI 1)) <<< (x1 &&& 31)))))))))) :
    Go 20 [some (.inr 24), some (.inl x1), some (.inl x2), some (.inl x3), o4, o5, o6] [] w := hGo 3 _ _ rfl _ _ _ h
theorem q_MO_swap_96 {t_0 : ma_T} {post : ma_P} {Go : ma_G} {w : ma_W} {x1 : Int32} {x2 : Int32} {x3 : Int32} {o4 : Option ma_V} {o5 : Option ma_V} {o6 : Option ma_V} (hGo : ma_cl k_MO_swap zf_MO (e_MO_swap t_0) none 2 s_MO_swap post Go)
    (h : ((nI 1) = 0 ∨ (nI 1) = 1) ∧ post (nI 1) w) :
    Go 96 [some (.inr 24), some (.inl x1), some (.inl x2), some (.inl x3), o4, o5, o6] [] w := hGo 4 _ _ rfl _ _ _ h
theorem q_MO_copy_0 {t_0 : ma_T} {post : ma_P} {Go : ma_G} {w : ma_W} {x1 : Int32} {o2 : Option ma_V} (hGo : ma_cl k_MO_copy zf_MO (e_MO_copy t_0) none 2 s_MO_copy post Go)
    (h : t_0 [.inr 24, .inl x1] w (fun z1 w1 => (¬ z1 = (nI 0) → Go 10 [some (.inr 24), some (.inl x1), o2] [] w1) ∧ (¬ (¬ z1 = (nI 0)) → ((nI 0) = 0 ∨ (nI 0) = 1) ∧ post (nI 0) w1))) :
    Go 0 [some (.inr 24), some (.inl x1), o2] [] w := hGo 0 _ _ rfl _ _ _ h
theorem q_MO_copy_10 {t_0 : ma_T} {post : ma_P} {Go : ma_G} {w : ma_W} {x1 : Int32} {o2 : Option ma_V} (hGo : ma_cl k_MO_copy zf_MO (e_MO_copy t_0) none 2 s_MO_copy post Go)
    (h : Go 20 [some (.inr 24), some (.inl x1), some (.inl (nI 0))] [] (ma_up w.1 24 13 (w.1 24 4), w.2.1, w.2.2)) :
    Go 10 [some (.inr 24), some (.inl x1), o2] [] w := hGo 1 _ _ rfl _ _ _ h
theorem q_MO_copy_20 {t_0 : ma_T} {post : ma_P} {Go : ma_G} {w : ma_W} {x1 : Int32} {x2 : Int32} (hGo : ma_cl k_MO_copy zf_MO (e_MO_copy t_0) none 2 s_MO_copy post Go)
    (h : ((w.1 24 13) ≤ x2 → Go 51 [some (.inr 24), some (.inl x1), some (.inl x2)] [] w) ∧ (¬ ((w.1 24 13) ≤ x2) → ∃ j1 : Nat, j1 < 600 ∧ (((nI 10) * x1) + x2) = nI j1 ∧ (∃ j2 : Nat, j2 < 10 ∧ x2 = nI j2 ∧ (Go 20 [some (.inr 24), some (.inl x1), some (.inl (x2 + nI 1))] [] (w.1, w.2.1, ma_up w.2.2 29 j2 (w.2.2 27 j1)))))) :
    Go 20 [some (.inr 24), some (.inl x1), some (.inl x2)] [] w := hGo 2 _ _ rfl _ _ _ h
theorem q_MO_copy_51 {t_0 : ma_T} {post : ma_P} {Go : ma_G} {w : ma_W} {x1 : Int32} {x2 : Int32} (hGo : ma_cl k_MO_copy zf_MO (e_MO_copy t_0) none 2 s_MO_copy post Go)
    (h : ((nI 1) = 0 ∨ (nI 1) = 1) ∧ post (nI 1) w) :
    Go 51 [some (.inr 24), some (.inl x1), some (.inl x2)] [] w := hGo 3 _ _ rfl _ _ _ h
theorem q_MO_hand_0 {post : ma_P} {Go : ma_G} {w : ma_W} {x1 : Int32} (hGo : ma_cl k_MO_hand zf_MO e_MO_hand none 1 s_MO_hand post Go)
    (h : (x1 < (nI 0) → Go 21 [some (.inr 24), some (.inl x1)] [] w) ∧ (¬ (x1 < (nI 0)) → ((w.1 24 13) ≤ x1 → Go 21 [some (.inr 24), some (.inl x1)] [] w) ∧ (¬ ((w.1 24 13) ≤ x1) → ∃ j1 : Nat, j1 < 10 ∧ x1 = nI j1 ∧ (Go 22 [some (.inr 24), some (.inl x1)] [.inl (w.2.2 29 j1)] w)))) :
    Go 0 [some (.inr 24), some (.inl x1)] [] w := hGo 0 _ _ rfl _ _ _ h
theorem q_MO_hand_21 {post : ma_P} {Go : ma_G} {w : ma_W} {x1 : Int32} (hGo : ma_cl k_MO_hand zf_MO e_MO_hand none 1 s_MO_hand post Go)
    (h : Go 22 [some (.inr 24), some (.inl x1)] [.inl (Int32.ofInt (-1))] w) :
    Go 21 [some (.inr 24), some (.inl x1)] [] w := hGo 1 _ _ rfl _ _ _ h
theorem q_MO_hand_22 {post : ma_P} {Go : ma_G} {w : ma_W} {x1 : Int32} {y0 : Int32} (hGo : ma_cl k_MO_hand zf_MO e_MO_hand none 1 s_MO_hand post Go)
    (h : post y0 w) :
    Go 22 [some (.inr 24), some (.inl x1)] [.inl y0] w := hGo 2 _ _ rfl _ _ _ h
theorem q_MO_rowed_0 {t_0 : ma_T} {post : ma_P} {Go : ma_G} {w : ma_W} {x1 : Int32} {x2 : Int32} {o3 : Option ma_V} {o4 : Option ma_V} (hGo : ma_cl k_MO_rowed zf_MO (e_MO_rowed t_0) none 1 s_MO_rowed post Go)
    (h : Go 5 [some (.inr 24), some (.inl x1), some (.inl x2), some (.inl x2), some (.inl (nI 0))] [] w) :
    Go 0 [some (.inr 24), some (.inl x1), some (.inl x2), o3, o4] [] w := hGo 0 _ _ rfl _ _ _ h
theorem q_MO_rowed_5 {t_0 : ma_T} {post : ma_P} {Go : ma_G} {w : ma_W} {x1 : Int32} {x2 : Int32} {x3 : Int32} {x4 : Int32} (hGo : ma_cl k_MO_rowed zf_MO (e_MO_rowed t_0) none 1 s_MO_rowed post Go)
    (h : ((w.1 24 5) ≤ x4 → Go 52 [some (.inr 24), some (.inl x1), some (.inl x2), some (.inl x3), some (.inl x4)] [] w) ∧ (¬ ((w.1 24 5) ≤ x4) → ∃ j1 : Nat, j1 < 20 ∧ x4 = nI j1 ∧ (t_0 [.inr 24, .inl (w.2.2 25 j1), .inl x1] w (fun z2 w2 => ∃ j3 : Nat, j3 < 64 ∧ z2 = nI j3 ∧ (((nI 0) ≤ (x3 - (w2.2.2 30 j3)) → Go 46 [some (.inr 24), some (.inl x1), some (.inl x2), some (.inl (x3 - (w2.2.2 30 j3))), some (.inl x4)] [] w2) ∧ (¬ ((nI 0) ≤ (x3 - (w2.2.2 30 j3))) → ∃ j4 : Nat, j4 < 20 ∧ x4 = nI j4 ∧ (post (w2.2.2 25 j4) w2))))))) :
    Go 5 [some (.inr 24), some (.inl x1), some (.inl x2), some (.inl x3), some (.inl x4)] [] w := hGo 1 _ _ rfl _ _ _ h
theorem q_MO_rowed_46 {t_0 : ma_T} {post : ma_P} {Go : ma_G} {w : ma_W} {x1 : Int32} {x2 : Int32} {x3 : Int32} {x4 : Int32} (hGo : ma_cl k_MO_rowed zf_MO (e_MO_rowed t_0) none 1 s_MO_rowed post Go)
    (h : Go 5 [some (.inr 24), some (.inl x1), some (.inl x2), some (.inl x3), some (.inl (x4 + nI 1))] [] w) :
    Go 46 [some (.inr 24), some (.inl x1), some (.inl x2), some (.inl x3), some (.inl x4)] [] w := hGo 2 _ _ rfl _ _ _ h
theorem q_MO_rowed_52 {t_0 : ma_T} {post : ma_P} {Go : ma_G} {w : ma_W} {x1 : Int32} {x2 : Int32} {x3 : Int32} {x4 : Int32} (hGo : ma_cl k_MO_rowed zf_MO (e_MO_rowed t_0) none 1 s_MO_rowed post Go)
    (h : post (Int32.ofInt (-1)) w) :
    Go 52 [some (.inr 24), some (.inl x1), some (.inl x2), some (.inl x3), some (.inl x4)] [] w := hGo 3 _ _ rfl _ _ _ h
theorem q_MO_formed_0 {t_0 t_1 t_2 : ma_T} {post : ma_P} {Go : ma_G} {w : ma_W} {x1 : Int32} {o2 : Option ma_V} (hGo : ma_cl k_MO_formed zf_MO (e_MO_formed t_0 t_1 t_2) none 1 s_MO_formed post Go)
    (h : (x1 < (nI 0) → Go 12 [some (.inr 24), some (.inl x1), o2] [] w) ∧ (¬ (x1 < (nI 0)) → (x1 < (w.1 24 13) → Go 14 [some (.inr 24), some (.inl x1), o2] [] w) ∧ (¬ (x1 < (w.1 24 13)) → Go 12 [some (.inr 24), some (.inl x1), o2] [] w))) :
    Go 0 [some (.inr 24), some (.inl x1), o2] [] w := hGo 0 _ _ rfl _ _ _ h
theorem q_MO_formed_12 {t_0 t_1 t_2 : ma_T} {post : ma_P} {Go : ma_G} {w : ma_W} {x1 : Int32} {o2 : Option ma_V} (hGo : ma_cl k_MO_formed zf_MO (e_MO_formed t_0 t_1 t_2) none 1 s_MO_formed post Go)
    (h : post (Int32.ofInt (-1)) w) :
    Go 12 [some (.inr 24), some (.inl x1), o2] [] w := hGo 1 _ _ rfl _ _ _ h
theorem q_MO_formed_14 {t_0 t_1 t_2 : ma_T} {post : ma_P} {Go : ma_G} {w : ma_W} {x1 : Int32} {o2 : Option ma_V} (hGo : ma_cl k_MO_formed zf_MO (e_MO_formed t_0 t_1 t_2) none 1 s_MO_formed post Go)
    (h : t_0 [.inr 24] w (fun _ w1 => t_1 [.inr 24] w1 (fun z2 w2 => t_2 [.inr 24, .inl z2, .inl x1] w2 (fun z3 w3 => post z3 w3)))) :
    Go 14 [some (.inr 24), some (.inl x1), o2] [] w := hGo 2 _ _ rfl _ _ _ h
theorem q_MO_symmetries_0 {t_0 t_1 : ma_T} {post : ma_P} {Go : ma_G} {w : ma_W} (hGo : ma_cl k_MO_symmetries zf_MO (e_MO_symmetries t_0 t_1) none 1 s_MO_symmetries post Go)
    (h : (¬ (w.1 24 0) = (nI 0) → Go 9 [some (.inr 24)] [] w) ∧ (¬ (¬ (w.1 24 0) = (nI 0)) → post (Int32.ofInt (-1)) w)) :
    Go 0 [some (.inr 24)] [] w := hGo 0 _ _ rfl _ _ _ h
theorem q_MO_symmetries_9 {t_0 t_1 : ma_T} {post : ma_P} {Go : ma_G} {w : ma_W} (hGo : ma_cl k_MO_symmetries zf_MO (e_MO_symmetries t_0 t_1) none 1 s_MO_symmetries post Go)
    (h : t_0 [.inr 24] w (fun _ w1 => t_1 [.inr 24] w1 (fun z2 w2 => post z2 w2))) :
    Go 9 [some (.inr 24)] [] w := hGo 1 _ _ rfl _ _ _ h
theorem q_MO_find_0 {t_0 t_1 t_2 : ma_T} {post : ma_P} {Go : ma_G} {w : ma_W} {o1 : Option ma_V} {o2 : Option ma_V} {o3 : Option ma_V} {o4 : Option ma_V} (hGo : ma_cl k_MO_find zf_MO (e_MO_find t_0 t_1 t_2) none 1 s_MO_find post Go)
    (h : ((w.1 24 0) = (nI 0) → Go 18 [some (.inr 24), o1, o2, o3, o4] [] w) ∧ (¬ ((w.1 24 0) = (nI 0)) → ((w.1 24 13) = (w.1 24 4) → Go 20 [some (.inr 24), o1, o2, o3, o4] [] w) ∧ (¬ ((w.1 24 13) = (w.1 24 4)) → Go 18 [some (.inr 24), o1, o2, o3, o4] [] w))) :
    Go 0 [some (.inr 24), o1, o2, o3, o4] [] w := hGo 0 _ _ rfl _ _ _ h
theorem q_MO_find_18 {t_0 t_1 t_2 : ma_T} {post : ma_P} {Go : ma_G} {w : ma_W} {o1 : Option ma_V} {o2 : Option ma_V} {o3 : Option ma_V} {o4 : Option ma_V} (hGo : ma_cl k_MO_find zf_MO (e_MO_find t_0 t_1 t_2) none 1 s_MO_find post Go)
    (h : post (Int32.ofInt (-1)) w) :
    Go 18 [some (.inr 24), o1, o2, o3, o4] [] w := hGo 1 _ _ rfl _ _ _ h
theorem q_MO_find_20 {t_0 t_1 t_2 : ma_T} {post : ma_P} {Go : ma_G} {w : ma_W} {o1 : Option ma_V} {o2 : Option ma_V} {o3 : Option ma_V} {o4 : Option ma_V} (hGo : ma_cl k_MO_find zf_MO (e_MO_find t_0 t_1 t_2) none 1 s_MO_find post Go)
    (h : t_0 [.inr 24] w (fun _ w1 => t_1 [.inr 24] w1 (fun z2 w2 => Go 31 [some (.inr 24), some (.inl z2), some (.inl (nI 0)), o3, o4] [] w2))) :
    Go 20 [some (.inr 24), o1, o2, o3, o4] [] w := hGo 2 _ _ rfl _ _ _ h
theorem q_MO_find_31 {t_0 t_1 t_2 : ma_T} {post : ma_P} {Go : ma_G} {w : ma_W} {x1 : Int32} {x2 : Int32} {o3 : Option ma_V} {o4 : Option ma_V} (hGo : ma_cl k_MO_find zf_MO (e_MO_find t_0 t_1 t_2) none 1 s_MO_find post Go)
    (h : ((w.1 24 9) ≤ x2 → Go 103 [some (.inr 24), some (.inl x1), some (.inl x2), o3, o4] [] w) ∧ (¬ ((w.1 24 9) ≤ x2) → Go 44 [some (.inr 24), some (.inl x1), some (.inl x2), some (.inl (nI 1)), some (.inl (nI 0))] [] w)) :
    Go 31 [some (.inr 24), some (.inl x1), some (.inl x2), o3, o4] [] w := hGo 3 _ _ rfl _ _ _ h
theorem q_MO_find_44 {t_0 t_1 t_2 : ma_T} {post : ma_P} {Go : ma_G} {w : ma_W} {x1 : Int32} {x2 : Int32} {x3 : Int32} {x4 : Int32} (hGo : ma_cl k_MO_find zf_MO (e_MO_find t_0 t_1 t_2) none 1 s_MO_find post Go)
    (h : ((w.1 24 4) ≤ x4 → Go 91 [some (.inr 24), some (.inl x1), some (.inl x2), some (.inl x3), some (.inl x4)] [] w) ∧ (¬ ((w.1 24 4) ≤ x4) → (x3 = (nI 0) → Go 91 [some (.inr 24), some (.inl x1), some (.inl x2), some (.inl x3), some (.inl x4)] [] w) ∧ (¬ (x3 = (nI 0)) → ∃ j1 : Nat, j1 < 600 ∧ (((nI 10) * x2) + x4) = nI j1 ∧ (t_2 [.inr 24, .inl x1, .inl x4] w (fun z2 w2 => (¬ (w.2.2 27 j1) = z2 → Go 83 [some (.inr 24), some (.inl x1), some (.inl x2), some (.inl x3), some (.inl x4)] [] w2) ∧ (¬ (¬ (w.2.2 27 j1) = z2) → Go 84 [some (.inr 24), some (.inl x1), some (.inl x2), some (.inl x3), some (.inl x4)] [.inl (nI 1)] w2)))))) :
    Go 44 [some (.inr 24), some (.inl x1), some (.inl x2), some (.inl x3), some (.inl x4)] [] w := hGo 4 _ _ rfl _ _ _ h
theorem q_MO_find_83 {t_0 t_1 t_2 : ma_T} {post : ma_P} {Go : ma_G} {w : ma_W} {x1 : Int32} {x2 : Int32} {x3 : Int32} {x4 : Int32} (hGo : ma_cl k_MO_find zf_MO (e_MO_find t_0 t_1 t_2) none 1 s_MO_find post Go)
    (h : Go 84 [some (.inr 24), some (.inl x1), some (.inl x2), some (.inl x3), some (.inl x4)] [.inl (nI 0)] w) :
    Go 83 [some (.inr 24), some (.inl x1), some (.inl x2), some (.inl x3), some (.inl x4)] [] w := hGo 5 _ _ rfl _ _ _ h
theorem q_MO_find_84 {t_0 t_1 t_2 : ma_T} {post : ma_P} {Go : ma_G} {w : ma_W} {x1 : Int32} {x2 : Int32} {x3 : Int32} {x4 : Int32} {y0 : Int32} (hGo : ma_cl k_MO_find zf_MO (e_MO_find t_0 t_1 t_2) none 1 s_MO_find post Go)
    (h : Go 44 [some (.inr 24), some (.inl x1), some (.inl x2), some (.inl y0), some (.inl (x4 + nI 1))] [] w) :
    Go 84 [some (.inr 24), some (.inl x1), some (.inl x2), some (.inl x3), some (.inl x4)] [.inl y0] w := hGo 6 _ _ rfl _ _ _ h
theorem q_MO_find_91 {t_0 t_1 t_2 : ma_T} {post : ma_P} {Go : ma_G} {w : ma_W} {x1 : Int32} {x2 : Int32} {x3 : Int32} {x4 : Int32} (hGo : ma_cl k_MO_find zf_MO (e_MO_find t_0 t_1 t_2) none 1 s_MO_find post Go)
    (h : (x3 = (nI 0) → Go 97 [some (.inr 24), some (.inl x1), some (.inl x2), some (.inl x3), some (.inl x4)] [] w) ∧ (¬ (x3 = (nI 0)) → post x2 w)) :
    Go 91 [some (.inr 24), some (.inl x1), some (.inl x2), some (.inl x3), some (.inl x4)] [] w := hGo 7 _ _ rfl _ _ _ h
theorem q_MO_find_97 {t_0 t_1 t_2 : ma_T} {post : ma_P} {Go : ma_G} {w : ma_W} {x1 : Int32} {x2 : Int32} {x3 : Int32} {x4 : Int32} (hGo : ma_cl k_MO_find zf_MO (e_MO_find t_0 t_1 t_2) none 1 s_MO_find post Go)
    (h : Go 31 [some (.inr 24), some (.inl x1), some (.inl (x2 + nI 1)), some (.inl x3), some (.inl x4)] [] w) :
    Go 97 [some (.inr 24), some (.inl x1), some (.inl x2), some (.inl x3), some (.inl x4)] [] w := hGo 8 _ _ rfl _ _ _ h
theorem q_MO_find_103 {t_0 t_1 t_2 : ma_T} {post : ma_P} {Go : ma_G} {w : ma_W} {x1 : Int32} {x2 : Int32} {o3 : Option ma_V} {o4 : Option ma_V} (hGo : ma_cl k_MO_find zf_MO (e_MO_find t_0 t_1 t_2) none 1 s_MO_find post Go)
    (h : post (Int32.ofInt (-1)) w) :
    Go 103 [some (.inr 24), some (.inl x1), some (.inl x2), o3, o4] [] w := hGo 9 _ _ rfl _ _ _ h
