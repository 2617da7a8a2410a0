/-! RUNS OF INSTRUCTIONS, by program (wip/whole/qgen.py): what each comes to -/
theorem q_PC_begin_0 {t_0 t_1 t_2 t_3 t_4 t_5 : ma_T} {post : ma_P} {Go : ma_G} {w : ma_W} {x1 : Int32} {x2 : Int32} {x3 : Int32} (hGo : ma_cl k_PC_begin zf_PC (e_PC_begin t_0 t_1 t_2 t_3 t_4 t_5) none 1 s_PC_begin post Go)
    (h : (x1 < (nI 3) → Go 11 [some (.inr 0), some (.inl x1), some (.inl x2), some (.inl x3)] [] w) ∧ (¬ (x1 < (nI 3)) → (x1 ≤ (nI 6) → Go 14 [some (.inr 0), some (.inl x1), some (.inl x2), some (.inl x3)] [] w) ∧ (¬ (x1 ≤ (nI 6)) → Go 11 [some (.inr 0), some (.inl x1), some (.inl x2), some (.inl x3)] [] w))) :
    Go 0 [some (.inr 0), some (.inl x1), some (.inl x2), some (.inl x3)] [] w := hGo 0 _ _ rfl _ _ _ h
theorem q_PC_begin_11 {t_0 t_1 t_2 t_3 t_4 t_5 : ma_T} {post : ma_P} {Go : ma_G} {w : ma_W} {x1 : Int32} {x2 : Int32} {x3 : Int32} (hGo : ma_cl k_PC_begin zf_PC (e_PC_begin t_0 t_1 t_2 t_3 t_4 t_5) none 1 s_PC_begin post Go)
    (h : post (Int32.ofInt (-2)) w) :
    Go 11 [some (.inr 0), some (.inl x1), some (.inl x2), some (.inl x3)] [] w := hGo 1 _ _ rfl _ _ _ h
theorem q_PC_begin_14 {t_0 t_1 t_2 t_3 t_4 t_5 : ma_T} {post : ma_P} {Go : ma_G} {w : ma_W} {x1 : Int32} {x2 : Int32} {x3 : Int32} (hGo : ma_cl k_PC_begin zf_PC (e_PC_begin t_0 t_1 t_2 t_3 t_4 t_5) none 1 s_PC_begin post Go)
    (h : (x2 < (nI 2) → Go 36 [some (.inr 0), some (.inl x1), some (.inl x2), some (.inl x3)] [] w) ∧ (¬ (x2 < (nI 2)) → ((x1 - (nI 1)) < x2 → Go 36 [some (.inr 0), some (.inl x1), some (.inl x2), some (.inl x3)] [] w) ∧ (¬ ((x1 - (nI 1)) < x2) → (x3 < (nI 1) → Go 36 [some (.inr 0), some (.inl x1), some (.inl x2), some (.inl x3)] [] w) ∧ (¬ (x3 < (nI 1)) → (x3 ≤ (nI 4) → Go 39 [some (.inr 0), some (.inl x1), some (.inl x2), some (.inl x3)] [] w) ∧ (¬ (x3 ≤ (nI 4)) → Go 36 [some (.inr 0), some (.inl x1), some (.inl x2), some (.inl x3)] [] w))))) :
    Go 14 [some (.inr 0), some (.inl x1), some (.inl x2), some (.inl x3)] [] w := hGo 2 _ _ rfl _ _ _ h
theorem q_PC_begin_36 {t_0 t_1 t_2 t_3 t_4 t_5 : ma_T} {post : ma_P} {Go : ma_G} {w : ma_W} {x1 : Int32} {x2 : Int32} {x3 : Int32} (hGo : ma_cl k_PC_begin zf_PC (e_PC_begin t_0 t_1 t_2 t_3 t_4 t_5) none 1 s_PC_begin post Go)
    (h : post (Int32.ofInt (-2)) w) :
    Go 36 [some (.inr 0), some (.inl x1), some (.inl x2), some (.inl x3)] [] w := hGo 3 _ _ rfl _ _ _ h
theorem q_PC_begin_39 {t_0 t_1 t_2 t_3 t_4 t_5 : ma_T} {post : ma_P} {Go : ma_G} {w : ma_W} {x1 : Int32} {x2 : Int32} {x3 : Int32} (hGo : ma_cl k_PC_begin zf_PC (e_PC_begin t_0 t_1 t_2 t_3 t_4 t_5) none 1 s_PC_begin post Go)
    (h : t_0 [.inr 2, .inl x1, .inl x2] w (fun _ w1 => ((nI 1) = 0 ∨ (nI 1) = 1) ∧ (((nI 0) = 0 ∨ (nI 0) = 1) ∧ (t_1 [.inr 10] (ma_up (ma_up (ma_up w1.1 0 7 x3) 0 10 (nI 1)) 0 11 (nI 0), w1.2.1, w1.2.2) (fun _ w2 => ((nI 0) = 0 ∨ (nI 0) = 1) ∧ (ma_isk 4 w2.2.1.1 (t_2 [.inr w2.2.1.1, .inl (nI 0)] (ma_up w2.1 0 9 (nI 0), w2.2.1, w2.2.2) (fun _ w3 => t_3 [.inr 2] w3 (fun z4 w4 => ma_isk 4 w3.2.1.1 (t_4 [.inr w3.2.1.1, .inl z4] w4 (fun _ w5 => t_5 [.inl x1, .inl x2, .inl x3] w5 (fun z6 w6 => post z6 w6)))))))))))) :
    Go 39 [some (.inr 0), some (.inl x1), some (.inl x2), some (.inl x3)] [] w := hGo 4 _ _ rfl _ _ _ h
theorem q_PC_grow_0 {t_0 t_1 t_2 : ma_T} {post : ma_P} {Go : ma_G} {w : ma_W} {o1 : Option ma_V} (hGo : ma_cl k_PC_grow zf_PC (e_PC_grow t_0 t_1 t_2) none 1 s_PC_grow post Go)
    (h : (¬ (w.1 0 10) = (nI 0) → Go 9 [some (.inr 0), o1] [] w) ∧ (¬ (¬ (w.1 0 10) = (nI 0)) → post (Int32.ofInt (-1)) w)) :
    Go 0 [some (.inr 0), o1] [] w := hGo 0 _ _ rfl _ _ _ h
theorem q_PC_grow_9 {t_0 t_1 t_2 : ma_T} {post : ma_P} {Go : ma_G} {w : ma_W} {o1 : Option ma_V} (hGo : ma_cl k_PC_grow zf_PC (e_PC_grow t_0 t_1 t_2) none 1 s_PC_grow post Go)
    (h : (¬ (w.1 0 11) = (nI 0) → Go 28 [some (.inr 0), o1] [] w) ∧ (¬ (¬ (w.1 0 11) = (nI 0)) → ma_isk 4 w.2.1.1 (t_0 [.inr w.2.1.1] w (fun z1 w1 => (z1 < (nI 10) → Go 31 [some (.inr 0), o1] [] w1) ∧ (¬ (z1 < (nI 10)) → Go 28 [some (.inr 0), o1] [] w1))))) :
    Go 9 [some (.inr 0), o1] [] w := hGo 1 _ _ rfl _ _ _ h
theorem q_PC_grow_28 {t_0 t_1 t_2 : ma_T} {post : ma_P} {Go : ma_G} {w : ma_W} {o1 : Option ma_V} (hGo : ma_cl k_PC_grow zf_PC (e_PC_grow t_0 t_1 t_2) none 1 s_PC_grow post Go)
    (h : post (Int32.ofInt (-5)) w) :
    Go 28 [some (.inr 0), o1] [] w := hGo 2 _ _ rfl _ _ _ h
theorem q_PC_grow_31 {t_0 t_1 t_2 : ma_T} {post : ma_P} {Go : ma_G} {w : ma_W} {o1 : Option ma_V} (hGo : ma_cl k_PC_grow zf_PC (e_PC_grow t_0 t_1 t_2) none 1 s_PC_grow post Go)
    (h : t_1 [.inr 0] w (fun z1 w1 => (¬ z1 = (nI 0) → Go 46 [some (.inr 0), o1] [] w1) ∧ (¬ (¬ z1 = (nI 0)) → ((nI 1) = 0 ∨ (nI 1) = 1) ∧ (post (Int32.ofInt (-5)) (ma_up w1.1 0 11 (nI 1), w1.2.1, w1.2.2))))) :
    Go 31 [some (.inr 0), o1] [] w := hGo 3 _ _ rfl _ _ _ h
theorem q_PC_grow_46 {t_0 t_1 t_2 : ma_T} {post : ma_P} {Go : ma_G} {w : ma_W} {o1 : Option ma_V} (hGo : ma_cl k_PC_grow zf_PC (e_PC_grow t_0 t_1 t_2) none 1 s_PC_grow post Go)
    (h : ma_isk 4 w.2.1.2 (t_2 [.inr w.2.1.2] (w.1, (w.2.1.2, w.2.1.1), w.2.2) (fun z1 w1 => post z1 w1))) :
    Go 46 [some (.inr 0), o1] [] w := hGo 4 _ _ rfl _ _ _ h
theorem q_PC_level_0 {t_0 : ma_T} {post : ma_P} {Go : ma_G} {w : ma_W} (hGo : ma_cl k_PC_level zf_PC (e_PC_level t_0) none 1 s_PC_level post Go)
    (h : ((w.1 0 10) = (nI 0) → Go 17 [some (.inr 0)] [] w) ∧ (¬ ((w.1 0 10) = (nI 0)) → ma_isk 4 w.2.1.1 (t_0 [.inr w.2.1.1] w (fun z1 w1 => Go 18 [some (.inr 0)] [.inl z1] w1)))) :
    Go 0 [some (.inr 0)] [] w := hGo 0 _ _ rfl _ _ _ h
theorem q_PC_level_17 {t_0 : ma_T} {post : ma_P} {Go : ma_G} {w : ma_W} (hGo : ma_cl k_PC_level zf_PC (e_PC_level t_0) none 1 s_PC_level post Go)
    (h : Go 18 [some (.inr 0)] [.inl (Int32.ofInt (-1))] w) :
    Go 17 [some (.inr 0)] [] w := hGo 1 _ _ rfl _ _ _ h
theorem q_PC_level_18 {t_0 : ma_T} {post : ma_P} {Go : ma_G} {w : ma_W} {y0 : Int32} (hGo : ma_cl k_PC_level zf_PC (e_PC_level t_0) none 1 s_PC_level post Go)
    (h : post y0 w) :
    Go 18 [some (.inr 0)] [.inl y0] w := hGo 2 _ _ rfl _ _ _ h
theorem q_PC_entries_0 {t_0 : ma_T} {post : ma_P} {Go : ma_G} {w : ma_W} (hGo : ma_cl k_PC_entries zf_PC (e_PC_entries t_0) none 1 s_PC_entries post Go)
    (h : ma_isk 4 w.2.1.1 (t_0 [.inr w.2.1.1] w (fun z1 w1 => post z1 w1))) :
    Go 0 [some (.inr 0)] [] w := hGo 0 _ _ rfl _ _ _ h
theorem q_PC_block_0 {t_0 t_1 t_2 : ma_T} {post : ma_P} {Go : ma_G} {w : ma_W} {x1 : Int32} {x2 : Int32} (hGo : ma_cl k_PC_block zf_PC (e_PC_block t_0 t_1 t_2) none 1 s_PC_block post Go)
    (h : ma_isk 4 w.2.1.1 (t_0 [.inr w.2.1.1, .inl x1] w (fun z1 w1 => (z1 = (nI 0) → Go 38 [some (.inr 0), some (.inl x1), some (.inl x2)] [] w1) ∧ (¬ (z1 = (nI 0)) → (x2 < (nI 0) → Go 38 [some (.inr 0), some (.inl x1), some (.inl x2)] [] w1) ∧ (¬ (x2 < (nI 0)) → ma_isk 4 w1.2.1.1 (t_1 [.inr w1.2.1.1] w1 (fun z2 w2 => (z2 ≤ x2 → Go 38 [some (.inr 0), some (.inl x1), some (.inl x2)] [] w2) ∧ (¬ (z2 ≤ x2) → ma_isk 4 w2.2.1.1 (t_2 [.inr w2.2.1.1, .inl x1, .inl x2] w2 (fun z3 w3 => Go 39 [some (.inr 0), some (.inl x1), some (.inl x2)] [.inl z3] w3)))))))))) :
    Go 0 [some (.inr 0), some (.inl x1), some (.inl x2)] [] w := hGo 0 _ _ rfl _ _ _ h
theorem q_PC_block_38 {t_0 t_1 t_2 : ma_T} {post : ma_P} {Go : ma_G} {w : ma_W} {x1 : Int32} {x2 : Int32} (hGo : ma_cl k_PC_block zf_PC (e_PC_block t_0 t_1 t_2) none 1 s_PC_block post Go)
    (h : Go 39 [some (.inr 0), some (.inl x1), some (.inl x2)] [.inl (Int32.ofInt (-1))] w) :
    Go 38 [some (.inr 0), some (.inl x1), some (.inl x2)] [] w := hGo 1 _ _ rfl _ _ _ h
theorem q_PC_block_39 {t_0 t_1 t_2 : ma_T} {post : ma_P} {Go : ma_G} {w : ma_W} {x1 : Int32} {x2 : Int32} {y0 : Int32} (hGo : ma_cl k_PC_block zf_PC (e_PC_block t_0 t_1 t_2) none 1 s_PC_block post Go)
    (h : post y0 w) :
    Go 39 [some (.inr 0), some (.inl x1), some (.inl x2)] [.inl y0] w := hGo 2 _ _ rfl _ _ _ h
theorem q_PC_order_0 {t_0 t_1 : ma_T} {post : ma_P} {Go : ma_G} {w : ma_W} {x1 : Int32} (hGo : ma_cl k_PC_order zf_PC (e_PC_order t_0 t_1) none 1 s_PC_order post Go)
    (h : ma_isk 4 w.2.1.1 (t_0 [.inr w.2.1.1, .inl x1] w (fun z1 w1 => (z1 = (nI 0) → Go 22 [some (.inr 0), some (.inl x1)] [] w1) ∧ (¬ (z1 = (nI 0)) → ma_isk 4 w1.2.1.1 (t_1 [.inr w1.2.1.1, .inl x1] w1 (fun z2 w2 => Go 23 [some (.inr 0), some (.inl x1)] [.inl z2] w2)))))) :
    Go 0 [some (.inr 0), some (.inl x1)] [] w := hGo 0 _ _ rfl _ _ _ h
theorem q_PC_order_22 {t_0 t_1 : ma_T} {post : ma_P} {Go : ma_G} {w : ma_W} {x1 : Int32} (hGo : ma_cl k_PC_order zf_PC (e_PC_order t_0 t_1) none 1 s_PC_order post Go)
    (h : Go 23 [some (.inr 0), some (.inl x1)] [.inl (Int32.ofInt (-1))] w) :
    Go 22 [some (.inr 0), some (.inl x1)] [] w := hGo 1 _ _ rfl _ _ _ h
theorem q_PC_order_23 {t_0 t_1 : ma_T} {post : ma_P} {Go : ma_G} {w : ma_W} {x1 : Int32} {y0 : Int32} (hGo : ma_cl k_PC_order zf_PC (e_PC_order t_0 t_1) none 1 s_PC_order post Go)
    (h : post y0 w) :
    Go 23 [some (.inr 0), some (.inl x1)] [.inl y0] w := hGo 2 _ _ rfl _ _ _ h
theorem q_PC_labelled_0 {t_0 t_1 t_2 : ma_T} {post : ma_P} {Go : ma_G} {w : ma_W} {o1 : Option ma_V} {o2 : Option ma_V} {o3 : Option ma_V} {o4 : Option ma_V} (hGo : ma_cl k_PC_labelled zf_PC (e_PC_labelled t_0 t_1 t_2) none 1 s_PC_labelled post Go)
    (h : t_0 [.inr 2] w (fun z1 w1 => Go 12 [some (.inr 0), some (.inl (nI 0)), some (.inl z1), some (.inl (nI 0)), o4] [] w1)) :
    Go 0 [some (.inr 0), o1, o2, o3, o4] [] w := hGo 0 _ _ rfl _ _ _ h
theorem q_PC_labelled_12 {t_0 t_1 t_2 : ma_T} {post : ma_P} {Go : ma_G} {w : ma_W} {x1 : Int32} {x2 : Int32} {x3 : Int32} {o4 : Option ma_V} (hGo : ma_cl k_PC_labelled zf_PC (e_PC_labelled t_0 t_1 t_2) none 1 s_PC_labelled post Go)
    (h : ma_isk 4 w.2.1.1 (t_1 [.inr w.2.1.1] w (fun z1 w1 => (z1 ≤ x3 → Go 55 [some (.inr 0), some (.inl x1), some (.inl x2), some (.inl x3), o4] [] w1) ∧ (¬ (z1 ≤ x3) → ma_isk 4 w1.2.1.1 (t_2 [.inr w1.2.1.1, .inl x3] w1 (fun z2 w2 => (z2 ≤ (nI 0) → Go 46 [some (.inr 0), some (.inl x1), some (.inl x2), some (.inl x3), some (.inl z2)] [.inl x1] w2) ∧ (¬ (z2 ≤ (nI 0)) → ¬ z2 = 0 ∧ (Go 47 [some (.inr 0), some (.inl x1), some (.inl x2), some (.inl x3), some (.inl z2)] [.inl (x2 / z2), .inl x1] w2)))))))) :
    Go 12 [some (.inr 0), some (.inl x1), some (.inl x2), some (.inl x3), o4] [] w := hGo 1 _ _ rfl _ _ _ h
theorem q_PC_labelled_46 {t_0 t_1 t_2 : ma_T} {post : ma_P} {Go : ma_G} {w : ma_W} {x1 : Int32} {x2 : Int32} {x3 : Int32} {x4 : Int32} {y0 : Int32} (hGo : ma_cl k_PC_labelled zf_PC (e_PC_labelled t_0 t_1 t_2) none 1 s_PC_labelled post Go)
    (h : Go 47 [some (.inr 0), some (.inl x1), some (.inl x2), some (.inl x3), some (.inl x4)] [.inl (nI 0), .inl y0] w) :
    Go 46 [some (.inr 0), some (.inl x1), some (.inl x2), some (.inl x3), some (.inl x4)] [.inl y0] w := hGo 2 _ _ rfl _ _ _ h
theorem q_PC_labelled_47 {t_0 t_1 t_2 : ma_T} {post : ma_P} {Go : ma_G} {w : ma_W} {x1 : Int32} {x2 : Int32} {x3 : Int32} {x4 : Int32} {y0 : Int32} {y1 : Int32} (hGo : ma_cl k_PC_labelled zf_PC (e_PC_labelled t_0 t_1 t_2) none 1 s_PC_labelled post Go)
    (h : Go 12 [some (.inr 0), some (.inl (y1 + y0)), some (.inl x2), some (.inl (x3 + nI 1)), some (.inl x4)] [] w) :
    Go 47 [some (.inr 0), some (.inl x1), some (.inl x2), some (.inl x3), some (.inl x4)] [.inl y0, .inl y1] w := hGo 3 _ _ rfl _ _ _ h
theorem q_PC_labelled_55 {t_0 t_1 t_2 : ma_T} {post : ma_P} {Go : ma_G} {w : ma_W} {x1 : Int32} {x2 : Int32} {x3 : Int32} {o4 : Option ma_V} (hGo : ma_cl k_PC_labelled zf_PC (e_PC_labelled t_0 t_1 t_2) none 1 s_PC_labelled post Go)
    (h : post x1 w) :
    Go 55 [some (.inr 0), some (.inl x1), some (.inl x2), some (.inl x3), o4] [] w := hGo 4 _ _ rfl _ _ _ h
theorem q_PC_together_0 {t_0 t_1 t_2 : ma_T} {post : ma_P} {Go : ma_G} {w : ma_W} {x1 : Int32} {x2 : Int32} {x3 : Int32} (hGo : ma_cl k_PC_together zf_PC (e_PC_together t_0 t_1 t_2) none 1 s_PC_together post Go)
    (h : ma_isk 4 w.2.1.1 (t_0 [.inr w.2.1.1, .inl x1] w (fun z1 w1 => (z1 = (nI 0) → Go 33 [some (.inr 0), some (.inl x1), some (.inl x2), some (.inl x3)] [] w1) ∧ (¬ (z1 = (nI 0)) → t_1 [.inr 2, .inl x2] w1 (fun z2 w2 => (z2 = (nI 0) → Go 33 [some (.inr 0), some (.inl x1), some (.inl x2), some (.inl x3)] [] w2) ∧ (¬ (z2 = (nI 0)) → t_1 [.inr 2, .inl x3] w2 (fun z3 w3 => (¬ z3 = (nI 0) → Go 35 [some (.inr 0), some (.inl x1), some (.inl x2), some (.inl x3)] [] w3) ∧ (¬ (¬ z3 = (nI 0)) → Go 33 [some (.inr 0), some (.inl x1), some (.inl x2), some (.inl x3)] [] w3)))))))) :
    Go 0 [some (.inr 0), some (.inl x1), some (.inl x2), some (.inl x3)] [] w := hGo 0 _ _ rfl _ _ _ h
theorem q_PC_together_33 {t_0 t_1 t_2 : ma_T} {post : ma_P} {Go : ma_G} {w : ma_W} {x1 : Int32} {x2 : Int32} {x3 : Int32} (hGo : ma_cl k_PC_together zf_PC (e_PC_together t_0 t_1 t_2) none 1 s_PC_together post Go)
    (h : post (Int32.ofInt (-1)) w) :
    Go 33 [some (.inr 0), some (.inl x1), some (.inl x2), some (.inl x3)] [] w := hGo 1 _ _ rfl _ _ _ h
theorem q_PC_together_35 {t_0 t_1 t_2 : ma_T} {post : ma_P} {Go : ma_G} {w : ma_W} {x1 : Int32} {x2 : Int32} {x3 : Int32} (hGo : ma_cl k_PC_together zf_PC (e_PC_together t_0 t_1 t_2) none 1 s_PC_together post Go)
    (h : ma_isk 4 w.2.1.1 (t_2 [.inr w.2.1.1, .inl x1, .inl (((nI 1) <<< (x2 &&& 31)) ||| ((nI 1) <<< (x3 &&& 31)))] w (fun z1 w1 => post z1 w1))) :
    Go 35 [some (.inr 0), some (.inl x1), some (.inl x2), some (.inl x3)] [] w := hGo 2 _ _ rfl _ _ _ h
theorem q_PC_design_0 {t_0 t_1 : ma_T} {post : ma_P} {Go : ma_G} {w : ma_W} {x1 : Int32} (hGo : ma_cl k_PC_design zf_PC (e_PC_design t_0 t_1) none 2 s_PC_design post Go)
    (h : ma_isk 4 w.2.1.1 (t_0 [.inr w.2.1.1, .inl x1] w (fun z1 w1 => (z1 = (nI 0) → Go 23 [some (.inr 0), some (.inl x1)] [] w1) ∧ (¬ (z1 = (nI 0)) → t_1 [.inr 0, .inl x1] w1 (fun z2 w2 => (z2 = (nI 0) → Go 23 [some (.inr 0), some (.inl x1)] [] w2) ∧ (¬ (z2 = (nI 0)) → Go 24 [some (.inr 0), some (.inl x1)] [.inl (nI 1)] w2)))))) :
    Go 0 [some (.inr 0), some (.inl x1)] [] w := hGo 0 _ _ rfl _ _ _ h
theorem q_PC_design_23 {t_0 t_1 : ma_T} {post : ma_P} {Go : ma_G} {w : ma_W} {x1 : Int32} (hGo : ma_cl k_PC_design zf_PC (e_PC_design t_0 t_1) none 2 s_PC_design post Go)
    (h : Go 24 [some (.inr 0), some (.inl x1)] [.inl (nI 0)] w) :
    Go 23 [some (.inr 0), some (.inl x1)] [] w := hGo 1 _ _ rfl _ _ _ h
theorem q_PC_design_24 {t_0 t_1 : ma_T} {post : ma_P} {Go : ma_G} {w : ma_W} {x1 : Int32} {y0 : Int32} (hGo : ma_cl k_PC_design zf_PC (e_PC_design t_0 t_1) none 2 s_PC_design post Go)
    (h : (y0 = 0 ∨ y0 = 1) ∧ post y0 w) :
    Go 24 [some (.inr 0), some (.inl x1)] [.inl y0] w := hGo 2 _ _ rfl _ _ _ h
theorem q_PC_designs_0 {t_0 t_1 : ma_T} {post : ma_P} {Go : ma_G} {w : ma_W} {o1 : Option ma_V} {o2 : Option ma_V} (hGo : ma_cl k_PC_designs zf_PC (e_PC_designs t_0 t_1) none 1 s_PC_designs post Go)
    (h : Go 4 [some (.inr 0), some (.inl (nI 0)), some (.inl (nI 0))] [] w) :
    Go 0 [some (.inr 0), o1, o2] [] w := hGo 0 _ _ rfl _ _ _ h
theorem q_PC_designs_4 {t_0 t_1 : ma_T} {post : ma_P} {Go : ma_G} {w : ma_W} {x1 : Int32} {x2 : Int32} (hGo : ma_cl k_PC_designs zf_PC (e_PC_designs t_0 t_1) none 1 s_PC_designs post Go)
    (h : ma_isk 4 w.2.1.1 (t_0 [.inr w.2.1.1] w (fun z1 w1 => (z1 ≤ x2 → Go 37 [some (.inr 0), some (.inl x1), some (.inl x2)] [] w1) ∧ (¬ (z1 ≤ x2) → t_1 [.inr 0, .inl x2] w1 (fun z2 w2 => (z2 = (nI 0) → Go 28 [some (.inr 0), some (.inl x1), some (.inl x2)] [.inl x1] w2) ∧ (¬ (z2 = (nI 0)) → Go 29 [some (.inr 0), some (.inl x1), some (.inl x2)] [.inl (nI 1), .inl x1] w2)))))) :
    Go 4 [some (.inr 0), some (.inl x1), some (.inl x2)] [] w := hGo 1 _ _ rfl _ _ _ h
theorem q_PC_designs_28 {t_0 t_1 : ma_T} {post : ma_P} {Go : ma_G} {w : ma_W} {x1 : Int32} {x2 : Int32} {y0 : Int32} (hGo : ma_cl k_PC_designs zf_PC (e_PC_designs t_0 t_1) none 1 s_PC_designs post Go)
    (h : Go 29 [some (.inr 0), some (.inl x1), some (.inl x2)] [.inl (nI 0), .inl y0] w) :
    Go 28 [some (.inr 0), some (.inl x1), some (.inl x2)] [.inl y0] w := hGo 2 _ _ rfl _ _ _ h
theorem q_PC_designs_29 {t_0 t_1 : ma_T} {post : ma_P} {Go : ma_G} {w : ma_W} {x1 : Int32} {x2 : Int32} {y0 : Int32} {y1 : Int32} (hGo : ma_cl k_PC_designs zf_PC (e_PC_designs t_0 t_1) none 1 s_PC_designs post Go)
    (h : Go 4 [some (.inr 0), some (.inl (y1 + y0)), some (.inl (x2 + nI 1))] [] w) :
    Go 29 [some (.inr 0), some (.inl x1), some (.inl x2)] [.inl y0, .inl y1] w := hGo 3 _ _ rfl _ _ _ h
theorem q_PC_designs_37 {t_0 t_1 : ma_T} {post : ma_P} {Go : ma_G} {w : ma_W} {x1 : Int32} {x2 : Int32} (hGo : ma_cl k_PC_designs zf_PC (e_PC_designs t_0 t_1) none 1 s_PC_designs post Go)
    (h : post x1 w) :
    Go 37 [some (.inr 0), some (.inl x1), some (.inl x2)] [] w := hGo 4 _ _ rfl _ _ _ h
theorem q_PC_orbit_0 {t_0 t_1 t_2 : ma_T} {post : ma_P} {Go : ma_G} {w : ma_W} {x1 : Int32} {x2 : Int32} (hGo : ma_cl k_PC_orbit zf_PC (e_PC_orbit t_0 t_1 t_2) none 1 s_PC_orbit post Go)
    (h : ma_isk 4 w.2.1.1 (t_0 [.inr w.2.1.1, .inl x1] w (fun z1 w1 => (z1 = (nI 0) → Go 34 [some (.inr 0), some (.inl x1), some (.inl x2)] [] w1) ∧ (¬ (z1 = (nI 0)) → t_1 [.inr 2, .inl x2] w1 (fun z2 w2 => (z2 = (nI 0) → Go 34 [some (.inr 0), some (.inl x1), some (.inl x2)] [] w2) ∧ (¬ (z2 = (nI 0)) → ma_isk 4 w2.2.1.1 (t_2 [.inr w2.2.1.1, .inl x1, .inl x2] w2 (fun z3 w3 => Go 35 [some (.inr 0), some (.inl x1), some (.inl x2)] [.inl z3] w3)))))))) :
    Go 0 [some (.inr 0), some (.inl x1), some (.inl x2)] [] w := hGo 0 _ _ rfl _ _ _ h
theorem q_PC_orbit_34 {t_0 t_1 t_2 : ma_T} {post : ma_P} {Go : ma_G} {w : ma_W} {x1 : Int32} {x2 : Int32} (hGo : ma_cl k_PC_orbit zf_PC (e_PC_orbit t_0 t_1 t_2) none 1 s_PC_orbit post Go)
    (h : Go 35 [some (.inr 0), some (.inl x1), some (.inl x2)] [.inl (Int32.ofInt (-1))] w) :
    Go 34 [some (.inr 0), some (.inl x1), some (.inl x2)] [] w := hGo 1 _ _ rfl _ _ _ h
theorem q_PC_orbit_35 {t_0 t_1 t_2 : ma_T} {post : ma_P} {Go : ma_G} {w : ma_W} {x1 : Int32} {x2 : Int32} {y0 : Int32} (hGo : ma_cl k_PC_orbit zf_PC (e_PC_orbit t_0 t_1 t_2) none 1 s_PC_orbit post Go)
    (h : post y0 w) :
    Go 35 [some (.inr 0), some (.inl x1), some (.inl x2)] [.inl y0] w := hGo 2 _ _ rfl _ _ _ h
theorem q_PC_put_0 {t_0 t_1 t_2 : ma_T} {post : ma_P} {Go : ma_G} {w : ma_W} {x1 : Int32} (hGo : ma_cl k_PC_put zf_PC (e_PC_put t_0 t_1 t_2) none 1 s_PC_put post Go)
    (h : ((w.1 0 10) = (nI 0) → Go 18 [some (.inr 0), some (.inl x1)] [] w) ∧ (¬ ((w.1 0 10) = (nI 0)) → t_0 [.inr 2, .inl x1] w (fun z1 w1 => (¬ z1 = (nI 0) → Go 21 [some (.inr 0), some (.inl x1)] [] w1) ∧ (¬ (¬ z1 = (nI 0)) → Go 18 [some (.inr 0), some (.inl x1)] [] w1)))) :
    Go 0 [some (.inr 0), some (.inl x1)] [] w := hGo 0 _ _ rfl _ _ _ h
theorem q_PC_put_18 {t_0 t_1 t_2 : ma_T} {post : ma_P} {Go : ma_G} {w : ma_W} {x1 : Int32} (hGo : ma_cl k_PC_put zf_PC (e_PC_put t_0 t_1 t_2) none 1 s_PC_put post Go)
    (h : post (Int32.ofInt (-2)) w) :
    Go 18 [some (.inr 0), some (.inl x1)] [] w := hGo 1 _ _ rfl _ _ _ h
theorem q_PC_put_21 {t_0 t_1 t_2 : ma_T} {post : ma_P} {Go : ma_G} {w : ma_W} {x1 : Int32} (hGo : ma_cl k_PC_put zf_PC (e_PC_put t_0 t_1 t_2) none 1 s_PC_put post Go)
    (h : t_1 [.inr 10] w (fun z1 w1 => (z1 < (nI 10) → Go 36 [some (.inr 0), some (.inl x1)] [] w1) ∧ (¬ (z1 < (nI 10)) → post (Int32.ofInt (-5)) w1))) :
    Go 21 [some (.inr 0), some (.inl x1)] [] w := hGo 2 _ _ rfl _ _ _ h
theorem q_PC_put_36 {t_0 t_1 t_2 : ma_T} {post : ma_P} {Go : ma_G} {w : ma_W} {x1 : Int32} (hGo : ma_cl k_PC_put zf_PC (e_PC_put t_0 t_1 t_2) none 1 s_PC_put post Go)
    (h : t_2 [.inr 10, .inl x1] w (fun _ w1 => ((nI 0) = 0 ∨ (nI 0) = 1) ∧ (t_1 [.inr 10] (ma_up w1.1 0 9 (nI 0), w1.2.1, w1.2.2) (fun z2 w2 => post z2 w2)))) :
    Go 36 [some (.inr 0), some (.inl x1)] [] w := hGo 3 _ _ rfl _ _ _ h
theorem q_PC_drop_0 {t_0 t_1 : ma_T} {post : ma_P} {Go : ma_G} {w : ma_W} {x1 : Int32} (hGo : ma_cl k_PC_drop zf_PC (e_PC_drop t_0 t_1) none 2 s_PC_drop post Go)
    (h : t_0 [.inr 10, .inl x1] w (fun z1 w1 => (¬ z1 = (nI 0) → Go 13 [some (.inr 0), some (.inl x1)] [] w1) ∧ (¬ (¬ z1 = (nI 0)) → ((nI 0) = 0 ∨ (nI 0) = 1) ∧ post (nI 0) w1))) :
    Go 0 [some (.inr 0), some (.inl x1)] [] w := hGo 0 _ _ rfl _ _ _ h
theorem q_PC_drop_13 {t_0 t_1 : ma_T} {post : ma_P} {Go : ma_G} {w : ma_W} {x1 : Int32} (hGo : ma_cl k_PC_drop zf_PC (e_PC_drop t_0 t_1) none 2 s_PC_drop post Go)
    (h : t_1 [.inr 10, .inl x1] w (fun _ w1 => ((nI 0) = 0 ∨ (nI 0) = 1) ∧ (((nI 1) = 0 ∨ (nI 1) = 1) ∧ post (nI 1) (ma_up w1.1 0 9 (nI 0), w1.2.1, w1.2.2)))) :
    Go 13 [some (.inr 0), some (.inl x1)] [] w := hGo 1 _ _ rfl _ _ _ h
theorem q_PC_swap_0 {t_0 t_1 : ma_T} {post : ma_P} {Go : ma_G} {w : ma_W} {x1 : Int32} {x2 : Int32} (hGo : ma_cl k_PC_swap zf_PC (e_PC_swap t_0 t_1) none 2 s_PC_swap post Go)
    (h : t_0 [.inr 2, .inl x1] w (fun z1 w1 => (z1 = (nI 0) → Go 22 [some (.inr 0), some (.inl x1), some (.inl x2)] [] w1) ∧ (¬ (z1 = (nI 0)) → t_0 [.inr 2, .inl x2] w1 (fun z2 w2 => (¬ z2 = (nI 0) → Go 24 [some (.inr 0), some (.inl x1), some (.inl x2)] [] w2) ∧ (¬ (¬ z2 = (nI 0)) → Go 22 [some (.inr 0), some (.inl x1), some (.inl x2)] [] w2))))) :
    Go 0 [some (.inr 0), some (.inl x1), some (.inl x2)] [] w := hGo 0 _ _ rfl _ _ _ h
theorem q_PC_swap_22 {t_0 t_1 : ma_T} {post : ma_P} {Go : ma_G} {w : ma_W} {x1 : Int32} {x2 : Int32} (hGo : ma_cl k_PC_swap zf_PC (e_PC_swap t_0 t_1) none 2 s_PC_swap post Go)
    (h : ((nI 0) = 0 ∨ (nI 0) = 1) ∧ post (nI 0) w) :
    Go 22 [some (.inr 0), some (.inl x1), some (.inl x2)] [] w := hGo 1 _ _ rfl _ _ _ h
theorem q_PC_swap_24 {t_0 t_1 : ma_T} {post : ma_P} {Go : ma_G} {w : ma_W} {x1 : Int32} {x2 : Int32} (hGo : ma_cl k_PC_swap zf_PC (e_PC_swap t_0 t_1) none 2 s_PC_swap post Go)
    (h : t_1 [.inr 10, .inl x1, .inl x2] w (fun _ w1 => ((nI 1) = 0 ∨ (nI 1) = 1) ∧ post (nI 1) w1)) :
    Go 24 [some (.inr 0), some (.inl x1), some (.inl x2)] [] w := hGo 2 _ _ rfl _ _ _ h
theorem q_PC_copy_0 {t_0 t_1 : ma_T} {post : ma_P} {Go : ma_G} {w : ma_W} {x1 : Int32} (hGo : ma_cl k_PC_copy zf_PC (e_PC_copy t_0 t_1) none 2 s_PC_copy post Go)
    (h : ma_isk 4 w.2.1.1 (t_0 [.inr w.2.1.1, .inl x1] w (fun z1 w1 => (¬ z1 = (nI 0) → Go 13 [some (.inr 0), some (.inl x1)] [] w1) ∧ (¬ (¬ z1 = (nI 0)) → ((nI 0) = 0 ∨ (nI 0) = 1) ∧ post (nI 0) w1)))) :
    Go 0 [some (.inr 0), some (.inl x1)] [] w := hGo 0 _ _ rfl _ _ _ h
theorem q_PC_copy_13 {t_0 t_1 : ma_T} {post : ma_P} {Go : ma_G} {w : ma_W} {x1 : Int32} (hGo : ma_cl k_PC_copy zf_PC (e_PC_copy t_0 t_1) none 2 s_PC_copy post Go)
    (h : ma_isk 4 w.2.1.1 (t_1 [.inr w.2.1.1, .inl x1, .inr 10] w (fun _ w1 => ((nI 0) = 0 ∨ (nI 0) = 1) ∧ (((nI 1) = 0 ∨ (nI 1) = 1) ∧ post (nI 1) (ma_up w1.1 0 9 (nI 0), w1.2.1, w1.2.2))))) :
    Go 13 [some (.inr 0), some (.inl x1)] [] w := hGo 1 _ _ rfl _ _ _ h
theorem q_PC_hand_0 {t_0 t_1 : ma_T} {post : ma_P} {Go : ma_G} {w : ma_W} {x1 : Int32} (hGo : ma_cl k_PC_hand zf_PC (e_PC_hand t_0 t_1) none 1 s_PC_hand post Go)
    (h : t_0 [.inr 10, .inl x1] w (fun z1 w1 => (z1 = (nI 0) → Go 22 [some (.inr 0), some (.inl x1)] [] w1) ∧ (¬ (z1 = (nI 0)) → t_1 [.inr 10, .inl x1] w1 (fun z2 w2 => Go 23 [some (.inr 0), some (.inl x1)] [.inl z2] w2)))) :
    Go 0 [some (.inr 0), some (.inl x1)] [] w := hGo 0 _ _ rfl _ _ _ h
theorem q_PC_hand_22 {t_0 t_1 : ma_T} {post : ma_P} {Go : ma_G} {w : ma_W} {x1 : Int32} (hGo : ma_cl k_PC_hand zf_PC (e_PC_hand t_0 t_1) none 1 s_PC_hand post Go)
    (h : Go 23 [some (.inr 0), some (.inl x1)] [.inl (Int32.ofInt (-1))] w) :
    Go 22 [some (.inr 0), some (.inl x1)] [] w := hGo 1 _ _ rfl _ _ _ h
theorem q_PC_hand_23 {t_0 t_1 : ma_T} {post : ma_P} {Go : ma_G} {w : ma_W} {x1 : Int32} {y0 : Int32} (hGo : ma_cl k_PC_hand zf_PC (e_PC_hand t_0 t_1) none 1 s_PC_hand post Go)
    (h : post y0 w) :
    Go 23 [some (.inr 0), some (.inl x1)] [.inl y0] w := hGo 2 _ _ rfl _ _ _ h
theorem q_PC_formed_0 {t_0 t_1 t_2 : ma_T} {post : ma_P} {Go : ma_G} {w : ma_W} {x1 : Int32} (hGo : ma_cl k_PC_formed zf_PC (e_PC_formed t_0 t_1 t_2) none 1 s_PC_formed post Go)
    (h : t_0 [.inr 10, .inl x1] w (fun z1 w1 => (¬ z1 = (nI 0) → Go 13 [some (.inr 0), some (.inl x1)] [] w1) ∧ (¬ (¬ z1 = (nI 0)) → post (Int32.ofInt (-1)) w1))) :
    Go 0 [some (.inr 0), some (.inl x1)] [] w := hGo 0 _ _ rfl _ _ _ h
theorem q_PC_formed_13 {t_0 t_1 t_2 : ma_T} {post : ma_P} {Go : ma_G} {w : ma_W} {x1 : Int32} (hGo : ma_cl k_PC_formed zf_PC (e_PC_formed t_0 t_1 t_2) none 1 s_PC_formed post Go)
    (h : t_1 [.inr 0] w (fun _ w1 => t_0 [.inr 12, .inl x1] w1 (fun z2 w2 => (z2 = (nI 0) → Go 39 [some (.inr 0), some (.inl x1)] [] w2) ∧ (¬ (z2 = (nI 0)) → t_2 [.inr 12, .inl x1] w2 (fun z3 w3 => Go 40 [some (.inr 0), some (.inl x1)] [.inl z3] w3))))) :
    Go 13 [some (.inr 0), some (.inl x1)] [] w := hGo 1 _ _ rfl _ _ _ h
theorem q_PC_formed_39 {t_0 t_1 t_2 : ma_T} {post : ma_P} {Go : ma_G} {w : ma_W} {x1 : Int32} (hGo : ma_cl k_PC_formed zf_PC (e_PC_formed t_0 t_1 t_2) none 1 s_PC_formed post Go)
    (h : Go 40 [some (.inr 0), some (.inl x1)] [.inl (Int32.ofInt (-1))] w) :
    Go 39 [some (.inr 0), some (.inl x1)] [] w := hGo 2 _ _ rfl _ _ _ h
theorem q_PC_formed_40 {t_0 t_1 t_2 : ma_T} {post : ma_P} {Go : ma_G} {w : ma_W} {x1 : Int32} {y0 : Int32} (hGo : ma_cl k_PC_formed zf_PC (e_PC_formed t_0 t_1 t_2) none 1 s_PC_formed post Go)
    (h : post y0 w) :
    Go 40 [some (.inr 0), some (.inl x1)] [.inl y0] w := hGo 3 _ _ rfl _ _ _ h
theorem q_PC_symmetries_0 {t_0 : ma_T} {post : ma_P} {Go : ma_G} {w : ma_W} (hGo : ma_cl k_PC_symmetries zf_PC (e_PC_symmetries t_0) none 1 s_PC_symmetries post Go)
    (h : (¬ (w.1 0 10) = (nI 0) → Go 9 [some (.inr 0)] [] w) ∧ (¬ (¬ (w.1 0 10) = (nI 0)) → post (Int32.ofInt (-1)) w)) :
    Go 0 [some (.inr 0)] [] w := hGo 0 _ _ rfl _ _ _ h
theorem q_PC_symmetries_9 {t_0 : ma_T} {post : ma_P} {Go : ma_G} {w : ma_W} (hGo : ma_cl k_PC_symmetries zf_PC (e_PC_symmetries t_0) none 1 s_PC_symmetries post Go)
    (h : t_0 [.inr 0] w (fun _ w1 => post (w1.1 0 8) w1)) :
    Go 9 [some (.inr 0)] [] w := hGo 1 _ _ rfl _ _ _ h
theorem q_PC_find_0 {t_0 t_1 t_2 t_3 : ma_T} {post : ma_P} {Go : ma_G} {w : ma_W} (hGo : ma_cl k_PC_find zf_PC (e_PC_find t_0 t_1 t_2 t_3) none 1 s_PC_find post Go)
    (h : ((w.1 0 10) = (nI 0) → Go 24 [some (.inr 0)] [] w) ∧ (¬ ((w.1 0 10) = (nI 0)) → t_0 [.inr 10] w (fun z1 w1 => ma_isk 4 w1.2.1.1 (t_1 [.inr w1.2.1.1] w1 (fun z2 w2 => (z1 = z2 → Go 26 [some (.inr 0)] [] w2) ∧ (¬ (z1 = z2) → Go 24 [some (.inr 0)] [] w2)))))) :
    Go 0 [some (.inr 0)] [] w := hGo 0 _ _ rfl _ _ _ h
theorem q_PC_find_24 {t_0 t_1 t_2 t_3 : ma_T} {post : ma_P} {Go : ma_G} {w : ma_W} (hGo : ma_cl k_PC_find zf_PC (e_PC_find t_0 t_1 t_2 t_3) none 1 s_PC_find post Go)
    (h : post (Int32.ofInt (-1)) w) :
    Go 24 [some (.inr 0)] [] w := hGo 1 _ _ rfl _ _ _ h
theorem q_PC_find_26 {t_0 t_1 t_2 t_3 : ma_T} {post : ma_P} {Go : ma_G} {w : ma_W} (hGo : ma_cl k_PC_find zf_PC (e_PC_find t_0 t_1 t_2 t_3) none 1 s_PC_find post Go)
    (h : t_2 [.inr 0] w (fun _ w1 => ma_isk 4 w1.2.1.1 (t_3 [.inr w1.2.1.1, .inr 12] w1 (fun z2 w2 => post z2 w2)))) :
    Go 26 [some (.inr 0)] [] w := hGo 2 _ _ rfl _ _ _ h
theorem q_PC_blocksOfDesign_0 {post : ma_P} {Go : ma_G} {w : ma_W} {x0 : Int32} {x1 : Int32} {x2 : Int32} {o3 : Option ma_V} {o4 : Option ma_V} {o5 : Option ma_V} (hGo : ma_cl k_PC_blocksOfDesign zf_PC e_PC_blocksOfDesign none 1 s_PC_blocksOfDesign post Go)
    (h : ¬ (x1 - (nI 1)) = 0 ∧ ((((x2 * (x0 - (nI 1))) - (x2 * (x0 - (nI 1))) / (x1 - (nI 1)) * (x1 - (nI 1))) = (nI 0) → Go 17 [some (.inl x0), some (.inl x1), some (.inl x2), some (.inl (x2 * (x0 - (nI 1)))), o4, o5] [] w) ∧ (¬ (((x2 * (x0 - (nI 1))) - (x2 * (x0 - (nI 1))) / (x1 - (nI 1)) * (x1 - (nI 1))) = (nI 0)) → post (Int32.ofInt (-3)) w))) :
    Go 0 [some (.inl x0), some (.inl x1), some (.inl x2), o3, o4, o5] [] w := hGo 0 _ _ rfl _ _ _ h
theorem q_PC_blocksOfDesign_17 {post : ma_P} {Go : ma_G} {w : ma_W} {x0 : Int32} {x1 : Int32} {x2 : Int32} {x3 : Int32} {o4 : Option ma_V} {o5 : Option ma_V} (hGo : ma_cl k_PC_blocksOfDesign zf_PC e_PC_blocksOfDesign none 1 s_PC_blocksOfDesign post Go)
    (h : ¬ (x1 - (nI 1)) = 0 ∧ (¬ x1 = 0 ∧ ((((x0 * (x3 / (x1 - (nI 1)))) - (x0 * (x3 / (x1 - (nI 1)))) / x1 * x1) = (nI 0) → Go 36 [some (.inl x0), some (.inl x1), some (.inl x2), some (.inl x3), some (.inl (x0 * (x3 / (x1 - (nI 1))))), o5] [] w) ∧ (¬ (((x0 * (x3 / (x1 - (nI 1)))) - (x0 * (x3 / (x1 - (nI 1)))) / x1 * x1) = (nI 0)) → post (Int32.ofInt (-3)) w)))) :
    Go 17 [some (.inl x0), some (.inl x1), some (.inl x2), some (.inl x3), o4, o5] [] w := hGo 1 _ _ rfl _ _ _ h
theorem q_PC_blocksOfDesign_36 {post : ma_P} {Go : ma_G} {w : ma_W} {x0 : Int32} {x1 : Int32} {x2 : Int32} {x3 : Int32} {x4 : Int32} {o5 : Option ma_V} (hGo : ma_cl k_PC_blocksOfDesign zf_PC e_PC_blocksOfDesign none 1 s_PC_blocksOfDesign post Go)
    (h : ¬ x1 = 0 ∧ ((x0 ≤ (x4 / x1) → Go 53 [some (.inl x0), some (.inl x1), some (.inl x2), some (.inl x3), some (.inl x4), some (.inl (x4 / x1))] [] w) ∧ (¬ (x0 ≤ (x4 / x1)) → Go 55 [some (.inl x0), some (.inl x1), some (.inl x2), some (.inl x3), some (.inl x4), some (.inl (x4 / x1))] [.inl (Int32.ofInt (-4))] w))) :
    Go 36 [some (.inl x0), some (.inl x1), some (.inl x2), some (.inl x3), some (.inl x4), o5] [] w := hGo 2 _ _ rfl _ _ _ h
theorem q_PC_blocksOfDesign_53 {post : ma_P} {Go : ma_G} {w : ma_W} {x0 : Int32} {x1 : Int32} {x2 : Int32} {x3 : Int32} {x4 : Int32} {x5 : Int32} (hGo : ma_cl k_PC_blocksOfDesign zf_PC e_PC_blocksOfDesign none 1 s_PC_blocksOfDesign post Go)
    (h : Go 55 [some (.inl x0), some (.inl x1), some (.inl x2), some (.inl x3), some (.inl x4), some (.inl x5)] [.inl x5] w) :
    Go 53 [some (.inl x0), some (.inl x1), some (.inl x2), some (.inl x3), some (.inl x4), some (.inl x5)] [] w := hGo 3 _ _ rfl _ _ _ h
theorem q_PC_blocksOfDesign_55 {post : ma_P} {Go : ma_G} {w : ma_W} {x0 : Int32} {x1 : Int32} {x2 : Int32} {x3 : Int32} {x4 : Int32} {x5 : Int32} {y0 : Int32} (hGo : ma_cl k_PC_blocksOfDesign zf_PC e_PC_blocksOfDesign none 1 s_PC_blocksOfDesign post Go)
    (h : post y0 w) :
    Go 55 [some (.inl x0), some (.inl x1), some (.inl x2), some (.inl x3), some (.inl x4), some (.inl x5)] [.inl y0] w := hGo 4 _ _ rfl _ _ _ h
theorem q_PC_fillSpare_0 {t_0 t_1 t_2 t_3 : ma_T} {post : ma_P} {Go : ma_G} {w : ma_W} {o1 : Option ma_V} (hGo : ma_cl k_PC_fillSpare zf_PC (e_PC_fillSpare t_0 t_1 t_2 t_3) none 2 s_PC_fillSpare post Go)
    (h : ma_isk 4 w.2.1.1 (t_0 [.inr w.2.1.1] w (fun z1 w1 => ma_isk 4 w.2.1.2 (t_1 [.inr w.2.1.2, .inl (z1 + (nI 1))] w1 (fun _ w2 => Go 18 [some (.inr 0), some (.inl (nI 0))] [] w2))))) :
    Go 0 [some (.inr 0), o1] [] w := hGo 0 _ _ rfl _ _ _ h
theorem q_PC_fillSpare_18 {t_0 t_1 t_2 t_3 : ma_T} {post : ma_P} {Go : ma_G} {w : ma_W} {x1 : Int32} (hGo : ma_cl k_PC_fillSpare zf_PC (e_PC_fillSpare t_0 t_1 t_2 t_3) none 2 s_PC_fillSpare post Go)
    (h : ma_isk 4 w.2.1.1 (t_2 [.inr w.2.1.1] w (fun z1 w1 => (z1 ≤ x1 → Go 45 [some (.inr 0), some (.inl x1)] [] w1) ∧ (¬ (z1 ≤ x1) → t_3 [.inr 0, .inl x1] w1 (fun z2 w2 => (¬ z2 = (nI 0) → Go 39 [some (.inr 0), some (.inl x1)] [] w2) ∧ (¬ (¬ z2 = (nI 0)) → ((nI 0) = 0 ∨ (nI 0) = 1) ∧ post (nI 0) w2)))))) :
    Go 18 [some (.inr 0), some (.inl x1)] [] w := hGo 1 _ _ rfl _ _ _ h
theorem q_PC_fillSpare_39 {t_0 t_1 t_2 t_3 : ma_T} {post : ma_P} {Go : ma_G} {w : ma_W} {x1 : Int32} (hGo : ma_cl k_PC_fillSpare zf_PC (e_PC_fillSpare t_0 t_1 t_2 t_3) none 2 s_PC_fillSpare post Go)
    (h : Go 18 [some (.inr 0), some (.inl (x1 + nI 1))] [] w) :
    Go 39 [some (.inr 0), some (.inl x1)] [] w := hGo 2 _ _ rfl _ _ _ h
theorem q_PC_fillSpare_45 {t_0 t_1 t_2 t_3 : ma_T} {post : ma_P} {Go : ma_G} {w : ma_W} {x1 : Int32} (hGo : ma_cl k_PC_fillSpare zf_PC (e_PC_fillSpare t_0 t_1 t_2 t_3) none 2 s_PC_fillSpare post Go)
    (h : ((nI 1) = 0 ∨ (nI 1) = 1) ∧ post (nI 1) w) :
    Go 45 [some (.inr 0), some (.inl x1)] [] w := hGo 3 _ _ rfl _ _ _ h
theorem q_PC_addFormsFrom_0 {t_0 t_1 t_2 t_3 t_4 t_5 t_6 t_7 t_8 t_9 t_10 : ma_T} {post : ma_P} {Go : ma_G} {w : ma_W} {x1 : Int32} {o2 : Option ma_V} {o3 : Option ma_V} {o4 : Option ma_V} (hGo : ma_cl k_PC_addFormsFrom zf_PC (e_PC_addFormsFrom t_0 t_1 t_2 t_3 t_4 t_5 t_6 t_7 t_8 t_9 t_10) none 2 s_PC_addFormsFrom post Go)
    (h : ma_isk 4 w.2.1.1 (t_0 [.inr w.2.1.1, .inl x1, .inr 14] w (fun _ w1 => t_1 [.inr 14] w1 (fun z2 w2 => Go 22 [some (.inr 0), some (.inl x1), some (.inl z2), some (.inl (nI 0)), o4] [] w2)))) :
    Go 0 [some (.inr 0), some (.inl x1), o2, o3, o4] [] w := hGo 0 _ _ rfl _ _ _ h
theorem q_PC_addFormsFrom_22 {t_0 t_1 t_2 t_3 t_4 t_5 t_6 t_7 t_8 t_9 t_10 : ma_T} {post : ma_P} {Go : ma_G} {w : ma_W} {x1 : Int32} {x2 : Int32} {x3 : Int32} {o4 : Option ma_V} (hGo : ma_cl k_PC_addFormsFrom zf_PC (e_PC_addFormsFrom t_0 t_1 t_2 t_3 t_4 t_5 t_6 t_7 t_8 t_9 t_10) none 2 s_PC_addFormsFrom post Go)
    (h : t_2 [.inr 2] w (fun z1 w1 => (z1 ≤ x3 → Go 134 [some (.inr 0), some (.inl x1), some (.inl x2), some (.inl x3), o4] [] w1) ∧ (¬ (z1 ≤ x3) → t_3 [.inr 2, .inl x3] w1 (fun z2 w2 => (z2 < x2 → Go 128 [some (.inr 0), some (.inl x1), some (.inl x2), some (.inl x3), some (.inl z2)] [] w2) ∧ (¬ (z2 < x2) → t_4 [.inr 0, .inl x1, .inl z2] w2 (fun z3 w3 => (¬ z3 = (nI 0) → Go 62 [some (.inr 0), some (.inl x1), some (.inl x2), some (.inl x3), some (.inl z2)] [] w3) ∧ (¬ (¬ z3 = (nI 0)) → Go 128 [some (.inr 0), some (.inl x1), some (.inl x2), some (.inl x3), some (.inl z2)] [] w3))))))) :
    Go 22 [some (.inr 0), some (.inl x1), some (.inl x2), some (.inl x3), o4] [] w := hGo 1 _ _ rfl _ _ _ h
theorem q_PC_addFormsFrom_62 {t_0 t_1 t_2 t_3 t_4 t_5 t_6 t_7 t_8 t_9 t_10 : ma_T} {post : ma_P} {Go : ma_G} {w : ma_W} {x1 : Int32} {x2 : Int32} {x3 : Int32} {x4 : Int32} (hGo : ma_cl k_PC_addFormsFrom zf_PC (e_PC_addFormsFrom t_0 t_1 t_2 t_3 t_4 t_5 t_6 t_7 t_8 t_9 t_10) none 2 s_PC_addFormsFrom post Go)
    (h : t_5 [.inr 14, .inl x4] w (fun _ w1 => t_6 [.inr 1, .inr 14] w1 (fun z2 w2 => (z2 = (nI 0) → Go 112 [some (.inr 0), some (.inl x1), some (.inl x2), some (.inl x3), some (.inl x4)] [] w2) ∧ (¬ (z2 = (nI 0)) → ma_isk 4 w2.2.1.2 (t_7 [.inr w2.2.1.2] w2 (fun z3 w3 => (z3 = (nI 0) → Go 97 [some (.inr 0), some (.inl x1), some (.inl x2), some (.inl x3), some (.inl x4)] [] w3) ∧ (¬ (z3 = (nI 0)) → ((nI 0) = 0 ∨ (nI 0) = 1) ∧ post (nI 0) w3))))))) :
    Go 62 [some (.inr 0), some (.inl x1), some (.inl x2), some (.inl x3), some (.inl x4)] [] w := hGo 2 _ _ rfl _ _ _ h
theorem q_PC_addFormsFrom_97 {t_0 t_1 t_2 t_3 t_4 t_5 t_6 t_7 t_8 t_9 t_10 : ma_T} {post : ma_P} {Go : ma_G} {w : ma_W} {x1 : Int32} {x2 : Int32} {x3 : Int32} {x4 : Int32} (hGo : ma_cl k_PC_addFormsFrom zf_PC (e_PC_addFormsFrom t_0 t_1 t_2 t_3 t_4 t_5 t_6 t_7 t_8 t_9 t_10) none 2 s_PC_addFormsFrom post Go)
    (h : ma_isk 4 w.2.1.2 (t_8 [.inr w.2.1.2, .inr 14, .inr 1] w (fun _ w1 => Go 112 [some (.inr 0), some (.inl x1), some (.inl x2), some (.inl x3), some (.inl x4)] [] w1))) :
    Go 97 [some (.inr 0), some (.inl x1), some (.inl x2), some (.inl x3), some (.inl x4)] [] w := hGo 3 _ _ rfl _ _ _ h
theorem q_PC_addFormsFrom_112 {t_0 t_1 t_2 t_3 t_4 t_5 t_6 t_7 t_8 t_9 t_10 : ma_T} {post : ma_P} {Go : ma_G} {w : ma_W} {x1 : Int32} {x2 : Int32} {x3 : Int32} {x4 : Int32} (hGo : ma_cl k_PC_addFormsFrom zf_PC (e_PC_addFormsFrom t_0 t_1 t_2 t_3 t_4 t_5 t_6 t_7 t_8 t_9 t_10) none 2 s_PC_addFormsFrom post Go)
    (h : t_9 [.inr 14] w (fun z1 w1 => t_10 [.inr 14, .inl (z1 - (nI 1))] w1 (fun _ w2 => Go 128 [some (.inr 0), some (.inl x1), some (.inl x2), some (.inl x3), some (.inl x4)] [] w2))) :
    Go 112 [some (.inr 0), some (.inl x1), some (.inl x2), some (.inl x3), some (.inl x4)] [] w := hGo 4 _ _ rfl _ _ _ h
theorem q_PC_addFormsFrom_128 {t_0 t_1 t_2 t_3 t_4 t_5 t_6 t_7 t_8 t_9 t_10 : ma_T} {post : ma_P} {Go : ma_G} {w : ma_W} {x1 : Int32} {x2 : Int32} {x3 : Int32} {x4 : Int32} (hGo : ma_cl k_PC_addFormsFrom zf_PC (e_PC_addFormsFrom t_0 t_1 t_2 t_3 t_4 t_5 t_6 t_7 t_8 t_9 t_10) none 2 s_PC_addFormsFrom post Go)
    (h : Go 22 [some (.inr 0), some (.inl x1), some (.inl x2), some (.inl (x3 + nI 1)), some (.inl x4)] [] w) :
    Go 128 [some (.inr 0), some (.inl x1), some (.inl x2), some (.inl x3), some (.inl x4)] [] w := hGo 5 _ _ rfl _ _ _ h
theorem q_PC_addFormsFrom_134 {t_0 t_1 t_2 t_3 t_4 t_5 t_6 t_7 t_8 t_9 t_10 : ma_T} {post : ma_P} {Go : ma_G} {w : ma_W} {x1 : Int32} {x2 : Int32} {x3 : Int32} {o4 : Option ma_V} (hGo : ma_cl k_PC_addFormsFrom zf_PC (e_PC_addFormsFrom t_0 t_1 t_2 t_3 t_4 t_5 t_6 t_7 t_8 t_9 t_10) none 2 s_PC_addFormsFrom post Go)
    (h : ((nI 1) = 0 ∨ (nI 1) = 1) ∧ post (nI 1) w) :
    Go 134 [some (.inr 0), some (.inl x1), some (.inl x2), some (.inl x3), o4] [] w := hGo 6 _ _ rfl _ _ _ h
theorem q_PC_staysPacking_0 {t_0 t_1 : ma_T} {post : ma_P} {Go : ma_G} {w : ma_W} {x1 : Int32} {x2 : Int32} {o3 : Option ma_V} {o4 : Option ma_V} {o5 : Option ma_V} (hGo : ma_cl k_PC_staysPacking zf_PC (e_PC_staysPacking t_0 t_1) none 2 s_PC_staysPacking post Go)
    (h : Go 2 [some (.inr 0), some (.inl x1), some (.inl x2), some (.inl (nI 1)), o4, o5] [] w) :
    Go 0 [some (.inr 0), some (.inl x1), some (.inl x2), o3, o4, o5] [] w := hGo 0 _ _ rfl _ _ _ h
theorem q_PC_staysPacking_2 {t_0 t_1 : ma_T} {post : ma_P} {Go : ma_G} {w : ma_W} {x1 : Int32} {x2 : Int32} {x3 : Int32} {o4 : Option ma_V} {o5 : Option ma_V} (hGo : ma_cl k_PC_staysPacking zf_PC (e_PC_staysPacking t_0 t_1) none 2 s_PC_staysPacking post Go)
    (h : t_0 [.inr 2] w (fun z1 w1 => (z1 ≤ x3 → Go 72 [some (.inr 0), some (.inl x1), some (.inl x2), some (.inl x3), o4, o5] [] w1) ∧ (¬ (z1 ≤ x3) → Go 16 [some (.inr 0), some (.inl x1), some (.inl x2), some (.inl x3), some (.inl (nI 0)), o5] [] w1))) :
    Go 2 [some (.inr 0), some (.inl x1), some (.inl x2), some (.inl x3), o4, o5] [] w := hGo 1 _ _ rfl _ _ _ h
set_option maxRecDepth 20000 in
theorem q_PC_staysPacking_16 {t_0 t_1 : ma_T} {post : ma_P} {Go : ma_G} {w : ma_W} {x1 : Int32} {x2 : Int32} {x3 : Int32} {x4 : Int32} {o5 : Option ma_V} (hGo : ma_cl k_PC_staysPacking zf_PC (e_PC_staysPacking t_0 t_1) none 2 s_PC_staysPacking post Go)
    (h : (x3 ≤ x4 → Go 66 [some (.inr 0), some (.inl x1), some (.inl x2), some (.inl x3), some (.inl x4), o5] [] w) ∧ (¬ (x3 ≤ x4) → (¬ (x2 &&& (((nI 1) <<< (x4 &&& 31)) ||| ((nI 1) <<< (x3 &&& 31)))) = (((nI 1) <<< (x4 &&& 31)) ||| ((nI 1) <<< (x3 &&& 31))) → Go 60 [some (.inr 0), some (.inl x1), some (.inl x2), some (.inl x3), some (.inl x4), some (.inl (((nI 1) <<< (x4 &&& 31)) ||| ((nI 1) <<< (x3 &&& 31))))] [] w) ∧ (¬ (¬ (x2 &&& (((nI 1) <<< (x4 &&& 31)) ||| ((nI 1) <<< (x3 &&& 31)))) = (((nI 1) <<< (x4 &&& 31)) ||| ((nI 1) <<< (x3 &&& 31)))) → ma_isk 4 w.2.1.1 (t_1 [.inr w.2.1.1, .inl x1, .inl (((nI 1) <<< (x4 &&& 31)) ||| ((nI 1) <<< (x3 &&& 31)))] w (fun z1 w1 => (z1 < (w1.1 0 7) → Go 60 [some (.inr 0), some (.inl x1), some (.inl x2), some (.inl x3), some (.inl x4), some (.inl (((nI 1) <<< (x4 &&& 31)) ||| ((nI 1) <<< (x3 &&& 31))))] [] w1) ∧ (¬ (z1 < (w1.1 0 7)) → ((nI 0) = 0 ∨ (nI 0) = 1) ∧ post (nI 0) w1)))))) :
    Go 16 [some (.inr 0), some (.inl x1), some (.inl x2), some (.inl x3), some (.inl x4), o5] [] w := hGo 2 _ _ rfl _ _ _ h
theorem q_PC_staysPacking_60 {t_0 t_1 : ma_T} {post : ma_P} {Go : ma_G} {w : ma_W} {x1 : Int32} {x2 : Int32} {x3 : Int32} {x4 : Int32} {x5 : Int32} (hGo : ma_cl k_PC_staysPacking zf_PC (e_PC_staysPacking t_0 t_1) none 2 s_PC_staysPacking post Go)
    (h : Go 16 [some (.inr 0), some (.inl x1), some (.inl x2), some (.inl x3), some (.inl (x4 + nI 1)), some (.inl x5)] [] w) :
    Go 60 [some (.inr 0), some (.inl x1), some (.inl x2), some (.inl x3), some (.inl x4), some (.inl x5)] [] w := hGo 3 _ _ rfl _ _ _ h
theorem q_PC_staysPacking_66 {t_0 t_1 : ma_T} {post : ma_P} {Go : ma_G} {w : ma_W} {x1 : Int32} {x2 : Int32} {x3 : Int32} {x4 : Int32} {o5 : Option ma_V} (hGo : ma_cl k_PC_staysPacking zf_PC (e_PC_staysPacking t_0 t_1) none 2 s_PC_staysPacking post Go)
    (h : Go 2 [some (.inr 0), some (.inl x1), some (.inl x2), some (.inl (x3 + nI 1)), some (.inl x4), o5] [] w) :
    Go 66 [some (.inr 0), some (.inl x1), some (.inl x2), some (.inl x3), some (.inl x4), o5] [] w := hGo 4 _ _ rfl _ _ _ h
theorem q_PC_staysPacking_72 {t_0 t_1 : ma_T} {post : ma_P} {Go : ma_G} {w : ma_W} {x1 : Int32} {x2 : Int32} {x3 : Int32} {o4 : Option ma_V} {o5 : Option ma_V} (hGo : ma_cl k_PC_staysPacking zf_PC (e_PC_staysPacking t_0 t_1) none 2 s_PC_staysPacking post Go)
    (h : ((nI 1) = 0 ∨ (nI 1) = 1) ∧ post (nI 1) w) :
    Go 72 [some (.inr 0), some (.inl x1), some (.inl x2), some (.inl x3), o4, o5] [] w := hGo 5 _ _ rfl _ _ _ h
theorem q_PC_isDesign_0 {t_0 t_1 : ma_T} {post : ma_P} {Go : ma_G} {w : ma_W} {x1 : Int32} {o2 : Option ma_V} {o3 : Option ma_V} (hGo : ma_cl k_PC_isDesign zf_PC (e_PC_isDesign t_0 t_1) none 2 s_PC_isDesign post Go)
    (h : Go 2 [some (.inr 0), some (.inl x1), some (.inl (nI 1)), o3] [] w) :
    Go 0 [some (.inr 0), some (.inl x1), o2, o3] [] w := hGo 0 _ _ rfl _ _ _ h
theorem q_PC_isDesign_2 {t_0 t_1 : ma_T} {post : ma_P} {Go : ma_G} {w : ma_W} {x1 : Int32} {x2 : Int32} {o3 : Option ma_V} (hGo : ma_cl k_PC_isDesign zf_PC (e_PC_isDesign t_0 t_1) none 2 s_PC_isDesign post Go)
    (h : t_0 [.inr 2] w (fun z1 w1 => (z1 ≤ x2 → Go 56 [some (.inr 0), some (.inl x1), some (.inl x2), o3] [] w1) ∧ (¬ (z1 ≤ x2) → Go 15 [some (.inr 0), some (.inl x1), some (.inl x2), some (.inl (nI 0))] [] w1))) :
    Go 2 [some (.inr 0), some (.inl x1), some (.inl x2), o3] [] w := hGo 1 _ _ rfl _ _ _ h
theorem q_PC_isDesign_15 {t_0 t_1 : ma_T} {post : ma_P} {Go : ma_G} {w : ma_W} {x1 : Int32} {x2 : Int32} {x3 : Int32} (hGo : ma_cl k_PC_isDesign zf_PC (e_PC_isDesign t_0 t_1) none 2 s_PC_isDesign post Go)
    (h : (x2 ≤ x3 → Go 50 [some (.inr 0), some (.inl x1), some (.inl x2), some (.inl x3)] [] w) ∧ (¬ (x2 ≤ x3) → ma_isk 4 w.2.1.1 (t_1 [.inr w.2.1.1, .inl x1, .inl (((nI 1) <<< (x3 &&& 31)) ||| ((nI 1) <<< (x2 &&& 31)))] w (fun z1 w1 => (z1 = (w1.1 0 7) → Go 44 [some (.inr 0), some (.inl x1), some (.inl x2), some (.inl x3)] [] w1) ∧ (¬ (z1 = (w1.1 0 7)) → ((nI 0) = 0 ∨ (nI 0) = 1) ∧ post (nI 0) w1))))) :
    Go 15 [some (.inr 0), some (.inl x1), some (.inl x2), some (.inl x3)] [] w := hGo 2 _ _ rfl _ _ _ h
theorem q_PC_isDesign_44 {t_0 t_1 : ma_T} {post : ma_P} {Go : ma_G} {w : ma_W} {x1 : Int32} {x2 : Int32} {x3 : Int32} (hGo : ma_cl k_PC_isDesign zf_PC (e_PC_isDesign t_0 t_1) none 2 s_PC_isDesign post Go)
    (h : Go 15 [some (.inr 0), some (.inl x1), some (.inl x2), some (.inl (x3 + nI 1))] [] w) :
    Go 44 [some (.inr 0), some (.inl x1), some (.inl x2), some (.inl x3)] [] w := hGo 3 _ _ rfl _ _ _ h
theorem q_PC_isDesign_50 {t_0 t_1 : ma_T} {post : ma_P} {Go : ma_G} {w : ma_W} {x1 : Int32} {x2 : Int32} {x3 : Int32} (hGo : ma_cl k_PC_isDesign zf_PC (e_PC_isDesign t_0 t_1) none 2 s_PC_isDesign post Go)
    (h : Go 2 [some (.inr 0), some (.inl x1), some (.inl (x2 + nI 1)), some (.inl x3)] [] w) :
    Go 50 [some (.inr 0), some (.inl x1), some (.inl x2), some (.inl x3)] [] w := hGo 4 _ _ rfl _ _ _ h
theorem q_PC_isDesign_56 {t_0 t_1 : ma_T} {post : ma_P} {Go : ma_G} {w : ma_W} {x1 : Int32} {x2 : Int32} {o3 : Option ma_V} (hGo : ma_cl k_PC_isDesign zf_PC (e_PC_isDesign t_0 t_1) none 2 s_PC_isDesign post Go)
    (h : ((nI 1) = 0 ∨ (nI 1) = 1) ∧ post (nI 1) w) :
    Go 56 [some (.inr 0), some (.inl x1), some (.inl x2), o3] [] w := hGo 5 _ _ rfl _ _ _ h
theorem q_PC_formHand_0 {t_0 t_1 : ma_T} {post : ma_P} {Go : ma_G} {w : ma_W} (hGo : ma_cl k_PC_formHand zf_PC (e_PC_formHand t_0 t_1) none 0 s_PC_formHand post Go)
    (h : (¬ (w.1 0 9) = (nI 0) → Go 38 [some (.inr 0)] [] w) ∧ (¬ (¬ (w.1 0 9) = (nI 0)) → t_0 [.inr 1, .inr 10, .inr 12] w (fun _ w1 => t_1 [.inr 1] w1 (fun z2 w2 => ((nI 1) = 0 ∨ (nI 1) = 1) ∧ (Go 38 [some (.inr 0)] [] (ma_up (ma_up w2.1 0 8 z2) 0 9 (nI 1), w2.2.1, w2.2.2)))))) :
    Go 0 [some (.inr 0)] [] w := hGo 0 _ _ rfl _ _ _ h
theorem q_PC_formHand_38 {t_0 t_1 : ma_T} {post : ma_P} {Go : ma_G} {w : ma_W} (hGo : ma_cl k_PC_formHand zf_PC (e_PC_formHand t_0 t_1) none 0 s_PC_formHand post Go)
    (h : post 0 w) :
    Go 38 [some (.inr 0)] [] w := hGo 1 _ _ rfl _ _ _ h
