/-! what the tables' words say of the links -/
noncomputable def yG : List Cond := lw_tbl.filter goodWord
noncomputable def yc (p : Nat × Nat) : Option Cond := match p.1 with
  | 0 => (k2_sels lw_privs)[p.2]?
  | 1 => tables_1_1[p.2]?
  | 2 => tables_1_2[p.2]?
  | 3 => tables_1_3[p.2]?
  | 4 => tables_1_4[p.2]?
  | 5 => tables_1_5[p.2]?
  | 6 => tables_1_6[p.2]?
  | _ => tables_1_7[p.2]?
theorem yc_mem {p : Nat × Nat} {w : Cond} (h : yc p = some w) : w ∈ lw_tbl := by
  unfold yc at h
  unfold lw_tbl tables_1
  split at h
  · exact List.mem_append_left _ (List.mem_of_getElem? h)
  · exact List.mem_append_right _ (List.mem_append_left _ (List.mem_of_getElem? h))
  · exact List.mem_append_right _ (List.mem_append_right _ (List.mem_append_left _ (List.mem_of_getElem? h)))
  · exact List.mem_append_right _ (List.mem_append_right _ (List.mem_append_right _ (List.mem_append_left _ (List.mem_of_getElem? h))))
  · exact List.mem_append_right _ (List.mem_append_right _ (List.mem_append_right _ (List.mem_append_right _ (List.mem_append_left _ (List.mem_of_getElem? h)))))
  · exact List.mem_append_right _ (List.mem_append_right _ (List.mem_append_right _ (List.mem_append_right _ (List.mem_append_right _ (List.mem_append_left _ (List.mem_of_getElem? h))))))
  · exact List.mem_append_right _ (List.mem_append_right _ (List.mem_append_right _ (List.mem_append_right _ (List.mem_append_right _ (List.mem_append_right _ (List.mem_append_left _ (List.mem_of_getElem? h)))))))
  · exact List.mem_append_right _ (List.mem_append_right _ (List.mem_append_right _ (List.mem_append_right _ (List.mem_append_right _ (List.mem_append_right _ (List.mem_append_right _ (List.mem_of_getElem? h)))))))
theorem yG_ok : ∀ w ∈ yG, (w.onTables && w.keeps) = true ∨ ∃ ty, w = .arrayClass ty := fun w h => good_of_word (List.mem_filter.mp h).2
theorem yG_in : ∀ w ∈ yG, w ∈ lw_tbl := fun w h => (List.mem_filter.mp h).1
theorem yG_at {w : Cond} (p : Nat × Nat) (h : yc p = some w) (hg : goodWord w = true := by rfl) : w ∈ yG := List.mem_filter.mpr ⟨yc_mem h, hg⟩
theorem yG_all {ws : List Cond} (ps : List (Nat × Nat)) (h : (ws.zip ps).all (fun q => decide (yc q.2 = some q.1) && goodWord q.1) = true) (hl : ws.length = ps.length) : ∀ w ∈ ws, w ∈ yG := by
  intro w hw
  obtain ⟨i, hi⟩ := List.getElem?_of_mem hw
  have hlt : i < ps.length := by
    have := (List.getElem?_eq_some_iff.mp hi).1
    omega
  have h1 : (ws.zip ps)[i]? = some (w, ps[i]) := by
    rw [List.getElem?_zip_eq_some]
    exact ⟨hi, List.getElem?_eq_getElem hlt⟩
  have h2 := List.all_eq_true.mp h _ (List.mem_of_getElem? h1)
  rw [Bool.and_eq_true] at h2
  exact yG_at _ (of_decide_eq_true h2.1) h2.2
noncomputable def yg_ty : List (Nat → FieldType) := [tyX0, tyX1, tyX2, tyX3, tyX4, tyX5, tyX6, tyX7, tyX8, tyX9, tyX10, tyX11, tyX12]
noncomputable def yg_cls (ci : Nat) : Prop := ∃ (C : String) (T : u_T) (N : Nat) (ty0 : Nat → FieldType), vwCl[ci]? = some (C, T, N) ∧ yg_ty[ci]? = some ty0 ∧ (∀ w ∈ u_ws C T N, w ∈ yG) ∧ (∀ k, k < N → parseFieldDescriptor (T k).2.2.1 = some (ty0 k)) ∧ ∀ a, a < N → ∀ b, b < N → a ≠ b → (T a).2.1 ≠ (T b).2.1
theorem yg_in0 : ∀ w ∈ wsX00, w ∈ yG := yG_all [(2, 134), (2, 136), (2, 138), (2, 140), (2, 142)] (by decide +kernel) rfl
theorem yg_cls0 : yg_cls 0 := ⟨_, _, _, _, rfl, rfl, yg_in0, tyX0_ok, nmX0⟩
theorem yg_in1 : ∀ w ∈ wsX10, w ∈ yG := yG_all [(1, 166), (1, 168)] (by decide +kernel) rfl
theorem yg_cls1 : yg_cls 1 := ⟨_, _, _, _, rfl, rfl, yg_in1, tyX1_ok, nmX1⟩
theorem yg_in2 : ∀ w ∈ wsX20, w ∈ yG := yG_all [(1, 105), (1, 107), (1, 109), (1, 111), (1, 113)] (by decide +kernel) rfl
theorem yg_cls2 : yg_cls 2 := ⟨_, _, _, _, rfl, rfl, yg_in2, tyX2_ok, nmX2⟩
theorem yg_in3 : ∀ w ∈ wsX30, w ∈ yG := yG_all [(1, 132), (1, 134), (1, 136), (1, 138), (1, 140)] (by decide +kernel) rfl
theorem yg_cls3 : yg_cls 3 := ⟨_, _, _, _, rfl, rfl, yg_in3, tyX3_ok, nmX3⟩
theorem yg_in4 : ∀ w ∈ wsX40, w ∈ yG := yG_all [(1, 236), (1, 238), (2, 0), (2, 2), (2, 4), (2, 6), (2, 8), (2, 10), (2, 12), (2, 14), (2, 16)] (by decide +kernel) rfl
theorem yg_cls4 : yg_cls 4 := ⟨_, _, _, _, rfl, rfl, yg_in4, tyX4_ok, nmX4⟩
theorem yg_in5 : ∀ w ∈ wsX50, w ∈ yG := yG_all [(2, 31), (2, 33), (2, 35), (2, 37)] (by decide +kernel) rfl
theorem yg_cls5 : yg_cls 5 := ⟨_, _, _, _, rfl, rfl, yg_in5, tyX5_ok, nmX5⟩
theorem yg_in6 : ∀ w ∈ wsX60, w ∈ yG := yG_all [(1, 78), (1, 80), (1, 82), (1, 84), (1, 86), (1, 88)] (by decide +kernel) rfl
theorem yg_cls6 : yg_cls 6 := ⟨_, _, _, _, rfl, rfl, yg_in6, tyX6_ok, nmX6⟩
theorem yg_in7 : ∀ w ∈ wsX70, w ∈ yG := yG_all [(2, 118), (2, 120)] (by decide +kernel) rfl
theorem yg_cls7 : yg_cls 7 := ⟨_, _, _, _, rfl, rfl, yg_in7, tyX7_ok, nmX7⟩
theorem yg_in8 : ∀ w ∈ wsX80, w ∈ yG := yG_all [(2, 157), (2, 159), (2, 161), (2, 163)] (by decide +kernel) rfl
theorem yg_cls8 : yg_cls 8 := ⟨_, _, _, _, rfl, rfl, yg_in8, tyX8_ok, nmX8⟩
theorem yg_in9 : ∀ w ∈ wsX90, w ∈ yG := yG_all [(2, 73), (2, 75), (2, 77), (2, 79), (2, 81), (2, 83), (2, 85), (2, 87), (2, 89), (2, 91), (2, 93), (2, 95), (2, 97), (2, 99), (2, 101), (2, 103), (2, 105)] (by decide +kernel) rfl
theorem yg_cls9 : yg_cls 9 := ⟨_, _, _, _, rfl, rfl, yg_in9, tyX9_ok, nmX9⟩
theorem yg_in10 : ∀ w ∈ wsX100, w ∈ yG := yG_all [(1, 189), (1, 191), (1, 193), (1, 195), (1, 197), (1, 199), (1, 201), (1, 203), (1, 205), (1, 207), (1, 209)] (by decide +kernel) rfl
theorem yg_cls10 : yg_cls 10 := ⟨_, _, _, _, rfl, rfl, yg_in10, tyX10_ok, nmX10⟩
theorem yg_in11 : ∀ w ∈ wsX110, w ∈ yG := yG_all [(2, 181), (2, 183), (2, 185), (2, 187), (2, 189), (2, 191), (2, 193), (2, 195), (2, 197), (2, 199), (2, 201), (2, 203), (2, 205), (2, 207), (2, 209)] (by decide +kernel) rfl
theorem yg_cls11 : yg_cls 11 := ⟨_, _, _, _, rfl, rfl, yg_in11, tyX11_ok, nmX11⟩
theorem yg_in12 : ∀ w ∈ wsX120, w ∈ yG := yG_all [(5, 214), (5, 216), (5, 218), (5, 220), (5, 222), (5, 224), (5, 226), (5, 228), (5, 230), (5, 232), (5, 234), (5, 236), (5, 238), (6, 0), (6, 2), (6, 4), (6, 6), (6, 8), (6, 10), (6, 12), (6, 14), (6, 16), (6, 18), (6, 20), (6, 22), (6, 24), (6, 26), (6, 28), (6, 30), (6, 32), (6, 34), (6, 36), (6, 38), (6, 40), (6, 42), (6, 44), (6, 46), (6, 48), (6, 50), (6, 52), (6, 54), (6, 56), (6, 58), (6, 60), (6, 62), (6, 64), (6, 66), (6, 68), (6, 70), (6, 72), (6, 74), (6, 76), (6, 78), (6, 80), (6, 82), (6, 84), (6, 86), (6, 88), (6, 90), (6, 92), (6, 94)] (by decide +kernel) rfl
theorem yg_cls12 : yg_cls 12 := ⟨_, _, _, _, rfl, rfl, yg_in12, tyX12_ok, nmX12⟩
theorem yg_clsall : ∀ ci, ci < 13 → yg_cls ci
  | 0, _ => yg_cls0
  | 1, _ => yg_cls1
  | 2, _ => yg_cls2
  | 3, _ => yg_cls3
  | 4, _ => yg_cls4
  | 5, _ => yg_cls5
  | 6, _ => yg_cls6
  | 7, _ => yg_cls7
  | 8, _ => yg_cls8
  | 9, _ => yg_cls9
  | 10, _ => yg_cls10
  | 11, _ => yg_cls11
  | 12, _ => yg_cls12
  | n + 13, h => absurd h (by omega)
noncomputable def yg_flc (own : String) (tab : List (Nat × (Nat × Nat × Nat))) (pls : List (Nat × Nat)) : Bool := decide (tab.length = pls.length) && (tab.zip pls).all (fun q => match vwCl[q.1.2.1]?, yg_ty[q.1.2.1]? with
  | some (C, T, N), some ty0 => decide (q.1.2.1 < 13) && (decide (q.1.2.2.1 < N) && (decide (yc q.2 = some (Cond.fieldLink own q.1.1 C (T q.1.2.2.1).2.1 (T q.1.2.2.1).2.2.1)) && (decide ((T q.1.2.2.1).1 = C) && ((decide (q.1.2.2.2 = 2) || decide ((T q.1.2.2.1).2.2.2 = false)) && decide (ys_tk (ty0 q.1.2.2.1) = q.1.2.2.2)))))
  | _, _ => false)
theorem yg_flc_ok {own : String} {tab : List (Nat × (Nat × Nat × Nat))} {pls : List (Nat × Nat)} (h : yg_flc own tab pls = true) (K : ys_K) : ∀ idx c j tk, tab.lookup idx = some (c, j, tk) → ys_Fl own (ys_ws yG K) vwCl idx c j tk := by
  intro idx c j tk hl
  unfold yg_flc at h
  rw [Bool.and_eq_true, decide_eq_true_eq] at h
  obtain ⟨i, hi⟩ := List.getElem?_of_mem (ys_lk3 _ _ _ hl)
  have hlt : i < pls.length := by
    have := (List.getElem?_eq_some_iff.mp hi).1
    omega
  have h1 : (tab.zip pls)[i]? = some ((idx, c, j, tk), pls[i]) := by
    rw [List.getElem?_zip_eq_some]
    exact ⟨hi, List.getElem?_eq_getElem hlt⟩
  have h2 := List.all_eq_true.mp h.2 _ (List.mem_of_getElem? h1)
  dsimp only at h2
  split at h2
  · rename_i C T N ty0 e1 e2
    simp only [Bool.and_eq_true, Bool.or_eq_true, decide_eq_true_eq] at h2
    obtain ⟨a0, a1, a2, a3, a4, a5⟩ := h2
    obtain ⟨C', T', N', ty', b1, b2, b3, b4, b5⟩ := yg_clsall c a0
    rw [e1] at b1
    cases b1
    rw [e2] at b2
    cases b2
    exact ⟨C, T, N, ty0, e1, a1, fun w hw => List.mem_cons_of_mem _ (b3 w hw), b4, b5, List.mem_cons_of_mem _ (yG_at _ a2), a3, fun hn => a4.elim (fun q => absurd q hn) id, a5⟩
  · cases h2
noncomputable def yg_cic (own : String) (tab : List (Nat × Int)) (pls : List (Nat × Nat)) : Bool := decide (tab.length = pls.length) && (tab.zip pls).all (fun q => decide (yc q.2 = some (Cond.constant own q.1.1 (Int32.ofInt q.1.2))))
noncomputable def yg_cjc (own : String) (tab : List (Nat × Int)) (pls : List (Nat × Nat)) : Bool := decide (tab.length = pls.length) && (tab.zip pls).all (fun q => decide (yc q.2 = some (Cond.constantLong own q.1.1 (Int64.ofInt q.1.2))))
theorem yg_cic_ok {own : String} {tab : List (Nat × Int)} {pls : List (Nat × Nat)} (h : yg_cic own tab pls = true) (K : ys_K) : ∀ idx z, tab.lookup idx = some z → Cond.constant own idx (Int32.ofInt z) ∈ ys_ws yG K := by
  intro idx z hl
  unfold yg_cic at h
  rw [Bool.and_eq_true, decide_eq_true_eq] at h
  obtain ⟨i, hi⟩ := List.getElem?_of_mem (ys_lk3 _ _ _ hl)
  have hlt : i < pls.length := by
    have := (List.getElem?_eq_some_iff.mp hi).1
    omega
  have h1 : (tab.zip pls)[i]? = some ((idx, z), pls[i]) := by
    rw [List.getElem?_zip_eq_some]
    exact ⟨hi, List.getElem?_eq_getElem hlt⟩
  have h2 := List.all_eq_true.mp h.2 _ (List.mem_of_getElem? h1)
  exact List.mem_cons_of_mem _ (yG_at _ (of_decide_eq_true h2))
theorem yg_cjc_ok {own : String} {tab : List (Nat × Int)} {pls : List (Nat × Nat)} (h : yg_cjc own tab pls = true) (K : ys_K) : ∀ idx z, tab.lookup idx = some z → Cond.constantLong own idx (Int64.ofInt z) ∈ ys_ws yG K := by
  intro idx z hl
  unfold yg_cjc at h
  rw [Bool.and_eq_true, decide_eq_true_eq] at h
  obtain ⟨i, hi⟩ := List.getElem?_of_mem (ys_lk3 _ _ _ hl)
  have hlt : i < pls.length := by
    have := (List.getElem?_eq_some_iff.mp hi).1
    omega
  have h1 : (tab.zip pls)[i]? = some ((idx, z), pls[i]) := by
    rw [List.getElem?_zip_eq_some]
    exact ⟨hi, List.getElem?_eq_getElem hlt⟩
  have h2 := List.all_eq_true.mp h.2 _ (List.mem_of_getElem? h1)
  exact List.mem_cons_of_mem _ (yG_at _ (of_decide_eq_true h2))
theorem yg_goodin {own x : Cond} {ws : List Cond} (h : ∀ w ∈ ws, w ∈ yG) : GoodIn (x :: yG) ws := fun w hw => ⟨List.mem_cons_of_mem _ (h w hw), yG_ok w (h w hw)⟩
theorem yg_CLv {sh : List ys_C} {own : String} {idx k ci : Nat} {C : String} {T : u_T} {N : Nat} {as : List ys_V} {K K' : ys_K} (hy : K'.2.1.1 = .inr (some k) :: as) (hsh : sh[k]? = some (.inl ci)) (hcl : vwCl[ci]? = some (C, T, N)) (hw : ∀ w ∈ wsV own idx C K'.1.1.1 [Cond.code K'.1.1.1 K'.1.1.2.1 K'.1.1.2.2.1 K'.1.1.2.2.2], w ∈ yG) (hd : K'.1.1.1.cls = C ∧ K'.1.1.1.cls ≠ "java/lang/invoke/MethodHandle" ∧ K'.1.1.1.cls ≠ "java/lang/invoke/VarHandle" ∧ (parseMethodDescriptor K'.1.1.1.desc).map (fun d => d.parameters.length) = some as.length) : ys_CL own (ys_ws yG K) vwCl sh yG (.invokevirtual idx) K' := by
  refine Or.inl ⟨idx, k, ci, C, T, N, as, rfl, hy, hsh, hcl, yg_goodin (own := Cond.code K'.1.1.1 K'.1.1.2.1 K'.1.1.2.2.1 K'.1.1.2.2.2) (fun w h => ?_), hd⟩
  unfold wsV ys_ws at h
  rcases List.mem_append.mp h with q | q
  · exact hw w (by unfold wsV; exact List.mem_append_left _ q)
  · rcases List.mem_cons.mp q with q | q
    · exact hw w (by unfold wsV; rw [q]; exact List.mem_append_right _ List.mem_cons_self)
    · exact q
theorem yg_CLs {sh : List ys_C} {own : String} {idx : Nat} {K K' : ys_K} (hw : ∀ w ∈ va_wsS own idx K'.1.1.1 [Cond.code K'.1.1.1 K'.1.1.2.1 K'.1.1.2.2.1 K'.1.1.2.2.2], w ∈ yG) (hd : K'.1.1.1.cls ≠ "java/lang/invoke/MethodHandle" ∧ K'.1.1.1.cls ≠ "java/lang/invoke/VarHandle" ∧ (parseMethodDescriptor K'.1.1.1.desc).map (fun d => d.parameters.length) = some K'.2.1.1.length) : ys_CL own (ys_ws yG K) vwCl sh yG (.invokestatic idx) K' := by
  refine Or.inr ⟨idx, rfl, yg_goodin (own := Cond.code K'.1.1.1 K'.1.1.2.1 K'.1.1.2.2.1 K'.1.1.2.2.2) (fun w h => ?_), hd⟩
  unfold va_wsS ys_ws at h
  rcases List.mem_append.mp h with q | q
  · exact hw w (by unfold va_wsS; exact List.mem_append_left _ q)
  · rcases List.mem_cons.mp q with q | q
    · exact hw w (by unfold va_wsS; rw [q]; exact List.mem_append_right _ List.mem_cons_self)
    · exact q
noncomputable def yl_flX11 : ys_FL := [(10, 11, 0, 2), (19, 11, 1, 2), (26, 11, 2, 2), (32, 11, 3, 2), (36, 11, 4, 2), (40, 11, 5, 2), (44, 11, 6, 2), (48, 11, 7, 2), (55, 11, 8, 2), (62, 11, 9, 2), (69, 11, 10, 2), (76, 11, 11, 2), (83, 11, 12, 2), (90, 11, 13, 2), (94, 11, 14, 0), (111, 6, 4, 0), (121, 6, 0, 2), (125, 6, 1, 2), (128, 6, 2, 2), (131, 6, 3, 2), (151, 8, 1, 3), (162, 8, 0, 2), (194, 10, 1, 3), (197, 10, 0, 2), (201, 1, 0, 1), (207, 1, 1, 1), (210, 10, 2, 1), (213, 10, 3, 1), (216, 10, 4, 1), (219, 10, 5, 0), (232, 4, 2, 0), (235, 4, 3, 0), (236, 4, 0, 2), (239, 4, 1, 2), (273, 5, 0, 0), (276, 5, 1, 0), (292, 3, 0, 1), (295, 3, 1, 1), (298, 3, 2, 1), (301, 3, 3, 1), (304, 3, 4, 1), (310, 2, 0, 0), (316, 2, 1, 0), (322, 9, 7, 0), (325, 9, 0, 2), (328, 9, 1, 2), (331, 9, 2, 2), (334, 9, 3, 2), (337, 9, 4, 2), (340, 9, 8, 0), (343, 9, 6, 0), (344, 9, 5, 2), (353, 7, 1, 0), (356, 7, 0, 2)]
noncomputable def yl_ciX11 : List (Nat × Int) := []
noncomputable def yl_cjX11 : List (Nat × Int) := [(160, (-9223372036854775808)), (188, (-1)), (195, (-6)), (229, (-1000000))]
noncomputable def yl_cpX11 : List Nat := [100359, 200279]
theorem yl_lkX11 (K : ys_K) : ys_Lk RX11 (ys_ws yG K) vwCl yl_flX11 yl_ciX11 yl_cjX11 yl_cpX11 := by
  refine ⟨yg_flc_ok (pls := [(2, 166), (2, 167), (2, 168), (2, 169), (2, 170), (2, 171), (2, 172), (2, 173), (2, 174), (2, 175), (2, 176), (2, 177), (2, 178), (2, 179), (2, 180), (1, 67), (1, 35), (1, 44), (1, 54), (1, 63), (2, 154), (2, 152), (1, 175), (1, 173), (1, 162), (1, 165), (1, 177), (1, 179), (1, 181), (1, 183), (1, 226), (1, 228), (1, 222), (1, 224), (2, 26), (2, 28), (1, 123), (1, 125), (1, 127), (1, 129), (1, 131), (1, 99), (1, 101), (2, 62), (2, 48), (2, 50), (2, 52), (2, 54), (2, 56), (2, 64), (2, 60), (2, 58), (2, 117), (2, 115)]) (by decide +kernel) K, yg_cic_ok (pls := []) (by decide +kernel) K, yg_cjc_ok (pls := [(3, 55), (3, 166), (3, 167), (3, 180)]) (by decide +kernel) K, fun idx hi => ?_⟩
  rcases List.mem_cons.mp hi with hq | hi
  · subst hq
    exact ⟨List.mem_cons_of_mem _ (yG_at (5, 47) rfl), List.mem_cons_of_mem _ (yG_at (3, 130) rfl), List.mem_cons_of_mem _ (yG_at (1, 16) rfl), List.mem_cons_of_mem _ (yG_at (3, 131) rfl)⟩
  rcases List.mem_cons.mp hi with hq | hi
  · subst hq
    exact ⟨List.mem_cons_of_mem _ (yG_at (4, 113) rfl), List.mem_cons_of_mem _ (yG_at (3, 127) rfl), List.mem_cons_of_mem _ (yG_at (1, 16) rfl), List.mem_cons_of_mem _ (yG_at (3, 128) rfl)⟩
  cases hi
noncomputable def yl_flX0 : ys_FL := [(9, 0, 0, 2), (15, 0, 1, 0), (19, 0, 2, 2), (22, 0, 3, 0), (25, 0, 4, 2), (47, 6, 4, 0), (52, 6, 2, 2), (55, 6, 0, 2), (65, 6, 1, 2)]
noncomputable def yl_ciX0 : List (Nat × Int) := []
noncomputable def yl_cjX0 : List (Nat × Int) := []
noncomputable def yl_cpX0 : List Nat := [100074, 200068]
theorem yl_lkX0 (K : ys_K) : ys_Lk RX0 (ys_ws yG K) vwCl yl_flX0 yl_ciX0 yl_cjX0 yl_cpX0 := by
  refine ⟨yg_flc_ok (pls := [(2, 129), (2, 130), (2, 131), (2, 132), (2, 133), (1, 70), (1, 53), (1, 37), (1, 48)]) (by decide +kernel) K, yg_cic_ok (pls := []) (by decide +kernel) K, yg_cjc_ok (pls := []) (by decide +kernel) K, fun idx hi => ?_⟩
  rcases List.mem_cons.mp hi with hq | hi
  · subst hq
    exact ⟨List.mem_cons_of_mem _ (yG_at (5, 97) rfl), List.mem_cons_of_mem _ (yG_at (3, 130) rfl), List.mem_cons_of_mem _ (yG_at (1, 16) rfl), List.mem_cons_of_mem _ (yG_at (3, 131) rfl)⟩
  rcases List.mem_cons.mp hi with hq | hi
  · subst hq
    exact ⟨List.mem_cons_of_mem _ (yG_at (5, 96) rfl), List.mem_cons_of_mem _ (yG_at (3, 127) rfl), List.mem_cons_of_mem _ (yG_at (1, 16) rfl), List.mem_cons_of_mem _ (yG_at (3, 128) rfl)⟩
  cases hi
noncomputable def yl_flX1 : ys_FL := [(7, 1, 0, 1), (13, 1, 1, 1)]
noncomputable def yl_ciX1 : List (Nat × Int) := []
noncomputable def yl_cjX1 : List (Nat × Int) := []
noncomputable def yl_cpX1 : List Nat := []
theorem yl_lkX1 (K : ys_K) : ys_Lk RX1 (ys_ws yG K) vwCl yl_flX1 yl_ciX1 yl_cjX1 yl_cpX1 := by
  refine ⟨yg_flc_ok (pls := [(1, 160), (1, 163)]) (by decide +kernel) K, yg_cic_ok (pls := []) (by decide +kernel) K, yg_cjc_ok (pls := []) (by decide +kernel) K, fun idx hi => ?_⟩
  cases hi
noncomputable def yl_flX2 : ys_FL := [(9, 2, 0, 0), (15, 2, 1, 0), (18, 2, 2, 2), (22, 2, 3, 2), (25, 2, 4, 2), (40, 6, 4, 0), (43, 6, 0, 2), (46, 6, 1, 2), (59, 6, 2, 2)]
noncomputable def yl_ciX2 : List (Nat × Int) := [(32, (-1000000)), (33, 1000000)]
noncomputable def yl_cjX2 : List (Nat × Int) := []
noncomputable def yl_cpX2 : List Nat := [34]
theorem yl_lkX2 (K : ys_K) : ys_Lk RX2 (ys_ws yG K) vwCl yl_flX2 yl_ciX2 yl_cjX2 yl_cpX2 := by
  refine ⟨yg_flc_ok (pls := [(1, 98), (1, 100), (1, 102), (1, 103), (1, 104), (1, 73), (1, 40), (1, 49), (1, 59)]) (by decide +kernel) K, yg_cic_ok (pls := [(4, 43), (4, 44)]) (by decide +kernel) K, yg_cjc_ok (pls := []) (by decide +kernel) K, fun idx hi => ?_⟩
  rcases List.mem_cons.mp hi with hq | hi
  · subst hq
    exact ⟨List.mem_cons_of_mem _ (yG_at (5, 122) rfl), List.mem_cons_of_mem _ (yG_at (3, 70) rfl), List.mem_cons_of_mem _ (yG_at (3, 69) rfl), List.mem_cons_of_mem _ (yG_at (1, 15) rfl)⟩
  cases hi
noncomputable def yl_flX3 : ys_FL := [(9, 3, 0, 1), (15, 3, 1, 1), (18, 3, 2, 1), (21, 3, 3, 1), (24, 3, 4, 1), (31, 6, 4, 0), (37, 6, 0, 2), (41, 6, 1, 2), (44, 6, 2, 2)]
noncomputable def yl_ciX3 : List (Nat × Int) := []
noncomputable def yl_cjX3 : List (Nat × Int) := []
noncomputable def yl_cpX3 : List Nat := []
theorem yl_lkX3 (K : ys_K) : ys_Lk RX3 (ys_ws yG K) vwCl yl_flX3 yl_ciX3 yl_cjX3 yl_cpX3 := by
  refine ⟨yg_flc_ok (pls := [(1, 122), (1, 124), (1, 126), (1, 128), (1, 130), (1, 71), (1, 38), (1, 46), (1, 57)]) (by decide +kernel) K, yg_cic_ok (pls := []) (by decide +kernel) K, yg_cjc_ok (pls := []) (by decide +kernel) K, fun idx hi => ?_⟩
  cases hi
noncomputable def yl_flX4 : ys_FL := [(12, 4, 0, 2), (18, 4, 1, 2), (21, 4, 2, 0), (25, 4, 3, 0), (28, 4, 4, 2), (32, 4, 5, 2), (36, 4, 6, 2), (39, 4, 7, 2), (42, 4, 8, 0), (45, 4, 9, 0), (48, 4, 10, 0), (53, 1, 0, 1), (57, 1, 1, 1), (60, 6, 5, 0), (102, 6, 4, 0), (103, 6, 2, 2), (142, 6, 0, 2), (145, 6, 1, 2)]
noncomputable def yl_ciX4 : List (Nat × Int) := []
noncomputable def yl_cjX4 : List (Nat × Int) := [(51, (-1000000))]
noncomputable def yl_cpX4 : List Nat := []
theorem yl_lkX4 (K : ys_K) : ys_Lk RX4 (ys_ws yG K) vwCl yl_flX4 yl_ciX4 yl_cjX4 yl_cpX4 := by
  refine ⟨yg_flc_ok (pls := [(1, 221), (1, 223), (1, 225), (1, 227), (1, 229), (1, 230), (1, 231), (1, 232), (1, 233), (1, 234), (1, 235), (1, 161), (1, 164), (1, 77), (1, 72), (1, 56), (1, 41), (1, 50)]) (by decide +kernel) K, yg_cic_ok (pls := []) (by decide +kernel) K, yg_cjc_ok (pls := [(4, 32)]) (by decide +kernel) K, fun idx hi => ?_⟩
  cases hi
noncomputable def yl_flX5 : ys_FL := [(9, 5, 0, 0), (15, 5, 1, 0), (18, 5, 2, 2), (22, 5, 3, 0), (69, 6, 2, 2), (73, 6, 3, 2), (84, 6, 4, 0)]
noncomputable def yl_ciX5 : List (Nat × Int) := []
noncomputable def yl_cjX5 : List (Nat × Int) := []
noncomputable def yl_cpX5 : List Nat := []
theorem yl_lkX5 (K : ys_K) : ys_Lk RX5 (ys_ws yG K) vwCl yl_flX5 yl_ciX5 yl_cjX5 yl_cpX5 := by
  refine ⟨yg_flc_ok (pls := [(2, 25), (2, 27), (2, 29), (2, 30), (1, 60), (1, 64), (1, 74)]) (by decide +kernel) K, yg_cic_ok (pls := []) (by decide +kernel) K, yg_cjc_ok (pls := []) (by decide +kernel) K, fun idx hi => ?_⟩
  cases hi
noncomputable def yl_flX6 : ys_FL := [(9, 6, 0, 2), (15, 6, 1, 2), (18, 6, 2, 2), (21, 6, 3, 2), (24, 6, 4, 0), (28, 6, 5, 0)]
noncomputable def yl_ciX6 : List (Nat × Int) := []
noncomputable def yl_cjX6 : List (Nat × Int) := [(31, (-300)), (33, 300)]
noncomputable def yl_cpX6 : List Nat := [39]
theorem yl_lkX6 (K : ys_K) : ys_Lk RX6 (ys_ws yG K) vwCl yl_flX6 yl_ciX6 yl_cjX6 yl_cpX6 := by
  refine ⟨yg_flc_ok (pls := [(1, 33), (1, 42), (1, 51), (1, 61), (1, 65), (1, 75)]) (by decide +kernel) K, yg_cic_ok (pls := []) (by decide +kernel) K, yg_cjc_ok (pls := [(2, 219), (2, 220)]) (by decide +kernel) K, fun idx hi => ?_⟩
  rcases List.mem_cons.mp hi with hq | hi
  · subst hq
    exact ⟨List.mem_cons_of_mem _ (yG_at (5, 117) rfl), List.mem_cons_of_mem _ (yG_at (3, 70) rfl), List.mem_cons_of_mem _ (yG_at (3, 69) rfl), List.mem_cons_of_mem _ (yG_at (1, 15) rfl)⟩
  cases hi
noncomputable def yl_flX7 : ys_FL := [(9, 7, 0, 2), (15, 7, 1, 0), (27, 6, 4, 0), (32, 6, 2, 2), (39, 6, 0, 2), (42, 6, 1, 2)]
noncomputable def yl_ciX7 : List (Nat × Int) := []
noncomputable def yl_cjX7 : List (Nat × Int) := []
noncomputable def yl_cpX7 : List Nat := [100078, 200064]
theorem yl_lkX7 (K : ys_K) : ys_Lk RX7 (ys_ws yG K) vwCl yl_flX7 yl_ciX7 yl_cjX7 yl_cpX7 := by
  refine ⟨yg_flc_ok (pls := [(2, 114), (2, 116), (1, 69), (1, 52), (1, 36), (1, 45)]) (by decide +kernel) K, yg_cic_ok (pls := []) (by decide +kernel) K, yg_cjc_ok (pls := []) (by decide +kernel) K, fun idx hi => ?_⟩
  rcases List.mem_cons.mp hi with hq | hi
  · subst hq
    exact ⟨List.mem_cons_of_mem _ (yG_at (5, 66) rfl), List.mem_cons_of_mem _ (yG_at (3, 130) rfl), List.mem_cons_of_mem _ (yG_at (1, 16) rfl), List.mem_cons_of_mem _ (yG_at (3, 131) rfl)⟩
  rcases List.mem_cons.mp hi with hq | hi
  · subst hq
    exact ⟨List.mem_cons_of_mem _ (yG_at (5, 54) rfl), List.mem_cons_of_mem _ (yG_at (3, 127) rfl), List.mem_cons_of_mem _ (yG_at (1, 16) rfl), List.mem_cons_of_mem _ (yG_at (3, 128) rfl)⟩
  cases hi
noncomputable def yl_flX8 : ys_FL := [(9, 8, 0, 2), (15, 8, 1, 3), (19, 8, 2, 0), (23, 8, 3, 0)]
noncomputable def yl_ciX8 : List (Nat × Int) := []
noncomputable def yl_cjX8 : List (Nat × Int) := [(42, 2)]
noncomputable def yl_cpX8 : List Nat := [36]
theorem yl_lkX8 (K : ys_K) : ys_Lk RX8 (ys_ws yG K) vwCl yl_flX8 yl_ciX8 yl_cjX8 yl_cpX8 := by
  refine ⟨yg_flc_ok (pls := [(2, 151), (2, 153), (2, 155), (2, 156)]) (by decide +kernel) K, yg_cic_ok (pls := []) (by decide +kernel) K, yg_cjc_ok (pls := [(3, 79)]) (by decide +kernel) K, fun idx hi => ?_⟩
  rcases List.mem_cons.mp hi with hq | hi
  · subst hq
    exact ⟨List.mem_cons_of_mem _ (yG_at (3, 68) rfl), List.mem_cons_of_mem _ (yG_at (3, 70) rfl), List.mem_cons_of_mem _ (yG_at (3, 69) rfl), List.mem_cons_of_mem _ (yG_at (1, 15) rfl)⟩
  cases hi
noncomputable def yl_flX9 : ys_FL := [(9, 9, 0, 2), (15, 9, 1, 2), (18, 9, 2, 2), (21, 9, 3, 2), (25, 9, 4, 2), (28, 9, 5, 2), (31, 9, 6, 0), (35, 9, 7, 0), (38, 9, 8, 0), (41, 9, 9, 2), (44, 9, 10, 2), (47, 9, 11, 2), (50, 9, 12, 0), (53, 9, 13, 0), (56, 9, 14, 0), (59, 9, 15, 1), (63, 9, 16, 1), (66, 6, 4, 0), (69, 6, 3, 2), (92, 6, 0, 2), (95, 6, 1, 2), (102, 6, 2, 2)]
noncomputable def yl_ciX9 : List (Nat × Int) := []
noncomputable def yl_cjX9 : List (Nat × Int) := [(82, 2), (128, 1099511627776), (149, 65535)]
noncomputable def yl_cpX9 : List Nat := [130]
theorem yl_lkX9 (K : ys_K) : ys_Lk RX9 (ys_ws yG K) vwCl yl_flX9 yl_ciX9 yl_cjX9 yl_cpX9 := by
  refine ⟨yg_flc_ok (pls := [(2, 47), (2, 49), (2, 51), (2, 53), (2, 55), (2, 57), (2, 59), (2, 61), (2, 63), (2, 65), (2, 66), (2, 67), (2, 68), (2, 69), (2, 70), (2, 71), (2, 72), (1, 66), (1, 62), (1, 39), (1, 47), (1, 58)]) (by decide +kernel) K, yg_cic_ok (pls := []) (by decide +kernel) K, yg_cjc_ok (pls := [(4, 215), (4, 230), (5, 19)]) (by decide +kernel) K, fun idx hi => ?_⟩
  rcases List.mem_cons.mp hi with hq | hi
  · subst hq
    exact ⟨List.mem_cons_of_mem _ (yG_at (4, 231) rfl), List.mem_cons_of_mem _ (yG_at (3, 70) rfl), List.mem_cons_of_mem _ (yG_at (3, 69) rfl), List.mem_cons_of_mem _ (yG_at (1, 15) rfl)⟩
  cases hi
noncomputable def yl_flX10 : ys_FL := [(12, 10, 0, 2), (18, 10, 1, 3), (22, 10, 2, 1), (26, 10, 3, 1), (29, 10, 4, 1), (32, 10, 5, 0), (36, 10, 6, 0), (39, 10, 7, 0), (42, 10, 8, 0), (45, 10, 9, 0), (48, 10, 10, 0), (51, 6, 5, 0), (60, 6, 4, 0), (71, 6, 0, 2), (75, 6, 1, 2), (82, 6, 2, 2)]
noncomputable def yl_ciX10 : List (Nat × Int) := [(88, 1000000), (89, (-1000000))]
noncomputable def yl_cjX10 : List (Nat × Int) := [(111, 2)]
noncomputable def yl_cpX10 : List Nat := [100096, 200090]
theorem yl_lkX10 (K : ys_K) : ys_Lk RX10 (ys_ws yG K) vwCl yl_flX10 yl_ciX10 yl_cjX10 yl_cpX10 := by
  refine ⟨yg_flc_ok (pls := [(1, 172), (1, 174), (1, 176), (1, 178), (1, 180), (1, 182), (1, 184), (1, 185), (1, 186), (1, 187), (1, 188), (1, 76), (1, 68), (1, 34), (1, 43), (1, 55)]) (by decide +kernel) K, yg_cic_ok (pls := [(3, 124), (3, 125)]) (by decide +kernel) K, yg_cjc_ok (pls := [(3, 156)]) (by decide +kernel) K, fun idx hi => ?_⟩
  rcases List.mem_cons.mp hi with hq | hi
  · subst hq
    exact ⟨List.mem_cons_of_mem _ (yG_at (3, 129) rfl), List.mem_cons_of_mem _ (yG_at (3, 130) rfl), List.mem_cons_of_mem _ (yG_at (1, 16) rfl), List.mem_cons_of_mem _ (yG_at (3, 131) rfl)⟩
  rcases List.mem_cons.mp hi with hq | hi
  · subst hq
    exact ⟨List.mem_cons_of_mem _ (yG_at (3, 126) rfl), List.mem_cons_of_mem _ (yG_at (3, 127) rfl), List.mem_cons_of_mem _ (yG_at (1, 16) rfl), List.mem_cons_of_mem _ (yG_at (3, 128) rfl)⟩
  cases hi
noncomputable def yl_flX12 : ys_FL := [(7, 12, 2, 2), (13, 12, 3, 2), (16, 12, 4, 2), (19, 12, 5, 2), (22, 12, 7, 2), (26, 12, 8, 2), (29, 12, 9, 2), (32, 12, 10, 2), (35, 12, 13, 2), (38, 12, 14, 2), (41, 12, 15, 2), (44, 12, 24, 2), (48, 12, 25, 2), (51, 12, 27, 2), (54, 12, 33, 2), (57, 12, 34, 2), (60, 12, 35, 2), (63, 12, 38, 2), (66, 12, 39, 2), (69, 12, 40, 2), (72, 12, 41, 2), (75, 12, 42, 2), (78, 12, 44, 0), (82, 12, 45, 2), (85, 12, 47, 2), (88, 12, 48, 2), (91, 12, 49, 2), (94, 12, 50, 2), (97, 12, 52, 2), (100, 12, 53, 2), (103, 12, 54, 2), (106, 12, 55, 2), (109, 12, 56, 2), (112, 12, 57, 2), (115, 12, 58, 2), (118, 12, 59, 2), (121, 12, 60, 2), (124, 12, 0, 0), (127, 12, 1, 0), (130, 12, 6, 0), (184, 12, 16, 1), (188, 12, 17, 1), (191, 12, 18, 1), (202, 12, 11, 0), (205, 12, 12, 0), (282, 12, 23, 1), (285, 12, 22, 1), (288, 12, 19, 3), (292, 12, 20, 1), (295, 12, 21, 1), (322, 12, 26, 0), (345, 12, 28, 1), (348, 12, 29, 1), (351, 12, 30, 1), (354, 12, 32, 1), (357, 12, 31, 1), (360, 12, 36, 0), (363, 12, 37, 0), (366, 12, 46, 0), (376, 12, 43, 0), (396, 12, 51, 0)]
noncomputable def yl_ciX12 : List (Nat × Int) := [(344, 1000000)]
noncomputable def yl_cjX12 : List (Nat × Int) := [(137, (-300)), (139, 300), (153, 3), (155, 1000), (164, (-9223372036854775808)), (166, 40), (168, 2), (182, (-1)), (256, 10), (258, 13), (260, 20), (262, 23), (264, 30), (266, 33), (268, 43), (270, (-1000000)), (272, (-6)), (274, 39), (280, 9223372036854775807), (305, 5), (313, 1000000), (336, 12), (382, 1099511627776), (390, 65535), (406, (-1000))]
noncomputable def yl_cpX12 : List Nat := []
theorem yl_lkX12 (K : ys_K) : ys_Lk RX12 (ys_ws yG K) vwCl yl_flX12 yl_ciX12 yl_cjX12 yl_cpX12 := by
  refine ⟨yg_flc_ok (pls := [(5, 155), (5, 156), (5, 157), (5, 158), (5, 160), (5, 161), (5, 162), (5, 163), (5, 166), (5, 167), (5, 168), (5, 177), (5, 178), (5, 180), (5, 186), (5, 187), (5, 188), (5, 191), (5, 192), (5, 193), (5, 194), (5, 195), (5, 197), (5, 198), (5, 200), (5, 201), (5, 202), (5, 203), (5, 205), (5, 206), (5, 207), (5, 208), (5, 209), (5, 210), (5, 211), (5, 212), (5, 213), (5, 153), (5, 154), (5, 159), (5, 169), (5, 170), (5, 171), (5, 164), (5, 165), (5, 176), (5, 175), (5, 172), (5, 173), (5, 174), (5, 179), (5, 181), (5, 182), (5, 183), (5, 185), (5, 184), (5, 189), (5, 190), (5, 199), (5, 196), (5, 204)]) (by decide +kernel) K, yg_cic_ok (pls := [(7, 87)]) (by decide +kernel) K, yg_cjc_ok (pls := [(6, 101), (6, 102), (6, 122), (6, 131), (6, 150), (6, 159), (6, 160), (6, 181), (7, 1), (7, 2), (7, 3), (7, 4), (7, 5), (7, 6), (7, 7), (7, 8), (7, 9), (7, 10), (7, 34), (7, 21), (7, 50), (7, 62), (7, 143), (7, 164), (7, 181)]) (by decide +kernel) K, fun idx hi => ?_⟩
  cases hi
noncomputable def yl_flJ6 : ys_FL := []
noncomputable def yl_ciJ6 : List (Nat × Int) := [(265, 1431655765), (266, 858993459), (267, 252645135)]
noncomputable def yl_cjJ6 : List (Nat × Int) := []
noncomputable def yl_cpJ6 : List Nat := []
theorem yl_lkJ6 (K : ys_K) : ys_Lk RJ6 (ys_ws yG K) vwCl yl_flJ6 yl_ciJ6 yl_cjJ6 yl_cpJ6 := by
  refine ⟨yg_flc_ok (pls := []) (by decide +kernel) K, yg_cic_ok (pls := [(4, 120), (4, 121), (4, 122)]) (by decide +kernel) K, yg_cjc_ok (pls := []) (by decide +kernel) K, fun idx hi => ?_⟩
  cases hi
noncomputable def yl_flJ13 : ys_FL := []
noncomputable def yl_ciJ13 : List (Nat × Int) := []
noncomputable def yl_cjJ13 : List (Nat × Int) := [(314, 6148914691236517205), (316, 3689348814741910323), (318, 1085102592571150095)]
noncomputable def yl_cpJ13 : List Nat := []
theorem yl_lkJ13 (K : ys_K) : ys_Lk RJ13 (ys_ws yG K) vwCl yl_flJ13 yl_ciJ13 yl_cjJ13 yl_cpJ13 := by
  refine ⟨yg_flc_ok (pls := []) (by decide +kernel) K, yg_cic_ok (pls := []) (by decide +kernel) K, yg_cjc_ok (pls := [(4, 83), (4, 84), (4, 85)]) (by decide +kernel) K, fun idx hi => ?_⟩
  cases hi
noncomputable def yl_flJ7 : ys_FL := []
noncomputable def yl_ciJ7 : List (Nat × Int) := []
noncomputable def yl_cjJ7 : List (Nat × Int) := []
noncomputable def yl_cpJ7 : List Nat := []
theorem yl_lkJ7 (K : ys_K) : ys_Lk RJ7 (ys_ws yG K) vwCl yl_flJ7 yl_ciJ7 yl_cjJ7 yl_cpJ7 := by
  refine ⟨yg_flc_ok (pls := []) (by decide +kernel) K, yg_cic_ok (pls := []) (by decide +kernel) K, yg_cjc_ok (pls := []) (by decide +kernel) K, fun idx hi => ?_⟩
  cases hi
theorem yl_wX11_99 : ∀ w ∈ va_wsS RX11 99 yX6_isNear [Cond.code yX6_isNear cX6_isNear 2 (some .boolean)], w ∈ yG := List.forall_mem_cons.mpr ⟨yG_at (2, 216) rfl, List.forall_mem_cons.mpr ⟨yG_at (2, 217) rfl, List.forall_mem_cons.mpr ⟨yG_at (1, 2) rfl, List.forall_mem_cons.mpr ⟨yG_at (2, 218) rfl, fun _ h => absurd h List.not_mem_nil⟩⟩⟩⟩
theorem yl_wX11_103 : ∀ w ∈ va_wsS RX11 103 yX6_isColour [Cond.code yX6_isColour cX6_isColour 1 (some .boolean)], w ∈ yG := List.forall_mem_cons.mpr ⟨yG_at (2, 221) rfl, List.forall_mem_cons.mpr ⟨yG_at (2, 222) rfl, List.forall_mem_cons.mpr ⟨yG_at (1, 2) rfl, List.forall_mem_cons.mpr ⟨yG_at (2, 223) rfl, fun _ h => absurd h List.not_mem_nil⟩⟩⟩⟩
theorem yl_wX11_107 : ∀ w ∈ wsV RX11 107 RX11 yX11_told [Cond.code yX11_told cX11_told 2 (some .int)], w ∈ yG := List.forall_mem_cons.mpr ⟨yG_at (2, 224) rfl, List.forall_mem_cons.mpr ⟨yG_at (2, 226) rfl, List.forall_mem_cons.mpr ⟨yG_at (0, 0) rfl, List.forall_mem_cons.mpr ⟨yG_at (1, 1) rfl, List.forall_mem_cons.mpr ⟨yG_at (2, 227) rfl, fun _ h => absurd h List.not_mem_nil⟩⟩⟩⟩⟩
theorem yl_wX11_114 : ∀ w ∈ wsV RX11 114 RX6 yX6_add [Cond.code yX6_add cX6_add 4 none], w ∈ yG := List.forall_mem_cons.mpr ⟨yG_at (2, 228) rfl, List.forall_mem_cons.mpr ⟨yG_at (2, 229) rfl, List.forall_mem_cons.mpr ⟨yG_at (2, 230) rfl, List.forall_mem_cons.mpr ⟨yG_at (1, 2) rfl, List.forall_mem_cons.mpr ⟨yG_at (2, 231) rfl, fun _ h => absurd h List.not_mem_nil⟩⟩⟩⟩⟩
theorem yl_wX11_118 : ∀ w ∈ wsV RX11 118 RX6 yX6_has [Cond.code yX6_has cX6_has 2 (some .boolean)], w ∈ yG := List.forall_mem_cons.mpr ⟨yG_at (2, 236) rfl, List.forall_mem_cons.mpr ⟨yG_at (2, 237) rfl, List.forall_mem_cons.mpr ⟨yG_at (2, 238) rfl, List.forall_mem_cons.mpr ⟨yG_at (1, 2) rfl, List.forall_mem_cons.mpr ⟨yG_at (2, 239) rfl, fun _ h => absurd h List.not_mem_nil⟩⟩⟩⟩⟩
theorem yl_wX11_134 : ∀ w ∈ wsV RX11 134 RX6 yX6_remove [Cond.code yX6_remove cX6_remove 3 none], w ∈ yG := List.forall_mem_cons.mpr ⟨yG_at (3, 4) rfl, List.forall_mem_cons.mpr ⟨yG_at (3, 5) rfl, List.forall_mem_cons.mpr ⟨yG_at (3, 6) rfl, List.forall_mem_cons.mpr ⟨yG_at (1, 2) rfl, List.forall_mem_cons.mpr ⟨yG_at (3, 7) rfl, fun _ h => absurd h List.not_mem_nil⟩⟩⟩⟩⟩
theorem yl_wX11_138 : ∀ w ∈ wsV RX11 138 RX6 yX6_repaint [Cond.code yX6_repaint cX6_repaint 4 none], w ∈ yG := List.forall_mem_cons.mpr ⟨yG_at (3, 13) rfl, List.forall_mem_cons.mpr ⟨yG_at (3, 14) rfl, List.forall_mem_cons.mpr ⟨yG_at (3, 15) rfl, List.forall_mem_cons.mpr ⟨yG_at (1, 2) rfl, List.forall_mem_cons.mpr ⟨yG_at (3, 16) rfl, fun _ h => absurd h List.not_mem_nil⟩⟩⟩⟩⟩
theorem yl_wX11_141 : ∀ w ∈ va_wsS RX11 141 yX11_isSheet [Cond.code yX11_isSheet cX11_isSheet 1 (some .boolean)], w ∈ yG := List.forall_mem_cons.mpr ⟨yG_at (3, 21) rfl, List.forall_mem_cons.mpr ⟨yG_at (3, 22) rfl, List.forall_mem_cons.mpr ⟨yG_at (1, 1) rfl, List.forall_mem_cons.mpr ⟨yG_at (3, 23) rfl, fun _ h => absurd h List.not_mem_nil⟩⟩⟩⟩
theorem yl_wX11_144 : ∀ w ∈ wsV RX11 144 RX8 yX8_tear [Cond.code yX8_tear cX8_tear 1 none], w ∈ yG := List.forall_mem_cons.mpr ⟨yG_at (3, 24) rfl, List.forall_mem_cons.mpr ⟨yG_at (3, 25) rfl, List.forall_mem_cons.mpr ⟨yG_at (3, 26) rfl, List.forall_mem_cons.mpr ⟨yG_at (1, 12) rfl, List.forall_mem_cons.mpr ⟨yG_at (3, 27) rfl, fun _ h => absurd h List.not_mem_nil⟩⟩⟩⟩⟩
theorem yl_wX11_147 : ∀ w ∈ wsV RX11 147 RX8 yX8_lay [Cond.code yX8_lay cX8_lay 3 none], w ∈ yG := List.forall_mem_cons.mpr ⟨yG_at (3, 28) rfl, List.forall_mem_cons.mpr ⟨yG_at (3, 29) rfl, List.forall_mem_cons.mpr ⟨yG_at (3, 30) rfl, List.forall_mem_cons.mpr ⟨yG_at (1, 12) rfl, List.forall_mem_cons.mpr ⟨yG_at (3, 31) rfl, fun _ h => absurd h List.not_mem_nil⟩⟩⟩⟩⟩
theorem yl_wX11_155 : ∀ w ∈ wsV RX11 155 RX8 yX8_has [Cond.code yX8_has cX8_has 2 (some .boolean)], w ∈ yG := List.forall_mem_cons.mpr ⟨yG_at (3, 39) rfl, List.forall_mem_cons.mpr ⟨yG_at (3, 40) rfl, List.forall_mem_cons.mpr ⟨yG_at (3, 41) rfl, List.forall_mem_cons.mpr ⟨yG_at (1, 12) rfl, List.forall_mem_cons.mpr ⟨yG_at (3, 42) rfl, fun _ h => absurd h List.not_mem_nil⟩⟩⟩⟩⟩
theorem yl_wX11_156 : ∀ w ∈ wsV RX11 156 RX8 yX8_put [Cond.code yX8_put cX8_put 4 none], w ∈ yG := List.forall_mem_cons.mpr ⟨yG_at (3, 43) rfl, List.forall_mem_cons.mpr ⟨yG_at (3, 44) rfl, List.forall_mem_cons.mpr ⟨yG_at (3, 45) rfl, List.forall_mem_cons.mpr ⟨yG_at (1, 12) rfl, List.forall_mem_cons.mpr ⟨yG_at (3, 46) rfl, fun _ h => absurd h List.not_mem_nil⟩⟩⟩⟩⟩
theorem yl_wX11_166 : ∀ w ∈ wsV RX11 166 RX8 yX8_hasAll [Cond.code yX8_hasAll cX8_hasAll 3 (some .boolean)], w ∈ yG := List.forall_mem_cons.mpr ⟨yG_at (3, 60) rfl, List.forall_mem_cons.mpr ⟨yG_at (3, 61) rfl, List.forall_mem_cons.mpr ⟨yG_at (3, 62) rfl, List.forall_mem_cons.mpr ⟨yG_at (1, 12) rfl, List.forall_mem_cons.mpr ⟨yG_at (3, 63) rfl, fun _ h => absurd h List.not_mem_nil⟩⟩⟩⟩⟩
theorem yl_wX11_170 : ∀ w ∈ wsV RX11 170 RX8 yX8_putAll [Cond.code yX8_putAll cX8_putAll 6 none], w ∈ yG := List.forall_mem_cons.mpr ⟨yG_at (3, 64) rfl, List.forall_mem_cons.mpr ⟨yG_at (3, 65) rfl, List.forall_mem_cons.mpr ⟨yG_at (3, 66) rfl, List.forall_mem_cons.mpr ⟨yG_at (1, 12) rfl, List.forall_mem_cons.mpr ⟨yG_at (3, 67) rfl, fun _ h => absurd h List.not_mem_nil⟩⟩⟩⟩⟩
theorem yl_wX11_174 : ∀ w ∈ wsV RX11 174 RX8 yX8_hasEveryX [Cond.code yX8_hasEveryX cX8_hasEveryX 3 (some .boolean)], w ∈ yG := List.forall_mem_cons.mpr ⟨yG_at (3, 75) rfl, List.forall_mem_cons.mpr ⟨yG_at (3, 76) rfl, List.forall_mem_cons.mpr ⟨yG_at (3, 77) rfl, List.forall_mem_cons.mpr ⟨yG_at (1, 12) rfl, List.forall_mem_cons.mpr ⟨yG_at (3, 78) rfl, fun _ h => absurd h List.not_mem_nil⟩⟩⟩⟩⟩
theorem yl_wX11_177 : ∀ w ∈ wsV RX11 177 RX8 yX8_hasNearPlaces [Cond.code yX8_hasNearPlaces cX8_hasNearPlaces 4 (some .boolean)], w ∈ yG := List.forall_mem_cons.mpr ⟨yG_at (3, 80) rfl, List.forall_mem_cons.mpr ⟨yG_at (3, 81) rfl, List.forall_mem_cons.mpr ⟨yG_at (3, 82) rfl, List.forall_mem_cons.mpr ⟨yG_at (1, 12) rfl, List.forall_mem_cons.mpr ⟨yG_at (3, 83) rfl, fun _ h => absurd h List.not_mem_nil⟩⟩⟩⟩⟩
theorem yl_wX11_180 : ∀ w ∈ wsV RX11 180 RX8 yX8_numberOrZero [Cond.code yX8_numberOrZero cX8_numberOrZero 2 (some .long)], w ∈ yG := List.forall_mem_cons.mpr ⟨yG_at (3, 90) rfl, List.forall_mem_cons.mpr ⟨yG_at (3, 85) rfl, List.forall_mem_cons.mpr ⟨yG_at (3, 86) rfl, List.forall_mem_cons.mpr ⟨yG_at (1, 12) rfl, List.forall_mem_cons.mpr ⟨yG_at (3, 87) rfl, fun _ h => absurd h List.not_mem_nil⟩⟩⟩⟩⟩
theorem yl_wX11_184 : ∀ w ∈ wsV RX11 184 RX11 yX11_areParted [Cond.code yX11_areParted cX11_areParted 1 (some .boolean)], w ∈ yG := List.forall_mem_cons.mpr ⟨yG_at (3, 95) rfl, List.forall_mem_cons.mpr ⟨yG_at (3, 97) rfl, List.forall_mem_cons.mpr ⟨yG_at (0, 2) rfl, List.forall_mem_cons.mpr ⟨yG_at (1, 1) rfl, List.forall_mem_cons.mpr ⟨yG_at (3, 98) rfl, fun _ h => absurd h List.not_mem_nil⟩⟩⟩⟩⟩
theorem yl_wX11_190 : ∀ w ∈ wsV RX11 190 RX10 yX10_find [Cond.code yX10_find cX10_find 4 none], w ∈ yG := List.forall_mem_cons.mpr ⟨yG_at (3, 107) rfl, List.forall_mem_cons.mpr ⟨yG_at (3, 108) rfl, List.forall_mem_cons.mpr ⟨yG_at (3, 109) rfl, List.forall_mem_cons.mpr ⟨yG_at (1, 5) rfl, List.forall_mem_cons.mpr ⟨yG_at (3, 110) rfl, fun _ h => absurd h List.not_mem_nil⟩⟩⟩⟩⟩
theorem yl_wX11_222 : ∀ w ∈ wsV RX11 222 RX10 yX10_isAtSide [Cond.code yX10_isAtSide cX10_isAtSide 4 (some .boolean)], w ∈ yG := List.forall_mem_cons.mpr ⟨yG_at (3, 172) rfl, List.forall_mem_cons.mpr ⟨yG_at (3, 159) rfl, List.forall_mem_cons.mpr ⟨yG_at (3, 160) rfl, List.forall_mem_cons.mpr ⟨yG_at (1, 5) rfl, List.forall_mem_cons.mpr ⟨yG_at (3, 161) rfl, fun _ h => absurd h List.not_mem_nil⟩⟩⟩⟩⟩
theorem yl_wX11_226 : ∀ w ∈ va_wsS RX11 226 yX4_canTell [Cond.code yX4_canTell cX4_canTell 1 (some .boolean)], w ∈ yG := List.forall_mem_cons.mpr ⟨yG_at (3, 177) rfl, List.forall_mem_cons.mpr ⟨yG_at (3, 178) rfl, List.forall_mem_cons.mpr ⟨yG_at (1, 7) rfl, List.forall_mem_cons.mpr ⟨yG_at (3, 179) rfl, fun _ h => absurd h List.not_mem_nil⟩⟩⟩⟩
theorem yl_wX11_231 : ∀ w ∈ wsV RX11 231 RX4 yX4_find [Cond.code yX4_find cX4_find 2 none], w ∈ yG := List.forall_mem_cons.mpr ⟨yG_at (3, 181) rfl, List.forall_mem_cons.mpr ⟨yG_at (3, 182) rfl, List.forall_mem_cons.mpr ⟨yG_at (3, 183) rfl, List.forall_mem_cons.mpr ⟨yG_at (1, 7) rfl, List.forall_mem_cons.mpr ⟨yG_at (3, 184) rfl, fun _ h => absurd h List.not_mem_nil⟩⟩⟩⟩⟩
theorem yl_wX11_242 : ∀ w ∈ wsV RX11 242 RX4 yX4_tellPoint [Cond.code yX4_tellPoint cX4_tellPoint 3 (some .long)], w ∈ yG := List.forall_mem_cons.mpr ⟨yG_at (4, 28) rfl, List.forall_mem_cons.mpr ⟨yG_at (4, 29) rfl, List.forall_mem_cons.mpr ⟨yG_at (4, 30) rfl, List.forall_mem_cons.mpr ⟨yG_at (1, 7) rfl, List.forall_mem_cons.mpr ⟨yG_at (4, 31) rfl, fun _ h => absurd h List.not_mem_nil⟩⟩⟩⟩⟩
theorem yl_wX11_246 : ∀ w ∈ va_wsS RX11 246 yX2_isLine [Cond.code yX2_isLine cX2_isLine 3 (some .boolean)], w ∈ yG := List.forall_mem_cons.mpr ⟨yG_at (4, 37) rfl, List.forall_mem_cons.mpr ⟨yG_at (4, 38) rfl, List.forall_mem_cons.mpr ⟨yG_at (1, 3) rfl, List.forall_mem_cons.mpr ⟨yG_at (4, 39) rfl, fun _ h => absurd h List.not_mem_nil⟩⟩⟩⟩
theorem yl_wX11_250 : ∀ w ∈ va_wsS RX11 250 yX2_heightAbove [Cond.code yX2_heightAbove cX2_heightAbove 8 (some .long)], w ∈ yG := List.forall_mem_cons.mpr ⟨yG_at (4, 45) rfl, List.forall_mem_cons.mpr ⟨yG_at (4, 46) rfl, List.forall_mem_cons.mpr ⟨yG_at (1, 3) rfl, List.forall_mem_cons.mpr ⟨yG_at (4, 47) rfl, fun _ h => absurd h List.not_mem_nil⟩⟩⟩⟩
theorem yl_wX11_254 : ∀ w ∈ wsV RX11 254 RX11 yX11_canPartFirst [Cond.code yX11_canPartFirst cX11_canPartFirst 2 (some .boolean)], w ∈ yG := List.forall_mem_cons.mpr ⟨yG_at (4, 52) rfl, List.forall_mem_cons.mpr ⟨yG_at (4, 54) rfl, List.forall_mem_cons.mpr ⟨yG_at (0, 23) rfl, List.forall_mem_cons.mpr ⟨yG_at (1, 1) rfl, List.forall_mem_cons.mpr ⟨yG_at (4, 55) rfl, fun _ h => absurd h List.not_mem_nil⟩⟩⟩⟩⟩
theorem yl_wX11_257 : ∀ w ∈ wsV RX11 257 RX5 yX5_find [Cond.code yX5_find cX5_find 5 none], w ∈ yG := List.forall_mem_cons.mpr ⟨yG_at (4, 56) rfl, List.forall_mem_cons.mpr ⟨yG_at (4, 57) rfl, List.forall_mem_cons.mpr ⟨yG_at (4, 58) rfl, List.forall_mem_cons.mpr ⟨yG_at (1, 8) rfl, List.forall_mem_cons.mpr ⟨yG_at (4, 59) rfl, fun _ h => absurd h List.not_mem_nil⟩⟩⟩⟩⟩
theorem yl_wX11_260 : ∀ w ∈ wsV RX11 260 RX5 yX5_tally [Cond.code yX5_tally cX5_tally 3 (some .int)], w ∈ yG := List.forall_mem_cons.mpr ⟨yG_at (4, 76) rfl, List.forall_mem_cons.mpr ⟨yG_at (4, 77) rfl, List.forall_mem_cons.mpr ⟨yG_at (4, 78) rfl, List.forall_mem_cons.mpr ⟨yG_at (1, 8) rfl, List.forall_mem_cons.mpr ⟨yG_at (4, 79) rfl, fun _ h => absurd h List.not_mem_nil⟩⟩⟩⟩⟩
theorem yl_wX11_264 : ∀ w ∈ va_wsS RX11 264 yX5_fits [Cond.code yX5_fits cX5_fits 2 (some .boolean)], w ∈ yG := List.forall_mem_cons.mpr ⟨yG_at (4, 90) rfl, List.forall_mem_cons.mpr ⟨yG_at (4, 91) rfl, List.forall_mem_cons.mpr ⟨yG_at (1, 8) rfl, List.forall_mem_cons.mpr ⟨yG_at (4, 92) rfl, fun _ h => absurd h List.not_mem_nil⟩⟩⟩⟩
theorem yl_wX11_267 : ∀ w ∈ wsV RX11 267 RX5 yX5_isMarked [Cond.code yX5_isMarked cX5_isMarked 2 (some .boolean)], w ∈ yG := List.forall_mem_cons.mpr ⟨yG_at (4, 93) rfl, List.forall_mem_cons.mpr ⟨yG_at (4, 94) rfl, List.forall_mem_cons.mpr ⟨yG_at (4, 95) rfl, List.forall_mem_cons.mpr ⟨yG_at (1, 8) rfl, List.forall_mem_cons.mpr ⟨yG_at (4, 96) rfl, fun _ h => absurd h List.not_mem_nil⟩⟩⟩⟩⟩
theorem yl_wX11_270 : ∀ w ∈ wsV RX11 270 RX5 yX5_findLeastWrong [Cond.code yX5_findLeastWrong cX5_findLeastWrong 5 none], w ∈ yG := List.forall_mem_cons.mpr ⟨yG_at (4, 101) rfl, List.forall_mem_cons.mpr ⟨yG_at (4, 102) rfl, List.forall_mem_cons.mpr ⟨yG_at (4, 103) rfl, List.forall_mem_cons.mpr ⟨yG_at (1, 8) rfl, List.forall_mem_cons.mpr ⟨yG_at (4, 104) rfl, fun _ h => absurd h List.not_mem_nil⟩⟩⟩⟩⟩
theorem yl_wX11_285 : ∀ w ∈ va_wsS RX11 285 yX5_isShattered [Cond.code yX5_isShattered cX5_isShattered 6 (some .boolean)], w ∈ yG := List.forall_mem_cons.mpr ⟨yG_at (4, 114) rfl, List.forall_mem_cons.mpr ⟨yG_at (4, 115) rfl, List.forall_mem_cons.mpr ⟨yG_at (1, 8) rfl, List.forall_mem_cons.mpr ⟨yG_at (4, 116) rfl, fun _ h => absurd h List.not_mem_nil⟩⟩⟩⟩
theorem yl_wX11_288 : ∀ w ∈ wsV RX11 288 RX3 yX3_train [Cond.code yX3_train cX3_train 6 (some .int)], w ∈ yG := List.forall_mem_cons.mpr ⟨yG_at (4, 130) rfl, List.forall_mem_cons.mpr ⟨yG_at (4, 131) rfl, List.forall_mem_cons.mpr ⟨yG_at (4, 132) rfl, List.forall_mem_cons.mpr ⟨yG_at (1, 4) rfl, List.forall_mem_cons.mpr ⟨yG_at (4, 133) rfl, fun _ h => absurd h List.not_mem_nil⟩⟩⟩⟩⟩
theorem yl_wX11_307 : ∀ w ∈ wsV RX11 307 RX3 yX3_forget [Cond.code yX3_forget cX3_forget 1 none], w ∈ yG := List.forall_mem_cons.mpr ⟨yG_at (4, 150) rfl, List.forall_mem_cons.mpr ⟨yG_at (4, 151) rfl, List.forall_mem_cons.mpr ⟨yG_at (4, 152) rfl, List.forall_mem_cons.mpr ⟨yG_at (1, 4) rfl, List.forall_mem_cons.mpr ⟨yG_at (4, 153) rfl, fun _ h => absurd h List.not_mem_nil⟩⟩⟩⟩⟩
theorem yl_wX11_311 : ∀ w ∈ wsV RX11 311 RX2 yX2_add [Cond.code yX2_add cX2_add 4 none], w ∈ yG := List.forall_mem_cons.mpr ⟨yG_at (4, 158) rfl, List.forall_mem_cons.mpr ⟨yG_at (4, 159) rfl, List.forall_mem_cons.mpr ⟨yG_at (4, 160) rfl, List.forall_mem_cons.mpr ⟨yG_at (1, 3) rfl, List.forall_mem_cons.mpr ⟨yG_at (4, 161) rfl, fun _ h => absurd h List.not_mem_nil⟩⟩⟩⟩⟩
theorem yl_wX11_312 : ∀ w ∈ wsV RX11 312 RX2 yX2_thin [Cond.code yX2_thin cX2_thin 6 (some .int)], w ∈ yG := List.forall_mem_cons.mpr ⟨yG_at (4, 166) rfl, List.forall_mem_cons.mpr ⟨yG_at (4, 167) rfl, List.forall_mem_cons.mpr ⟨yG_at (4, 168) rfl, List.forall_mem_cons.mpr ⟨yG_at (1, 3) rfl, List.forall_mem_cons.mpr ⟨yG_at (4, 169) rfl, fun _ h => absurd h List.not_mem_nil⟩⟩⟩⟩⟩
theorem yl_wX11_319 : ∀ w ∈ wsV RX11 319 RX9 yX9_make [Cond.code yX9_make cX9_make 4 none], w ∈ yG := List.forall_mem_cons.mpr ⟨yG_at (4, 188) rfl, List.forall_mem_cons.mpr ⟨yG_at (4, 189) rfl, List.forall_mem_cons.mpr ⟨yG_at (4, 190) rfl, List.forall_mem_cons.mpr ⟨yG_at (1, 9) rfl, List.forall_mem_cons.mpr ⟨yG_at (4, 191) rfl, fun _ h => absurd h List.not_mem_nil⟩⟩⟩⟩⟩
theorem yl_wX11_347 : ∀ w ∈ wsV RX11 347 RX9 yX9_poll [Cond.code yX9_poll cX9_poll 5 (some .int)], w ∈ yG := List.forall_mem_cons.mpr ⟨yG_at (5, 8) rfl, List.forall_mem_cons.mpr ⟨yG_at (5, 9) rfl, List.forall_mem_cons.mpr ⟨yG_at (5, 10) rfl, List.forall_mem_cons.mpr ⟨yG_at (1, 9) rfl, List.forall_mem_cons.mpr ⟨yG_at (5, 11) rfl, fun _ h => absurd h List.not_mem_nil⟩⟩⟩⟩⟩
theorem yl_wX11_350 : ∀ w ∈ wsV RX11 350 RX7 yX7_wrap [Cond.code yX7_wrap cX7_wrap 6 none], w ∈ yG := List.forall_mem_cons.mpr ⟨yG_at (5, 24) rfl, List.forall_mem_cons.mpr ⟨yG_at (5, 25) rfl, List.forall_mem_cons.mpr ⟨yG_at (5, 26) rfl, List.forall_mem_cons.mpr ⟨yG_at (1, 10) rfl, List.forall_mem_cons.mpr ⟨yG_at (5, 27) rfl, fun _ h => absurd h List.not_mem_nil⟩⟩⟩⟩⟩
theorem yl_wX11_362 : ∀ w ∈ va_wsS RX11 362 yX7_depthAt [Cond.code yX7_depthAt cX7_depthAt 8 (some .int)], w ∈ yG := List.forall_mem_cons.mpr ⟨yG_at (5, 48) rfl, List.forall_mem_cons.mpr ⟨yG_at (5, 49) rfl, List.forall_mem_cons.mpr ⟨yG_at (1, 10) rfl, List.forall_mem_cons.mpr ⟨yG_at (5, 50) rfl, fun _ h => absurd h List.not_mem_nil⟩⟩⟩⟩
theorem yl_wX11_366 : ∀ w ∈ va_wsS RX11 366 yX7_firstHalving [Cond.code yX7_firstHalving cX7_firstHalving 5 (some .int)], w ∈ yG := List.forall_mem_cons.mpr ⟨yG_at (5, 59) rfl, List.forall_mem_cons.mpr ⟨yG_at (5, 60) rfl, List.forall_mem_cons.mpr ⟨yG_at (1, 10) rfl, List.forall_mem_cons.mpr ⟨yG_at (5, 61) rfl, fun _ h => absurd h List.not_mem_nil⟩⟩⟩⟩
theorem yl_wX11_369 : ∀ w ∈ wsV RX11 369 RX6 yX6_tally [Cond.code yX6_tally cX6_tally 4 (some .int)], w ∈ yG := List.forall_mem_cons.mpr ⟨yG_at (5, 71) rfl, List.forall_mem_cons.mpr ⟨yG_at (3, 104) rfl, List.forall_mem_cons.mpr ⟨yG_at (3, 105) rfl, List.forall_mem_cons.mpr ⟨yG_at (1, 2) rfl, List.forall_mem_cons.mpr ⟨yG_at (3, 106) rfl, fun _ h => absurd h List.not_mem_nil⟩⟩⟩⟩⟩
theorem yl_wX11_371 : ∀ w ∈ wsV RX11 371 RX6 yX6_coloursShareAPlace [Cond.code yX6_coloursShareAPlace cX6_coloursShareAPlace 3 (some .boolean)], w ∈ yG := List.forall_mem_cons.mpr ⟨yG_at (5, 72) rfl, List.forall_mem_cons.mpr ⟨yG_at (5, 73) rfl, List.forall_mem_cons.mpr ⟨yG_at (5, 74) rfl, List.forall_mem_cons.mpr ⟨yG_at (1, 2) rfl, List.forall_mem_cons.mpr ⟨yG_at (5, 75) rfl, fun _ h => absurd h List.not_mem_nil⟩⟩⟩⟩⟩
theorem yl_wX11_374 : ∀ w ∈ wsV RX11 374 RX0 yX0_fewest [Cond.code yX0_fewest cX0_fewest 5 (some .int)], w ∈ yG := List.forall_mem_cons.mpr ⟨yG_at (5, 77) rfl, List.forall_mem_cons.mpr ⟨yG_at (5, 78) rfl, List.forall_mem_cons.mpr ⟨yG_at (5, 79) rfl, List.forall_mem_cons.mpr ⟨yG_at (1, 11) rfl, List.forall_mem_cons.mpr ⟨yG_at (5, 80) rfl, fun _ h => absurd h List.not_mem_nil⟩⟩⟩⟩⟩
theorem yl_wX11_377 : ∀ w ∈ va_wsS RX11 377 yX11_isImage [Cond.code yX11_isImage cX11_isImage 1 (some .boolean)], w ∈ yG := List.forall_mem_cons.mpr ⟨yG_at (5, 110) rfl, List.forall_mem_cons.mpr ⟨yG_at (5, 111) rfl, List.forall_mem_cons.mpr ⟨yG_at (1, 1) rfl, List.forall_mem_cons.mpr ⟨yG_at (5, 112) rfl, fun _ h => absurd h List.not_mem_nil⟩⟩⟩⟩
theorem yl_wX11_380 : ∀ w ∈ wsV RX11 380 RX6 yX6_become [Cond.code yX6_become cX6_become 2 none], w ∈ yG := List.forall_mem_cons.mpr ⟨yG_at (5, 113) rfl, List.forall_mem_cons.mpr ⟨yG_at (5, 114) rfl, List.forall_mem_cons.mpr ⟨yG_at (5, 115) rfl, List.forall_mem_cons.mpr ⟨yG_at (1, 2) rfl, List.forall_mem_cons.mpr ⟨yG_at (5, 116) rfl, fun _ h => absurd h List.not_mem_nil⟩⟩⟩⟩⟩
theorem yl_wX11_383 : ∀ w ∈ wsV RX11 383 RX2 yX2_become [Cond.code yX2_become cX2_become 2 none], w ∈ yG := List.forall_mem_cons.mpr ⟨yG_at (5, 118) rfl, List.forall_mem_cons.mpr ⟨yG_at (5, 119) rfl, List.forall_mem_cons.mpr ⟨yG_at (5, 120) rfl, List.forall_mem_cons.mpr ⟨yG_at (1, 3) rfl, List.forall_mem_cons.mpr ⟨yG_at (5, 121) rfl, fun _ h => absurd h List.not_mem_nil⟩⟩⟩⟩⟩
theorem yl_wX11_386 : ∀ w ∈ wsV RX11 386 RX3 yX3_become [Cond.code yX3_become cX3_become 2 none], w ∈ yG := List.forall_mem_cons.mpr ⟨yG_at (5, 123) rfl, List.forall_mem_cons.mpr ⟨yG_at (5, 124) rfl, List.forall_mem_cons.mpr ⟨yG_at (5, 125) rfl, List.forall_mem_cons.mpr ⟨yG_at (1, 4) rfl, List.forall_mem_cons.mpr ⟨yG_at (5, 126) rfl, fun _ h => absurd h List.not_mem_nil⟩⟩⟩⟩⟩
theorem yl_wX11_389 : ∀ w ∈ wsV RX11 389 RX6 yX6_allWeights [Cond.code yX6_allWeights cX6_allWeights 3 (some .int)], w ∈ yG := List.forall_mem_cons.mpr ⟨yG_at (5, 135) rfl, List.forall_mem_cons.mpr ⟨yG_at (5, 136) rfl, List.forall_mem_cons.mpr ⟨yG_at (5, 137) rfl, List.forall_mem_cons.mpr ⟨yG_at (1, 2) rfl, List.forall_mem_cons.mpr ⟨yG_at (5, 138) rfl, fun _ h => absurd h List.not_mem_nil⟩⟩⟩⟩⟩
theorem yl_wX11_392 : ∀ w ∈ wsV RX11 392 RX11 yX11_sheetsThere [Cond.code yX11_sheetsThere cX11_sheetsThere 3 (some .int)], w ∈ yG := List.forall_mem_cons.mpr ⟨yG_at (5, 139) rfl, List.forall_mem_cons.mpr ⟨yG_at (5, 141) rfl, List.forall_mem_cons.mpr ⟨yG_at (0, 43) rfl, List.forall_mem_cons.mpr ⟨yG_at (1, 1) rfl, List.forall_mem_cons.mpr ⟨yG_at (5, 142) rfl, fun _ h => absurd h List.not_mem_nil⟩⟩⟩⟩⟩
theorem yl_wX11_395 : ∀ w ∈ wsV RX11 395 RX6 yX6_hasBothColours [Cond.code yX6_hasBothColours cX6_hasBothColours 2 (some .boolean)], w ∈ yG := List.forall_mem_cons.mpr ⟨yG_at (3, 99) rfl, List.forall_mem_cons.mpr ⟨yG_at (3, 100) rfl, List.forall_mem_cons.mpr ⟨yG_at (3, 101) rfl, List.forall_mem_cons.mpr ⟨yG_at (1, 2) rfl, List.forall_mem_cons.mpr ⟨yG_at (3, 102) rfl, fun _ h => absurd h List.not_mem_nil⟩⟩⟩⟩⟩
theorem yl_wX0_29 : ∀ w ∈ wsV RX0 29 RX0 yX0_gather [Cond.code yX0_gather cX0_gather 3 none], w ∈ yG := List.forall_mem_cons.mpr ⟨yG_at (5, 81) rfl, List.forall_mem_cons.mpr ⟨yG_at (5, 83) rfl, List.forall_mem_cons.mpr ⟨yG_at (0, 38) rfl, List.forall_mem_cons.mpr ⟨yG_at (1, 11) rfl, List.forall_mem_cons.mpr ⟨yG_at (5, 84) rfl, fun _ h => absurd h List.not_mem_nil⟩⟩⟩⟩⟩
theorem yl_wX0_33 : ∀ w ∈ va_wsS RX0 33 yJ7_fill_031fb [Cond.code yJ7_fill_031fb cJ7_fill_031fb 4 none], w ∈ yG := List.forall_mem_cons.mpr ⟨yG_at (5, 85) rfl, List.forall_mem_cons.mpr ⟨yG_at (5, 86) rfl, List.forall_mem_cons.mpr ⟨yG_at (1, 14) rfl, List.forall_mem_cons.mpr ⟨yG_at (5, 87) rfl, fun _ h => absurd h List.not_mem_nil⟩⟩⟩⟩
theorem yl_wX0_39 : ∀ w ∈ wsV RX0 39 RX0 yX0_findSets [Cond.code yX0_findSets cX0_findSets 8 none], w ∈ yG := List.forall_mem_cons.mpr ⟨yG_at (5, 88) rfl, List.forall_mem_cons.mpr ⟨yG_at (5, 90) rfl, List.forall_mem_cons.mpr ⟨yG_at (0, 39) rfl, List.forall_mem_cons.mpr ⟨yG_at (1, 11) rfl, List.forall_mem_cons.mpr ⟨yG_at (5, 91) rfl, fun _ h => absurd h List.not_mem_nil⟩⟩⟩⟩⟩
theorem yl_wX0_43 : ∀ w ∈ wsV RX0 43 RX0 yX0_widen [Cond.code yX0_widen cX0_widen 5 none], w ∈ yG := List.forall_mem_cons.mpr ⟨yG_at (5, 102) rfl, List.forall_mem_cons.mpr ⟨yG_at (5, 104) rfl, List.forall_mem_cons.mpr ⟨yG_at (0, 42) rfl, List.forall_mem_cons.mpr ⟨yG_at (1, 11) rfl, List.forall_mem_cons.mpr ⟨yG_at (5, 105) rfl, fun _ h => absurd h List.not_mem_nil⟩⟩⟩⟩⟩
theorem yl_wX0_58 : ∀ w ∈ wsV RX0 58 RX0 yX0_setWithin [Cond.code yX0_setWithin cX0_setWithin 11 (some .int)], w ∈ yG := List.forall_mem_cons.mpr ⟨yG_at (5, 92) rfl, List.forall_mem_cons.mpr ⟨yG_at (5, 94) rfl, List.forall_mem_cons.mpr ⟨yG_at (0, 40) rfl, List.forall_mem_cons.mpr ⟨yG_at (1, 11) rfl, List.forall_mem_cons.mpr ⟨yG_at (5, 95) rfl, fun _ h => absurd h List.not_mem_nil⟩⟩⟩⟩⟩
theorem yl_wX0_62 : ∀ w ∈ wsV RX0 62 RX0 yX0_addSet [Cond.code yX0_addSet cX0_addSet 3 none], w ∈ yG := List.forall_mem_cons.mpr ⟨yG_at (5, 98) rfl, List.forall_mem_cons.mpr ⟨yG_at (5, 100) rfl, List.forall_mem_cons.mpr ⟨yG_at (0, 41) rfl, List.forall_mem_cons.mpr ⟨yG_at (1, 11) rfl, List.forall_mem_cons.mpr ⟨yG_at (5, 101) rfl, fun _ h => absurd h List.not_mem_nil⟩⟩⟩⟩⟩
theorem yl_wX1_16 : ∀ w ∈ va_wsS RX1 16 yX1_common [Cond.code yX1_common cX1_common 11 (some .long)], w ∈ yG := List.forall_mem_cons.mpr ⟨yG_at (3, 147) rfl, List.forall_mem_cons.mpr ⟨yG_at (3, 148) rfl, List.forall_mem_cons.mpr ⟨yG_at (1, 6) rfl, List.forall_mem_cons.mpr ⟨yG_at (3, 149) rfl, fun _ h => absurd h List.not_mem_nil⟩⟩⟩⟩
theorem yl_wX2_28 : ∀ w ∈ va_wsS RX2 28 yX2_canBe [Cond.code yX2_canBe cX2_canBe 1 (some .boolean)], w ∈ yG := List.forall_mem_cons.mpr ⟨yG_at (4, 40) rfl, List.forall_mem_cons.mpr ⟨yG_at (4, 41) rfl, List.forall_mem_cons.mpr ⟨yG_at (1, 3) rfl, List.forall_mem_cons.mpr ⟨yG_at (4, 42) rfl, fun _ h => absurd h List.not_mem_nil⟩⟩⟩⟩
theorem yl_wX2_49 : ∀ w ∈ wsV RX2 49 RX2 yX2_sayers [Cond.code yX2_sayers cX2_sayers 8 (some .int)], w ∈ yG := List.forall_mem_cons.mpr ⟨yG_at (4, 170) rfl, List.forall_mem_cons.mpr ⟨yG_at (4, 172) rfl, List.forall_mem_cons.mpr ⟨yG_at (0, 29) rfl, List.forall_mem_cons.mpr ⟨yG_at (1, 3) rfl, List.forall_mem_cons.mpr ⟨yG_at (4, 173) rfl, fun _ h => absurd h List.not_mem_nil⟩⟩⟩⟩⟩
theorem yl_wX2_53 : ∀ w ∈ va_wsS RX2 53 yJ6_bitCount_0f7a4 [Cond.code yJ6_bitCount_0f7a4 cJ6_bitCount_0f7a4 1 (some .int)], w ∈ yG := List.forall_mem_cons.mpr ⟨yG_at (4, 175) rfl, List.forall_mem_cons.mpr ⟨yG_at (4, 118) rfl, List.forall_mem_cons.mpr ⟨yG_at (1, 18) rfl, List.forall_mem_cons.mpr ⟨yG_at (4, 119) rfl, fun _ h => absurd h List.not_mem_nil⟩⟩⟩⟩
theorem yl_wX2_62 : ∀ w ∈ va_wsS RX2 62 yX2_heightAbove [Cond.code yX2_heightAbove cX2_heightAbove 8 (some .long)], w ∈ yG := List.forall_mem_cons.mpr ⟨yG_at (4, 174) rfl, List.forall_mem_cons.mpr ⟨yG_at (4, 46) rfl, List.forall_mem_cons.mpr ⟨yG_at (1, 3) rfl, List.forall_mem_cons.mpr ⟨yG_at (4, 47) rfl, fun _ h => absurd h List.not_mem_nil⟩⟩⟩⟩
theorem yl_wX3_27 : ∀ w ∈ wsV RX3 27 RX3 yX3_goRound [Cond.code yX3_goRound cX3_goRound 6 (some .int)], w ∈ yG := List.forall_mem_cons.mpr ⟨yG_at (4, 134) rfl, List.forall_mem_cons.mpr ⟨yG_at (4, 136) rfl, List.forall_mem_cons.mpr ⟨yG_at (0, 27) rfl, List.forall_mem_cons.mpr ⟨yG_at (1, 4) rfl, List.forall_mem_cons.mpr ⟨yG_at (4, 137) rfl, fun _ h => absurd h List.not_mem_nil⟩⟩⟩⟩⟩
theorem yl_wX3_47 : ∀ w ∈ wsV RX3 47 RX3 yX3_mend [Cond.code yX3_mend cX3_mend 4 none], w ∈ yG := List.forall_mem_cons.mpr ⟨yG_at (4, 138) rfl, List.forall_mem_cons.mpr ⟨yG_at (4, 140) rfl, List.forall_mem_cons.mpr ⟨yG_at (0, 28) rfl, List.forall_mem_cons.mpr ⟨yG_at (1, 4) rfl, List.forall_mem_cons.mpr ⟨yG_at (4, 141) rfl, fun _ h => absurd h List.not_mem_nil⟩⟩⟩⟩⟩
theorem yl_wX4_65 : ∀ w ∈ wsV RX4 65 RX4 yX4_gather [Cond.code yX4_gather cX4_gather 3 none], w ∈ yG := List.forall_mem_cons.mpr ⟨yG_at (3, 185) rfl, List.forall_mem_cons.mpr ⟨yG_at (3, 187) rfl, List.forall_mem_cons.mpr ⟨yG_at (0, 7) rfl, List.forall_mem_cons.mpr ⟨yG_at (1, 7) rfl, List.forall_mem_cons.mpr ⟨yG_at (3, 188) rfl, fun _ h => absurd h List.not_mem_nil⟩⟩⟩⟩⟩
theorem yl_wX4_69 : ∀ w ∈ wsV RX4 69 RX4 yX4_findOnePlace [Cond.code yX4_findOnePlace cX4_findOnePlace 4 (some .boolean)], w ∈ yG := List.forall_mem_cons.mpr ⟨yG_at (3, 189) rfl, List.forall_mem_cons.mpr ⟨yG_at (3, 191) rfl, List.forall_mem_cons.mpr ⟨yG_at (0, 8) rfl, List.forall_mem_cons.mpr ⟨yG_at (1, 7) rfl, List.forall_mem_cons.mpr ⟨yG_at (3, 192) rfl, fun _ h => absurd h List.not_mem_nil⟩⟩⟩⟩⟩
theorem yl_wX4_73 : ∀ w ∈ wsV RX4 73 RX4 yX4_shareAlone [Cond.code yX4_shareAlone cX4_shareAlone 3 none], w ∈ yG := List.forall_mem_cons.mpr ⟨yG_at (3, 198) rfl, List.forall_mem_cons.mpr ⟨yG_at (3, 200) rfl, List.forall_mem_cons.mpr ⟨yG_at (0, 10) rfl, List.forall_mem_cons.mpr ⟨yG_at (1, 7) rfl, List.forall_mem_cons.mpr ⟨yG_at (3, 201) rfl, fun _ h => absurd h List.not_mem_nil⟩⟩⟩⟩⟩
theorem yl_wX4_77 : ∀ w ∈ wsV RX4 77 RX4 yX4_findYesBetween [Cond.code yX4_findYesBetween cX4_findYesBetween 5 (some .boolean)], w ∈ yG := List.forall_mem_cons.mpr ⟨yG_at (3, 203) rfl, List.forall_mem_cons.mpr ⟨yG_at (3, 205) rfl, List.forall_mem_cons.mpr ⟨yG_at (0, 11) rfl, List.forall_mem_cons.mpr ⟨yG_at (1, 7) rfl, List.forall_mem_cons.mpr ⟨yG_at (3, 206) rfl, fun _ h => absurd h List.not_mem_nil⟩⟩⟩⟩⟩
theorem yl_wX4_80 : ∀ w ∈ wsV RX4 80 RX4 yX4_shareBetween [Cond.code yX4_shareBetween cX4_shareBetween 8 none], w ∈ yG := List.forall_mem_cons.mpr ⟨yG_at (3, 218) rfl, List.forall_mem_cons.mpr ⟨yG_at (3, 220) rfl, List.forall_mem_cons.mpr ⟨yG_at (0, 12) rfl, List.forall_mem_cons.mpr ⟨yG_at (1, 7) rfl, List.forall_mem_cons.mpr ⟨yG_at (3, 221) rfl, fun _ h => absurd h List.not_mem_nil⟩⟩⟩⟩⟩
theorem yl_wX4_84 : ∀ w ∈ wsV RX4 84 RX4 yX4_findNoBetween [Cond.code yX4_findNoBetween cX4_findNoBetween 5 (some .boolean)], w ∈ yG := List.forall_mem_cons.mpr ⟨yG_at (3, 222) rfl, List.forall_mem_cons.mpr ⟨yG_at (3, 224) rfl, List.forall_mem_cons.mpr ⟨yG_at (0, 13) rfl, List.forall_mem_cons.mpr ⟨yG_at (1, 7) rfl, List.forall_mem_cons.mpr ⟨yG_at (3, 225) rfl, fun _ h => absurd h List.not_mem_nil⟩⟩⟩⟩⟩
theorem yl_wX4_87 : ∀ w ∈ wsV RX4 87 RX4 yX4_findYesWithin [Cond.code yX4_findYesWithin cX4_findYesWithin 6 (some .boolean)], w ∈ yG := List.forall_mem_cons.mpr ⟨yG_at (3, 226) rfl, List.forall_mem_cons.mpr ⟨yG_at (3, 228) rfl, List.forall_mem_cons.mpr ⟨yG_at (0, 14) rfl, List.forall_mem_cons.mpr ⟨yG_at (1, 7) rfl, List.forall_mem_cons.mpr ⟨yG_at (3, 229) rfl, fun _ h => absurd h List.not_mem_nil⟩⟩⟩⟩⟩
theorem yl_wX4_90 : ∀ w ∈ wsV RX4 90 RX4 yX4_shareWithin [Cond.code yX4_shareWithin cX4_shareWithin 9 none], w ∈ yG := List.forall_mem_cons.mpr ⟨yG_at (3, 237) rfl, List.forall_mem_cons.mpr ⟨yG_at (3, 239) rfl, List.forall_mem_cons.mpr ⟨yG_at (0, 16) rfl, List.forall_mem_cons.mpr ⟨yG_at (1, 7) rfl, List.forall_mem_cons.mpr ⟨yG_at (4, 0) rfl, fun _ h => absurd h List.not_mem_nil⟩⟩⟩⟩⟩
theorem yl_wX4_93 : ∀ w ∈ wsV RX4 93 RX4 yX4_findNoWithin [Cond.code yX4_findNoWithin cX4_findNoWithin 6 (some .boolean)], w ∈ yG := List.forall_mem_cons.mpr ⟨yG_at (4, 1) rfl, List.forall_mem_cons.mpr ⟨yG_at (4, 3) rfl, List.forall_mem_cons.mpr ⟨yG_at (0, 17) rfl, List.forall_mem_cons.mpr ⟨yG_at (1, 7) rfl, List.forall_mem_cons.mpr ⟨yG_at (4, 4) rfl, fun _ h => absurd h List.not_mem_nil⟩⟩⟩⟩⟩
theorem yl_wX4_96 : ∀ w ∈ wsV RX4 96 RX4 yX4_findCrossing [Cond.code yX4_findCrossing cX4_findCrossing 6 (some .boolean)], w ∈ yG := List.forall_mem_cons.mpr ⟨yG_at (4, 9) rfl, List.forall_mem_cons.mpr ⟨yG_at (4, 11) rfl, List.forall_mem_cons.mpr ⟨yG_at (0, 19) rfl, List.forall_mem_cons.mpr ⟨yG_at (1, 7) rfl, List.forall_mem_cons.mpr ⟨yG_at (4, 12) rfl, fun _ h => absurd h List.not_mem_nil⟩⟩⟩⟩⟩
theorem yl_wX4_99 : ∀ w ∈ wsV RX4 99 RX4 yX4_shareCrossing [Cond.code yX4_shareCrossing cX4_shareCrossing 8 none], w ∈ yG := List.forall_mem_cons.mpr ⟨yG_at (4, 17) rfl, List.forall_mem_cons.mpr ⟨yG_at (4, 19) rfl, List.forall_mem_cons.mpr ⟨yG_at (0, 21) rfl, List.forall_mem_cons.mpr ⟨yG_at (1, 7) rfl, List.forall_mem_cons.mpr ⟨yG_at (4, 20) rfl, fun _ h => absurd h List.not_mem_nil⟩⟩⟩⟩⟩
theorem yl_wX4_106 : ∀ w ∈ wsV RX4 106 RX6 yX6_samePlace [Cond.code yX6_samePlace cX6_samePlace 3 (some .boolean)], w ∈ yG := List.forall_mem_cons.mpr ⟨yG_at (3, 193) rfl, List.forall_mem_cons.mpr ⟨yG_at (3, 117) rfl, List.forall_mem_cons.mpr ⟨yG_at (3, 118) rfl, List.forall_mem_cons.mpr ⟨yG_at (1, 2) rfl, List.forall_mem_cons.mpr ⟨yG_at (3, 119) rfl, fun _ h => absurd h List.not_mem_nil⟩⟩⟩⟩⟩
theorem yl_wX4_110 : ∀ w ∈ wsV RX4 110 RX4 yX4_hold [Cond.code yX4_hold cX4_hold 7 (some .boolean)], w ∈ yG := List.forall_mem_cons.mpr ⟨yG_at (3, 194) rfl, List.forall_mem_cons.mpr ⟨yG_at (3, 196) rfl, List.forall_mem_cons.mpr ⟨yG_at (0, 9) rfl, List.forall_mem_cons.mpr ⟨yG_at (1, 7) rfl, List.forall_mem_cons.mpr ⟨yG_at (3, 197) rfl, fun _ h => absurd h List.not_mem_nil⟩⟩⟩⟩⟩
theorem yl_wX4_114 : ∀ w ∈ va_wsS RX4 114 yX4_isBetween [Cond.code yX4_isBetween cX4_isBetween 4 (some .boolean)], w ∈ yG := List.forall_mem_cons.mpr ⟨yG_at (3, 207) rfl, List.forall_mem_cons.mpr ⟨yG_at (3, 208) rfl, List.forall_mem_cons.mpr ⟨yG_at (1, 7) rfl, List.forall_mem_cons.mpr ⟨yG_at (3, 209) rfl, fun _ h => absurd h List.not_mem_nil⟩⟩⟩⟩
theorem yl_wX4_118 : ∀ w ∈ wsV RX4 118 RX4 yX4_thirdAround [Cond.code yX4_thirdAround cX4_thirdAround 7 (some .int)], w ∈ yG := List.forall_mem_cons.mpr ⟨yG_at (3, 230) rfl, List.forall_mem_cons.mpr ⟨yG_at (3, 232) rfl, List.forall_mem_cons.mpr ⟨yG_at (0, 15) rfl, List.forall_mem_cons.mpr ⟨yG_at (1, 7) rfl, List.forall_mem_cons.mpr ⟨yG_at (3, 233) rfl, fun _ h => absurd h List.not_mem_nil⟩⟩⟩⟩⟩
theorem yl_wX4_122 : ∀ w ∈ wsV RX4 122 RX6 yX6_turn [Cond.code yX6_turn cX6_turn 4 (some .int)], w ∈ yG := List.forall_mem_cons.mpr ⟨yG_at (3, 210) rfl, List.forall_mem_cons.mpr ⟨yG_at (3, 211) rfl, List.forall_mem_cons.mpr ⟨yG_at (3, 212) rfl, List.forall_mem_cons.mpr ⟨yG_at (1, 2) rfl, List.forall_mem_cons.mpr ⟨yG_at (3, 213) rfl, fun _ h => absurd h List.not_mem_nil⟩⟩⟩⟩⟩
theorem yl_wX4_126 : ∀ w ∈ va_wsS RX4 126 yX4_isSameSide [Cond.code yX4_isSameSide cX4_isSameSide 2 (some .boolean)], w ∈ yG := List.forall_mem_cons.mpr ⟨yG_at (3, 234) rfl, List.forall_mem_cons.mpr ⟨yG_at (3, 235) rfl, List.forall_mem_cons.mpr ⟨yG_at (1, 7) rfl, List.forall_mem_cons.mpr ⟨yG_at (3, 236) rfl, fun _ h => absurd h List.not_mem_nil⟩⟩⟩⟩
theorem yl_wX4_129 : ∀ w ∈ wsV RX4 129 RX4 yX4_firstNoWithin [Cond.code yX4_firstNoWithin cX4_firstNoWithin 7 (some .int)], w ∈ yG := List.forall_mem_cons.mpr ⟨yG_at (4, 5) rfl, List.forall_mem_cons.mpr ⟨yG_at (4, 7) rfl, List.forall_mem_cons.mpr ⟨yG_at (0, 18) rfl, List.forall_mem_cons.mpr ⟨yG_at (1, 7) rfl, List.forall_mem_cons.mpr ⟨yG_at (4, 8) rfl, fun _ h => absurd h List.not_mem_nil⟩⟩⟩⟩⟩
theorem yl_wX4_132 : ∀ w ∈ wsV RX4 132 RX4 yX4_otherEndAcross [Cond.code yX4_otherEndAcross cX4_otherEndAcross 7 (some .int)], w ∈ yG := List.forall_mem_cons.mpr ⟨yG_at (4, 13) rfl, List.forall_mem_cons.mpr ⟨yG_at (4, 15) rfl, List.forall_mem_cons.mpr ⟨yG_at (0, 20) rfl, List.forall_mem_cons.mpr ⟨yG_at (1, 7) rfl, List.forall_mem_cons.mpr ⟨yG_at (4, 16) rfl, fun _ h => absurd h List.not_mem_nil⟩⟩⟩⟩⟩
theorem yl_wX4_135 : ∀ w ∈ wsV RX4 135 RX6 yX6_reach [Cond.code yX6_reach cX6_reach 4 (some .int)], w ∈ yG := List.forall_mem_cons.mpr ⟨yG_at (3, 214) rfl, List.forall_mem_cons.mpr ⟨yG_at (3, 215) rfl, List.forall_mem_cons.mpr ⟨yG_at (3, 216) rfl, List.forall_mem_cons.mpr ⟨yG_at (1, 2) rfl, List.forall_mem_cons.mpr ⟨yG_at (3, 217) rfl, fun _ h => absurd h List.not_mem_nil⟩⟩⟩⟩⟩
theorem yl_wX4_138 : ∀ w ∈ wsV RX4 138 RX1 yX1_become [Cond.code yX1_become cX1_become 7 none], w ∈ yG := List.forall_mem_cons.mpr ⟨yG_at (3, 202) rfl, List.forall_mem_cons.mpr ⟨yG_at (3, 144) rfl, List.forall_mem_cons.mpr ⟨yG_at (3, 145) rfl, List.forall_mem_cons.mpr ⟨yG_at (1, 6) rfl, List.forall_mem_cons.mpr ⟨yG_at (3, 146) rfl, fun _ h => absurd h List.not_mem_nil⟩⟩⟩⟩⟩
theorem yl_wX4_148 : ∀ w ∈ wsV RX4 148 RX4 yX4_shareEnds [Cond.code yX4_shareEnds cX4_shareEnds 8 none], w ∈ yG := List.forall_mem_cons.mpr ⟨yG_at (4, 21) rfl, List.forall_mem_cons.mpr ⟨yG_at (4, 23) rfl, List.forall_mem_cons.mpr ⟨yG_at (0, 22) rfl, List.forall_mem_cons.mpr ⟨yG_at (1, 7) rfl, List.forall_mem_cons.mpr ⟨yG_at (4, 24) rfl, fun _ h => absurd h List.not_mem_nil⟩⟩⟩⟩⟩
theorem yl_wX5_25 : ∀ w ∈ va_wsS RX5 25 yJ7_fill_d0a16 [Cond.code yJ7_fill_d0a16 cJ7_fill_d0a16 5 none], w ∈ yG := List.forall_mem_cons.mpr ⟨yG_at (4, 60) rfl, List.forall_mem_cons.mpr ⟨yG_at (3, 33) rfl, List.forall_mem_cons.mpr ⟨yG_at (1, 14) rfl, List.forall_mem_cons.mpr ⟨yG_at (3, 34) rfl, fun _ h => absurd h List.not_mem_nil⟩⟩⟩⟩
theorem yl_wX5_31 : ∀ w ∈ wsV RX5 31 RX5 yX5_markBoth [Cond.code yX5_markBoth cX5_markBoth 2 none], w ∈ yG := List.forall_mem_cons.mpr ⟨yG_at (4, 61) rfl, List.forall_mem_cons.mpr ⟨yG_at (4, 63) rfl, List.forall_mem_cons.mpr ⟨yG_at (0, 24) rfl, List.forall_mem_cons.mpr ⟨yG_at (1, 8) rfl, List.forall_mem_cons.mpr ⟨yG_at (4, 64) rfl, fun _ h => absurd h List.not_mem_nil⟩⟩⟩⟩⟩
theorem yl_wX5_35 : ∀ w ∈ wsV RX5 35 RX6 yX6_samePlace [Cond.code yX6_samePlace cX6_samePlace 3 (some .boolean)], w ∈ yG := List.forall_mem_cons.mpr ⟨yG_at (4, 69) rfl, List.forall_mem_cons.mpr ⟨yG_at (3, 117) rfl, List.forall_mem_cons.mpr ⟨yG_at (3, 118) rfl, List.forall_mem_cons.mpr ⟨yG_at (1, 2) rfl, List.forall_mem_cons.mpr ⟨yG_at (3, 119) rfl, fun _ h => absurd h List.not_mem_nil⟩⟩⟩⟩⟩
theorem yl_wX5_41 : ∀ w ∈ wsV RX5 41 RX5 yX5_markAlong [Cond.code yX5_markAlong cX5_markAlong 10 none], w ∈ yG := List.forall_mem_cons.mpr ⟨yG_at (4, 70) rfl, List.forall_mem_cons.mpr ⟨yG_at (4, 72) rfl, List.forall_mem_cons.mpr ⟨yG_at (0, 26) rfl, List.forall_mem_cons.mpr ⟨yG_at (1, 8) rfl, List.forall_mem_cons.mpr ⟨yG_at (4, 73) rfl, fun _ h => absurd h List.not_mem_nil⟩⟩⟩⟩⟩
theorem yl_wX5_45 : ∀ w ∈ wsV RX5 45 RX6 yX6_turn [Cond.code yX6_turn cX6_turn 4 (some .int)], w ∈ yG := List.forall_mem_cons.mpr ⟨yG_at (4, 74) rfl, List.forall_mem_cons.mpr ⟨yG_at (3, 211) rfl, List.forall_mem_cons.mpr ⟨yG_at (3, 212) rfl, List.forall_mem_cons.mpr ⟨yG_at (1, 2) rfl, List.forall_mem_cons.mpr ⟨yG_at (3, 213) rfl, fun _ h => absurd h List.not_mem_nil⟩⟩⟩⟩⟩
theorem yl_wX5_49 : ∀ w ∈ wsV RX5 49 RX6 yX6_reach [Cond.code yX6_reach cX6_reach 4 (some .int)], w ∈ yG := List.forall_mem_cons.mpr ⟨yG_at (4, 75) rfl, List.forall_mem_cons.mpr ⟨yG_at (3, 215) rfl, List.forall_mem_cons.mpr ⟨yG_at (3, 216) rfl, List.forall_mem_cons.mpr ⟨yG_at (1, 2) rfl, List.forall_mem_cons.mpr ⟨yG_at (3, 217) rfl, fun _ h => absurd h List.not_mem_nil⟩⟩⟩⟩⟩
theorem yl_wX5_52 : ∀ w ∈ wsV RX5 52 RX5 yX5_mark [Cond.code yX5_mark cX5_mark 2 none], w ∈ yG := List.forall_mem_cons.mpr ⟨yG_at (4, 65) rfl, List.forall_mem_cons.mpr ⟨yG_at (4, 67) rfl, List.forall_mem_cons.mpr ⟨yG_at (0, 25) rfl, List.forall_mem_cons.mpr ⟨yG_at (1, 8) rfl, List.forall_mem_cons.mpr ⟨yG_at (4, 68) rfl, fun _ h => absurd h List.not_mem_nil⟩⟩⟩⟩⟩
theorem yl_wX5_55 : ∀ w ∈ va_wsS RX5 55 yJ13_bitCount_95d88 [Cond.code yJ13_bitCount_95d88 cJ13_bitCount_95d88 2 (some .int)], w ∈ yG := List.forall_mem_cons.mpr ⟨yG_at (4, 80) rfl, List.forall_mem_cons.mpr ⟨yG_at (4, 81) rfl, List.forall_mem_cons.mpr ⟨yG_at (1, 17) rfl, List.forall_mem_cons.mpr ⟨yG_at (4, 82) rfl, fun _ h => absurd h List.not_mem_nil⟩⟩⟩⟩
theorem yl_wX5_61 : ∀ w ∈ wsV RX5 61 RX5 yX5_isMarked [Cond.code yX5_isMarked cX5_isMarked 2 (some .boolean)], w ∈ yG := List.forall_mem_cons.mpr ⟨yG_at (4, 105) rfl, List.forall_mem_cons.mpr ⟨yG_at (4, 94) rfl, List.forall_mem_cons.mpr ⟨yG_at (4, 95) rfl, List.forall_mem_cons.mpr ⟨yG_at (1, 8) rfl, List.forall_mem_cons.mpr ⟨yG_at (4, 96) rfl, fun _ h => absurd h List.not_mem_nil⟩⟩⟩⟩⟩
theorem yl_wX5_65 : ∀ w ∈ va_wsS RX5 65 yX5_wrongBy [Cond.code yX5_wrongBy cX5_wrongBy 5 (some .int)], w ∈ yG := List.forall_mem_cons.mpr ⟨yG_at (4, 106) rfl, List.forall_mem_cons.mpr ⟨yG_at (4, 107) rfl, List.forall_mem_cons.mpr ⟨yG_at (1, 8) rfl, List.forall_mem_cons.mpr ⟨yG_at (4, 108) rfl, fun _ h => absurd h List.not_mem_nil⟩⟩⟩⟩
theorem yl_wX5_76 : ∀ w ∈ va_wsS RX5 76 yJ6_bitCount_0f7a4 [Cond.code yJ6_bitCount_0f7a4 cJ6_bitCount_0f7a4 1 (some .int)], w ∈ yG := List.forall_mem_cons.mpr ⟨yG_at (4, 117) rfl, List.forall_mem_cons.mpr ⟨yG_at (4, 118) rfl, List.forall_mem_cons.mpr ⟨yG_at (1, 18) rfl, List.forall_mem_cons.mpr ⟨yG_at (4, 119) rfl, fun _ h => absurd h List.not_mem_nil⟩⟩⟩⟩
theorem yl_wX5_81 : ∀ w ∈ va_wsS RX5 81 yX5_nextOf [Cond.code yX5_nextOf cX5_nextOf 4 (some .int)], w ∈ yG := List.forall_mem_cons.mpr ⟨yG_at (4, 123) rfl, List.forall_mem_cons.mpr ⟨yG_at (4, 124) rfl, List.forall_mem_cons.mpr ⟨yG_at (1, 8) rfl, List.forall_mem_cons.mpr ⟨yG_at (4, 125) rfl, fun _ h => absurd h List.not_mem_nil⟩⟩⟩⟩
theorem yl_wX6_35 : ∀ w ∈ wsV RX6 35 RX6 yX6_has [Cond.code yX6_has cX6_has 2 (some .boolean)], w ∈ yG := List.forall_mem_cons.mpr ⟨yG_at (3, 8) rfl, List.forall_mem_cons.mpr ⟨yG_at (2, 237) rfl, List.forall_mem_cons.mpr ⟨yG_at (2, 238) rfl, List.forall_mem_cons.mpr ⟨yG_at (1, 2) rfl, List.forall_mem_cons.mpr ⟨yG_at (2, 239) rfl, fun _ h => absurd h List.not_mem_nil⟩⟩⟩⟩⟩
theorem yl_wX6_45 : ∀ w ∈ wsV RX6 45 RX6 yX6_tally [Cond.code yX6_tally cX6_tally 4 (some .int)], w ∈ yG := List.forall_mem_cons.mpr ⟨yG_at (3, 103) rfl, List.forall_mem_cons.mpr ⟨yG_at (3, 104) rfl, List.forall_mem_cons.mpr ⟨yG_at (3, 105) rfl, List.forall_mem_cons.mpr ⟨yG_at (1, 2) rfl, List.forall_mem_cons.mpr ⟨yG_at (3, 106) rfl, fun _ h => absurd h List.not_mem_nil⟩⟩⟩⟩⟩
theorem yl_wX6_49 : ∀ w ∈ wsV RX6 49 RX6 yX6_samePlace [Cond.code yX6_samePlace cX6_samePlace 3 (some .boolean)], w ∈ yG := List.forall_mem_cons.mpr ⟨yG_at (5, 76) rfl, List.forall_mem_cons.mpr ⟨yG_at (3, 117) rfl, List.forall_mem_cons.mpr ⟨yG_at (3, 118) rfl, List.forall_mem_cons.mpr ⟨yG_at (1, 2) rfl, List.forall_mem_cons.mpr ⟨yG_at (3, 119) rfl, fun _ h => absurd h List.not_mem_nil⟩⟩⟩⟩⟩
theorem yl_wX7_19 : ∀ w ∈ va_wsS RX7 19 yX7_lowest [Cond.code yX7_lowest cX7_lowest 4 (some .int)], w ∈ yG := List.forall_mem_cons.mpr ⟨yG_at (5, 28) rfl, List.forall_mem_cons.mpr ⟨yG_at (5, 29) rfl, List.forall_mem_cons.mpr ⟨yG_at (1, 10) rfl, List.forall_mem_cons.mpr ⟨yG_at (5, 30) rfl, fun _ h => absurd h List.not_mem_nil⟩⟩⟩⟩
theorem yl_wX7_23 : ∀ w ∈ va_wsS RX7 23 yX7_nextCorner [Cond.code yX7_nextCorner cX7_nextCorner 5 (some .int)], w ∈ yG := List.forall_mem_cons.mpr ⟨yG_at (5, 34) rfl, List.forall_mem_cons.mpr ⟨yG_at (5, 35) rfl, List.forall_mem_cons.mpr ⟨yG_at (1, 10) rfl, List.forall_mem_cons.mpr ⟨yG_at (5, 36) rfl, fun _ h => absurd h List.not_mem_nil⟩⟩⟩⟩
theorem yl_wX7_35 : ∀ w ∈ va_wsS RX7 35 yX7_isLower [Cond.code yX7_isLower cX7_isLower 3 (some .boolean)], w ∈ yG := List.forall_mem_cons.mpr ⟨yG_at (5, 31) rfl, List.forall_mem_cons.mpr ⟨yG_at (5, 32) rfl, List.forall_mem_cons.mpr ⟨yG_at (1, 10) rfl, List.forall_mem_cons.mpr ⟨yG_at (5, 33) rfl, fun _ h => absurd h List.not_mem_nil⟩⟩⟩⟩
theorem yl_wX7_45 : ∀ w ∈ wsV RX7 45 RX6 yX6_samePlace [Cond.code yX6_samePlace cX6_samePlace 3 (some .boolean)], w ∈ yG := List.forall_mem_cons.mpr ⟨yG_at (5, 37) rfl, List.forall_mem_cons.mpr ⟨yG_at (3, 117) rfl, List.forall_mem_cons.mpr ⟨yG_at (3, 118) rfl, List.forall_mem_cons.mpr ⟨yG_at (1, 2) rfl, List.forall_mem_cons.mpr ⟨yG_at (3, 119) rfl, fun _ h => absurd h List.not_mem_nil⟩⟩⟩⟩⟩
theorem yl_wX7_49 : ∀ w ∈ va_wsS RX7 49 yX7_isOuter [Cond.code yX7_isOuter cX7_isOuter 5 (some .boolean)], w ∈ yG := List.forall_mem_cons.mpr ⟨yG_at (5, 38) rfl, List.forall_mem_cons.mpr ⟨yG_at (5, 39) rfl, List.forall_mem_cons.mpr ⟨yG_at (1, 10) rfl, List.forall_mem_cons.mpr ⟨yG_at (5, 40) rfl, fun _ h => absurd h List.not_mem_nil⟩⟩⟩⟩
theorem yl_wX7_53 : ∀ w ∈ wsV RX7 53 RX6 yX6_turn [Cond.code yX6_turn cX6_turn 4 (some .int)], w ∈ yG := List.forall_mem_cons.mpr ⟨yG_at (5, 41) rfl, List.forall_mem_cons.mpr ⟨yG_at (3, 211) rfl, List.forall_mem_cons.mpr ⟨yG_at (3, 212) rfl, List.forall_mem_cons.mpr ⟨yG_at (1, 2) rfl, List.forall_mem_cons.mpr ⟨yG_at (3, 213) rfl, fun _ h => absurd h List.not_mem_nil⟩⟩⟩⟩⟩
theorem yl_wX7_57 : ∀ w ∈ wsV RX7 57 RX6 yX6_reach [Cond.code yX6_reach cX6_reach 4 (some .int)], w ∈ yG := List.forall_mem_cons.mpr ⟨yG_at (5, 42) rfl, List.forall_mem_cons.mpr ⟨yG_at (3, 215) rfl, List.forall_mem_cons.mpr ⟨yG_at (3, 216) rfl, List.forall_mem_cons.mpr ⟨yG_at (1, 2) rfl, List.forall_mem_cons.mpr ⟨yG_at (3, 217) rfl, fun _ h => absurd h List.not_mem_nil⟩⟩⟩⟩⟩
theorem yl_wX7_60 : ∀ w ∈ va_wsS RX7 60 yX7_lighterSide [Cond.code yX7_lighterSide cX7_lighterSide 14 (some .int)], w ∈ yG := List.forall_mem_cons.mpr ⟨yG_at (5, 51) rfl, List.forall_mem_cons.mpr ⟨yG_at (5, 52) rfl, List.forall_mem_cons.mpr ⟨yG_at (1, 10) rfl, List.forall_mem_cons.mpr ⟨yG_at (5, 53) rfl, fun _ h => absurd h List.not_mem_nil⟩⟩⟩⟩
theorem yl_wX7_70 : ∀ w ∈ wsV RX7 70 RX6 yX6_tally [Cond.code yX6_tally cX6_tally 4 (some .int)], w ∈ yG := List.forall_mem_cons.mpr ⟨yG_at (5, 62) rfl, List.forall_mem_cons.mpr ⟨yG_at (3, 104) rfl, List.forall_mem_cons.mpr ⟨yG_at (3, 105) rfl, List.forall_mem_cons.mpr ⟨yG_at (1, 2) rfl, List.forall_mem_cons.mpr ⟨yG_at (3, 106) rfl, fun _ h => absurd h List.not_mem_nil⟩⟩⟩⟩⟩
theorem yl_wX7_74 : ∀ w ∈ va_wsS RX7 74 yX7_isHalving [Cond.code yX7_isHalving cX7_isHalving 9 (some .boolean)], w ∈ yG := List.forall_mem_cons.mpr ⟨yG_at (5, 63) rfl, List.forall_mem_cons.mpr ⟨yG_at (5, 64) rfl, List.forall_mem_cons.mpr ⟨yG_at (1, 10) rfl, List.forall_mem_cons.mpr ⟨yG_at (5, 65) rfl, fun _ h => absurd h List.not_mem_nil⟩⟩⟩⟩
theorem yl_wX8_26 : ∀ w ∈ va_wsS RX8 26 yJ7_fill_d0a16 [Cond.code yJ7_fill_d0a16 cJ7_fill_d0a16 5 none], w ∈ yG := List.forall_mem_cons.mpr ⟨yG_at (3, 32) rfl, List.forall_mem_cons.mpr ⟨yG_at (3, 33) rfl, List.forall_mem_cons.mpr ⟨yG_at (1, 14) rfl, List.forall_mem_cons.mpr ⟨yG_at (3, 34) rfl, fun _ h => absurd h List.not_mem_nil⟩⟩⟩⟩
theorem yl_wX8_32 : ∀ w ∈ wsV RX8 32 RX8 yX8_cut [Cond.code yX8_cut cX8_cut 3 (some .long)], w ∈ yG := List.forall_mem_cons.mpr ⟨yG_at (3, 47) rfl, List.forall_mem_cons.mpr ⟨yG_at (3, 49) rfl, List.forall_mem_cons.mpr ⟨yG_at (0, 1) rfl, List.forall_mem_cons.mpr ⟨yG_at (1, 12) rfl, List.forall_mem_cons.mpr ⟨yG_at (3, 50) rfl, fun _ h => absurd h List.not_mem_nil⟩⟩⟩⟩⟩
theorem yl_wX8_44 : ∀ w ∈ wsV RX8 44 RX8 yX8_numberOrZero [Cond.code yX8_numberOrZero cX8_numberOrZero 2 (some .long)], w ∈ yG := List.forall_mem_cons.mpr ⟨yG_at (3, 84) rfl, List.forall_mem_cons.mpr ⟨yG_at (3, 85) rfl, List.forall_mem_cons.mpr ⟨yG_at (3, 86) rfl, List.forall_mem_cons.mpr ⟨yG_at (1, 12) rfl, List.forall_mem_cons.mpr ⟨yG_at (3, 87) rfl, fun _ h => absurd h List.not_mem_nil⟩⟩⟩⟩⟩
theorem yl_wX8_48 : ∀ w ∈ va_wsS RX8 48 yX6_isNear [Cond.code yX6_isNear cX6_isNear 2 (some .boolean)], w ∈ yG := List.forall_mem_cons.mpr ⟨yG_at (3, 89) rfl, List.forall_mem_cons.mpr ⟨yG_at (2, 217) rfl, List.forall_mem_cons.mpr ⟨yG_at (1, 2) rfl, List.forall_mem_cons.mpr ⟨yG_at (2, 218) rfl, fun _ h => absurd h List.not_mem_nil⟩⟩⟩⟩
theorem yl_wX8_54 : ∀ w ∈ wsV RX8 54 RX8 yX8_has [Cond.code yX8_has cX8_has 2 (some .boolean)], w ∈ yG := List.forall_mem_cons.mpr ⟨yG_at (3, 88) rfl, List.forall_mem_cons.mpr ⟨yG_at (3, 40) rfl, List.forall_mem_cons.mpr ⟨yG_at (3, 41) rfl, List.forall_mem_cons.mpr ⟨yG_at (1, 12) rfl, List.forall_mem_cons.mpr ⟨yG_at (3, 42) rfl, fun _ h => absurd h List.not_mem_nil⟩⟩⟩⟩⟩
theorem yl_wX9_72 : ∀ w ∈ wsV RX9 72 RX9 yX9_playRound [Cond.code yX9_playRound cX9_playRound 2 none], w ∈ yG := List.forall_mem_cons.mpr ⟨yG_at (4, 192) rfl, List.forall_mem_cons.mpr ⟨yG_at (4, 194) rfl, List.forall_mem_cons.mpr ⟨yG_at (0, 30) rfl, List.forall_mem_cons.mpr ⟨yG_at (1, 9) rfl, List.forall_mem_cons.mpr ⟨yG_at (4, 195) rfl, fun _ h => absurd h List.not_mem_nil⟩⟩⟩⟩⟩
theorem yl_wX9_76 : ∀ w ∈ wsV RX9 76 RX9 yX9_choose [Cond.code yX9_choose cX9_choose 4 none], w ∈ yG := List.forall_mem_cons.mpr ⟨yG_at (4, 196) rfl, List.forall_mem_cons.mpr ⟨yG_at (4, 198) rfl, List.forall_mem_cons.mpr ⟨yG_at (0, 31) rfl, List.forall_mem_cons.mpr ⟨yG_at (1, 9) rfl, List.forall_mem_cons.mpr ⟨yG_at (4, 199) rfl, fun _ h => absurd h List.not_mem_nil⟩⟩⟩⟩⟩
theorem yl_wX9_79 : ∀ w ∈ wsV RX9 79 RX9 yX9_keepChosen [Cond.code yX9_keepChosen cX9_keepChosen 1 none], w ∈ yG := List.forall_mem_cons.mpr ⟨yG_at (4, 211) rfl, List.forall_mem_cons.mpr ⟨yG_at (4, 213) rfl, List.forall_mem_cons.mpr ⟨yG_at (0, 34) rfl, List.forall_mem_cons.mpr ⟨yG_at (1, 9) rfl, List.forall_mem_cons.mpr ⟨yG_at (4, 214) rfl, fun _ h => absurd h List.not_mem_nil⟩⟩⟩⟩⟩
theorem yl_wX9_84 : ∀ w ∈ wsV RX9 84 RX9 yX9_reweigh [Cond.code yX9_reweigh cX9_reweigh 24 (some .boolean)], w ∈ yG := List.forall_mem_cons.mpr ⟨yG_at (4, 216) rfl, List.forall_mem_cons.mpr ⟨yG_at (4, 218) rfl, List.forall_mem_cons.mpr ⟨yG_at (0, 35) rfl, List.forall_mem_cons.mpr ⟨yG_at (1, 9) rfl, List.forall_mem_cons.mpr ⟨yG_at (4, 219) rfl, fun _ h => absurd h List.not_mem_nil⟩⟩⟩⟩⟩
theorem yl_wX9_88 : ∀ w ∈ wsV RX9 88 RX9 yX9_weigh [Cond.code yX9_weigh cX9_weigh 7 none], w ∈ yG := List.forall_mem_cons.mpr ⟨yG_at (4, 200) rfl, List.forall_mem_cons.mpr ⟨yG_at (4, 202) rfl, List.forall_mem_cons.mpr ⟨yG_at (0, 32) rfl, List.forall_mem_cons.mpr ⟨yG_at (1, 9) rfl, List.forall_mem_cons.mpr ⟨yG_at (4, 203) rfl, fun _ h => absurd h List.not_mem_nil⟩⟩⟩⟩⟩
theorem yl_wX9_98 : ∀ w ∈ va_wsS RX9 98 yX9_saysYes [Cond.code yX9_saysYes cX9_saysYes 6 (some .boolean)], w ∈ yG := List.forall_mem_cons.mpr ⟨yG_at (4, 204) rfl, List.forall_mem_cons.mpr ⟨yG_at (4, 205) rfl, List.forall_mem_cons.mpr ⟨yG_at (1, 9) rfl, List.forall_mem_cons.mpr ⟨yG_at (4, 206) rfl, fun _ h => absurd h List.not_mem_nil⟩⟩⟩⟩
theorem yl_wX9_105 : ∀ w ∈ wsV RX9 105 RX9 yX9_offer [Cond.code yX9_offer cX9_offer 7 none], w ∈ yG := List.forall_mem_cons.mpr ⟨yG_at (4, 207) rfl, List.forall_mem_cons.mpr ⟨yG_at (4, 209) rfl, List.forall_mem_cons.mpr ⟨yG_at (0, 33) rfl, List.forall_mem_cons.mpr ⟨yG_at (1, 9) rfl, List.forall_mem_cons.mpr ⟨yG_at (4, 210) rfl, fun _ h => absurd h List.not_mem_nil⟩⟩⟩⟩⟩
theorem yl_wX9_109 : ∀ w ∈ wsV RX9 109 RX9 yX9_isWrong [Cond.code yX9_isWrong cX9_isWrong 3 (some .boolean)], w ∈ yG := List.forall_mem_cons.mpr ⟨yG_at (4, 225) rfl, List.forall_mem_cons.mpr ⟨yG_at (4, 227) rfl, List.forall_mem_cons.mpr ⟨yG_at (0, 37) rfl, List.forall_mem_cons.mpr ⟨yG_at (1, 9) rfl, List.forall_mem_cons.mpr ⟨yG_at (4, 228) rfl, fun _ h => absurd h List.not_mem_nil⟩⟩⟩⟩⟩
theorem yl_wX9_113 : ∀ w ∈ va_wsS RX9 113 yX1_common [Cond.code yX1_common cX1_common 11 (some .long)], w ∈ yG := List.forall_mem_cons.mpr ⟨yG_at (4, 220) rfl, List.forall_mem_cons.mpr ⟨yG_at (3, 148) rfl, List.forall_mem_cons.mpr ⟨yG_at (1, 6) rfl, List.forall_mem_cons.mpr ⟨yG_at (3, 149) rfl, fun _ h => absurd h List.not_mem_nil⟩⟩⟩⟩
theorem yl_wX9_124 : ∀ w ∈ wsV RX9 124 RX9 yX9_commonMass [Cond.code yX9_commonMass cX9_commonMass 6 (some .long)], w ∈ yG := List.forall_mem_cons.mpr ⟨yG_at (4, 221) rfl, List.forall_mem_cons.mpr ⟨yG_at (4, 223) rfl, List.forall_mem_cons.mpr ⟨yG_at (0, 36) rfl, List.forall_mem_cons.mpr ⟨yG_at (1, 9) rfl, List.forall_mem_cons.mpr ⟨yG_at (4, 224) rfl, fun _ h => absurd h List.not_mem_nil⟩⟩⟩⟩⟩
theorem yl_wX9_136 : ∀ w ∈ va_wsS RX9 136 yX9_setToOne [Cond.code yX9_setToOne cX9_setToOne 1 none], w ∈ yG := List.forall_mem_cons.mpr ⟨yG_at (5, 12) rfl, List.forall_mem_cons.mpr ⟨yG_at (5, 13) rfl, List.forall_mem_cons.mpr ⟨yG_at (1, 9) rfl, List.forall_mem_cons.mpr ⟨yG_at (5, 14) rfl, fun _ h => absurd h List.not_mem_nil⟩⟩⟩⟩
theorem yl_wX9_140 : ∀ w ∈ va_wsS RX9 140 yX9_multiply [Cond.code yX9_multiply cX9_multiply 8 none], w ∈ yG := List.forall_mem_cons.mpr ⟨yG_at (5, 16) rfl, List.forall_mem_cons.mpr ⟨yG_at (5, 17) rfl, List.forall_mem_cons.mpr ⟨yG_at (1, 9) rfl, List.forall_mem_cons.mpr ⟨yG_at (5, 18) rfl, fun _ h => absurd h List.not_mem_nil⟩⟩⟩⟩
theorem yl_wX9_144 : ∀ w ∈ va_wsS RX9 144 yJ7_fill_d0a16 [Cond.code yJ7_fill_d0a16 cJ7_fill_d0a16 5 none], w ∈ yG := List.forall_mem_cons.mpr ⟨yG_at (5, 15) rfl, List.forall_mem_cons.mpr ⟨yG_at (3, 33) rfl, List.forall_mem_cons.mpr ⟨yG_at (1, 14) rfl, List.forall_mem_cons.mpr ⟨yG_at (3, 34) rfl, fun _ h => absurd h List.not_mem_nil⟩⟩⟩⟩
theorem yl_wX10_56 : ∀ w ∈ wsV RX10 56 RX6 yX6_hasBothColours [Cond.code yX6_hasBothColours cX6_hasBothColours 2 (some .boolean)], w ∈ yG := List.forall_mem_cons.mpr ⟨yG_at (3, 111) rfl, List.forall_mem_cons.mpr ⟨yG_at (3, 100) rfl, List.forall_mem_cons.mpr ⟨yG_at (3, 101) rfl, List.forall_mem_cons.mpr ⟨yG_at (1, 2) rfl, List.forall_mem_cons.mpr ⟨yG_at (3, 102) rfl, fun _ h => absurd h List.not_mem_nil⟩⟩⟩⟩⟩
theorem yl_wX10_63 : ∀ w ∈ wsV RX10 63 RX10 yX10_tryPair [Cond.code yX10_tryPair cX10_tryPair 6 none], w ∈ yG := List.forall_mem_cons.mpr ⟨yG_at (3, 112) rfl, List.forall_mem_cons.mpr ⟨yG_at (3, 114) rfl, List.forall_mem_cons.mpr ⟨yG_at (0, 3) rfl, List.forall_mem_cons.mpr ⟨yG_at (1, 5) rfl, List.forall_mem_cons.mpr ⟨yG_at (3, 115) rfl, fun _ h => absurd h List.not_mem_nil⟩⟩⟩⟩⟩
theorem yl_wX10_67 : ∀ w ∈ wsV RX10 67 RX10 yX10_finish [Cond.code yX10_finish cX10_finish 9 none], w ∈ yG := List.forall_mem_cons.mpr ⟨yG_at (3, 139) rfl, List.forall_mem_cons.mpr ⟨yG_at (3, 141) rfl, List.forall_mem_cons.mpr ⟨yG_at (0, 6) rfl, List.forall_mem_cons.mpr ⟨yG_at (1, 5) rfl, List.forall_mem_cons.mpr ⟨yG_at (3, 142) rfl, fun _ h => absurd h List.not_mem_nil⟩⟩⟩⟩⟩
theorem yl_wX10_78 : ∀ w ∈ wsV RX10 78 RX6 yX6_samePlace [Cond.code yX6_samePlace cX6_samePlace 3 (some .boolean)], w ∈ yG := List.forall_mem_cons.mpr ⟨yG_at (3, 116) rfl, List.forall_mem_cons.mpr ⟨yG_at (3, 117) rfl, List.forall_mem_cons.mpr ⟨yG_at (3, 118) rfl, List.forall_mem_cons.mpr ⟨yG_at (1, 2) rfl, List.forall_mem_cons.mpr ⟨yG_at (3, 119) rfl, fun _ h => absurd h List.not_mem_nil⟩⟩⟩⟩⟩
theorem yl_wX10_85 : ∀ w ∈ wsV RX10 85 RX10 yX10_tryAcross [Cond.code yX10_tryAcross cX10_tryAcross 8 none], w ∈ yG := List.forall_mem_cons.mpr ⟨yG_at (3, 120) rfl, List.forall_mem_cons.mpr ⟨yG_at (3, 122) rfl, List.forall_mem_cons.mpr ⟨yG_at (0, 4) rfl, List.forall_mem_cons.mpr ⟨yG_at (1, 5) rfl, List.forall_mem_cons.mpr ⟨yG_at (3, 123) rfl, fun _ h => absurd h List.not_mem_nil⟩⟩⟩⟩⟩
theorem yl_wX10_99 : ∀ w ∈ wsV RX10 99 RX10 yX10_isWider [Cond.code yX10_isWider cX10_isWider 7 (some .boolean)], w ∈ yG := List.forall_mem_cons.mpr ⟨yG_at (3, 132) rfl, List.forall_mem_cons.mpr ⟨yG_at (3, 134) rfl, List.forall_mem_cons.mpr ⟨yG_at (0, 5) rfl, List.forall_mem_cons.mpr ⟨yG_at (1, 5) rfl, List.forall_mem_cons.mpr ⟨yG_at (3, 135) rfl, fun _ h => absurd h List.not_mem_nil⟩⟩⟩⟩⟩
theorem yl_wX10_103 : ∀ w ∈ va_wsS RX10 103 yX10_squareSum [Cond.code yX10_squareSum cX10_squareSum 4 (some .long)], w ∈ yG := List.forall_mem_cons.mpr ⟨yG_at (3, 136) rfl, List.forall_mem_cons.mpr ⟨yG_at (3, 137) rfl, List.forall_mem_cons.mpr ⟨yG_at (1, 5) rfl, List.forall_mem_cons.mpr ⟨yG_at (3, 138) rfl, fun _ h => absurd h List.not_mem_nil⟩⟩⟩⟩
theorem yl_wX10_107 : ∀ w ∈ wsV RX10 107 RX1 yX1_become [Cond.code yX1_become cX1_become 7 none], w ∈ yG := List.forall_mem_cons.mpr ⟨yG_at (3, 143) rfl, List.forall_mem_cons.mpr ⟨yG_at (3, 144) rfl, List.forall_mem_cons.mpr ⟨yG_at (3, 145) rfl, List.forall_mem_cons.mpr ⟨yG_at (1, 6) rfl, List.forall_mem_cons.mpr ⟨yG_at (3, 146) rfl, fun _ h => absurd h List.not_mem_nil⟩⟩⟩⟩⟩
theorem yl_wX10_113 : ∀ w ∈ va_wsS RX10 113 yX1_common [Cond.code yX1_common cX1_common 11 (some .long)], w ∈ yG := List.forall_mem_cons.mpr ⟨yG_at (3, 157) rfl, List.forall_mem_cons.mpr ⟨yG_at (3, 148) rfl, List.forall_mem_cons.mpr ⟨yG_at (1, 6) rfl, List.forall_mem_cons.mpr ⟨yG_at (3, 149) rfl, fun _ h => absurd h List.not_mem_nil⟩⟩⟩⟩
theorem yl_wX10_116 : ∀ w ∈ wsV RX10 116 RX10 yX10_isAtSide [Cond.code yX10_isAtSide cX10_isAtSide 4 (some .boolean)], w ∈ yG := List.forall_mem_cons.mpr ⟨yG_at (3, 158) rfl, List.forall_mem_cons.mpr ⟨yG_at (3, 159) rfl, List.forall_mem_cons.mpr ⟨yG_at (3, 160) rfl, List.forall_mem_cons.mpr ⟨yG_at (1, 5) rfl, List.forall_mem_cons.mpr ⟨yG_at (3, 161) rfl, fun _ h => absurd h List.not_mem_nil⟩⟩⟩⟩⟩
theorem yl_wX12_133 : ∀ w ∈ va_wsS RX12 133 yX12_in [Cond.code yX12_in cX12_in 6 (some .boolean)], w ∈ yG := List.forall_mem_cons.mpr ⟨yG_at (6, 103) rfl, List.forall_mem_cons.mpr ⟨yG_at (6, 104) rfl, List.forall_mem_cons.mpr ⟨yG_at (1, 13) rfl, List.forall_mem_cons.mpr ⟨yG_at (6, 105) rfl, fun _ h => absurd h List.not_mem_nil⟩⟩⟩⟩
theorem yl_wX12_141 : ∀ w ∈ wsV RX12 141 RX12 yX12_told [Cond.code yX12_told cX12_told 2 (some .int)], w ∈ yG := List.forall_mem_cons.mpr ⟨yG_at (6, 106) rfl, List.forall_mem_cons.mpr ⟨yG_at (6, 108) rfl, List.forall_mem_cons.mpr ⟨yG_at (0, 44) rfl, List.forall_mem_cons.mpr ⟨yG_at (1, 13) rfl, List.forall_mem_cons.mpr ⟨yG_at (6, 109) rfl, fun _ h => absurd h List.not_mem_nil⟩⟩⟩⟩⟩
theorem yl_wX12_145 : ∀ w ∈ wsV RX12 145 RX12 yX12_add [Cond.code yX12_add cX12_add 4 none], w ∈ yG := List.forall_mem_cons.mpr ⟨yG_at (6, 110) rfl, List.forall_mem_cons.mpr ⟨yG_at (6, 112) rfl, List.forall_mem_cons.mpr ⟨yG_at (0, 45) rfl, List.forall_mem_cons.mpr ⟨yG_at (1, 13) rfl, List.forall_mem_cons.mpr ⟨yG_at (6, 113) rfl, fun _ h => absurd h List.not_mem_nil⟩⟩⟩⟩⟩
theorem yl_wX12_149 : ∀ w ∈ wsV RX12 149 RX12 yX12_isPoint [Cond.code yX12_isPoint cX12_isPoint 2 (some .boolean)], w ∈ yG := List.forall_mem_cons.mpr ⟨yG_at (6, 118) rfl, List.forall_mem_cons.mpr ⟨yG_at (6, 120) rfl, List.forall_mem_cons.mpr ⟨yG_at (0, 46) rfl, List.forall_mem_cons.mpr ⟨yG_at (1, 13) rfl, List.forall_mem_cons.mpr ⟨yG_at (6, 121) rfl, fun _ h => absurd h List.not_mem_nil⟩⟩⟩⟩⟩
theorem yl_wX12_157 : ∀ w ∈ va_wsS RX12 157 yX12_isSheet [Cond.code yX12_isSheet cX12_isSheet 1 (some .boolean)], w ∈ yG := List.forall_mem_cons.mpr ⟨yG_at (6, 136) rfl, List.forall_mem_cons.mpr ⟨yG_at (6, 137) rfl, List.forall_mem_cons.mpr ⟨yG_at (1, 13) rfl, List.forall_mem_cons.mpr ⟨yG_at (6, 138) rfl, fun _ h => absurd h List.not_mem_nil⟩⟩⟩⟩
theorem yl_wX12_160 : ∀ w ∈ va_wsS RX12 160 yX12_cut [Cond.code yX12_cut cX12_cut 3 (some .long)], w ∈ yG := List.forall_mem_cons.mpr ⟨yG_at (6, 143) rfl, List.forall_mem_cons.mpr ⟨yG_at (6, 144) rfl, List.forall_mem_cons.mpr ⟨yG_at (1, 13) rfl, List.forall_mem_cons.mpr ⟨yG_at (6, 145) rfl, fun _ h => absurd h List.not_mem_nil⟩⟩⟩⟩
theorem yl_wX12_170 : ∀ w ∈ va_wsS RX12 170 yX12_cross [Cond.code yX12_cross cX12_cross 8 (some .long)], w ∈ yG := List.forall_mem_cons.mpr ⟨yG_at (6, 198) rfl, List.forall_mem_cons.mpr ⟨yG_at (6, 199) rfl, List.forall_mem_cons.mpr ⟨yG_at (1, 13) rfl, List.forall_mem_cons.mpr ⟨yG_at (6, 200) rfl, fun _ h => absurd h List.not_mem_nil⟩⟩⟩⟩
theorem yl_wX12_174 : ∀ w ∈ wsV RX12 174 RX12 yX12_area [Cond.code yX12_area cX12_area 4 (some .long)], w ∈ yG := List.forall_mem_cons.mpr ⟨yG_at (6, 194) rfl, List.forall_mem_cons.mpr ⟨yG_at (6, 196) rfl, List.forall_mem_cons.mpr ⟨yG_at (0, 54) rfl, List.forall_mem_cons.mpr ⟨yG_at (1, 13) rfl, List.forall_mem_cons.mpr ⟨yG_at (6, 197) rfl, fun _ h => absurd h List.not_mem_nil⟩⟩⟩⟩⟩
theorem yl_wX12_178 : ∀ w ∈ wsV RX12 178 RX12 yX12_isAt [Cond.code yX12_isAt cX12_isAt 3 (some .boolean)], w ∈ yG := List.forall_mem_cons.mpr ⟨yG_at (6, 173) rfl, List.forall_mem_cons.mpr ⟨yG_at (6, 175) rfl, List.forall_mem_cons.mpr ⟨yG_at (0, 49) rfl, List.forall_mem_cons.mpr ⟨yG_at (1, 13) rfl, List.forall_mem_cons.mpr ⟨yG_at (6, 176) rfl, fun _ h => absurd h List.not_mem_nil⟩⟩⟩⟩⟩
theorem yl_wX12_194 : ∀ w ∈ wsV RX12 194 RX12 yX12_member [Cond.code yX12_member cX12_member 9 none], w ∈ yG := List.forall_mem_cons.mpr ⟨yG_at (6, 177) rfl, List.forall_mem_cons.mpr ⟨yG_at (6, 179) rfl, List.forall_mem_cons.mpr ⟨yG_at (0, 50) rfl, List.forall_mem_cons.mpr ⟨yG_at (1, 13) rfl, List.forall_mem_cons.mpr ⟨yG_at (6, 180) rfl, fun _ h => absurd h List.not_mem_nil⟩⟩⟩⟩⟩
theorem yl_wX12_198 : ∀ w ∈ wsV RX12 198 RX12 yX12_place [Cond.code yX12_place cX12_place 9 none], w ∈ yG := List.forall_mem_cons.mpr ⟨yG_at (6, 182) rfl, List.forall_mem_cons.mpr ⟨yG_at (6, 184) rfl, List.forall_mem_cons.mpr ⟨yG_at (0, 51) rfl, List.forall_mem_cons.mpr ⟨yG_at (1, 13) rfl, List.forall_mem_cons.mpr ⟨yG_at (6, 185) rfl, fun _ h => absurd h List.not_mem_nil⟩⟩⟩⟩⟩
theorem yl_wX12_208 : ∀ w ∈ wsV RX12 208 RX12 yX12_isBetween [Cond.code yX12_isBetween cX12_isBetween 6 (some .boolean)], w ∈ yG := List.forall_mem_cons.mpr ⟨yG_at (6, 190) rfl, List.forall_mem_cons.mpr ⟨yG_at (6, 192) rfl, List.forall_mem_cons.mpr ⟨yG_at (0, 53) rfl, List.forall_mem_cons.mpr ⟨yG_at (1, 13) rfl, List.forall_mem_cons.mpr ⟨yG_at (6, 193) rfl, fun _ h => absurd h List.not_mem_nil⟩⟩⟩⟩⟩
theorem yl_wX12_212 : ∀ w ∈ wsV RX12 212 RX12 yX12_meetsBy [Cond.code yX12_meetsBy cX12_meetsBy 7 none], w ∈ yG := List.forall_mem_cons.mpr ⟨yG_at (6, 201) rfl, List.forall_mem_cons.mpr ⟨yG_at (6, 203) rfl, List.forall_mem_cons.mpr ⟨yG_at (0, 55) rfl, List.forall_mem_cons.mpr ⟨yG_at (1, 13) rfl, List.forall_mem_cons.mpr ⟨yG_at (6, 204) rfl, fun _ h => absurd h List.not_mem_nil⟩⟩⟩⟩⟩
theorem yl_wX12_216 : ∀ w ∈ wsV RX12 216 RX12 yX12_meetsAt [Cond.code yX12_meetsAt cX12_meetsAt 12 none], w ∈ yG := List.forall_mem_cons.mpr ⟨yG_at (6, 205) rfl, List.forall_mem_cons.mpr ⟨yG_at (6, 207) rfl, List.forall_mem_cons.mpr ⟨yG_at (0, 56) rfl, List.forall_mem_cons.mpr ⟨yG_at (1, 13) rfl, List.forall_mem_cons.mpr ⟨yG_at (6, 208) rfl, fun _ h => absurd h List.not_mem_nil⟩⟩⟩⟩⟩
theorem yl_wX12_220 : ∀ w ∈ wsV RX12 220 RX12 yX12_findOthers [Cond.code yX12_findOthers cX12_findOthers 5 (some .boolean)], w ∈ yG := List.forall_mem_cons.mpr ⟨yG_at (6, 213) rfl, List.forall_mem_cons.mpr ⟨yG_at (6, 215) rfl, List.forall_mem_cons.mpr ⟨yG_at (0, 58) rfl, List.forall_mem_cons.mpr ⟨yG_at (1, 13) rfl, List.forall_mem_cons.mpr ⟨yG_at (6, 216) rfl, fun _ h => absurd h List.not_mem_nil⟩⟩⟩⟩⟩
theorem yl_wX12_223 : ∀ w ∈ wsV RX12 223 RX12 yX12_findInner [Cond.code yX12_findInner cX12_findInner 5 (some .boolean)], w ∈ yG := List.forall_mem_cons.mpr ⟨yG_at (6, 221) rfl, List.forall_mem_cons.mpr ⟨yG_at (6, 223) rfl, List.forall_mem_cons.mpr ⟨yG_at (0, 60) rfl, List.forall_mem_cons.mpr ⟨yG_at (1, 13) rfl, List.forall_mem_cons.mpr ⟨yG_at (6, 224) rfl, fun _ h => absurd h List.not_mem_nil⟩⟩⟩⟩⟩
theorem yl_wX12_226 : ∀ w ∈ wsV RX12 226 RX12 yX12_isWithin [Cond.code yX12_isWithin cX12_isWithin 11 (some .boolean)], w ∈ yG := List.forall_mem_cons.mpr ⟨yG_at (6, 217) rfl, List.forall_mem_cons.mpr ⟨yG_at (6, 219) rfl, List.forall_mem_cons.mpr ⟨yG_at (0, 59) rfl, List.forall_mem_cons.mpr ⟨yG_at (1, 13) rfl, List.forall_mem_cons.mpr ⟨yG_at (6, 220) rfl, fun _ h => absurd h List.not_mem_nil⟩⟩⟩⟩⟩
theorem yl_wX12_230 : ∀ w ∈ wsV RX12 230 RX12 yX12_findCrossed [Cond.code yX12_findCrossed cX12_findCrossed 15 (some .boolean)], w ∈ yG := List.forall_mem_cons.mpr ⟨yG_at (6, 229) rfl, List.forall_mem_cons.mpr ⟨yG_at (6, 231) rfl, List.forall_mem_cons.mpr ⟨yG_at (0, 62) rfl, List.forall_mem_cons.mpr ⟨yG_at (1, 13) rfl, List.forall_mem_cons.mpr ⟨yG_at (6, 232) rfl, fun _ h => absurd h List.not_mem_nil⟩⟩⟩⟩⟩
theorem yl_wX12_233 : ∀ w ∈ wsV RX12 233 RX12 yX12_isCrossing [Cond.code yX12_isCrossing cX12_isCrossing 13 (some .boolean)], w ∈ yG := List.forall_mem_cons.mpr ⟨yG_at (6, 233) rfl, List.forall_mem_cons.mpr ⟨yG_at (6, 235) rfl, List.forall_mem_cons.mpr ⟨yG_at (0, 63) rfl, List.forall_mem_cons.mpr ⟨yG_at (1, 13) rfl, List.forall_mem_cons.mpr ⟨yG_at (6, 236) rfl, fun _ h => absurd h List.not_mem_nil⟩⟩⟩⟩⟩
theorem yl_wX12_236 : ∀ w ∈ wsV RX12 236 RX12 yX12_findSame [Cond.code yX12_findSame cX12_findSame 3 (some .boolean)], w ∈ yG := List.forall_mem_cons.mpr ⟨yG_at (6, 169) rfl, List.forall_mem_cons.mpr ⟨yG_at (6, 171) rfl, List.forall_mem_cons.mpr ⟨yG_at (0, 48) rfl, List.forall_mem_cons.mpr ⟨yG_at (1, 13) rfl, List.forall_mem_cons.mpr ⟨yG_at (6, 172) rfl, fun _ h => absurd h List.not_mem_nil⟩⟩⟩⟩⟩
theorem yl_wX12_240 : ∀ w ∈ wsV RX12 240 RX12 yX12_findBetween [Cond.code yX12_findBetween cX12_findBetween 4 (some .boolean)], w ∈ yG := List.forall_mem_cons.mpr ⟨yG_at (6, 186) rfl, List.forall_mem_cons.mpr ⟨yG_at (6, 188) rfl, List.forall_mem_cons.mpr ⟨yG_at (0, 52) rfl, List.forall_mem_cons.mpr ⟨yG_at (1, 13) rfl, List.forall_mem_cons.mpr ⟨yG_at (6, 189) rfl, fun _ h => absurd h List.not_mem_nil⟩⟩⟩⟩⟩
theorem yl_wX12_243 : ∀ w ∈ wsV RX12 243 RX12 yX12_findWithin [Cond.code yX12_findWithin cX12_findWithin 4 (some .boolean)], w ∈ yG := List.forall_mem_cons.mpr ⟨yG_at (6, 209) rfl, List.forall_mem_cons.mpr ⟨yG_at (6, 211) rfl, List.forall_mem_cons.mpr ⟨yG_at (0, 57) rfl, List.forall_mem_cons.mpr ⟨yG_at (1, 13) rfl, List.forall_mem_cons.mpr ⟨yG_at (6, 212) rfl, fun _ h => absurd h List.not_mem_nil⟩⟩⟩⟩⟩
theorem yl_wX12_246 : ∀ w ∈ wsV RX12 246 RX12 yX12_findCrossing [Cond.code yX12_findCrossing cX12_findCrossing 4 (some .boolean)], w ∈ yG := List.forall_mem_cons.mpr ⟨yG_at (6, 225) rfl, List.forall_mem_cons.mpr ⟨yG_at (6, 227) rfl, List.forall_mem_cons.mpr ⟨yG_at (0, 61) rfl, List.forall_mem_cons.mpr ⟨yG_at (1, 13) rfl, List.forall_mem_cons.mpr ⟨yG_at (6, 228) rfl, fun _ h => absurd h List.not_mem_nil⟩⟩⟩⟩⟩
theorem yl_wX12_249 : ∀ w ∈ wsV RX12 249 RX12 yX12_findMeeting [Cond.code yX12_findMeeting cX12_findMeeting 2 none], w ∈ yG := List.forall_mem_cons.mpr ⟨yG_at (6, 165) rfl, List.forall_mem_cons.mpr ⟨yG_at (6, 167) rfl, List.forall_mem_cons.mpr ⟨yG_at (0, 47) rfl, List.forall_mem_cons.mpr ⟨yG_at (1, 13) rfl, List.forall_mem_cons.mpr ⟨yG_at (6, 168) rfl, fun _ h => absurd h List.not_mem_nil⟩⟩⟩⟩⟩
theorem yl_wX12_252 : ∀ w ∈ va_wsS RX12 252 yX12_divisor [Cond.code yX12_divisor cX12_divisor 10 (some .long)], w ∈ yG := List.forall_mem_cons.mpr ⟨yG_at (7, 14) rfl, List.forall_mem_cons.mpr ⟨yG_at (7, 15) rfl, List.forall_mem_cons.mpr ⟨yG_at (1, 13) rfl, List.forall_mem_cons.mpr ⟨yG_at (7, 16) rfl, fun _ h => absurd h List.not_mem_nil⟩⟩⟩⟩
theorem yl_wX12_276 : ∀ w ∈ va_wsS RX12 276 yX12_part [Cond.code yX12_part cX12_part 7 (some .long)], w ∈ yG := List.forall_mem_cons.mpr ⟨yG_at (7, 11) rfl, List.forall_mem_cons.mpr ⟨yG_at (7, 12) rfl, List.forall_mem_cons.mpr ⟨yG_at (1, 13) rfl, List.forall_mem_cons.mpr ⟨yG_at (7, 13) rfl, fun _ h => absurd h List.not_mem_nil⟩⟩⟩⟩
theorem yl_wX12_298 : ∀ w ∈ wsV RX12 298 RX12 yX12_many [Cond.code yX12_many cX12_many 4 (some .int)], w ∈ yG := List.forall_mem_cons.mpr ⟨yG_at (7, 26) rfl, List.forall_mem_cons.mpr ⟨yG_at (7, 28) rfl, List.forall_mem_cons.mpr ⟨yG_at (0, 65) rfl, List.forall_mem_cons.mpr ⟨yG_at (1, 13) rfl, List.forall_mem_cons.mpr ⟨yG_at (7, 29) rfl, fun _ h => absurd h List.not_mem_nil⟩⟩⟩⟩⟩
theorem yl_wX12_301 : ∀ w ∈ wsV RX12 301 RX12 yX12_tryWay [Cond.code yX12_tryWay cX12_tryWay 13 none], w ∈ yG := List.forall_mem_cons.mpr ⟨yG_at (7, 30) rfl, List.forall_mem_cons.mpr ⟨yG_at (7, 32) rfl, List.forall_mem_cons.mpr ⟨yG_at (0, 66) rfl, List.forall_mem_cons.mpr ⟨yG_at (1, 13) rfl, List.forall_mem_cons.mpr ⟨yG_at (7, 33) rfl, fun _ h => absurd h List.not_mem_nil⟩⟩⟩⟩⟩
theorem yl_wX12_307 : ∀ w ∈ wsV RX12 307 RX12 yX12_findWay [Cond.code yX12_findWay cX12_findWay 9 none], w ∈ yG := List.forall_mem_cons.mpr ⟨yG_at (7, 22) rfl, List.forall_mem_cons.mpr ⟨yG_at (7, 24) rfl, List.forall_mem_cons.mpr ⟨yG_at (0, 64) rfl, List.forall_mem_cons.mpr ⟨yG_at (1, 13) rfl, List.forall_mem_cons.mpr ⟨yG_at (7, 25) rfl, fun _ h => absurd h List.not_mem_nil⟩⟩⟩⟩⟩
theorem yl_wX12_310 : ∀ w ∈ wsV RX12 310 RX12 yX12_isSide [Cond.code yX12_isSide cX12_isSide 4 (some .boolean)], w ∈ yG := List.forall_mem_cons.mpr ⟨yG_at (7, 35) rfl, List.forall_mem_cons.mpr ⟨yG_at (7, 37) rfl, List.forall_mem_cons.mpr ⟨yG_at (0, 67) rfl, List.forall_mem_cons.mpr ⟨yG_at (1, 13) rfl, List.forall_mem_cons.mpr ⟨yG_at (7, 38) rfl, fun _ h => absurd h List.not_mem_nil⟩⟩⟩⟩⟩
theorem yl_wX12_315 : ∀ w ∈ va_wsS RX12 315 yX12_isLine [Cond.code yX12_isLine cX12_isLine 3 (some .boolean)], w ∈ yG := List.forall_mem_cons.mpr ⟨yG_at (7, 47) rfl, List.forall_mem_cons.mpr ⟨yG_at (7, 48) rfl, List.forall_mem_cons.mpr ⟨yG_at (1, 13) rfl, List.forall_mem_cons.mpr ⟨yG_at (7, 49) rfl, fun _ h => absurd h List.not_mem_nil⟩⟩⟩⟩
theorem yl_wX12_318 : ∀ w ∈ va_wsS RX12 318 yX12_says [Cond.code yX12_says cX12_says 12 (some .int)], w ∈ yG := List.forall_mem_cons.mpr ⟨yG_at (7, 51) rfl, List.forall_mem_cons.mpr ⟨yG_at (7, 52) rfl, List.forall_mem_cons.mpr ⟨yG_at (1, 13) rfl, List.forall_mem_cons.mpr ⟨yG_at (7, 53) rfl, fun _ h => absurd h List.not_mem_nil⟩⟩⟩⟩
theorem yl_wX12_325 : ∀ w ∈ wsV RX12 325 RX12 yX12_choose [Cond.code yX12_choose cX12_choose 3 none], w ∈ yG := List.forall_mem_cons.mpr ⟨yG_at (7, 67) rfl, List.forall_mem_cons.mpr ⟨yG_at (7, 69) rfl, List.forall_mem_cons.mpr ⟨yG_at (0, 70) rfl, List.forall_mem_cons.mpr ⟨yG_at (1, 13) rfl, List.forall_mem_cons.mpr ⟨yG_at (7, 70) rfl, fun _ h => absurd h List.not_mem_nil⟩⟩⟩⟩⟩
theorem yl_wX12_329 : ∀ w ∈ wsV RX12 329 RX12 yX12_turnAbout [Cond.code yX12_turnAbout cX12_turnAbout 13 none], w ∈ yG := List.forall_mem_cons.mpr ⟨yG_at (7, 71) rfl, List.forall_mem_cons.mpr ⟨yG_at (7, 73) rfl, List.forall_mem_cons.mpr ⟨yG_at (0, 71) rfl, List.forall_mem_cons.mpr ⟨yG_at (1, 13) rfl, List.forall_mem_cons.mpr ⟨yG_at (7, 74) rfl, fun _ h => absurd h List.not_mem_nil⟩⟩⟩⟩⟩
theorem yl_wX12_333 : ∀ w ∈ wsV RX12 333 RX12 yX12_further [Cond.code yX12_further cX12_further 4 (some .long)], w ∈ yG := List.forall_mem_cons.mpr ⟨yG_at (7, 75) rfl, List.forall_mem_cons.mpr ⟨yG_at (7, 77) rfl, List.forall_mem_cons.mpr ⟨yG_at (0, 72) rfl, List.forall_mem_cons.mpr ⟨yG_at (1, 13) rfl, List.forall_mem_cons.mpr ⟨yG_at (7, 78) rfl, fun _ h => absurd h List.not_mem_nil⟩⟩⟩⟩⟩
theorem yl_wX12_338 : ∀ w ∈ wsV RX12 338 RX12 yX12_isMany [Cond.code yX12_isMany cX12_isMany 2 (some .boolean)], w ∈ yG := List.forall_mem_cons.mpr ⟨yG_at (7, 58) rfl, List.forall_mem_cons.mpr ⟨yG_at (7, 60) rfl, List.forall_mem_cons.mpr ⟨yG_at (0, 68) rfl, List.forall_mem_cons.mpr ⟨yG_at (1, 13) rfl, List.forall_mem_cons.mpr ⟨yG_at (7, 61) rfl, fun _ h => absurd h List.not_mem_nil⟩⟩⟩⟩⟩
theorem yl_wX12_341 : ∀ w ∈ wsV RX12 341 RX12 yX12_findSets [Cond.code yX12_findSets cX12_findSets 4 none], w ∈ yG := List.forall_mem_cons.mpr ⟨yG_at (7, 63) rfl, List.forall_mem_cons.mpr ⟨yG_at (7, 65) rfl, List.forall_mem_cons.mpr ⟨yG_at (0, 69) rfl, List.forall_mem_cons.mpr ⟨yG_at (1, 13) rfl, List.forall_mem_cons.mpr ⟨yG_at (7, 66) rfl, fun _ h => absurd h List.not_mem_nil⟩⟩⟩⟩⟩
theorem yl_wX12_369 : ∀ w ∈ va_wsS RX12 369 yX12_stepSays [Cond.code yX12_stepSays cX12_stepSays 6 (some .int)], w ∈ yG := List.forall_mem_cons.mpr ⟨yG_at (7, 132) rfl, List.forall_mem_cons.mpr ⟨yG_at (7, 133) rfl, List.forall_mem_cons.mpr ⟨yG_at (1, 13) rfl, List.forall_mem_cons.mpr ⟨yG_at (7, 134) rfl, fun _ h => absurd h List.not_mem_nil⟩⟩⟩⟩
theorem yl_wX12_392 : ∀ w ∈ wsV RX12 392 RX12 yX12_times [Cond.code yX12_times cX12_times 10 none], w ∈ yG := List.forall_mem_cons.mpr ⟨yG_at (7, 160) rfl, List.forall_mem_cons.mpr ⟨yG_at (7, 162) rfl, List.forall_mem_cons.mpr ⟨yG_at (0, 77) rfl, List.forall_mem_cons.mpr ⟨yG_at (1, 13) rfl, List.forall_mem_cons.mpr ⟨yG_at (7, 163) rfl, fun _ h => absurd h List.not_mem_nil⟩⟩⟩⟩⟩
theorem yl_wX12_408 : ∀ w ∈ wsV RX12 408 RX12 yX12_isHalf [Cond.code yX12_isHalf cX12_isHalf 10 (some .boolean)], w ∈ yG := List.forall_mem_cons.mpr ⟨yG_at (7, 186) rfl, List.forall_mem_cons.mpr ⟨yG_at (7, 188) rfl, List.forall_mem_cons.mpr ⟨yG_at (0, 80) rfl, List.forall_mem_cons.mpr ⟨yG_at (1, 13) rfl, List.forall_mem_cons.mpr ⟨yG_at (7, 189) rfl, fun _ h => absurd h List.not_mem_nil⟩⟩⟩⟩⟩
theorem yl_wX12_411 : ∀ w ∈ wsV RX12 411 RX12 yX12_isClear [Cond.code yX12_isClear cX12_isClear 10 (some .boolean)], w ∈ yG := List.forall_mem_cons.mpr ⟨yG_at (7, 194) rfl, List.forall_mem_cons.mpr ⟨yG_at (7, 196) rfl, List.forall_mem_cons.mpr ⟨yG_at (0, 81) rfl, List.forall_mem_cons.mpr ⟨yG_at (1, 13) rfl, List.forall_mem_cons.mpr ⟨yG_at (7, 197) rfl, fun _ h => absurd h List.not_mem_nil⟩⟩⟩⟩⟩
theorem yl_wX12_414 : ∀ w ∈ wsV RX12 414 RX12 yX12_learnt [Cond.code yX12_learnt cX12_learnt 2 (some .long)], w ∈ yG := List.forall_mem_cons.mpr ⟨yG_at (7, 202) rfl, List.forall_mem_cons.mpr ⟨yG_at (7, 97) rfl, List.forall_mem_cons.mpr ⟨yG_at (7, 98) rfl, List.forall_mem_cons.mpr ⟨yG_at (1, 13) rfl, List.forall_mem_cons.mpr ⟨yG_at (7, 99) rfl, fun _ h => absurd h List.not_mem_nil⟩⟩⟩⟩⟩
noncomputable def yl_cqX11 : List Nat := []
theorem yl_cqkX11 (K : ys_K) : ∀ v, v ∈ yl_cqX11 → yt_Cq RX11 (ys_ws yG K) v := by
  intro v hi
  cases hi
noncomputable def yl_cqX0 : List Nat := []
theorem yl_cqkX0 (K : ys_K) : ∀ v, v ∈ yl_cqX0 → yt_Cq RX0 (ys_ws yG K) v := by
  intro v hi
  cases hi
noncomputable def yl_cqX1 : List Nat := [400020, 500026]
theorem yl_cqkX1 (K : ys_K) : ∀ v, v ∈ yl_cqX1 → yt_Cq RX1 (ys_ws yG K) v := by
  intro v hi
  rcases List.mem_cons.mp hi with hq | hi
  · subst hq
    exact ⟨List.mem_cons_of_mem _ (yG_at (3, 150) rfl), List.mem_cons_of_mem _ (yG_at (3, 151) rfl), List.mem_cons_of_mem _ (yG_at (1, 16) rfl), List.mem_cons_of_mem _ (yG_at (3, 152) rfl)⟩
  rcases List.mem_cons.mp hi with hq | hi
  · subst hq
    exact ⟨List.mem_cons_of_mem _ (yG_at (3, 153) rfl), List.mem_cons_of_mem _ (yG_at (3, 154) rfl), List.mem_cons_of_mem _ (yG_at (1, 16) rfl), List.mem_cons_of_mem _ (yG_at (3, 155) rfl)⟩
  cases hi
noncomputable def yl_cqX2 : List Nat := [700000]
theorem yl_cqkX2 (K : ys_K) : ∀ v, v ∈ yl_cqX2 → yt_Cq RX2 (ys_ws yG K) v := by
  intro v hi
  rcases List.mem_cons.mp hi with hq | hi
  · subst hq
    exact trivial
  cases hi
noncomputable def yl_cqX3 : List Nat := []
theorem yl_cqkX3 (K : ys_K) : ∀ v, v ∈ yl_cqX3 → yt_Cq RX3 (ys_ws yG K) v := by
  intro v hi
  cases hi
noncomputable def yl_cqX4 : List Nat := [300151]
theorem yl_cqkX4 (K : ys_K) : ∀ v, v ∈ yl_cqX4 → yt_Cq RX4 (ys_ws yG K) v := by
  intro v hi
  rcases List.mem_cons.mp hi with hq | hi
  · subst hq
    exact ⟨List.mem_cons_of_mem _ (yG_at (4, 25) rfl), List.mem_cons_of_mem _ (yG_at (4, 26) rfl), List.mem_cons_of_mem _ (yG_at (1, 16) rfl), List.mem_cons_of_mem _ (yG_at (4, 27) rfl)⟩
  cases hi
noncomputable def yl_cqX5 : List Nat := []
theorem yl_cqkX5 (K : ys_K) : ∀ v, v ∈ yl_cqX5 → yt_Cq RX5 (ys_ws yG K) v := by
  intro v hi
  cases hi
noncomputable def yl_cqX6 : List Nat := [700000]
theorem yl_cqkX6 (K : ys_K) : ∀ v, v ∈ yl_cqX6 → yt_Cq RX6 (ys_ws yG K) v := by
  intro v hi
  rcases List.mem_cons.mp hi with hq | hi
  · subst hq
    exact trivial
  cases hi
noncomputable def yl_cqX7 : List Nat := []
theorem yl_cqkX7 (K : ys_K) : ∀ v, v ∈ yl_cqX7 → yt_Cq RX7 (ys_ws yG K) v := by
  intro v hi
  cases hi
noncomputable def yl_cqX8 : List Nat := []
theorem yl_cqkX8 (K : ys_K) : ∀ v, v ∈ yl_cqX8 → yt_Cq RX8 (ys_ws yG K) v := by
  intro v hi
  cases hi
noncomputable def yl_cqX9 : List Nat := [500119]
theorem yl_cqkX9 (K : ys_K) : ∀ v, v ∈ yl_cqX9 → yt_Cq RX9 (ys_ws yG K) v := by
  intro v hi
  rcases List.mem_cons.mp hi with hq | hi
  · subst hq
    exact ⟨List.mem_cons_of_mem _ (yG_at (4, 229) rfl), List.mem_cons_of_mem _ (yG_at (3, 154) rfl), List.mem_cons_of_mem _ (yG_at (1, 16) rfl), List.mem_cons_of_mem _ (yG_at (3, 155) rfl)⟩
  cases hi
noncomputable def yl_cqX10 : List Nat := []
theorem yl_cqkX10 (K : ys_K) : ∀ v, v ∈ yl_cqX10 → yt_Cq RX10 (ys_ws yG K) v := by
  intro v hi
  cases hi
noncomputable def yl_cqX12 : List Nat := []
theorem yl_cqkX12 (K : ys_K) : ∀ v, v ∈ yl_cqX12 → yt_Cq RX12 (ys_ws yG K) v := by
  intro v hi
  cases hi
noncomputable def yl_cqJ6 : List Nat := [700000]
theorem yl_cqkJ6 (K : ys_K) : ∀ v, v ∈ yl_cqJ6 → yt_Cq RJ6 (ys_ws yG K) v := by
  intro v hi
  rcases List.mem_cons.mp hi with hq | hi
  · subst hq
    exact trivial
  cases hi
noncomputable def yl_cqJ13 : List Nat := []
theorem yl_cqkJ13 (K : ys_K) : ∀ v, v ∈ yl_cqJ13 → yt_Cq RJ13 (ys_ws yG K) v := by
  intro v hi
  cases hi
noncomputable def yl_cqJ7 : List Nat := []
theorem yl_cqkJ7 (K : ys_K) : ∀ v, v ∈ yl_cqJ7 → yt_Cq RJ7 (ys_ws yG K) v := by
  intro v hi
  cases hi
