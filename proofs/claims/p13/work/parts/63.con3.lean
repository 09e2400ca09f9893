noncomputable def xf_105 : ys_F := (yw_f58 6, yw_r58)
noncomputable def xk_105 : ys_K := (((yX4_hold, cX4_hold, 7, (some .boolean)), (0, 0)), ([.inr (some 0), .inl (.inl ([(0, 1)], 0)), .inl (.inl ([(1, 1)], 0)), .inl (.inl ([(2, 1)], 0)), .inl (.inl ([(3, 1)], 0)), .inl (.inl ([(4, 1)], 0)), .inl (.inl ([(5, 1)], 0))], ([(0, 3), (0, 4), (0, 39), (0, 39), (0, 39), (0, 39)] ++ yw_e58, []), xf_105), ([([], [], ((ys_fs xf_105.1 [(0, 2, .inl (.inl ([(0, 1)], 0))), (0, 3, .inl (.inl ([(1, 1)], 0)))]), xf_105.2), some (.inl (.inl ([], 1))))], [1]))
noncomputable def xq_105 : yt_Q := (yz_X4_hold, (yl_flX4, yl_ciX4, yl_cjX4, yl_cpX4, yl_cqX4), [], [])
noncomputable def xa_105 : List yt_CE := []
theorem xc_105 {l : Launch} {D : va_G} {cT : Nat → ClassId} {tys : List (ClassId × FieldType)} (hty : yx_Ty tys cT) : yx_C l D cT tys yw_s58 xk_105 := yx_method (calls := xa_105) (Z := xq_105) 300 (by decide +kernel) yz_X4_hold_ok hty (yl_lkX4 _) (yl_cqkX4 _) (fun _ h => absurd h List.not_mem_nil) (by decide +kernel)
noncomputable def xf_106 : ys_F := (yw_f59 0, yw_r59)
noncomputable def xk_106 : ys_K := (((yX4_findYesWithin, cX4_findYesWithin, 6, (some .boolean)), (2, 49)), ([.inr (some 0), .inr (some 4)], ([] ++ yw_e59, []), xf_106), ([([], [], (xf_106.1, xf_106.2), some (.inl (.inl ([], 0)))), ([], [([(2, 1)], (-1)), ([(3, 1)], (-2)), ([(3, 1)], (-1))], ((ys_fs xf_106.1 [(0, 2, .inl (.inl ([], 3))), (0, 3, .inl (.inl ([], 4)))]), xf_106.2), some (.inl (.inl ([], 1))))], [1]))
noncomputable def xq_106 : yt_Q := (yz_X4_findYesWithin, (yl_flX4, yl_ciX4, yl_cjX4, yl_cpX4, yl_cqX4), [(12, ([(0, 39), (0, 40)], [([(2, 1)], (-1))], (xf_106.1, xf_106.2), [(0, .inr (some 0)), (1, .inr (some 4)), (2, .inl (.inl ([(7, 1)], 0))), (3, .inl (.inl ([(8, 1)], 0)))], [], ([(7, (-1765)), (8, (-42))], 72321)), [], false), (2, ([(0, 40)], [], (xf_106.1, xf_106.2), [(0, .inr (some 0)), (1, .inr (some 4)), (2, .inl (.inl ([(7, 1)], 0)))], [], ([(7, (-1765))], 72364)), [], false), (25, ([(0, 39), (0, 39), (1, 40)], [([(2, 1)], (-1)), ([(3, 1)], (-1))], (xf_106.1, xf_106.2), [(0, .inr (some 0)), (1, .inr (some 4)), (2, .inl (.inl ([(7, 1)], 0))), (3, .inl (.inl ([(8, 1)], 0))), (4, .inl (.inl ([(9, 1)], 0)))], [], ([(7, (-1765)), (9, (-1)), (8, (-42))], 72320)), [], false)], [])
noncomputable def xa_106 : List yt_CE := [(((118, false), (0, false, [0, 2, 3, 4, 5, 6, 7, 8, 1, 9, 10, 11])), (yw_s63, xk_104)), (((110, false), (0, false, [0, 1, 7, 8, 9, 2, 3])), (yw_s58, xk_105))]
theorem xc_106 {l : Launch} {D : va_G} {cT : Nat → ClassId} {tys : List (ClassId × FieldType)} (hty : yx_Ty tys cT) : yx_C l D cT tys yw_s59 xk_106 := yx_method (calls := xa_106) (Z := xq_106) 300 (by decide +kernel) yz_X4_findYesWithin_ok hty (yl_lkX4 _) (yl_cqkX4 _) (List.forall_mem_cons.mpr ⟨⟨xc_104 hty, yg_CLv rfl rfl rfl yl_wX4_118 yd_yX4_thirdAround⟩, List.forall_mem_cons.mpr ⟨⟨xc_105 hty, yg_CLv rfl rfl rfl yl_wX4_110 yd_yX4_hold⟩, fun _ h => absurd h List.not_mem_nil⟩⟩) (by decide +kernel)
noncomputable def yw_s64 : List ys_C := [.inl 4, .inr (0, 4, []), .inr (8, 4, [3, 4, 5, 6]), .inl 1, .inl 1, .inl 1, .inl 1, .inl 6, .inr (0, 40, []), .inr (0, 40, [])]
noncomputable def yw_f64 (n : Nat) : List (List ys_V) := [[.inr (some 10), .inr (some 11), .inl (.inl ([(n + 0, 1)], 0)), .inl (.inl ([(n + 1, 1)], 0)), .inr (some 1), .inr (some 2), .inr (some 12), .inr (some 13), .inl (.inl ([(n + 2, 1)], 0)), .inl (.inl ([(n + 3, 1)], 0)), .inl (.inl ([(n + 4, 1)], 0))], [], [], [.inl (.inr ([(n + 5, 1)], 0)), .inl (.inr ([(n + 6, 1)], 0))], [.inl (.inr ([(n + 7, 1)], 0)), .inl (.inr ([(n + 8, 1)], 0))], [.inl (.inr ([(n + 9, 1)], 0)), .inl (.inr ([(n + 10, 1)], 0))], [.inl (.inr ([(n + 11, 1)], 0)), .inl (.inr ([(n + 12, 1)], 0))], [.inr (some 8), .inr (some 9), .inr (some 14), .inr (some 15), .inl (.inl ([(n + 13, 1)], 0)), .inl (.inl ([(n + 14, 1)], 0))], [], []]
noncomputable def yw_e64 : ys_E := [((-2147483648), 2147483647), (0, 4), (0, 40), (0, 40), ((-2147483648), 2147483647), ((-9223372036854775808), 9223372036854775807), ((-9223372036854775808), 9223372036854775807), ((-9223372036854775808), 9223372036854775807), ((-9223372036854775808), 9223372036854775807), ((-9223372036854775808), 9223372036854775807), ((-9223372036854775808), 9223372036854775807), ((-9223372036854775808), 9223372036854775807), ((-9223372036854775808), 9223372036854775807), (0, 40), ((-2147483648), 2147483647)]
noncomputable def yw_r64 : List ys_R := [((0, 0), []), ((0, 39), []), ((0, 0), []), ((0, 0), []), ((0, 0), []), ((0, 0), []), ((0, 0), []), ((0, 0), []), (((-300), 300), []), (((-300), 300), [])]
noncomputable def xf_107 : ys_F := (yw_f64 2, yw_r64)
noncomputable def xk_107 : ys_K := (((yX4_shareWithin, cX4_shareWithin, 9, none), (3, 71)), ([.inr (some 0), .inr (some 7), .inl (.inl ([(0, 1)], 0)), .inl (.inl ([(1, 1)], 0))], ([(0, 1), (0, 1)] ++ yw_e64, []), xf_107), ([([((-9223372036854775808), 9223372036854775807), ((-9223372036854775808), 9223372036854775807), ((-9223372036854775808), 9223372036854775807), ((-9223372036854775808), 9223372036854775807), ((-9223372036854775808), 9223372036854775807), ((-9223372036854775808), 9223372036854775807), ((-9223372036854775808), 9223372036854775807), ((-9223372036854775808), 9223372036854775807)], [], ((ys_fs xf_107.1 [(3, 0, .inl (.inr ([(17, 1)], 0))), (3, 1, .inl (.inr ([(18, 1)], 0))), (4, 0, .inl (.inr ([(19, 1)], 0))), (4, 1, .inl (.inr ([(20, 1)], 0))), (5, 0, .inl (.inr ([(21, 1)], 0))), (5, 1, .inl (.inr ([(22, 1)], 0))), (6, 0, .inl (.inr ([(23, 1)], 0))), (6, 1, .inl (.inr ([(24, 1)], 0)))]), xf_107.2), none)], []))
noncomputable def xq_107 : yt_Q := (yz_X4_shareWithin, (yl_flX4, yl_ciX4, yl_cjX4, yl_cpX4, yl_cqX4), [], [])
noncomputable def xa_107 : List yt_CE := [(((122, false), (181, false, [7, 8, 9, 14, 15])), (yw_s11, xk_13)), (((138, false), (313, false, [4])), (yw_s50, xk_84)), (((138, false), (313, false, [5])), (yw_s50, xk_84)), (((138, false), (313, false, [6])), (yw_s50, xk_84)), (((138, false), (313, false, [3])), (yw_s50, xk_84))]
noncomputable def xT_107 : yt_Tb := fun d => match d with
  | 181 => xP_13
  | 313 => xP_84
  | _ => fun _ _ _ _ => True
theorem xc_107 {l : Launch} {D : va_G} {cT : Nat → ClassId} {tys : List (ClassId × FieldType)} (hty : yx_Ty tys cT) : yx_C l D cT tys yw_s64 xk_107 := yx_methodT (tb := xT_107) (fun _ _ _ _ => trivial) (calls := xa_107) (Z := xq_107) 300 (by decide +kernel) yz_X4_shareWithin_ok hty (yl_lkX4 _) (yl_cqkX4 _) (List.forall_mem_cons.mpr ⟨⟨xc_13 hty, yg_CLv rfl rfl rfl yl_wX4_122 yd_yX6_turn⟩, List.forall_mem_cons.mpr ⟨⟨xc_84 hty, yg_CLv rfl rfl rfl yl_wX4_138 yd_yX1_become⟩, List.forall_mem_cons.mpr ⟨⟨xc_84 hty, yg_CLv rfl rfl rfl yl_wX4_138 yd_yX1_become⟩, List.forall_mem_cons.mpr ⟨⟨xc_84 hty, yg_CLv rfl rfl rfl yl_wX4_138 yd_yX1_become⟩, List.forall_mem_cons.mpr ⟨⟨xc_84 hty, yg_CLv rfl rfl rfl yl_wX4_138 yd_yX1_become⟩, fun _ h => absurd h List.not_mem_nil⟩⟩⟩⟩⟩) (by decide +kernel)
noncomputable def yw_s65 : List ys_C := [.inl 4, .inr (0, 40, []), .inl 6, .inr (0, 40, []), .inr (0, 40, [])]
noncomputable def yw_f65 (n : Nat) : List (List ys_V) := [[.inr (some 5), .inr (some 6), .inl (.inl ([(n + 0, 1)], 0)), .inl (.inl ([(n + 1, 1)], 0)), .inr (some 7), .inr (some 8), .inr (some 9), .inr (some 1), .inl (.inl ([(n + 2, 1)], 0)), .inl (.inl ([(n + 3, 1)], 0)), .inl (.inl ([(n + 4, 1)], 0))], [], [.inr (some 3), .inr (some 4), .inr (some 10), .inr (some 11), .inl (.inl ([(n + 5, 1)], 0)), .inl (.inl ([(n + 6, 1)], 0))], [], []]
noncomputable def yw_e65 : ys_E := [((-2147483648), 2147483647), (0, 4), (0, 40), (0, 40), ((-2147483648), 2147483647), (0, 40), ((-2147483648), 2147483647)]
noncomputable def yw_r65 : List ys_R := [((0, 0), []), ((0, 39), []), ((0, 0), []), (((-300), 300), []), (((-300), 300), [])]
noncomputable def xf_108 : ys_F := (yw_f65 3, yw_r65)
noncomputable def xk_108 : ys_K := (((yX4_firstNoWithin, cX4_firstNoWithin, 7, (some .int)), (1, 23)), ([.inr (some 0), .inr (some 2), .inl (.inl ([(0, 1)], 0)), .inl (.inl ([(1, 1)], 0)), .inl (.inl ([(2, 1)], 0))], ([(0, 39), (0, 39), (0, 39)] ++ yw_e65, []), xf_108), ([([((-1), 39)], [], (xf_108.1, xf_108.2), some (.inl (.inl ([(10, 1)], 0))))], []))
noncomputable def xq_108 : yt_Q := (yz_X4_firstNoWithin, (yl_flX4, yl_ciX4, yl_cjX4, yl_cpX4, yl_cqX4), [(20, ([((-720000), 720000), (0, 40)], [], (xf_108.1, xf_108.2), [(0, .inr (some 0)), (1, .inr (some 2)), (2, .inl (.inl ([(0, 1)], 0))), (3, .inl (.inl ([(1, 1)], 0))), (4, .inl (.inl ([(2, 1)], 0))), (5, .inl (.inl ([(10, 1)], 0))), (6, .inl (.inl ([(11, 1)], 0)))], [], ([(11, (-1))], 40)), [], false)], [])
noncomputable def xa_108 : List yt_CE := [(((122, false), (181, false, [2, 3, 4, 10, 11])), (yw_s11, xk_13)), (((126, true), (0, false, [])), (yw_s2, xk_103))]
noncomputable def xT_108 : yt_Tb := fun d => match d with
  | 181 => xP_13
  | _ => fun _ _ _ _ => True
theorem xc_108 {l : Launch} {D : va_G} {cT : Nat → ClassId} {tys : List (ClassId × FieldType)} (hty : yx_Ty tys cT) : yx_C l D cT tys yw_s65 xk_108 := yx_methodT (tb := xT_108) (fun _ _ _ _ => trivial) (calls := xa_108) (Z := xq_108) 300 (by decide +kernel) yz_X4_firstNoWithin_ok hty (yl_lkX4 _) (yl_cqkX4 _) (List.forall_mem_cons.mpr ⟨⟨xc_13 hty, yg_CLv rfl rfl rfl yl_wX4_122 yd_yX6_turn⟩, List.forall_mem_cons.mpr ⟨⟨xc_103 hty, yg_CLs yl_wX4_126 yd_yX4_isSameSide⟩, fun _ h => absurd h List.not_mem_nil⟩⟩) (by decide +kernel)
noncomputable def xf_109 : ys_F := (yw_f59 0, yw_r59)
noncomputable def xk_109 : ys_K := (((yX4_findNoWithin, cX4_findNoWithin, 6, (some .boolean)), (2, 49)), ([.inr (some 0), .inr (some 4)], ([] ++ yw_e59, []), xf_109), ([([], [], (xf_109.1, xf_109.2), some (.inl (.inl ([], 0)))), ([], [([(2, 1)], (-3)), ([(2, 1)], (-2))], ((ys_fs xf_109.1 [(0, 2, .inl (.inl ([], 3))), (0, 3, .inl (.inl ([], 4)))]), xf_109.2), some (.inl (.inl ([], 1))))], [1]))
noncomputable def xq_109 : yt_Q := (yz_X4_findNoWithin, (yl_flX4, yl_ciX4, yl_cjX4, yl_cpX4, yl_cqX4), [(14, ([(0, 39), (1, 40)], [([(2, 1)], (-1))], (xf_109.1, xf_109.2), [(0, .inr (some 0)), (1, .inr (some 4)), (2, .inl (.inl ([(7, 1)], 0))), (3, .inl (.inl ([(8, 1)], 0)))], [], ([(7, (-1682)), (8, (-41))], 68960)), [], false), (2, ([(0, 40)], [], (xf_109.1, xf_109.2), [(0, .inr (some 0)), (1, .inr (some 4)), (2, .inl (.inl ([(7, 1)], 0)))], [], ([(7, (-1682))], 68961)), [], false), (27, ([(0, 39), (1, 39), (2, 40)], [([(2, 1)], (-2))], (xf_109.1, xf_109.2), [(0, .inr (some 0)), (1, .inr (some 4)), (2, .inl (.inl ([(7, 1)], 0))), (3, .inl (.inl ([(8, 1)], 0))), (4, .inl (.inl ([(9, 1)], 0)))], [], ([(7, (-1682)), (9, (-1)), (8, (-41))], 68960)), [], false)], [])
noncomputable def xa_109 : List yt_CE := [(((129, false), (0, false, [0, 3, 4, 5, 6, 7, 8, 1, 9, 2, 10, 11])), (yw_s65, xk_108)), (((110, false), (0, false, [0, 1, 7, 8, 9, 2, 3])), (yw_s58, xk_105))]
theorem xc_109 {l : Launch} {D : va_G} {cT : Nat → ClassId} {tys : List (ClassId × FieldType)} (hty : yx_Ty tys cT) : yx_C l D cT tys yw_s59 xk_109 := yx_method (calls := xa_109) (Z := xq_109) 300 (by decide +kernel) yz_X4_findNoWithin_ok hty (yl_lkX4 _) (yl_cqkX4 _) (List.forall_mem_cons.mpr ⟨⟨xc_108 hty, yg_CLv rfl rfl rfl yl_wX4_129 yd_yX4_firstNoWithin⟩, List.forall_mem_cons.mpr ⟨⟨xc_105 hty, yg_CLv rfl rfl rfl yl_wX4_110 yd_yX4_hold⟩, fun _ h => absurd h List.not_mem_nil⟩⟩) (by decide +kernel)
noncomputable def yw_s66 : List ys_C := [.inl 4, .inl 1, .inl 1, .inr (0, 4, []), .inr (8, 4, [5, 6, 7, 8]), .inl 1, .inl 1, .inl 1, .inl 1, .inl 6, .inr (0, 40, []), .inr (0, 40, [])]
noncomputable def yw_f66 (n : Nat) : List (List ys_V) := [[.inr (some 1), .inr (some 2), .inl (.inl ([(n + 0, 1)], 0)), .inl (.inl ([(n + 1, 1)], 0)), .inr (some 3), .inr (some 4), .inr (some 12), .inr (some 13), .inl (.inl ([(n + 2, 1)], 0)), .inl (.inl ([(n + 3, 1)], 0)), .inl (.inl ([(n + 4, 1)], 0))], [.inl (.inr ([(n + 5, 1)], 0)), .inl (.inr ([(n + 6, 1)], 0))], [.inl (.inr ([(n + 7, 1)], 0)), .inl (.inr ([(n + 8, 1)], 0))], [], [], [.inl (.inr ([(n + 9, 1)], 0)), .inl (.inr ([(n + 10, 1)], 0))], [.inl (.inr ([(n + 11, 1)], 0)), .inl (.inr ([(n + 12, 1)], 0))], [.inl (.inr ([(n + 13, 1)], 0)), .inl (.inr ([(n + 14, 1)], 0))], [.inl (.inr ([(n + 15, 1)], 0)), .inl (.inr ([(n + 16, 1)], 0))], [.inr (some 10), .inr (some 11), .inr (some 14), .inr (some 15), .inl (.inl ([(n + 17, 1)], 0)), .inl (.inl ([(n + 18, 1)], 0))], [], []]
noncomputable def yw_e66 : ys_E := [((-2147483648), 2147483647), (0, 4), (0, 40), (0, 40), ((-2147483648), 2147483647), ((-9223372036854775808), 9223372036854775807), ((-9223372036854775808), 9223372036854775807), ((-9223372036854775808), 9223372036854775807), ((-9223372036854775808), 9223372036854775807), ((-9223372036854775808), 9223372036854775807), ((-9223372036854775808), 9223372036854775807), ((-9223372036854775808), 9223372036854775807), ((-9223372036854775808), 9223372036854775807), ((-9223372036854775808), 9223372036854775807), ((-9223372036854775808), 9223372036854775807), ((-9223372036854775808), 9223372036854775807), ((-9223372036854775808), 9223372036854775807), (0, 40), ((-2147483648), 2147483647)]
noncomputable def yw_r66 : List ys_R := [((0, 0), []), ((0, 0), []), ((0, 0), []), ((0, 39), []), ((0, 0), []), ((0, 0), []), ((0, 0), []), ((0, 0), []), ((0, 0), []), ((0, 0), []), (((-300), 300), []), (((-300), 300), [])]
noncomputable def xf_110 : ys_F := (yw_f66 1, yw_r66)
noncomputable def xk_110 : ys_K := (((yX4_shareAlone, cX4_shareAlone, 3, none), (3, 71)), ([.inr (some 0), .inr (some 9), .inl (.inl ([(0, 1)], 0))], ([(0, 3)] ++ yw_e66, []), xf_110), ([([((-9223372036854775808), 9223372036854775807), ((-9223372036854775808), 9223372036854775807), ((-9223372036854775808), 9223372036854775807), ((-9223372036854775808), 9223372036854775807), ((-9223372036854775808), 9223372036854775807), ((-9223372036854775808), 9223372036854775807), ((-9223372036854775808), 9223372036854775807), ((-9223372036854775808), 9223372036854775807), ((-9223372036854775808), 9223372036854775807), ((-9223372036854775808), 9223372036854775807), ((-9223372036854775808), 9223372036854775807), ((-9223372036854775808), 9223372036854775807)], [], ((ys_fs xf_110.1 [(1, 0, .inl (.inr ([(20, 1)], 0))), (1, 1, .inl (.inr ([(21, 1)], 0))), (2, 0, .inl (.inr ([(22, 1)], 0))), (2, 1, .inl (.inr ([(23, 1)], 0))), (5, 0, .inl (.inr ([(24, 1)], 0))), (5, 1, .inl (.inr ([(25, 1)], 0))), (6, 0, .inl (.inr ([(26, 1)], 0))), (6, 1, .inl (.inr ([(27, 1)], 0))), (7, 0, .inl (.inr ([(28, 1)], 0))), (7, 1, .inl (.inr ([(29, 1)], 0))), (8, 0, .inl (.inr ([(30, 1)], 0))), (8, 1, .inl (.inr ([(31, 1)], 0)))]), xf_110.2), none)], []))
noncomputable def xq_110 : yt_Q := (yz_X4_shareAlone, (yl_flX4, yl_ciX4, yl_cjX4, yl_cpX4, yl_cqX4), [], [])
noncomputable def xa_110 : List yt_CE := [(((138, false), (313, false, [8])), (yw_s50, xk_84)), (((138, false), (313, false, [1])), (yw_s50, xk_84)), (((138, false), (313, false, [2])), (yw_s50, xk_84)), (((138, false), (313, false, [7])), (yw_s50, xk_84)), (((138, false), (313, false, [6])), (yw_s50, xk_84)), (((138, false), (313, false, [5])), (yw_s50, xk_84))]
noncomputable def xT_110 : yt_Tb := fun d => match d with
  | 313 => xP_84
  | _ => fun _ _ _ _ => True
theorem xc_110 {l : Launch} {D : va_G} {cT : Nat → ClassId} {tys : List (ClassId × FieldType)} (hty : yx_Ty tys cT) : yx_C l D cT tys yw_s66 xk_110 := yx_methodT (tb := xT_110) (fun _ _ _ _ => trivial) (calls := xa_110) (Z := xq_110) 300 (by decide +kernel) yz_X4_shareAlone_ok hty (yl_lkX4 _) (yl_cqkX4 _) (List.forall_mem_cons.mpr ⟨⟨xc_84 hty, yg_CLv rfl rfl rfl yl_wX4_138 yd_yX1_become⟩, List.forall_mem_cons.mpr ⟨⟨xc_84 hty, yg_CLv rfl rfl rfl yl_wX4_138 yd_yX1_become⟩, List.forall_mem_cons.mpr ⟨⟨xc_84 hty, yg_CLv rfl rfl rfl yl_wX4_138 yd_yX1_become⟩, List.forall_mem_cons.mpr ⟨⟨xc_84 hty, yg_CLv rfl rfl rfl yl_wX4_138 yd_yX1_become⟩, List.forall_mem_cons.mpr ⟨⟨xc_84 hty, yg_CLv rfl rfl rfl yl_wX4_138 yd_yX1_become⟩, List.forall_mem_cons.mpr ⟨⟨xc_84 hty, yg_CLv rfl rfl rfl yl_wX4_138 yd_yX1_become⟩, fun _ h => absurd h List.not_mem_nil⟩⟩⟩⟩⟩⟩) (by decide +kernel)
noncomputable def xf_111 : ys_F := (yw_f64 2, yw_r64)
noncomputable def xk_111 : ys_K := (((yX4_shareWithin, cX4_shareWithin, 9, none), (3, 71)), ([.inr (some 0), .inr (some 7), .inl (.inl ([(0, 1)], 0)), .inl (.inl ([(1, 1)], 0))], ([(0, 3), (0, 1)] ++ yw_e64, []), xf_111), ([([((-9223372036854775808), 9223372036854775807), ((-9223372036854775808), 9223372036854775807), ((-9223372036854775808), 9223372036854775807), ((-9223372036854775808), 9223372036854775807), ((-9223372036854775808), 9223372036854775807), ((-9223372036854775808), 9223372036854775807), ((-9223372036854775808), 9223372036854775807), ((-9223372036854775808), 9223372036854775807)], [], ((ys_fs xf_111.1 [(3, 0, .inl (.inr ([(17, 1)], 0))), (3, 1, .inl (.inr ([(18, 1)], 0))), (4, 0, .inl (.inr ([(19, 1)], 0))), (4, 1, .inl (.inr ([(20, 1)], 0))), (5, 0, .inl (.inr ([(21, 1)], 0))), (5, 1, .inl (.inr ([(22, 1)], 0))), (6, 0, .inl (.inr ([(23, 1)], 0))), (6, 1, .inl (.inr ([(24, 1)], 0)))]), xf_111.2), none)], []))
noncomputable def xq_111 : yt_Q := (yz_X4_shareWithin, (yl_flX4, yl_ciX4, yl_cjX4, yl_cpX4, yl_cqX4), [], [])
noncomputable def xa_111 : List yt_CE := [(((122, false), (181, false, [7, 8, 9, 14, 15])), (yw_s11, xk_13)), (((138, false), (313, false, [4])), (yw_s50, xk_84)), (((138, false), (313, false, [5])), (yw_s50, xk_84)), (((138, false), (313, false, [6])), (yw_s50, xk_84)), (((138, false), (313, false, [3])), (yw_s50, xk_84))]
noncomputable def xT_111 : yt_Tb := fun d => match d with
  | 181 => xP_13
  | 313 => xP_84
  | _ => fun _ _ _ _ => True
theorem xc_111 {l : Launch} {D : va_G} {cT : Nat → ClassId} {tys : List (ClassId × FieldType)} (hty : yx_Ty tys cT) : yx_C l D cT tys yw_s64 xk_111 := yx_methodT (tb := xT_111) (fun _ _ _ _ => trivial) (calls := xa_111) (Z := xq_111) 300 (by decide +kernel) yz_X4_shareWithin_ok hty (yl_lkX4 _) (yl_cqkX4 _) (List.forall_mem_cons.mpr ⟨⟨xc_13 hty, yg_CLv rfl rfl rfl yl_wX4_122 yd_yX6_turn⟩, List.forall_mem_cons.mpr ⟨⟨xc_84 hty, yg_CLv rfl rfl rfl yl_wX4_138 yd_yX1_become⟩, List.forall_mem_cons.mpr ⟨⟨xc_84 hty, yg_CLv rfl rfl rfl yl_wX4_138 yd_yX1_become⟩, List.forall_mem_cons.mpr ⟨⟨xc_84 hty, yg_CLv rfl rfl rfl yl_wX4_138 yd_yX1_become⟩, List.forall_mem_cons.mpr ⟨⟨xc_84 hty, yg_CLv rfl rfl rfl yl_wX4_138 yd_yX1_become⟩, fun _ h => absurd h List.not_mem_nil⟩⟩⟩⟩⟩) (by decide +kernel)
noncomputable def xf_112 : ys_F := (yw_f65 3, yw_r65)
noncomputable def xk_112 : ys_K := (((yX4_otherEndAcross, cX4_otherEndAcross, 7, (some .int)), (1, 23)), ([.inr (some 0), .inr (some 2), .inl (.inl ([(0, 1)], 0)), .inl (.inl ([(1, 1)], 0)), .inl (.inl ([(2, 1)], 0))], ([(0, 39), (0, 39), (0, 39)] ++ yw_e65, []), xf_112), ([([((-1), 39)], [], (xf_112.1, xf_112.2), some (.inl (.inl ([(10, 1)], 0))))], []))
noncomputable def xq_112 : yt_Q := (yz_X4_otherEndAcross, (yl_flX4, yl_ciX4, yl_cjX4, yl_cpX4, yl_cqX4), [(28, ([((-720000), 720000), (1, 40)], [], (xf_112.1, xf_112.2), [(0, .inr (some 0)), (1, .inr (some 2)), (2, .inl (.inl ([(0, 1)], 0))), (3, .inl (.inl ([(1, 1)], 0))), (4, .inl (.inl ([(2, 1)], 0))), (5, .inl (.inl ([(10, 1)], 0))), (6, .inl (.inl ([(11, 1)], 0)))], [], ([(11, (-1))], 40)), [], false)], [])
noncomputable def xa_112 : List yt_CE := [(((122, false), (181, false, [2, 3, 4, 10, 11])), (yw_s11, xk_13)), (((126, true), (0, false, [])), (yw_s2, xk_103))]
noncomputable def xT_112 : yt_Tb := fun d => match d with
  | 181 => xP_13
  | _ => fun _ _ _ _ => True
theorem xc_112 {l : Launch} {D : va_G} {cT : Nat → ClassId} {tys : List (ClassId × FieldType)} (hty : yx_Ty tys cT) : yx_C l D cT tys yw_s65 xk_112 := yx_methodT (tb := xT_112) (fun _ _ _ _ => trivial) (calls := xa_112) (Z := xq_112) 300 (by decide +kernel) yz_X4_otherEndAcross_ok hty (yl_lkX4 _) (yl_cqkX4 _) (List.forall_mem_cons.mpr ⟨⟨xc_13 hty, yg_CLv rfl rfl rfl yl_wX4_122 yd_yX6_turn⟩, List.forall_mem_cons.mpr ⟨⟨xc_103 hty, yg_CLs yl_wX4_126 yd_yX4_isSameSide⟩, fun _ h => absurd h List.not_mem_nil⟩⟩) (by decide +kernel)
noncomputable def xf_113 : ys_F := (yw_f58 6, yw_r58)
noncomputable def xk_113 : ys_K := (((yX4_hold, cX4_hold, 7, (some .boolean)), (0, 0)), ([.inr (some 0), .inl (.inl ([(0, 1)], 0)), .inl (.inl ([(1, 1)], 0)), .inl (.inl ([(2, 1)], 0)), .inl (.inl ([(3, 1)], 0)), .inl (.inl ([(4, 1)], 0)), .inl (.inl ([(5, 1)], 0))], ([(0, 4), (0, 4), (0, 39), (0, 39), (0, 39), (0, 39)] ++ yw_e58, []), xf_113), ([([], [], ((ys_fs xf_113.1 [(0, 2, .inl (.inl ([(0, 1)], 0))), (0, 3, .inl (.inl ([(1, 1)], 0)))]), xf_113.2), some (.inl (.inl ([], 1))))], [1]))
noncomputable def xq_113 : yt_Q := (yz_X4_hold, (yl_flX4, yl_ciX4, yl_cjX4, yl_cpX4, yl_cqX4), [], [])
noncomputable def xa_113 : List yt_CE := []
theorem xc_113 {l : Launch} {D : va_G} {cT : Nat → ClassId} {tys : List (ClassId × FieldType)} (hty : yx_Ty tys cT) : yx_C l D cT tys yw_s58 xk_113 := yx_method (calls := xa_113) (Z := xq_113) 300 (by decide +kernel) yz_X4_hold_ok hty (yl_lkX4 _) (yl_cqkX4 _) (fun _ h => absurd h List.not_mem_nil) (by decide +kernel)
noncomputable def xf_114 : ys_F := (yw_f59 0, yw_r59)
noncomputable def xk_114 : ys_K := (((yX4_findCrossing, cX4_findCrossing, 6, (some .boolean)), (2, 49)), ([.inr (some 0), .inr (some 4)], ([] ++ yw_e59, []), xf_114), ([([], [], (xf_114.1, xf_114.2), some (.inl (.inl ([], 0)))), ([], [([(2, 1)], (-2)), ([(3, 1)], (-1))], ((ys_fs xf_114.1 [(0, 2, .inl (.inl ([], 4))), (0, 3, .inl (.inl ([], 4)))]), xf_114.2), some (.inl (.inl ([], 1))))], [1]))
noncomputable def xq_114 : yt_Q := (yz_X4_findCrossing, (yl_flX4, yl_ciX4, yl_cjX4, yl_cpX4, yl_cqX4), [(14, ([(0, 39), (1, 40)], [([(2, 1)], (-1))], (xf_114.1, xf_114.2), [(0, .inr (some 0)), (1, .inr (some 4)), (2, .inl (.inl ([(7, 1)], 0))), (3, .inl (.inl ([(8, 1)], 0)))], [], ([(7, (-1764)), (8, (-43))], 72322)), [], false), (2, ([(0, 40)], [], (xf_114.1, xf_114.2), [(0, .inr (some 0)), (1, .inr (some 4)), (2, .inl (.inl ([(7, 1)], 0)))], [], ([(7, (-1764))], 72323)), [], false), (25, ([(0, 39), (1, 39), (0, 40)], [([(2, 1)], (-2))], (xf_114.1, xf_114.2), [(0, .inr (some 0)), (1, .inr (some 4)), (2, .inl (.inl ([(7, 1)], 0))), (3, .inl (.inl ([(8, 1)], 0))), (4, .inl (.inl ([(9, 1)], 0)))], [], ([(7, (-1764)), (9, (-1)), (8, (-43))], 72320)), [], false)], [])
noncomputable def xa_114 : List yt_CE := [(((132, false), (0, false, [0, 3, 4, 5, 6, 7, 8, 1, 9, 2, 10, 11])), (yw_s65, xk_112)), (((110, false), (0, false, [0, 1, 7, 8, 9, 2, 3])), (yw_s58, xk_113))]
theorem xc_114 {l : Launch} {D : va_G} {cT : Nat → ClassId} {tys : List (ClassId × FieldType)} (hty : yx_Ty tys cT) : yx_C l D cT tys yw_s59 xk_114 := yx_method (calls := xa_114) (Z := xq_114) 300 (by decide +kernel) yz_X4_findCrossing_ok hty (yl_lkX4 _) (yl_cqkX4 _) (List.forall_mem_cons.mpr ⟨⟨xc_112 hty, yg_CLv rfl rfl rfl yl_wX4_132 yd_yX4_otherEndAcross⟩, List.forall_mem_cons.mpr ⟨⟨xc_113 hty, yg_CLv rfl rfl rfl yl_wX4_110 yd_yX4_hold⟩, fun _ h => absurd h List.not_mem_nil⟩⟩) (by decide +kernel)
noncomputable def xf_115 : ys_F := (yw_f61 2, yw_r61)
noncomputable def xk_115 : ys_K := (((yX4_shareEnds, cX4_shareEnds, 8, none), (3, 71)), ([.inr (some 0), .inr (some 6), .inl (.inl ([(0, 1)], 0)), .inl (.inl ([(1, 1)], 0))], ([(0, 1), (0, 2)] ++ yw_e61, []), xf_115), ([([((-9223372036854775808), 9223372036854775807), ((-9223372036854775808), 9223372036854775807), ((-9223372036854775808), 9223372036854775807), ((-9223372036854775808), 9223372036854775807), ((-9223372036854775808), 9223372036854775807), ((-9223372036854775808), 9223372036854775807)], [], ((ys_fs xf_115.1 [(3, 0, .inl (.inr ([(15, 1)], 0))), (3, 1, .inl (.inr ([(16, 1)], 0))), (4, 0, .inl (.inr ([(17, 1)], 0))), (4, 1, .inl (.inr ([(18, 1)], 0))), (5, 0, .inl (.inr ([(19, 1)], 0))), (5, 1, .inl (.inr ([(20, 1)], 0)))]), xf_115.2), none)], []))
noncomputable def xq_115 : yt_Q := (yz_X4_shareEnds, (yl_flX4, yl_ciX4, yl_cjX4, yl_cpX4, yl_cqX4), [], [])
noncomputable def xa_115 : List yt_CE := [(((122, false), (181, false, [6, 7, 8, 14, 15])), (yw_s11, xk_13)), (((138, false), (313, false, [4])), (yw_s50, xk_84)), (((138, false), (313, false, [5])), (yw_s50, xk_84)), (((138, false), (313, false, [3])), (yw_s50, xk_84))]
noncomputable def xT_115 : yt_Tb := fun d => match d with
  | 181 => xP_13
  | 313 => xP_84
  | _ => fun _ _ _ _ => True
theorem xc_115 {l : Launch} {D : va_G} {cT : Nat → ClassId} {tys : List (ClassId × FieldType)} (hty : yx_Ty tys cT) : yx_C l D cT tys yw_s61 xk_115 := yx_methodT (tb := xT_115) (fun _ _ _ _ => trivial) (calls := xa_115) (Z := xq_115) 300 (by decide +kernel) yz_X4_shareEnds_ok hty (yl_lkX4 _) (yl_cqkX4 _) (List.forall_mem_cons.mpr ⟨⟨xc_13 hty, yg_CLv rfl rfl rfl yl_wX4_122 yd_yX6_turn⟩, List.forall_mem_cons.mpr ⟨⟨xc_84 hty, yg_CLv rfl rfl rfl yl_wX4_138 yd_yX1_become⟩, List.forall_mem_cons.mpr ⟨⟨xc_84 hty, yg_CLv rfl rfl rfl yl_wX4_138 yd_yX1_become⟩, List.forall_mem_cons.mpr ⟨⟨xc_84 hty, yg_CLv rfl rfl rfl yl_wX4_138 yd_yX1_become⟩, fun _ h => absurd h List.not_mem_nil⟩⟩⟩⟩) (by decide +kernel)
noncomputable def xf_116 : ys_F := (yw_f64 2, yw_r64)
noncomputable def xk_116 : ys_K := (((yX4_shareEnds, cX4_shareEnds, 8, none), (3, 71)), ([.inr (some 0), .inr (some 7), .inl (.inl ([(0, 1)], 0)), .inl (.inl ([(1, 1)], 0))], ([(0, 2), (0, 1)] ++ yw_e64, []), xf_116), ([([((-9223372036854775808), 9223372036854775807), ((-9223372036854775808), 9223372036854775807), ((-9223372036854775808), 9223372036854775807), ((-9223372036854775808), 9223372036854775807), ((-9223372036854775808), 9223372036854775807), ((-9223372036854775808), 9223372036854775807), ((-9223372036854775808), 9223372036854775807), ((-9223372036854775808), 9223372036854775807)], [], ((ys_fs xf_116.1 [(3, 0, .inl (.inr ([(17, 1)], 0))), (3, 1, .inl (.inr ([(18, 1)], 0))), (4, 0, .inl (.inr ([(19, 1)], 0))), (4, 1, .inl (.inr ([(20, 1)], 0))), (5, 0, .inl (.inr ([(21, 1)], 0))), (5, 1, .inl (.inr ([(22, 1)], 0))), (6, 0, .inl (.inr ([(23, 1)], 0))), (6, 1, .inl (.inr ([(24, 1)], 0)))]), xf_116.2), none)], []))
noncomputable def xq_116 : yt_Q := (yz_X4_shareEnds, (yl_flX4, yl_ciX4, yl_cjX4, yl_cpX4, yl_cqX4), [], [])
noncomputable def xa_116 : List yt_CE := [(((122, false), (181, false, [7, 8, 9, 14, 15])), (yw_s11, xk_13)), (((138, false), (313, false, [5])), (yw_s50, xk_84)), (((138, false), (313, false, [6])), (yw_s50, xk_84)), (((138, false), (313, false, [4])), (yw_s50, xk_84)), (((138, false), (313, false, [3])), (yw_s50, xk_84))]
noncomputable def xT_116 : yt_Tb := fun d => match d with
  | 181 => xP_13
  | 313 => xP_84
  | _ => fun _ _ _ _ => True
theorem xc_116 {l : Launch} {D : va_G} {cT : Nat → ClassId} {tys : List (ClassId × FieldType)} (hty : yx_Ty tys cT) : yx_C l D cT tys yw_s64 xk_116 := yx_methodT (tb := xT_116) (fun _ _ _ _ => trivial) (calls := xa_116) (Z := xq_116) 300 (by decide +kernel) yz_X4_shareEnds_ok hty (yl_lkX4 _) (yl_cqkX4 _) (List.forall_mem_cons.mpr ⟨⟨xc_13 hty, yg_CLv rfl rfl rfl yl_wX4_122 yd_yX6_turn⟩, List.forall_mem_cons.mpr ⟨⟨xc_84 hty, yg_CLv rfl rfl rfl yl_wX4_138 yd_yX1_become⟩, List.forall_mem_cons.mpr ⟨⟨xc_84 hty, yg_CLv rfl rfl rfl yl_wX4_138 yd_yX1_become⟩, List.forall_mem_cons.mpr ⟨⟨xc_84 hty, yg_CLv rfl rfl rfl yl_wX4_138 yd_yX1_become⟩, List.forall_mem_cons.mpr ⟨⟨xc_84 hty, yg_CLv rfl rfl rfl yl_wX4_138 yd_yX1_become⟩, fun _ h => absurd h List.not_mem_nil⟩⟩⟩⟩⟩) (by decide +kernel)
noncomputable def xf_117 : ys_F := (yw_f66 0, yw_r66)
noncomputable def xk_117 : ys_K := (((yX4_shareCrossing, cX4_shareCrossing, 8, none), (4, 98)), ([.inr (some 0), .inr (some 9)], ([] ++ yw_e66, []), xf_117), ([([((-9223372036854775808), 9223372036854775807), ((-9223372036854775808), 9223372036854775807), ((-9223372036854775808), 9223372036854775807), ((-9223372036854775808), 9223372036854775807), ((-9223372036854775808), 9223372036854775807), ((-9223372036854775808), 9223372036854775807), ((-9223372036854775808), 9223372036854775807), ((-9223372036854775808), 9223372036854775807), ((-9223372036854775808), 9223372036854775807), ((-9223372036854775808), 9223372036854775807), ((-9223372036854775808), 9223372036854775807), ((-9223372036854775808), 9223372036854775807)], [], ((ys_fs xf_117.1 [(1, 0, .inl (.inr ([(19, 1)], 0))), (1, 1, .inl (.inr ([(20, 1)], 0))), (2, 0, .inl (.inr ([(21, 1)], 0))), (2, 1, .inl (.inr ([(22, 1)], 0))), (5, 0, .inl (.inr ([(23, 1)], 0))), (5, 1, .inl (.inr ([(24, 1)], 0))), (6, 0, .inl (.inr ([(25, 1)], 0))), (6, 1, .inl (.inr ([(26, 1)], 0))), (7, 0, .inl (.inr ([(27, 1)], 0))), (7, 1, .inl (.inr ([(28, 1)], 0))), (8, 0, .inl (.inr ([(29, 1)], 0))), (8, 1, .inl (.inr ([(30, 1)], 0)))]), xf_117.2), none)], []))
noncomputable def xq_117 : yt_Q := (yz_X4_shareCrossing, (yl_flX4, yl_ciX4, yl_cjX4, yl_cpX4, yl_cqX4), [], [])
noncomputable def xa_117 : List yt_CE := [(((148, false), (0, false, [0, 3, 4, 5, 6, 7, 9, 10, 11, 1, 2, 8, 12, 13, 14, 15])), (yw_s61, xk_115)), (((148, false), (0, false, [0, 3, 4, 5, 6, 7, 8, 9, 10, 11, 1, 2, 12, 13, 14, 15])), (yw_s64, xk_116)), (((122, false), (181, false, [9, 10, 11, 14, 15])), (yw_s11, xk_13)), (((138, false), (313, false, [1])), (yw_s50, xk_84)), (((138, false), (313, false, [2])), (yw_s50, xk_84))]
noncomputable def xT_117 : yt_Tb := fun d => match d with
  | 181 => xP_13
  | 313 => xP_84
  | _ => fun _ _ _ _ => True
theorem xc_117 {l : Launch} {D : va_G} {cT : Nat → ClassId} {tys : List (ClassId × FieldType)} (hty : yx_Ty tys cT) : yx_C l D cT tys yw_s66 xk_117 := yx_methodT (tb := xT_117) (fun _ _ _ _ => trivial) (calls := xa_117) (Z := xq_117) 300 (by decide +kernel) yz_X4_shareCrossing_ok hty (yl_lkX4 _) (yl_cqkX4 _) (List.forall_mem_cons.mpr ⟨⟨xc_115 hty, yg_CLv rfl rfl rfl yl_wX4_148 yd_yX4_shareEnds⟩, List.forall_mem_cons.mpr ⟨⟨xc_116 hty, yg_CLv rfl rfl rfl yl_wX4_148 yd_yX4_shareEnds⟩, List.forall_mem_cons.mpr ⟨⟨xc_13 hty, yg_CLv rfl rfl rfl yl_wX4_122 yd_yX6_turn⟩, List.forall_mem_cons.mpr ⟨⟨xc_84 hty, yg_CLv rfl rfl rfl yl_wX4_138 yd_yX1_become⟩, List.forall_mem_cons.mpr ⟨⟨xc_84 hty, yg_CLv rfl rfl rfl yl_wX4_138 yd_yX1_become⟩, fun _ h => absurd h List.not_mem_nil⟩⟩⟩⟩⟩) (by decide +kernel)
noncomputable def yw_s67 : List ys_C := [.inl 4, .inl 1, .inl 1, .inr (0, 4, []), .inr (8, 4, [5, 6, 7, 8]), .inl 1, .inl 1, .inl 1, .inl 1, .inr (0, 40, []), .inr (0, 40, []), .inl 6, .inr (0, 40, []), .inr (0, 40, []), .inr (0, 40, [])]
noncomputable def yw_f67 (n : Nat) : List (List ys_V) := [[.inr (some 1), .inr (some 2), .inl (.inl ([(n + 0, 1)], 0)), .inl (.inl ([(n + 1, 1)], 0)), .inr (some 3), .inr (some 4), .inr (some 9), .inr (some 10), .inl (.inl ([(n + 2, 1)], 0)), .inl (.inl ([(n + 3, 1)], 0)), .inl (.inl ([(n + 4, 1)], 0))], [.inl (.inr ([(n + 5, 1)], 0)), .inl (.inr ([(n + 6, 1)], 0))], [.inl (.inr ([(n + 7, 1)], 0)), .inl (.inr ([(n + 8, 1)], 0))], [], [], [.inl (.inr ([(n + 9, 1)], 0)), .inl (.inr ([(n + 10, 1)], 0))], [.inl (.inr ([(n + 11, 1)], 0)), .inl (.inr ([(n + 12, 1)], 0))], [.inl (.inr ([(n + 13, 1)], 0)), .inl (.inr ([(n + 14, 1)], 0))], [.inl (.inr ([(n + 15, 1)], 0)), .inl (.inr ([(n + 16, 1)], 0))], [], [], [.inr (some 12), .inr (some 13), .inr (some 14), .inr (some 15), .inl (.inl ([(n + 17, 1)], 0)), .inl (.inl ([(n + 18, 1)], 0))], [], [], []]
noncomputable def yw_e67 : ys_E := [((-2147483648), 2147483647), (0, 4), (0, 40), (0, 40), ((-2147483648), 2147483647), ((-9223372036854775808), 9223372036854775807), ((-9223372036854775808), 9223372036854775807), ((-9223372036854775808), 9223372036854775807), ((-9223372036854775808), 9223372036854775807), ((-9223372036854775808), 9223372036854775807), ((-9223372036854775808), 9223372036854775807), ((-9223372036854775808), 9223372036854775807), ((-9223372036854775808), 9223372036854775807), ((-9223372036854775808), 9223372036854775807), ((-9223372036854775808), 9223372036854775807), ((-9223372036854775808), 9223372036854775807), ((-9223372036854775808), 9223372036854775807), (0, 40), ((-2147483648), 2147483647)]
noncomputable def yw_r67 : List ys_R := [((0, 0), []), ((0, 0), []), ((0, 0), []), ((0, 39), []), ((0, 0), []), ((0, 0), []), ((0, 0), []), ((0, 0), []), ((0, 0), []), ((0, 39), []), ((0, 39), []), ((0, 0), []), (((-300), 300), []), (((-300), 300), []), ((0, 1), [])]
noncomputable def xf_118 : ys_F := (yw_f67 0, yw_r67)
noncomputable def xk_118 : ys_K := (((yX4_find, cX4_find, 2, none), (5, 125)), ([.inr (some 0), .inr (some 11)], ([] ++ yw_e67, []), xf_118), ([([((-2147483648), 2147483647), (0, 4), (0, 40), (0, 40), ((-2147483648), 2147483647), ((-9223372036854775808), 9223372036854775807), ((-9223372036854775808), 9223372036854775807), ((-9223372036854775808), 9223372036854775807), ((-9223372036854775808), 9223372036854775807), ((-9223372036854775808), 9223372036854775807), ((-9223372036854775808), 9223372036854775807), ((-9223372036854775808), 9223372036854775807), ((-9223372036854775808), 9223372036854775807), ((-9223372036854775808), 9223372036854775807), ((-9223372036854775808), 9223372036854775807), ((-9223372036854775808), 9223372036854775807), ((-9223372036854775808), 9223372036854775807)], [], ((ys_fs xf_118.1 [(0, 2, .inl (.inl ([(19, 1)], 0))), (0, 3, .inl (.inl ([(20, 1)], 0))), (0, 8, .inl (.inl ([(21, 1)], 0))), (0, 9, .inl (.inl ([(22, 1)], 0))), (0, 10, .inl (.inl ([(23, 1)], 0))), (1, 0, .inl (.inr ([(24, 1)], 0))), (1, 1, .inl (.inr ([(25, 1)], 0))), (2, 0, .inl (.inr ([(26, 1)], 0))), (2, 1, .inl (.inr ([(27, 1)], 0))), (5, 0, .inl (.inr ([(28, 1)], 0))), (5, 1, .inl (.inr ([(29, 1)], 0))), (6, 0, .inl (.inr ([(30, 1)], 0))), (6, 1, .inl (.inr ([(31, 1)], 0))), (7, 0, .inl (.inr ([(32, 1)], 0))), (7, 1, .inl (.inr ([(33, 1)], 0))), (8, 0, .inl (.inr ([(34, 1)], 0))), (8, 1, .inl (.inr ([(35, 1)], 0)))]), xf_118.2), none)], [3, 9, 10]))
noncomputable def xq_118 : yt_Q := (yz_X4_find, (yl_flX4, yl_ciX4, yl_cjX4, yl_cpX4, yl_cqX4), [], [])
noncomputable def xa_118 : List yt_CE := [(((65, false), (0, false, [0, 9, 10, 11, 14, 1, 2, 3, 4, 12, 13, 15])), (yw_s57, xk_92)), (((69, false), (0, false, [0, 3, 9, 10, 11, 12, 13, 1, 2, 4, 14, 15])), (yw_s59, xk_94)), (((73, false), (0, false, [0, 1, 2, 3, 4, 5, 6, 11, 12, 13, 7, 8, 9, 10, 14, 15])), (yw_s60, xk_95)), (((77, false), (0, false, [0, 3, 9, 10, 11, 12, 13, 1, 2, 4, 14, 15])), (yw_s59, xk_98)), (((80, false), (0, false, [0, 3, 4, 5, 6, 7, 11, 12, 13, 1, 2, 8, 9, 10, 14, 15])), (yw_s61, xk_99)), (((84, false), (0, false, [0, 3, 9, 10, 11, 12, 13, 1, 2, 4, 14, 15])), (yw_s59, xk_100)), (((73, false), (0, false, [0, 1, 2, 3, 4, 5, 6, 7, 11, 12, 13, 8, 9, 10, 14, 15])), (yw_s62, xk_101)), (((80, false), (0, false, [0, 3, 4, 5, 6, 7, 11, 12, 13, 1, 2, 8, 9, 10, 14, 15])), (yw_s61, xk_102)), (((87, false), (0, false, [0, 3, 9, 10, 11, 12, 13, 1, 2, 4, 14, 15])), (yw_s59, xk_106)), (((90, false), (0, false, [0, 3, 4, 5, 6, 7, 8, 11, 12, 13, 1, 2, 9, 10, 14, 15])), (yw_s64, xk_107)), (((93, false), (0, false, [0, 3, 9, 10, 11, 12, 13, 1, 2, 4, 14, 15])), (yw_s59, xk_109)), (((73, false), (0, false, [0, 1, 2, 3, 4, 5, 6, 7, 8, 11, 12, 13, 9, 10, 14, 15])), (yw_s66, xk_110)), (((90, false), (0, false, [0, 3, 4, 5, 6, 7, 8, 11, 12, 13, 1, 2, 9, 10, 14, 15])), (yw_s64, xk_111)), (((96, false), (0, false, [0, 3, 9, 10, 11, 12, 13, 1, 2, 4, 14, 15])), (yw_s59, xk_114)), (((99, false), (0, false, [0, 1, 2, 3, 4, 5, 6, 7, 8, 11, 12, 13, 9, 10, 14, 15])), (yw_s66, xk_117))]
theorem xc_118 {l : Launch} {D : va_G} {cT : Nat → ClassId} {tys : List (ClassId × FieldType)} (hty : yx_Ty tys cT) : yx_C l D cT tys yw_s67 xk_118 := yx_method (calls := xa_118) (Z := xq_118) 300 (by decide +kernel) yz_X4_find_ok hty (yl_lkX4 _) (yl_cqkX4 _) (List.forall_mem_cons.mpr ⟨⟨xc_92 hty, yg_CLv rfl rfl rfl yl_wX4_65 yd_yX4_gather⟩, List.forall_mem_cons.mpr ⟨⟨xc_94 hty, yg_CLv rfl rfl rfl yl_wX4_69 yd_yX4_findOnePlace⟩, List.forall_mem_cons.mpr ⟨⟨xc_95 hty, yg_CLv rfl rfl rfl yl_wX4_73 yd_yX4_shareAlone⟩, List.forall_mem_cons.mpr ⟨⟨xc_98 hty, yg_CLv rfl rfl rfl yl_wX4_77 yd_yX4_findYesBetween⟩, List.forall_mem_cons.mpr ⟨⟨xc_99 hty, yg_CLv rfl rfl rfl yl_wX4_80 yd_yX4_shareBetween⟩, List.forall_mem_cons.mpr ⟨⟨xc_100 hty, yg_CLv rfl rfl rfl yl_wX4_84 yd_yX4_findNoBetween⟩, List.forall_mem_cons.mpr ⟨⟨xc_101 hty, yg_CLv rfl rfl rfl yl_wX4_73 yd_yX4_shareAlone⟩, List.forall_mem_cons.mpr ⟨⟨xc_102 hty, yg_CLv rfl rfl rfl yl_wX4_80 yd_yX4_shareBetween⟩, List.forall_mem_cons.mpr ⟨⟨xc_106 hty, yg_CLv rfl rfl rfl yl_wX4_87 yd_yX4_findYesWithin⟩, List.forall_mem_cons.mpr ⟨⟨xc_107 hty, yg_CLv rfl rfl rfl yl_wX4_90 yd_yX4_shareWithin⟩, List.forall_mem_cons.mpr ⟨⟨xc_109 hty, yg_CLv rfl rfl rfl yl_wX4_93 yd_yX4_findNoWithin⟩, List.forall_mem_cons.mpr ⟨⟨xc_110 hty, yg_CLv rfl rfl rfl yl_wX4_73 yd_yX4_shareAlone⟩, List.forall_mem_cons.mpr ⟨⟨xc_111 hty, yg_CLv rfl rfl rfl yl_wX4_90 yd_yX4_shareWithin⟩, List.forall_mem_cons.mpr ⟨⟨xc_114 hty, yg_CLv rfl rfl rfl yl_wX4_96 yd_yX4_findCrossing⟩, List.forall_mem_cons.mpr ⟨⟨xc_117 hty, yg_CLv rfl rfl rfl yl_wX4_99 yd_yX4_shareCrossing⟩, fun _ h => absurd h List.not_mem_nil⟩⟩⟩⟩⟩⟩⟩⟩⟩⟩⟩⟩⟩⟩⟩) (by decide +kernel)
noncomputable def yw_s68 : List ys_C := [.inl 4, .inr (0, 4, []), .inr (8, 4, [3, 4, 5, 6]), .inl 1, .inl 1, .inl 1, .inl 1]
noncomputable def yw_f68 (n : Nat) : List (List ys_V) := [[.inr (some 7), .inr (some 8), .inl (.inl ([(n + 0, 1)], 0)), .inl (.inl ([(n + 1, 1)], 0)), .inr (some 1), .inr (some 2), .inr (some 9), .inr (some 10), .inl (.inl ([(n + 2, 1)], 0)), .inl (.inl ([(n + 3, 1)], 0)), .inl (.inl ([(n + 4, 1)], 0))], [], [], [.inl (.inr ([(n + 5, 1)], 0)), .inl (.inr ([(n + 6, 1)], 0))], [.inl (.inr ([(n + 7, 1)], 0)), .inl (.inr ([(n + 8, 1)], 0))], [.inl (.inr ([(n + 9, 1)], 0)), .inl (.inr ([(n + 10, 1)], 0))], [.inl (.inr ([(n + 11, 1)], 0)), .inl (.inr ([(n + 12, 1)], 0))]]
noncomputable def yw_e68 : ys_E := [((-2147483648), 2147483647), (0, 4), (0, 40), (0, 40), ((-2147483648), 2147483647), ((-9223372036854775808), 9223372036854775807), ((-9223372036854775808), 9223372036854775807), ((-9223372036854775808), 9223372036854775807), ((-9223372036854775808), 9223372036854775807), ((-9223372036854775808), 9223372036854775807), ((-9223372036854775808), 9223372036854775807), ((-9223372036854775808), 9223372036854775807), ((-9223372036854775808), 9223372036854775807)]
noncomputable def yw_r68 : List ys_R := [((0, 0), []), ((0, 39), []), ((0, 0), []), ((0, 0), []), ((0, 0), []), ((0, 0), []), ((0, 0), [])]
noncomputable def xf_119 : ys_F := (yw_f68 2, yw_r68)
noncomputable def xk_119 : ys_K := (((yX4_tellPoint, cX4_tellPoint, 3, (some .long)), (0, 0)), ([.inr (some 0), .inl (.inl ([(0, 1)], 0)), .inl (.inl ([(1, 1)], 0))], ([((-2147483648), 2147483647), ((-2147483648), 2147483647)] ++ yw_e68, []), xf_119), ([([((-9223372036854775808), 9223372036854775807)], [], (xf_119.1, xf_119.2), some (.inl (.inr ([(15, 1)], 0))))], []))
noncomputable def xq_119 : yt_Q := (yz_X4_tellPoint, (yl_flX4, yl_ciX4, yl_cjX4, yl_cpX4, yl_cqX4), [], [])
noncomputable def xa_119 : List yt_CE := []
theorem xc_119 {l : Launch} {D : va_G} {cT : Nat → ClassId} {tys : List (ClassId × FieldType)} (hty : yx_Ty tys cT) : yx_C l D cT tys yw_s68 xk_119 := yx_method (calls := xa_119) (Z := xq_119) 300 (by decide +kernel) yz_X4_tellPoint_ok hty (yl_lkX4 _) (yl_cqkX4 _) (fun _ h => absurd h List.not_mem_nil) (by decide +kernel)
noncomputable def yw_s69 : List ys_C := [.inl 11, .inl 6, .inr (0, 40, []), .inr (0, 40, []), .inr (0, 40, []), .inl 10, .inl 1, .inl 4, .inl 1, .inl 1, .inr (0, 4, []), .inr (8, 4, [12, 13, 14, 15]), .inl 1, .inl 1, .inl 1, .inl 1, .inr (0, 40, []), .inr (0, 40, [])]
noncomputable def yw_f69 (n : Nat) : List (List ys_V) := [[.inr (some 1), .inr (some 19), .inr (some 20), .inr (some 21), .inr (some 22), .inr (some 23), .inr (some 24), .inr (some 25), .inr (some 5), .inr (some 7), .inr (some 26), .inr (some 27), .inr (some 28), .inr (some 29), .inl (.inl ([(n + 0, 1)], 0))], [.inr (some 2), .inr (some 3), .inr (some 4), .inr (some 18), .inl (.inl ([(n + 1, 1)], 0)), .inl (.inl ([(n + 2, 1)], 0))], [], [], [], [.inr (some 6), .inl (.inl ([(n + 3, 1)], 0)), .inl (.inr ([(n + 4, 1)], 0)), .inl (.inr ([(n + 5, 1)], 0)), .inl (.inr ([(n + 6, 1)], 0)), .inl (.inl ([(n + 7, 1)], 0)), .inl (.inl ([(n + 8, 1)], 0)), .inl (.inl ([(n + 9, 1)], 0)), .inl (.inl ([(n + 10, 1)], 0)), .inl (.inl ([(n + 11, 1)], 0)), .inl (.inl ([(n + 12, 1)], 0))], [.inl (.inr ([(n + 13, 1)], 0)), .inl (.inr ([(n + 14, 1)], 0))], [.inr (some 8), .inr (some 9), .inl (.inl ([(n + 15, 1)], 0)), .inl (.inl ([(n + 16, 1)], 0)), .inr (some 10), .inr (some 11), .inr (some 16), .inr (some 17), .inl (.inl ([(n + 17, 1)], 0)), .inl (.inl ([(n + 18, 1)], 0)), .inl (.inl ([(n + 19, 1)], 0))], [.inl (.inr ([(n + 20, 1)], 0)), .inl (.inr ([(n + 21, 1)], 0))], [.inl (.inr ([(n + 22, 1)], 0)), .inl (.inr ([(n + 23, 1)], 0))], [], [], [.inl (.inr ([(n + 24, 1)], 0)), .inl (.inr ([(n + 25, 1)], 0))], [.inl (.inr ([(n + 26, 1)], 0)), .inl (.inr ([(n + 27, 1)], 0))], [.inl (.inr ([(n + 28, 1)], 0)), .inl (.inr ([(n + 29, 1)], 0))], [.inl (.inr ([(n + 30, 1)], 0)), .inl (.inr ([(n + 31, 1)], 0))], [], []]
noncomputable def yw_e69 : ys_E := [((-2147483648), 2147483647), (0, 40), ((-2147483648), 2147483647), (0, 1), ((-9223372036854775808), 9223372036854775807), ((-9223372036854775808), 9223372036854775807), ((-9223372036854775808), 9223372036854775807), (0, 40), ((-2147483648), 2147483647), ((-600), 600), ((-600), 600), ((-1000000), 1000000), ((-1000000), 1000000), ((-9223372036854775808), 9223372036854775807), ((-9223372036854775808), 9223372036854775807), ((-2147483648), 2147483647), (0, 4), (0, 40), (0, 40), ((-2147483648), 2147483647), ((-9223372036854775808), 9223372036854775807), ((-9223372036854775808), 9223372036854775807), ((-9223372036854775808), 9223372036854775807), ((-9223372036854775808), 9223372036854775807), ((-9223372036854775808), 9223372036854775807), ((-9223372036854775808), 9223372036854775807), ((-9223372036854775808), 9223372036854775807), ((-9223372036854775808), 9223372036854775807), ((-9223372036854775808), 9223372036854775807), ((-9223372036854775808), 9223372036854775807), ((-9223372036854775808), 9223372036854775807), ((-9223372036854775808), 9223372036854775807)]
noncomputable def yw_r69 : List ys_R := [((0, 0), []), ((0, 0), []), (((-300), 300), []), (((-300), 300), []), ((0, 1), []), ((0, 0), []), ((0, 0), []), ((0, 0), []), ((0, 0), []), ((0, 0), []), ((0, 39), []), ((0, 0), []), ((0, 0), []), ((0, 0), []), ((0, 0), []), ((0, 0), []), ((0, 39), []), ((0, 39), [])]
noncomputable def xf_120 : ys_F := (yw_f69 1, yw_r69)
noncomputable def xk_120 : ys_K := (((yX11_meet, cX11_meet, 2, (some .long)), (6, 146)), ([.inr (some 0), .inl (.inl ([(0, 1)], 0))], ([((-2147483648), 2147483647)] ++ yw_e69, []), xf_120), ([([((-9223372036854775808), 9223372036854775807), (0, 1), ((-9223372036854775808), 9223372036854775807), ((-9223372036854775808), 9223372036854775807), ((-9223372036854775808), 9223372036854775807), (0, 40), ((-2147483648), 2147483647), ((-600), 600), ((-600), 600), ((-1000000), 1000000), ((-1000000), 1000000), ((-9223372036854775808), 9223372036854775807), ((-9223372036854775808), 9223372036854775807), ((-2147483648), 2147483647), (0, 4), (0, 40), (0, 40), ((-2147483648), 2147483647), ((-9223372036854775808), 9223372036854775807), ((-9223372036854775808), 9223372036854775807), ((-9223372036854775808), 9223372036854775807), ((-9223372036854775808), 9223372036854775807), ((-9223372036854775808), 9223372036854775807), ((-9223372036854775808), 9223372036854775807), ((-9223372036854775808), 9223372036854775807), ((-9223372036854775808), 9223372036854775807), ((-9223372036854775808), 9223372036854775807), ((-9223372036854775808), 9223372036854775807), ((-9223372036854775808), 9223372036854775807), ((-9223372036854775808), 9223372036854775807)], [], ((ys_fs xf_120.1 [(5, 1, .inl (.inl ([(34, 1)], 0))), (5, 2, .inl (.inr ([(35, 1)], 0))), (5, 3, .inl (.inr ([(36, 1)], 0))), (5, 4, .inl (.inr ([(37, 1)], 0))), (5, 5, .inl (.inl ([(38, 1)], 0))), (5, 6, .inl (.inl ([(39, 1)], 0))), (5, 7, .inl (.inl ([(40, 1)], 0))), (5, 8, .inl (.inl ([(41, 1)], 0))), (5, 9, .inl (.inl ([(42, 1)], 0))), (5, 10, .inl (.inl ([(43, 1)], 0))), (6, 0, .inl (.inr ([(44, 1)], 0))), (6, 1, .inl (.inr ([(45, 1)], 0))), (7, 2, .inl (.inl ([(46, 1)], 0))), (7, 3, .inl (.inl ([(47, 1)], 0))), (7, 8, .inl (.inl ([(48, 1)], 0))), (7, 9, .inl (.inl ([(49, 1)], 0))), (7, 10, .inl (.inl ([(50, 1)], 0))), (8, 0, .inl (.inr ([(51, 1)], 0))), (8, 1, .inl (.inr ([(52, 1)], 0))), (9, 0, .inl (.inr ([(53, 1)], 0))), (9, 1, .inl (.inr ([(54, 1)], 0))), (12, 0, .inl (.inr ([(55, 1)], 0))), (12, 1, .inl (.inr ([(56, 1)], 0))), (13, 0, .inl (.inr ([(57, 1)], 0))), (13, 1, .inl (.inr ([(58, 1)], 0))), (14, 0, .inl (.inr ([(59, 1)], 0))), (14, 1, .inl (.inr ([(60, 1)], 0))), (15, 0, .inl (.inr ([(61, 1)], 0))), (15, 1, .inl (.inr ([(62, 1)], 0)))]), xf_120.2), some (.inl (.inr ([(33, 1)], 0))))], [10, 16, 17]))
noncomputable def xq_120 : yt_Q := (yz_X11_meet, (yl_flX11, yl_ciX11, yl_cjX11, yl_cpX11, yl_cqX11), [], [true])
noncomputable def xa_120 : List yt_CE := [(((226, true), (0, false, [])), (yw_s2, xk_80)), (((184, false), (306, false, [0, 1, 2, 3, 4, 5, 6, 18, 19, 20, 21, 22, 23, 24, 25, 7, 26, 27, 28, 29])), (yw_s56, xk_91)), (((231, false), (0, false, [7, 8, 9, 10, 11, 12, 13, 14, 15, 16, 17, 1, 2, 3, 4, 18])), (yw_s67, xk_118)), (((242, false), (0, false, [7, 10, 11, 12, 13, 14, 15, 8, 9, 16, 17])), (yw_s68, xk_119))]
noncomputable def xv_120 : List (List yt_VC) := [[(1000, ([((-2147483648), 2147483647), ((-2147483648), 2147483647), (0, 40), ((-2147483648), 2147483647), (0, 1), ((-9223372036854775808), 9223372036854775807), ((-9223372036854775808), 9223372036854775807), ((-9223372036854775808), 9223372036854775807), (0, 40), ((-2147483648), 2147483647), ((-600), 600), ((-600), 600), ((-1000000), 1000000), ((-1000000), 1000000), ((-9223372036854775808), 9223372036854775807), ((-9223372036854775808), 9223372036854775807), ((-2147483648), 2147483647), (0, 4), (0, 40), (0, 40), ((-2147483648), 2147483647), ((-9223372036854775808), 9223372036854775807), ((-9223372036854775808), 9223372036854775807), ((-9223372036854775808), 9223372036854775807), ((-9223372036854775808), 9223372036854775807), ((-9223372036854775808), 9223372036854775807), ((-9223372036854775808), 9223372036854775807), ((-9223372036854775808), 9223372036854775807), ((-9223372036854775808), 9223372036854775807), ((-9223372036854775808), 9223372036854775807), ((-9223372036854775808), 9223372036854775807), ((-9223372036854775808), 9223372036854775807), ((-9223372036854775808), 9223372036854775807)], []), [([], (-1000000)), ([(4, 1)], 0), ([(5, 1)], 0), ([(6, 1)], 0), ([(7, 1)], 0), ([(8, 1)], 0), ([(9, 1)], 0), ([(10, 1)], 0), ([(11, 1)], 0), ([(12, 1)], 0), ([(13, 1)], 0), ([(14, 1)], 0), ([(15, 1)], 0), ([(16, 1)], 0), ([(17, 1)], 0), ([(18, 1)], 0), ([(19, 1)], 0), ([(20, 1)], 0), ([(21, 1)], 0), ([(22, 1)], 0), ([(23, 1)], 0), ([(24, 1)], 0), ([(25, 1)], 0), ([(26, 1)], 0), ([(27, 1)], 0), ([(28, 1)], 0), ([(29, 1)], 0), ([(30, 1)], 0), ([(31, 1)], 0), ([(32, 1)], 0)], [], []),
   (1000, ([((-2147483648), 2147483647), ((-2147483648), 2147483647), (0, 40), ((-2147483648), 2147483647), (0, 1), ((-9223372036854775808), 9223372036854775807), ((-9223372036854775808), 9223372036854775807), ((-9223372036854775808), 9223372036854775807), (0, 40), ((-2147483648), 2147483647), ((-600), 600), ((-600), 600), ((-1000000), 1000000), ((-1000000), 1000000), ((-9223372036854775808), 9223372036854775807), ((-9223372036854775808), 9223372036854775807), ((-2147483648), 2147483647), (0, 4), (0, 40), (0, 40), ((-2147483648), 2147483647), ((-9223372036854775808), 9223372036854775807), ((-9223372036854775808), 9223372036854775807), ((-9223372036854775808), 9223372036854775807), ((-9223372036854775808), 9223372036854775807), ((-9223372036854775808), 9223372036854775807), ((-9223372036854775808), 9223372036854775807), ((-9223372036854775808), 9223372036854775807), ((-9223372036854775808), 9223372036854775807), ((-9223372036854775808), 9223372036854775807), ((-9223372036854775808), 9223372036854775807), ((-9223372036854775808), 9223372036854775807), ((-9223372036854775808), 9223372036854775807)], []), [([], (-6)), ([(4, 1)], 0), ([(5, 1)], 0), ([(6, 1)], 0), ([(7, 1)], 0), ([(8, 1)], 0), ([(9, 1)], 0), ([(10, 1)], 0), ([(11, 1)], 0), ([(12, 1)], 0), ([(13, 1)], 0), ([(14, 1)], 0), ([(15, 1)], 0), ([(16, 1)], 0), ([(17, 1)], 0), ([(18, 1)], 0), ([(19, 1)], 0), ([(20, 1)], 0), ([(21, 1)], 0), ([(22, 1)], 0), ([(23, 1)], 0), ([(24, 1)], 0), ([(25, 1)], 0), ([(26, 1)], 0), ([(27, 1)], 0), ([(28, 1)], 0), ([(29, 1)], 0), ([(30, 1)], 0), ([(31, 1)], 0), ([(32, 1)], 0)], [], [.inr (.inr (.inl (306, 0, [([(1, 1)], 0), ([(2, 1)], 0), ([(3, 1)], 0), ([(4, 1)], 0), ([(5, 1)], 0), ([(6, 1)], 0), ([(7, 1)], 0), ([(8, 1)], 0), ([(9, 1)], 0), ([(10, 1)], 0), ([(11, 1)], 0), ([(12, 1)], 0), ([(13, 1)], 0), ([(14, 1)], 0), ([(15, 1)], 0)], [0, 1, 2, 3, 4, 5, 6, 18, 19, 20, 21, 22, 23, 24, 25, 7, 26, 27, 28, 29], [])))]),
   (1000, ([(0, 0), ((-2147483648), 2147483647), (2, 40), ((-2147483648), 2147483647), (0, 1), ((-9223372036854775808), 9223372036854775807), ((-9223372036854775808), 9223372036854775807), ((-9223372036854775808), 9223372036854775807), (0, 40), ((-2147483648), 2147483647), ((-600), 600), ((-600), 600), ((-1000000), 1000000), ((-1000000), 1000000), ((-9223372036854775808), 9223372036854775807), ((-9223372036854775808), 9223372036854775807), ((-2147483648), 2147483647), (0, 4), (0, 40), (0, 40), ((-2147483648), 2147483647), ((-9223372036854775808), 9223372036854775807), ((-9223372036854775808), 9223372036854775807), ((-9223372036854775808), 9223372036854775807), ((-9223372036854775808), 9223372036854775807), ((-9223372036854775808), 9223372036854775807), ((-9223372036854775808), 9223372036854775807), ((-9223372036854775808), 9223372036854775807), ((-9223372036854775808), 9223372036854775807), ((-9223372036854775808), 9223372036854775807), ((-9223372036854775808), 9223372036854775807), ((-9223372036854775808), 9223372036854775807), ((-9223372036854775808), 9223372036854775807), (0, 0), (0, 1), ((-9223372036854775808), 9223372036854775807), ((-9223372036854775808), 9223372036854775807), ((-9223372036854775808), 9223372036854775807), (0, 40), ((-2147483648), 2147483647), ((-600), 600), ((-600), 600), ((-1000000), 1000000), ((-1000000), 1000000), ((-9223372036854775808), 9223372036854775807), ((-9223372036854775808), 9223372036854775807), ((-2147483648), 2147483647), (0, 4), (0, 40), (0, 40), ((-2147483648), 2147483647), ((-9223372036854775808), 9223372036854775807), ((-9223372036854775808), 9223372036854775807), ((-9223372036854775808), 9223372036854775807), ((-9223372036854775808), 9223372036854775807), ((-9223372036854775808), 9223372036854775807), ((-9223372036854775808), 9223372036854775807), ((-9223372036854775808), 9223372036854775807), ((-9223372036854775808), 9223372036854775807), ((-9223372036854775808), 9223372036854775807), ((-9223372036854775808), 9223372036854775807), ((-9223372036854775808), 9223372036854775807), ((-9223372036854775808), 9223372036854775807)], []), [([(46, 1)], 0), ([(34, 1)], 0), ([(35, 1)], 0), ([(36, 1)], 0), ([(37, 1)], 0), ([(38, 1)], 0), ([(39, 1)], 0), ([(40, 1)], 0), ([(41, 1)], 0), ([(42, 1)], 0), ([(43, 1)], 0), ([(44, 1)], 0), ([(45, 1)], 0), ([(46, 1)], 0), ([(47, 1)], 0), ([(48, 1)], 0), ([(49, 1)], 0), ([(50, 1)], 0), ([(51, 1)], 0), ([(52, 1)], 0), ([(53, 1)], 0), ([(54, 1)], 0), ([(55, 1)], 0), ([(56, 1)], 0), ([(57, 1)], 0), ([(58, 1)], 0), ([(59, 1)], 0), ([(60, 1)], 0), ([(61, 1)], 0), ([(62, 1)], 0)], [], [.inr (.inr (.inl (0, 0, [([(16, 1)], 0), ([(17, 1)], 0), ([(18, 1)], 0), ([(19, 1)], 0), ([(20, 1)], 0), ([(21, 1)], 0), ([(22, 1)], 0), ([(23, 1)], 0), ([(24, 1)], 0), ([(25, 1)], 0), ([(26, 1)], 0), ([(27, 1)], 0), ([(28, 1)], 0), ([(29, 1)], 0), ([(30, 1)], 0), ([(31, 1)], 0), ([(32, 1)], 0), ([(2, 1)], 0), ([(3, 1)], 0), ([(46, 1)], 0), ([(47, 1)], 0), ([(48, 1)], 0), ([(49, 1)], 0), ([(50, 1)], 0), ([(51, 1)], 0), ([(52, 1)], 0), ([(53, 1)], 0), ([(54, 1)], 0), ([(55, 1)], 0), ([(56, 1)], 0), ([(57, 1)], 0), ([(58, 1)], 0), ([(59, 1)], 0), ([(60, 1)], 0), ([(61, 1)], 0), ([(62, 1)], 0)], [7, 8, 9, 10, 11, 12, 13, 14, 15, 16, 17, 1, 2, 3, 4, 18], [10, 16, 17]))), .inr (.inr (.inl (306, 1, [([(1, 1)], 0), ([(2, 1)], 0), ([(3, 1)], 0), ([(4, 1)], 0), ([(5, 1)], 0), ([(6, 1)], 0), ([(7, 1)], 0), ([(8, 1)], 0), ([(9, 1)], 0), ([(10, 1)], 0), ([(11, 1)], 0), ([(12, 1)], 0), ([(13, 1)], 0), ([(14, 1)], 0), ([(15, 1)], 0), ([(33, 1)], 0), ([(34, 1)], 0), ([(35, 1)], 0), ([(36, 1)], 0), ([(37, 1)], 0), ([(38, 1)], 0), ([(39, 1)], 0), ([(40, 1)], 0), ([(41, 1)], 0), ([(42, 1)], 0), ([(43, 1)], 0), ([(44, 1)], 0), ([(45, 1)], 0)], [0, 1, 2, 3, 4, 5, 6, 18, 19, 20, 21, 22, 23, 24, 25, 7, 26, 27, 28, 29], [])))]),
   (1000, ([(1, 1), ((-2147483648), 2147483647), (2, 40), ((-2147483648), 2147483647), (0, 1), ((-9223372036854775808), 9223372036854775807), ((-9223372036854775808), 9223372036854775807), ((-9223372036854775808), 9223372036854775807), (0, 40), ((-2147483648), 2147483647), ((-600), 600), ((-600), 600), ((-1000000), 1000000), ((-1000000), 1000000), ((-9223372036854775808), 9223372036854775807), ((-9223372036854775808), 9223372036854775807), ((-2147483648), 2147483647), (0, 4), (0, 40), (0, 40), ((-2147483648), 2147483647), ((-9223372036854775808), 9223372036854775807), ((-9223372036854775808), 9223372036854775807), ((-9223372036854775808), 9223372036854775807), ((-9223372036854775808), 9223372036854775807), ((-9223372036854775808), 9223372036854775807), ((-9223372036854775808), 9223372036854775807), ((-9223372036854775808), 9223372036854775807), ((-9223372036854775808), 9223372036854775807), ((-9223372036854775808), 9223372036854775807), ((-9223372036854775808), 9223372036854775807), ((-9223372036854775808), 9223372036854775807), ((-9223372036854775808), 9223372036854775807), (0, 0), (0, 1), ((-9223372036854775808), 9223372036854775807), ((-9223372036854775808), 9223372036854775807), ((-9223372036854775808), 9223372036854775807), (0, 40), ((-2147483648), 2147483647), ((-600), 600), ((-600), 600), ((-1000000), 1000000), ((-1000000), 1000000), ((-9223372036854775808), 9223372036854775807), ((-9223372036854775808), 9223372036854775807), ((-2147483648), 2147483647), (0, 4), (0, 40), (0, 40), ((-2147483648), 2147483647), ((-9223372036854775808), 9223372036854775807), ((-9223372036854775808), 9223372036854775807), ((-9223372036854775808), 9223372036854775807), ((-9223372036854775808), 9223372036854775807), ((-9223372036854775808), 9223372036854775807), ((-9223372036854775808), 9223372036854775807), ((-9223372036854775808), 9223372036854775807), ((-9223372036854775808), 9223372036854775807), ((-9223372036854775808), 9223372036854775807), ((-9223372036854775808), 9223372036854775807), ((-9223372036854775808), 9223372036854775807), ((-9223372036854775808), 9223372036854775807)], []), [([(47, 1)], 0), ([(34, 1)], 0), ([(35, 1)], 0), ([(36, 1)], 0), ([(37, 1)], 0), ([(38, 1)], 0), ([(39, 1)], 0), ([(40, 1)], 0), ([(41, 1)], 0), ([(42, 1)], 0), ([(43, 1)], 0), ([(44, 1)], 0), ([(45, 1)], 0), ([(46, 1)], 0), ([(47, 1)], 0), ([(48, 1)], 0), ([(49, 1)], 0), ([(50, 1)], 0), ([(51, 1)], 0), ([(52, 1)], 0), ([(53, 1)], 0), ([(54, 1)], 0), ([(55, 1)], 0), ([(56, 1)], 0), ([(57, 1)], 0), ([(58, 1)], 0), ([(59, 1)], 0), ([(60, 1)], 0), ([(61, 1)], 0), ([(62, 1)], 0)], [], [.inr (.inr (.inl (0, 0, [([(16, 1)], 0), ([(17, 1)], 0), ([(18, 1)], 0), ([(19, 1)], 0), ([(20, 1)], 0), ([(21, 1)], 0), ([(22, 1)], 0), ([(23, 1)], 0), ([(24, 1)], 0), ([(25, 1)], 0), ([(26, 1)], 0), ([(27, 1)], 0), ([(28, 1)], 0), ([(29, 1)], 0), ([(30, 1)], 0), ([(31, 1)], 0), ([(32, 1)], 0), ([(2, 1)], 0), ([(3, 1)], 0), ([(46, 1)], 0), ([(47, 1)], 0), ([(48, 1)], 0), ([(49, 1)], 0), ([(50, 1)], 0), ([(51, 1)], 0), ([(52, 1)], 0), ([(53, 1)], 0), ([(54, 1)], 0), ([(55, 1)], 0), ([(56, 1)], 0), ([(57, 1)], 0), ([(58, 1)], 0), ([(59, 1)], 0), ([(60, 1)], 0), ([(61, 1)], 0), ([(62, 1)], 0)], [7, 8, 9, 10, 11, 12, 13, 14, 15, 16, 17, 1, 2, 3, 4, 18], [10, 16, 17]))), .inr (.inr (.inl (306, 1, [([(1, 1)], 0), ([(2, 1)], 0), ([(3, 1)], 0), ([(4, 1)], 0), ([(5, 1)], 0), ([(6, 1)], 0), ([(7, 1)], 0), ([(8, 1)], 0), ([(9, 1)], 0), ([(10, 1)], 0), ([(11, 1)], 0), ([(12, 1)], 0), ([(13, 1)], 0), ([(14, 1)], 0), ([(15, 1)], 0), ([(33, 1)], 0), ([(34, 1)], 0), ([(35, 1)], 0), ([(36, 1)], 0), ([(37, 1)], 0), ([(38, 1)], 0), ([(39, 1)], 0), ([(40, 1)], 0), ([(41, 1)], 0), ([(42, 1)], 0), ([(43, 1)], 0), ([(44, 1)], 0), ([(45, 1)], 0)], [0, 1, 2, 3, 4, 5, 6, 18, 19, 20, 21, 22, 23, 24, 25, 7, 26, 27, 28, 29], [])))]),
   (1000, ([(40, 40), ((-2147483648), 2147483647), (2, 40), ((-2147483648), 2147483647), (0, 1), ((-9223372036854775808), 9223372036854775807), ((-9223372036854775808), 9223372036854775807), ((-9223372036854775808), 9223372036854775807), (0, 40), ((-2147483648), 2147483647), ((-600), 600), ((-600), 600), ((-1000000), 1000000), ((-1000000), 1000000), ((-9223372036854775808), 9223372036854775807), ((-9223372036854775808), 9223372036854775807), ((-2147483648), 2147483647), (0, 4), (0, 40), (0, 40), ((-2147483648), 2147483647), ((-9223372036854775808), 9223372036854775807), ((-9223372036854775808), 9223372036854775807), ((-9223372036854775808), 9223372036854775807), ((-9223372036854775808), 9223372036854775807), ((-9223372036854775808), 9223372036854775807), ((-9223372036854775808), 9223372036854775807), ((-9223372036854775808), 9223372036854775807), ((-9223372036854775808), 9223372036854775807), ((-9223372036854775808), 9223372036854775807), ((-9223372036854775808), 9223372036854775807), ((-9223372036854775808), 9223372036854775807), ((-9223372036854775808), 9223372036854775807), (0, 0), (0, 1), ((-9223372036854775808), 9223372036854775807), ((-9223372036854775808), 9223372036854775807), ((-9223372036854775808), 9223372036854775807), (0, 40), ((-2147483648), 2147483647), ((-600), 600), ((-600), 600), ((-1000000), 1000000), ((-1000000), 1000000), ((-9223372036854775808), 9223372036854775807), ((-9223372036854775808), 9223372036854775807), ((-2147483648), 2147483647), (0, 4), (0, 40), (0, 40), ((-2147483648), 2147483647), ((-9223372036854775808), 9223372036854775807), ((-9223372036854775808), 9223372036854775807), ((-9223372036854775808), 9223372036854775807), ((-9223372036854775808), 9223372036854775807), ((-9223372036854775808), 9223372036854775807), ((-9223372036854775808), 9223372036854775807), ((-9223372036854775808), 9223372036854775807), ((-9223372036854775808), 9223372036854775807), ((-9223372036854775808), 9223372036854775807), ((-9223372036854775808), 9223372036854775807), ((-9223372036854775808), 9223372036854775807), ((-9223372036854775808), 9223372036854775807)], []), [([(51, 1)], 0), ([(34, 1)], 0), ([(35, 1)], 0), ([(36, 1)], 0), ([(37, 1)], 0), ([(38, 1)], 0), ([(39, 1)], 0), ([(40, 1)], 0), ([(41, 1)], 0), ([(42, 1)], 0), ([(43, 1)], 0), ([(44, 1)], 0), ([(45, 1)], 0), ([(46, 1)], 0), ([(47, 1)], 0), ([(48, 1)], 0), ([(49, 1)], 0), ([(50, 1)], 0), ([(51, 1)], 0), ([(52, 1)], 0), ([(53, 1)], 0), ([(54, 1)], 0), ([(55, 1)], 0), ([(56, 1)], 0), ([(57, 1)], 0), ([(58, 1)], 0), ([(59, 1)], 0), ([(60, 1)], 0), ([(61, 1)], 0), ([(62, 1)], 0)], [], [.inr (.inr (.inl (0, 0, [([(16, 1)], 0), ([(17, 1)], 0), ([(18, 1)], 0), ([(19, 1)], 0), ([(20, 1)], 0), ([(21, 1)], 0), ([(22, 1)], 0), ([(23, 1)], 0), ([(24, 1)], 0), ([(25, 1)], 0), ([(26, 1)], 0), ([(27, 1)], 0), ([(28, 1)], 0), ([(29, 1)], 0), ([(30, 1)], 0), ([(31, 1)], 0), ([(32, 1)], 0), ([(2, 1)], 0), ([(3, 1)], 0), ([(46, 1)], 0), ([(47, 1)], 0), ([(48, 1)], 0), ([(49, 1)], 0), ([(50, 1)], 0), ([(51, 1)], 0), ([(52, 1)], 0), ([(53, 1)], 0), ([(54, 1)], 0), ([(55, 1)], 0), ([(56, 1)], 0), ([(57, 1)], 0), ([(58, 1)], 0), ([(59, 1)], 0), ([(60, 1)], 0), ([(61, 1)], 0), ([(62, 1)], 0)], [7, 8, 9, 10, 11, 12, 13, 14, 15, 16, 17, 1, 2, 3, 4, 18], [10, 16, 17]))), .inr (.inr (.inl (306, 1, [([(1, 1)], 0), ([(2, 1)], 0), ([(3, 1)], 0), ([(4, 1)], 0), ([(5, 1)], 0), ([(6, 1)], 0), ([(7, 1)], 0), ([(8, 1)], 0), ([(9, 1)], 0), ([(10, 1)], 0), ([(11, 1)], 0), ([(12, 1)], 0), ([(13, 1)], 0), ([(14, 1)], 0), ([(15, 1)], 0), ([(33, 1)], 0), ([(34, 1)], 0), ([(35, 1)], 0), ([(36, 1)], 0), ([(37, 1)], 0), ([(38, 1)], 0), ([(39, 1)], 0), ([(40, 1)], 0), ([(41, 1)], 0), ([(42, 1)], 0), ([(43, 1)], 0), ([(44, 1)], 0), ([(45, 1)], 0)], [0, 1, 2, 3, 4, 5, 6, 18, 19, 20, 21, 22, 23, 24, 25, 7, 26, 27, 28, 29], [])))]),
   (1000, ([(41, 41), ((-2147483648), 2147483647), (2, 40), ((-2147483648), 2147483647), (0, 1), ((-9223372036854775808), 9223372036854775807), ((-9223372036854775808), 9223372036854775807), ((-9223372036854775808), 9223372036854775807), (0, 40), ((-2147483648), 2147483647), ((-600), 600), ((-600), 600), ((-1000000), 1000000), ((-1000000), 1000000), ((-9223372036854775808), 9223372036854775807), ((-9223372036854775808), 9223372036854775807), ((-2147483648), 2147483647), (0, 4), (0, 40), (0, 40), ((-2147483648), 2147483647), ((-9223372036854775808), 9223372036854775807), ((-9223372036854775808), 9223372036854775807), ((-9223372036854775808), 9223372036854775807), ((-9223372036854775808), 9223372036854775807), ((-9223372036854775808), 9223372036854775807), ((-9223372036854775808), 9223372036854775807), ((-9223372036854775808), 9223372036854775807), ((-9223372036854775808), 9223372036854775807), ((-9223372036854775808), 9223372036854775807), ((-9223372036854775808), 9223372036854775807), ((-9223372036854775808), 9223372036854775807), ((-9223372036854775808), 9223372036854775807), (0, 0), (0, 1), ((-9223372036854775808), 9223372036854775807), ((-9223372036854775808), 9223372036854775807), ((-9223372036854775808), 9223372036854775807), (0, 40), ((-2147483648), 2147483647), ((-600), 600), ((-600), 600), ((-1000000), 1000000), ((-1000000), 1000000), ((-9223372036854775808), 9223372036854775807), ((-9223372036854775808), 9223372036854775807), ((-2147483648), 2147483647), (0, 4), (0, 40), (0, 40), ((-2147483648), 2147483647), ((-9223372036854775808), 9223372036854775807), ((-9223372036854775808), 9223372036854775807), ((-9223372036854775808), 9223372036854775807), ((-9223372036854775808), 9223372036854775807), ((-9223372036854775808), 9223372036854775807), ((-9223372036854775808), 9223372036854775807), ((-9223372036854775808), 9223372036854775807), ((-9223372036854775808), 9223372036854775807), ((-9223372036854775808), 9223372036854775807), ((-9223372036854775808), 9223372036854775807), ((-9223372036854775808), 9223372036854775807), ((-9223372036854775808), 9223372036854775807)], []), [([(52, 1)], 0), ([(34, 1)], 0), ([(35, 1)], 0), ([(36, 1)], 0), ([(37, 1)], 0), ([(38, 1)], 0), ([(39, 1)], 0), ([(40, 1)], 0), ([(41, 1)], 0), ([(42, 1)], 0), ([(43, 1)], 0), ([(44, 1)], 0), ([(45, 1)], 0), ([(46, 1)], 0), ([(47, 1)], 0), ([(48, 1)], 0), ([(49, 1)], 0), ([(50, 1)], 0), ([(51, 1)], 0), ([(52, 1)], 0), ([(53, 1)], 0), ([(54, 1)], 0), ([(55, 1)], 0), ([(56, 1)], 0), ([(57, 1)], 0), ([(58, 1)], 0), ([(59, 1)], 0), ([(60, 1)], 0), ([(61, 1)], 0), ([(62, 1)], 0)], [], [.inr (.inr (.inl (0, 0, [([(16, 1)], 0), ([(17, 1)], 0), ([(18, 1)], 0), ([(19, 1)], 0), ([(20, 1)], 0), ([(21, 1)], 0), ([(22, 1)], 0), ([(23, 1)], 0), ([(24, 1)], 0), ([(25, 1)], 0), ([(26, 1)], 0), ([(27, 1)], 0), ([(28, 1)], 0), ([(29, 1)], 0), ([(30, 1)], 0), ([(31, 1)], 0), ([(32, 1)], 0), ([(2, 1)], 0), ([(3, 1)], 0), ([(46, 1)], 0), ([(47, 1)], 0), ([(48, 1)], 0), ([(49, 1)], 0), ([(50, 1)], 0), ([(51, 1)], 0), ([(52, 1)], 0), ([(53, 1)], 0), ([(54, 1)], 0), ([(55, 1)], 0), ([(56, 1)], 0), ([(57, 1)], 0), ([(58, 1)], 0), ([(59, 1)], 0), ([(60, 1)], 0), ([(61, 1)], 0), ([(62, 1)], 0)], [7, 8, 9, 10, 11, 12, 13, 14, 15, 16, 17, 1, 2, 3, 4, 18], [10, 16, 17]))), .inr (.inr (.inl (306, 1, [([(1, 1)], 0), ([(2, 1)], 0), ([(3, 1)], 0), ([(4, 1)], 0), ([(5, 1)], 0), ([(6, 1)], 0), ([(7, 1)], 0), ([(8, 1)], 0), ([(9, 1)], 0), ([(10, 1)], 0), ([(11, 1)], 0), ([(12, 1)], 0), ([(13, 1)], 0), ([(14, 1)], 0), ([(15, 1)], 0), ([(33, 1)], 0), ([(34, 1)], 0), ([(35, 1)], 0), ([(36, 1)], 0), ([(37, 1)], 0), ([(38, 1)], 0), ([(39, 1)], 0), ([(40, 1)], 0), ([(41, 1)], 0), ([(42, 1)], 0), ([(43, 1)], 0), ([(44, 1)], 0), ([(45, 1)], 0)], [0, 1, 2, 3, 4, 5, 6, 18, 19, 20, 21, 22, 23, 24, 25, 7, 26, 27, 28, 29], [])))]),
   (1000, ([(42, 42), ((-2147483648), 2147483647), (2, 40), ((-2147483648), 2147483647), (0, 1), ((-9223372036854775808), 9223372036854775807), ((-9223372036854775808), 9223372036854775807), ((-9223372036854775808), 9223372036854775807), (0, 40), ((-2147483648), 2147483647), ((-600), 600), ((-600), 600), ((-1000000), 1000000), ((-1000000), 1000000), ((-9223372036854775808), 9223372036854775807), ((-9223372036854775808), 9223372036854775807), ((-2147483648), 2147483647), (0, 4), (0, 40), (0, 40), ((-2147483648), 2147483647), ((-9223372036854775808), 9223372036854775807), ((-9223372036854775808), 9223372036854775807), ((-9223372036854775808), 9223372036854775807), ((-9223372036854775808), 9223372036854775807), ((-9223372036854775808), 9223372036854775807), ((-9223372036854775808), 9223372036854775807), ((-9223372036854775808), 9223372036854775807), ((-9223372036854775808), 9223372036854775807), ((-9223372036854775808), 9223372036854775807), ((-9223372036854775808), 9223372036854775807), ((-9223372036854775808), 9223372036854775807), ((-9223372036854775808), 9223372036854775807), (0, 0), (0, 1), ((-9223372036854775808), 9223372036854775807), ((-9223372036854775808), 9223372036854775807), ((-9223372036854775808), 9223372036854775807), (0, 40), ((-2147483648), 2147483647), ((-600), 600), ((-600), 600), ((-1000000), 1000000), ((-1000000), 1000000), ((-9223372036854775808), 9223372036854775807), ((-9223372036854775808), 9223372036854775807), ((-2147483648), 2147483647), (0, 4), (0, 40), (0, 40), ((-2147483648), 2147483647), ((-9223372036854775808), 9223372036854775807), ((-9223372036854775808), 9223372036854775807), ((-9223372036854775808), 9223372036854775807), ((-9223372036854775808), 9223372036854775807), ((-9223372036854775808), 9223372036854775807), ((-9223372036854775808), 9223372036854775807), ((-9223372036854775808), 9223372036854775807), ((-9223372036854775808), 9223372036854775807), ((-9223372036854775808), 9223372036854775807), ((-9223372036854775808), 9223372036854775807), ((-9223372036854775808), 9223372036854775807), ((-9223372036854775808), 9223372036854775807)], []), [([(53, 1)], 0), ([(34, 1)], 0), ([(35, 1)], 0), ([(36, 1)], 0), ([(37, 1)], 0), ([(38, 1)], 0), ([(39, 1)], 0), ([(40, 1)], 0), ([(41, 1)], 0), ([(42, 1)], 0), ([(43, 1)], 0), ([(44, 1)], 0), ([(45, 1)], 0), ([(46, 1)], 0), ([(47, 1)], 0), ([(48, 1)], 0), ([(49, 1)], 0), ([(50, 1)], 0), ([(51, 1)], 0), ([(52, 1)], 0), ([(53, 1)], 0), ([(54, 1)], 0), ([(55, 1)], 0), ([(56, 1)], 0), ([(57, 1)], 0), ([(58, 1)], 0), ([(59, 1)], 0), ([(60, 1)], 0), ([(61, 1)], 0), ([(62, 1)], 0)], [], [.inr (.inr (.inl (0, 0, [([(16, 1)], 0), ([(17, 1)], 0), ([(18, 1)], 0), ([(19, 1)], 0), ([(20, 1)], 0), ([(21, 1)], 0), ([(22, 1)], 0), ([(23, 1)], 0), ([(24, 1)], 0), ([(25, 1)], 0), ([(26, 1)], 0), ([(27, 1)], 0), ([(28, 1)], 0), ([(29, 1)], 0), ([(30, 1)], 0), ([(31, 1)], 0), ([(32, 1)], 0), ([(2, 1)], 0), ([(3, 1)], 0), ([(46, 1)], 0), ([(47, 1)], 0), ([(48, 1)], 0), ([(49, 1)], 0), ([(50, 1)], 0), ([(51, 1)], 0), ([(52, 1)], 0), ([(53, 1)], 0), ([(54, 1)], 0), ([(55, 1)], 0), ([(56, 1)], 0), ([(57, 1)], 0), ([(58, 1)], 0), ([(59, 1)], 0), ([(60, 1)], 0), ([(61, 1)], 0), ([(62, 1)], 0)], [7, 8, 9, 10, 11, 12, 13, 14, 15, 16, 17, 1, 2, 3, 4, 18], [10, 16, 17]))), .inr (.inr (.inl (306, 1, [([(1, 1)], 0), ([(2, 1)], 0), ([(3, 1)], 0), ([(4, 1)], 0), ([(5, 1)], 0), ([(6, 1)], 0), ([(7, 1)], 0), ([(8, 1)], 0), ([(9, 1)], 0), ([(10, 1)], 0), ([(11, 1)], 0), ([(12, 1)], 0), ([(13, 1)], 0), ([(14, 1)], 0), ([(15, 1)], 0), ([(33, 1)], 0), ([(34, 1)], 0), ([(35, 1)], 0), ([(36, 1)], 0), ([(37, 1)], 0), ([(38, 1)], 0), ([(39, 1)], 0), ([(40, 1)], 0), ([(41, 1)], 0), ([(42, 1)], 0), ([(43, 1)], 0), ([(44, 1)], 0), ([(45, 1)], 0)], [0, 1, 2, 3, 4, 5, 6, 18, 19, 20, 21, 22, 23, 24, 25, 7, 26, 27, 28, 29], [])))]),
   (1000, ([(43, 43), ((-2147483648), 2147483647), (2, 40), ((-2147483648), 2147483647), (0, 1), ((-9223372036854775808), 9223372036854775807), ((-9223372036854775808), 9223372036854775807), ((-9223372036854775808), 9223372036854775807), (0, 40), ((-2147483648), 2147483647), ((-600), 600), ((-600), 600), ((-1000000), 1000000), ((-1000000), 1000000), ((-9223372036854775808), 9223372036854775807), ((-9223372036854775808), 9223372036854775807), ((-2147483648), 2147483647), (0, 4), (0, 40), (0, 40), ((-2147483648), 2147483647), ((-9223372036854775808), 9223372036854775807), ((-9223372036854775808), 9223372036854775807), ((-9223372036854775808), 9223372036854775807), ((-9223372036854775808), 9223372036854775807), ((-9223372036854775808), 9223372036854775807), ((-9223372036854775808), 9223372036854775807), ((-9223372036854775808), 9223372036854775807), ((-9223372036854775808), 9223372036854775807), ((-9223372036854775808), 9223372036854775807), ((-9223372036854775808), 9223372036854775807), ((-9223372036854775808), 9223372036854775807), ((-9223372036854775808), 9223372036854775807), (0, 0), (0, 1), ((-9223372036854775808), 9223372036854775807), ((-9223372036854775808), 9223372036854775807), ((-9223372036854775808), 9223372036854775807), (0, 40), ((-2147483648), 2147483647), ((-600), 600), ((-600), 600), ((-1000000), 1000000), ((-1000000), 1000000), ((-9223372036854775808), 9223372036854775807), ((-9223372036854775808), 9223372036854775807), ((-2147483648), 2147483647), (0, 4), (0, 40), (0, 40), ((-2147483648), 2147483647), ((-9223372036854775808), 9223372036854775807), ((-9223372036854775808), 9223372036854775807), ((-9223372036854775808), 9223372036854775807), ((-9223372036854775808), 9223372036854775807), ((-9223372036854775808), 9223372036854775807), ((-9223372036854775808), 9223372036854775807), ((-9223372036854775808), 9223372036854775807), ((-9223372036854775808), 9223372036854775807), ((-9223372036854775808), 9223372036854775807), ((-9223372036854775808), 9223372036854775807), ((-9223372036854775808), 9223372036854775807), ((-9223372036854775808), 9223372036854775807)], []), [([(54, 1)], 0), ([(34, 1)], 0), ([(35, 1)], 0), ([(36, 1)], 0), ([(37, 1)], 0), ([(38, 1)], 0), ([(39, 1)], 0), ([(40, 1)], 0), ([(41, 1)], 0), ([(42, 1)], 0), ([(43, 1)], 0), ([(44, 1)], 0), ([(45, 1)], 0), ([(46, 1)], 0), ([(47, 1)], 0), ([(48, 1)], 0), ([(49, 1)], 0), ([(50, 1)], 0), ([(51, 1)], 0), ([(52, 1)], 0), ([(53, 1)], 0), ([(54, 1)], 0), ([(55, 1)], 0), ([(56, 1)], 0), ([(57, 1)], 0), ([(58, 1)], 0), ([(59, 1)], 0), ([(60, 1)], 0), ([(61, 1)], 0), ([(62, 1)], 0)], [], [.inr (.inr (.inl (0, 0, [([(16, 1)], 0), ([(17, 1)], 0), ([(18, 1)], 0), ([(19, 1)], 0), ([(20, 1)], 0), ([(21, 1)], 0), ([(22, 1)], 0), ([(23, 1)], 0), ([(24, 1)], 0), ([(25, 1)], 0), ([(26, 1)], 0), ([(27, 1)], 0), ([(28, 1)], 0), ([(29, 1)], 0), ([(30, 1)], 0), ([(31, 1)], 0), ([(32, 1)], 0), ([(2, 1)], 0), ([(3, 1)], 0), ([(46, 1)], 0), ([(47, 1)], 0), ([(48, 1)], 0), ([(49, 1)], 0), ([(50, 1)], 0), ([(51, 1)], 0), ([(52, 1)], 0), ([(53, 1)], 0), ([(54, 1)], 0), ([(55, 1)], 0), ([(56, 1)], 0), ([(57, 1)], 0), ([(58, 1)], 0), ([(59, 1)], 0), ([(60, 1)], 0), ([(61, 1)], 0), ([(62, 1)], 0)], [7, 8, 9, 10, 11, 12, 13, 14, 15, 16, 17, 1, 2, 3, 4, 18], [10, 16, 17]))), .inr (.inr (.inl (306, 1, [([(1, 1)], 0), ([(2, 1)], 0), ([(3, 1)], 0), ([(4, 1)], 0), ([(5, 1)], 0), ([(6, 1)], 0), ([(7, 1)], 0), ([(8, 1)], 0), ([(9, 1)], 0), ([(10, 1)], 0), ([(11, 1)], 0), ([(12, 1)], 0), ([(13, 1)], 0), ([(14, 1)], 0), ([(15, 1)], 0), ([(33, 1)], 0), ([(34, 1)], 0), ([(35, 1)], 0), ([(36, 1)], 0), ([(37, 1)], 0), ([(38, 1)], 0), ([(39, 1)], 0), ([(40, 1)], 0), ([(41, 1)], 0), ([(42, 1)], 0), ([(43, 1)], 0), ([(44, 1)], 0), ([(45, 1)], 0)], [0, 1, 2, 3, 4, 5, 6, 18, 19, 20, 21, 22, 23, 24, 25, 7, 26, 27, 28, 29], [])))]),
   (1000, ([((-2147483648), 2147483647), ((-2147483648), 2147483647), (2, 40), ((-2147483648), 2147483647), (0, 1), ((-9223372036854775808), 9223372036854775807), ((-9223372036854775808), 9223372036854775807), ((-9223372036854775808), 9223372036854775807), (0, 40), ((-2147483648), 2147483647), ((-600), 600), ((-600), 600), ((-1000000), 1000000), ((-1000000), 1000000), ((-9223372036854775808), 9223372036854775807), ((-9223372036854775808), 9223372036854775807), ((-2147483648), 2147483647), (0, 4), (0, 40), (0, 40), ((-2147483648), 2147483647), ((-9223372036854775808), 9223372036854775807), ((-9223372036854775808), 9223372036854775807), ((-9223372036854775808), 9223372036854775807), ((-9223372036854775808), 9223372036854775807), ((-9223372036854775808), 9223372036854775807), ((-9223372036854775808), 9223372036854775807), ((-9223372036854775808), 9223372036854775807), ((-9223372036854775808), 9223372036854775807), ((-9223372036854775808), 9223372036854775807), ((-9223372036854775808), 9223372036854775807), ((-9223372036854775808), 9223372036854775807), ((-9223372036854775808), 9223372036854775807), (0, 0), (0, 1), ((-9223372036854775808), 9223372036854775807), ((-9223372036854775808), 9223372036854775807), ((-9223372036854775808), 9223372036854775807), (0, 40), ((-2147483648), 2147483647), ((-600), 600), ((-600), 600), ((-1000000), 1000000), ((-1000000), 1000000), ((-9223372036854775808), 9223372036854775807), ((-9223372036854775808), 9223372036854775807), ((-2147483648), 2147483647), (0, 4), (0, 40), (0, 40), ((-2147483648), 2147483647), ((-9223372036854775808), 9223372036854775807), ((-9223372036854775808), 9223372036854775807), ((-9223372036854775808), 9223372036854775807), ((-9223372036854775808), 9223372036854775807), ((-9223372036854775808), 9223372036854775807), ((-9223372036854775808), 9223372036854775807), ((-9223372036854775808), 9223372036854775807), ((-9223372036854775808), 9223372036854775807), ((-9223372036854775808), 9223372036854775807), ((-9223372036854775808), 9223372036854775807), ((-9223372036854775808), 9223372036854775807), ((-9223372036854775808), 9223372036854775807), ((-2147483648), 2147483647), ((-2147483648), 2147483647), ((-9223372036854775808), 9223372036854775807)], []), [([(65, 1)], 0), ([(34, 1)], 0), ([(35, 1)], 0), ([(36, 1)], 0), ([(37, 1)], 0), ([(38, 1)], 0), ([(39, 1)], 0), ([(40, 1)], 0), ([(41, 1)], 0), ([(42, 1)], 0), ([(43, 1)], 0), ([(44, 1)], 0), ([(45, 1)], 0), ([(46, 1)], 0), ([(47, 1)], 0), ([(48, 1)], 0), ([(49, 1)], 0), ([(50, 1)], 0), ([(51, 1)], 0), ([(52, 1)], 0), ([(53, 1)], 0), ([(54, 1)], 0), ([(55, 1)], 0), ([(56, 1)], 0), ([(57, 1)], 0), ([(58, 1)], 0), ([(59, 1)], 0), ([(60, 1)], 0), ([(61, 1)], 0), ([(62, 1)], 0)], [], [.inr (.inr (.inl (0, 0, [([(16, 1)], 0), ([(17, 1)], 0), ([(18, 1)], 0), ([(19, 1)], 0), ([(20, 1)], 0), ([(21, 1)], 0), ([(22, 1)], 0), ([(23, 1)], 0), ([(24, 1)], 0), ([(25, 1)], 0), ([(26, 1)], 0), ([(27, 1)], 0), ([(28, 1)], 0), ([(29, 1)], 0), ([(30, 1)], 0), ([(31, 1)], 0), ([(32, 1)], 0), ([(2, 1)], 0), ([(3, 1)], 0), ([(46, 1)], 0), ([(47, 1)], 0), ([(48, 1)], 0), ([(49, 1)], 0), ([(50, 1)], 0), ([(51, 1)], 0), ([(52, 1)], 0), ([(53, 1)], 0), ([(54, 1)], 0), ([(55, 1)], 0), ([(56, 1)], 0), ([(57, 1)], 0), ([(58, 1)], 0), ([(59, 1)], 0), ([(60, 1)], 0), ([(61, 1)], 0), ([(62, 1)], 0)], [7, 8, 9, 10, 11, 12, 13, 14, 15, 16, 17, 1, 2, 3, 4, 18], [10, 16, 17]))), .inr (.inr (.inl (306, 1, [([(1, 1)], 0), ([(2, 1)], 0), ([(3, 1)], 0), ([(4, 1)], 0), ([(5, 1)], 0), ([(6, 1)], 0), ([(7, 1)], 0), ([(8, 1)], 0), ([(9, 1)], 0), ([(10, 1)], 0), ([(11, 1)], 0), ([(12, 1)], 0), ([(13, 1)], 0), ([(14, 1)], 0), ([(15, 1)], 0), ([(33, 1)], 0), ([(34, 1)], 0), ([(35, 1)], 0), ([(36, 1)], 0), ([(37, 1)], 0), ([(38, 1)], 0), ([(39, 1)], 0), ([(40, 1)], 0), ([(41, 1)], 0), ([(42, 1)], 0), ([(43, 1)], 0), ([(44, 1)], 0), ([(45, 1)], 0)], [0, 1, 2, 3, 4, 5, 6, 18, 19, 20, 21, 22, 23, 24, 25, 7, 26, 27, 28, 29], [])))]),
   (1000, ([((-2147483648), 2147483647), ((-2147483648), 2147483647), (2, 40), ((-2147483648), 2147483647), (0, 1), ((-9223372036854775808), 9223372036854775807), ((-9223372036854775808), 9223372036854775807), ((-9223372036854775808), 9223372036854775807), (0, 40), ((-2147483648), 2147483647), ((-600), 600), ((-600), 600), ((-1000000), 1000000), ((-1000000), 1000000), ((-9223372036854775808), 9223372036854775807), ((-9223372036854775808), 9223372036854775807), ((-2147483648), 2147483647), (0, 4), (0, 40), (0, 40), ((-2147483648), 2147483647), ((-9223372036854775808), 9223372036854775807), ((-9223372036854775808), 9223372036854775807), ((-9223372036854775808), 9223372036854775807), ((-9223372036854775808), 9223372036854775807), ((-9223372036854775808), 9223372036854775807), ((-9223372036854775808), 9223372036854775807), ((-9223372036854775808), 9223372036854775807), ((-9223372036854775808), 9223372036854775807), ((-9223372036854775808), 9223372036854775807), ((-9223372036854775808), 9223372036854775807), ((-9223372036854775808), 9223372036854775807), ((-9223372036854775808), 9223372036854775807), (1, 1), (0, 1), ((-9223372036854775808), 9223372036854775807), ((-9223372036854775808), 9223372036854775807), ((-9223372036854775808), 9223372036854775807), (0, 40), ((-2147483648), 2147483647), ((-600), 600), ((-600), 600), ((-1000000), 1000000), ((-1000000), 1000000), ((-9223372036854775808), 9223372036854775807), ((-9223372036854775808), 9223372036854775807)], []), [([], (-6)), ([(34, 1)], 0), ([(35, 1)], 0), ([(36, 1)], 0), ([(37, 1)], 0), ([(38, 1)], 0), ([(39, 1)], 0), ([(40, 1)], 0), ([(41, 1)], 0), ([(42, 1)], 0), ([(43, 1)], 0), ([(44, 1)], 0), ([(45, 1)], 0), ([(16, 1)], 0), ([(17, 1)], 0), ([(18, 1)], 0), ([(19, 1)], 0), ([(20, 1)], 0), ([(21, 1)], 0), ([(22, 1)], 0), ([(23, 1)], 0), ([(24, 1)], 0), ([(25, 1)], 0), ([(26, 1)], 0), ([(27, 1)], 0), ([(28, 1)], 0), ([(29, 1)], 0), ([(30, 1)], 0), ([(31, 1)], 0), ([(32, 1)], 0)], [], [.inr (.inr (.inl (306, 1, [([(1, 1)], 0), ([(2, 1)], 0), ([(3, 1)], 0), ([(4, 1)], 0), ([(5, 1)], 0), ([(6, 1)], 0), ([(7, 1)], 0), ([(8, 1)], 0), ([(9, 1)], 0), ([(10, 1)], 0), ([(11, 1)], 0), ([(12, 1)], 0), ([(13, 1)], 0), ([(14, 1)], 0), ([(15, 1)], 0), ([(33, 1)], 0), ([(34, 1)], 0), ([(35, 1)], 0), ([(36, 1)], 0), ([(37, 1)], 0), ([(38, 1)], 0), ([(39, 1)], 0), ([(40, 1)], 0), ([(41, 1)], 0), ([(42, 1)], 0), ([(43, 1)], 0), ([(44, 1)], 0), ([(45, 1)], 0)], [0, 1, 2, 3, 4, 5, 6, 18, 19, 20, 21, 22, 23, 24, 25, 7, 26, 27, 28, 29], [])))])]]
noncomputable def xG_120 : Nat → yt_G → (Nat → Int) → yt_G → Prop
  | _, _, _, _ => True
noncomputable def xP_120 : yt_Ph
  | 0, r, g0, g => (((1 * (r 39) + 0) + 0) = ((1 * (r 9) + 0) + 0) ∧ (((1 * (r 34) + 0) + 0), ((1 * (r 40) + 0) + 0), ((1 * (r 41) + 0) + 0), ((1 * (r 42) + 0) + 0), ((1 * (r 43) + 0) + 0)) = (((1 * (r 4) + 0) + 0), ((1 * (r 10) + 0) + 0), ((1 * (r 11) + 0) + 0), ((1 * (r 12) + 0) + 0), ((1 * (r 13) + 0) + 0)) ∧ (((1 * (r 44) + 0) + 0), ((1 * (r 45) + 0) + 0), ((1 * (r 35) + 0) + 0), ((1 * (r 36) + 0) + 0), ((1 * (r 37) + 0) + 0), ((1 * (r 38) + 0) + 0)) = (((1 * (r 14) + 0) + 0), ((1 * (r 15) + 0) + 0), ((1 * (r 5) + 0) + 0), ((1 * (r 6) + 0) + 0), ((1 * (r 7) + 0) + 0), ((1 * (r 8) + 0) + 0))) ∨ (ye_fd (g0 2) (g0 3) (g0 4) (((1 * (r 2) + 0) + 0)).toNat ((1 * (r 3) + 0) + 0) ((1 * (r 9) + 0) + 0) (((1 * (r 4) + 0) + 0), ((1 * (r 10) + 0) + 0), ((1 * (r 11) + 0) + 0), ((1 * (r 12) + 0) + 0), ((1 * (r 13) + 0) + 0)) ((1 * (r 39) + 0) + 0) (((1 * (r 34) + 0) + 0), ((1 * (r 40) + 0) + 0), ((1 * (r 41) + 0) + 0), ((1 * (r 42) + 0) + 0), ((1 * (r 43) + 0) + 0)) ∧ ye_fo (g0 2) (g0 3) (((1 * (r 2) + 0) + 0)).toNat ((1 * (r 3) + 0) + 0) ((1 * (r 9) + 0) + 0) (((1 * (r 14) + 0) + 0), ((1 * (r 15) + 0) + 0), ((1 * (r 5) + 0) + 0), ((1 * (r 6) + 0) + 0), ((1 * (r 7) + 0) + 0), ((1 * (r 8) + 0) + 0)) (((1 * (r 34) + 0) + 0), ((1 * (r 40) + 0) + 0), ((1 * (r 41) + 0) + 0), ((1 * (r 42) + 0) + 0), ((1 * (r 43) + 0) + 0)) (((1 * (r 44) + 0) + 0), ((1 * (r 45) + 0) + 0), ((1 * (r 35) + 0) + 0), ((1 * (r 36) + 0) + 0), ((1 * (r 37) + 0) + 0), ((1 * (r 38) + 0) + 0)))
  | _, _, _, _ => True
noncomputable def xR_120 : yt_Ps := fun r g0 => True
noncomputable def xT_120 : yt_Tb := fun d => match d with
  | 306 => xP_91
  | _ => fun _ _ _ _ => True
noncomputable def xU_120 : Nat → yt_Ps := fun d => match d with
  | 306 => xR_91
  | _ => fun _ _ => True
theorem xw_120_0_0 : yt_hold xT_120 xk_120 xq_120.2.2.1 xG_120 xP_120 xU_120 33 xk_120.2.1.2.2.2 (fun g0 r g => xR_120 r g0 ∧ g = g0) (1000, ([((-2147483648), 2147483647), ((-2147483648), 2147483647), (0, 40), ((-2147483648), 2147483647), (0, 1), ((-9223372036854775808), 9223372036854775807), ((-9223372036854775808), 9223372036854775807), ((-9223372036854775808), 9223372036854775807), (0, 40), ((-2147483648), 2147483647), ((-600), 600), ((-600), 600), ((-1000000), 1000000), ((-1000000), 1000000), ((-9223372036854775808), 9223372036854775807), ((-9223372036854775808), 9223372036854775807), ((-2147483648), 2147483647), (0, 4), (0, 40), (0, 40), ((-2147483648), 2147483647), ((-9223372036854775808), 9223372036854775807), ((-9223372036854775808), 9223372036854775807), ((-9223372036854775808), 9223372036854775807), ((-9223372036854775808), 9223372036854775807), ((-9223372036854775808), 9223372036854775807), ((-9223372036854775808), 9223372036854775807), ((-9223372036854775808), 9223372036854775807), ((-9223372036854775808), 9223372036854775807), ((-9223372036854775808), 9223372036854775807), ((-9223372036854775808), 9223372036854775807), ((-9223372036854775808), 9223372036854775807), ((-9223372036854775808), 9223372036854775807)], []), [([], (-1000000)), ([(4, 1)], 0), ([(5, 1)], 0), ([(6, 1)], 0), ([(7, 1)], 0), ([(8, 1)], 0), ([(9, 1)], 0), ([(10, 1)], 0), ([(11, 1)], 0), ([(12, 1)], 0), ([(13, 1)], 0), ([(14, 1)], 0), ([(15, 1)], 0), ([(16, 1)], 0), ([(17, 1)], 0), ([(18, 1)], 0), ([(19, 1)], 0), ([(20, 1)], 0), ([(21, 1)], 0), ([(22, 1)], 0), ([(23, 1)], 0), ([(24, 1)], 0), ([(25, 1)], 0), ([(26, 1)], 0), ([(27, 1)], 0), ([(28, 1)], 0), ([(29, 1)], 0), ([(30, 1)], 0), ([(31, 1)], 0), ([(32, 1)], 0)], [], []) := by
  intro g0 r gi g hok hh hars hfr hG
  obtain ⟨hG, hgi⟩ := hG
  have hG : True := hG
  have hh : g = gi := hh
  subst hh
  refine yt_dalt (by decide) (by decide) ?_
  rw [show xk_120.2.1.2.1.1.length = 33 from rfl]
  show (((1 * ((1 * r 9 + 0) + 0) + 0) + 0) = ((1 * ((1 * r 9 + 0) + 0) + 0) + 0) ∧ (((1 * ((1 * r 4 + 0) + 0) + 0) + 0), ((1 * ((1 * r 10 + 0) + 0) + 0) + 0), ((1 * ((1 * r 11 + 0) + 0) + 0) + 0), ((1 * ((1 * r 12 + 0) + 0) + 0) + 0), ((1 * ((1 * r 13 + 0) + 0) + 0) + 0)) = (((1 * ((1 * r 4 + 0) + 0) + 0) + 0), ((1 * ((1 * r 10 + 0) + 0) + 0) + 0), ((1 * ((1 * r 11 + 0) + 0) + 0) + 0), ((1 * ((1 * r 12 + 0) + 0) + 0) + 0), ((1 * ((1 * r 13 + 0) + 0) + 0) + 0)) ∧ (((1 * ((1 * r 14 + 0) + 0) + 0) + 0), ((1 * ((1 * r 15 + 0) + 0) + 0) + 0), ((1 * ((1 * r 5 + 0) + 0) + 0) + 0), ((1 * ((1 * r 6 + 0) + 0) + 0) + 0), ((1 * ((1 * r 7 + 0) + 0) + 0) + 0), ((1 * ((1 * r 8 + 0) + 0) + 0) + 0)) = (((1 * ((1 * r 14 + 0) + 0) + 0) + 0), ((1 * ((1 * r 15 + 0) + 0) + 0) + 0), ((1 * ((1 * r 5 + 0) + 0) + 0) + 0), ((1 * ((1 * r 6 + 0) + 0) + 0) + 0), ((1 * ((1 * r 7 + 0) + 0) + 0) + 0), ((1 * ((1 * r 8 + 0) + 0) + 0) + 0))) ∨ (ye_fd (g0 2) (g0 3) (g0 4) (((1 * ((1 * r 2 + 0) + 0) + 0) + 0)).toNat ((1 * ((1 * r 3 + 0) + 0) + 0) + 0) ((1 * ((1 * r 9 + 0) + 0) + 0) + 0) (((1 * ((1 * r 4 + 0) + 0) + 0) + 0), ((1 * ((1 * r 10 + 0) + 0) + 0) + 0), ((1 * ((1 * r 11 + 0) + 0) + 0) + 0), ((1 * ((1 * r 12 + 0) + 0) + 0) + 0), ((1 * ((1 * r 13 + 0) + 0) + 0) + 0)) ((1 * ((1 * r 9 + 0) + 0) + 0) + 0) (((1 * ((1 * r 4 + 0) + 0) + 0) + 0), ((1 * ((1 * r 10 + 0) + 0) + 0) + 0), ((1 * ((1 * r 11 + 0) + 0) + 0) + 0), ((1 * ((1 * r 12 + 0) + 0) + 0) + 0), ((1 * ((1 * r 13 + 0) + 0) + 0) + 0)) ∧ ye_fo (g0 2) (g0 3) (((1 * ((1 * r 2 + 0) + 0) + 0) + 0)).toNat ((1 * ((1 * r 3 + 0) + 0) + 0) + 0) ((1 * ((1 * r 9 + 0) + 0) + 0) + 0) (((1 * ((1 * r 14 + 0) + 0) + 0) + 0), ((1 * ((1 * r 15 + 0) + 0) + 0) + 0), ((1 * ((1 * r 5 + 0) + 0) + 0) + 0), ((1 * ((1 * r 6 + 0) + 0) + 0) + 0), ((1 * ((1 * r 7 + 0) + 0) + 0) + 0), ((1 * ((1 * r 8 + 0) + 0) + 0) + 0)) (((1 * ((1 * r 4 + 0) + 0) + 0) + 0), ((1 * ((1 * r 10 + 0) + 0) + 0) + 0), ((1 * ((1 * r 11 + 0) + 0) + 0) + 0), ((1 * ((1 * r 12 + 0) + 0) + 0) + 0), ((1 * ((1 * r 13 + 0) + 0) + 0) + 0)) (((1 * ((1 * r 14 + 0) + 0) + 0) + 0), ((1 * ((1 * r 15 + 0) + 0) + 0) + 0), ((1 * ((1 * r 5 + 0) + 0) + 0) + 0), ((1 * ((1 * r 6 + 0) + 0) + 0) + 0), ((1 * ((1 * r 7 + 0) + 0) + 0) + 0), ((1 * ((1 * r 8 + 0) + 0) + 0) + 0)))
  try simp only [Int.one_mul, Int.zero_add, Int.add_zero]
  exact Or.inl ⟨by first | rfl | trivial, by first | rfl | trivial, by first | rfl | trivial⟩
theorem xw_120_0_1 : yt_hold xT_120 xk_120 xq_120.2.2.1 xG_120 xP_120 xU_120 33 xk_120.2.1.2.2.2 (fun g0 r g => xR_120 r g0 ∧ g = g0) (1000, ([((-2147483648), 2147483647), ((-2147483648), 2147483647), (0, 40), ((-2147483648), 2147483647), (0, 1), ((-9223372036854775808), 9223372036854775807), ((-9223372036854775808), 9223372036854775807), ((-9223372036854775808), 9223372036854775807), (0, 40), ((-2147483648), 2147483647), ((-600), 600), ((-600), 600), ((-1000000), 1000000), ((-1000000), 1000000), ((-9223372036854775808), 9223372036854775807), ((-9223372036854775808), 9223372036854775807), ((-2147483648), 2147483647), (0, 4), (0, 40), (0, 40), ((-2147483648), 2147483647), ((-9223372036854775808), 9223372036854775807), ((-9223372036854775808), 9223372036854775807), ((-9223372036854775808), 9223372036854775807), ((-9223372036854775808), 9223372036854775807), ((-9223372036854775808), 9223372036854775807), ((-9223372036854775808), 9223372036854775807), ((-9223372036854775808), 9223372036854775807), ((-9223372036854775808), 9223372036854775807), ((-9223372036854775808), 9223372036854775807), ((-9223372036854775808), 9223372036854775807), ((-9223372036854775808), 9223372036854775807), ((-9223372036854775808), 9223372036854775807)], []), [([], (-6)), ([(4, 1)], 0), ([(5, 1)], 0), ([(6, 1)], 0), ([(7, 1)], 0), ([(8, 1)], 0), ([(9, 1)], 0), ([(10, 1)], 0), ([(11, 1)], 0), ([(12, 1)], 0), ([(13, 1)], 0), ([(14, 1)], 0), ([(15, 1)], 0), ([(16, 1)], 0), ([(17, 1)], 0), ([(18, 1)], 0), ([(19, 1)], 0), ([(20, 1)], 0), ([(21, 1)], 0), ([(22, 1)], 0), ([(23, 1)], 0), ([(24, 1)], 0), ([(25, 1)], 0), ([(26, 1)], 0), ([(27, 1)], 0), ([(28, 1)], 0), ([(29, 1)], 0), ([(30, 1)], 0), ([(31, 1)], 0), ([(32, 1)], 0)], [], [.inr (.inr (.inl (306, 0, [([(1, 1)], 0), ([(2, 1)], 0), ([(3, 1)], 0), ([(4, 1)], 0), ([(5, 1)], 0), ([(6, 1)], 0), ([(7, 1)], 0), ([(8, 1)], 0), ([(9, 1)], 0), ([(10, 1)], 0), ([(11, 1)], 0), ([(12, 1)], 0), ([(13, 1)], 0), ([(14, 1)], 0), ([(15, 1)], 0)], [0, 1, 2, 3, 4, 5, 6, 18, 19, 20, 21, 22, 23, 24, 25, 7, 26, 27, 28, 29], [])))]) := by
  intro g0 r gi g hok hh hars hfr hG
  obtain ⟨hG, hgi⟩ := hG
  have hG : True := hG
  obtain ⟨h0, hh, e0, k0⟩ := hh
  have k0 : ∀ j, j ∉ [] → g j = h0 j := k0
  have e0 : ¬ ye_bo (h0 4) (((1 * ((1 * r 2 + 0) + 0) + 0) + 0)).toNat := e0
  have hh : h0 = gi := hh
  subst hh
  refine yt_dalt (by decide) (by decide) ?_
  rw [show xk_120.2.1.2.1.1.length = 33 from rfl]
  show (((1 * ((1 * r 9 + 0) + 0) + 0) + 0) = ((1 * ((1 * r 9 + 0) + 0) + 0) + 0) ∧ (((1 * ((1 * r 4 + 0) + 0) + 0) + 0), ((1 * ((1 * r 10 + 0) + 0) + 0) + 0), ((1 * ((1 * r 11 + 0) + 0) + 0) + 0), ((1 * ((1 * r 12 + 0) + 0) + 0) + 0), ((1 * ((1 * r 13 + 0) + 0) + 0) + 0)) = (((1 * ((1 * r 4 + 0) + 0) + 0) + 0), ((1 * ((1 * r 10 + 0) + 0) + 0) + 0), ((1 * ((1 * r 11 + 0) + 0) + 0) + 0), ((1 * ((1 * r 12 + 0) + 0) + 0) + 0), ((1 * ((1 * r 13 + 0) + 0) + 0) + 0)) ∧ (((1 * ((1 * r 14 + 0) + 0) + 0) + 0), ((1 * ((1 * r 15 + 0) + 0) + 0) + 0), ((1 * ((1 * r 5 + 0) + 0) + 0) + 0), ((1 * ((1 * r 6 + 0) + 0) + 0) + 0), ((1 * ((1 * r 7 + 0) + 0) + 0) + 0), ((1 * ((1 * r 8 + 0) + 0) + 0) + 0)) = (((1 * ((1 * r 14 + 0) + 0) + 0) + 0), ((1 * ((1 * r 15 + 0) + 0) + 0) + 0), ((1 * ((1 * r 5 + 0) + 0) + 0) + 0), ((1 * ((1 * r 6 + 0) + 0) + 0) + 0), ((1 * ((1 * r 7 + 0) + 0) + 0) + 0), ((1 * ((1 * r 8 + 0) + 0) + 0) + 0))) ∨ (ye_fd (g0 2) (g0 3) (g0 4) (((1 * ((1 * r 2 + 0) + 0) + 0) + 0)).toNat ((1 * ((1 * r 3 + 0) + 0) + 0) + 0) ((1 * ((1 * r 9 + 0) + 0) + 0) + 0) (((1 * ((1 * r 4 + 0) + 0) + 0) + 0), ((1 * ((1 * r 10 + 0) + 0) + 0) + 0), ((1 * ((1 * r 11 + 0) + 0) + 0) + 0), ((1 * ((1 * r 12 + 0) + 0) + 0) + 0), ((1 * ((1 * r 13 + 0) + 0) + 0) + 0)) ((1 * ((1 * r 9 + 0) + 0) + 0) + 0) (((1 * ((1 * r 4 + 0) + 0) + 0) + 0), ((1 * ((1 * r 10 + 0) + 0) + 0) + 0), ((1 * ((1 * r 11 + 0) + 0) + 0) + 0), ((1 * ((1 * r 12 + 0) + 0) + 0) + 0), ((1 * ((1 * r 13 + 0) + 0) + 0) + 0)) ∧ ye_fo (g0 2) (g0 3) (((1 * ((1 * r 2 + 0) + 0) + 0) + 0)).toNat ((1 * ((1 * r 3 + 0) + 0) + 0) + 0) ((1 * ((1 * r 9 + 0) + 0) + 0) + 0) (((1 * ((1 * r 14 + 0) + 0) + 0) + 0), ((1 * ((1 * r 15 + 0) + 0) + 0) + 0), ((1 * ((1 * r 5 + 0) + 0) + 0) + 0), ((1 * ((1 * r 6 + 0) + 0) + 0) + 0), ((1 * ((1 * r 7 + 0) + 0) + 0) + 0), ((1 * ((1 * r 8 + 0) + 0) + 0) + 0)) (((1 * ((1 * r 4 + 0) + 0) + 0) + 0), ((1 * ((1 * r 10 + 0) + 0) + 0) + 0), ((1 * ((1 * r 11 + 0) + 0) + 0) + 0), ((1 * ((1 * r 12 + 0) + 0) + 0) + 0), ((1 * ((1 * r 13 + 0) + 0) + 0) + 0)) (((1 * ((1 * r 14 + 0) + 0) + 0) + 0), ((1 * ((1 * r 15 + 0) + 0) + 0) + 0), ((1 * ((1 * r 5 + 0) + 0) + 0) + 0), ((1 * ((1 * r 6 + 0) + 0) + 0) + 0), ((1 * ((1 * r 7 + 0) + 0) + 0) + 0), ((1 * ((1 * r 8 + 0) + 0) + 0) + 0)))
  try simp only [Int.one_mul, Int.zero_add, Int.add_zero]
  exact Or.inl ⟨by first | rfl | trivial, by first | rfl | trivial, by first | rfl | trivial⟩
theorem xw_120_0_2 : yt_hold xT_120 xk_120 xq_120.2.2.1 xG_120 xP_120 xU_120 33 xk_120.2.1.2.2.2 (fun g0 r g => xR_120 r g0 ∧ g = g0) (1000, ([(0, 0), ((-2147483648), 2147483647), (2, 40), ((-2147483648), 2147483647), (0, 1), ((-9223372036854775808), 9223372036854775807), ((-9223372036854775808), 9223372036854775807), ((-9223372036854775808), 9223372036854775807), (0, 40), ((-2147483648), 2147483647), ((-600), 600), ((-600), 600), ((-1000000), 1000000), ((-1000000), 1000000), ((-9223372036854775808), 9223372036854775807), ((-9223372036854775808), 9223372036854775807), ((-2147483648), 2147483647), (0, 4), (0, 40), (0, 40), ((-2147483648), 2147483647), ((-9223372036854775808), 9223372036854775807), ((-9223372036854775808), 9223372036854775807), ((-9223372036854775808), 9223372036854775807), ((-9223372036854775808), 9223372036854775807), ((-9223372036854775808), 9223372036854775807), ((-9223372036854775808), 9223372036854775807), ((-9223372036854775808), 9223372036854775807), ((-9223372036854775808), 9223372036854775807), ((-9223372036854775808), 9223372036854775807), ((-9223372036854775808), 9223372036854775807), ((-9223372036854775808), 9223372036854775807), ((-9223372036854775808), 9223372036854775807), (0, 0), (0, 1), ((-9223372036854775808), 9223372036854775807), ((-9223372036854775808), 9223372036854775807), ((-9223372036854775808), 9223372036854775807), (0, 40), ((-2147483648), 2147483647), ((-600), 600), ((-600), 600), ((-1000000), 1000000), ((-1000000), 1000000), ((-9223372036854775808), 9223372036854775807), ((-9223372036854775808), 9223372036854775807), ((-2147483648), 2147483647), (0, 4), (0, 40), (0, 40), ((-2147483648), 2147483647), ((-9223372036854775808), 9223372036854775807), ((-9223372036854775808), 9223372036854775807), ((-9223372036854775808), 9223372036854775807), ((-9223372036854775808), 9223372036854775807), ((-9223372036854775808), 9223372036854775807), ((-9223372036854775808), 9223372036854775807), ((-9223372036854775808), 9223372036854775807), ((-9223372036854775808), 9223372036854775807), ((-9223372036854775808), 9223372036854775807), ((-9223372036854775808), 9223372036854775807), ((-9223372036854775808), 9223372036854775807), ((-9223372036854775808), 9223372036854775807)], []), [([(46, 1)], 0), ([(34, 1)], 0), ([(35, 1)], 0), ([(36, 1)], 0), ([(37, 1)], 0), ([(38, 1)], 0), ([(39, 1)], 0), ([(40, 1)], 0), ([(41, 1)], 0), ([(42, 1)], 0), ([(43, 1)], 0), ([(44, 1)], 0), ([(45, 1)], 0), ([(46, 1)], 0), ([(47, 1)], 0), ([(48, 1)], 0), ([(49, 1)], 0), ([(50, 1)], 0), ([(51, 1)], 0), ([(52, 1)], 0), ([(53, 1)], 0), ([(54, 1)], 0), ([(55, 1)], 0), ([(56, 1)], 0), ([(57, 1)], 0), ([(58, 1)], 0), ([(59, 1)], 0), ([(60, 1)], 0), ([(61, 1)], 0), ([(62, 1)], 0)], [], [.inr (.inr (.inl (0, 0, [([(16, 1)], 0), ([(17, 1)], 0), ([(18, 1)], 0), ([(19, 1)], 0), ([(20, 1)], 0), ([(21, 1)], 0), ([(22, 1)], 0), ([(23, 1)], 0), ([(24, 1)], 0), ([(25, 1)], 0), ([(26, 1)], 0), ([(27, 1)], 0), ([(28, 1)], 0), ([(29, 1)], 0), ([(30, 1)], 0), ([(31, 1)], 0), ([(32, 1)], 0), ([(2, 1)], 0), ([(3, 1)], 0), ([(46, 1)], 0), ([(47, 1)], 0), ([(48, 1)], 0), ([(49, 1)], 0), ([(50, 1)], 0), ([(51, 1)], 0), ([(52, 1)], 0), ([(53, 1)], 0), ([(54, 1)], 0), ([(55, 1)], 0), ([(56, 1)], 0), ([(57, 1)], 0), ([(58, 1)], 0), ([(59, 1)], 0), ([(60, 1)], 0), ([(61, 1)], 0), ([(62, 1)], 0)], [7, 8, 9, 10, 11, 12, 13, 14, 15, 16, 17, 1, 2, 3, 4, 18], [10, 16, 17]))), .inr (.inr (.inl (306, 1, [([(1, 1)], 0), ([(2, 1)], 0), ([(3, 1)], 0), ([(4, 1)], 0), ([(5, 1)], 0), ([(6, 1)], 0), ([(7, 1)], 0), ([(8, 1)], 0), ([(9, 1)], 0), ([(10, 1)], 0), ([(11, 1)], 0), ([(12, 1)], 0), ([(13, 1)], 0), ([(14, 1)], 0), ([(15, 1)], 0), ([(33, 1)], 0), ([(34, 1)], 0), ([(35, 1)], 0), ([(36, 1)], 0), ([(37, 1)], 0), ([(38, 1)], 0), ([(39, 1)], 0), ([(40, 1)], 0), ([(41, 1)], 0), ([(42, 1)], 0), ([(43, 1)], 0), ([(44, 1)], 0), ([(45, 1)], 0)], [0, 1, 2, 3, 4, 5, 6, 18, 19, 20, 21, 22, 23, 24, 25, 7, 26, 27, 28, 29], [])))]) := by
  intro g0 r gi g hok hh hars hfr hG
  have b33 : 0 ≤ r 33 ∧ r 33 ≤ 0 := hok.1 33 (0, 0) rfl
  have b34 : 0 ≤ r 34 ∧ r 34 ≤ 1 := hok.1 34 (0, 1) rfl
  have b35 : (-9223372036854775808) ≤ r 35 ∧ r 35 ≤ 9223372036854775807 := hok.1 35 ((-9223372036854775808), 9223372036854775807) rfl
  have b36 : (-9223372036854775808) ≤ r 36 ∧ r 36 ≤ 9223372036854775807 := hok.1 36 ((-9223372036854775808), 9223372036854775807) rfl
  have b37 : (-9223372036854775808) ≤ r 37 ∧ r 37 ≤ 9223372036854775807 := hok.1 37 ((-9223372036854775808), 9223372036854775807) rfl
  have b38 : 0 ≤ r 38 ∧ r 38 ≤ 40 := hok.1 38 (0, 40) rfl
  have b39 : (-2147483648) ≤ r 39 ∧ r 39 ≤ 2147483647 := hok.1 39 ((-2147483648), 2147483647) rfl
  have b40 : (-600) ≤ r 40 ∧ r 40 ≤ 600 := hok.1 40 ((-600), 600) rfl
  have b41 : (-600) ≤ r 41 ∧ r 41 ≤ 600 := hok.1 41 ((-600), 600) rfl
  have b42 : (-1000000) ≤ r 42 ∧ r 42 ≤ 1000000 := hok.1 42 ((-1000000), 1000000) rfl
  have b43 : (-1000000) ≤ r 43 ∧ r 43 ≤ 1000000 := hok.1 43 ((-1000000), 1000000) rfl
  have b44 : (-9223372036854775808) ≤ r 44 ∧ r 44 ≤ 9223372036854775807 := hok.1 44 ((-9223372036854775808), 9223372036854775807) rfl
  have b45 : (-9223372036854775808) ≤ r 45 ∧ r 45 ≤ 9223372036854775807 := hok.1 45 ((-9223372036854775808), 9223372036854775807) rfl
  have b46 : (-2147483648) ≤ r 46 ∧ r 46 ≤ 2147483647 := hok.1 46 ((-2147483648), 2147483647) rfl
  have b47 : 0 ≤ r 47 ∧ r 47 ≤ 4 := hok.1 47 (0, 4) rfl
  have b48 : 0 ≤ r 48 ∧ r 48 ≤ 40 := hok.1 48 (0, 40) rfl
  have b49 : 0 ≤ r 49 ∧ r 49 ≤ 40 := hok.1 49 (0, 40) rfl
  have b50 : (-2147483648) ≤ r 50 ∧ r 50 ≤ 2147483647 := hok.1 50 ((-2147483648), 2147483647) rfl
  have b51 : (-9223372036854775808) ≤ r 51 ∧ r 51 ≤ 9223372036854775807 := hok.1 51 ((-9223372036854775808), 9223372036854775807) rfl
  have b52 : (-9223372036854775808) ≤ r 52 ∧ r 52 ≤ 9223372036854775807 := hok.1 52 ((-9223372036854775808), 9223372036854775807) rfl
  have b53 : (-9223372036854775808) ≤ r 53 ∧ r 53 ≤ 9223372036854775807 := hok.1 53 ((-9223372036854775808), 9223372036854775807) rfl
  have b54 : (-9223372036854775808) ≤ r 54 ∧ r 54 ≤ 9223372036854775807 := hok.1 54 ((-9223372036854775808), 9223372036854775807) rfl
  have b55 : (-9223372036854775808) ≤ r 55 ∧ r 55 ≤ 9223372036854775807 := hok.1 55 ((-9223372036854775808), 9223372036854775807) rfl
  have b56 : (-9223372036854775808) ≤ r 56 ∧ r 56 ≤ 9223372036854775807 := hok.1 56 ((-9223372036854775808), 9223372036854775807) rfl
  have b57 : (-9223372036854775808) ≤ r 57 ∧ r 57 ≤ 9223372036854775807 := hok.1 57 ((-9223372036854775808), 9223372036854775807) rfl
  have b58 : (-9223372036854775808) ≤ r 58 ∧ r 58 ≤ 9223372036854775807 := hok.1 58 ((-9223372036854775808), 9223372036854775807) rfl
  have b59 : (-9223372036854775808) ≤ r 59 ∧ r 59 ≤ 9223372036854775807 := hok.1 59 ((-9223372036854775808), 9223372036854775807) rfl
  have b60 : (-9223372036854775808) ≤ r 60 ∧ r 60 ≤ 9223372036854775807 := hok.1 60 ((-9223372036854775808), 9223372036854775807) rfl
  have b61 : (-9223372036854775808) ≤ r 61 ∧ r 61 ≤ 9223372036854775807 := hok.1 61 ((-9223372036854775808), 9223372036854775807) rfl
  have b62 : (-9223372036854775808) ≤ r 62 ∧ r 62 ≤ 9223372036854775807 := hok.1 62 ((-9223372036854775808), 9223372036854775807) rfl
  obtain ⟨hG, hgi⟩ := hG
  have hG : True := hG
  obtain ⟨h0, hh, e0, k0⟩ := hh
  have k0 : ∀ j, j ∉ [10, 16, 17] → g j = h0 j := k0
  obtain ⟨h1, hh, e1, k1⟩ := hh
  have k1 : ∀ j, j ∉ [] → h0 j = h1 j := k1
  have e1 : ye_bo (h1 4) (((1 * ((1 * r 2 + 0) + 0) + 0) + 0)).toNat ∧ (ye_fd (h1 2) (h1 3) (h1 4) (((1 * ((1 * r 2 + 0) + 0) + 0) + 0)).toNat ((1 * ((1 * r 3 + 0) + 0) + 0) + 0) ((1 * ((1 * r 9 + 0) + 0) + 0) + 0) (((1 * ((1 * r 4 + 0) + 0) + 0) + 0), ((1 * ((1 * r 10 + 0) + 0) + 0) + 0), ((1 * ((1 * r 11 + 0) + 0) + 0) + 0), ((1 * ((1 * r 12 + 0) + 0) + 0) + 0), ((1 * ((1 * r 13 + 0) + 0) + 0) + 0)) ((1 * ((1 * r 39 + 0) + 0) + 0) + 0) (((1 * ((1 * r 34 + 0) + 0) + 0) + 0), ((1 * ((1 * r 40 + 0) + 0) + 0) + 0), ((1 * ((1 * r 41 + 0) + 0) + 0) + 0), ((1 * ((1 * r 42 + 0) + 0) + 0) + 0), ((1 * ((1 * r 43 + 0) + 0) + 0) + 0)) ∧ ye_fo (h1 2) (h1 3) (((1 * ((1 * r 2 + 0) + 0) + 0) + 0)).toNat ((1 * ((1 * r 3 + 0) + 0) + 0) + 0) ((1 * ((1 * r 9 + 0) + 0) + 0) + 0) (((1 * ((1 * r 14 + 0) + 0) + 0) + 0), ((1 * ((1 * r 15 + 0) + 0) + 0) + 0), ((1 * ((1 * r 5 + 0) + 0) + 0) + 0), ((1 * ((1 * r 6 + 0) + 0) + 0) + 0), ((1 * ((1 * r 7 + 0) + 0) + 0) + 0), ((1 * ((1 * r 8 + 0) + 0) + 0) + 0)) (((1 * ((1 * r 34 + 0) + 0) + 0) + 0), ((1 * ((1 * r 40 + 0) + 0) + 0) + 0), ((1 * ((1 * r 41 + 0) + 0) + 0) + 0), ((1 * ((1 * r 42 + 0) + 0) + 0) + 0), ((1 * ((1 * r 43 + 0) + 0) + 0) + 0)) (((1 * ((1 * r 44 + 0) + 0) + 0) + 0), ((1 * ((1 * r 45 + 0) + 0) + 0) + 0), ((1 * ((1 * r 35 + 0) + 0) + 0) + 0), ((1 * ((1 * r 36 + 0) + 0) + 0) + 0), ((1 * ((1 * r 37 + 0) + 0) + 0) + 0), ((1 * ((1 * r 38 + 0) + 0) + 0) + 0))) ∧ ((1 * r 33 + 0) + 0) = ((1 * ((1 * r 34 + 0) + 0) + 0) + 0) := e1
  have hh : h1 = gi := hh
  subst hh
  refine yt_dalt (by decide) (by decide) ?_
  rw [show xk_120.2.1.2.1.1.length = 33 from rfl]
  show (((1 * ((1 * r 39 + 0) + 0) + 0) + 0) = ((1 * ((1 * r 9 + 0) + 0) + 0) + 0) ∧ (((1 * ((1 * r 34 + 0) + 0) + 0) + 0), ((1 * ((1 * r 40 + 0) + 0) + 0) + 0), ((1 * ((1 * r 41 + 0) + 0) + 0) + 0), ((1 * ((1 * r 42 + 0) + 0) + 0) + 0), ((1 * ((1 * r 43 + 0) + 0) + 0) + 0)) = (((1 * ((1 * r 4 + 0) + 0) + 0) + 0), ((1 * ((1 * r 10 + 0) + 0) + 0) + 0), ((1 * ((1 * r 11 + 0) + 0) + 0) + 0), ((1 * ((1 * r 12 + 0) + 0) + 0) + 0), ((1 * ((1 * r 13 + 0) + 0) + 0) + 0)) ∧ (((1 * ((1 * r 44 + 0) + 0) + 0) + 0), ((1 * ((1 * r 45 + 0) + 0) + 0) + 0), ((1 * ((1 * r 35 + 0) + 0) + 0) + 0), ((1 * ((1 * r 36 + 0) + 0) + 0) + 0), ((1 * ((1 * r 37 + 0) + 0) + 0) + 0), ((1 * ((1 * r 38 + 0) + 0) + 0) + 0)) = (((1 * ((1 * r 14 + 0) + 0) + 0) + 0), ((1 * ((1 * r 15 + 0) + 0) + 0) + 0), ((1 * ((1 * r 5 + 0) + 0) + 0) + 0), ((1 * ((1 * r 6 + 0) + 0) + 0) + 0), ((1 * ((1 * r 7 + 0) + 0) + 0) + 0), ((1 * ((1 * r 8 + 0) + 0) + 0) + 0))) ∨ (ye_fd (g0 2) (g0 3) (g0 4) (((1 * ((1 * r 2 + 0) + 0) + 0) + 0)).toNat ((1 * ((1 * r 3 + 0) + 0) + 0) + 0) ((1 * ((1 * r 9 + 0) + 0) + 0) + 0) (((1 * ((1 * r 4 + 0) + 0) + 0) + 0), ((1 * ((1 * r 10 + 0) + 0) + 0) + 0), ((1 * ((1 * r 11 + 0) + 0) + 0) + 0), ((1 * ((1 * r 12 + 0) + 0) + 0) + 0), ((1 * ((1 * r 13 + 0) + 0) + 0) + 0)) ((1 * ((1 * r 39 + 0) + 0) + 0) + 0) (((1 * ((1 * r 34 + 0) + 0) + 0) + 0), ((1 * ((1 * r 40 + 0) + 0) + 0) + 0), ((1 * ((1 * r 41 + 0) + 0) + 0) + 0), ((1 * ((1 * r 42 + 0) + 0) + 0) + 0), ((1 * ((1 * r 43 + 0) + 0) + 0) + 0)) ∧ ye_fo (g0 2) (g0 3) (((1 * ((1 * r 2 + 0) + 0) + 0) + 0)).toNat ((1 * ((1 * r 3 + 0) + 0) + 0) + 0) ((1 * ((1 * r 9 + 0) + 0) + 0) + 0) (((1 * ((1 * r 14 + 0) + 0) + 0) + 0), ((1 * ((1 * r 15 + 0) + 0) + 0) + 0), ((1 * ((1 * r 5 + 0) + 0) + 0) + 0), ((1 * ((1 * r 6 + 0) + 0) + 0) + 0), ((1 * ((1 * r 7 + 0) + 0) + 0) + 0), ((1 * ((1 * r 8 + 0) + 0) + 0) + 0)) (((1 * ((1 * r 34 + 0) + 0) + 0) + 0), ((1 * ((1 * r 40 + 0) + 0) + 0) + 0), ((1 * ((1 * r 41 + 0) + 0) + 0) + 0), ((1 * ((1 * r 42 + 0) + 0) + 0) + 0), ((1 * ((1 * r 43 + 0) + 0) + 0) + 0)) (((1 * ((1 * r 44 + 0) + 0) + 0) + 0), ((1 * ((1 * r 45 + 0) + 0) + 0) + 0), ((1 * ((1 * r 35 + 0) + 0) + 0) + 0), ((1 * ((1 * r 36 + 0) + 0) + 0) + 0), ((1 * ((1 * r 37 + 0) + 0) + 0) + 0), ((1 * ((1 * r 38 + 0) + 0) + 0) + 0)))
  try simp only [Int.one_mul, Int.zero_add, Int.add_zero]
  try simp only [Int.one_mul, Int.zero_add, Int.add_zero] at e1
  rw [hgi] at e1
  exact Or.inr e1.2.1
theorem xw_120_0_3 : yt_hold xT_120 xk_120 xq_120.2.2.1 xG_120 xP_120 xU_120 33 xk_120.2.1.2.2.2 (fun g0 r g => xR_120 r g0 ∧ g = g0) (1000, ([(1, 1), ((-2147483648), 2147483647), (2, 40), ((-2147483648), 2147483647), (0, 1), ((-9223372036854775808), 9223372036854775807), ((-9223372036854775808), 9223372036854775807), ((-9223372036854775808), 9223372036854775807), (0, 40), ((-2147483648), 2147483647), ((-600), 600), ((-600), 600), ((-1000000), 1000000), ((-1000000), 1000000), ((-9223372036854775808), 9223372036854775807), ((-9223372036854775808), 9223372036854775807), ((-2147483648), 2147483647), (0, 4), (0, 40), (0, 40), ((-2147483648), 2147483647), ((-9223372036854775808), 9223372036854775807), ((-9223372036854775808), 9223372036854775807), ((-9223372036854775808), 9223372036854775807), ((-9223372036854775808), 9223372036854775807), ((-9223372036854775808), 9223372036854775807), ((-9223372036854775808), 9223372036854775807), ((-9223372036854775808), 9223372036854775807), ((-9223372036854775808), 9223372036854775807), ((-9223372036854775808), 9223372036854775807), ((-9223372036854775808), 9223372036854775807), ((-9223372036854775808), 9223372036854775807), ((-9223372036854775808), 9223372036854775807), (0, 0), (0, 1), ((-9223372036854775808), 9223372036854775807), ((-9223372036854775808), 9223372036854775807), ((-9223372036854775808), 9223372036854775807), (0, 40), ((-2147483648), 2147483647), ((-600), 600), ((-600), 600), ((-1000000), 1000000), ((-1000000), 1000000), ((-9223372036854775808), 9223372036854775807), ((-9223372036854775808), 9223372036854775807), ((-2147483648), 2147483647), (0, 4), (0, 40), (0, 40), ((-2147483648), 2147483647), ((-9223372036854775808), 9223372036854775807), ((-9223372036854775808), 9223372036854775807), ((-9223372036854775808), 9223372036854775807), ((-9223372036854775808), 9223372036854775807), ((-9223372036854775808), 9223372036854775807), ((-9223372036854775808), 9223372036854775807), ((-9223372036854775808), 9223372036854775807), ((-9223372036854775808), 9223372036854775807), ((-9223372036854775808), 9223372036854775807), ((-9223372036854775808), 9223372036854775807), ((-9223372036854775808), 9223372036854775807), ((-9223372036854775808), 9223372036854775807)], []), [([(47, 1)], 0), ([(34, 1)], 0), ([(35, 1)], 0), ([(36, 1)], 0), ([(37, 1)], 0), ([(38, 1)], 0), ([(39, 1)], 0), ([(40, 1)], 0), ([(41, 1)], 0), ([(42, 1)], 0), ([(43, 1)], 0), ([(44, 1)], 0), ([(45, 1)], 0), ([(46, 1)], 0), ([(47, 1)], 0), ([(48, 1)], 0), ([(49, 1)], 0), ([(50, 1)], 0), ([(51, 1)], 0), ([(52, 1)], 0), ([(53, 1)], 0), ([(54, 1)], 0), ([(55, 1)], 0), ([(56, 1)], 0), ([(57, 1)], 0), ([(58, 1)], 0), ([(59, 1)], 0), ([(60, 1)], 0), ([(61, 1)], 0), ([(62, 1)], 0)], [], [.inr (.inr (.inl (0, 0, [([(16, 1)], 0), ([(17, 1)], 0), ([(18, 1)], 0), ([(19, 1)], 0), ([(20, 1)], 0), ([(21, 1)], 0), ([(22, 1)], 0), ([(23, 1)], 0), ([(24, 1)], 0), ([(25, 1)], 0), ([(26, 1)], 0), ([(27, 1)], 0), ([(28, 1)], 0), ([(29, 1)], 0), ([(30, 1)], 0), ([(31, 1)], 0), ([(32, 1)], 0), ([(2, 1)], 0), ([(3, 1)], 0), ([(46, 1)], 0), ([(47, 1)], 0), ([(48, 1)], 0), ([(49, 1)], 0), ([(50, 1)], 0), ([(51, 1)], 0), ([(52, 1)], 0), ([(53, 1)], 0), ([(54, 1)], 0), ([(55, 1)], 0), ([(56, 1)], 0), ([(57, 1)], 0), ([(58, 1)], 0), ([(59, 1)], 0), ([(60, 1)], 0), ([(61, 1)], 0), ([(62, 1)], 0)], [7, 8, 9, 10, 11, 12, 13, 14, 15, 16, 17, 1, 2, 3, 4, 18], [10, 16, 17]))), .inr (.inr (.inl (306, 1, [([(1, 1)], 0), ([(2, 1)], 0), ([(3, 1)], 0), ([(4, 1)], 0), ([(5, 1)], 0), ([(6, 1)], 0), ([(7, 1)], 0), ([(8, 1)], 0), ([(9, 1)], 0), ([(10, 1)], 0), ([(11, 1)], 0), ([(12, 1)], 0), ([(13, 1)], 0), ([(14, 1)], 0), ([(15, 1)], 0), ([(33, 1)], 0), ([(34, 1)], 0), ([(35, 1)], 0), ([(36, 1)], 0), ([(37, 1)], 0), ([(38, 1)], 0), ([(39, 1)], 0), ([(40, 1)], 0), ([(41, 1)], 0), ([(42, 1)], 0), ([(43, 1)], 0), ([(44, 1)], 0), ([(45, 1)], 0)], [0, 1, 2, 3, 4, 5, 6, 18, 19, 20, 21, 22, 23, 24, 25, 7, 26, 27, 28, 29], [])))]) := by
  intro g0 r gi g hok hh hars hfr hG
  have b33 : 0 ≤ r 33 ∧ r 33 ≤ 0 := hok.1 33 (0, 0) rfl
  have b34 : 0 ≤ r 34 ∧ r 34 ≤ 1 := hok.1 34 (0, 1) rfl
  have b35 : (-9223372036854775808) ≤ r 35 ∧ r 35 ≤ 9223372036854775807 := hok.1 35 ((-9223372036854775808), 9223372036854775807) rfl
  have b36 : (-9223372036854775808) ≤ r 36 ∧ r 36 ≤ 9223372036854775807 := hok.1 36 ((-9223372036854775808), 9223372036854775807) rfl
  have b37 : (-9223372036854775808) ≤ r 37 ∧ r 37 ≤ 9223372036854775807 := hok.1 37 ((-9223372036854775808), 9223372036854775807) rfl
  have b38 : 0 ≤ r 38 ∧ r 38 ≤ 40 := hok.1 38 (0, 40) rfl
  have b39 : (-2147483648) ≤ r 39 ∧ r 39 ≤ 2147483647 := hok.1 39 ((-2147483648), 2147483647) rfl
  have b40 : (-600) ≤ r 40 ∧ r 40 ≤ 600 := hok.1 40 ((-600), 600) rfl
  have b41 : (-600) ≤ r 41 ∧ r 41 ≤ 600 := hok.1 41 ((-600), 600) rfl
  have b42 : (-1000000) ≤ r 42 ∧ r 42 ≤ 1000000 := hok.1 42 ((-1000000), 1000000) rfl
  have b43 : (-1000000) ≤ r 43 ∧ r 43 ≤ 1000000 := hok.1 43 ((-1000000), 1000000) rfl
  have b44 : (-9223372036854775808) ≤ r 44 ∧ r 44 ≤ 9223372036854775807 := hok.1 44 ((-9223372036854775808), 9223372036854775807) rfl
  have b45 : (-9223372036854775808) ≤ r 45 ∧ r 45 ≤ 9223372036854775807 := hok.1 45 ((-9223372036854775808), 9223372036854775807) rfl
  have b46 : (-2147483648) ≤ r 46 ∧ r 46 ≤ 2147483647 := hok.1 46 ((-2147483648), 2147483647) rfl
  have b47 : 0 ≤ r 47 ∧ r 47 ≤ 4 := hok.1 47 (0, 4) rfl
  have b48 : 0 ≤ r 48 ∧ r 48 ≤ 40 := hok.1 48 (0, 40) rfl
  have b49 : 0 ≤ r 49 ∧ r 49 ≤ 40 := hok.1 49 (0, 40) rfl
  have b50 : (-2147483648) ≤ r 50 ∧ r 50 ≤ 2147483647 := hok.1 50 ((-2147483648), 2147483647) rfl
  have b51 : (-9223372036854775808) ≤ r 51 ∧ r 51 ≤ 9223372036854775807 := hok.1 51 ((-9223372036854775808), 9223372036854775807) rfl
  have b52 : (-9223372036854775808) ≤ r 52 ∧ r 52 ≤ 9223372036854775807 := hok.1 52 ((-9223372036854775808), 9223372036854775807) rfl
  have b53 : (-9223372036854775808) ≤ r 53 ∧ r 53 ≤ 9223372036854775807 := hok.1 53 ((-9223372036854775808), 9223372036854775807) rfl
  have b54 : (-9223372036854775808) ≤ r 54 ∧ r 54 ≤ 9223372036854775807 := hok.1 54 ((-9223372036854775808), 9223372036854775807) rfl
  have b55 : (-9223372036854775808) ≤ r 55 ∧ r 55 ≤ 9223372036854775807 := hok.1 55 ((-9223372036854775808), 9223372036854775807) rfl
  have b56 : (-9223372036854775808) ≤ r 56 ∧ r 56 ≤ 9223372036854775807 := hok.1 56 ((-9223372036854775808), 9223372036854775807) rfl
  have b57 : (-9223372036854775808) ≤ r 57 ∧ r 57 ≤ 9223372036854775807 := hok.1 57 ((-9223372036854775808), 9223372036854775807) rfl
  have b58 : (-9223372036854775808) ≤ r 58 ∧ r 58 ≤ 9223372036854775807 := hok.1 58 ((-9223372036854775808), 9223372036854775807) rfl
  have b59 : (-9223372036854775808) ≤ r 59 ∧ r 59 ≤ 9223372036854775807 := hok.1 59 ((-9223372036854775808), 9223372036854775807) rfl
  have b60 : (-9223372036854775808) ≤ r 60 ∧ r 60 ≤ 9223372036854775807 := hok.1 60 ((-9223372036854775808), 9223372036854775807) rfl
  have b61 : (-9223372036854775808) ≤ r 61 ∧ r 61 ≤ 9223372036854775807 := hok.1 61 ((-9223372036854775808), 9223372036854775807) rfl
  have b62 : (-9223372036854775808) ≤ r 62 ∧ r 62 ≤ 9223372036854775807 := hok.1 62 ((-9223372036854775808), 9223372036854775807) rfl
  obtain ⟨hG, hgi⟩ := hG
  have hG : True := hG
  obtain ⟨h0, hh, e0, k0⟩ := hh
  have k0 : ∀ j, j ∉ [10, 16, 17] → g j = h0 j := k0
  obtain ⟨h1, hh, e1, k1⟩ := hh
  have k1 : ∀ j, j ∉ [] → h0 j = h1 j := k1
  have e1 : ye_bo (h1 4) (((1 * ((1 * r 2 + 0) + 0) + 0) + 0)).toNat ∧ (ye_fd (h1 2) (h1 3) (h1 4) (((1 * ((1 * r 2 + 0) + 0) + 0) + 0)).toNat ((1 * ((1 * r 3 + 0) + 0) + 0) + 0) ((1 * ((1 * r 9 + 0) + 0) + 0) + 0) (((1 * ((1 * r 4 + 0) + 0) + 0) + 0), ((1 * ((1 * r 10 + 0) + 0) + 0) + 0), ((1 * ((1 * r 11 + 0) + 0) + 0) + 0), ((1 * ((1 * r 12 + 0) + 0) + 0) + 0), ((1 * ((1 * r 13 + 0) + 0) + 0) + 0)) ((1 * ((1 * r 39 + 0) + 0) + 0) + 0) (((1 * ((1 * r 34 + 0) + 0) + 0) + 0), ((1 * ((1 * r 40 + 0) + 0) + 0) + 0), ((1 * ((1 * r 41 + 0) + 0) + 0) + 0), ((1 * ((1 * r 42 + 0) + 0) + 0) + 0), ((1 * ((1 * r 43 + 0) + 0) + 0) + 0)) ∧ ye_fo (h1 2) (h1 3) (((1 * ((1 * r 2 + 0) + 0) + 0) + 0)).toNat ((1 * ((1 * r 3 + 0) + 0) + 0) + 0) ((1 * ((1 * r 9 + 0) + 0) + 0) + 0) (((1 * ((1 * r 14 + 0) + 0) + 0) + 0), ((1 * ((1 * r 15 + 0) + 0) + 0) + 0), ((1 * ((1 * r 5 + 0) + 0) + 0) + 0), ((1 * ((1 * r 6 + 0) + 0) + 0) + 0), ((1 * ((1 * r 7 + 0) + 0) + 0) + 0), ((1 * ((1 * r 8 + 0) + 0) + 0) + 0)) (((1 * ((1 * r 34 + 0) + 0) + 0) + 0), ((1 * ((1 * r 40 + 0) + 0) + 0) + 0), ((1 * ((1 * r 41 + 0) + 0) + 0) + 0), ((1 * ((1 * r 42 + 0) + 0) + 0) + 0), ((1 * ((1 * r 43 + 0) + 0) + 0) + 0)) (((1 * ((1 * r 44 + 0) + 0) + 0) + 0), ((1 * ((1 * r 45 + 0) + 0) + 0) + 0), ((1 * ((1 * r 35 + 0) + 0) + 0) + 0), ((1 * ((1 * r 36 + 0) + 0) + 0) + 0), ((1 * ((1 * r 37 + 0) + 0) + 0) + 0), ((1 * ((1 * r 38 + 0) + 0) + 0) + 0))) ∧ ((1 * r 33 + 0) + 0) = ((1 * ((1 * r 34 + 0) + 0) + 0) + 0) := e1
  have hh : h1 = gi := hh
  subst hh
  refine yt_dalt (by decide) (by decide) ?_
  rw [show xk_120.2.1.2.1.1.length = 33 from rfl]
  show (((1 * ((1 * r 39 + 0) + 0) + 0) + 0) = ((1 * ((1 * r 9 + 0) + 0) + 0) + 0) ∧ (((1 * ((1 * r 34 + 0) + 0) + 0) + 0), ((1 * ((1 * r 40 + 0) + 0) + 0) + 0), ((1 * ((1 * r 41 + 0) + 0) + 0) + 0), ((1 * ((1 * r 42 + 0) + 0) + 0) + 0), ((1 * ((1 * r 43 + 0) + 0) + 0) + 0)) = (((1 * ((1 * r 4 + 0) + 0) + 0) + 0), ((1 * ((1 * r 10 + 0) + 0) + 0) + 0), ((1 * ((1 * r 11 + 0) + 0) + 0) + 0), ((1 * ((1 * r 12 + 0) + 0) + 0) + 0), ((1 * ((1 * r 13 + 0) + 0) + 0) + 0)) ∧ (((1 * ((1 * r 44 + 0) + 0) + 0) + 0), ((1 * ((1 * r 45 + 0) + 0) + 0) + 0), ((1 * ((1 * r 35 + 0) + 0) + 0) + 0), ((1 * ((1 * r 36 + 0) + 0) + 0) + 0), ((1 * ((1 * r 37 + 0) + 0) + 0) + 0), ((1 * ((1 * r 38 + 0) + 0) + 0) + 0)) = (((1 * ((1 * r 14 + 0) + 0) + 0) + 0), ((1 * ((1 * r 15 + 0) + 0) + 0) + 0), ((1 * ((1 * r 5 + 0) + 0) + 0) + 0), ((1 * ((1 * r 6 + 0) + 0) + 0) + 0), ((1 * ((1 * r 7 + 0) + 0) + 0) + 0), ((1 * ((1 * r 8 + 0) + 0) + 0) + 0))) ∨ (ye_fd (g0 2) (g0 3) (g0 4) (((1 * ((1 * r 2 + 0) + 0) + 0) + 0)).toNat ((1 * ((1 * r 3 + 0) + 0) + 0) + 0) ((1 * ((1 * r 9 + 0) + 0) + 0) + 0) (((1 * ((1 * r 4 + 0) + 0) + 0) + 0), ((1 * ((1 * r 10 + 0) + 0) + 0) + 0), ((1 * ((1 * r 11 + 0) + 0) + 0) + 0), ((1 * ((1 * r 12 + 0) + 0) + 0) + 0), ((1 * ((1 * r 13 + 0) + 0) + 0) + 0)) ((1 * ((1 * r 39 + 0) + 0) + 0) + 0) (((1 * ((1 * r 34 + 0) + 0) + 0) + 0), ((1 * ((1 * r 40 + 0) + 0) + 0) + 0), ((1 * ((1 * r 41 + 0) + 0) + 0) + 0), ((1 * ((1 * r 42 + 0) + 0) + 0) + 0), ((1 * ((1 * r 43 + 0) + 0) + 0) + 0)) ∧ ye_fo (g0 2) (g0 3) (((1 * ((1 * r 2 + 0) + 0) + 0) + 0)).toNat ((1 * ((1 * r 3 + 0) + 0) + 0) + 0) ((1 * ((1 * r 9 + 0) + 0) + 0) + 0) (((1 * ((1 * r 14 + 0) + 0) + 0) + 0), ((1 * ((1 * r 15 + 0) + 0) + 0) + 0), ((1 * ((1 * r 5 + 0) + 0) + 0) + 0), ((1 * ((1 * r 6 + 0) + 0) + 0) + 0), ((1 * ((1 * r 7 + 0) + 0) + 0) + 0), ((1 * ((1 * r 8 + 0) + 0) + 0) + 0)) (((1 * ((1 * r 34 + 0) + 0) + 0) + 0), ((1 * ((1 * r 40 + 0) + 0) + 0) + 0), ((1 * ((1 * r 41 + 0) + 0) + 0) + 0), ((1 * ((1 * r 42 + 0) + 0) + 0) + 0), ((1 * ((1 * r 43 + 0) + 0) + 0) + 0)) (((1 * ((1 * r 44 + 0) + 0) + 0) + 0), ((1 * ((1 * r 45 + 0) + 0) + 0) + 0), ((1 * ((1 * r 35 + 0) + 0) + 0) + 0), ((1 * ((1 * r 36 + 0) + 0) + 0) + 0), ((1 * ((1 * r 37 + 0) + 0) + 0) + 0), ((1 * ((1 * r 38 + 0) + 0) + 0) + 0)))
  try simp only [Int.one_mul, Int.zero_add, Int.add_zero]
  try simp only [Int.one_mul, Int.zero_add, Int.add_zero] at e1
  rw [hgi] at e1
  exact Or.inr e1.2.1
theorem xw_120_0_4 : yt_hold xT_120 xk_120 xq_120.2.2.1 xG_120 xP_120 xU_120 33 xk_120.2.1.2.2.2 (fun g0 r g => xR_120 r g0 ∧ g = g0) (1000, ([(40, 40), ((-2147483648), 2147483647), (2, 40), ((-2147483648), 2147483647), (0, 1), ((-9223372036854775808), 9223372036854775807), ((-9223372036854775808), 9223372036854775807), ((-9223372036854775808), 9223372036854775807), (0, 40), ((-2147483648), 2147483647), ((-600), 600), ((-600), 600), ((-1000000), 1000000), ((-1000000), 1000000), ((-9223372036854775808), 9223372036854775807), ((-9223372036854775808), 9223372036854775807), ((-2147483648), 2147483647), (0, 4), (0, 40), (0, 40), ((-2147483648), 2147483647), ((-9223372036854775808), 9223372036854775807), ((-9223372036854775808), 9223372036854775807), ((-9223372036854775808), 9223372036854775807), ((-9223372036854775808), 9223372036854775807), ((-9223372036854775808), 9223372036854775807), ((-9223372036854775808), 9223372036854775807), ((-9223372036854775808), 9223372036854775807), ((-9223372036854775808), 9223372036854775807), ((-9223372036854775808), 9223372036854775807), ((-9223372036854775808), 9223372036854775807), ((-9223372036854775808), 9223372036854775807), ((-9223372036854775808), 9223372036854775807), (0, 0), (0, 1), ((-9223372036854775808), 9223372036854775807), ((-9223372036854775808), 9223372036854775807), ((-9223372036854775808), 9223372036854775807), (0, 40), ((-2147483648), 2147483647), ((-600), 600), ((-600), 600), ((-1000000), 1000000), ((-1000000), 1000000), ((-9223372036854775808), 9223372036854775807), ((-9223372036854775808), 9223372036854775807), ((-2147483648), 2147483647), (0, 4), (0, 40), (0, 40), ((-2147483648), 2147483647), ((-9223372036854775808), 9223372036854775807), ((-9223372036854775808), 9223372036854775807), ((-9223372036854775808), 9223372036854775807), ((-9223372036854775808), 9223372036854775807), ((-9223372036854775808), 9223372036854775807), ((-9223372036854775808), 9223372036854775807), ((-9223372036854775808), 9223372036854775807), ((-9223372036854775808), 9223372036854775807), ((-9223372036854775808), 9223372036854775807), ((-9223372036854775808), 9223372036854775807), ((-9223372036854775808), 9223372036854775807), ((-9223372036854775808), 9223372036854775807)], []), [([(51, 1)], 0), ([(34, 1)], 0), ([(35, 1)], 0), ([(36, 1)], 0), ([(37, 1)], 0), ([(38, 1)], 0), ([(39, 1)], 0), ([(40, 1)], 0), ([(41, 1)], 0), ([(42, 1)], 0), ([(43, 1)], 0), ([(44, 1)], 0), ([(45, 1)], 0), ([(46, 1)], 0), ([(47, 1)], 0), ([(48, 1)], 0), ([(49, 1)], 0), ([(50, 1)], 0), ([(51, 1)], 0), ([(52, 1)], 0), ([(53, 1)], 0), ([(54, 1)], 0), ([(55, 1)], 0), ([(56, 1)], 0), ([(57, 1)], 0), ([(58, 1)], 0), ([(59, 1)], 0), ([(60, 1)], 0), ([(61, 1)], 0), ([(62, 1)], 0)], [], [.inr (.inr (.inl (0, 0, [([(16, 1)], 0), ([(17, 1)], 0), ([(18, 1)], 0), ([(19, 1)], 0), ([(20, 1)], 0), ([(21, 1)], 0), ([(22, 1)], 0), ([(23, 1)], 0), ([(24, 1)], 0), ([(25, 1)], 0), ([(26, 1)], 0), ([(27, 1)], 0), ([(28, 1)], 0), ([(29, 1)], 0), ([(30, 1)], 0), ([(31, 1)], 0), ([(32, 1)], 0), ([(2, 1)], 0), ([(3, 1)], 0), ([(46, 1)], 0), ([(47, 1)], 0), ([(48, 1)], 0), ([(49, 1)], 0), ([(50, 1)], 0), ([(51, 1)], 0), ([(52, 1)], 0), ([(53, 1)], 0), ([(54, 1)], 0), ([(55, 1)], 0), ([(56, 1)], 0), ([(57, 1)], 0), ([(58, 1)], 0), ([(59, 1)], 0), ([(60, 1)], 0), ([(61, 1)], 0), ([(62, 1)], 0)], [7, 8, 9, 10, 11, 12, 13, 14, 15, 16, 17, 1, 2, 3, 4, 18], [10, 16, 17]))), .inr (.inr (.inl (306, 1, [([(1, 1)], 0), ([(2, 1)], 0), ([(3, 1)], 0), ([(4, 1)], 0), ([(5, 1)], 0), ([(6, 1)], 0), ([(7, 1)], 0), ([(8, 1)], 0), ([(9, 1)], 0), ([(10, 1)], 0), ([(11, 1)], 0), ([(12, 1)], 0), ([(13, 1)], 0), ([(14, 1)], 0), ([(15, 1)], 0), ([(33, 1)], 0), ([(34, 1)], 0), ([(35, 1)], 0), ([(36, 1)], 0), ([(37, 1)], 0), ([(38, 1)], 0), ([(39, 1)], 0), ([(40, 1)], 0), ([(41, 1)], 0), ([(42, 1)], 0), ([(43, 1)], 0), ([(44, 1)], 0), ([(45, 1)], 0)], [0, 1, 2, 3, 4, 5, 6, 18, 19, 20, 21, 22, 23, 24, 25, 7, 26, 27, 28, 29], [])))]) := by
  intro g0 r gi g hok hh hars hfr hG
  have b33 : 0 ≤ r 33 ∧ r 33 ≤ 0 := hok.1 33 (0, 0) rfl
  have b34 : 0 ≤ r 34 ∧ r 34 ≤ 1 := hok.1 34 (0, 1) rfl
  have b35 : (-9223372036854775808) ≤ r 35 ∧ r 35 ≤ 9223372036854775807 := hok.1 35 ((-9223372036854775808), 9223372036854775807) rfl
  have b36 : (-9223372036854775808) ≤ r 36 ∧ r 36 ≤ 9223372036854775807 := hok.1 36 ((-9223372036854775808), 9223372036854775807) rfl
  have b37 : (-9223372036854775808) ≤ r 37 ∧ r 37 ≤ 9223372036854775807 := hok.1 37 ((-9223372036854775808), 9223372036854775807) rfl
  have b38 : 0 ≤ r 38 ∧ r 38 ≤ 40 := hok.1 38 (0, 40) rfl
  have b39 : (-2147483648) ≤ r 39 ∧ r 39 ≤ 2147483647 := hok.1 39 ((-2147483648), 2147483647) rfl
  have b40 : (-600) ≤ r 40 ∧ r 40 ≤ 600 := hok.1 40 ((-600), 600) rfl
  have b41 : (-600) ≤ r 41 ∧ r 41 ≤ 600 := hok.1 41 ((-600), 600) rfl
  have b42 : (-1000000) ≤ r 42 ∧ r 42 ≤ 1000000 := hok.1 42 ((-1000000), 1000000) rfl
  have b43 : (-1000000) ≤ r 43 ∧ r 43 ≤ 1000000 := hok.1 43 ((-1000000), 1000000) rfl
  have b44 : (-9223372036854775808) ≤ r 44 ∧ r 44 ≤ 9223372036854775807 := hok.1 44 ((-9223372036854775808), 9223372036854775807) rfl
  have b45 : (-9223372036854775808) ≤ r 45 ∧ r 45 ≤ 9223372036854775807 := hok.1 45 ((-9223372036854775808), 9223372036854775807) rfl
  have b46 : (-2147483648) ≤ r 46 ∧ r 46 ≤ 2147483647 := hok.1 46 ((-2147483648), 2147483647) rfl
  have b47 : 0 ≤ r 47 ∧ r 47 ≤ 4 := hok.1 47 (0, 4) rfl
  have b48 : 0 ≤ r 48 ∧ r 48 ≤ 40 := hok.1 48 (0, 40) rfl
  have b49 : 0 ≤ r 49 ∧ r 49 ≤ 40 := hok.1 49 (0, 40) rfl
  have b50 : (-2147483648) ≤ r 50 ∧ r 50 ≤ 2147483647 := hok.1 50 ((-2147483648), 2147483647) rfl
  have b51 : (-9223372036854775808) ≤ r 51 ∧ r 51 ≤ 9223372036854775807 := hok.1 51 ((-9223372036854775808), 9223372036854775807) rfl
  have b52 : (-9223372036854775808) ≤ r 52 ∧ r 52 ≤ 9223372036854775807 := hok.1 52 ((-9223372036854775808), 9223372036854775807) rfl
  have b53 : (-9223372036854775808) ≤ r 53 ∧ r 53 ≤ 9223372036854775807 := hok.1 53 ((-9223372036854775808), 9223372036854775807) rfl
  have b54 : (-9223372036854775808) ≤ r 54 ∧ r 54 ≤ 9223372036854775807 := hok.1 54 ((-9223372036854775808), 9223372036854775807) rfl
  have b55 : (-9223372036854775808) ≤ r 55 ∧ r 55 ≤ 9223372036854775807 := hok.1 55 ((-9223372036854775808), 9223372036854775807) rfl
  have b56 : (-9223372036854775808) ≤ r 56 ∧ r 56 ≤ 9223372036854775807 := hok.1 56 ((-9223372036854775808), 9223372036854775807) rfl
  have b57 : (-9223372036854775808) ≤ r 57 ∧ r 57 ≤ 9223372036854775807 := hok.1 57 ((-9223372036854775808), 9223372036854775807) rfl
  have b58 : (-9223372036854775808) ≤ r 58 ∧ r 58 ≤ 9223372036854775807 := hok.1 58 ((-9223372036854775808), 9223372036854775807) rfl
  have b59 : (-9223372036854775808) ≤ r 59 ∧ r 59 ≤ 9223372036854775807 := hok.1 59 ((-9223372036854775808), 9223372036854775807) rfl
  have b60 : (-9223372036854775808) ≤ r 60 ∧ r 60 ≤ 9223372036854775807 := hok.1 60 ((-9223372036854775808), 9223372036854775807) rfl
  have b61 : (-9223372036854775808) ≤ r 61 ∧ r 61 ≤ 9223372036854775807 := hok.1 61 ((-9223372036854775808), 9223372036854775807) rfl
  have b62 : (-9223372036854775808) ≤ r 62 ∧ r 62 ≤ 9223372036854775807 := hok.1 62 ((-9223372036854775808), 9223372036854775807) rfl
  obtain ⟨hG, hgi⟩ := hG
  have hG : True := hG
  obtain ⟨h0, hh, e0, k0⟩ := hh
  have k0 : ∀ j, j ∉ [10, 16, 17] → g j = h0 j := k0
  obtain ⟨h1, hh, e1, k1⟩ := hh
  have k1 : ∀ j, j ∉ [] → h0 j = h1 j := k1
  have e1 : ye_bo (h1 4) (((1 * ((1 * r 2 + 0) + 0) + 0) + 0)).toNat ∧ (ye_fd (h1 2) (h1 3) (h1 4) (((1 * ((1 * r 2 + 0) + 0) + 0) + 0)).toNat ((1 * ((1 * r 3 + 0) + 0) + 0) + 0) ((1 * ((1 * r 9 + 0) + 0) + 0) + 0) (((1 * ((1 * r 4 + 0) + 0) + 0) + 0), ((1 * ((1 * r 10 + 0) + 0) + 0) + 0), ((1 * ((1 * r 11 + 0) + 0) + 0) + 0), ((1 * ((1 * r 12 + 0) + 0) + 0) + 0), ((1 * ((1 * r 13 + 0) + 0) + 0) + 0)) ((1 * ((1 * r 39 + 0) + 0) + 0) + 0) (((1 * ((1 * r 34 + 0) + 0) + 0) + 0), ((1 * ((1 * r 40 + 0) + 0) + 0) + 0), ((1 * ((1 * r 41 + 0) + 0) + 0) + 0), ((1 * ((1 * r 42 + 0) + 0) + 0) + 0), ((1 * ((1 * r 43 + 0) + 0) + 0) + 0)) ∧ ye_fo (h1 2) (h1 3) (((1 * ((1 * r 2 + 0) + 0) + 0) + 0)).toNat ((1 * ((1 * r 3 + 0) + 0) + 0) + 0) ((1 * ((1 * r 9 + 0) + 0) + 0) + 0) (((1 * ((1 * r 14 + 0) + 0) + 0) + 0), ((1 * ((1 * r 15 + 0) + 0) + 0) + 0), ((1 * ((1 * r 5 + 0) + 0) + 0) + 0), ((1 * ((1 * r 6 + 0) + 0) + 0) + 0), ((1 * ((1 * r 7 + 0) + 0) + 0) + 0), ((1 * ((1 * r 8 + 0) + 0) + 0) + 0)) (((1 * ((1 * r 34 + 0) + 0) + 0) + 0), ((1 * ((1 * r 40 + 0) + 0) + 0) + 0), ((1 * ((1 * r 41 + 0) + 0) + 0) + 0), ((1 * ((1 * r 42 + 0) + 0) + 0) + 0), ((1 * ((1 * r 43 + 0) + 0) + 0) + 0)) (((1 * ((1 * r 44 + 0) + 0) + 0) + 0), ((1 * ((1 * r 45 + 0) + 0) + 0) + 0), ((1 * ((1 * r 35 + 0) + 0) + 0) + 0), ((1 * ((1 * r 36 + 0) + 0) + 0) + 0), ((1 * ((1 * r 37 + 0) + 0) + 0) + 0), ((1 * ((1 * r 38 + 0) + 0) + 0) + 0))) ∧ ((1 * r 33 + 0) + 0) = ((1 * ((1 * r 34 + 0) + 0) + 0) + 0) := e1
  have hh : h1 = gi := hh
  subst hh
  refine yt_dalt (by decide) (by decide) ?_
  rw [show xk_120.2.1.2.1.1.length = 33 from rfl]
  show (((1 * ((1 * r 39 + 0) + 0) + 0) + 0) = ((1 * ((1 * r 9 + 0) + 0) + 0) + 0) ∧ (((1 * ((1 * r 34 + 0) + 0) + 0) + 0), ((1 * ((1 * r 40 + 0) + 0) + 0) + 0), ((1 * ((1 * r 41 + 0) + 0) + 0) + 0), ((1 * ((1 * r 42 + 0) + 0) + 0) + 0), ((1 * ((1 * r 43 + 0) + 0) + 0) + 0)) = (((1 * ((1 * r 4 + 0) + 0) + 0) + 0), ((1 * ((1 * r 10 + 0) + 0) + 0) + 0), ((1 * ((1 * r 11 + 0) + 0) + 0) + 0), ((1 * ((1 * r 12 + 0) + 0) + 0) + 0), ((1 * ((1 * r 13 + 0) + 0) + 0) + 0)) ∧ (((1 * ((1 * r 44 + 0) + 0) + 0) + 0), ((1 * ((1 * r 45 + 0) + 0) + 0) + 0), ((1 * ((1 * r 35 + 0) + 0) + 0) + 0), ((1 * ((1 * r 36 + 0) + 0) + 0) + 0), ((1 * ((1 * r 37 + 0) + 0) + 0) + 0), ((1 * ((1 * r 38 + 0) + 0) + 0) + 0)) = (((1 * ((1 * r 14 + 0) + 0) + 0) + 0), ((1 * ((1 * r 15 + 0) + 0) + 0) + 0), ((1 * ((1 * r 5 + 0) + 0) + 0) + 0), ((1 * ((1 * r 6 + 0) + 0) + 0) + 0), ((1 * ((1 * r 7 + 0) + 0) + 0) + 0), ((1 * ((1 * r 8 + 0) + 0) + 0) + 0))) ∨ (ye_fd (g0 2) (g0 3) (g0 4) (((1 * ((1 * r 2 + 0) + 0) + 0) + 0)).toNat ((1 * ((1 * r 3 + 0) + 0) + 0) + 0) ((1 * ((1 * r 9 + 0) + 0) + 0) + 0) (((1 * ((1 * r 4 + 0) + 0) + 0) + 0), ((1 * ((1 * r 10 + 0) + 0) + 0) + 0), ((1 * ((1 * r 11 + 0) + 0) + 0) + 0), ((1 * ((1 * r 12 + 0) + 0) + 0) + 0), ((1 * ((1 * r 13 + 0) + 0) + 0) + 0)) ((1 * ((1 * r 39 + 0) + 0) + 0) + 0) (((1 * ((1 * r 34 + 0) + 0) + 0) + 0), ((1 * ((1 * r 40 + 0) + 0) + 0) + 0), ((1 * ((1 * r 41 + 0) + 0) + 0) + 0), ((1 * ((1 * r 42 + 0) + 0) + 0) + 0), ((1 * ((1 * r 43 + 0) + 0) + 0) + 0)) ∧ ye_fo (g0 2) (g0 3) (((1 * ((1 * r 2 + 0) + 0) + 0) + 0)).toNat ((1 * ((1 * r 3 + 0) + 0) + 0) + 0) ((1 * ((1 * r 9 + 0) + 0) + 0) + 0) (((1 * ((1 * r 14 + 0) + 0) + 0) + 0), ((1 * ((1 * r 15 + 0) + 0) + 0) + 0), ((1 * ((1 * r 5 + 0) + 0) + 0) + 0), ((1 * ((1 * r 6 + 0) + 0) + 0) + 0), ((1 * ((1 * r 7 + 0) + 0) + 0) + 0), ((1 * ((1 * r 8 + 0) + 0) + 0) + 0)) (((1 * ((1 * r 34 + 0) + 0) + 0) + 0), ((1 * ((1 * r 40 + 0) + 0) + 0) + 0), ((1 * ((1 * r 41 + 0) + 0) + 0) + 0), ((1 * ((1 * r 42 + 0) + 0) + 0) + 0), ((1 * ((1 * r 43 + 0) + 0) + 0) + 0)) (((1 * ((1 * r 44 + 0) + 0) + 0) + 0), ((1 * ((1 * r 45 + 0) + 0) + 0) + 0), ((1 * ((1 * r 35 + 0) + 0) + 0) + 0), ((1 * ((1 * r 36 + 0) + 0) + 0) + 0), ((1 * ((1 * r 37 + 0) + 0) + 0) + 0), ((1 * ((1 * r 38 + 0) + 0) + 0) + 0)))
  try simp only [Int.one_mul, Int.zero_add, Int.add_zero]
  try simp only [Int.one_mul, Int.zero_add, Int.add_zero] at e1
  rw [hgi] at e1
  exact Or.inr e1.2.1
theorem xw_120_0_5 : yt_hold xT_120 xk_120 xq_120.2.2.1 xG_120 xP_120 xU_120 33 xk_120.2.1.2.2.2 (fun g0 r g => xR_120 r g0 ∧ g = g0) (1000, ([(41, 41), ((-2147483648), 2147483647), (2, 40), ((-2147483648), 2147483647), (0, 1), ((-9223372036854775808), 9223372036854775807), ((-9223372036854775808), 9223372036854775807), ((-9223372036854775808), 9223372036854775807), (0, 40), ((-2147483648), 2147483647), ((-600), 600), ((-600), 600), ((-1000000), 1000000), ((-1000000), 1000000), ((-9223372036854775808), 9223372036854775807), ((-9223372036854775808), 9223372036854775807), ((-2147483648), 2147483647), (0, 4), (0, 40), (0, 40), ((-2147483648), 2147483647), ((-9223372036854775808), 9223372036854775807), ((-9223372036854775808), 9223372036854775807), ((-9223372036854775808), 9223372036854775807), ((-9223372036854775808), 9223372036854775807), ((-9223372036854775808), 9223372036854775807), ((-9223372036854775808), 9223372036854775807), ((-9223372036854775808), 9223372036854775807), ((-9223372036854775808), 9223372036854775807), ((-9223372036854775808), 9223372036854775807), ((-9223372036854775808), 9223372036854775807), ((-9223372036854775808), 9223372036854775807), ((-9223372036854775808), 9223372036854775807), (0, 0), (0, 1), ((-9223372036854775808), 9223372036854775807), ((-9223372036854775808), 9223372036854775807), ((-9223372036854775808), 9223372036854775807), (0, 40), ((-2147483648), 2147483647), ((-600), 600), ((-600), 600), ((-1000000), 1000000), ((-1000000), 1000000), ((-9223372036854775808), 9223372036854775807), ((-9223372036854775808), 9223372036854775807), ((-2147483648), 2147483647), (0, 4), (0, 40), (0, 40), ((-2147483648), 2147483647), ((-9223372036854775808), 9223372036854775807), ((-9223372036854775808), 9223372036854775807), ((-9223372036854775808), 9223372036854775807), ((-9223372036854775808), 9223372036854775807), ((-9223372036854775808), 9223372036854775807), ((-9223372036854775808), 9223372036854775807), ((-9223372036854775808), 9223372036854775807), ((-9223372036854775808), 9223372036854775807), ((-9223372036854775808), 9223372036854775807), ((-9223372036854775808), 9223372036854775807), ((-9223372036854775808), 9223372036854775807), ((-9223372036854775808), 9223372036854775807)], []), [([(52, 1)], 0), ([(34, 1)], 0), ([(35, 1)], 0), ([(36, 1)], 0), ([(37, 1)], 0), ([(38, 1)], 0), ([(39, 1)], 0), ([(40, 1)], 0), ([(41, 1)], 0), ([(42, 1)], 0), ([(43, 1)], 0), ([(44, 1)], 0), ([(45, 1)], 0), ([(46, 1)], 0), ([(47, 1)], 0), ([(48, 1)], 0), ([(49, 1)], 0), ([(50, 1)], 0), ([(51, 1)], 0), ([(52, 1)], 0), ([(53, 1)], 0), ([(54, 1)], 0), ([(55, 1)], 0), ([(56, 1)], 0), ([(57, 1)], 0), ([(58, 1)], 0), ([(59, 1)], 0), ([(60, 1)], 0), ([(61, 1)], 0), ([(62, 1)], 0)], [], [.inr (.inr (.inl (0, 0, [([(16, 1)], 0), ([(17, 1)], 0), ([(18, 1)], 0), ([(19, 1)], 0), ([(20, 1)], 0), ([(21, 1)], 0), ([(22, 1)], 0), ([(23, 1)], 0), ([(24, 1)], 0), ([(25, 1)], 0), ([(26, 1)], 0), ([(27, 1)], 0), ([(28, 1)], 0), ([(29, 1)], 0), ([(30, 1)], 0), ([(31, 1)], 0), ([(32, 1)], 0), ([(2, 1)], 0), ([(3, 1)], 0), ([(46, 1)], 0), ([(47, 1)], 0), ([(48, 1)], 0), ([(49, 1)], 0), ([(50, 1)], 0), ([(51, 1)], 0), ([(52, 1)], 0), ([(53, 1)], 0), ([(54, 1)], 0), ([(55, 1)], 0), ([(56, 1)], 0), ([(57, 1)], 0), ([(58, 1)], 0), ([(59, 1)], 0), ([(60, 1)], 0), ([(61, 1)], 0), ([(62, 1)], 0)], [7, 8, 9, 10, 11, 12, 13, 14, 15, 16, 17, 1, 2, 3, 4, 18], [10, 16, 17]))), .inr (.inr (.inl (306, 1, [([(1, 1)], 0), ([(2, 1)], 0), ([(3, 1)], 0), ([(4, 1)], 0), ([(5, 1)], 0), ([(6, 1)], 0), ([(7, 1)], 0), ([(8, 1)], 0), ([(9, 1)], 0), ([(10, 1)], 0), ([(11, 1)], 0), ([(12, 1)], 0), ([(13, 1)], 0), ([(14, 1)], 0), ([(15, 1)], 0), ([(33, 1)], 0), ([(34, 1)], 0), ([(35, 1)], 0), ([(36, 1)], 0), ([(37, 1)], 0), ([(38, 1)], 0), ([(39, 1)], 0), ([(40, 1)], 0), ([(41, 1)], 0), ([(42, 1)], 0), ([(43, 1)], 0), ([(44, 1)], 0), ([(45, 1)], 0)], [0, 1, 2, 3, 4, 5, 6, 18, 19, 20, 21, 22, 23, 24, 25, 7, 26, 27, 28, 29], [])))]) := by
  intro g0 r gi g hok hh hars hfr hG
  have b33 : 0 ≤ r 33 ∧ r 33 ≤ 0 := hok.1 33 (0, 0) rfl
  have b34 : 0 ≤ r 34 ∧ r 34 ≤ 1 := hok.1 34 (0, 1) rfl
  have b35 : (-9223372036854775808) ≤ r 35 ∧ r 35 ≤ 9223372036854775807 := hok.1 35 ((-9223372036854775808), 9223372036854775807) rfl
  have b36 : (-9223372036854775808) ≤ r 36 ∧ r 36 ≤ 9223372036854775807 := hok.1 36 ((-9223372036854775808), 9223372036854775807) rfl
  have b37 : (-9223372036854775808) ≤ r 37 ∧ r 37 ≤ 9223372036854775807 := hok.1 37 ((-9223372036854775808), 9223372036854775807) rfl
  have b38 : 0 ≤ r 38 ∧ r 38 ≤ 40 := hok.1 38 (0, 40) rfl
  have b39 : (-2147483648) ≤ r 39 ∧ r 39 ≤ 2147483647 := hok.1 39 ((-2147483648), 2147483647) rfl
  have b40 : (-600) ≤ r 40 ∧ r 40 ≤ 600 := hok.1 40 ((-600), 600) rfl
  have b41 : (-600) ≤ r 41 ∧ r 41 ≤ 600 := hok.1 41 ((-600), 600) rfl
  have b42 : (-1000000) ≤ r 42 ∧ r 42 ≤ 1000000 := hok.1 42 ((-1000000), 1000000) rfl
  have b43 : (-1000000) ≤ r 43 ∧ r 43 ≤ 1000000 := hok.1 43 ((-1000000), 1000000) rfl
  have b44 : (-9223372036854775808) ≤ r 44 ∧ r 44 ≤ 9223372036854775807 := hok.1 44 ((-9223372036854775808), 9223372036854775807) rfl
  have b45 : (-9223372036854775808) ≤ r 45 ∧ r 45 ≤ 9223372036854775807 := hok.1 45 ((-9223372036854775808), 9223372036854775807) rfl
  have b46 : (-2147483648) ≤ r 46 ∧ r 46 ≤ 2147483647 := hok.1 46 ((-2147483648), 2147483647) rfl
  have b47 : 0 ≤ r 47 ∧ r 47 ≤ 4 := hok.1 47 (0, 4) rfl
  have b48 : 0 ≤ r 48 ∧ r 48 ≤ 40 := hok.1 48 (0, 40) rfl
  have b49 : 0 ≤ r 49 ∧ r 49 ≤ 40 := hok.1 49 (0, 40) rfl
  have b50 : (-2147483648) ≤ r 50 ∧ r 50 ≤ 2147483647 := hok.1 50 ((-2147483648), 2147483647) rfl
  have b51 : (-9223372036854775808) ≤ r 51 ∧ r 51 ≤ 9223372036854775807 := hok.1 51 ((-9223372036854775808), 9223372036854775807) rfl
  have b52 : (-9223372036854775808) ≤ r 52 ∧ r 52 ≤ 9223372036854775807 := hok.1 52 ((-9223372036854775808), 9223372036854775807) rfl
  have b53 : (-9223372036854775808) ≤ r 53 ∧ r 53 ≤ 9223372036854775807 := hok.1 53 ((-9223372036854775808), 9223372036854775807) rfl
  have b54 : (-9223372036854775808) ≤ r 54 ∧ r 54 ≤ 9223372036854775807 := hok.1 54 ((-9223372036854775808), 9223372036854775807) rfl
  have b55 : (-9223372036854775808) ≤ r 55 ∧ r 55 ≤ 9223372036854775807 := hok.1 55 ((-9223372036854775808), 9223372036854775807) rfl
  have b56 : (-9223372036854775808) ≤ r 56 ∧ r 56 ≤ 9223372036854775807 := hok.1 56 ((-9223372036854775808), 9223372036854775807) rfl
  have b57 : (-9223372036854775808) ≤ r 57 ∧ r 57 ≤ 9223372036854775807 := hok.1 57 ((-9223372036854775808), 9223372036854775807) rfl
  have b58 : (-9223372036854775808) ≤ r 58 ∧ r 58 ≤ 9223372036854775807 := hok.1 58 ((-9223372036854775808), 9223372036854775807) rfl
  have b59 : (-9223372036854775808) ≤ r 59 ∧ r 59 ≤ 9223372036854775807 := hok.1 59 ((-9223372036854775808), 9223372036854775807) rfl
  have b60 : (-9223372036854775808) ≤ r 60 ∧ r 60 ≤ 9223372036854775807 := hok.1 60 ((-9223372036854775808), 9223372036854775807) rfl
  have b61 : (-9223372036854775808) ≤ r 61 ∧ r 61 ≤ 9223372036854775807 := hok.1 61 ((-9223372036854775808), 9223372036854775807) rfl
  have b62 : (-9223372036854775808) ≤ r 62 ∧ r 62 ≤ 9223372036854775807 := hok.1 62 ((-9223372036854775808), 9223372036854775807) rfl
  obtain ⟨hG, hgi⟩ := hG
  have hG : True := hG
  obtain ⟨h0, hh, e0, k0⟩ := hh
  have k0 : ∀ j, j ∉ [10, 16, 17] → g j = h0 j := k0
  obtain ⟨h1, hh, e1, k1⟩ := hh
  have k1 : ∀ j, j ∉ [] → h0 j = h1 j := k1
  have e1 : ye_bo (h1 4) (((1 * ((1 * r 2 + 0) + 0) + 0) + 0)).toNat ∧ (ye_fd (h1 2) (h1 3) (h1 4) (((1 * ((1 * r 2 + 0) + 0) + 0) + 0)).toNat ((1 * ((1 * r 3 + 0) + 0) + 0) + 0) ((1 * ((1 * r 9 + 0) + 0) + 0) + 0) (((1 * ((1 * r 4 + 0) + 0) + 0) + 0), ((1 * ((1 * r 10 + 0) + 0) + 0) + 0), ((1 * ((1 * r 11 + 0) + 0) + 0) + 0), ((1 * ((1 * r 12 + 0) + 0) + 0) + 0), ((1 * ((1 * r 13 + 0) + 0) + 0) + 0)) ((1 * ((1 * r 39 + 0) + 0) + 0) + 0) (((1 * ((1 * r 34 + 0) + 0) + 0) + 0), ((1 * ((1 * r 40 + 0) + 0) + 0) + 0), ((1 * ((1 * r 41 + 0) + 0) + 0) + 0), ((1 * ((1 * r 42 + 0) + 0) + 0) + 0), ((1 * ((1 * r 43 + 0) + 0) + 0) + 0)) ∧ ye_fo (h1 2) (h1 3) (((1 * ((1 * r 2 + 0) + 0) + 0) + 0)).toNat ((1 * ((1 * r 3 + 0) + 0) + 0) + 0) ((1 * ((1 * r 9 + 0) + 0) + 0) + 0) (((1 * ((1 * r 14 + 0) + 0) + 0) + 0), ((1 * ((1 * r 15 + 0) + 0) + 0) + 0), ((1 * ((1 * r 5 + 0) + 0) + 0) + 0), ((1 * ((1 * r 6 + 0) + 0) + 0) + 0), ((1 * ((1 * r 7 + 0) + 0) + 0) + 0), ((1 * ((1 * r 8 + 0) + 0) + 0) + 0)) (((1 * ((1 * r 34 + 0) + 0) + 0) + 0), ((1 * ((1 * r 40 + 0) + 0) + 0) + 0), ((1 * ((1 * r 41 + 0) + 0) + 0) + 0), ((1 * ((1 * r 42 + 0) + 0) + 0) + 0), ((1 * ((1 * r 43 + 0) + 0) + 0) + 0)) (((1 * ((1 * r 44 + 0) + 0) + 0) + 0), ((1 * ((1 * r 45 + 0) + 0) + 0) + 0), ((1 * ((1 * r 35 + 0) + 0) + 0) + 0), ((1 * ((1 * r 36 + 0) + 0) + 0) + 0), ((1 * ((1 * r 37 + 0) + 0) + 0) + 0), ((1 * ((1 * r 38 + 0) + 0) + 0) + 0))) ∧ ((1 * r 33 + 0) + 0) = ((1 * ((1 * r 34 + 0) + 0) + 0) + 0) := e1
  have hh : h1 = gi := hh
  subst hh
  refine yt_dalt (by decide) (by decide) ?_
  rw [show xk_120.2.1.2.1.1.length = 33 from rfl]
  show (((1 * ((1 * r 39 + 0) + 0) + 0) + 0) = ((1 * ((1 * r 9 + 0) + 0) + 0) + 0) ∧ (((1 * ((1 * r 34 + 0) + 0) + 0) + 0), ((1 * ((1 * r 40 + 0) + 0) + 0) + 0), ((1 * ((1 * r 41 + 0) + 0) + 0) + 0), ((1 * ((1 * r 42 + 0) + 0) + 0) + 0), ((1 * ((1 * r 43 + 0) + 0) + 0) + 0)) = (((1 * ((1 * r 4 + 0) + 0) + 0) + 0), ((1 * ((1 * r 10 + 0) + 0) + 0) + 0), ((1 * ((1 * r 11 + 0) + 0) + 0) + 0), ((1 * ((1 * r 12 + 0) + 0) + 0) + 0), ((1 * ((1 * r 13 + 0) + 0) + 0) + 0)) ∧ (((1 * ((1 * r 44 + 0) + 0) + 0) + 0), ((1 * ((1 * r 45 + 0) + 0) + 0) + 0), ((1 * ((1 * r 35 + 0) + 0) + 0) + 0), ((1 * ((1 * r 36 + 0) + 0) + 0) + 0), ((1 * ((1 * r 37 + 0) + 0) + 0) + 0), ((1 * ((1 * r 38 + 0) + 0) + 0) + 0)) = (((1 * ((1 * r 14 + 0) + 0) + 0) + 0), ((1 * ((1 * r 15 + 0) + 0) + 0) + 0), ((1 * ((1 * r 5 + 0) + 0) + 0) + 0), ((1 * ((1 * r 6 + 0) + 0) + 0) + 0), ((1 * ((1 * r 7 + 0) + 0) + 0) + 0), ((1 * ((1 * r 8 + 0) + 0) + 0) + 0))) ∨ (ye_fd (g0 2) (g0 3) (g0 4) (((1 * ((1 * r 2 + 0) + 0) + 0) + 0)).toNat ((1 * ((1 * r 3 + 0) + 0) + 0) + 0) ((1 * ((1 * r 9 + 0) + 0) + 0) + 0) (((1 * ((1 * r 4 + 0) + 0) + 0) + 0), ((1 * ((1 * r 10 + 0) + 0) + 0) + 0), ((1 * ((1 * r 11 + 0) + 0) + 0) + 0), ((1 * ((1 * r 12 + 0) + 0) + 0) + 0), ((1 * ((1 * r 13 + 0) + 0) + 0) + 0)) ((1 * ((1 * r 39 + 0) + 0) + 0) + 0) (((1 * ((1 * r 34 + 0) + 0) + 0) + 0), ((1 * ((1 * r 40 + 0) + 0) + 0) + 0), ((1 * ((1 * r 41 + 0) + 0) + 0) + 0), ((1 * ((1 * r 42 + 0) + 0) + 0) + 0), ((1 * ((1 * r 43 + 0) + 0) + 0) + 0)) ∧ ye_fo (g0 2) (g0 3) (((1 * ((1 * r 2 + 0) + 0) + 0) + 0)).toNat ((1 * ((1 * r 3 + 0) + 0) + 0) + 0) ((1 * ((1 * r 9 + 0) + 0) + 0) + 0) (((1 * ((1 * r 14 + 0) + 0) + 0) + 0), ((1 * ((1 * r 15 + 0) + 0) + 0) + 0), ((1 * ((1 * r 5 + 0) + 0) + 0) + 0), ((1 * ((1 * r 6 + 0) + 0) + 0) + 0), ((1 * ((1 * r 7 + 0) + 0) + 0) + 0), ((1 * ((1 * r 8 + 0) + 0) + 0) + 0)) (((1 * ((1 * r 34 + 0) + 0) + 0) + 0), ((1 * ((1 * r 40 + 0) + 0) + 0) + 0), ((1 * ((1 * r 41 + 0) + 0) + 0) + 0), ((1 * ((1 * r 42 + 0) + 0) + 0) + 0), ((1 * ((1 * r 43 + 0) + 0) + 0) + 0)) (((1 * ((1 * r 44 + 0) + 0) + 0) + 0), ((1 * ((1 * r 45 + 0) + 0) + 0) + 0), ((1 * ((1 * r 35 + 0) + 0) + 0) + 0), ((1 * ((1 * r 36 + 0) + 0) + 0) + 0), ((1 * ((1 * r 37 + 0) + 0) + 0) + 0), ((1 * ((1 * r 38 + 0) + 0) + 0) + 0)))
  try simp only [Int.one_mul, Int.zero_add, Int.add_zero]
  try simp only [Int.one_mul, Int.zero_add, Int.add_zero] at e1
  rw [hgi] at e1
  exact Or.inr e1.2.1
theorem xw_120_0_6 : yt_hold xT_120 xk_120 xq_120.2.2.1 xG_120 xP_120 xU_120 33 xk_120.2.1.2.2.2 (fun g0 r g => xR_120 r g0 ∧ g = g0) (1000, ([(42, 42), ((-2147483648), 2147483647), (2, 40), ((-2147483648), 2147483647), (0, 1), ((-9223372036854775808), 9223372036854775807), ((-9223372036854775808), 9223372036854775807), ((-9223372036854775808), 9223372036854775807), (0, 40), ((-2147483648), 2147483647), ((-600), 600), ((-600), 600), ((-1000000), 1000000), ((-1000000), 1000000), ((-9223372036854775808), 9223372036854775807), ((-9223372036854775808), 9223372036854775807), ((-2147483648), 2147483647), (0, 4), (0, 40), (0, 40), ((-2147483648), 2147483647), ((-9223372036854775808), 9223372036854775807), ((-9223372036854775808), 9223372036854775807), ((-9223372036854775808), 9223372036854775807), ((-9223372036854775808), 9223372036854775807), ((-9223372036854775808), 9223372036854775807), ((-9223372036854775808), 9223372036854775807), ((-9223372036854775808), 9223372036854775807), ((-9223372036854775808), 9223372036854775807), ((-9223372036854775808), 9223372036854775807), ((-9223372036854775808), 9223372036854775807), ((-9223372036854775808), 9223372036854775807), ((-9223372036854775808), 9223372036854775807), (0, 0), (0, 1), ((-9223372036854775808), 9223372036854775807), ((-9223372036854775808), 9223372036854775807), ((-9223372036854775808), 9223372036854775807), (0, 40), ((-2147483648), 2147483647), ((-600), 600), ((-600), 600), ((-1000000), 1000000), ((-1000000), 1000000), ((-9223372036854775808), 9223372036854775807), ((-9223372036854775808), 9223372036854775807), ((-2147483648), 2147483647), (0, 4), (0, 40), (0, 40), ((-2147483648), 2147483647), ((-9223372036854775808), 9223372036854775807), ((-9223372036854775808), 9223372036854775807), ((-9223372036854775808), 9223372036854775807), ((-9223372036854775808), 9223372036854775807), ((-9223372036854775808), 9223372036854775807), ((-9223372036854775808), 9223372036854775807), ((-9223372036854775808), 9223372036854775807), ((-9223372036854775808), 9223372036854775807), ((-9223372036854775808), 9223372036854775807), ((-9223372036854775808), 9223372036854775807), ((-9223372036854775808), 9223372036854775807), ((-9223372036854775808), 9223372036854775807)], []), [([(53, 1)], 0), ([(34, 1)], 0), ([(35, 1)], 0), ([(36, 1)], 0), ([(37, 1)], 0), ([(38, 1)], 0), ([(39, 1)], 0), ([(40, 1)], 0), ([(41, 1)], 0), ([(42, 1)], 0), ([(43, 1)], 0), ([(44, 1)], 0), ([(45, 1)], 0), ([(46, 1)], 0), ([(47, 1)], 0), ([(48, 1)], 0), ([(49, 1)], 0), ([(50, 1)], 0), ([(51, 1)], 0), ([(52, 1)], 0), ([(53, 1)], 0), ([(54, 1)], 0), ([(55, 1)], 0), ([(56, 1)], 0), ([(57, 1)], 0), ([(58, 1)], 0), ([(59, 1)], 0), ([(60, 1)], 0), ([(61, 1)], 0), ([(62, 1)], 0)], [], [.inr (.inr (.inl (0, 0, [([(16, 1)], 0), ([(17, 1)], 0), ([(18, 1)], 0), ([(19, 1)], 0), ([(20, 1)], 0), ([(21, 1)], 0), ([(22, 1)], 0), ([(23, 1)], 0), ([(24, 1)], 0), ([(25, 1)], 0), ([(26, 1)], 0), ([(27, 1)], 0), ([(28, 1)], 0), ([(29, 1)], 0), ([(30, 1)], 0), ([(31, 1)], 0), ([(32, 1)], 0), ([(2, 1)], 0), ([(3, 1)], 0), ([(46, 1)], 0), ([(47, 1)], 0), ([(48, 1)], 0), ([(49, 1)], 0), ([(50, 1)], 0), ([(51, 1)], 0), ([(52, 1)], 0), ([(53, 1)], 0), ([(54, 1)], 0), ([(55, 1)], 0), ([(56, 1)], 0), ([(57, 1)], 0), ([(58, 1)], 0), ([(59, 1)], 0), ([(60, 1)], 0), ([(61, 1)], 0), ([(62, 1)], 0)], [7, 8, 9, 10, 11, 12, 13, 14, 15, 16, 17, 1, 2, 3, 4, 18], [10, 16, 17]))), .inr (.inr (.inl (306, 1, [([(1, 1)], 0), ([(2, 1)], 0), ([(3, 1)], 0), ([(4, 1)], 0), ([(5, 1)], 0), ([(6, 1)], 0), ([(7, 1)], 0), ([(8, 1)], 0), ([(9, 1)], 0), ([(10, 1)], 0), ([(11, 1)], 0), ([(12, 1)], 0), ([(13, 1)], 0), ([(14, 1)], 0), ([(15, 1)], 0), ([(33, 1)], 0), ([(34, 1)], 0), ([(35, 1)], 0), ([(36, 1)], 0), ([(37, 1)], 0), ([(38, 1)], 0), ([(39, 1)], 0), ([(40, 1)], 0), ([(41, 1)], 0), ([(42, 1)], 0), ([(43, 1)], 0), ([(44, 1)], 0), ([(45, 1)], 0)], [0, 1, 2, 3, 4, 5, 6, 18, 19, 20, 21, 22, 23, 24, 25, 7, 26, 27, 28, 29], [])))]) := by
  intro g0 r gi g hok hh hars hfr hG
  have b33 : 0 ≤ r 33 ∧ r 33 ≤ 0 := hok.1 33 (0, 0) rfl
  have b34 : 0 ≤ r 34 ∧ r 34 ≤ 1 := hok.1 34 (0, 1) rfl
  have b35 : (-9223372036854775808) ≤ r 35 ∧ r 35 ≤ 9223372036854775807 := hok.1 35 ((-9223372036854775808), 9223372036854775807) rfl
  have b36 : (-9223372036854775808) ≤ r 36 ∧ r 36 ≤ 9223372036854775807 := hok.1 36 ((-9223372036854775808), 9223372036854775807) rfl
  have b37 : (-9223372036854775808) ≤ r 37 ∧ r 37 ≤ 9223372036854775807 := hok.1 37 ((-9223372036854775808), 9223372036854775807) rfl
  have b38 : 0 ≤ r 38 ∧ r 38 ≤ 40 := hok.1 38 (0, 40) rfl
  have b39 : (-2147483648) ≤ r 39 ∧ r 39 ≤ 2147483647 := hok.1 39 ((-2147483648), 2147483647) rfl
  have b40 : (-600) ≤ r 40 ∧ r 40 ≤ 600 := hok.1 40 ((-600), 600) rfl
  have b41 : (-600) ≤ r 41 ∧ r 41 ≤ 600 := hok.1 41 ((-600), 600) rfl
  have b42 : (-1000000) ≤ r 42 ∧ r 42 ≤ 1000000 := hok.1 42 ((-1000000), 1000000) rfl
  have b43 : (-1000000) ≤ r 43 ∧ r 43 ≤ 1000000 := hok.1 43 ((-1000000), 1000000) rfl
  have b44 : (-9223372036854775808) ≤ r 44 ∧ r 44 ≤ 9223372036854775807 := hok.1 44 ((-9223372036854775808), 9223372036854775807) rfl
  have b45 : (-9223372036854775808) ≤ r 45 ∧ r 45 ≤ 9223372036854775807 := hok.1 45 ((-9223372036854775808), 9223372036854775807) rfl
  have b46 : (-2147483648) ≤ r 46 ∧ r 46 ≤ 2147483647 := hok.1 46 ((-2147483648), 2147483647) rfl
  have b47 : 0 ≤ r 47 ∧ r 47 ≤ 4 := hok.1 47 (0, 4) rfl
  have b48 : 0 ≤ r 48 ∧ r 48 ≤ 40 := hok.1 48 (0, 40) rfl
  have b49 : 0 ≤ r 49 ∧ r 49 ≤ 40 := hok.1 49 (0, 40) rfl
  have b50 : (-2147483648) ≤ r 50 ∧ r 50 ≤ 2147483647 := hok.1 50 ((-2147483648), 2147483647) rfl
  have b51 : (-9223372036854775808) ≤ r 51 ∧ r 51 ≤ 9223372036854775807 := hok.1 51 ((-9223372036854775808), 9223372036854775807) rfl
  have b52 : (-9223372036854775808) ≤ r 52 ∧ r 52 ≤ 9223372036854775807 := hok.1 52 ((-9223372036854775808), 9223372036854775807) rfl
  have b53 : (-9223372036854775808) ≤ r 53 ∧ r 53 ≤ 9223372036854775807 := hok.1 53 ((-9223372036854775808), 9223372036854775807) rfl
  have b54 : (-9223372036854775808) ≤ r 54 ∧ r 54 ≤ 9223372036854775807 := hok.1 54 ((-9223372036854775808), 9223372036854775807) rfl
  have b55 : (-9223372036854775808) ≤ r 55 ∧ r 55 ≤ 9223372036854775807 := hok.1 55 ((-9223372036854775808), 9223372036854775807) rfl
  have b56 : (-9223372036854775808) ≤ r 56 ∧ r 56 ≤ 9223372036854775807 := hok.1 56 ((-9223372036854775808), 9223372036854775807) rfl
  have b57 : (-9223372036854775808) ≤ r 57 ∧ r 57 ≤ 9223372036854775807 := hok.1 57 ((-9223372036854775808), 9223372036854775807) rfl
  have b58 : (-9223372036854775808) ≤ r 58 ∧ r 58 ≤ 9223372036854775807 := hok.1 58 ((-9223372036854775808), 9223372036854775807) rfl
  have b59 : (-9223372036854775808) ≤ r 59 ∧ r 59 ≤ 9223372036854775807 := hok.1 59 ((-9223372036854775808), 9223372036854775807) rfl
  have b60 : (-9223372036854775808) ≤ r 60 ∧ r 60 ≤ 9223372036854775807 := hok.1 60 ((-9223372036854775808), 9223372036854775807) rfl
  have b61 : (-9223372036854775808) ≤ r 61 ∧ r 61 ≤ 9223372036854775807 := hok.1 61 ((-9223372036854775808), 9223372036854775807) rfl
  have b62 : (-9223372036854775808) ≤ r 62 ∧ r 62 ≤ 9223372036854775807 := hok.1 62 ((-9223372036854775808), 9223372036854775807) rfl
  obtain ⟨hG, hgi⟩ := hG
  have hG : True := hG
  obtain ⟨h0, hh, e0, k0⟩ := hh
  have k0 : ∀ j, j ∉ [10, 16, 17] → g j = h0 j := k0
  obtain ⟨h1, hh, e1, k1⟩ := hh
  have k1 : ∀ j, j ∉ [] → h0 j = h1 j := k1
  have e1 : ye_bo (h1 4) (((1 * ((1 * r 2 + 0) + 0) + 0) + 0)).toNat ∧ (ye_fd (h1 2) (h1 3) (h1 4) (((1 * ((1 * r 2 + 0) + 0) + 0) + 0)).toNat ((1 * ((1 * r 3 + 0) + 0) + 0) + 0) ((1 * ((1 * r 9 + 0) + 0) + 0) + 0) (((1 * ((1 * r 4 + 0) + 0) + 0) + 0), ((1 * ((1 * r 10 + 0) + 0) + 0) + 0), ((1 * ((1 * r 11 + 0) + 0) + 0) + 0), ((1 * ((1 * r 12 + 0) + 0) + 0) + 0), ((1 * ((1 * r 13 + 0) + 0) + 0) + 0)) ((1 * ((1 * r 39 + 0) + 0) + 0) + 0) (((1 * ((1 * r 34 + 0) + 0) + 0) + 0), ((1 * ((1 * r 40 + 0) + 0) + 0) + 0), ((1 * ((1 * r 41 + 0) + 0) + 0) + 0), ((1 * ((1 * r 42 + 0) + 0) + 0) + 0), ((1 * ((1 * r 43 + 0) + 0) + 0) + 0)) ∧ ye_fo (h1 2) (h1 3) (((1 * ((1 * r 2 + 0) + 0) + 0) + 0)).toNat ((1 * ((1 * r 3 + 0) + 0) + 0) + 0) ((1 * ((1 * r 9 + 0) + 0) + 0) + 0) (((1 * ((1 * r 14 + 0) + 0) + 0) + 0), ((1 * ((1 * r 15 + 0) + 0) + 0) + 0), ((1 * ((1 * r 5 + 0) + 0) + 0) + 0), ((1 * ((1 * r 6 + 0) + 0) + 0) + 0), ((1 * ((1 * r 7 + 0) + 0) + 0) + 0), ((1 * ((1 * r 8 + 0) + 0) + 0) + 0)) (((1 * ((1 * r 34 + 0) + 0) + 0) + 0), ((1 * ((1 * r 40 + 0) + 0) + 0) + 0), ((1 * ((1 * r 41 + 0) + 0) + 0) + 0), ((1 * ((1 * r 42 + 0) + 0) + 0) + 0), ((1 * ((1 * r 43 + 0) + 0) + 0) + 0)) (((1 * ((1 * r 44 + 0) + 0) + 0) + 0), ((1 * ((1 * r 45 + 0) + 0) + 0) + 0), ((1 * ((1 * r 35 + 0) + 0) + 0) + 0), ((1 * ((1 * r 36 + 0) + 0) + 0) + 0), ((1 * ((1 * r 37 + 0) + 0) + 0) + 0), ((1 * ((1 * r 38 + 0) + 0) + 0) + 0))) ∧ ((1 * r 33 + 0) + 0) = ((1 * ((1 * r 34 + 0) + 0) + 0) + 0) := e1
  have hh : h1 = gi := hh
  subst hh
  refine yt_dalt (by decide) (by decide) ?_
  rw [show xk_120.2.1.2.1.1.length = 33 from rfl]
  show (((1 * ((1 * r 39 + 0) + 0) + 0) + 0) = ((1 * ((1 * r 9 + 0) + 0) + 0) + 0) ∧ (((1 * ((1 * r 34 + 0) + 0) + 0) + 0), ((1 * ((1 * r 40 + 0) + 0) + 0) + 0), ((1 * ((1 * r 41 + 0) + 0) + 0) + 0), ((1 * ((1 * r 42 + 0) + 0) + 0) + 0), ((1 * ((1 * r 43 + 0) + 0) + 0) + 0)) = (((1 * ((1 * r 4 + 0) + 0) + 0) + 0), ((1 * ((1 * r 10 + 0) + 0) + 0) + 0), ((1 * ((1 * r 11 + 0) + 0) + 0) + 0), ((1 * ((1 * r 12 + 0) + 0) + 0) + 0), ((1 * ((1 * r 13 + 0) + 0) + 0) + 0)) ∧ (((1 * ((1 * r 44 + 0) + 0) + 0) + 0), ((1 * ((1 * r 45 + 0) + 0) + 0) + 0), ((1 * ((1 * r 35 + 0) + 0) + 0) + 0), ((1 * ((1 * r 36 + 0) + 0) + 0) + 0), ((1 * ((1 * r 37 + 0) + 0) + 0) + 0), ((1 * ((1 * r 38 + 0) + 0) + 0) + 0)) = (((1 * ((1 * r 14 + 0) + 0) + 0) + 0), ((1 * ((1 * r 15 + 0) + 0) + 0) + 0), ((1 * ((1 * r 5 + 0) + 0) + 0) + 0), ((1 * ((1 * r 6 + 0) + 0) + 0) + 0), ((1 * ((1 * r 7 + 0) + 0) + 0) + 0), ((1 * ((1 * r 8 + 0) + 0) + 0) + 0))) ∨ (ye_fd (g0 2) (g0 3) (g0 4) (((1 * ((1 * r 2 + 0) + 0) + 0) + 0)).toNat ((1 * ((1 * r 3 + 0) + 0) + 0) + 0) ((1 * ((1 * r 9 + 0) + 0) + 0) + 0) (((1 * ((1 * r 4 + 0) + 0) + 0) + 0), ((1 * ((1 * r 10 + 0) + 0) + 0) + 0), ((1 * ((1 * r 11 + 0) + 0) + 0) + 0), ((1 * ((1 * r 12 + 0) + 0) + 0) + 0), ((1 * ((1 * r 13 + 0) + 0) + 0) + 0)) ((1 * ((1 * r 39 + 0) + 0) + 0) + 0) (((1 * ((1 * r 34 + 0) + 0) + 0) + 0), ((1 * ((1 * r 40 + 0) + 0) + 0) + 0), ((1 * ((1 * r 41 + 0) + 0) + 0) + 0), ((1 * ((1 * r 42 + 0) + 0) + 0) + 0), ((1 * ((1 * r 43 + 0) + 0) + 0) + 0)) ∧ ye_fo (g0 2) (g0 3) (((1 * ((1 * r 2 + 0) + 0) + 0) + 0)).toNat ((1 * ((1 * r 3 + 0) + 0) + 0) + 0) ((1 * ((1 * r 9 + 0) + 0) + 0) + 0) (((1 * ((1 * r 14 + 0) + 0) + 0) + 0), ((1 * ((1 * r 15 + 0) + 0) + 0) + 0), ((1 * ((1 * r 5 + 0) + 0) + 0) + 0), ((1 * ((1 * r 6 + 0) + 0) + 0) + 0), ((1 * ((1 * r 7 + 0) + 0) + 0) + 0), ((1 * ((1 * r 8 + 0) + 0) + 0) + 0)) (((1 * ((1 * r 34 + 0) + 0) + 0) + 0), ((1 * ((1 * r 40 + 0) + 0) + 0) + 0), ((1 * ((1 * r 41 + 0) + 0) + 0) + 0), ((1 * ((1 * r 42 + 0) + 0) + 0) + 0), ((1 * ((1 * r 43 + 0) + 0) + 0) + 0)) (((1 * ((1 * r 44 + 0) + 0) + 0) + 0), ((1 * ((1 * r 45 + 0) + 0) + 0) + 0), ((1 * ((1 * r 35 + 0) + 0) + 0) + 0), ((1 * ((1 * r 36 + 0) + 0) + 0) + 0), ((1 * ((1 * r 37 + 0) + 0) + 0) + 0), ((1 * ((1 * r 38 + 0) + 0) + 0) + 0)))
  try simp only [Int.one_mul, Int.zero_add, Int.add_zero]
  try simp only [Int.one_mul, Int.zero_add, Int.add_zero] at e1
  rw [hgi] at e1
  exact Or.inr e1.2.1
theorem xw_120_0_7 : yt_hold xT_120 xk_120 xq_120.2.2.1 xG_120 xP_120 xU_120 33 xk_120.2.1.2.2.2 (fun g0 r g => xR_120 r g0 ∧ g = g0) (1000, ([(43, 43), ((-2147483648), 2147483647), (2, 40), ((-2147483648), 2147483647), (0, 1), ((-9223372036854775808), 9223372036854775807), ((-9223372036854775808), 9223372036854775807), ((-9223372036854775808), 9223372036854775807), (0, 40), ((-2147483648), 2147483647), ((-600), 600), ((-600), 600), ((-1000000), 1000000), ((-1000000), 1000000), ((-9223372036854775808), 9223372036854775807), ((-9223372036854775808), 9223372036854775807), ((-2147483648), 2147483647), (0, 4), (0, 40), (0, 40), ((-2147483648), 2147483647), ((-9223372036854775808), 9223372036854775807), ((-9223372036854775808), 9223372036854775807), ((-9223372036854775808), 9223372036854775807), ((-9223372036854775808), 9223372036854775807), ((-9223372036854775808), 9223372036854775807), ((-9223372036854775808), 9223372036854775807), ((-9223372036854775808), 9223372036854775807), ((-9223372036854775808), 9223372036854775807), ((-9223372036854775808), 9223372036854775807), ((-9223372036854775808), 9223372036854775807), ((-9223372036854775808), 9223372036854775807), ((-9223372036854775808), 9223372036854775807), (0, 0), (0, 1), ((-9223372036854775808), 9223372036854775807), ((-9223372036854775808), 9223372036854775807), ((-9223372036854775808), 9223372036854775807), (0, 40), ((-2147483648), 2147483647), ((-600), 600), ((-600), 600), ((-1000000), 1000000), ((-1000000), 1000000), ((-9223372036854775808), 9223372036854775807), ((-9223372036854775808), 9223372036854775807), ((-2147483648), 2147483647), (0, 4), (0, 40), (0, 40), ((-2147483648), 2147483647), ((-9223372036854775808), 9223372036854775807), ((-9223372036854775808), 9223372036854775807), ((-9223372036854775808), 9223372036854775807), ((-9223372036854775808), 9223372036854775807), ((-9223372036854775808), 9223372036854775807), ((-9223372036854775808), 9223372036854775807), ((-9223372036854775808), 9223372036854775807), ((-9223372036854775808), 9223372036854775807), ((-9223372036854775808), 9223372036854775807), ((-9223372036854775808), 9223372036854775807), ((-9223372036854775808), 9223372036854775807), ((-9223372036854775808), 9223372036854775807)], []), [([(54, 1)], 0), ([(34, 1)], 0), ([(35, 1)], 0), ([(36, 1)], 0), ([(37, 1)], 0), ([(38, 1)], 0), ([(39, 1)], 0), ([(40, 1)], 0), ([(41, 1)], 0), ([(42, 1)], 0), ([(43, 1)], 0), ([(44, 1)], 0), ([(45, 1)], 0), ([(46, 1)], 0), ([(47, 1)], 0), ([(48, 1)], 0), ([(49, 1)], 0), ([(50, 1)], 0), ([(51, 1)], 0), ([(52, 1)], 0), ([(53, 1)], 0), ([(54, 1)], 0), ([(55, 1)], 0), ([(56, 1)], 0), ([(57, 1)], 0), ([(58, 1)], 0), ([(59, 1)], 0), ([(60, 1)], 0), ([(61, 1)], 0), ([(62, 1)], 0)], [], [.inr (.inr (.inl (0, 0, [([(16, 1)], 0), ([(17, 1)], 0), ([(18, 1)], 0), ([(19, 1)], 0), ([(20, 1)], 0), ([(21, 1)], 0), ([(22, 1)], 0), ([(23, 1)], 0), ([(24, 1)], 0), ([(25, 1)], 0), ([(26, 1)], 0), ([(27, 1)], 0), ([(28, 1)], 0), ([(29, 1)], 0), ([(30, 1)], 0), ([(31, 1)], 0), ([(32, 1)], 0), ([(2, 1)], 0), ([(3, 1)], 0), ([(46, 1)], 0), ([(47, 1)], 0), ([(48, 1)], 0), ([(49, 1)], 0), ([(50, 1)], 0), ([(51, 1)], 0), ([(52, 1)], 0), ([(53, 1)], 0), ([(54, 1)], 0), ([(55, 1)], 0), ([(56, 1)], 0), ([(57, 1)], 0), ([(58, 1)], 0), ([(59, 1)], 0), ([(60, 1)], 0), ([(61, 1)], 0), ([(62, 1)], 0)], [7, 8, 9, 10, 11, 12, 13, 14, 15, 16, 17, 1, 2, 3, 4, 18], [10, 16, 17]))), .inr (.inr (.inl (306, 1, [([(1, 1)], 0), ([(2, 1)], 0), ([(3, 1)], 0), ([(4, 1)], 0), ([(5, 1)], 0), ([(6, 1)], 0), ([(7, 1)], 0), ([(8, 1)], 0), ([(9, 1)], 0), ([(10, 1)], 0), ([(11, 1)], 0), ([(12, 1)], 0), ([(13, 1)], 0), ([(14, 1)], 0), ([(15, 1)], 0), ([(33, 1)], 0), ([(34, 1)], 0), ([(35, 1)], 0), ([(36, 1)], 0), ([(37, 1)], 0), ([(38, 1)], 0), ([(39, 1)], 0), ([(40, 1)], 0), ([(41, 1)], 0), ([(42, 1)], 0), ([(43, 1)], 0), ([(44, 1)], 0), ([(45, 1)], 0)], [0, 1, 2, 3, 4, 5, 6, 18, 19, 20, 21, 22, 23, 24, 25, 7, 26, 27, 28, 29], [])))]) := by
  intro g0 r gi g hok hh hars hfr hG
  have b33 : 0 ≤ r 33 ∧ r 33 ≤ 0 := hok.1 33 (0, 0) rfl
  have b34 : 0 ≤ r 34 ∧ r 34 ≤ 1 := hok.1 34 (0, 1) rfl
  have b35 : (-9223372036854775808) ≤ r 35 ∧ r 35 ≤ 9223372036854775807 := hok.1 35 ((-9223372036854775808), 9223372036854775807) rfl
  have b36 : (-9223372036854775808) ≤ r 36 ∧ r 36 ≤ 9223372036854775807 := hok.1 36 ((-9223372036854775808), 9223372036854775807) rfl
  have b37 : (-9223372036854775808) ≤ r 37 ∧ r 37 ≤ 9223372036854775807 := hok.1 37 ((-9223372036854775808), 9223372036854775807) rfl
  have b38 : 0 ≤ r 38 ∧ r 38 ≤ 40 := hok.1 38 (0, 40) rfl
  have b39 : (-2147483648) ≤ r 39 ∧ r 39 ≤ 2147483647 := hok.1 39 ((-2147483648), 2147483647) rfl
  have b40 : (-600) ≤ r 40 ∧ r 40 ≤ 600 := hok.1 40 ((-600), 600) rfl
  have b41 : (-600) ≤ r 41 ∧ r 41 ≤ 600 := hok.1 41 ((-600), 600) rfl
  have b42 : (-1000000) ≤ r 42 ∧ r 42 ≤ 1000000 := hok.1 42 ((-1000000), 1000000) rfl
  have b43 : (-1000000) ≤ r 43 ∧ r 43 ≤ 1000000 := hok.1 43 ((-1000000), 1000000) rfl
  have b44 : (-9223372036854775808) ≤ r 44 ∧ r 44 ≤ 9223372036854775807 := hok.1 44 ((-9223372036854775808), 9223372036854775807) rfl
  have b45 : (-9223372036854775808) ≤ r 45 ∧ r 45 ≤ 9223372036854775807 := hok.1 45 ((-9223372036854775808), 9223372036854775807) rfl
  have b46 : (-2147483648) ≤ r 46 ∧ r 46 ≤ 2147483647 := hok.1 46 ((-2147483648), 2147483647) rfl
  have b47 : 0 ≤ r 47 ∧ r 47 ≤ 4 := hok.1 47 (0, 4) rfl
  have b48 : 0 ≤ r 48 ∧ r 48 ≤ 40 := hok.1 48 (0, 40) rfl
  have b49 : 0 ≤ r 49 ∧ r 49 ≤ 40 := hok.1 49 (0, 40) rfl
  have b50 : (-2147483648) ≤ r 50 ∧ r 50 ≤ 2147483647 := hok.1 50 ((-2147483648), 2147483647) rfl
  have b51 : (-9223372036854775808) ≤ r 51 ∧ r 51 ≤ 9223372036854775807 := hok.1 51 ((-9223372036854775808), 9223372036854775807) rfl
  have b52 : (-9223372036854775808) ≤ r 52 ∧ r 52 ≤ 9223372036854775807 := hok.1 52 ((-9223372036854775808), 9223372036854775807) rfl
  have b53 : (-9223372036854775808) ≤ r 53 ∧ r 53 ≤ 9223372036854775807 := hok.1 53 ((-9223372036854775808), 9223372036854775807) rfl
  have b54 : (-9223372036854775808) ≤ r 54 ∧ r 54 ≤ 9223372036854775807 := hok.1 54 ((-9223372036854775808), 9223372036854775807) rfl
  have b55 : (-9223372036854775808) ≤ r 55 ∧ r 55 ≤ 9223372036854775807 := hok.1 55 ((-9223372036854775808), 9223372036854775807) rfl
  have b56 : (-9223372036854775808) ≤ r 56 ∧ r 56 ≤ 9223372036854775807 := hok.1 56 ((-9223372036854775808), 9223372036854775807) rfl
  have b57 : (-9223372036854775808) ≤ r 57 ∧ r 57 ≤ 9223372036854775807 := hok.1 57 ((-9223372036854775808), 9223372036854775807) rfl
  have b58 : (-9223372036854775808) ≤ r 58 ∧ r 58 ≤ 9223372036854775807 := hok.1 58 ((-9223372036854775808), 9223372036854775807) rfl
  have b59 : (-9223372036854775808) ≤ r 59 ∧ r 59 ≤ 9223372036854775807 := hok.1 59 ((-9223372036854775808), 9223372036854775807) rfl
  have b60 : (-9223372036854775808) ≤ r 60 ∧ r 60 ≤ 9223372036854775807 := hok.1 60 ((-9223372036854775808), 9223372036854775807) rfl
  have b61 : (-9223372036854775808) ≤ r 61 ∧ r 61 ≤ 9223372036854775807 := hok.1 61 ((-9223372036854775808), 9223372036854775807) rfl
  have b62 : (-9223372036854775808) ≤ r 62 ∧ r 62 ≤ 9223372036854775807 := hok.1 62 ((-9223372036854775808), 9223372036854775807) rfl
  obtain ⟨hG, hgi⟩ := hG
  have hG : True := hG
  obtain ⟨h0, hh, e0, k0⟩ := hh
  have k0 : ∀ j, j ∉ [10, 16, 17] → g j = h0 j := k0
  obtain ⟨h1, hh, e1, k1⟩ := hh
  have k1 : ∀ j, j ∉ [] → h0 j = h1 j := k1
  have e1 : ye_bo (h1 4) (((1 * ((1 * r 2 + 0) + 0) + 0) + 0)).toNat ∧ (ye_fd (h1 2) (h1 3) (h1 4) (((1 * ((1 * r 2 + 0) + 0) + 0) + 0)).toNat ((1 * ((1 * r 3 + 0) + 0) + 0) + 0) ((1 * ((1 * r 9 + 0) + 0) + 0) + 0) (((1 * ((1 * r 4 + 0) + 0) + 0) + 0), ((1 * ((1 * r 10 + 0) + 0) + 0) + 0), ((1 * ((1 * r 11 + 0) + 0) + 0) + 0), ((1 * ((1 * r 12 + 0) + 0) + 0) + 0), ((1 * ((1 * r 13 + 0) + 0) + 0) + 0)) ((1 * ((1 * r 39 + 0) + 0) + 0) + 0) (((1 * ((1 * r 34 + 0) + 0) + 0) + 0), ((1 * ((1 * r 40 + 0) + 0) + 0) + 0), ((1 * ((1 * r 41 + 0) + 0) + 0) + 0), ((1 * ((1 * r 42 + 0) + 0) + 0) + 0), ((1 * ((1 * r 43 + 0) + 0) + 0) + 0)) ∧ ye_fo (h1 2) (h1 3) (((1 * ((1 * r 2 + 0) + 0) + 0) + 0)).toNat ((1 * ((1 * r 3 + 0) + 0) + 0) + 0) ((1 * ((1 * r 9 + 0) + 0) + 0) + 0) (((1 * ((1 * r 14 + 0) + 0) + 0) + 0), ((1 * ((1 * r 15 + 0) + 0) + 0) + 0), ((1 * ((1 * r 5 + 0) + 0) + 0) + 0), ((1 * ((1 * r 6 + 0) + 0) + 0) + 0), ((1 * ((1 * r 7 + 0) + 0) + 0) + 0), ((1 * ((1 * r 8 + 0) + 0) + 0) + 0)) (((1 * ((1 * r 34 + 0) + 0) + 0) + 0), ((1 * ((1 * r 40 + 0) + 0) + 0) + 0), ((1 * ((1 * r 41 + 0) + 0) + 0) + 0), ((1 * ((1 * r 42 + 0) + 0) + 0) + 0), ((1 * ((1 * r 43 + 0) + 0) + 0) + 0)) (((1 * ((1 * r 44 + 0) + 0) + 0) + 0), ((1 * ((1 * r 45 + 0) + 0) + 0) + 0), ((1 * ((1 * r 35 + 0) + 0) + 0) + 0), ((1 * ((1 * r 36 + 0) + 0) + 0) + 0), ((1 * ((1 * r 37 + 0) + 0) + 0) + 0), ((1 * ((1 * r 38 + 0) + 0) + 0) + 0))) ∧ ((1 * r 33 + 0) + 0) = ((1 * ((1 * r 34 + 0) + 0) + 0) + 0) := e1
  have hh : h1 = gi := hh
  subst hh
  refine yt_dalt (by decide) (by decide) ?_
  rw [show xk_120.2.1.2.1.1.length = 33 from rfl]
  show (((1 * ((1 * r 39 + 0) + 0) + 0) + 0) = ((1 * ((1 * r 9 + 0) + 0) + 0) + 0) ∧ (((1 * ((1 * r 34 + 0) + 0) + 0) + 0), ((1 * ((1 * r 40 + 0) + 0) + 0) + 0), ((1 * ((1 * r 41 + 0) + 0) + 0) + 0), ((1 * ((1 * r 42 + 0) + 0) + 0) + 0), ((1 * ((1 * r 43 + 0) + 0) + 0) + 0)) = (((1 * ((1 * r 4 + 0) + 0) + 0) + 0), ((1 * ((1 * r 10 + 0) + 0) + 0) + 0), ((1 * ((1 * r 11 + 0) + 0) + 0) + 0), ((1 * ((1 * r 12 + 0) + 0) + 0) + 0), ((1 * ((1 * r 13 + 0) + 0) + 0) + 0)) ∧ (((1 * ((1 * r 44 + 0) + 0) + 0) + 0), ((1 * ((1 * r 45 + 0) + 0) + 0) + 0), ((1 * ((1 * r 35 + 0) + 0) + 0) + 0), ((1 * ((1 * r 36 + 0) + 0) + 0) + 0), ((1 * ((1 * r 37 + 0) + 0) + 0) + 0), ((1 * ((1 * r 38 + 0) + 0) + 0) + 0)) = (((1 * ((1 * r 14 + 0) + 0) + 0) + 0), ((1 * ((1 * r 15 + 0) + 0) + 0) + 0), ((1 * ((1 * r 5 + 0) + 0) + 0) + 0), ((1 * ((1 * r 6 + 0) + 0) + 0) + 0), ((1 * ((1 * r 7 + 0) + 0) + 0) + 0), ((1 * ((1 * r 8 + 0) + 0) + 0) + 0))) ∨ (ye_fd (g0 2) (g0 3) (g0 4) (((1 * ((1 * r 2 + 0) + 0) + 0) + 0)).toNat ((1 * ((1 * r 3 + 0) + 0) + 0) + 0) ((1 * ((1 * r 9 + 0) + 0) + 0) + 0) (((1 * ((1 * r 4 + 0) + 0) + 0) + 0), ((1 * ((1 * r 10 + 0) + 0) + 0) + 0), ((1 * ((1 * r 11 + 0) + 0) + 0) + 0), ((1 * ((1 * r 12 + 0) + 0) + 0) + 0), ((1 * ((1 * r 13 + 0) + 0) + 0) + 0)) ((1 * ((1 * r 39 + 0) + 0) + 0) + 0) (((1 * ((1 * r 34 + 0) + 0) + 0) + 0), ((1 * ((1 * r 40 + 0) + 0) + 0) + 0), ((1 * ((1 * r 41 + 0) + 0) + 0) + 0), ((1 * ((1 * r 42 + 0) + 0) + 0) + 0), ((1 * ((1 * r 43 + 0) + 0) + 0) + 0)) ∧ ye_fo (g0 2) (g0 3) (((1 * ((1 * r 2 + 0) + 0) + 0) + 0)).toNat ((1 * ((1 * r 3 + 0) + 0) + 0) + 0) ((1 * ((1 * r 9 + 0) + 0) + 0) + 0) (((1 * ((1 * r 14 + 0) + 0) + 0) + 0), ((1 * ((1 * r 15 + 0) + 0) + 0) + 0), ((1 * ((1 * r 5 + 0) + 0) + 0) + 0), ((1 * ((1 * r 6 + 0) + 0) + 0) + 0), ((1 * ((1 * r 7 + 0) + 0) + 0) + 0), ((1 * ((1 * r 8 + 0) + 0) + 0) + 0)) (((1 * ((1 * r 34 + 0) + 0) + 0) + 0), ((1 * ((1 * r 40 + 0) + 0) + 0) + 0), ((1 * ((1 * r 41 + 0) + 0) + 0) + 0), ((1 * ((1 * r 42 + 0) + 0) + 0) + 0), ((1 * ((1 * r 43 + 0) + 0) + 0) + 0)) (((1 * ((1 * r 44 + 0) + 0) + 0) + 0), ((1 * ((1 * r 45 + 0) + 0) + 0) + 0), ((1 * ((1 * r 35 + 0) + 0) + 0) + 0), ((1 * ((1 * r 36 + 0) + 0) + 0) + 0), ((1 * ((1 * r 37 + 0) + 0) + 0) + 0), ((1 * ((1 * r 38 + 0) + 0) + 0) + 0)))
  try simp only [Int.one_mul, Int.zero_add, Int.add_zero]
  try simp only [Int.one_mul, Int.zero_add, Int.add_zero] at e1
  rw [hgi] at e1
  exact Or.inr e1.2.1
theorem xw_120_0_8 : yt_hold xT_120 xk_120 xq_120.2.2.1 xG_120 xP_120 xU_120 33 xk_120.2.1.2.2.2 (fun g0 r g => xR_120 r g0 ∧ g = g0) (1000, ([((-2147483648), 2147483647), ((-2147483648), 2147483647), (2, 40), ((-2147483648), 2147483647), (0, 1), ((-9223372036854775808), 9223372036854775807), ((-9223372036854775808), 9223372036854775807), ((-9223372036854775808), 9223372036854775807), (0, 40), ((-2147483648), 2147483647), ((-600), 600), ((-600), 600), ((-1000000), 1000000), ((-1000000), 1000000), ((-9223372036854775808), 9223372036854775807), ((-9223372036854775808), 9223372036854775807), ((-2147483648), 2147483647), (0, 4), (0, 40), (0, 40), ((-2147483648), 2147483647), ((-9223372036854775808), 9223372036854775807), ((-9223372036854775808), 9223372036854775807), ((-9223372036854775808), 9223372036854775807), ((-9223372036854775808), 9223372036854775807), ((-9223372036854775808), 9223372036854775807), ((-9223372036854775808), 9223372036854775807), ((-9223372036854775808), 9223372036854775807), ((-9223372036854775808), 9223372036854775807), ((-9223372036854775808), 9223372036854775807), ((-9223372036854775808), 9223372036854775807), ((-9223372036854775808), 9223372036854775807), ((-9223372036854775808), 9223372036854775807), (0, 0), (0, 1), ((-9223372036854775808), 9223372036854775807), ((-9223372036854775808), 9223372036854775807), ((-9223372036854775808), 9223372036854775807), (0, 40), ((-2147483648), 2147483647), ((-600), 600), ((-600), 600), ((-1000000), 1000000), ((-1000000), 1000000), ((-9223372036854775808), 9223372036854775807), ((-9223372036854775808), 9223372036854775807), ((-2147483648), 2147483647), (0, 4), (0, 40), (0, 40), ((-2147483648), 2147483647), ((-9223372036854775808), 9223372036854775807), ((-9223372036854775808), 9223372036854775807), ((-9223372036854775808), 9223372036854775807), ((-9223372036854775808), 9223372036854775807), ((-9223372036854775808), 9223372036854775807), ((-9223372036854775808), 9223372036854775807), ((-9223372036854775808), 9223372036854775807), ((-9223372036854775808), 9223372036854775807), ((-9223372036854775808), 9223372036854775807), ((-9223372036854775808), 9223372036854775807), ((-9223372036854775808), 9223372036854775807), ((-9223372036854775808), 9223372036854775807), ((-2147483648), 2147483647), ((-2147483648), 2147483647), ((-9223372036854775808), 9223372036854775807)], []), [([(65, 1)], 0), ([(34, 1)], 0), ([(35, 1)], 0), ([(36, 1)], 0), ([(37, 1)], 0), ([(38, 1)], 0), ([(39, 1)], 0), ([(40, 1)], 0), ([(41, 1)], 0), ([(42, 1)], 0), ([(43, 1)], 0), ([(44, 1)], 0), ([(45, 1)], 0), ([(46, 1)], 0), ([(47, 1)], 0), ([(48, 1)], 0), ([(49, 1)], 0), ([(50, 1)], 0), ([(51, 1)], 0), ([(52, 1)], 0), ([(53, 1)], 0), ([(54, 1)], 0), ([(55, 1)], 0), ([(56, 1)], 0), ([(57, 1)], 0), ([(58, 1)], 0), ([(59, 1)], 0), ([(60, 1)], 0), ([(61, 1)], 0), ([(62, 1)], 0)], [], [.inr (.inr (.inl (0, 0, [([(16, 1)], 0), ([(17, 1)], 0), ([(18, 1)], 0), ([(19, 1)], 0), ([(20, 1)], 0), ([(21, 1)], 0), ([(22, 1)], 0), ([(23, 1)], 0), ([(24, 1)], 0), ([(25, 1)], 0), ([(26, 1)], 0), ([(27, 1)], 0), ([(28, 1)], 0), ([(29, 1)], 0), ([(30, 1)], 0), ([(31, 1)], 0), ([(32, 1)], 0), ([(2, 1)], 0), ([(3, 1)], 0), ([(46, 1)], 0), ([(47, 1)], 0), ([(48, 1)], 0), ([(49, 1)], 0), ([(50, 1)], 0), ([(51, 1)], 0), ([(52, 1)], 0), ([(53, 1)], 0), ([(54, 1)], 0), ([(55, 1)], 0), ([(56, 1)], 0), ([(57, 1)], 0), ([(58, 1)], 0), ([(59, 1)], 0), ([(60, 1)], 0), ([(61, 1)], 0), ([(62, 1)], 0)], [7, 8, 9, 10, 11, 12, 13, 14, 15, 16, 17, 1, 2, 3, 4, 18], [10, 16, 17]))), .inr (.inr (.inl (306, 1, [([(1, 1)], 0), ([(2, 1)], 0), ([(3, 1)], 0), ([(4, 1)], 0), ([(5, 1)], 0), ([(6, 1)], 0), ([(7, 1)], 0), ([(8, 1)], 0), ([(9, 1)], 0), ([(10, 1)], 0), ([(11, 1)], 0), ([(12, 1)], 0), ([(13, 1)], 0), ([(14, 1)], 0), ([(15, 1)], 0), ([(33, 1)], 0), ([(34, 1)], 0), ([(35, 1)], 0), ([(36, 1)], 0), ([(37, 1)], 0), ([(38, 1)], 0), ([(39, 1)], 0), ([(40, 1)], 0), ([(41, 1)], 0), ([(42, 1)], 0), ([(43, 1)], 0), ([(44, 1)], 0), ([(45, 1)], 0)], [0, 1, 2, 3, 4, 5, 6, 18, 19, 20, 21, 22, 23, 24, 25, 7, 26, 27, 28, 29], [])))]) := by
  intro g0 r gi g hok hh hars hfr hG
  have b33 : 0 ≤ r 33 ∧ r 33 ≤ 0 := hok.1 33 (0, 0) rfl
  have b34 : 0 ≤ r 34 ∧ r 34 ≤ 1 := hok.1 34 (0, 1) rfl
  have b35 : (-9223372036854775808) ≤ r 35 ∧ r 35 ≤ 9223372036854775807 := hok.1 35 ((-9223372036854775808), 9223372036854775807) rfl
  have b36 : (-9223372036854775808) ≤ r 36 ∧ r 36 ≤ 9223372036854775807 := hok.1 36 ((-9223372036854775808), 9223372036854775807) rfl
  have b37 : (-9223372036854775808) ≤ r 37 ∧ r 37 ≤ 9223372036854775807 := hok.1 37 ((-9223372036854775808), 9223372036854775807) rfl
  have b38 : 0 ≤ r 38 ∧ r 38 ≤ 40 := hok.1 38 (0, 40) rfl
  have b39 : (-2147483648) ≤ r 39 ∧ r 39 ≤ 2147483647 := hok.1 39 ((-2147483648), 2147483647) rfl
  have b40 : (-600) ≤ r 40 ∧ r 40 ≤ 600 := hok.1 40 ((-600), 600) rfl
  have b41 : (-600) ≤ r 41 ∧ r 41 ≤ 600 := hok.1 41 ((-600), 600) rfl
  have b42 : (-1000000) ≤ r 42 ∧ r 42 ≤ 1000000 := hok.1 42 ((-1000000), 1000000) rfl
  have b43 : (-1000000) ≤ r 43 ∧ r 43 ≤ 1000000 := hok.1 43 ((-1000000), 1000000) rfl
  have b44 : (-9223372036854775808) ≤ r 44 ∧ r 44 ≤ 9223372036854775807 := hok.1 44 ((-9223372036854775808), 9223372036854775807) rfl
  have b45 : (-9223372036854775808) ≤ r 45 ∧ r 45 ≤ 9223372036854775807 := hok.1 45 ((-9223372036854775808), 9223372036854775807) rfl
  have b46 : (-2147483648) ≤ r 46 ∧ r 46 ≤ 2147483647 := hok.1 46 ((-2147483648), 2147483647) rfl
  have b47 : 0 ≤ r 47 ∧ r 47 ≤ 4 := hok.1 47 (0, 4) rfl
  have b48 : 0 ≤ r 48 ∧ r 48 ≤ 40 := hok.1 48 (0, 40) rfl
  have b49 : 0 ≤ r 49 ∧ r 49 ≤ 40 := hok.1 49 (0, 40) rfl
  have b50 : (-2147483648) ≤ r 50 ∧ r 50 ≤ 2147483647 := hok.1 50 ((-2147483648), 2147483647) rfl
  have b51 : (-9223372036854775808) ≤ r 51 ∧ r 51 ≤ 9223372036854775807 := hok.1 51 ((-9223372036854775808), 9223372036854775807) rfl
  have b52 : (-9223372036854775808) ≤ r 52 ∧ r 52 ≤ 9223372036854775807 := hok.1 52 ((-9223372036854775808), 9223372036854775807) rfl
  have b53 : (-9223372036854775808) ≤ r 53 ∧ r 53 ≤ 9223372036854775807 := hok.1 53 ((-9223372036854775808), 9223372036854775807) rfl
  have b54 : (-9223372036854775808) ≤ r 54 ∧ r 54 ≤ 9223372036854775807 := hok.1 54 ((-9223372036854775808), 9223372036854775807) rfl
  have b55 : (-9223372036854775808) ≤ r 55 ∧ r 55 ≤ 9223372036854775807 := hok.1 55 ((-9223372036854775808), 9223372036854775807) rfl
  have b56 : (-9223372036854775808) ≤ r 56 ∧ r 56 ≤ 9223372036854775807 := hok.1 56 ((-9223372036854775808), 9223372036854775807) rfl
  have b57 : (-9223372036854775808) ≤ r 57 ∧ r 57 ≤ 9223372036854775807 := hok.1 57 ((-9223372036854775808), 9223372036854775807) rfl
  have b58 : (-9223372036854775808) ≤ r 58 ∧ r 58 ≤ 9223372036854775807 := hok.1 58 ((-9223372036854775808), 9223372036854775807) rfl
  have b59 : (-9223372036854775808) ≤ r 59 ∧ r 59 ≤ 9223372036854775807 := hok.1 59 ((-9223372036854775808), 9223372036854775807) rfl
  have b60 : (-9223372036854775808) ≤ r 60 ∧ r 60 ≤ 9223372036854775807 := hok.1 60 ((-9223372036854775808), 9223372036854775807) rfl
  have b61 : (-9223372036854775808) ≤ r 61 ∧ r 61 ≤ 9223372036854775807 := hok.1 61 ((-9223372036854775808), 9223372036854775807) rfl
  have b62 : (-9223372036854775808) ≤ r 62 ∧ r 62 ≤ 9223372036854775807 := hok.1 62 ((-9223372036854775808), 9223372036854775807) rfl
  have b63 : (-2147483648) ≤ r 63 ∧ r 63 ≤ 2147483647 := hok.1 63 ((-2147483648), 2147483647) rfl
  have b64 : (-2147483648) ≤ r 64 ∧ r 64 ≤ 2147483647 := hok.1 64 ((-2147483648), 2147483647) rfl
  have b65 : (-9223372036854775808) ≤ r 65 ∧ r 65 ≤ 9223372036854775807 := hok.1 65 ((-9223372036854775808), 9223372036854775807) rfl
  obtain ⟨hG, hgi⟩ := hG
  have hG : True := hG
  obtain ⟨h0, hh, e0, k0⟩ := hh
  have k0 : ∀ j, j ∉ [10, 16, 17] → g j = h0 j := k0
  obtain ⟨h1, hh, e1, k1⟩ := hh
  have k1 : ∀ j, j ∉ [] → h0 j = h1 j := k1
  have e1 : ye_bo (h1 4) (((1 * ((1 * r 2 + 0) + 0) + 0) + 0)).toNat ∧ (ye_fd (h1 2) (h1 3) (h1 4) (((1 * ((1 * r 2 + 0) + 0) + 0) + 0)).toNat ((1 * ((1 * r 3 + 0) + 0) + 0) + 0) ((1 * ((1 * r 9 + 0) + 0) + 0) + 0) (((1 * ((1 * r 4 + 0) + 0) + 0) + 0), ((1 * ((1 * r 10 + 0) + 0) + 0) + 0), ((1 * ((1 * r 11 + 0) + 0) + 0) + 0), ((1 * ((1 * r 12 + 0) + 0) + 0) + 0), ((1 * ((1 * r 13 + 0) + 0) + 0) + 0)) ((1 * ((1 * r 39 + 0) + 0) + 0) + 0) (((1 * ((1 * r 34 + 0) + 0) + 0) + 0), ((1 * ((1 * r 40 + 0) + 0) + 0) + 0), ((1 * ((1 * r 41 + 0) + 0) + 0) + 0), ((1 * ((1 * r 42 + 0) + 0) + 0) + 0), ((1 * ((1 * r 43 + 0) + 0) + 0) + 0)) ∧ ye_fo (h1 2) (h1 3) (((1 * ((1 * r 2 + 0) + 0) + 0) + 0)).toNat ((1 * ((1 * r 3 + 0) + 0) + 0) + 0) ((1 * ((1 * r 9 + 0) + 0) + 0) + 0) (((1 * ((1 * r 14 + 0) + 0) + 0) + 0), ((1 * ((1 * r 15 + 0) + 0) + 0) + 0), ((1 * ((1 * r 5 + 0) + 0) + 0) + 0), ((1 * ((1 * r 6 + 0) + 0) + 0) + 0), ((1 * ((1 * r 7 + 0) + 0) + 0) + 0), ((1 * ((1 * r 8 + 0) + 0) + 0) + 0)) (((1 * ((1 * r 34 + 0) + 0) + 0) + 0), ((1 * ((1 * r 40 + 0) + 0) + 0) + 0), ((1 * ((1 * r 41 + 0) + 0) + 0) + 0), ((1 * ((1 * r 42 + 0) + 0) + 0) + 0), ((1 * ((1 * r 43 + 0) + 0) + 0) + 0)) (((1 * ((1 * r 44 + 0) + 0) + 0) + 0), ((1 * ((1 * r 45 + 0) + 0) + 0) + 0), ((1 * ((1 * r 35 + 0) + 0) + 0) + 0), ((1 * ((1 * r 36 + 0) + 0) + 0) + 0), ((1 * ((1 * r 37 + 0) + 0) + 0) + 0), ((1 * ((1 * r 38 + 0) + 0) + 0) + 0))) ∧ ((1 * r 33 + 0) + 0) = ((1 * ((1 * r 34 + 0) + 0) + 0) + 0) := e1
  have hh : h1 = gi := hh
  subst hh
  refine yt_dalt (by decide) (by decide) ?_
  rw [show xk_120.2.1.2.1.1.length = 33 from rfl]
  show (((1 * ((1 * r 39 + 0) + 0) + 0) + 0) = ((1 * ((1 * r 9 + 0) + 0) + 0) + 0) ∧ (((1 * ((1 * r 34 + 0) + 0) + 0) + 0), ((1 * ((1 * r 40 + 0) + 0) + 0) + 0), ((1 * ((1 * r 41 + 0) + 0) + 0) + 0), ((1 * ((1 * r 42 + 0) + 0) + 0) + 0), ((1 * ((1 * r 43 + 0) + 0) + 0) + 0)) = (((1 * ((1 * r 4 + 0) + 0) + 0) + 0), ((1 * ((1 * r 10 + 0) + 0) + 0) + 0), ((1 * ((1 * r 11 + 0) + 0) + 0) + 0), ((1 * ((1 * r 12 + 0) + 0) + 0) + 0), ((1 * ((1 * r 13 + 0) + 0) + 0) + 0)) ∧ (((1 * ((1 * r 44 + 0) + 0) + 0) + 0), ((1 * ((1 * r 45 + 0) + 0) + 0) + 0), ((1 * ((1 * r 35 + 0) + 0) + 0) + 0), ((1 * ((1 * r 36 + 0) + 0) + 0) + 0), ((1 * ((1 * r 37 + 0) + 0) + 0) + 0), ((1 * ((1 * r 38 + 0) + 0) + 0) + 0)) = (((1 * ((1 * r 14 + 0) + 0) + 0) + 0), ((1 * ((1 * r 15 + 0) + 0) + 0) + 0), ((1 * ((1 * r 5 + 0) + 0) + 0) + 0), ((1 * ((1 * r 6 + 0) + 0) + 0) + 0), ((1 * ((1 * r 7 + 0) + 0) + 0) + 0), ((1 * ((1 * r 8 + 0) + 0) + 0) + 0))) ∨ (ye_fd (g0 2) (g0 3) (g0 4) (((1 * ((1 * r 2 + 0) + 0) + 0) + 0)).toNat ((1 * ((1 * r 3 + 0) + 0) + 0) + 0) ((1 * ((1 * r 9 + 0) + 0) + 0) + 0) (((1 * ((1 * r 4 + 0) + 0) + 0) + 0), ((1 * ((1 * r 10 + 0) + 0) + 0) + 0), ((1 * ((1 * r 11 + 0) + 0) + 0) + 0), ((1 * ((1 * r 12 + 0) + 0) + 0) + 0), ((1 * ((1 * r 13 + 0) + 0) + 0) + 0)) ((1 * ((1 * r 39 + 0) + 0) + 0) + 0) (((1 * ((1 * r 34 + 0) + 0) + 0) + 0), ((1 * ((1 * r 40 + 0) + 0) + 0) + 0), ((1 * ((1 * r 41 + 0) + 0) + 0) + 0), ((1 * ((1 * r 42 + 0) + 0) + 0) + 0), ((1 * ((1 * r 43 + 0) + 0) + 0) + 0)) ∧ ye_fo (g0 2) (g0 3) (((1 * ((1 * r 2 + 0) + 0) + 0) + 0)).toNat ((1 * ((1 * r 3 + 0) + 0) + 0) + 0) ((1 * ((1 * r 9 + 0) + 0) + 0) + 0) (((1 * ((1 * r 14 + 0) + 0) + 0) + 0), ((1 * ((1 * r 15 + 0) + 0) + 0) + 0), ((1 * ((1 * r 5 + 0) + 0) + 0) + 0), ((1 * ((1 * r 6 + 0) + 0) + 0) + 0), ((1 * ((1 * r 7 + 0) + 0) + 0) + 0), ((1 * ((1 * r 8 + 0) + 0) + 0) + 0)) (((1 * ((1 * r 34 + 0) + 0) + 0) + 0), ((1 * ((1 * r 40 + 0) + 0) + 0) + 0), ((1 * ((1 * r 41 + 0) + 0) + 0) + 0), ((1 * ((1 * r 42 + 0) + 0) + 0) + 0), ((1 * ((1 * r 43 + 0) + 0) + 0) + 0)) (((1 * ((1 * r 44 + 0) + 0) + 0) + 0), ((1 * ((1 * r 45 + 0) + 0) + 0) + 0), ((1 * ((1 * r 35 + 0) + 0) + 0) + 0), ((1 * ((1 * r 36 + 0) + 0) + 0) + 0), ((1 * ((1 * r 37 + 0) + 0) + 0) + 0), ((1 * ((1 * r 38 + 0) + 0) + 0) + 0)))
  try simp only [Int.one_mul, Int.zero_add, Int.add_zero]
  try simp only [Int.one_mul, Int.zero_add, Int.add_zero] at e1
  rw [hgi] at e1
  exact Or.inr e1.2.1
theorem xw_120_0_9 : yt_hold xT_120 xk_120 xq_120.2.2.1 xG_120 xP_120 xU_120 33 xk_120.2.1.2.2.2 (fun g0 r g => xR_120 r g0 ∧ g = g0) (1000, ([((-2147483648), 2147483647), ((-2147483648), 2147483647), (2, 40), ((-2147483648), 2147483647), (0, 1), ((-9223372036854775808), 9223372036854775807), ((-9223372036854775808), 9223372036854775807), ((-9223372036854775808), 9223372036854775807), (0, 40), ((-2147483648), 2147483647), ((-600), 600), ((-600), 600), ((-1000000), 1000000), ((-1000000), 1000000), ((-9223372036854775808), 9223372036854775807), ((-9223372036854775808), 9223372036854775807), ((-2147483648), 2147483647), (0, 4), (0, 40), (0, 40), ((-2147483648), 2147483647), ((-9223372036854775808), 9223372036854775807), ((-9223372036854775808), 9223372036854775807), ((-9223372036854775808), 9223372036854775807), ((-9223372036854775808), 9223372036854775807), ((-9223372036854775808), 9223372036854775807), ((-9223372036854775808), 9223372036854775807), ((-9223372036854775808), 9223372036854775807), ((-9223372036854775808), 9223372036854775807), ((-9223372036854775808), 9223372036854775807), ((-9223372036854775808), 9223372036854775807), ((-9223372036854775808), 9223372036854775807), ((-9223372036854775808), 9223372036854775807), (1, 1), (0, 1), ((-9223372036854775808), 9223372036854775807), ((-9223372036854775808), 9223372036854775807), ((-9223372036854775808), 9223372036854775807), (0, 40), ((-2147483648), 2147483647), ((-600), 600), ((-600), 600), ((-1000000), 1000000), ((-1000000), 1000000), ((-9223372036854775808), 9223372036854775807), ((-9223372036854775808), 9223372036854775807)], []), [([], (-6)), ([(34, 1)], 0), ([(35, 1)], 0), ([(36, 1)], 0), ([(37, 1)], 0), ([(38, 1)], 0), ([(39, 1)], 0), ([(40, 1)], 0), ([(41, 1)], 0), ([(42, 1)], 0), ([(43, 1)], 0), ([(44, 1)], 0), ([(45, 1)], 0), ([(16, 1)], 0), ([(17, 1)], 0), ([(18, 1)], 0), ([(19, 1)], 0), ([(20, 1)], 0), ([(21, 1)], 0), ([(22, 1)], 0), ([(23, 1)], 0), ([(24, 1)], 0), ([(25, 1)], 0), ([(26, 1)], 0), ([(27, 1)], 0), ([(28, 1)], 0), ([(29, 1)], 0), ([(30, 1)], 0), ([(31, 1)], 0), ([(32, 1)], 0)], [], [.inr (.inr (.inl (306, 1, [([(1, 1)], 0), ([(2, 1)], 0), ([(3, 1)], 0), ([(4, 1)], 0), ([(5, 1)], 0), ([(6, 1)], 0), ([(7, 1)], 0), ([(8, 1)], 0), ([(9, 1)], 0), ([(10, 1)], 0), ([(11, 1)], 0), ([(12, 1)], 0), ([(13, 1)], 0), ([(14, 1)], 0), ([(15, 1)], 0), ([(33, 1)], 0), ([(34, 1)], 0), ([(35, 1)], 0), ([(36, 1)], 0), ([(37, 1)], 0), ([(38, 1)], 0), ([(39, 1)], 0), ([(40, 1)], 0), ([(41, 1)], 0), ([(42, 1)], 0), ([(43, 1)], 0), ([(44, 1)], 0), ([(45, 1)], 0)], [0, 1, 2, 3, 4, 5, 6, 18, 19, 20, 21, 22, 23, 24, 25, 7, 26, 27, 28, 29], [])))]) := by
  intro g0 r gi g hok hh hars hfr hG
  have b33 : 1 ≤ r 33 ∧ r 33 ≤ 1 := hok.1 33 (1, 1) rfl
  have b34 : 0 ≤ r 34 ∧ r 34 ≤ 1 := hok.1 34 (0, 1) rfl
  have b35 : (-9223372036854775808) ≤ r 35 ∧ r 35 ≤ 9223372036854775807 := hok.1 35 ((-9223372036854775808), 9223372036854775807) rfl
  have b36 : (-9223372036854775808) ≤ r 36 ∧ r 36 ≤ 9223372036854775807 := hok.1 36 ((-9223372036854775808), 9223372036854775807) rfl
  have b37 : (-9223372036854775808) ≤ r 37 ∧ r 37 ≤ 9223372036854775807 := hok.1 37 ((-9223372036854775808), 9223372036854775807) rfl
  have b38 : 0 ≤ r 38 ∧ r 38 ≤ 40 := hok.1 38 (0, 40) rfl
  have b39 : (-2147483648) ≤ r 39 ∧ r 39 ≤ 2147483647 := hok.1 39 ((-2147483648), 2147483647) rfl
  have b40 : (-600) ≤ r 40 ∧ r 40 ≤ 600 := hok.1 40 ((-600), 600) rfl
  have b41 : (-600) ≤ r 41 ∧ r 41 ≤ 600 := hok.1 41 ((-600), 600) rfl
  have b42 : (-1000000) ≤ r 42 ∧ r 42 ≤ 1000000 := hok.1 42 ((-1000000), 1000000) rfl
  have b43 : (-1000000) ≤ r 43 ∧ r 43 ≤ 1000000 := hok.1 43 ((-1000000), 1000000) rfl
  have b44 : (-9223372036854775808) ≤ r 44 ∧ r 44 ≤ 9223372036854775807 := hok.1 44 ((-9223372036854775808), 9223372036854775807) rfl
  have b45 : (-9223372036854775808) ≤ r 45 ∧ r 45 ≤ 9223372036854775807 := hok.1 45 ((-9223372036854775808), 9223372036854775807) rfl
  obtain ⟨hG, hgi⟩ := hG
  have hG : True := hG
  obtain ⟨h0, hh, e0, k0⟩ := hh
  have k0 : ∀ j, j ∉ [] → g j = h0 j := k0
  have e0 : ye_bo (h0 4) (((1 * ((1 * r 2 + 0) + 0) + 0) + 0)).toNat ∧ (ye_fd (h0 2) (h0 3) (h0 4) (((1 * ((1 * r 2 + 0) + 0) + 0) + 0)).toNat ((1 * ((1 * r 3 + 0) + 0) + 0) + 0) ((1 * ((1 * r 9 + 0) + 0) + 0) + 0) (((1 * ((1 * r 4 + 0) + 0) + 0) + 0), ((1 * ((1 * r 10 + 0) + 0) + 0) + 0), ((1 * ((1 * r 11 + 0) + 0) + 0) + 0), ((1 * ((1 * r 12 + 0) + 0) + 0) + 0), ((1 * ((1 * r 13 + 0) + 0) + 0) + 0)) ((1 * ((1 * r 39 + 0) + 0) + 0) + 0) (((1 * ((1 * r 34 + 0) + 0) + 0) + 0), ((1 * ((1 * r 40 + 0) + 0) + 0) + 0), ((1 * ((1 * r 41 + 0) + 0) + 0) + 0), ((1 * ((1 * r 42 + 0) + 0) + 0) + 0), ((1 * ((1 * r 43 + 0) + 0) + 0) + 0)) ∧ ye_fo (h0 2) (h0 3) (((1 * ((1 * r 2 + 0) + 0) + 0) + 0)).toNat ((1 * ((1 * r 3 + 0) + 0) + 0) + 0) ((1 * ((1 * r 9 + 0) + 0) + 0) + 0) (((1 * ((1 * r 14 + 0) + 0) + 0) + 0), ((1 * ((1 * r 15 + 0) + 0) + 0) + 0), ((1 * ((1 * r 5 + 0) + 0) + 0) + 0), ((1 * ((1 * r 6 + 0) + 0) + 0) + 0), ((1 * ((1 * r 7 + 0) + 0) + 0) + 0), ((1 * ((1 * r 8 + 0) + 0) + 0) + 0)) (((1 * ((1 * r 34 + 0) + 0) + 0) + 0), ((1 * ((1 * r 40 + 0) + 0) + 0) + 0), ((1 * ((1 * r 41 + 0) + 0) + 0) + 0), ((1 * ((1 * r 42 + 0) + 0) + 0) + 0), ((1 * ((1 * r 43 + 0) + 0) + 0) + 0)) (((1 * ((1 * r 44 + 0) + 0) + 0) + 0), ((1 * ((1 * r 45 + 0) + 0) + 0) + 0), ((1 * ((1 * r 35 + 0) + 0) + 0) + 0), ((1 * ((1 * r 36 + 0) + 0) + 0) + 0), ((1 * ((1 * r 37 + 0) + 0) + 0) + 0), ((1 * ((1 * r 38 + 0) + 0) + 0) + 0))) ∧ ((1 * r 33 + 0) + 0) = ((1 * ((1 * r 34 + 0) + 0) + 0) + 0) := e0
  have hh : h0 = gi := hh
  subst hh
  refine yt_dalt (by decide) (by decide) ?_
  rw [show xk_120.2.1.2.1.1.length = 33 from rfl]
  show (((1 * ((1 * r 39 + 0) + 0) + 0) + 0) = ((1 * ((1 * r 9 + 0) + 0) + 0) + 0) ∧ (((1 * ((1 * r 34 + 0) + 0) + 0) + 0), ((1 * ((1 * r 40 + 0) + 0) + 0) + 0), ((1 * ((1 * r 41 + 0) + 0) + 0) + 0), ((1 * ((1 * r 42 + 0) + 0) + 0) + 0), ((1 * ((1 * r 43 + 0) + 0) + 0) + 0)) = (((1 * ((1 * r 4 + 0) + 0) + 0) + 0), ((1 * ((1 * r 10 + 0) + 0) + 0) + 0), ((1 * ((1 * r 11 + 0) + 0) + 0) + 0), ((1 * ((1 * r 12 + 0) + 0) + 0) + 0), ((1 * ((1 * r 13 + 0) + 0) + 0) + 0)) ∧ (((1 * ((1 * r 44 + 0) + 0) + 0) + 0), ((1 * ((1 * r 45 + 0) + 0) + 0) + 0), ((1 * ((1 * r 35 + 0) + 0) + 0) + 0), ((1 * ((1 * r 36 + 0) + 0) + 0) + 0), ((1 * ((1 * r 37 + 0) + 0) + 0) + 0), ((1 * ((1 * r 38 + 0) + 0) + 0) + 0)) = (((1 * ((1 * r 14 + 0) + 0) + 0) + 0), ((1 * ((1 * r 15 + 0) + 0) + 0) + 0), ((1 * ((1 * r 5 + 0) + 0) + 0) + 0), ((1 * ((1 * r 6 + 0) + 0) + 0) + 0), ((1 * ((1 * r 7 + 0) + 0) + 0) + 0), ((1 * ((1 * r 8 + 0) + 0) + 0) + 0))) ∨ (ye_fd (g0 2) (g0 3) (g0 4) (((1 * ((1 * r 2 + 0) + 0) + 0) + 0)).toNat ((1 * ((1 * r 3 + 0) + 0) + 0) + 0) ((1 * ((1 * r 9 + 0) + 0) + 0) + 0) (((1 * ((1 * r 4 + 0) + 0) + 0) + 0), ((1 * ((1 * r 10 + 0) + 0) + 0) + 0), ((1 * ((1 * r 11 + 0) + 0) + 0) + 0), ((1 * ((1 * r 12 + 0) + 0) + 0) + 0), ((1 * ((1 * r 13 + 0) + 0) + 0) + 0)) ((1 * ((1 * r 39 + 0) + 0) + 0) + 0) (((1 * ((1 * r 34 + 0) + 0) + 0) + 0), ((1 * ((1 * r 40 + 0) + 0) + 0) + 0), ((1 * ((1 * r 41 + 0) + 0) + 0) + 0), ((1 * ((1 * r 42 + 0) + 0) + 0) + 0), ((1 * ((1 * r 43 + 0) + 0) + 0) + 0)) ∧ ye_fo (g0 2) (g0 3) (((1 * ((1 * r 2 + 0) + 0) + 0) + 0)).toNat ((1 * ((1 * r 3 + 0) + 0) + 0) + 0) ((1 * ((1 * r 9 + 0) + 0) + 0) + 0) (((1 * ((1 * r 14 + 0) + 0) + 0) + 0), ((1 * ((1 * r 15 + 0) + 0) + 0) + 0), ((1 * ((1 * r 5 + 0) + 0) + 0) + 0), ((1 * ((1 * r 6 + 0) + 0) + 0) + 0), ((1 * ((1 * r 7 + 0) + 0) + 0) + 0), ((1 * ((1 * r 8 + 0) + 0) + 0) + 0)) (((1 * ((1 * r 34 + 0) + 0) + 0) + 0), ((1 * ((1 * r 40 + 0) + 0) + 0) + 0), ((1 * ((1 * r 41 + 0) + 0) + 0) + 0), ((1 * ((1 * r 42 + 0) + 0) + 0) + 0), ((1 * ((1 * r 43 + 0) + 0) + 0) + 0)) (((1 * ((1 * r 44 + 0) + 0) + 0) + 0), ((1 * ((1 * r 45 + 0) + 0) + 0) + 0), ((1 * ((1 * r 35 + 0) + 0) + 0) + 0), ((1 * ((1 * r 36 + 0) + 0) + 0) + 0), ((1 * ((1 * r 37 + 0) + 0) + 0) + 0), ((1 * ((1 * r 38 + 0) + 0) + 0) + 0)))
  try simp only [Int.one_mul, Int.zero_add, Int.add_zero]
  try simp only [Int.one_mul, Int.zero_add, Int.add_zero] at e0
  rw [hgi] at e0
  exact Or.inr e0.2.1
theorem xn_120 : ∀ (j : Nat) (q : Nat × yt_T), xq_120.2.2.1[j]? = some q → q.2.2.2 = false → ∀ g0 r g, xG_120 j g0 r g
  | n + 0, q, hq, _ => by cases hq
theorem xs_120 : ∀ j, xq_120.2.2.2.getD j false = false → ∀ r g g', xP_120 j r g g'
  | 0, hf => by cases hf
  | n + 1, _ => fun _ _ _ => trivial
theorem xc_120 {l : Launch} {D : va_G} {cT : Nat → ClassId} {tys : List (ClassId × FieldType)} (hty : yx_Ty tys cT) : yt_Con l D vwCl cT tys yG yw_s69 xk_120 xR_120 xP_120 := yx_sem (calls := xa_120) (Z := xq_120) (tb := xT_120) (pt := xU_120) (Ga := xG_120) (vs := xv_120) (fun _ _ _ _ => trivial) 300 (by decide +kernel) yz_X11_meet_ok hty (yl_lkX11 _) (yl_cqkX11 _) (List.forall_mem_cons.mpr ⟨⟨xc_80 hty, yg_CLs yl_wX11_226 yd_yX4_canTell, fun _ _ _ => trivial⟩, List.forall_mem_cons.mpr ⟨⟨xc_91 hty, yg_CLv rfl rfl rfl yl_wX11_184 yd_yX11_areParted, fun _ _ _ => trivial⟩, List.forall_mem_cons.mpr ⟨⟨xc_118 hty, yg_CLv rfl rfl rfl yl_wX11_231 yd_yX4_find, fun _ _ _ => trivial⟩, List.forall_mem_cons.mpr ⟨⟨xc_119 hty, yg_CLv rfl rfl rfl yl_wX11_242 yd_yX4_tellPoint, fun _ _ _ => trivial⟩, fun _ h => absurd h List.not_mem_nil⟩⟩⟩⟩) (xn_120) (xs_120) (by decide +kernel) (List.forall_mem_cons.mpr ⟨xw_120_0_0, List.forall_mem_cons.mpr ⟨xw_120_0_1, List.forall_mem_cons.mpr ⟨xw_120_0_2, List.forall_mem_cons.mpr ⟨xw_120_0_3, List.forall_mem_cons.mpr ⟨xw_120_0_4, List.forall_mem_cons.mpr ⟨xw_120_0_5, List.forall_mem_cons.mpr ⟨xw_120_0_6, List.forall_mem_cons.mpr ⟨xw_120_0_7, List.forall_mem_cons.mpr ⟨xw_120_0_8, List.forall_mem_cons.mpr ⟨xw_120_0_9, fun _ h => absurd h List.not_mem_nil⟩⟩⟩⟩⟩⟩⟩⟩⟩⟩) (trivial)
noncomputable def xf_121 : ys_F := (yw_f38 2, yw_r38)
noncomputable def xk_121 : ys_K := (((yX11_of, cX11_of, 3, (some .int)), (1, 21)), ([.inr (some 0), .inl (.inl ([(0, 1)], 0)), .inl (.inl ([(1, 1)], 0))], ([((-2147483648), 2147483647), ((-2147483648), 2147483647)] ++ yw_e38, []), xf_121), ([([((-1000), 1000)], [], (xf_121.1, xf_121.2), some (.inl (.inl ([(5, 1)], 0))))], []))
noncomputable def xq_121 : yt_Q := (yz_X11_of, (yl_flX11, yl_ciX11, yl_cjX11, yl_cpX11, yl_cqX11), [], [true])
noncomputable def xa_121 : List yt_CE := [(((118, false), (0, false, [1, 2, 3, 4, 5])), (yw_s36, xk_48))]
noncomputable def xv_121 : List (List yt_VC) := [[(1000, ([((-2147483648), (-1)), ((-2147483648), 2147483647), ((-2147483648), 2147483647), (0, 40), ((-2147483648), 2147483647)], []), [([], (-1000))], [], []),
   (1000, ([(0, 2147483647), ((-2147483648), 2147483647), ((-2147483648), 2147483647), (0, 40), ((-2147483648), 2147483647)], [([(3, (-1)), (0, 1)], 0)]), [([], (-1000))], [], []),
   (1000, ([(0, 39), ((-2147483648), (-1)), ((-2147483648), 2147483647), (1, 40), ((-2147483648), 2147483647)], [([(3, 1), (0, (-1))], (-1))]), [([], (-1000))], [], []),
   (1000, ([(0, 39), (4, 2147483647), ((-2147483648), 2147483647), (1, 40), ((-2147483648), 2147483647)], [([(3, 1), (0, (-1))], (-1))]), [([], (-1000))], [], []),
   (1000, ([(0, 39), (0, 0), ((-2147483648), 2147483647), (1, 40), ((-2147483648), 2147483647), ((-300), 300)], [([(3, 1), (0, (-1))], (-1))]), [([(5, 1)], 0)], [], [.inl (.inl (2, ([(0, 1)], 0), 5))]),
   (1000, ([(0, 39), (1, 1), ((-2147483648), 2147483647), (1, 40), ((-2147483648), 2147483647), ((-300), 300)], [([(3, 1), (0, (-1))], (-1))]), [([(5, 1)], 0)], [], [.inl (.inl (3, ([(0, 1)], 0), 5))]),
   (1000, ([(0, 39), (2, 2), ((-2147483648), 2147483647), (1, 40), ((-2147483648), 2147483647), (0, 1)], [([(3, 1), (0, (-1))], (-1))]), [([(5, 1)], 0)], [], [.inl (.inl (4, ([(0, 1)], 0), 5))]),
   (1000, ([(0, 39), (3, 3), ((-2147483648), 2147483647), (1, 40), ((-2147483648), 2147483647), (0, 1000)], [([(3, 1), (0, (-1))], (-1))]), [([(5, 1)], 0)], [], [.inl (.inl (5, ([(0, 1)], 0), 5))])]]
noncomputable def xG_121 : Nat → yt_G → (Nat → Int) → yt_G → Prop
  | _, _, _, _ => True
noncomputable def xP_121 : yt_Ph
  | 0, r, g0, g => (r 5) = yq_of (r 0) (r 1) ((1 * (r 3) + 0) + 0) (g0 2) (g0 3) (g0 4) (g0 5)
  | _, _, _, _ => True
noncomputable def xR_121 : yt_Ps := fun r g0 => True
noncomputable def xT_121 : yt_Tb := fun d => match d with
  | _ => fun _ _ _ _ => True
noncomputable def xU_121 : Nat → yt_Ps := fun d => match d with
  | _ => fun _ _ => True
theorem xw_121_0_0 : yt_hold xT_121 xk_121 xq_121.2.2.1 xG_121 xP_121 xU_121 5 xk_121.2.1.2.2.2 (fun g0 r g => xR_121 r g0 ∧ g = g0) (1000, ([((-2147483648), (-1)), ((-2147483648), 2147483647), ((-2147483648), 2147483647), (0, 40), ((-2147483648), 2147483647)], []), [([], (-1000))], [], []) := by
  intro g0 r gi g hok hh hars hfr hG
  have b0 : (-2147483648) ≤ r 0 ∧ r 0 ≤ (-1) := hok.1 0 ((-2147483648), (-1)) rfl
  have b1 : (-2147483648) ≤ r 1 ∧ r 1 ≤ 2147483647 := hok.1 1 ((-2147483648), 2147483647) rfl
  have b3 : 0 ≤ r 3 ∧ r 3 ≤ 40 := hok.1 3 (0, 40) rfl
  obtain ⟨hG, hgi⟩ := hG
  have hG : True := hG
  have hh : g = gi := hh
  subst hh
  refine yt_dalt (by decide) (by decide) ?_
  rw [show xk_121.2.1.2.1.1.length = 5 from rfl]
  show ((0 : Int) + (-1000)) = yq_of ((1 * r 0 + 0) + 0) ((1 * r 1 + 0) + 0) ((1 * ((1 * r 3 + 0) + 0) + 0) + 0) (g0 2) (g0 3) (g0 4) (g0 5)
  try simp only [Int.one_mul, Int.zero_add, Int.add_zero]
  unfold yq_of
  rw [if_neg (by omega)]
theorem xw_121_0_1 : yt_hold xT_121 xk_121 xq_121.2.2.1 xG_121 xP_121 xU_121 5 xk_121.2.1.2.2.2 (fun g0 r g => xR_121 r g0 ∧ g = g0) (1000, ([(0, 2147483647), ((-2147483648), 2147483647), ((-2147483648), 2147483647), (0, 40), ((-2147483648), 2147483647)], [([(3, (-1)), (0, 1)], 0)]), [([], (-1000))], [], []) := by
  intro g0 r gi g hok hh hars hfr hG
  have b0 : 0 ≤ r 0 ∧ r 0 ≤ 2147483647 := hok.1 0 (0, 2147483647) rfl
  have b1 : (-2147483648) ≤ r 1 ∧ r 1 ≤ 2147483647 := hok.1 1 ((-2147483648), 2147483647) rfl
  have b3 : 0 ≤ r 3 ∧ r 3 ≤ 40 := hok.1 3 (0, 40) rfl
  have f0 : 0 ≤ (((-1) * r 3 + (1 * r 0 + 0)) + 0) := hok.2 _ (List.mem_of_getElem? (i := 0) rfl)
  obtain ⟨hG, hgi⟩ := hG
  have hG : True := hG
  have hh : g = gi := hh
  subst hh
  refine yt_dalt (by decide) (by decide) ?_
  rw [show xk_121.2.1.2.1.1.length = 5 from rfl]
  show ((0 : Int) + (-1000)) = yq_of ((1 * r 0 + 0) + 0) ((1 * r 1 + 0) + 0) ((1 * ((1 * r 3 + 0) + 0) + 0) + 0) (g0 2) (g0 3) (g0 4) (g0 5)
  try simp only [Int.one_mul, Int.zero_add, Int.add_zero]
  unfold yq_of
  rw [if_neg (by omega)]
theorem xw_121_0_2 : yt_hold xT_121 xk_121 xq_121.2.2.1 xG_121 xP_121 xU_121 5 xk_121.2.1.2.2.2 (fun g0 r g => xR_121 r g0 ∧ g = g0) (1000, ([(0, 39), ((-2147483648), (-1)), ((-2147483648), 2147483647), (1, 40), ((-2147483648), 2147483647)], [([(3, 1), (0, (-1))], (-1))]), [([], (-1000))], [], []) := by
  intro g0 r gi g hok hh hars hfr hG
  have b0 : 0 ≤ r 0 ∧ r 0 ≤ 39 := hok.1 0 (0, 39) rfl
  have b1 : (-2147483648) ≤ r 1 ∧ r 1 ≤ (-1) := hok.1 1 ((-2147483648), (-1)) rfl
  have b3 : 1 ≤ r 3 ∧ r 3 ≤ 40 := hok.1 3 (1, 40) rfl
  have f0 : 0 ≤ ((1 * r 3 + ((-1) * r 0 + 0)) + (-1)) := hok.2 _ (List.mem_of_getElem? (i := 0) rfl)
  obtain ⟨hG, hgi⟩ := hG
  have hG : True := hG
  have hh : g = gi := hh
  subst hh
  refine yt_dalt (by decide) (by decide) ?_
  rw [show xk_121.2.1.2.1.1.length = 5 from rfl]
  show ((0 : Int) + (-1000)) = yq_of ((1 * r 0 + 0) + 0) ((1 * r 1 + 0) + 0) ((1 * ((1 * r 3 + 0) + 0) + 0) + 0) (g0 2) (g0 3) (g0 4) (g0 5)
  try simp only [Int.one_mul, Int.zero_add, Int.add_zero]
  unfold yq_of
  rw [if_neg (by omega)]
theorem xw_121_0_3 : yt_hold xT_121 xk_121 xq_121.2.2.1 xG_121 xP_121 xU_121 5 xk_121.2.1.2.2.2 (fun g0 r g => xR_121 r g0 ∧ g = g0) (1000, ([(0, 39), (4, 2147483647), ((-2147483648), 2147483647), (1, 40), ((-2147483648), 2147483647)], [([(3, 1), (0, (-1))], (-1))]), [([], (-1000))], [], []) := by
  intro g0 r gi g hok hh hars hfr hG
  have b0 : 0 ≤ r 0 ∧ r 0 ≤ 39 := hok.1 0 (0, 39) rfl
  have b1 : 4 ≤ r 1 ∧ r 1 ≤ 2147483647 := hok.1 1 (4, 2147483647) rfl
  have b3 : 1 ≤ r 3 ∧ r 3 ≤ 40 := hok.1 3 (1, 40) rfl
  have f0 : 0 ≤ ((1 * r 3 + ((-1) * r 0 + 0)) + (-1)) := hok.2 _ (List.mem_of_getElem? (i := 0) rfl)
  obtain ⟨hG, hgi⟩ := hG
  have hG : True := hG
  have hh : g = gi := hh
  subst hh
  refine yt_dalt (by decide) (by decide) ?_
  rw [show xk_121.2.1.2.1.1.length = 5 from rfl]
  show ((0 : Int) + (-1000)) = yq_of ((1 * r 0 + 0) + 0) ((1 * r 1 + 0) + 0) ((1 * ((1 * r 3 + 0) + 0) + 0) + 0) (g0 2) (g0 3) (g0 4) (g0 5)
  try simp only [Int.one_mul, Int.zero_add, Int.add_zero]
  unfold yq_of
  rw [if_neg (by omega)]
theorem xw_121_0_4 : yt_hold xT_121 xk_121 xq_121.2.2.1 xG_121 xP_121 xU_121 5 xk_121.2.1.2.2.2 (fun g0 r g => xR_121 r g0 ∧ g = g0) (1000, ([(0, 39), (0, 0), ((-2147483648), 2147483647), (1, 40), ((-2147483648), 2147483647), ((-300), 300)], [([(3, 1), (0, (-1))], (-1))]), [([(5, 1)], 0)], [], [.inl (.inl (2, ([(0, 1)], 0), 5))]) := by
  intro g0 r gi g hok hh hars hfr hG
  have b0 : 0 ≤ r 0 ∧ r 0 ≤ 39 := hok.1 0 (0, 39) rfl
  have b1 : 0 ≤ r 1 ∧ r 1 ≤ 0 := hok.1 1 (0, 0) rfl
  have b3 : 1 ≤ r 3 ∧ r 3 ≤ 40 := hok.1 3 (1, 40) rfl
  have b5 : (-300) ≤ r 5 ∧ r 5 ≤ 300 := hok.1 5 ((-300), 300) rfl
  have f0 : 0 ≤ ((1 * r 3 + ((-1) * r 0 + 0)) + (-1)) := hok.2 _ (List.mem_of_getElem? (i := 0) rfl)
  obtain ⟨hG, hgi⟩ := hG
  have hG : True := hG
  obtain ⟨g0, hh, q0, e0⟩ := hh
  subst q0
  have e0 : r 5 = g 2 (((1 * r 0 + 0) + 0)).toNat := e0
  rw [show (((1 * r 0 + 0) + 0)).toNat = (r 0).toNat by omega] at e0
  have hh : g = gi := hh
  subst hh
  refine yt_dalt (by decide) (by decide) ?_
  rw [show xk_121.2.1.2.1.1.length = 5 from rfl]
  show ((1 * r 5 + 0) + 0) = yq_of ((1 * r 0 + 0) + 0) ((1 * r 1 + 0) + 0) ((1 * ((1 * r 3 + 0) + 0) + 0) + 0) (g0 2) (g0 3) (g0 4) (g0 5)
  try simp only [Int.one_mul, Int.zero_add, Int.add_zero]
  rw [hgi] at e0
  unfold yq_of
  rw [if_pos (by omega), if_pos (by omega), ← e0]
theorem xw_121_0_5 : yt_hold xT_121 xk_121 xq_121.2.2.1 xG_121 xP_121 xU_121 5 xk_121.2.1.2.2.2 (fun g0 r g => xR_121 r g0 ∧ g = g0) (1000, ([(0, 39), (1, 1), ((-2147483648), 2147483647), (1, 40), ((-2147483648), 2147483647), ((-300), 300)], [([(3, 1), (0, (-1))], (-1))]), [([(5, 1)], 0)], [], [.inl (.inl (3, ([(0, 1)], 0), 5))]) := by
  intro g0 r gi g hok hh hars hfr hG
  have b0 : 0 ≤ r 0 ∧ r 0 ≤ 39 := hok.1 0 (0, 39) rfl
  have b1 : 1 ≤ r 1 ∧ r 1 ≤ 1 := hok.1 1 (1, 1) rfl
  have b3 : 1 ≤ r 3 ∧ r 3 ≤ 40 := hok.1 3 (1, 40) rfl
  have b5 : (-300) ≤ r 5 ∧ r 5 ≤ 300 := hok.1 5 ((-300), 300) rfl
  have f0 : 0 ≤ ((1 * r 3 + ((-1) * r 0 + 0)) + (-1)) := hok.2 _ (List.mem_of_getElem? (i := 0) rfl)
  obtain ⟨hG, hgi⟩ := hG
  have hG : True := hG
  obtain ⟨g0, hh, q0, e0⟩ := hh
  subst q0
  have e0 : r 5 = g 3 (((1 * r 0 + 0) + 0)).toNat := e0
  rw [show (((1 * r 0 + 0) + 0)).toNat = (r 0).toNat by omega] at e0
  have hh : g = gi := hh
  subst hh
  refine yt_dalt (by decide) (by decide) ?_
  rw [show xk_121.2.1.2.1.1.length = 5 from rfl]
  show ((1 * r 5 + 0) + 0) = yq_of ((1 * r 0 + 0) + 0) ((1 * r 1 + 0) + 0) ((1 * ((1 * r 3 + 0) + 0) + 0) + 0) (g0 2) (g0 3) (g0 4) (g0 5)
  try simp only [Int.one_mul, Int.zero_add, Int.add_zero]
  rw [hgi] at e0
  unfold yq_of
  rw [if_pos (by omega), if_neg (by omega), if_pos (by omega), ← e0]
theorem xw_121_0_6 : yt_hold xT_121 xk_121 xq_121.2.2.1 xG_121 xP_121 xU_121 5 xk_121.2.1.2.2.2 (fun g0 r g => xR_121 r g0 ∧ g = g0) (1000, ([(0, 39), (2, 2), ((-2147483648), 2147483647), (1, 40), ((-2147483648), 2147483647), (0, 1)], [([(3, 1), (0, (-1))], (-1))]), [([(5, 1)], 0)], [], [.inl (.inl (4, ([(0, 1)], 0), 5))]) := by
  intro g0 r gi g hok hh hars hfr hG
  have b0 : 0 ≤ r 0 ∧ r 0 ≤ 39 := hok.1 0 (0, 39) rfl
  have b1 : 2 ≤ r 1 ∧ r 1 ≤ 2 := hok.1 1 (2, 2) rfl
  have b3 : 1 ≤ r 3 ∧ r 3 ≤ 40 := hok.1 3 (1, 40) rfl
  have b5 : 0 ≤ r 5 ∧ r 5 ≤ 1 := hok.1 5 (0, 1) rfl
  have f0 : 0 ≤ ((1 * r 3 + ((-1) * r 0 + 0)) + (-1)) := hok.2 _ (List.mem_of_getElem? (i := 0) rfl)
  obtain ⟨hG, hgi⟩ := hG
  have hG : True := hG
  obtain ⟨g0, hh, q0, e0⟩ := hh
  subst q0
  have e0 : r 5 = g 4 (((1 * r 0 + 0) + 0)).toNat := e0
  rw [show (((1 * r 0 + 0) + 0)).toNat = (r 0).toNat by omega] at e0
  have hh : g = gi := hh
  subst hh
  refine yt_dalt (by decide) (by decide) ?_
  rw [show xk_121.2.1.2.1.1.length = 5 from rfl]
  show ((1 * r 5 + 0) + 0) = yq_of ((1 * r 0 + 0) + 0) ((1 * r 1 + 0) + 0) ((1 * ((1 * r 3 + 0) + 0) + 0) + 0) (g0 2) (g0 3) (g0 4) (g0 5)
  try simp only [Int.one_mul, Int.zero_add, Int.add_zero]
  rw [hgi] at e0
  unfold yq_of
  rw [if_pos (by omega), if_neg (by omega), if_neg (by omega), if_pos (by omega), ← e0]
theorem xw_121_0_7 : yt_hold xT_121 xk_121 xq_121.2.2.1 xG_121 xP_121 xU_121 5 xk_121.2.1.2.2.2 (fun g0 r g => xR_121 r g0 ∧ g = g0) (1000, ([(0, 39), (3, 3), ((-2147483648), 2147483647), (1, 40), ((-2147483648), 2147483647), (0, 1000)], [([(3, 1), (0, (-1))], (-1))]), [([(5, 1)], 0)], [], [.inl (.inl (5, ([(0, 1)], 0), 5))]) := by
  intro g0 r gi g hok hh hars hfr hG
  have b0 : 0 ≤ r 0 ∧ r 0 ≤ 39 := hok.1 0 (0, 39) rfl
  have b1 : 3 ≤ r 1 ∧ r 1 ≤ 3 := hok.1 1 (3, 3) rfl
  have b3 : 1 ≤ r 3 ∧ r 3 ≤ 40 := hok.1 3 (1, 40) rfl
  have b5 : 0 ≤ r 5 ∧ r 5 ≤ 1000 := hok.1 5 (0, 1000) rfl
  have f0 : 0 ≤ ((1 * r 3 + ((-1) * r 0 + 0)) + (-1)) := hok.2 _ (List.mem_of_getElem? (i := 0) rfl)
  obtain ⟨hG, hgi⟩ := hG
  have hG : True := hG
  obtain ⟨g0, hh, q0, e0⟩ := hh
  subst q0
  have e0 : r 5 = g 5 (((1 * r 0 + 0) + 0)).toNat := e0
  rw [show (((1 * r 0 + 0) + 0)).toNat = (r 0).toNat by omega] at e0
  have hh : g = gi := hh
  subst hh
  refine yt_dalt (by decide) (by decide) ?_
  rw [show xk_121.2.1.2.1.1.length = 5 from rfl]
  show ((1 * r 5 + 0) + 0) = yq_of ((1 * r 0 + 0) + 0) ((1 * r 1 + 0) + 0) ((1 * ((1 * r 3 + 0) + 0) + 0) + 0) (g0 2) (g0 3) (g0 4) (g0 5)
  try simp only [Int.one_mul, Int.zero_add, Int.add_zero]
  rw [hgi] at e0
  unfold yq_of
  rw [if_pos (by omega), if_neg (by omega), if_neg (by omega), if_neg (by omega), ← e0]
theorem xn_121 : ∀ (j : Nat) (q : Nat × yt_T), xq_121.2.2.1[j]? = some q → q.2.2.2 = false → ∀ g0 r g, xG_121 j g0 r g
  | n + 0, q, hq, _ => by cases hq
theorem xs_121 : ∀ j, xq_121.2.2.2.getD j false = false → ∀ r g g', xP_121 j r g g'
  | 0, hf => by cases hf
  | n + 1, _ => fun _ _ _ => trivial
theorem xc_121 {l : Launch} {D : va_G} {cT : Nat → ClassId} {tys : List (ClassId × FieldType)} (hty : yx_Ty tys cT) : yt_Con l D vwCl cT tys yG yw_s38 xk_121 xR_121 xP_121 := yx_sem (calls := xa_121) (Z := xq_121) (tb := xT_121) (pt := xU_121) (Ga := xG_121) (vs := xv_121) (fun _ _ _ _ => trivial) 300 (by decide +kernel) yz_X11_of_ok hty (yl_lkX11 _) (yl_cqkX11 _) (List.forall_mem_cons.mpr ⟨⟨xc_48 hty, yg_CLv rfl rfl rfl yl_wX11_118 yd_yX6_has, fun _ _ _ => trivial⟩, fun _ h => absurd h List.not_mem_nil⟩) (xn_121) (xs_121) (by decide +kernel) (List.forall_mem_cons.mpr ⟨xw_121_0_0, List.forall_mem_cons.mpr ⟨xw_121_0_1, List.forall_mem_cons.mpr ⟨xw_121_0_2, List.forall_mem_cons.mpr ⟨xw_121_0_3, List.forall_mem_cons.mpr ⟨xw_121_0_4, List.forall_mem_cons.mpr ⟨xw_121_0_5, List.forall_mem_cons.mpr ⟨xw_121_0_6, List.forall_mem_cons.mpr ⟨xw_121_0_7, fun _ h => absurd h List.not_mem_nil⟩⟩⟩⟩⟩⟩⟩⟩) (trivial)
noncomputable def xf_122 : ys_F := (yw_f13 3, yw_r13)
noncomputable def xk_122 : ys_K := (((yX6_repaint, cX6_repaint, 4, none), (0, 0)), ([.inr (some 0), .inl (.inl ([(0, 1)], 0)), .inl (.inl ([(1, 1)], 0)), .inl (.inl ([(2, 1)], 0))], ([(0, 39), (0, 1), (1, 1000)] ++ yw_e13, []), xf_122), ([([((-2147483648), 2147483647)], [], ((ys_fs xf_122.1 [(0, 5, .inl (.inl ([(5, 1)], 0)))]), xf_122.2), none)], [1, 2]))
noncomputable def xq_122 : yt_Q := (yz_X6_repaint, (yl_flX6, yl_ciX6, yl_cjX6, yl_cpX6, yl_cqX6), [], [true])
noncomputable def xa_122 : List yt_CE := []
noncomputable def xv_122 : List (List yt_VC) := [[(1000, ([(0, 39), (0, 1), (1, 1000), (0, 40), ((-2147483648), 2147483647), ((-2147483648), 2147483647)], []), [([(5, 1)], 0)], [], [.inr (.inr (.inl (998, 15, [([(4, 1)], 0), ([], 1), ([(5, 1)], 0)], [], []))), .inr (.inl (2, ([(0, 1)], 0), ([(2, 1)], 0))), .inr (.inl (1, ([(0, 1)], 0), ([(1, 1)], 0)))])]]
noncomputable def xG_122 : Nat → yt_G → (Nat → Int) → yt_G → Prop
  | _, _, _, _ => True
noncomputable def xP_122 : yt_Ph
  | 0, r, g0, g => ((g 1) = yq_set (g0 1) ((r 0)).toNat (r 1) ∧ (g 2) = yq_set (g0 2) ((r 0)).toNat (r 2)) ∧ ((1 * (r 5) + 0) + 0) = ye_wr ((1 * (r 4) + 0) + 0) 1
  | _, _, _, _ => True
noncomputable def xR_122 : yt_Ps := fun r g0 => True
noncomputable def xT_122 : yt_Tb := fun d => match d with
  | 998 => fun i r _ _ => yt_hwp i r
  | _ => fun _ _ _ _ => True
noncomputable def xU_122 : Nat → yt_Ps := fun d => match d with
  | _ => fun _ _ => True
theorem xw_122_0_0 : yt_hold xT_122 xk_122 xq_122.2.2.1 xG_122 xP_122 xU_122 5 xk_122.2.1.2.2.2 (fun g0 r g => xR_122 r g0 ∧ g = g0) (1000, ([(0, 39), (0, 1), (1, 1000), (0, 40), ((-2147483648), 2147483647), ((-2147483648), 2147483647)], []), [([(5, 1)], 0)], [], [.inr (.inr (.inl (998, 15, [([(4, 1)], 0), ([], 1), ([(5, 1)], 0)], [], []))), .inr (.inl (2, ([(0, 1)], 0), ([(2, 1)], 0))), .inr (.inl (1, ([(0, 1)], 0), ([(1, 1)], 0)))]) := by
  intro g0 r gi g hok hh hars hfr hG
  have b0 : 0 ≤ r 0 ∧ r 0 ≤ 39 := hok.1 0 (0, 39) rfl
  have b1 : 0 ≤ r 1 ∧ r 1 ≤ 1 := hok.1 1 (0, 1) rfl
  have b2 : 1 ≤ r 2 ∧ r 2 ≤ 1000 := hok.1 2 (1, 1000) rfl
  have b5 : (-2147483648) ≤ r 5 ∧ r 5 ≤ 2147483647 := hok.1 5 ((-2147483648), 2147483647) rfl
  obtain ⟨hG, hgi⟩ := hG
  have hG : True := hG
  obtain ⟨h0, hh, e0, k0⟩ := hh
  have k0 : ∀ j, j ∉ [] → g j = h0 j := k0
  have e0 : Int32.ofInt (((1 * r 5 + 0) + 0)) = Int32.ofInt (((1 * r 4 + 0) + 0)) + Int32.ofInt (((0 : Int) + 1)) := e0
  obtain ⟨h1, hh, e1⟩ := hh
  have e1 : h0 = ys_gup h1 2 (((1 * r 0 + 0) + 0)).toNat ((1 * r 2 + 0) + 0) := e1
  obtain ⟨h2, hh, e2⟩ := hh
  have e2 : h1 = ys_gup h2 1 (((1 * r 0 + 0) + 0)).toNat ((1 * r 1 + 0) + 0) := e2
  have hh : h2 = gi := hh
  subst hh
  refine yt_dalt (by decide) (by decide) ?_
  rw [show xk_122.2.1.2.1.1.length = 5 from rfl]
  show ((g 1) = yq_set (g0 1) (((1 * r 0 + 0) + 0)).toNat ((1 * r 1 + 0) + 0) ∧ (g 2) = yq_set (g0 2) (((1 * r 0 + 0) + 0)).toNat ((1 * r 2 + 0) + 0)) ∧ ((1 * ((1 * r 5 + 0) + 0) + 0) + 0) = ye_wr ((1 * ((1 * r 4 + 0) + 0) + 0) + 0) 1
  try simp only [Int.one_mul, Int.zero_add, Int.add_zero]
  refine ⟨?_, ?_⟩
  · try simp only [Int.one_mul, Int.zero_add, Int.add_zero] at e1 e2
    refine ⟨?_, ?_⟩
    · rw [k0 1 (by decide), e1, yq_gup_ne (by decide), e2, yq_gup_self, hgi]
    · rw [k0 2 (by decide), e1, yq_gup_self, e2, yq_gup_ne (by decide), hgi]
  · try simp only [Int.one_mul, Int.zero_add, Int.add_zero] at e0
    exact ye_w1 (by omega) (by omega) e0
theorem xn_122 : ∀ (j : Nat) (q : Nat × yt_T), xq_122.2.2.1[j]? = some q → q.2.2.2 = false → ∀ g0 r g, xG_122 j g0 r g
  | n + 0, q, hq, _ => by cases hq
theorem xs_122 : ∀ j, xq_122.2.2.2.getD j false = false → ∀ r g g', xP_122 j r g g'
  | 0, hf => by cases hf
  | n + 1, _ => fun _ _ _ => trivial
theorem xc_122 {l : Launch} {D : va_G} {cT : Nat → ClassId} {tys : List (ClassId × FieldType)} (hty : yx_Ty tys cT) : yt_Con l D vwCl cT tys yG yw_s13 xk_122 xR_122 xP_122 := yx_sem (calls := xa_122) (Z := xq_122) (tb := xT_122) (pt := xU_122) (Ga := xG_122) (vs := xv_122) (fun _ _ _ h => h) 300 (by decide +kernel) yz_X6_repaint_ok hty (yl_lkX6 _) (yl_cqkX6 _) (fun _ h => absurd h List.not_mem_nil) (xn_122) (xs_122) (by decide +kernel) (List.forall_mem_cons.mpr ⟨xw_122_0_0, fun _ h => absurd h List.not_mem_nil⟩) (trivial)
noncomputable def yw_s70 : List ys_C := [.inl 11, .inl 6, .inr (0, 40, []), .inr (0, 40, [])]
noncomputable def yw_f70 (n : Nat) : List (List ys_V) := [[.inr (some 1), .inr (some 6), .inr (some 7), .inr (some 8), .inr (some 9), .inr (some 10), .inr (some 11), .inr (some 12), .inr (some 13), .inr (some 14), .inr (some 15), .inr (some 16), .inr (some 17), .inr (some 18), .inl (.inl ([(n + 0, 1)], 0))], [.inr (some 4), .inr (some 5), .inr (some 2), .inr (some 3), .inl (.inl ([(n + 1, 1)], 0)), .inl (.inl ([(n + 2, 1)], 0))], [], []]
noncomputable def yw_e70 : ys_E := [((-2147483648), 2147483647), (0, 40), ((-2147483648), 2147483647)]
noncomputable def yw_r70 : List ys_R := [((0, 0), []), ((0, 0), []), ((0, 1), []), ((0, 1000), [])]
noncomputable def xf_123 : ys_F := (yw_f70 3, yw_r70)
noncomputable def xk_123 : ys_K := (((yX11_paint, cX11_paint, 4, (some .int)), (1, 23)), ([.inr (some 0), .inl (.inl ([(0, 1)], 0)), .inl (.inl ([(1, 1)], 0)), .inl (.inl ([(2, 1)], 0))], ([((-2147483648), 2147483647), ((-2147483648), 2147483647), ((-2147483648), 2147483647)] ++ yw_e70, []), xf_123), ([([((-1), 0), ((-2147483648), 0), ((-2147483648), 2147483647)], [], ((ys_fs xf_123.1 [(0, 14, .inl (.inl ([(7, 1)], 0))), (1, 5, .inl (.inl ([(8, 1)], 0)))]), xf_123.2), some (.inl (.inl ([(6, 1)], 0))))], [2, 3]))
noncomputable def xq_123 : yt_Q := (yz_X11_paint, (yl_flX11, yl_ciX11, yl_cjX11, yl_cpX11, yl_cqX11), [], [true])
noncomputable def xa_123 : List yt_CE := [(((118, false), (0, false, [1, 4, 5, 2, 3])), (yw_s36, xk_48)), (((103, true), (0, false, [])), (yw_s2, xk_61)), (((107, false), (0, false, [0, 1, 6, 7, 8, 9, 10, 11, 12, 13, 14, 15, 16, 17, 18])), (yw_s3, xk_3)), (((138, false), (131, false, [1, 2, 3, 4, 5])), (yw_s13, xk_122))]
noncomputable def xv_123 : List (List yt_VC) := [[(1000, ([((-2147483648), (-1)), ((-2147483648), 2147483647), ((-2147483648), 2147483647), ((-2147483648), 2147483647), (0, 40), ((-2147483648), 2147483647), ((-2147483648), 0)], []), [([], (-1)), ([(6, 1)], 0), ([(5, 1)], 0)], [], []),
   (1000, ([(0, 2147483647), ((-2147483648), 2147483647), ((-2147483648), 2147483647), ((-2147483648), 2147483647), (0, 40), ((-2147483648), 2147483647), ((-2147483648), 0)], [([(4, (-1)), (0, 1)], 0)]), [([], (-1)), ([(6, 1)], 0), ([(5, 1)], 0)], [], []),
   (1000, ([(0, 39), ((-2147483648), (-1)), ((-2147483648), 2147483647), ((-2147483648), 2147483647), (1, 40), ((-2147483648), 2147483647), ((-2147483648), 0)], [([(4, 1), (0, (-1))], (-1))]), [([], (-1)), ([(6, 1)], 0), ([(5, 1)], 0)], [], []),
   (1000, ([(0, 39), (2, 2147483647), ((-2147483648), 2147483647), ((-2147483648), 2147483647), (1, 40), ((-2147483648), 2147483647), ((-2147483648), 0)], [([(4, 1), (0, (-1))], (-1))]), [([], (-1)), ([(6, 1)], 0), ([(5, 1)], 0)], [], []),
   (1000, ([(0, 39), (1, 1), ((-2147483648), 0), ((-2147483648), 2147483647), (1, 40), ((-2147483648), 2147483647), ((-2147483648), 0)], [([(4, 1), (0, (-1))], (-1))]), [([], (-1)), ([(6, 1)], 0), ([(5, 1)], 0)], [], []),
   (1000, ([(0, 39), (1, 1), (1, 1000), ((-2147483648), 2147483647), (1, 40), ((-2147483648), 2147483647), ((-2147483648), 2147483647), ((-2147483648), 0)], [([(4, 1), (0, (-1))], (-1))]), [([], 0), ([(7, 1)], 0), ([(6, 1)], 0)], [], [.inr (.inr (.inl (131, 0, [([(0, 1)], 0), ([], 1), ([(2, 1)], 0), ([(4, 1)], 0), ([(5, 1)], 0), ([(6, 1)], 0)], [1, 2, 3, 4, 5], [2, 3])))]),
   (1000, ([(0, 39), (1, 1), (1001, 2147483647), ((-2147483648), 2147483647), (1, 40), ((-2147483648), 2147483647), ((-2147483648), 0)], [([(4, 1), (0, (-1))], (-1))]), [([], (-1)), ([(6, 1)], 0), ([(5, 1)], 0)], [], []),
   (1000, ([(0, 39), (0, 0), ((-2147483648), 0), ((-2147483648), 2147483647), (1, 40), ((-2147483648), 2147483647), ((-2147483648), 0)], [([(4, 1), (0, (-1))], (-1))]), [([], (-1)), ([(6, 1)], 0), ([(5, 1)], 0)], [], []),
   (1000, ([(0, 39), (0, 0), (1, 1000), ((-2147483648), 2147483647), (1, 40), ((-2147483648), 2147483647), ((-2147483648), 2147483647), ((-2147483648), 0)], [([(4, 1), (0, (-1))], (-1))]), [([], 0), ([(7, 1)], 0), ([(6, 1)], 0)], [], [.inr (.inr (.inl (131, 0, [([(0, 1)], 0), ([], 0), ([(2, 1)], 0), ([(4, 1)], 0), ([(5, 1)], 0), ([(6, 1)], 0)], [1, 2, 3, 4, 5], [2, 3])))]),
   (1000, ([(0, 39), (0, 0), (1001, 2147483647), ((-2147483648), 2147483647), (1, 40), ((-2147483648), 2147483647), ((-2147483648), 0)], [([(4, 1), (0, (-1))], (-1))]), [([], (-1)), ([(6, 1)], 0), ([(5, 1)], 0)], [], [])]]
noncomputable def xG_123 : Nat → yt_G → (Nat → Int) → yt_G → Prop
  | _, _, _, _ => True
noncomputable def xP_123 : yt_Ph
  | 0, r, g0, g => (((r 6) = yq_par (r 0) (r 1) (r 2) ((1 * (r 4) + 0) + 0)) ∧ (g 2) = yq_pn (r 0) (r 1) (r 2) ((1 * (r 4) + 0) + 0) (g0 2) (r 1) ∧ (g 3) = yq_pn (r 0) (r 1) (r 2) ((1 * (r 4) + 0) + 0) (g0 3) (r 2)) ∧ ((1 * (r 8) + 0) + 0) = ye_wr ((1 * (r 5) + 0) + 0) ((r 6) + 1)
  | _, _, _, _ => True
noncomputable def xR_123 : yt_Ps := fun r g0 => True
noncomputable def xT_123 : yt_Tb := fun d => match d with
  | 131 => xP_122
  | _ => fun _ _ _ _ => True
noncomputable def xU_123 : Nat → yt_Ps := fun d => match d with
  | 131 => xR_122
  | _ => fun _ _ => True
theorem xw_123_0_0 : yt_hold xT_123 xk_123 xq_123.2.2.1 xG_123 xP_123 xU_123 6 xk_123.2.1.2.2.2 (fun g0 r g => xR_123 r g0 ∧ g = g0) (1000, ([((-2147483648), (-1)), ((-2147483648), 2147483647), ((-2147483648), 2147483647), ((-2147483648), 2147483647), (0, 40), ((-2147483648), 2147483647), ((-2147483648), 0)], []), [([], (-1)), ([(6, 1)], 0), ([(5, 1)], 0)], [], []) := by
  intro g0 r gi g hok hh hars hfr hG
  have b0 : (-2147483648) ≤ r 0 ∧ r 0 ≤ (-1) := hok.1 0 ((-2147483648), (-1)) rfl
  have b1 : (-2147483648) ≤ r 1 ∧ r 1 ≤ 2147483647 := hok.1 1 ((-2147483648), 2147483647) rfl
  have b2 : (-2147483648) ≤ r 2 ∧ r 2 ≤ 2147483647 := hok.1 2 ((-2147483648), 2147483647) rfl
  have b4 : 0 ≤ r 4 ∧ r 4 ≤ 40 := hok.1 4 (0, 40) rfl
  have b5 : (-2147483648) ≤ r 5 ∧ r 5 ≤ 2147483647 := hok.1 5 ((-2147483648), 2147483647) rfl
  have b6 : (-2147483648) ≤ r 6 ∧ r 6 ≤ 0 := hok.1 6 ((-2147483648), 0) rfl
  obtain ⟨hG, hgi⟩ := hG
  have hG : True := hG
  have hh : g = gi := hh
  subst hh
  refine yt_dalt (by decide) (by decide) ?_
  rw [show xk_123.2.1.2.1.1.length = 6 from rfl]
  show ((((0 : Int) + (-1)) = yq_par ((1 * r 0 + 0) + 0) ((1 * r 1 + 0) + 0) ((1 * r 2 + 0) + 0) ((1 * ((1 * r 4 + 0) + 0) + 0) + 0)) ∧ (g 2) = yq_pn ((1 * r 0 + 0) + 0) ((1 * r 1 + 0) + 0) ((1 * r 2 + 0) + 0) ((1 * ((1 * r 4 + 0) + 0) + 0) + 0) (g0 2) ((1 * r 1 + 0) + 0) ∧ (g 3) = yq_pn ((1 * r 0 + 0) + 0) ((1 * r 1 + 0) + 0) ((1 * r 2 + 0) + 0) ((1 * ((1 * r 4 + 0) + 0) + 0) + 0) (g0 3) ((1 * r 2 + 0) + 0)) ∧ ((1 * ((1 * r 5 + 0) + 0) + 0) + 0) = ye_wr ((1 * ((1 * r 5 + 0) + 0) + 0) + 0) (((0 : Int) + (-1)) + 1)
  try simp only [Int.one_mul, Int.zero_add, Int.add_zero]
  refine ⟨?_, ?_⟩
  · refine ⟨?_, ?_⟩
    · unfold yq_par
      repeat' split
      all_goals omega
    · refine ⟨?_, ?_⟩
      · unfold yq_pn
        rw [if_neg (by omega)]
        rw [hgi]
      · unfold yq_pn
        rw [if_neg (by omega)]
        rw [hgi]
  · exact (ye_w0 (by omega) (by omega)).symm.trans (congrArg (ye_wr _) (show (0 : Int) = _ by omega))
theorem xw_123_0_1 : yt_hold xT_123 xk_123 xq_123.2.2.1 xG_123 xP_123 xU_123 6 xk_123.2.1.2.2.2 (fun g0 r g => xR_123 r g0 ∧ g = g0) (1000, ([(0, 2147483647), ((-2147483648), 2147483647), ((-2147483648), 2147483647), ((-2147483648), 2147483647), (0, 40), ((-2147483648), 2147483647), ((-2147483648), 0)], [([(4, (-1)), (0, 1)], 0)]), [([], (-1)), ([(6, 1)], 0), ([(5, 1)], 0)], [], []) := by
  intro g0 r gi g hok hh hars hfr hG
  have b0 : 0 ≤ r 0 ∧ r 0 ≤ 2147483647 := hok.1 0 (0, 2147483647) rfl
  have b1 : (-2147483648) ≤ r 1 ∧ r 1 ≤ 2147483647 := hok.1 1 ((-2147483648), 2147483647) rfl
  have b2 : (-2147483648) ≤ r 2 ∧ r 2 ≤ 2147483647 := hok.1 2 ((-2147483648), 2147483647) rfl
  have b4 : 0 ≤ r 4 ∧ r 4 ≤ 40 := hok.1 4 (0, 40) rfl
  have b5 : (-2147483648) ≤ r 5 ∧ r 5 ≤ 2147483647 := hok.1 5 ((-2147483648), 2147483647) rfl
  have b6 : (-2147483648) ≤ r 6 ∧ r 6 ≤ 0 := hok.1 6 ((-2147483648), 0) rfl
  have f0 : 0 ≤ (((-1) * r 4 + (1 * r 0 + 0)) + 0) := hok.2 _ (List.mem_of_getElem? (i := 0) rfl)
  obtain ⟨hG, hgi⟩ := hG
  have hG : True := hG
  have hh : g = gi := hh
  subst hh
  refine yt_dalt (by decide) (by decide) ?_
  rw [show xk_123.2.1.2.1.1.length = 6 from rfl]
  show ((((0 : Int) + (-1)) = yq_par ((1 * r 0 + 0) + 0) ((1 * r 1 + 0) + 0) ((1 * r 2 + 0) + 0) ((1 * ((1 * r 4 + 0) + 0) + 0) + 0)) ∧ (g 2) = yq_pn ((1 * r 0 + 0) + 0) ((1 * r 1 + 0) + 0) ((1 * r 2 + 0) + 0) ((1 * ((1 * r 4 + 0) + 0) + 0) + 0) (g0 2) ((1 * r 1 + 0) + 0) ∧ (g 3) = yq_pn ((1 * r 0 + 0) + 0) ((1 * r 1 + 0) + 0) ((1 * r 2 + 0) + 0) ((1 * ((1 * r 4 + 0) + 0) + 0) + 0) (g0 3) ((1 * r 2 + 0) + 0)) ∧ ((1 * ((1 * r 5 + 0) + 0) + 0) + 0) = ye_wr ((1 * ((1 * r 5 + 0) + 0) + 0) + 0) (((0 : Int) + (-1)) + 1)
  try simp only [Int.one_mul, Int.zero_add, Int.add_zero]
  refine ⟨?_, ?_⟩
  · refine ⟨?_, ?_⟩
    · unfold yq_par
      repeat' split
      all_goals omega
    · refine ⟨?_, ?_⟩
      · unfold yq_pn
        rw [if_neg (by omega)]
        rw [hgi]
      · unfold yq_pn
        rw [if_neg (by omega)]
        rw [hgi]
  · exact (ye_w0 (by omega) (by omega)).symm.trans (congrArg (ye_wr _) (show (0 : Int) = _ by omega))
theorem xw_123_0_2 : yt_hold xT_123 xk_123 xq_123.2.2.1 xG_123 xP_123 xU_123 6 xk_123.2.1.2.2.2 (fun g0 r g => xR_123 r g0 ∧ g = g0) (1000, ([(0, 39), ((-2147483648), (-1)), ((-2147483648), 2147483647), ((-2147483648), 2147483647), (1, 40), ((-2147483648), 2147483647), ((-2147483648), 0)], [([(4, 1), (0, (-1))], (-1))]), [([], (-1)), ([(6, 1)], 0), ([(5, 1)], 0)], [], []) := by
  intro g0 r gi g hok hh hars hfr hG
  have b0 : 0 ≤ r 0 ∧ r 0 ≤ 39 := hok.1 0 (0, 39) rfl
  have b1 : (-2147483648) ≤ r 1 ∧ r 1 ≤ (-1) := hok.1 1 ((-2147483648), (-1)) rfl
  have b2 : (-2147483648) ≤ r 2 ∧ r 2 ≤ 2147483647 := hok.1 2 ((-2147483648), 2147483647) rfl
  have b4 : 1 ≤ r 4 ∧ r 4 ≤ 40 := hok.1 4 (1, 40) rfl
  have b5 : (-2147483648) ≤ r 5 ∧ r 5 ≤ 2147483647 := hok.1 5 ((-2147483648), 2147483647) rfl
  have b6 : (-2147483648) ≤ r 6 ∧ r 6 ≤ 0 := hok.1 6 ((-2147483648), 0) rfl
  have f0 : 0 ≤ ((1 * r 4 + ((-1) * r 0 + 0)) + (-1)) := hok.2 _ (List.mem_of_getElem? (i := 0) rfl)
  obtain ⟨hG, hgi⟩ := hG
  have hG : True := hG
  have hh : g = gi := hh
  subst hh
  refine yt_dalt (by decide) (by decide) ?_
  rw [show xk_123.2.1.2.1.1.length = 6 from rfl]
  show ((((0 : Int) + (-1)) = yq_par ((1 * r 0 + 0) + 0) ((1 * r 1 + 0) + 0) ((1 * r 2 + 0) + 0) ((1 * ((1 * r 4 + 0) + 0) + 0) + 0)) ∧ (g 2) = yq_pn ((1 * r 0 + 0) + 0) ((1 * r 1 + 0) + 0) ((1 * r 2 + 0) + 0) ((1 * ((1 * r 4 + 0) + 0) + 0) + 0) (g0 2) ((1 * r 1 + 0) + 0) ∧ (g 3) = yq_pn ((1 * r 0 + 0) + 0) ((1 * r 1 + 0) + 0) ((1 * r 2 + 0) + 0) ((1 * ((1 * r 4 + 0) + 0) + 0) + 0) (g0 3) ((1 * r 2 + 0) + 0)) ∧ ((1 * ((1 * r 5 + 0) + 0) + 0) + 0) = ye_wr ((1 * ((1 * r 5 + 0) + 0) + 0) + 0) (((0 : Int) + (-1)) + 1)
  try simp only [Int.one_mul, Int.zero_add, Int.add_zero]
  refine ⟨?_, ?_⟩
  · refine ⟨?_, ?_⟩
    · unfold yq_par
      repeat' split
      all_goals omega
    · refine ⟨?_, ?_⟩
      · unfold yq_pn
        rw [if_neg (by omega)]
        rw [hgi]
      · unfold yq_pn
        rw [if_neg (by omega)]
        rw [hgi]
  · exact (ye_w0 (by omega) (by omega)).symm.trans (congrArg (ye_wr _) (show (0 : Int) = _ by omega))
theorem xw_123_0_3 : yt_hold xT_123 xk_123 xq_123.2.2.1 xG_123 xP_123 xU_123 6 xk_123.2.1.2.2.2 (fun g0 r g => xR_123 r g0 ∧ g = g0) (1000, ([(0, 39), (2, 2147483647), ((-2147483648), 2147483647), ((-2147483648), 2147483647), (1, 40), ((-2147483648), 2147483647), ((-2147483648), 0)], [([(4, 1), (0, (-1))], (-1))]), [([], (-1)), ([(6, 1)], 0), ([(5, 1)], 0)], [], []) := by
  intro g0 r gi g hok hh hars hfr hG
  have b0 : 0 ≤ r 0 ∧ r 0 ≤ 39 := hok.1 0 (0, 39) rfl
  have b1 : 2 ≤ r 1 ∧ r 1 ≤ 2147483647 := hok.1 1 (2, 2147483647) rfl
  have b2 : (-2147483648) ≤ r 2 ∧ r 2 ≤ 2147483647 := hok.1 2 ((-2147483648), 2147483647) rfl
  have b4 : 1 ≤ r 4 ∧ r 4 ≤ 40 := hok.1 4 (1, 40) rfl
  have b5 : (-2147483648) ≤ r 5 ∧ r 5 ≤ 2147483647 := hok.1 5 ((-2147483648), 2147483647) rfl
  have b6 : (-2147483648) ≤ r 6 ∧ r 6 ≤ 0 := hok.1 6 ((-2147483648), 0) rfl
  have f0 : 0 ≤ ((1 * r 4 + ((-1) * r 0 + 0)) + (-1)) := hok.2 _ (List.mem_of_getElem? (i := 0) rfl)
  obtain ⟨hG, hgi⟩ := hG
  have hG : True := hG
  have hh : g = gi := hh
  subst hh
  refine yt_dalt (by decide) (by decide) ?_
  rw [show xk_123.2.1.2.1.1.length = 6 from rfl]
  show ((((0 : Int) + (-1)) = yq_par ((1 * r 0 + 0) + 0) ((1 * r 1 + 0) + 0) ((1 * r 2 + 0) + 0) ((1 * ((1 * r 4 + 0) + 0) + 0) + 0)) ∧ (g 2) = yq_pn ((1 * r 0 + 0) + 0) ((1 * r 1 + 0) + 0) ((1 * r 2 + 0) + 0) ((1 * ((1 * r 4 + 0) + 0) + 0) + 0) (g0 2) ((1 * r 1 + 0) + 0) ∧ (g 3) = yq_pn ((1 * r 0 + 0) + 0) ((1 * r 1 + 0) + 0) ((1 * r 2 + 0) + 0) ((1 * ((1 * r 4 + 0) + 0) + 0) + 0) (g0 3) ((1 * r 2 + 0) + 0)) ∧ ((1 * ((1 * r 5 + 0) + 0) + 0) + 0) = ye_wr ((1 * ((1 * r 5 + 0) + 0) + 0) + 0) (((0 : Int) + (-1)) + 1)
  try simp only [Int.one_mul, Int.zero_add, Int.add_zero]
  refine ⟨?_, ?_⟩
  · refine ⟨?_, ?_⟩
    · unfold yq_par
      repeat' split
      all_goals omega
    · refine ⟨?_, ?_⟩
      · unfold yq_pn
        rw [if_neg (by omega)]
        rw [hgi]
      · unfold yq_pn
        rw [if_neg (by omega)]
        rw [hgi]
  · exact (ye_w0 (by omega) (by omega)).symm.trans (congrArg (ye_wr _) (show (0 : Int) = _ by omega))
theorem xw_123_0_4 : yt_hold xT_123 xk_123 xq_123.2.2.1 xG_123 xP_123 xU_123 6 xk_123.2.1.2.2.2 (fun g0 r g => xR_123 r g0 ∧ g = g0) (1000, ([(0, 39), (1, 1), ((-2147483648), 0), ((-2147483648), 2147483647), (1, 40), ((-2147483648), 2147483647), ((-2147483648), 0)], [([(4, 1), (0, (-1))], (-1))]), [([], (-1)), ([(6, 1)], 0), ([(5, 1)], 0)], [], []) := by
  intro g0 r gi g hok hh hars hfr hG
  have b0 : 0 ≤ r 0 ∧ r 0 ≤ 39 := hok.1 0 (0, 39) rfl
  have b1 : 1 ≤ r 1 ∧ r 1 ≤ 1 := hok.1 1 (1, 1) rfl
  have b2 : (-2147483648) ≤ r 2 ∧ r 2 ≤ 0 := hok.1 2 ((-2147483648), 0) rfl
  have b4 : 1 ≤ r 4 ∧ r 4 ≤ 40 := hok.1 4 (1, 40) rfl
  have b5 : (-2147483648) ≤ r 5 ∧ r 5 ≤ 2147483647 := hok.1 5 ((-2147483648), 2147483647) rfl
  have b6 : (-2147483648) ≤ r 6 ∧ r 6 ≤ 0 := hok.1 6 ((-2147483648), 0) rfl
  have f0 : 0 ≤ ((1 * r 4 + ((-1) * r 0 + 0)) + (-1)) := hok.2 _ (List.mem_of_getElem? (i := 0) rfl)
  obtain ⟨hG, hgi⟩ := hG
  have hG : True := hG
  have hh : g = gi := hh
  subst hh
  refine yt_dalt (by decide) (by decide) ?_
  rw [show xk_123.2.1.2.1.1.length = 6 from rfl]
  show ((((0 : Int) + (-1)) = yq_par ((1 * r 0 + 0) + 0) ((1 * r 1 + 0) + 0) ((1 * r 2 + 0) + 0) ((1 * ((1 * r 4 + 0) + 0) + 0) + 0)) ∧ (g 2) = yq_pn ((1 * r 0 + 0) + 0) ((1 * r 1 + 0) + 0) ((1 * r 2 + 0) + 0) ((1 * ((1 * r 4 + 0) + 0) + 0) + 0) (g0 2) ((1 * r 1 + 0) + 0) ∧ (g 3) = yq_pn ((1 * r 0 + 0) + 0) ((1 * r 1 + 0) + 0) ((1 * r 2 + 0) + 0) ((1 * ((1 * r 4 + 0) + 0) + 0) + 0) (g0 3) ((1 * r 2 + 0) + 0)) ∧ ((1 * ((1 * r 5 + 0) + 0) + 0) + 0) = ye_wr ((1 * ((1 * r 5 + 0) + 0) + 0) + 0) (((0 : Int) + (-1)) + 1)
  try simp only [Int.one_mul, Int.zero_add, Int.add_zero]
  refine ⟨?_, ?_⟩
  · refine ⟨?_, ?_⟩
    · unfold yq_par
      repeat' split
      all_goals omega
    · refine ⟨?_, ?_⟩
      · unfold yq_pn
        rw [if_neg (by omega)]
        rw [hgi]
      · unfold yq_pn
        rw [if_neg (by omega)]
        rw [hgi]
  · exact (ye_w0 (by omega) (by omega)).symm.trans (congrArg (ye_wr _) (show (0 : Int) = _ by omega))
theorem xw_123_0_5 : yt_hold xT_123 xk_123 xq_123.2.2.1 xG_123 xP_123 xU_123 6 xk_123.2.1.2.2.2 (fun g0 r g => xR_123 r g0 ∧ g = g0) (1000, ([(0, 39), (1, 1), (1, 1000), ((-2147483648), 2147483647), (1, 40), ((-2147483648), 2147483647), ((-2147483648), 2147483647), ((-2147483648), 0)], [([(4, 1), (0, (-1))], (-1))]), [([], 0), ([(7, 1)], 0), ([(6, 1)], 0)], [], [.inr (.inr (.inl (131, 0, [([(0, 1)], 0), ([], 1), ([(2, 1)], 0), ([(4, 1)], 0), ([(5, 1)], 0), ([(6, 1)], 0)], [1, 2, 3, 4, 5], [2, 3])))]) := by
  intro g0 r gi g hok hh hars hfr hG
  have b0 : 0 ≤ r 0 ∧ r 0 ≤ 39 := hok.1 0 (0, 39) rfl
  have b1 : 1 ≤ r 1 ∧ r 1 ≤ 1 := hok.1 1 (1, 1) rfl
  have b2 : 1 ≤ r 2 ∧ r 2 ≤ 1000 := hok.1 2 (1, 1000) rfl
  have b4 : 1 ≤ r 4 ∧ r 4 ≤ 40 := hok.1 4 (1, 40) rfl
  have b5 : (-2147483648) ≤ r 5 ∧ r 5 ≤ 2147483647 := hok.1 5 ((-2147483648), 2147483647) rfl
  have b6 : (-2147483648) ≤ r 6 ∧ r 6 ≤ 2147483647 := hok.1 6 ((-2147483648), 2147483647) rfl
  have b7 : (-2147483648) ≤ r 7 ∧ r 7 ≤ 0 := hok.1 7 ((-2147483648), 0) rfl
  have f0 : 0 ≤ ((1 * r 4 + ((-1) * r 0 + 0)) + (-1)) := hok.2 _ (List.mem_of_getElem? (i := 0) rfl)
  obtain ⟨hG, hgi⟩ := hG
  have hG : True := hG
  obtain ⟨h0, hh, e0, k0⟩ := hh
  have k0 : ∀ j, j ∉ [2, 3] → g j = h0 j := k0
  have e0 : ((g 2) = yq_set (h0 2) (((1 * r 0 + 0) + 0)).toNat ((0 : Int) + 1) ∧ (g 3) = yq_set (h0 3) (((1 * r 0 + 0) + 0)).toNat ((1 * r 2 + 0) + 0)) ∧ ((1 * ((1 * r 6 + 0) + 0) + 0) + 0) = ye_wr ((1 * ((1 * r 5 + 0) + 0) + 0) + 0) 1 := e0
  have hh : h0 = gi := hh
  subst hh
  refine yt_dalt (by decide) (by decide) ?_
  rw [show xk_123.2.1.2.1.1.length = 6 from rfl]
  show ((((0 : Int) + 0) = yq_par ((1 * r 0 + 0) + 0) ((1 * r 1 + 0) + 0) ((1 * r 2 + 0) + 0) ((1 * ((1 * r 4 + 0) + 0) + 0) + 0)) ∧ (g 2) = yq_pn ((1 * r 0 + 0) + 0) ((1 * r 1 + 0) + 0) ((1 * r 2 + 0) + 0) ((1 * ((1 * r 4 + 0) + 0) + 0) + 0) (g0 2) ((1 * r 1 + 0) + 0) ∧ (g 3) = yq_pn ((1 * r 0 + 0) + 0) ((1 * r 1 + 0) + 0) ((1 * r 2 + 0) + 0) ((1 * ((1 * r 4 + 0) + 0) + 0) + 0) (g0 3) ((1 * r 2 + 0) + 0)) ∧ ((1 * ((1 * r 6 + 0) + 0) + 0) + 0) = ye_wr ((1 * ((1 * r 5 + 0) + 0) + 0) + 0) (((0 : Int) + 0) + 1)
  try simp only [Int.one_mul, Int.zero_add, Int.add_zero]
  refine ⟨?_, ?_⟩
  · refine ⟨?_, ?_⟩
    · unfold yq_par
      repeat' split
      all_goals omega
    · try simp only [Int.one_mul, Int.zero_add, Int.add_zero] at e0
      obtain ⟨⟨m0, m1⟩, mc⟩ := e0
      refine ⟨?_, ?_⟩
      · unfold yq_pn
        rw [if_pos (by omega), m0, hgi] <;> exact congrArg (yq_set _ _) (by omega)
      · unfold yq_pn
        rw [if_pos (by omega), m1, hgi] <;> exact congrArg (yq_set _ _) (by omega)
  · try simp only [Int.one_mul, Int.zero_add, Int.add_zero] at e0
    exact e0.2.trans (congrArg (ye_wr _) (show (1 : Int) = _ by omega))
theorem xw_123_0_6 : yt_hold xT_123 xk_123 xq_123.2.2.1 xG_123 xP_123 xU_123 6 xk_123.2.1.2.2.2 (fun g0 r g => xR_123 r g0 ∧ g = g0) (1000, ([(0, 39), (1, 1), (1001, 2147483647), ((-2147483648), 2147483647), (1, 40), ((-2147483648), 2147483647), ((-2147483648), 0)], [([(4, 1), (0, (-1))], (-1))]), [([], (-1)), ([(6, 1)], 0), ([(5, 1)], 0)], [], []) := by
  intro g0 r gi g hok hh hars hfr hG
  have b0 : 0 ≤ r 0 ∧ r 0 ≤ 39 := hok.1 0 (0, 39) rfl
  have b1 : 1 ≤ r 1 ∧ r 1 ≤ 1 := hok.1 1 (1, 1) rfl
  have b2 : 1001 ≤ r 2 ∧ r 2 ≤ 2147483647 := hok.1 2 (1001, 2147483647) rfl
  have b4 : 1 ≤ r 4 ∧ r 4 ≤ 40 := hok.1 4 (1, 40) rfl
  have b5 : (-2147483648) ≤ r 5 ∧ r 5 ≤ 2147483647 := hok.1 5 ((-2147483648), 2147483647) rfl
  have b6 : (-2147483648) ≤ r 6 ∧ r 6 ≤ 0 := hok.1 6 ((-2147483648), 0) rfl
  have f0 : 0 ≤ ((1 * r 4 + ((-1) * r 0 + 0)) + (-1)) := hok.2 _ (List.mem_of_getElem? (i := 0) rfl)
  obtain ⟨hG, hgi⟩ := hG
  have hG : True := hG
  have hh : g = gi := hh
  subst hh
  refine yt_dalt (by decide) (by decide) ?_
  rw [show xk_123.2.1.2.1.1.length = 6 from rfl]
  show ((((0 : Int) + (-1)) = yq_par ((1 * r 0 + 0) + 0) ((1 * r 1 + 0) + 0) ((1 * r 2 + 0) + 0) ((1 * ((1 * r 4 + 0) + 0) + 0) + 0)) ∧ (g 2) = yq_pn ((1 * r 0 + 0) + 0) ((1 * r 1 + 0) + 0) ((1 * r 2 + 0) + 0) ((1 * ((1 * r 4 + 0) + 0) + 0) + 0) (g0 2) ((1 * r 1 + 0) + 0) ∧ (g 3) = yq_pn ((1 * r 0 + 0) + 0) ((1 * r 1 + 0) + 0) ((1 * r 2 + 0) + 0) ((1 * ((1 * r 4 + 0) + 0) + 0) + 0) (g0 3) ((1 * r 2 + 0) + 0)) ∧ ((1 * ((1 * r 5 + 0) + 0) + 0) + 0) = ye_wr ((1 * ((1 * r 5 + 0) + 0) + 0) + 0) (((0 : Int) + (-1)) + 1)
  try simp only [Int.one_mul, Int.zero_add, Int.add_zero]
  refine ⟨?_, ?_⟩
  · refine ⟨?_, ?_⟩
    · unfold yq_par
      repeat' split
      all_goals omega
    · refine ⟨?_, ?_⟩
      · unfold yq_pn
        rw [if_neg (by omega)]
        rw [hgi]
      · unfold yq_pn
        rw [if_neg (by omega)]
        rw [hgi]
  · exact (ye_w0 (by omega) (by omega)).symm.trans (congrArg (ye_wr _) (show (0 : Int) = _ by omega))
theorem xw_123_0_7 : yt_hold xT_123 xk_123 xq_123.2.2.1 xG_123 xP_123 xU_123 6 xk_123.2.1.2.2.2 (fun g0 r g => xR_123 r g0 ∧ g = g0) (1000, ([(0, 39), (0, 0), ((-2147483648), 0), ((-2147483648), 2147483647), (1, 40), ((-2147483648), 2147483647), ((-2147483648), 0)], [([(4, 1), (0, (-1))], (-1))]), [([], (-1)), ([(6, 1)], 0), ([(5, 1)], 0)], [], []) := by
  intro g0 r gi g hok hh hars hfr hG
  have b0 : 0 ≤ r 0 ∧ r 0 ≤ 39 := hok.1 0 (0, 39) rfl
  have b1 : 0 ≤ r 1 ∧ r 1 ≤ 0 := hok.1 1 (0, 0) rfl
  have b2 : (-2147483648) ≤ r 2 ∧ r 2 ≤ 0 := hok.1 2 ((-2147483648), 0) rfl
  have b4 : 1 ≤ r 4 ∧ r 4 ≤ 40 := hok.1 4 (1, 40) rfl
  have b5 : (-2147483648) ≤ r 5 ∧ r 5 ≤ 2147483647 := hok.1 5 ((-2147483648), 2147483647) rfl
  have b6 : (-2147483648) ≤ r 6 ∧ r 6 ≤ 0 := hok.1 6 ((-2147483648), 0) rfl
  have f0 : 0 ≤ ((1 * r 4 + ((-1) * r 0 + 0)) + (-1)) := hok.2 _ (List.mem_of_getElem? (i := 0) rfl)
  obtain ⟨hG, hgi⟩ := hG
  have hG : True := hG
  have hh : g = gi := hh
  subst hh
  refine yt_dalt (by decide) (by decide) ?_
  rw [show xk_123.2.1.2.1.1.length = 6 from rfl]
  show ((((0 : Int) + (-1)) = yq_par ((1 * r 0 + 0) + 0) ((1 * r 1 + 0) + 0) ((1 * r 2 + 0) + 0) ((1 * ((1 * r 4 + 0) + 0) + 0) + 0)) ∧ (g 2) = yq_pn ((1 * r 0 + 0) + 0) ((1 * r 1 + 0) + 0) ((1 * r 2 + 0) + 0) ((1 * ((1 * r 4 + 0) + 0) + 0) + 0) (g0 2) ((1 * r 1 + 0) + 0) ∧ (g 3) = yq_pn ((1 * r 0 + 0) + 0) ((1 * r 1 + 0) + 0) ((1 * r 2 + 0) + 0) ((1 * ((1 * r 4 + 0) + 0) + 0) + 0) (g0 3) ((1 * r 2 + 0) + 0)) ∧ ((1 * ((1 * r 5 + 0) + 0) + 0) + 0) = ye_wr ((1 * ((1 * r 5 + 0) + 0) + 0) + 0) (((0 : Int) + (-1)) + 1)
  try simp only [Int.one_mul, Int.zero_add, Int.add_zero]
  refine ⟨?_, ?_⟩
  · refine ⟨?_, ?_⟩
    · unfold yq_par
      repeat' split
      all_goals omega
    · refine ⟨?_, ?_⟩
      · unfold yq_pn
        rw [if_neg (by omega)]
        rw [hgi]
      · unfold yq_pn
        rw [if_neg (by omega)]
        rw [hgi]
  · exact (ye_w0 (by omega) (by omega)).symm.trans (congrArg (ye_wr _) (show (0 : Int) = _ by omega))
theorem xw_123_0_8 : yt_hold xT_123 xk_123 xq_123.2.2.1 xG_123 xP_123 xU_123 6 xk_123.2.1.2.2.2 (fun g0 r g => xR_123 r g0 ∧ g = g0) (1000, ([(0, 39), (0, 0), (1, 1000), ((-2147483648), 2147483647), (1, 40), ((-2147483648), 2147483647), ((-2147483648), 2147483647), ((-2147483648), 0)], [([(4, 1), (0, (-1))], (-1))]), [([], 0), ([(7, 1)], 0), ([(6, 1)], 0)], [], [.inr (.inr (.inl (131, 0, [([(0, 1)], 0), ([], 0), ([(2, 1)], 0), ([(4, 1)], 0), ([(5, 1)], 0), ([(6, 1)], 0)], [1, 2, 3, 4, 5], [2, 3])))]) := by
  intro g0 r gi g hok hh hars hfr hG
  have b0 : 0 ≤ r 0 ∧ r 0 ≤ 39 := hok.1 0 (0, 39) rfl
  have b1 : 0 ≤ r 1 ∧ r 1 ≤ 0 := hok.1 1 (0, 0) rfl
  have b2 : 1 ≤ r 2 ∧ r 2 ≤ 1000 := hok.1 2 (1, 1000) rfl
  have b4 : 1 ≤ r 4 ∧ r 4 ≤ 40 := hok.1 4 (1, 40) rfl
  have b5 : (-2147483648) ≤ r 5 ∧ r 5 ≤ 2147483647 := hok.1 5 ((-2147483648), 2147483647) rfl
  have b6 : (-2147483648) ≤ r 6 ∧ r 6 ≤ 2147483647 := hok.1 6 ((-2147483648), 2147483647) rfl
  have b7 : (-2147483648) ≤ r 7 ∧ r 7 ≤ 0 := hok.1 7 ((-2147483648), 0) rfl
  have f0 : 0 ≤ ((1 * r 4 + ((-1) * r 0 + 0)) + (-1)) := hok.2 _ (List.mem_of_getElem? (i := 0) rfl)
  obtain ⟨hG, hgi⟩ := hG
  have hG : True := hG
  obtain ⟨h0, hh, e0, k0⟩ := hh
  have k0 : ∀ j, j ∉ [2, 3] → g j = h0 j := k0
  have e0 : ((g 2) = yq_set (h0 2) (((1 * r 0 + 0) + 0)).toNat ((0 : Int) + 0) ∧ (g 3) = yq_set (h0 3) (((1 * r 0 + 0) + 0)).toNat ((1 * r 2 + 0) + 0)) ∧ ((1 * ((1 * r 6 + 0) + 0) + 0) + 0) = ye_wr ((1 * ((1 * r 5 + 0) + 0) + 0) + 0) 1 := e0
  have hh : h0 = gi := hh
  subst hh
  refine yt_dalt (by decide) (by decide) ?_
  rw [show xk_123.2.1.2.1.1.length = 6 from rfl]
  show ((((0 : Int) + 0) = yq_par ((1 * r 0 + 0) + 0) ((1 * r 1 + 0) + 0) ((1 * r 2 + 0) + 0) ((1 * ((1 * r 4 + 0) + 0) + 0) + 0)) ∧ (g 2) = yq_pn ((1 * r 0 + 0) + 0) ((1 * r 1 + 0) + 0) ((1 * r 2 + 0) + 0) ((1 * ((1 * r 4 + 0) + 0) + 0) + 0) (g0 2) ((1 * r 1 + 0) + 0) ∧ (g 3) = yq_pn ((1 * r 0 + 0) + 0) ((1 * r 1 + 0) + 0) ((1 * r 2 + 0) + 0) ((1 * ((1 * r 4 + 0) + 0) + 0) + 0) (g0 3) ((1 * r 2 + 0) + 0)) ∧ ((1 * ((1 * r 6 + 0) + 0) + 0) + 0) = ye_wr ((1 * ((1 * r 5 + 0) + 0) + 0) + 0) (((0 : Int) + 0) + 1)
  try simp only [Int.one_mul, Int.zero_add, Int.add_zero]
  refine ⟨?_, ?_⟩
  · refine ⟨?_, ?_⟩
    · unfold yq_par
      repeat' split
      all_goals omega
    · try simp only [Int.one_mul, Int.zero_add, Int.add_zero] at e0
      obtain ⟨⟨m0, m1⟩, mc⟩ := e0
      refine ⟨?_, ?_⟩
      · unfold yq_pn
        rw [if_pos (by omega), m0, hgi] <;> exact congrArg (yq_set _ _) (by omega)
      · unfold yq_pn
        rw [if_pos (by omega), m1, hgi] <;> exact congrArg (yq_set _ _) (by omega)
  · try simp only [Int.one_mul, Int.zero_add, Int.add_zero] at e0
    exact e0.2.trans (congrArg (ye_wr _) (show (1 : Int) = _ by omega))
theorem xw_123_0_9 : yt_hold xT_123 xk_123 xq_123.2.2.1 xG_123 xP_123 xU_123 6 xk_123.2.1.2.2.2 (fun g0 r g => xR_123 r g0 ∧ g = g0) (1000, ([(0, 39), (0, 0), (1001, 2147483647), ((-2147483648), 2147483647), (1, 40), ((-2147483648), 2147483647), ((-2147483648), 0)], [([(4, 1), (0, (-1))], (-1))]), [([], (-1)), ([(6, 1)], 0), ([(5, 1)], 0)], [], []) := by
  intro g0 r gi g hok hh hars hfr hG
  have b0 : 0 ≤ r 0 ∧ r 0 ≤ 39 := hok.1 0 (0, 39) rfl
  have b1 : 0 ≤ r 1 ∧ r 1 ≤ 0 := hok.1 1 (0, 0) rfl
  have b2 : 1001 ≤ r 2 ∧ r 2 ≤ 2147483647 := hok.1 2 (1001, 2147483647) rfl
  have b4 : 1 ≤ r 4 ∧ r 4 ≤ 40 := hok.1 4 (1, 40) rfl
  have b5 : (-2147483648) ≤ r 5 ∧ r 5 ≤ 2147483647 := hok.1 5 ((-2147483648), 2147483647) rfl
  have b6 : (-2147483648) ≤ r 6 ∧ r 6 ≤ 0 := hok.1 6 ((-2147483648), 0) rfl
  have f0 : 0 ≤ ((1 * r 4 + ((-1) * r 0 + 0)) + (-1)) := hok.2 _ (List.mem_of_getElem? (i := 0) rfl)
  obtain ⟨hG, hgi⟩ := hG
  have hG : True := hG
  have hh : g = gi := hh
  subst hh
  refine yt_dalt (by decide) (by decide) ?_
  rw [show xk_123.2.1.2.1.1.length = 6 from rfl]
  show ((((0 : Int) + (-1)) = yq_par ((1 * r 0 + 0) + 0) ((1 * r 1 + 0) + 0) ((1 * r 2 + 0) + 0) ((1 * ((1 * r 4 + 0) + 0) + 0) + 0)) ∧ (g 2) = yq_pn ((1 * r 0 + 0) + 0) ((1 * r 1 + 0) + 0) ((1 * r 2 + 0) + 0) ((1 * ((1 * r 4 + 0) + 0) + 0) + 0) (g0 2) ((1 * r 1 + 0) + 0) ∧ (g 3) = yq_pn ((1 * r 0 + 0) + 0) ((1 * r 1 + 0) + 0) ((1 * r 2 + 0) + 0) ((1 * ((1 * r 4 + 0) + 0) + 0) + 0) (g0 3) ((1 * r 2 + 0) + 0)) ∧ ((1 * ((1 * r 5 + 0) + 0) + 0) + 0) = ye_wr ((1 * ((1 * r 5 + 0) + 0) + 0) + 0) (((0 : Int) + (-1)) + 1)
  try simp only [Int.one_mul, Int.zero_add, Int.add_zero]
  refine ⟨?_, ?_⟩
  · refine ⟨?_, ?_⟩
    · unfold yq_par
      repeat' split
      all_goals omega
    · refine ⟨?_, ?_⟩
      · unfold yq_pn
        rw [if_neg (by omega)]
        rw [hgi]
      · unfold yq_pn
        rw [if_neg (by omega)]
        rw [hgi]
  · exact (ye_w0 (by omega) (by omega)).symm.trans (congrArg (ye_wr _) (show (0 : Int) = _ by omega))
theorem xn_123 : ∀ (j : Nat) (q : Nat × yt_T), xq_123.2.2.1[j]? = some q → q.2.2.2 = false → ∀ g0 r g, xG_123 j g0 r g
  | n + 0, q, hq, _ => by cases hq
theorem xs_123 : ∀ j, xq_123.2.2.2.getD j false = false → ∀ r g g', xP_123 j r g g'
  | 0, hf => by cases hf
  | n + 1, _ => fun _ _ _ => trivial
theorem xc_123 {l : Launch} {D : va_G} {cT : Nat → ClassId} {tys : List (ClassId × FieldType)} (hty : yx_Ty tys cT) : yt_Con l D vwCl cT tys yG yw_s70 xk_123 xR_123 xP_123 := yx_sem (calls := xa_123) (Z := xq_123) (tb := xT_123) (pt := xU_123) (Ga := xG_123) (vs := xv_123) (fun _ _ _ _ => trivial) 300 (by decide +kernel) yz_X11_paint_ok hty (yl_lkX11 _) (yl_cqkX11 _) (List.forall_mem_cons.mpr ⟨⟨xc_48 hty, yg_CLv rfl rfl rfl yl_wX11_118 yd_yX6_has, fun _ _ _ => trivial⟩, List.forall_mem_cons.mpr ⟨⟨xc_61 hty, yg_CLs yl_wX11_103 yd_yX6_isColour, fun _ _ _ => trivial⟩, List.forall_mem_cons.mpr ⟨⟨xc_3 hty, yg_CLv rfl rfl rfl yl_wX11_107 yd_yX11_told, fun _ _ _ => trivial⟩, List.forall_mem_cons.mpr ⟨⟨xc_122 hty, yg_CLv rfl rfl rfl yl_wX11_138 yd_yX6_repaint, fun _ _ _ => trivial⟩, fun _ h => absurd h List.not_mem_nil⟩⟩⟩⟩) (xn_123) (xs_123) (by decide +kernel) (List.forall_mem_cons.mpr ⟨xw_123_0_0, List.forall_mem_cons.mpr ⟨xw_123_0_1, List.forall_mem_cons.mpr ⟨xw_123_0_2, List.forall_mem_cons.mpr ⟨xw_123_0_3, List.forall_mem_cons.mpr ⟨xw_123_0_4, List.forall_mem_cons.mpr ⟨xw_123_0_5, List.forall_mem_cons.mpr ⟨xw_123_0_6, List.forall_mem_cons.mpr ⟨xw_123_0_7, List.forall_mem_cons.mpr ⟨xw_123_0_8, List.forall_mem_cons.mpr ⟨xw_123_0_9, fun _ h => absurd h List.not_mem_nil⟩⟩⟩⟩⟩⟩⟩⟩⟩⟩) (trivial)
noncomputable def xf_124 : ys_F := (yw_f56 0, yw_r56)
noncomputable def xk_124 : ys_K := (((yX11_parted, cX11_parted, 1, (some .int)), (6, 144)), ([.inr (some 0)], ([] ++ yw_e56, []), xf_124), ([([(0, 1), (0, 1), ((-9223372036854775808), 9223372036854775807), ((-9223372036854775808), 9223372036854775807), ((-9223372036854775808), 9223372036854775807), (0, 40), ((-2147483648), 2147483647), ((-600), 600), ((-600), 600), ((-1000000), 1000000), ((-1000000), 1000000), ((-9223372036854775808), 9223372036854775807), ((-9223372036854775808), 9223372036854775807)], [], ((ys_fs xf_124.1 [(5, 1, .inl (.inl ([(16, 1)], 0))), (5, 2, .inl (.inr ([(17, 1)], 0))), (5, 3, .inl (.inr ([(18, 1)], 0))), (5, 4, .inl (.inr ([(19, 1)], 0))), (5, 5, .inl (.inl ([(20, 1)], 0))), (5, 6, .inl (.inl ([(21, 1)], 0))), (5, 7, .inl (.inl ([(22, 1)], 0))), (5, 8, .inl (.inl ([(23, 1)], 0))), (5, 9, .inl (.inl ([(24, 1)], 0))), (5, 10, .inl (.inl ([(25, 1)], 0))), (6, 0, .inl (.inr ([(26, 1)], 0))), (6, 1, .inl (.inr ([(27, 1)], 0)))]), xf_124.2), some (.inl (.inl ([(15, 1)], 0))))], []))
noncomputable def xq_124 : yt_Q := (yz_X11_parted, (yl_flX11, yl_ciX11, yl_cjX11, yl_cpX11, yl_cqX11), [], [true])
noncomputable def xa_124 : List yt_CE := [(((184, false), (306, false, [0, 1, 2, 3, 4, 5, 6, 7, 8, 9, 10, 11, 12, 13, 14, 15, 16, 17, 18, 19])), (yw_s56, xk_91))]
noncomputable def xv_124 : List (List yt_VC) := [[(1000, ([((-2147483648), 2147483647), (0, 40), ((-2147483648), 2147483647), (0, 1), ((-9223372036854775808), 9223372036854775807), ((-9223372036854775808), 9223372036854775807), ((-9223372036854775808), 9223372036854775807), (0, 40), ((-2147483648), 2147483647), ((-600), 600), ((-600), 600), ((-1000000), 1000000), ((-1000000), 1000000), ((-9223372036854775808), 9223372036854775807), ((-9223372036854775808), 9223372036854775807)], []), [([], 1), ([(3, 1)], 0), ([(4, 1)], 0), ([(5, 1)], 0), ([(6, 1)], 0), ([(7, 1)], 0), ([(8, 1)], 0), ([(9, 1)], 0), ([(10, 1)], 0), ([(11, 1)], 0), ([(12, 1)], 0), ([(13, 1)], 0), ([(14, 1)], 0)], [], [.inr (.inr (.inl (306, 0, [([(0, 1)], 0), ([(1, 1)], 0), ([(2, 1)], 0), ([(3, 1)], 0), ([(4, 1)], 0), ([(5, 1)], 0), ([(6, 1)], 0), ([(7, 1)], 0), ([(8, 1)], 0), ([(9, 1)], 0), ([(10, 1)], 0), ([(11, 1)], 0), ([(12, 1)], 0), ([(13, 1)], 0), ([(14, 1)], 0)], [0, 1, 2, 3, 4, 5, 6, 7, 8, 9, 10, 11, 12, 13, 14, 15, 16, 17, 18, 19], [])))]),
   (1000, ([((-2147483648), 2147483647), (2, 40), ((-2147483648), 2147483647), (0, 1), ((-9223372036854775808), 9223372036854775807), ((-9223372036854775808), 9223372036854775807), ((-9223372036854775808), 9223372036854775807), (0, 40), ((-2147483648), 2147483647), ((-600), 600), ((-600), 600), ((-1000000), 1000000), ((-1000000), 1000000), ((-9223372036854775808), 9223372036854775807), ((-9223372036854775808), 9223372036854775807), (0, 0), (0, 1), ((-9223372036854775808), 9223372036854775807), ((-9223372036854775808), 9223372036854775807), ((-9223372036854775808), 9223372036854775807), (0, 40), ((-2147483648), 2147483647), ((-600), 600), ((-600), 600), ((-1000000), 1000000), ((-1000000), 1000000), ((-9223372036854775808), 9223372036854775807), ((-9223372036854775808), 9223372036854775807)], []), [([], 0), ([(16, 1)], 0), ([(17, 1)], 0), ([(18, 1)], 0), ([(19, 1)], 0), ([(20, 1)], 0), ([(21, 1)], 0), ([(22, 1)], 0), ([(23, 1)], 0), ([(24, 1)], 0), ([(25, 1)], 0), ([(26, 1)], 0), ([(27, 1)], 0)], [], [.inr (.inr (.inl (306, 1, [([(0, 1)], 0), ([(1, 1)], 0), ([(2, 1)], 0), ([(3, 1)], 0), ([(4, 1)], 0), ([(5, 1)], 0), ([(6, 1)], 0), ([(7, 1)], 0), ([(8, 1)], 0), ([(9, 1)], 0), ([(10, 1)], 0), ([(11, 1)], 0), ([(12, 1)], 0), ([(13, 1)], 0), ([(14, 1)], 0), ([(15, 1)], 0), ([(16, 1)], 0), ([(17, 1)], 0), ([(18, 1)], 0), ([(19, 1)], 0), ([(20, 1)], 0), ([(21, 1)], 0), ([(22, 1)], 0), ([(23, 1)], 0), ([(24, 1)], 0), ([(25, 1)], 0), ([(26, 1)], 0), ([(27, 1)], 0)], [0, 1, 2, 3, 4, 5, 6, 7, 8, 9, 10, 11, 12, 13, 14, 15, 16, 17, 18, 19], [])))]),
   (1000, ([((-2147483648), 2147483647), (2, 40), ((-2147483648), 2147483647), (0, 1), ((-9223372036854775808), 9223372036854775807), ((-9223372036854775808), 9223372036854775807), ((-9223372036854775808), 9223372036854775807), (0, 40), ((-2147483648), 2147483647), ((-600), 600), ((-600), 600), ((-1000000), 1000000), ((-1000000), 1000000), ((-9223372036854775808), 9223372036854775807), ((-9223372036854775808), 9223372036854775807), (1, 1), (0, 1), ((-9223372036854775808), 9223372036854775807), ((-9223372036854775808), 9223372036854775807), ((-9223372036854775808), 9223372036854775807), (0, 40), ((-2147483648), 2147483647), ((-600), 600), ((-600), 600), ((-1000000), 1000000), ((-1000000), 1000000), ((-9223372036854775808), 9223372036854775807), ((-9223372036854775808), 9223372036854775807)], []), [([], 1), ([(16, 1)], 0), ([(17, 1)], 0), ([(18, 1)], 0), ([(19, 1)], 0), ([(20, 1)], 0), ([(21, 1)], 0), ([(22, 1)], 0), ([(23, 1)], 0), ([(24, 1)], 0), ([(25, 1)], 0), ([(26, 1)], 0), ([(27, 1)], 0)], [], [.inr (.inr (.inl (306, 1, [([(0, 1)], 0), ([(1, 1)], 0), ([(2, 1)], 0), ([(3, 1)], 0), ([(4, 1)], 0), ([(5, 1)], 0), ([(6, 1)], 0), ([(7, 1)], 0), ([(8, 1)], 0), ([(9, 1)], 0), ([(10, 1)], 0), ([(11, 1)], 0), ([(12, 1)], 0), ([(13, 1)], 0), ([(14, 1)], 0), ([(15, 1)], 0), ([(16, 1)], 0), ([(17, 1)], 0), ([(18, 1)], 0), ([(19, 1)], 0), ([(20, 1)], 0), ([(21, 1)], 0), ([(22, 1)], 0), ([(23, 1)], 0), ([(24, 1)], 0), ([(25, 1)], 0), ([(26, 1)], 0), ([(27, 1)], 0)], [0, 1, 2, 3, 4, 5, 6, 7, 8, 9, 10, 11, 12, 13, 14, 15, 16, 17, 18, 19], [])))])]]
noncomputable def xG_124 : Nat → yt_G → (Nat → Int) → yt_G → Prop
  | _, _, _, _ => True
noncomputable def xP_124 : yt_Ph
  | 0, r, g0, g => (¬ ye_bo (g0 4) (((1 * (r 1) + 0) + 0)).toNat ∧ (r 15) = 1 ∧ (((1 * (r 21) + 0) + 0) = ((1 * (r 8) + 0) + 0) ∧ (((1 * (r 16) + 0) + 0), ((1 * (r 22) + 0) + 0), ((1 * (r 23) + 0) + 0), ((1 * (r 24) + 0) + 0), ((1 * (r 25) + 0) + 0)) = (((1 * (r 3) + 0) + 0), ((1 * (r 9) + 0) + 0), ((1 * (r 10) + 0) + 0), ((1 * (r 11) + 0) + 0), ((1 * (r 12) + 0) + 0)) ∧ (((1 * (r 26) + 0) + 0), ((1 * (r 27) + 0) + 0), ((1 * (r 17) + 0) + 0), ((1 * (r 18) + 0) + 0), ((1 * (r 19) + 0) + 0), ((1 * (r 20) + 0) + 0)) = (((1 * (r 13) + 0) + 0), ((1 * (r 14) + 0) + 0), ((1 * (r 4) + 0) + 0), ((1 * (r 5) + 0) + 0), ((1 * (r 6) + 0) + 0), ((1 * (r 7) + 0) + 0)))) ∨ (ye_bo (g0 4) (((1 * (r 1) + 0) + 0)).toNat ∧ (ye_fd (g0 2) (g0 3) (g0 4) (((1 * (r 1) + 0) + 0)).toNat ((1 * (r 2) + 0) + 0) ((1 * (r 8) + 0) + 0) (((1 * (r 3) + 0) + 0), ((1 * (r 9) + 0) + 0), ((1 * (r 10) + 0) + 0), ((1 * (r 11) + 0) + 0), ((1 * (r 12) + 0) + 0)) ((1 * (r 21) + 0) + 0) (((1 * (r 16) + 0) + 0), ((1 * (r 22) + 0) + 0), ((1 * (r 23) + 0) + 0), ((1 * (r 24) + 0) + 0), ((1 * (r 25) + 0) + 0)) ∧ ye_fo (g0 2) (g0 3) (((1 * (r 1) + 0) + 0)).toNat ((1 * (r 2) + 0) + 0) ((1 * (r 8) + 0) + 0) (((1 * (r 13) + 0) + 0), ((1 * (r 14) + 0) + 0), ((1 * (r 4) + 0) + 0), ((1 * (r 5) + 0) + 0), ((1 * (r 6) + 0) + 0), ((1 * (r 7) + 0) + 0)) (((1 * (r 16) + 0) + 0), ((1 * (r 22) + 0) + 0), ((1 * (r 23) + 0) + 0), ((1 * (r 24) + 0) + 0), ((1 * (r 25) + 0) + 0)) (((1 * (r 26) + 0) + 0), ((1 * (r 27) + 0) + 0), ((1 * (r 17) + 0) + 0), ((1 * (r 18) + 0) + 0), ((1 * (r 19) + 0) + 0), ((1 * (r 20) + 0) + 0))) ∧ (r 15) = ((1 * (r 16) + 0) + 0))
  | _, _, _, _ => True
noncomputable def xR_124 : yt_Ps := fun r g0 => True
noncomputable def xT_124 : yt_Tb := fun d => match d with
  | 306 => xP_91
  | _ => fun _ _ _ _ => True
noncomputable def xU_124 : Nat → yt_Ps := fun d => match d with
  | 306 => xR_91
  | _ => fun _ _ => True
theorem xw_124_0_0 : yt_hold xT_124 xk_124 xq_124.2.2.1 xG_124 xP_124 xU_124 15 xk_124.2.1.2.2.2 (fun g0 r g => xR_124 r g0 ∧ g = g0) (1000, ([((-2147483648), 2147483647), (0, 40), ((-2147483648), 2147483647), (0, 1), ((-9223372036854775808), 9223372036854775807), ((-9223372036854775808), 9223372036854775807), ((-9223372036854775808), 9223372036854775807), (0, 40), ((-2147483648), 2147483647), ((-600), 600), ((-600), 600), ((-1000000), 1000000), ((-1000000), 1000000), ((-9223372036854775808), 9223372036854775807), ((-9223372036854775808), 9223372036854775807)], []), [([], 1), ([(3, 1)], 0), ([(4, 1)], 0), ([(5, 1)], 0), ([(6, 1)], 0), ([(7, 1)], 0), ([(8, 1)], 0), ([(9, 1)], 0), ([(10, 1)], 0), ([(11, 1)], 0), ([(12, 1)], 0), ([(13, 1)], 0), ([(14, 1)], 0)], [], [.inr (.inr (.inl (306, 0, [([(0, 1)], 0), ([(1, 1)], 0), ([(2, 1)], 0), ([(3, 1)], 0), ([(4, 1)], 0), ([(5, 1)], 0), ([(6, 1)], 0), ([(7, 1)], 0), ([(8, 1)], 0), ([(9, 1)], 0), ([(10, 1)], 0), ([(11, 1)], 0), ([(12, 1)], 0), ([(13, 1)], 0), ([(14, 1)], 0)], [0, 1, 2, 3, 4, 5, 6, 7, 8, 9, 10, 11, 12, 13, 14, 15, 16, 17, 18, 19], [])))]) := by
  intro g0 r gi g hok hh hars hfr hG
  obtain ⟨hG, hgi⟩ := hG
  have hG : True := hG
  obtain ⟨h0, hh, e0, k0⟩ := hh
  have k0 : ∀ j, j ∉ [] → g j = h0 j := k0
  have e0 : ¬ ye_bo (h0 4) (((1 * ((1 * r 1 + 0) + 0) + 0) + 0)).toNat := e0
  have hh : h0 = gi := hh
  subst hh
  refine yt_dalt (by decide) (by decide) ?_
  rw [show xk_124.2.1.2.1.1.length = 15 from rfl]
  show (¬ ye_bo (g0 4) (((1 * ((1 * r 1 + 0) + 0) + 0) + 0)).toNat ∧ ((0 : Int) + 1) = 1 ∧ (((1 * ((1 * r 8 + 0) + 0) + 0) + 0) = ((1 * ((1 * r 8 + 0) + 0) + 0) + 0) ∧ (((1 * ((1 * r 3 + 0) + 0) + 0) + 0), ((1 * ((1 * r 9 + 0) + 0) + 0) + 0), ((1 * ((1 * r 10 + 0) + 0) + 0) + 0), ((1 * ((1 * r 11 + 0) + 0) + 0) + 0), ((1 * ((1 * r 12 + 0) + 0) + 0) + 0)) = (((1 * ((1 * r 3 + 0) + 0) + 0) + 0), ((1 * ((1 * r 9 + 0) + 0) + 0) + 0), ((1 * ((1 * r 10 + 0) + 0) + 0) + 0), ((1 * ((1 * r 11 + 0) + 0) + 0) + 0), ((1 * ((1 * r 12 + 0) + 0) + 0) + 0)) ∧ (((1 * ((1 * r 13 + 0) + 0) + 0) + 0), ((1 * ((1 * r 14 + 0) + 0) + 0) + 0), ((1 * ((1 * r 4 + 0) + 0) + 0) + 0), ((1 * ((1 * r 5 + 0) + 0) + 0) + 0), ((1 * ((1 * r 6 + 0) + 0) + 0) + 0), ((1 * ((1 * r 7 + 0) + 0) + 0) + 0)) = (((1 * ((1 * r 13 + 0) + 0) + 0) + 0), ((1 * ((1 * r 14 + 0) + 0) + 0) + 0), ((1 * ((1 * r 4 + 0) + 0) + 0) + 0), ((1 * ((1 * r 5 + 0) + 0) + 0) + 0), ((1 * ((1 * r 6 + 0) + 0) + 0) + 0), ((1 * ((1 * r 7 + 0) + 0) + 0) + 0)))) ∨ (ye_bo (g0 4) (((1 * ((1 * r 1 + 0) + 0) + 0) + 0)).toNat ∧ (ye_fd (g0 2) (g0 3) (g0 4) (((1 * ((1 * r 1 + 0) + 0) + 0) + 0)).toNat ((1 * ((1 * r 2 + 0) + 0) + 0) + 0) ((1 * ((1 * r 8 + 0) + 0) + 0) + 0) (((1 * ((1 * r 3 + 0) + 0) + 0) + 0), ((1 * ((1 * r 9 + 0) + 0) + 0) + 0), ((1 * ((1 * r 10 + 0) + 0) + 0) + 0), ((1 * ((1 * r 11 + 0) + 0) + 0) + 0), ((1 * ((1 * r 12 + 0) + 0) + 0) + 0)) ((1 * ((1 * r 8 + 0) + 0) + 0) + 0) (((1 * ((1 * r 3 + 0) + 0) + 0) + 0), ((1 * ((1 * r 9 + 0) + 0) + 0) + 0), ((1 * ((1 * r 10 + 0) + 0) + 0) + 0), ((1 * ((1 * r 11 + 0) + 0) + 0) + 0), ((1 * ((1 * r 12 + 0) + 0) + 0) + 0)) ∧ ye_fo (g0 2) (g0 3) (((1 * ((1 * r 1 + 0) + 0) + 0) + 0)).toNat ((1 * ((1 * r 2 + 0) + 0) + 0) + 0) ((1 * ((1 * r 8 + 0) + 0) + 0) + 0) (((1 * ((1 * r 13 + 0) + 0) + 0) + 0), ((1 * ((1 * r 14 + 0) + 0) + 0) + 0), ((1 * ((1 * r 4 + 0) + 0) + 0) + 0), ((1 * ((1 * r 5 + 0) + 0) + 0) + 0), ((1 * ((1 * r 6 + 0) + 0) + 0) + 0), ((1 * ((1 * r 7 + 0) + 0) + 0) + 0)) (((1 * ((1 * r 3 + 0) + 0) + 0) + 0), ((1 * ((1 * r 9 + 0) + 0) + 0) + 0), ((1 * ((1 * r 10 + 0) + 0) + 0) + 0), ((1 * ((1 * r 11 + 0) + 0) + 0) + 0), ((1 * ((1 * r 12 + 0) + 0) + 0) + 0)) (((1 * ((1 * r 13 + 0) + 0) + 0) + 0), ((1 * ((1 * r 14 + 0) + 0) + 0) + 0), ((1 * ((1 * r 4 + 0) + 0) + 0) + 0), ((1 * ((1 * r 5 + 0) + 0) + 0) + 0), ((1 * ((1 * r 6 + 0) + 0) + 0) + 0), ((1 * ((1 * r 7 + 0) + 0) + 0) + 0))) ∧ ((0 : Int) + 1) = ((1 * ((1 * r 3 + 0) + 0) + 0) + 0))
  try simp only [Int.one_mul, Int.zero_add, Int.add_zero]
  try simp only [Int.one_mul, Int.zero_add, Int.add_zero] at e0
  rw [hgi] at e0
  exact Or.inl ⟨e0, by first | rfl | trivial, ⟨by first | rfl | trivial, by first | rfl | trivial, by first | rfl | trivial⟩⟩
theorem xw_124_0_1 : yt_hold xT_124 xk_124 xq_124.2.2.1 xG_124 xP_124 xU_124 15 xk_124.2.1.2.2.2 (fun g0 r g => xR_124 r g0 ∧ g = g0) (1000, ([((-2147483648), 2147483647), (2, 40), ((-2147483648), 2147483647), (0, 1), ((-9223372036854775808), 9223372036854775807), ((-9223372036854775808), 9223372036854775807), ((-9223372036854775808), 9223372036854775807), (0, 40), ((-2147483648), 2147483647), ((-600), 600), ((-600), 600), ((-1000000), 1000000), ((-1000000), 1000000), ((-9223372036854775808), 9223372036854775807), ((-9223372036854775808), 9223372036854775807), (0, 0), (0, 1), ((-9223372036854775808), 9223372036854775807), ((-9223372036854775808), 9223372036854775807), ((-9223372036854775808), 9223372036854775807), (0, 40), ((-2147483648), 2147483647), ((-600), 600), ((-600), 600), ((-1000000), 1000000), ((-1000000), 1000000), ((-9223372036854775808), 9223372036854775807), ((-9223372036854775808), 9223372036854775807)], []), [([], 0), ([(16, 1)], 0), ([(17, 1)], 0), ([(18, 1)], 0), ([(19, 1)], 0), ([(20, 1)], 0), ([(21, 1)], 0), ([(22, 1)], 0), ([(23, 1)], 0), ([(24, 1)], 0), ([(25, 1)], 0), ([(26, 1)], 0), ([(27, 1)], 0)], [], [.inr (.inr (.inl (306, 1, [([(0, 1)], 0), ([(1, 1)], 0), ([(2, 1)], 0), ([(3, 1)], 0), ([(4, 1)], 0), ([(5, 1)], 0), ([(6, 1)], 0), ([(7, 1)], 0), ([(8, 1)], 0), ([(9, 1)], 0), ([(10, 1)], 0), ([(11, 1)], 0), ([(12, 1)], 0), ([(13, 1)], 0), ([(14, 1)], 0), ([(15, 1)], 0), ([(16, 1)], 0), ([(17, 1)], 0), ([(18, 1)], 0), ([(19, 1)], 0), ([(20, 1)], 0), ([(21, 1)], 0), ([(22, 1)], 0), ([(23, 1)], 0), ([(24, 1)], 0), ([(25, 1)], 0), ([(26, 1)], 0), ([(27, 1)], 0)], [0, 1, 2, 3, 4, 5, 6, 7, 8, 9, 10, 11, 12, 13, 14, 15, 16, 17, 18, 19], [])))]) := by
  intro g0 r gi g hok hh hars hfr hG
  have b15 : 0 ≤ r 15 ∧ r 15 ≤ 0 := hok.1 15 (0, 0) rfl
  have b16 : 0 ≤ r 16 ∧ r 16 ≤ 1 := hok.1 16 (0, 1) rfl
  have b17 : (-9223372036854775808) ≤ r 17 ∧ r 17 ≤ 9223372036854775807 := hok.1 17 ((-9223372036854775808), 9223372036854775807) rfl
  have b18 : (-9223372036854775808) ≤ r 18 ∧ r 18 ≤ 9223372036854775807 := hok.1 18 ((-9223372036854775808), 9223372036854775807) rfl
  have b19 : (-9223372036854775808) ≤ r 19 ∧ r 19 ≤ 9223372036854775807 := hok.1 19 ((-9223372036854775808), 9223372036854775807) rfl
  have b20 : 0 ≤ r 20 ∧ r 20 ≤ 40 := hok.1 20 (0, 40) rfl
  have b21 : (-2147483648) ≤ r 21 ∧ r 21 ≤ 2147483647 := hok.1 21 ((-2147483648), 2147483647) rfl
  have b22 : (-600) ≤ r 22 ∧ r 22 ≤ 600 := hok.1 22 ((-600), 600) rfl
  have b23 : (-600) ≤ r 23 ∧ r 23 ≤ 600 := hok.1 23 ((-600), 600) rfl
  have b24 : (-1000000) ≤ r 24 ∧ r 24 ≤ 1000000 := hok.1 24 ((-1000000), 1000000) rfl
  have b25 : (-1000000) ≤ r 25 ∧ r 25 ≤ 1000000 := hok.1 25 ((-1000000), 1000000) rfl
  have b26 : (-9223372036854775808) ≤ r 26 ∧ r 26 ≤ 9223372036854775807 := hok.1 26 ((-9223372036854775808), 9223372036854775807) rfl
  have b27 : (-9223372036854775808) ≤ r 27 ∧ r 27 ≤ 9223372036854775807 := hok.1 27 ((-9223372036854775808), 9223372036854775807) rfl
  obtain ⟨hG, hgi⟩ := hG
  have hG : True := hG
  obtain ⟨h0, hh, e0, k0⟩ := hh
  have k0 : ∀ j, j ∉ [] → g j = h0 j := k0
  have e0 : ye_bo (h0 4) (((1 * ((1 * r 1 + 0) + 0) + 0) + 0)).toNat ∧ (ye_fd (h0 2) (h0 3) (h0 4) (((1 * ((1 * r 1 + 0) + 0) + 0) + 0)).toNat ((1 * ((1 * r 2 + 0) + 0) + 0) + 0) ((1 * ((1 * r 8 + 0) + 0) + 0) + 0) (((1 * ((1 * r 3 + 0) + 0) + 0) + 0), ((1 * ((1 * r 9 + 0) + 0) + 0) + 0), ((1 * ((1 * r 10 + 0) + 0) + 0) + 0), ((1 * ((1 * r 11 + 0) + 0) + 0) + 0), ((1 * ((1 * r 12 + 0) + 0) + 0) + 0)) ((1 * ((1 * r 21 + 0) + 0) + 0) + 0) (((1 * ((1 * r 16 + 0) + 0) + 0) + 0), ((1 * ((1 * r 22 + 0) + 0) + 0) + 0), ((1 * ((1 * r 23 + 0) + 0) + 0) + 0), ((1 * ((1 * r 24 + 0) + 0) + 0) + 0), ((1 * ((1 * r 25 + 0) + 0) + 0) + 0)) ∧ ye_fo (h0 2) (h0 3) (((1 * ((1 * r 1 + 0) + 0) + 0) + 0)).toNat ((1 * ((1 * r 2 + 0) + 0) + 0) + 0) ((1 * ((1 * r 8 + 0) + 0) + 0) + 0) (((1 * ((1 * r 13 + 0) + 0) + 0) + 0), ((1 * ((1 * r 14 + 0) + 0) + 0) + 0), ((1 * ((1 * r 4 + 0) + 0) + 0) + 0), ((1 * ((1 * r 5 + 0) + 0) + 0) + 0), ((1 * ((1 * r 6 + 0) + 0) + 0) + 0), ((1 * ((1 * r 7 + 0) + 0) + 0) + 0)) (((1 * ((1 * r 16 + 0) + 0) + 0) + 0), ((1 * ((1 * r 22 + 0) + 0) + 0) + 0), ((1 * ((1 * r 23 + 0) + 0) + 0) + 0), ((1 * ((1 * r 24 + 0) + 0) + 0) + 0), ((1 * ((1 * r 25 + 0) + 0) + 0) + 0)) (((1 * ((1 * r 26 + 0) + 0) + 0) + 0), ((1 * ((1 * r 27 + 0) + 0) + 0) + 0), ((1 * ((1 * r 17 + 0) + 0) + 0) + 0), ((1 * ((1 * r 18 + 0) + 0) + 0) + 0), ((1 * ((1 * r 19 + 0) + 0) + 0) + 0), ((1 * ((1 * r 20 + 0) + 0) + 0) + 0))) ∧ ((1 * r 15 + 0) + 0) = ((1 * ((1 * r 16 + 0) + 0) + 0) + 0) := e0
  have hh : h0 = gi := hh
  subst hh
  refine yt_dalt (by decide) (by decide) ?_
  rw [show xk_124.2.1.2.1.1.length = 15 from rfl]
  show (¬ ye_bo (g0 4) (((1 * ((1 * r 1 + 0) + 0) + 0) + 0)).toNat ∧ ((0 : Int) + 0) = 1 ∧ (((1 * ((1 * r 21 + 0) + 0) + 0) + 0) = ((1 * ((1 * r 8 + 0) + 0) + 0) + 0) ∧ (((1 * ((1 * r 16 + 0) + 0) + 0) + 0), ((1 * ((1 * r 22 + 0) + 0) + 0) + 0), ((1 * ((1 * r 23 + 0) + 0) + 0) + 0), ((1 * ((1 * r 24 + 0) + 0) + 0) + 0), ((1 * ((1 * r 25 + 0) + 0) + 0) + 0)) = (((1 * ((1 * r 3 + 0) + 0) + 0) + 0), ((1 * ((1 * r 9 + 0) + 0) + 0) + 0), ((1 * ((1 * r 10 + 0) + 0) + 0) + 0), ((1 * ((1 * r 11 + 0) + 0) + 0) + 0), ((1 * ((1 * r 12 + 0) + 0) + 0) + 0)) ∧ (((1 * ((1 * r 26 + 0) + 0) + 0) + 0), ((1 * ((1 * r 27 + 0) + 0) + 0) + 0), ((1 * ((1 * r 17 + 0) + 0) + 0) + 0), ((1 * ((1 * r 18 + 0) + 0) + 0) + 0), ((1 * ((1 * r 19 + 0) + 0) + 0) + 0), ((1 * ((1 * r 20 + 0) + 0) + 0) + 0)) = (((1 * ((1 * r 13 + 0) + 0) + 0) + 0), ((1 * ((1 * r 14 + 0) + 0) + 0) + 0), ((1 * ((1 * r 4 + 0) + 0) + 0) + 0), ((1 * ((1 * r 5 + 0) + 0) + 0) + 0), ((1 * ((1 * r 6 + 0) + 0) + 0) + 0), ((1 * ((1 * r 7 + 0) + 0) + 0) + 0)))) ∨ (ye_bo (g0 4) (((1 * ((1 * r 1 + 0) + 0) + 0) + 0)).toNat ∧ (ye_fd (g0 2) (g0 3) (g0 4) (((1 * ((1 * r 1 + 0) + 0) + 0) + 0)).toNat ((1 * ((1 * r 2 + 0) + 0) + 0) + 0) ((1 * ((1 * r 8 + 0) + 0) + 0) + 0) (((1 * ((1 * r 3 + 0) + 0) + 0) + 0), ((1 * ((1 * r 9 + 0) + 0) + 0) + 0), ((1 * ((1 * r 10 + 0) + 0) + 0) + 0), ((1 * ((1 * r 11 + 0) + 0) + 0) + 0), ((1 * ((1 * r 12 + 0) + 0) + 0) + 0)) ((1 * ((1 * r 21 + 0) + 0) + 0) + 0) (((1 * ((1 * r 16 + 0) + 0) + 0) + 0), ((1 * ((1 * r 22 + 0) + 0) + 0) + 0), ((1 * ((1 * r 23 + 0) + 0) + 0) + 0), ((1 * ((1 * r 24 + 0) + 0) + 0) + 0), ((1 * ((1 * r 25 + 0) + 0) + 0) + 0)) ∧ ye_fo (g0 2) (g0 3) (((1 * ((1 * r 1 + 0) + 0) + 0) + 0)).toNat ((1 * ((1 * r 2 + 0) + 0) + 0) + 0) ((1 * ((1 * r 8 + 0) + 0) + 0) + 0) (((1 * ((1 * r 13 + 0) + 0) + 0) + 0), ((1 * ((1 * r 14 + 0) + 0) + 0) + 0), ((1 * ((1 * r 4 + 0) + 0) + 0) + 0), ((1 * ((1 * r 5 + 0) + 0) + 0) + 0), ((1 * ((1 * r 6 + 0) + 0) + 0) + 0), ((1 * ((1 * r 7 + 0) + 0) + 0) + 0)) (((1 * ((1 * r 16 + 0) + 0) + 0) + 0), ((1 * ((1 * r 22 + 0) + 0) + 0) + 0), ((1 * ((1 * r 23 + 0) + 0) + 0) + 0), ((1 * ((1 * r 24 + 0) + 0) + 0) + 0), ((1 * ((1 * r 25 + 0) + 0) + 0) + 0)) (((1 * ((1 * r 26 + 0) + 0) + 0) + 0), ((1 * ((1 * r 27 + 0) + 0) + 0) + 0), ((1 * ((1 * r 17 + 0) + 0) + 0) + 0), ((1 * ((1 * r 18 + 0) + 0) + 0) + 0), ((1 * ((1 * r 19 + 0) + 0) + 0) + 0), ((1 * ((1 * r 20 + 0) + 0) + 0) + 0))) ∧ ((0 : Int) + 0) = ((1 * ((1 * r 16 + 0) + 0) + 0) + 0))
  try simp only [Int.one_mul, Int.zero_add, Int.add_zero]
  try simp only [Int.one_mul, Int.zero_add, Int.add_zero] at e0
  rw [hgi] at e0
  obtain ⟨a1, a2, a3⟩ := e0
  exact Or.inr ⟨a1, a2, by omega⟩
theorem xw_124_0_2 : yt_hold xT_124 xk_124 xq_124.2.2.1 xG_124 xP_124 xU_124 15 xk_124.2.1.2.2.2 (fun g0 r g => xR_124 r g0 ∧ g = g0) (1000, ([((-2147483648), 2147483647), (2, 40), ((-2147483648), 2147483647), (0, 1), ((-9223372036854775808), 9223372036854775807), ((-9223372036854775808), 9223372036854775807), ((-9223372036854775808), 9223372036854775807), (0, 40), ((-2147483648), 2147483647), ((-600), 600), ((-600), 600), ((-1000000), 1000000), ((-1000000), 1000000), ((-9223372036854775808), 9223372036854775807), ((-9223372036854775808), 9223372036854775807), (1, 1), (0, 1), ((-9223372036854775808), 9223372036854775807), ((-9223372036854775808), 9223372036854775807), ((-9223372036854775808), 9223372036854775807), (0, 40), ((-2147483648), 2147483647), ((-600), 600), ((-600), 600), ((-1000000), 1000000), ((-1000000), 1000000), ((-9223372036854775808), 9223372036854775807), ((-9223372036854775808), 9223372036854775807)], []), [([], 1), ([(16, 1)], 0), ([(17, 1)], 0), ([(18, 1)], 0), ([(19, 1)], 0), ([(20, 1)], 0), ([(21, 1)], 0), ([(22, 1)], 0), ([(23, 1)], 0), ([(24, 1)], 0), ([(25, 1)], 0), ([(26, 1)], 0), ([(27, 1)], 0)], [], [.inr (.inr (.inl (306, 1, [([(0, 1)], 0), ([(1, 1)], 0), ([(2, 1)], 0), ([(3, 1)], 0), ([(4, 1)], 0), ([(5, 1)], 0), ([(6, 1)], 0), ([(7, 1)], 0), ([(8, 1)], 0), ([(9, 1)], 0), ([(10, 1)], 0), ([(11, 1)], 0), ([(12, 1)], 0), ([(13, 1)], 0), ([(14, 1)], 0), ([(15, 1)], 0), ([(16, 1)], 0), ([(17, 1)], 0), ([(18, 1)], 0), ([(19, 1)], 0), ([(20, 1)], 0), ([(21, 1)], 0), ([(22, 1)], 0), ([(23, 1)], 0), ([(24, 1)], 0), ([(25, 1)], 0), ([(26, 1)], 0), ([(27, 1)], 0)], [0, 1, 2, 3, 4, 5, 6, 7, 8, 9, 10, 11, 12, 13, 14, 15, 16, 17, 18, 19], [])))]) := by
  intro g0 r gi g hok hh hars hfr hG
  have b15 : 1 ≤ r 15 ∧ r 15 ≤ 1 := hok.1 15 (1, 1) rfl
  have b16 : 0 ≤ r 16 ∧ r 16 ≤ 1 := hok.1 16 (0, 1) rfl
  have b17 : (-9223372036854775808) ≤ r 17 ∧ r 17 ≤ 9223372036854775807 := hok.1 17 ((-9223372036854775808), 9223372036854775807) rfl
  have b18 : (-9223372036854775808) ≤ r 18 ∧ r 18 ≤ 9223372036854775807 := hok.1 18 ((-9223372036854775808), 9223372036854775807) rfl
  have b19 : (-9223372036854775808) ≤ r 19 ∧ r 19 ≤ 9223372036854775807 := hok.1 19 ((-9223372036854775808), 9223372036854775807) rfl
  have b20 : 0 ≤ r 20 ∧ r 20 ≤ 40 := hok.1 20 (0, 40) rfl
  have b21 : (-2147483648) ≤ r 21 ∧ r 21 ≤ 2147483647 := hok.1 21 ((-2147483648), 2147483647) rfl
  have b22 : (-600) ≤ r 22 ∧ r 22 ≤ 600 := hok.1 22 ((-600), 600) rfl
  have b23 : (-600) ≤ r 23 ∧ r 23 ≤ 600 := hok.1 23 ((-600), 600) rfl
  have b24 : (-1000000) ≤ r 24 ∧ r 24 ≤ 1000000 := hok.1 24 ((-1000000), 1000000) rfl
  have b25 : (-1000000) ≤ r 25 ∧ r 25 ≤ 1000000 := hok.1 25 ((-1000000), 1000000) rfl
  have b26 : (-9223372036854775808) ≤ r 26 ∧ r 26 ≤ 9223372036854775807 := hok.1 26 ((-9223372036854775808), 9223372036854775807) rfl
  have b27 : (-9223372036854775808) ≤ r 27 ∧ r 27 ≤ 9223372036854775807 := hok.1 27 ((-9223372036854775808), 9223372036854775807) rfl
  obtain ⟨hG, hgi⟩ := hG
  have hG : True := hG
  obtain ⟨h0, hh, e0, k0⟩ := hh
  have k0 : ∀ j, j ∉ [] → g j = h0 j := k0
  have e0 : ye_bo (h0 4) (((1 * ((1 * r 1 + 0) + 0) + 0) + 0)).toNat ∧ (ye_fd (h0 2) (h0 3) (h0 4) (((1 * ((1 * r 1 + 0) + 0) + 0) + 0)).toNat ((1 * ((1 * r 2 + 0) + 0) + 0) + 0) ((1 * ((1 * r 8 + 0) + 0) + 0) + 0) (((1 * ((1 * r 3 + 0) + 0) + 0) + 0), ((1 * ((1 * r 9 + 0) + 0) + 0) + 0), ((1 * ((1 * r 10 + 0) + 0) + 0) + 0), ((1 * ((1 * r 11 + 0) + 0) + 0) + 0), ((1 * ((1 * r 12 + 0) + 0) + 0) + 0)) ((1 * ((1 * r 21 + 0) + 0) + 0) + 0) (((1 * ((1 * r 16 + 0) + 0) + 0) + 0), ((1 * ((1 * r 22 + 0) + 0) + 0) + 0), ((1 * ((1 * r 23 + 0) + 0) + 0) + 0), ((1 * ((1 * r 24 + 0) + 0) + 0) + 0), ((1 * ((1 * r 25 + 0) + 0) + 0) + 0)) ∧ ye_fo (h0 2) (h0 3) (((1 * ((1 * r 1 + 0) + 0) + 0) + 0)).toNat ((1 * ((1 * r 2 + 0) + 0) + 0) + 0) ((1 * ((1 * r 8 + 0) + 0) + 0) + 0) (((1 * ((1 * r 13 + 0) + 0) + 0) + 0), ((1 * ((1 * r 14 + 0) + 0) + 0) + 0), ((1 * ((1 * r 4 + 0) + 0) + 0) + 0), ((1 * ((1 * r 5 + 0) + 0) + 0) + 0), ((1 * ((1 * r 6 + 0) + 0) + 0) + 0), ((1 * ((1 * r 7 + 0) + 0) + 0) + 0)) (((1 * ((1 * r 16 + 0) + 0) + 0) + 0), ((1 * ((1 * r 22 + 0) + 0) + 0) + 0), ((1 * ((1 * r 23 + 0) + 0) + 0) + 0), ((1 * ((1 * r 24 + 0) + 0) + 0) + 0), ((1 * ((1 * r 25 + 0) + 0) + 0) + 0)) (((1 * ((1 * r 26 + 0) + 0) + 0) + 0), ((1 * ((1 * r 27 + 0) + 0) + 0) + 0), ((1 * ((1 * r 17 + 0) + 0) + 0) + 0), ((1 * ((1 * r 18 + 0) + 0) + 0) + 0), ((1 * ((1 * r 19 + 0) + 0) + 0) + 0), ((1 * ((1 * r 20 + 0) + 0) + 0) + 0))) ∧ ((1 * r 15 + 0) + 0) = ((1 * ((1 * r 16 + 0) + 0) + 0) + 0) := e0
  have hh : h0 = gi := hh
  subst hh
  refine yt_dalt (by decide) (by decide) ?_
  rw [show xk_124.2.1.2.1.1.length = 15 from rfl]
  show (¬ ye_bo (g0 4) (((1 * ((1 * r 1 + 0) + 0) + 0) + 0)).toNat ∧ ((0 : Int) + 1) = 1 ∧ (((1 * ((1 * r 21 + 0) + 0) + 0) + 0) = ((1 * ((1 * r 8 + 0) + 0) + 0) + 0) ∧ (((1 * ((1 * r 16 + 0) + 0) + 0) + 0), ((1 * ((1 * r 22 + 0) + 0) + 0) + 0), ((1 * ((1 * r 23 + 0) + 0) + 0) + 0), ((1 * ((1 * r 24 + 0) + 0) + 0) + 0), ((1 * ((1 * r 25 + 0) + 0) + 0) + 0)) = (((1 * ((1 * r 3 + 0) + 0) + 0) + 0), ((1 * ((1 * r 9 + 0) + 0) + 0) + 0), ((1 * ((1 * r 10 + 0) + 0) + 0) + 0), ((1 * ((1 * r 11 + 0) + 0) + 0) + 0), ((1 * ((1 * r 12 + 0) + 0) + 0) + 0)) ∧ (((1 * ((1 * r 26 + 0) + 0) + 0) + 0), ((1 * ((1 * r 27 + 0) + 0) + 0) + 0), ((1 * ((1 * r 17 + 0) + 0) + 0) + 0), ((1 * ((1 * r 18 + 0) + 0) + 0) + 0), ((1 * ((1 * r 19 + 0) + 0) + 0) + 0), ((1 * ((1 * r 20 + 0) + 0) + 0) + 0)) = (((1 * ((1 * r 13 + 0) + 0) + 0) + 0), ((1 * ((1 * r 14 + 0) + 0) + 0) + 0), ((1 * ((1 * r 4 + 0) + 0) + 0) + 0), ((1 * ((1 * r 5 + 0) + 0) + 0) + 0), ((1 * ((1 * r 6 + 0) + 0) + 0) + 0), ((1 * ((1 * r 7 + 0) + 0) + 0) + 0)))) ∨ (ye_bo (g0 4) (((1 * ((1 * r 1 + 0) + 0) + 0) + 0)).toNat ∧ (ye_fd (g0 2) (g0 3) (g0 4) (((1 * ((1 * r 1 + 0) + 0) + 0) + 0)).toNat ((1 * ((1 * r 2 + 0) + 0) + 0) + 0) ((1 * ((1 * r 8 + 0) + 0) + 0) + 0) (((1 * ((1 * r 3 + 0) + 0) + 0) + 0), ((1 * ((1 * r 9 + 0) + 0) + 0) + 0), ((1 * ((1 * r 10 + 0) + 0) + 0) + 0), ((1 * ((1 * r 11 + 0) + 0) + 0) + 0), ((1 * ((1 * r 12 + 0) + 0) + 0) + 0)) ((1 * ((1 * r 21 + 0) + 0) + 0) + 0) (((1 * ((1 * r 16 + 0) + 0) + 0) + 0), ((1 * ((1 * r 22 + 0) + 0) + 0) + 0), ((1 * ((1 * r 23 + 0) + 0) + 0) + 0), ((1 * ((1 * r 24 + 0) + 0) + 0) + 0), ((1 * ((1 * r 25 + 0) + 0) + 0) + 0)) ∧ ye_fo (g0 2) (g0 3) (((1 * ((1 * r 1 + 0) + 0) + 0) + 0)).toNat ((1 * ((1 * r 2 + 0) + 0) + 0) + 0) ((1 * ((1 * r 8 + 0) + 0) + 0) + 0) (((1 * ((1 * r 13 + 0) + 0) + 0) + 0), ((1 * ((1 * r 14 + 0) + 0) + 0) + 0), ((1 * ((1 * r 4 + 0) + 0) + 0) + 0), ((1 * ((1 * r 5 + 0) + 0) + 0) + 0), ((1 * ((1 * r 6 + 0) + 0) + 0) + 0), ((1 * ((1 * r 7 + 0) + 0) + 0) + 0)) (((1 * ((1 * r 16 + 0) + 0) + 0) + 0), ((1 * ((1 * r 22 + 0) + 0) + 0) + 0), ((1 * ((1 * r 23 + 0) + 0) + 0) + 0), ((1 * ((1 * r 24 + 0) + 0) + 0) + 0), ((1 * ((1 * r 25 + 0) + 0) + 0) + 0)) (((1 * ((1 * r 26 + 0) + 0) + 0) + 0), ((1 * ((1 * r 27 + 0) + 0) + 0) + 0), ((1 * ((1 * r 17 + 0) + 0) + 0) + 0), ((1 * ((1 * r 18 + 0) + 0) + 0) + 0), ((1 * ((1 * r 19 + 0) + 0) + 0) + 0), ((1 * ((1 * r 20 + 0) + 0) + 0) + 0))) ∧ ((0 : Int) + 1) = ((1 * ((1 * r 16 + 0) + 0) + 0) + 0))
  try simp only [Int.one_mul, Int.zero_add, Int.add_zero]
  try simp only [Int.one_mul, Int.zero_add, Int.add_zero] at e0
  rw [hgi] at e0
  obtain ⟨a1, a2, a3⟩ := e0
  exact Or.inr ⟨a1, a2, by omega⟩
theorem xn_124 : ∀ (j : Nat) (q : Nat × yt_T), xq_124.2.2.1[j]? = some q → q.2.2.2 = false → ∀ g0 r g, xG_124 j g0 r g
  | n + 0, q, hq, _ => by cases hq
theorem xs_124 : ∀ j, xq_124.2.2.2.getD j false = false → ∀ r g g', xP_124 j r g g'
  | 0, hf => by cases hf
  | n + 1, _ => fun _ _ _ => trivial
theorem xc_124 {l : Launch} {D : va_G} {cT : Nat → ClassId} {tys : List (ClassId × FieldType)} (hty : yx_Ty tys cT) : yt_Con l D vwCl cT tys yG yw_s56 xk_124 xR_124 xP_124 := yx_sem (calls := xa_124) (Z := xq_124) (tb := xT_124) (pt := xU_124) (Ga := xG_124) (vs := xv_124) (fun _ _ _ _ => trivial) 300 (by decide +kernel) yz_X11_parted_ok hty (yl_lkX11 _) (yl_cqkX11 _) (List.forall_mem_cons.mpr ⟨⟨xc_91 hty, yg_CLv rfl rfl rfl yl_wX11_184 yd_yX11_areParted, fun _ _ _ => trivial⟩, fun _ h => absurd h List.not_mem_nil⟩) (xn_124) (xs_124) (by decide +kernel) (List.forall_mem_cons.mpr ⟨xw_124_0_0, List.forall_mem_cons.mpr ⟨xw_124_0_1, List.forall_mem_cons.mpr ⟨xw_124_0_2, fun _ h => absurd h List.not_mem_nil⟩⟩⟩) (trivial)
noncomputable def xf_125 : ys_F := (yw_f2 1, yw_r2)
noncomputable def xk_125 : ys_K := (((yX6_isNear, cX6_isNear, 2, (some .boolean)), (0, 0)), ([.inl (.inr ([(0, 1)], 0))], ([((-9223372036854775808), 9223372036854775807)] ++ yw_e2, []), xf_125), ([([], [([(0, (-1))], (-301))], (xf_125.1, xf_125.2), some (.inl (.inl ([], 0)))), ([], [([(0, 1)], (-301))], (xf_125.1, xf_125.2), some (.inl (.inl ([], 0)))), ([], [([(0, 1)], 300), ([(0, (-1))], 300)], (xf_125.1, xf_125.2), some (.inl (.inl ([], 1))))], []))
noncomputable def xq_125 : yt_Q := (yz_X6_isNear, (yl_flX6, yl_ciX6, yl_cjX6, yl_cpX6, yl_cqX6), [], [])
noncomputable def xa_125 : List yt_CE := []
theorem xc_125 {l : Launch} {D : va_G} {cT : Nat → ClassId} {tys : List (ClassId × FieldType)} (hty : yx_Ty tys cT) : yx_C l D cT tys yw_s2 xk_125 := yx_method (calls := xa_125) (Z := xq_125) 300 (by decide +kernel) yz_X6_isNear_ok hty (yl_lkX6 _) (yl_cqkX6 _) (fun _ h => absurd h List.not_mem_nil) (by decide +kernel)
noncomputable def xf_126 : ys_F := (yw_f37 3, yw_r37)
noncomputable def xk_126 : ys_K := (((yX6_add, cX6_add, 4, none), (0, 0)), ([.inr (some 0), .inl (.inl ([(0, 1)], 0)), .inl (.inl ([(1, 1)], 0)), .inl (.inl ([(2, 1)], 0))], ([((-300), 300), ((-300), 300), (0, 1)] ++ yw_e37, []), xf_126), ([([((-2147483648), 2147483647)], [([(3, (-1))], 39)], ((ys_fs xf_126.1 [(0, 4, .inl (.inl ([(3, 1)], 1))), (0, 5, .inl (.inl ([(5, 1)], 0)))]), xf_126.2), none), ([], [([(3, 1)], (-40))], (xf_126.1, xf_126.2), none)], [1, 2, 3, 4]))
noncomputable def xq_126 : yt_Q := (yz_X6_add, (yl_flX6, yl_ciX6, yl_cjX6, yl_cpX6, yl_cqX6), [], [true, false])
noncomputable def xa_126 : List yt_CE := []
noncomputable def xv_126 : List (List yt_VC) := [[(1000, ([((-300), 300), ((-300), 300), (0, 1), (0, 39), ((-2147483648), 2147483647), ((-2147483648), 2147483647)], []), [([(5, 1)], 0)], [], [.inr (.inr (.inl (998, 15, [([(4, 1)], 0), ([], 1), ([(5, 1)], 0)], [], []))), .inr (.inl (4, ([(3, 1)], 0), ([], 1))), .inr (.inl (3, ([(3, 1)], 0), ([(2, 1)], 0))), .inr (.inl (2, ([(3, 1)], 0), ([(1, 1)], 0))), .inr (.inl (1, ([(3, 1)], 0), ([(0, 1)], 0)))])]]
noncomputable def xG_126 : Nat → yt_G → (Nat → Int) → yt_G → Prop
  | _, _, _, _ => True
noncomputable def xP_126 : yt_Ph
  | 0, r, g0, g => ((g 1) = yq_set (g0 1) ((r 3)).toNat (r 0) ∧ (g 2) = yq_set (g0 2) ((r 3)).toNat (r 1) ∧ (g 3) = yq_set (g0 3) ((r 3)).toNat (r 2) ∧ (g 4) = yq_set (g0 4) ((r 3)).toNat 1) ∧ ((1 * (r 5) + 0) + 0) = ye_wr ((1 * (r 4) + 0) + 0) 1
  | 1, r, g0, g => True
  | _, _, _, _ => True
noncomputable def xR_126 : yt_Ps := fun r g0 => True
noncomputable def xT_126 : yt_Tb := fun d => match d with
  | 998 => fun i r _ _ => yt_hwp i r
  | _ => fun _ _ _ _ => True
noncomputable def xU_126 : Nat → yt_Ps := fun d => match d with
  | _ => fun _ _ => True
theorem xw_126_0_0 : yt_hold xT_126 xk_126 xq_126.2.2.1 xG_126 xP_126 xU_126 5 xk_126.2.1.2.2.2 (fun g0 r g => xR_126 r g0 ∧ g = g0) (1000, ([((-300), 300), ((-300), 300), (0, 1), (0, 39), ((-2147483648), 2147483647), ((-2147483648), 2147483647)], []), [([(5, 1)], 0)], [], [.inr (.inr (.inl (998, 15, [([(4, 1)], 0), ([], 1), ([(5, 1)], 0)], [], []))), .inr (.inl (4, ([(3, 1)], 0), ([], 1))), .inr (.inl (3, ([(3, 1)], 0), ([(2, 1)], 0))), .inr (.inl (2, ([(3, 1)], 0), ([(1, 1)], 0))), .inr (.inl (1, ([(3, 1)], 0), ([(0, 1)], 0)))]) := by
  intro g0 r gi g hok hh hars hfr hG
  have b0 : (-300) ≤ r 0 ∧ r 0 ≤ 300 := hok.1 0 ((-300), 300) rfl
  have b1 : (-300) ≤ r 1 ∧ r 1 ≤ 300 := hok.1 1 ((-300), 300) rfl
  have b2 : 0 ≤ r 2 ∧ r 2 ≤ 1 := hok.1 2 (0, 1) rfl
  have b3 : 0 ≤ r 3 ∧ r 3 ≤ 39 := hok.1 3 (0, 39) rfl
  have b5 : (-2147483648) ≤ r 5 ∧ r 5 ≤ 2147483647 := hok.1 5 ((-2147483648), 2147483647) rfl
  obtain ⟨hG, hgi⟩ := hG
  have hG : True := hG
  obtain ⟨h0, hh, e0, k0⟩ := hh
  have k0 : ∀ j, j ∉ [] → g j = h0 j := k0
  have e0 : Int32.ofInt (((1 * r 5 + 0) + 0)) = Int32.ofInt (((1 * r 4 + 0) + 0)) + Int32.ofInt (((0 : Int) + 1)) := e0
  obtain ⟨h1, hh, e1⟩ := hh
  have e1 : h0 = ys_gup h1 4 (((1 * r 3 + 0) + 0)).toNat ((0 : Int) + 1) := e1
  obtain ⟨h2, hh, e2⟩ := hh
  have e2 : h1 = ys_gup h2 3 (((1 * r 3 + 0) + 0)).toNat ((1 * r 2 + 0) + 0) := e2
  obtain ⟨h3, hh, e3⟩ := hh
  have e3 : h2 = ys_gup h3 2 (((1 * r 3 + 0) + 0)).toNat ((1 * r 1 + 0) + 0) := e3
  obtain ⟨h4, hh, e4⟩ := hh
  have e4 : h3 = ys_gup h4 1 (((1 * r 3 + 0) + 0)).toNat ((1 * r 0 + 0) + 0) := e4
  have hh : h4 = gi := hh
  subst hh
  refine yt_dalt (by decide) (by decide) ?_
  rw [show xk_126.2.1.2.1.1.length = 5 from rfl]
  show ((g 1) = yq_set (g0 1) (((1 * r 3 + 0) + 0)).toNat ((1 * r 0 + 0) + 0) ∧ (g 2) = yq_set (g0 2) (((1 * r 3 + 0) + 0)).toNat ((1 * r 1 + 0) + 0) ∧ (g 3) = yq_set (g0 3) (((1 * r 3 + 0) + 0)).toNat ((1 * r 2 + 0) + 0) ∧ (g 4) = yq_set (g0 4) (((1 * r 3 + 0) + 0)).toNat 1) ∧ ((1 * ((1 * r 5 + 0) + 0) + 0) + 0) = ye_wr ((1 * ((1 * r 4 + 0) + 0) + 0) + 0) 1
  try simp only [Int.one_mul, Int.zero_add, Int.add_zero]
  refine ⟨?_, ?_⟩
  · try simp only [Int.one_mul, Int.zero_add, Int.add_zero] at e1 e2 e3 e4
    refine ⟨?_, ?_, ?_, ?_⟩
    · rw [k0 1 (by decide), e1, yq_gup_ne (by decide), e2, yq_gup_ne (by decide), e3, yq_gup_ne (by decide), e4, yq_gup_self, hgi]
    · rw [k0 2 (by decide), e1, yq_gup_ne (by decide), e2, yq_gup_ne (by decide), e3, yq_gup_self, e4, yq_gup_ne (by decide), hgi]
    · rw [k0 3 (by decide), e1, yq_gup_ne (by decide), e2, yq_gup_self, e3, yq_gup_ne (by decide), e4, yq_gup_ne (by decide), hgi]
    · rw [k0 4 (by decide), e1, yq_gup_self, e2, yq_gup_ne (by decide), e3, yq_gup_ne (by decide), e4, yq_gup_ne (by decide), hgi]
  · try simp only [Int.one_mul, Int.zero_add, Int.add_zero] at e0
    exact ye_w1 (by omega) (by omega) e0
theorem xn_126 : ∀ (j : Nat) (q : Nat × yt_T), xq_126.2.2.1[j]? = some q → q.2.2.2 = false → ∀ g0 r g, xG_126 j g0 r g
  | n + 0, q, hq, _ => by cases hq
theorem xs_126 : ∀ j, xq_126.2.2.2.getD j false = false → ∀ r g g', xP_126 j r g g'
  | 0, hf => by cases hf
  | 1, hf => fun _ _ _ => trivial
  | n + 2, _ => fun _ _ _ => trivial
theorem xc_126 {l : Launch} {D : va_G} {cT : Nat → ClassId} {tys : List (ClassId × FieldType)} (hty : yx_Ty tys cT) : yt_Con l D vwCl cT tys yG yw_s37 xk_126 xR_126 xP_126 := yx_sem (calls := xa_126) (Z := xq_126) (tb := xT_126) (pt := xU_126) (Ga := xG_126) (vs := xv_126) (fun _ _ _ h => h) 300 (by decide +kernel) yz_X6_add_ok hty (yl_lkX6 _) (yl_cqkX6 _) (fun _ h => absurd h List.not_mem_nil) (xn_126) (xs_126) (by decide +kernel) (List.forall_mem_cons.mpr ⟨xw_126_0_0, fun _ h => absurd h List.not_mem_nil⟩) (trivial)
noncomputable def xf_127 : ys_F := (yw_f38 3, yw_r38)
noncomputable def xk_127 : ys_K := (((yX11_point, cX11_point, 4, (some .int)), (1, 23)), ([.inr (some 0), .inl (.inl ([(0, 1)], 0)), .inl (.inl ([(1, 1)], 0)), .inl (.inl ([(2, 1)], 0))], ([((-2147483648), 2147483647), ((-2147483648), 2147483647), ((-2147483648), 2147483647)] ++ yw_e38, []), xf_127), ([([((-5), 40), ((-2147483648), 0), (0, 40), ((-2147483648), 2147483647)], [], ((ys_fs xf_127.1 [(0, 14, .inl (.inl ([(7, 1)], 0))), (1, 4, .inl (.inl ([(8, 1)], 0))), (1, 5, .inl (.inl ([(9, 1)], 0)))]), xf_127.2), some (.inl (.inl ([(6, 1)], 0))))], [2, 3, 4, 5]))
noncomputable def xq_127 : yt_Q := (yz_X11_point, (yl_flX11, yl_ciX11, yl_cjX11, yl_cpX11, yl_cqX11), [], [true])
noncomputable def xa_127 : List yt_CE := [(((99, true), (0, false, [])), (yw_s2, xk_125)), (((103, true), (0, false, [])), (yw_s2, xk_61)), (((107, false), (0, false, [0, 1, 6, 7, 8, 9, 10, 11, 12, 13, 14, 15, 16, 17, 18])), (yw_s3, xk_3)), (((114, false), (130, false, [1, 2, 3, 4, 5])), (yw_s37, xk_126))]
noncomputable def xv_127 : List (List yt_VC) := [[(1000, ([((-2147483648), (-301)), ((-2147483648), 2147483647), ((-2147483648), 2147483647), ((-2147483648), 2147483647), (0, 40), ((-2147483648), 2147483647), ((-2147483648), 0)], []), [([], (-1)), ([(6, 1)], 0), ([(4, 1)], 0), ([(5, 1)], 0)], [], []),
   (1000, ([(301, 2147483647), ((-2147483648), 2147483647), ((-2147483648), 2147483647), ((-2147483648), 2147483647), (0, 40), ((-2147483648), 2147483647), ((-2147483648), 0)], []), [([], (-1)), ([(6, 1)], 0), ([(4, 1)], 0), ([(5, 1)], 0)], [], []),
   (1000, ([((-300), 300), ((-2147483648), (-301)), ((-2147483648), 2147483647), ((-2147483648), 2147483647), (0, 40), ((-2147483648), 2147483647), ((-2147483648), 0)], []), [([], (-1)), ([(6, 1)], 0), ([(4, 1)], 0), ([(5, 1)], 0)], [], []),
   (1000, ([((-300), 300), (301, 2147483647), ((-2147483648), 2147483647), ((-2147483648), 2147483647), (0, 40), ((-2147483648), 2147483647), ((-2147483648), 0)], []), [([], (-1)), ([(6, 1)], 0), ([(4, 1)], 0), ([(5, 1)], 0)], [], []),
   (1000, ([((-300), 300), ((-300), 300), ((-2147483648), (-1)), ((-2147483648), 2147483647), (0, 40), ((-2147483648), 2147483647), ((-2147483648), 0)], []), [([], (-1)), ([(6, 1)], 0), ([(4, 1)], 0), ([(5, 1)], 0)], [], []),
   (1000, ([((-300), 300), ((-300), 300), (2, 2147483647), ((-2147483648), 2147483647), (0, 40), ((-2147483648), 2147483647), ((-2147483648), 0)], []), [([], (-1)), ([(6, 1)], 0), ([(4, 1)], 0), ([(5, 1)], 0)], [], []),
   (1000, ([((-300), 300), ((-300), 300), (1, 1), ((-2147483648), 2147483647), (0, 39), ((-2147483648), 2147483647), ((-2147483648), 2147483647), ((-2147483648), 0)], []), [([(4, 1)], 1), ([(7, 1)], 0), ([(4, 1)], 1), ([(6, 1)], 0)], [], [.inr (.inr (.inl (130, 0, [([(0, 1)], 0), ([(1, 1)], 0), ([], 1), ([(4, 1)], 0), ([(5, 1)], 0), ([(6, 1)], 0)], [1, 2, 3, 4, 5], [2, 3, 4, 5])))]),
   (1000, ([((-300), 300), ((-300), 300), (1, 1), ((-2147483648), 2147483647), (40, 40), ((-2147483648), 2147483647), ((-2147483648), 0)], []), [([], (-5)), ([(6, 1)], 0), ([(4, 1)], 0), ([(5, 1)], 0)], [], []),
   (1000, ([((-300), 300), ((-300), 300), (0, 0), ((-2147483648), 2147483647), (0, 39), ((-2147483648), 2147483647), ((-2147483648), 2147483647), ((-2147483648), 0)], []), [([(4, 1)], 1), ([(7, 1)], 0), ([(4, 1)], 1), ([(6, 1)], 0)], [], [.inr (.inr (.inl (130, 0, [([(0, 1)], 0), ([(1, 1)], 0), ([], 0), ([(4, 1)], 0), ([(5, 1)], 0), ([(6, 1)], 0)], [1, 2, 3, 4, 5], [2, 3, 4, 5])))]),
   (1000, ([((-300), 300), ((-300), 300), (0, 0), ((-2147483648), 2147483647), (40, 40), ((-2147483648), 2147483647), ((-2147483648), 0)], []), [([], (-5)), ([(6, 1)], 0), ([(4, 1)], 0), ([(5, 1)], 0)], [], [])]]
noncomputable def xG_127 : Nat → yt_G → (Nat → Int) → yt_G → Prop
  | _, _, _, _ => True
noncomputable def xP_127 : yt_Ph
  | 0, r, g0, g => (((r 6) = yq_ptr (r 0) (r 1) (r 2) ((1 * (r 4) + 0) + 0) ∧ ((1 * (r 8) + 0) + 0) = yq_ptm (r 0) (r 1) (r 2) ((1 * (r 4) + 0) + 0)) ∧ (g 2) = yq_ad (r 0) (r 1) (r 2) ((1 * (r 4) + 0) + 0) (g0 2) (r 0) ∧ (g 3) = yq_ad (r 0) (r 1) (r 2) ((1 * (r 4) + 0) + 0) (g0 3) (r 1) ∧ (g 4) = yq_ad (r 0) (r 1) (r 2) ((1 * (r 4) + 0) + 0) (g0 4) (r 2) ∧ (g 5) = yq_ad (r 0) (r 1) (r 2) ((1 * (r 4) + 0) + 0) (g0 5) 1) ∧ ((1 * (r 9) + 0) + 0) = ye_wr ((1 * (r 5) + 0) + 0) (((1 * (r 8) + 0) + 0) - ((1 * (r 4) + 0) + 0))
  | _, _, _, _ => True
noncomputable def xR_127 : yt_Ps := fun r g0 => True
noncomputable def xT_127 : yt_Tb := fun d => match d with
  | 130 => xP_126
  | _ => fun _ _ _ _ => True
noncomputable def xU_127 : Nat → yt_Ps := fun d => match d with
  | 130 => xR_126
  | _ => fun _ _ => True
theorem xw_127_0_0 : yt_hold xT_127 xk_127 xq_127.2.2.1 xG_127 xP_127 xU_127 6 xk_127.2.1.2.2.2 (fun g0 r g => xR_127 r g0 ∧ g = g0) (1000, ([((-2147483648), (-301)), ((-2147483648), 2147483647), ((-2147483648), 2147483647), ((-2147483648), 2147483647), (0, 40), ((-2147483648), 2147483647), ((-2147483648), 0)], []), [([], (-1)), ([(6, 1)], 0), ([(4, 1)], 0), ([(5, 1)], 0)], [], []) := by
  intro g0 r gi g hok hh hars hfr hG
  have b0 : (-2147483648) ≤ r 0 ∧ r 0 ≤ (-301) := hok.1 0 ((-2147483648), (-301)) rfl
  have b1 : (-2147483648) ≤ r 1 ∧ r 1 ≤ 2147483647 := hok.1 1 ((-2147483648), 2147483647) rfl
  have b2 : (-2147483648) ≤ r 2 ∧ r 2 ≤ 2147483647 := hok.1 2 ((-2147483648), 2147483647) rfl
  have b4 : 0 ≤ r 4 ∧ r 4 ≤ 40 := hok.1 4 (0, 40) rfl
  have b5 : (-2147483648) ≤ r 5 ∧ r 5 ≤ 2147483647 := hok.1 5 ((-2147483648), 2147483647) rfl
  have b6 : (-2147483648) ≤ r 6 ∧ r 6 ≤ 0 := hok.1 6 ((-2147483648), 0) rfl
  obtain ⟨hG, hgi⟩ := hG
  have hG : True := hG
  have hh : g = gi := hh
  subst hh
  refine yt_dalt (by decide) (by decide) ?_
  rw [show xk_127.2.1.2.1.1.length = 6 from rfl]
  show ((((0 : Int) + (-1)) = yq_ptr ((1 * r 0 + 0) + 0) ((1 * r 1 + 0) + 0) ((1 * r 2 + 0) + 0) ((1 * ((1 * r 4 + 0) + 0) + 0) + 0) ∧ ((1 * ((1 * r 4 + 0) + 0) + 0) + 0) = yq_ptm ((1 * r 0 + 0) + 0) ((1 * r 1 + 0) + 0) ((1 * r 2 + 0) + 0) ((1 * ((1 * r 4 + 0) + 0) + 0) + 0)) ∧ (g 2) = yq_ad ((1 * r 0 + 0) + 0) ((1 * r 1 + 0) + 0) ((1 * r 2 + 0) + 0) ((1 * ((1 * r 4 + 0) + 0) + 0) + 0) (g0 2) ((1 * r 0 + 0) + 0) ∧ (g 3) = yq_ad ((1 * r 0 + 0) + 0) ((1 * r 1 + 0) + 0) ((1 * r 2 + 0) + 0) ((1 * ((1 * r 4 + 0) + 0) + 0) + 0) (g0 3) ((1 * r 1 + 0) + 0) ∧ (g 4) = yq_ad ((1 * r 0 + 0) + 0) ((1 * r 1 + 0) + 0) ((1 * r 2 + 0) + 0) ((1 * ((1 * r 4 + 0) + 0) + 0) + 0) (g0 4) ((1 * r 2 + 0) + 0) ∧ (g 5) = yq_ad ((1 * r 0 + 0) + 0) ((1 * r 1 + 0) + 0) ((1 * r 2 + 0) + 0) ((1 * ((1 * r 4 + 0) + 0) + 0) + 0) (g0 5) 1) ∧ ((1 * ((1 * r 5 + 0) + 0) + 0) + 0) = ye_wr ((1 * ((1 * r 5 + 0) + 0) + 0) + 0) (((1 * ((1 * r 4 + 0) + 0) + 0) + 0) - ((1 * ((1 * r 4 + 0) + 0) + 0) + 0))
  try simp only [Int.one_mul, Int.zero_add, Int.add_zero]
  refine ⟨?_, ?_⟩
  · refine ⟨?_, ?_⟩
    · refine ⟨?_, ?_⟩
      · unfold yq_ptr
        repeat' split
        all_goals omega
      · unfold yq_ptm
        repeat' split
        all_goals omega
    · refine ⟨?_, ?_, ?_, ?_⟩
      · unfold yq_ad
        rw [if_neg (by omega)]
        rw [hgi]
      · unfold yq_ad
        rw [if_neg (by omega)]
        rw [hgi]
      · unfold yq_ad
        rw [if_neg (by omega)]
        rw [hgi]
      · unfold yq_ad
        rw [if_neg (by omega)]
        rw [hgi]
  · exact (ye_w0 (by omega) (by omega)).symm.trans (congrArg (ye_wr _) (show (0 : Int) = _ by omega))
theorem xw_127_0_1 : yt_hold xT_127 xk_127 xq_127.2.2.1 xG_127 xP_127 xU_127 6 xk_127.2.1.2.2.2 (fun g0 r g => xR_127 r g0 ∧ g = g0) (1000, ([(301, 2147483647), ((-2147483648), 2147483647), ((-2147483648), 2147483647), ((-2147483648), 2147483647), (0, 40), ((-2147483648), 2147483647), ((-2147483648), 0)], []), [([], (-1)), ([(6, 1)], 0), ([(4, 1)], 0), ([(5, 1)], 0)], [], []) := by
  intro g0 r gi g hok hh hars hfr hG
  have b0 : 301 ≤ r 0 ∧ r 0 ≤ 2147483647 := hok.1 0 (301, 2147483647) rfl
  have b1 : (-2147483648) ≤ r 1 ∧ r 1 ≤ 2147483647 := hok.1 1 ((-2147483648), 2147483647) rfl
  have b2 : (-2147483648) ≤ r 2 ∧ r 2 ≤ 2147483647 := hok.1 2 ((-2147483648), 2147483647) rfl
  have b4 : 0 ≤ r 4 ∧ r 4 ≤ 40 := hok.1 4 (0, 40) rfl
  have b5 : (-2147483648) ≤ r 5 ∧ r 5 ≤ 2147483647 := hok.1 5 ((-2147483648), 2147483647) rfl
  have b6 : (-2147483648) ≤ r 6 ∧ r 6 ≤ 0 := hok.1 6 ((-2147483648), 0) rfl
  obtain ⟨hG, hgi⟩ := hG
  have hG : True := hG
  have hh : g = gi := hh
  subst hh
  refine yt_dalt (by decide) (by decide) ?_
  rw [show xk_127.2.1.2.1.1.length = 6 from rfl]
  show ((((0 : Int) + (-1)) = yq_ptr ((1 * r 0 + 0) + 0) ((1 * r 1 + 0) + 0) ((1 * r 2 + 0) + 0) ((1 * ((1 * r 4 + 0) + 0) + 0) + 0) ∧ ((1 * ((1 * r 4 + 0) + 0) + 0) + 0) = yq_ptm ((1 * r 0 + 0) + 0) ((1 * r 1 + 0) + 0) ((1 * r 2 + 0) + 0) ((1 * ((1 * r 4 + 0) + 0) + 0) + 0)) ∧ (g 2) = yq_ad ((1 * r 0 + 0) + 0) ((1 * r 1 + 0) + 0) ((1 * r 2 + 0) + 0) ((1 * ((1 * r 4 + 0) + 0) + 0) + 0) (g0 2) ((1 * r 0 + 0) + 0) ∧ (g 3) = yq_ad ((1 * r 0 + 0) + 0) ((1 * r 1 + 0) + 0) ((1 * r 2 + 0) + 0) ((1 * ((1 * r 4 + 0) + 0) + 0) + 0) (g0 3) ((1 * r 1 + 0) + 0) ∧ (g 4) = yq_ad ((1 * r 0 + 0) + 0) ((1 * r 1 + 0) + 0) ((1 * r 2 + 0) + 0) ((1 * ((1 * r 4 + 0) + 0) + 0) + 0) (g0 4) ((1 * r 2 + 0) + 0) ∧ (g 5) = yq_ad ((1 * r 0 + 0) + 0) ((1 * r 1 + 0) + 0) ((1 * r 2 + 0) + 0) ((1 * ((1 * r 4 + 0) + 0) + 0) + 0) (g0 5) 1) ∧ ((1 * ((1 * r 5 + 0) + 0) + 0) + 0) = ye_wr ((1 * ((1 * r 5 + 0) + 0) + 0) + 0) (((1 * ((1 * r 4 + 0) + 0) + 0) + 0) - ((1 * ((1 * r 4 + 0) + 0) + 0) + 0))
  try simp only [Int.one_mul, Int.zero_add, Int.add_zero]
  refine ⟨?_, ?_⟩
  · refine ⟨?_, ?_⟩
    · refine ⟨?_, ?_⟩
      · unfold yq_ptr
        repeat' split
        all_goals omega
      · unfold yq_ptm
        repeat' split
        all_goals omega
    · refine ⟨?_, ?_, ?_, ?_⟩
      · unfold yq_ad
        rw [if_neg (by omega)]
        rw [hgi]
      · unfold yq_ad
        rw [if_neg (by omega)]
        rw [hgi]
      · unfold yq_ad
        rw [if_neg (by omega)]
        rw [hgi]
      · unfold yq_ad
        rw [if_neg (by omega)]
        rw [hgi]
  · exact (ye_w0 (by omega) (by omega)).symm.trans (congrArg (ye_wr _) (show (0 : Int) = _ by omega))
theorem xw_127_0_2 : yt_hold xT_127 xk_127 xq_127.2.2.1 xG_127 xP_127 xU_127 6 xk_127.2.1.2.2.2 (fun g0 r g => xR_127 r g0 ∧ g = g0) (1000, ([((-300), 300), ((-2147483648), (-301)), ((-2147483648), 2147483647), ((-2147483648), 2147483647), (0, 40), ((-2147483648), 2147483647), ((-2147483648), 0)], []), [([], (-1)), ([(6, 1)], 0), ([(4, 1)], 0), ([(5, 1)], 0)], [], []) := by
  intro g0 r gi g hok hh hars hfr hG
  have b0 : (-300) ≤ r 0 ∧ r 0 ≤ 300 := hok.1 0 ((-300), 300) rfl
  have b1 : (-2147483648) ≤ r 1 ∧ r 1 ≤ (-301) := hok.1 1 ((-2147483648), (-301)) rfl
  have b2 : (-2147483648) ≤ r 2 ∧ r 2 ≤ 2147483647 := hok.1 2 ((-2147483648), 2147483647) rfl
  have b4 : 0 ≤ r 4 ∧ r 4 ≤ 40 := hok.1 4 (0, 40) rfl
  have b5 : (-2147483648) ≤ r 5 ∧ r 5 ≤ 2147483647 := hok.1 5 ((-2147483648), 2147483647) rfl
  have b6 : (-2147483648) ≤ r 6 ∧ r 6 ≤ 0 := hok.1 6 ((-2147483648), 0) rfl
  obtain ⟨hG, hgi⟩ := hG
  have hG : True := hG
  have hh : g = gi := hh
  subst hh
  refine yt_dalt (by decide) (by decide) ?_
  rw [show xk_127.2.1.2.1.1.length = 6 from rfl]
  show ((((0 : Int) + (-1)) = yq_ptr ((1 * r 0 + 0) + 0) ((1 * r 1 + 0) + 0) ((1 * r 2 + 0) + 0) ((1 * ((1 * r 4 + 0) + 0) + 0) + 0) ∧ ((1 * ((1 * r 4 + 0) + 0) + 0) + 0) = yq_ptm ((1 * r 0 + 0) + 0) ((1 * r 1 + 0) + 0) ((1 * r 2 + 0) + 0) ((1 * ((1 * r 4 + 0) + 0) + 0) + 0)) ∧ (g 2) = yq_ad ((1 * r 0 + 0) + 0) ((1 * r 1 + 0) + 0) ((1 * r 2 + 0) + 0) ((1 * ((1 * r 4 + 0) + 0) + 0) + 0) (g0 2) ((1 * r 0 + 0) + 0) ∧ (g 3) = yq_ad ((1 * r 0 + 0) + 0) ((1 * r 1 + 0) + 0) ((1 * r 2 + 0) + 0) ((1 * ((1 * r 4 + 0) + 0) + 0) + 0) (g0 3) ((1 * r 1 + 0) + 0) ∧ (g 4) = yq_ad ((1 * r 0 + 0) + 0) ((1 * r 1 + 0) + 0) ((1 * r 2 + 0) + 0) ((1 * ((1 * r 4 + 0) + 0) + 0) + 0) (g0 4) ((1 * r 2 + 0) + 0) ∧ (g 5) = yq_ad ((1 * r 0 + 0) + 0) ((1 * r 1 + 0) + 0) ((1 * r 2 + 0) + 0) ((1 * ((1 * r 4 + 0) + 0) + 0) + 0) (g0 5) 1) ∧ ((1 * ((1 * r 5 + 0) + 0) + 0) + 0) = ye_wr ((1 * ((1 * r 5 + 0) + 0) + 0) + 0) (((1 * ((1 * r 4 + 0) + 0) + 0) + 0) - ((1 * ((1 * r 4 + 0) + 0) + 0) + 0))
  try simp only [Int.one_mul, Int.zero_add, Int.add_zero]
  refine ⟨?_, ?_⟩
  · refine ⟨?_, ?_⟩
    · refine ⟨?_, ?_⟩
      · unfold yq_ptr
        repeat' split
        all_goals omega
      · unfold yq_ptm
        repeat' split
        all_goals omega
    · refine ⟨?_, ?_, ?_, ?_⟩
      · unfold yq_ad
        rw [if_neg (by omega)]
        rw [hgi]
      · unfold yq_ad
        rw [if_neg (by omega)]
        rw [hgi]
      · unfold yq_ad
        rw [if_neg (by omega)]
        rw [hgi]
      · unfold yq_ad
        rw [if_neg (by omega)]
        rw [hgi]
  · exact (ye_w0 (by omega) (by omega)).symm.trans (congrArg (ye_wr _) (show (0 : Int) = _ by omega))
theorem xw_127_0_3 : yt_hold xT_127 xk_127 xq_127.2.2.1 xG_127 xP_127 xU_127 6 xk_127.2.1.2.2.2 (fun g0 r g => xR_127 r g0 ∧ g = g0) (1000, ([((-300), 300), (301, 2147483647), ((-2147483648), 2147483647), ((-2147483648), 2147483647), (0, 40), ((-2147483648), 2147483647), ((-2147483648), 0)], []), [([], (-1)), ([(6, 1)], 0), ([(4, 1)], 0), ([(5, 1)], 0)], [], []) := by
  intro g0 r gi g hok hh hars hfr hG
  have b0 : (-300) ≤ r 0 ∧ r 0 ≤ 300 := hok.1 0 ((-300), 300) rfl
  have b1 : 301 ≤ r 1 ∧ r 1 ≤ 2147483647 := hok.1 1 (301, 2147483647) rfl
  have b2 : (-2147483648) ≤ r 2 ∧ r 2 ≤ 2147483647 := hok.1 2 ((-2147483648), 2147483647) rfl
  have b4 : 0 ≤ r 4 ∧ r 4 ≤ 40 := hok.1 4 (0, 40) rfl
  have b5 : (-2147483648) ≤ r 5 ∧ r 5 ≤ 2147483647 := hok.1 5 ((-2147483648), 2147483647) rfl
  have b6 : (-2147483648) ≤ r 6 ∧ r 6 ≤ 0 := hok.1 6 ((-2147483648), 0) rfl
  obtain ⟨hG, hgi⟩ := hG
  have hG : True := hG
  have hh : g = gi := hh
  subst hh
  refine yt_dalt (by decide) (by decide) ?_
  rw [show xk_127.2.1.2.1.1.length = 6 from rfl]
  show ((((0 : Int) + (-1)) = yq_ptr ((1 * r 0 + 0) + 0) ((1 * r 1 + 0) + 0) ((1 * r 2 + 0) + 0) ((1 * ((1 * r 4 + 0) + 0) + 0) + 0) ∧ ((1 * ((1 * r 4 + 0) + 0) + 0) + 0) = yq_ptm ((1 * r 0 + 0) + 0) ((1 * r 1 + 0) + 0) ((1 * r 2 + 0) + 0) ((1 * ((1 * r 4 + 0) + 0) + 0) + 0)) ∧ (g 2) = yq_ad ((1 * r 0 + 0) + 0) ((1 * r 1 + 0) + 0) ((1 * r 2 + 0) + 0) ((1 * ((1 * r 4 + 0) + 0) + 0) + 0) (g0 2) ((1 * r 0 + 0) + 0) ∧ (g 3) = yq_ad ((1 * r 0 + 0) + 0) ((1 * r 1 + 0) + 0) ((1 * r 2 + 0) + 0) ((1 * ((1 * r 4 + 0) + 0) + 0) + 0) (g0 3) ((1 * r 1 + 0) + 0) ∧ (g 4) = yq_ad ((1 * r 0 + 0) + 0) ((1 * r 1 + 0) + 0) ((1 * r 2 + 0) + 0) ((1 * ((1 * r 4 + 0) + 0) + 0) + 0) (g0 4) ((1 * r 2 + 0) + 0) ∧ (g 5) = yq_ad ((1 * r 0 + 0) + 0) ((1 * r 1 + 0) + 0) ((1 * r 2 + 0) + 0) ((1 * ((1 * r 4 + 0) + 0) + 0) + 0) (g0 5) 1) ∧ ((1 * ((1 * r 5 + 0) + 0) + 0) + 0) = ye_wr ((1 * ((1 * r 5 + 0) + 0) + 0) + 0) (((1 * ((1 * r 4 + 0) + 0) + 0) + 0) - ((1 * ((1 * r 4 + 0) + 0) + 0) + 0))
  try simp only [Int.one_mul, Int.zero_add, Int.add_zero]
  refine ⟨?_, ?_⟩
  · refine ⟨?_, ?_⟩
    · refine ⟨?_, ?_⟩
      · unfold yq_ptr
        repeat' split
        all_goals omega
      · unfold yq_ptm
        repeat' split
        all_goals omega
    · refine ⟨?_, ?_, ?_, ?_⟩
      · unfold yq_ad
        rw [if_neg (by omega)]
        rw [hgi]
      · unfold yq_ad
        rw [if_neg (by omega)]
        rw [hgi]
      · unfold yq_ad
        rw [if_neg (by omega)]
        rw [hgi]
      · unfold yq_ad
        rw [if_neg (by omega)]
        rw [hgi]
  · exact (ye_w0 (by omega) (by omega)).symm.trans (congrArg (ye_wr _) (show (0 : Int) = _ by omega))
theorem xw_127_0_4 : yt_hold xT_127 xk_127 xq_127.2.2.1 xG_127 xP_127 xU_127 6 xk_127.2.1.2.2.2 (fun g0 r g => xR_127 r g0 ∧ g = g0) (1000, ([((-300), 300), ((-300), 300), ((-2147483648), (-1)), ((-2147483648), 2147483647), (0, 40), ((-2147483648), 2147483647), ((-2147483648), 0)], []), [([], (-1)), ([(6, 1)], 0), ([(4, 1)], 0), ([(5, 1)], 0)], [], []) := by
  intro g0 r gi g hok hh hars hfr hG
  have b0 : (-300) ≤ r 0 ∧ r 0 ≤ 300 := hok.1 0 ((-300), 300) rfl
  have b1 : (-300) ≤ r 1 ∧ r 1 ≤ 300 := hok.1 1 ((-300), 300) rfl
  have b2 : (-2147483648) ≤ r 2 ∧ r 2 ≤ (-1) := hok.1 2 ((-2147483648), (-1)) rfl
  have b4 : 0 ≤ r 4 ∧ r 4 ≤ 40 := hok.1 4 (0, 40) rfl
  have b5 : (-2147483648) ≤ r 5 ∧ r 5 ≤ 2147483647 := hok.1 5 ((-2147483648), 2147483647) rfl
  have b6 : (-2147483648) ≤ r 6 ∧ r 6 ≤ 0 := hok.1 6 ((-2147483648), 0) rfl
  obtain ⟨hG, hgi⟩ := hG
  have hG : True := hG
  have hh : g = gi := hh
  subst hh
  refine yt_dalt (by decide) (by decide) ?_
  rw [show xk_127.2.1.2.1.1.length = 6 from rfl]
  show ((((0 : Int) + (-1)) = yq_ptr ((1 * r 0 + 0) + 0) ((1 * r 1 + 0) + 0) ((1 * r 2 + 0) + 0) ((1 * ((1 * r 4 + 0) + 0) + 0) + 0) ∧ ((1 * ((1 * r 4 + 0) + 0) + 0) + 0) = yq_ptm ((1 * r 0 + 0) + 0) ((1 * r 1 + 0) + 0) ((1 * r 2 + 0) + 0) ((1 * ((1 * r 4 + 0) + 0) + 0) + 0)) ∧ (g 2) = yq_ad ((1 * r 0 + 0) + 0) ((1 * r 1 + 0) + 0) ((1 * r 2 + 0) + 0) ((1 * ((1 * r 4 + 0) + 0) + 0) + 0) (g0 2) ((1 * r 0 + 0) + 0) ∧ (g 3) = yq_ad ((1 * r 0 + 0) + 0) ((1 * r 1 + 0) + 0) ((1 * r 2 + 0) + 0) ((1 * ((1 * r 4 + 0) + 0) + 0) + 0) (g0 3) ((1 * r 1 + 0) + 0) ∧ (g 4) = yq_ad ((1 * r 0 + 0) + 0) ((1 * r 1 + 0) + 0) ((1 * r 2 + 0) + 0) ((1 * ((1 * r 4 + 0) + 0) + 0) + 0) (g0 4) ((1 * r 2 + 0) + 0) ∧ (g 5) = yq_ad ((1 * r 0 + 0) + 0) ((1 * r 1 + 0) + 0) ((1 * r 2 + 0) + 0) ((1 * ((1 * r 4 + 0) + 0) + 0) + 0) (g0 5) 1) ∧ ((1 * ((1 * r 5 + 0) + 0) + 0) + 0) = ye_wr ((1 * ((1 * r 5 + 0) + 0) + 0) + 0) (((1 * ((1 * r 4 + 0) + 0) + 0) + 0) - ((1 * ((1 * r 4 + 0) + 0) + 0) + 0))
  try simp only [Int.one_mul, Int.zero_add, Int.add_zero]
  refine ⟨?_, ?_⟩
  · refine ⟨?_, ?_⟩
    · refine ⟨?_, ?_⟩
      · unfold yq_ptr
        repeat' split
        all_goals omega
      · unfold yq_ptm
        repeat' split
        all_goals omega
    · refine ⟨?_, ?_, ?_, ?_⟩
      · unfold yq_ad
        rw [if_neg (by omega)]
        rw [hgi]
      · unfold yq_ad
        rw [if_neg (by omega)]
        rw [hgi]
      · unfold yq_ad
        rw [if_neg (by omega)]
        rw [hgi]
      · unfold yq_ad
        rw [if_neg (by omega)]
        rw [hgi]
  · exact (ye_w0 (by omega) (by omega)).symm.trans (congrArg (ye_wr _) (show (0 : Int) = _ by omega))
theorem xw_127_0_5 : yt_hold xT_127 xk_127 xq_127.2.2.1 xG_127 xP_127 xU_127 6 xk_127.2.1.2.2.2 (fun g0 r g => xR_127 r g0 ∧ g = g0) (1000, ([((-300), 300), ((-300), 300), (2, 2147483647), ((-2147483648), 2147483647), (0, 40), ((-2147483648), 2147483647), ((-2147483648), 0)], []), [([], (-1)), ([(6, 1)], 0), ([(4, 1)], 0), ([(5, 1)], 0)], [], []) := by
  intro g0 r gi g hok hh hars hfr hG
  have b0 : (-300) ≤ r 0 ∧ r 0 ≤ 300 := hok.1 0 ((-300), 300) rfl
  have b1 : (-300) ≤ r 1 ∧ r 1 ≤ 300 := hok.1 1 ((-300), 300) rfl
  have b2 : 2 ≤ r 2 ∧ r 2 ≤ 2147483647 := hok.1 2 (2, 2147483647) rfl
  have b4 : 0 ≤ r 4 ∧ r 4 ≤ 40 := hok.1 4 (0, 40) rfl
  have b5 : (-2147483648) ≤ r 5 ∧ r 5 ≤ 2147483647 := hok.1 5 ((-2147483648), 2147483647) rfl
  have b6 : (-2147483648) ≤ r 6 ∧ r 6 ≤ 0 := hok.1 6 ((-2147483648), 0) rfl
  obtain ⟨hG, hgi⟩ := hG
  have hG : True := hG
  have hh : g = gi := hh
  subst hh
  refine yt_dalt (by decide) (by decide) ?_
  rw [show xk_127.2.1.2.1.1.length = 6 from rfl]
  show ((((0 : Int) + (-1)) = yq_ptr ((1 * r 0 + 0) + 0) ((1 * r 1 + 0) + 0) ((1 * r 2 + 0) + 0) ((1 * ((1 * r 4 + 0) + 0) + 0) + 0) ∧ ((1 * ((1 * r 4 + 0) + 0) + 0) + 0) = yq_ptm ((1 * r 0 + 0) + 0) ((1 * r 1 + 0) + 0) ((1 * r 2 + 0) + 0) ((1 * ((1 * r 4 + 0) + 0) + 0) + 0)) ∧ (g 2) = yq_ad ((1 * r 0 + 0) + 0) ((1 * r 1 + 0) + 0) ((1 * r 2 + 0) + 0) ((1 * ((1 * r 4 + 0) + 0) + 0) + 0) (g0 2) ((1 * r 0 + 0) + 0) ∧ (g 3) = yq_ad ((1 * r 0 + 0) + 0) ((1 * r 1 + 0) + 0) ((1 * r 2 + 0) + 0) ((1 * ((1 * r 4 + 0) + 0) + 0) + 0) (g0 3) ((1 * r 1 + 0) + 0) ∧ (g 4) = yq_ad ((1 * r 0 + 0) + 0) ((1 * r 1 + 0) + 0) ((1 * r 2 + 0) + 0) ((1 * ((1 * r 4 + 0) + 0) + 0) + 0) (g0 4) ((1 * r 2 + 0) + 0) ∧ (g 5) = yq_ad ((1 * r 0 + 0) + 0) ((1 * r 1 + 0) + 0) ((1 * r 2 + 0) + 0) ((1 * ((1 * r 4 + 0) + 0) + 0) + 0) (g0 5) 1) ∧ ((1 * ((1 * r 5 + 0) + 0) + 0) + 0) = ye_wr ((1 * ((1 * r 5 + 0) + 0) + 0) + 0) (((1 * ((1 * r 4 + 0) + 0) + 0) + 0) - ((1 * ((1 * r 4 + 0) + 0) + 0) + 0))
  try simp only [Int.one_mul, Int.zero_add, Int.add_zero]
  refine ⟨?_, ?_⟩
  · refine ⟨?_, ?_⟩
    · refine ⟨?_, ?_⟩
      · unfold yq_ptr
        repeat' split
        all_goals omega
      · unfold yq_ptm
        repeat' split
        all_goals omega
    · refine ⟨?_, ?_, ?_, ?_⟩
      · unfold yq_ad
        rw [if_neg (by omega)]
        rw [hgi]
      · unfold yq_ad
        rw [if_neg (by omega)]
        rw [hgi]
      · unfold yq_ad
        rw [if_neg (by omega)]
        rw [hgi]
      · unfold yq_ad
        rw [if_neg (by omega)]
        rw [hgi]
  · exact (ye_w0 (by omega) (by omega)).symm.trans (congrArg (ye_wr _) (show (0 : Int) = _ by omega))
theorem xw_127_0_6 : yt_hold xT_127 xk_127 xq_127.2.2.1 xG_127 xP_127 xU_127 6 xk_127.2.1.2.2.2 (fun g0 r g => xR_127 r g0 ∧ g = g0) (1000, ([((-300), 300), ((-300), 300), (1, 1), ((-2147483648), 2147483647), (0, 39), ((-2147483648), 2147483647), ((-2147483648), 2147483647), ((-2147483648), 0)], []), [([(4, 1)], 1), ([(7, 1)], 0), ([(4, 1)], 1), ([(6, 1)], 0)], [], [.inr (.inr (.inl (130, 0, [([(0, 1)], 0), ([(1, 1)], 0), ([], 1), ([(4, 1)], 0), ([(5, 1)], 0), ([(6, 1)], 0)], [1, 2, 3, 4, 5], [2, 3, 4, 5])))]) := by
  intro g0 r gi g hok hh hars hfr hG
  have b0 : (-300) ≤ r 0 ∧ r 0 ≤ 300 := hok.1 0 ((-300), 300) rfl
  have b1 : (-300) ≤ r 1 ∧ r 1 ≤ 300 := hok.1 1 ((-300), 300) rfl
  have b2 : 1 ≤ r 2 ∧ r 2 ≤ 1 := hok.1 2 (1, 1) rfl
  have b4 : 0 ≤ r 4 ∧ r 4 ≤ 39 := hok.1 4 (0, 39) rfl
  have b5 : (-2147483648) ≤ r 5 ∧ r 5 ≤ 2147483647 := hok.1 5 ((-2147483648), 2147483647) rfl
  have b6 : (-2147483648) ≤ r 6 ∧ r 6 ≤ 2147483647 := hok.1 6 ((-2147483648), 2147483647) rfl
  have b7 : (-2147483648) ≤ r 7 ∧ r 7 ≤ 0 := hok.1 7 ((-2147483648), 0) rfl
  obtain ⟨hG, hgi⟩ := hG
  have hG : True := hG
  obtain ⟨h0, hh, e0, k0⟩ := hh
  have k0 : ∀ j, j ∉ [2, 3, 4, 5] → g j = h0 j := k0
  have e0 : ((g 2) = yq_set (h0 2) (((1 * r 4 + 0) + 0)).toNat ((1 * r 0 + 0) + 0) ∧ (g 3) = yq_set (h0 3) (((1 * r 4 + 0) + 0)).toNat ((1 * r 1 + 0) + 0) ∧ (g 4) = yq_set (h0 4) (((1 * r 4 + 0) + 0)).toNat ((0 : Int) + 1) ∧ (g 5) = yq_set (h0 5) (((1 * r 4 + 0) + 0)).toNat 1) ∧ ((1 * ((1 * r 6 + 0) + 0) + 0) + 0) = ye_wr ((1 * ((1 * r 5 + 0) + 0) + 0) + 0) 1 := e0
  have hh : h0 = gi := hh
  subst hh
  refine yt_dalt (by decide) (by decide) ?_
  rw [show xk_127.2.1.2.1.1.length = 6 from rfl]
  show ((((1 * r 4 + 0) + 1) = yq_ptr ((1 * r 0 + 0) + 0) ((1 * r 1 + 0) + 0) ((1 * r 2 + 0) + 0) ((1 * ((1 * r 4 + 0) + 0) + 0) + 0) ∧ ((1 * ((1 * r 4 + 0) + 1) + 0) + 0) = yq_ptm ((1 * r 0 + 0) + 0) ((1 * r 1 + 0) + 0) ((1 * r 2 + 0) + 0) ((1 * ((1 * r 4 + 0) + 0) + 0) + 0)) ∧ (g 2) = yq_ad ((1 * r 0 + 0) + 0) ((1 * r 1 + 0) + 0) ((1 * r 2 + 0) + 0) ((1 * ((1 * r 4 + 0) + 0) + 0) + 0) (g0 2) ((1 * r 0 + 0) + 0) ∧ (g 3) = yq_ad ((1 * r 0 + 0) + 0) ((1 * r 1 + 0) + 0) ((1 * r 2 + 0) + 0) ((1 * ((1 * r 4 + 0) + 0) + 0) + 0) (g0 3) ((1 * r 1 + 0) + 0) ∧ (g 4) = yq_ad ((1 * r 0 + 0) + 0) ((1 * r 1 + 0) + 0) ((1 * r 2 + 0) + 0) ((1 * ((1 * r 4 + 0) + 0) + 0) + 0) (g0 4) ((1 * r 2 + 0) + 0) ∧ (g 5) = yq_ad ((1 * r 0 + 0) + 0) ((1 * r 1 + 0) + 0) ((1 * r 2 + 0) + 0) ((1 * ((1 * r 4 + 0) + 0) + 0) + 0) (g0 5) 1) ∧ ((1 * ((1 * r 6 + 0) + 0) + 0) + 0) = ye_wr ((1 * ((1 * r 5 + 0) + 0) + 0) + 0) (((1 * ((1 * r 4 + 0) + 1) + 0) + 0) - ((1 * ((1 * r 4 + 0) + 0) + 0) + 0))
  try simp only [Int.one_mul, Int.zero_add, Int.add_zero]
  refine ⟨?_, ?_⟩
  · refine ⟨?_, ?_⟩
    · refine ⟨?_, ?_⟩
      · unfold yq_ptr
        repeat' split
        all_goals omega
      · unfold yq_ptm
        repeat' split
        all_goals omega
    · try simp only [Int.one_mul, Int.zero_add, Int.add_zero] at e0
      obtain ⟨⟨m0, m1, m2, m3⟩, mc⟩ := e0
      refine ⟨?_, ?_, ?_, ?_⟩
      · unfold yq_ad
        rw [if_pos (by omega), m0, hgi] <;> exact congrArg (yq_set _ _) (by omega)
      · unfold yq_ad
        rw [if_pos (by omega), m1, hgi] <;> exact congrArg (yq_set _ _) (by omega)
      · unfold yq_ad
        rw [if_pos (by omega), m2, hgi] <;> exact congrArg (yq_set _ _) (by omega)
      · unfold yq_ad
        rw [if_pos (by omega), m3, hgi] <;> exact congrArg (yq_set _ _) (by omega)
  · try simp only [Int.one_mul, Int.zero_add, Int.add_zero] at e0
    exact e0.2.trans (congrArg (ye_wr _) (show (1 : Int) = _ by omega))
theorem xw_127_0_7 : yt_hold xT_127 xk_127 xq_127.2.2.1 xG_127 xP_127 xU_127 6 xk_127.2.1.2.2.2 (fun g0 r g => xR_127 r g0 ∧ g = g0) (1000, ([((-300), 300), ((-300), 300), (1, 1), ((-2147483648), 2147483647), (40, 40), ((-2147483648), 2147483647), ((-2147483648), 0)], []), [([], (-5)), ([(6, 1)], 0), ([(4, 1)], 0), ([(5, 1)], 0)], [], []) := by
  intro g0 r gi g hok hh hars hfr hG
  have b0 : (-300) ≤ r 0 ∧ r 0 ≤ 300 := hok.1 0 ((-300), 300) rfl
  have b1 : (-300) ≤ r 1 ∧ r 1 ≤ 300 := hok.1 1 ((-300), 300) rfl
  have b2 : 1 ≤ r 2 ∧ r 2 ≤ 1 := hok.1 2 (1, 1) rfl
  have b4 : 40 ≤ r 4 ∧ r 4 ≤ 40 := hok.1 4 (40, 40) rfl
  have b5 : (-2147483648) ≤ r 5 ∧ r 5 ≤ 2147483647 := hok.1 5 ((-2147483648), 2147483647) rfl
  have b6 : (-2147483648) ≤ r 6 ∧ r 6 ≤ 0 := hok.1 6 ((-2147483648), 0) rfl
  obtain ⟨hG, hgi⟩ := hG
  have hG : True := hG
  have hh : g = gi := hh
  subst hh
  refine yt_dalt (by decide) (by decide) ?_
  rw [show xk_127.2.1.2.1.1.length = 6 from rfl]
  show ((((0 : Int) + (-5)) = yq_ptr ((1 * r 0 + 0) + 0) ((1 * r 1 + 0) + 0) ((1 * r 2 + 0) + 0) ((1 * ((1 * r 4 + 0) + 0) + 0) + 0) ∧ ((1 * ((1 * r 4 + 0) + 0) + 0) + 0) = yq_ptm ((1 * r 0 + 0) + 0) ((1 * r 1 + 0) + 0) ((1 * r 2 + 0) + 0) ((1 * ((1 * r 4 + 0) + 0) + 0) + 0)) ∧ (g 2) = yq_ad ((1 * r 0 + 0) + 0) ((1 * r 1 + 0) + 0) ((1 * r 2 + 0) + 0) ((1 * ((1 * r 4 + 0) + 0) + 0) + 0) (g0 2) ((1 * r 0 + 0) + 0) ∧ (g 3) = yq_ad ((1 * r 0 + 0) + 0) ((1 * r 1 + 0) + 0) ((1 * r 2 + 0) + 0) ((1 * ((1 * r 4 + 0) + 0) + 0) + 0) (g0 3) ((1 * r 1 + 0) + 0) ∧ (g 4) = yq_ad ((1 * r 0 + 0) + 0) ((1 * r 1 + 0) + 0) ((1 * r 2 + 0) + 0) ((1 * ((1 * r 4 + 0) + 0) + 0) + 0) (g0 4) ((1 * r 2 + 0) + 0) ∧ (g 5) = yq_ad ((1 * r 0 + 0) + 0) ((1 * r 1 + 0) + 0) ((1 * r 2 + 0) + 0) ((1 * ((1 * r 4 + 0) + 0) + 0) + 0) (g0 5) 1) ∧ ((1 * ((1 * r 5 + 0) + 0) + 0) + 0) = ye_wr ((1 * ((1 * r 5 + 0) + 0) + 0) + 0) (((1 * ((1 * r 4 + 0) + 0) + 0) + 0) - ((1 * ((1 * r 4 + 0) + 0) + 0) + 0))
  try simp only [Int.one_mul, Int.zero_add, Int.add_zero]
  refine ⟨?_, ?_⟩
  · refine ⟨?_, ?_⟩
    · refine ⟨?_, ?_⟩
      · unfold yq_ptr
        repeat' split
        all_goals omega
      · unfold yq_ptm
        repeat' split
        all_goals omega
    · refine ⟨?_, ?_, ?_, ?_⟩
      · unfold yq_ad
        rw [if_neg (by omega)]
        rw [hgi]
      · unfold yq_ad
        rw [if_neg (by omega)]
        rw [hgi]
      · unfold yq_ad
        rw [if_neg (by omega)]
        rw [hgi]
      · unfold yq_ad
        rw [if_neg (by omega)]
        rw [hgi]
  · exact (ye_w0 (by omega) (by omega)).symm.trans (congrArg (ye_wr _) (show (0 : Int) = _ by omega))
theorem xw_127_0_8 : yt_hold xT_127 xk_127 xq_127.2.2.1 xG_127 xP_127 xU_127 6 xk_127.2.1.2.2.2 (fun g0 r g => xR_127 r g0 ∧ g = g0) (1000, ([((-300), 300), ((-300), 300), (0, 0), ((-2147483648), 2147483647), (0, 39), ((-2147483648), 2147483647), ((-2147483648), 2147483647), ((-2147483648), 0)], []), [([(4, 1)], 1), ([(7, 1)], 0), ([(4, 1)], 1), ([(6, 1)], 0)], [], [.inr (.inr (.inl (130, 0, [([(0, 1)], 0), ([(1, 1)], 0), ([], 0), ([(4, 1)], 0), ([(5, 1)], 0), ([(6, 1)], 0)], [1, 2, 3, 4, 5], [2, 3, 4, 5])))]) := by
  intro g0 r gi g hok hh hars hfr hG
  have b0 : (-300) ≤ r 0 ∧ r 0 ≤ 300 := hok.1 0 ((-300), 300) rfl
  have b1 : (-300) ≤ r 1 ∧ r 1 ≤ 300 := hok.1 1 ((-300), 300) rfl
  have b2 : 0 ≤ r 2 ∧ r 2 ≤ 0 := hok.1 2 (0, 0) rfl
  have b4 : 0 ≤ r 4 ∧ r 4 ≤ 39 := hok.1 4 (0, 39) rfl
  have b5 : (-2147483648) ≤ r 5 ∧ r 5 ≤ 2147483647 := hok.1 5 ((-2147483648), 2147483647) rfl
  have b6 : (-2147483648) ≤ r 6 ∧ r 6 ≤ 2147483647 := hok.1 6 ((-2147483648), 2147483647) rfl
  have b7 : (-2147483648) ≤ r 7 ∧ r 7 ≤ 0 := hok.1 7 ((-2147483648), 0) rfl
  obtain ⟨hG, hgi⟩ := hG
  have hG : True := hG
  obtain ⟨h0, hh, e0, k0⟩ := hh
  have k0 : ∀ j, j ∉ [2, 3, 4, 5] → g j = h0 j := k0
  have e0 : ((g 2) = yq_set (h0 2) (((1 * r 4 + 0) + 0)).toNat ((1 * r 0 + 0) + 0) ∧ (g 3) = yq_set (h0 3) (((1 * r 4 + 0) + 0)).toNat ((1 * r 1 + 0) + 0) ∧ (g 4) = yq_set (h0 4) (((1 * r 4 + 0) + 0)).toNat ((0 : Int) + 0) ∧ (g 5) = yq_set (h0 5) (((1 * r 4 + 0) + 0)).toNat 1) ∧ ((1 * ((1 * r 6 + 0) + 0) + 0) + 0) = ye_wr ((1 * ((1 * r 5 + 0) + 0) + 0) + 0) 1 := e0
  have hh : h0 = gi := hh
  subst hh
  refine yt_dalt (by decide) (by decide) ?_
  rw [show xk_127.2.1.2.1.1.length = 6 from rfl]
  show ((((1 * r 4 + 0) + 1) = yq_ptr ((1 * r 0 + 0) + 0) ((1 * r 1 + 0) + 0) ((1 * r 2 + 0) + 0) ((1 * ((1 * r 4 + 0) + 0) + 0) + 0) ∧ ((1 * ((1 * r 4 + 0) + 1) + 0) + 0) = yq_ptm ((1 * r 0 + 0) + 0) ((1 * r 1 + 0) + 0) ((1 * r 2 + 0) + 0) ((1 * ((1 * r 4 + 0) + 0) + 0) + 0)) ∧ (g 2) = yq_ad ((1 * r 0 + 0) + 0) ((1 * r 1 + 0) + 0) ((1 * r 2 + 0) + 0) ((1 * ((1 * r 4 + 0) + 0) + 0) + 0) (g0 2) ((1 * r 0 + 0) + 0) ∧ (g 3) = yq_ad ((1 * r 0 + 0) + 0) ((1 * r 1 + 0) + 0) ((1 * r 2 + 0) + 0) ((1 * ((1 * r 4 + 0) + 0) + 0) + 0) (g0 3) ((1 * r 1 + 0) + 0) ∧ (g 4) = yq_ad ((1 * r 0 + 0) + 0) ((1 * r 1 + 0) + 0) ((1 * r 2 + 0) + 0) ((1 * ((1 * r 4 + 0) + 0) + 0) + 0) (g0 4) ((1 * r 2 + 0) + 0) ∧ (g 5) = yq_ad ((1 * r 0 + 0) + 0) ((1 * r 1 + 0) + 0) ((1 * r 2 + 0) + 0) ((1 * ((1 * r 4 + 0) + 0) + 0) + 0) (g0 5) 1) ∧ ((1 * ((1 * r 6 + 0) + 0) + 0) + 0) = ye_wr ((1 * ((1 * r 5 + 0) + 0) + 0) + 0) (((1 * ((1 * r 4 + 0) + 1) + 0) + 0) - ((1 * ((1 * r 4 + 0) + 0) + 0) + 0))
  try simp only [Int.one_mul, Int.zero_add, Int.add_zero]
  refine ⟨?_, ?_⟩
  · refine ⟨?_, ?_⟩
    · refine ⟨?_, ?_⟩
      · unfold yq_ptr
        repeat' split
        all_goals omega
      · unfold yq_ptm
        repeat' split
        all_goals omega
    · try simp only [Int.one_mul, Int.zero_add, Int.add_zero] at e0
      obtain ⟨⟨m0, m1, m2, m3⟩, mc⟩ := e0
      refine ⟨?_, ?_, ?_, ?_⟩
      · unfold yq_ad
        rw [if_pos (by omega), m0, hgi] <;> exact congrArg (yq_set _ _) (by omega)
      · unfold yq_ad
        rw [if_pos (by omega), m1, hgi] <;> exact congrArg (yq_set _ _) (by omega)
      · unfold yq_ad
        rw [if_pos (by omega), m2, hgi] <;> exact congrArg (yq_set _ _) (by omega)
      · unfold yq_ad
        rw [if_pos (by omega), m3, hgi] <;> exact congrArg (yq_set _ _) (by omega)
  · try simp only [Int.one_mul, Int.zero_add, Int.add_zero] at e0
    exact e0.2.trans (congrArg (ye_wr _) (show (1 : Int) = _ by omega))
theorem xw_127_0_9 : yt_hold xT_127 xk_127 xq_127.2.2.1 xG_127 xP_127 xU_127 6 xk_127.2.1.2.2.2 (fun g0 r g => xR_127 r g0 ∧ g = g0) (1000, ([((-300), 300), ((-300), 300), (0, 0), ((-2147483648), 2147483647), (40, 40), ((-2147483648), 2147483647), ((-2147483648), 0)], []), [([], (-5)), ([(6, 1)], 0), ([(4, 1)], 0), ([(5, 1)], 0)], [], []) := by
  intro g0 r gi g hok hh hars hfr hG
  have b0 : (-300) ≤ r 0 ∧ r 0 ≤ 300 := hok.1 0 ((-300), 300) rfl
  have b1 : (-300) ≤ r 1 ∧ r 1 ≤ 300 := hok.1 1 ((-300), 300) rfl
  have b2 : 0 ≤ r 2 ∧ r 2 ≤ 0 := hok.1 2 (0, 0) rfl
  have b4 : 40 ≤ r 4 ∧ r 4 ≤ 40 := hok.1 4 (40, 40) rfl
  have b5 : (-2147483648) ≤ r 5 ∧ r 5 ≤ 2147483647 := hok.1 5 ((-2147483648), 2147483647) rfl
  have b6 : (-2147483648) ≤ r 6 ∧ r 6 ≤ 0 := hok.1 6 ((-2147483648), 0) rfl
  obtain ⟨hG, hgi⟩ := hG
  have hG : True := hG
  have hh : g = gi := hh
  subst hh
  refine yt_dalt (by decide) (by decide) ?_
  rw [show xk_127.2.1.2.1.1.length = 6 from rfl]
  show ((((0 : Int) + (-5)) = yq_ptr ((1 * r 0 + 0) + 0) ((1 * r 1 + 0) + 0) ((1 * r 2 + 0) + 0) ((1 * ((1 * r 4 + 0) + 0) + 0) + 0) ∧ ((1 * ((1 * r 4 + 0) + 0) + 0) + 0) = yq_ptm ((1 * r 0 + 0) + 0) ((1 * r 1 + 0) + 0) ((1 * r 2 + 0) + 0) ((1 * ((1 * r 4 + 0) + 0) + 0) + 0)) ∧ (g 2) = yq_ad ((1 * r 0 + 0) + 0) ((1 * r 1 + 0) + 0) ((1 * r 2 + 0) + 0) ((1 * ((1 * r 4 + 0) + 0) + 0) + 0) (g0 2) ((1 * r 0 + 0) + 0) ∧ (g 3) = yq_ad ((1 * r 0 + 0) + 0) ((1 * r 1 + 0) + 0) ((1 * r 2 + 0) + 0) ((1 * ((1 * r 4 + 0) + 0) + 0) + 0) (g0 3) ((1 * r 1 + 0) + 0) ∧ (g 4) = yq_ad ((1 * r 0 + 0) + 0) ((1 * r 1 + 0) + 0) ((1 * r 2 + 0) + 0) ((1 * ((1 * r 4 + 0) + 0) + 0) + 0) (g0 4) ((1 * r 2 + 0) + 0) ∧ (g 5) = yq_ad ((1 * r 0 + 0) + 0) ((1 * r 1 + 0) + 0) ((1 * r 2 + 0) + 0) ((1 * ((1 * r 4 + 0) + 0) + 0) + 0) (g0 5) 1) ∧ ((1 * ((1 * r 5 + 0) + 0) + 0) + 0) = ye_wr ((1 * ((1 * r 5 + 0) + 0) + 0) + 0) (((1 * ((1 * r 4 + 0) + 0) + 0) + 0) - ((1 * ((1 * r 4 + 0) + 0) + 0) + 0))
  try simp only [Int.one_mul, Int.zero_add, Int.add_zero]
  refine ⟨?_, ?_⟩
  · refine ⟨?_, ?_⟩
    · refine ⟨?_, ?_⟩
      · unfold yq_ptr
        repeat' split
        all_goals omega
      · unfold yq_ptm
        repeat' split
        all_goals omega
    · refine ⟨?_, ?_, ?_, ?_⟩
      · unfold yq_ad
        rw [if_neg (by omega)]
        rw [hgi]
      · unfold yq_ad
        rw [if_neg (by omega)]
        rw [hgi]
      · unfold yq_ad
        rw [if_neg (by omega)]
        rw [hgi]
      · unfold yq_ad
        rw [if_neg (by omega)]
        rw [hgi]
  · exact (ye_w0 (by omega) (by omega)).symm.trans (congrArg (ye_wr _) (show (0 : Int) = _ by omega))
theorem xn_127 : ∀ (j : Nat) (q : Nat × yt_T), xq_127.2.2.1[j]? = some q → q.2.2.2 = false → ∀ g0 r g, xG_127 j g0 r g
  | n + 0, q, hq, _ => by cases hq
theorem xs_127 : ∀ j, xq_127.2.2.2.getD j false = false → ∀ r g g', xP_127 j r g g'
  | 0, hf => by cases hf
  | n + 1, _ => fun _ _ _ => trivial
theorem xc_127 {l : Launch} {D : va_G} {cT : Nat → ClassId} {tys : List (ClassId × FieldType)} (hty : yx_Ty tys cT) : yt_Con l D vwCl cT tys yG yw_s38 xk_127 xR_127 xP_127 := yx_sem (calls := xa_127) (Z := xq_127) (tb := xT_127) (pt := xU_127) (Ga := xG_127) (vs := xv_127) (fun _ _ _ _ => trivial) 300 (by decide +kernel) yz_X11_point_ok hty (yl_lkX11 _) (yl_cqkX11 _) (List.forall_mem_cons.mpr ⟨⟨xc_125 hty, yg_CLs yl_wX11_99 yd_yX6_isNear, fun _ _ _ => trivial⟩, List.forall_mem_cons.mpr ⟨⟨xc_61 hty, yg_CLs yl_wX11_103 yd_yX6_isColour, fun _ _ _ => trivial⟩, List.forall_mem_cons.mpr ⟨⟨xc_3 hty, yg_CLv rfl rfl rfl yl_wX11_107 yd_yX11_told, fun _ _ _ => trivial⟩, List.forall_mem_cons.mpr ⟨⟨xc_126 hty, yg_CLv rfl rfl rfl yl_wX11_114 yd_yX6_add, fun _ _ _ => trivial⟩, fun _ h => absurd h List.not_mem_nil⟩⟩⟩⟩) (xn_127) (xs_127) (by decide +kernel) (List.forall_mem_cons.mpr ⟨xw_127_0_0, List.forall_mem_cons.mpr ⟨xw_127_0_1, List.forall_mem_cons.mpr ⟨xw_127_0_2, List.forall_mem_cons.mpr ⟨xw_127_0_3, List.forall_mem_cons.mpr ⟨xw_127_0_4, List.forall_mem_cons.mpr ⟨xw_127_0_5, List.forall_mem_cons.mpr ⟨xw_127_0_6, List.forall_mem_cons.mpr ⟨xw_127_0_7, List.forall_mem_cons.mpr ⟨xw_127_0_8, List.forall_mem_cons.mpr ⟨xw_127_0_9, fun _ h => absurd h List.not_mem_nil⟩⟩⟩⟩⟩⟩⟩⟩⟩⟩) (trivial)
noncomputable def xf_128 : ys_F := (yw_f27 1, yw_r27)
noncomputable def xk_128 : ys_K := (((yX8_has, cX8_has, 2, (some .boolean)), (0, 0)), ([.inr (some 0), .inl (.inl ([(0, 1)], 0))], ([((-2147483648), 2147483647)] ++ yw_e27, []), xf_128), ([([], [([(0, (-1))], (-1))], (xf_128.1, xf_128.2), some (.inl (.inl ([], 0)))), ([], [([(0, 1)], 0), ([(3, (-1)), (0, 1)], 0)], (xf_128.1, xf_128.2), some (.inl (.inl ([], 0)))), ([], [([(0, 1)], 0), ([(0, (-1))], 99), ([(3, 1)], (-1)), ([(3, 1), (0, (-1))], (-1))], (xf_128.1, xf_128.2), some (.inl (.inl ([], 1))))], []))
noncomputable def xq_128 : yt_Q := (yz_X8_has, (yl_flX8, yl_ciX8, yl_cjX8, yl_cpX8, yl_cqX8), [], [])
noncomputable def xa_128 : List yt_CE := []
theorem xc_128 {l : Launch} {D : va_G} {cT : Nat → ClassId} {tys : List (ClassId × FieldType)} (hty : yx_Ty tys cT) : yx_C l D cT tys yw_s27 xk_128 := yx_method (calls := xa_128) (Z := xq_128) 300 (by decide +kernel) yz_X8_has_ok hty (yl_lkX8 _) (yl_cqkX8 _) (fun _ h => absurd h List.not_mem_nil) (by decide +kernel)
noncomputable def xf_129 : ys_F := (yw_f30 2, yw_r30)
noncomputable def xk_129 : ys_K := (((yX11_read, cX11_read, 3, (some .long)), (1, 21)), ([.inr (some 0), .inl (.inl ([(0, 1)], 0)), .inl (.inl ([(1, 1)], 0))], ([((-2147483648), 2147483647), ((-2147483648), 2147483647)] ++ yw_e30, []), xf_129), ([([((-9223372036854775808), 9223372036854775807)], [], (xf_129.1, xf_129.2), some (.inl (.inr ([(15, 1)], 0))))], []))
noncomputable def xq_129 : yt_Q := (yz_X11_read, (yl_flX11, yl_ciX11, yl_cjX11, yl_cpX11, yl_cqX11), [], [true])
noncomputable def xa_129 : List yt_CE := [(((141, true), (0, false, [])), (yw_s2, xk_35)), (((155, false), (0, false, [8, 9])), (yw_s27, xk_128)), (((155, false), (0, false, [6, 7])), (yw_s27, xk_128)), (((155, false), (0, false, [4, 5])), (yw_s27, xk_128)), (((155, false), (0, false, [2, 3])), (yw_s27, xk_128))]
noncomputable def xv_129 : List (List yt_VC) := [[(1000, ([((-2147483648), (-1)), ((-2147483648), 2147483647), ((-2147483648), 2147483647), (0, 1), ((-2147483648), 2147483647), (0, 100), (0, 1), ((-2147483648), 2147483647), (0, 100), (0, 1), ((-2147483648), 2147483647), (0, 100), (0, 1), ((-2147483648), 2147483647), (0, 100)], []), [([], (-9223372036854775808))], [], []),
   (1000, ([(4, 2147483647), ((-2147483648), 2147483647), ((-2147483648), 2147483647), (0, 1), ((-2147483648), 2147483647), (0, 100), (0, 1), ((-2147483648), 2147483647), (0, 100), (0, 1), ((-2147483648), 2147483647), (0, 100), (0, 1), ((-2147483648), 2147483647), (0, 100)], []), [([], (-9223372036854775808))], [], []),
   (1000, ([(0, 0), ((-2147483648), (-1)), ((-2147483648), 2147483647), (0, 1), ((-2147483648), 2147483647), (0, 100), (0, 1), ((-2147483648), 2147483647), (0, 100), (0, 1), ((-2147483648), 2147483647), (0, 100), (0, 1), ((-2147483648), 2147483647), (0, 100)], []), [([], (-9223372036854775808))], [], []),
   (1000, ([(0, 0), (0, 2147483647), ((-2147483648), 2147483647), (0, 1), ((-2147483648), 2147483647), (0, 100), (0, 1), ((-2147483648), 2147483647), (0, 100), (0, 1), ((-2147483648), 2147483647), (0, 100), (0, 1), ((-2147483648), 2147483647), (0, 100)], [([(5, (-1)), (1, 1)], 0)]), [([], (-9223372036854775808))], [], []),
   (1000, ([(0, 0), (0, 99), ((-2147483648), 2147483647), (0, 1), ((-2147483648), 2147483647), (1, 100), (0, 1), ((-2147483648), 2147483647), (0, 100), (0, 1), ((-2147483648), 2147483647), (0, 100), (0, 1), ((-2147483648), 2147483647), (0, 100), ((-9223372036854775808), 9223372036854775807)], [([(5, 1), (1, (-1))], (-1))]), [([(15, 1)], 0)], [], [.inl (.inl (3, ([(1, 1)], 0), 15))]),
   (1000, ([(1, 1), ((-2147483648), (-1)), ((-2147483648), 2147483647), (0, 1), ((-2147483648), 2147483647), (0, 100), (0, 1), ((-2147483648), 2147483647), (0, 100), (0, 1), ((-2147483648), 2147483647), (0, 100), (0, 1), ((-2147483648), 2147483647), (0, 100)], []), [([], (-9223372036854775808))], [], []),
   (1000, ([(1, 1), (0, 2147483647), ((-2147483648), 2147483647), (0, 1), ((-2147483648), 2147483647), (0, 100), (0, 1), ((-2147483648), 2147483647), (0, 100), (0, 1), ((-2147483648), 2147483647), (0, 100), (0, 1), ((-2147483648), 2147483647), (0, 100)], [([(8, (-1)), (1, 1)], 0)]), [([], (-9223372036854775808))], [], []),
   (1000, ([(1, 1), (0, 99), ((-2147483648), 2147483647), (0, 1), ((-2147483648), 2147483647), (0, 100), (0, 1), ((-2147483648), 2147483647), (1, 100), (0, 1), ((-2147483648), 2147483647), (0, 100), (0, 1), ((-2147483648), 2147483647), (0, 100), ((-9223372036854775808), 9223372036854775807)], [([(8, 1), (1, (-1))], (-1))]), [([(15, 1)], 0)], [], [.inl (.inl (5, ([(1, 1)], 0), 15))]),
   (1000, ([(2, 2), ((-2147483648), (-1)), ((-2147483648), 2147483647), (0, 1), ((-2147483648), 2147483647), (0, 100), (0, 1), ((-2147483648), 2147483647), (0, 100), (0, 1), ((-2147483648), 2147483647), (0, 100), (0, 1), ((-2147483648), 2147483647), (0, 100)], []), [([], (-9223372036854775808))], [], []),
   (1000, ([(2, 2), (0, 2147483647), ((-2147483648), 2147483647), (0, 1), ((-2147483648), 2147483647), (0, 100), (0, 1), ((-2147483648), 2147483647), (0, 100), (0, 1), ((-2147483648), 2147483647), (0, 100), (0, 1), ((-2147483648), 2147483647), (0, 100)], [([(11, (-1)), (1, 1)], 0)]), [([], (-9223372036854775808))], [], []),
   (1000, ([(2, 2), (0, 99), ((-2147483648), 2147483647), (0, 1), ((-2147483648), 2147483647), (0, 100), (0, 1), ((-2147483648), 2147483647), (0, 100), (0, 1), ((-2147483648), 2147483647), (1, 100), (0, 1), ((-2147483648), 2147483647), (0, 100), ((-9223372036854775808), 9223372036854775807)], [([(11, 1), (1, (-1))], (-1))]), [([(15, 1)], 0)], [], [.inl (.inl (7, ([(1, 1)], 0), 15))]),
   (1000, ([(3, 3), ((-2147483648), (-1)), ((-2147483648), 2147483647), (0, 1), ((-2147483648), 2147483647), (0, 100), (0, 1), ((-2147483648), 2147483647), (0, 100), (0, 1), ((-2147483648), 2147483647), (0, 100), (0, 1), ((-2147483648), 2147483647), (0, 100)], []), [([], (-9223372036854775808))], [], []),
   (1000, ([(3, 3), (0, 2147483647), ((-2147483648), 2147483647), (0, 1), ((-2147483648), 2147483647), (0, 100), (0, 1), ((-2147483648), 2147483647), (0, 100), (0, 1), ((-2147483648), 2147483647), (0, 100), (0, 1), ((-2147483648), 2147483647), (0, 100)], [([(14, (-1)), (1, 1)], 0)]), [([], (-9223372036854775808))], [], []),
   (1000, ([(3, 3), (0, 99), ((-2147483648), 2147483647), (0, 1), ((-2147483648), 2147483647), (0, 100), (0, 1), ((-2147483648), 2147483647), (0, 100), (0, 1), ((-2147483648), 2147483647), (0, 100), (0, 1), ((-2147483648), 2147483647), (1, 100), ((-9223372036854775808), 9223372036854775807)], [([(14, 1), (1, (-1))], (-1))]), [([(15, 1)], 0)], [], [.inl (.inl (9, ([(1, 1)], 0), 15))])]]
noncomputable def xG_129 : Nat → yt_G → (Nat → Int) → yt_G → Prop
  | _, _, _, _ => True
noncomputable def xP_129 : yt_Ph
  | 0, r, g0, g => (r 15) = yq_rx (r 0) (r 1) (yq_at (r 0) ((1 * (r 5) + 0) + 0) ((1 * (r 8) + 0) + 0) ((1 * (r 11) + 0) + 0) ((1 * (r 14) + 0) + 0)) (yq_at (r 0) ((g0 3) ((r 1)).toNat) ((g0 5) ((r 1)).toNat) ((g0 7) ((r 1)).toNat) ((g0 9) ((r 1)).toNat))
  | _, _, _, _ => True
noncomputable def xR_129 : yt_Ps := fun r g0 => True
noncomputable def xT_129 : yt_Tb := fun d => match d with
  | _ => fun _ _ _ _ => True
noncomputable def xU_129 : Nat → yt_Ps := fun d => match d with
  | _ => fun _ _ => True
theorem xw_129_0_0 : yt_hold xT_129 xk_129 xq_129.2.2.1 xG_129 xP_129 xU_129 15 xk_129.2.1.2.2.2 (fun g0 r g => xR_129 r g0 ∧ g = g0) (1000, ([((-2147483648), (-1)), ((-2147483648), 2147483647), ((-2147483648), 2147483647), (0, 1), ((-2147483648), 2147483647), (0, 100), (0, 1), ((-2147483648), 2147483647), (0, 100), (0, 1), ((-2147483648), 2147483647), (0, 100), (0, 1), ((-2147483648), 2147483647), (0, 100)], []), [([], (-9223372036854775808))], [], []) := by
  intro g0 r gi g hok hh hars hfr hG
  have b0 : (-2147483648) ≤ r 0 ∧ r 0 ≤ (-1) := hok.1 0 ((-2147483648), (-1)) rfl
  have b1 : (-2147483648) ≤ r 1 ∧ r 1 ≤ 2147483647 := hok.1 1 ((-2147483648), 2147483647) rfl
  have b2 : (-2147483648) ≤ r 2 ∧ r 2 ≤ 2147483647 := hok.1 2 ((-2147483648), 2147483647) rfl
  have b3 : 0 ≤ r 3 ∧ r 3 ≤ 1 := hok.1 3 (0, 1) rfl
  have b4 : (-2147483648) ≤ r 4 ∧ r 4 ≤ 2147483647 := hok.1 4 ((-2147483648), 2147483647) rfl
  have b5 : 0 ≤ r 5 ∧ r 5 ≤ 100 := hok.1 5 (0, 100) rfl
  have b6 : 0 ≤ r 6 ∧ r 6 ≤ 1 := hok.1 6 (0, 1) rfl
  have b7 : (-2147483648) ≤ r 7 ∧ r 7 ≤ 2147483647 := hok.1 7 ((-2147483648), 2147483647) rfl
  have b8 : 0 ≤ r 8 ∧ r 8 ≤ 100 := hok.1 8 (0, 100) rfl
  have b9 : 0 ≤ r 9 ∧ r 9 ≤ 1 := hok.1 9 (0, 1) rfl
  have b10 : (-2147483648) ≤ r 10 ∧ r 10 ≤ 2147483647 := hok.1 10 ((-2147483648), 2147483647) rfl
  have b11 : 0 ≤ r 11 ∧ r 11 ≤ 100 := hok.1 11 (0, 100) rfl
  have b12 : 0 ≤ r 12 ∧ r 12 ≤ 1 := hok.1 12 (0, 1) rfl
  have b13 : (-2147483648) ≤ r 13 ∧ r 13 ≤ 2147483647 := hok.1 13 ((-2147483648), 2147483647) rfl
  have b14 : 0 ≤ r 14 ∧ r 14 ≤ 100 := hok.1 14 (0, 100) rfl
  obtain ⟨hG, hgi⟩ := hG
  have hG : True := hG
  have hh : g = gi := hh
  subst hh
  refine yt_dalt (by decide) (by decide) ?_
  rw [show xk_129.2.1.2.1.1.length = 15 from rfl]
  show ((0 : Int) + (-9223372036854775808)) = yq_rx ((1 * r 0 + 0) + 0) ((1 * r 1 + 0) + 0) (yq_at ((1 * r 0 + 0) + 0) ((1 * ((1 * r 5 + 0) + 0) + 0) + 0) ((1 * ((1 * r 8 + 0) + 0) + 0) + 0) ((1 * ((1 * r 11 + 0) + 0) + 0) + 0) ((1 * ((1 * r 14 + 0) + 0) + 0) + 0)) (yq_at ((1 * r 0 + 0) + 0) ((g0 3) (((1 * r 1 + 0) + 0)).toNat) ((g0 5) (((1 * r 1 + 0) + 0)).toNat) ((g0 7) (((1 * r 1 + 0) + 0)).toNat) ((g0 9) (((1 * r 1 + 0) + 0)).toNat))
  try simp only [Int.one_mul, Int.zero_add, Int.add_zero]
  unfold yq_rx
  rw [if_neg (by omega)] <;> omega
theorem xw_129_0_1 : yt_hold xT_129 xk_129 xq_129.2.2.1 xG_129 xP_129 xU_129 15 xk_129.2.1.2.2.2 (fun g0 r g => xR_129 r g0 ∧ g = g0) (1000, ([(4, 2147483647), ((-2147483648), 2147483647), ((-2147483648), 2147483647), (0, 1), ((-2147483648), 2147483647), (0, 100), (0, 1), ((-2147483648), 2147483647), (0, 100), (0, 1), ((-2147483648), 2147483647), (0, 100), (0, 1), ((-2147483648), 2147483647), (0, 100)], []), [([], (-9223372036854775808))], [], []) := by
  intro g0 r gi g hok hh hars hfr hG
  have b0 : 4 ≤ r 0 ∧ r 0 ≤ 2147483647 := hok.1 0 (4, 2147483647) rfl
  have b1 : (-2147483648) ≤ r 1 ∧ r 1 ≤ 2147483647 := hok.1 1 ((-2147483648), 2147483647) rfl
  have b2 : (-2147483648) ≤ r 2 ∧ r 2 ≤ 2147483647 := hok.1 2 ((-2147483648), 2147483647) rfl
  have b3 : 0 ≤ r 3 ∧ r 3 ≤ 1 := hok.1 3 (0, 1) rfl
  have b4 : (-2147483648) ≤ r 4 ∧ r 4 ≤ 2147483647 := hok.1 4 ((-2147483648), 2147483647) rfl
  have b5 : 0 ≤ r 5 ∧ r 5 ≤ 100 := hok.1 5 (0, 100) rfl
  have b6 : 0 ≤ r 6 ∧ r 6 ≤ 1 := hok.1 6 (0, 1) rfl
  have b7 : (-2147483648) ≤ r 7 ∧ r 7 ≤ 2147483647 := hok.1 7 ((-2147483648), 2147483647) rfl
  have b8 : 0 ≤ r 8 ∧ r 8 ≤ 100 := hok.1 8 (0, 100) rfl
  have b9 : 0 ≤ r 9 ∧ r 9 ≤ 1 := hok.1 9 (0, 1) rfl
  have b10 : (-2147483648) ≤ r 10 ∧ r 10 ≤ 2147483647 := hok.1 10 ((-2147483648), 2147483647) rfl
  have b11 : 0 ≤ r 11 ∧ r 11 ≤ 100 := hok.1 11 (0, 100) rfl
  have b12 : 0 ≤ r 12 ∧ r 12 ≤ 1 := hok.1 12 (0, 1) rfl
  have b13 : (-2147483648) ≤ r 13 ∧ r 13 ≤ 2147483647 := hok.1 13 ((-2147483648), 2147483647) rfl
  have b14 : 0 ≤ r 14 ∧ r 14 ≤ 100 := hok.1 14 (0, 100) rfl
  obtain ⟨hG, hgi⟩ := hG
  have hG : True := hG
  have hh : g = gi := hh
  subst hh
  refine yt_dalt (by decide) (by decide) ?_
  rw [show xk_129.2.1.2.1.1.length = 15 from rfl]
  show ((0 : Int) + (-9223372036854775808)) = yq_rx ((1 * r 0 + 0) + 0) ((1 * r 1 + 0) + 0) (yq_at ((1 * r 0 + 0) + 0) ((1 * ((1 * r 5 + 0) + 0) + 0) + 0) ((1 * ((1 * r 8 + 0) + 0) + 0) + 0) ((1 * ((1 * r 11 + 0) + 0) + 0) + 0) ((1 * ((1 * r 14 + 0) + 0) + 0) + 0)) (yq_at ((1 * r 0 + 0) + 0) ((g0 3) (((1 * r 1 + 0) + 0)).toNat) ((g0 5) (((1 * r 1 + 0) + 0)).toNat) ((g0 7) (((1 * r 1 + 0) + 0)).toNat) ((g0 9) (((1 * r 1 + 0) + 0)).toNat))
  try simp only [Int.one_mul, Int.zero_add, Int.add_zero]
  unfold yq_rx
  rw [if_neg (by omega)] <;> omega
theorem xw_129_0_2 : yt_hold xT_129 xk_129 xq_129.2.2.1 xG_129 xP_129 xU_129 15 xk_129.2.1.2.2.2 (fun g0 r g => xR_129 r g0 ∧ g = g0) (1000, ([(0, 0), ((-2147483648), (-1)), ((-2147483648), 2147483647), (0, 1), ((-2147483648), 2147483647), (0, 100), (0, 1), ((-2147483648), 2147483647), (0, 100), (0, 1), ((-2147483648), 2147483647), (0, 100), (0, 1), ((-2147483648), 2147483647), (0, 100)], []), [([], (-9223372036854775808))], [], []) := by
  intro g0 r gi g hok hh hars hfr hG
  have b0 : 0 ≤ r 0 ∧ r 0 ≤ 0 := hok.1 0 (0, 0) rfl
  have b1 : (-2147483648) ≤ r 1 ∧ r 1 ≤ (-1) := hok.1 1 ((-2147483648), (-1)) rfl
  have b2 : (-2147483648) ≤ r 2 ∧ r 2 ≤ 2147483647 := hok.1 2 ((-2147483648), 2147483647) rfl
  have b3 : 0 ≤ r 3 ∧ r 3 ≤ 1 := hok.1 3 (0, 1) rfl
  have b4 : (-2147483648) ≤ r 4 ∧ r 4 ≤ 2147483647 := hok.1 4 ((-2147483648), 2147483647) rfl
  have b5 : 0 ≤ r 5 ∧ r 5 ≤ 100 := hok.1 5 (0, 100) rfl
  have b6 : 0 ≤ r 6 ∧ r 6 ≤ 1 := hok.1 6 (0, 1) rfl
  have b7 : (-2147483648) ≤ r 7 ∧ r 7 ≤ 2147483647 := hok.1 7 ((-2147483648), 2147483647) rfl
  have b8 : 0 ≤ r 8 ∧ r 8 ≤ 100 := hok.1 8 (0, 100) rfl
  have b9 : 0 ≤ r 9 ∧ r 9 ≤ 1 := hok.1 9 (0, 1) rfl
  have b10 : (-2147483648) ≤ r 10 ∧ r 10 ≤ 2147483647 := hok.1 10 ((-2147483648), 2147483647) rfl
  have b11 : 0 ≤ r 11 ∧ r 11 ≤ 100 := hok.1 11 (0, 100) rfl
  have b12 : 0 ≤ r 12 ∧ r 12 ≤ 1 := hok.1 12 (0, 1) rfl
  have b13 : (-2147483648) ≤ r 13 ∧ r 13 ≤ 2147483647 := hok.1 13 ((-2147483648), 2147483647) rfl
  have b14 : 0 ≤ r 14 ∧ r 14 ≤ 100 := hok.1 14 (0, 100) rfl
  obtain ⟨hG, hgi⟩ := hG
  have hG : True := hG
  have hh : g = gi := hh
  subst hh
  refine yt_dalt (by decide) (by decide) ?_
  rw [show xk_129.2.1.2.1.1.length = 15 from rfl]
  show ((0 : Int) + (-9223372036854775808)) = yq_rx ((1 * r 0 + 0) + 0) ((1 * r 1 + 0) + 0) (yq_at ((1 * r 0 + 0) + 0) ((1 * ((1 * r 5 + 0) + 0) + 0) + 0) ((1 * ((1 * r 8 + 0) + 0) + 0) + 0) ((1 * ((1 * r 11 + 0) + 0) + 0) + 0) ((1 * ((1 * r 14 + 0) + 0) + 0) + 0)) (yq_at ((1 * r 0 + 0) + 0) ((g0 3) (((1 * r 1 + 0) + 0)).toNat) ((g0 5) (((1 * r 1 + 0) + 0)).toNat) ((g0 7) (((1 * r 1 + 0) + 0)).toNat) ((g0 9) (((1 * r 1 + 0) + 0)).toNat))
  try simp only [Int.one_mul, Int.zero_add, Int.add_zero]
  rw [show r 0 = 0 by omega]
  simp only [yq_at0]
  unfold yq_rx
  rw [if_neg (by omega)] <;> omega
theorem xw_129_0_3 : yt_hold xT_129 xk_129 xq_129.2.2.1 xG_129 xP_129 xU_129 15 xk_129.2.1.2.2.2 (fun g0 r g => xR_129 r g0 ∧ g = g0) (1000, ([(0, 0), (0, 2147483647), ((-2147483648), 2147483647), (0, 1), ((-2147483648), 2147483647), (0, 100), (0, 1), ((-2147483648), 2147483647), (0, 100), (0, 1), ((-2147483648), 2147483647), (0, 100), (0, 1), ((-2147483648), 2147483647), (0, 100)], [([(5, (-1)), (1, 1)], 0)]), [([], (-9223372036854775808))], [], []) := by
  intro g0 r gi g hok hh hars hfr hG
  have b0 : 0 ≤ r 0 ∧ r 0 ≤ 0 := hok.1 0 (0, 0) rfl
  have b1 : 0 ≤ r 1 ∧ r 1 ≤ 2147483647 := hok.1 1 (0, 2147483647) rfl
  have b2 : (-2147483648) ≤ r 2 ∧ r 2 ≤ 2147483647 := hok.1 2 ((-2147483648), 2147483647) rfl
  have b3 : 0 ≤ r 3 ∧ r 3 ≤ 1 := hok.1 3 (0, 1) rfl
  have b4 : (-2147483648) ≤ r 4 ∧ r 4 ≤ 2147483647 := hok.1 4 ((-2147483648), 2147483647) rfl
  have b5 : 0 ≤ r 5 ∧ r 5 ≤ 100 := hok.1 5 (0, 100) rfl
  have b6 : 0 ≤ r 6 ∧ r 6 ≤ 1 := hok.1 6 (0, 1) rfl
  have b7 : (-2147483648) ≤ r 7 ∧ r 7 ≤ 2147483647 := hok.1 7 ((-2147483648), 2147483647) rfl
  have b8 : 0 ≤ r 8 ∧ r 8 ≤ 100 := hok.1 8 (0, 100) rfl
  have b9 : 0 ≤ r 9 ∧ r 9 ≤ 1 := hok.1 9 (0, 1) rfl
  have b10 : (-2147483648) ≤ r 10 ∧ r 10 ≤ 2147483647 := hok.1 10 ((-2147483648), 2147483647) rfl
  have b11 : 0 ≤ r 11 ∧ r 11 ≤ 100 := hok.1 11 (0, 100) rfl
  have b12 : 0 ≤ r 12 ∧ r 12 ≤ 1 := hok.1 12 (0, 1) rfl
  have b13 : (-2147483648) ≤ r 13 ∧ r 13 ≤ 2147483647 := hok.1 13 ((-2147483648), 2147483647) rfl
  have b14 : 0 ≤ r 14 ∧ r 14 ≤ 100 := hok.1 14 (0, 100) rfl
  have f0 : 0 ≤ (((-1) * r 5 + (1 * r 1 + 0)) + 0) := hok.2 _ (List.mem_of_getElem? (i := 0) rfl)
  obtain ⟨hG, hgi⟩ := hG
  have hG : True := hG
  have hh : g = gi := hh
  subst hh
  refine yt_dalt (by decide) (by decide) ?_
  rw [show xk_129.2.1.2.1.1.length = 15 from rfl]
  show ((0 : Int) + (-9223372036854775808)) = yq_rx ((1 * r 0 + 0) + 0) ((1 * r 1 + 0) + 0) (yq_at ((1 * r 0 + 0) + 0) ((1 * ((1 * r 5 + 0) + 0) + 0) + 0) ((1 * ((1 * r 8 + 0) + 0) + 0) + 0) ((1 * ((1 * r 11 + 0) + 0) + 0) + 0) ((1 * ((1 * r 14 + 0) + 0) + 0) + 0)) (yq_at ((1 * r 0 + 0) + 0) ((g0 3) (((1 * r 1 + 0) + 0)).toNat) ((g0 5) (((1 * r 1 + 0) + 0)).toNat) ((g0 7) (((1 * r 1 + 0) + 0)).toNat) ((g0 9) (((1 * r 1 + 0) + 0)).toNat))
  try simp only [Int.one_mul, Int.zero_add, Int.add_zero]
  rw [show r 0 = 0 by omega]
  simp only [yq_at0]
  unfold yq_rx
  rw [if_neg (by omega)] <;> omega
theorem xw_129_0_4 : yt_hold xT_129 xk_129 xq_129.2.2.1 xG_129 xP_129 xU_129 15 xk_129.2.1.2.2.2 (fun g0 r g => xR_129 r g0 ∧ g = g0) (1000, ([(0, 0), (0, 99), ((-2147483648), 2147483647), (0, 1), ((-2147483648), 2147483647), (1, 100), (0, 1), ((-2147483648), 2147483647), (0, 100), (0, 1), ((-2147483648), 2147483647), (0, 100), (0, 1), ((-2147483648), 2147483647), (0, 100), ((-9223372036854775808), 9223372036854775807)], [([(5, 1), (1, (-1))], (-1))]), [([(15, 1)], 0)], [], [.inl (.inl (3, ([(1, 1)], 0), 15))]) := by
  intro g0 r gi g hok hh hars hfr hG
  have b0 : 0 ≤ r 0 ∧ r 0 ≤ 0 := hok.1 0 (0, 0) rfl
  have b1 : 0 ≤ r 1 ∧ r 1 ≤ 99 := hok.1 1 (0, 99) rfl
  have b2 : (-2147483648) ≤ r 2 ∧ r 2 ≤ 2147483647 := hok.1 2 ((-2147483648), 2147483647) rfl
  have b3 : 0 ≤ r 3 ∧ r 3 ≤ 1 := hok.1 3 (0, 1) rfl
  have b4 : (-2147483648) ≤ r 4 ∧ r 4 ≤ 2147483647 := hok.1 4 ((-2147483648), 2147483647) rfl
  have b5 : 1 ≤ r 5 ∧ r 5 ≤ 100 := hok.1 5 (1, 100) rfl
  have b6 : 0 ≤ r 6 ∧ r 6 ≤ 1 := hok.1 6 (0, 1) rfl
  have b7 : (-2147483648) ≤ r 7 ∧ r 7 ≤ 2147483647 := hok.1 7 ((-2147483648), 2147483647) rfl
  have b8 : 0 ≤ r 8 ∧ r 8 ≤ 100 := hok.1 8 (0, 100) rfl
  have b9 : 0 ≤ r 9 ∧ r 9 ≤ 1 := hok.1 9 (0, 1) rfl
  have b10 : (-2147483648) ≤ r 10 ∧ r 10 ≤ 2147483647 := hok.1 10 ((-2147483648), 2147483647) rfl
  have b11 : 0 ≤ r 11 ∧ r 11 ≤ 100 := hok.1 11 (0, 100) rfl
  have b12 : 0 ≤ r 12 ∧ r 12 ≤ 1 := hok.1 12 (0, 1) rfl
  have b13 : (-2147483648) ≤ r 13 ∧ r 13 ≤ 2147483647 := hok.1 13 ((-2147483648), 2147483647) rfl
  have b14 : 0 ≤ r 14 ∧ r 14 ≤ 100 := hok.1 14 (0, 100) rfl
  have b15 : (-9223372036854775808) ≤ r 15 ∧ r 15 ≤ 9223372036854775807 := hok.1 15 ((-9223372036854775808), 9223372036854775807) rfl
  have f0 : 0 ≤ ((1 * r 5 + ((-1) * r 1 + 0)) + (-1)) := hok.2 _ (List.mem_of_getElem? (i := 0) rfl)
  obtain ⟨hG, hgi⟩ := hG
  have hG : True := hG
  obtain ⟨g0, hh, q0, e0⟩ := hh
  subst q0
  have e0 : r 15 = g 3 (((1 * r 1 + 0) + 0)).toNat := e0
  rw [show (((1 * r 1 + 0) + 0)).toNat = (r 1).toNat by omega] at e0
  have hh : g = gi := hh
  subst hh
  refine yt_dalt (by decide) (by decide) ?_
  rw [show xk_129.2.1.2.1.1.length = 15 from rfl]
  show ((1 * r 15 + 0) + 0) = yq_rx ((1 * r 0 + 0) + 0) ((1 * r 1 + 0) + 0) (yq_at ((1 * r 0 + 0) + 0) ((1 * ((1 * r 5 + 0) + 0) + 0) + 0) ((1 * ((1 * r 8 + 0) + 0) + 0) + 0) ((1 * ((1 * r 11 + 0) + 0) + 0) + 0) ((1 * ((1 * r 14 + 0) + 0) + 0) + 0)) (yq_at ((1 * r 0 + 0) + 0) ((g0 3) (((1 * r 1 + 0) + 0)).toNat) ((g0 5) (((1 * r 1 + 0) + 0)).toNat) ((g0 7) (((1 * r 1 + 0) + 0)).toNat) ((g0 9) (((1 * r 1 + 0) + 0)).toNat))
  try simp only [Int.one_mul, Int.zero_add, Int.add_zero]
  rw [show r 0 = 0 by omega]
  simp only [yq_at0]
  unfold yq_rx
  rw [hgi] at e0
  rw [if_pos (by omega), ← e0]
theorem xw_129_0_5 : yt_hold xT_129 xk_129 xq_129.2.2.1 xG_129 xP_129 xU_129 15 xk_129.2.1.2.2.2 (fun g0 r g => xR_129 r g0 ∧ g = g0) (1000, ([(1, 1), ((-2147483648), (-1)), ((-2147483648), 2147483647), (0, 1), ((-2147483648), 2147483647), (0, 100), (0, 1), ((-2147483648), 2147483647), (0, 100), (0, 1), ((-2147483648), 2147483647), (0, 100), (0, 1), ((-2147483648), 2147483647), (0, 100)], []), [([], (-9223372036854775808))], [], []) := by
  intro g0 r gi g hok hh hars hfr hG
  have b0 : 1 ≤ r 0 ∧ r 0 ≤ 1 := hok.1 0 (1, 1) rfl
  have b1 : (-2147483648) ≤ r 1 ∧ r 1 ≤ (-1) := hok.1 1 ((-2147483648), (-1)) rfl
  have b2 : (-2147483648) ≤ r 2 ∧ r 2 ≤ 2147483647 := hok.1 2 ((-2147483648), 2147483647) rfl
  have b3 : 0 ≤ r 3 ∧ r 3 ≤ 1 := hok.1 3 (0, 1) rfl
  have b4 : (-2147483648) ≤ r 4 ∧ r 4 ≤ 2147483647 := hok.1 4 ((-2147483648), 2147483647) rfl
  have b5 : 0 ≤ r 5 ∧ r 5 ≤ 100 := hok.1 5 (0, 100) rfl
  have b6 : 0 ≤ r 6 ∧ r 6 ≤ 1 := hok.1 6 (0, 1) rfl
  have b7 : (-2147483648) ≤ r 7 ∧ r 7 ≤ 2147483647 := hok.1 7 ((-2147483648), 2147483647) rfl
  have b8 : 0 ≤ r 8 ∧ r 8 ≤ 100 := hok.1 8 (0, 100) rfl
  have b9 : 0 ≤ r 9 ∧ r 9 ≤ 1 := hok.1 9 (0, 1) rfl
  have b10 : (-2147483648) ≤ r 10 ∧ r 10 ≤ 2147483647 := hok.1 10 ((-2147483648), 2147483647) rfl
  have b11 : 0 ≤ r 11 ∧ r 11 ≤ 100 := hok.1 11 (0, 100) rfl
  have b12 : 0 ≤ r 12 ∧ r 12 ≤ 1 := hok.1 12 (0, 1) rfl
  have b13 : (-2147483648) ≤ r 13 ∧ r 13 ≤ 2147483647 := hok.1 13 ((-2147483648), 2147483647) rfl
  have b14 : 0 ≤ r 14 ∧ r 14 ≤ 100 := hok.1 14 (0, 100) rfl
  obtain ⟨hG, hgi⟩ := hG
  have hG : True := hG
  have hh : g = gi := hh
  subst hh
  refine yt_dalt (by decide) (by decide) ?_
  rw [show xk_129.2.1.2.1.1.length = 15 from rfl]
  show ((0 : Int) + (-9223372036854775808)) = yq_rx ((1 * r 0 + 0) + 0) ((1 * r 1 + 0) + 0) (yq_at ((1 * r 0 + 0) + 0) ((1 * ((1 * r 5 + 0) + 0) + 0) + 0) ((1 * ((1 * r 8 + 0) + 0) + 0) + 0) ((1 * ((1 * r 11 + 0) + 0) + 0) + 0) ((1 * ((1 * r 14 + 0) + 0) + 0) + 0)) (yq_at ((1 * r 0 + 0) + 0) ((g0 3) (((1 * r 1 + 0) + 0)).toNat) ((g0 5) (((1 * r 1 + 0) + 0)).toNat) ((g0 7) (((1 * r 1 + 0) + 0)).toNat) ((g0 9) (((1 * r 1 + 0) + 0)).toNat))
  try simp only [Int.one_mul, Int.zero_add, Int.add_zero]
  rw [show r 0 = 1 by omega]
  simp only [yq_at1]
  unfold yq_rx
  rw [if_neg (by omega)] <;> omega
theorem xw_129_0_6 : yt_hold xT_129 xk_129 xq_129.2.2.1 xG_129 xP_129 xU_129 15 xk_129.2.1.2.2.2 (fun g0 r g => xR_129 r g0 ∧ g = g0) (1000, ([(1, 1), (0, 2147483647), ((-2147483648), 2147483647), (0, 1), ((-2147483648), 2147483647), (0, 100), (0, 1), ((-2147483648), 2147483647), (0, 100), (0, 1), ((-2147483648), 2147483647), (0, 100), (0, 1), ((-2147483648), 2147483647), (0, 100)], [([(8, (-1)), (1, 1)], 0)]), [([], (-9223372036854775808))], [], []) := by
  intro g0 r gi g hok hh hars hfr hG
  have b0 : 1 ≤ r 0 ∧ r 0 ≤ 1 := hok.1 0 (1, 1) rfl
  have b1 : 0 ≤ r 1 ∧ r 1 ≤ 2147483647 := hok.1 1 (0, 2147483647) rfl
  have b2 : (-2147483648) ≤ r 2 ∧ r 2 ≤ 2147483647 := hok.1 2 ((-2147483648), 2147483647) rfl
  have b3 : 0 ≤ r 3 ∧ r 3 ≤ 1 := hok.1 3 (0, 1) rfl
  have b4 : (-2147483648) ≤ r 4 ∧ r 4 ≤ 2147483647 := hok.1 4 ((-2147483648), 2147483647) rfl
  have b5 : 0 ≤ r 5 ∧ r 5 ≤ 100 := hok.1 5 (0, 100) rfl
  have b6 : 0 ≤ r 6 ∧ r 6 ≤ 1 := hok.1 6 (0, 1) rfl
  have b7 : (-2147483648) ≤ r 7 ∧ r 7 ≤ 2147483647 := hok.1 7 ((-2147483648), 2147483647) rfl
  have b8 : 0 ≤ r 8 ∧ r 8 ≤ 100 := hok.1 8 (0, 100) rfl
  have b9 : 0 ≤ r 9 ∧ r 9 ≤ 1 := hok.1 9 (0, 1) rfl
  have b10 : (-2147483648) ≤ r 10 ∧ r 10 ≤ 2147483647 := hok.1 10 ((-2147483648), 2147483647) rfl
  have b11 : 0 ≤ r 11 ∧ r 11 ≤ 100 := hok.1 11 (0, 100) rfl
  have b12 : 0 ≤ r 12 ∧ r 12 ≤ 1 := hok.1 12 (0, 1) rfl
  have b13 : (-2147483648) ≤ r 13 ∧ r 13 ≤ 2147483647 := hok.1 13 ((-2147483648), 2147483647) rfl
  have b14 : 0 ≤ r 14 ∧ r 14 ≤ 100 := hok.1 14 (0, 100) rfl
  have f0 : 0 ≤ (((-1) * r 8 + (1 * r 1 + 0)) + 0) := hok.2 _ (List.mem_of_getElem? (i := 0) rfl)
  obtain ⟨hG, hgi⟩ := hG
  have hG : True := hG
  have hh : g = gi := hh
  subst hh
  refine yt_dalt (by decide) (by decide) ?_
  rw [show xk_129.2.1.2.1.1.length = 15 from rfl]
  show ((0 : Int) + (-9223372036854775808)) = yq_rx ((1 * r 0 + 0) + 0) ((1 * r 1 + 0) + 0) (yq_at ((1 * r 0 + 0) + 0) ((1 * ((1 * r 5 + 0) + 0) + 0) + 0) ((1 * ((1 * r 8 + 0) + 0) + 0) + 0) ((1 * ((1 * r 11 + 0) + 0) + 0) + 0) ((1 * ((1 * r 14 + 0) + 0) + 0) + 0)) (yq_at ((1 * r 0 + 0) + 0) ((g0 3) (((1 * r 1 + 0) + 0)).toNat) ((g0 5) (((1 * r 1 + 0) + 0)).toNat) ((g0 7) (((1 * r 1 + 0) + 0)).toNat) ((g0 9) (((1 * r 1 + 0) + 0)).toNat))
  try simp only [Int.one_mul, Int.zero_add, Int.add_zero]
  rw [show r 0 = 1 by omega]
  simp only [yq_at1]
  unfold yq_rx
  rw [if_neg (by omega)] <;> omega
theorem xw_129_0_7 : yt_hold xT_129 xk_129 xq_129.2.2.1 xG_129 xP_129 xU_129 15 xk_129.2.1.2.2.2 (fun g0 r g => xR_129 r g0 ∧ g = g0) (1000, ([(1, 1), (0, 99), ((-2147483648), 2147483647), (0, 1), ((-2147483648), 2147483647), (0, 100), (0, 1), ((-2147483648), 2147483647), (1, 100), (0, 1), ((-2147483648), 2147483647), (0, 100), (0, 1), ((-2147483648), 2147483647), (0, 100), ((-9223372036854775808), 9223372036854775807)], [([(8, 1), (1, (-1))], (-1))]), [([(15, 1)], 0)], [], [.inl (.inl (5, ([(1, 1)], 0), 15))]) := by
  intro g0 r gi g hok hh hars hfr hG
  have b0 : 1 ≤ r 0 ∧ r 0 ≤ 1 := hok.1 0 (1, 1) rfl
  have b1 : 0 ≤ r 1 ∧ r 1 ≤ 99 := hok.1 1 (0, 99) rfl
  have b2 : (-2147483648) ≤ r 2 ∧ r 2 ≤ 2147483647 := hok.1 2 ((-2147483648), 2147483647) rfl
  have b3 : 0 ≤ r 3 ∧ r 3 ≤ 1 := hok.1 3 (0, 1) rfl
  have b4 : (-2147483648) ≤ r 4 ∧ r 4 ≤ 2147483647 := hok.1 4 ((-2147483648), 2147483647) rfl
  have b5 : 0 ≤ r 5 ∧ r 5 ≤ 100 := hok.1 5 (0, 100) rfl
  have b6 : 0 ≤ r 6 ∧ r 6 ≤ 1 := hok.1 6 (0, 1) rfl
  have b7 : (-2147483648) ≤ r 7 ∧ r 7 ≤ 2147483647 := hok.1 7 ((-2147483648), 2147483647) rfl
  have b8 : 1 ≤ r 8 ∧ r 8 ≤ 100 := hok.1 8 (1, 100) rfl
  have b9 : 0 ≤ r 9 ∧ r 9 ≤ 1 := hok.1 9 (0, 1) rfl
  have b10 : (-2147483648) ≤ r 10 ∧ r 10 ≤ 2147483647 := hok.1 10 ((-2147483648), 2147483647) rfl
  have b11 : 0 ≤ r 11 ∧ r 11 ≤ 100 := hok.1 11 (0, 100) rfl
  have b12 : 0 ≤ r 12 ∧ r 12 ≤ 1 := hok.1 12 (0, 1) rfl
  have b13 : (-2147483648) ≤ r 13 ∧ r 13 ≤ 2147483647 := hok.1 13 ((-2147483648), 2147483647) rfl
  have b14 : 0 ≤ r 14 ∧ r 14 ≤ 100 := hok.1 14 (0, 100) rfl
  have b15 : (-9223372036854775808) ≤ r 15 ∧ r 15 ≤ 9223372036854775807 := hok.1 15 ((-9223372036854775808), 9223372036854775807) rfl
  have f0 : 0 ≤ ((1 * r 8 + ((-1) * r 1 + 0)) + (-1)) := hok.2 _ (List.mem_of_getElem? (i := 0) rfl)
  obtain ⟨hG, hgi⟩ := hG
  have hG : True := hG
  obtain ⟨g0, hh, q0, e0⟩ := hh
  subst q0
  have e0 : r 15 = g 5 (((1 * r 1 + 0) + 0)).toNat := e0
  rw [show (((1 * r 1 + 0) + 0)).toNat = (r 1).toNat by omega] at e0
  have hh : g = gi := hh
  subst hh
  refine yt_dalt (by decide) (by decide) ?_
  rw [show xk_129.2.1.2.1.1.length = 15 from rfl]
  show ((1 * r 15 + 0) + 0) = yq_rx ((1 * r 0 + 0) + 0) ((1 * r 1 + 0) + 0) (yq_at ((1 * r 0 + 0) + 0) ((1 * ((1 * r 5 + 0) + 0) + 0) + 0) ((1 * ((1 * r 8 + 0) + 0) + 0) + 0) ((1 * ((1 * r 11 + 0) + 0) + 0) + 0) ((1 * ((1 * r 14 + 0) + 0) + 0) + 0)) (yq_at ((1 * r 0 + 0) + 0) ((g0 3) (((1 * r 1 + 0) + 0)).toNat) ((g0 5) (((1 * r 1 + 0) + 0)).toNat) ((g0 7) (((1 * r 1 + 0) + 0)).toNat) ((g0 9) (((1 * r 1 + 0) + 0)).toNat))
  try simp only [Int.one_mul, Int.zero_add, Int.add_zero]
  rw [show r 0 = 1 by omega]
  simp only [yq_at1]
  unfold yq_rx
  rw [hgi] at e0
  rw [if_pos (by omega), ← e0]
theorem xw_129_0_8 : yt_hold xT_129 xk_129 xq_129.2.2.1 xG_129 xP_129 xU_129 15 xk_129.2.1.2.2.2 (fun g0 r g => xR_129 r g0 ∧ g = g0) (1000, ([(2, 2), ((-2147483648), (-1)), ((-2147483648), 2147483647), (0, 1), ((-2147483648), 2147483647), (0, 100), (0, 1), ((-2147483648), 2147483647), (0, 100), (0, 1), ((-2147483648), 2147483647), (0, 100), (0, 1), ((-2147483648), 2147483647), (0, 100)], []), [([], (-9223372036854775808))], [], []) := by
  intro g0 r gi g hok hh hars hfr hG
  have b0 : 2 ≤ r 0 ∧ r 0 ≤ 2 := hok.1 0 (2, 2) rfl
  have b1 : (-2147483648) ≤ r 1 ∧ r 1 ≤ (-1) := hok.1 1 ((-2147483648), (-1)) rfl
  have b2 : (-2147483648) ≤ r 2 ∧ r 2 ≤ 2147483647 := hok.1 2 ((-2147483648), 2147483647) rfl
  have b3 : 0 ≤ r 3 ∧ r 3 ≤ 1 := hok.1 3 (0, 1) rfl
  have b4 : (-2147483648) ≤ r 4 ∧ r 4 ≤ 2147483647 := hok.1 4 ((-2147483648), 2147483647) rfl
  have b5 : 0 ≤ r 5 ∧ r 5 ≤ 100 := hok.1 5 (0, 100) rfl
  have b6 : 0 ≤ r 6 ∧ r 6 ≤ 1 := hok.1 6 (0, 1) rfl
  have b7 : (-2147483648) ≤ r 7 ∧ r 7 ≤ 2147483647 := hok.1 7 ((-2147483648), 2147483647) rfl
  have b8 : 0 ≤ r 8 ∧ r 8 ≤ 100 := hok.1 8 (0, 100) rfl
  have b9 : 0 ≤ r 9 ∧ r 9 ≤ 1 := hok.1 9 (0, 1) rfl
  have b10 : (-2147483648) ≤ r 10 ∧ r 10 ≤ 2147483647 := hok.1 10 ((-2147483648), 2147483647) rfl
  have b11 : 0 ≤ r 11 ∧ r 11 ≤ 100 := hok.1 11 (0, 100) rfl
  have b12 : 0 ≤ r 12 ∧ r 12 ≤ 1 := hok.1 12 (0, 1) rfl
  have b13 : (-2147483648) ≤ r 13 ∧ r 13 ≤ 2147483647 := hok.1 13 ((-2147483648), 2147483647) rfl
  have b14 : 0 ≤ r 14 ∧ r 14 ≤ 100 := hok.1 14 (0, 100) rfl
  obtain ⟨hG, hgi⟩ := hG
  have hG : True := hG
  have hh : g = gi := hh
  subst hh
  refine yt_dalt (by decide) (by decide) ?_
  rw [show xk_129.2.1.2.1.1.length = 15 from rfl]
  show ((0 : Int) + (-9223372036854775808)) = yq_rx ((1 * r 0 + 0) + 0) ((1 * r 1 + 0) + 0) (yq_at ((1 * r 0 + 0) + 0) ((1 * ((1 * r 5 + 0) + 0) + 0) + 0) ((1 * ((1 * r 8 + 0) + 0) + 0) + 0) ((1 * ((1 * r 11 + 0) + 0) + 0) + 0) ((1 * ((1 * r 14 + 0) + 0) + 0) + 0)) (yq_at ((1 * r 0 + 0) + 0) ((g0 3) (((1 * r 1 + 0) + 0)).toNat) ((g0 5) (((1 * r 1 + 0) + 0)).toNat) ((g0 7) (((1 * r 1 + 0) + 0)).toNat) ((g0 9) (((1 * r 1 + 0) + 0)).toNat))
  try simp only [Int.one_mul, Int.zero_add, Int.add_zero]
  rw [show r 0 = 2 by omega]
  simp only [yq_at2]
  unfold yq_rx
  rw [if_neg (by omega)] <;> omega
theorem xw_129_0_9 : yt_hold xT_129 xk_129 xq_129.2.2.1 xG_129 xP_129 xU_129 15 xk_129.2.1.2.2.2 (fun g0 r g => xR_129 r g0 ∧ g = g0) (1000, ([(2, 2), (0, 2147483647), ((-2147483648), 2147483647), (0, 1), ((-2147483648), 2147483647), (0, 100), (0, 1), ((-2147483648), 2147483647), (0, 100), (0, 1), ((-2147483648), 2147483647), (0, 100), (0, 1), ((-2147483648), 2147483647), (0, 100)], [([(11, (-1)), (1, 1)], 0)]), [([], (-9223372036854775808))], [], []) := by
  intro g0 r gi g hok hh hars hfr hG
  have b0 : 2 ≤ r 0 ∧ r 0 ≤ 2 := hok.1 0 (2, 2) rfl
  have b1 : 0 ≤ r 1 ∧ r 1 ≤ 2147483647 := hok.1 1 (0, 2147483647) rfl
  have b2 : (-2147483648) ≤ r 2 ∧ r 2 ≤ 2147483647 := hok.1 2 ((-2147483648), 2147483647) rfl
  have b3 : 0 ≤ r 3 ∧ r 3 ≤ 1 := hok.1 3 (0, 1) rfl
  have b4 : (-2147483648) ≤ r 4 ∧ r 4 ≤ 2147483647 := hok.1 4 ((-2147483648), 2147483647) rfl
  have b5 : 0 ≤ r 5 ∧ r 5 ≤ 100 := hok.1 5 (0, 100) rfl
  have b6 : 0 ≤ r 6 ∧ r 6 ≤ 1 := hok.1 6 (0, 1) rfl
  have b7 : (-2147483648) ≤ r 7 ∧ r 7 ≤ 2147483647 := hok.1 7 ((-2147483648), 2147483647) rfl
  have b8 : 0 ≤ r 8 ∧ r 8 ≤ 100 := hok.1 8 (0, 100) rfl
  have b9 : 0 ≤ r 9 ∧ r 9 ≤ 1 := hok.1 9 (0, 1) rfl
  have b10 : (-2147483648) ≤ r 10 ∧ r 10 ≤ 2147483647 := hok.1 10 ((-2147483648), 2147483647) rfl
  have b11 : 0 ≤ r 11 ∧ r 11 ≤ 100 := hok.1 11 (0, 100) rfl
  have b12 : 0 ≤ r 12 ∧ r 12 ≤ 1 := hok.1 12 (0, 1) rfl
  have b13 : (-2147483648) ≤ r 13 ∧ r 13 ≤ 2147483647 := hok.1 13 ((-2147483648), 2147483647) rfl
  have b14 : 0 ≤ r 14 ∧ r 14 ≤ 100 := hok.1 14 (0, 100) rfl
  have f0 : 0 ≤ (((-1) * r 11 + (1 * r 1 + 0)) + 0) := hok.2 _ (List.mem_of_getElem? (i := 0) rfl)
  obtain ⟨hG, hgi⟩ := hG
  have hG : True := hG
  have hh : g = gi := hh
  subst hh
  refine yt_dalt (by decide) (by decide) ?_
  rw [show xk_129.2.1.2.1.1.length = 15 from rfl]
  show ((0 : Int) + (-9223372036854775808)) = yq_rx ((1 * r 0 + 0) + 0) ((1 * r 1 + 0) + 0) (yq_at ((1 * r 0 + 0) + 0) ((1 * ((1 * r 5 + 0) + 0) + 0) + 0) ((1 * ((1 * r 8 + 0) + 0) + 0) + 0) ((1 * ((1 * r 11 + 0) + 0) + 0) + 0) ((1 * ((1 * r 14 + 0) + 0) + 0) + 0)) (yq_at ((1 * r 0 + 0) + 0) ((g0 3) (((1 * r 1 + 0) + 0)).toNat) ((g0 5) (((1 * r 1 + 0) + 0)).toNat) ((g0 7) (((1 * r 1 + 0) + 0)).toNat) ((g0 9) (((1 * r 1 + 0) + 0)).toNat))
  try simp only [Int.one_mul, Int.zero_add, Int.add_zero]
  rw [show r 0 = 2 by omega]
  simp only [yq_at2]
  unfold yq_rx
  rw [if_neg (by omega)] <;> omega
theorem xw_129_0_10 : yt_hold xT_129 xk_129 xq_129.2.2.1 xG_129 xP_129 xU_129 15 xk_129.2.1.2.2.2 (fun g0 r g => xR_129 r g0 ∧ g = g0) (1000, ([(2, 2), (0, 99), ((-2147483648), 2147483647), (0, 1), ((-2147483648), 2147483647), (0, 100), (0, 1), ((-2147483648), 2147483647), (0, 100), (0, 1), ((-2147483648), 2147483647), (1, 100), (0, 1), ((-2147483648), 2147483647), (0, 100), ((-9223372036854775808), 9223372036854775807)], [([(11, 1), (1, (-1))], (-1))]), [([(15, 1)], 0)], [], [.inl (.inl (7, ([(1, 1)], 0), 15))]) := by
  intro g0 r gi g hok hh hars hfr hG
  have b0 : 2 ≤ r 0 ∧ r 0 ≤ 2 := hok.1 0 (2, 2) rfl
  have b1 : 0 ≤ r 1 ∧ r 1 ≤ 99 := hok.1 1 (0, 99) rfl
  have b2 : (-2147483648) ≤ r 2 ∧ r 2 ≤ 2147483647 := hok.1 2 ((-2147483648), 2147483647) rfl
  have b3 : 0 ≤ r 3 ∧ r 3 ≤ 1 := hok.1 3 (0, 1) rfl
  have b4 : (-2147483648) ≤ r 4 ∧ r 4 ≤ 2147483647 := hok.1 4 ((-2147483648), 2147483647) rfl
  have b5 : 0 ≤ r 5 ∧ r 5 ≤ 100 := hok.1 5 (0, 100) rfl
  have b6 : 0 ≤ r 6 ∧ r 6 ≤ 1 := hok.1 6 (0, 1) rfl
  have b7 : (-2147483648) ≤ r 7 ∧ r 7 ≤ 2147483647 := hok.1 7 ((-2147483648), 2147483647) rfl
  have b8 : 0 ≤ r 8 ∧ r 8 ≤ 100 := hok.1 8 (0, 100) rfl
  have b9 : 0 ≤ r 9 ∧ r 9 ≤ 1 := hok.1 9 (0, 1) rfl
  have b10 : (-2147483648) ≤ r 10 ∧ r 10 ≤ 2147483647 := hok.1 10 ((-2147483648), 2147483647) rfl
  have b11 : 1 ≤ r 11 ∧ r 11 ≤ 100 := hok.1 11 (1, 100) rfl
  have b12 : 0 ≤ r 12 ∧ r 12 ≤ 1 := hok.1 12 (0, 1) rfl
  have b13 : (-2147483648) ≤ r 13 ∧ r 13 ≤ 2147483647 := hok.1 13 ((-2147483648), 2147483647) rfl
  have b14 : 0 ≤ r 14 ∧ r 14 ≤ 100 := hok.1 14 (0, 100) rfl
  have b15 : (-9223372036854775808) ≤ r 15 ∧ r 15 ≤ 9223372036854775807 := hok.1 15 ((-9223372036854775808), 9223372036854775807) rfl
  have f0 : 0 ≤ ((1 * r 11 + ((-1) * r 1 + 0)) + (-1)) := hok.2 _ (List.mem_of_getElem? (i := 0) rfl)
  obtain ⟨hG, hgi⟩ := hG
  have hG : True := hG
  obtain ⟨g0, hh, q0, e0⟩ := hh
  subst q0
  have e0 : r 15 = g 7 (((1 * r 1 + 0) + 0)).toNat := e0
  rw [show (((1 * r 1 + 0) + 0)).toNat = (r 1).toNat by omega] at e0
  have hh : g = gi := hh
  subst hh
  refine yt_dalt (by decide) (by decide) ?_
  rw [show xk_129.2.1.2.1.1.length = 15 from rfl]
  show ((1 * r 15 + 0) + 0) = yq_rx ((1 * r 0 + 0) + 0) ((1 * r 1 + 0) + 0) (yq_at ((1 * r 0 + 0) + 0) ((1 * ((1 * r 5 + 0) + 0) + 0) + 0) ((1 * ((1 * r 8 + 0) + 0) + 0) + 0) ((1 * ((1 * r 11 + 0) + 0) + 0) + 0) ((1 * ((1 * r 14 + 0) + 0) + 0) + 0)) (yq_at ((1 * r 0 + 0) + 0) ((g0 3) (((1 * r 1 + 0) + 0)).toNat) ((g0 5) (((1 * r 1 + 0) + 0)).toNat) ((g0 7) (((1 * r 1 + 0) + 0)).toNat) ((g0 9) (((1 * r 1 + 0) + 0)).toNat))
  try simp only [Int.one_mul, Int.zero_add, Int.add_zero]
  rw [show r 0 = 2 by omega]
  simp only [yq_at2]
  unfold yq_rx
  rw [hgi] at e0
  rw [if_pos (by omega), ← e0]
theorem xw_129_0_11 : yt_hold xT_129 xk_129 xq_129.2.2.1 xG_129 xP_129 xU_129 15 xk_129.2.1.2.2.2 (fun g0 r g => xR_129 r g0 ∧ g = g0) (1000, ([(3, 3), ((-2147483648), (-1)), ((-2147483648), 2147483647), (0, 1), ((-2147483648), 2147483647), (0, 100), (0, 1), ((-2147483648), 2147483647), (0, 100), (0, 1), ((-2147483648), 2147483647), (0, 100), (0, 1), ((-2147483648), 2147483647), (0, 100)], []), [([], (-9223372036854775808))], [], []) := by
  intro g0 r gi g hok hh hars hfr hG
  have b0 : 3 ≤ r 0 ∧ r 0 ≤ 3 := hok.1 0 (3, 3) rfl
  have b1 : (-2147483648) ≤ r 1 ∧ r 1 ≤ (-1) := hok.1 1 ((-2147483648), (-1)) rfl
  have b2 : (-2147483648) ≤ r 2 ∧ r 2 ≤ 2147483647 := hok.1 2 ((-2147483648), 2147483647) rfl
  have b3 : 0 ≤ r 3 ∧ r 3 ≤ 1 := hok.1 3 (0, 1) rfl
  have b4 : (-2147483648) ≤ r 4 ∧ r 4 ≤ 2147483647 := hok.1 4 ((-2147483648), 2147483647) rfl
  have b5 : 0 ≤ r 5 ∧ r 5 ≤ 100 := hok.1 5 (0, 100) rfl
  have b6 : 0 ≤ r 6 ∧ r 6 ≤ 1 := hok.1 6 (0, 1) rfl
  have b7 : (-2147483648) ≤ r 7 ∧ r 7 ≤ 2147483647 := hok.1 7 ((-2147483648), 2147483647) rfl
  have b8 : 0 ≤ r 8 ∧ r 8 ≤ 100 := hok.1 8 (0, 100) rfl
  have b9 : 0 ≤ r 9 ∧ r 9 ≤ 1 := hok.1 9 (0, 1) rfl
  have b10 : (-2147483648) ≤ r 10 ∧ r 10 ≤ 2147483647 := hok.1 10 ((-2147483648), 2147483647) rfl
  have b11 : 0 ≤ r 11 ∧ r 11 ≤ 100 := hok.1 11 (0, 100) rfl
  have b12 : 0 ≤ r 12 ∧ r 12 ≤ 1 := hok.1 12 (0, 1) rfl
  have b13 : (-2147483648) ≤ r 13 ∧ r 13 ≤ 2147483647 := hok.1 13 ((-2147483648), 2147483647) rfl
  have b14 : 0 ≤ r 14 ∧ r 14 ≤ 100 := hok.1 14 (0, 100) rfl
  obtain ⟨hG, hgi⟩ := hG
  have hG : True := hG
  have hh : g = gi := hh
  subst hh
  refine yt_dalt (by decide) (by decide) ?_
  rw [show xk_129.2.1.2.1.1.length = 15 from rfl]
  show ((0 : Int) + (-9223372036854775808)) = yq_rx ((1 * r 0 + 0) + 0) ((1 * r 1 + 0) + 0) (yq_at ((1 * r 0 + 0) + 0) ((1 * ((1 * r 5 + 0) + 0) + 0) + 0) ((1 * ((1 * r 8 + 0) + 0) + 0) + 0) ((1 * ((1 * r 11 + 0) + 0) + 0) + 0) ((1 * ((1 * r 14 + 0) + 0) + 0) + 0)) (yq_at ((1 * r 0 + 0) + 0) ((g0 3) (((1 * r 1 + 0) + 0)).toNat) ((g0 5) (((1 * r 1 + 0) + 0)).toNat) ((g0 7) (((1 * r 1 + 0) + 0)).toNat) ((g0 9) (((1 * r 1 + 0) + 0)).toNat))
  try simp only [Int.one_mul, Int.zero_add, Int.add_zero]
  rw [show r 0 = 3 by omega]
  simp only [yq_at3]
  unfold yq_rx
  rw [if_neg (by omega)] <;> omega
theorem xw_129_0_12 : yt_hold xT_129 xk_129 xq_129.2.2.1 xG_129 xP_129 xU_129 15 xk_129.2.1.2.2.2 (fun g0 r g => xR_129 r g0 ∧ g = g0) (1000, ([(3, 3), (0, 2147483647), ((-2147483648), 2147483647), (0, 1), ((-2147483648), 2147483647), (0, 100), (0, 1), ((-2147483648), 2147483647), (0, 100), (0, 1), ((-2147483648), 2147483647), (0, 100), (0, 1), ((-2147483648), 2147483647), (0, 100)], [([(14, (-1)), (1, 1)], 0)]), [([], (-9223372036854775808))], [], []) := by
  intro g0 r gi g hok hh hars hfr hG
  have b0 : 3 ≤ r 0 ∧ r 0 ≤ 3 := hok.1 0 (3, 3) rfl
  have b1 : 0 ≤ r 1 ∧ r 1 ≤ 2147483647 := hok.1 1 (0, 2147483647) rfl
  have b2 : (-2147483648) ≤ r 2 ∧ r 2 ≤ 2147483647 := hok.1 2 ((-2147483648), 2147483647) rfl
  have b3 : 0 ≤ r 3 ∧ r 3 ≤ 1 := hok.1 3 (0, 1) rfl
  have b4 : (-2147483648) ≤ r 4 ∧ r 4 ≤ 2147483647 := hok.1 4 ((-2147483648), 2147483647) rfl
  have b5 : 0 ≤ r 5 ∧ r 5 ≤ 100 := hok.1 5 (0, 100) rfl
  have b6 : 0 ≤ r 6 ∧ r 6 ≤ 1 := hok.1 6 (0, 1) rfl
  have b7 : (-2147483648) ≤ r 7 ∧ r 7 ≤ 2147483647 := hok.1 7 ((-2147483648), 2147483647) rfl
  have b8 : 0 ≤ r 8 ∧ r 8 ≤ 100 := hok.1 8 (0, 100) rfl
  have b9 : 0 ≤ r 9 ∧ r 9 ≤ 1 := hok.1 9 (0, 1) rfl
  have b10 : (-2147483648) ≤ r 10 ∧ r 10 ≤ 2147483647 := hok.1 10 ((-2147483648), 2147483647) rfl
  have b11 : 0 ≤ r 11 ∧ r 11 ≤ 100 := hok.1 11 (0, 100) rfl
  have b12 : 0 ≤ r 12 ∧ r 12 ≤ 1 := hok.1 12 (0, 1) rfl
  have b13 : (-2147483648) ≤ r 13 ∧ r 13 ≤ 2147483647 := hok.1 13 ((-2147483648), 2147483647) rfl
  have b14 : 0 ≤ r 14 ∧ r 14 ≤ 100 := hok.1 14 (0, 100) rfl
  have f0 : 0 ≤ (((-1) * r 14 + (1 * r 1 + 0)) + 0) := hok.2 _ (List.mem_of_getElem? (i := 0) rfl)
  obtain ⟨hG, hgi⟩ := hG
  have hG : True := hG
  have hh : g = gi := hh
  subst hh
  refine yt_dalt (by decide) (by decide) ?_
  rw [show xk_129.2.1.2.1.1.length = 15 from rfl]
  show ((0 : Int) + (-9223372036854775808)) = yq_rx ((1 * r 0 + 0) + 0) ((1 * r 1 + 0) + 0) (yq_at ((1 * r 0 + 0) + 0) ((1 * ((1 * r 5 + 0) + 0) + 0) + 0) ((1 * ((1 * r 8 + 0) + 0) + 0) + 0) ((1 * ((1 * r 11 + 0) + 0) + 0) + 0) ((1 * ((1 * r 14 + 0) + 0) + 0) + 0)) (yq_at ((1 * r 0 + 0) + 0) ((g0 3) (((1 * r 1 + 0) + 0)).toNat) ((g0 5) (((1 * r 1 + 0) + 0)).toNat) ((g0 7) (((1 * r 1 + 0) + 0)).toNat) ((g0 9) (((1 * r 1 + 0) + 0)).toNat))
  try simp only [Int.one_mul, Int.zero_add, Int.add_zero]
  rw [show r 0 = 3 by omega]
  simp only [yq_at3]
  unfold yq_rx
  rw [if_neg (by omega)] <;> omega
theorem xw_129_0_13 : yt_hold xT_129 xk_129 xq_129.2.2.1 xG_129 xP_129 xU_129 15 xk_129.2.1.2.2.2 (fun g0 r g => xR_129 r g0 ∧ g = g0) (1000, ([(3, 3), (0, 99), ((-2147483648), 2147483647), (0, 1), ((-2147483648), 2147483647), (0, 100), (0, 1), ((-2147483648), 2147483647), (0, 100), (0, 1), ((-2147483648), 2147483647), (0, 100), (0, 1), ((-2147483648), 2147483647), (1, 100), ((-9223372036854775808), 9223372036854775807)], [([(14, 1), (1, (-1))], (-1))]), [([(15, 1)], 0)], [], [.inl (.inl (9, ([(1, 1)], 0), 15))]) := by
  intro g0 r gi g hok hh hars hfr hG
  have b0 : 3 ≤ r 0 ∧ r 0 ≤ 3 := hok.1 0 (3, 3) rfl
  have b1 : 0 ≤ r 1 ∧ r 1 ≤ 99 := hok.1 1 (0, 99) rfl
  have b2 : (-2147483648) ≤ r 2 ∧ r 2 ≤ 2147483647 := hok.1 2 ((-2147483648), 2147483647) rfl
  have b3 : 0 ≤ r 3 ∧ r 3 ≤ 1 := hok.1 3 (0, 1) rfl
  have b4 : (-2147483648) ≤ r 4 ∧ r 4 ≤ 2147483647 := hok.1 4 ((-2147483648), 2147483647) rfl
  have b5 : 0 ≤ r 5 ∧ r 5 ≤ 100 := hok.1 5 (0, 100) rfl
  have b6 : 0 ≤ r 6 ∧ r 6 ≤ 1 := hok.1 6 (0, 1) rfl
  have b7 : (-2147483648) ≤ r 7 ∧ r 7 ≤ 2147483647 := hok.1 7 ((-2147483648), 2147483647) rfl
  have b8 : 0 ≤ r 8 ∧ r 8 ≤ 100 := hok.1 8 (0, 100) rfl
  have b9 : 0 ≤ r 9 ∧ r 9 ≤ 1 := hok.1 9 (0, 1) rfl
  have b10 : (-2147483648) ≤ r 10 ∧ r 10 ≤ 2147483647 := hok.1 10 ((-2147483648), 2147483647) rfl
  have b11 : 0 ≤ r 11 ∧ r 11 ≤ 100 := hok.1 11 (0, 100) rfl
  have b12 : 0 ≤ r 12 ∧ r 12 ≤ 1 := hok.1 12 (0, 1) rfl
  have b13 : (-2147483648) ≤ r 13 ∧ r 13 ≤ 2147483647 := hok.1 13 ((-2147483648), 2147483647) rfl
  have b14 : 1 ≤ r 14 ∧ r 14 ≤ 100 := hok.1 14 (1, 100) rfl
  have b15 : (-9223372036854775808) ≤ r 15 ∧ r 15 ≤ 9223372036854775807 := hok.1 15 ((-9223372036854775808), 9223372036854775807) rfl
  have f0 : 0 ≤ ((1 * r 14 + ((-1) * r 1 + 0)) + (-1)) := hok.2 _ (List.mem_of_getElem? (i := 0) rfl)
  obtain ⟨hG, hgi⟩ := hG
  have hG : True := hG
  obtain ⟨g0, hh, q0, e0⟩ := hh
  subst q0
  have e0 : r 15 = g 9 (((1 * r 1 + 0) + 0)).toNat := e0
  rw [show (((1 * r 1 + 0) + 0)).toNat = (r 1).toNat by omega] at e0
  have hh : g = gi := hh
  subst hh
  refine yt_dalt (by decide) (by decide) ?_
  rw [show xk_129.2.1.2.1.1.length = 15 from rfl]
  show ((1 * r 15 + 0) + 0) = yq_rx ((1 * r 0 + 0) + 0) ((1 * r 1 + 0) + 0) (yq_at ((1 * r 0 + 0) + 0) ((1 * ((1 * r 5 + 0) + 0) + 0) + 0) ((1 * ((1 * r 8 + 0) + 0) + 0) + 0) ((1 * ((1 * r 11 + 0) + 0) + 0) + 0) ((1 * ((1 * r 14 + 0) + 0) + 0) + 0)) (yq_at ((1 * r 0 + 0) + 0) ((g0 3) (((1 * r 1 + 0) + 0)).toNat) ((g0 5) (((1 * r 1 + 0) + 0)).toNat) ((g0 7) (((1 * r 1 + 0) + 0)).toNat) ((g0 9) (((1 * r 1 + 0) + 0)).toNat))
  try simp only [Int.one_mul, Int.zero_add, Int.add_zero]
  rw [show r 0 = 3 by omega]
  simp only [yq_at3]
  unfold yq_rx
  rw [hgi] at e0
  rw [if_pos (by omega), ← e0]
theorem xn_129 : ∀ (j : Nat) (q : Nat × yt_T), xq_129.2.2.1[j]? = some q → q.2.2.2 = false → ∀ g0 r g, xG_129 j g0 r g
  | n + 0, q, hq, _ => by cases hq
theorem xs_129 : ∀ j, xq_129.2.2.2.getD j false = false → ∀ r g g', xP_129 j r g g'
  | 0, hf => by cases hf
  | n + 1, _ => fun _ _ _ => trivial
theorem xc_129 {l : Launch} {D : va_G} {cT : Nat → ClassId} {tys : List (ClassId × FieldType)} (hty : yx_Ty tys cT) : yt_Con l D vwCl cT tys yG yw_s30 xk_129 xR_129 xP_129 := yx_sem (calls := xa_129) (Z := xq_129) (tb := xT_129) (pt := xU_129) (Ga := xG_129) (vs := xv_129) (fun _ _ _ _ => trivial) 300 (by decide +kernel) yz_X11_read_ok hty (yl_lkX11 _) (yl_cqkX11 _) (List.forall_mem_cons.mpr ⟨⟨xc_35 hty, yg_CLs yl_wX11_141 yd_yX11_isSheet, fun _ _ _ => trivial⟩, List.forall_mem_cons.mpr ⟨⟨xc_128 hty, yg_CLv rfl rfl rfl yl_wX11_155 yd_yX8_has, fun _ _ _ => trivial⟩, List.forall_mem_cons.mpr ⟨⟨xc_128 hty, yg_CLv rfl rfl rfl yl_wX11_155 yd_yX8_has, fun _ _ _ => trivial⟩, List.forall_mem_cons.mpr ⟨⟨xc_128 hty, yg_CLv rfl rfl rfl yl_wX11_155 yd_yX8_has, fun _ _ _ => trivial⟩, List.forall_mem_cons.mpr ⟨⟨xc_128 hty, yg_CLv rfl rfl rfl yl_wX11_155 yd_yX8_has, fun _ _ _ => trivial⟩, fun _ h => absurd h List.not_mem_nil⟩⟩⟩⟩⟩) (xn_129) (xs_129) (by decide +kernel) (List.forall_mem_cons.mpr ⟨xw_129_0_0, List.forall_mem_cons.mpr ⟨xw_129_0_1, List.forall_mem_cons.mpr ⟨xw_129_0_2, List.forall_mem_cons.mpr ⟨xw_129_0_3, List.forall_mem_cons.mpr ⟨xw_129_0_4, List.forall_mem_cons.mpr ⟨xw_129_0_5, List.forall_mem_cons.mpr ⟨xw_129_0_6, List.forall_mem_cons.mpr ⟨xw_129_0_7, List.forall_mem_cons.mpr ⟨xw_129_0_8, List.forall_mem_cons.mpr ⟨xw_129_0_9, List.forall_mem_cons.mpr ⟨xw_129_0_10, List.forall_mem_cons.mpr ⟨xw_129_0_11, List.forall_mem_cons.mpr ⟨xw_129_0_12, List.forall_mem_cons.mpr ⟨xw_129_0_13, fun _ h => absurd h List.not_mem_nil⟩⟩⟩⟩⟩⟩⟩⟩⟩⟩⟩⟩⟩⟩) (trivial)
noncomputable def xf_130 : ys_F := (yw_f36 2, yw_r36)
noncomputable def xk_130 : ys_K := (((yX5_nextOf, cX5_nextOf, 4, (some .int)), (0, 0)), ([.inr (some 0), .inl (.inl ([(0, 1)], 0)), .inl (.inl ([(1, 1)], 0))], ([((-2147483648), 2147483647), (0, 39)] ++ yw_e36, []), xf_130), ([([(0, 11)], [], (xf_130.1, xf_130.2), some (.inl (.inl ([(4, 1)], 0))))], []))
noncomputable def xq_130 : yt_Q := (yz_X5_nextOf, (yl_flX5, yl_ciX5, yl_cjX5, yl_cpX5, yl_cqX5), [(2, ([(0, 39)], [], (xf_130.1, xf_130.2), [(0, .inr (some 0)), (1, .inl (.inl ([(0, 1)], 0))), (3, .inl (.inl ([(4, 1)], 0)))], [], ([(4, (-1))], 39)), [], false)], [])
noncomputable def xa_130 : List yt_CE := []
theorem xc_130 {l : Launch} {D : va_G} {cT : Nat → ClassId} {tys : List (ClassId × FieldType)} (hty : yx_Ty tys cT) : yx_C l D cT tys yw_s36 xk_130 := yx_method (calls := xa_130) (Z := xq_130) 300 (by decide +kernel) yz_X5_nextOf_ok hty (yl_lkX5 _) (yl_cqkX5 _) (fun _ h => absurd h List.not_mem_nil) (by decide +kernel)
noncomputable def xf_131 : ys_F := (yw_f11 1, yw_r11)
noncomputable def xk_131 : ys_K := (((yX5_isShattered, cX5_isShattered, 6, (some .boolean)), (1, 23)), ([.inr (some 0), .inl (.inl ([(0, 1)], 0))], ([((-2147483648), 2147483647)] ++ yw_e11, []), xf_131), ([([], [], (xf_131.1, xf_131.2), some (.inl (.inl ([], 0)))), ([], [], (xf_131.1, xf_131.2), some (.inl (.inl ([], 1))))], []))
noncomputable def xq_131 : yt_Q := (yz_X5_isShattered, (yl_flX5, yl_ciX5, yl_cjX5, yl_cpX5, yl_cqX5), [], [])
noncomputable def xa_131 : List yt_CE := [(((76, true), (0, false, [])), (yw_s2, xk_54)), (((81, true), (0, false, [0, 1, 2, 3, 4])), (yw_s36, xk_130)), (((45, false), (181, false, [0, 1, 2, 3, 4])), (yw_s11, xk_13)), (((35, false), (180, false, [0, 1, 2, 3, 4])), (yw_s11, xk_12))]
noncomputable def xT_131 : yt_Tb := fun d => match d with
  | 180 => xP_12
  | 181 => xP_13
  | _ => fun _ _ _ _ => True
theorem xc_131 {l : Launch} {D : va_G} {cT : Nat → ClassId} {tys : List (ClassId × FieldType)} (hty : yx_Ty tys cT) : yx_C l D cT tys yw_s11 xk_131 := yx_methodT (tb := xT_131) (fun _ _ _ _ => trivial) (calls := xa_131) (Z := xq_131) 300 (by decide +kernel) yz_X5_isShattered_ok hty (yl_lkX5 _) (yl_cqkX5 _) (List.forall_mem_cons.mpr ⟨⟨xc_54 hty, yg_CLs yl_wX5_76 yd_yJ6_bitCount_0f7a4⟩, List.forall_mem_cons.mpr ⟨⟨xc_130 hty, yg_CLs yl_wX5_81 yd_yX5_nextOf⟩, List.forall_mem_cons.mpr ⟨⟨xc_13 hty, yg_CLv rfl rfl rfl yl_wX5_45 yd_yX6_turn⟩, List.forall_mem_cons.mpr ⟨⟨xc_12 hty, yg_CLv rfl rfl rfl yl_wX5_35 yd_yX6_samePlace⟩, fun _ h => absurd h List.not_mem_nil⟩⟩⟩⟩) (by decide +kernel)
noncomputable def xf_132 : ys_F := (yw_f34 1, yw_r34)
noncomputable def xk_132 : ys_K := (((yX11_shatter, cX11_shatter, 2, (some .int)), (2, 48)), ([.inr (some 0), .inl (.inl ([(0, 1)], 0))], ([((-2147483648), 2147483647)] ++ yw_e34, []), xf_132), ([([((-1), 1)], [], (xf_132.1, xf_132.2), some (.inl (.inl ([(4, 1)], 0))))], []))
noncomputable def xq_132 : yt_Q := (yz_X11_shatter, (yl_flX11, yl_ciX11, yl_cjX11, yl_cpX11, yl_cqX11), [], [])
noncomputable def xa_132 : List yt_CE := [(((264, true), (0, false, [])), (yw_s2, xk_69)), (((285, true), (0, false, [1, 2, 3, 4, 5])), (yw_s11, xk_131))]
theorem xc_132 {l : Launch} {D : va_G} {cT : Nat → ClassId} {tys : List (ClassId × FieldType)} (hty : yx_Ty tys cT) : yx_C l D cT tys yw_s34 xk_132 := yx_method (calls := xa_132) (Z := xq_132) 300 (by decide +kernel) yz_X11_shatter_ok hty (yl_lkX11 _) (yl_cqkX11 _) (List.forall_mem_cons.mpr ⟨⟨xc_69 hty, yg_CLs yl_wX11_264 yd_yX5_fits⟩, List.forall_mem_cons.mpr ⟨⟨xc_131 hty, yg_CLs yl_wX11_285 yd_yX5_isShattered⟩, fun _ h => absurd h List.not_mem_nil⟩⟩) (by decide +kernel)
noncomputable def xf_133 : ys_F := (yw_f27 0, yw_r27)
noncomputable def xk_133 : ys_K := (((yX8_tear, cX8_tear, 1, none), (0, 0)), ([.inr (some 0)], ([] ++ yw_e27, []), xf_133), ([([], [], ((ys_fs xf_133.1 [(0, 1, .inl (.inl ([], 0))), (0, 3, .inl (.inl ([], 0)))]), xf_133.2), none)], []))
noncomputable def xq_133 : yt_Q := (yz_X8_tear, (yl_flX8, yl_ciX8, yl_cjX8, yl_cpX8, yl_cqX8), [], [])
noncomputable def xa_133 : List yt_CE := []
theorem xc_133 {l : Launch} {D : va_G} {cT : Nat → ClassId} {tys : List (ClassId × FieldType)} (hty : yx_Ty tys cT) : yx_C l D cT tys yw_s27 xk_133 := yx_method (calls := xa_133) (Z := xq_133) 300 (by decide +kernel) yz_X8_tear_ok hty (yl_lkX8 _) (yl_cqkX8 _) (fun _ h => absurd h List.not_mem_nil) (by decide +kernel)
noncomputable def yw_s71 : List ys_C := [.inr (1, 100, [])]
noncomputable def yw_f71 (n : Nat) : List (List ys_V) := [[]]
noncomputable def yw_e71 : ys_E := []
noncomputable def yw_r71 : List ys_R := [(((-9223372036854775808), 9223372036854775807), [])]
noncomputable def xf_134 : ys_F := (yw_f71 1, yw_r71)
noncomputable def xk_134 : ys_K := (((yJ7_fill_d0a16, cJ7_fill_d0a16, 5, none), (0, 0)), ([.inr (some 0), .inl (.inr ([(0, 1)], 0))], ([((-9223372036854775808), 9223372036854775807)] ++ yw_e71, []), xf_134), ([([], [], (xf_134.1, xf_134.2), none)], [0]))
noncomputable def xq_134 : yt_Q := (yz_J7_fill_d0a16, (yl_flJ7, yl_ciJ7, yl_cjJ7, yl_cpJ7, yl_cqJ7), [(6, ([(0, 100)], [], (xf_134.1, xf_134.2), [(0, .inr (some 0)), (1, .inl (.inr ([(0, 1)], 0))), (3, .inl (.inl ([(1, 1)], 0))), (4, .inl (.inl ([], 100)))], [], ([(1, (-1))], 100)), [], true)], [true])
noncomputable def xa_134 : List yt_CE := []
noncomputable def xv_134 : List (List yt_VC) := [[(0, ([((-9223372036854775808), 9223372036854775807)], []), [([], 0)], [], [])],
  [(1000, ([((-9223372036854775808), 9223372036854775807), (100, 100)], []), [], [], []),
   (0, ([((-9223372036854775808), 9223372036854775807), (0, 99)], []), [([(1, 1)], 1)], [], [.inr (.inl (0, ([(1, 1)], 0), ([(0, 1)], 0)))])]]
noncomputable def xG_134 : Nat → yt_G → (Nat → Int) → yt_G → Prop
  | 0, g0, r, g => (g 0) = yq_fl (((1 * (r 1) + 0) + 0)).toNat (r 0) (g0 0)
  | _, _, _, _ => True
noncomputable def xP_134 : yt_Ph
  | 0, r, g0, g => (g 0) = yq_fl 100 (r 0) (g0 0)
  | _, _, _, _ => True
noncomputable def xR_134 : yt_Ps := fun r g0 => True
noncomputable def xT_134 : yt_Tb := fun d => match d with
  | _ => fun _ _ _ _ => True
noncomputable def xU_134 : Nat → yt_Ps := fun d => match d with
  | _ => fun _ _ => True
theorem xw_134_0_0 : yt_hold xT_134 xk_134 xq_134.2.2.1 xG_134 xP_134 xU_134 1 xk_134.2.1.2.2.2 (fun g0 r g => xR_134 r g0 ∧ g = g0) (0, ([((-9223372036854775808), 9223372036854775807)], []), [([], 0)], [], []) := by
  intro g0 r gi g hok hh hars hfr hG
  have b0 : (-9223372036854775808) ≤ r 0 ∧ r 0 ≤ 9223372036854775807 := hok.1 0 ((-9223372036854775808), 9223372036854775807) rfl
  obtain ⟨hG, hgi⟩ := hG
  have hG : True := hG
  have hh : g = gi := hh
  subst hh
  refine yt_dcut (by decide) rfl ?_ ?_
  · exact fun f hf => absurd hf List.not_mem_nil
  · rw [show xk_134.2.1.2.1.1.length = 1 from rfl]
    show (g 0) = yq_fl (((1 * ((0 : Int) + 0) + 0) + 0)).toNat ((1 * r 0 + 0) + 0) (g0 0)
    try simp only [Int.one_mul, Int.zero_add, Int.add_zero]
    rw [hgi]
    exact (yq_fl_z rfl).symm
theorem xw_134_1_0 : yt_hold xT_134 xk_134 xq_134.2.2.1 xG_134 xP_134 xU_134 2 ((xq_134.2.2.1.getD 0 (0, ([], [], ([], []), [], [], ([], 0)), [], false)).2.1.2.2.1.2) (xG_134 0) (1000, ([((-9223372036854775808), 9223372036854775807), (100, 100)], []), [], [], []) := by
  intro g0 r gi g hok hh hars hfr hG
  have b0 : (-9223372036854775808) ≤ r 0 ∧ r 0 ≤ 9223372036854775807 := hok.1 0 ((-9223372036854775808), 9223372036854775807) rfl
  have b1 : 100 ≤ r 1 ∧ r 1 ≤ 100 := hok.1 1 (100, 100) rfl
  have hG : (gi 0) = yq_fl (((1 * (r 1) + 0) + 0)).toNat (r 0) (g0 0) := hG
  have hh : g = gi := hh
  subst hh
  refine yt_dalt (by decide) (by decide) ?_
  rw [show xk_134.2.1.2.1.1.length = 1 from rfl]
  show (g 0) = yq_fl 100 ((1 * r 0 + 0) + 0) (g0 0)
  try simp only [Int.one_mul, Int.zero_add, Int.add_zero]
  try simp only [Int.one_mul, Int.zero_add, Int.add_zero] at hG
  rw [show (r 1).toNat = 100 by omega] at hG
  exact hG
theorem xw_134_1_1 : yt_hold xT_134 xk_134 xq_134.2.2.1 xG_134 xP_134 xU_134 2 ((xq_134.2.2.1.getD 0 (0, ([], [], ([], []), [], [], ([], 0)), [], false)).2.1.2.2.1.2) (xG_134 0) (0, ([((-9223372036854775808), 9223372036854775807), (0, 99)], []), [([(1, 1)], 1)], [], [.inr (.inl (0, ([(1, 1)], 0), ([(0, 1)], 0)))]) := by
  intro g0 r gi g hok hh hars hfr hG
  have b0 : (-9223372036854775808) ≤ r 0 ∧ r 0 ≤ 9223372036854775807 := hok.1 0 ((-9223372036854775808), 9223372036854775807) rfl
  have b1 : 0 ≤ r 1 ∧ r 1 ≤ 99 := hok.1 1 (0, 99) rfl
  have hG : (gi 0) = yq_fl (((1 * (r 1) + 0) + 0)).toNat (r 0) (g0 0) := hG
  obtain ⟨h0, hh, e0⟩ := hh
  have e0 : g = ys_gup h0 0 (((1 * r 1 + 0) + 0)).toNat ((1 * r 0 + 0) + 0) := e0
  have hh : h0 = gi := hh
  subst hh
  refine yt_dcut (by decide) rfl ?_ ?_
  · exact fun f hf => absurd hf List.not_mem_nil
  · rw [show xk_134.2.1.2.1.1.length = 1 from rfl]
    show (g 0) = yq_fl (((1 * ((1 * r 1 + 0) + 1) + 0) + 0)).toNat ((1 * r 0 + 0) + 0) (g0 0)
    try simp only [Int.one_mul, Int.zero_add, Int.add_zero]
    try simp only [Int.one_mul, Int.zero_add, Int.add_zero] at e0
    try simp only [Int.one_mul, Int.zero_add, Int.add_zero] at hG
    rw [e0, yq_gup_self, hG]
    exact yq_fl_s (by omega)
theorem xn_134 : ∀ (j : Nat) (q : Nat × yt_T), xq_134.2.2.1[j]? = some q → q.2.2.2 = false → ∀ g0 r g, xG_134 j g0 r g
  | 0, q, hq, hf => by cases hq; cases hf
  | n + 1, q, hq, _ => by cases hq
theorem xs_134 : ∀ j, xq_134.2.2.2.getD j false = false → ∀ r g g', xP_134 j r g g'
  | 0, hf => by cases hf
  | n + 1, _ => fun _ _ _ => trivial
theorem xc_134 {l : Launch} {D : va_G} {cT : Nat → ClassId} {tys : List (ClassId × FieldType)} (hty : yx_Ty tys cT) : yt_Con l D vwCl cT tys yG yw_s71 xk_134 xR_134 xP_134 := yx_sem (calls := xa_134) (Z := xq_134) (tb := xT_134) (pt := xU_134) (Ga := xG_134) (vs := xv_134) (fun _ _ _ _ => trivial) 300 (by decide +kernel) yz_J7_fill_d0a16_ok hty (yl_lkJ7 _) (yl_cqkJ7 _) (fun _ h => absurd h List.not_mem_nil) (xn_134) (xs_134) (by decide +kernel) (List.forall_mem_cons.mpr ⟨xw_134_0_0, fun _ h => absurd h List.not_mem_nil⟩) (⟨List.forall_mem_cons.mpr ⟨xw_134_1_0, List.forall_mem_cons.mpr ⟨xw_134_1_1, fun _ h => absurd h List.not_mem_nil⟩⟩, trivial⟩)
noncomputable def xf_135 : ys_F := (yw_f28 2, yw_r28)
noncomputable def xk_135 : ys_K := (((yX8_lay, cX8_lay, 3, none), (1, 24)), ([.inr (some 0), .inl (.inl ([(0, 1)], 0)), .inl (.inl ([(1, 1)], 0))], ([(0, 39), (0, 100)] ++ yw_e28, []), xf_135), ([([], [], ((ys_fs xf_135.1 [(0, 1, .inl (.inl ([], 1))), (0, 2, .inl (.inl ([(0, 1)], 0))), (0, 3, .inl (.inl ([(1, 1)], 0)))]), xf_135.2), none)], [1]))
noncomputable def xq_135 : yt_Q := (yz_X8_lay, (yl_flX8, yl_ciX8, yl_cjX8, yl_cpX8, yl_cqX8), [], [true])
noncomputable def xa_135 : List yt_CE := [(((26, true), (90, false, [1])), (yw_s71, xk_134))]
noncomputable def xv_135 : List (List yt_VC) := [[(1000, ([(0, 39), (0, 100), (0, 1), ((-2147483648), 2147483647), (0, 100)], []), [], [], [.inr (.inr (.inl (90, 0, [([], 0)], [1], [1])))])]]
noncomputable def xG_135 : Nat → yt_G → (Nat → Int) → yt_G → Prop
  | _, _, _, _ => True
noncomputable def xP_135 : yt_Ph
  | 0, r, g0, g => (g 1) = yq_fl 100 0 (g0 1)
  | _, _, _, _ => True
noncomputable def xR_135 : yt_Ps := fun r g0 => True
noncomputable def xT_135 : yt_Tb := fun d => match d with
  | 90 => xP_134
  | _ => fun _ _ _ _ => True
noncomputable def xU_135 : Nat → yt_Ps := fun d => match d with
  | 90 => xR_134
  | _ => fun _ _ => True
theorem xw_135_0_0 : yt_hold xT_135 xk_135 xq_135.2.2.1 xG_135 xP_135 xU_135 5 xk_135.2.1.2.2.2 (fun g0 r g => xR_135 r g0 ∧ g = g0) (1000, ([(0, 39), (0, 100), (0, 1), ((-2147483648), 2147483647), (0, 100)], []), [], [], [.inr (.inr (.inl (90, 0, [([], 0)], [1], [1])))]) := by
  intro g0 r gi g hok hh hars hfr hG
  obtain ⟨hG, hgi⟩ := hG
  have hG : True := hG
  obtain ⟨h0, hh, e0, k0⟩ := hh
  have k0 : ∀ j, j ∉ [1] → g j = h0 j := k0
  have e0 : (g 1) = yq_fl 100 ((0 : Int) + 0) (h0 1) := e0
  have hh : h0 = gi := hh
  subst hh
  refine yt_dalt (by decide) (by decide) ?_
  rw [show xk_135.2.1.2.1.1.length = 5 from rfl]
  show (g 1) = yq_fl 100 0 (g0 1)
  try simp only [Int.one_mul, Int.zero_add, Int.add_zero]
  try simp only [Int.one_mul, Int.zero_add, Int.add_zero] at e0
  rw [e0, hgi]
theorem xn_135 : ∀ (j : Nat) (q : Nat × yt_T), xq_135.2.2.1[j]? = some q → q.2.2.2 = false → ∀ g0 r g, xG_135 j g0 r g
  | n + 0, q, hq, _ => by cases hq
theorem xs_135 : ∀ j, xq_135.2.2.2.getD j false = false → ∀ r g g', xP_135 j r g g'
  | 0, hf => by cases hf
  | n + 1, _ => fun _ _ _ => trivial
theorem xc_135 {l : Launch} {D : va_G} {cT : Nat → ClassId} {tys : List (ClassId × FieldType)} (hty : yx_Ty tys cT) : yt_Con l D vwCl cT tys yG yw_s28 xk_135 xR_135 xP_135 := yx_sem (calls := xa_135) (Z := xq_135) (tb := xT_135) (pt := xU_135) (Ga := xG_135) (vs := xv_135) (fun _ _ _ _ => trivial) 300 (by decide +kernel) yz_X8_lay_ok hty (yl_lkX8 _) (yl_cqkX8 _) (List.forall_mem_cons.mpr ⟨⟨xc_134 hty, yg_CLs yl_wX8_26 yd_yJ7_fill_d0a16, fun _ _ _ => trivial⟩, fun _ h => absurd h List.not_mem_nil⟩) (xn_135) (xs_135) (by decide +kernel) (List.forall_mem_cons.mpr ⟨xw_135_0_0, fun _ h => absurd h List.not_mem_nil⟩) (trivial)
noncomputable def xf_136 : ys_F := (yw_f30 3, yw_r30)
noncomputable def xk_136 : ys_K := (((yX11_sheet, cX11_sheet, 4, (some .int)), (2, 46)), ([.inr (some 0), .inl (.inl ([(0, 1)], 0)), .inl (.inl ([(1, 1)], 0)), .inl (.inl ([(2, 1)], 0))], ([((-2147483648), 2147483647), ((-2147483648), 2147483647), ((-2147483648), 2147483647)] ++ yw_e30, []), xf_136), ([([((-4), 100), ((-2147483648), 0), (0, 1), ((-2147483648), 2147483647), (0, 100), (0, 1), ((-2147483648), 2147483647), (0, 100), (0, 1), ((-2147483648), 2147483647), (0, 100), (0, 1), ((-2147483648), 2147483647), (0, 100)], [], ((ys_fs xf_136.1 [(0, 14, .inl (.inl ([(17, 1)], 0))), (2, 1, .inl (.inl ([(18, 1)], 0))), (2, 2, .inl (.inl ([(19, 1)], 0))), (2, 3, .inl (.inl ([(20, 1)], 0))), (4, 1, .inl (.inl ([(21, 1)], 0))), (4, 2, .inl (.inl ([(22, 1)], 0))), (4, 3, .inl (.inl ([(23, 1)], 0))), (6, 1, .inl (.inl ([(24, 1)], 0))), (6, 2, .inl (.inl ([(25, 1)], 0))), (6, 3, .inl (.inl ([(26, 1)], 0))), (8, 1, .inl (.inl ([(27, 1)], 0))), (8, 2, .inl (.inl ([(28, 1)], 0))), (8, 3, .inl (.inl ([(29, 1)], 0)))]), xf_136.2), some (.inl (.inl ([(16, 1)], 0))))], [3, 5, 7, 9]))
noncomputable def xq_136 : yt_Q := (yz_X11_sheet, (yl_flX11, yl_ciX11, yl_cjX11, yl_cpX11, yl_cqX11), [], [true])
noncomputable def xa_136 : List yt_CE := [(((141, true), (0, false, [])), (yw_s2, xk_35)), (((107, false), (0, false, [0, 10, 11, 12, 1, 13, 14, 15, 16, 17, 18, 19, 20, 21, 22])), (yw_s3, xk_3)), (((144, false), (0, false, [8, 9])), (yw_s27, xk_133)), (((144, false), (0, false, [6, 7])), (yw_s27, xk_133)), (((144, false), (0, false, [4, 5])), (yw_s27, xk_133)), (((144, false), (0, false, [2, 3])), (yw_s27, xk_133)), (((147, false), (94, false, [8, 9])), (yw_s28, xk_135)), (((147, false), (94, false, [6, 7])), (yw_s28, xk_135)), (((147, false), (94, false, [4, 5])), (yw_s28, xk_135)), (((147, false), (94, false, [2, 3])), (yw_s28, xk_135))]
noncomputable def xv_136 : List (List yt_VC) := [[(1000, ([((-2147483648), (-1)), ((-2147483648), 2147483647), ((-2147483648), 2147483647), ((-2147483648), 2147483647), (0, 1), ((-2147483648), 2147483647), (0, 100), (0, 1), ((-2147483648), 2147483647), (0, 100), (0, 1), ((-2147483648), 2147483647), (0, 100), (0, 1), ((-2147483648), 2147483647), (0, 100), ((-2147483648), 0)], []), [([], (-1)), ([(16, 1)], 0), ([(4, 1)], 0), ([(5, 1)], 0), ([(6, 1)], 0), ([(7, 1)], 0), ([(8, 1)], 0), ([(9, 1)], 0), ([(10, 1)], 0), ([(11, 1)], 0), ([(12, 1)], 0), ([(13, 1)], 0), ([(14, 1)], 0), ([(15, 1)], 0)], [], []),
   (1000, ([(4, 2147483647), ((-2147483648), 2147483647), ((-2147483648), 2147483647), ((-2147483648), 2147483647), (0, 1), ((-2147483648), 2147483647), (0, 100), (0, 1), ((-2147483648), 2147483647), (0, 100), (0, 1), ((-2147483648), 2147483647), (0, 100), (0, 1), ((-2147483648), 2147483647), (0, 100), ((-2147483648), 0)], []), [([], (-1)), ([(16, 1)], 0), ([(4, 1)], 0), ([(5, 1)], 0), ([(6, 1)], 0), ([(7, 1)], 0), ([(8, 1)], 0), ([(9, 1)], 0), ([(10, 1)], 0), ([(11, 1)], 0), ([(12, 1)], 0), ([(13, 1)], 0), ([(14, 1)], 0), ([(15, 1)], 0)], [], []),
   (1000, ([(0, 3), ((-2147483648), (-1)), ((-2147483648), 2147483647), ((-2147483648), 2147483647), (0, 1), ((-2147483648), 2147483647), (0, 100), (0, 1), ((-2147483648), 2147483647), (0, 100), (0, 1), ((-2147483648), 2147483647), (0, 100), (0, 1), ((-2147483648), 2147483647), (0, 100), ((-2147483648), 0)], []), [([], (-1)), ([(16, 1)], 0), ([(4, 1)], 0), ([(5, 1)], 0), ([(6, 1)], 0), ([(7, 1)], 0), ([(8, 1)], 0), ([(9, 1)], 0), ([(10, 1)], 0), ([(11, 1)], 0), ([(12, 1)], 0), ([(13, 1)], 0), ([(14, 1)], 0), ([(15, 1)], 0)], [], []),
   (1000, ([(0, 3), (4, 2147483647), ((-2147483648), 2147483647), ((-2147483648), 2147483647), (0, 1), ((-2147483648), 2147483647), (0, 100), (0, 1), ((-2147483648), 2147483647), (0, 100), (0, 1), ((-2147483648), 2147483647), (0, 100), (0, 1), ((-2147483648), 2147483647), (0, 100), ((-2147483648), 0)], []), [([], (-1)), ([(16, 1)], 0), ([(4, 1)], 0), ([(5, 1)], 0), ([(6, 1)], 0), ([(7, 1)], 0), ([(8, 1)], 0), ([(9, 1)], 0), ([(10, 1)], 0), ([(11, 1)], 0), ([(12, 1)], 0), ([(13, 1)], 0), ([(14, 1)], 0), ([(15, 1)], 0)], [], []),
   (1000, ([(0, 0), (0, 3), (0, 100), ((-2147483648), 2147483647), (0, 1), ((-2147483648), 2147483647), (0, 100), (0, 1), ((-2147483648), 2147483647), (0, 100), (0, 1), ((-2147483648), 2147483647), (0, 100), (0, 1), ((-2147483648), 2147483647), (0, 100), ((-2147483648), 0)], []), [([(2, 1)], 0), ([(16, 1)], 0), ([], 1), ([(1, 1)], 0), ([(2, 1)], 0), ([(7, 1)], 0), ([(8, 1)], 0), ([(9, 1)], 0), ([(10, 1)], 0), ([(11, 1)], 0), ([(12, 1)], 0), ([(13, 1)], 0), ([(14, 1)], 0), ([(15, 1)], 0)], [], [.inr (.inr (.inl (94, 0, [([(1, 1)], 0), ([(2, 1)], 0), ([(4, 1)], 0), ([(5, 1)], 0), ([(6, 1)], 0)], [2, 3], [3])))]),
   (1000, ([(1, 1), (0, 3), (0, 100), ((-2147483648), 2147483647), (0, 1), ((-2147483648), 2147483647), (0, 100), (0, 1), ((-2147483648), 2147483647), (0, 100), (0, 1), ((-2147483648), 2147483647), (0, 100), (0, 1), ((-2147483648), 2147483647), (0, 100), ((-2147483648), 0)], []), [([(2, 1)], 0), ([(16, 1)], 0), ([(4, 1)], 0), ([(5, 1)], 0), ([(6, 1)], 0), ([], 1), ([(1, 1)], 0), ([(2, 1)], 0), ([(10, 1)], 0), ([(11, 1)], 0), ([(12, 1)], 0), ([(13, 1)], 0), ([(14, 1)], 0), ([(15, 1)], 0)], [], [.inr (.inr (.inl (94, 0, [([(1, 1)], 0), ([(2, 1)], 0), ([(7, 1)], 0), ([(8, 1)], 0), ([(9, 1)], 0)], [4, 5], [5])))]),
   (1000, ([(2, 2), (0, 3), (0, 100), ((-2147483648), 2147483647), (0, 1), ((-2147483648), 2147483647), (0, 100), (0, 1), ((-2147483648), 2147483647), (0, 100), (0, 1), ((-2147483648), 2147483647), (0, 100), (0, 1), ((-2147483648), 2147483647), (0, 100), ((-2147483648), 0)], []), [([(2, 1)], 0), ([(16, 1)], 0), ([(4, 1)], 0), ([(5, 1)], 0), ([(6, 1)], 0), ([(7, 1)], 0), ([(8, 1)], 0), ([(9, 1)], 0), ([], 1), ([(1, 1)], 0), ([(2, 1)], 0), ([(13, 1)], 0), ([(14, 1)], 0), ([(15, 1)], 0)], [], [.inr (.inr (.inl (94, 0, [([(1, 1)], 0), ([(2, 1)], 0), ([(10, 1)], 0), ([(11, 1)], 0), ([(12, 1)], 0)], [6, 7], [7])))]),
   (1000, ([(3, 3), (0, 3), (0, 100), ((-2147483648), 2147483647), (0, 1), ((-2147483648), 2147483647), (0, 100), (0, 1), ((-2147483648), 2147483647), (0, 100), (0, 1), ((-2147483648), 2147483647), (0, 100), (0, 1), ((-2147483648), 2147483647), (0, 100), ((-2147483648), 0)], []), [([(2, 1)], 0), ([(16, 1)], 0), ([(4, 1)], 0), ([(5, 1)], 0), ([(6, 1)], 0), ([(7, 1)], 0), ([(8, 1)], 0), ([(9, 1)], 0), ([(10, 1)], 0), ([(11, 1)], 0), ([(12, 1)], 0), ([], 1), ([(1, 1)], 0), ([(2, 1)], 0)], [], [.inr (.inr (.inl (94, 0, [([(1, 1)], 0), ([(2, 1)], 0), ([(13, 1)], 0), ([(14, 1)], 0), ([(15, 1)], 0)], [8, 9], [9])))]),
   (1000, ([(0, 0), (0, 3), ((-2147483648), (-1)), ((-2147483648), 2147483647), (0, 1), ((-2147483648), 2147483647), (0, 100), (0, 1), ((-2147483648), 2147483647), (0, 100), (0, 1), ((-2147483648), 2147483647), (0, 100), (0, 1), ((-2147483648), 2147483647), (0, 100), ((-2147483648), 0)], []), [([], (-4)), ([(16, 1)], 0), ([], 0), ([(5, 1)], 0), ([], 0), ([(7, 1)], 0), ([(8, 1)], 0), ([(9, 1)], 0), ([(10, 1)], 0), ([(11, 1)], 0), ([(12, 1)], 0), ([(13, 1)], 0), ([(14, 1)], 0), ([(15, 1)], 0)], [], []),
   (1000, ([(1, 1), (0, 3), ((-2147483648), (-1)), ((-2147483648), 2147483647), (0, 1), ((-2147483648), 2147483647), (0, 100), (0, 1), ((-2147483648), 2147483647), (0, 100), (0, 1), ((-2147483648), 2147483647), (0, 100), (0, 1), ((-2147483648), 2147483647), (0, 100), ((-2147483648), 0)], []), [([], (-4)), ([(16, 1)], 0), ([(4, 1)], 0), ([(5, 1)], 0), ([(6, 1)], 0), ([], 0), ([(8, 1)], 0), ([], 0), ([(10, 1)], 0), ([(11, 1)], 0), ([(12, 1)], 0), ([(13, 1)], 0), ([(14, 1)], 0), ([(15, 1)], 0)], [], []),
   (1000, ([(2, 2), (0, 3), ((-2147483648), (-1)), ((-2147483648), 2147483647), (0, 1), ((-2147483648), 2147483647), (0, 100), (0, 1), ((-2147483648), 2147483647), (0, 100), (0, 1), ((-2147483648), 2147483647), (0, 100), (0, 1), ((-2147483648), 2147483647), (0, 100), ((-2147483648), 0)], []), [([], (-4)), ([(16, 1)], 0), ([(4, 1)], 0), ([(5, 1)], 0), ([(6, 1)], 0), ([(7, 1)], 0), ([(8, 1)], 0), ([(9, 1)], 0), ([], 0), ([(11, 1)], 0), ([], 0), ([(13, 1)], 0), ([(14, 1)], 0), ([(15, 1)], 0)], [], []),
   (1000, ([(3, 3), (0, 3), ((-2147483648), (-1)), ((-2147483648), 2147483647), (0, 1), ((-2147483648), 2147483647), (0, 100), (0, 1), ((-2147483648), 2147483647), (0, 100), (0, 1), ((-2147483648), 2147483647), (0, 100), (0, 1), ((-2147483648), 2147483647), (0, 100), ((-2147483648), 0)], []), [([], (-4)), ([(16, 1)], 0), ([(4, 1)], 0), ([(5, 1)], 0), ([(6, 1)], 0), ([(7, 1)], 0), ([(8, 1)], 0), ([(9, 1)], 0), ([(10, 1)], 0), ([(11, 1)], 0), ([(12, 1)], 0), ([], 0), ([(14, 1)], 0), ([], 0)], [], []),
   (1000, ([(0, 3), (0, 3), (101, 2147483647), ((-2147483648), 2147483647), (0, 1), ((-2147483648), 2147483647), (0, 100), (0, 1), ((-2147483648), 2147483647), (0, 100), (0, 1), ((-2147483648), 2147483647), (0, 100), (0, 1), ((-2147483648), 2147483647), (0, 100), ((-2147483648), 0)], []), [([], (-1)), ([(16, 1)], 0), ([(4, 1)], 0), ([(5, 1)], 0), ([(6, 1)], 0), ([(7, 1)], 0), ([(8, 1)], 0), ([(9, 1)], 0), ([(10, 1)], 0), ([(11, 1)], 0), ([(12, 1)], 0), ([(13, 1)], 0), ([(14, 1)], 0), ([(15, 1)], 0)], [], [])]]
noncomputable def xG_136 : Nat → yt_G → (Nat → Int) → yt_G → Prop
  | _, _, _, _ => True
noncomputable def xP_136 : yt_Ph
  | 0, r, g0, g => (r 16) = yq_shr (r 0) (r 1) (r 2) ∧ ((1 * (r 18) + 0) + 0) = yq_sg (r 0) (r 1) (r 2) 0 ((1 * (r 4) + 0) + 0) 0 1 ∧ ((1 * (r 19) + 0) + 0) = yq_sg (r 0) (r 1) (r 2) 0 ((1 * (r 5) + 0) + 0) ((1 * (r 5) + 0) + 0) (r 1) ∧ ((1 * (r 20) + 0) + 0) = yq_sg (r 0) (r 1) (r 2) 0 ((1 * (r 6) + 0) + 0) 0 (r 2) ∧ ((1 * (r 21) + 0) + 0) = yq_sg (r 0) (r 1) (r 2) 1 ((1 * (r 7) + 0) + 0) 0 1 ∧ ((1 * (r 22) + 0) + 0) = yq_sg (r 0) (r 1) (r 2) 1 ((1 * (r 8) + 0) + 0) ((1 * (r 8) + 0) + 0) (r 1) ∧ ((1 * (r 23) + 0) + 0) = yq_sg (r 0) (r 1) (r 2) 1 ((1 * (r 9) + 0) + 0) 0 (r 2) ∧ ((1 * (r 24) + 0) + 0) = yq_sg (r 0) (r 1) (r 2) 2 ((1 * (r 10) + 0) + 0) 0 1 ∧ ((1 * (r 25) + 0) + 0) = yq_sg (r 0) (r 1) (r 2) 2 ((1 * (r 11) + 0) + 0) ((1 * (r 11) + 0) + 0) (r 1) ∧ ((1 * (r 26) + 0) + 0) = yq_sg (r 0) (r 1) (r 2) 2 ((1 * (r 12) + 0) + 0) 0 (r 2) ∧ ((1 * (r 27) + 0) + 0) = yq_sg (r 0) (r 1) (r 2) 3 ((1 * (r 13) + 0) + 0) 0 1 ∧ ((1 * (r 28) + 0) + 0) = yq_sg (r 0) (r 1) (r 2) 3 ((1 * (r 14) + 0) + 0) ((1 * (r 14) + 0) + 0) (r 1) ∧ ((1 * (r 29) + 0) + 0) = yq_sg (r 0) (r 1) (r 2) 3 ((1 * (r 15) + 0) + 0) 0 (r 2) ∧ (g 3) = yq_sr (r 0) (r 1) (r 2) 0 (g0 3) ∧ (g 5) = yq_sr (r 0) (r 1) (r 2) 1 (g0 5) ∧ (g 7) = yq_sr (r 0) (r 1) (r 2) 2 (g0 7) ∧ (g 9) = yq_sr (r 0) (r 1) (r 2) 3 (g0 9)
  | _, _, _, _ => True
noncomputable def xR_136 : yt_Ps := fun r g0 => True
noncomputable def xT_136 : yt_Tb := fun d => match d with
  | 94 => xP_135
  | _ => fun _ _ _ _ => True
noncomputable def xU_136 : Nat → yt_Ps := fun d => match d with
  | 94 => xR_135
  | _ => fun _ _ => True
theorem xw_136_0_0 : yt_hold xT_136 xk_136 xq_136.2.2.1 xG_136 xP_136 xU_136 16 xk_136.2.1.2.2.2 (fun g0 r g => xR_136 r g0 ∧ g = g0) (1000, ([((-2147483648), (-1)), ((-2147483648), 2147483647), ((-2147483648), 2147483647), ((-2147483648), 2147483647), (0, 1), ((-2147483648), 2147483647), (0, 100), (0, 1), ((-2147483648), 2147483647), (0, 100), (0, 1), ((-2147483648), 2147483647), (0, 100), (0, 1), ((-2147483648), 2147483647), (0, 100), ((-2147483648), 0)], []), [([], (-1)), ([(16, 1)], 0), ([(4, 1)], 0), ([(5, 1)], 0), ([(6, 1)], 0), ([(7, 1)], 0), ([(8, 1)], 0), ([(9, 1)], 0), ([(10, 1)], 0), ([(11, 1)], 0), ([(12, 1)], 0), ([(13, 1)], 0), ([(14, 1)], 0), ([(15, 1)], 0)], [], []) := by
  intro g0 r gi g hok hh hars hfr hG
  have b0 : (-2147483648) ≤ r 0 ∧ r 0 ≤ (-1) := hok.1 0 ((-2147483648), (-1)) rfl
  have b1 : (-2147483648) ≤ r 1 ∧ r 1 ≤ 2147483647 := hok.1 1 ((-2147483648), 2147483647) rfl
  have b2 : (-2147483648) ≤ r 2 ∧ r 2 ≤ 2147483647 := hok.1 2 ((-2147483648), 2147483647) rfl
  have b16 : (-2147483648) ≤ r 16 ∧ r 16 ≤ 0 := hok.1 16 ((-2147483648), 0) rfl
  obtain ⟨hG, hgi⟩ := hG
  have hG : True := hG
  have hh : g = gi := hh
  subst hh
  refine yt_dalt (by decide) (by decide) ?_
  rw [show xk_136.2.1.2.1.1.length = 16 from rfl]
  show ((0 : Int) + (-1)) = yq_shr ((1 * r 0 + 0) + 0) ((1 * r 1 + 0) + 0) ((1 * r 2 + 0) + 0) ∧ ((1 * ((1 * r 4 + 0) + 0) + 0) + 0) = yq_sg ((1 * r 0 + 0) + 0) ((1 * r 1 + 0) + 0) ((1 * r 2 + 0) + 0) 0 ((1 * ((1 * r 4 + 0) + 0) + 0) + 0) 0 1 ∧ ((1 * ((1 * r 5 + 0) + 0) + 0) + 0) = yq_sg ((1 * r 0 + 0) + 0) ((1 * r 1 + 0) + 0) ((1 * r 2 + 0) + 0) 0 ((1 * ((1 * r 5 + 0) + 0) + 0) + 0) ((1 * ((1 * r 5 + 0) + 0) + 0) + 0) ((1 * r 1 + 0) + 0) ∧ ((1 * ((1 * r 6 + 0) + 0) + 0) + 0) = yq_sg ((1 * r 0 + 0) + 0) ((1 * r 1 + 0) + 0) ((1 * r 2 + 0) + 0) 0 ((1 * ((1 * r 6 + 0) + 0) + 0) + 0) 0 ((1 * r 2 + 0) + 0) ∧ ((1 * ((1 * r 7 + 0) + 0) + 0) + 0) = yq_sg ((1 * r 0 + 0) + 0) ((1 * r 1 + 0) + 0) ((1 * r 2 + 0) + 0) 1 ((1 * ((1 * r 7 + 0) + 0) + 0) + 0) 0 1 ∧ ((1 * ((1 * r 8 + 0) + 0) + 0) + 0) = yq_sg ((1 * r 0 + 0) + 0) ((1 * r 1 + 0) + 0) ((1 * r 2 + 0) + 0) 1 ((1 * ((1 * r 8 + 0) + 0) + 0) + 0) ((1 * ((1 * r 8 + 0) + 0) + 0) + 0) ((1 * r 1 + 0) + 0) ∧ ((1 * ((1 * r 9 + 0) + 0) + 0) + 0) = yq_sg ((1 * r 0 + 0) + 0) ((1 * r 1 + 0) + 0) ((1 * r 2 + 0) + 0) 1 ((1 * ((1 * r 9 + 0) + 0) + 0) + 0) 0 ((1 * r 2 + 0) + 0) ∧ ((1 * ((1 * r 10 + 0) + 0) + 0) + 0) = yq_sg ((1 * r 0 + 0) + 0) ((1 * r 1 + 0) + 0) ((1 * r 2 + 0) + 0) 2 ((1 * ((1 * r 10 + 0) + 0) + 0) + 0) 0 1 ∧ ((1 * ((1 * r 11 + 0) + 0) + 0) + 0) = yq_sg ((1 * r 0 + 0) + 0) ((1 * r 1 + 0) + 0) ((1 * r 2 + 0) + 0) 2 ((1 * ((1 * r 11 + 0) + 0) + 0) + 0) ((1 * ((1 * r 11 + 0) + 0) + 0) + 0) ((1 * r 1 + 0) + 0) ∧ ((1 * ((1 * r 12 + 0) + 0) + 0) + 0) = yq_sg ((1 * r 0 + 0) + 0) ((1 * r 1 + 0) + 0) ((1 * r 2 + 0) + 0) 2 ((1 * ((1 * r 12 + 0) + 0) + 0) + 0) 0 ((1 * r 2 + 0) + 0) ∧ ((1 * ((1 * r 13 + 0) + 0) + 0) + 0) = yq_sg ((1 * r 0 + 0) + 0) ((1 * r 1 + 0) + 0) ((1 * r 2 + 0) + 0) 3 ((1 * ((1 * r 13 + 0) + 0) + 0) + 0) 0 1 ∧ ((1 * ((1 * r 14 + 0) + 0) + 0) + 0) = yq_sg ((1 * r 0 + 0) + 0) ((1 * r 1 + 0) + 0) ((1 * r 2 + 0) + 0) 3 ((1 * ((1 * r 14 + 0) + 0) + 0) + 0) ((1 * ((1 * r 14 + 0) + 0) + 0) + 0) ((1 * r 1 + 0) + 0) ∧ ((1 * ((1 * r 15 + 0) + 0) + 0) + 0) = yq_sg ((1 * r 0 + 0) + 0) ((1 * r 1 + 0) + 0) ((1 * r 2 + 0) + 0) 3 ((1 * ((1 * r 15 + 0) + 0) + 0) + 0) 0 ((1 * r 2 + 0) + 0) ∧ (g 3) = yq_sr ((1 * r 0 + 0) + 0) ((1 * r 1 + 0) + 0) ((1 * r 2 + 0) + 0) 0 (g0 3) ∧ (g 5) = yq_sr ((1 * r 0 + 0) + 0) ((1 * r 1 + 0) + 0) ((1 * r 2 + 0) + 0) 1 (g0 5) ∧ (g 7) = yq_sr ((1 * r 0 + 0) + 0) ((1 * r 1 + 0) + 0) ((1 * r 2 + 0) + 0) 2 (g0 7) ∧ (g 9) = yq_sr ((1 * r 0 + 0) + 0) ((1 * r 1 + 0) + 0) ((1 * r 2 + 0) + 0) 3 (g0 9)
  try simp only [Int.one_mul, Int.zero_add, Int.add_zero]
  refine ⟨?_, ?_, ?_, ?_, ?_, ?_, ?_, ?_, ?_, ?_, ?_, ?_, ?_, ?_, ?_, ?_, ?_⟩
  · unfold yq_shr
    repeat' split
    all_goals omega
  · unfold yq_sg
    repeat' split
    all_goals omega
  · unfold yq_sg
    repeat' split
    all_goals omega
  · unfold yq_sg
    repeat' split
    all_goals omega
  · unfold yq_sg
    repeat' split
    all_goals omega
  · unfold yq_sg
    repeat' split
    all_goals omega
  · unfold yq_sg
    repeat' split
    all_goals omega
  · unfold yq_sg
    repeat' split
    all_goals omega
  · unfold yq_sg
    repeat' split
    all_goals omega
  · unfold yq_sg
    repeat' split
    all_goals omega
  · unfold yq_sg
    repeat' split
    all_goals omega
  · unfold yq_sg
    repeat' split
    all_goals omega
  · unfold yq_sg
    repeat' split
    all_goals omega
  · unfold yq_sr
    rw [if_neg (by omega)]
    rw [hgi]
  · unfold yq_sr
    rw [if_neg (by omega)]
    rw [hgi]
  · unfold yq_sr
    rw [if_neg (by omega)]
    rw [hgi]
  · unfold yq_sr
    rw [if_neg (by omega)]
    rw [hgi]
theorem xw_136_0_1 : yt_hold xT_136 xk_136 xq_136.2.2.1 xG_136 xP_136 xU_136 16 xk_136.2.1.2.2.2 (fun g0 r g => xR_136 r g0 ∧ g = g0) (1000, ([(4, 2147483647), ((-2147483648), 2147483647), ((-2147483648), 2147483647), ((-2147483648), 2147483647), (0, 1), ((-2147483648), 2147483647), (0, 100), (0, 1), ((-2147483648), 2147483647), (0, 100), (0, 1), ((-2147483648), 2147483647), (0, 100), (0, 1), ((-2147483648), 2147483647), (0, 100), ((-2147483648), 0)], []), [([], (-1)), ([(16, 1)], 0), ([(4, 1)], 0), ([(5, 1)], 0), ([(6, 1)], 0), ([(7, 1)], 0), ([(8, 1)], 0), ([(9, 1)], 0), ([(10, 1)], 0), ([(11, 1)], 0), ([(12, 1)], 0), ([(13, 1)], 0), ([(14, 1)], 0), ([(15, 1)], 0)], [], []) := by
  intro g0 r gi g hok hh hars hfr hG
  have b0 : 4 ≤ r 0 ∧ r 0 ≤ 2147483647 := hok.1 0 (4, 2147483647) rfl
  have b1 : (-2147483648) ≤ r 1 ∧ r 1 ≤ 2147483647 := hok.1 1 ((-2147483648), 2147483647) rfl
  have b2 : (-2147483648) ≤ r 2 ∧ r 2 ≤ 2147483647 := hok.1 2 ((-2147483648), 2147483647) rfl
  have b16 : (-2147483648) ≤ r 16 ∧ r 16 ≤ 0 := hok.1 16 ((-2147483648), 0) rfl
  obtain ⟨hG, hgi⟩ := hG
  have hG : True := hG
  have hh : g = gi := hh
  subst hh
  refine yt_dalt (by decide) (by decide) ?_
  rw [show xk_136.2.1.2.1.1.length = 16 from rfl]
  show ((0 : Int) + (-1)) = yq_shr ((1 * r 0 + 0) + 0) ((1 * r 1 + 0) + 0) ((1 * r 2 + 0) + 0) ∧ ((1 * ((1 * r 4 + 0) + 0) + 0) + 0) = yq_sg ((1 * r 0 + 0) + 0) ((1 * r 1 + 0) + 0) ((1 * r 2 + 0) + 0) 0 ((1 * ((1 * r 4 + 0) + 0) + 0) + 0) 0 1 ∧ ((1 * ((1 * r 5 + 0) + 0) + 0) + 0) = yq_sg ((1 * r 0 + 0) + 0) ((1 * r 1 + 0) + 0) ((1 * r 2 + 0) + 0) 0 ((1 * ((1 * r 5 + 0) + 0) + 0) + 0) ((1 * ((1 * r 5 + 0) + 0) + 0) + 0) ((1 * r 1 + 0) + 0) ∧ ((1 * ((1 * r 6 + 0) + 0) + 0) + 0) = yq_sg ((1 * r 0 + 0) + 0) ((1 * r 1 + 0) + 0) ((1 * r 2 + 0) + 0) 0 ((1 * ((1 * r 6 + 0) + 0) + 0) + 0) 0 ((1 * r 2 + 0) + 0) ∧ ((1 * ((1 * r 7 + 0) + 0) + 0) + 0) = yq_sg ((1 * r 0 + 0) + 0) ((1 * r 1 + 0) + 0) ((1 * r 2 + 0) + 0) 1 ((1 * ((1 * r 7 + 0) + 0) + 0) + 0) 0 1 ∧ ((1 * ((1 * r 8 + 0) + 0) + 0) + 0) = yq_sg ((1 * r 0 + 0) + 0) ((1 * r 1 + 0) + 0) ((1 * r 2 + 0) + 0) 1 ((1 * ((1 * r 8 + 0) + 0) + 0) + 0) ((1 * ((1 * r 8 + 0) + 0) + 0) + 0) ((1 * r 1 + 0) + 0) ∧ ((1 * ((1 * r 9 + 0) + 0) + 0) + 0) = yq_sg ((1 * r 0 + 0) + 0) ((1 * r 1 + 0) + 0) ((1 * r 2 + 0) + 0) 1 ((1 * ((1 * r 9 + 0) + 0) + 0) + 0) 0 ((1 * r 2 + 0) + 0) ∧ ((1 * ((1 * r 10 + 0) + 0) + 0) + 0) = yq_sg ((1 * r 0 + 0) + 0) ((1 * r 1 + 0) + 0) ((1 * r 2 + 0) + 0) 2 ((1 * ((1 * r 10 + 0) + 0) + 0) + 0) 0 1 ∧ ((1 * ((1 * r 11 + 0) + 0) + 0) + 0) = yq_sg ((1 * r 0 + 0) + 0) ((1 * r 1 + 0) + 0) ((1 * r 2 + 0) + 0) 2 ((1 * ((1 * r 11 + 0) + 0) + 0) + 0) ((1 * ((1 * r 11 + 0) + 0) + 0) + 0) ((1 * r 1 + 0) + 0) ∧ ((1 * ((1 * r 12 + 0) + 0) + 0) + 0) = yq_sg ((1 * r 0 + 0) + 0) ((1 * r 1 + 0) + 0) ((1 * r 2 + 0) + 0) 2 ((1 * ((1 * r 12 + 0) + 0) + 0) + 0) 0 ((1 * r 2 + 0) + 0) ∧ ((1 * ((1 * r 13 + 0) + 0) + 0) + 0) = yq_sg ((1 * r 0 + 0) + 0) ((1 * r 1 + 0) + 0) ((1 * r 2 + 0) + 0) 3 ((1 * ((1 * r 13 + 0) + 0) + 0) + 0) 0 1 ∧ ((1 * ((1 * r 14 + 0) + 0) + 0) + 0) = yq_sg ((1 * r 0 + 0) + 0) ((1 * r 1 + 0) + 0) ((1 * r 2 + 0) + 0) 3 ((1 * ((1 * r 14 + 0) + 0) + 0) + 0) ((1 * ((1 * r 14 + 0) + 0) + 0) + 0) ((1 * r 1 + 0) + 0) ∧ ((1 * ((1 * r 15 + 0) + 0) + 0) + 0) = yq_sg ((1 * r 0 + 0) + 0) ((1 * r 1 + 0) + 0) ((1 * r 2 + 0) + 0) 3 ((1 * ((1 * r 15 + 0) + 0) + 0) + 0) 0 ((1 * r 2 + 0) + 0) ∧ (g 3) = yq_sr ((1 * r 0 + 0) + 0) ((1 * r 1 + 0) + 0) ((1 * r 2 + 0) + 0) 0 (g0 3) ∧ (g 5) = yq_sr ((1 * r 0 + 0) + 0) ((1 * r 1 + 0) + 0) ((1 * r 2 + 0) + 0) 1 (g0 5) ∧ (g 7) = yq_sr ((1 * r 0 + 0) + 0) ((1 * r 1 + 0) + 0) ((1 * r 2 + 0) + 0) 2 (g0 7) ∧ (g 9) = yq_sr ((1 * r 0 + 0) + 0) ((1 * r 1 + 0) + 0) ((1 * r 2 + 0) + 0) 3 (g0 9)
  try simp only [Int.one_mul, Int.zero_add, Int.add_zero]
  refine ⟨?_, ?_, ?_, ?_, ?_, ?_, ?_, ?_, ?_, ?_, ?_, ?_, ?_, ?_, ?_, ?_, ?_⟩
  · unfold yq_shr
    repeat' split
    all_goals omega
  · unfold yq_sg
    repeat' split
    all_goals omega
  · unfold yq_sg
    repeat' split
    all_goals omega
  · unfold yq_sg
    repeat' split
    all_goals omega
  · unfold yq_sg
    repeat' split
    all_goals omega
  · unfold yq_sg
    repeat' split
    all_goals omega
  · unfold yq_sg
    repeat' split
    all_goals omega
  · unfold yq_sg
    repeat' split
    all_goals omega
  · unfold yq_sg
    repeat' split
    all_goals omega
  · unfold yq_sg
    repeat' split
    all_goals omega
  · unfold yq_sg
    repeat' split
    all_goals omega
  · unfold yq_sg
    repeat' split
    all_goals omega
  · unfold yq_sg
    repeat' split
    all_goals omega
  · unfold yq_sr
    rw [if_neg (by omega)]
    rw [hgi]
  · unfold yq_sr
    rw [if_neg (by omega)]
    rw [hgi]
  · unfold yq_sr
    rw [if_neg (by omega)]
    rw [hgi]
  · unfold yq_sr
    rw [if_neg (by omega)]
    rw [hgi]
theorem xw_136_0_2 : yt_hold xT_136 xk_136 xq_136.2.2.1 xG_136 xP_136 xU_136 16 xk_136.2.1.2.2.2 (fun g0 r g => xR_136 r g0 ∧ g = g0) (1000, ([(0, 3), ((-2147483648), (-1)), ((-2147483648), 2147483647), ((-2147483648), 2147483647), (0, 1), ((-2147483648), 2147483647), (0, 100), (0, 1), ((-2147483648), 2147483647), (0, 100), (0, 1), ((-2147483648), 2147483647), (0, 100), (0, 1), ((-2147483648), 2147483647), (0, 100), ((-2147483648), 0)], []), [([], (-1)), ([(16, 1)], 0), ([(4, 1)], 0), ([(5, 1)], 0), ([(6, 1)], 0), ([(7, 1)], 0), ([(8, 1)], 0), ([(9, 1)], 0), ([(10, 1)], 0), ([(11, 1)], 0), ([(12, 1)], 0), ([(13, 1)], 0), ([(14, 1)], 0), ([(15, 1)], 0)], [], []) := by
  intro g0 r gi g hok hh hars hfr hG
  have b0 : 0 ≤ r 0 ∧ r 0 ≤ 3 := hok.1 0 (0, 3) rfl
  have b1 : (-2147483648) ≤ r 1 ∧ r 1 ≤ (-1) := hok.1 1 ((-2147483648), (-1)) rfl
  have b2 : (-2147483648) ≤ r 2 ∧ r 2 ≤ 2147483647 := hok.1 2 ((-2147483648), 2147483647) rfl
  have b16 : (-2147483648) ≤ r 16 ∧ r 16 ≤ 0 := hok.1 16 ((-2147483648), 0) rfl
  obtain ⟨hG, hgi⟩ := hG
  have hG : True := hG
  have hh : g = gi := hh
  subst hh
  refine yt_dalt (by decide) (by decide) ?_
  rw [show xk_136.2.1.2.1.1.length = 16 from rfl]
  show ((0 : Int) + (-1)) = yq_shr ((1 * r 0 + 0) + 0) ((1 * r 1 + 0) + 0) ((1 * r 2 + 0) + 0) ∧ ((1 * ((1 * r 4 + 0) + 0) + 0) + 0) = yq_sg ((1 * r 0 + 0) + 0) ((1 * r 1 + 0) + 0) ((1 * r 2 + 0) + 0) 0 ((1 * ((1 * r 4 + 0) + 0) + 0) + 0) 0 1 ∧ ((1 * ((1 * r 5 + 0) + 0) + 0) + 0) = yq_sg ((1 * r 0 + 0) + 0) ((1 * r 1 + 0) + 0) ((1 * r 2 + 0) + 0) 0 ((1 * ((1 * r 5 + 0) + 0) + 0) + 0) ((1 * ((1 * r 5 + 0) + 0) + 0) + 0) ((1 * r 1 + 0) + 0) ∧ ((1 * ((1 * r 6 + 0) + 0) + 0) + 0) = yq_sg ((1 * r 0 + 0) + 0) ((1 * r 1 + 0) + 0) ((1 * r 2 + 0) + 0) 0 ((1 * ((1 * r 6 + 0) + 0) + 0) + 0) 0 ((1 * r 2 + 0) + 0) ∧ ((1 * ((1 * r 7 + 0) + 0) + 0) + 0) = yq_sg ((1 * r 0 + 0) + 0) ((1 * r 1 + 0) + 0) ((1 * r 2 + 0) + 0) 1 ((1 * ((1 * r 7 + 0) + 0) + 0) + 0) 0 1 ∧ ((1 * ((1 * r 8 + 0) + 0) + 0) + 0) = yq_sg ((1 * r 0 + 0) + 0) ((1 * r 1 + 0) + 0) ((1 * r 2 + 0) + 0) 1 ((1 * ((1 * r 8 + 0) + 0) + 0) + 0) ((1 * ((1 * r 8 + 0) + 0) + 0) + 0) ((1 * r 1 + 0) + 0) ∧ ((1 * ((1 * r 9 + 0) + 0) + 0) + 0) = yq_sg ((1 * r 0 + 0) + 0) ((1 * r 1 + 0) + 0) ((1 * r 2 + 0) + 0) 1 ((1 * ((1 * r 9 + 0) + 0) + 0) + 0) 0 ((1 * r 2 + 0) + 0) ∧ ((1 * ((1 * r 10 + 0) + 0) + 0) + 0) = yq_sg ((1 * r 0 + 0) + 0) ((1 * r 1 + 0) + 0) ((1 * r 2 + 0) + 0) 2 ((1 * ((1 * r 10 + 0) + 0) + 0) + 0) 0 1 ∧ ((1 * ((1 * r 11 + 0) + 0) + 0) + 0) = yq_sg ((1 * r 0 + 0) + 0) ((1 * r 1 + 0) + 0) ((1 * r 2 + 0) + 0) 2 ((1 * ((1 * r 11 + 0) + 0) + 0) + 0) ((1 * ((1 * r 11 + 0) + 0) + 0) + 0) ((1 * r 1 + 0) + 0) ∧ ((1 * ((1 * r 12 + 0) + 0) + 0) + 0) = yq_sg ((1 * r 0 + 0) + 0) ((1 * r 1 + 0) + 0) ((1 * r 2 + 0) + 0) 2 ((1 * ((1 * r 12 + 0) + 0) + 0) + 0) 0 ((1 * r 2 + 0) + 0) ∧ ((1 * ((1 * r 13 + 0) + 0) + 0) + 0) = yq_sg ((1 * r 0 + 0) + 0) ((1 * r 1 + 0) + 0) ((1 * r 2 + 0) + 0) 3 ((1 * ((1 * r 13 + 0) + 0) + 0) + 0) 0 1 ∧ ((1 * ((1 * r 14 + 0) + 0) + 0) + 0) = yq_sg ((1 * r 0 + 0) + 0) ((1 * r 1 + 0) + 0) ((1 * r 2 + 0) + 0) 3 ((1 * ((1 * r 14 + 0) + 0) + 0) + 0) ((1 * ((1 * r 14 + 0) + 0) + 0) + 0) ((1 * r 1 + 0) + 0) ∧ ((1 * ((1 * r 15 + 0) + 0) + 0) + 0) = yq_sg ((1 * r 0 + 0) + 0) ((1 * r 1 + 0) + 0) ((1 * r 2 + 0) + 0) 3 ((1 * ((1 * r 15 + 0) + 0) + 0) + 0) 0 ((1 * r 2 + 0) + 0) ∧ (g 3) = yq_sr ((1 * r 0 + 0) + 0) ((1 * r 1 + 0) + 0) ((1 * r 2 + 0) + 0) 0 (g0 3) ∧ (g 5) = yq_sr ((1 * r 0 + 0) + 0) ((1 * r 1 + 0) + 0) ((1 * r 2 + 0) + 0) 1 (g0 5) ∧ (g 7) = yq_sr ((1 * r 0 + 0) + 0) ((1 * r 1 + 0) + 0) ((1 * r 2 + 0) + 0) 2 (g0 7) ∧ (g 9) = yq_sr ((1 * r 0 + 0) + 0) ((1 * r 1 + 0) + 0) ((1 * r 2 + 0) + 0) 3 (g0 9)
  try simp only [Int.one_mul, Int.zero_add, Int.add_zero]
  refine ⟨?_, ?_, ?_, ?_, ?_, ?_, ?_, ?_, ?_, ?_, ?_, ?_, ?_, ?_, ?_, ?_, ?_⟩
  · unfold yq_shr
    repeat' split
    all_goals omega
  · unfold yq_sg
    repeat' split
    all_goals omega
  · unfold yq_sg
    repeat' split
    all_goals omega
  · unfold yq_sg
    repeat' split
    all_goals omega
  · unfold yq_sg
    repeat' split
    all_goals omega
  · unfold yq_sg
    repeat' split
    all_goals omega
  · unfold yq_sg
    repeat' split
    all_goals omega
  · unfold yq_sg
    repeat' split
    all_goals omega
  · unfold yq_sg
    repeat' split
    all_goals omega
  · unfold yq_sg
    repeat' split
    all_goals omega
  · unfold yq_sg
    repeat' split
    all_goals omega
  · unfold yq_sg
    repeat' split
    all_goals omega
  · unfold yq_sg
    repeat' split
    all_goals omega
  · unfold yq_sr
    rw [if_neg (by omega)]
    rw [hgi]
  · unfold yq_sr
    rw [if_neg (by omega)]
    rw [hgi]
  · unfold yq_sr
    rw [if_neg (by omega)]
    rw [hgi]
  · unfold yq_sr
    rw [if_neg (by omega)]
    rw [hgi]
theorem xw_136_0_3 : yt_hold xT_136 xk_136 xq_136.2.2.1 xG_136 xP_136 xU_136 16 xk_136.2.1.2.2.2 (fun g0 r g => xR_136 r g0 ∧ g = g0) (1000, ([(0, 3), (4, 2147483647), ((-2147483648), 2147483647), ((-2147483648), 2147483647), (0, 1), ((-2147483648), 2147483647), (0, 100), (0, 1), ((-2147483648), 2147483647), (0, 100), (0, 1), ((-2147483648), 2147483647), (0, 100), (0, 1), ((-2147483648), 2147483647), (0, 100), ((-2147483648), 0)], []), [([], (-1)), ([(16, 1)], 0), ([(4, 1)], 0), ([(5, 1)], 0), ([(6, 1)], 0), ([(7, 1)], 0), ([(8, 1)], 0), ([(9, 1)], 0), ([(10, 1)], 0), ([(11, 1)], 0), ([(12, 1)], 0), ([(13, 1)], 0), ([(14, 1)], 0), ([(15, 1)], 0)], [], []) := by
  intro g0 r gi g hok hh hars hfr hG
  have b0 : 0 ≤ r 0 ∧ r 0 ≤ 3 := hok.1 0 (0, 3) rfl
  have b1 : 4 ≤ r 1 ∧ r 1 ≤ 2147483647 := hok.1 1 (4, 2147483647) rfl
  have b2 : (-2147483648) ≤ r 2 ∧ r 2 ≤ 2147483647 := hok.1 2 ((-2147483648), 2147483647) rfl
  have b16 : (-2147483648) ≤ r 16 ∧ r 16 ≤ 0 := hok.1 16 ((-2147483648), 0) rfl
  obtain ⟨hG, hgi⟩ := hG
  have hG : True := hG
  have hh : g = gi := hh
  subst hh
  refine yt_dalt (by decide) (by decide) ?_
  rw [show xk_136.2.1.2.1.1.length = 16 from rfl]
  show ((0 : Int) + (-1)) = yq_shr ((1 * r 0 + 0) + 0) ((1 * r 1 + 0) + 0) ((1 * r 2 + 0) + 0) ∧ ((1 * ((1 * r 4 + 0) + 0) + 0) + 0) = yq_sg ((1 * r 0 + 0) + 0) ((1 * r 1 + 0) + 0) ((1 * r 2 + 0) + 0) 0 ((1 * ((1 * r 4 + 0) + 0) + 0) + 0) 0 1 ∧ ((1 * ((1 * r 5 + 0) + 0) + 0) + 0) = yq_sg ((1 * r 0 + 0) + 0) ((1 * r 1 + 0) + 0) ((1 * r 2 + 0) + 0) 0 ((1 * ((1 * r 5 + 0) + 0) + 0) + 0) ((1 * ((1 * r 5 + 0) + 0) + 0) + 0) ((1 * r 1 + 0) + 0) ∧ ((1 * ((1 * r 6 + 0) + 0) + 0) + 0) = yq_sg ((1 * r 0 + 0) + 0) ((1 * r 1 + 0) + 0) ((1 * r 2 + 0) + 0) 0 ((1 * ((1 * r 6 + 0) + 0) + 0) + 0) 0 ((1 * r 2 + 0) + 0) ∧ ((1 * ((1 * r 7 + 0) + 0) + 0) + 0) = yq_sg ((1 * r 0 + 0) + 0) ((1 * r 1 + 0) + 0) ((1 * r 2 + 0) + 0) 1 ((1 * ((1 * r 7 + 0) + 0) + 0) + 0) 0 1 ∧ ((1 * ((1 * r 8 + 0) + 0) + 0) + 0) = yq_sg ((1 * r 0 + 0) + 0) ((1 * r 1 + 0) + 0) ((1 * r 2 + 0) + 0) 1 ((1 * ((1 * r 8 + 0) + 0) + 0) + 0) ((1 * ((1 * r 8 + 0) + 0) + 0) + 0) ((1 * r 1 + 0) + 0) ∧ ((1 * ((1 * r 9 + 0) + 0) + 0) + 0) = yq_sg ((1 * r 0 + 0) + 0) ((1 * r 1 + 0) + 0) ((1 * r 2 + 0) + 0) 1 ((1 * ((1 * r 9 + 0) + 0) + 0) + 0) 0 ((1 * r 2 + 0) + 0) ∧ ((1 * ((1 * r 10 + 0) + 0) + 0) + 0) = yq_sg ((1 * r 0 + 0) + 0) ((1 * r 1 + 0) + 0) ((1 * r 2 + 0) + 0) 2 ((1 * ((1 * r 10 + 0) + 0) + 0) + 0) 0 1 ∧ ((1 * ((1 * r 11 + 0) + 0) + 0) + 0) = yq_sg ((1 * r 0 + 0) + 0) ((1 * r 1 + 0) + 0) ((1 * r 2 + 0) + 0) 2 ((1 * ((1 * r 11 + 0) + 0) + 0) + 0) ((1 * ((1 * r 11 + 0) + 0) + 0) + 0) ((1 * r 1 + 0) + 0) ∧ ((1 * ((1 * r 12 + 0) + 0) + 0) + 0) = yq_sg ((1 * r 0 + 0) + 0) ((1 * r 1 + 0) + 0) ((1 * r 2 + 0) + 0) 2 ((1 * ((1 * r 12 + 0) + 0) + 0) + 0) 0 ((1 * r 2 + 0) + 0) ∧ ((1 * ((1 * r 13 + 0) + 0) + 0) + 0) = yq_sg ((1 * r 0 + 0) + 0) ((1 * r 1 + 0) + 0) ((1 * r 2 + 0) + 0) 3 ((1 * ((1 * r 13 + 0) + 0) + 0) + 0) 0 1 ∧ ((1 * ((1 * r 14 + 0) + 0) + 0) + 0) = yq_sg ((1 * r 0 + 0) + 0) ((1 * r 1 + 0) + 0) ((1 * r 2 + 0) + 0) 3 ((1 * ((1 * r 14 + 0) + 0) + 0) + 0) ((1 * ((1 * r 14 + 0) + 0) + 0) + 0) ((1 * r 1 + 0) + 0) ∧ ((1 * ((1 * r 15 + 0) + 0) + 0) + 0) = yq_sg ((1 * r 0 + 0) + 0) ((1 * r 1 + 0) + 0) ((1 * r 2 + 0) + 0) 3 ((1 * ((1 * r 15 + 0) + 0) + 0) + 0) 0 ((1 * r 2 + 0) + 0) ∧ (g 3) = yq_sr ((1 * r 0 + 0) + 0) ((1 * r 1 + 0) + 0) ((1 * r 2 + 0) + 0) 0 (g0 3) ∧ (g 5) = yq_sr ((1 * r 0 + 0) + 0) ((1 * r 1 + 0) + 0) ((1 * r 2 + 0) + 0) 1 (g0 5) ∧ (g 7) = yq_sr ((1 * r 0 + 0) + 0) ((1 * r 1 + 0) + 0) ((1 * r 2 + 0) + 0) 2 (g0 7) ∧ (g 9) = yq_sr ((1 * r 0 + 0) + 0) ((1 * r 1 + 0) + 0) ((1 * r 2 + 0) + 0) 3 (g0 9)
  try simp only [Int.one_mul, Int.zero_add, Int.add_zero]
  refine ⟨?_, ?_, ?_, ?_, ?_, ?_, ?_, ?_, ?_, ?_, ?_, ?_, ?_, ?_, ?_, ?_, ?_⟩
  · unfold yq_shr
    repeat' split
    all_goals omega
  · unfold yq_sg
    repeat' split
    all_goals omega
  · unfold yq_sg
    repeat' split
    all_goals omega
  · unfold yq_sg
    repeat' split
    all_goals omega
  · unfold yq_sg
    repeat' split
    all_goals omega
  · unfold yq_sg
    repeat' split
    all_goals omega
  · unfold yq_sg
    repeat' split
    all_goals omega
  · unfold yq_sg
    repeat' split
    all_goals omega
  · unfold yq_sg
    repeat' split
    all_goals omega
  · unfold yq_sg
    repeat' split
    all_goals omega
  · unfold yq_sg
    repeat' split
    all_goals omega
  · unfold yq_sg
    repeat' split
    all_goals omega
  · unfold yq_sg
    repeat' split
    all_goals omega
  · unfold yq_sr
    rw [if_neg (by omega)]
    rw [hgi]
  · unfold yq_sr
    rw [if_neg (by omega)]
    rw [hgi]
  · unfold yq_sr
    rw [if_neg (by omega)]
    rw [hgi]
  · unfold yq_sr
    rw [if_neg (by omega)]
    rw [hgi]
theorem xw_136_0_4 : yt_hold xT_136 xk_136 xq_136.2.2.1 xG_136 xP_136 xU_136 16 xk_136.2.1.2.2.2 (fun g0 r g => xR_136 r g0 ∧ g = g0) (1000, ([(0, 0), (0, 3), (0, 100), ((-2147483648), 2147483647), (0, 1), ((-2147483648), 2147483647), (0, 100), (0, 1), ((-2147483648), 2147483647), (0, 100), (0, 1), ((-2147483648), 2147483647), (0, 100), (0, 1), ((-2147483648), 2147483647), (0, 100), ((-2147483648), 0)], []), [([(2, 1)], 0), ([(16, 1)], 0), ([], 1), ([(1, 1)], 0), ([(2, 1)], 0), ([(7, 1)], 0), ([(8, 1)], 0), ([(9, 1)], 0), ([(10, 1)], 0), ([(11, 1)], 0), ([(12, 1)], 0), ([(13, 1)], 0), ([(14, 1)], 0), ([(15, 1)], 0)], [], [.inr (.inr (.inl (94, 0, [([(1, 1)], 0), ([(2, 1)], 0), ([(4, 1)], 0), ([(5, 1)], 0), ([(6, 1)], 0)], [2, 3], [3])))]) := by
  intro g0 r gi g hok hh hars hfr hG
  have b0 : 0 ≤ r 0 ∧ r 0 ≤ 0 := hok.1 0 (0, 0) rfl
  have b1 : 0 ≤ r 1 ∧ r 1 ≤ 3 := hok.1 1 (0, 3) rfl
  have b2 : 0 ≤ r 2 ∧ r 2 ≤ 100 := hok.1 2 (0, 100) rfl
  have b16 : (-2147483648) ≤ r 16 ∧ r 16 ≤ 0 := hok.1 16 ((-2147483648), 0) rfl
  obtain ⟨hG, hgi⟩ := hG
  have hG : True := hG
  obtain ⟨h0, hh, e0, k0⟩ := hh
  have k0 : ∀ j, j ∉ [3] → g j = h0 j := k0
  have e0 : (g 3) = yq_fl 100 0 (h0 3) := e0
  have hh : h0 = gi := hh
  subst hh
  refine yt_dalt (by decide) (by decide) ?_
  rw [show xk_136.2.1.2.1.1.length = 16 from rfl]
  show ((1 * r 2 + 0) + 0) = yq_shr ((1 * r 0 + 0) + 0) ((1 * r 1 + 0) + 0) ((1 * r 2 + 0) + 0) ∧ ((1 * ((0 : Int) + 1) + 0) + 0) = yq_sg ((1 * r 0 + 0) + 0) ((1 * r 1 + 0) + 0) ((1 * r 2 + 0) + 0) 0 ((1 * ((1 * r 4 + 0) + 0) + 0) + 0) 0 1 ∧ ((1 * ((1 * r 1 + 0) + 0) + 0) + 0) = yq_sg ((1 * r 0 + 0) + 0) ((1 * r 1 + 0) + 0) ((1 * r 2 + 0) + 0) 0 ((1 * ((1 * r 5 + 0) + 0) + 0) + 0) ((1 * ((1 * r 5 + 0) + 0) + 0) + 0) ((1 * r 1 + 0) + 0) ∧ ((1 * ((1 * r 2 + 0) + 0) + 0) + 0) = yq_sg ((1 * r 0 + 0) + 0) ((1 * r 1 + 0) + 0) ((1 * r 2 + 0) + 0) 0 ((1 * ((1 * r 6 + 0) + 0) + 0) + 0) 0 ((1 * r 2 + 0) + 0) ∧ ((1 * ((1 * r 7 + 0) + 0) + 0) + 0) = yq_sg ((1 * r 0 + 0) + 0) ((1 * r 1 + 0) + 0) ((1 * r 2 + 0) + 0) 1 ((1 * ((1 * r 7 + 0) + 0) + 0) + 0) 0 1 ∧ ((1 * ((1 * r 8 + 0) + 0) + 0) + 0) = yq_sg ((1 * r 0 + 0) + 0) ((1 * r 1 + 0) + 0) ((1 * r 2 + 0) + 0) 1 ((1 * ((1 * r 8 + 0) + 0) + 0) + 0) ((1 * ((1 * r 8 + 0) + 0) + 0) + 0) ((1 * r 1 + 0) + 0) ∧ ((1 * ((1 * r 9 + 0) + 0) + 0) + 0) = yq_sg ((1 * r 0 + 0) + 0) ((1 * r 1 + 0) + 0) ((1 * r 2 + 0) + 0) 1 ((1 * ((1 * r 9 + 0) + 0) + 0) + 0) 0 ((1 * r 2 + 0) + 0) ∧ ((1 * ((1 * r 10 + 0) + 0) + 0) + 0) = yq_sg ((1 * r 0 + 0) + 0) ((1 * r 1 + 0) + 0) ((1 * r 2 + 0) + 0) 2 ((1 * ((1 * r 10 + 0) + 0) + 0) + 0) 0 1 ∧ ((1 * ((1 * r 11 + 0) + 0) + 0) + 0) = yq_sg ((1 * r 0 + 0) + 0) ((1 * r 1 + 0) + 0) ((1 * r 2 + 0) + 0) 2 ((1 * ((1 * r 11 + 0) + 0) + 0) + 0) ((1 * ((1 * r 11 + 0) + 0) + 0) + 0) ((1 * r 1 + 0) + 0) ∧ ((1 * ((1 * r 12 + 0) + 0) + 0) + 0) = yq_sg ((1 * r 0 + 0) + 0) ((1 * r 1 + 0) + 0) ((1 * r 2 + 0) + 0) 2 ((1 * ((1 * r 12 + 0) + 0) + 0) + 0) 0 ((1 * r 2 + 0) + 0) ∧ ((1 * ((1 * r 13 + 0) + 0) + 0) + 0) = yq_sg ((1 * r 0 + 0) + 0) ((1 * r 1 + 0) + 0) ((1 * r 2 + 0) + 0) 3 ((1 * ((1 * r 13 + 0) + 0) + 0) + 0) 0 1 ∧ ((1 * ((1 * r 14 + 0) + 0) + 0) + 0) = yq_sg ((1 * r 0 + 0) + 0) ((1 * r 1 + 0) + 0) ((1 * r 2 + 0) + 0) 3 ((1 * ((1 * r 14 + 0) + 0) + 0) + 0) ((1 * ((1 * r 14 + 0) + 0) + 0) + 0) ((1 * r 1 + 0) + 0) ∧ ((1 * ((1 * r 15 + 0) + 0) + 0) + 0) = yq_sg ((1 * r 0 + 0) + 0) ((1 * r 1 + 0) + 0) ((1 * r 2 + 0) + 0) 3 ((1 * ((1 * r 15 + 0) + 0) + 0) + 0) 0 ((1 * r 2 + 0) + 0) ∧ (g 3) = yq_sr ((1 * r 0 + 0) + 0) ((1 * r 1 + 0) + 0) ((1 * r 2 + 0) + 0) 0 (g0 3) ∧ (g 5) = yq_sr ((1 * r 0 + 0) + 0) ((1 * r 1 + 0) + 0) ((1 * r 2 + 0) + 0) 1 (g0 5) ∧ (g 7) = yq_sr ((1 * r 0 + 0) + 0) ((1 * r 1 + 0) + 0) ((1 * r 2 + 0) + 0) 2 (g0 7) ∧ (g 9) = yq_sr ((1 * r 0 + 0) + 0) ((1 * r 1 + 0) + 0) ((1 * r 2 + 0) + 0) 3 (g0 9)
  try simp only [Int.one_mul, Int.zero_add, Int.add_zero]
  try simp only [Int.one_mul, Int.zero_add, Int.add_zero] at e0
  refine ⟨?_, ?_, ?_, ?_, ?_, ?_, ?_, ?_, ?_, ?_, ?_, ?_, ?_, ?_, ?_, ?_, ?_⟩
  · unfold yq_shr
    repeat' split
    all_goals omega
  · unfold yq_sg
    repeat' split
    all_goals omega
  · unfold yq_sg
    repeat' split
    all_goals omega
  · unfold yq_sg
    repeat' split
    all_goals omega
  · unfold yq_sg
    repeat' split
    all_goals omega
  · unfold yq_sg
    repeat' split
    all_goals omega
  · unfold yq_sg
    repeat' split
    all_goals omega
  · unfold yq_sg
    repeat' split
    all_goals omega
  · unfold yq_sg
    repeat' split
    all_goals omega
  · unfold yq_sg
    repeat' split
    all_goals omega
  · unfold yq_sg
    repeat' split
    all_goals omega
  · unfold yq_sg
    repeat' split
    all_goals omega
  · unfold yq_sg
    repeat' split
    all_goals omega
  · unfold yq_sr
    rw [if_pos (by omega), e0, hgi]
  · unfold yq_sr
    rw [if_neg (by omega)]
    rw [k0 5 (by decide), hgi]
  · unfold yq_sr
    rw [if_neg (by omega)]
    rw [k0 7 (by decide), hgi]
  · unfold yq_sr
    rw [if_neg (by omega)]
    rw [k0 9 (by decide), hgi]
theorem xw_136_0_5 : yt_hold xT_136 xk_136 xq_136.2.2.1 xG_136 xP_136 xU_136 16 xk_136.2.1.2.2.2 (fun g0 r g => xR_136 r g0 ∧ g = g0) (1000, ([(1, 1), (0, 3), (0, 100), ((-2147483648), 2147483647), (0, 1), ((-2147483648), 2147483647), (0, 100), (0, 1), ((-2147483648), 2147483647), (0, 100), (0, 1), ((-2147483648), 2147483647), (0, 100), (0, 1), ((-2147483648), 2147483647), (0, 100), ((-2147483648), 0)], []), [([(2, 1)], 0), ([(16, 1)], 0), ([(4, 1)], 0), ([(5, 1)], 0), ([(6, 1)], 0), ([], 1), ([(1, 1)], 0), ([(2, 1)], 0), ([(10, 1)], 0), ([(11, 1)], 0), ([(12, 1)], 0), ([(13, 1)], 0), ([(14, 1)], 0), ([(15, 1)], 0)], [], [.inr (.inr (.inl (94, 0, [([(1, 1)], 0), ([(2, 1)], 0), ([(7, 1)], 0), ([(8, 1)], 0), ([(9, 1)], 0)], [4, 5], [5])))]) := by
  intro g0 r gi g hok hh hars hfr hG
  have b0 : 1 ≤ r 0 ∧ r 0 ≤ 1 := hok.1 0 (1, 1) rfl
  have b1 : 0 ≤ r 1 ∧ r 1 ≤ 3 := hok.1 1 (0, 3) rfl
  have b2 : 0 ≤ r 2 ∧ r 2 ≤ 100 := hok.1 2 (0, 100) rfl
  have b16 : (-2147483648) ≤ r 16 ∧ r 16 ≤ 0 := hok.1 16 ((-2147483648), 0) rfl
  obtain ⟨hG, hgi⟩ := hG
  have hG : True := hG
  obtain ⟨h0, hh, e0, k0⟩ := hh
  have k0 : ∀ j, j ∉ [5] → g j = h0 j := k0
  have e0 : (g 5) = yq_fl 100 0 (h0 5) := e0
  have hh : h0 = gi := hh
  subst hh
  refine yt_dalt (by decide) (by decide) ?_
  rw [show xk_136.2.1.2.1.1.length = 16 from rfl]
  show ((1 * r 2 + 0) + 0) = yq_shr ((1 * r 0 + 0) + 0) ((1 * r 1 + 0) + 0) ((1 * r 2 + 0) + 0) ∧ ((1 * ((1 * r 4 + 0) + 0) + 0) + 0) = yq_sg ((1 * r 0 + 0) + 0) ((1 * r 1 + 0) + 0) ((1 * r 2 + 0) + 0) 0 ((1 * ((1 * r 4 + 0) + 0) + 0) + 0) 0 1 ∧ ((1 * ((1 * r 5 + 0) + 0) + 0) + 0) = yq_sg ((1 * r 0 + 0) + 0) ((1 * r 1 + 0) + 0) ((1 * r 2 + 0) + 0) 0 ((1 * ((1 * r 5 + 0) + 0) + 0) + 0) ((1 * ((1 * r 5 + 0) + 0) + 0) + 0) ((1 * r 1 + 0) + 0) ∧ ((1 * ((1 * r 6 + 0) + 0) + 0) + 0) = yq_sg ((1 * r 0 + 0) + 0) ((1 * r 1 + 0) + 0) ((1 * r 2 + 0) + 0) 0 ((1 * ((1 * r 6 + 0) + 0) + 0) + 0) 0 ((1 * r 2 + 0) + 0) ∧ ((1 * ((0 : Int) + 1) + 0) + 0) = yq_sg ((1 * r 0 + 0) + 0) ((1 * r 1 + 0) + 0) ((1 * r 2 + 0) + 0) 1 ((1 * ((1 * r 7 + 0) + 0) + 0) + 0) 0 1 ∧ ((1 * ((1 * r 1 + 0) + 0) + 0) + 0) = yq_sg ((1 * r 0 + 0) + 0) ((1 * r 1 + 0) + 0) ((1 * r 2 + 0) + 0) 1 ((1 * ((1 * r 8 + 0) + 0) + 0) + 0) ((1 * ((1 * r 8 + 0) + 0) + 0) + 0) ((1 * r 1 + 0) + 0) ∧ ((1 * ((1 * r 2 + 0) + 0) + 0) + 0) = yq_sg ((1 * r 0 + 0) + 0) ((1 * r 1 + 0) + 0) ((1 * r 2 + 0) + 0) 1 ((1 * ((1 * r 9 + 0) + 0) + 0) + 0) 0 ((1 * r 2 + 0) + 0) ∧ ((1 * ((1 * r 10 + 0) + 0) + 0) + 0) = yq_sg ((1 * r 0 + 0) + 0) ((1 * r 1 + 0) + 0) ((1 * r 2 + 0) + 0) 2 ((1 * ((1 * r 10 + 0) + 0) + 0) + 0) 0 1 ∧ ((1 * ((1 * r 11 + 0) + 0) + 0) + 0) = yq_sg ((1 * r 0 + 0) + 0) ((1 * r 1 + 0) + 0) ((1 * r 2 + 0) + 0) 2 ((1 * ((1 * r 11 + 0) + 0) + 0) + 0) ((1 * ((1 * r 11 + 0) + 0) + 0) + 0) ((1 * r 1 + 0) + 0) ∧ ((1 * ((1 * r 12 + 0) + 0) + 0) + 0) = yq_sg ((1 * r 0 + 0) + 0) ((1 * r 1 + 0) + 0) ((1 * r 2 + 0) + 0) 2 ((1 * ((1 * r 12 + 0) + 0) + 0) + 0) 0 ((1 * r 2 + 0) + 0) ∧ ((1 * ((1 * r 13 + 0) + 0) + 0) + 0) = yq_sg ((1 * r 0 + 0) + 0) ((1 * r 1 + 0) + 0) ((1 * r 2 + 0) + 0) 3 ((1 * ((1 * r 13 + 0) + 0) + 0) + 0) 0 1 ∧ ((1 * ((1 * r 14 + 0) + 0) + 0) + 0) = yq_sg ((1 * r 0 + 0) + 0) ((1 * r 1 + 0) + 0) ((1 * r 2 + 0) + 0) 3 ((1 * ((1 * r 14 + 0) + 0) + 0) + 0) ((1 * ((1 * r 14 + 0) + 0) + 0) + 0) ((1 * r 1 + 0) + 0) ∧ ((1 * ((1 * r 15 + 0) + 0) + 0) + 0) = yq_sg ((1 * r 0 + 0) + 0) ((1 * r 1 + 0) + 0) ((1 * r 2 + 0) + 0) 3 ((1 * ((1 * r 15 + 0) + 0) + 0) + 0) 0 ((1 * r 2 + 0) + 0) ∧ (g 3) = yq_sr ((1 * r 0 + 0) + 0) ((1 * r 1 + 0) + 0) ((1 * r 2 + 0) + 0) 0 (g0 3) ∧ (g 5) = yq_sr ((1 * r 0 + 0) + 0) ((1 * r 1 + 0) + 0) ((1 * r 2 + 0) + 0) 1 (g0 5) ∧ (g 7) = yq_sr ((1 * r 0 + 0) + 0) ((1 * r 1 + 0) + 0) ((1 * r 2 + 0) + 0) 2 (g0 7) ∧ (g 9) = yq_sr ((1 * r 0 + 0) + 0) ((1 * r 1 + 0) + 0) ((1 * r 2 + 0) + 0) 3 (g0 9)
  try simp only [Int.one_mul, Int.zero_add, Int.add_zero]
  try simp only [Int.one_mul, Int.zero_add, Int.add_zero] at e0
  refine ⟨?_, ?_, ?_, ?_, ?_, ?_, ?_, ?_, ?_, ?_, ?_, ?_, ?_, ?_, ?_, ?_, ?_⟩
  · unfold yq_shr
    repeat' split
    all_goals omega
  · unfold yq_sg
    repeat' split
    all_goals omega
  · unfold yq_sg
    repeat' split
    all_goals omega
  · unfold yq_sg
    repeat' split
    all_goals omega
  · unfold yq_sg
    repeat' split
    all_goals omega
  · unfold yq_sg
    repeat' split
    all_goals omega
  · unfold yq_sg
    repeat' split
    all_goals omega
  · unfold yq_sg
    repeat' split
    all_goals omega
  · unfold yq_sg
    repeat' split
    all_goals omega
  · unfold yq_sg
    repeat' split
    all_goals omega
  · unfold yq_sg
    repeat' split
    all_goals omega
  · unfold yq_sg
    repeat' split
    all_goals omega
  · unfold yq_sg
    repeat' split
    all_goals omega
  · unfold yq_sr
    rw [if_neg (by omega)]
    rw [k0 3 (by decide), hgi]
  · unfold yq_sr
    rw [if_pos (by omega), e0, hgi]
  · unfold yq_sr
    rw [if_neg (by omega)]
    rw [k0 7 (by decide), hgi]
  · unfold yq_sr
    rw [if_neg (by omega)]
    rw [k0 9 (by decide), hgi]
theorem xw_136_0_6 : yt_hold xT_136 xk_136 xq_136.2.2.1 xG_136 xP_136 xU_136 16 xk_136.2.1.2.2.2 (fun g0 r g => xR_136 r g0 ∧ g = g0) (1000, ([(2, 2), (0, 3), (0, 100), ((-2147483648), 2147483647), (0, 1), ((-2147483648), 2147483647), (0, 100), (0, 1), ((-2147483648), 2147483647), (0, 100), (0, 1), ((-2147483648), 2147483647), (0, 100), (0, 1), ((-2147483648), 2147483647), (0, 100), ((-2147483648), 0)], []), [([(2, 1)], 0), ([(16, 1)], 0), ([(4, 1)], 0), ([(5, 1)], 0), ([(6, 1)], 0), ([(7, 1)], 0), ([(8, 1)], 0), ([(9, 1)], 0), ([], 1), ([(1, 1)], 0), ([(2, 1)], 0), ([(13, 1)], 0), ([(14, 1)], 0), ([(15, 1)], 0)], [], [.inr (.inr (.inl (94, 0, [([(1, 1)], 0), ([(2, 1)], 0), ([(10, 1)], 0), ([(11, 1)], 0), ([(12, 1)], 0)], [6, 7], [7])))]) := by
  intro g0 r gi g hok hh hars hfr hG
  have b0 : 2 ≤ r 0 ∧ r 0 ≤ 2 := hok.1 0 (2, 2) rfl
  have b1 : 0 ≤ r 1 ∧ r 1 ≤ 3 := hok.1 1 (0, 3) rfl
  have b2 : 0 ≤ r 2 ∧ r 2 ≤ 100 := hok.1 2 (0, 100) rfl
  have b16 : (-2147483648) ≤ r 16 ∧ r 16 ≤ 0 := hok.1 16 ((-2147483648), 0) rfl
  obtain ⟨hG, hgi⟩ := hG
  have hG : True := hG
  obtain ⟨h0, hh, e0, k0⟩ := hh
  have k0 : ∀ j, j ∉ [7] → g j = h0 j := k0
  have e0 : (g 7) = yq_fl 100 0 (h0 7) := e0
  have hh : h0 = gi := hh
  subst hh
  refine yt_dalt (by decide) (by decide) ?_
  rw [show xk_136.2.1.2.1.1.length = 16 from rfl]
  show ((1 * r 2 + 0) + 0) = yq_shr ((1 * r 0 + 0) + 0) ((1 * r 1 + 0) + 0) ((1 * r 2 + 0) + 0) ∧ ((1 * ((1 * r 4 + 0) + 0) + 0) + 0) = yq_sg ((1 * r 0 + 0) + 0) ((1 * r 1 + 0) + 0) ((1 * r 2 + 0) + 0) 0 ((1 * ((1 * r 4 + 0) + 0) + 0) + 0) 0 1 ∧ ((1 * ((1 * r 5 + 0) + 0) + 0) + 0) = yq_sg ((1 * r 0 + 0) + 0) ((1 * r 1 + 0) + 0) ((1 * r 2 + 0) + 0) 0 ((1 * ((1 * r 5 + 0) + 0) + 0) + 0) ((1 * ((1 * r 5 + 0) + 0) + 0) + 0) ((1 * r 1 + 0) + 0) ∧ ((1 * ((1 * r 6 + 0) + 0) + 0) + 0) = yq_sg ((1 * r 0 + 0) + 0) ((1 * r 1 + 0) + 0) ((1 * r 2 + 0) + 0) 0 ((1 * ((1 * r 6 + 0) + 0) + 0) + 0) 0 ((1 * r 2 + 0) + 0) ∧ ((1 * ((1 * r 7 + 0) + 0) + 0) + 0) = yq_sg ((1 * r 0 + 0) + 0) ((1 * r 1 + 0) + 0) ((1 * r 2 + 0) + 0) 1 ((1 * ((1 * r 7 + 0) + 0) + 0) + 0) 0 1 ∧ ((1 * ((1 * r 8 + 0) + 0) + 0) + 0) = yq_sg ((1 * r 0 + 0) + 0) ((1 * r 1 + 0) + 0) ((1 * r 2 + 0) + 0) 1 ((1 * ((1 * r 8 + 0) + 0) + 0) + 0) ((1 * ((1 * r 8 + 0) + 0) + 0) + 0) ((1 * r 1 + 0) + 0) ∧ ((1 * ((1 * r 9 + 0) + 0) + 0) + 0) = yq_sg ((1 * r 0 + 0) + 0) ((1 * r 1 + 0) + 0) ((1 * r 2 + 0) + 0) 1 ((1 * ((1 * r 9 + 0) + 0) + 0) + 0) 0 ((1 * r 2 + 0) + 0) ∧ ((1 * ((0 : Int) + 1) + 0) + 0) = yq_sg ((1 * r 0 + 0) + 0) ((1 * r 1 + 0) + 0) ((1 * r 2 + 0) + 0) 2 ((1 * ((1 * r 10 + 0) + 0) + 0) + 0) 0 1 ∧ ((1 * ((1 * r 1 + 0) + 0) + 0) + 0) = yq_sg ((1 * r 0 + 0) + 0) ((1 * r 1 + 0) + 0) ((1 * r 2 + 0) + 0) 2 ((1 * ((1 * r 11 + 0) + 0) + 0) + 0) ((1 * ((1 * r 11 + 0) + 0) + 0) + 0) ((1 * r 1 + 0) + 0) ∧ ((1 * ((1 * r 2 + 0) + 0) + 0) + 0) = yq_sg ((1 * r 0 + 0) + 0) ((1 * r 1 + 0) + 0) ((1 * r 2 + 0) + 0) 2 ((1 * ((1 * r 12 + 0) + 0) + 0) + 0) 0 ((1 * r 2 + 0) + 0) ∧ ((1 * ((1 * r 13 + 0) + 0) + 0) + 0) = yq_sg ((1 * r 0 + 0) + 0) ((1 * r 1 + 0) + 0) ((1 * r 2 + 0) + 0) 3 ((1 * ((1 * r 13 + 0) + 0) + 0) + 0) 0 1 ∧ ((1 * ((1 * r 14 + 0) + 0) + 0) + 0) = yq_sg ((1 * r 0 + 0) + 0) ((1 * r 1 + 0) + 0) ((1 * r 2 + 0) + 0) 3 ((1 * ((1 * r 14 + 0) + 0) + 0) + 0) ((1 * ((1 * r 14 + 0) + 0) + 0) + 0) ((1 * r 1 + 0) + 0) ∧ ((1 * ((1 * r 15 + 0) + 0) + 0) + 0) = yq_sg ((1 * r 0 + 0) + 0) ((1 * r 1 + 0) + 0) ((1 * r 2 + 0) + 0) 3 ((1 * ((1 * r 15 + 0) + 0) + 0) + 0) 0 ((1 * r 2 + 0) + 0) ∧ (g 3) = yq_sr ((1 * r 0 + 0) + 0) ((1 * r 1 + 0) + 0) ((1 * r 2 + 0) + 0) 0 (g0 3) ∧ (g 5) = yq_sr ((1 * r 0 + 0) + 0) ((1 * r 1 + 0) + 0) ((1 * r 2 + 0) + 0) 1 (g0 5) ∧ (g 7) = yq_sr ((1 * r 0 + 0) + 0) ((1 * r 1 + 0) + 0) ((1 * r 2 + 0) + 0) 2 (g0 7) ∧ (g 9) = yq_sr ((1 * r 0 + 0) + 0) ((1 * r 1 + 0) + 0) ((1 * r 2 + 0) + 0) 3 (g0 9)
  try simp only [Int.one_mul, Int.zero_add, Int.add_zero]
  try simp only [Int.one_mul, Int.zero_add, Int.add_zero] at e0
  refine ⟨?_, ?_, ?_, ?_, ?_, ?_, ?_, ?_, ?_, ?_, ?_, ?_, ?_, ?_, ?_, ?_, ?_⟩
  · unfold yq_shr
    repeat' split
    all_goals omega
  · unfold yq_sg
    repeat' split
    all_goals omega
  · unfold yq_sg
    repeat' split
    all_goals omega
  · unfold yq_sg
    repeat' split
    all_goals omega
  · unfold yq_sg
    repeat' split
    all_goals omega
  · unfold yq_sg
    repeat' split
    all_goals omega
  · unfold yq_sg
    repeat' split
    all_goals omega
  · unfold yq_sg
    repeat' split
    all_goals omega
  · unfold yq_sg
    repeat' split
    all_goals omega
  · unfold yq_sg
    repeat' split
    all_goals omega
  · unfold yq_sg
    repeat' split
    all_goals omega
  · unfold yq_sg
    repeat' split
    all_goals omega
  · unfold yq_sg
    repeat' split
    all_goals omega
  · unfold yq_sr
    rw [if_neg (by omega)]
    rw [k0 3 (by decide), hgi]
  · unfold yq_sr
    rw [if_neg (by omega)]
    rw [k0 5 (by decide), hgi]
  · unfold yq_sr
    rw [if_pos (by omega), e0, hgi]
  · unfold yq_sr
    rw [if_neg (by omega)]
    rw [k0 9 (by decide), hgi]
theorem xw_136_0_7 : yt_hold xT_136 xk_136 xq_136.2.2.1 xG_136 xP_136 xU_136 16 xk_136.2.1.2.2.2 (fun g0 r g => xR_136 r g0 ∧ g = g0) (1000, ([(3, 3), (0, 3), (0, 100), ((-2147483648), 2147483647), (0, 1), ((-2147483648), 2147483647), (0, 100), (0, 1), ((-2147483648), 2147483647), (0, 100), (0, 1), ((-2147483648), 2147483647), (0, 100), (0, 1), ((-2147483648), 2147483647), (0, 100), ((-2147483648), 0)], []), [([(2, 1)], 0), ([(16, 1)], 0), ([(4, 1)], 0), ([(5, 1)], 0), ([(6, 1)], 0), ([(7, 1)], 0), ([(8, 1)], 0), ([(9, 1)], 0), ([(10, 1)], 0), ([(11, 1)], 0), ([(12, 1)], 0), ([], 1), ([(1, 1)], 0), ([(2, 1)], 0)], [], [.inr (.inr (.inl (94, 0, [([(1, 1)], 0), ([(2, 1)], 0), ([(13, 1)], 0), ([(14, 1)], 0), ([(15, 1)], 0)], [8, 9], [9])))]) := by
  intro g0 r gi g hok hh hars hfr hG
  have b0 : 3 ≤ r 0 ∧ r 0 ≤ 3 := hok.1 0 (3, 3) rfl
  have b1 : 0 ≤ r 1 ∧ r 1 ≤ 3 := hok.1 1 (0, 3) rfl
  have b2 : 0 ≤ r 2 ∧ r 2 ≤ 100 := hok.1 2 (0, 100) rfl
  have b16 : (-2147483648) ≤ r 16 ∧ r 16 ≤ 0 := hok.1 16 ((-2147483648), 0) rfl
  obtain ⟨hG, hgi⟩ := hG
  have hG : True := hG
  obtain ⟨h0, hh, e0, k0⟩ := hh
  have k0 : ∀ j, j ∉ [9] → g j = h0 j := k0
  have e0 : (g 9) = yq_fl 100 0 (h0 9) := e0
  have hh : h0 = gi := hh
  subst hh
  refine yt_dalt (by decide) (by decide) ?_
  rw [show xk_136.2.1.2.1.1.length = 16 from rfl]
  show ((1 * r 2 + 0) + 0) = yq_shr ((1 * r 0 + 0) + 0) ((1 * r 1 + 0) + 0) ((1 * r 2 + 0) + 0) ∧ ((1 * ((1 * r 4 + 0) + 0) + 0) + 0) = yq_sg ((1 * r 0 + 0) + 0) ((1 * r 1 + 0) + 0) ((1 * r 2 + 0) + 0) 0 ((1 * ((1 * r 4 + 0) + 0) + 0) + 0) 0 1 ∧ ((1 * ((1 * r 5 + 0) + 0) + 0) + 0) = yq_sg ((1 * r 0 + 0) + 0) ((1 * r 1 + 0) + 0) ((1 * r 2 + 0) + 0) 0 ((1 * ((1 * r 5 + 0) + 0) + 0) + 0) ((1 * ((1 * r 5 + 0) + 0) + 0) + 0) ((1 * r 1 + 0) + 0) ∧ ((1 * ((1 * r 6 + 0) + 0) + 0) + 0) = yq_sg ((1 * r 0 + 0) + 0) ((1 * r 1 + 0) + 0) ((1 * r 2 + 0) + 0) 0 ((1 * ((1 * r 6 + 0) + 0) + 0) + 0) 0 ((1 * r 2 + 0) + 0) ∧ ((1 * ((1 * r 7 + 0) + 0) + 0) + 0) = yq_sg ((1 * r 0 + 0) + 0) ((1 * r 1 + 0) + 0) ((1 * r 2 + 0) + 0) 1 ((1 * ((1 * r 7 + 0) + 0) + 0) + 0) 0 1 ∧ ((1 * ((1 * r 8 + 0) + 0) + 0) + 0) = yq_sg ((1 * r 0 + 0) + 0) ((1 * r 1 + 0) + 0) ((1 * r 2 + 0) + 0) 1 ((1 * ((1 * r 8 + 0) + 0) + 0) + 0) ((1 * ((1 * r 8 + 0) + 0) + 0) + 0) ((1 * r 1 + 0) + 0) ∧ ((1 * ((1 * r 9 + 0) + 0) + 0) + 0) = yq_sg ((1 * r 0 + 0) + 0) ((1 * r 1 + 0) + 0) ((1 * r 2 + 0) + 0) 1 ((1 * ((1 * r 9 + 0) + 0) + 0) + 0) 0 ((1 * r 2 + 0) + 0) ∧ ((1 * ((1 * r 10 + 0) + 0) + 0) + 0) = yq_sg ((1 * r 0 + 0) + 0) ((1 * r 1 + 0) + 0) ((1 * r 2 + 0) + 0) 2 ((1 * ((1 * r 10 + 0) + 0) + 0) + 0) 0 1 ∧ ((1 * ((1 * r 11 + 0) + 0) + 0) + 0) = yq_sg ((1 * r 0 + 0) + 0) ((1 * r 1 + 0) + 0) ((1 * r 2 + 0) + 0) 2 ((1 * ((1 * r 11 + 0) + 0) + 0) + 0) ((1 * ((1 * r 11 + 0) + 0) + 0) + 0) ((1 * r 1 + 0) + 0) ∧ ((1 * ((1 * r 12 + 0) + 0) + 0) + 0) = yq_sg ((1 * r 0 + 0) + 0) ((1 * r 1 + 0) + 0) ((1 * r 2 + 0) + 0) 2 ((1 * ((1 * r 12 + 0) + 0) + 0) + 0) 0 ((1 * r 2 + 0) + 0) ∧ ((1 * ((0 : Int) + 1) + 0) + 0) = yq_sg ((1 * r 0 + 0) + 0) ((1 * r 1 + 0) + 0) ((1 * r 2 + 0) + 0) 3 ((1 * ((1 * r 13 + 0) + 0) + 0) + 0) 0 1 ∧ ((1 * ((1 * r 1 + 0) + 0) + 0) + 0) = yq_sg ((1 * r 0 + 0) + 0) ((1 * r 1 + 0) + 0) ((1 * r 2 + 0) + 0) 3 ((1 * ((1 * r 14 + 0) + 0) + 0) + 0) ((1 * ((1 * r 14 + 0) + 0) + 0) + 0) ((1 * r 1 + 0) + 0) ∧ ((1 * ((1 * r 2 + 0) + 0) + 0) + 0) = yq_sg ((1 * r 0 + 0) + 0) ((1 * r 1 + 0) + 0) ((1 * r 2 + 0) + 0) 3 ((1 * ((1 * r 15 + 0) + 0) + 0) + 0) 0 ((1 * r 2 + 0) + 0) ∧ (g 3) = yq_sr ((1 * r 0 + 0) + 0) ((1 * r 1 + 0) + 0) ((1 * r 2 + 0) + 0) 0 (g0 3) ∧ (g 5) = yq_sr ((1 * r 0 + 0) + 0) ((1 * r 1 + 0) + 0) ((1 * r 2 + 0) + 0) 1 (g0 5) ∧ (g 7) = yq_sr ((1 * r 0 + 0) + 0) ((1 * r 1 + 0) + 0) ((1 * r 2 + 0) + 0) 2 (g0 7) ∧ (g 9) = yq_sr ((1 * r 0 + 0) + 0) ((1 * r 1 + 0) + 0) ((1 * r 2 + 0) + 0) 3 (g0 9)
  try simp only [Int.one_mul, Int.zero_add, Int.add_zero]
  try simp only [Int.one_mul, Int.zero_add, Int.add_zero] at e0
  refine ⟨?_, ?_, ?_, ?_, ?_, ?_, ?_, ?_, ?_, ?_, ?_, ?_, ?_, ?_, ?_, ?_, ?_⟩
  · unfold yq_shr
    repeat' split
    all_goals omega
  · unfold yq_sg
    repeat' split
    all_goals omega
  · unfold yq_sg
    repeat' split
    all_goals omega
  · unfold yq_sg
    repeat' split
    all_goals omega
  · unfold yq_sg
    repeat' split
    all_goals omega
  · unfold yq_sg
    repeat' split
    all_goals omega
  · unfold yq_sg
    repeat' split
    all_goals omega
  · unfold yq_sg
    repeat' split
    all_goals omega
  · unfold yq_sg
    repeat' split
    all_goals omega
  · unfold yq_sg
    repeat' split
    all_goals omega
  · unfold yq_sg
    repeat' split
    all_goals omega
  · unfold yq_sg
    repeat' split
    all_goals omega
  · unfold yq_sg
    repeat' split
    all_goals omega
  · unfold yq_sr
    rw [if_neg (by omega)]
    rw [k0 3 (by decide), hgi]
  · unfold yq_sr
    rw [if_neg (by omega)]
    rw [k0 5 (by decide), hgi]
  · unfold yq_sr
    rw [if_neg (by omega)]
    rw [k0 7 (by decide), hgi]
  · unfold yq_sr
    rw [if_pos (by omega), e0, hgi]
theorem xw_136_0_8 : yt_hold xT_136 xk_136 xq_136.2.2.1 xG_136 xP_136 xU_136 16 xk_136.2.1.2.2.2 (fun g0 r g => xR_136 r g0 ∧ g = g0) (1000, ([(0, 0), (0, 3), ((-2147483648), (-1)), ((-2147483648), 2147483647), (0, 1), ((-2147483648), 2147483647), (0, 100), (0, 1), ((-2147483648), 2147483647), (0, 100), (0, 1), ((-2147483648), 2147483647), (0, 100), (0, 1), ((-2147483648), 2147483647), (0, 100), ((-2147483648), 0)], []), [([], (-4)), ([(16, 1)], 0), ([], 0), ([(5, 1)], 0), ([], 0), ([(7, 1)], 0), ([(8, 1)], 0), ([(9, 1)], 0), ([(10, 1)], 0), ([(11, 1)], 0), ([(12, 1)], 0), ([(13, 1)], 0), ([(14, 1)], 0), ([(15, 1)], 0)], [], []) := by
  intro g0 r gi g hok hh hars hfr hG
  have b0 : 0 ≤ r 0 ∧ r 0 ≤ 0 := hok.1 0 (0, 0) rfl
  have b1 : 0 ≤ r 1 ∧ r 1 ≤ 3 := hok.1 1 (0, 3) rfl
  have b2 : (-2147483648) ≤ r 2 ∧ r 2 ≤ (-1) := hok.1 2 ((-2147483648), (-1)) rfl
  have b16 : (-2147483648) ≤ r 16 ∧ r 16 ≤ 0 := hok.1 16 ((-2147483648), 0) rfl
  obtain ⟨hG, hgi⟩ := hG
  have hG : True := hG
  have hh : g = gi := hh
  subst hh
  refine yt_dalt (by decide) (by decide) ?_
  rw [show xk_136.2.1.2.1.1.length = 16 from rfl]
  show ((0 : Int) + (-4)) = yq_shr ((1 * r 0 + 0) + 0) ((1 * r 1 + 0) + 0) ((1 * r 2 + 0) + 0) ∧ ((1 * ((0 : Int) + 0) + 0) + 0) = yq_sg ((1 * r 0 + 0) + 0) ((1 * r 1 + 0) + 0) ((1 * r 2 + 0) + 0) 0 ((1 * ((1 * r 4 + 0) + 0) + 0) + 0) 0 1 ∧ ((1 * ((1 * r 5 + 0) + 0) + 0) + 0) = yq_sg ((1 * r 0 + 0) + 0) ((1 * r 1 + 0) + 0) ((1 * r 2 + 0) + 0) 0 ((1 * ((1 * r 5 + 0) + 0) + 0) + 0) ((1 * ((1 * r 5 + 0) + 0) + 0) + 0) ((1 * r 1 + 0) + 0) ∧ ((1 * ((0 : Int) + 0) + 0) + 0) = yq_sg ((1 * r 0 + 0) + 0) ((1 * r 1 + 0) + 0) ((1 * r 2 + 0) + 0) 0 ((1 * ((1 * r 6 + 0) + 0) + 0) + 0) 0 ((1 * r 2 + 0) + 0) ∧ ((1 * ((1 * r 7 + 0) + 0) + 0) + 0) = yq_sg ((1 * r 0 + 0) + 0) ((1 * r 1 + 0) + 0) ((1 * r 2 + 0) + 0) 1 ((1 * ((1 * r 7 + 0) + 0) + 0) + 0) 0 1 ∧ ((1 * ((1 * r 8 + 0) + 0) + 0) + 0) = yq_sg ((1 * r 0 + 0) + 0) ((1 * r 1 + 0) + 0) ((1 * r 2 + 0) + 0) 1 ((1 * ((1 * r 8 + 0) + 0) + 0) + 0) ((1 * ((1 * r 8 + 0) + 0) + 0) + 0) ((1 * r 1 + 0) + 0) ∧ ((1 * ((1 * r 9 + 0) + 0) + 0) + 0) = yq_sg ((1 * r 0 + 0) + 0) ((1 * r 1 + 0) + 0) ((1 * r 2 + 0) + 0) 1 ((1 * ((1 * r 9 + 0) + 0) + 0) + 0) 0 ((1 * r 2 + 0) + 0) ∧ ((1 * ((1 * r 10 + 0) + 0) + 0) + 0) = yq_sg ((1 * r 0 + 0) + 0) ((1 * r 1 + 0) + 0) ((1 * r 2 + 0) + 0) 2 ((1 * ((1 * r 10 + 0) + 0) + 0) + 0) 0 1 ∧ ((1 * ((1 * r 11 + 0) + 0) + 0) + 0) = yq_sg ((1 * r 0 + 0) + 0) ((1 * r 1 + 0) + 0) ((1 * r 2 + 0) + 0) 2 ((1 * ((1 * r 11 + 0) + 0) + 0) + 0) ((1 * ((1 * r 11 + 0) + 0) + 0) + 0) ((1 * r 1 + 0) + 0) ∧ ((1 * ((1 * r 12 + 0) + 0) + 0) + 0) = yq_sg ((1 * r 0 + 0) + 0) ((1 * r 1 + 0) + 0) ((1 * r 2 + 0) + 0) 2 ((1 * ((1 * r 12 + 0) + 0) + 0) + 0) 0 ((1 * r 2 + 0) + 0) ∧ ((1 * ((1 * r 13 + 0) + 0) + 0) + 0) = yq_sg ((1 * r 0 + 0) + 0) ((1 * r 1 + 0) + 0) ((1 * r 2 + 0) + 0) 3 ((1 * ((1 * r 13 + 0) + 0) + 0) + 0) 0 1 ∧ ((1 * ((1 * r 14 + 0) + 0) + 0) + 0) = yq_sg ((1 * r 0 + 0) + 0) ((1 * r 1 + 0) + 0) ((1 * r 2 + 0) + 0) 3 ((1 * ((1 * r 14 + 0) + 0) + 0) + 0) ((1 * ((1 * r 14 + 0) + 0) + 0) + 0) ((1 * r 1 + 0) + 0) ∧ ((1 * ((1 * r 15 + 0) + 0) + 0) + 0) = yq_sg ((1 * r 0 + 0) + 0) ((1 * r 1 + 0) + 0) ((1 * r 2 + 0) + 0) 3 ((1 * ((1 * r 15 + 0) + 0) + 0) + 0) 0 ((1 * r 2 + 0) + 0) ∧ (g 3) = yq_sr ((1 * r 0 + 0) + 0) ((1 * r 1 + 0) + 0) ((1 * r 2 + 0) + 0) 0 (g0 3) ∧ (g 5) = yq_sr ((1 * r 0 + 0) + 0) ((1 * r 1 + 0) + 0) ((1 * r 2 + 0) + 0) 1 (g0 5) ∧ (g 7) = yq_sr ((1 * r 0 + 0) + 0) ((1 * r 1 + 0) + 0) ((1 * r 2 + 0) + 0) 2 (g0 7) ∧ (g 9) = yq_sr ((1 * r 0 + 0) + 0) ((1 * r 1 + 0) + 0) ((1 * r 2 + 0) + 0) 3 (g0 9)
  try simp only [Int.one_mul, Int.zero_add, Int.add_zero]
  refine ⟨?_, ?_, ?_, ?_, ?_, ?_, ?_, ?_, ?_, ?_, ?_, ?_, ?_, ?_, ?_, ?_, ?_⟩
  · unfold yq_shr
    repeat' split
    all_goals omega
  · unfold yq_sg
    repeat' split
    all_goals omega
  · unfold yq_sg
    repeat' split
    all_goals omega
  · unfold yq_sg
    repeat' split
    all_goals omega
  · unfold yq_sg
    repeat' split
    all_goals omega
  · unfold yq_sg
    repeat' split
    all_goals omega
  · unfold yq_sg
    repeat' split
    all_goals omega
  · unfold yq_sg
    repeat' split
    all_goals omega
  · unfold yq_sg
    repeat' split
    all_goals omega
  · unfold yq_sg
    repeat' split
    all_goals omega
  · unfold yq_sg
    repeat' split
    all_goals omega
  · unfold yq_sg
    repeat' split
    all_goals omega
  · unfold yq_sg
    repeat' split
    all_goals omega
  · unfold yq_sr
    rw [if_neg (by omega)]
    rw [hgi]
  · unfold yq_sr
    rw [if_neg (by omega)]
    rw [hgi]
  · unfold yq_sr
    rw [if_neg (by omega)]
    rw [hgi]
  · unfold yq_sr
    rw [if_neg (by omega)]
    rw [hgi]
theorem xw_136_0_9 : yt_hold xT_136 xk_136 xq_136.2.2.1 xG_136 xP_136 xU_136 16 xk_136.2.1.2.2.2 (fun g0 r g => xR_136 r g0 ∧ g = g0) (1000, ([(1, 1), (0, 3), ((-2147483648), (-1)), ((-2147483648), 2147483647), (0, 1), ((-2147483648), 2147483647), (0, 100), (0, 1), ((-2147483648), 2147483647), (0, 100), (0, 1), ((-2147483648), 2147483647), (0, 100), (0, 1), ((-2147483648), 2147483647), (0, 100), ((-2147483648), 0)], []), [([], (-4)), ([(16, 1)], 0), ([(4, 1)], 0), ([(5, 1)], 0), ([(6, 1)], 0), ([], 0), ([(8, 1)], 0), ([], 0), ([(10, 1)], 0), ([(11, 1)], 0), ([(12, 1)], 0), ([(13, 1)], 0), ([(14, 1)], 0), ([(15, 1)], 0)], [], []) := by
  intro g0 r gi g hok hh hars hfr hG
  have b0 : 1 ≤ r 0 ∧ r 0 ≤ 1 := hok.1 0 (1, 1) rfl
  have b1 : 0 ≤ r 1 ∧ r 1 ≤ 3 := hok.1 1 (0, 3) rfl
  have b2 : (-2147483648) ≤ r 2 ∧ r 2 ≤ (-1) := hok.1 2 ((-2147483648), (-1)) rfl
  have b16 : (-2147483648) ≤ r 16 ∧ r 16 ≤ 0 := hok.1 16 ((-2147483648), 0) rfl
  obtain ⟨hG, hgi⟩ := hG
  have hG : True := hG
  have hh : g = gi := hh
  subst hh
  refine yt_dalt (by decide) (by decide) ?_
  rw [show xk_136.2.1.2.1.1.length = 16 from rfl]
  show ((0 : Int) + (-4)) = yq_shr ((1 * r 0 + 0) + 0) ((1 * r 1 + 0) + 0) ((1 * r 2 + 0) + 0) ∧ ((1 * ((1 * r 4 + 0) + 0) + 0) + 0) = yq_sg ((1 * r 0 + 0) + 0) ((1 * r 1 + 0) + 0) ((1 * r 2 + 0) + 0) 0 ((1 * ((1 * r 4 + 0) + 0) + 0) + 0) 0 1 ∧ ((1 * ((1 * r 5 + 0) + 0) + 0) + 0) = yq_sg ((1 * r 0 + 0) + 0) ((1 * r 1 + 0) + 0) ((1 * r 2 + 0) + 0) 0 ((1 * ((1 * r 5 + 0) + 0) + 0) + 0) ((1 * ((1 * r 5 + 0) + 0) + 0) + 0) ((1 * r 1 + 0) + 0) ∧ ((1 * ((1 * r 6 + 0) + 0) + 0) + 0) = yq_sg ((1 * r 0 + 0) + 0) ((1 * r 1 + 0) + 0) ((1 * r 2 + 0) + 0) 0 ((1 * ((1 * r 6 + 0) + 0) + 0) + 0) 0 ((1 * r 2 + 0) + 0) ∧ ((1 * ((0 : Int) + 0) + 0) + 0) = yq_sg ((1 * r 0 + 0) + 0) ((1 * r 1 + 0) + 0) ((1 * r 2 + 0) + 0) 1 ((1 * ((1 * r 7 + 0) + 0) + 0) + 0) 0 1 ∧ ((1 * ((1 * r 8 + 0) + 0) + 0) + 0) = yq_sg ((1 * r 0 + 0) + 0) ((1 * r 1 + 0) + 0) ((1 * r 2 + 0) + 0) 1 ((1 * ((1 * r 8 + 0) + 0) + 0) + 0) ((1 * ((1 * r 8 + 0) + 0) + 0) + 0) ((1 * r 1 + 0) + 0) ∧ ((1 * ((0 : Int) + 0) + 0) + 0) = yq_sg ((1 * r 0 + 0) + 0) ((1 * r 1 + 0) + 0) ((1 * r 2 + 0) + 0) 1 ((1 * ((1 * r 9 + 0) + 0) + 0) + 0) 0 ((1 * r 2 + 0) + 0) ∧ ((1 * ((1 * r 10 + 0) + 0) + 0) + 0) = yq_sg ((1 * r 0 + 0) + 0) ((1 * r 1 + 0) + 0) ((1 * r 2 + 0) + 0) 2 ((1 * ((1 * r 10 + 0) + 0) + 0) + 0) 0 1 ∧ ((1 * ((1 * r 11 + 0) + 0) + 0) + 0) = yq_sg ((1 * r 0 + 0) + 0) ((1 * r 1 + 0) + 0) ((1 * r 2 + 0) + 0) 2 ((1 * ((1 * r 11 + 0) + 0) + 0) + 0) ((1 * ((1 * r 11 + 0) + 0) + 0) + 0) ((1 * r 1 + 0) + 0) ∧ ((1 * ((1 * r 12 + 0) + 0) + 0) + 0) = yq_sg ((1 * r 0 + 0) + 0) ((1 * r 1 + 0) + 0) ((1 * r 2 + 0) + 0) 2 ((1 * ((1 * r 12 + 0) + 0) + 0) + 0) 0 ((1 * r 2 + 0) + 0) ∧ ((1 * ((1 * r 13 + 0) + 0) + 0) + 0) = yq_sg ((1 * r 0 + 0) + 0) ((1 * r 1 + 0) + 0) ((1 * r 2 + 0) + 0) 3 ((1 * ((1 * r 13 + 0) + 0) + 0) + 0) 0 1 ∧ ((1 * ((1 * r 14 + 0) + 0) + 0) + 0) = yq_sg ((1 * r 0 + 0) + 0) ((1 * r 1 + 0) + 0) ((1 * r 2 + 0) + 0) 3 ((1 * ((1 * r 14 + 0) + 0) + 0) + 0) ((1 * ((1 * r 14 + 0) + 0) + 0) + 0) ((1 * r 1 + 0) + 0) ∧ ((1 * ((1 * r 15 + 0) + 0) + 0) + 0) = yq_sg ((1 * r 0 + 0) + 0) ((1 * r 1 + 0) + 0) ((1 * r 2 + 0) + 0) 3 ((1 * ((1 * r 15 + 0) + 0) + 0) + 0) 0 ((1 * r 2 + 0) + 0) ∧ (g 3) = yq_sr ((1 * r 0 + 0) + 0) ((1 * r 1 + 0) + 0) ((1 * r 2 + 0) + 0) 0 (g0 3) ∧ (g 5) = yq_sr ((1 * r 0 + 0) + 0) ((1 * r 1 + 0) + 0) ((1 * r 2 + 0) + 0) 1 (g0 5) ∧ (g 7) = yq_sr ((1 * r 0 + 0) + 0) ((1 * r 1 + 0) + 0) ((1 * r 2 + 0) + 0) 2 (g0 7) ∧ (g 9) = yq_sr ((1 * r 0 + 0) + 0) ((1 * r 1 + 0) + 0) ((1 * r 2 + 0) + 0) 3 (g0 9)
  try simp only [Int.one_mul, Int.zero_add, Int.add_zero]
  refine ⟨?_, ?_, ?_, ?_, ?_, ?_, ?_, ?_, ?_, ?_, ?_, ?_, ?_, ?_, ?_, ?_, ?_⟩
  · unfold yq_shr
    repeat' split
    all_goals omega
  · unfold yq_sg
    repeat' split
    all_goals omega
  · unfold yq_sg
    repeat' split
    all_goals omega
  · unfold yq_sg
    repeat' split
    all_goals omega
  · unfold yq_sg
    repeat' split
    all_goals omega
  · unfold yq_sg
    repeat' split
    all_goals omega
  · unfold yq_sg
    repeat' split
    all_goals omega
  · unfold yq_sg
    repeat' split
    all_goals omega
  · unfold yq_sg
    repeat' split
    all_goals omega
  · unfold yq_sg
    repeat' split
    all_goals omega
  · unfold yq_sg
    repeat' split
    all_goals omega
  · unfold yq_sg
    repeat' split
    all_goals omega
  · unfold yq_sg
    repeat' split
    all_goals omega
  · unfold yq_sr
    rw [if_neg (by omega)]
    rw [hgi]
  · unfold yq_sr
    rw [if_neg (by omega)]
    rw [hgi]
  · unfold yq_sr
    rw [if_neg (by omega)]
    rw [hgi]
  · unfold yq_sr
    rw [if_neg (by omega)]
    rw [hgi]
theorem xw_136_0_10 : yt_hold xT_136 xk_136 xq_136.2.2.1 xG_136 xP_136 xU_136 16 xk_136.2.1.2.2.2 (fun g0 r g => xR_136 r g0 ∧ g = g0) (1000, ([(2, 2), (0, 3), ((-2147483648), (-1)), ((-2147483648), 2147483647), (0, 1), ((-2147483648), 2147483647), (0, 100), (0, 1), ((-2147483648), 2147483647), (0, 100), (0, 1), ((-2147483648), 2147483647), (0, 100), (0, 1), ((-2147483648), 2147483647), (0, 100), ((-2147483648), 0)], []), [([], (-4)), ([(16, 1)], 0), ([(4, 1)], 0), ([(5, 1)], 0), ([(6, 1)], 0), ([(7, 1)], 0), ([(8, 1)], 0), ([(9, 1)], 0), ([], 0), ([(11, 1)], 0), ([], 0), ([(13, 1)], 0), ([(14, 1)], 0), ([(15, 1)], 0)], [], []) := by
  intro g0 r gi g hok hh hars hfr hG
  have b0 : 2 ≤ r 0 ∧ r 0 ≤ 2 := hok.1 0 (2, 2) rfl
  have b1 : 0 ≤ r 1 ∧ r 1 ≤ 3 := hok.1 1 (0, 3) rfl
  have b2 : (-2147483648) ≤ r 2 ∧ r 2 ≤ (-1) := hok.1 2 ((-2147483648), (-1)) rfl
  have b16 : (-2147483648) ≤ r 16 ∧ r 16 ≤ 0 := hok.1 16 ((-2147483648), 0) rfl
  obtain ⟨hG, hgi⟩ := hG
  have hG : True := hG
  have hh : g = gi := hh
  subst hh
  refine yt_dalt (by decide) (by decide) ?_
  rw [show xk_136.2.1.2.1.1.length = 16 from rfl]
  show ((0 : Int) + (-4)) = yq_shr ((1 * r 0 + 0) + 0) ((1 * r 1 + 0) + 0) ((1 * r 2 + 0) + 0) ∧ ((1 * ((1 * r 4 + 0) + 0) + 0) + 0) = yq_sg ((1 * r 0 + 0) + 0) ((1 * r 1 + 0) + 0) ((1 * r 2 + 0) + 0) 0 ((1 * ((1 * r 4 + 0) + 0) + 0) + 0) 0 1 ∧ ((1 * ((1 * r 5 + 0) + 0) + 0) + 0) = yq_sg ((1 * r 0 + 0) + 0) ((1 * r 1 + 0) + 0) ((1 * r 2 + 0) + 0) 0 ((1 * ((1 * r 5 + 0) + 0) + 0) + 0) ((1 * ((1 * r 5 + 0) + 0) + 0) + 0) ((1 * r 1 + 0) + 0) ∧ ((1 * ((1 * r 6 + 0) + 0) + 0) + 0) = yq_sg ((1 * r 0 + 0) + 0) ((1 * r 1 + 0) + 0) ((1 * r 2 + 0) + 0) 0 ((1 * ((1 * r 6 + 0) + 0) + 0) + 0) 0 ((1 * r 2 + 0) + 0) ∧ ((1 * ((1 * r 7 + 0) + 0) + 0) + 0) = yq_sg ((1 * r 0 + 0) + 0) ((1 * r 1 + 0) + 0) ((1 * r 2 + 0) + 0) 1 ((1 * ((1 * r 7 + 0) + 0) + 0) + 0) 0 1 ∧ ((1 * ((1 * r 8 + 0) + 0) + 0) + 0) = yq_sg ((1 * r 0 + 0) + 0) ((1 * r 1 + 0) + 0) ((1 * r 2 + 0) + 0) 1 ((1 * ((1 * r 8 + 0) + 0) + 0) + 0) ((1 * ((1 * r 8 + 0) + 0) + 0) + 0) ((1 * r 1 + 0) + 0) ∧ ((1 * ((1 * r 9 + 0) + 0) + 0) + 0) = yq_sg ((1 * r 0 + 0) + 0) ((1 * r 1 + 0) + 0) ((1 * r 2 + 0) + 0) 1 ((1 * ((1 * r 9 + 0) + 0) + 0) + 0) 0 ((1 * r 2 + 0) + 0) ∧ ((1 * ((0 : Int) + 0) + 0) + 0) = yq_sg ((1 * r 0 + 0) + 0) ((1 * r 1 + 0) + 0) ((1 * r 2 + 0) + 0) 2 ((1 * ((1 * r 10 + 0) + 0) + 0) + 0) 0 1 ∧ ((1 * ((1 * r 11 + 0) + 0) + 0) + 0) = yq_sg ((1 * r 0 + 0) + 0) ((1 * r 1 + 0) + 0) ((1 * r 2 + 0) + 0) 2 ((1 * ((1 * r 11 + 0) + 0) + 0) + 0) ((1 * ((1 * r 11 + 0) + 0) + 0) + 0) ((1 * r 1 + 0) + 0) ∧ ((1 * ((0 : Int) + 0) + 0) + 0) = yq_sg ((1 * r 0 + 0) + 0) ((1 * r 1 + 0) + 0) ((1 * r 2 + 0) + 0) 2 ((1 * ((1 * r 12 + 0) + 0) + 0) + 0) 0 ((1 * r 2 + 0) + 0) ∧ ((1 * ((1 * r 13 + 0) + 0) + 0) + 0) = yq_sg ((1 * r 0 + 0) + 0) ((1 * r 1 + 0) + 0) ((1 * r 2 + 0) + 0) 3 ((1 * ((1 * r 13 + 0) + 0) + 0) + 0) 0 1 ∧ ((1 * ((1 * r 14 + 0) + 0) + 0) + 0) = yq_sg ((1 * r 0 + 0) + 0) ((1 * r 1 + 0) + 0) ((1 * r 2 + 0) + 0) 3 ((1 * ((1 * r 14 + 0) + 0) + 0) + 0) ((1 * ((1 * r 14 + 0) + 0) + 0) + 0) ((1 * r 1 + 0) + 0) ∧ ((1 * ((1 * r 15 + 0) + 0) + 0) + 0) = yq_sg ((1 * r 0 + 0) + 0) ((1 * r 1 + 0) + 0) ((1 * r 2 + 0) + 0) 3 ((1 * ((1 * r 15 + 0) + 0) + 0) + 0) 0 ((1 * r 2 + 0) + 0) ∧ (g 3) = yq_sr ((1 * r 0 + 0) + 0) ((1 * r 1 + 0) + 0) ((1 * r 2 + 0) + 0) 0 (g0 3) ∧ (g 5) = yq_sr ((1 * r 0 + 0) + 0) ((1 * r 1 + 0) + 0) ((1 * r 2 + 0) + 0) 1 (g0 5) ∧ (g 7) = yq_sr ((1 * r 0 + 0) + 0) ((1 * r 1 + 0) + 0) ((1 * r 2 + 0) + 0) 2 (g0 7) ∧ (g 9) = yq_sr ((1 * r 0 + 0) + 0) ((1 * r 1 + 0) + 0) ((1 * r 2 + 0) + 0) 3 (g0 9)
  try simp only [Int.one_mul, Int.zero_add, Int.add_zero]
  refine ⟨?_, ?_, ?_, ?_, ?_, ?_, ?_, ?_, ?_, ?_, ?_, ?_, ?_, ?_, ?_, ?_, ?_⟩
  · unfold yq_shr
    repeat' split
    all_goals omega
  · unfold yq_sg
    repeat' split
    all_goals omega
  · unfold yq_sg
    repeat' split
    all_goals omega
  · unfold yq_sg
    repeat' split
    all_goals omega
  · unfold yq_sg
    repeat' split
    all_goals omega
  · unfold yq_sg
    repeat' split
    all_goals omega
  · unfold yq_sg
    repeat' split
    all_goals omega
  · unfold yq_sg
    repeat' split
    all_goals omega
  · unfold yq_sg
    repeat' split
    all_goals omega
  · unfold yq_sg
    repeat' split
    all_goals omega
  · unfold yq_sg
    repeat' split
    all_goals omega
  · unfold yq_sg
    repeat' split
    all_goals omega
  · unfold yq_sg
    repeat' split
    all_goals omega
  · unfold yq_sr
    rw [if_neg (by omega)]
    rw [hgi]
  · unfold yq_sr
    rw [if_neg (by omega)]
    rw [hgi]
  · unfold yq_sr
    rw [if_neg (by omega)]
    rw [hgi]
  · unfold yq_sr
    rw [if_neg (by omega)]
    rw [hgi]
theorem xw_136_0_11 : yt_hold xT_136 xk_136 xq_136.2.2.1 xG_136 xP_136 xU_136 16 xk_136.2.1.2.2.2 (fun g0 r g => xR_136 r g0 ∧ g = g0) (1000, ([(3, 3), (0, 3), ((-2147483648), (-1)), ((-2147483648), 2147483647), (0, 1), ((-2147483648), 2147483647), (0, 100), (0, 1), ((-2147483648), 2147483647), (0, 100), (0, 1), ((-2147483648), 2147483647), (0, 100), (0, 1), ((-2147483648), 2147483647), (0, 100), ((-2147483648), 0)], []), [([], (-4)), ([(16, 1)], 0), ([(4, 1)], 0), ([(5, 1)], 0), ([(6, 1)], 0), ([(7, 1)], 0), ([(8, 1)], 0), ([(9, 1)], 0), ([(10, 1)], 0), ([(11, 1)], 0), ([(12, 1)], 0), ([], 0), ([(14, 1)], 0), ([], 0)], [], []) := by
  intro g0 r gi g hok hh hars hfr hG
  have b0 : 3 ≤ r 0 ∧ r 0 ≤ 3 := hok.1 0 (3, 3) rfl
  have b1 : 0 ≤ r 1 ∧ r 1 ≤ 3 := hok.1 1 (0, 3) rfl
  have b2 : (-2147483648) ≤ r 2 ∧ r 2 ≤ (-1) := hok.1 2 ((-2147483648), (-1)) rfl
  have b16 : (-2147483648) ≤ r 16 ∧ r 16 ≤ 0 := hok.1 16 ((-2147483648), 0) rfl
  obtain ⟨hG, hgi⟩ := hG
  have hG : True := hG
  have hh : g = gi := hh
  subst hh
  refine yt_dalt (by decide) (by decide) ?_
  rw [show xk_136.2.1.2.1.1.length = 16 from rfl]
  show ((0 : Int) + (-4)) = yq_shr ((1 * r 0 + 0) + 0) ((1 * r 1 + 0) + 0) ((1 * r 2 + 0) + 0) ∧ ((1 * ((1 * r 4 + 0) + 0) + 0) + 0) = yq_sg ((1 * r 0 + 0) + 0) ((1 * r 1 + 0) + 0) ((1 * r 2 + 0) + 0) 0 ((1 * ((1 * r 4 + 0) + 0) + 0) + 0) 0 1 ∧ ((1 * ((1 * r 5 + 0) + 0) + 0) + 0) = yq_sg ((1 * r 0 + 0) + 0) ((1 * r 1 + 0) + 0) ((1 * r 2 + 0) + 0) 0 ((1 * ((1 * r 5 + 0) + 0) + 0) + 0) ((1 * ((1 * r 5 + 0) + 0) + 0) + 0) ((1 * r 1 + 0) + 0) ∧ ((1 * ((1 * r 6 + 0) + 0) + 0) + 0) = yq_sg ((1 * r 0 + 0) + 0) ((1 * r 1 + 0) + 0) ((1 * r 2 + 0) + 0) 0 ((1 * ((1 * r 6 + 0) + 0) + 0) + 0) 0 ((1 * r 2 + 0) + 0) ∧ ((1 * ((1 * r 7 + 0) + 0) + 0) + 0) = yq_sg ((1 * r 0 + 0) + 0) ((1 * r 1 + 0) + 0) ((1 * r 2 + 0) + 0) 1 ((1 * ((1 * r 7 + 0) + 0) + 0) + 0) 0 1 ∧ ((1 * ((1 * r 8 + 0) + 0) + 0) + 0) = yq_sg ((1 * r 0 + 0) + 0) ((1 * r 1 + 0) + 0) ((1 * r 2 + 0) + 0) 1 ((1 * ((1 * r 8 + 0) + 0) + 0) + 0) ((1 * ((1 * r 8 + 0) + 0) + 0) + 0) ((1 * r 1 + 0) + 0) ∧ ((1 * ((1 * r 9 + 0) + 0) + 0) + 0) = yq_sg ((1 * r 0 + 0) + 0) ((1 * r 1 + 0) + 0) ((1 * r 2 + 0) + 0) 1 ((1 * ((1 * r 9 + 0) + 0) + 0) + 0) 0 ((1 * r 2 + 0) + 0) ∧ ((1 * ((1 * r 10 + 0) + 0) + 0) + 0) = yq_sg ((1 * r 0 + 0) + 0) ((1 * r 1 + 0) + 0) ((1 * r 2 + 0) + 0) 2 ((1 * ((1 * r 10 + 0) + 0) + 0) + 0) 0 1 ∧ ((1 * ((1 * r 11 + 0) + 0) + 0) + 0) = yq_sg ((1 * r 0 + 0) + 0) ((1 * r 1 + 0) + 0) ((1 * r 2 + 0) + 0) 2 ((1 * ((1 * r 11 + 0) + 0) + 0) + 0) ((1 * ((1 * r 11 + 0) + 0) + 0) + 0) ((1 * r 1 + 0) + 0) ∧ ((1 * ((1 * r 12 + 0) + 0) + 0) + 0) = yq_sg ((1 * r 0 + 0) + 0) ((1 * r 1 + 0) + 0) ((1 * r 2 + 0) + 0) 2 ((1 * ((1 * r 12 + 0) + 0) + 0) + 0) 0 ((1 * r 2 + 0) + 0) ∧ ((1 * ((0 : Int) + 0) + 0) + 0) = yq_sg ((1 * r 0 + 0) + 0) ((1 * r 1 + 0) + 0) ((1 * r 2 + 0) + 0) 3 ((1 * ((1 * r 13 + 0) + 0) + 0) + 0) 0 1 ∧ ((1 * ((1 * r 14 + 0) + 0) + 0) + 0) = yq_sg ((1 * r 0 + 0) + 0) ((1 * r 1 + 0) + 0) ((1 * r 2 + 0) + 0) 3 ((1 * ((1 * r 14 + 0) + 0) + 0) + 0) ((1 * ((1 * r 14 + 0) + 0) + 0) + 0) ((1 * r 1 + 0) + 0) ∧ ((1 * ((0 : Int) + 0) + 0) + 0) = yq_sg ((1 * r 0 + 0) + 0) ((1 * r 1 + 0) + 0) ((1 * r 2 + 0) + 0) 3 ((1 * ((1 * r 15 + 0) + 0) + 0) + 0) 0 ((1 * r 2 + 0) + 0) ∧ (g 3) = yq_sr ((1 * r 0 + 0) + 0) ((1 * r 1 + 0) + 0) ((1 * r 2 + 0) + 0) 0 (g0 3) ∧ (g 5) = yq_sr ((1 * r 0 + 0) + 0) ((1 * r 1 + 0) + 0) ((1 * r 2 + 0) + 0) 1 (g0 5) ∧ (g 7) = yq_sr ((1 * r 0 + 0) + 0) ((1 * r 1 + 0) + 0) ((1 * r 2 + 0) + 0) 2 (g0 7) ∧ (g 9) = yq_sr ((1 * r 0 + 0) + 0) ((1 * r 1 + 0) + 0) ((1 * r 2 + 0) + 0) 3 (g0 9)
  try simp only [Int.one_mul, Int.zero_add, Int.add_zero]
  refine ⟨?_, ?_, ?_, ?_, ?_, ?_, ?_, ?_, ?_, ?_, ?_, ?_, ?_, ?_, ?_, ?_, ?_⟩
  · unfold yq_shr
    repeat' split
    all_goals omega
  · unfold yq_sg
    repeat' split
    all_goals omega
  · unfold yq_sg
    repeat' split
    all_goals omega
  · unfold yq_sg
    repeat' split
    all_goals omega
  · unfold yq_sg
    repeat' split
    all_goals omega
  · unfold yq_sg
    repeat' split
    all_goals omega
  · unfold yq_sg
    repeat' split
    all_goals omega
  · unfold yq_sg
    repeat' split
    all_goals omega
  · unfold yq_sg
    repeat' split
    all_goals omega
  · unfold yq_sg
    repeat' split
    all_goals omega
  · unfold yq_sg
    repeat' split
    all_goals omega
  · unfold yq_sg
    repeat' split
    all_goals omega
  · unfold yq_sg
    repeat' split
    all_goals omega
  · unfold yq_sr
    rw [if_neg (by omega)]
    rw [hgi]
  · unfold yq_sr
    rw [if_neg (by omega)]
    rw [hgi]
  · unfold yq_sr
    rw [if_neg (by omega)]
    rw [hgi]
  · unfold yq_sr
    rw [if_neg (by omega)]
    rw [hgi]
theorem xw_136_0_12 : yt_hold xT_136 xk_136 xq_136.2.2.1 xG_136 xP_136 xU_136 16 xk_136.2.1.2.2.2 (fun g0 r g => xR_136 r g0 ∧ g = g0) (1000, ([(0, 3), (0, 3), (101, 2147483647), ((-2147483648), 2147483647), (0, 1), ((-2147483648), 2147483647), (0, 100), (0, 1), ((-2147483648), 2147483647), (0, 100), (0, 1), ((-2147483648), 2147483647), (0, 100), (0, 1), ((-2147483648), 2147483647), (0, 100), ((-2147483648), 0)], []), [([], (-1)), ([(16, 1)], 0), ([(4, 1)], 0), ([(5, 1)], 0), ([(6, 1)], 0), ([(7, 1)], 0), ([(8, 1)], 0), ([(9, 1)], 0), ([(10, 1)], 0), ([(11, 1)], 0), ([(12, 1)], 0), ([(13, 1)], 0), ([(14, 1)], 0), ([(15, 1)], 0)], [], []) := by
  intro g0 r gi g hok hh hars hfr hG
  have b0 : 0 ≤ r 0 ∧ r 0 ≤ 3 := hok.1 0 (0, 3) rfl
  have b1 : 0 ≤ r 1 ∧ r 1 ≤ 3 := hok.1 1 (0, 3) rfl
  have b2 : 101 ≤ r 2 ∧ r 2 ≤ 2147483647 := hok.1 2 (101, 2147483647) rfl
  have b16 : (-2147483648) ≤ r 16 ∧ r 16 ≤ 0 := hok.1 16 ((-2147483648), 0) rfl
  obtain ⟨hG, hgi⟩ := hG
  have hG : True := hG
  have hh : g = gi := hh
  subst hh
  refine yt_dalt (by decide) (by decide) ?_
  rw [show xk_136.2.1.2.1.1.length = 16 from rfl]
  show ((0 : Int) + (-1)) = yq_shr ((1 * r 0 + 0) + 0) ((1 * r 1 + 0) + 0) ((1 * r 2 + 0) + 0) ∧ ((1 * ((1 * r 4 + 0) + 0) + 0) + 0) = yq_sg ((1 * r 0 + 0) + 0) ((1 * r 1 + 0) + 0) ((1 * r 2 + 0) + 0) 0 ((1 * ((1 * r 4 + 0) + 0) + 0) + 0) 0 1 ∧ ((1 * ((1 * r 5 + 0) + 0) + 0) + 0) = yq_sg ((1 * r 0 + 0) + 0) ((1 * r 1 + 0) + 0) ((1 * r 2 + 0) + 0) 0 ((1 * ((1 * r 5 + 0) + 0) + 0) + 0) ((1 * ((1 * r 5 + 0) + 0) + 0) + 0) ((1 * r 1 + 0) + 0) ∧ ((1 * ((1 * r 6 + 0) + 0) + 0) + 0) = yq_sg ((1 * r 0 + 0) + 0) ((1 * r 1 + 0) + 0) ((1 * r 2 + 0) + 0) 0 ((1 * ((1 * r 6 + 0) + 0) + 0) + 0) 0 ((1 * r 2 + 0) + 0) ∧ ((1 * ((1 * r 7 + 0) + 0) + 0) + 0) = yq_sg ((1 * r 0 + 0) + 0) ((1 * r 1 + 0) + 0) ((1 * r 2 + 0) + 0) 1 ((1 * ((1 * r 7 + 0) + 0) + 0) + 0) 0 1 ∧ ((1 * ((1 * r 8 + 0) + 0) + 0) + 0) = yq_sg ((1 * r 0 + 0) + 0) ((1 * r 1 + 0) + 0) ((1 * r 2 + 0) + 0) 1 ((1 * ((1 * r 8 + 0) + 0) + 0) + 0) ((1 * ((1 * r 8 + 0) + 0) + 0) + 0) ((1 * r 1 + 0) + 0) ∧ ((1 * ((1 * r 9 + 0) + 0) + 0) + 0) = yq_sg ((1 * r 0 + 0) + 0) ((1 * r 1 + 0) + 0) ((1 * r 2 + 0) + 0) 1 ((1 * ((1 * r 9 + 0) + 0) + 0) + 0) 0 ((1 * r 2 + 0) + 0) ∧ ((1 * ((1 * r 10 + 0) + 0) + 0) + 0) = yq_sg ((1 * r 0 + 0) + 0) ((1 * r 1 + 0) + 0) ((1 * r 2 + 0) + 0) 2 ((1 * ((1 * r 10 + 0) + 0) + 0) + 0) 0 1 ∧ ((1 * ((1 * r 11 + 0) + 0) + 0) + 0) = yq_sg ((1 * r 0 + 0) + 0) ((1 * r 1 + 0) + 0) ((1 * r 2 + 0) + 0) 2 ((1 * ((1 * r 11 + 0) + 0) + 0) + 0) ((1 * ((1 * r 11 + 0) + 0) + 0) + 0) ((1 * r 1 + 0) + 0) ∧ ((1 * ((1 * r 12 + 0) + 0) + 0) + 0) = yq_sg ((1 * r 0 + 0) + 0) ((1 * r 1 + 0) + 0) ((1 * r 2 + 0) + 0) 2 ((1 * ((1 * r 12 + 0) + 0) + 0) + 0) 0 ((1 * r 2 + 0) + 0) ∧ ((1 * ((1 * r 13 + 0) + 0) + 0) + 0) = yq_sg ((1 * r 0 + 0) + 0) ((1 * r 1 + 0) + 0) ((1 * r 2 + 0) + 0) 3 ((1 * ((1 * r 13 + 0) + 0) + 0) + 0) 0 1 ∧ ((1 * ((1 * r 14 + 0) + 0) + 0) + 0) = yq_sg ((1 * r 0 + 0) + 0) ((1 * r 1 + 0) + 0) ((1 * r 2 + 0) + 0) 3 ((1 * ((1 * r 14 + 0) + 0) + 0) + 0) ((1 * ((1 * r 14 + 0) + 0) + 0) + 0) ((1 * r 1 + 0) + 0) ∧ ((1 * ((1 * r 15 + 0) + 0) + 0) + 0) = yq_sg ((1 * r 0 + 0) + 0) ((1 * r 1 + 0) + 0) ((1 * r 2 + 0) + 0) 3 ((1 * ((1 * r 15 + 0) + 0) + 0) + 0) 0 ((1 * r 2 + 0) + 0) ∧ (g 3) = yq_sr ((1 * r 0 + 0) + 0) ((1 * r 1 + 0) + 0) ((1 * r 2 + 0) + 0) 0 (g0 3) ∧ (g 5) = yq_sr ((1 * r 0 + 0) + 0) ((1 * r 1 + 0) + 0) ((1 * r 2 + 0) + 0) 1 (g0 5) ∧ (g 7) = yq_sr ((1 * r 0 + 0) + 0) ((1 * r 1 + 0) + 0) ((1 * r 2 + 0) + 0) 2 (g0 7) ∧ (g 9) = yq_sr ((1 * r 0 + 0) + 0) ((1 * r 1 + 0) + 0) ((1 * r 2 + 0) + 0) 3 (g0 9)
  try simp only [Int.one_mul, Int.zero_add, Int.add_zero]
  refine ⟨?_, ?_, ?_, ?_, ?_, ?_, ?_, ?_, ?_, ?_, ?_, ?_, ?_, ?_, ?_, ?_, ?_⟩
  · unfold yq_shr
    repeat' split
    all_goals omega
  · unfold yq_sg
    repeat' split
    all_goals omega
  · unfold yq_sg
    repeat' split
    all_goals omega
  · unfold yq_sg
    repeat' split
    all_goals omega
  · unfold yq_sg
    repeat' split
    all_goals omega
  · unfold yq_sg
    repeat' split
    all_goals omega
  · unfold yq_sg
    repeat' split
    all_goals omega
  · unfold yq_sg
    repeat' split
    all_goals omega
  · unfold yq_sg
    repeat' split
    all_goals omega
  · unfold yq_sg
    repeat' split
    all_goals omega
  · unfold yq_sg
    repeat' split
    all_goals omega
  · unfold yq_sg
    repeat' split
    all_goals omega
  · unfold yq_sg
    repeat' split
    all_goals omega
  · unfold yq_sr
    rw [if_neg (by omega)]
    rw [hgi]
  · unfold yq_sr
    rw [if_neg (by omega)]
    rw [hgi]
  · unfold yq_sr
    rw [if_neg (by omega)]
    rw [hgi]
  · unfold yq_sr
    rw [if_neg (by omega)]
    rw [hgi]
theorem xn_136 : ∀ (j : Nat) (q : Nat × yt_T), xq_136.2.2.1[j]? = some q → q.2.2.2 = false → ∀ g0 r g, xG_136 j g0 r g
  | n + 0, q, hq, _ => by cases hq
theorem xs_136 : ∀ j, xq_136.2.2.2.getD j false = false → ∀ r g g', xP_136 j r g g'
  | 0, hf => by cases hf
  | n + 1, _ => fun _ _ _ => trivial
theorem xc_136 {l : Launch} {D : va_G} {cT : Nat → ClassId} {tys : List (ClassId × FieldType)} (hty : yx_Ty tys cT) : yt_Con l D vwCl cT tys yG yw_s30 xk_136 xR_136 xP_136 := yx_sem (calls := xa_136) (Z := xq_136) (tb := xT_136) (pt := xU_136) (Ga := xG_136) (vs := xv_136) (fun _ _ _ _ => trivial) 300 (by decide +kernel) yz_X11_sheet_ok hty (yl_lkX11 _) (yl_cqkX11 _) (List.forall_mem_cons.mpr ⟨⟨xc_35 hty, yg_CLs yl_wX11_141 yd_yX11_isSheet, fun _ _ _ => trivial⟩, List.forall_mem_cons.mpr ⟨⟨xc_3 hty, yg_CLv rfl rfl rfl yl_wX11_107 yd_yX11_told, fun _ _ _ => trivial⟩, List.forall_mem_cons.mpr ⟨⟨xc_133 hty, yg_CLv rfl rfl rfl yl_wX11_144 yd_yX8_tear, fun _ _ _ => trivial⟩, List.forall_mem_cons.mpr ⟨⟨xc_133 hty, yg_CLv rfl rfl rfl yl_wX11_144 yd_yX8_tear, fun _ _ _ => trivial⟩, List.forall_mem_cons.mpr ⟨⟨xc_133 hty, yg_CLv rfl rfl rfl yl_wX11_144 yd_yX8_tear, fun _ _ _ => trivial⟩, List.forall_mem_cons.mpr ⟨⟨xc_133 hty, yg_CLv rfl rfl rfl yl_wX11_144 yd_yX8_tear, fun _ _ _ => trivial⟩, List.forall_mem_cons.mpr ⟨⟨xc_135 hty, yg_CLv rfl rfl rfl yl_wX11_147 yd_yX8_lay, fun _ _ _ => trivial⟩, List.forall_mem_cons.mpr ⟨⟨xc_135 hty, yg_CLv rfl rfl rfl yl_wX11_147 yd_yX8_lay, fun _ _ _ => trivial⟩, List.forall_mem_cons.mpr ⟨⟨xc_135 hty, yg_CLv rfl rfl rfl yl_wX11_147 yd_yX8_lay, fun _ _ _ => trivial⟩, List.forall_mem_cons.mpr ⟨⟨xc_135 hty, yg_CLv rfl rfl rfl yl_wX11_147 yd_yX8_lay, fun _ _ _ => trivial⟩, fun _ h => absurd h List.not_mem_nil⟩⟩⟩⟩⟩⟩⟩⟩⟩⟩) (xn_136) (xs_136) (by decide +kernel) (List.forall_mem_cons.mpr ⟨xw_136_0_0, List.forall_mem_cons.mpr ⟨xw_136_0_1, List.forall_mem_cons.mpr ⟨xw_136_0_2, List.forall_mem_cons.mpr ⟨xw_136_0_3, List.forall_mem_cons.mpr ⟨xw_136_0_4, List.forall_mem_cons.mpr ⟨xw_136_0_5, List.forall_mem_cons.mpr ⟨xw_136_0_6, List.forall_mem_cons.mpr ⟨xw_136_0_7, List.forall_mem_cons.mpr ⟨xw_136_0_8, List.forall_mem_cons.mpr ⟨xw_136_0_9, List.forall_mem_cons.mpr ⟨xw_136_0_10, List.forall_mem_cons.mpr ⟨xw_136_0_11, List.forall_mem_cons.mpr ⟨xw_136_0_12, fun _ h => absurd h List.not_mem_nil⟩⟩⟩⟩⟩⟩⟩⟩⟩⟩⟩⟩⟩) (trivial)
noncomputable def xf_137 : ys_F := (yw_f56 1, yw_r56)
noncomputable def xk_137 : ys_K := (((yX11_side, cX11_side, 2, (some .int)), (5, 124)), ([.inr (some 0), .inl (.inl ([(0, 1)], 0))], ([((-2147483648), 2147483647)] ++ yw_e56, []), xf_137), ([([((-1), 1), (0, 1), ((-9223372036854775808), 9223372036854775807), ((-9223372036854775808), 9223372036854775807), ((-9223372036854775808), 9223372036854775807), (0, 40), ((-2147483648), 2147483647), ((-600), 600), ((-600), 600), ((-1000000), 1000000), ((-1000000), 1000000), ((-9223372036854775808), 9223372036854775807), ((-9223372036854775808), 9223372036854775807)], [], ((ys_fs xf_137.1 [(5, 1, .inl (.inl ([(17, 1)], 0))), (5, 2, .inl (.inr ([(18, 1)], 0))), (5, 3, .inl (.inr ([(19, 1)], 0))), (5, 4, .inl (.inr ([(20, 1)], 0))), (5, 5, .inl (.inl ([(21, 1)], 0))), (5, 6, .inl (.inl ([(22, 1)], 0))), (5, 7, .inl (.inl ([(23, 1)], 0))), (5, 8, .inl (.inl ([(24, 1)], 0))), (5, 9, .inl (.inl ([(25, 1)], 0))), (5, 10, .inl (.inl ([(26, 1)], 0))), (6, 0, .inl (.inr ([(27, 1)], 0))), (6, 1, .inl (.inr ([(28, 1)], 0)))]), xf_137.2), some (.inl (.inl ([(16, 1)], 0))))], []))
noncomputable def xq_137 : yt_Q := (yz_X11_side, (yl_flX11, yl_ciX11, yl_cjX11, yl_cpX11, yl_cqX11), [], [true])
noncomputable def xa_137 : List yt_CE := [(((190, false), (305, false, [5, 6, 1, 2, 3, 4, 7])), (yw_s55, xk_90)), (((118, false), (0, false, [1, 2, 3, 4, 7])), (yw_s36, xk_48)), (((222, false), (314, false, [5, 1, 2, 3, 6, 4, 7])), (yw_s51, xk_85))]
noncomputable def xv_137 : List (List yt_VC) := [[(1000, ([((-2147483648), 2147483647), ((-2147483648), 2147483647), (0, 40), ((-2147483648), 2147483647), (0, 1), ((-9223372036854775808), 9223372036854775807), ((-9223372036854775808), 9223372036854775807), ((-9223372036854775808), 9223372036854775807), (0, 40), ((-2147483648), 2147483647), ((-600), 600), ((-600), 600), ((-1000000), 1000000), ((-1000000), 1000000), ((-9223372036854775808), 9223372036854775807), ((-9223372036854775808), 9223372036854775807), (0, 0), ((-9223372036854775808), 9223372036854775807), ((-9223372036854775808), 9223372036854775807), ((-9223372036854775808), 9223372036854775807), (0, 40), ((-2147483648), 2147483647), ((-600), 600), ((-600), 600), ((-1000000), 1000000), ((-1000000), 1000000), ((-9223372036854775808), 9223372036854775807), ((-9223372036854775808), 9223372036854775807)], []), [([], (-1)), ([(16, 1)], 0), ([(17, 1)], 0), ([(18, 1)], 0), ([(19, 1)], 0), ([(20, 1)], 0), ([(21, 1)], 0), ([(22, 1)], 0), ([(23, 1)], 0), ([(24, 1)], 0), ([(25, 1)], 0), ([(26, 1)], 0), ([(27, 1)], 0)], [], [.inr (.inr (.inl (305, 0, [([(4, 1)], 0), ([(5, 1)], 0), ([(6, 1)], 0), ([(7, 1)], 0), ([(8, 1)], 0), ([(9, 1)], 0), ([(10, 1)], 0), ([(11, 1)], 0), ([(12, 1)], 0), ([(13, 1)], 0), ([(14, 1)], 0), ([(15, 1)], 0), ([(2, 1)], 0), ([(3, 1)], 0), ([(16, 1)], 0), ([(17, 1)], 0), ([(18, 1)], 0), ([(19, 1)], 0), ([(20, 1)], 0), ([(21, 1)], 0), ([(22, 1)], 0), ([(23, 1)], 0), ([(24, 1)], 0), ([(25, 1)], 0), ([(26, 1)], 0), ([(27, 1)], 0)], [5, 6, 1, 2, 3, 4, 7], [])))]),
   (1000, ([((-2147483648), (-1)), ((-2147483648), 2147483647), (0, 40), ((-2147483648), 2147483647), (0, 1), ((-9223372036854775808), 9223372036854775807), ((-9223372036854775808), 9223372036854775807), ((-9223372036854775808), 9223372036854775807), (0, 40), ((-2147483648), 2147483647), ((-600), 600), ((-600), 600), ((-1000000), 1000000), ((-1000000), 1000000), ((-9223372036854775808), 9223372036854775807), ((-9223372036854775808), 9223372036854775807), (1, 1), ((-9223372036854775808), 9223372036854775807), ((-9223372036854775808), 9223372036854775807), ((-9223372036854775808), 9223372036854775807), (0, 40), ((-2147483648), 2147483647), ((-600), 600), ((-600), 600), ((-1000000), 1000000), ((-1000000), 1000000), ((-9223372036854775808), 9223372036854775807), ((-9223372036854775808), 9223372036854775807)], []), [([], (-1)), ([(16, 1)], 0), ([(17, 1)], 0), ([(18, 1)], 0), ([(19, 1)], 0), ([(20, 1)], 0), ([(21, 1)], 0), ([(22, 1)], 0), ([(23, 1)], 0), ([(24, 1)], 0), ([(25, 1)], 0), ([(26, 1)], 0), ([(27, 1)], 0)], [], [.inr (.inr (.inl (305, 0, [([(4, 1)], 0), ([(5, 1)], 0), ([(6, 1)], 0), ([(7, 1)], 0), ([(8, 1)], 0), ([(9, 1)], 0), ([(10, 1)], 0), ([(11, 1)], 0), ([(12, 1)], 0), ([(13, 1)], 0), ([(14, 1)], 0), ([(15, 1)], 0), ([(2, 1)], 0), ([(3, 1)], 0), ([(16, 1)], 0), ([(17, 1)], 0), ([(18, 1)], 0), ([(19, 1)], 0), ([(20, 1)], 0), ([(21, 1)], 0), ([(22, 1)], 0), ([(23, 1)], 0), ([(24, 1)], 0), ([(25, 1)], 0), ([(26, 1)], 0), ([(27, 1)], 0)], [5, 6, 1, 2, 3, 4, 7], [])))]),
   (1000, ([(0, 2147483647), ((-2147483648), 2147483647), (0, 40), ((-2147483648), 2147483647), (0, 1), ((-9223372036854775808), 9223372036854775807), ((-9223372036854775808), 9223372036854775807), ((-9223372036854775808), 9223372036854775807), (0, 40), ((-2147483648), 2147483647), ((-600), 600), ((-600), 600), ((-1000000), 1000000), ((-1000000), 1000000), ((-9223372036854775808), 9223372036854775807), ((-9223372036854775808), 9223372036854775807), (1, 1), ((-9223372036854775808), 9223372036854775807), ((-9223372036854775808), 9223372036854775807), ((-9223372036854775808), 9223372036854775807), (0, 40), ((-2147483648), 2147483647), ((-600), 600), ((-600), 600), ((-1000000), 1000000), ((-1000000), 1000000), ((-9223372036854775808), 9223372036854775807), ((-9223372036854775808), 9223372036854775807)], [([(2, (-1)), (0, 1)], 0)]), [([], (-1)), ([(16, 1)], 0), ([(17, 1)], 0), ([(18, 1)], 0), ([(19, 1)], 0), ([(20, 1)], 0), ([(21, 1)], 0), ([(22, 1)], 0), ([(23, 1)], 0), ([(24, 1)], 0), ([(25, 1)], 0), ([(26, 1)], 0), ([(27, 1)], 0)], [], [.inr (.inr (.inl (305, 0, [([(4, 1)], 0), ([(5, 1)], 0), ([(6, 1)], 0), ([(7, 1)], 0), ([(8, 1)], 0), ([(9, 1)], 0), ([(10, 1)], 0), ([(11, 1)], 0), ([(12, 1)], 0), ([(13, 1)], 0), ([(14, 1)], 0), ([(15, 1)], 0), ([(2, 1)], 0), ([(3, 1)], 0), ([(16, 1)], 0), ([(17, 1)], 0), ([(18, 1)], 0), ([(19, 1)], 0), ([(20, 1)], 0), ([(21, 1)], 0), ([(22, 1)], 0), ([(23, 1)], 0), ([(24, 1)], 0), ([(25, 1)], 0), ([(26, 1)], 0), ([(27, 1)], 0)], [5, 6, 1, 2, 3, 4, 7], [])))]),
   (1000, ([(0, 39), ((-2147483648), 2147483647), (1, 40), ((-2147483648), 2147483647), (0, 1), ((-9223372036854775808), 9223372036854775807), ((-9223372036854775808), 9223372036854775807), ((-9223372036854775808), 9223372036854775807), (0, 40), ((-2147483648), 2147483647), ((-600), 600), ((-600), 600), ((-1000000), 1000000), ((-1000000), 1000000), ((-9223372036854775808), 9223372036854775807), ((-9223372036854775808), 9223372036854775807), (1, 1), ((-9223372036854775808), 9223372036854775807), ((-9223372036854775808), 9223372036854775807), ((-9223372036854775808), 9223372036854775807), (0, 40), ((-2147483648), 2147483647), ((-600), 600), ((-600), 600), ((-1000000), 1000000), ((-1000000), 1000000), ((-9223372036854775808), 9223372036854775807), ((-9223372036854775808), 9223372036854775807)], [([(2, 1), (0, (-1))], (-1))]), [([], 0), ([(16, 1)], 0), ([(17, 1)], 0), ([(18, 1)], 0), ([(19, 1)], 0), ([(20, 1)], 0), ([(21, 1)], 0), ([(22, 1)], 0), ([(23, 1)], 0), ([(24, 1)], 0), ([(25, 1)], 0), ([(26, 1)], 0), ([(27, 1)], 0)], [], [.inr (.inr (.inl (314, 0, [([(0, 1)], 0), ([(16, 1)], 0), ([(17, 1)], 0), ([(18, 1)], 0), ([(19, 1)], 0), ([(20, 1)], 0), ([(21, 1)], 0), ([(22, 1)], 0), ([(23, 1)], 0), ([(24, 1)], 0), ([(25, 1)], 0), ([(2, 1)], 0), ([(3, 1)], 0)], [5, 1, 2, 3, 6, 4, 7], []))), .inr (.inr (.inl (305, 0, [([(4, 1)], 0), ([(5, 1)], 0), ([(6, 1)], 0), ([(7, 1)], 0), ([(8, 1)], 0), ([(9, 1)], 0), ([(10, 1)], 0), ([(11, 1)], 0), ([(12, 1)], 0), ([(13, 1)], 0), ([(14, 1)], 0), ([(15, 1)], 0), ([(2, 1)], 0), ([(3, 1)], 0), ([(16, 1)], 0), ([(17, 1)], 0), ([(18, 1)], 0), ([(19, 1)], 0), ([(20, 1)], 0), ([(21, 1)], 0), ([(22, 1)], 0), ([(23, 1)], 0), ([(24, 1)], 0), ([(25, 1)], 0), ([(26, 1)], 0), ([(27, 1)], 0)], [5, 6, 1, 2, 3, 4, 7], [])))]),
   (1000, ([(0, 39), ((-2147483648), 2147483647), (1, 40), ((-2147483648), 2147483647), (0, 1), ((-9223372036854775808), 9223372036854775807), ((-9223372036854775808), 9223372036854775807), ((-9223372036854775808), 9223372036854775807), (0, 40), ((-2147483648), 2147483647), ((-600), 600), ((-600), 600), ((-1000000), 1000000), ((-1000000), 1000000), ((-9223372036854775808), 9223372036854775807), ((-9223372036854775808), 9223372036854775807), (1, 1), ((-9223372036854775808), 9223372036854775807), ((-9223372036854775808), 9223372036854775807), ((-9223372036854775808), 9223372036854775807), (0, 40), ((-2147483648), 2147483647), ((-600), 600), ((-600), 600), ((-1000000), 1000000), ((-1000000), 1000000), ((-9223372036854775808), 9223372036854775807), ((-9223372036854775808), 9223372036854775807)], [([(2, 1), (0, (-1))], (-1))]), [([], 1), ([(16, 1)], 0), ([(17, 1)], 0), ([(18, 1)], 0), ([(19, 1)], 0), ([(20, 1)], 0), ([(21, 1)], 0), ([(22, 1)], 0), ([(23, 1)], 0), ([(24, 1)], 0), ([(25, 1)], 0), ([(26, 1)], 0), ([(27, 1)], 0)], [], [.inr (.inr (.inl (314, 1, [([(0, 1)], 0), ([(16, 1)], 0), ([(17, 1)], 0), ([(18, 1)], 0), ([(19, 1)], 0), ([(20, 1)], 0), ([(21, 1)], 0), ([(22, 1)], 0), ([(23, 1)], 0), ([(24, 1)], 0), ([(25, 1)], 0), ([(2, 1)], 0), ([(3, 1)], 0)], [5, 1, 2, 3, 6, 4, 7], []))), .inr (.inr (.inl (305, 0, [([(4, 1)], 0), ([(5, 1)], 0), ([(6, 1)], 0), ([(7, 1)], 0), ([(8, 1)], 0), ([(9, 1)], 0), ([(10, 1)], 0), ([(11, 1)], 0), ([(12, 1)], 0), ([(13, 1)], 0), ([(14, 1)], 0), ([(15, 1)], 0), ([(2, 1)], 0), ([(3, 1)], 0), ([(16, 1)], 0), ([(17, 1)], 0), ([(18, 1)], 0), ([(19, 1)], 0), ([(20, 1)], 0), ([(21, 1)], 0), ([(22, 1)], 0), ([(23, 1)], 0), ([(24, 1)], 0), ([(25, 1)], 0), ([(26, 1)], 0), ([(27, 1)], 0)], [5, 6, 1, 2, 3, 4, 7], [])))])]]
noncomputable def xG_137 : Nat → yt_G → (Nat → Int) → yt_G → Prop
  | _, _, _, _ => True
noncomputable def xP_137 : yt_Ph
  | 0, r, g0, g => (ye_fd (g0 2) (g0 3) (g0 4) (((1 * (r 2) + 0) + 0)).toNat ((1 * (r 3) + 0) + 0) ((1 * (r 9) + 0) + 0) (((1 * (r 4) + 0) + 0), ((1 * (r 10) + 0) + 0), ((1 * (r 11) + 0) + 0), ((1 * (r 12) + 0) + 0), ((1 * (r 13) + 0) + 0)) ((1 * (r 22) + 0) + 0) (((1 * (r 17) + 0) + 0), ((1 * (r 23) + 0) + 0), ((1 * (r 24) + 0) + 0), ((1 * (r 25) + 0) + 0), ((1 * (r 26) + 0) + 0)) ∧ ye_fo (g0 2) (g0 3) (((1 * (r 2) + 0) + 0)).toNat ((1 * (r 3) + 0) + 0) ((1 * (r 9) + 0) + 0) (((1 * (r 14) + 0) + 0), ((1 * (r 15) + 0) + 0), ((1 * (r 5) + 0) + 0), ((1 * (r 6) + 0) + 0), ((1 * (r 7) + 0) + 0), ((1 * (r 8) + 0) + 0)) (((1 * (r 17) + 0) + 0), ((1 * (r 23) + 0) + 0), ((1 * (r 24) + 0) + 0), ((1 * (r 25) + 0) + 0), ((1 * (r 26) + 0) + 0)) (((1 * (r 27) + 0) + 0), ((1 * (r 28) + 0) + 0), ((1 * (r 18) + 0) + 0), ((1 * (r 19) + 0) + 0), ((1 * (r 20) + 0) + 0), ((1 * (r 21) + 0) + 0))) ∧ (r 16) = ye_rs (g0 2) (g0 3) ((1 * (r 2) + 0) + 0) (r 0) (((1 * (r 17) + 0) + 0), ((1 * (r 23) + 0) + 0), ((1 * (r 24) + 0) + 0), ((1 * (r 25) + 0) + 0), ((1 * (r 26) + 0) + 0))
  | _, _, _, _ => True
noncomputable def xR_137 : yt_Ps := fun r g0 => True
noncomputable def xT_137 : yt_Tb := fun d => match d with
  | 305 => xP_90
  | 314 => xP_85
  | _ => fun _ _ _ _ => True
noncomputable def xU_137 : Nat → yt_Ps := fun d => match d with
  | 305 => xR_90
  | 314 => xR_85
  | _ => fun _ _ => True
theorem xw_137_0_0 : yt_hold xT_137 xk_137 xq_137.2.2.1 xG_137 xP_137 xU_137 16 xk_137.2.1.2.2.2 (fun g0 r g => xR_137 r g0 ∧ g = g0) (1000, ([((-2147483648), 2147483647), ((-2147483648), 2147483647), (0, 40), ((-2147483648), 2147483647), (0, 1), ((-9223372036854775808), 9223372036854775807), ((-9223372036854775808), 9223372036854775807), ((-9223372036854775808), 9223372036854775807), (0, 40), ((-2147483648), 2147483647), ((-600), 600), ((-600), 600), ((-1000000), 1000000), ((-1000000), 1000000), ((-9223372036854775808), 9223372036854775807), ((-9223372036854775808), 9223372036854775807), (0, 0), ((-9223372036854775808), 9223372036854775807), ((-9223372036854775808), 9223372036854775807), ((-9223372036854775808), 9223372036854775807), (0, 40), ((-2147483648), 2147483647), ((-600), 600), ((-600), 600), ((-1000000), 1000000), ((-1000000), 1000000), ((-9223372036854775808), 9223372036854775807), ((-9223372036854775808), 9223372036854775807)], []), [([], (-1)), ([(16, 1)], 0), ([(17, 1)], 0), ([(18, 1)], 0), ([(19, 1)], 0), ([(20, 1)], 0), ([(21, 1)], 0), ([(22, 1)], 0), ([(23, 1)], 0), ([(24, 1)], 0), ([(25, 1)], 0), ([(26, 1)], 0), ([(27, 1)], 0)], [], [.inr (.inr (.inl (305, 0, [([(4, 1)], 0), ([(5, 1)], 0), ([(6, 1)], 0), ([(7, 1)], 0), ([(8, 1)], 0), ([(9, 1)], 0), ([(10, 1)], 0), ([(11, 1)], 0), ([(12, 1)], 0), ([(13, 1)], 0), ([(14, 1)], 0), ([(15, 1)], 0), ([(2, 1)], 0), ([(3, 1)], 0), ([(16, 1)], 0), ([(17, 1)], 0), ([(18, 1)], 0), ([(19, 1)], 0), ([(20, 1)], 0), ([(21, 1)], 0), ([(22, 1)], 0), ([(23, 1)], 0), ([(24, 1)], 0), ([(25, 1)], 0), ([(26, 1)], 0), ([(27, 1)], 0)], [5, 6, 1, 2, 3, 4, 7], [])))]) := by
  intro g0 r gi g hok hh hars hfr hG
  have b0 : (-2147483648) ≤ r 0 ∧ r 0 ≤ 2147483647 := hok.1 0 ((-2147483648), 2147483647) rfl
  have b2 : 0 ≤ r 2 ∧ r 2 ≤ 40 := hok.1 2 (0, 40) rfl
  have b16 : 0 ≤ r 16 ∧ r 16 ≤ 0 := hok.1 16 (0, 0) rfl
  have b17 : (-9223372036854775808) ≤ r 17 ∧ r 17 ≤ 9223372036854775807 := hok.1 17 ((-9223372036854775808), 9223372036854775807) rfl
  have b18 : (-9223372036854775808) ≤ r 18 ∧ r 18 ≤ 9223372036854775807 := hok.1 18 ((-9223372036854775808), 9223372036854775807) rfl
  have b19 : (-9223372036854775808) ≤ r 19 ∧ r 19 ≤ 9223372036854775807 := hok.1 19 ((-9223372036854775808), 9223372036854775807) rfl
  have b20 : 0 ≤ r 20 ∧ r 20 ≤ 40 := hok.1 20 (0, 40) rfl
  have b21 : (-2147483648) ≤ r 21 ∧ r 21 ≤ 2147483647 := hok.1 21 ((-2147483648), 2147483647) rfl
  have b22 : (-600) ≤ r 22 ∧ r 22 ≤ 600 := hok.1 22 ((-600), 600) rfl
  have b23 : (-600) ≤ r 23 ∧ r 23 ≤ 600 := hok.1 23 ((-600), 600) rfl
  have b24 : (-1000000) ≤ r 24 ∧ r 24 ≤ 1000000 := hok.1 24 ((-1000000), 1000000) rfl
  have b25 : (-1000000) ≤ r 25 ∧ r 25 ≤ 1000000 := hok.1 25 ((-1000000), 1000000) rfl
  have b26 : (-9223372036854775808) ≤ r 26 ∧ r 26 ≤ 9223372036854775807 := hok.1 26 ((-9223372036854775808), 9223372036854775807) rfl
  have b27 : (-9223372036854775808) ≤ r 27 ∧ r 27 ≤ 9223372036854775807 := hok.1 27 ((-9223372036854775808), 9223372036854775807) rfl
  obtain ⟨hG, hgi⟩ := hG
  have hG : True := hG
  obtain ⟨h0, hh, e0, k0⟩ := hh
  have k0 : ∀ j, j ∉ [] → g j = h0 j := k0
  have e0 : (ye_fd (h0 2) (h0 3) (h0 4) (((1 * ((1 * r 2 + 0) + 0) + 0) + 0)).toNat ((1 * ((1 * r 3 + 0) + 0) + 0) + 0) ((1 * ((1 * r 9 + 0) + 0) + 0) + 0) (((1 * ((1 * r 4 + 0) + 0) + 0) + 0), ((1 * ((1 * r 10 + 0) + 0) + 0) + 0), ((1 * ((1 * r 11 + 0) + 0) + 0) + 0), ((1 * ((1 * r 12 + 0) + 0) + 0) + 0), ((1 * ((1 * r 13 + 0) + 0) + 0) + 0)) ((1 * ((1 * r 21 + 0) + 0) + 0) + 0) (((1 * ((1 * r 16 + 0) + 0) + 0) + 0), ((1 * ((1 * r 22 + 0) + 0) + 0) + 0), ((1 * ((1 * r 23 + 0) + 0) + 0) + 0), ((1 * ((1 * r 24 + 0) + 0) + 0) + 0), ((1 * ((1 * r 25 + 0) + 0) + 0) + 0)) ∧ ye_fo (h0 2) (h0 3) (((1 * ((1 * r 2 + 0) + 0) + 0) + 0)).toNat ((1 * ((1 * r 3 + 0) + 0) + 0) + 0) ((1 * ((1 * r 9 + 0) + 0) + 0) + 0) (((1 * ((1 * r 14 + 0) + 0) + 0) + 0), ((1 * ((1 * r 15 + 0) + 0) + 0) + 0), ((1 * ((1 * r 5 + 0) + 0) + 0) + 0), ((1 * ((1 * r 6 + 0) + 0) + 0) + 0), ((1 * ((1 * r 7 + 0) + 0) + 0) + 0), ((1 * ((1 * r 8 + 0) + 0) + 0) + 0)) (((1 * ((1 * r 16 + 0) + 0) + 0) + 0), ((1 * ((1 * r 22 + 0) + 0) + 0) + 0), ((1 * ((1 * r 23 + 0) + 0) + 0) + 0), ((1 * ((1 * r 24 + 0) + 0) + 0) + 0), ((1 * ((1 * r 25 + 0) + 0) + 0) + 0)) (((1 * ((1 * r 26 + 0) + 0) + 0) + 0), ((1 * ((1 * r 27 + 0) + 0) + 0) + 0), ((1 * ((1 * r 17 + 0) + 0) + 0) + 0), ((1 * ((1 * r 18 + 0) + 0) + 0) + 0), ((1 * ((1 * r 19 + 0) + 0) + 0) + 0), ((1 * ((1 * r 20 + 0) + 0) + 0) + 0))) := e0
  have hh : h0 = gi := hh
  subst hh
  refine yt_dalt (by decide) (by decide) ?_
  rw [show xk_137.2.1.2.1.1.length = 16 from rfl]
  show (ye_fd (g0 2) (g0 3) (g0 4) (((1 * ((1 * r 2 + 0) + 0) + 0) + 0)).toNat ((1 * ((1 * r 3 + 0) + 0) + 0) + 0) ((1 * ((1 * r 9 + 0) + 0) + 0) + 0) (((1 * ((1 * r 4 + 0) + 0) + 0) + 0), ((1 * ((1 * r 10 + 0) + 0) + 0) + 0), ((1 * ((1 * r 11 + 0) + 0) + 0) + 0), ((1 * ((1 * r 12 + 0) + 0) + 0) + 0), ((1 * ((1 * r 13 + 0) + 0) + 0) + 0)) ((1 * ((1 * r 21 + 0) + 0) + 0) + 0) (((1 * ((1 * r 16 + 0) + 0) + 0) + 0), ((1 * ((1 * r 22 + 0) + 0) + 0) + 0), ((1 * ((1 * r 23 + 0) + 0) + 0) + 0), ((1 * ((1 * r 24 + 0) + 0) + 0) + 0), ((1 * ((1 * r 25 + 0) + 0) + 0) + 0)) ∧ ye_fo (g0 2) (g0 3) (((1 * ((1 * r 2 + 0) + 0) + 0) + 0)).toNat ((1 * ((1 * r 3 + 0) + 0) + 0) + 0) ((1 * ((1 * r 9 + 0) + 0) + 0) + 0) (((1 * ((1 * r 14 + 0) + 0) + 0) + 0), ((1 * ((1 * r 15 + 0) + 0) + 0) + 0), ((1 * ((1 * r 5 + 0) + 0) + 0) + 0), ((1 * ((1 * r 6 + 0) + 0) + 0) + 0), ((1 * ((1 * r 7 + 0) + 0) + 0) + 0), ((1 * ((1 * r 8 + 0) + 0) + 0) + 0)) (((1 * ((1 * r 16 + 0) + 0) + 0) + 0), ((1 * ((1 * r 22 + 0) + 0) + 0) + 0), ((1 * ((1 * r 23 + 0) + 0) + 0) + 0), ((1 * ((1 * r 24 + 0) + 0) + 0) + 0), ((1 * ((1 * r 25 + 0) + 0) + 0) + 0)) (((1 * ((1 * r 26 + 0) + 0) + 0) + 0), ((1 * ((1 * r 27 + 0) + 0) + 0) + 0), ((1 * ((1 * r 17 + 0) + 0) + 0) + 0), ((1 * ((1 * r 18 + 0) + 0) + 0) + 0), ((1 * ((1 * r 19 + 0) + 0) + 0) + 0), ((1 * ((1 * r 20 + 0) + 0) + 0) + 0))) ∧ ((0 : Int) + (-1)) = ye_rs (g0 2) (g0 3) ((1 * ((1 * r 2 + 0) + 0) + 0) + 0) ((1 * r 0 + 0) + 0) (((1 * ((1 * r 16 + 0) + 0) + 0) + 0), ((1 * ((1 * r 22 + 0) + 0) + 0) + 0), ((1 * ((1 * r 23 + 0) + 0) + 0) + 0), ((1 * ((1 * r 24 + 0) + 0) + 0) + 0), ((1 * ((1 * r 25 + 0) + 0) + 0) + 0))
  try simp only [Int.one_mul, Int.zero_add, Int.add_zero]
  try simp only [Int.one_mul, Int.zero_add, Int.add_zero] at e0
  rw [hgi] at e0
  refine ⟨e0, ?_⟩
  unfold ye_rs
  dsimp only
  rw [if_pos (by omega)]
theorem xw_137_0_1 : yt_hold xT_137 xk_137 xq_137.2.2.1 xG_137 xP_137 xU_137 16 xk_137.2.1.2.2.2 (fun g0 r g => xR_137 r g0 ∧ g = g0) (1000, ([((-2147483648), (-1)), ((-2147483648), 2147483647), (0, 40), ((-2147483648), 2147483647), (0, 1), ((-9223372036854775808), 9223372036854775807), ((-9223372036854775808), 9223372036854775807), ((-9223372036854775808), 9223372036854775807), (0, 40), ((-2147483648), 2147483647), ((-600), 600), ((-600), 600), ((-1000000), 1000000), ((-1000000), 1000000), ((-9223372036854775808), 9223372036854775807), ((-9223372036854775808), 9223372036854775807), (1, 1), ((-9223372036854775808), 9223372036854775807), ((-9223372036854775808), 9223372036854775807), ((-9223372036854775808), 9223372036854775807), (0, 40), ((-2147483648), 2147483647), ((-600), 600), ((-600), 600), ((-1000000), 1000000), ((-1000000), 1000000), ((-9223372036854775808), 9223372036854775807), ((-9223372036854775808), 9223372036854775807)], []), [([], (-1)), ([(16, 1)], 0), ([(17, 1)], 0), ([(18, 1)], 0), ([(19, 1)], 0), ([(20, 1)], 0), ([(21, 1)], 0), ([(22, 1)], 0), ([(23, 1)], 0), ([(24, 1)], 0), ([(25, 1)], 0), ([(26, 1)], 0), ([(27, 1)], 0)], [], [.inr (.inr (.inl (305, 0, [([(4, 1)], 0), ([(5, 1)], 0), ([(6, 1)], 0), ([(7, 1)], 0), ([(8, 1)], 0), ([(9, 1)], 0), ([(10, 1)], 0), ([(11, 1)], 0), ([(12, 1)], 0), ([(13, 1)], 0), ([(14, 1)], 0), ([(15, 1)], 0), ([(2, 1)], 0), ([(3, 1)], 0), ([(16, 1)], 0), ([(17, 1)], 0), ([(18, 1)], 0), ([(19, 1)], 0), ([(20, 1)], 0), ([(21, 1)], 0), ([(22, 1)], 0), ([(23, 1)], 0), ([(24, 1)], 0), ([(25, 1)], 0), ([(26, 1)], 0), ([(27, 1)], 0)], [5, 6, 1, 2, 3, 4, 7], [])))]) := by
  intro g0 r gi g hok hh hars hfr hG
  have b0 : (-2147483648) ≤ r 0 ∧ r 0 ≤ (-1) := hok.1 0 ((-2147483648), (-1)) rfl
  have b2 : 0 ≤ r 2 ∧ r 2 ≤ 40 := hok.1 2 (0, 40) rfl
  have b16 : 1 ≤ r 16 ∧ r 16 ≤ 1 := hok.1 16 (1, 1) rfl
  have b17 : (-9223372036854775808) ≤ r 17 ∧ r 17 ≤ 9223372036854775807 := hok.1 17 ((-9223372036854775808), 9223372036854775807) rfl
  have b18 : (-9223372036854775808) ≤ r 18 ∧ r 18 ≤ 9223372036854775807 := hok.1 18 ((-9223372036854775808), 9223372036854775807) rfl
  have b19 : (-9223372036854775808) ≤ r 19 ∧ r 19 ≤ 9223372036854775807 := hok.1 19 ((-9223372036854775808), 9223372036854775807) rfl
  have b20 : 0 ≤ r 20 ∧ r 20 ≤ 40 := hok.1 20 (0, 40) rfl
  have b21 : (-2147483648) ≤ r 21 ∧ r 21 ≤ 2147483647 := hok.1 21 ((-2147483648), 2147483647) rfl
  have b22 : (-600) ≤ r 22 ∧ r 22 ≤ 600 := hok.1 22 ((-600), 600) rfl
  have b23 : (-600) ≤ r 23 ∧ r 23 ≤ 600 := hok.1 23 ((-600), 600) rfl
  have b24 : (-1000000) ≤ r 24 ∧ r 24 ≤ 1000000 := hok.1 24 ((-1000000), 1000000) rfl
  have b25 : (-1000000) ≤ r 25 ∧ r 25 ≤ 1000000 := hok.1 25 ((-1000000), 1000000) rfl
  have b26 : (-9223372036854775808) ≤ r 26 ∧ r 26 ≤ 9223372036854775807 := hok.1 26 ((-9223372036854775808), 9223372036854775807) rfl
  have b27 : (-9223372036854775808) ≤ r 27 ∧ r 27 ≤ 9223372036854775807 := hok.1 27 ((-9223372036854775808), 9223372036854775807) rfl
  obtain ⟨hG, hgi⟩ := hG
  have hG : True := hG
  obtain ⟨h0, hh, e0, k0⟩ := hh
  have k0 : ∀ j, j ∉ [] → g j = h0 j := k0
  have e0 : (ye_fd (h0 2) (h0 3) (h0 4) (((1 * ((1 * r 2 + 0) + 0) + 0) + 0)).toNat ((1 * ((1 * r 3 + 0) + 0) + 0) + 0) ((1 * ((1 * r 9 + 0) + 0) + 0) + 0) (((1 * ((1 * r 4 + 0) + 0) + 0) + 0), ((1 * ((1 * r 10 + 0) + 0) + 0) + 0), ((1 * ((1 * r 11 + 0) + 0) + 0) + 0), ((1 * ((1 * r 12 + 0) + 0) + 0) + 0), ((1 * ((1 * r 13 + 0) + 0) + 0) + 0)) ((1 * ((1 * r 21 + 0) + 0) + 0) + 0) (((1 * ((1 * r 16 + 0) + 0) + 0) + 0), ((1 * ((1 * r 22 + 0) + 0) + 0) + 0), ((1 * ((1 * r 23 + 0) + 0) + 0) + 0), ((1 * ((1 * r 24 + 0) + 0) + 0) + 0), ((1 * ((1 * r 25 + 0) + 0) + 0) + 0)) ∧ ye_fo (h0 2) (h0 3) (((1 * ((1 * r 2 + 0) + 0) + 0) + 0)).toNat ((1 * ((1 * r 3 + 0) + 0) + 0) + 0) ((1 * ((1 * r 9 + 0) + 0) + 0) + 0) (((1 * ((1 * r 14 + 0) + 0) + 0) + 0), ((1 * ((1 * r 15 + 0) + 0) + 0) + 0), ((1 * ((1 * r 5 + 0) + 0) + 0) + 0), ((1 * ((1 * r 6 + 0) + 0) + 0) + 0), ((1 * ((1 * r 7 + 0) + 0) + 0) + 0), ((1 * ((1 * r 8 + 0) + 0) + 0) + 0)) (((1 * ((1 * r 16 + 0) + 0) + 0) + 0), ((1 * ((1 * r 22 + 0) + 0) + 0) + 0), ((1 * ((1 * r 23 + 0) + 0) + 0) + 0), ((1 * ((1 * r 24 + 0) + 0) + 0) + 0), ((1 * ((1 * r 25 + 0) + 0) + 0) + 0)) (((1 * ((1 * r 26 + 0) + 0) + 0) + 0), ((1 * ((1 * r 27 + 0) + 0) + 0) + 0), ((1 * ((1 * r 17 + 0) + 0) + 0) + 0), ((1 * ((1 * r 18 + 0) + 0) + 0) + 0), ((1 * ((1 * r 19 + 0) + 0) + 0) + 0), ((1 * ((1 * r 20 + 0) + 0) + 0) + 0))) := e0
  have hh : h0 = gi := hh
  subst hh
  refine yt_dalt (by decide) (by decide) ?_
  rw [show xk_137.2.1.2.1.1.length = 16 from rfl]
  show (ye_fd (g0 2) (g0 3) (g0 4) (((1 * ((1 * r 2 + 0) + 0) + 0) + 0)).toNat ((1 * ((1 * r 3 + 0) + 0) + 0) + 0) ((1 * ((1 * r 9 + 0) + 0) + 0) + 0) (((1 * ((1 * r 4 + 0) + 0) + 0) + 0), ((1 * ((1 * r 10 + 0) + 0) + 0) + 0), ((1 * ((1 * r 11 + 0) + 0) + 0) + 0), ((1 * ((1 * r 12 + 0) + 0) + 0) + 0), ((1 * ((1 * r 13 + 0) + 0) + 0) + 0)) ((1 * ((1 * r 21 + 0) + 0) + 0) + 0) (((1 * ((1 * r 16 + 0) + 0) + 0) + 0), ((1 * ((1 * r 22 + 0) + 0) + 0) + 0), ((1 * ((1 * r 23 + 0) + 0) + 0) + 0), ((1 * ((1 * r 24 + 0) + 0) + 0) + 0), ((1 * ((1 * r 25 + 0) + 0) + 0) + 0)) ∧ ye_fo (g0 2) (g0 3) (((1 * ((1 * r 2 + 0) + 0) + 0) + 0)).toNat ((1 * ((1 * r 3 + 0) + 0) + 0) + 0) ((1 * ((1 * r 9 + 0) + 0) + 0) + 0) (((1 * ((1 * r 14 + 0) + 0) + 0) + 0), ((1 * ((1 * r 15 + 0) + 0) + 0) + 0), ((1 * ((1 * r 5 + 0) + 0) + 0) + 0), ((1 * ((1 * r 6 + 0) + 0) + 0) + 0), ((1 * ((1 * r 7 + 0) + 0) + 0) + 0), ((1 * ((1 * r 8 + 0) + 0) + 0) + 0)) (((1 * ((1 * r 16 + 0) + 0) + 0) + 0), ((1 * ((1 * r 22 + 0) + 0) + 0) + 0), ((1 * ((1 * r 23 + 0) + 0) + 0) + 0), ((1 * ((1 * r 24 + 0) + 0) + 0) + 0), ((1 * ((1 * r 25 + 0) + 0) + 0) + 0)) (((1 * ((1 * r 26 + 0) + 0) + 0) + 0), ((1 * ((1 * r 27 + 0) + 0) + 0) + 0), ((1 * ((1 * r 17 + 0) + 0) + 0) + 0), ((1 * ((1 * r 18 + 0) + 0) + 0) + 0), ((1 * ((1 * r 19 + 0) + 0) + 0) + 0), ((1 * ((1 * r 20 + 0) + 0) + 0) + 0))) ∧ ((0 : Int) + (-1)) = ye_rs (g0 2) (g0 3) ((1 * ((1 * r 2 + 0) + 0) + 0) + 0) ((1 * r 0 + 0) + 0) (((1 * ((1 * r 16 + 0) + 0) + 0) + 0), ((1 * ((1 * r 22 + 0) + 0) + 0) + 0), ((1 * ((1 * r 23 + 0) + 0) + 0) + 0), ((1 * ((1 * r 24 + 0) + 0) + 0) + 0), ((1 * ((1 * r 25 + 0) + 0) + 0) + 0))
  try simp only [Int.one_mul, Int.zero_add, Int.add_zero]
  try simp only [Int.one_mul, Int.zero_add, Int.add_zero] at e0
  rw [hgi] at e0
  refine ⟨e0, ?_⟩
  unfold ye_rs
  dsimp only
  rw [if_pos (by omega)]
theorem xw_137_0_2 : yt_hold xT_137 xk_137 xq_137.2.2.1 xG_137 xP_137 xU_137 16 xk_137.2.1.2.2.2 (fun g0 r g => xR_137 r g0 ∧ g = g0) (1000, ([(0, 2147483647), ((-2147483648), 2147483647), (0, 40), ((-2147483648), 2147483647), (0, 1), ((-9223372036854775808), 9223372036854775807), ((-9223372036854775808), 9223372036854775807), ((-9223372036854775808), 9223372036854775807), (0, 40), ((-2147483648), 2147483647), ((-600), 600), ((-600), 600), ((-1000000), 1000000), ((-1000000), 1000000), ((-9223372036854775808), 9223372036854775807), ((-9223372036854775808), 9223372036854775807), (1, 1), ((-9223372036854775808), 9223372036854775807), ((-9223372036854775808), 9223372036854775807), ((-9223372036854775808), 9223372036854775807), (0, 40), ((-2147483648), 2147483647), ((-600), 600), ((-600), 600), ((-1000000), 1000000), ((-1000000), 1000000), ((-9223372036854775808), 9223372036854775807), ((-9223372036854775808), 9223372036854775807)], [([(2, (-1)), (0, 1)], 0)]), [([], (-1)), ([(16, 1)], 0), ([(17, 1)], 0), ([(18, 1)], 0), ([(19, 1)], 0), ([(20, 1)], 0), ([(21, 1)], 0), ([(22, 1)], 0), ([(23, 1)], 0), ([(24, 1)], 0), ([(25, 1)], 0), ([(26, 1)], 0), ([(27, 1)], 0)], [], [.inr (.inr (.inl (305, 0, [([(4, 1)], 0), ([(5, 1)], 0), ([(6, 1)], 0), ([(7, 1)], 0), ([(8, 1)], 0), ([(9, 1)], 0), ([(10, 1)], 0), ([(11, 1)], 0), ([(12, 1)], 0), ([(13, 1)], 0), ([(14, 1)], 0), ([(15, 1)], 0), ([(2, 1)], 0), ([(3, 1)], 0), ([(16, 1)], 0), ([(17, 1)], 0), ([(18, 1)], 0), ([(19, 1)], 0), ([(20, 1)], 0), ([(21, 1)], 0), ([(22, 1)], 0), ([(23, 1)], 0), ([(24, 1)], 0), ([(25, 1)], 0), ([(26, 1)], 0), ([(27, 1)], 0)], [5, 6, 1, 2, 3, 4, 7], [])))]) := by
  intro g0 r gi g hok hh hars hfr hG
  have b0 : 0 ≤ r 0 ∧ r 0 ≤ 2147483647 := hok.1 0 (0, 2147483647) rfl
  have b2 : 0 ≤ r 2 ∧ r 2 ≤ 40 := hok.1 2 (0, 40) rfl
  have b16 : 1 ≤ r 16 ∧ r 16 ≤ 1 := hok.1 16 (1, 1) rfl
  have b17 : (-9223372036854775808) ≤ r 17 ∧ r 17 ≤ 9223372036854775807 := hok.1 17 ((-9223372036854775808), 9223372036854775807) rfl
  have b18 : (-9223372036854775808) ≤ r 18 ∧ r 18 ≤ 9223372036854775807 := hok.1 18 ((-9223372036854775808), 9223372036854775807) rfl
  have b19 : (-9223372036854775808) ≤ r 19 ∧ r 19 ≤ 9223372036854775807 := hok.1 19 ((-9223372036854775808), 9223372036854775807) rfl
  have b20 : 0 ≤ r 20 ∧ r 20 ≤ 40 := hok.1 20 (0, 40) rfl
  have b21 : (-2147483648) ≤ r 21 ∧ r 21 ≤ 2147483647 := hok.1 21 ((-2147483648), 2147483647) rfl
  have b22 : (-600) ≤ r 22 ∧ r 22 ≤ 600 := hok.1 22 ((-600), 600) rfl
  have b23 : (-600) ≤ r 23 ∧ r 23 ≤ 600 := hok.1 23 ((-600), 600) rfl
  have b24 : (-1000000) ≤ r 24 ∧ r 24 ≤ 1000000 := hok.1 24 ((-1000000), 1000000) rfl
  have b25 : (-1000000) ≤ r 25 ∧ r 25 ≤ 1000000 := hok.1 25 ((-1000000), 1000000) rfl
  have b26 : (-9223372036854775808) ≤ r 26 ∧ r 26 ≤ 9223372036854775807 := hok.1 26 ((-9223372036854775808), 9223372036854775807) rfl
  have b27 : (-9223372036854775808) ≤ r 27 ∧ r 27 ≤ 9223372036854775807 := hok.1 27 ((-9223372036854775808), 9223372036854775807) rfl
  have f0 : 0 ≤ (((-1) * r 2 + (1 * r 0 + 0)) + 0) := hok.2 _ (List.mem_of_getElem? (i := 0) rfl)
  obtain ⟨hG, hgi⟩ := hG
  have hG : True := hG
  obtain ⟨h0, hh, e0, k0⟩ := hh
  have k0 : ∀ j, j ∉ [] → g j = h0 j := k0
  have e0 : (ye_fd (h0 2) (h0 3) (h0 4) (((1 * ((1 * r 2 + 0) + 0) + 0) + 0)).toNat ((1 * ((1 * r 3 + 0) + 0) + 0) + 0) ((1 * ((1 * r 9 + 0) + 0) + 0) + 0) (((1 * ((1 * r 4 + 0) + 0) + 0) + 0), ((1 * ((1 * r 10 + 0) + 0) + 0) + 0), ((1 * ((1 * r 11 + 0) + 0) + 0) + 0), ((1 * ((1 * r 12 + 0) + 0) + 0) + 0), ((1 * ((1 * r 13 + 0) + 0) + 0) + 0)) ((1 * ((1 * r 21 + 0) + 0) + 0) + 0) (((1 * ((1 * r 16 + 0) + 0) + 0) + 0), ((1 * ((1 * r 22 + 0) + 0) + 0) + 0), ((1 * ((1 * r 23 + 0) + 0) + 0) + 0), ((1 * ((1 * r 24 + 0) + 0) + 0) + 0), ((1 * ((1 * r 25 + 0) + 0) + 0) + 0)) ∧ ye_fo (h0 2) (h0 3) (((1 * ((1 * r 2 + 0) + 0) + 0) + 0)).toNat ((1 * ((1 * r 3 + 0) + 0) + 0) + 0) ((1 * ((1 * r 9 + 0) + 0) + 0) + 0) (((1 * ((1 * r 14 + 0) + 0) + 0) + 0), ((1 * ((1 * r 15 + 0) + 0) + 0) + 0), ((1 * ((1 * r 5 + 0) + 0) + 0) + 0), ((1 * ((1 * r 6 + 0) + 0) + 0) + 0), ((1 * ((1 * r 7 + 0) + 0) + 0) + 0), ((1 * ((1 * r 8 + 0) + 0) + 0) + 0)) (((1 * ((1 * r 16 + 0) + 0) + 0) + 0), ((1 * ((1 * r 22 + 0) + 0) + 0) + 0), ((1 * ((1 * r 23 + 0) + 0) + 0) + 0), ((1 * ((1 * r 24 + 0) + 0) + 0) + 0), ((1 * ((1 * r 25 + 0) + 0) + 0) + 0)) (((1 * ((1 * r 26 + 0) + 0) + 0) + 0), ((1 * ((1 * r 27 + 0) + 0) + 0) + 0), ((1 * ((1 * r 17 + 0) + 0) + 0) + 0), ((1 * ((1 * r 18 + 0) + 0) + 0) + 0), ((1 * ((1 * r 19 + 0) + 0) + 0) + 0), ((1 * ((1 * r 20 + 0) + 0) + 0) + 0))) := e0
  have hh : h0 = gi := hh
  subst hh
  refine yt_dalt (by decide) (by decide) ?_
  rw [show xk_137.2.1.2.1.1.length = 16 from rfl]
  show (ye_fd (g0 2) (g0 3) (g0 4) (((1 * ((1 * r 2 + 0) + 0) + 0) + 0)).toNat ((1 * ((1 * r 3 + 0) + 0) + 0) + 0) ((1 * ((1 * r 9 + 0) + 0) + 0) + 0) (((1 * ((1 * r 4 + 0) + 0) + 0) + 0), ((1 * ((1 * r 10 + 0) + 0) + 0) + 0), ((1 * ((1 * r 11 + 0) + 0) + 0) + 0), ((1 * ((1 * r 12 + 0) + 0) + 0) + 0), ((1 * ((1 * r 13 + 0) + 0) + 0) + 0)) ((1 * ((1 * r 21 + 0) + 0) + 0) + 0) (((1 * ((1 * r 16 + 0) + 0) + 0) + 0), ((1 * ((1 * r 22 + 0) + 0) + 0) + 0), ((1 * ((1 * r 23 + 0) + 0) + 0) + 0), ((1 * ((1 * r 24 + 0) + 0) + 0) + 0), ((1 * ((1 * r 25 + 0) + 0) + 0) + 0)) ∧ ye_fo (g0 2) (g0 3) (((1 * ((1 * r 2 + 0) + 0) + 0) + 0)).toNat ((1 * ((1 * r 3 + 0) + 0) + 0) + 0) ((1 * ((1 * r 9 + 0) + 0) + 0) + 0) (((1 * ((1 * r 14 + 0) + 0) + 0) + 0), ((1 * ((1 * r 15 + 0) + 0) + 0) + 0), ((1 * ((1 * r 5 + 0) + 0) + 0) + 0), ((1 * ((1 * r 6 + 0) + 0) + 0) + 0), ((1 * ((1 * r 7 + 0) + 0) + 0) + 0), ((1 * ((1 * r 8 + 0) + 0) + 0) + 0)) (((1 * ((1 * r 16 + 0) + 0) + 0) + 0), ((1 * ((1 * r 22 + 0) + 0) + 0) + 0), ((1 * ((1 * r 23 + 0) + 0) + 0) + 0), ((1 * ((1 * r 24 + 0) + 0) + 0) + 0), ((1 * ((1 * r 25 + 0) + 0) + 0) + 0)) (((1 * ((1 * r 26 + 0) + 0) + 0) + 0), ((1 * ((1 * r 27 + 0) + 0) + 0) + 0), ((1 * ((1 * r 17 + 0) + 0) + 0) + 0), ((1 * ((1 * r 18 + 0) + 0) + 0) + 0), ((1 * ((1 * r 19 + 0) + 0) + 0) + 0), ((1 * ((1 * r 20 + 0) + 0) + 0) + 0))) ∧ ((0 : Int) + (-1)) = ye_rs (g0 2) (g0 3) ((1 * ((1 * r 2 + 0) + 0) + 0) + 0) ((1 * r 0 + 0) + 0) (((1 * ((1 * r 16 + 0) + 0) + 0) + 0), ((1 * ((1 * r 22 + 0) + 0) + 0) + 0), ((1 * ((1 * r 23 + 0) + 0) + 0) + 0), ((1 * ((1 * r 24 + 0) + 0) + 0) + 0), ((1 * ((1 * r 25 + 0) + 0) + 0) + 0))
  try simp only [Int.one_mul, Int.zero_add, Int.add_zero]
  try simp only [Int.one_mul, Int.zero_add, Int.add_zero] at e0
  rw [hgi] at e0
  refine ⟨e0, ?_⟩
  unfold ye_rs
  dsimp only
  rw [if_pos (by omega)]
theorem xw_137_0_3 : yt_hold xT_137 xk_137 xq_137.2.2.1 xG_137 xP_137 xU_137 16 xk_137.2.1.2.2.2 (fun g0 r g => xR_137 r g0 ∧ g = g0) (1000, ([(0, 39), ((-2147483648), 2147483647), (1, 40), ((-2147483648), 2147483647), (0, 1), ((-9223372036854775808), 9223372036854775807), ((-9223372036854775808), 9223372036854775807), ((-9223372036854775808), 9223372036854775807), (0, 40), ((-2147483648), 2147483647), ((-600), 600), ((-600), 600), ((-1000000), 1000000), ((-1000000), 1000000), ((-9223372036854775808), 9223372036854775807), ((-9223372036854775808), 9223372036854775807), (1, 1), ((-9223372036854775808), 9223372036854775807), ((-9223372036854775808), 9223372036854775807), ((-9223372036854775808), 9223372036854775807), (0, 40), ((-2147483648), 2147483647), ((-600), 600), ((-600), 600), ((-1000000), 1000000), ((-1000000), 1000000), ((-9223372036854775808), 9223372036854775807), ((-9223372036854775808), 9223372036854775807)], [([(2, 1), (0, (-1))], (-1))]), [([], 0), ([(16, 1)], 0), ([(17, 1)], 0), ([(18, 1)], 0), ([(19, 1)], 0), ([(20, 1)], 0), ([(21, 1)], 0), ([(22, 1)], 0), ([(23, 1)], 0), ([(24, 1)], 0), ([(25, 1)], 0), ([(26, 1)], 0), ([(27, 1)], 0)], [], [.inr (.inr (.inl (314, 0, [([(0, 1)], 0), ([(16, 1)], 0), ([(17, 1)], 0), ([(18, 1)], 0), ([(19, 1)], 0), ([(20, 1)], 0), ([(21, 1)], 0), ([(22, 1)], 0), ([(23, 1)], 0), ([(24, 1)], 0), ([(25, 1)], 0), ([(2, 1)], 0), ([(3, 1)], 0)], [5, 1, 2, 3, 6, 4, 7], []))), .inr (.inr (.inl (305, 0, [([(4, 1)], 0), ([(5, 1)], 0), ([(6, 1)], 0), ([(7, 1)], 0), ([(8, 1)], 0), ([(9, 1)], 0), ([(10, 1)], 0), ([(11, 1)], 0), ([(12, 1)], 0), ([(13, 1)], 0), ([(14, 1)], 0), ([(15, 1)], 0), ([(2, 1)], 0), ([(3, 1)], 0), ([(16, 1)], 0), ([(17, 1)], 0), ([(18, 1)], 0), ([(19, 1)], 0), ([(20, 1)], 0), ([(21, 1)], 0), ([(22, 1)], 0), ([(23, 1)], 0), ([(24, 1)], 0), ([(25, 1)], 0), ([(26, 1)], 0), ([(27, 1)], 0)], [5, 6, 1, 2, 3, 4, 7], [])))]) := by
  intro g0 r gi g hok hh hars hfr hG
  have b0 : 0 ≤ r 0 ∧ r 0 ≤ 39 := hok.1 0 (0, 39) rfl
  have b2 : 1 ≤ r 2 ∧ r 2 ≤ 40 := hok.1 2 (1, 40) rfl
  have b16 : 1 ≤ r 16 ∧ r 16 ≤ 1 := hok.1 16 (1, 1) rfl
  have b17 : (-9223372036854775808) ≤ r 17 ∧ r 17 ≤ 9223372036854775807 := hok.1 17 ((-9223372036854775808), 9223372036854775807) rfl
  have b18 : (-9223372036854775808) ≤ r 18 ∧ r 18 ≤ 9223372036854775807 := hok.1 18 ((-9223372036854775808), 9223372036854775807) rfl
  have b19 : (-9223372036854775808) ≤ r 19 ∧ r 19 ≤ 9223372036854775807 := hok.1 19 ((-9223372036854775808), 9223372036854775807) rfl
  have b20 : 0 ≤ r 20 ∧ r 20 ≤ 40 := hok.1 20 (0, 40) rfl
  have b21 : (-2147483648) ≤ r 21 ∧ r 21 ≤ 2147483647 := hok.1 21 ((-2147483648), 2147483647) rfl
  have b22 : (-600) ≤ r 22 ∧ r 22 ≤ 600 := hok.1 22 ((-600), 600) rfl
  have b23 : (-600) ≤ r 23 ∧ r 23 ≤ 600 := hok.1 23 ((-600), 600) rfl
  have b24 : (-1000000) ≤ r 24 ∧ r 24 ≤ 1000000 := hok.1 24 ((-1000000), 1000000) rfl
  have b25 : (-1000000) ≤ r 25 ∧ r 25 ≤ 1000000 := hok.1 25 ((-1000000), 1000000) rfl
  have b26 : (-9223372036854775808) ≤ r 26 ∧ r 26 ≤ 9223372036854775807 := hok.1 26 ((-9223372036854775808), 9223372036854775807) rfl
  have b27 : (-9223372036854775808) ≤ r 27 ∧ r 27 ≤ 9223372036854775807 := hok.1 27 ((-9223372036854775808), 9223372036854775807) rfl
  have f0 : 0 ≤ ((1 * r 2 + ((-1) * r 0 + 0)) + (-1)) := hok.2 _ (List.mem_of_getElem? (i := 0) rfl)
  obtain ⟨hG, hgi⟩ := hG
  have hG : True := hG
  obtain ⟨h0, hh, e0, k0⟩ := hh
  have k0 : ∀ j, j ∉ [] → g j = h0 j := k0
  have e0 : ¬ (ye_d (h0 2) (h0 3) ((1 * ((1 * r 22 + 0) + 0) + 0) + 0) ((1 * ((1 * r 23 + 0) + 0) + 0) + 0) (((1 * r 0 + 0) + 0)).toNat = ((1 * ((1 * r 24 + 0) + 0) + 0) + 0) ∨ ye_d (h0 2) (h0 3) ((1 * ((1 * r 22 + 0) + 0) + 0) + 0) ((1 * ((1 * r 23 + 0) + 0) + 0) + 0) (((1 * r 0 + 0) + 0)).toNat = ((1 * ((1 * r 25 + 0) + 0) + 0) + 0)) := e0
  obtain ⟨h1, hh, e1, k1⟩ := hh
  have k1 : ∀ j, j ∉ [] → h0 j = h1 j := k1
  have e1 : (ye_fd (h1 2) (h1 3) (h1 4) (((1 * ((1 * r 2 + 0) + 0) + 0) + 0)).toNat ((1 * ((1 * r 3 + 0) + 0) + 0) + 0) ((1 * ((1 * r 9 + 0) + 0) + 0) + 0) (((1 * ((1 * r 4 + 0) + 0) + 0) + 0), ((1 * ((1 * r 10 + 0) + 0) + 0) + 0), ((1 * ((1 * r 11 + 0) + 0) + 0) + 0), ((1 * ((1 * r 12 + 0) + 0) + 0) + 0), ((1 * ((1 * r 13 + 0) + 0) + 0) + 0)) ((1 * ((1 * r 21 + 0) + 0) + 0) + 0) (((1 * ((1 * r 16 + 0) + 0) + 0) + 0), ((1 * ((1 * r 22 + 0) + 0) + 0) + 0), ((1 * ((1 * r 23 + 0) + 0) + 0) + 0), ((1 * ((1 * r 24 + 0) + 0) + 0) + 0), ((1 * ((1 * r 25 + 0) + 0) + 0) + 0)) ∧ ye_fo (h1 2) (h1 3) (((1 * ((1 * r 2 + 0) + 0) + 0) + 0)).toNat ((1 * ((1 * r 3 + 0) + 0) + 0) + 0) ((1 * ((1 * r 9 + 0) + 0) + 0) + 0) (((1 * ((1 * r 14 + 0) + 0) + 0) + 0), ((1 * ((1 * r 15 + 0) + 0) + 0) + 0), ((1 * ((1 * r 5 + 0) + 0) + 0) + 0), ((1 * ((1 * r 6 + 0) + 0) + 0) + 0), ((1 * ((1 * r 7 + 0) + 0) + 0) + 0), ((1 * ((1 * r 8 + 0) + 0) + 0) + 0)) (((1 * ((1 * r 16 + 0) + 0) + 0) + 0), ((1 * ((1 * r 22 + 0) + 0) + 0) + 0), ((1 * ((1 * r 23 + 0) + 0) + 0) + 0), ((1 * ((1 * r 24 + 0) + 0) + 0) + 0), ((1 * ((1 * r 25 + 0) + 0) + 0) + 0)) (((1 * ((1 * r 26 + 0) + 0) + 0) + 0), ((1 * ((1 * r 27 + 0) + 0) + 0) + 0), ((1 * ((1 * r 17 + 0) + 0) + 0) + 0), ((1 * ((1 * r 18 + 0) + 0) + 0) + 0), ((1 * ((1 * r 19 + 0) + 0) + 0) + 0), ((1 * ((1 * r 20 + 0) + 0) + 0) + 0))) := e1
  have hh : h1 = gi := hh
  subst hh
  refine yt_dalt (by decide) (by decide) ?_
  rw [show xk_137.2.1.2.1.1.length = 16 from rfl]
  show (ye_fd (g0 2) (g0 3) (g0 4) (((1 * ((1 * r 2 + 0) + 0) + 0) + 0)).toNat ((1 * ((1 * r 3 + 0) + 0) + 0) + 0) ((1 * ((1 * r 9 + 0) + 0) + 0) + 0) (((1 * ((1 * r 4 + 0) + 0) + 0) + 0), ((1 * ((1 * r 10 + 0) + 0) + 0) + 0), ((1 * ((1 * r 11 + 0) + 0) + 0) + 0), ((1 * ((1 * r 12 + 0) + 0) + 0) + 0), ((1 * ((1 * r 13 + 0) + 0) + 0) + 0)) ((1 * ((1 * r 21 + 0) + 0) + 0) + 0) (((1 * ((1 * r 16 + 0) + 0) + 0) + 0), ((1 * ((1 * r 22 + 0) + 0) + 0) + 0), ((1 * ((1 * r 23 + 0) + 0) + 0) + 0), ((1 * ((1 * r 24 + 0) + 0) + 0) + 0), ((1 * ((1 * r 25 + 0) + 0) + 0) + 0)) ∧ ye_fo (g0 2) (g0 3) (((1 * ((1 * r 2 + 0) + 0) + 0) + 0)).toNat ((1 * ((1 * r 3 + 0) + 0) + 0) + 0) ((1 * ((1 * r 9 + 0) + 0) + 0) + 0) (((1 * ((1 * r 14 + 0) + 0) + 0) + 0), ((1 * ((1 * r 15 + 0) + 0) + 0) + 0), ((1 * ((1 * r 5 + 0) + 0) + 0) + 0), ((1 * ((1 * r 6 + 0) + 0) + 0) + 0), ((1 * ((1 * r 7 + 0) + 0) + 0) + 0), ((1 * ((1 * r 8 + 0) + 0) + 0) + 0)) (((1 * ((1 * r 16 + 0) + 0) + 0) + 0), ((1 * ((1 * r 22 + 0) + 0) + 0) + 0), ((1 * ((1 * r 23 + 0) + 0) + 0) + 0), ((1 * ((1 * r 24 + 0) + 0) + 0) + 0), ((1 * ((1 * r 25 + 0) + 0) + 0) + 0)) (((1 * ((1 * r 26 + 0) + 0) + 0) + 0), ((1 * ((1 * r 27 + 0) + 0) + 0) + 0), ((1 * ((1 * r 17 + 0) + 0) + 0) + 0), ((1 * ((1 * r 18 + 0) + 0) + 0) + 0), ((1 * ((1 * r 19 + 0) + 0) + 0) + 0), ((1 * ((1 * r 20 + 0) + 0) + 0) + 0))) ∧ ((0 : Int) + 0) = ye_rs (g0 2) (g0 3) ((1 * ((1 * r 2 + 0) + 0) + 0) + 0) ((1 * r 0 + 0) + 0) (((1 * ((1 * r 16 + 0) + 0) + 0) + 0), ((1 * ((1 * r 22 + 0) + 0) + 0) + 0), ((1 * ((1 * r 23 + 0) + 0) + 0) + 0), ((1 * ((1 * r 24 + 0) + 0) + 0) + 0), ((1 * ((1 * r 25 + 0) + 0) + 0) + 0))
  try simp only [Int.one_mul, Int.zero_add, Int.add_zero]
  try simp only [Int.one_mul, Int.zero_add, Int.add_zero] at e1
  rw [hgi] at e1
  refine ⟨e1, ?_⟩
  unfold ye_rs
  dsimp only
  try simp only [Int.one_mul, Int.zero_add, Int.add_zero] at e0
  rw [k1 2 (by decide), k1 3 (by decide), hgi] at e0
  rw [if_neg (by omega), if_neg e0]
theorem xw_137_0_4 : yt_hold xT_137 xk_137 xq_137.2.2.1 xG_137 xP_137 xU_137 16 xk_137.2.1.2.2.2 (fun g0 r g => xR_137 r g0 ∧ g = g0) (1000, ([(0, 39), ((-2147483648), 2147483647), (1, 40), ((-2147483648), 2147483647), (0, 1), ((-9223372036854775808), 9223372036854775807), ((-9223372036854775808), 9223372036854775807), ((-9223372036854775808), 9223372036854775807), (0, 40), ((-2147483648), 2147483647), ((-600), 600), ((-600), 600), ((-1000000), 1000000), ((-1000000), 1000000), ((-9223372036854775808), 9223372036854775807), ((-9223372036854775808), 9223372036854775807), (1, 1), ((-9223372036854775808), 9223372036854775807), ((-9223372036854775808), 9223372036854775807), ((-9223372036854775808), 9223372036854775807), (0, 40), ((-2147483648), 2147483647), ((-600), 600), ((-600), 600), ((-1000000), 1000000), ((-1000000), 1000000), ((-9223372036854775808), 9223372036854775807), ((-9223372036854775808), 9223372036854775807)], [([(2, 1), (0, (-1))], (-1))]), [([], 1), ([(16, 1)], 0), ([(17, 1)], 0), ([(18, 1)], 0), ([(19, 1)], 0), ([(20, 1)], 0), ([(21, 1)], 0), ([(22, 1)], 0), ([(23, 1)], 0), ([(24, 1)], 0), ([(25, 1)], 0), ([(26, 1)], 0), ([(27, 1)], 0)], [], [.inr (.inr (.inl (314, 1, [([(0, 1)], 0), ([(16, 1)], 0), ([(17, 1)], 0), ([(18, 1)], 0), ([(19, 1)], 0), ([(20, 1)], 0), ([(21, 1)], 0), ([(22, 1)], 0), ([(23, 1)], 0), ([(24, 1)], 0), ([(25, 1)], 0), ([(2, 1)], 0), ([(3, 1)], 0)], [5, 1, 2, 3, 6, 4, 7], []))), .inr (.inr (.inl (305, 0, [([(4, 1)], 0), ([(5, 1)], 0), ([(6, 1)], 0), ([(7, 1)], 0), ([(8, 1)], 0), ([(9, 1)], 0), ([(10, 1)], 0), ([(11, 1)], 0), ([(12, 1)], 0), ([(13, 1)], 0), ([(14, 1)], 0), ([(15, 1)], 0), ([(2, 1)], 0), ([(3, 1)], 0), ([(16, 1)], 0), ([(17, 1)], 0), ([(18, 1)], 0), ([(19, 1)], 0), ([(20, 1)], 0), ([(21, 1)], 0), ([(22, 1)], 0), ([(23, 1)], 0), ([(24, 1)], 0), ([(25, 1)], 0), ([(26, 1)], 0), ([(27, 1)], 0)], [5, 6, 1, 2, 3, 4, 7], [])))]) := by
  intro g0 r gi g hok hh hars hfr hG
  have b0 : 0 ≤ r 0 ∧ r 0 ≤ 39 := hok.1 0 (0, 39) rfl
  have b2 : 1 ≤ r 2 ∧ r 2 ≤ 40 := hok.1 2 (1, 40) rfl
  have b16 : 1 ≤ r 16 ∧ r 16 ≤ 1 := hok.1 16 (1, 1) rfl
  have b17 : (-9223372036854775808) ≤ r 17 ∧ r 17 ≤ 9223372036854775807 := hok.1 17 ((-9223372036854775808), 9223372036854775807) rfl
  have b18 : (-9223372036854775808) ≤ r 18 ∧ r 18 ≤ 9223372036854775807 := hok.1 18 ((-9223372036854775808), 9223372036854775807) rfl
  have b19 : (-9223372036854775808) ≤ r 19 ∧ r 19 ≤ 9223372036854775807 := hok.1 19 ((-9223372036854775808), 9223372036854775807) rfl
  have b20 : 0 ≤ r 20 ∧ r 20 ≤ 40 := hok.1 20 (0, 40) rfl
  have b21 : (-2147483648) ≤ r 21 ∧ r 21 ≤ 2147483647 := hok.1 21 ((-2147483648), 2147483647) rfl
  have b22 : (-600) ≤ r 22 ∧ r 22 ≤ 600 := hok.1 22 ((-600), 600) rfl
  have b23 : (-600) ≤ r 23 ∧ r 23 ≤ 600 := hok.1 23 ((-600), 600) rfl
  have b24 : (-1000000) ≤ r 24 ∧ r 24 ≤ 1000000 := hok.1 24 ((-1000000), 1000000) rfl
  have b25 : (-1000000) ≤ r 25 ∧ r 25 ≤ 1000000 := hok.1 25 ((-1000000), 1000000) rfl
  have b26 : (-9223372036854775808) ≤ r 26 ∧ r 26 ≤ 9223372036854775807 := hok.1 26 ((-9223372036854775808), 9223372036854775807) rfl
  have b27 : (-9223372036854775808) ≤ r 27 ∧ r 27 ≤ 9223372036854775807 := hok.1 27 ((-9223372036854775808), 9223372036854775807) rfl
  have f0 : 0 ≤ ((1 * r 2 + ((-1) * r 0 + 0)) + (-1)) := hok.2 _ (List.mem_of_getElem? (i := 0) rfl)
  obtain ⟨hG, hgi⟩ := hG
  have hG : True := hG
  obtain ⟨h0, hh, e0, k0⟩ := hh
  have k0 : ∀ j, j ∉ [] → g j = h0 j := k0
  have e0 : (ye_d (h0 2) (h0 3) ((1 * ((1 * r 22 + 0) + 0) + 0) + 0) ((1 * ((1 * r 23 + 0) + 0) + 0) + 0) (((1 * r 0 + 0) + 0)).toNat = ((1 * ((1 * r 24 + 0) + 0) + 0) + 0) ∨ ye_d (h0 2) (h0 3) ((1 * ((1 * r 22 + 0) + 0) + 0) + 0) ((1 * ((1 * r 23 + 0) + 0) + 0) + 0) (((1 * r 0 + 0) + 0)).toNat = ((1 * ((1 * r 25 + 0) + 0) + 0) + 0)) := e0
  obtain ⟨h1, hh, e1, k1⟩ := hh
  have k1 : ∀ j, j ∉ [] → h0 j = h1 j := k1
  have e1 : (ye_fd (h1 2) (h1 3) (h1 4) (((1 * ((1 * r 2 + 0) + 0) + 0) + 0)).toNat ((1 * ((1 * r 3 + 0) + 0) + 0) + 0) ((1 * ((1 * r 9 + 0) + 0) + 0) + 0) (((1 * ((1 * r 4 + 0) + 0) + 0) + 0), ((1 * ((1 * r 10 + 0) + 0) + 0) + 0), ((1 * ((1 * r 11 + 0) + 0) + 0) + 0), ((1 * ((1 * r 12 + 0) + 0) + 0) + 0), ((1 * ((1 * r 13 + 0) + 0) + 0) + 0)) ((1 * ((1 * r 21 + 0) + 0) + 0) + 0) (((1 * ((1 * r 16 + 0) + 0) + 0) + 0), ((1 * ((1 * r 22 + 0) + 0) + 0) + 0), ((1 * ((1 * r 23 + 0) + 0) + 0) + 0), ((1 * ((1 * r 24 + 0) + 0) + 0) + 0), ((1 * ((1 * r 25 + 0) + 0) + 0) + 0)) ∧ ye_fo (h1 2) (h1 3) (((1 * ((1 * r 2 + 0) + 0) + 0) + 0)).toNat ((1 * ((1 * r 3 + 0) + 0) + 0) + 0) ((1 * ((1 * r 9 + 0) + 0) + 0) + 0) (((1 * ((1 * r 14 + 0) + 0) + 0) + 0), ((1 * ((1 * r 15 + 0) + 0) + 0) + 0), ((1 * ((1 * r 5 + 0) + 0) + 0) + 0), ((1 * ((1 * r 6 + 0) + 0) + 0) + 0), ((1 * ((1 * r 7 + 0) + 0) + 0) + 0), ((1 * ((1 * r 8 + 0) + 0) + 0) + 0)) (((1 * ((1 * r 16 + 0) + 0) + 0) + 0), ((1 * ((1 * r 22 + 0) + 0) + 0) + 0), ((1 * ((1 * r 23 + 0) + 0) + 0) + 0), ((1 * ((1 * r 24 + 0) + 0) + 0) + 0), ((1 * ((1 * r 25 + 0) + 0) + 0) + 0)) (((1 * ((1 * r 26 + 0) + 0) + 0) + 0), ((1 * ((1 * r 27 + 0) + 0) + 0) + 0), ((1 * ((1 * r 17 + 0) + 0) + 0) + 0), ((1 * ((1 * r 18 + 0) + 0) + 0) + 0), ((1 * ((1 * r 19 + 0) + 0) + 0) + 0), ((1 * ((1 * r 20 + 0) + 0) + 0) + 0))) := e1
  have hh : h1 = gi := hh
  subst hh
  refine yt_dalt (by decide) (by decide) ?_
  rw [show xk_137.2.1.2.1.1.length = 16 from rfl]
  show (ye_fd (g0 2) (g0 3) (g0 4) (((1 * ((1 * r 2 + 0) + 0) + 0) + 0)).toNat ((1 * ((1 * r 3 + 0) + 0) + 0) + 0) ((1 * ((1 * r 9 + 0) + 0) + 0) + 0) (((1 * ((1 * r 4 + 0) + 0) + 0) + 0), ((1 * ((1 * r 10 + 0) + 0) + 0) + 0), ((1 * ((1 * r 11 + 0) + 0) + 0) + 0), ((1 * ((1 * r 12 + 0) + 0) + 0) + 0), ((1 * ((1 * r 13 + 0) + 0) + 0) + 0)) ((1 * ((1 * r 21 + 0) + 0) + 0) + 0) (((1 * ((1 * r 16 + 0) + 0) + 0) + 0), ((1 * ((1 * r 22 + 0) + 0) + 0) + 0), ((1 * ((1 * r 23 + 0) + 0) + 0) + 0), ((1 * ((1 * r 24 + 0) + 0) + 0) + 0), ((1 * ((1 * r 25 + 0) + 0) + 0) + 0)) ∧ ye_fo (g0 2) (g0 3) (((1 * ((1 * r 2 + 0) + 0) + 0) + 0)).toNat ((1 * ((1 * r 3 + 0) + 0) + 0) + 0) ((1 * ((1 * r 9 + 0) + 0) + 0) + 0) (((1 * ((1 * r 14 + 0) + 0) + 0) + 0), ((1 * ((1 * r 15 + 0) + 0) + 0) + 0), ((1 * ((1 * r 5 + 0) + 0) + 0) + 0), ((1 * ((1 * r 6 + 0) + 0) + 0) + 0), ((1 * ((1 * r 7 + 0) + 0) + 0) + 0), ((1 * ((1 * r 8 + 0) + 0) + 0) + 0)) (((1 * ((1 * r 16 + 0) + 0) + 0) + 0), ((1 * ((1 * r 22 + 0) + 0) + 0) + 0), ((1 * ((1 * r 23 + 0) + 0) + 0) + 0), ((1 * ((1 * r 24 + 0) + 0) + 0) + 0), ((1 * ((1 * r 25 + 0) + 0) + 0) + 0)) (((1 * ((1 * r 26 + 0) + 0) + 0) + 0), ((1 * ((1 * r 27 + 0) + 0) + 0) + 0), ((1 * ((1 * r 17 + 0) + 0) + 0) + 0), ((1 * ((1 * r 18 + 0) + 0) + 0) + 0), ((1 * ((1 * r 19 + 0) + 0) + 0) + 0), ((1 * ((1 * r 20 + 0) + 0) + 0) + 0))) ∧ ((0 : Int) + 1) = ye_rs (g0 2) (g0 3) ((1 * ((1 * r 2 + 0) + 0) + 0) + 0) ((1 * r 0 + 0) + 0) (((1 * ((1 * r 16 + 0) + 0) + 0) + 0), ((1 * ((1 * r 22 + 0) + 0) + 0) + 0), ((1 * ((1 * r 23 + 0) + 0) + 0) + 0), ((1 * ((1 * r 24 + 0) + 0) + 0) + 0), ((1 * ((1 * r 25 + 0) + 0) + 0) + 0))
  try simp only [Int.one_mul, Int.zero_add, Int.add_zero]
  try simp only [Int.one_mul, Int.zero_add, Int.add_zero] at e1
  rw [hgi] at e1
  refine ⟨e1, ?_⟩
  unfold ye_rs
  dsimp only
  try simp only [Int.one_mul, Int.zero_add, Int.add_zero] at e0
  rw [k1 2 (by decide), k1 3 (by decide), hgi] at e0
  rw [if_neg (by omega), if_pos e0]
theorem xn_137 : ∀ (j : Nat) (q : Nat × yt_T), xq_137.2.2.1[j]? = some q → q.2.2.2 = false → ∀ g0 r g, xG_137 j g0 r g
  | n + 0, q, hq, _ => by cases hq
theorem xs_137 : ∀ j, xq_137.2.2.2.getD j false = false → ∀ r g g', xP_137 j r g g'
  | 0, hf => by cases hf
  | n + 1, _ => fun _ _ _ => trivial
theorem xc_137 {l : Launch} {D : va_G} {cT : Nat → ClassId} {tys : List (ClassId × FieldType)} (hty : yx_Ty tys cT) : yt_Con l D vwCl cT tys yG yw_s56 xk_137 xR_137 xP_137 := yx_sem (calls := xa_137) (Z := xq_137) (tb := xT_137) (pt := xU_137) (Ga := xG_137) (vs := xv_137) (fun _ _ _ _ => trivial) 300 (by decide +kernel) yz_X11_side_ok hty (yl_lkX11 _) (yl_cqkX11 _) (List.forall_mem_cons.mpr ⟨⟨xc_90 hty, yg_CLv rfl rfl rfl yl_wX11_190 yd_yX10_find, fun _ _ _ => trivial⟩, List.forall_mem_cons.mpr ⟨⟨xc_48 hty, yg_CLv rfl rfl rfl yl_wX11_118 yd_yX6_has, fun _ _ _ => trivial⟩, List.forall_mem_cons.mpr ⟨⟨xc_85 hty, yg_CLv rfl rfl rfl yl_wX11_222 yd_yX10_isAtSide, fun _ _ _ => trivial⟩, fun _ h => absurd h List.not_mem_nil⟩⟩⟩) (xn_137) (xs_137) (by decide +kernel) (List.forall_mem_cons.mpr ⟨xw_137_0_0, List.forall_mem_cons.mpr ⟨xw_137_0_1, List.forall_mem_cons.mpr ⟨xw_137_0_2, List.forall_mem_cons.mpr ⟨xw_137_0_3, List.forall_mem_cons.mpr ⟨xw_137_0_4, fun _ h => absurd h List.not_mem_nil⟩⟩⟩⟩⟩) (trivial)
noncomputable def xf_138 : ys_F := (yw_f3 0, yw_r3)
noncomputable def xk_138 : ys_K := (((yX11_status, cX11_status, 1, (some .int)), (0, 0)), ([.inr (some 0)], ([] ++ yw_e3, []), xf_138), ([([], [], (xf_138.1, xf_138.2), some (.inl (.inl ([(0, 1)], 0))))], []))
noncomputable def xq_138 : yt_Q := (yz_X11_status, (yl_flX11, yl_ciX11, yl_cjX11, yl_cpX11, yl_cqX11), [], [])
noncomputable def xa_138 : List yt_CE := []
theorem xc_138 {l : Launch} {D : va_G} {cT : Nat → ClassId} {tys : List (ClassId × FieldType)} (hty : yx_Ty tys cT) : yx_C l D cT tys yw_s3 xk_138 := yx_method (calls := xa_138) (Z := xq_138) 300 (by decide +kernel) yz_X11_status_ok hty (yl_lkX11 _) (yl_cqkX11 _) (fun _ h => absurd h List.not_mem_nil) (by decide +kernel)
noncomputable def yw_s72 : List ys_C := [.inl 11, .inl 9, .inr (0, 12, []), .inr (0, 12, []), .inr (0, 12, []), .inr (1, 12, []), .inr (1, 12, [])]
noncomputable def yw_f72 (n : Nat) : List (List ys_V) := [[.inr (some 7), .inr (some 8), .inr (some 9), .inr (some 10), .inr (some 11), .inr (some 12), .inr (some 13), .inr (some 14), .inr (some 15), .inr (some 16), .inr (some 17), .inr (some 1), .inr (some 22), .inr (some 23), .inl (.inl ([(n + 0, 1)], 0))], [.inr (some 2), .inr (some 3), .inr (some 4), .inr (some 5), .inr (some 6), .inr (some 18), .inl (.inl ([(n + 1, 1)], 0)), .inl (.inl ([(n + 2, 1)], 0)), .inl (.inl ([(n + 3, 1)], 0)), .inr (some 19), .inr (some 20), .inr (some 21), .inl (.inl ([(n + 4, 1)], 0)), .inl (.inl ([(n + 5, 1)], 0)), .inl (.inl ([(n + 6, 1)], 0)), .inl (.inr ([(n + 7, 1)], 0)), .inl (.inr ([(n + 8, 1)], 0))], [], [], [], [], []]
noncomputable def yw_e72 : ys_E := [((-2147483648), 2147483647), (0, 40), (0, 12), ((-2147483648), 2147483647), ((-2147483648), 2147483647), ((-2147483648), 2147483647), ((-2147483648), 2147483647), ((-9223372036854775808), 9223372036854775807), ((-9223372036854775808), 9223372036854775807)]
noncomputable def yw_r72 : List ys_R := [((0, 0), []), ((0, 0), []), (((-2147483648), 2147483647), []), (((-2147483648), 2147483647), []), (((-2147483648), 2147483647), []), (((-9223372036854775808), 9223372036854775807), []), (((-9223372036854775808), 9223372036854775807), [])]
noncomputable def xf_139 : ys_F := (yw_f72 2, yw_r72)
noncomputable def xk_139 : ys_K := (((yX11_step, cX11_step, 3, (some .long)), (0, 0)), ([.inr (some 0), .inl (.inl ([(0, 1)], 0)), .inl (.inl ([(1, 1)], 0))], ([((-2147483648), 2147483647), ((-2147483648), 2147483647)] ++ yw_e72, []), xf_139), ([([((-9223372036854775808), 9223372036854775807)], [], (xf_139.1, xf_139.2), some (.inl (.inr ([(11, 1)], 0))))], []))
noncomputable def xq_139 : yt_Q := (yz_X11_step, (yl_flX11, yl_ciX11, yl_cjX11, yl_cpX11, yl_cqX11), [], [])
noncomputable def xa_139 : List yt_CE := []
theorem xc_139 {l : Launch} {D : va_G} {cT : Nat → ClassId} {tys : List (ClassId × FieldType)} (hty : yx_Ty tys cT) : yx_C l D cT tys yw_s72 xk_139 := yx_method (calls := xa_139) (Z := xq_139) 300 (by decide +kernel) yz_X11_step_ok hty (yl_lkX11 _) (yl_cqkX11 _) (fun _ h => absurd h List.not_mem_nil) (by decide +kernel)
