noncomputable def yw_s74 : List ys_C := [.inl 9, .inr (1, 40, []), .inl 6, .inr (0, 40, []), .inr (0, 40, []), .inr (0, 40, [])]
noncomputable def yw_f74 (n : Nat) : List (List ys_V) := [[.inr (some 6), .inr (some 7), .inr (some 8), .inr (some 9), .inr (some 10), .inr (some 1), .inl (.inl ([(n + 0, 1)], 0)), .inl (.inl ([(n + 1, 1)], 0)), .inl (.inl ([(n + 2, 1)], 0)), .inr (some 11), .inr (some 12), .inr (some 13), .inl (.inl ([(n + 3, 1)], 0)), .inl (.inl ([(n + 4, 1)], 0)), .inl (.inl ([(n + 5, 1)], 0)), .inl (.inr ([(n + 6, 1)], 0)), .inl (.inr ([(n + 7, 1)], 0))], [], [.inr (some 3), .inr (some 4), .inr (some 5), .inr (some 14), .inl (.inl ([(n + 8, 1)], 0)), .inl (.inl ([(n + 9, 1)], 0))], [], [], []]
noncomputable def yw_e74 : ys_E := [(0, 40), (0, 12), ((-2147483648), 2147483647), ((-2147483648), 2147483647), ((-2147483648), 2147483647), ((-2147483648), 2147483647), ((-9223372036854775808), 9223372036854775807), ((-9223372036854775808), 9223372036854775807), (0, 40), ((-2147483648), 2147483647)]
noncomputable def yw_r74 : List ys_R := [((0, 0), []), (((-9223372036854775808), 9223372036854775807), []), ((0, 0), []), (((-2147483648), 2147483647), []), (((-2147483648), 2147483647), []), (((-2147483648), 2147483647), [])]
noncomputable def xf_140 : ys_F := (yw_f74 2, yw_r74)
noncomputable def xk_140 : ys_K := (((yX9_weigh, cX9_weigh, 7, none), (1, 26)), ([.inr (some 0), .inr (some 2), .inl (.inl ([(0, 1)], 0)), .inl (.inl ([(1, 1)], 0))], ([((-2147483648), 2147483647), ((-2147483648), 2147483647)] ++ yw_e74, []), xf_140), ([([((-2147483648), 2147483647), ((-2147483648), 2147483647), ((-2147483648), 2147483647), ((-9223372036854775808), 9223372036854775807)], [], ((ys_fs xf_140.1 [(0, 12, .inl (.inl ([(12, 1)], 0))), (0, 13, .inl (.inl ([(13, 1)], 0))), (0, 14, .inl (.inl ([(14, 1)], 0))), (0, 15, .inl (.inr ([(15, 1)], 0)))]), xf_140.2), none)], []))
noncomputable def xq_140 : yt_Q := (yz_X9_weigh, (yl_flX9, yl_ciX9, yl_cjX9, yl_cpX9, yl_cqX9), [(6, ([((-9223372036854775808), 9223372036854775807), (0, 40)], [], (xf_140.1, xf_140.2), [(0, .inr (some 0)), (1, .inr (some 2)), (2, .inl (.inl ([(0, 1)], 0))), (3, .inl (.inl ([(1, 1)], 0))), (4, .inl (.inr ([(12, 1)], 0))), (6, .inl (.inl ([(13, 1)], 0)))], [], ([(13, (-1))], 40)), [], false)], [])
noncomputable def xa_140 : List yt_CE := [(((98, true), (0, false, [])), (yw_s2, xk_138)), (((105, false), (0, false, [0, 6, 7, 8, 9, 10, 1, 11, 12, 13])), (yw_s73, xk_139))]
theorem xc_140 {l : Launch} {D : va_G} {cT : Nat → ClassId} {tys : List (ClassId × FieldType)} (hty : yx_Ty tys cT) : yx_C l D cT tys yw_s74 xk_140 := yx_method (calls := xa_140) (Z := xq_140) 300 (by decide +kernel) yz_X9_weigh_ok hty (yl_lkX9 _) (yl_cqkX9 _) (List.forall_mem_cons.mpr ⟨⟨xc_138 hty, yg_CLs yl_wX9_98 yd_yX9_saysYes⟩, List.forall_mem_cons.mpr ⟨⟨xc_139 hty, yg_CLv rfl rfl rfl yl_wX9_105 yd_yX9_offer⟩, fun _ h => absurd h List.not_mem_nil⟩⟩) (by decide +kernel)
noncomputable def xf_141 : ys_F := (yw_f74 0, yw_r74)
noncomputable def xk_141 : ys_K := (((yX9_choose, cX9_choose, 4, none), (2, 52)), ([.inr (some 0), .inr (some 2)], ([] ++ yw_e74, []), xf_141), ([([((-2147483648), 2147483647), ((-2147483648), 2147483647), ((-2147483648), 2147483647), ((-9223372036854775808), 9223372036854775807), ((-9223372036854775808), 9223372036854775807)], [], ((ys_fs xf_141.1 [(0, 12, .inl (.inl ([(10, 1)], 0))), (0, 13, .inl (.inl ([(11, 1)], 0))), (0, 14, .inl (.inl ([(12, 1)], 0))), (0, 15, .inl (.inr ([(13, 1)], 0))), (0, 16, .inl (.inr ([(14, 1)], 0)))]), xf_141.2), none)], []))
noncomputable def xq_141 : yt_Q := (yz_X9_choose, (yl_flX9, yl_ciX9, yl_cjX9, yl_cpX9, yl_cqX9), [(48, ([(0, 2), ((-2147483648), 2147483647), ((-2147483648), 2147483647), ((-2147483648), 2147483647), ((-9223372036854775808), 9223372036854775807), ((-9223372036854775808), 9223372036854775807)], [], ((ys_fs xf_141.1 [(0, 12, .inl (.inl ([(11, 1)], 0))), (0, 13, .inl (.inl ([(12, 1)], 0))), (0, 14, .inl (.inl ([(13, 1)], 0))), (0, 15, .inl (.inr ([(14, 1)], 0))), (0, 16, .inl (.inr ([(15, 1)], 0)))]), xf_141.2), [(0, .inr (some 0)), (1, .inr (some 2)), (2, .inl (.inl ([(10, 1)], 0)))], [], ([(10, (-43))], 128)), [], false), (64, ([(0, 1), (0, 40), ((-2147483648), 2147483647), ((-2147483648), 2147483647), ((-2147483648), 2147483647), ((-9223372036854775808), 9223372036854775807), ((-9223372036854775808), 9223372036854775807)], [], ((ys_fs xf_141.1 [(0, 12, .inl (.inl ([(12, 1)], 0))), (0, 13, .inl (.inl ([(13, 1)], 0))), (0, 14, .inl (.inl ([(14, 1)], 0))), (0, 15, .inl (.inr ([(15, 1)], 0))), (0, 16, .inl (.inr ([(16, 1)], 0)))]), xf_141.2), [(0, .inr (some 0)), (1, .inr (some 2)), (2, .inl (.inl ([(10, 1)], 0))), (3, .inl (.inl ([(11, 1)], 0)))], [], ([(10, (-43)), (11, (-1))], 126)), [], false), (7, ([(0, 40), ((-9223372036854775808), 9223372036854775807)], [], ((ys_fs xf_141.1 [(0, 16, .inl (.inr ([(11, 1)], 0)))]), xf_141.2), [(0, .inr (some 0)), (1, .inr (some 2)), (2, .inl (.inl ([(10, 1)], 0)))], [], ([(10, (-1))], 212)), [], false)], [])
noncomputable def xa_141 : List yt_CE := [(((88, false), (0, false, [0, 1, 2, 3, 4, 5, 6, 7, 8, 9, 10, 11, 12, 13, 14])), (yw_s74, xk_140))]
theorem xc_141 {l : Launch} {D : va_G} {cT : Nat → ClassId} {tys : List (ClassId × FieldType)} (hty : yx_Ty tys cT) : yx_C l D cT tys yw_s74 xk_141 := yx_method (calls := xa_141) (Z := xq_141) 300 (by decide +kernel) yz_X9_choose_ok hty (yl_lkX9 _) (yl_cqkX9 _) (List.forall_mem_cons.mpr ⟨⟨xc_140 hty, yg_CLv rfl rfl rfl yl_wX9_88 yd_yX9_weigh⟩, fun _ h => absurd h List.not_mem_nil⟩) (by decide +kernel)
noncomputable def yw_s75 : List ys_C := [.inl 9, .inr (0, 12, []), .inr (0, 12, []), .inr (0, 12, []), .inr (1, 12, []), .inr (1, 12, [])]
noncomputable def yw_f75 (n : Nat) : List (List ys_V) := [[.inr (some 1), .inr (some 2), .inr (some 3), .inr (some 4), .inr (some 5), .inr (some 6), .inl (.inl ([(n + 0, 1)], 0)), .inl (.inl ([(n + 1, 1)], 0)), .inl (.inl ([(n + 2, 1)], 0)), .inr (some 7), .inr (some 8), .inr (some 9), .inl (.inl ([(n + 3, 1)], 0)), .inl (.inl ([(n + 4, 1)], 0)), .inl (.inl ([(n + 5, 1)], 0)), .inl (.inr ([(n + 6, 1)], 0)), .inl (.inr ([(n + 7, 1)], 0))], [], [], [], [], []]
noncomputable def yw_e75 : ys_E := [(0, 40), (0, 12), ((-2147483648), 2147483647), ((-2147483648), 2147483647), ((-2147483648), 2147483647), ((-2147483648), 2147483647), ((-9223372036854775808), 9223372036854775807), ((-9223372036854775808), 9223372036854775807)]
noncomputable def yw_r75 : List ys_R := [((0, 0), []), (((-2147483648), 2147483647), []), (((-2147483648), 2147483647), []), (((-2147483648), 2147483647), []), (((-9223372036854775808), 9223372036854775807), []), (((-9223372036854775808), 9223372036854775807), [])]
noncomputable def xf_142 : ys_F := (yw_f75 0, yw_r75)
noncomputable def xk_142 : ys_K := (((yX9_keepChosen, cX9_keepChosen, 1, none), (0, 0)), ([.inr (some 0)], ([] ++ yw_e75, []), xf_142), ([([(1, 12)], [], ((ys_fs xf_142.1 [(0, 7, .inl (.inl ([(8, 1)], 0)))]), xf_142.2), none)], [1, 2, 3, 4, 5]))
noncomputable def xq_142 : yt_Q := (yz_X9_keepChosen, (yl_flX9, yl_ciX9, yl_cjX9, yl_cpX9, yl_cqX9), [], [])
noncomputable def xa_142 : List yt_CE := []
theorem xc_142 {l : Launch} {D : va_G} {cT : Nat → ClassId} {tys : List (ClassId × FieldType)} (hty : yx_Ty tys cT) : yx_C l D cT tys yw_s75 xk_142 := yx_method (calls := xa_142) (Z := xq_142) 300 (by decide +kernel) yz_X9_keepChosen_ok hty (yl_lkX9 _) (yl_cqkX9 _) (fun _ h => absurd h List.not_mem_nil) (by decide +kernel)
noncomputable def yw_s76 : List ys_C := [.inl 9, .inl 6, .inr (0, 40, []), .inr (0, 40, []), .inr (0, 40, [])]
noncomputable def yw_f76 (n : Nat) : List (List ys_V) := [[.inr (some 5), .inr (some 6), .inr (some 7), .inr (some 8), .inr (some 9), .inr (some 10), .inl (.inl ([(n + 0, 1)], 0)), .inl (.inl ([(n + 1, 1)], 0)), .inl (.inl ([(n + 2, 1)], 0)), .inr (some 11), .inr (some 12), .inr (some 13), .inl (.inl ([(n + 3, 1)], 0)), .inl (.inl ([(n + 4, 1)], 0)), .inl (.inl ([(n + 5, 1)], 0)), .inl (.inr ([(n + 6, 1)], 0)), .inl (.inr ([(n + 7, 1)], 0))], [.inr (some 2), .inr (some 3), .inr (some 4), .inr (some 14), .inl (.inl ([(n + 8, 1)], 0)), .inl (.inl ([(n + 9, 1)], 0))], [], [], []]
noncomputable def yw_e76 : ys_E := [(0, 40), (0, 12), ((-2147483648), 2147483647), ((-2147483648), 2147483647), ((-2147483648), 2147483647), ((-2147483648), 2147483647), ((-9223372036854775808), 9223372036854775807), ((-9223372036854775808), 9223372036854775807), (0, 40), ((-2147483648), 2147483647)]
noncomputable def yw_r76 : List ys_R := [((0, 0), []), ((0, 0), []), (((-2147483648), 2147483647), []), (((-2147483648), 2147483647), []), (((-2147483648), 2147483647), [])]
noncomputable def xf_143 : ys_F := (yw_f76 1, yw_r76)
noncomputable def xk_143 : ys_K := (((yX9_isWrong, cX9_isWrong, 3, (some .boolean)), (1, 25)), ([.inr (some 0), .inr (some 1), .inl (.inl ([(0, 1)], 0))], ([(0, 39)] ++ yw_e76, []), xf_143), ([([], [], (xf_143.1, xf_143.2), some (.inl (.inl ([], 0)))), ([], [], (xf_143.1, xf_143.2), some (.inl (.inl ([], 1))))], []))
noncomputable def xq_143 : yt_Q := (yz_X9_isWrong, (yl_flX9, yl_ciX9, yl_cjX9, yl_cpX9, yl_cqX9), [], [])
noncomputable def xa_143 : List yt_CE := [(((98, true), (0, false, [])), (yw_s2, xk_138))]
theorem xc_143 {l : Launch} {D : va_G} {cT : Nat → ClassId} {tys : List (ClassId × FieldType)} (hty : yx_Ty tys cT) : yx_C l D cT tys yw_s76 xk_143 := yx_method (calls := xa_143) (Z := xq_143) 300 (by decide +kernel) yz_X9_isWrong_ok hty (yl_lkX9 _) (yl_cqkX9 _) (List.forall_mem_cons.mpr ⟨⟨xc_138 hty, yg_CLs yl_wX9_98 yd_yX9_saysYes⟩, fun _ h => absurd h List.not_mem_nil⟩) (by decide +kernel)
noncomputable def xf_144 : ys_F := (yw_f74 1, yw_r74)
noncomputable def xk_144 : ys_K := (((yX9_commonMass, cX9_commonMass, 6, (some .long)), (2, 47)), ([.inr (some 0), .inr (some 2), .inl (.inl ([(0, 1)], 0))], ([((-2147483648), 2147483647)] ++ yw_e74, []), xf_144), ([([(1, 9223372036854775807)], [], (xf_144.1, xf_144.2), some (.inl (.inr ([(11, 1)], 0))))], []))
noncomputable def xq_144 : yt_Q := (yz_X9_commonMass, (yl_flX9, yl_ciX9, yl_cjX9, yl_cpX9, yl_cqX9), [(5, ([(0, 9223372036854775807), (0, 40)], [], (xf_144.1, xf_144.2), [(0, .inr (some 0)), (1, .inr (some 2)), (2, .inl (.inl ([(0, 1)], 0))), (3, .inl (.inr ([(11, 1)], 0))), (5, .inl (.inl ([(12, 1)], 0)))], [], ([(12, (-1))], 40)), [], false)], [])
noncomputable def xa_144 : List yt_CE := [(((109, false), (0, false, [0, 2, 3, 4, 5, 6, 7, 8, 9, 10, 1, 11, 12, 13, 14])), (yw_s76, xk_143)), (((113, true), (0, false, [])), (yw_s2, xk_81))]
theorem xc_144 {l : Launch} {D : va_G} {cT : Nat → ClassId} {tys : List (ClassId × FieldType)} (hty : yx_Ty tys cT) : yx_C l D cT tys yw_s74 xk_144 := yx_method (calls := xa_144) (Z := xq_144) 300 (by decide +kernel) yz_X9_commonMass_ok hty (yl_lkX9 _) (yl_cqkX9 _) (List.forall_mem_cons.mpr ⟨⟨xc_143 hty, yg_CLv rfl rfl rfl yl_wX9_109 yd_yX9_isWrong⟩, List.forall_mem_cons.mpr ⟨⟨xc_81 hty, yg_CLs yl_wX9_113 yd_yX1_common⟩, fun _ h => absurd h List.not_mem_nil⟩⟩) (by decide +kernel)
noncomputable def yw_s77 : List ys_C := [.inl 9, .inr (1, 40, []), .inr (1, 40, []), .inl 6, .inr (0, 40, []), .inr (0, 40, []), .inr (0, 40, [])]
noncomputable def yw_f77 (n : Nat) : List (List ys_V) := [[.inr (some 7), .inr (some 8), .inr (some 9), .inr (some 10), .inr (some 11), .inr (some 1), .inl (.inl ([(n + 0, 1)], 0)), .inl (.inl ([(n + 1, 1)], 0)), .inl (.inl ([(n + 2, 1)], 0)), .inr (some 2), .inr (some 12), .inr (some 13), .inl (.inl ([(n + 3, 1)], 0)), .inl (.inl ([(n + 4, 1)], 0)), .inl (.inl ([(n + 5, 1)], 0)), .inl (.inr ([(n + 6, 1)], 0)), .inl (.inr ([(n + 7, 1)], 0))], [], [], [.inr (some 4), .inr (some 5), .inr (some 6), .inr (some 14), .inl (.inl ([(n + 8, 1)], 0)), .inl (.inl ([(n + 9, 1)], 0))], [], [], []]
noncomputable def yw_e77 : ys_E := [(0, 40), (0, 12), ((-2147483648), 2147483647), ((-2147483648), 2147483647), ((-2147483648), 2147483647), ((-2147483648), 2147483647), ((-9223372036854775808), 9223372036854775807), ((-9223372036854775808), 9223372036854775807), (0, 40), ((-2147483648), 2147483647)]
noncomputable def yw_r77 : List ys_R := [((0, 0), []), (((-9223372036854775808), 9223372036854775807), []), (((-9223372036854775808), 9223372036854775807), []), ((0, 0), []), (((-2147483648), 2147483647), []), (((-2147483648), 2147483647), []), (((-2147483648), 2147483647), [])]
noncomputable def xf_145 : ys_F := (yw_f77 0, yw_r77)
noncomputable def xk_145 : ys_K := (((yX9_reweigh, cX9_reweigh, 24, (some .boolean)), (3, 72)), ([.inr (some 0), .inr (some 3)], ([] ++ yw_e77, []), xf_145), ([([], [([(0, 1)], (-1))], (xf_145.1, xf_145.2), some (.inl (.inl ([], 0)))), ([], [], (xf_145.1, xf_145.2), some (.inl (.inl ([], 1))))], [1, 2]))
noncomputable def xq_145 : yt_Q := (yz_X9_reweigh, (yl_flX9, yl_ciX9, yl_cjX9, yl_cpX9, yl_cqX9), [(90, ([((-9223372036854775808), 9223372036854775807), ((-9223372036854775808), 9223372036854775807), (1, 9223372036854775807), (1, 9223372036854775807), (1, 9223372036854775807), (0, 40)], [], (xf_145.1, xf_145.2), [(0, .inr (some 0)), (1, .inr (some 3)), (4, .inl (.inr ([(10, 1)], 0))), (6, .inl (.inr ([(11, 1)], 0))), (12, .inl (.inr ([(12, 1)], 0))), (14, .inl (.inr ([(13, 1)], 0))), (16, .inl (.inr ([(14, 1)], 0))), (18, .inl (.inl ([(15, 1)], 0)))], [], ([(15, (-1))], 40)), [], false)], [])
noncomputable def xa_145 : List yt_CE := [(((113, true), (0, false, [])), (yw_s2, xk_81)), (((124, false), (0, false, [0, 1, 3, 4, 5, 6, 7, 8, 9, 10, 11, 2, 12, 13, 14])), (yw_s74, xk_144)), (((109, false), (0, false, [0, 3, 4, 5, 6, 7, 8, 9, 10, 11, 1, 2, 12, 13, 14])), (yw_s76, xk_143))]
theorem xc_145 {l : Launch} {D : va_G} {cT : Nat → ClassId} {tys : List (ClassId × FieldType)} (hty : yx_Ty tys cT) : yx_C l D cT tys yw_s77 xk_145 := yx_method (calls := xa_145) (Z := xq_145) 300 (by decide +kernel) yz_X9_reweigh_ok hty (yl_lkX9 _) (yl_cqkX9 _) (List.forall_mem_cons.mpr ⟨⟨xc_81 hty, yg_CLs yl_wX9_113 yd_yX1_common⟩, List.forall_mem_cons.mpr ⟨⟨xc_144 hty, yg_CLv rfl rfl rfl yl_wX9_124 yd_yX9_commonMass⟩, List.forall_mem_cons.mpr ⟨⟨xc_143 hty, yg_CLv rfl rfl rfl yl_wX9_109 yd_yX9_isWrong⟩, fun _ h => absurd h List.not_mem_nil⟩⟩⟩) (by decide +kernel)
noncomputable def yw_s78 : List ys_C := [.inl 9, .inr (0, 12, []), .inr (0, 12, []), .inr (0, 12, []), .inr (1, 12, []), .inr (1, 12, []), .inr (1, 40, []), .inr (1, 40, []), .inl 6, .inr (0, 40, []), .inr (0, 40, []), .inr (0, 40, [])]
noncomputable def yw_f78 (n : Nat) : List (List ys_V) := [[.inr (some 1), .inr (some 2), .inr (some 3), .inr (some 4), .inr (some 5), .inr (some 6), .inl (.inl ([(n + 0, 1)], 0)), .inl (.inl ([(n + 1, 1)], 0)), .inl (.inl ([(n + 2, 1)], 0)), .inr (some 7), .inr (some 12), .inr (some 13), .inl (.inl ([(n + 3, 1)], 0)), .inl (.inl ([(n + 4, 1)], 0)), .inl (.inl ([(n + 5, 1)], 0)), .inl (.inr ([(n + 6, 1)], 0)), .inl (.inr ([(n + 7, 1)], 0))], [], [], [], [], [], [], [], [.inr (some 9), .inr (some 10), .inr (some 11), .inr (some 14), .inl (.inl ([(n + 8, 1)], 0)), .inl (.inl ([(n + 9, 1)], 0))], [], [], []]
noncomputable def yw_e78 : ys_E := [(0, 40), (0, 12), ((-2147483648), 2147483647), ((-2147483648), 2147483647), ((-2147483648), 2147483647), ((-2147483648), 2147483647), ((-9223372036854775808), 9223372036854775807), ((-9223372036854775808), 9223372036854775807), (0, 40), ((-2147483648), 2147483647)]
noncomputable def yw_r78 : List ys_R := [((0, 0), []), (((-2147483648), 2147483647), []), (((-2147483648), 2147483647), []), (((-2147483648), 2147483647), []), (((-9223372036854775808), 9223372036854775807), []), (((-9223372036854775808), 9223372036854775807), []), (((-9223372036854775808), 9223372036854775807), []), (((-9223372036854775808), 9223372036854775807), []), ((0, 0), []), (((-2147483648), 2147483647), []), (((-2147483648), 2147483647), []), (((-2147483648), 2147483647), [])]
noncomputable def xf_146 : ys_F := (yw_f78 0, yw_r78)
noncomputable def xk_146 : ys_K := (((yX9_playRound, cX9_playRound, 2, none), (4, 115)), ([.inr (some 0), .inr (some 8)], ([] ++ yw_e78, []), xf_146), ([([(0, 12), ((-2147483648), 2147483647), ((-2147483648), 2147483647), ((-2147483648), 2147483647), ((-2147483648), 2147483647), ((-9223372036854775808), 9223372036854775807), ((-9223372036854775808), 9223372036854775807)], [], ((ys_fs xf_146.1 [(0, 7, .inl (.inl ([(10, 1)], 0))), (0, 8, .inl (.inl ([(11, 1)], 0))), (0, 12, .inl (.inl ([(12, 1)], 0))), (0, 13, .inl (.inl ([(13, 1)], 0))), (0, 14, .inl (.inl ([(14, 1)], 0))), (0, 15, .inl (.inr ([(15, 1)], 0))), (0, 16, .inl (.inr ([(16, 1)], 0)))]), xf_146.2), none)], [1, 2, 3, 4, 5, 6, 7]))
noncomputable def xq_146 : yt_Q := (yz_X9_playRound, (yl_flX9, yl_ciX9, yl_cjX9, yl_cpX9, yl_cqX9), [], [])
noncomputable def xa_146 : List yt_CE := [(((76, false), (0, false, [0, 6, 8, 9, 10, 11, 1, 2, 3, 4, 5, 7, 12, 13, 14])), (yw_s74, xk_141)), (((79, false), (0, false, [0, 1, 2, 3, 4, 5, 6, 7, 12, 13])), (yw_s75, xk_142)), (((84, false), (0, false, [0, 6, 7, 8, 9, 10, 11, 1, 2, 3, 4, 5, 12, 13, 14])), (yw_s77, xk_145))]
theorem xc_146 {l : Launch} {D : va_G} {cT : Nat → ClassId} {tys : List (ClassId × FieldType)} (hty : yx_Ty tys cT) : yx_C l D cT tys yw_s78 xk_146 := yx_method (calls := xa_146) (Z := xq_146) 300 (by decide +kernel) yz_X9_playRound_ok hty (yl_lkX9 _) (yl_cqkX9 _) (List.forall_mem_cons.mpr ⟨⟨xc_141 hty, yg_CLv rfl rfl rfl yl_wX9_76 yd_yX9_choose⟩, List.forall_mem_cons.mpr ⟨⟨xc_142 hty, yg_CLv rfl rfl rfl yl_wX9_79 yd_yX9_keepChosen⟩, List.forall_mem_cons.mpr ⟨⟨xc_145 hty, yg_CLv rfl rfl rfl yl_wX9_84 yd_yX9_reweigh⟩, fun _ h => absurd h List.not_mem_nil⟩⟩⟩) (by decide +kernel)
noncomputable def yw_s79 : List ys_C := [.inl 9, .inr (0, 12, []), .inr (0, 12, []), .inr (0, 12, []), .inr (1, 12, []), .inr (1, 12, []), .inr (1, 40, []), .inr (1, 40, []), .inl 6, .inr (0, 40, []), .inr (0, 40, []), .inr (0, 40, []), .inr (0, 40, [])]
noncomputable def yw_f79 (n : Nat) : List (List ys_V) := [[.inr (some 1), .inr (some 2), .inr (some 3), .inr (some 4), .inr (some 5), .inr (some 6), .inl (.inl ([(n + 0, 1)], 0)), .inl (.inl ([(n + 1, 1)], 0)), .inl (.inl ([(n + 2, 1)], 0)), .inr (some 7), .inr (some 13), .inr (some 14), .inl (.inl ([(n + 3, 1)], 0)), .inl (.inl ([(n + 4, 1)], 0)), .inl (.inl ([(n + 5, 1)], 0)), .inl (.inr ([(n + 6, 1)], 0)), .inl (.inr ([(n + 7, 1)], 0))], [], [], [], [], [], [], [], [.inr (some 9), .inr (some 10), .inr (some 11), .inr (some 12), .inl (.inl ([(n + 8, 1)], 0)), .inl (.inl ([(n + 9, 1)], 0))], [], [], [], []]
noncomputable def yw_e79 : ys_E := [(0, 40), (0, 12), ((-2147483648), 2147483647), ((-2147483648), 2147483647), ((-2147483648), 2147483647), ((-2147483648), 2147483647), ((-9223372036854775808), 9223372036854775807), ((-9223372036854775808), 9223372036854775807), (0, 40), ((-2147483648), 2147483647)]
noncomputable def yw_r79 : List ys_R := [((0, 0), []), (((-2147483648), 2147483647), []), (((-2147483648), 2147483647), []), (((-2147483648), 2147483647), []), (((-9223372036854775808), 9223372036854775807), []), (((-9223372036854775808), 9223372036854775807), []), (((-9223372036854775808), 9223372036854775807), []), (((-9223372036854775808), 9223372036854775807), []), ((0, 0), []), (((-2147483648), 2147483647), []), (((-2147483648), 2147483647), []), (((-2147483648), 2147483647), []), (((-2147483648), 2147483647), [])]
noncomputable def xf_147 : ys_F := (yw_f79 1, yw_r79)
noncomputable def xk_147 : ys_K := (((yX9_make, cX9_make, 4, none), (5, 136)), ([.inr (some 0), .inr (some 8), .inl (.inl ([(0, 1)], 0))], ([(0, 39)] ++ yw_e79, []), xf_147), ([([(0, 12), ((-2147483648), 2147483647), ((-2147483648), 2147483647), ((-2147483648), 2147483647), ((-2147483648), 2147483647), ((-9223372036854775808), 9223372036854775807), ((-9223372036854775808), 9223372036854775807)], [], ((ys_fs xf_147.1 [(0, 6, .inl (.inl ([(9, 1)], 0))), (0, 7, .inl (.inl ([(11, 1)], 0))), (0, 8, .inl (.inl ([(12, 1)], 0))), (0, 12, .inl (.inl ([(13, 1)], 0))), (0, 13, .inl (.inl ([(14, 1)], 0))), (0, 14, .inl (.inl ([(15, 1)], 0))), (0, 15, .inl (.inr ([(16, 1)], 0))), (0, 16, .inl (.inr ([(17, 1)], 0)))]), xf_147.2), none)], [1, 2, 3, 4, 5, 6, 7]))
noncomputable def xq_147 : yt_Q := (yz_X9_make, (yl_flX9, yl_ciX9, yl_cjX9, yl_cpX9, yl_cqX9), [(10, ([(0, 40)], [], ((ys_fs xf_147.1 [(0, 6, .inl (.inl ([(9, 1)], 0)))]), xf_147.2), [(0, .inr (some 0)), (1, .inr (some 8)), (2, .inl (.inl ([(0, 1)], 0))), (3, .inl (.inl ([(11, 1)], 0)))], [], ([(11, (-1))], 81)), [], false), (49, ([(0, 39), (0, 12), ((-2147483648), 2147483647), ((-2147483648), 2147483647), ((-2147483648), 2147483647), ((-2147483648), 2147483647), ((-9223372036854775808), 9223372036854775807), ((-9223372036854775808), 9223372036854775807)], [], ((ys_fs xf_147.1 [(0, 6, .inl (.inl ([(9, 1)], 0))), (0, 7, .inl (.inl ([(12, 1)], 0))), (0, 8, .inl (.inl ([(13, 1)], 0))), (0, 12, .inl (.inl ([(14, 1)], 0))), (0, 13, .inl (.inl ([(15, 1)], 0))), (0, 14, .inl (.inl ([(16, 1)], 0))), (0, 15, .inl (.inr ([(17, 1)], 0))), (0, 16, .inl (.inr ([(18, 1)], 0)))]), xf_147.2), [(0, .inr (some 0)), (1, .inr (some 8)), (2, .inl (.inl ([(0, 1)], 0))), (3, .inl (.inl ([(11, 1)], 0)))], [], ([(11, (-1))], 39)), [], false)], [])
noncomputable def xa_147 : List yt_CE := [(((72, false), (0, false, [0, 1, 2, 3, 4, 5, 6, 7, 8, 9, 10, 11, 13, 14, 12])), (yw_s78, xk_146))]
theorem xc_147 {l : Launch} {D : va_G} {cT : Nat → ClassId} {tys : List (ClassId × FieldType)} (hty : yx_Ty tys cT) : yx_C l D cT tys yw_s79 xk_147 := yx_method (calls := xa_147) (Z := xq_147) 300 (by decide +kernel) yz_X9_make_ok hty (yl_lkX9 _) (yl_cqkX9 _) (List.forall_mem_cons.mpr ⟨⟨xc_146 hty, yg_CLv rfl rfl rfl yl_wX9_72 yd_yX9_playRound⟩, fun _ h => absurd h List.not_mem_nil⟩) (by decide +kernel)
noncomputable def yw_s80 : List ys_C := [.inl 11, .inl 6, .inr (0, 40, []), .inr (0, 40, []), .inr (0, 40, []), .inr (0, 40, []), .inl 9, .inr (0, 12, []), .inr (0, 12, []), .inr (0, 12, []), .inr (1, 12, []), .inr (1, 12, []), .inr (1, 40, []), .inr (1, 40, [])]
noncomputable def yw_f80 (n : Nat) : List (List ys_V) := [[.inr (some 1), .inr (some 14), .inr (some 15), .inr (some 16), .inr (some 17), .inr (some 18), .inr (some 19), .inr (some 20), .inr (some 21), .inr (some 22), .inr (some 23), .inr (some 6), .inr (some 26), .inr (some 27), .inl (.inl ([(n + 0, 1)], 0))], [.inr (some 2), .inr (some 3), .inr (some 4), .inr (some 5), .inl (.inl ([(n + 1, 1)], 0)), .inl (.inl ([(n + 2, 1)], 0))], [], [], [], [], [.inr (some 7), .inr (some 8), .inr (some 9), .inr (some 10), .inr (some 11), .inr (some 12), .inl (.inl ([(n + 3, 1)], 0)), .inl (.inl ([(n + 4, 1)], 0)), .inl (.inl ([(n + 5, 1)], 0)), .inr (some 13), .inr (some 24), .inr (some 25), .inl (.inl ([(n + 6, 1)], 0)), .inl (.inl ([(n + 7, 1)], 0)), .inl (.inl ([(n + 8, 1)], 0)), .inl (.inr ([(n + 9, 1)], 0)), .inl (.inr ([(n + 10, 1)], 0))], [], [], [], [], [], [], []]
noncomputable def yw_e80 : ys_E := [((-2147483648), 2147483647), (0, 40), ((-2147483648), 2147483647), (0, 40), (0, 12), ((-2147483648), 2147483647), ((-2147483648), 2147483647), ((-2147483648), 2147483647), ((-2147483648), 2147483647), ((-9223372036854775808), 9223372036854775807), ((-9223372036854775808), 9223372036854775807)]
noncomputable def yw_r80 : List ys_R := [((0, 0), []), ((0, 0), []), (((-2147483648), 2147483647), []), (((-2147483648), 2147483647), []), (((-2147483648), 2147483647), []), (((-2147483648), 2147483647), []), ((0, 0), []), (((-2147483648), 2147483647), []), (((-2147483648), 2147483647), []), (((-2147483648), 2147483647), []), (((-9223372036854775808), 9223372036854775807), []), (((-9223372036854775808), 9223372036854775807), []), (((-9223372036854775808), 9223372036854775807), []), (((-9223372036854775808), 9223372036854775807), [])]
noncomputable def xf_148 : ys_F := (yw_f80 1, yw_r80)
noncomputable def xk_148 : ys_K := (((yX11_strong, cX11_strong, 2, (some .int)), (6, 159)), ([.inr (some 0), .inl (.inl ([(0, 1)], 0))], ([((-2147483648), 2147483647)] ++ yw_e80, []), xf_148), ([([((-6), 12), ((-2147483648), 0), (0, 40), (0, 12), ((-2147483648), 2147483647), ((-2147483648), 2147483647), ((-2147483648), 2147483647), ((-2147483648), 2147483647), ((-9223372036854775808), 9223372036854775807), ((-9223372036854775808), 9223372036854775807)], [], ((ys_fs xf_148.1 [(0, 14, .inl (.inl ([(13, 1)], 0))), (6, 6, .inl (.inl ([(14, 1)], 0))), (6, 7, .inl (.inl ([(15, 1)], 0))), (6, 8, .inl (.inl ([(16, 1)], 0))), (6, 12, .inl (.inl ([(17, 1)], 0))), (6, 13, .inl (.inl ([(18, 1)], 0))), (6, 14, .inl (.inl ([(19, 1)], 0))), (6, 15, .inl (.inr ([(20, 1)], 0))), (6, 16, .inl (.inr ([(21, 1)], 0)))]), xf_148.2), some (.inl (.inl ([(12, 1)], 0))))], [7, 8, 9, 10, 11, 12, 13]))
noncomputable def xq_148 : yt_Q := (yz_X11_strong, (yl_flX11, yl_ciX11, yl_cjX11, yl_cpX11, yl_cqX11), [], [])
noncomputable def xa_148 : List yt_CE := [(((107, false), (0, false, [0, 1, 14, 15, 16, 17, 18, 19, 20, 21, 22, 23, 6, 26, 27])), (yw_s3, xk_3)), (((319, false), (0, false, [6, 7, 8, 9, 10, 11, 12, 13, 1, 2, 3, 4, 5, 24, 25])), (yw_s79, xk_147))]
theorem xc_148 {l : Launch} {D : va_G} {cT : Nat → ClassId} {tys : List (ClassId × FieldType)} (hty : yx_Ty tys cT) : yx_C l D cT tys yw_s80 xk_148 := yx_method (calls := xa_148) (Z := xq_148) 300 (by decide +kernel) yz_X11_strong_ok hty (yl_lkX11 _) (yl_cqkX11 _) (List.forall_mem_cons.mpr ⟨⟨xc_3 hty, yg_CLv rfl rfl rfl yl_wX11_107 yd_yX11_told⟩, List.forall_mem_cons.mpr ⟨⟨xc_147 hty, yg_CLv rfl rfl rfl yl_wX11_319 yd_yX9_make⟩, fun _ h => absurd h List.not_mem_nil⟩⟩) (by decide +kernel)
noncomputable def xf_149 : ys_F := (yw_f27 2, yw_r27)
noncomputable def xk_149 : ys_K := (((yX8_hasEveryX, cX8_hasEveryX, 3, (some .boolean)), (0, 0)), ([.inr (some 0), .inl (.inl ([(0, 1)], 0)), .inl (.inl ([(1, 1)], 0))], ([((-2147483648), 2147483647), (0, 40)] ++ yw_e27, []), xf_149), ([([], [], (xf_149.1, xf_149.2), some (.inl (.inl ([], 0)))), ([], [([(0, 1)], 0), ([(0, (-1))], 101), ([(4, 1), (0, (-1)), (1, (-2))], 1)], (xf_149.1, xf_149.2), some (.inl (.inl ([], 1))))], []))
noncomputable def xq_149 : yt_Q := (yz_X8_hasEveryX, (yl_flX8, yl_ciX8, yl_cjX8, yl_cpX8, yl_cqX8), [], [])
noncomputable def xa_149 : List yt_CE := []
theorem xc_149 {l : Launch} {D : va_G} {cT : Nat → ClassId} {tys : List (ClassId × FieldType)} (hty : yx_Ty tys cT) : yx_C l D cT tys yw_s27 xk_149 := yx_method (calls := xa_149) (Z := xq_149) 300 (by decide +kernel) yz_X8_hasEveryX_ok hty (yl_lkX8 _) (yl_cqkX8 _) (fun _ h => absurd h List.not_mem_nil) (by decide +kernel)
noncomputable def xf_150 : ys_F := (yw_f28 1, yw_r28)
noncomputable def xk_150 : ys_K := (((yX8_numberOrZero, cX8_numberOrZero, 2, (some .long)), (1, 21)), ([.inr (some 0), .inl (.inl ([(0, 1)], 0))], ([((-2147483648), 2147483647)] ++ yw_e28, []), xf_150), ([([((-9223372036854775808), 9223372036854775807)], [], (xf_150.1, xf_150.2), some (.inl (.inr ([(4, 1)], 0))))], []))
noncomputable def xq_150 : yt_Q := (yz_X8_numberOrZero, (yl_flX8, yl_ciX8, yl_cjX8, yl_cpX8, yl_cqX8), [], [])
noncomputable def xa_150 : List yt_CE := [(((54, false), (0, false, [0, 1])), (yw_s27, xk_126))]
theorem xc_150 {l : Launch} {D : va_G} {cT : Nat → ClassId} {tys : List (ClassId × FieldType)} (hty : yx_Ty tys cT) : yx_C l D cT tys yw_s28 xk_150 := yx_method (calls := xa_150) (Z := xq_150) 300 (by decide +kernel) yz_X8_numberOrZero_ok hty (yl_lkX8 _) (yl_cqkX8 _) (List.forall_mem_cons.mpr ⟨⟨xc_126 hty, yg_CLv rfl rfl rfl yl_wX8_54 yd_yX8_has⟩, fun _ h => absurd h List.not_mem_nil⟩) (by decide +kernel)
noncomputable def xf_151 : ys_F := (yw_f28 2, yw_r28)
noncomputable def xk_151 : ys_K := (((yX8_hasNearPlaces, cX8_hasNearPlaces, 4, (some .boolean)), (2, 42)), ([.inr (some 0), .inl (.inl ([(0, 1)], 0)), .inl (.inl ([(1, 1)], 0))], ([(0, 100), (0, 100)] ++ yw_e28, []), xf_151), ([([], [([(1, 2), (0, 1)], (-1))], (xf_151.1, xf_151.2), some (.inl (.inl ([], 0)))), ([], [], (xf_151.1, xf_151.2), some (.inl (.inl ([], 1))))], []))
noncomputable def xq_151 : yt_Q := (yz_X8_hasNearPlaces, (yl_flX8, yl_ciX8, yl_cjX8, yl_cpX8, yl_cqX8), [(2, ([(0, 4000)], [], (xf_151.1, xf_151.2), [(0, .inr (some 0)), (1, .inl (.inl ([(0, 1)], 0))), (2, .inl (.inl ([(1, 1)], 0))), (3, .inl (.inl ([(5, 1)], 0)))], [], ([(5, (-1))], 4000)), [], false)], [])
noncomputable def xa_151 : List yt_CE := [(((44, false), (0, false, [0, 1])), (yw_s28, xk_150)), (((48, true), (0, false, [])), (yw_s2, xk_123))]
theorem xc_151 {l : Launch} {D : va_G} {cT : Nat → ClassId} {tys : List (ClassId × FieldType)} (hty : yx_Ty tys cT) : yx_C l D cT tys yw_s28 xk_151 := yx_method (calls := xa_151) (Z := xq_151) 300 (by decide +kernel) yz_X8_hasNearPlaces_ok hty (yl_lkX8 _) (yl_cqkX8 _) (List.forall_mem_cons.mpr ⟨⟨xc_150 hty, yg_CLv rfl rfl rfl yl_wX8_44 yd_yX8_numberOrZero⟩, List.forall_mem_cons.mpr ⟨⟨xc_123 hty, yg_CLs yl_wX8_48 yd_yX6_isNear⟩, fun _ h => absurd h List.not_mem_nil⟩⟩) (by decide +kernel)
noncomputable def yw_s81 : List ys_C := [.inl 11, .inl 6, .inr (0, 40, []), .inr (0, 40, []), .inr (0, 40, []), .inr (0, 40, []), .inr (4, 4, [7, 9, 11, 13]), .inl 8, .inr (1, 100, []), .inl 8, .inr (1, 100, []), .inl 8, .inr (1, 100, []), .inl 8, .inr (1, 100, [])]
noncomputable def yw_f81 (n : Nat) : List (List ys_V) := [[.inr (some 1), .inr (some 15), .inr (some 16), .inr (some 6), .inr (some 17), .inr (some 18), .inr (some 19), .inr (some 20), .inr (some 21), .inr (some 22), .inr (some 23), .inr (some 24), .inr (some 25), .inr (some 26), .inl (.inl ([(n + 0, 1)], 0))], [.inr (some 2), .inr (some 3), .inr (some 4), .inr (some 5), .inl (.inl ([(n + 1, 1)], 0)), .inl (.inl ([(n + 2, 1)], 0))], [], [], [], [], [], [.inr (some 8), .inl (.inl ([(n + 3, 1)], 0)), .inl (.inl ([(n + 4, 1)], 0)), .inl (.inl ([(n + 5, 1)], 0))], [], [.inr (some 10), .inl (.inl ([(n + 6, 1)], 0)), .inl (.inl ([(n + 7, 1)], 0)), .inl (.inl ([(n + 8, 1)], 0))], [], [.inr (some 12), .inl (.inl ([(n + 9, 1)], 0)), .inl (.inl ([(n + 10, 1)], 0)), .inl (.inl ([(n + 11, 1)], 0))], [], [.inr (some 14), .inl (.inl ([(n + 12, 1)], 0)), .inl (.inl ([(n + 13, 1)], 0)), .inl (.inl ([(n + 14, 1)], 0))], []]
noncomputable def yw_e81 : ys_E := [((-2147483648), 2147483647), (0, 40), ((-2147483648), 2147483647), (0, 1), ((-2147483648), 2147483647), (0, 100), (0, 1), ((-2147483648), 2147483647), (0, 100), (0, 1), ((-2147483648), 2147483647), (0, 100), (0, 1), ((-2147483648), 2147483647), (0, 100)]
noncomputable def yw_r81 : List ys_R := [((0, 0), []), ((0, 0), []), (((-2147483648), 2147483647), []), (((-2147483648), 2147483647), []), (((-2147483648), 2147483647), []), (((-2147483648), 2147483647), []), ((0, 0), []), ((0, 0), []), (((-9223372036854775808), 9223372036854775807), []), ((0, 0), []), (((-9223372036854775808), 9223372036854775807), []), ((0, 0), []), (((-9223372036854775808), 9223372036854775807), []), ((0, 0), []), (((-9223372036854775808), 9223372036854775807), [])]
noncomputable def xf_152 : ys_F := (yw_f81 4, yw_r81)
noncomputable def xk_152 : ys_K := (((yX11_take, cX11_take, 7, (some .int)), (3, 65)), ([.inr (some 0), .inl (.inl ([(0, 1)], 0)), .inl (.inl ([(1, 1)], 0)), .inl (.inl ([(2, 1)], 0)), .inl (.inl ([(3, 1)], 0))], ([((-2147483648), 2147483647), ((-2147483648), 2147483647), ((-2147483648), 2147483647), ((-2147483648), 2147483647)] ++ yw_e81, []), xf_152), ([([((-5), 40), ((-2147483648), 0), (0, 40), ((-2147483648), 2147483647)], [], ((ys_fs xf_152.1 [(0, 14, .inl (.inl ([(20, 1)], 0))), (1, 4, .inl (.inl ([(21, 1)], 0))), (1, 5, .inl (.inl ([(22, 1)], 0)))]), xf_152.2), some (.inl (.inl ([(19, 1)], 0))))], [2, 3, 4, 5]))
noncomputable def xq_152 : yt_Q := (yz_X11_take, (yl_flX11, yl_ciX11, yl_cjX11, yl_cpX11, yl_cqX11), [(116, ([(0, 40), (0, 40), ((-2147483648), 2147483647)], [([(0, 1)], 0), ([(0, (-1))], 3), ([(1, 1)], 0), ([(1, (-1))], 99), ([(2, 1)], (-1)), ([(2, (-1))], 40), ([(5, (-1))], 39), ([(2, (-1)), (5, (-1))], 40)], ((ys_fs xf_152.1 [(1, 4, .inl (.inl ([(20, 1)], 0))), (1, 5, .inl (.inl ([(21, 1)], 0)))]), xf_152.2), [(0, .inr (some 0)), (1, .inl (.inl ([(0, 1)], 0))), (2, .inl (.inl ([(1, 1)], 0))), (3, .inl (.inl ([(2, 1)], 0))), (4, .inl (.inl ([(3, 1)], 0))), (5, .inl (.inl ([(19, 1)], 0)))], [], ([(19, (-1))], 40)), [], false)], [])
noncomputable def xa_152 : List yt_CE := [(((141, true), (0, false, [])), (yw_s2, xk_35)), (((103, true), (0, false, [])), (yw_s2, xk_59)), (((107, false), (0, false, [0, 1, 15, 16, 6, 17, 18, 19, 20, 21, 22, 23, 24, 25, 26])), (yw_s3, xk_3)), (((174, false), (0, false, [13, 14])), (yw_s27, xk_149)), (((177, false), (0, false, [13, 14])), (yw_s28, xk_151)), (((174, false), (0, false, [11, 12])), (yw_s27, xk_149)), (((177, false), (0, false, [11, 12])), (yw_s28, xk_151)), (((174, false), (0, false, [9, 10])), (yw_s27, xk_149)), (((177, false), (0, false, [9, 10])), (yw_s28, xk_151)), (((174, false), (0, false, [7, 8])), (yw_s27, xk_149)), (((177, false), (0, false, [7, 8])), (yw_s28, xk_151)), (((180, false), (0, false, [13, 14])), (yw_s28, xk_150)), (((114, false), (0, false, [1, 2, 3, 4, 5])), (yw_s37, xk_124)), (((180, false), (0, false, [11, 12])), (yw_s28, xk_150)), (((180, false), (0, false, [9, 10])), (yw_s28, xk_150)), (((180, false), (0, false, [7, 8])), (yw_s28, xk_150))]
theorem xc_152 {l : Launch} {D : va_G} {cT : Nat → ClassId} {tys : List (ClassId × FieldType)} (hty : yx_Ty tys cT) : yx_C l D cT tys yw_s81 xk_152 := yx_method (calls := xa_152) (Z := xq_152) 300 (by decide +kernel) yz_X11_take_ok hty (yl_lkX11 _) (yl_cqkX11 _) (List.forall_mem_cons.mpr ⟨⟨xc_35 hty, yg_CLs yl_wX11_141 yd_yX11_isSheet⟩, List.forall_mem_cons.mpr ⟨⟨xc_59 hty, yg_CLs yl_wX11_103 yd_yX6_isColour⟩, List.forall_mem_cons.mpr ⟨⟨xc_3 hty, yg_CLv rfl rfl rfl yl_wX11_107 yd_yX11_told⟩, List.forall_mem_cons.mpr ⟨⟨xc_149 hty, yg_CLv rfl rfl rfl yl_wX11_174 yd_yX8_hasEveryX⟩, List.forall_mem_cons.mpr ⟨⟨xc_151 hty, yg_CLv rfl rfl rfl yl_wX11_177 yd_yX8_hasNearPlaces⟩, List.forall_mem_cons.mpr ⟨⟨xc_149 hty, yg_CLv rfl rfl rfl yl_wX11_174 yd_yX8_hasEveryX⟩, List.forall_mem_cons.mpr ⟨⟨xc_151 hty, yg_CLv rfl rfl rfl yl_wX11_177 yd_yX8_hasNearPlaces⟩, List.forall_mem_cons.mpr ⟨⟨xc_149 hty, yg_CLv rfl rfl rfl yl_wX11_174 yd_yX8_hasEveryX⟩, List.forall_mem_cons.mpr ⟨⟨xc_151 hty, yg_CLv rfl rfl rfl yl_wX11_177 yd_yX8_hasNearPlaces⟩, List.forall_mem_cons.mpr ⟨⟨xc_149 hty, yg_CLv rfl rfl rfl yl_wX11_174 yd_yX8_hasEveryX⟩, List.forall_mem_cons.mpr ⟨⟨xc_151 hty, yg_CLv rfl rfl rfl yl_wX11_177 yd_yX8_hasNearPlaces⟩, List.forall_mem_cons.mpr ⟨⟨xc_150 hty, yg_CLv rfl rfl rfl yl_wX11_180 yd_yX8_numberOrZero⟩, List.forall_mem_cons.mpr ⟨⟨xc_124 hty, yg_CLv rfl rfl rfl yl_wX11_114 yd_yX6_add⟩, List.forall_mem_cons.mpr ⟨⟨xc_150 hty, yg_CLv rfl rfl rfl yl_wX11_180 yd_yX8_numberOrZero⟩, List.forall_mem_cons.mpr ⟨⟨xc_150 hty, yg_CLv rfl rfl rfl yl_wX11_180 yd_yX8_numberOrZero⟩, List.forall_mem_cons.mpr ⟨⟨xc_150 hty, yg_CLv rfl rfl rfl yl_wX11_180 yd_yX8_numberOrZero⟩, fun _ h => absurd h List.not_mem_nil⟩⟩⟩⟩⟩⟩⟩⟩⟩⟩⟩⟩⟩⟩⟩⟩) (by decide +kernel)
noncomputable def yw_s82 : List ys_C := [.inr (1, 40, [])]
noncomputable def yw_f82 (n : Nat) : List (List ys_V) := [[]]
noncomputable def yw_e82 : ys_E := []
noncomputable def yw_r82 : List ys_R := [(((-9223372036854775808), 9223372036854775807), [])]
noncomputable def xf_153 : ys_F := (yw_f82 1, yw_r82)
noncomputable def xk_153 : ys_K := (((yJ7_fill_d0a16, cJ7_fill_d0a16, 5, none), (0, 0)), ([.inr (some 0), .inl (.inr ([(0, 1)], 0))], ([((-9223372036854775808), 9223372036854775807)] ++ yw_e82, []), xf_153), ([([], [], (xf_153.1, xf_153.2), none)], [0]))
noncomputable def xq_153 : yt_Q := (yz_J7_fill_d0a16, (yl_flJ7, yl_ciJ7, yl_cjJ7, yl_cpJ7, yl_cqJ7), [(6, ([(0, 40)], [], (xf_153.1, xf_153.2), [(0, .inr (some 0)), (1, .inl (.inr ([(0, 1)], 0))), (3, .inl (.inl ([(1, 1)], 0))), (4, .inl (.inl ([], 40)))], [], ([(1, (-1))], 40)), [], false)], [])
noncomputable def xa_153 : List yt_CE := []
theorem xc_153 {l : Launch} {D : va_G} {cT : Nat → ClassId} {tys : List (ClassId × FieldType)} (hty : yx_Ty tys cT) : yx_C l D cT tys yw_s82 xk_153 := yx_method (calls := xa_153) (Z := xq_153) 300 (by decide +kernel) yz_J7_fill_d0a16_ok hty (yl_lkJ7 _) (yl_cqkJ7 _) (fun _ h => absurd h List.not_mem_nil) (by decide +kernel)
noncomputable def xf_154 : ys_F := (yw_f82 0, yw_r82)
noncomputable def xk_154 : ys_K := (((yX9_setToOne, cX9_setToOne, 1, none), (1, 24)), ([.inr (some 0)], ([] ++ yw_e82, []), xf_154), ([([], [], (xf_154.1, xf_154.2), none)], [0]))
noncomputable def xq_154 : yt_Q := (yz_X9_setToOne, (yl_flX9, yl_ciX9, yl_cjX9, yl_cpX9, yl_cqX9), [], [])
noncomputable def xa_154 : List yt_CE := [(((144, true), (0, false, [0])), (yw_s82, xk_153))]
theorem xc_154 {l : Launch} {D : va_G} {cT : Nat → ClassId} {tys : List (ClassId × FieldType)} (hty : yx_Ty tys cT) : yx_C l D cT tys yw_s82 xk_154 := yx_method (calls := xa_154) (Z := xq_154) 300 (by decide +kernel) yz_X9_setToOne_ok hty (yl_lkX9 _) (yl_cqkX9 _) (List.forall_mem_cons.mpr ⟨⟨xc_153 hty, yg_CLs yl_wX9_144 yd_yJ7_fill_d0a16⟩, fun _ h => absurd h List.not_mem_nil⟩) (by decide +kernel)
noncomputable def xf_155 : ys_F := (yw_f82 1, yw_r82)
noncomputable def xk_155 : ys_K := (((yX9_multiply, cX9_multiply, 8, none), (0, 0)), ([.inr (some 0), .inl (.inr ([(0, 1)], 0))], ([((-9223372036854775808), 9223372036854775807)] ++ yw_e82, []), xf_155), ([([], [], (xf_155.1, xf_155.2), none)], [0]))
noncomputable def xq_155 : yt_Q := (yz_X9_multiply, (yl_flX9, yl_ciX9, yl_cjX9, yl_cpX9, yl_cqX9), [(5, ([((-9223372036854775808), 9223372036854775807), (0, 40)], [], (xf_155.1, xf_155.2), [(0, .inr (some 0)), (1, .inl (.inr ([(0, 1)], 0))), (3, .inl (.inr ([(1, 1)], 0))), (5, .inl (.inl ([(2, 1)], 0)))], [], ([(2, (-1))], 40)), [], false)], [])
noncomputable def xa_155 : List yt_CE := []
theorem xc_155 {l : Launch} {D : va_G} {cT : Nat → ClassId} {tys : List (ClassId × FieldType)} (hty : yx_Ty tys cT) : yx_C l D cT tys yw_s82 xk_155 := yx_method (calls := xa_155) (Z := xq_155) 300 (by decide +kernel) yz_X9_multiply_ok hty (yl_lkX9 _) (yl_cqkX9 _) (fun _ h => absurd h List.not_mem_nil) (by decide +kernel)
noncomputable def yw_s83 : List ys_C := [.inl 9, .inr (0, 12, []), .inr (0, 12, []), .inr (0, 12, []), .inr (1, 12, []), .inr (1, 12, []), .inr (1, 40, []), .inr (1, 40, [])]
noncomputable def yw_f83 (n : Nat) : List (List ys_V) := [[.inr (some 1), .inr (some 2), .inr (some 3), .inr (some 4), .inr (some 5), .inr (some 8), .inl (.inl ([(n + 0, 1)], 0)), .inl (.inl ([(n + 1, 1)], 0)), .inl (.inl ([(n + 2, 1)], 0)), .inr (some 9), .inr (some 6), .inr (some 7), .inl (.inl ([(n + 3, 1)], 0)), .inl (.inl ([(n + 4, 1)], 0)), .inl (.inl ([(n + 5, 1)], 0)), .inl (.inr ([(n + 6, 1)], 0)), .inl (.inr ([(n + 7, 1)], 0))], [], [], [], [], [], [], []]
noncomputable def yw_e83 : ys_E := [(0, 40), (0, 12), ((-2147483648), 2147483647), ((-2147483648), 2147483647), ((-2147483648), 2147483647), ((-2147483648), 2147483647), ((-9223372036854775808), 9223372036854775807), ((-9223372036854775808), 9223372036854775807)]
noncomputable def yw_r83 : List ys_R := [((0, 0), []), (((-2147483648), 2147483647), []), (((-2147483648), 2147483647), []), (((-2147483648), 2147483647), []), (((-9223372036854775808), 9223372036854775807), []), (((-9223372036854775808), 9223372036854775807), []), (((-9223372036854775808), 9223372036854775807), []), (((-9223372036854775808), 9223372036854775807), [])]
noncomputable def xf_156 : ys_F := (yw_f83 2, yw_r83)
noncomputable def xk_156 : ys_K := (((yX9_poll, cX9_poll, 5, (some .int)), (2, 44)), ([.inr (some 0), .inl (.inl ([(0, 1)], 0)), .inl (.inl ([(1, 1)], 0))], ([((-2147483648), 2147483647), ((-2147483648), 2147483647)] ++ yw_e83, []), xf_156), ([([(0, 2)], [], (xf_156.1, xf_156.2), some (.inl (.inl ([(10, 1)], 0))))], [6, 7]))
noncomputable def xq_156 : yt_Q := (yz_X9_poll, (yl_flX9, yl_ciX9, yl_cjX9, yl_cpX9, yl_cqX9), [(163, ([((-1), 39)], [], (xf_156.1, xf_156.2), [(0, .inr (some 0)), (3, .inl (.inl ([(10, 1)], 0)))], [], ([(10, 1)], 1)), [], false), (64, ([(0, 12)], [], (xf_156.1, xf_156.2), [(0, .inr (some 0)), (1, .inl (.inl ([(0, 1)], 0))), (2, .inl (.inl ([(1, 1)], 0))), (3, .inl (.inl ([(10, 1)], 0)))], [], ([(10, (-1))], 54)), [], false)], [])
noncomputable def xa_156 : List yt_CE := [(((98, true), (0, false, [])), (yw_s2, xk_138)), (((136, true), (0, false, [6])), (yw_s82, xk_154)), (((136, true), (0, false, [7])), (yw_s82, xk_154)), (((140, true), (0, false, [6])), (yw_s82, xk_155)), (((140, true), (0, false, [7])), (yw_s82, xk_155))]
theorem xc_156 {l : Launch} {D : va_G} {cT : Nat → ClassId} {tys : List (ClassId × FieldType)} (hty : yx_Ty tys cT) : yx_C l D cT tys yw_s83 xk_156 := yx_method (calls := xa_156) (Z := xq_156) 300 (by decide +kernel) yz_X9_poll_ok hty (yl_lkX9 _) (yl_cqkX9 _) (List.forall_mem_cons.mpr ⟨⟨xc_138 hty, yg_CLs yl_wX9_98 yd_yX9_saysYes⟩, List.forall_mem_cons.mpr ⟨⟨xc_154 hty, yg_CLs yl_wX9_136 yd_yX9_setToOne⟩, List.forall_mem_cons.mpr ⟨⟨xc_154 hty, yg_CLs yl_wX9_136 yd_yX9_setToOne⟩, List.forall_mem_cons.mpr ⟨⟨xc_155 hty, yg_CLs yl_wX9_140 yd_yX9_multiply⟩, List.forall_mem_cons.mpr ⟨⟨xc_155 hty, yg_CLs yl_wX9_140 yd_yX9_multiply⟩, fun _ h => absurd h List.not_mem_nil⟩⟩⟩⟩⟩) (by decide +kernel)
noncomputable def yw_s84 : List ys_C := [.inl 11, .inl 9, .inr (0, 12, []), .inr (0, 12, []), .inr (0, 12, []), .inr (1, 12, []), .inr (1, 12, []), .inr (1, 40, []), .inr (1, 40, [])]
noncomputable def yw_f84 (n : Nat) : List (List ys_V) := [[.inr (some 9), .inr (some 10), .inr (some 11), .inr (some 12), .inr (some 13), .inr (some 14), .inr (some 15), .inr (some 16), .inr (some 17), .inr (some 18), .inr (some 19), .inr (some 1), .inr (some 22), .inr (some 23), .inl (.inl ([(n + 0, 1)], 0))], [.inr (some 2), .inr (some 3), .inr (some 4), .inr (some 5), .inr (some 6), .inr (some 20), .inl (.inl ([(n + 1, 1)], 0)), .inl (.inl ([(n + 2, 1)], 0)), .inl (.inl ([(n + 3, 1)], 0)), .inr (some 21), .inr (some 7), .inr (some 8), .inl (.inl ([(n + 4, 1)], 0)), .inl (.inl ([(n + 5, 1)], 0)), .inl (.inl ([(n + 6, 1)], 0)), .inl (.inr ([(n + 7, 1)], 0)), .inl (.inr ([(n + 8, 1)], 0))], [], [], [], [], [], [], []]
noncomputable def yw_e84 : ys_E := [((-2147483648), 2147483647), (0, 40), (0, 12), ((-2147483648), 2147483647), ((-2147483648), 2147483647), ((-2147483648), 2147483647), ((-2147483648), 2147483647), ((-9223372036854775808), 9223372036854775807), ((-9223372036854775808), 9223372036854775807)]
noncomputable def yw_r84 : List ys_R := [((0, 0), []), ((0, 0), []), (((-2147483648), 2147483647), []), (((-2147483648), 2147483647), []), (((-2147483648), 2147483647), []), (((-9223372036854775808), 9223372036854775807), []), (((-9223372036854775808), 9223372036854775807), []), (((-9223372036854775808), 9223372036854775807), []), (((-9223372036854775808), 9223372036854775807), [])]
noncomputable def xf_157 : ys_F := (yw_f84 2, yw_r84)
noncomputable def xk_157 : ys_K := (((yX11_vote, cX11_vote, 3, (some .int)), (3, 68)), ([.inr (some 0), .inl (.inl ([(0, 1)], 0)), .inl (.inl ([(1, 1)], 0))], ([((-2147483648), 2147483647), ((-2147483648), 2147483647)] ++ yw_e84, []), xf_157), ([([(0, 2)], [], (xf_157.1, xf_157.2), some (.inl (.inl ([(11, 1)], 0))))], [7, 8]))
noncomputable def xq_157 : yt_Q := (yz_X11_vote, (yl_flX11, yl_ciX11, yl_cjX11, yl_cpX11, yl_cqX11), [], [])
noncomputable def xa_157 : List yt_CE := [(((347, false), (0, false, [1, 2, 3, 4, 5, 6, 7, 8, 20, 21])), (yw_s83, xk_156))]
theorem xc_157 {l : Launch} {D : va_G} {cT : Nat → ClassId} {tys : List (ClassId × FieldType)} (hty : yx_Ty tys cT) : yx_C l D cT tys yw_s84 xk_157 := yx_method (calls := xa_157) (Z := xq_157) 300 (by decide +kernel) yz_X11_vote_ok hty (yl_lkX11 _) (yl_cqkX11 _) (List.forall_mem_cons.mpr ⟨⟨xc_156 hty, yg_CLv rfl rfl rfl yl_wX11_347 yd_yX9_poll⟩, fun _ h => absurd h List.not_mem_nil⟩) (by decide +kernel)
noncomputable def xf_158 : ys_F := (yw_f2 1, yw_r2)
noncomputable def xk_158 : ys_K := (((yJ13_bitCount_95d88, cJ13_bitCount_95d88, 2, (some .int)), (0, 0)), ([.inl (.inr ([(0, 1)], 0))], ([((-9223372036854775808), 9223372036854775807)] ++ yw_e2, []), xf_158), ([([(0, 127)], [], (xf_158.1, xf_158.2), some (.inl (.inl ([(1, 1)], 0))))], []))
noncomputable def xq_158 : yt_Q := (yz_J13_bitCount_95d88, (yl_flJ13, yl_ciJ13, yl_cjJ13, yl_cpJ13, yl_cqJ13), [], [])
noncomputable def xa_158 : List yt_CE := []
theorem xc_158 {l : Launch} {D : va_G} {cT : Nat → ClassId} {tys : List (ClassId × FieldType)} (hty : yx_Ty tys cT) : yx_C l D cT tys yw_s2 xk_158 := yx_method (calls := xa_158) (Z := xq_158) 300 (by decide +kernel) yz_J13_bitCount_95d88_ok hty (yl_lkJ13 _) (yl_cqkJ13 _) (fun _ h => absurd h List.not_mem_nil) (by decide +kernel)
noncomputable def xf_159 : ys_F := (yw_f10 0, yw_r10)
noncomputable def xk_159 : ys_K := (((yX5_tally, cX5_tally, 3, (some .int)), (1, 21)), ([.inr (some 0)], ([] ++ yw_e10, []), xf_159), ([([((-2147483648), 2147483647)], [], (xf_159.1, xf_159.2), some (.inl (.inl ([(3, 1)], 0))))], []))
noncomputable def xq_159 : yt_Q := (yz_X5_tally, (yl_flX5, yl_ciX5, yl_cjX5, yl_cpX5, yl_cqX5), [(4, ([((-2147483648), 2147483647), (0, 64)], [], (xf_159.1, xf_159.2), [(0, .inr (some 0)), (1, .inl (.inl ([(3, 1)], 0))), (2, .inl (.inl ([(4, 1)], 0)))], [], ([(4, (-1))], 64)), [], false)], [])
noncomputable def xa_159 : List yt_CE := [(((55, true), (0, false, [])), (yw_s2, xk_158))]
theorem xc_159 {l : Launch} {D : va_G} {cT : Nat → ClassId} {tys : List (ClassId × FieldType)} (hty : yx_Ty tys cT) : yx_C l D cT tys yw_s10 xk_159 := yx_method (calls := xa_159) (Z := xq_159) 300 (by decide +kernel) yz_X5_tally_ok hty (yl_lkX5 _) (yl_cqkX5 _) (List.forall_mem_cons.mpr ⟨⟨xc_158 hty, yg_CLs yl_wX5_55 yd_yJ13_bitCount_95d88⟩, fun _ h => absurd h List.not_mem_nil⟩) (by decide +kernel)
noncomputable def xf_160 : ys_F := (yw_f45 1, yw_r45)
noncomputable def xk_160 : ys_K := (((yX11_ways, cX11_ways, 2, (some .int)), (4, 95)), ([.inr (some 0), .inl (.inl ([(0, 1)], 0))], ([((-2147483648), 2147483647)] ++ yw_e45, []), xf_160), ([([((-2147483648), 2147483647), (0, 4095)], [], ((ys_fs xf_160.1 [(4, 3, .inl (.inl ([(8, 1)], 0)))]), xf_160.2), some (.inl (.inl ([(7, 1)], 0))))], [5]))
noncomputable def xq_160 : yt_Q := (yz_X11_ways, (yl_flX11, yl_ciX11, yl_cjX11, yl_cpX11, yl_cqX11), [], [])
noncomputable def xa_160 : List yt_CE := [(((254, false), (0, false, [0, 1, 2, 3, 6, 7, 8, 9, 10, 11, 12, 13, 14, 15, 16, 4, 17, 18, 19])), (yw_s8, xk_8)), (((257, false), (0, false, [4, 5, 1, 2, 3, 6, 7])), (yw_s12, xk_16)), (((260, false), (0, false, [4, 5])), (yw_s10, xk_159))]
theorem xc_160 {l : Launch} {D : va_G} {cT : Nat → ClassId} {tys : List (ClassId × FieldType)} (hty : yx_Ty tys cT) : yx_C l D cT tys yw_s45 xk_160 := yx_method (calls := xa_160) (Z := xq_160) 300 (by decide +kernel) yz_X11_ways_ok hty (yl_lkX11 _) (yl_cqkX11 _) (List.forall_mem_cons.mpr ⟨⟨xc_8 hty, yg_CLv rfl rfl rfl yl_wX11_254 yd_yX11_canPartFirst⟩, List.forall_mem_cons.mpr ⟨⟨xc_16 hty, yg_CLv rfl rfl rfl yl_wX11_257 yd_yX5_find⟩, List.forall_mem_cons.mpr ⟨⟨xc_159 hty, yg_CLv rfl rfl rfl yl_wX11_260 yd_yX5_tally⟩, fun _ h => absurd h List.not_mem_nil⟩⟩⟩) (by decide +kernel)
noncomputable def xf_161 : ys_F := (yw_f56 1, yw_r56)
noncomputable def xk_161 : ys_K := (((yX11_wide, cX11_wide, 2, (some .long)), (5, 124)), ([.inr (some 0), .inl (.inl ([(0, 1)], 0))], ([((-2147483648), 2147483647)] ++ yw_e56, []), xf_161), ([([((-9223372036854775808), 9223372036854775807), (0, 1), ((-9223372036854775808), 9223372036854775807), ((-9223372036854775808), 9223372036854775807), ((-9223372036854775808), 9223372036854775807), ((-2147483648), 2147483647), ((-2147483648), 2147483647), ((-2147483648), 2147483647), ((-2147483648), 2147483647), ((-2147483648), 2147483647), ((-2147483648), 2147483647), ((-9223372036854775808), 9223372036854775807), ((-9223372036854775808), 9223372036854775807)], [], ((ys_fs xf_161.1 [(5, 1, .inl (.inl ([(17, 1)], 0))), (5, 2, .inl (.inr ([(18, 1)], 0))), (5, 3, .inl (.inr ([(19, 1)], 0))), (5, 4, .inl (.inr ([(20, 1)], 0))), (5, 5, .inl (.inl ([(21, 1)], 0))), (5, 6, .inl (.inl ([(22, 1)], 0))), (5, 7, .inl (.inl ([(23, 1)], 0))), (5, 8, .inl (.inl ([(24, 1)], 0))), (5, 9, .inl (.inl ([(25, 1)], 0))), (5, 10, .inl (.inl ([(26, 1)], 0))), (6, 0, .inl (.inr ([(27, 1)], 0))), (6, 1, .inl (.inr ([(28, 1)], 0)))]), xf_161.2), some (.inl (.inr ([(16, 1)], 0))))], []))
noncomputable def xq_161 : yt_Q := (yz_X11_wide, (yl_flX11, yl_ciX11, yl_cjX11, yl_cpX11, yl_cqX11), [], [])
noncomputable def xa_161 : List yt_CE := [(((190, false), (0, false, [5, 6, 1, 2, 3, 4, 7])), (yw_s55, xk_88))]
theorem xc_161 {l : Launch} {D : va_G} {cT : Nat → ClassId} {tys : List (ClassId × FieldType)} (hty : yx_Ty tys cT) : yx_C l D cT tys yw_s56 xk_161 := yx_method (calls := xa_161) (Z := xq_161) 300 (by decide +kernel) yz_X11_wide_ok hty (yl_lkX11 _) (yl_cqkX11 _) (List.forall_mem_cons.mpr ⟨⟨xc_88 hty, yg_CLv rfl rfl rfl yl_wX11_190 yd_yX10_find⟩, fun _ h => absurd h List.not_mem_nil⟩) (by decide +kernel)
noncomputable def xf_162 : ys_F := (yw_f28 2, yw_r28)
noncomputable def xk_162 : ys_K := (((yX8_put, cX8_put, 4, none), (1, 22)), ([.inr (some 0), .inl (.inl ([(0, 1)], 0)), .inl (.inr ([(1, 1)], 0))], ([(0, 99), ((-9223372036854775808), 9223372036854775807)] ++ yw_e28, []), xf_162), ([([], [], (xf_162.1, xf_162.2), none)], [1]))
noncomputable def xq_162 : yt_Q := (yz_X8_put, (yl_flX8, yl_ciX8, yl_cjX8, yl_cpX8, yl_cqX8), [], [])
noncomputable def xa_162 : List yt_CE := [(((32, false), (0, false, [0, 1])), (yw_s27, xk_37))]
theorem xc_162 {l : Launch} {D : va_G} {cT : Nat → ClassId} {tys : List (ClassId × FieldType)} (hty : yx_Ty tys cT) : yx_C l D cT tys yw_s28 xk_162 := yx_method (calls := xa_162) (Z := xq_162) 300 (by decide +kernel) yz_X8_put_ok hty (yl_lkX8 _) (yl_cqkX8 _) (List.forall_mem_cons.mpr ⟨⟨xc_37 hty, yg_CLv rfl rfl rfl yl_wX8_32 yd_yX8_cut⟩, fun _ h => absurd h List.not_mem_nil⟩) (by decide +kernel)
noncomputable def xf_163 : ys_F := (yw_f30 3, yw_r30)
noncomputable def xk_163 : ys_K := (((yX11_write, cX11_write, 5, (some .int)), (2, 45)), ([.inr (some 0), .inl (.inl ([(0, 1)], 0)), .inl (.inl ([(1, 1)], 0)), .inl (.inr ([(2, 1)], 0))], ([((-2147483648), 2147483647), ((-2147483648), 2147483647), ((-9223372036854775808), 9223372036854775807)] ++ yw_e30, []), xf_163), ([([((-3), 0), ((-2147483648), 0)], [], ((ys_fs xf_163.1 [(0, 14, .inl (.inl ([(17, 1)], 0)))]), xf_163.2), some (.inl (.inl ([(16, 1)], 0))))], [3, 5, 7, 9]))
noncomputable def xq_163 : yt_Q := (yz_X11_write, (yl_flX11, yl_ciX11, yl_cjX11, yl_cpX11, yl_cqX11), [], [true])
noncomputable def xa_163 : List yt_CE := [(((141, true), (0, false, [])), (yw_s2, xk_35)), (((107, false), (0, false, [0, 10, 11, 12, 1, 13, 14, 15, 16, 17, 18, 19, 20, 21, 22])), (yw_s3, xk_3)), (((155, false), (0, false, [8, 9])), (yw_s27, xk_126)), (((156, false), (0, false, [8, 9])), (yw_s28, xk_162)), (((155, false), (0, false, [6, 7])), (yw_s27, xk_126)), (((156, false), (0, false, [6, 7])), (yw_s28, xk_162)), (((155, false), (0, false, [4, 5])), (yw_s27, xk_126)), (((156, false), (0, false, [4, 5])), (yw_s28, xk_162)), (((155, false), (0, false, [2, 3])), (yw_s27, xk_126)), (((156, false), (0, false, [2, 3])), (yw_s28, xk_162))]
noncomputable def xv_163 : List (List yt_VC) := [[(1000, ([((-2147483648), (-1)), ((-2147483648), 2147483647), ((-9223372036854775808), 9223372036854775807), ((-2147483648), 2147483647), (0, 1), ((-2147483648), 2147483647), (0, 100), (0, 1), ((-2147483648), 2147483647), (0, 100), (0, 1), ((-2147483648), 2147483647), (0, 100), (0, 1), ((-2147483648), 2147483647), (0, 100), ((-2147483648), 0)], []), [([], (-1)), ([(16, 1)], 0)], [], []),
   (1000, ([(4, 2147483647), ((-2147483648), 2147483647), ((-9223372036854775808), 9223372036854775807), ((-2147483648), 2147483647), (0, 1), ((-2147483648), 2147483647), (0, 100), (0, 1), ((-2147483648), 2147483647), (0, 100), (0, 1), ((-2147483648), 2147483647), (0, 100), (0, 1), ((-2147483648), 2147483647), (0, 100), ((-2147483648), 0)], []), [([], (-1)), ([(16, 1)], 0)], [], []),
   (1000, ([(0, 0), ((-2147483648), (-1)), ((-9223372036854775808), 9223372036854775807), ((-2147483648), 2147483647), (1, 1), ((-2147483648), 2147483647), (0, 100), (0, 1), ((-2147483648), 2147483647), (0, 100), (0, 1), ((-2147483648), 2147483647), (0, 100), (0, 1), ((-2147483648), 2147483647), (0, 100), ((-2147483648), 0)], []), [([], (-3)), ([(16, 1)], 0)], [], []),
   (1000, ([(0, 0), (0, 2147483647), ((-9223372036854775808), 9223372036854775807), ((-2147483648), 2147483647), (1, 1), ((-2147483648), 2147483647), (0, 100), (0, 1), ((-2147483648), 2147483647), (0, 100), (0, 1), ((-2147483648), 2147483647), (0, 100), (0, 1), ((-2147483648), 2147483647), (0, 100), ((-2147483648), 0)], [([(6, (-1)), (1, 1)], 0)]), [([], (-3)), ([(16, 1)], 0)], [], []),
   (1000, ([(0, 0), (0, 99), ((-9223372036854775808), 9223372036854775807), ((-2147483648), 2147483647), (1, 1), ((-2147483648), 2147483647), (1, 100), (0, 1), ((-2147483648), 2147483647), (0, 100), (0, 1), ((-2147483648), 2147483647), (0, 100), (0, 1), ((-2147483648), 2147483647), (0, 100), ((-2147483648), 0)], [([(6, 1), (1, (-1))], (-1))]), [([], 0), ([(16, 1)], 0)], [], [.inr (.inr (.inl (0, 0, [([(1, 1)], 0), ([(2, 1)], 0), ([(4, 1)], 0), ([(5, 1)], 0), ([(6, 1)], 0)], [2, 3], [3])))]),
   (1000, ([(0, 0), ((-2147483648), 2147483647), ((-9223372036854775808), 9223372036854775807), ((-2147483648), 2147483647), (0, 0), ((-2147483648), 2147483647), (0, 100), (0, 1), ((-2147483648), 2147483647), (0, 100), (0, 1), ((-2147483648), 2147483647), (0, 100), (0, 1), ((-2147483648), 2147483647), (0, 100), ((-2147483648), 0)], []), [([], (-2)), ([(16, 1)], 0)], [], []),
   (1000, ([(1, 1), ((-2147483648), (-1)), ((-9223372036854775808), 9223372036854775807), ((-2147483648), 2147483647), (0, 1), ((-2147483648), 2147483647), (0, 100), (1, 1), ((-2147483648), 2147483647), (0, 100), (0, 1), ((-2147483648), 2147483647), (0, 100), (0, 1), ((-2147483648), 2147483647), (0, 100), ((-2147483648), 0)], []), [([], (-3)), ([(16, 1)], 0)], [], []),
   (1000, ([(1, 1), (0, 2147483647), ((-9223372036854775808), 9223372036854775807), ((-2147483648), 2147483647), (0, 1), ((-2147483648), 2147483647), (0, 100), (1, 1), ((-2147483648), 2147483647), (0, 100), (0, 1), ((-2147483648), 2147483647), (0, 100), (0, 1), ((-2147483648), 2147483647), (0, 100), ((-2147483648), 0)], [([(9, (-1)), (1, 1)], 0)]), [([], (-3)), ([(16, 1)], 0)], [], []),
   (1000, ([(1, 1), (0, 99), ((-9223372036854775808), 9223372036854775807), ((-2147483648), 2147483647), (0, 1), ((-2147483648), 2147483647), (0, 100), (1, 1), ((-2147483648), 2147483647), (1, 100), (0, 1), ((-2147483648), 2147483647), (0, 100), (0, 1), ((-2147483648), 2147483647), (0, 100), ((-2147483648), 0)], [([(9, 1), (1, (-1))], (-1))]), [([], 0), ([(16, 1)], 0)], [], [.inr (.inr (.inl (0, 0, [([(1, 1)], 0), ([(2, 1)], 0), ([(7, 1)], 0), ([(8, 1)], 0), ([(9, 1)], 0)], [4, 5], [5])))]),
   (1000, ([(1, 1), ((-2147483648), 2147483647), ((-9223372036854775808), 9223372036854775807), ((-2147483648), 2147483647), (0, 1), ((-2147483648), 2147483647), (0, 100), (0, 0), ((-2147483648), 2147483647), (0, 100), (0, 1), ((-2147483648), 2147483647), (0, 100), (0, 1), ((-2147483648), 2147483647), (0, 100), ((-2147483648), 0)], []), [([], (-2)), ([(16, 1)], 0)], [], []),
   (1000, ([(2, 2), ((-2147483648), (-1)), ((-9223372036854775808), 9223372036854775807), ((-2147483648), 2147483647), (0, 1), ((-2147483648), 2147483647), (0, 100), (0, 1), ((-2147483648), 2147483647), (0, 100), (1, 1), ((-2147483648), 2147483647), (0, 100), (0, 1), ((-2147483648), 2147483647), (0, 100), ((-2147483648), 0)], []), [([], (-3)), ([(16, 1)], 0)], [], []),
   (1000, ([(2, 2), (0, 2147483647), ((-9223372036854775808), 9223372036854775807), ((-2147483648), 2147483647), (0, 1), ((-2147483648), 2147483647), (0, 100), (0, 1), ((-2147483648), 2147483647), (0, 100), (1, 1), ((-2147483648), 2147483647), (0, 100), (0, 1), ((-2147483648), 2147483647), (0, 100), ((-2147483648), 0)], [([(12, (-1)), (1, 1)], 0)]), [([], (-3)), ([(16, 1)], 0)], [], []),
   (1000, ([(2, 2), (0, 99), ((-9223372036854775808), 9223372036854775807), ((-2147483648), 2147483647), (0, 1), ((-2147483648), 2147483647), (0, 100), (0, 1), ((-2147483648), 2147483647), (0, 100), (1, 1), ((-2147483648), 2147483647), (1, 100), (0, 1), ((-2147483648), 2147483647), (0, 100), ((-2147483648), 0)], [([(12, 1), (1, (-1))], (-1))]), [([], 0), ([(16, 1)], 0)], [], [.inr (.inr (.inl (0, 0, [([(1, 1)], 0), ([(2, 1)], 0), ([(10, 1)], 0), ([(11, 1)], 0), ([(12, 1)], 0)], [6, 7], [7])))]),
   (1000, ([(2, 2), ((-2147483648), 2147483647), ((-9223372036854775808), 9223372036854775807), ((-2147483648), 2147483647), (0, 1), ((-2147483648), 2147483647), (0, 100), (0, 1), ((-2147483648), 2147483647), (0, 100), (0, 0), ((-2147483648), 2147483647), (0, 100), (0, 1), ((-2147483648), 2147483647), (0, 100), ((-2147483648), 0)], []), [([], (-2)), ([(16, 1)], 0)], [], []),
   (1000, ([(3, 3), ((-2147483648), (-1)), ((-9223372036854775808), 9223372036854775807), ((-2147483648), 2147483647), (0, 1), ((-2147483648), 2147483647), (0, 100), (0, 1), ((-2147483648), 2147483647), (0, 100), (0, 1), ((-2147483648), 2147483647), (0, 100), (1, 1), ((-2147483648), 2147483647), (0, 100), ((-2147483648), 0)], []), [([], (-3)), ([(16, 1)], 0)], [], []),
   (1000, ([(3, 3), (0, 2147483647), ((-9223372036854775808), 9223372036854775807), ((-2147483648), 2147483647), (0, 1), ((-2147483648), 2147483647), (0, 100), (0, 1), ((-2147483648), 2147483647), (0, 100), (0, 1), ((-2147483648), 2147483647), (0, 100), (1, 1), ((-2147483648), 2147483647), (0, 100), ((-2147483648), 0)], [([(15, (-1)), (1, 1)], 0)]), [([], (-3)), ([(16, 1)], 0)], [], []),
   (1000, ([(3, 3), (0, 99), ((-9223372036854775808), 9223372036854775807), ((-2147483648), 2147483647), (0, 1), ((-2147483648), 2147483647), (0, 100), (0, 1), ((-2147483648), 2147483647), (0, 100), (0, 1), ((-2147483648), 2147483647), (0, 100), (1, 1), ((-2147483648), 2147483647), (1, 100), ((-2147483648), 0)], [([(15, 1), (1, (-1))], (-1))]), [([], 0), ([(16, 1)], 0)], [], [.inr (.inr (.inl (0, 0, [([(1, 1)], 0), ([(2, 1)], 0), ([(13, 1)], 0), ([(14, 1)], 0), ([(15, 1)], 0)], [8, 9], [9])))]),
   (1000, ([(3, 3), ((-2147483648), 2147483647), ((-9223372036854775808), 9223372036854775807), ((-2147483648), 2147483647), (0, 1), ((-2147483648), 2147483647), (0, 100), (0, 1), ((-2147483648), 2147483647), (0, 100), (0, 1), ((-2147483648), 2147483647), (0, 100), (0, 0), ((-2147483648), 2147483647), (0, 100), ((-2147483648), 0)], []), [([], (-2)), ([(16, 1)], 0)], [], [])]]
noncomputable def xG_163 : Nat → yt_G → (Nat → Int) → yt_G → Prop
  | _, _, _, _ => True
noncomputable def xP_163 : yt_Ph
  | 0, r, g0, g => (r 16) = yq_wr (r 0) (r 1) (yq_at (r 0) ((1 * (r 4) + 0) + 0) ((1 * (r 7) + 0) + 0) ((1 * (r 10) + 0) + 0) ((1 * (r 13) + 0) + 0)) (yq_at (r 0) ((1 * (r 6) + 0) + 0) ((1 * (r 9) + 0) + 0) ((1 * (r 12) + 0) + 0) ((1 * (r 15) + 0) + 0))
  | _, _, _, _ => True
noncomputable def xR_163 : yt_Ps := fun r g0 => True
noncomputable def xT_163 : yt_Tb := fun d => match d with
  | _ => fun _ _ _ _ => True
noncomputable def xU_163 : Nat → yt_Ps := fun d => match d with
  | _ => fun _ _ => True
theorem xw_163_0_0 : yt_hold xT_163 xk_163 xq_163.2.2.1 xG_163 xP_163 xU_163 16 xk_163.2.1.2.2.2 (fun g0 r g => xR_163 r g0 ∧ g = g0) (1000, ([((-2147483648), (-1)), ((-2147483648), 2147483647), ((-9223372036854775808), 9223372036854775807), ((-2147483648), 2147483647), (0, 1), ((-2147483648), 2147483647), (0, 100), (0, 1), ((-2147483648), 2147483647), (0, 100), (0, 1), ((-2147483648), 2147483647), (0, 100), (0, 1), ((-2147483648), 2147483647), (0, 100), ((-2147483648), 0)], []), [([], (-1)), ([(16, 1)], 0)], [], []) := by
  intro g0 r gi g hok hh hars hfr hG
  have b0 : (-2147483648) ≤ r 0 ∧ r 0 ≤ (-1) := hok.1 0 ((-2147483648), (-1)) rfl
  have b1 : (-2147483648) ≤ r 1 ∧ r 1 ≤ 2147483647 := hok.1 1 ((-2147483648), 2147483647) rfl
  have b2 : (-9223372036854775808) ≤ r 2 ∧ r 2 ≤ 9223372036854775807 := hok.1 2 ((-9223372036854775808), 9223372036854775807) rfl
  have b3 : (-2147483648) ≤ r 3 ∧ r 3 ≤ 2147483647 := hok.1 3 ((-2147483648), 2147483647) rfl
  have b4 : 0 ≤ r 4 ∧ r 4 ≤ 1 := hok.1 4 (0, 1) rfl
  have b5 : (-2147483648) ≤ r 5 ∧ r 5 ≤ 2147483647 := hok.1 5 ((-2147483648), 2147483647) rfl
  have b6 : 0 ≤ r 6 ∧ r 6 ≤ 100 := hok.1 6 (0, 100) rfl
  have b7 : 0 ≤ r 7 ∧ r 7 ≤ 1 := hok.1 7 (0, 1) rfl
  have b8 : (-2147483648) ≤ r 8 ∧ r 8 ≤ 2147483647 := hok.1 8 ((-2147483648), 2147483647) rfl
  have b9 : 0 ≤ r 9 ∧ r 9 ≤ 100 := hok.1 9 (0, 100) rfl
  have b10 : 0 ≤ r 10 ∧ r 10 ≤ 1 := hok.1 10 (0, 1) rfl
  have b11 : (-2147483648) ≤ r 11 ∧ r 11 ≤ 2147483647 := hok.1 11 ((-2147483648), 2147483647) rfl
  have b12 : 0 ≤ r 12 ∧ r 12 ≤ 100 := hok.1 12 (0, 100) rfl
  have b13 : 0 ≤ r 13 ∧ r 13 ≤ 1 := hok.1 13 (0, 1) rfl
  have b14 : (-2147483648) ≤ r 14 ∧ r 14 ≤ 2147483647 := hok.1 14 ((-2147483648), 2147483647) rfl
  have b15 : 0 ≤ r 15 ∧ r 15 ≤ 100 := hok.1 15 (0, 100) rfl
  have b16 : (-2147483648) ≤ r 16 ∧ r 16 ≤ 0 := hok.1 16 ((-2147483648), 0) rfl
  obtain ⟨hG, hgi⟩ := hG
  have hG : True := hG
  have hh : g = gi := hh
  subst hh
  refine yt_dalt (by decide) (by decide) ?_
  rw [show xk_163.2.1.2.1.1.length = 16 from rfl]
  show ((0 : Int) + (-1)) = yq_wr ((1 * r 0 + 0) + 0) ((1 * r 1 + 0) + 0) (yq_at ((1 * r 0 + 0) + 0) ((1 * ((1 * r 4 + 0) + 0) + 0) + 0) ((1 * ((1 * r 7 + 0) + 0) + 0) + 0) ((1 * ((1 * r 10 + 0) + 0) + 0) + 0) ((1 * ((1 * r 13 + 0) + 0) + 0) + 0)) (yq_at ((1 * r 0 + 0) + 0) ((1 * ((1 * r 6 + 0) + 0) + 0) + 0) ((1 * ((1 * r 9 + 0) + 0) + 0) + 0) ((1 * ((1 * r 12 + 0) + 0) + 0) + 0) ((1 * ((1 * r 15 + 0) + 0) + 0) + 0))
  try simp only [Int.one_mul, Int.zero_add, Int.add_zero]
  unfold yq_wr
  rw [if_neg (by omega)] <;> omega
theorem xw_163_0_1 : yt_hold xT_163 xk_163 xq_163.2.2.1 xG_163 xP_163 xU_163 16 xk_163.2.1.2.2.2 (fun g0 r g => xR_163 r g0 ∧ g = g0) (1000, ([(4, 2147483647), ((-2147483648), 2147483647), ((-9223372036854775808), 9223372036854775807), ((-2147483648), 2147483647), (0, 1), ((-2147483648), 2147483647), (0, 100), (0, 1), ((-2147483648), 2147483647), (0, 100), (0, 1), ((-2147483648), 2147483647), (0, 100), (0, 1), ((-2147483648), 2147483647), (0, 100), ((-2147483648), 0)], []), [([], (-1)), ([(16, 1)], 0)], [], []) := by
  intro g0 r gi g hok hh hars hfr hG
  have b0 : 4 ≤ r 0 ∧ r 0 ≤ 2147483647 := hok.1 0 (4, 2147483647) rfl
  have b1 : (-2147483648) ≤ r 1 ∧ r 1 ≤ 2147483647 := hok.1 1 ((-2147483648), 2147483647) rfl
  have b2 : (-9223372036854775808) ≤ r 2 ∧ r 2 ≤ 9223372036854775807 := hok.1 2 ((-9223372036854775808), 9223372036854775807) rfl
  have b3 : (-2147483648) ≤ r 3 ∧ r 3 ≤ 2147483647 := hok.1 3 ((-2147483648), 2147483647) rfl
  have b4 : 0 ≤ r 4 ∧ r 4 ≤ 1 := hok.1 4 (0, 1) rfl
  have b5 : (-2147483648) ≤ r 5 ∧ r 5 ≤ 2147483647 := hok.1 5 ((-2147483648), 2147483647) rfl
  have b6 : 0 ≤ r 6 ∧ r 6 ≤ 100 := hok.1 6 (0, 100) rfl
  have b7 : 0 ≤ r 7 ∧ r 7 ≤ 1 := hok.1 7 (0, 1) rfl
  have b8 : (-2147483648) ≤ r 8 ∧ r 8 ≤ 2147483647 := hok.1 8 ((-2147483648), 2147483647) rfl
  have b9 : 0 ≤ r 9 ∧ r 9 ≤ 100 := hok.1 9 (0, 100) rfl
  have b10 : 0 ≤ r 10 ∧ r 10 ≤ 1 := hok.1 10 (0, 1) rfl
  have b11 : (-2147483648) ≤ r 11 ∧ r 11 ≤ 2147483647 := hok.1 11 ((-2147483648), 2147483647) rfl
  have b12 : 0 ≤ r 12 ∧ r 12 ≤ 100 := hok.1 12 (0, 100) rfl
  have b13 : 0 ≤ r 13 ∧ r 13 ≤ 1 := hok.1 13 (0, 1) rfl
  have b14 : (-2147483648) ≤ r 14 ∧ r 14 ≤ 2147483647 := hok.1 14 ((-2147483648), 2147483647) rfl
  have b15 : 0 ≤ r 15 ∧ r 15 ≤ 100 := hok.1 15 (0, 100) rfl
  have b16 : (-2147483648) ≤ r 16 ∧ r 16 ≤ 0 := hok.1 16 ((-2147483648), 0) rfl
  obtain ⟨hG, hgi⟩ := hG
  have hG : True := hG
  have hh : g = gi := hh
  subst hh
  refine yt_dalt (by decide) (by decide) ?_
  rw [show xk_163.2.1.2.1.1.length = 16 from rfl]
  show ((0 : Int) + (-1)) = yq_wr ((1 * r 0 + 0) + 0) ((1 * r 1 + 0) + 0) (yq_at ((1 * r 0 + 0) + 0) ((1 * ((1 * r 4 + 0) + 0) + 0) + 0) ((1 * ((1 * r 7 + 0) + 0) + 0) + 0) ((1 * ((1 * r 10 + 0) + 0) + 0) + 0) ((1 * ((1 * r 13 + 0) + 0) + 0) + 0)) (yq_at ((1 * r 0 + 0) + 0) ((1 * ((1 * r 6 + 0) + 0) + 0) + 0) ((1 * ((1 * r 9 + 0) + 0) + 0) + 0) ((1 * ((1 * r 12 + 0) + 0) + 0) + 0) ((1 * ((1 * r 15 + 0) + 0) + 0) + 0))
  try simp only [Int.one_mul, Int.zero_add, Int.add_zero]
  unfold yq_wr
  rw [if_neg (by omega)] <;> omega
theorem xw_163_0_2 : yt_hold xT_163 xk_163 xq_163.2.2.1 xG_163 xP_163 xU_163 16 xk_163.2.1.2.2.2 (fun g0 r g => xR_163 r g0 ∧ g = g0) (1000, ([(0, 0), ((-2147483648), (-1)), ((-9223372036854775808), 9223372036854775807), ((-2147483648), 2147483647), (1, 1), ((-2147483648), 2147483647), (0, 100), (0, 1), ((-2147483648), 2147483647), (0, 100), (0, 1), ((-2147483648), 2147483647), (0, 100), (0, 1), ((-2147483648), 2147483647), (0, 100), ((-2147483648), 0)], []), [([], (-3)), ([(16, 1)], 0)], [], []) := by
  intro g0 r gi g hok hh hars hfr hG
  have b0 : 0 ≤ r 0 ∧ r 0 ≤ 0 := hok.1 0 (0, 0) rfl
  have b1 : (-2147483648) ≤ r 1 ∧ r 1 ≤ (-1) := hok.1 1 ((-2147483648), (-1)) rfl
  have b2 : (-9223372036854775808) ≤ r 2 ∧ r 2 ≤ 9223372036854775807 := hok.1 2 ((-9223372036854775808), 9223372036854775807) rfl
  have b3 : (-2147483648) ≤ r 3 ∧ r 3 ≤ 2147483647 := hok.1 3 ((-2147483648), 2147483647) rfl
  have b4 : 1 ≤ r 4 ∧ r 4 ≤ 1 := hok.1 4 (1, 1) rfl
  have b5 : (-2147483648) ≤ r 5 ∧ r 5 ≤ 2147483647 := hok.1 5 ((-2147483648), 2147483647) rfl
  have b6 : 0 ≤ r 6 ∧ r 6 ≤ 100 := hok.1 6 (0, 100) rfl
  have b7 : 0 ≤ r 7 ∧ r 7 ≤ 1 := hok.1 7 (0, 1) rfl
  have b8 : (-2147483648) ≤ r 8 ∧ r 8 ≤ 2147483647 := hok.1 8 ((-2147483648), 2147483647) rfl
  have b9 : 0 ≤ r 9 ∧ r 9 ≤ 100 := hok.1 9 (0, 100) rfl
  have b10 : 0 ≤ r 10 ∧ r 10 ≤ 1 := hok.1 10 (0, 1) rfl
  have b11 : (-2147483648) ≤ r 11 ∧ r 11 ≤ 2147483647 := hok.1 11 ((-2147483648), 2147483647) rfl
  have b12 : 0 ≤ r 12 ∧ r 12 ≤ 100 := hok.1 12 (0, 100) rfl
  have b13 : 0 ≤ r 13 ∧ r 13 ≤ 1 := hok.1 13 (0, 1) rfl
  have b14 : (-2147483648) ≤ r 14 ∧ r 14 ≤ 2147483647 := hok.1 14 ((-2147483648), 2147483647) rfl
  have b15 : 0 ≤ r 15 ∧ r 15 ≤ 100 := hok.1 15 (0, 100) rfl
  have b16 : (-2147483648) ≤ r 16 ∧ r 16 ≤ 0 := hok.1 16 ((-2147483648), 0) rfl
  obtain ⟨hG, hgi⟩ := hG
  have hG : True := hG
  have hh : g = gi := hh
  subst hh
  refine yt_dalt (by decide) (by decide) ?_
  rw [show xk_163.2.1.2.1.1.length = 16 from rfl]
  show ((0 : Int) + (-3)) = yq_wr ((1 * r 0 + 0) + 0) ((1 * r 1 + 0) + 0) (yq_at ((1 * r 0 + 0) + 0) ((1 * ((1 * r 4 + 0) + 0) + 0) + 0) ((1 * ((1 * r 7 + 0) + 0) + 0) + 0) ((1 * ((1 * r 10 + 0) + 0) + 0) + 0) ((1 * ((1 * r 13 + 0) + 0) + 0) + 0)) (yq_at ((1 * r 0 + 0) + 0) ((1 * ((1 * r 6 + 0) + 0) + 0) + 0) ((1 * ((1 * r 9 + 0) + 0) + 0) + 0) ((1 * ((1 * r 12 + 0) + 0) + 0) + 0) ((1 * ((1 * r 15 + 0) + 0) + 0) + 0))
  try simp only [Int.one_mul, Int.zero_add, Int.add_zero]
  rw [show r 0 = 0 by omega]
  simp only [yq_at0]
  unfold yq_wr
  repeat' split
  all_goals omega
theorem xw_163_0_3 : yt_hold xT_163 xk_163 xq_163.2.2.1 xG_163 xP_163 xU_163 16 xk_163.2.1.2.2.2 (fun g0 r g => xR_163 r g0 ∧ g = g0) (1000, ([(0, 0), (0, 2147483647), ((-9223372036854775808), 9223372036854775807), ((-2147483648), 2147483647), (1, 1), ((-2147483648), 2147483647), (0, 100), (0, 1), ((-2147483648), 2147483647), (0, 100), (0, 1), ((-2147483648), 2147483647), (0, 100), (0, 1), ((-2147483648), 2147483647), (0, 100), ((-2147483648), 0)], [([(6, (-1)), (1, 1)], 0)]), [([], (-3)), ([(16, 1)], 0)], [], []) := by
  intro g0 r gi g hok hh hars hfr hG
  have b0 : 0 ≤ r 0 ∧ r 0 ≤ 0 := hok.1 0 (0, 0) rfl
  have b1 : 0 ≤ r 1 ∧ r 1 ≤ 2147483647 := hok.1 1 (0, 2147483647) rfl
  have b2 : (-9223372036854775808) ≤ r 2 ∧ r 2 ≤ 9223372036854775807 := hok.1 2 ((-9223372036854775808), 9223372036854775807) rfl
  have b3 : (-2147483648) ≤ r 3 ∧ r 3 ≤ 2147483647 := hok.1 3 ((-2147483648), 2147483647) rfl
  have b4 : 1 ≤ r 4 ∧ r 4 ≤ 1 := hok.1 4 (1, 1) rfl
  have b5 : (-2147483648) ≤ r 5 ∧ r 5 ≤ 2147483647 := hok.1 5 ((-2147483648), 2147483647) rfl
  have b6 : 0 ≤ r 6 ∧ r 6 ≤ 100 := hok.1 6 (0, 100) rfl
  have b7 : 0 ≤ r 7 ∧ r 7 ≤ 1 := hok.1 7 (0, 1) rfl
  have b8 : (-2147483648) ≤ r 8 ∧ r 8 ≤ 2147483647 := hok.1 8 ((-2147483648), 2147483647) rfl
  have b9 : 0 ≤ r 9 ∧ r 9 ≤ 100 := hok.1 9 (0, 100) rfl
  have b10 : 0 ≤ r 10 ∧ r 10 ≤ 1 := hok.1 10 (0, 1) rfl
  have b11 : (-2147483648) ≤ r 11 ∧ r 11 ≤ 2147483647 := hok.1 11 ((-2147483648), 2147483647) rfl
  have b12 : 0 ≤ r 12 ∧ r 12 ≤ 100 := hok.1 12 (0, 100) rfl
  have b13 : 0 ≤ r 13 ∧ r 13 ≤ 1 := hok.1 13 (0, 1) rfl
  have b14 : (-2147483648) ≤ r 14 ∧ r 14 ≤ 2147483647 := hok.1 14 ((-2147483648), 2147483647) rfl
  have b15 : 0 ≤ r 15 ∧ r 15 ≤ 100 := hok.1 15 (0, 100) rfl
  have b16 : (-2147483648) ≤ r 16 ∧ r 16 ≤ 0 := hok.1 16 ((-2147483648), 0) rfl
  have f0 : 0 ≤ (((-1) * r 6 + (1 * r 1 + 0)) + 0) := hok.2 _ (List.mem_of_getElem? (i := 0) rfl)
  obtain ⟨hG, hgi⟩ := hG
  have hG : True := hG
  have hh : g = gi := hh
  subst hh
  refine yt_dalt (by decide) (by decide) ?_
  rw [show xk_163.2.1.2.1.1.length = 16 from rfl]
  show ((0 : Int) + (-3)) = yq_wr ((1 * r 0 + 0) + 0) ((1 * r 1 + 0) + 0) (yq_at ((1 * r 0 + 0) + 0) ((1 * ((1 * r 4 + 0) + 0) + 0) + 0) ((1 * ((1 * r 7 + 0) + 0) + 0) + 0) ((1 * ((1 * r 10 + 0) + 0) + 0) + 0) ((1 * ((1 * r 13 + 0) + 0) + 0) + 0)) (yq_at ((1 * r 0 + 0) + 0) ((1 * ((1 * r 6 + 0) + 0) + 0) + 0) ((1 * ((1 * r 9 + 0) + 0) + 0) + 0) ((1 * ((1 * r 12 + 0) + 0) + 0) + 0) ((1 * ((1 * r 15 + 0) + 0) + 0) + 0))
  try simp only [Int.one_mul, Int.zero_add, Int.add_zero]
  rw [show r 0 = 0 by omega]
  simp only [yq_at0]
  unfold yq_wr
  repeat' split
  all_goals omega
theorem xw_163_0_4 : yt_hold xT_163 xk_163 xq_163.2.2.1 xG_163 xP_163 xU_163 16 xk_163.2.1.2.2.2 (fun g0 r g => xR_163 r g0 ∧ g = g0) (1000, ([(0, 0), (0, 99), ((-9223372036854775808), 9223372036854775807), ((-2147483648), 2147483647), (1, 1), ((-2147483648), 2147483647), (1, 100), (0, 1), ((-2147483648), 2147483647), (0, 100), (0, 1), ((-2147483648), 2147483647), (0, 100), (0, 1), ((-2147483648), 2147483647), (0, 100), ((-2147483648), 0)], [([(6, 1), (1, (-1))], (-1))]), [([], 0), ([(16, 1)], 0)], [], [.inr (.inr (.inl (0, 0, [([(1, 1)], 0), ([(2, 1)], 0), ([(4, 1)], 0), ([(5, 1)], 0), ([(6, 1)], 0)], [2, 3], [3])))]) := by
  intro g0 r gi g hok hh hars hfr hG
  have b0 : 0 ≤ r 0 ∧ r 0 ≤ 0 := hok.1 0 (0, 0) rfl
  have b1 : 0 ≤ r 1 ∧ r 1 ≤ 99 := hok.1 1 (0, 99) rfl
  have b2 : (-9223372036854775808) ≤ r 2 ∧ r 2 ≤ 9223372036854775807 := hok.1 2 ((-9223372036854775808), 9223372036854775807) rfl
  have b3 : (-2147483648) ≤ r 3 ∧ r 3 ≤ 2147483647 := hok.1 3 ((-2147483648), 2147483647) rfl
  have b4 : 1 ≤ r 4 ∧ r 4 ≤ 1 := hok.1 4 (1, 1) rfl
  have b5 : (-2147483648) ≤ r 5 ∧ r 5 ≤ 2147483647 := hok.1 5 ((-2147483648), 2147483647) rfl
  have b6 : 1 ≤ r 6 ∧ r 6 ≤ 100 := hok.1 6 (1, 100) rfl
  have b7 : 0 ≤ r 7 ∧ r 7 ≤ 1 := hok.1 7 (0, 1) rfl
  have b8 : (-2147483648) ≤ r 8 ∧ r 8 ≤ 2147483647 := hok.1 8 ((-2147483648), 2147483647) rfl
  have b9 : 0 ≤ r 9 ∧ r 9 ≤ 100 := hok.1 9 (0, 100) rfl
  have b10 : 0 ≤ r 10 ∧ r 10 ≤ 1 := hok.1 10 (0, 1) rfl
  have b11 : (-2147483648) ≤ r 11 ∧ r 11 ≤ 2147483647 := hok.1 11 ((-2147483648), 2147483647) rfl
  have b12 : 0 ≤ r 12 ∧ r 12 ≤ 100 := hok.1 12 (0, 100) rfl
  have b13 : 0 ≤ r 13 ∧ r 13 ≤ 1 := hok.1 13 (0, 1) rfl
  have b14 : (-2147483648) ≤ r 14 ∧ r 14 ≤ 2147483647 := hok.1 14 ((-2147483648), 2147483647) rfl
  have b15 : 0 ≤ r 15 ∧ r 15 ≤ 100 := hok.1 15 (0, 100) rfl
  have b16 : (-2147483648) ≤ r 16 ∧ r 16 ≤ 0 := hok.1 16 ((-2147483648), 0) rfl
  have f0 : 0 ≤ ((1 * r 6 + ((-1) * r 1 + 0)) + (-1)) := hok.2 _ (List.mem_of_getElem? (i := 0) rfl)
  obtain ⟨hG, hgi⟩ := hG
  have hG : True := hG
  obtain ⟨h0, hh, e0, k0⟩ := hh
  have k0 : ∀ j, j ∉ [3] → g j = h0 j := k0
  have hh : h0 = gi := hh
  subst hh
  refine yt_dalt (by decide) (by decide) ?_
  rw [show xk_163.2.1.2.1.1.length = 16 from rfl]
  show ((0 : Int) + 0) = yq_wr ((1 * r 0 + 0) + 0) ((1 * r 1 + 0) + 0) (yq_at ((1 * r 0 + 0) + 0) ((1 * ((1 * r 4 + 0) + 0) + 0) + 0) ((1 * ((1 * r 7 + 0) + 0) + 0) + 0) ((1 * ((1 * r 10 + 0) + 0) + 0) + 0) ((1 * ((1 * r 13 + 0) + 0) + 0) + 0)) (yq_at ((1 * r 0 + 0) + 0) ((1 * ((1 * r 6 + 0) + 0) + 0) + 0) ((1 * ((1 * r 9 + 0) + 0) + 0) + 0) ((1 * ((1 * r 12 + 0) + 0) + 0) + 0) ((1 * ((1 * r 15 + 0) + 0) + 0) + 0))
  try simp only [Int.one_mul, Int.zero_add, Int.add_zero]
  rw [show r 0 = 0 by omega]
  simp only [yq_at0]
  unfold yq_wr
  repeat' split
  all_goals omega
theorem xw_163_0_5 : yt_hold xT_163 xk_163 xq_163.2.2.1 xG_163 xP_163 xU_163 16 xk_163.2.1.2.2.2 (fun g0 r g => xR_163 r g0 ∧ g = g0) (1000, ([(0, 0), ((-2147483648), 2147483647), ((-9223372036854775808), 9223372036854775807), ((-2147483648), 2147483647), (0, 0), ((-2147483648), 2147483647), (0, 100), (0, 1), ((-2147483648), 2147483647), (0, 100), (0, 1), ((-2147483648), 2147483647), (0, 100), (0, 1), ((-2147483648), 2147483647), (0, 100), ((-2147483648), 0)], []), [([], (-2)), ([(16, 1)], 0)], [], []) := by
  intro g0 r gi g hok hh hars hfr hG
  have b0 : 0 ≤ r 0 ∧ r 0 ≤ 0 := hok.1 0 (0, 0) rfl
  have b1 : (-2147483648) ≤ r 1 ∧ r 1 ≤ 2147483647 := hok.1 1 ((-2147483648), 2147483647) rfl
  have b2 : (-9223372036854775808) ≤ r 2 ∧ r 2 ≤ 9223372036854775807 := hok.1 2 ((-9223372036854775808), 9223372036854775807) rfl
  have b3 : (-2147483648) ≤ r 3 ∧ r 3 ≤ 2147483647 := hok.1 3 ((-2147483648), 2147483647) rfl
  have b4 : 0 ≤ r 4 ∧ r 4 ≤ 0 := hok.1 4 (0, 0) rfl
  have b5 : (-2147483648) ≤ r 5 ∧ r 5 ≤ 2147483647 := hok.1 5 ((-2147483648), 2147483647) rfl
  have b6 : 0 ≤ r 6 ∧ r 6 ≤ 100 := hok.1 6 (0, 100) rfl
  have b7 : 0 ≤ r 7 ∧ r 7 ≤ 1 := hok.1 7 (0, 1) rfl
  have b8 : (-2147483648) ≤ r 8 ∧ r 8 ≤ 2147483647 := hok.1 8 ((-2147483648), 2147483647) rfl
  have b9 : 0 ≤ r 9 ∧ r 9 ≤ 100 := hok.1 9 (0, 100) rfl
  have b10 : 0 ≤ r 10 ∧ r 10 ≤ 1 := hok.1 10 (0, 1) rfl
  have b11 : (-2147483648) ≤ r 11 ∧ r 11 ≤ 2147483647 := hok.1 11 ((-2147483648), 2147483647) rfl
  have b12 : 0 ≤ r 12 ∧ r 12 ≤ 100 := hok.1 12 (0, 100) rfl
  have b13 : 0 ≤ r 13 ∧ r 13 ≤ 1 := hok.1 13 (0, 1) rfl
  have b14 : (-2147483648) ≤ r 14 ∧ r 14 ≤ 2147483647 := hok.1 14 ((-2147483648), 2147483647) rfl
  have b15 : 0 ≤ r 15 ∧ r 15 ≤ 100 := hok.1 15 (0, 100) rfl
  have b16 : (-2147483648) ≤ r 16 ∧ r 16 ≤ 0 := hok.1 16 ((-2147483648), 0) rfl
  obtain ⟨hG, hgi⟩ := hG
  have hG : True := hG
  have hh : g = gi := hh
  subst hh
  refine yt_dalt (by decide) (by decide) ?_
  rw [show xk_163.2.1.2.1.1.length = 16 from rfl]
  show ((0 : Int) + (-2)) = yq_wr ((1 * r 0 + 0) + 0) ((1 * r 1 + 0) + 0) (yq_at ((1 * r 0 + 0) + 0) ((1 * ((1 * r 4 + 0) + 0) + 0) + 0) ((1 * ((1 * r 7 + 0) + 0) + 0) + 0) ((1 * ((1 * r 10 + 0) + 0) + 0) + 0) ((1 * ((1 * r 13 + 0) + 0) + 0) + 0)) (yq_at ((1 * r 0 + 0) + 0) ((1 * ((1 * r 6 + 0) + 0) + 0) + 0) ((1 * ((1 * r 9 + 0) + 0) + 0) + 0) ((1 * ((1 * r 12 + 0) + 0) + 0) + 0) ((1 * ((1 * r 15 + 0) + 0) + 0) + 0))
  try simp only [Int.one_mul, Int.zero_add, Int.add_zero]
  rw [show r 0 = 0 by omega]
  simp only [yq_at0]
  unfold yq_wr
  repeat' split
  all_goals omega
theorem xw_163_0_6 : yt_hold xT_163 xk_163 xq_163.2.2.1 xG_163 xP_163 xU_163 16 xk_163.2.1.2.2.2 (fun g0 r g => xR_163 r g0 ∧ g = g0) (1000, ([(1, 1), ((-2147483648), (-1)), ((-9223372036854775808), 9223372036854775807), ((-2147483648), 2147483647), (0, 1), ((-2147483648), 2147483647), (0, 100), (1, 1), ((-2147483648), 2147483647), (0, 100), (0, 1), ((-2147483648), 2147483647), (0, 100), (0, 1), ((-2147483648), 2147483647), (0, 100), ((-2147483648), 0)], []), [([], (-3)), ([(16, 1)], 0)], [], []) := by
  intro g0 r gi g hok hh hars hfr hG
  have b0 : 1 ≤ r 0 ∧ r 0 ≤ 1 := hok.1 0 (1, 1) rfl
  have b1 : (-2147483648) ≤ r 1 ∧ r 1 ≤ (-1) := hok.1 1 ((-2147483648), (-1)) rfl
  have b2 : (-9223372036854775808) ≤ r 2 ∧ r 2 ≤ 9223372036854775807 := hok.1 2 ((-9223372036854775808), 9223372036854775807) rfl
  have b3 : (-2147483648) ≤ r 3 ∧ r 3 ≤ 2147483647 := hok.1 3 ((-2147483648), 2147483647) rfl
  have b4 : 0 ≤ r 4 ∧ r 4 ≤ 1 := hok.1 4 (0, 1) rfl
  have b5 : (-2147483648) ≤ r 5 ∧ r 5 ≤ 2147483647 := hok.1 5 ((-2147483648), 2147483647) rfl
  have b6 : 0 ≤ r 6 ∧ r 6 ≤ 100 := hok.1 6 (0, 100) rfl
  have b7 : 1 ≤ r 7 ∧ r 7 ≤ 1 := hok.1 7 (1, 1) rfl
  have b8 : (-2147483648) ≤ r 8 ∧ r 8 ≤ 2147483647 := hok.1 8 ((-2147483648), 2147483647) rfl
  have b9 : 0 ≤ r 9 ∧ r 9 ≤ 100 := hok.1 9 (0, 100) rfl
  have b10 : 0 ≤ r 10 ∧ r 10 ≤ 1 := hok.1 10 (0, 1) rfl
  have b11 : (-2147483648) ≤ r 11 ∧ r 11 ≤ 2147483647 := hok.1 11 ((-2147483648), 2147483647) rfl
  have b12 : 0 ≤ r 12 ∧ r 12 ≤ 100 := hok.1 12 (0, 100) rfl
  have b13 : 0 ≤ r 13 ∧ r 13 ≤ 1 := hok.1 13 (0, 1) rfl
  have b14 : (-2147483648) ≤ r 14 ∧ r 14 ≤ 2147483647 := hok.1 14 ((-2147483648), 2147483647) rfl
  have b15 : 0 ≤ r 15 ∧ r 15 ≤ 100 := hok.1 15 (0, 100) rfl
  have b16 : (-2147483648) ≤ r 16 ∧ r 16 ≤ 0 := hok.1 16 ((-2147483648), 0) rfl
  obtain ⟨hG, hgi⟩ := hG
  have hG : True := hG
  have hh : g = gi := hh
  subst hh
  refine yt_dalt (by decide) (by decide) ?_
  rw [show xk_163.2.1.2.1.1.length = 16 from rfl]
  show ((0 : Int) + (-3)) = yq_wr ((1 * r 0 + 0) + 0) ((1 * r 1 + 0) + 0) (yq_at ((1 * r 0 + 0) + 0) ((1 * ((1 * r 4 + 0) + 0) + 0) + 0) ((1 * ((1 * r 7 + 0) + 0) + 0) + 0) ((1 * ((1 * r 10 + 0) + 0) + 0) + 0) ((1 * ((1 * r 13 + 0) + 0) + 0) + 0)) (yq_at ((1 * r 0 + 0) + 0) ((1 * ((1 * r 6 + 0) + 0) + 0) + 0) ((1 * ((1 * r 9 + 0) + 0) + 0) + 0) ((1 * ((1 * r 12 + 0) + 0) + 0) + 0) ((1 * ((1 * r 15 + 0) + 0) + 0) + 0))
  try simp only [Int.one_mul, Int.zero_add, Int.add_zero]
  rw [show r 0 = 1 by omega]
  simp only [yq_at1]
  unfold yq_wr
  repeat' split
  all_goals omega
theorem xw_163_0_7 : yt_hold xT_163 xk_163 xq_163.2.2.1 xG_163 xP_163 xU_163 16 xk_163.2.1.2.2.2 (fun g0 r g => xR_163 r g0 ∧ g = g0) (1000, ([(1, 1), (0, 2147483647), ((-9223372036854775808), 9223372036854775807), ((-2147483648), 2147483647), (0, 1), ((-2147483648), 2147483647), (0, 100), (1, 1), ((-2147483648), 2147483647), (0, 100), (0, 1), ((-2147483648), 2147483647), (0, 100), (0, 1), ((-2147483648), 2147483647), (0, 100), ((-2147483648), 0)], [([(9, (-1)), (1, 1)], 0)]), [([], (-3)), ([(16, 1)], 0)], [], []) := by
  intro g0 r gi g hok hh hars hfr hG
  have b0 : 1 ≤ r 0 ∧ r 0 ≤ 1 := hok.1 0 (1, 1) rfl
  have b1 : 0 ≤ r 1 ∧ r 1 ≤ 2147483647 := hok.1 1 (0, 2147483647) rfl
  have b2 : (-9223372036854775808) ≤ r 2 ∧ r 2 ≤ 9223372036854775807 := hok.1 2 ((-9223372036854775808), 9223372036854775807) rfl
  have b3 : (-2147483648) ≤ r 3 ∧ r 3 ≤ 2147483647 := hok.1 3 ((-2147483648), 2147483647) rfl
  have b4 : 0 ≤ r 4 ∧ r 4 ≤ 1 := hok.1 4 (0, 1) rfl
  have b5 : (-2147483648) ≤ r 5 ∧ r 5 ≤ 2147483647 := hok.1 5 ((-2147483648), 2147483647) rfl
  have b6 : 0 ≤ r 6 ∧ r 6 ≤ 100 := hok.1 6 (0, 100) rfl
  have b7 : 1 ≤ r 7 ∧ r 7 ≤ 1 := hok.1 7 (1, 1) rfl
  have b8 : (-2147483648) ≤ r 8 ∧ r 8 ≤ 2147483647 := hok.1 8 ((-2147483648), 2147483647) rfl
  have b9 : 0 ≤ r 9 ∧ r 9 ≤ 100 := hok.1 9 (0, 100) rfl
  have b10 : 0 ≤ r 10 ∧ r 10 ≤ 1 := hok.1 10 (0, 1) rfl
  have b11 : (-2147483648) ≤ r 11 ∧ r 11 ≤ 2147483647 := hok.1 11 ((-2147483648), 2147483647) rfl
  have b12 : 0 ≤ r 12 ∧ r 12 ≤ 100 := hok.1 12 (0, 100) rfl
  have b13 : 0 ≤ r 13 ∧ r 13 ≤ 1 := hok.1 13 (0, 1) rfl
  have b14 : (-2147483648) ≤ r 14 ∧ r 14 ≤ 2147483647 := hok.1 14 ((-2147483648), 2147483647) rfl
  have b15 : 0 ≤ r 15 ∧ r 15 ≤ 100 := hok.1 15 (0, 100) rfl
  have b16 : (-2147483648) ≤ r 16 ∧ r 16 ≤ 0 := hok.1 16 ((-2147483648), 0) rfl
  have f0 : 0 ≤ (((-1) * r 9 + (1 * r 1 + 0)) + 0) := hok.2 _ (List.mem_of_getElem? (i := 0) rfl)
  obtain ⟨hG, hgi⟩ := hG
  have hG : True := hG
  have hh : g = gi := hh
  subst hh
  refine yt_dalt (by decide) (by decide) ?_
  rw [show xk_163.2.1.2.1.1.length = 16 from rfl]
  show ((0 : Int) + (-3)) = yq_wr ((1 * r 0 + 0) + 0) ((1 * r 1 + 0) + 0) (yq_at ((1 * r 0 + 0) + 0) ((1 * ((1 * r 4 + 0) + 0) + 0) + 0) ((1 * ((1 * r 7 + 0) + 0) + 0) + 0) ((1 * ((1 * r 10 + 0) + 0) + 0) + 0) ((1 * ((1 * r 13 + 0) + 0) + 0) + 0)) (yq_at ((1 * r 0 + 0) + 0) ((1 * ((1 * r 6 + 0) + 0) + 0) + 0) ((1 * ((1 * r 9 + 0) + 0) + 0) + 0) ((1 * ((1 * r 12 + 0) + 0) + 0) + 0) ((1 * ((1 * r 15 + 0) + 0) + 0) + 0))
  try simp only [Int.one_mul, Int.zero_add, Int.add_zero]
  rw [show r 0 = 1 by omega]
  simp only [yq_at1]
  unfold yq_wr
  repeat' split
  all_goals omega
theorem xw_163_0_8 : yt_hold xT_163 xk_163 xq_163.2.2.1 xG_163 xP_163 xU_163 16 xk_163.2.1.2.2.2 (fun g0 r g => xR_163 r g0 ∧ g = g0) (1000, ([(1, 1), (0, 99), ((-9223372036854775808), 9223372036854775807), ((-2147483648), 2147483647), (0, 1), ((-2147483648), 2147483647), (0, 100), (1, 1), ((-2147483648), 2147483647), (1, 100), (0, 1), ((-2147483648), 2147483647), (0, 100), (0, 1), ((-2147483648), 2147483647), (0, 100), ((-2147483648), 0)], [([(9, 1), (1, (-1))], (-1))]), [([], 0), ([(16, 1)], 0)], [], [.inr (.inr (.inl (0, 0, [([(1, 1)], 0), ([(2, 1)], 0), ([(7, 1)], 0), ([(8, 1)], 0), ([(9, 1)], 0)], [4, 5], [5])))]) := by
  intro g0 r gi g hok hh hars hfr hG
  have b0 : 1 ≤ r 0 ∧ r 0 ≤ 1 := hok.1 0 (1, 1) rfl
  have b1 : 0 ≤ r 1 ∧ r 1 ≤ 99 := hok.1 1 (0, 99) rfl
  have b2 : (-9223372036854775808) ≤ r 2 ∧ r 2 ≤ 9223372036854775807 := hok.1 2 ((-9223372036854775808), 9223372036854775807) rfl
  have b3 : (-2147483648) ≤ r 3 ∧ r 3 ≤ 2147483647 := hok.1 3 ((-2147483648), 2147483647) rfl
  have b4 : 0 ≤ r 4 ∧ r 4 ≤ 1 := hok.1 4 (0, 1) rfl
  have b5 : (-2147483648) ≤ r 5 ∧ r 5 ≤ 2147483647 := hok.1 5 ((-2147483648), 2147483647) rfl
  have b6 : 0 ≤ r 6 ∧ r 6 ≤ 100 := hok.1 6 (0, 100) rfl
  have b7 : 1 ≤ r 7 ∧ r 7 ≤ 1 := hok.1 7 (1, 1) rfl
  have b8 : (-2147483648) ≤ r 8 ∧ r 8 ≤ 2147483647 := hok.1 8 ((-2147483648), 2147483647) rfl
  have b9 : 1 ≤ r 9 ∧ r 9 ≤ 100 := hok.1 9 (1, 100) rfl
  have b10 : 0 ≤ r 10 ∧ r 10 ≤ 1 := hok.1 10 (0, 1) rfl
  have b11 : (-2147483648) ≤ r 11 ∧ r 11 ≤ 2147483647 := hok.1 11 ((-2147483648), 2147483647) rfl
  have b12 : 0 ≤ r 12 ∧ r 12 ≤ 100 := hok.1 12 (0, 100) rfl
  have b13 : 0 ≤ r 13 ∧ r 13 ≤ 1 := hok.1 13 (0, 1) rfl
  have b14 : (-2147483648) ≤ r 14 ∧ r 14 ≤ 2147483647 := hok.1 14 ((-2147483648), 2147483647) rfl
  have b15 : 0 ≤ r 15 ∧ r 15 ≤ 100 := hok.1 15 (0, 100) rfl
  have b16 : (-2147483648) ≤ r 16 ∧ r 16 ≤ 0 := hok.1 16 ((-2147483648), 0) rfl
  have f0 : 0 ≤ ((1 * r 9 + ((-1) * r 1 + 0)) + (-1)) := hok.2 _ (List.mem_of_getElem? (i := 0) rfl)
  obtain ⟨hG, hgi⟩ := hG
  have hG : True := hG
  obtain ⟨h0, hh, e0, k0⟩ := hh
  have k0 : ∀ j, j ∉ [5] → g j = h0 j := k0
  have hh : h0 = gi := hh
  subst hh
  refine yt_dalt (by decide) (by decide) ?_
  rw [show xk_163.2.1.2.1.1.length = 16 from rfl]
  show ((0 : Int) + 0) = yq_wr ((1 * r 0 + 0) + 0) ((1 * r 1 + 0) + 0) (yq_at ((1 * r 0 + 0) + 0) ((1 * ((1 * r 4 + 0) + 0) + 0) + 0) ((1 * ((1 * r 7 + 0) + 0) + 0) + 0) ((1 * ((1 * r 10 + 0) + 0) + 0) + 0) ((1 * ((1 * r 13 + 0) + 0) + 0) + 0)) (yq_at ((1 * r 0 + 0) + 0) ((1 * ((1 * r 6 + 0) + 0) + 0) + 0) ((1 * ((1 * r 9 + 0) + 0) + 0) + 0) ((1 * ((1 * r 12 + 0) + 0) + 0) + 0) ((1 * ((1 * r 15 + 0) + 0) + 0) + 0))
  try simp only [Int.one_mul, Int.zero_add, Int.add_zero]
  rw [show r 0 = 1 by omega]
  simp only [yq_at1]
  unfold yq_wr
  repeat' split
  all_goals omega
theorem xw_163_0_9 : yt_hold xT_163 xk_163 xq_163.2.2.1 xG_163 xP_163 xU_163 16 xk_163.2.1.2.2.2 (fun g0 r g => xR_163 r g0 ∧ g = g0) (1000, ([(1, 1), ((-2147483648), 2147483647), ((-9223372036854775808), 9223372036854775807), ((-2147483648), 2147483647), (0, 1), ((-2147483648), 2147483647), (0, 100), (0, 0), ((-2147483648), 2147483647), (0, 100), (0, 1), ((-2147483648), 2147483647), (0, 100), (0, 1), ((-2147483648), 2147483647), (0, 100), ((-2147483648), 0)], []), [([], (-2)), ([(16, 1)], 0)], [], []) := by
  intro g0 r gi g hok hh hars hfr hG
  have b0 : 1 ≤ r 0 ∧ r 0 ≤ 1 := hok.1 0 (1, 1) rfl
  have b1 : (-2147483648) ≤ r 1 ∧ r 1 ≤ 2147483647 := hok.1 1 ((-2147483648), 2147483647) rfl
  have b2 : (-9223372036854775808) ≤ r 2 ∧ r 2 ≤ 9223372036854775807 := hok.1 2 ((-9223372036854775808), 9223372036854775807) rfl
  have b3 : (-2147483648) ≤ r 3 ∧ r 3 ≤ 2147483647 := hok.1 3 ((-2147483648), 2147483647) rfl
  have b4 : 0 ≤ r 4 ∧ r 4 ≤ 1 := hok.1 4 (0, 1) rfl
  have b5 : (-2147483648) ≤ r 5 ∧ r 5 ≤ 2147483647 := hok.1 5 ((-2147483648), 2147483647) rfl
  have b6 : 0 ≤ r 6 ∧ r 6 ≤ 100 := hok.1 6 (0, 100) rfl
  have b7 : 0 ≤ r 7 ∧ r 7 ≤ 0 := hok.1 7 (0, 0) rfl
  have b8 : (-2147483648) ≤ r 8 ∧ r 8 ≤ 2147483647 := hok.1 8 ((-2147483648), 2147483647) rfl
  have b9 : 0 ≤ r 9 ∧ r 9 ≤ 100 := hok.1 9 (0, 100) rfl
  have b10 : 0 ≤ r 10 ∧ r 10 ≤ 1 := hok.1 10 (0, 1) rfl
  have b11 : (-2147483648) ≤ r 11 ∧ r 11 ≤ 2147483647 := hok.1 11 ((-2147483648), 2147483647) rfl
  have b12 : 0 ≤ r 12 ∧ r 12 ≤ 100 := hok.1 12 (0, 100) rfl
  have b13 : 0 ≤ r 13 ∧ r 13 ≤ 1 := hok.1 13 (0, 1) rfl
  have b14 : (-2147483648) ≤ r 14 ∧ r 14 ≤ 2147483647 := hok.1 14 ((-2147483648), 2147483647) rfl
  have b15 : 0 ≤ r 15 ∧ r 15 ≤ 100 := hok.1 15 (0, 100) rfl
  have b16 : (-2147483648) ≤ r 16 ∧ r 16 ≤ 0 := hok.1 16 ((-2147483648), 0) rfl
  obtain ⟨hG, hgi⟩ := hG
  have hG : True := hG
  have hh : g = gi := hh
  subst hh
  refine yt_dalt (by decide) (by decide) ?_
  rw [show xk_163.2.1.2.1.1.length = 16 from rfl]
  show ((0 : Int) + (-2)) = yq_wr ((1 * r 0 + 0) + 0) ((1 * r 1 + 0) + 0) (yq_at ((1 * r 0 + 0) + 0) ((1 * ((1 * r 4 + 0) + 0) + 0) + 0) ((1 * ((1 * r 7 + 0) + 0) + 0) + 0) ((1 * ((1 * r 10 + 0) + 0) + 0) + 0) ((1 * ((1 * r 13 + 0) + 0) + 0) + 0)) (yq_at ((1 * r 0 + 0) + 0) ((1 * ((1 * r 6 + 0) + 0) + 0) + 0) ((1 * ((1 * r 9 + 0) + 0) + 0) + 0) ((1 * ((1 * r 12 + 0) + 0) + 0) + 0) ((1 * ((1 * r 15 + 0) + 0) + 0) + 0))
  try simp only [Int.one_mul, Int.zero_add, Int.add_zero]
  rw [show r 0 = 1 by omega]
  simp only [yq_at1]
  unfold yq_wr
  repeat' split
  all_goals omega
theorem xw_163_0_10 : yt_hold xT_163 xk_163 xq_163.2.2.1 xG_163 xP_163 xU_163 16 xk_163.2.1.2.2.2 (fun g0 r g => xR_163 r g0 ∧ g = g0) (1000, ([(2, 2), ((-2147483648), (-1)), ((-9223372036854775808), 9223372036854775807), ((-2147483648), 2147483647), (0, 1), ((-2147483648), 2147483647), (0, 100), (0, 1), ((-2147483648), 2147483647), (0, 100), (1, 1), ((-2147483648), 2147483647), (0, 100), (0, 1), ((-2147483648), 2147483647), (0, 100), ((-2147483648), 0)], []), [([], (-3)), ([(16, 1)], 0)], [], []) := by
  intro g0 r gi g hok hh hars hfr hG
  have b0 : 2 ≤ r 0 ∧ r 0 ≤ 2 := hok.1 0 (2, 2) rfl
  have b1 : (-2147483648) ≤ r 1 ∧ r 1 ≤ (-1) := hok.1 1 ((-2147483648), (-1)) rfl
  have b2 : (-9223372036854775808) ≤ r 2 ∧ r 2 ≤ 9223372036854775807 := hok.1 2 ((-9223372036854775808), 9223372036854775807) rfl
  have b3 : (-2147483648) ≤ r 3 ∧ r 3 ≤ 2147483647 := hok.1 3 ((-2147483648), 2147483647) rfl
  have b4 : 0 ≤ r 4 ∧ r 4 ≤ 1 := hok.1 4 (0, 1) rfl
  have b5 : (-2147483648) ≤ r 5 ∧ r 5 ≤ 2147483647 := hok.1 5 ((-2147483648), 2147483647) rfl
  have b6 : 0 ≤ r 6 ∧ r 6 ≤ 100 := hok.1 6 (0, 100) rfl
  have b7 : 0 ≤ r 7 ∧ r 7 ≤ 1 := hok.1 7 (0, 1) rfl
  have b8 : (-2147483648) ≤ r 8 ∧ r 8 ≤ 2147483647 := hok.1 8 ((-2147483648), 2147483647) rfl
  have b9 : 0 ≤ r 9 ∧ r 9 ≤ 100 := hok.1 9 (0, 100) rfl
  have b10 : 1 ≤ r 10 ∧ r 10 ≤ 1 := hok.1 10 (1, 1) rfl
  have b11 : (-2147483648) ≤ r 11 ∧ r 11 ≤ 2147483647 := hok.1 11 ((-2147483648), 2147483647) rfl
  have b12 : 0 ≤ r 12 ∧ r 12 ≤ 100 := hok.1 12 (0, 100) rfl
  have b13 : 0 ≤ r 13 ∧ r 13 ≤ 1 := hok.1 13 (0, 1) rfl
  have b14 : (-2147483648) ≤ r 14 ∧ r 14 ≤ 2147483647 := hok.1 14 ((-2147483648), 2147483647) rfl
  have b15 : 0 ≤ r 15 ∧ r 15 ≤ 100 := hok.1 15 (0, 100) rfl
  have b16 : (-2147483648) ≤ r 16 ∧ r 16 ≤ 0 := hok.1 16 ((-2147483648), 0) rfl
  obtain ⟨hG, hgi⟩ := hG
  have hG : True := hG
  have hh : g = gi := hh
  subst hh
  refine yt_dalt (by decide) (by decide) ?_
  rw [show xk_163.2.1.2.1.1.length = 16 from rfl]
  show ((0 : Int) + (-3)) = yq_wr ((1 * r 0 + 0) + 0) ((1 * r 1 + 0) + 0) (yq_at ((1 * r 0 + 0) + 0) ((1 * ((1 * r 4 + 0) + 0) + 0) + 0) ((1 * ((1 * r 7 + 0) + 0) + 0) + 0) ((1 * ((1 * r 10 + 0) + 0) + 0) + 0) ((1 * ((1 * r 13 + 0) + 0) + 0) + 0)) (yq_at ((1 * r 0 + 0) + 0) ((1 * ((1 * r 6 + 0) + 0) + 0) + 0) ((1 * ((1 * r 9 + 0) + 0) + 0) + 0) ((1 * ((1 * r 12 + 0) + 0) + 0) + 0) ((1 * ((1 * r 15 + 0) + 0) + 0) + 0))
  try simp only [Int.one_mul, Int.zero_add, Int.add_zero]
  rw [show r 0 = 2 by omega]
  simp only [yq_at2]
  unfold yq_wr
  repeat' split
  all_goals omega
theorem xw_163_0_11 : yt_hold xT_163 xk_163 xq_163.2.2.1 xG_163 xP_163 xU_163 16 xk_163.2.1.2.2.2 (fun g0 r g => xR_163 r g0 ∧ g = g0) (1000, ([(2, 2), (0, 2147483647), ((-9223372036854775808), 9223372036854775807), ((-2147483648), 2147483647), (0, 1), ((-2147483648), 2147483647), (0, 100), (0, 1), ((-2147483648), 2147483647), (0, 100), (1, 1), ((-2147483648), 2147483647), (0, 100), (0, 1), ((-2147483648), 2147483647), (0, 100), ((-2147483648), 0)], [([(12, (-1)), (1, 1)], 0)]), [([], (-3)), ([(16, 1)], 0)], [], []) := by
  intro g0 r gi g hok hh hars hfr hG
  have b0 : 2 ≤ r 0 ∧ r 0 ≤ 2 := hok.1 0 (2, 2) rfl
  have b1 : 0 ≤ r 1 ∧ r 1 ≤ 2147483647 := hok.1 1 (0, 2147483647) rfl
  have b2 : (-9223372036854775808) ≤ r 2 ∧ r 2 ≤ 9223372036854775807 := hok.1 2 ((-9223372036854775808), 9223372036854775807) rfl
  have b3 : (-2147483648) ≤ r 3 ∧ r 3 ≤ 2147483647 := hok.1 3 ((-2147483648), 2147483647) rfl
  have b4 : 0 ≤ r 4 ∧ r 4 ≤ 1 := hok.1 4 (0, 1) rfl
  have b5 : (-2147483648) ≤ r 5 ∧ r 5 ≤ 2147483647 := hok.1 5 ((-2147483648), 2147483647) rfl
  have b6 : 0 ≤ r 6 ∧ r 6 ≤ 100 := hok.1 6 (0, 100) rfl
  have b7 : 0 ≤ r 7 ∧ r 7 ≤ 1 := hok.1 7 (0, 1) rfl
  have b8 : (-2147483648) ≤ r 8 ∧ r 8 ≤ 2147483647 := hok.1 8 ((-2147483648), 2147483647) rfl
  have b9 : 0 ≤ r 9 ∧ r 9 ≤ 100 := hok.1 9 (0, 100) rfl
  have b10 : 1 ≤ r 10 ∧ r 10 ≤ 1 := hok.1 10 (1, 1) rfl
  have b11 : (-2147483648) ≤ r 11 ∧ r 11 ≤ 2147483647 := hok.1 11 ((-2147483648), 2147483647) rfl
  have b12 : 0 ≤ r 12 ∧ r 12 ≤ 100 := hok.1 12 (0, 100) rfl
  have b13 : 0 ≤ r 13 ∧ r 13 ≤ 1 := hok.1 13 (0, 1) rfl
  have b14 : (-2147483648) ≤ r 14 ∧ r 14 ≤ 2147483647 := hok.1 14 ((-2147483648), 2147483647) rfl
  have b15 : 0 ≤ r 15 ∧ r 15 ≤ 100 := hok.1 15 (0, 100) rfl
  have b16 : (-2147483648) ≤ r 16 ∧ r 16 ≤ 0 := hok.1 16 ((-2147483648), 0) rfl
  have f0 : 0 ≤ (((-1) * r 12 + (1 * r 1 + 0)) + 0) := hok.2 _ (List.mem_of_getElem? (i := 0) rfl)
  obtain ⟨hG, hgi⟩ := hG
  have hG : True := hG
  have hh : g = gi := hh
  subst hh
  refine yt_dalt (by decide) (by decide) ?_
  rw [show xk_163.2.1.2.1.1.length = 16 from rfl]
  show ((0 : Int) + (-3)) = yq_wr ((1 * r 0 + 0) + 0) ((1 * r 1 + 0) + 0) (yq_at ((1 * r 0 + 0) + 0) ((1 * ((1 * r 4 + 0) + 0) + 0) + 0) ((1 * ((1 * r 7 + 0) + 0) + 0) + 0) ((1 * ((1 * r 10 + 0) + 0) + 0) + 0) ((1 * ((1 * r 13 + 0) + 0) + 0) + 0)) (yq_at ((1 * r 0 + 0) + 0) ((1 * ((1 * r 6 + 0) + 0) + 0) + 0) ((1 * ((1 * r 9 + 0) + 0) + 0) + 0) ((1 * ((1 * r 12 + 0) + 0) + 0) + 0) ((1 * ((1 * r 15 + 0) + 0) + 0) + 0))
  try simp only [Int.one_mul, Int.zero_add, Int.add_zero]
  rw [show r 0 = 2 by omega]
  simp only [yq_at2]
  unfold yq_wr
  repeat' split
  all_goals omega
theorem xw_163_0_12 : yt_hold xT_163 xk_163 xq_163.2.2.1 xG_163 xP_163 xU_163 16 xk_163.2.1.2.2.2 (fun g0 r g => xR_163 r g0 ∧ g = g0) (1000, ([(2, 2), (0, 99), ((-9223372036854775808), 9223372036854775807), ((-2147483648), 2147483647), (0, 1), ((-2147483648), 2147483647), (0, 100), (0, 1), ((-2147483648), 2147483647), (0, 100), (1, 1), ((-2147483648), 2147483647), (1, 100), (0, 1), ((-2147483648), 2147483647), (0, 100), ((-2147483648), 0)], [([(12, 1), (1, (-1))], (-1))]), [([], 0), ([(16, 1)], 0)], [], [.inr (.inr (.inl (0, 0, [([(1, 1)], 0), ([(2, 1)], 0), ([(10, 1)], 0), ([(11, 1)], 0), ([(12, 1)], 0)], [6, 7], [7])))]) := by
  intro g0 r gi g hok hh hars hfr hG
  have b0 : 2 ≤ r 0 ∧ r 0 ≤ 2 := hok.1 0 (2, 2) rfl
  have b1 : 0 ≤ r 1 ∧ r 1 ≤ 99 := hok.1 1 (0, 99) rfl
  have b2 : (-9223372036854775808) ≤ r 2 ∧ r 2 ≤ 9223372036854775807 := hok.1 2 ((-9223372036854775808), 9223372036854775807) rfl
  have b3 : (-2147483648) ≤ r 3 ∧ r 3 ≤ 2147483647 := hok.1 3 ((-2147483648), 2147483647) rfl
  have b4 : 0 ≤ r 4 ∧ r 4 ≤ 1 := hok.1 4 (0, 1) rfl
  have b5 : (-2147483648) ≤ r 5 ∧ r 5 ≤ 2147483647 := hok.1 5 ((-2147483648), 2147483647) rfl
  have b6 : 0 ≤ r 6 ∧ r 6 ≤ 100 := hok.1 6 (0, 100) rfl
  have b7 : 0 ≤ r 7 ∧ r 7 ≤ 1 := hok.1 7 (0, 1) rfl
  have b8 : (-2147483648) ≤ r 8 ∧ r 8 ≤ 2147483647 := hok.1 8 ((-2147483648), 2147483647) rfl
  have b9 : 0 ≤ r 9 ∧ r 9 ≤ 100 := hok.1 9 (0, 100) rfl
  have b10 : 1 ≤ r 10 ∧ r 10 ≤ 1 := hok.1 10 (1, 1) rfl
  have b11 : (-2147483648) ≤ r 11 ∧ r 11 ≤ 2147483647 := hok.1 11 ((-2147483648), 2147483647) rfl
  have b12 : 1 ≤ r 12 ∧ r 12 ≤ 100 := hok.1 12 (1, 100) rfl
  have b13 : 0 ≤ r 13 ∧ r 13 ≤ 1 := hok.1 13 (0, 1) rfl
  have b14 : (-2147483648) ≤ r 14 ∧ r 14 ≤ 2147483647 := hok.1 14 ((-2147483648), 2147483647) rfl
  have b15 : 0 ≤ r 15 ∧ r 15 ≤ 100 := hok.1 15 (0, 100) rfl
  have b16 : (-2147483648) ≤ r 16 ∧ r 16 ≤ 0 := hok.1 16 ((-2147483648), 0) rfl
  have f0 : 0 ≤ ((1 * r 12 + ((-1) * r 1 + 0)) + (-1)) := hok.2 _ (List.mem_of_getElem? (i := 0) rfl)
  obtain ⟨hG, hgi⟩ := hG
  have hG : True := hG
  obtain ⟨h0, hh, e0, k0⟩ := hh
  have k0 : ∀ j, j ∉ [7] → g j = h0 j := k0
  have hh : h0 = gi := hh
  subst hh
  refine yt_dalt (by decide) (by decide) ?_
  rw [show xk_163.2.1.2.1.1.length = 16 from rfl]
  show ((0 : Int) + 0) = yq_wr ((1 * r 0 + 0) + 0) ((1 * r 1 + 0) + 0) (yq_at ((1 * r 0 + 0) + 0) ((1 * ((1 * r 4 + 0) + 0) + 0) + 0) ((1 * ((1 * r 7 + 0) + 0) + 0) + 0) ((1 * ((1 * r 10 + 0) + 0) + 0) + 0) ((1 * ((1 * r 13 + 0) + 0) + 0) + 0)) (yq_at ((1 * r 0 + 0) + 0) ((1 * ((1 * r 6 + 0) + 0) + 0) + 0) ((1 * ((1 * r 9 + 0) + 0) + 0) + 0) ((1 * ((1 * r 12 + 0) + 0) + 0) + 0) ((1 * ((1 * r 15 + 0) + 0) + 0) + 0))
  try simp only [Int.one_mul, Int.zero_add, Int.add_zero]
  rw [show r 0 = 2 by omega]
  simp only [yq_at2]
  unfold yq_wr
  repeat' split
  all_goals omega
theorem xw_163_0_13 : yt_hold xT_163 xk_163 xq_163.2.2.1 xG_163 xP_163 xU_163 16 xk_163.2.1.2.2.2 (fun g0 r g => xR_163 r g0 ∧ g = g0) (1000, ([(2, 2), ((-2147483648), 2147483647), ((-9223372036854775808), 9223372036854775807), ((-2147483648), 2147483647), (0, 1), ((-2147483648), 2147483647), (0, 100), (0, 1), ((-2147483648), 2147483647), (0, 100), (0, 0), ((-2147483648), 2147483647), (0, 100), (0, 1), ((-2147483648), 2147483647), (0, 100), ((-2147483648), 0)], []), [([], (-2)), ([(16, 1)], 0)], [], []) := by
  intro g0 r gi g hok hh hars hfr hG
  have b0 : 2 ≤ r 0 ∧ r 0 ≤ 2 := hok.1 0 (2, 2) rfl
  have b1 : (-2147483648) ≤ r 1 ∧ r 1 ≤ 2147483647 := hok.1 1 ((-2147483648), 2147483647) rfl
  have b2 : (-9223372036854775808) ≤ r 2 ∧ r 2 ≤ 9223372036854775807 := hok.1 2 ((-9223372036854775808), 9223372036854775807) rfl
  have b3 : (-2147483648) ≤ r 3 ∧ r 3 ≤ 2147483647 := hok.1 3 ((-2147483648), 2147483647) rfl
  have b4 : 0 ≤ r 4 ∧ r 4 ≤ 1 := hok.1 4 (0, 1) rfl
  have b5 : (-2147483648) ≤ r 5 ∧ r 5 ≤ 2147483647 := hok.1 5 ((-2147483648), 2147483647) rfl
  have b6 : 0 ≤ r 6 ∧ r 6 ≤ 100 := hok.1 6 (0, 100) rfl
  have b7 : 0 ≤ r 7 ∧ r 7 ≤ 1 := hok.1 7 (0, 1) rfl
  have b8 : (-2147483648) ≤ r 8 ∧ r 8 ≤ 2147483647 := hok.1 8 ((-2147483648), 2147483647) rfl
  have b9 : 0 ≤ r 9 ∧ r 9 ≤ 100 := hok.1 9 (0, 100) rfl
  have b10 : 0 ≤ r 10 ∧ r 10 ≤ 0 := hok.1 10 (0, 0) rfl
  have b11 : (-2147483648) ≤ r 11 ∧ r 11 ≤ 2147483647 := hok.1 11 ((-2147483648), 2147483647) rfl
  have b12 : 0 ≤ r 12 ∧ r 12 ≤ 100 := hok.1 12 (0, 100) rfl
  have b13 : 0 ≤ r 13 ∧ r 13 ≤ 1 := hok.1 13 (0, 1) rfl
  have b14 : (-2147483648) ≤ r 14 ∧ r 14 ≤ 2147483647 := hok.1 14 ((-2147483648), 2147483647) rfl
  have b15 : 0 ≤ r 15 ∧ r 15 ≤ 100 := hok.1 15 (0, 100) rfl
  have b16 : (-2147483648) ≤ r 16 ∧ r 16 ≤ 0 := hok.1 16 ((-2147483648), 0) rfl
  obtain ⟨hG, hgi⟩ := hG
  have hG : True := hG
  have hh : g = gi := hh
  subst hh
  refine yt_dalt (by decide) (by decide) ?_
  rw [show xk_163.2.1.2.1.1.length = 16 from rfl]
  show ((0 : Int) + (-2)) = yq_wr ((1 * r 0 + 0) + 0) ((1 * r 1 + 0) + 0) (yq_at ((1 * r 0 + 0) + 0) ((1 * ((1 * r 4 + 0) + 0) + 0) + 0) ((1 * ((1 * r 7 + 0) + 0) + 0) + 0) ((1 * ((1 * r 10 + 0) + 0) + 0) + 0) ((1 * ((1 * r 13 + 0) + 0) + 0) + 0)) (yq_at ((1 * r 0 + 0) + 0) ((1 * ((1 * r 6 + 0) + 0) + 0) + 0) ((1 * ((1 * r 9 + 0) + 0) + 0) + 0) ((1 * ((1 * r 12 + 0) + 0) + 0) + 0) ((1 * ((1 * r 15 + 0) + 0) + 0) + 0))
  try simp only [Int.one_mul, Int.zero_add, Int.add_zero]
  rw [show r 0 = 2 by omega]
  simp only [yq_at2]
  unfold yq_wr
  repeat' split
  all_goals omega
theorem xw_163_0_14 : yt_hold xT_163 xk_163 xq_163.2.2.1 xG_163 xP_163 xU_163 16 xk_163.2.1.2.2.2 (fun g0 r g => xR_163 r g0 ∧ g = g0) (1000, ([(3, 3), ((-2147483648), (-1)), ((-9223372036854775808), 9223372036854775807), ((-2147483648), 2147483647), (0, 1), ((-2147483648), 2147483647), (0, 100), (0, 1), ((-2147483648), 2147483647), (0, 100), (0, 1), ((-2147483648), 2147483647), (0, 100), (1, 1), ((-2147483648), 2147483647), (0, 100), ((-2147483648), 0)], []), [([], (-3)), ([(16, 1)], 0)], [], []) := by
  intro g0 r gi g hok hh hars hfr hG
  have b0 : 3 ≤ r 0 ∧ r 0 ≤ 3 := hok.1 0 (3, 3) rfl
  have b1 : (-2147483648) ≤ r 1 ∧ r 1 ≤ (-1) := hok.1 1 ((-2147483648), (-1)) rfl
  have b2 : (-9223372036854775808) ≤ r 2 ∧ r 2 ≤ 9223372036854775807 := hok.1 2 ((-9223372036854775808), 9223372036854775807) rfl
  have b3 : (-2147483648) ≤ r 3 ∧ r 3 ≤ 2147483647 := hok.1 3 ((-2147483648), 2147483647) rfl
  have b4 : 0 ≤ r 4 ∧ r 4 ≤ 1 := hok.1 4 (0, 1) rfl
  have b5 : (-2147483648) ≤ r 5 ∧ r 5 ≤ 2147483647 := hok.1 5 ((-2147483648), 2147483647) rfl
  have b6 : 0 ≤ r 6 ∧ r 6 ≤ 100 := hok.1 6 (0, 100) rfl
  have b7 : 0 ≤ r 7 ∧ r 7 ≤ 1 := hok.1 7 (0, 1) rfl
  have b8 : (-2147483648) ≤ r 8 ∧ r 8 ≤ 2147483647 := hok.1 8 ((-2147483648), 2147483647) rfl
  have b9 : 0 ≤ r 9 ∧ r 9 ≤ 100 := hok.1 9 (0, 100) rfl
  have b10 : 0 ≤ r 10 ∧ r 10 ≤ 1 := hok.1 10 (0, 1) rfl
  have b11 : (-2147483648) ≤ r 11 ∧ r 11 ≤ 2147483647 := hok.1 11 ((-2147483648), 2147483647) rfl
  have b12 : 0 ≤ r 12 ∧ r 12 ≤ 100 := hok.1 12 (0, 100) rfl
  have b13 : 1 ≤ r 13 ∧ r 13 ≤ 1 := hok.1 13 (1, 1) rfl
  have b14 : (-2147483648) ≤ r 14 ∧ r 14 ≤ 2147483647 := hok.1 14 ((-2147483648), 2147483647) rfl
  have b15 : 0 ≤ r 15 ∧ r 15 ≤ 100 := hok.1 15 (0, 100) rfl
  have b16 : (-2147483648) ≤ r 16 ∧ r 16 ≤ 0 := hok.1 16 ((-2147483648), 0) rfl
  obtain ⟨hG, hgi⟩ := hG
  have hG : True := hG
  have hh : g = gi := hh
  subst hh
  refine yt_dalt (by decide) (by decide) ?_
  rw [show xk_163.2.1.2.1.1.length = 16 from rfl]
  show ((0 : Int) + (-3)) = yq_wr ((1 * r 0 + 0) + 0) ((1 * r 1 + 0) + 0) (yq_at ((1 * r 0 + 0) + 0) ((1 * ((1 * r 4 + 0) + 0) + 0) + 0) ((1 * ((1 * r 7 + 0) + 0) + 0) + 0) ((1 * ((1 * r 10 + 0) + 0) + 0) + 0) ((1 * ((1 * r 13 + 0) + 0) + 0) + 0)) (yq_at ((1 * r 0 + 0) + 0) ((1 * ((1 * r 6 + 0) + 0) + 0) + 0) ((1 * ((1 * r 9 + 0) + 0) + 0) + 0) ((1 * ((1 * r 12 + 0) + 0) + 0) + 0) ((1 * ((1 * r 15 + 0) + 0) + 0) + 0))
  try simp only [Int.one_mul, Int.zero_add, Int.add_zero]
  rw [show r 0 = 3 by omega]
  simp only [yq_at3]
  unfold yq_wr
  repeat' split
  all_goals omega
theorem xw_163_0_15 : yt_hold xT_163 xk_163 xq_163.2.2.1 xG_163 xP_163 xU_163 16 xk_163.2.1.2.2.2 (fun g0 r g => xR_163 r g0 ∧ g = g0) (1000, ([(3, 3), (0, 2147483647), ((-9223372036854775808), 9223372036854775807), ((-2147483648), 2147483647), (0, 1), ((-2147483648), 2147483647), (0, 100), (0, 1), ((-2147483648), 2147483647), (0, 100), (0, 1), ((-2147483648), 2147483647), (0, 100), (1, 1), ((-2147483648), 2147483647), (0, 100), ((-2147483648), 0)], [([(15, (-1)), (1, 1)], 0)]), [([], (-3)), ([(16, 1)], 0)], [], []) := by
  intro g0 r gi g hok hh hars hfr hG
  have b0 : 3 ≤ r 0 ∧ r 0 ≤ 3 := hok.1 0 (3, 3) rfl
  have b1 : 0 ≤ r 1 ∧ r 1 ≤ 2147483647 := hok.1 1 (0, 2147483647) rfl
  have b2 : (-9223372036854775808) ≤ r 2 ∧ r 2 ≤ 9223372036854775807 := hok.1 2 ((-9223372036854775808), 9223372036854775807) rfl
  have b3 : (-2147483648) ≤ r 3 ∧ r 3 ≤ 2147483647 := hok.1 3 ((-2147483648), 2147483647) rfl
  have b4 : 0 ≤ r 4 ∧ r 4 ≤ 1 := hok.1 4 (0, 1) rfl
  have b5 : (-2147483648) ≤ r 5 ∧ r 5 ≤ 2147483647 := hok.1 5 ((-2147483648), 2147483647) rfl
  have b6 : 0 ≤ r 6 ∧ r 6 ≤ 100 := hok.1 6 (0, 100) rfl
  have b7 : 0 ≤ r 7 ∧ r 7 ≤ 1 := hok.1 7 (0, 1) rfl
  have b8 : (-2147483648) ≤ r 8 ∧ r 8 ≤ 2147483647 := hok.1 8 ((-2147483648), 2147483647) rfl
  have b9 : 0 ≤ r 9 ∧ r 9 ≤ 100 := hok.1 9 (0, 100) rfl
  have b10 : 0 ≤ r 10 ∧ r 10 ≤ 1 := hok.1 10 (0, 1) rfl
  have b11 : (-2147483648) ≤ r 11 ∧ r 11 ≤ 2147483647 := hok.1 11 ((-2147483648), 2147483647) rfl
  have b12 : 0 ≤ r 12 ∧ r 12 ≤ 100 := hok.1 12 (0, 100) rfl
  have b13 : 1 ≤ r 13 ∧ r 13 ≤ 1 := hok.1 13 (1, 1) rfl
  have b14 : (-2147483648) ≤ r 14 ∧ r 14 ≤ 2147483647 := hok.1 14 ((-2147483648), 2147483647) rfl
  have b15 : 0 ≤ r 15 ∧ r 15 ≤ 100 := hok.1 15 (0, 100) rfl
  have b16 : (-2147483648) ≤ r 16 ∧ r 16 ≤ 0 := hok.1 16 ((-2147483648), 0) rfl
  have f0 : 0 ≤ (((-1) * r 15 + (1 * r 1 + 0)) + 0) := hok.2 _ (List.mem_of_getElem? (i := 0) rfl)
  obtain ⟨hG, hgi⟩ := hG
  have hG : True := hG
  have hh : g = gi := hh
  subst hh
  refine yt_dalt (by decide) (by decide) ?_
  rw [show xk_163.2.1.2.1.1.length = 16 from rfl]
  show ((0 : Int) + (-3)) = yq_wr ((1 * r 0 + 0) + 0) ((1 * r 1 + 0) + 0) (yq_at ((1 * r 0 + 0) + 0) ((1 * ((1 * r 4 + 0) + 0) + 0) + 0) ((1 * ((1 * r 7 + 0) + 0) + 0) + 0) ((1 * ((1 * r 10 + 0) + 0) + 0) + 0) ((1 * ((1 * r 13 + 0) + 0) + 0) + 0)) (yq_at ((1 * r 0 + 0) + 0) ((1 * ((1 * r 6 + 0) + 0) + 0) + 0) ((1 * ((1 * r 9 + 0) + 0) + 0) + 0) ((1 * ((1 * r 12 + 0) + 0) + 0) + 0) ((1 * ((1 * r 15 + 0) + 0) + 0) + 0))
  try simp only [Int.one_mul, Int.zero_add, Int.add_zero]
  rw [show r 0 = 3 by omega]
  simp only [yq_at3]
  unfold yq_wr
  repeat' split
  all_goals omega
theorem xw_163_0_16 : yt_hold xT_163 xk_163 xq_163.2.2.1 xG_163 xP_163 xU_163 16 xk_163.2.1.2.2.2 (fun g0 r g => xR_163 r g0 ∧ g = g0) (1000, ([(3, 3), (0, 99), ((-9223372036854775808), 9223372036854775807), ((-2147483648), 2147483647), (0, 1), ((-2147483648), 2147483647), (0, 100), (0, 1), ((-2147483648), 2147483647), (0, 100), (0, 1), ((-2147483648), 2147483647), (0, 100), (1, 1), ((-2147483648), 2147483647), (1, 100), ((-2147483648), 0)], [([(15, 1), (1, (-1))], (-1))]), [([], 0), ([(16, 1)], 0)], [], [.inr (.inr (.inl (0, 0, [([(1, 1)], 0), ([(2, 1)], 0), ([(13, 1)], 0), ([(14, 1)], 0), ([(15, 1)], 0)], [8, 9], [9])))]) := by
  intro g0 r gi g hok hh hars hfr hG
  have b0 : 3 ≤ r 0 ∧ r 0 ≤ 3 := hok.1 0 (3, 3) rfl
  have b1 : 0 ≤ r 1 ∧ r 1 ≤ 99 := hok.1 1 (0, 99) rfl
  have b2 : (-9223372036854775808) ≤ r 2 ∧ r 2 ≤ 9223372036854775807 := hok.1 2 ((-9223372036854775808), 9223372036854775807) rfl
  have b3 : (-2147483648) ≤ r 3 ∧ r 3 ≤ 2147483647 := hok.1 3 ((-2147483648), 2147483647) rfl
  have b4 : 0 ≤ r 4 ∧ r 4 ≤ 1 := hok.1 4 (0, 1) rfl
  have b5 : (-2147483648) ≤ r 5 ∧ r 5 ≤ 2147483647 := hok.1 5 ((-2147483648), 2147483647) rfl
  have b6 : 0 ≤ r 6 ∧ r 6 ≤ 100 := hok.1 6 (0, 100) rfl
  have b7 : 0 ≤ r 7 ∧ r 7 ≤ 1 := hok.1 7 (0, 1) rfl
  have b8 : (-2147483648) ≤ r 8 ∧ r 8 ≤ 2147483647 := hok.1 8 ((-2147483648), 2147483647) rfl
  have b9 : 0 ≤ r 9 ∧ r 9 ≤ 100 := hok.1 9 (0, 100) rfl
  have b10 : 0 ≤ r 10 ∧ r 10 ≤ 1 := hok.1 10 (0, 1) rfl
  have b11 : (-2147483648) ≤ r 11 ∧ r 11 ≤ 2147483647 := hok.1 11 ((-2147483648), 2147483647) rfl
  have b12 : 0 ≤ r 12 ∧ r 12 ≤ 100 := hok.1 12 (0, 100) rfl
  have b13 : 1 ≤ r 13 ∧ r 13 ≤ 1 := hok.1 13 (1, 1) rfl
  have b14 : (-2147483648) ≤ r 14 ∧ r 14 ≤ 2147483647 := hok.1 14 ((-2147483648), 2147483647) rfl
  have b15 : 1 ≤ r 15 ∧ r 15 ≤ 100 := hok.1 15 (1, 100) rfl
  have b16 : (-2147483648) ≤ r 16 ∧ r 16 ≤ 0 := hok.1 16 ((-2147483648), 0) rfl
  have f0 : 0 ≤ ((1 * r 15 + ((-1) * r 1 + 0)) + (-1)) := hok.2 _ (List.mem_of_getElem? (i := 0) rfl)
  obtain ⟨hG, hgi⟩ := hG
  have hG : True := hG
  obtain ⟨h0, hh, e0, k0⟩ := hh
  have k0 : ∀ j, j ∉ [9] → g j = h0 j := k0
  have hh : h0 = gi := hh
  subst hh
  refine yt_dalt (by decide) (by decide) ?_
  rw [show xk_163.2.1.2.1.1.length = 16 from rfl]
  show ((0 : Int) + 0) = yq_wr ((1 * r 0 + 0) + 0) ((1 * r 1 + 0) + 0) (yq_at ((1 * r 0 + 0) + 0) ((1 * ((1 * r 4 + 0) + 0) + 0) + 0) ((1 * ((1 * r 7 + 0) + 0) + 0) + 0) ((1 * ((1 * r 10 + 0) + 0) + 0) + 0) ((1 * ((1 * r 13 + 0) + 0) + 0) + 0)) (yq_at ((1 * r 0 + 0) + 0) ((1 * ((1 * r 6 + 0) + 0) + 0) + 0) ((1 * ((1 * r 9 + 0) + 0) + 0) + 0) ((1 * ((1 * r 12 + 0) + 0) + 0) + 0) ((1 * ((1 * r 15 + 0) + 0) + 0) + 0))
  try simp only [Int.one_mul, Int.zero_add, Int.add_zero]
  rw [show r 0 = 3 by omega]
  simp only [yq_at3]
  unfold yq_wr
  repeat' split
  all_goals omega
theorem xw_163_0_17 : yt_hold xT_163 xk_163 xq_163.2.2.1 xG_163 xP_163 xU_163 16 xk_163.2.1.2.2.2 (fun g0 r g => xR_163 r g0 ∧ g = g0) (1000, ([(3, 3), ((-2147483648), 2147483647), ((-9223372036854775808), 9223372036854775807), ((-2147483648), 2147483647), (0, 1), ((-2147483648), 2147483647), (0, 100), (0, 1), ((-2147483648), 2147483647), (0, 100), (0, 1), ((-2147483648), 2147483647), (0, 100), (0, 0), ((-2147483648), 2147483647), (0, 100), ((-2147483648), 0)], []), [([], (-2)), ([(16, 1)], 0)], [], []) := by
  intro g0 r gi g hok hh hars hfr hG
  have b0 : 3 ≤ r 0 ∧ r 0 ≤ 3 := hok.1 0 (3, 3) rfl
  have b1 : (-2147483648) ≤ r 1 ∧ r 1 ≤ 2147483647 := hok.1 1 ((-2147483648), 2147483647) rfl
  have b2 : (-9223372036854775808) ≤ r 2 ∧ r 2 ≤ 9223372036854775807 := hok.1 2 ((-9223372036854775808), 9223372036854775807) rfl
  have b3 : (-2147483648) ≤ r 3 ∧ r 3 ≤ 2147483647 := hok.1 3 ((-2147483648), 2147483647) rfl
  have b4 : 0 ≤ r 4 ∧ r 4 ≤ 1 := hok.1 4 (0, 1) rfl
  have b5 : (-2147483648) ≤ r 5 ∧ r 5 ≤ 2147483647 := hok.1 5 ((-2147483648), 2147483647) rfl
  have b6 : 0 ≤ r 6 ∧ r 6 ≤ 100 := hok.1 6 (0, 100) rfl
  have b7 : 0 ≤ r 7 ∧ r 7 ≤ 1 := hok.1 7 (0, 1) rfl
  have b8 : (-2147483648) ≤ r 8 ∧ r 8 ≤ 2147483647 := hok.1 8 ((-2147483648), 2147483647) rfl
  have b9 : 0 ≤ r 9 ∧ r 9 ≤ 100 := hok.1 9 (0, 100) rfl
  have b10 : 0 ≤ r 10 ∧ r 10 ≤ 1 := hok.1 10 (0, 1) rfl
  have b11 : (-2147483648) ≤ r 11 ∧ r 11 ≤ 2147483647 := hok.1 11 ((-2147483648), 2147483647) rfl
  have b12 : 0 ≤ r 12 ∧ r 12 ≤ 100 := hok.1 12 (0, 100) rfl
  have b13 : 0 ≤ r 13 ∧ r 13 ≤ 0 := hok.1 13 (0, 0) rfl
  have b14 : (-2147483648) ≤ r 14 ∧ r 14 ≤ 2147483647 := hok.1 14 ((-2147483648), 2147483647) rfl
  have b15 : 0 ≤ r 15 ∧ r 15 ≤ 100 := hok.1 15 (0, 100) rfl
  have b16 : (-2147483648) ≤ r 16 ∧ r 16 ≤ 0 := hok.1 16 ((-2147483648), 0) rfl
  obtain ⟨hG, hgi⟩ := hG
  have hG : True := hG
  have hh : g = gi := hh
  subst hh
  refine yt_dalt (by decide) (by decide) ?_
  rw [show xk_163.2.1.2.1.1.length = 16 from rfl]
  show ((0 : Int) + (-2)) = yq_wr ((1 * r 0 + 0) + 0) ((1 * r 1 + 0) + 0) (yq_at ((1 * r 0 + 0) + 0) ((1 * ((1 * r 4 + 0) + 0) + 0) + 0) ((1 * ((1 * r 7 + 0) + 0) + 0) + 0) ((1 * ((1 * r 10 + 0) + 0) + 0) + 0) ((1 * ((1 * r 13 + 0) + 0) + 0) + 0)) (yq_at ((1 * r 0 + 0) + 0) ((1 * ((1 * r 6 + 0) + 0) + 0) + 0) ((1 * ((1 * r 9 + 0) + 0) + 0) + 0) ((1 * ((1 * r 12 + 0) + 0) + 0) + 0) ((1 * ((1 * r 15 + 0) + 0) + 0) + 0))
  try simp only [Int.one_mul, Int.zero_add, Int.add_zero]
  rw [show r 0 = 3 by omega]
  simp only [yq_at3]
  unfold yq_wr
  repeat' split
  all_goals omega
theorem xn_163 : ∀ (j : Nat) (q : Nat × yt_T), xq_163.2.2.1[j]? = some q → q.2.2.2 = false → ∀ g0 r g, xG_163 j g0 r g
  | n + 0, q, hq, _ => by cases hq
theorem xs_163 : ∀ j, xq_163.2.2.2.getD j false = false → ∀ r g g', xP_163 j r g g'
  | 0, hf => by cases hf
  | n + 1, _ => fun _ _ _ => trivial
theorem xc_163 {l : Launch} {D : va_G} {cT : Nat → ClassId} {tys : List (ClassId × FieldType)} (hty : yx_Ty tys cT) : yt_Con l D vwCl cT tys yG yw_s30 xk_163 xR_163 xP_163 := yx_sem (calls := xa_163) (Z := xq_163) (tb := xT_163) (pt := xU_163) (Ga := xG_163) (vs := xv_163) (fun _ _ _ _ => trivial) 300 (by decide +kernel) yz_X11_write_ok hty (yl_lkX11 _) (yl_cqkX11 _) (List.forall_mem_cons.mpr ⟨⟨xc_35 hty, yg_CLs yl_wX11_141 yd_yX11_isSheet, fun _ _ _ => trivial⟩, List.forall_mem_cons.mpr ⟨⟨xc_3 hty, yg_CLv rfl rfl rfl yl_wX11_107 yd_yX11_told, fun _ _ _ => trivial⟩, List.forall_mem_cons.mpr ⟨⟨xc_126 hty, yg_CLv rfl rfl rfl yl_wX11_155 yd_yX8_has, fun _ _ _ => trivial⟩, List.forall_mem_cons.mpr ⟨⟨xc_162 hty, yg_CLv rfl rfl rfl yl_wX11_156 yd_yX8_put, fun _ _ _ => trivial⟩, List.forall_mem_cons.mpr ⟨⟨xc_126 hty, yg_CLv rfl rfl rfl yl_wX11_155 yd_yX8_has, fun _ _ _ => trivial⟩, List.forall_mem_cons.mpr ⟨⟨xc_162 hty, yg_CLv rfl rfl rfl yl_wX11_156 yd_yX8_put, fun _ _ _ => trivial⟩, List.forall_mem_cons.mpr ⟨⟨xc_126 hty, yg_CLv rfl rfl rfl yl_wX11_155 yd_yX8_has, fun _ _ _ => trivial⟩, List.forall_mem_cons.mpr ⟨⟨xc_162 hty, yg_CLv rfl rfl rfl yl_wX11_156 yd_yX8_put, fun _ _ _ => trivial⟩, List.forall_mem_cons.mpr ⟨⟨xc_126 hty, yg_CLv rfl rfl rfl yl_wX11_155 yd_yX8_has, fun _ _ _ => trivial⟩, List.forall_mem_cons.mpr ⟨⟨xc_162 hty, yg_CLv rfl rfl rfl yl_wX11_156 yd_yX8_put, fun _ _ _ => trivial⟩, fun _ h => absurd h List.not_mem_nil⟩⟩⟩⟩⟩⟩⟩⟩⟩⟩) (xn_163) (xs_163) (by decide +kernel) (List.forall_mem_cons.mpr ⟨xw_163_0_0, List.forall_mem_cons.mpr ⟨xw_163_0_1, List.forall_mem_cons.mpr ⟨xw_163_0_2, List.forall_mem_cons.mpr ⟨xw_163_0_3, List.forall_mem_cons.mpr ⟨xw_163_0_4, List.forall_mem_cons.mpr ⟨xw_163_0_5, List.forall_mem_cons.mpr ⟨xw_163_0_6, List.forall_mem_cons.mpr ⟨xw_163_0_7, List.forall_mem_cons.mpr ⟨xw_163_0_8, List.forall_mem_cons.mpr ⟨xw_163_0_9, List.forall_mem_cons.mpr ⟨xw_163_0_10, List.forall_mem_cons.mpr ⟨xw_163_0_11, List.forall_mem_cons.mpr ⟨xw_163_0_12, List.forall_mem_cons.mpr ⟨xw_163_0_13, List.forall_mem_cons.mpr ⟨xw_163_0_14, List.forall_mem_cons.mpr ⟨xw_163_0_15, List.forall_mem_cons.mpr ⟨xw_163_0_16, List.forall_mem_cons.mpr ⟨xw_163_0_17, fun _ h => absurd h List.not_mem_nil⟩⟩⟩⟩⟩⟩⟩⟩⟩⟩⟩⟩⟩⟩⟩⟩⟩⟩) (trivial)
