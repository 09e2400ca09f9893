noncomputable def xf_140 : ys_F := (yw_f2 5, yw_r2)
noncomputable def xk_140 : ys_K := (((yX9_saysYes, cX9_saysYes, 6, (some .boolean)), (0, 0)), ([.inl (.inl ([(0, 1)], 0)), .inl (.inl ([(1, 1)], 0)), .inl (.inl ([(2, 1)], 0)), .inl (.inl ([(3, 1)], 0)), .inl (.inl ([(4, 1)], 0))], ([((-2147483648), 2147483647), ((-2147483648), 2147483647), ((-2147483648), 2147483647), ((-2147483648), 2147483647), ((-2147483648), 2147483647)] ++ yw_e2, []), xf_140), ([([], [], (xf_140.1, xf_140.2), some (.inl (.inl ([], 0)))), ([], [], (xf_140.1, xf_140.2), some (.inl (.inl ([], 1))))], []))
noncomputable def xq_140 : yt_Q := (yz_X9_saysYes, (yl_flX9, yl_ciX9, yl_cjX9, yl_cpX9, yl_cqX9), [], [])
noncomputable def xa_140 : List yt_CE := []
theorem xc_140 {l : Launch} {D : va_G} {cT : Nat → ClassId} {tys : List (ClassId × FieldType)} (hty : yx_Ty tys cT) : yx_C l D cT tys yw_s2 xk_140 := yx_method (calls := xa_140) (Z := xq_140) 300 (by decide +kernel) yz_X9_saysYes_ok hty (yl_lkX9 _) (yl_cqkX9 _) (fun _ h => absurd h List.not_mem_nil) (by decide +kernel)
noncomputable def yw_s73 : List ys_C := [.inl 9]
noncomputable def yw_f73 (n : Nat) : List (List ys_V) := [[.inr (some 1), .inr (some 2), .inr (some 3), .inr (some 4), .inr (some 5), .inr (some 6), .inl (.inl ([(n + 0, 1)], 0)), .inl (.inl ([(n + 1, 1)], 0)), .inl (.inl ([(n + 2, 1)], 0)), .inr (some 7), .inr (some 8), .inr (some 9), .inl (.inl ([(n + 3, 1)], 0)), .inl (.inl ([(n + 4, 1)], 0)), .inl (.inl ([(n + 5, 1)], 0)), .inl (.inr ([(n + 6, 1)], 0)), .inl (.inr ([(n + 7, 1)], 0))]]
noncomputable def yw_e73 : ys_E := [(0, 40), (0, 12), ((-2147483648), 2147483647), ((-2147483648), 2147483647), ((-2147483648), 2147483647), ((-2147483648), 2147483647), ((-9223372036854775808), 9223372036854775807), ((-9223372036854775808), 9223372036854775807)]
noncomputable def yw_r73 : List ys_R := [((0, 0), [])]
noncomputable def xf_141 : ys_F := (yw_f73 4, yw_r73)
noncomputable def xk_141 : ys_K := (((yX9_offer, cX9_offer, 7, none), (0, 0)), ([.inr (some 0), .inl (.inl ([(0, 1)], 0)), .inl (.inl ([(1, 1)], 0)), .inl (.inl ([(2, 1)], 0)), .inl (.inr ([(3, 1)], 0))], ([((-2147483648), 2147483647), ((-2147483648), 2147483647), ((-2147483648), 2147483647), ((-9223372036854775808), 9223372036854775807)] ++ yw_e73, []), xf_141), ([([((-2147483648), 2147483647), ((-2147483648), 2147483647), ((-2147483648), 2147483647), ((-9223372036854775808), 9223372036854775807)], [], ((ys_fs xf_141.1 [(0, 12, .inl (.inl ([(12, 1)], 0))), (0, 13, .inl (.inl ([(13, 1)], 0))), (0, 14, .inl (.inl ([(14, 1)], 0))), (0, 15, .inl (.inr ([(15, 1)], 0)))]), xf_141.2), none)], []))
noncomputable def xq_141 : yt_Q := (yz_X9_offer, (yl_flX9, yl_ciX9, yl_cjX9, yl_cpX9, yl_cqX9), [], [])
noncomputable def xa_141 : List yt_CE := []
theorem xc_141 {l : Launch} {D : va_G} {cT : Nat → ClassId} {tys : List (ClassId × FieldType)} (hty : yx_Ty tys cT) : yx_C l D cT tys yw_s73 xk_141 := yx_method (calls := xa_141) (Z := xq_141) 300 (by decide +kernel) yz_X9_offer_ok hty (yl_lkX9 _) (yl_cqkX9 _) (fun _ h => absurd h List.not_mem_nil) (by decide +kernel)
noncomputable def yw_s74 : List ys_C := [.inl 9, .inr (1, 40, []), .inl 6, .inr (0, 40, []), .inr (0, 40, []), .inr (0, 40, [])]
noncomputable def yw_f74 (n : Nat) : List (List ys_V) := [[.inr (some 6), .inr (some 7), .inr (some 8), .inr (some 9), .inr (some 10), .inr (some 1), .inl (.inl ([(n + 0, 1)], 0)), .inl (.inl ([(n + 1, 1)], 0)), .inl (.inl ([(n + 2, 1)], 0)), .inr (some 11), .inr (some 12), .inr (some 13), .inl (.inl ([(n + 3, 1)], 0)), .inl (.inl ([(n + 4, 1)], 0)), .inl (.inl ([(n + 5, 1)], 0)), .inl (.inr ([(n + 6, 1)], 0)), .inl (.inr ([(n + 7, 1)], 0))], [], [.inr (some 3), .inr (some 4), .inr (some 5), .inr (some 14), .inl (.inl ([(n + 8, 1)], 0)), .inl (.inl ([(n + 9, 1)], 0))], [], [], []]
noncomputable def yw_e74 : ys_E := [(0, 40), (0, 12), ((-2147483648), 2147483647), ((-2147483648), 2147483647), ((-2147483648), 2147483647), ((-2147483648), 2147483647), ((-9223372036854775808), 9223372036854775807), ((-9223372036854775808), 9223372036854775807), (0, 40), ((-2147483648), 2147483647)]
noncomputable def yw_r74 : List ys_R := [((0, 0), []), (((-9223372036854775808), 9223372036854775807), []), ((0, 0), []), (((-300), 300), []), (((-300), 300), []), ((0, 1), [])]
noncomputable def xf_142 : ys_F := (yw_f74 2, yw_r74)
noncomputable def xk_142 : ys_K := (((yX9_weigh, cX9_weigh, 7, none), (1, 26)), ([.inr (some 0), .inr (some 2), .inl (.inl ([(0, 1)], 0)), .inl (.inl ([(1, 1)], 0))], ([((-2147483648), 2147483647), ((-2147483648), 2147483647)] ++ yw_e74, []), xf_142), ([([((-2147483648), 2147483647), ((-2147483648), 2147483647), ((-2147483648), 2147483647), ((-9223372036854775808), 9223372036854775807)], [], ((ys_fs xf_142.1 [(0, 12, .inl (.inl ([(12, 1)], 0))), (0, 13, .inl (.inl ([(13, 1)], 0))), (0, 14, .inl (.inl ([(14, 1)], 0))), (0, 15, .inl (.inr ([(15, 1)], 0)))]), xf_142.2), none)], []))
noncomputable def xq_142 : yt_Q := (yz_X9_weigh, (yl_flX9, yl_ciX9, yl_cjX9, yl_cpX9, yl_cqX9), [(6, ([((-9223372036854775808), 9223372036854775807), (0, 40)], [], (xf_142.1, xf_142.2), [(0, .inr (some 0)), (1, .inr (some 2)), (2, .inl (.inl ([(0, 1)], 0))), (3, .inl (.inl ([(1, 1)], 0))), (4, .inl (.inr ([(12, 1)], 0))), (6, .inl (.inl ([(13, 1)], 0)))], [], ([(13, (-1))], 40)), [], false)], [])
noncomputable def xa_142 : List yt_CE := [(((98, true), (0, false, [])), (yw_s2, xk_140)), (((105, false), (0, false, [0, 6, 7, 8, 9, 10, 1, 11, 12, 13])), (yw_s73, xk_141))]
theorem xc_142 {l : Launch} {D : va_G} {cT : Nat → ClassId} {tys : List (ClassId × FieldType)} (hty : yx_Ty tys cT) : yx_C l D cT tys yw_s74 xk_142 := yx_method (calls := xa_142) (Z := xq_142) 300 (by decide +kernel) yz_X9_weigh_ok hty (yl_lkX9 _) (yl_cqkX9 _) (List.forall_mem_cons.mpr ⟨⟨xc_140 hty, yg_CLs yl_wX9_98 yd_yX9_saysYes⟩, List.forall_mem_cons.mpr ⟨⟨xc_141 hty, yg_CLv rfl rfl rfl yl_wX9_105 yd_yX9_offer⟩, fun _ h => absurd h List.not_mem_nil⟩⟩) (by decide +kernel)
noncomputable def xf_143 : ys_F := (yw_f74 0, yw_r74)
noncomputable def xk_143 : ys_K := (((yX9_choose, cX9_choose, 4, none), (2, 52)), ([.inr (some 0), .inr (some 2)], ([] ++ yw_e74, []), xf_143), ([([((-2147483648), 2147483647), ((-2147483648), 2147483647), ((-2147483648), 2147483647), ((-9223372036854775808), 9223372036854775807), ((-9223372036854775808), 9223372036854775807)], [], ((ys_fs xf_143.1 [(0, 12, .inl (.inl ([(10, 1)], 0))), (0, 13, .inl (.inl ([(11, 1)], 0))), (0, 14, .inl (.inl ([(12, 1)], 0))), (0, 15, .inl (.inr ([(13, 1)], 0))), (0, 16, .inl (.inr ([(14, 1)], 0)))]), xf_143.2), none)], []))
noncomputable def xq_143 : yt_Q := (yz_X9_choose, (yl_flX9, yl_ciX9, yl_cjX9, yl_cpX9, yl_cqX9), [(48, ([(0, 2), ((-2147483648), 2147483647), ((-2147483648), 2147483647), ((-2147483648), 2147483647), ((-9223372036854775808), 9223372036854775807), ((-9223372036854775808), 9223372036854775807)], [], ((ys_fs xf_143.1 [(0, 12, .inl (.inl ([(11, 1)], 0))), (0, 13, .inl (.inl ([(12, 1)], 0))), (0, 14, .inl (.inl ([(13, 1)], 0))), (0, 15, .inl (.inr ([(14, 1)], 0))), (0, 16, .inl (.inr ([(15, 1)], 0)))]), xf_143.2), [(0, .inr (some 0)), (1, .inr (some 2)), (2, .inl (.inl ([(10, 1)], 0)))], [], ([(10, (-43))], 128)), [], false), (64, ([(0, 1), (0, 40), ((-2147483648), 2147483647), ((-2147483648), 2147483647), ((-2147483648), 2147483647), ((-9223372036854775808), 9223372036854775807), ((-9223372036854775808), 9223372036854775807)], [], ((ys_fs xf_143.1 [(0, 12, .inl (.inl ([(12, 1)], 0))), (0, 13, .inl (.inl ([(13, 1)], 0))), (0, 14, .inl (.inl ([(14, 1)], 0))), (0, 15, .inl (.inr ([(15, 1)], 0))), (0, 16, .inl (.inr ([(16, 1)], 0)))]), xf_143.2), [(0, .inr (some 0)), (1, .inr (some 2)), (2, .inl (.inl ([(10, 1)], 0))), (3, .inl (.inl ([(11, 1)], 0)))], [], ([(10, (-43)), (11, (-1))], 126)), [], false), (7, ([(0, 40), ((-9223372036854775808), 9223372036854775807)], [], ((ys_fs xf_143.1 [(0, 16, .inl (.inr ([(11, 1)], 0)))]), xf_143.2), [(0, .inr (some 0)), (1, .inr (some 2)), (2, .inl (.inl ([(10, 1)], 0)))], [], ([(10, (-1))], 212)), [], false)], [])
noncomputable def xa_143 : List yt_CE := [(((88, false), (0, false, [0, 1, 2, 3, 4, 5, 6, 7, 8, 9, 10, 11, 12, 13, 14])), (yw_s74, xk_142))]
theorem xc_143 {l : Launch} {D : va_G} {cT : Nat → ClassId} {tys : List (ClassId × FieldType)} (hty : yx_Ty tys cT) : yx_C l D cT tys yw_s74 xk_143 := yx_method (calls := xa_143) (Z := xq_143) 300 (by decide +kernel) yz_X9_choose_ok hty (yl_lkX9 _) (yl_cqkX9 _) (List.forall_mem_cons.mpr ⟨⟨xc_142 hty, yg_CLv rfl rfl rfl yl_wX9_88 yd_yX9_weigh⟩, fun _ h => absurd h List.not_mem_nil⟩) (by decide +kernel)
noncomputable def yw_s75 : List ys_C := [.inl 9, .inr (0, 12, []), .inr (0, 12, []), .inr (0, 12, []), .inr (1, 12, []), .inr (1, 12, [])]
noncomputable def yw_f75 (n : Nat) : List (List ys_V) := [[.inr (some 1), .inr (some 2), .inr (some 3), .inr (some 4), .inr (some 5), .inr (some 6), .inl (.inl ([(n + 0, 1)], 0)), .inl (.inl ([(n + 1, 1)], 0)), .inl (.inl ([(n + 2, 1)], 0)), .inr (some 7), .inr (some 8), .inr (some 9), .inl (.inl ([(n + 3, 1)], 0)), .inl (.inl ([(n + 4, 1)], 0)), .inl (.inl ([(n + 5, 1)], 0)), .inl (.inr ([(n + 6, 1)], 0)), .inl (.inr ([(n + 7, 1)], 0))], [], [], [], [], []]
noncomputable def yw_e75 : ys_E := [(0, 40), (0, 12), ((-2147483648), 2147483647), ((-2147483648), 2147483647), ((-2147483648), 2147483647), ((-2147483648), 2147483647), ((-9223372036854775808), 9223372036854775807), ((-9223372036854775808), 9223372036854775807)]
noncomputable def yw_r75 : List ys_R := [((0, 0), []), (((-2147483648), 2147483647), []), (((-2147483648), 2147483647), []), (((-2147483648), 2147483647), []), (((-9223372036854775808), 9223372036854775807), []), (((-9223372036854775808), 9223372036854775807), [])]
noncomputable def xf_144 : ys_F := (yw_f75 0, yw_r75)
noncomputable def xk_144 : ys_K := (((yX9_keepChosen, cX9_keepChosen, 1, none), (0, 0)), ([.inr (some 0)], ([] ++ yw_e75, []), xf_144), ([([(1, 12)], [], ((ys_fs xf_144.1 [(0, 7, .inl (.inl ([(8, 1)], 0)))]), xf_144.2), none)], [1, 2, 3, 4, 5]))
noncomputable def xq_144 : yt_Q := (yz_X9_keepChosen, (yl_flX9, yl_ciX9, yl_cjX9, yl_cpX9, yl_cqX9), [], [])
noncomputable def xa_144 : List yt_CE := []
theorem xc_144 {l : Launch} {D : va_G} {cT : Nat → ClassId} {tys : List (ClassId × FieldType)} (hty : yx_Ty tys cT) : yx_C l D cT tys yw_s75 xk_144 := yx_method (calls := xa_144) (Z := xq_144) 300 (by decide +kernel) yz_X9_keepChosen_ok hty (yl_lkX9 _) (yl_cqkX9 _) (fun _ h => absurd h List.not_mem_nil) (by decide +kernel)
noncomputable def xf_145 : ys_F := (yw_f2 2, yw_r2)
noncomputable def xk_145 : ys_K := (((yX1_common, cX1_common, 11, (some .long)), (1, 15)), ([.inl (.inr ([(0, 1)], 0)), .inl (.inr ([(1, 1)], 0))], ([((-9223372036854775808), 9223372036854775807), ((-9223372036854775808), 9223372036854775807)] ++ yw_e2, []), xf_145), ([([(1, 9223372036854775807)], [], (xf_145.1, xf_145.2), some (.inl (.inr ([(2, 1)], 0))))], []))
noncomputable def xq_145 : yt_Q := (yz_X1_common, (yl_flX1, yl_ciX1, yl_cjX1, yl_cpX1, yl_cqX1), [(15, ([((-9223372036854775808), 9223372036854775807), ((-9223372036854775808), 9223372036854775807), (0, 128)], [], (xf_145.1, xf_145.2), [(4, .inl (.inr ([(2, 1)], 0))), (6, .inl (.inr ([(3, 1)], 0))), (8, .inl (.inl ([(4, 1)], 0)))], [], ([(4, (-1))], 128)), [], true)], [true])
noncomputable def xa_145 : List yt_CE := []
noncomputable def xv_145 : List (List yt_VC) := [[(0, ([(0, 9223372036854775807), (0, 9223372036854775807), (0, 0), (0, 0)], []), [([(0, 1)], 0), ([(1, 1)], 0), ([], 0)], [], []),
   (0, ([(0, 9223372036854775807), ((-9223372036854775807), (-1)), (0, 0), (0, 0)], []), [([(0, 1)], 0), ([(1, (-1))], 0), ([], 0)], [], []),
   (0, ([(0, 9223372036854775807), ((-9223372036854775808), (-9223372036854775808)), (0, 0), (0, 0)], []), [([(0, 1)], 0), ([], (-9223372036854775808)), ([], 0)], [], []),
   (0, ([((-9223372036854775807), (-1)), (0, 9223372036854775807), (0, 0), (0, 0)], []), [([(0, (-1))], 0), ([(1, 1)], 0), ([], 0)], [], []),
   (0, ([((-9223372036854775807), (-1)), ((-9223372036854775807), (-1)), (0, 0), (0, 0)], []), [([(0, (-1))], 0), ([(1, (-1))], 0), ([], 0)], [], []),
   (0, ([((-9223372036854775807), (-1)), ((-9223372036854775808), (-9223372036854775808)), (0, 0), (0, 0)], []), [([(0, (-1))], 0), ([], (-9223372036854775808)), ([], 0)], [], []),
   (0, ([((-9223372036854775808), (-9223372036854775808)), (0, 9223372036854775807), (0, 0), (0, 0)], []), [([], (-9223372036854775808)), ([(1, 1)], 0), ([], 0)], [], []),
   (0, ([((-9223372036854775808), (-9223372036854775808)), ((-9223372036854775807), (-1)), (0, 0), (0, 0)], []), [([], (-9223372036854775808)), ([(1, (-1))], 0), ([], 0)], [], []),
   (0, ([((-9223372036854775808), (-9223372036854775808)), ((-9223372036854775808), (-9223372036854775808)), (0, 0), (0, 0)], []), [([], (-9223372036854775808)), ([], (-9223372036854775808)), ([], 0)], [], [])],
  [(1000, ([((-9223372036854775808), 9223372036854775807), ((-9223372036854775808), 9223372036854775807), ((-9223372036854775808), 0), ((-9223372036854775808), 9223372036854775807), (128, 128), (0, 0)], []), [([], 1)], [], []),
   (1000, ([((-9223372036854775808), 9223372036854775807), ((-9223372036854775808), 9223372036854775807), (1, 9223372036854775807), ((-9223372036854775808), 9223372036854775807), (128, 128), (0, 0)], []), [([(2, 1)], 0)], [], []),
   (1000, ([((-9223372036854775808), 9223372036854775807), ((-9223372036854775808), 9223372036854775807), ((-9223372036854775808), 0), (0, 0), (0, 127), (0, 0)], []), [([], 1)], [], []),
   (1000, ([((-9223372036854775808), 9223372036854775807), ((-9223372036854775808), 9223372036854775807), (1, 9223372036854775807), (0, 0), (0, 127), (0, 0)], []), [([(2, 1)], 0)], [], []),
   (0, ([((-9223372036854775808), 9223372036854775807), ((-9223372036854775808), 9223372036854775807), (0, 9223372036854775806), (1, 9223372036854775807), (0, 127), (0, 0)], [([(3, 1), (2, (-1))], (-1))]), [([(3, 1)], 0), ([(2, 1)], 0), ([(4, 1)], 1)], [], [.inr (.inr (.inl (998, 16, [([(2, 1)], 0), ([(3, 1)], 0), ([(2, 1)], 0)], [], [])))]),
   (0, ([((-9223372036854775808), 9223372036854775807), ((-9223372036854775808), 9223372036854775807), (1, 9223372036854775807), (1, 9223372036854775807), (0, 127), (0, 9223372036854775806)], [([(5, (-1)), (2, 1), (3, (-1))], 0), ([(3, 1), (5, (-1))], (-1)), ([(3, (-1)), (2, 1)], 0)]), [([(3, 1)], 0), ([(5, 1)], 0), ([(4, 1)], 1)], [], [.inr (.inr (.inl (998, 16, [([(2, 1)], 0), ([(3, 1)], 0), ([(5, 1)], 0)], [], [])))]),
   (0, ([((-9223372036854775808), 9223372036854775807), ((-9223372036854775808), 9223372036854775807), ((-9223372036854775808), (-1)), (1, 9223372036854775807), (0, 127), ((-9223372036854775806), 0)], [([(2, (-1)), (5, 1)], 0), ([(5, 1), (3, 1)], (-1))]), [([(3, 1)], 0), ([(5, 1)], 0), ([(4, 1)], 1)], [], [.inr (.inr (.inl (998, 16, [([(2, 1)], 0), ([(3, 1)], 0), ([(5, 1)], 0)], [], [])))]),
   (0, ([((-9223372036854775808), 9223372036854775807), ((-9223372036854775808), 9223372036854775807), (0, 9223372036854775807), ((-9223372036854775808), (-1)), (0, 127), (0, 9223372036854775807)], [([(5, (-1)), (2, 1)], 0), ([(3, (-1)), (5, (-1))], (-1))]), [([(3, 1)], 0), ([(5, 1)], 0), ([(4, 1)], 1)], [], [.inr (.inr (.inl (998, 16, [([(2, 1)], 0), ([(3, 1)], 0), ([(5, 1)], 0)], [], [])))]),
   (0, ([((-9223372036854775808), 9223372036854775807), ((-9223372036854775808), 9223372036854775807), ((-9223372036854775808), (-1)), ((-9223372036854775808), (-1)), (0, 127), ((-9223372036854775807), 0)], [([(2, (-1)), (5, 1)], 0), ([(5, 1), (3, (-1))], (-1))]), [([(3, 1)], 0), ([(5, 1)], 0), ([(4, 1)], 1)], [], [.inr (.inr (.inl (998, 16, [([(2, 1)], 0), ([(3, 1)], 0), ([(5, 1)], 0)], [], [])))])]]
noncomputable def xG_145 : Nat → yt_G → (Nat → Int) → yt_G → Prop
  | 0, g0, r, g => 0 ≤ (r 0) → 0 ≤ (r 1) → (0 ≤ ((1 * (r 2) + 0) + 0) ∧ 0 ≤ ((1 * (r 3) + 0) + 0) ∧ Nat.gcd (((1 * (r 2) + 0) + 0)).toNat (((1 * (r 3) + 0) + 0)).toNat = Nat.gcd ((r 0)).toNat ((r 1)).toNat ∧ (((1 * (r 4) + 0) + 0) = 0 ∨ (((1 * (r 3) + 0) + 0) < ((1 * (r 2) + 0) + 0) ∧ (((1 * (r 2) + 0) + 0)).toNat * (((1 * (r 3) + 0) + 0)).toNat * 2 ^ (((1 * (r 4) + 0) + 0) - 1).toNat < 2 ^ 126)))
  | _, _, _, _ => True
noncomputable def xP_145 : yt_Ph
  | 0, r, g0, g => 0 ≤ (r 0) → 0 ≤ (r 1) → (r 2) = yy_mx (Nat.gcd ((r 0)).toNat ((r 1)).toNat)
  | _, _, _, _ => True
noncomputable def xR_145 : yt_Ps := fun r g0 => True
noncomputable def xT_145 : yt_Tb := fun d => match d with
  | 998 => fun i r _ _ => yt_hwp i r
  | _ => fun _ _ _ _ => True
noncomputable def xU_145 : Nat → yt_Ps := fun d => match d with
  | _ => fun _ _ => True
theorem xw_145_0_0 : yt_hold xT_145 xk_145 xq_145.2.2.1 xG_145 xP_145 xU_145 2 xk_145.2.1.2.2.2 (fun g0 r g => xR_145 r g0 ∧ g = g0) (0, ([(0, 9223372036854775807), (0, 9223372036854775807), (0, 0), (0, 0)], []), [([(0, 1)], 0), ([(1, 1)], 0), ([], 0)], [], []) := by
  intro g0 r gi g hok hh hars hfr hG
  have b0 : 0 ≤ r 0 ∧ r 0 ≤ 9223372036854775807 := hok.1 0 (0, 9223372036854775807) rfl
  have b1 : 0 ≤ r 1 ∧ r 1 ≤ 9223372036854775807 := hok.1 1 (0, 9223372036854775807) rfl
  have b2 : 0 ≤ r 2 ∧ r 2 ≤ 0 := hok.1 2 (0, 0) rfl
  have b3 : 0 ≤ r 3 ∧ r 3 ≤ 0 := hok.1 3 (0, 0) rfl
  obtain ⟨hG, hgi⟩ := hG
  have hG : True := hG
  have hh : g = gi := hh
  subst hh
  refine yt_dcut (by decide) rfl ?_ ?_
  · exact fun f hf => absurd hf List.not_mem_nil
  · rw [show xk_145.2.1.2.1.1.length = 2 from rfl]
    show 0 ≤ ((1 * r 0 + 0) + 0) → 0 ≤ ((1 * r 1 + 0) + 0) → (0 ≤ ((1 * ((1 * r 0 + 0) + 0) + 0) + 0) ∧ 0 ≤ ((1 * ((1 * r 1 + 0) + 0) + 0) + 0) ∧ Nat.gcd (((1 * ((1 * r 0 + 0) + 0) + 0) + 0)).toNat (((1 * ((1 * r 1 + 0) + 0) + 0) + 0)).toNat = Nat.gcd (((1 * r 0 + 0) + 0)).toNat (((1 * r 1 + 0) + 0)).toNat ∧ (((1 * ((0 : Int) + 0) + 0) + 0) = 0 ∨ (((1 * ((1 * r 1 + 0) + 0) + 0) + 0) < ((1 * ((1 * r 0 + 0) + 0) + 0) + 0) ∧ (((1 * ((1 * r 0 + 0) + 0) + 0) + 0)).toNat * (((1 * ((1 * r 1 + 0) + 0) + 0) + 0)).toNat * 2 ^ (((1 * ((0 : Int) + 0) + 0) + 0) - 1).toNat < 2 ^ 126)))
    try simp only [Int.one_mul, Int.zero_add, Int.add_zero]
    intro p0 p1
    first
      | (exfalso; omega)
      | exact ⟨by omega, by omega, by first | rfl | trivial, Or.inl (by first | rfl | trivial)⟩
theorem xw_145_0_1 : yt_hold xT_145 xk_145 xq_145.2.2.1 xG_145 xP_145 xU_145 2 xk_145.2.1.2.2.2 (fun g0 r g => xR_145 r g0 ∧ g = g0) (0, ([(0, 9223372036854775807), ((-9223372036854775807), (-1)), (0, 0), (0, 0)], []), [([(0, 1)], 0), ([(1, (-1))], 0), ([], 0)], [], []) := by
  intro g0 r gi g hok hh hars hfr hG
  have b0 : 0 ≤ r 0 ∧ r 0 ≤ 9223372036854775807 := hok.1 0 (0, 9223372036854775807) rfl
  have b1 : (-9223372036854775807) ≤ r 1 ∧ r 1 ≤ (-1) := hok.1 1 ((-9223372036854775807), (-1)) rfl
  have b2 : 0 ≤ r 2 ∧ r 2 ≤ 0 := hok.1 2 (0, 0) rfl
  have b3 : 0 ≤ r 3 ∧ r 3 ≤ 0 := hok.1 3 (0, 0) rfl
  obtain ⟨hG, hgi⟩ := hG
  have hG : True := hG
  have hh : g = gi := hh
  subst hh
  refine yt_dcut (by decide) rfl ?_ ?_
  · exact fun f hf => absurd hf List.not_mem_nil
  · rw [show xk_145.2.1.2.1.1.length = 2 from rfl]
    show 0 ≤ ((1 * r 0 + 0) + 0) → 0 ≤ ((1 * r 1 + 0) + 0) → (0 ≤ ((1 * ((1 * r 0 + 0) + 0) + 0) + 0) ∧ 0 ≤ ((1 * (((-1) * r 1 + 0) + 0) + 0) + 0) ∧ Nat.gcd (((1 * ((1 * r 0 + 0) + 0) + 0) + 0)).toNat (((1 * (((-1) * r 1 + 0) + 0) + 0) + 0)).toNat = Nat.gcd (((1 * r 0 + 0) + 0)).toNat (((1 * r 1 + 0) + 0)).toNat ∧ (((1 * ((0 : Int) + 0) + 0) + 0) = 0 ∨ (((1 * (((-1) * r 1 + 0) + 0) + 0) + 0) < ((1 * ((1 * r 0 + 0) + 0) + 0) + 0) ∧ (((1 * ((1 * r 0 + 0) + 0) + 0) + 0)).toNat * (((1 * (((-1) * r 1 + 0) + 0) + 0) + 0)).toNat * 2 ^ (((1 * ((0 : Int) + 0) + 0) + 0) - 1).toNat < 2 ^ 126)))
    try simp only [Int.one_mul, Int.zero_add, Int.add_zero]
    intro p0 p1
    first
      | (exfalso; omega)
      | exact ⟨by omega, by omega, by first | rfl | trivial, Or.inl (by first | rfl | trivial)⟩
theorem xw_145_0_2 : yt_hold xT_145 xk_145 xq_145.2.2.1 xG_145 xP_145 xU_145 2 xk_145.2.1.2.2.2 (fun g0 r g => xR_145 r g0 ∧ g = g0) (0, ([(0, 9223372036854775807), ((-9223372036854775808), (-9223372036854775808)), (0, 0), (0, 0)], []), [([(0, 1)], 0), ([], (-9223372036854775808)), ([], 0)], [], []) := by
  intro g0 r gi g hok hh hars hfr hG
  have b0 : 0 ≤ r 0 ∧ r 0 ≤ 9223372036854775807 := hok.1 0 (0, 9223372036854775807) rfl
  have b1 : (-9223372036854775808) ≤ r 1 ∧ r 1 ≤ (-9223372036854775808) := hok.1 1 ((-9223372036854775808), (-9223372036854775808)) rfl
  have b2 : 0 ≤ r 2 ∧ r 2 ≤ 0 := hok.1 2 (0, 0) rfl
  have b3 : 0 ≤ r 3 ∧ r 3 ≤ 0 := hok.1 3 (0, 0) rfl
  obtain ⟨hG, hgi⟩ := hG
  have hG : True := hG
  have hh : g = gi := hh
  subst hh
  refine yt_dcut (by decide) rfl ?_ ?_
  · exact fun f hf => absurd hf List.not_mem_nil
  · rw [show xk_145.2.1.2.1.1.length = 2 from rfl]
    show 0 ≤ ((1 * r 0 + 0) + 0) → 0 ≤ ((1 * r 1 + 0) + 0) → (0 ≤ ((1 * ((1 * r 0 + 0) + 0) + 0) + 0) ∧ 0 ≤ ((1 * ((0 : Int) + (-9223372036854775808)) + 0) + 0) ∧ Nat.gcd (((1 * ((1 * r 0 + 0) + 0) + 0) + 0)).toNat (((1 * ((0 : Int) + (-9223372036854775808)) + 0) + 0)).toNat = Nat.gcd (((1 * r 0 + 0) + 0)).toNat (((1 * r 1 + 0) + 0)).toNat ∧ (((1 * ((0 : Int) + 0) + 0) + 0) = 0 ∨ (((1 * ((0 : Int) + (-9223372036854775808)) + 0) + 0) < ((1 * ((1 * r 0 + 0) + 0) + 0) + 0) ∧ (((1 * ((1 * r 0 + 0) + 0) + 0) + 0)).toNat * (((1 * ((0 : Int) + (-9223372036854775808)) + 0) + 0)).toNat * 2 ^ (((1 * ((0 : Int) + 0) + 0) + 0) - 1).toNat < 2 ^ 126)))
    try simp only [Int.one_mul, Int.zero_add, Int.add_zero]
    intro p0 p1
    first
      | (exfalso; omega)
      | exact ⟨by omega, by omega, by first | rfl | trivial, Or.inl (by first | rfl | trivial)⟩
theorem xw_145_0_3 : yt_hold xT_145 xk_145 xq_145.2.2.1 xG_145 xP_145 xU_145 2 xk_145.2.1.2.2.2 (fun g0 r g => xR_145 r g0 ∧ g = g0) (0, ([((-9223372036854775807), (-1)), (0, 9223372036854775807), (0, 0), (0, 0)], []), [([(0, (-1))], 0), ([(1, 1)], 0), ([], 0)], [], []) := by
  intro g0 r gi g hok hh hars hfr hG
  have b0 : (-9223372036854775807) ≤ r 0 ∧ r 0 ≤ (-1) := hok.1 0 ((-9223372036854775807), (-1)) rfl
  have b1 : 0 ≤ r 1 ∧ r 1 ≤ 9223372036854775807 := hok.1 1 (0, 9223372036854775807) rfl
  have b2 : 0 ≤ r 2 ∧ r 2 ≤ 0 := hok.1 2 (0, 0) rfl
  have b3 : 0 ≤ r 3 ∧ r 3 ≤ 0 := hok.1 3 (0, 0) rfl
  obtain ⟨hG, hgi⟩ := hG
  have hG : True := hG
  have hh : g = gi := hh
  subst hh
  refine yt_dcut (by decide) rfl ?_ ?_
  · exact fun f hf => absurd hf List.not_mem_nil
  · rw [show xk_145.2.1.2.1.1.length = 2 from rfl]
    show 0 ≤ ((1 * r 0 + 0) + 0) → 0 ≤ ((1 * r 1 + 0) + 0) → (0 ≤ ((1 * (((-1) * r 0 + 0) + 0) + 0) + 0) ∧ 0 ≤ ((1 * ((1 * r 1 + 0) + 0) + 0) + 0) ∧ Nat.gcd (((1 * (((-1) * r 0 + 0) + 0) + 0) + 0)).toNat (((1 * ((1 * r 1 + 0) + 0) + 0) + 0)).toNat = Nat.gcd (((1 * r 0 + 0) + 0)).toNat (((1 * r 1 + 0) + 0)).toNat ∧ (((1 * ((0 : Int) + 0) + 0) + 0) = 0 ∨ (((1 * ((1 * r 1 + 0) + 0) + 0) + 0) < ((1 * (((-1) * r 0 + 0) + 0) + 0) + 0) ∧ (((1 * (((-1) * r 0 + 0) + 0) + 0) + 0)).toNat * (((1 * ((1 * r 1 + 0) + 0) + 0) + 0)).toNat * 2 ^ (((1 * ((0 : Int) + 0) + 0) + 0) - 1).toNat < 2 ^ 126)))
    try simp only [Int.one_mul, Int.zero_add, Int.add_zero]
    intro p0 p1
    first
      | (exfalso; omega)
      | exact ⟨by omega, by omega, by first | rfl | trivial, Or.inl (by first | rfl | trivial)⟩
theorem xw_145_0_4 : yt_hold xT_145 xk_145 xq_145.2.2.1 xG_145 xP_145 xU_145 2 xk_145.2.1.2.2.2 (fun g0 r g => xR_145 r g0 ∧ g = g0) (0, ([((-9223372036854775807), (-1)), ((-9223372036854775807), (-1)), (0, 0), (0, 0)], []), [([(0, (-1))], 0), ([(1, (-1))], 0), ([], 0)], [], []) := by
  intro g0 r gi g hok hh hars hfr hG
  have b0 : (-9223372036854775807) ≤ r 0 ∧ r 0 ≤ (-1) := hok.1 0 ((-9223372036854775807), (-1)) rfl
  have b1 : (-9223372036854775807) ≤ r 1 ∧ r 1 ≤ (-1) := hok.1 1 ((-9223372036854775807), (-1)) rfl
  have b2 : 0 ≤ r 2 ∧ r 2 ≤ 0 := hok.1 2 (0, 0) rfl
  have b3 : 0 ≤ r 3 ∧ r 3 ≤ 0 := hok.1 3 (0, 0) rfl
  obtain ⟨hG, hgi⟩ := hG
  have hG : True := hG
  have hh : g = gi := hh
  subst hh
  refine yt_dcut (by decide) rfl ?_ ?_
  · exact fun f hf => absurd hf List.not_mem_nil
  · rw [show xk_145.2.1.2.1.1.length = 2 from rfl]
    show 0 ≤ ((1 * r 0 + 0) + 0) → 0 ≤ ((1 * r 1 + 0) + 0) → (0 ≤ ((1 * (((-1) * r 0 + 0) + 0) + 0) + 0) ∧ 0 ≤ ((1 * (((-1) * r 1 + 0) + 0) + 0) + 0) ∧ Nat.gcd (((1 * (((-1) * r 0 + 0) + 0) + 0) + 0)).toNat (((1 * (((-1) * r 1 + 0) + 0) + 0) + 0)).toNat = Nat.gcd (((1 * r 0 + 0) + 0)).toNat (((1 * r 1 + 0) + 0)).toNat ∧ (((1 * ((0 : Int) + 0) + 0) + 0) = 0 ∨ (((1 * (((-1) * r 1 + 0) + 0) + 0) + 0) < ((1 * (((-1) * r 0 + 0) + 0) + 0) + 0) ∧ (((1 * (((-1) * r 0 + 0) + 0) + 0) + 0)).toNat * (((1 * (((-1) * r 1 + 0) + 0) + 0) + 0)).toNat * 2 ^ (((1 * ((0 : Int) + 0) + 0) + 0) - 1).toNat < 2 ^ 126)))
    try simp only [Int.one_mul, Int.zero_add, Int.add_zero]
    intro p0 p1
    first
      | (exfalso; omega)
      | exact ⟨by omega, by omega, by first | rfl | trivial, Or.inl (by first | rfl | trivial)⟩
theorem xw_145_0_5 : yt_hold xT_145 xk_145 xq_145.2.2.1 xG_145 xP_145 xU_145 2 xk_145.2.1.2.2.2 (fun g0 r g => xR_145 r g0 ∧ g = g0) (0, ([((-9223372036854775807), (-1)), ((-9223372036854775808), (-9223372036854775808)), (0, 0), (0, 0)], []), [([(0, (-1))], 0), ([], (-9223372036854775808)), ([], 0)], [], []) := by
  intro g0 r gi g hok hh hars hfr hG
  have b0 : (-9223372036854775807) ≤ r 0 ∧ r 0 ≤ (-1) := hok.1 0 ((-9223372036854775807), (-1)) rfl
  have b1 : (-9223372036854775808) ≤ r 1 ∧ r 1 ≤ (-9223372036854775808) := hok.1 1 ((-9223372036854775808), (-9223372036854775808)) rfl
  have b2 : 0 ≤ r 2 ∧ r 2 ≤ 0 := hok.1 2 (0, 0) rfl
  have b3 : 0 ≤ r 3 ∧ r 3 ≤ 0 := hok.1 3 (0, 0) rfl
  obtain ⟨hG, hgi⟩ := hG
  have hG : True := hG
  have hh : g = gi := hh
  subst hh
  refine yt_dcut (by decide) rfl ?_ ?_
  · exact fun f hf => absurd hf List.not_mem_nil
  · rw [show xk_145.2.1.2.1.1.length = 2 from rfl]
    show 0 ≤ ((1 * r 0 + 0) + 0) → 0 ≤ ((1 * r 1 + 0) + 0) → (0 ≤ ((1 * (((-1) * r 0 + 0) + 0) + 0) + 0) ∧ 0 ≤ ((1 * ((0 : Int) + (-9223372036854775808)) + 0) + 0) ∧ Nat.gcd (((1 * (((-1) * r 0 + 0) + 0) + 0) + 0)).toNat (((1 * ((0 : Int) + (-9223372036854775808)) + 0) + 0)).toNat = Nat.gcd (((1 * r 0 + 0) + 0)).toNat (((1 * r 1 + 0) + 0)).toNat ∧ (((1 * ((0 : Int) + 0) + 0) + 0) = 0 ∨ (((1 * ((0 : Int) + (-9223372036854775808)) + 0) + 0) < ((1 * (((-1) * r 0 + 0) + 0) + 0) + 0) ∧ (((1 * (((-1) * r 0 + 0) + 0) + 0) + 0)).toNat * (((1 * ((0 : Int) + (-9223372036854775808)) + 0) + 0)).toNat * 2 ^ (((1 * ((0 : Int) + 0) + 0) + 0) - 1).toNat < 2 ^ 126)))
    try simp only [Int.one_mul, Int.zero_add, Int.add_zero]
    intro p0 p1
    first
      | (exfalso; omega)
      | exact ⟨by omega, by omega, by first | rfl | trivial, Or.inl (by first | rfl | trivial)⟩
theorem xw_145_0_6 : yt_hold xT_145 xk_145 xq_145.2.2.1 xG_145 xP_145 xU_145 2 xk_145.2.1.2.2.2 (fun g0 r g => xR_145 r g0 ∧ g = g0) (0, ([((-9223372036854775808), (-9223372036854775808)), (0, 9223372036854775807), (0, 0), (0, 0)], []), [([], (-9223372036854775808)), ([(1, 1)], 0), ([], 0)], [], []) := by
  intro g0 r gi g hok hh hars hfr hG
  have b0 : (-9223372036854775808) ≤ r 0 ∧ r 0 ≤ (-9223372036854775808) := hok.1 0 ((-9223372036854775808), (-9223372036854775808)) rfl
  have b1 : 0 ≤ r 1 ∧ r 1 ≤ 9223372036854775807 := hok.1 1 (0, 9223372036854775807) rfl
  have b2 : 0 ≤ r 2 ∧ r 2 ≤ 0 := hok.1 2 (0, 0) rfl
  have b3 : 0 ≤ r 3 ∧ r 3 ≤ 0 := hok.1 3 (0, 0) rfl
  obtain ⟨hG, hgi⟩ := hG
  have hG : True := hG
  have hh : g = gi := hh
  subst hh
  refine yt_dcut (by decide) rfl ?_ ?_
  · exact fun f hf => absurd hf List.not_mem_nil
  · rw [show xk_145.2.1.2.1.1.length = 2 from rfl]
    show 0 ≤ ((1 * r 0 + 0) + 0) → 0 ≤ ((1 * r 1 + 0) + 0) → (0 ≤ ((1 * ((0 : Int) + (-9223372036854775808)) + 0) + 0) ∧ 0 ≤ ((1 * ((1 * r 1 + 0) + 0) + 0) + 0) ∧ Nat.gcd (((1 * ((0 : Int) + (-9223372036854775808)) + 0) + 0)).toNat (((1 * ((1 * r 1 + 0) + 0) + 0) + 0)).toNat = Nat.gcd (((1 * r 0 + 0) + 0)).toNat (((1 * r 1 + 0) + 0)).toNat ∧ (((1 * ((0 : Int) + 0) + 0) + 0) = 0 ∨ (((1 * ((1 * r 1 + 0) + 0) + 0) + 0) < ((1 * ((0 : Int) + (-9223372036854775808)) + 0) + 0) ∧ (((1 * ((0 : Int) + (-9223372036854775808)) + 0) + 0)).toNat * (((1 * ((1 * r 1 + 0) + 0) + 0) + 0)).toNat * 2 ^ (((1 * ((0 : Int) + 0) + 0) + 0) - 1).toNat < 2 ^ 126)))
    try simp only [Int.one_mul, Int.zero_add, Int.add_zero]
    intro p0 p1
    first
      | (exfalso; omega)
      | exact ⟨by omega, by omega, by first | rfl | trivial, Or.inl (by first | rfl | trivial)⟩
theorem xw_145_0_7 : yt_hold xT_145 xk_145 xq_145.2.2.1 xG_145 xP_145 xU_145 2 xk_145.2.1.2.2.2 (fun g0 r g => xR_145 r g0 ∧ g = g0) (0, ([((-9223372036854775808), (-9223372036854775808)), ((-9223372036854775807), (-1)), (0, 0), (0, 0)], []), [([], (-9223372036854775808)), ([(1, (-1))], 0), ([], 0)], [], []) := by
  intro g0 r gi g hok hh hars hfr hG
  have b0 : (-9223372036854775808) ≤ r 0 ∧ r 0 ≤ (-9223372036854775808) := hok.1 0 ((-9223372036854775808), (-9223372036854775808)) rfl
  have b1 : (-9223372036854775807) ≤ r 1 ∧ r 1 ≤ (-1) := hok.1 1 ((-9223372036854775807), (-1)) rfl
  have b2 : 0 ≤ r 2 ∧ r 2 ≤ 0 := hok.1 2 (0, 0) rfl
  have b3 : 0 ≤ r 3 ∧ r 3 ≤ 0 := hok.1 3 (0, 0) rfl
  obtain ⟨hG, hgi⟩ := hG
  have hG : True := hG
  have hh : g = gi := hh
  subst hh
  refine yt_dcut (by decide) rfl ?_ ?_
  · exact fun f hf => absurd hf List.not_mem_nil
  · rw [show xk_145.2.1.2.1.1.length = 2 from rfl]
    show 0 ≤ ((1 * r 0 + 0) + 0) → 0 ≤ ((1 * r 1 + 0) + 0) → (0 ≤ ((1 * ((0 : Int) + (-9223372036854775808)) + 0) + 0) ∧ 0 ≤ ((1 * (((-1) * r 1 + 0) + 0) + 0) + 0) ∧ Nat.gcd (((1 * ((0 : Int) + (-9223372036854775808)) + 0) + 0)).toNat (((1 * (((-1) * r 1 + 0) + 0) + 0) + 0)).toNat = Nat.gcd (((1 * r 0 + 0) + 0)).toNat (((1 * r 1 + 0) + 0)).toNat ∧ (((1 * ((0 : Int) + 0) + 0) + 0) = 0 ∨ (((1 * (((-1) * r 1 + 0) + 0) + 0) + 0) < ((1 * ((0 : Int) + (-9223372036854775808)) + 0) + 0) ∧ (((1 * ((0 : Int) + (-9223372036854775808)) + 0) + 0)).toNat * (((1 * (((-1) * r 1 + 0) + 0) + 0) + 0)).toNat * 2 ^ (((1 * ((0 : Int) + 0) + 0) + 0) - 1).toNat < 2 ^ 126)))
    try simp only [Int.one_mul, Int.zero_add, Int.add_zero]
    intro p0 p1
    first
      | (exfalso; omega)
      | exact ⟨by omega, by omega, by first | rfl | trivial, Or.inl (by first | rfl | trivial)⟩
theorem xw_145_0_8 : yt_hold xT_145 xk_145 xq_145.2.2.1 xG_145 xP_145 xU_145 2 xk_145.2.1.2.2.2 (fun g0 r g => xR_145 r g0 ∧ g = g0) (0, ([((-9223372036854775808), (-9223372036854775808)), ((-9223372036854775808), (-9223372036854775808)), (0, 0), (0, 0)], []), [([], (-9223372036854775808)), ([], (-9223372036854775808)), ([], 0)], [], []) := by
  intro g0 r gi g hok hh hars hfr hG
  have b0 : (-9223372036854775808) ≤ r 0 ∧ r 0 ≤ (-9223372036854775808) := hok.1 0 ((-9223372036854775808), (-9223372036854775808)) rfl
  have b1 : (-9223372036854775808) ≤ r 1 ∧ r 1 ≤ (-9223372036854775808) := hok.1 1 ((-9223372036854775808), (-9223372036854775808)) rfl
  have b2 : 0 ≤ r 2 ∧ r 2 ≤ 0 := hok.1 2 (0, 0) rfl
  have b3 : 0 ≤ r 3 ∧ r 3 ≤ 0 := hok.1 3 (0, 0) rfl
  obtain ⟨hG, hgi⟩ := hG
  have hG : True := hG
  have hh : g = gi := hh
  subst hh
  refine yt_dcut (by decide) rfl ?_ ?_
  · exact fun f hf => absurd hf List.not_mem_nil
  · rw [show xk_145.2.1.2.1.1.length = 2 from rfl]
    show 0 ≤ ((1 * r 0 + 0) + 0) → 0 ≤ ((1 * r 1 + 0) + 0) → (0 ≤ ((1 * ((0 : Int) + (-9223372036854775808)) + 0) + 0) ∧ 0 ≤ ((1 * ((0 : Int) + (-9223372036854775808)) + 0) + 0) ∧ Nat.gcd (((1 * ((0 : Int) + (-9223372036854775808)) + 0) + 0)).toNat (((1 * ((0 : Int) + (-9223372036854775808)) + 0) + 0)).toNat = Nat.gcd (((1 * r 0 + 0) + 0)).toNat (((1 * r 1 + 0) + 0)).toNat ∧ (((1 * ((0 : Int) + 0) + 0) + 0) = 0 ∨ (((1 * ((0 : Int) + (-9223372036854775808)) + 0) + 0) < ((1 * ((0 : Int) + (-9223372036854775808)) + 0) + 0) ∧ (((1 * ((0 : Int) + (-9223372036854775808)) + 0) + 0)).toNat * (((1 * ((0 : Int) + (-9223372036854775808)) + 0) + 0)).toNat * 2 ^ (((1 * ((0 : Int) + 0) + 0) + 0) - 1).toNat < 2 ^ 126)))
    try simp only [Int.one_mul, Int.zero_add, Int.add_zero]
    intro p0 p1
    first
      | (exfalso; omega)
      | exact ⟨by omega, by omega, by first | rfl | trivial, Or.inl (by first | rfl | trivial)⟩
theorem xw_145_1_0 : yt_hold xT_145 xk_145 xq_145.2.2.1 xG_145 xP_145 xU_145 5 ((xq_145.2.2.1.getD 0 (0, ([], [], ([], []), [], [], ([], 0)), [], false)).2.1.2.2.1.2) (xG_145 0) (1000, ([((-9223372036854775808), 9223372036854775807), ((-9223372036854775808), 9223372036854775807), ((-9223372036854775808), 0), ((-9223372036854775808), 9223372036854775807), (128, 128), (0, 0)], []), [([], 1)], [], []) := by
  intro g0 r gi g hok hh hars hfr hG
  have b0 : (-9223372036854775808) ≤ r 0 ∧ r 0 ≤ 9223372036854775807 := hok.1 0 ((-9223372036854775808), 9223372036854775807) rfl
  have b1 : (-9223372036854775808) ≤ r 1 ∧ r 1 ≤ 9223372036854775807 := hok.1 1 ((-9223372036854775808), 9223372036854775807) rfl
  have b2 : (-9223372036854775808) ≤ r 2 ∧ r 2 ≤ 0 := hok.1 2 ((-9223372036854775808), 0) rfl
  have b3 : (-9223372036854775808) ≤ r 3 ∧ r 3 ≤ 9223372036854775807 := hok.1 3 ((-9223372036854775808), 9223372036854775807) rfl
  have b4 : 128 ≤ r 4 ∧ r 4 ≤ 128 := hok.1 4 (128, 128) rfl
  have b5 : 0 ≤ r 5 ∧ r 5 ≤ 0 := hok.1 5 (0, 0) rfl
  have hG : 0 ≤ (r 0) → 0 ≤ (r 1) → (0 ≤ ((1 * (r 2) + 0) + 0) ∧ 0 ≤ ((1 * (r 3) + 0) + 0) ∧ Nat.gcd (((1 * (r 2) + 0) + 0)).toNat (((1 * (r 3) + 0) + 0)).toNat = Nat.gcd ((r 0)).toNat ((r 1)).toNat ∧ (((1 * (r 4) + 0) + 0) = 0 ∨ (((1 * (r 3) + 0) + 0) < ((1 * (r 2) + 0) + 0) ∧ (((1 * (r 2) + 0) + 0)).toNat * (((1 * (r 3) + 0) + 0)).toNat * 2 ^ (((1 * (r 4) + 0) + 0) - 1).toNat < 2 ^ 126))) := hG
  have hh : g = gi := hh
  subst hh
  have hG : 0 ≤ (r 0) → 0 ≤ (r 1) → (0 ≤ ((1 * (r 2) + 0) + 0) ∧ 0 ≤ ((1 * (r 3) + 0) + 0) ∧ Nat.gcd (((1 * (r 2) + 0) + 0)).toNat (((1 * (r 3) + 0) + 0)).toNat = Nat.gcd ((r 0)).toNat ((r 1)).toNat ∧ (((1 * (r 4) + 0) + 0) = 0 ∨ (((1 * (r 3) + 0) + 0) < ((1 * (r 2) + 0) + 0) ∧ (((1 * (r 2) + 0) + 0)).toNat * (((1 * (r 3) + 0) + 0)).toNat * 2 ^ (((1 * (r 4) + 0) + 0) - 1).toNat < 2 ^ 126))) := hG
  refine yt_dalt (by decide) (by decide) ?_
  rw [show xk_145.2.1.2.1.1.length = 2 from rfl]
  show 0 ≤ ((1 * r 0 + 0) + 0) → 0 ≤ ((1 * r 1 + 0) + 0) → ((0 : Int) + 1) = yy_mx (Nat.gcd (((1 * r 0 + 0) + 0)).toNat (((1 * r 1 + 0) + 0)).toNat)
  try simp only [Int.one_mul, Int.zero_add, Int.add_zero]
  try simp only [Int.one_mul, Int.zero_add, Int.add_zero] at hG
  intro p0 p1
  obtain ⟨a1, a2, a3, a4⟩ := hG p0 p1
  have hb : r 3 = 0 := by
    first
      | omega
      | (have h8 : r 4 = 128 := by omega
         rcases a4 with q | ⟨q1, q2⟩
         · exfalso; omega
         · rw [show (r 4 - 1).toNat = 127 by omega] at q2
           have q3 := yy_e127 (by omega) q2
           omega)
  rw [hb, show (0 : Int).toNat = 0 from rfl, Nat.gcd_zero_right] at a3
  rw [← a3]
  unfold yy_mx
  split <;> omega
theorem xw_145_1_1 : yt_hold xT_145 xk_145 xq_145.2.2.1 xG_145 xP_145 xU_145 5 ((xq_145.2.2.1.getD 0 (0, ([], [], ([], []), [], [], ([], 0)), [], false)).2.1.2.2.1.2) (xG_145 0) (1000, ([((-9223372036854775808), 9223372036854775807), ((-9223372036854775808), 9223372036854775807), (1, 9223372036854775807), ((-9223372036854775808), 9223372036854775807), (128, 128), (0, 0)], []), [([(2, 1)], 0)], [], []) := by
  intro g0 r gi g hok hh hars hfr hG
  have b0 : (-9223372036854775808) ≤ r 0 ∧ r 0 ≤ 9223372036854775807 := hok.1 0 ((-9223372036854775808), 9223372036854775807) rfl
  have b1 : (-9223372036854775808) ≤ r 1 ∧ r 1 ≤ 9223372036854775807 := hok.1 1 ((-9223372036854775808), 9223372036854775807) rfl
  have b2 : 1 ≤ r 2 ∧ r 2 ≤ 9223372036854775807 := hok.1 2 (1, 9223372036854775807) rfl
  have b3 : (-9223372036854775808) ≤ r 3 ∧ r 3 ≤ 9223372036854775807 := hok.1 3 ((-9223372036854775808), 9223372036854775807) rfl
  have b4 : 128 ≤ r 4 ∧ r 4 ≤ 128 := hok.1 4 (128, 128) rfl
  have b5 : 0 ≤ r 5 ∧ r 5 ≤ 0 := hok.1 5 (0, 0) rfl
  have hG : 0 ≤ (r 0) → 0 ≤ (r 1) → (0 ≤ ((1 * (r 2) + 0) + 0) ∧ 0 ≤ ((1 * (r 3) + 0) + 0) ∧ Nat.gcd (((1 * (r 2) + 0) + 0)).toNat (((1 * (r 3) + 0) + 0)).toNat = Nat.gcd ((r 0)).toNat ((r 1)).toNat ∧ (((1 * (r 4) + 0) + 0) = 0 ∨ (((1 * (r 3) + 0) + 0) < ((1 * (r 2) + 0) + 0) ∧ (((1 * (r 2) + 0) + 0)).toNat * (((1 * (r 3) + 0) + 0)).toNat * 2 ^ (((1 * (r 4) + 0) + 0) - 1).toNat < 2 ^ 126))) := hG
  have hh : g = gi := hh
  subst hh
  have hG : 0 ≤ (r 0) → 0 ≤ (r 1) → (0 ≤ ((1 * (r 2) + 0) + 0) ∧ 0 ≤ ((1 * (r 3) + 0) + 0) ∧ Nat.gcd (((1 * (r 2) + 0) + 0)).toNat (((1 * (r 3) + 0) + 0)).toNat = Nat.gcd ((r 0)).toNat ((r 1)).toNat ∧ (((1 * (r 4) + 0) + 0) = 0 ∨ (((1 * (r 3) + 0) + 0) < ((1 * (r 2) + 0) + 0) ∧ (((1 * (r 2) + 0) + 0)).toNat * (((1 * (r 3) + 0) + 0)).toNat * 2 ^ (((1 * (r 4) + 0) + 0) - 1).toNat < 2 ^ 126))) := hG
  refine yt_dalt (by decide) (by decide) ?_
  rw [show xk_145.2.1.2.1.1.length = 2 from rfl]
  show 0 ≤ ((1 * r 0 + 0) + 0) → 0 ≤ ((1 * r 1 + 0) + 0) → ((1 * r 2 + 0) + 0) = yy_mx (Nat.gcd (((1 * r 0 + 0) + 0)).toNat (((1 * r 1 + 0) + 0)).toNat)
  try simp only [Int.one_mul, Int.zero_add, Int.add_zero]
  try simp only [Int.one_mul, Int.zero_add, Int.add_zero] at hG
  intro p0 p1
  obtain ⟨a1, a2, a3, a4⟩ := hG p0 p1
  have hb : r 3 = 0 := by
    first
      | omega
      | (have h8 : r 4 = 128 := by omega
         rcases a4 with q | ⟨q1, q2⟩
         · exfalso; omega
         · rw [show (r 4 - 1).toNat = 127 by omega] at q2
           have q3 := yy_e127 (by omega) q2
           omega)
  rw [hb, show (0 : Int).toNat = 0 from rfl, Nat.gcd_zero_right] at a3
  rw [← a3]
  unfold yy_mx
  split <;> omega
theorem xw_145_1_2 : yt_hold xT_145 xk_145 xq_145.2.2.1 xG_145 xP_145 xU_145 5 ((xq_145.2.2.1.getD 0 (0, ([], [], ([], []), [], [], ([], 0)), [], false)).2.1.2.2.1.2) (xG_145 0) (1000, ([((-9223372036854775808), 9223372036854775807), ((-9223372036854775808), 9223372036854775807), ((-9223372036854775808), 0), (0, 0), (0, 127), (0, 0)], []), [([], 1)], [], []) := by
  intro g0 r gi g hok hh hars hfr hG
  have b0 : (-9223372036854775808) ≤ r 0 ∧ r 0 ≤ 9223372036854775807 := hok.1 0 ((-9223372036854775808), 9223372036854775807) rfl
  have b1 : (-9223372036854775808) ≤ r 1 ∧ r 1 ≤ 9223372036854775807 := hok.1 1 ((-9223372036854775808), 9223372036854775807) rfl
  have b2 : (-9223372036854775808) ≤ r 2 ∧ r 2 ≤ 0 := hok.1 2 ((-9223372036854775808), 0) rfl
  have b3 : 0 ≤ r 3 ∧ r 3 ≤ 0 := hok.1 3 (0, 0) rfl
  have b4 : 0 ≤ r 4 ∧ r 4 ≤ 127 := hok.1 4 (0, 127) rfl
  have b5 : 0 ≤ r 5 ∧ r 5 ≤ 0 := hok.1 5 (0, 0) rfl
  have hG : 0 ≤ (r 0) → 0 ≤ (r 1) → (0 ≤ ((1 * (r 2) + 0) + 0) ∧ 0 ≤ ((1 * (r 3) + 0) + 0) ∧ Nat.gcd (((1 * (r 2) + 0) + 0)).toNat (((1 * (r 3) + 0) + 0)).toNat = Nat.gcd ((r 0)).toNat ((r 1)).toNat ∧ (((1 * (r 4) + 0) + 0) = 0 ∨ (((1 * (r 3) + 0) + 0) < ((1 * (r 2) + 0) + 0) ∧ (((1 * (r 2) + 0) + 0)).toNat * (((1 * (r 3) + 0) + 0)).toNat * 2 ^ (((1 * (r 4) + 0) + 0) - 1).toNat < 2 ^ 126))) := hG
  have hh : g = gi := hh
  subst hh
  have hG : 0 ≤ (r 0) → 0 ≤ (r 1) → (0 ≤ ((1 * (r 2) + 0) + 0) ∧ 0 ≤ ((1 * (r 3) + 0) + 0) ∧ Nat.gcd (((1 * (r 2) + 0) + 0)).toNat (((1 * (r 3) + 0) + 0)).toNat = Nat.gcd ((r 0)).toNat ((r 1)).toNat ∧ (((1 * (r 4) + 0) + 0) = 0 ∨ (((1 * (r 3) + 0) + 0) < ((1 * (r 2) + 0) + 0) ∧ (((1 * (r 2) + 0) + 0)).toNat * (((1 * (r 3) + 0) + 0)).toNat * 2 ^ (((1 * (r 4) + 0) + 0) - 1).toNat < 2 ^ 126))) := hG
  refine yt_dalt (by decide) (by decide) ?_
  rw [show xk_145.2.1.2.1.1.length = 2 from rfl]
  show 0 ≤ ((1 * r 0 + 0) + 0) → 0 ≤ ((1 * r 1 + 0) + 0) → ((0 : Int) + 1) = yy_mx (Nat.gcd (((1 * r 0 + 0) + 0)).toNat (((1 * r 1 + 0) + 0)).toNat)
  try simp only [Int.one_mul, Int.zero_add, Int.add_zero]
  try simp only [Int.one_mul, Int.zero_add, Int.add_zero] at hG
  intro p0 p1
  obtain ⟨a1, a2, a3, a4⟩ := hG p0 p1
  have hb : r 3 = 0 := by
    first
      | omega
      | (have h8 : r 4 = 128 := by omega
         rcases a4 with q | ⟨q1, q2⟩
         · exfalso; omega
         · rw [show (r 4 - 1).toNat = 127 by omega] at q2
           have q3 := yy_e127 (by omega) q2
           omega)
  rw [hb, show (0 : Int).toNat = 0 from rfl, Nat.gcd_zero_right] at a3
  rw [← a3]
  unfold yy_mx
  split <;> omega
theorem xw_145_1_3 : yt_hold xT_145 xk_145 xq_145.2.2.1 xG_145 xP_145 xU_145 5 ((xq_145.2.2.1.getD 0 (0, ([], [], ([], []), [], [], ([], 0)), [], false)).2.1.2.2.1.2) (xG_145 0) (1000, ([((-9223372036854775808), 9223372036854775807), ((-9223372036854775808), 9223372036854775807), (1, 9223372036854775807), (0, 0), (0, 127), (0, 0)], []), [([(2, 1)], 0)], [], []) := by
  intro g0 r gi g hok hh hars hfr hG
  have b0 : (-9223372036854775808) ≤ r 0 ∧ r 0 ≤ 9223372036854775807 := hok.1 0 ((-9223372036854775808), 9223372036854775807) rfl
  have b1 : (-9223372036854775808) ≤ r 1 ∧ r 1 ≤ 9223372036854775807 := hok.1 1 ((-9223372036854775808), 9223372036854775807) rfl
  have b2 : 1 ≤ r 2 ∧ r 2 ≤ 9223372036854775807 := hok.1 2 (1, 9223372036854775807) rfl
  have b3 : 0 ≤ r 3 ∧ r 3 ≤ 0 := hok.1 3 (0, 0) rfl
  have b4 : 0 ≤ r 4 ∧ r 4 ≤ 127 := hok.1 4 (0, 127) rfl
  have b5 : 0 ≤ r 5 ∧ r 5 ≤ 0 := hok.1 5 (0, 0) rfl
  have hG : 0 ≤ (r 0) → 0 ≤ (r 1) → (0 ≤ ((1 * (r 2) + 0) + 0) ∧ 0 ≤ ((1 * (r 3) + 0) + 0) ∧ Nat.gcd (((1 * (r 2) + 0) + 0)).toNat (((1 * (r 3) + 0) + 0)).toNat = Nat.gcd ((r 0)).toNat ((r 1)).toNat ∧ (((1 * (r 4) + 0) + 0) = 0 ∨ (((1 * (r 3) + 0) + 0) < ((1 * (r 2) + 0) + 0) ∧ (((1 * (r 2) + 0) + 0)).toNat * (((1 * (r 3) + 0) + 0)).toNat * 2 ^ (((1 * (r 4) + 0) + 0) - 1).toNat < 2 ^ 126))) := hG
  have hh : g = gi := hh
  subst hh
  have hG : 0 ≤ (r 0) → 0 ≤ (r 1) → (0 ≤ ((1 * (r 2) + 0) + 0) ∧ 0 ≤ ((1 * (r 3) + 0) + 0) ∧ Nat.gcd (((1 * (r 2) + 0) + 0)).toNat (((1 * (r 3) + 0) + 0)).toNat = Nat.gcd ((r 0)).toNat ((r 1)).toNat ∧ (((1 * (r 4) + 0) + 0) = 0 ∨ (((1 * (r 3) + 0) + 0) < ((1 * (r 2) + 0) + 0) ∧ (((1 * (r 2) + 0) + 0)).toNat * (((1 * (r 3) + 0) + 0)).toNat * 2 ^ (((1 * (r 4) + 0) + 0) - 1).toNat < 2 ^ 126))) := hG
  refine yt_dalt (by decide) (by decide) ?_
  rw [show xk_145.2.1.2.1.1.length = 2 from rfl]
  show 0 ≤ ((1 * r 0 + 0) + 0) → 0 ≤ ((1 * r 1 + 0) + 0) → ((1 * r 2 + 0) + 0) = yy_mx (Nat.gcd (((1 * r 0 + 0) + 0)).toNat (((1 * r 1 + 0) + 0)).toNat)
  try simp only [Int.one_mul, Int.zero_add, Int.add_zero]
  try simp only [Int.one_mul, Int.zero_add, Int.add_zero] at hG
  intro p0 p1
  obtain ⟨a1, a2, a3, a4⟩ := hG p0 p1
  have hb : r 3 = 0 := by
    first
      | omega
      | (have h8 : r 4 = 128 := by omega
         rcases a4 with q | ⟨q1, q2⟩
         · exfalso; omega
         · rw [show (r 4 - 1).toNat = 127 by omega] at q2
           have q3 := yy_e127 (by omega) q2
           omega)
  rw [hb, show (0 : Int).toNat = 0 from rfl, Nat.gcd_zero_right] at a3
  rw [← a3]
  unfold yy_mx
  split <;> omega
theorem xw_145_1_4 : yt_hold xT_145 xk_145 xq_145.2.2.1 xG_145 xP_145 xU_145 5 ((xq_145.2.2.1.getD 0 (0, ([], [], ([], []), [], [], ([], 0)), [], false)).2.1.2.2.1.2) (xG_145 0) (0, ([((-9223372036854775808), 9223372036854775807), ((-9223372036854775808), 9223372036854775807), (0, 9223372036854775806), (1, 9223372036854775807), (0, 127), (0, 0)], [([(3, 1), (2, (-1))], (-1))]), [([(3, 1)], 0), ([(2, 1)], 0), ([(4, 1)], 1)], [], [.inr (.inr (.inl (998, 16, [([(2, 1)], 0), ([(3, 1)], 0), ([(2, 1)], 0)], [], [])))]) := by
  intro g0 r gi g hok hh hars hfr hG
  have b0 : (-9223372036854775808) ≤ r 0 ∧ r 0 ≤ 9223372036854775807 := hok.1 0 ((-9223372036854775808), 9223372036854775807) rfl
  have b1 : (-9223372036854775808) ≤ r 1 ∧ r 1 ≤ 9223372036854775807 := hok.1 1 ((-9223372036854775808), 9223372036854775807) rfl
  have b2 : 0 ≤ r 2 ∧ r 2 ≤ 9223372036854775806 := hok.1 2 (0, 9223372036854775806) rfl
  have b3 : 1 ≤ r 3 ∧ r 3 ≤ 9223372036854775807 := hok.1 3 (1, 9223372036854775807) rfl
  have b4 : 0 ≤ r 4 ∧ r 4 ≤ 127 := hok.1 4 (0, 127) rfl
  have b5 : 0 ≤ r 5 ∧ r 5 ≤ 0 := hok.1 5 (0, 0) rfl
  have f0 : 0 ≤ ((1 * r 3 + ((-1) * r 2 + 0)) + (-1)) := hok.2 _ (List.mem_of_getElem? (i := 0) rfl)
  have hG : 0 ≤ (r 0) → 0 ≤ (r 1) → (0 ≤ ((1 * (r 2) + 0) + 0) ∧ 0 ≤ ((1 * (r 3) + 0) + 0) ∧ Nat.gcd (((1 * (r 2) + 0) + 0)).toNat (((1 * (r 3) + 0) + 0)).toNat = Nat.gcd ((r 0)).toNat ((r 1)).toNat ∧ (((1 * (r 4) + 0) + 0) = 0 ∨ (((1 * (r 3) + 0) + 0) < ((1 * (r 2) + 0) + 0) ∧ (((1 * (r 2) + 0) + 0)).toNat * (((1 * (r 3) + 0) + 0)).toNat * 2 ^ (((1 * (r 4) + 0) + 0) - 1).toNat < 2 ^ 126))) := hG
  obtain ⟨h0, hh, e0, k0⟩ := hh
  have k0 : ∀ j, j ∉ [] → g j = h0 j := k0
  have e0 : ((1 * r 2 + 0) + 0) = (((1 * r 2 + 0) + 0)).tmod (((1 * r 3 + 0) + 0)) := e0
  have hh : h0 = gi := hh
  subst hh
  have hG : 0 ≤ (r 0) → 0 ≤ (r 1) → (0 ≤ ((1 * (r 2) + 0) + 0) ∧ 0 ≤ ((1 * (r 3) + 0) + 0) ∧ Nat.gcd (((1 * (r 2) + 0) + 0)).toNat (((1 * (r 3) + 0) + 0)).toNat = Nat.gcd ((r 0)).toNat ((r 1)).toNat ∧ (((1 * (r 4) + 0) + 0) = 0 ∨ (((1 * (r 3) + 0) + 0) < ((1 * (r 2) + 0) + 0) ∧ (((1 * (r 2) + 0) + 0)).toNat * (((1 * (r 3) + 0) + 0)).toNat * 2 ^ (((1 * (r 4) + 0) + 0) - 1).toNat < 2 ^ 126))) := hG
  refine yt_dcut (by decide) rfl ?_ ?_
  · exact fun f hf => absurd hf List.not_mem_nil
  · rw [show xk_145.2.1.2.1.1.length = 2 from rfl]
    show 0 ≤ ((1 * r 0 + 0) + 0) → 0 ≤ ((1 * r 1 + 0) + 0) → (0 ≤ ((1 * ((1 * r 3 + 0) + 0) + 0) + 0) ∧ 0 ≤ ((1 * ((1 * r 2 + 0) + 0) + 0) + 0) ∧ Nat.gcd (((1 * ((1 * r 3 + 0) + 0) + 0) + 0)).toNat (((1 * ((1 * r 2 + 0) + 0) + 0) + 0)).toNat = Nat.gcd (((1 * r 0 + 0) + 0)).toNat (((1 * r 1 + 0) + 0)).toNat ∧ (((1 * ((1 * r 4 + 0) + 1) + 0) + 0) = 0 ∨ (((1 * ((1 * r 2 + 0) + 0) + 0) + 0) < ((1 * ((1 * r 3 + 0) + 0) + 0) + 0) ∧ (((1 * ((1 * r 3 + 0) + 0) + 0) + 0)).toNat * (((1 * ((1 * r 2 + 0) + 0) + 0) + 0)).toNat * 2 ^ (((1 * ((1 * r 4 + 0) + 1) + 0) + 0) - 1).toNat < 2 ^ 126)))
    try simp only [Int.one_mul, Int.zero_add, Int.add_zero]
    try simp only [Int.one_mul, Int.zero_add, Int.add_zero] at hG
    intro p0 p1
    obtain ⟨a1, a2, a3, a4⟩ := hG p0 p1
    try simp only [Int.one_mul, Int.zero_add, Int.add_zero] at e0
    first
      | (exfalso; omega)
      | (have em : r 2 = (((r 2).toNat % (r 3).toNat : Nat) : Int) := e0.trans (yy_tm a1 a2)
         have em2 : (r 2).toNat = (r 2).toNat % (r 3).toNat := by omega
         have hl : (r 2).toNat % (r 3).toNat < (r 3).toNat := Nat.mod_lt _ (by omega)
         refine ⟨a2, by omega, ?_, Or.inr ⟨by omega, ?_⟩⟩
         · rw [em2, yy_gs]
           exact a3
         · rw [em2]
           by_cases qn : r 4 = 0
           · rw [show (r 4 + 1 - 1).toNat = 0 by omega]
             exact yy_e0 (by omega) (by omega)
           · rcases a4 with q | ⟨q1, q2⟩
             · exact absurd q qn
             · rw [show (r 4 + 1 - 1).toNat = (r 4 - 1).toNat + 1 by omega]
               exact yy_eu (by omega) (by omega) q2)
theorem xw_145_1_5 : yt_hold xT_145 xk_145 xq_145.2.2.1 xG_145 xP_145 xU_145 5 ((xq_145.2.2.1.getD 0 (0, ([], [], ([], []), [], [], ([], 0)), [], false)).2.1.2.2.1.2) (xG_145 0) (0, ([((-9223372036854775808), 9223372036854775807), ((-9223372036854775808), 9223372036854775807), (1, 9223372036854775807), (1, 9223372036854775807), (0, 127), (0, 9223372036854775806)], [([(5, (-1)), (2, 1), (3, (-1))], 0), ([(3, 1), (5, (-1))], (-1)), ([(3, (-1)), (2, 1)], 0)]), [([(3, 1)], 0), ([(5, 1)], 0), ([(4, 1)], 1)], [], [.inr (.inr (.inl (998, 16, [([(2, 1)], 0), ([(3, 1)], 0), ([(5, 1)], 0)], [], [])))]) := by
  intro g0 r gi g hok hh hars hfr hG
  have b0 : (-9223372036854775808) ≤ r 0 ∧ r 0 ≤ 9223372036854775807 := hok.1 0 ((-9223372036854775808), 9223372036854775807) rfl
  have b1 : (-9223372036854775808) ≤ r 1 ∧ r 1 ≤ 9223372036854775807 := hok.1 1 ((-9223372036854775808), 9223372036854775807) rfl
  have b2 : 1 ≤ r 2 ∧ r 2 ≤ 9223372036854775807 := hok.1 2 (1, 9223372036854775807) rfl
  have b3 : 1 ≤ r 3 ∧ r 3 ≤ 9223372036854775807 := hok.1 3 (1, 9223372036854775807) rfl
  have b4 : 0 ≤ r 4 ∧ r 4 ≤ 127 := hok.1 4 (0, 127) rfl
  have b5 : 0 ≤ r 5 ∧ r 5 ≤ 9223372036854775806 := hok.1 5 (0, 9223372036854775806) rfl
  have f0 : 0 ≤ (((-1) * r 5 + (1 * r 2 + ((-1) * r 3 + 0))) + 0) := hok.2 _ (List.mem_of_getElem? (i := 0) rfl)
  have f1 : 0 ≤ ((1 * r 3 + ((-1) * r 5 + 0)) + (-1)) := hok.2 _ (List.mem_of_getElem? (i := 1) rfl)
  have f2 : 0 ≤ (((-1) * r 3 + (1 * r 2 + 0)) + 0) := hok.2 _ (List.mem_of_getElem? (i := 2) rfl)
  have hG : 0 ≤ (r 0) → 0 ≤ (r 1) → (0 ≤ ((1 * (r 2) + 0) + 0) ∧ 0 ≤ ((1 * (r 3) + 0) + 0) ∧ Nat.gcd (((1 * (r 2) + 0) + 0)).toNat (((1 * (r 3) + 0) + 0)).toNat = Nat.gcd ((r 0)).toNat ((r 1)).toNat ∧ (((1 * (r 4) + 0) + 0) = 0 ∨ (((1 * (r 3) + 0) + 0) < ((1 * (r 2) + 0) + 0) ∧ (((1 * (r 2) + 0) + 0)).toNat * (((1 * (r 3) + 0) + 0)).toNat * 2 ^ (((1 * (r 4) + 0) + 0) - 1).toNat < 2 ^ 126))) := hG
  obtain ⟨h0, hh, e0, k0⟩ := hh
  have k0 : ∀ j, j ∉ [] → g j = h0 j := k0
  have e0 : ((1 * r 5 + 0) + 0) = (((1 * r 2 + 0) + 0)).tmod (((1 * r 3 + 0) + 0)) := e0
  have hh : h0 = gi := hh
  subst hh
  have hG : 0 ≤ (r 0) → 0 ≤ (r 1) → (0 ≤ ((1 * (r 2) + 0) + 0) ∧ 0 ≤ ((1 * (r 3) + 0) + 0) ∧ Nat.gcd (((1 * (r 2) + 0) + 0)).toNat (((1 * (r 3) + 0) + 0)).toNat = Nat.gcd ((r 0)).toNat ((r 1)).toNat ∧ (((1 * (r 4) + 0) + 0) = 0 ∨ (((1 * (r 3) + 0) + 0) < ((1 * (r 2) + 0) + 0) ∧ (((1 * (r 2) + 0) + 0)).toNat * (((1 * (r 3) + 0) + 0)).toNat * 2 ^ (((1 * (r 4) + 0) + 0) - 1).toNat < 2 ^ 126))) := hG
  refine yt_dcut (by decide) rfl ?_ ?_
  · exact fun f hf => absurd hf List.not_mem_nil
  · rw [show xk_145.2.1.2.1.1.length = 2 from rfl]
    show 0 ≤ ((1 * r 0 + 0) + 0) → 0 ≤ ((1 * r 1 + 0) + 0) → (0 ≤ ((1 * ((1 * r 3 + 0) + 0) + 0) + 0) ∧ 0 ≤ ((1 * ((1 * r 5 + 0) + 0) + 0) + 0) ∧ Nat.gcd (((1 * ((1 * r 3 + 0) + 0) + 0) + 0)).toNat (((1 * ((1 * r 5 + 0) + 0) + 0) + 0)).toNat = Nat.gcd (((1 * r 0 + 0) + 0)).toNat (((1 * r 1 + 0) + 0)).toNat ∧ (((1 * ((1 * r 4 + 0) + 1) + 0) + 0) = 0 ∨ (((1 * ((1 * r 5 + 0) + 0) + 0) + 0) < ((1 * ((1 * r 3 + 0) + 0) + 0) + 0) ∧ (((1 * ((1 * r 3 + 0) + 0) + 0) + 0)).toNat * (((1 * ((1 * r 5 + 0) + 0) + 0) + 0)).toNat * 2 ^ (((1 * ((1 * r 4 + 0) + 1) + 0) + 0) - 1).toNat < 2 ^ 126)))
    try simp only [Int.one_mul, Int.zero_add, Int.add_zero]
    try simp only [Int.one_mul, Int.zero_add, Int.add_zero] at hG
    intro p0 p1
    obtain ⟨a1, a2, a3, a4⟩ := hG p0 p1
    try simp only [Int.one_mul, Int.zero_add, Int.add_zero] at e0
    first
      | (exfalso; omega)
      | (have em : r 5 = (((r 2).toNat % (r 3).toNat : Nat) : Int) := e0.trans (yy_tm a1 a2)
         have em2 : (r 5).toNat = (r 2).toNat % (r 3).toNat := by omega
         have hl : (r 2).toNat % (r 3).toNat < (r 3).toNat := Nat.mod_lt _ (by omega)
         refine ⟨a2, by omega, ?_, Or.inr ⟨by omega, ?_⟩⟩
         · rw [em2, yy_gs]
           exact a3
         · rw [em2]
           by_cases qn : r 4 = 0
           · rw [show (r 4 + 1 - 1).toNat = 0 by omega]
             exact yy_e0 (by omega) (by omega)
           · rcases a4 with q | ⟨q1, q2⟩
             · exact absurd q qn
             · rw [show (r 4 + 1 - 1).toNat = (r 4 - 1).toNat + 1 by omega]
               exact yy_eu (by omega) (by omega) q2)
theorem xw_145_1_6 : yt_hold xT_145 xk_145 xq_145.2.2.1 xG_145 xP_145 xU_145 5 ((xq_145.2.2.1.getD 0 (0, ([], [], ([], []), [], [], ([], 0)), [], false)).2.1.2.2.1.2) (xG_145 0) (0, ([((-9223372036854775808), 9223372036854775807), ((-9223372036854775808), 9223372036854775807), ((-9223372036854775808), (-1)), (1, 9223372036854775807), (0, 127), ((-9223372036854775806), 0)], [([(2, (-1)), (5, 1)], 0), ([(5, 1), (3, 1)], (-1))]), [([(3, 1)], 0), ([(5, 1)], 0), ([(4, 1)], 1)], [], [.inr (.inr (.inl (998, 16, [([(2, 1)], 0), ([(3, 1)], 0), ([(5, 1)], 0)], [], [])))]) := by
  intro g0 r gi g hok hh hars hfr hG
  have b0 : (-9223372036854775808) ≤ r 0 ∧ r 0 ≤ 9223372036854775807 := hok.1 0 ((-9223372036854775808), 9223372036854775807) rfl
  have b1 : (-9223372036854775808) ≤ r 1 ∧ r 1 ≤ 9223372036854775807 := hok.1 1 ((-9223372036854775808), 9223372036854775807) rfl
  have b2 : (-9223372036854775808) ≤ r 2 ∧ r 2 ≤ (-1) := hok.1 2 ((-9223372036854775808), (-1)) rfl
  have b3 : 1 ≤ r 3 ∧ r 3 ≤ 9223372036854775807 := hok.1 3 (1, 9223372036854775807) rfl
  have b4 : 0 ≤ r 4 ∧ r 4 ≤ 127 := hok.1 4 (0, 127) rfl
  have b5 : (-9223372036854775806) ≤ r 5 ∧ r 5 ≤ 0 := hok.1 5 ((-9223372036854775806), 0) rfl
  have f0 : 0 ≤ (((-1) * r 2 + (1 * r 5 + 0)) + 0) := hok.2 _ (List.mem_of_getElem? (i := 0) rfl)
  have f1 : 0 ≤ ((1 * r 5 + (1 * r 3 + 0)) + (-1)) := hok.2 _ (List.mem_of_getElem? (i := 1) rfl)
  have hG : 0 ≤ (r 0) → 0 ≤ (r 1) → (0 ≤ ((1 * (r 2) + 0) + 0) ∧ 0 ≤ ((1 * (r 3) + 0) + 0) ∧ Nat.gcd (((1 * (r 2) + 0) + 0)).toNat (((1 * (r 3) + 0) + 0)).toNat = Nat.gcd ((r 0)).toNat ((r 1)).toNat ∧ (((1 * (r 4) + 0) + 0) = 0 ∨ (((1 * (r 3) + 0) + 0) < ((1 * (r 2) + 0) + 0) ∧ (((1 * (r 2) + 0) + 0)).toNat * (((1 * (r 3) + 0) + 0)).toNat * 2 ^ (((1 * (r 4) + 0) + 0) - 1).toNat < 2 ^ 126))) := hG
  obtain ⟨h0, hh, e0, k0⟩ := hh
  have k0 : ∀ j, j ∉ [] → g j = h0 j := k0
  have e0 : ((1 * r 5 + 0) + 0) = (((1 * r 2 + 0) + 0)).tmod (((1 * r 3 + 0) + 0)) := e0
  have hh : h0 = gi := hh
  subst hh
  have hG : 0 ≤ (r 0) → 0 ≤ (r 1) → (0 ≤ ((1 * (r 2) + 0) + 0) ∧ 0 ≤ ((1 * (r 3) + 0) + 0) ∧ Nat.gcd (((1 * (r 2) + 0) + 0)).toNat (((1 * (r 3) + 0) + 0)).toNat = Nat.gcd ((r 0)).toNat ((r 1)).toNat ∧ (((1 * (r 4) + 0) + 0) = 0 ∨ (((1 * (r 3) + 0) + 0) < ((1 * (r 2) + 0) + 0) ∧ (((1 * (r 2) + 0) + 0)).toNat * (((1 * (r 3) + 0) + 0)).toNat * 2 ^ (((1 * (r 4) + 0) + 0) - 1).toNat < 2 ^ 126))) := hG
  refine yt_dcut (by decide) rfl ?_ ?_
  · exact fun f hf => absurd hf List.not_mem_nil
  · rw [show xk_145.2.1.2.1.1.length = 2 from rfl]
    show 0 ≤ ((1 * r 0 + 0) + 0) → 0 ≤ ((1 * r 1 + 0) + 0) → (0 ≤ ((1 * ((1 * r 3 + 0) + 0) + 0) + 0) ∧ 0 ≤ ((1 * ((1 * r 5 + 0) + 0) + 0) + 0) ∧ Nat.gcd (((1 * ((1 * r 3 + 0) + 0) + 0) + 0)).toNat (((1 * ((1 * r 5 + 0) + 0) + 0) + 0)).toNat = Nat.gcd (((1 * r 0 + 0) + 0)).toNat (((1 * r 1 + 0) + 0)).toNat ∧ (((1 * ((1 * r 4 + 0) + 1) + 0) + 0) = 0 ∨ (((1 * ((1 * r 5 + 0) + 0) + 0) + 0) < ((1 * ((1 * r 3 + 0) + 0) + 0) + 0) ∧ (((1 * ((1 * r 3 + 0) + 0) + 0) + 0)).toNat * (((1 * ((1 * r 5 + 0) + 0) + 0) + 0)).toNat * 2 ^ (((1 * ((1 * r 4 + 0) + 1) + 0) + 0) - 1).toNat < 2 ^ 126)))
    try simp only [Int.one_mul, Int.zero_add, Int.add_zero]
    try simp only [Int.one_mul, Int.zero_add, Int.add_zero] at hG
    intro p0 p1
    obtain ⟨a1, a2, a3, a4⟩ := hG p0 p1
    try simp only [Int.one_mul, Int.zero_add, Int.add_zero] at e0
    first
      | (exfalso; omega)
      | (have em : r 5 = (((r 2).toNat % (r 3).toNat : Nat) : Int) := e0.trans (yy_tm a1 a2)
         have em2 : (r 5).toNat = (r 2).toNat % (r 3).toNat := by omega
         have hl : (r 2).toNat % (r 3).toNat < (r 3).toNat := Nat.mod_lt _ (by omega)
         refine ⟨a2, by omega, ?_, Or.inr ⟨by omega, ?_⟩⟩
         · rw [em2, yy_gs]
           exact a3
         · rw [em2]
           by_cases qn : r 4 = 0
           · rw [show (r 4 + 1 - 1).toNat = 0 by omega]
             exact yy_e0 (by omega) (by omega)
           · rcases a4 with q | ⟨q1, q2⟩
             · exact absurd q qn
             · rw [show (r 4 + 1 - 1).toNat = (r 4 - 1).toNat + 1 by omega]
               exact yy_eu (by omega) (by omega) q2)
theorem xw_145_1_7 : yt_hold xT_145 xk_145 xq_145.2.2.1 xG_145 xP_145 xU_145 5 ((xq_145.2.2.1.getD 0 (0, ([], [], ([], []), [], [], ([], 0)), [], false)).2.1.2.2.1.2) (xG_145 0) (0, ([((-9223372036854775808), 9223372036854775807), ((-9223372036854775808), 9223372036854775807), (0, 9223372036854775807), ((-9223372036854775808), (-1)), (0, 127), (0, 9223372036854775807)], [([(5, (-1)), (2, 1)], 0), ([(3, (-1)), (5, (-1))], (-1))]), [([(3, 1)], 0), ([(5, 1)], 0), ([(4, 1)], 1)], [], [.inr (.inr (.inl (998, 16, [([(2, 1)], 0), ([(3, 1)], 0), ([(5, 1)], 0)], [], [])))]) := by
  intro g0 r gi g hok hh hars hfr hG
  have b0 : (-9223372036854775808) ≤ r 0 ∧ r 0 ≤ 9223372036854775807 := hok.1 0 ((-9223372036854775808), 9223372036854775807) rfl
  have b1 : (-9223372036854775808) ≤ r 1 ∧ r 1 ≤ 9223372036854775807 := hok.1 1 ((-9223372036854775808), 9223372036854775807) rfl
  have b2 : 0 ≤ r 2 ∧ r 2 ≤ 9223372036854775807 := hok.1 2 (0, 9223372036854775807) rfl
  have b3 : (-9223372036854775808) ≤ r 3 ∧ r 3 ≤ (-1) := hok.1 3 ((-9223372036854775808), (-1)) rfl
  have b4 : 0 ≤ r 4 ∧ r 4 ≤ 127 := hok.1 4 (0, 127) rfl
  have b5 : 0 ≤ r 5 ∧ r 5 ≤ 9223372036854775807 := hok.1 5 (0, 9223372036854775807) rfl
  have f0 : 0 ≤ (((-1) * r 5 + (1 * r 2 + 0)) + 0) := hok.2 _ (List.mem_of_getElem? (i := 0) rfl)
  have f1 : 0 ≤ (((-1) * r 3 + ((-1) * r 5 + 0)) + (-1)) := hok.2 _ (List.mem_of_getElem? (i := 1) rfl)
  have hG : 0 ≤ (r 0) → 0 ≤ (r 1) → (0 ≤ ((1 * (r 2) + 0) + 0) ∧ 0 ≤ ((1 * (r 3) + 0) + 0) ∧ Nat.gcd (((1 * (r 2) + 0) + 0)).toNat (((1 * (r 3) + 0) + 0)).toNat = Nat.gcd ((r 0)).toNat ((r 1)).toNat ∧ (((1 * (r 4) + 0) + 0) = 0 ∨ (((1 * (r 3) + 0) + 0) < ((1 * (r 2) + 0) + 0) ∧ (((1 * (r 2) + 0) + 0)).toNat * (((1 * (r 3) + 0) + 0)).toNat * 2 ^ (((1 * (r 4) + 0) + 0) - 1).toNat < 2 ^ 126))) := hG
  obtain ⟨h0, hh, e0, k0⟩ := hh
  have k0 : ∀ j, j ∉ [] → g j = h0 j := k0
  have e0 : ((1 * r 5 + 0) + 0) = (((1 * r 2 + 0) + 0)).tmod (((1 * r 3 + 0) + 0)) := e0
  have hh : h0 = gi := hh
  subst hh
  have hG : 0 ≤ (r 0) → 0 ≤ (r 1) → (0 ≤ ((1 * (r 2) + 0) + 0) ∧ 0 ≤ ((1 * (r 3) + 0) + 0) ∧ Nat.gcd (((1 * (r 2) + 0) + 0)).toNat (((1 * (r 3) + 0) + 0)).toNat = Nat.gcd ((r 0)).toNat ((r 1)).toNat ∧ (((1 * (r 4) + 0) + 0) = 0 ∨ (((1 * (r 3) + 0) + 0) < ((1 * (r 2) + 0) + 0) ∧ (((1 * (r 2) + 0) + 0)).toNat * (((1 * (r 3) + 0) + 0)).toNat * 2 ^ (((1 * (r 4) + 0) + 0) - 1).toNat < 2 ^ 126))) := hG
  refine yt_dcut (by decide) rfl ?_ ?_
  · exact fun f hf => absurd hf List.not_mem_nil
  · rw [show xk_145.2.1.2.1.1.length = 2 from rfl]
    show 0 ≤ ((1 * r 0 + 0) + 0) → 0 ≤ ((1 * r 1 + 0) + 0) → (0 ≤ ((1 * ((1 * r 3 + 0) + 0) + 0) + 0) ∧ 0 ≤ ((1 * ((1 * r 5 + 0) + 0) + 0) + 0) ∧ Nat.gcd (((1 * ((1 * r 3 + 0) + 0) + 0) + 0)).toNat (((1 * ((1 * r 5 + 0) + 0) + 0) + 0)).toNat = Nat.gcd (((1 * r 0 + 0) + 0)).toNat (((1 * r 1 + 0) + 0)).toNat ∧ (((1 * ((1 * r 4 + 0) + 1) + 0) + 0) = 0 ∨ (((1 * ((1 * r 5 + 0) + 0) + 0) + 0) < ((1 * ((1 * r 3 + 0) + 0) + 0) + 0) ∧ (((1 * ((1 * r 3 + 0) + 0) + 0) + 0)).toNat * (((1 * ((1 * r 5 + 0) + 0) + 0) + 0)).toNat * 2 ^ (((1 * ((1 * r 4 + 0) + 1) + 0) + 0) - 1).toNat < 2 ^ 126)))
    try simp only [Int.one_mul, Int.zero_add, Int.add_zero]
    try simp only [Int.one_mul, Int.zero_add, Int.add_zero] at hG
    intro p0 p1
    obtain ⟨a1, a2, a3, a4⟩ := hG p0 p1
    try simp only [Int.one_mul, Int.zero_add, Int.add_zero] at e0
    first
      | (exfalso; omega)
      | (have em : r 5 = (((r 2).toNat % (r 3).toNat : Nat) : Int) := e0.trans (yy_tm a1 a2)
         have em2 : (r 5).toNat = (r 2).toNat % (r 3).toNat := by omega
         have hl : (r 2).toNat % (r 3).toNat < (r 3).toNat := Nat.mod_lt _ (by omega)
         refine ⟨a2, by omega, ?_, Or.inr ⟨by omega, ?_⟩⟩
         · rw [em2, yy_gs]
           exact a3
         · rw [em2]
           by_cases qn : r 4 = 0
           · rw [show (r 4 + 1 - 1).toNat = 0 by omega]
             exact yy_e0 (by omega) (by omega)
           · rcases a4 with q | ⟨q1, q2⟩
             · exact absurd q qn
             · rw [show (r 4 + 1 - 1).toNat = (r 4 - 1).toNat + 1 by omega]
               exact yy_eu (by omega) (by omega) q2)
theorem xw_145_1_8 : yt_hold xT_145 xk_145 xq_145.2.2.1 xG_145 xP_145 xU_145 5 ((xq_145.2.2.1.getD 0 (0, ([], [], ([], []), [], [], ([], 0)), [], false)).2.1.2.2.1.2) (xG_145 0) (0, ([((-9223372036854775808), 9223372036854775807), ((-9223372036854775808), 9223372036854775807), ((-9223372036854775808), (-1)), ((-9223372036854775808), (-1)), (0, 127), ((-9223372036854775807), 0)], [([(2, (-1)), (5, 1)], 0), ([(5, 1), (3, (-1))], (-1))]), [([(3, 1)], 0), ([(5, 1)], 0), ([(4, 1)], 1)], [], [.inr (.inr (.inl (998, 16, [([(2, 1)], 0), ([(3, 1)], 0), ([(5, 1)], 0)], [], [])))]) := by
  intro g0 r gi g hok hh hars hfr hG
  have b0 : (-9223372036854775808) ≤ r 0 ∧ r 0 ≤ 9223372036854775807 := hok.1 0 ((-9223372036854775808), 9223372036854775807) rfl
  have b1 : (-9223372036854775808) ≤ r 1 ∧ r 1 ≤ 9223372036854775807 := hok.1 1 ((-9223372036854775808), 9223372036854775807) rfl
  have b2 : (-9223372036854775808) ≤ r 2 ∧ r 2 ≤ (-1) := hok.1 2 ((-9223372036854775808), (-1)) rfl
  have b3 : (-9223372036854775808) ≤ r 3 ∧ r 3 ≤ (-1) := hok.1 3 ((-9223372036854775808), (-1)) rfl
  have b4 : 0 ≤ r 4 ∧ r 4 ≤ 127 := hok.1 4 (0, 127) rfl
  have b5 : (-9223372036854775807) ≤ r 5 ∧ r 5 ≤ 0 := hok.1 5 ((-9223372036854775807), 0) rfl
  have f0 : 0 ≤ (((-1) * r 2 + (1 * r 5 + 0)) + 0) := hok.2 _ (List.mem_of_getElem? (i := 0) rfl)
  have f1 : 0 ≤ ((1 * r 5 + ((-1) * r 3 + 0)) + (-1)) := hok.2 _ (List.mem_of_getElem? (i := 1) rfl)
  have hG : 0 ≤ (r 0) → 0 ≤ (r 1) → (0 ≤ ((1 * (r 2) + 0) + 0) ∧ 0 ≤ ((1 * (r 3) + 0) + 0) ∧ Nat.gcd (((1 * (r 2) + 0) + 0)).toNat (((1 * (r 3) + 0) + 0)).toNat = Nat.gcd ((r 0)).toNat ((r 1)).toNat ∧ (((1 * (r 4) + 0) + 0) = 0 ∨ (((1 * (r 3) + 0) + 0) < ((1 * (r 2) + 0) + 0) ∧ (((1 * (r 2) + 0) + 0)).toNat * (((1 * (r 3) + 0) + 0)).toNat * 2 ^ (((1 * (r 4) + 0) + 0) - 1).toNat < 2 ^ 126))) := hG
  obtain ⟨h0, hh, e0, k0⟩ := hh
  have k0 : ∀ j, j ∉ [] → g j = h0 j := k0
  have e0 : ((1 * r 5 + 0) + 0) = (((1 * r 2 + 0) + 0)).tmod (((1 * r 3 + 0) + 0)) := e0
  have hh : h0 = gi := hh
  subst hh
  have hG : 0 ≤ (r 0) → 0 ≤ (r 1) → (0 ≤ ((1 * (r 2) + 0) + 0) ∧ 0 ≤ ((1 * (r 3) + 0) + 0) ∧ Nat.gcd (((1 * (r 2) + 0) + 0)).toNat (((1 * (r 3) + 0) + 0)).toNat = Nat.gcd ((r 0)).toNat ((r 1)).toNat ∧ (((1 * (r 4) + 0) + 0) = 0 ∨ (((1 * (r 3) + 0) + 0) < ((1 * (r 2) + 0) + 0) ∧ (((1 * (r 2) + 0) + 0)).toNat * (((1 * (r 3) + 0) + 0)).toNat * 2 ^ (((1 * (r 4) + 0) + 0) - 1).toNat < 2 ^ 126))) := hG
  refine yt_dcut (by decide) rfl ?_ ?_
  · exact fun f hf => absurd hf List.not_mem_nil
  · rw [show xk_145.2.1.2.1.1.length = 2 from rfl]
    show 0 ≤ ((1 * r 0 + 0) + 0) → 0 ≤ ((1 * r 1 + 0) + 0) → (0 ≤ ((1 * ((1 * r 3 + 0) + 0) + 0) + 0) ∧ 0 ≤ ((1 * ((1 * r 5 + 0) + 0) + 0) + 0) ∧ Nat.gcd (((1 * ((1 * r 3 + 0) + 0) + 0) + 0)).toNat (((1 * ((1 * r 5 + 0) + 0) + 0) + 0)).toNat = Nat.gcd (((1 * r 0 + 0) + 0)).toNat (((1 * r 1 + 0) + 0)).toNat ∧ (((1 * ((1 * r 4 + 0) + 1) + 0) + 0) = 0 ∨ (((1 * ((1 * r 5 + 0) + 0) + 0) + 0) < ((1 * ((1 * r 3 + 0) + 0) + 0) + 0) ∧ (((1 * ((1 * r 3 + 0) + 0) + 0) + 0)).toNat * (((1 * ((1 * r 5 + 0) + 0) + 0) + 0)).toNat * 2 ^ (((1 * ((1 * r 4 + 0) + 1) + 0) + 0) - 1).toNat < 2 ^ 126)))
    try simp only [Int.one_mul, Int.zero_add, Int.add_zero]
    try simp only [Int.one_mul, Int.zero_add, Int.add_zero] at hG
    intro p0 p1
    obtain ⟨a1, a2, a3, a4⟩ := hG p0 p1
    try simp only [Int.one_mul, Int.zero_add, Int.add_zero] at e0
    first
      | (exfalso; omega)
      | (have em : r 5 = (((r 2).toNat % (r 3).toNat : Nat) : Int) := e0.trans (yy_tm a1 a2)
         have em2 : (r 5).toNat = (r 2).toNat % (r 3).toNat := by omega
         have hl : (r 2).toNat % (r 3).toNat < (r 3).toNat := Nat.mod_lt _ (by omega)
         refine ⟨a2, by omega, ?_, Or.inr ⟨by omega, ?_⟩⟩
         · rw [em2, yy_gs]
           exact a3
         · rw [em2]
           by_cases qn : r 4 = 0
           · rw [show (r 4 + 1 - 1).toNat = 0 by omega]
             exact yy_e0 (by omega) (by omega)
           · rcases a4 with q | ⟨q1, q2⟩
             · exact absurd q qn
             · rw [show (r 4 + 1 - 1).toNat = (r 4 - 1).toNat + 1 by omega]
               exact yy_eu (by omega) (by omega) q2)
theorem xn_145 : ∀ (j : Nat) (q : Nat × yt_T), xq_145.2.2.1[j]? = some q → q.2.2.2 = false → ∀ g0 r g, xG_145 j g0 r g
  | 0, q, hq, hf => by cases hq; cases hf
  | n + 1, q, hq, _ => by cases hq
theorem xs_145 : ∀ j, xq_145.2.2.2.getD j false = false → ∀ r g g', xP_145 j r g g'
  | 0, hf => by cases hf
  | n + 1, _ => fun _ _ _ => trivial
theorem xc_145 {l : Launch} {D : va_G} {cT : Nat → ClassId} {tys : List (ClassId × FieldType)} (hty : yx_Ty tys cT) : yt_Con l D vwCl cT tys yG yw_s2 xk_145 xR_145 xP_145 := yx_sem (calls := xa_145) (Z := xq_145) (tb := xT_145) (pt := xU_145) (Ga := xG_145) (vs := xv_145) (fun _ _ _ h => h) 300 (by decide +kernel) yz_X1_common_ok hty (yl_lkX1 _) (yl_cqkX1 _) (fun _ h => absurd h List.not_mem_nil) (xn_145) (xs_145) (by decide +kernel) (List.forall_mem_cons.mpr ⟨xw_145_0_0, List.forall_mem_cons.mpr ⟨xw_145_0_1, List.forall_mem_cons.mpr ⟨xw_145_0_2, List.forall_mem_cons.mpr ⟨xw_145_0_3, List.forall_mem_cons.mpr ⟨xw_145_0_4, List.forall_mem_cons.mpr ⟨xw_145_0_5, List.forall_mem_cons.mpr ⟨xw_145_0_6, List.forall_mem_cons.mpr ⟨xw_145_0_7, List.forall_mem_cons.mpr ⟨xw_145_0_8, fun _ h => absurd h List.not_mem_nil⟩⟩⟩⟩⟩⟩⟩⟩⟩) (⟨List.forall_mem_cons.mpr ⟨xw_145_1_0, List.forall_mem_cons.mpr ⟨xw_145_1_1, List.forall_mem_cons.mpr ⟨xw_145_1_2, List.forall_mem_cons.mpr ⟨xw_145_1_3, List.forall_mem_cons.mpr ⟨xw_145_1_4, List.forall_mem_cons.mpr ⟨xw_145_1_5, List.forall_mem_cons.mpr ⟨xw_145_1_6, List.forall_mem_cons.mpr ⟨xw_145_1_7, List.forall_mem_cons.mpr ⟨xw_145_1_8, fun _ h => absurd h List.not_mem_nil⟩⟩⟩⟩⟩⟩⟩⟩⟩, trivial⟩)
noncomputable def yw_s76 : List ys_C := [.inl 9, .inl 6, .inr (0, 40, []), .inr (0, 40, []), .inr (0, 40, [])]
noncomputable def yw_f76 (n : Nat) : List (List ys_V) := [[.inr (some 5), .inr (some 6), .inr (some 7), .inr (some 8), .inr (some 9), .inr (some 10), .inl (.inl ([(n + 0, 1)], 0)), .inl (.inl ([(n + 1, 1)], 0)), .inl (.inl ([(n + 2, 1)], 0)), .inr (some 11), .inr (some 12), .inr (some 13), .inl (.inl ([(n + 3, 1)], 0)), .inl (.inl ([(n + 4, 1)], 0)), .inl (.inl ([(n + 5, 1)], 0)), .inl (.inr ([(n + 6, 1)], 0)), .inl (.inr ([(n + 7, 1)], 0))], [.inr (some 2), .inr (some 3), .inr (some 4), .inr (some 14), .inl (.inl ([(n + 8, 1)], 0)), .inl (.inl ([(n + 9, 1)], 0))], [], [], []]
noncomputable def yw_e76 : ys_E := [(0, 40), (0, 12), ((-2147483648), 2147483647), ((-2147483648), 2147483647), ((-2147483648), 2147483647), ((-2147483648), 2147483647), ((-9223372036854775808), 9223372036854775807), ((-9223372036854775808), 9223372036854775807), (0, 40), ((-2147483648), 2147483647)]
noncomputable def yw_r76 : List ys_R := [((0, 0), []), ((0, 0), []), (((-300), 300), []), (((-300), 300), []), ((0, 1), [])]
noncomputable def xf_146 : ys_F := (yw_f76 1, yw_r76)
noncomputable def xk_146 : ys_K := (((yX9_isWrong, cX9_isWrong, 3, (some .boolean)), (1, 25)), ([.inr (some 0), .inr (some 1), .inl (.inl ([(0, 1)], 0))], ([(0, 39)] ++ yw_e76, []), xf_146), ([([], [], (xf_146.1, xf_146.2), some (.inl (.inl ([], 0)))), ([], [], (xf_146.1, xf_146.2), some (.inl (.inl ([], 1))))], []))
noncomputable def xq_146 : yt_Q := (yz_X9_isWrong, (yl_flX9, yl_ciX9, yl_cjX9, yl_cpX9, yl_cqX9), [], [])
noncomputable def xa_146 : List yt_CE := [(((98, true), (0, false, [])), (yw_s2, xk_140))]
theorem xc_146 {l : Launch} {D : va_G} {cT : Nat → ClassId} {tys : List (ClassId × FieldType)} (hty : yx_Ty tys cT) : yx_C l D cT tys yw_s76 xk_146 := yx_method (calls := xa_146) (Z := xq_146) 300 (by decide +kernel) yz_X9_isWrong_ok hty (yl_lkX9 _) (yl_cqkX9 _) (List.forall_mem_cons.mpr ⟨⟨xc_140 hty, yg_CLs yl_wX9_98 yd_yX9_saysYes⟩, fun _ h => absurd h List.not_mem_nil⟩) (by decide +kernel)
noncomputable def xf_147 : ys_F := (yw_f74 1, yw_r74)
noncomputable def xk_147 : ys_K := (((yX9_commonMass, cX9_commonMass, 6, (some .long)), (2, 47)), ([.inr (some 0), .inr (some 2), .inl (.inl ([(0, 1)], 0))], ([((-2147483648), 2147483647)] ++ yw_e74, []), xf_147), ([([(1, 9223372036854775807)], [], (xf_147.1, xf_147.2), some (.inl (.inr ([(11, 1)], 0))))], []))
noncomputable def xq_147 : yt_Q := (yz_X9_commonMass, (yl_flX9, yl_ciX9, yl_cjX9, yl_cpX9, yl_cqX9), [(5, ([(0, 9223372036854775807), (0, 40)], [], (xf_147.1, xf_147.2), [(0, .inr (some 0)), (1, .inr (some 2)), (2, .inl (.inl ([(0, 1)], 0))), (3, .inl (.inr ([(11, 1)], 0))), (5, .inl (.inl ([(12, 1)], 0)))], [], ([(12, (-1))], 40)), [], false)], [])
noncomputable def xa_147 : List yt_CE := [(((109, false), (0, false, [0, 2, 3, 4, 5, 6, 7, 8, 9, 10, 1, 11, 12, 13, 14])), (yw_s76, xk_146)), (((113, true), (228, false, [])), (yw_s2, xk_145))]
noncomputable def xT_147 : yt_Tb := fun d => match d with
  | 228 => xP_145
  | _ => fun _ _ _ _ => True
theorem xc_147 {l : Launch} {D : va_G} {cT : Nat → ClassId} {tys : List (ClassId × FieldType)} (hty : yx_Ty tys cT) : yx_C l D cT tys yw_s74 xk_147 := yx_methodT (tb := xT_147) (fun _ _ _ _ => trivial) (calls := xa_147) (Z := xq_147) 300 (by decide +kernel) yz_X9_commonMass_ok hty (yl_lkX9 _) (yl_cqkX9 _) (List.forall_mem_cons.mpr ⟨⟨xc_146 hty, yg_CLv rfl rfl rfl yl_wX9_109 yd_yX9_isWrong⟩, List.forall_mem_cons.mpr ⟨⟨xc_145 hty, yg_CLs yl_wX9_113 yd_yX1_common⟩, fun _ h => absurd h List.not_mem_nil⟩⟩) (by decide +kernel)
noncomputable def yw_s77 : List ys_C := [.inl 9, .inr (1, 40, []), .inr (1, 40, []), .inl 6, .inr (0, 40, []), .inr (0, 40, []), .inr (0, 40, [])]
noncomputable def yw_f77 (n : Nat) : List (List ys_V) := [[.inr (some 7), .inr (some 8), .inr (some 9), .inr (some 10), .inr (some 11), .inr (some 1), .inl (.inl ([(n + 0, 1)], 0)), .inl (.inl ([(n + 1, 1)], 0)), .inl (.inl ([(n + 2, 1)], 0)), .inr (some 2), .inr (some 12), .inr (some 13), .inl (.inl ([(n + 3, 1)], 0)), .inl (.inl ([(n + 4, 1)], 0)), .inl (.inl ([(n + 5, 1)], 0)), .inl (.inr ([(n + 6, 1)], 0)), .inl (.inr ([(n + 7, 1)], 0))], [], [], [.inr (some 4), .inr (some 5), .inr (some 6), .inr (some 14), .inl (.inl ([(n + 8, 1)], 0)), .inl (.inl ([(n + 9, 1)], 0))], [], [], []]
noncomputable def yw_e77 : ys_E := [(0, 40), (0, 12), ((-2147483648), 2147483647), ((-2147483648), 2147483647), ((-2147483648), 2147483647), ((-2147483648), 2147483647), ((-9223372036854775808), 9223372036854775807), ((-9223372036854775808), 9223372036854775807), (0, 40), ((-2147483648), 2147483647)]
noncomputable def yw_r77 : List ys_R := [((0, 0), []), (((-9223372036854775808), 9223372036854775807), []), (((-9223372036854775808), 9223372036854775807), []), ((0, 0), []), (((-300), 300), []), (((-300), 300), []), ((0, 1), [])]
noncomputable def xf_148 : ys_F := (yw_f77 0, yw_r77)
noncomputable def xk_148 : ys_K := (((yX9_reweigh, cX9_reweigh, 24, (some .boolean)), (3, 72)), ([.inr (some 0), .inr (some 3)], ([] ++ yw_e77, []), xf_148), ([([], [([(0, 1)], (-1))], (xf_148.1, xf_148.2), some (.inl (.inl ([], 0)))), ([], [], (xf_148.1, xf_148.2), some (.inl (.inl ([], 1))))], [1, 2]))
noncomputable def xq_148 : yt_Q := (yz_X9_reweigh, (yl_flX9, yl_ciX9, yl_cjX9, yl_cpX9, yl_cqX9), [(90, ([((-9223372036854775808), 9223372036854775807), ((-9223372036854775808), 9223372036854775807), (1, 9223372036854775807), (1, 9223372036854775807), (1, 9223372036854775807), (0, 40)], [], (xf_148.1, xf_148.2), [(0, .inr (some 0)), (1, .inr (some 3)), (4, .inl (.inr ([(10, 1)], 0))), (6, .inl (.inr ([(11, 1)], 0))), (12, .inl (.inr ([(12, 1)], 0))), (14, .inl (.inr ([(13, 1)], 0))), (16, .inl (.inr ([(14, 1)], 0))), (18, .inl (.inl ([(15, 1)], 0)))], [], ([(15, (-1))], 40)), [], false)], [])
noncomputable def xa_148 : List yt_CE := [(((113, true), (228, false, [])), (yw_s2, xk_145)), (((124, false), (0, false, [0, 1, 3, 4, 5, 6, 7, 8, 9, 10, 11, 2, 12, 13, 14])), (yw_s74, xk_147)), (((109, false), (0, false, [0, 3, 4, 5, 6, 7, 8, 9, 10, 11, 1, 2, 12, 13, 14])), (yw_s76, xk_146))]
noncomputable def xT_148 : yt_Tb := fun d => match d with
  | 228 => xP_145
  | _ => fun _ _ _ _ => True
theorem xc_148 {l : Launch} {D : va_G} {cT : Nat → ClassId} {tys : List (ClassId × FieldType)} (hty : yx_Ty tys cT) : yx_C l D cT tys yw_s77 xk_148 := yx_methodT (tb := xT_148) (fun _ _ _ _ => trivial) (calls := xa_148) (Z := xq_148) 300 (by decide +kernel) yz_X9_reweigh_ok hty (yl_lkX9 _) (yl_cqkX9 _) (List.forall_mem_cons.mpr ⟨⟨xc_145 hty, yg_CLs yl_wX9_113 yd_yX1_common⟩, List.forall_mem_cons.mpr ⟨⟨xc_147 hty, yg_CLv rfl rfl rfl yl_wX9_124 yd_yX9_commonMass⟩, List.forall_mem_cons.mpr ⟨⟨xc_146 hty, yg_CLv rfl rfl rfl yl_wX9_109 yd_yX9_isWrong⟩, fun _ h => absurd h List.not_mem_nil⟩⟩⟩) (by decide +kernel)
noncomputable def yw_s78 : List ys_C := [.inl 9, .inr (0, 12, []), .inr (0, 12, []), .inr (0, 12, []), .inr (1, 12, []), .inr (1, 12, []), .inr (1, 40, []), .inr (1, 40, []), .inl 6, .inr (0, 40, []), .inr (0, 40, []), .inr (0, 40, [])]
noncomputable def yw_f78 (n : Nat) : List (List ys_V) := [[.inr (some 1), .inr (some 2), .inr (some 3), .inr (some 4), .inr (some 5), .inr (some 6), .inl (.inl ([(n + 0, 1)], 0)), .inl (.inl ([(n + 1, 1)], 0)), .inl (.inl ([(n + 2, 1)], 0)), .inr (some 7), .inr (some 12), .inr (some 13), .inl (.inl ([(n + 3, 1)], 0)), .inl (.inl ([(n + 4, 1)], 0)), .inl (.inl ([(n + 5, 1)], 0)), .inl (.inr ([(n + 6, 1)], 0)), .inl (.inr ([(n + 7, 1)], 0))], [], [], [], [], [], [], [], [.inr (some 9), .inr (some 10), .inr (some 11), .inr (some 14), .inl (.inl ([(n + 8, 1)], 0)), .inl (.inl ([(n + 9, 1)], 0))], [], [], []]
noncomputable def yw_e78 : ys_E := [(0, 40), (0, 12), ((-2147483648), 2147483647), ((-2147483648), 2147483647), ((-2147483648), 2147483647), ((-2147483648), 2147483647), ((-9223372036854775808), 9223372036854775807), ((-9223372036854775808), 9223372036854775807), (0, 40), ((-2147483648), 2147483647)]
noncomputable def yw_r78 : List ys_R := [((0, 0), []), (((-2147483648), 2147483647), []), (((-2147483648), 2147483647), []), (((-2147483648), 2147483647), []), (((-9223372036854775808), 9223372036854775807), []), (((-9223372036854775808), 9223372036854775807), []), (((-9223372036854775808), 9223372036854775807), []), (((-9223372036854775808), 9223372036854775807), []), ((0, 0), []), (((-300), 300), []), (((-300), 300), []), ((0, 1), [])]
noncomputable def xf_149 : ys_F := (yw_f78 0, yw_r78)
noncomputable def xk_149 : ys_K := (((yX9_playRound, cX9_playRound, 2, none), (4, 115)), ([.inr (some 0), .inr (some 8)], ([] ++ yw_e78, []), xf_149), ([([(0, 12), ((-2147483648), 2147483647), ((-2147483648), 2147483647), ((-2147483648), 2147483647), ((-2147483648), 2147483647), ((-9223372036854775808), 9223372036854775807), ((-9223372036854775808), 9223372036854775807)], [], ((ys_fs xf_149.1 [(0, 7, .inl (.inl ([(10, 1)], 0))), (0, 8, .inl (.inl ([(11, 1)], 0))), (0, 12, .inl (.inl ([(12, 1)], 0))), (0, 13, .inl (.inl ([(13, 1)], 0))), (0, 14, .inl (.inl ([(14, 1)], 0))), (0, 15, .inl (.inr ([(15, 1)], 0))), (0, 16, .inl (.inr ([(16, 1)], 0)))]), xf_149.2), none)], [1, 2, 3, 4, 5, 6, 7]))
noncomputable def xq_149 : yt_Q := (yz_X9_playRound, (yl_flX9, yl_ciX9, yl_cjX9, yl_cpX9, yl_cqX9), [], [])
noncomputable def xa_149 : List yt_CE := [(((76, false), (0, false, [0, 6, 8, 9, 10, 11, 1, 2, 3, 4, 5, 7, 12, 13, 14])), (yw_s74, xk_143)), (((79, false), (0, false, [0, 1, 2, 3, 4, 5, 6, 7, 12, 13])), (yw_s75, xk_144)), (((84, false), (0, false, [0, 6, 7, 8, 9, 10, 11, 1, 2, 3, 4, 5, 12, 13, 14])), (yw_s77, xk_148))]
theorem xc_149 {l : Launch} {D : va_G} {cT : Nat → ClassId} {tys : List (ClassId × FieldType)} (hty : yx_Ty tys cT) : yx_C l D cT tys yw_s78 xk_149 := yx_method (calls := xa_149) (Z := xq_149) 300 (by decide +kernel) yz_X9_playRound_ok hty (yl_lkX9 _) (yl_cqkX9 _) (List.forall_mem_cons.mpr ⟨⟨xc_143 hty, yg_CLv rfl rfl rfl yl_wX9_76 yd_yX9_choose⟩, List.forall_mem_cons.mpr ⟨⟨xc_144 hty, yg_CLv rfl rfl rfl yl_wX9_79 yd_yX9_keepChosen⟩, List.forall_mem_cons.mpr ⟨⟨xc_148 hty, yg_CLv rfl rfl rfl yl_wX9_84 yd_yX9_reweigh⟩, fun _ h => absurd h List.not_mem_nil⟩⟩⟩) (by decide +kernel)
noncomputable def yw_s79 : List ys_C := [.inl 9, .inr (0, 12, []), .inr (0, 12, []), .inr (0, 12, []), .inr (1, 12, []), .inr (1, 12, []), .inr (1, 40, []), .inr (1, 40, []), .inl 6, .inr (0, 40, []), .inr (0, 40, []), .inr (0, 40, []), .inr (0, 40, [])]
noncomputable def yw_f79 (n : Nat) : List (List ys_V) := [[.inr (some 1), .inr (some 2), .inr (some 3), .inr (some 4), .inr (some 5), .inr (some 6), .inl (.inl ([(n + 0, 1)], 0)), .inl (.inl ([(n + 1, 1)], 0)), .inl (.inl ([(n + 2, 1)], 0)), .inr (some 7), .inr (some 13), .inr (some 14), .inl (.inl ([(n + 3, 1)], 0)), .inl (.inl ([(n + 4, 1)], 0)), .inl (.inl ([(n + 5, 1)], 0)), .inl (.inr ([(n + 6, 1)], 0)), .inl (.inr ([(n + 7, 1)], 0))], [], [], [], [], [], [], [], [.inr (some 9), .inr (some 10), .inr (some 11), .inr (some 12), .inl (.inl ([(n + 8, 1)], 0)), .inl (.inl ([(n + 9, 1)], 0))], [], [], [], []]
noncomputable def yw_e79 : ys_E := [(0, 40), (0, 12), ((-2147483648), 2147483647), ((-2147483648), 2147483647), ((-2147483648), 2147483647), ((-2147483648), 2147483647), ((-9223372036854775808), 9223372036854775807), ((-9223372036854775808), 9223372036854775807), (0, 40), ((-2147483648), 2147483647)]
noncomputable def yw_r79 : List ys_R := [((0, 0), []), (((-2147483648), 2147483647), []), (((-2147483648), 2147483647), []), (((-2147483648), 2147483647), []), (((-9223372036854775808), 9223372036854775807), []), (((-9223372036854775808), 9223372036854775807), []), (((-9223372036854775808), 9223372036854775807), []), (((-9223372036854775808), 9223372036854775807), []), ((0, 0), []), (((-300), 300), []), (((-300), 300), []), ((0, 1), []), ((0, 1000), [])]
noncomputable def xf_150 : ys_F := (yw_f79 1, yw_r79)
noncomputable def xk_150 : ys_K := (((yX9_make, cX9_make, 4, none), (5, 136)), ([.inr (some 0), .inr (some 8), .inl (.inl ([(0, 1)], 0))], ([(0, 39)] ++ yw_e79, []), xf_150), ([([(0, 12), ((-2147483648), 2147483647), ((-2147483648), 2147483647), ((-2147483648), 2147483647), ((-2147483648), 2147483647), ((-9223372036854775808), 9223372036854775807), ((-9223372036854775808), 9223372036854775807)], [], ((ys_fs xf_150.1 [(0, 6, .inl (.inl ([(9, 1)], 0))), (0, 7, .inl (.inl ([(11, 1)], 0))), (0, 8, .inl (.inl ([(12, 1)], 0))), (0, 12, .inl (.inl ([(13, 1)], 0))), (0, 13, .inl (.inl ([(14, 1)], 0))), (0, 14, .inl (.inl ([(15, 1)], 0))), (0, 15, .inl (.inr ([(16, 1)], 0))), (0, 16, .inl (.inr ([(17, 1)], 0)))]), xf_150.2), none)], [1, 2, 3, 4, 5, 6, 7]))
noncomputable def xq_150 : yt_Q := (yz_X9_make, (yl_flX9, yl_ciX9, yl_cjX9, yl_cpX9, yl_cqX9), [(10, ([(0, 40)], [], ((ys_fs xf_150.1 [(0, 6, .inl (.inl ([(9, 1)], 0)))]), xf_150.2), [(0, .inr (some 0)), (1, .inr (some 8)), (2, .inl (.inl ([(0, 1)], 0))), (3, .inl (.inl ([(11, 1)], 0)))], [], ([(11, (-1))], 81)), [], false), (49, ([(0, 39), (0, 12), ((-2147483648), 2147483647), ((-2147483648), 2147483647), ((-2147483648), 2147483647), ((-2147483648), 2147483647), ((-9223372036854775808), 9223372036854775807), ((-9223372036854775808), 9223372036854775807)], [], ((ys_fs xf_150.1 [(0, 6, .inl (.inl ([(9, 1)], 0))), (0, 7, .inl (.inl ([(12, 1)], 0))), (0, 8, .inl (.inl ([(13, 1)], 0))), (0, 12, .inl (.inl ([(14, 1)], 0))), (0, 13, .inl (.inl ([(15, 1)], 0))), (0, 14, .inl (.inl ([(16, 1)], 0))), (0, 15, .inl (.inr ([(17, 1)], 0))), (0, 16, .inl (.inr ([(18, 1)], 0)))]), xf_150.2), [(0, .inr (some 0)), (1, .inr (some 8)), (2, .inl (.inl ([(0, 1)], 0))), (3, .inl (.inl ([(11, 1)], 0)))], [], ([(11, (-1))], 39)), [], false)], [])
noncomputable def xa_150 : List yt_CE := [(((72, false), (0, false, [0, 1, 2, 3, 4, 5, 6, 7, 8, 9, 10, 11, 13, 14, 12])), (yw_s78, xk_149))]
theorem xc_150 {l : Launch} {D : va_G} {cT : Nat → ClassId} {tys : List (ClassId × FieldType)} (hty : yx_Ty tys cT) : yx_C l D cT tys yw_s79 xk_150 := yx_method (calls := xa_150) (Z := xq_150) 300 (by decide +kernel) yz_X9_make_ok hty (yl_lkX9 _) (yl_cqkX9 _) (List.forall_mem_cons.mpr ⟨⟨xc_149 hty, yg_CLv rfl rfl rfl yl_wX9_72 yd_yX9_playRound⟩, fun _ h => absurd h List.not_mem_nil⟩) (by decide +kernel)
noncomputable def yw_s80 : List ys_C := [.inl 11, .inl 6, .inr (0, 40, []), .inr (0, 40, []), .inr (0, 40, []), .inr (0, 40, []), .inl 9, .inr (0, 12, []), .inr (0, 12, []), .inr (0, 12, []), .inr (1, 12, []), .inr (1, 12, []), .inr (1, 40, []), .inr (1, 40, [])]
noncomputable def yw_f80 (n : Nat) : List (List ys_V) := [[.inr (some 1), .inr (some 14), .inr (some 15), .inr (some 16), .inr (some 17), .inr (some 18), .inr (some 19), .inr (some 20), .inr (some 21), .inr (some 22), .inr (some 23), .inr (some 6), .inr (some 26), .inr (some 27), .inl (.inl ([(n + 0, 1)], 0))], [.inr (some 2), .inr (some 3), .inr (some 4), .inr (some 5), .inl (.inl ([(n + 1, 1)], 0)), .inl (.inl ([(n + 2, 1)], 0))], [], [], [], [], [.inr (some 7), .inr (some 8), .inr (some 9), .inr (some 10), .inr (some 11), .inr (some 12), .inl (.inl ([(n + 3, 1)], 0)), .inl (.inl ([(n + 4, 1)], 0)), .inl (.inl ([(n + 5, 1)], 0)), .inr (some 13), .inr (some 24), .inr (some 25), .inl (.inl ([(n + 6, 1)], 0)), .inl (.inl ([(n + 7, 1)], 0)), .inl (.inl ([(n + 8, 1)], 0)), .inl (.inr ([(n + 9, 1)], 0)), .inl (.inr ([(n + 10, 1)], 0))], [], [], [], [], [], [], []]
noncomputable def yw_e80 : ys_E := [((-2147483648), 2147483647), (0, 40), ((-2147483648), 2147483647), (0, 40), (0, 12), ((-2147483648), 2147483647), ((-2147483648), 2147483647), ((-2147483648), 2147483647), ((-2147483648), 2147483647), ((-9223372036854775808), 9223372036854775807), ((-9223372036854775808), 9223372036854775807)]
noncomputable def yw_r80 : List ys_R := [((0, 0), []), ((0, 0), []), (((-300), 300), []), (((-300), 300), []), ((0, 1), []), ((0, 1000), []), ((0, 0), []), (((-2147483648), 2147483647), []), (((-2147483648), 2147483647), []), (((-2147483648), 2147483647), []), (((-9223372036854775808), 9223372036854775807), []), (((-9223372036854775808), 9223372036854775807), []), (((-9223372036854775808), 9223372036854775807), []), (((-9223372036854775808), 9223372036854775807), [])]
noncomputable def xf_151 : ys_F := (yw_f80 1, yw_r80)
noncomputable def xk_151 : ys_K := (((yX11_strong, cX11_strong, 2, (some .int)), (6, 159)), ([.inr (some 0), .inl (.inl ([(0, 1)], 0))], ([((-2147483648), 2147483647)] ++ yw_e80, []), xf_151), ([([((-6), 12), ((-2147483648), 0), (0, 40), (0, 12), ((-2147483648), 2147483647), ((-2147483648), 2147483647), ((-2147483648), 2147483647), ((-2147483648), 2147483647), ((-9223372036854775808), 9223372036854775807), ((-9223372036854775808), 9223372036854775807)], [], ((ys_fs xf_151.1 [(0, 14, .inl (.inl ([(13, 1)], 0))), (6, 6, .inl (.inl ([(14, 1)], 0))), (6, 7, .inl (.inl ([(15, 1)], 0))), (6, 8, .inl (.inl ([(16, 1)], 0))), (6, 12, .inl (.inl ([(17, 1)], 0))), (6, 13, .inl (.inl ([(18, 1)], 0))), (6, 14, .inl (.inl ([(19, 1)], 0))), (6, 15, .inl (.inr ([(20, 1)], 0))), (6, 16, .inl (.inr ([(21, 1)], 0)))]), xf_151.2), some (.inl (.inl ([(12, 1)], 0))))], [7, 8, 9, 10, 11, 12, 13]))
noncomputable def xq_151 : yt_Q := (yz_X11_strong, (yl_flX11, yl_ciX11, yl_cjX11, yl_cpX11, yl_cqX11), [], [])
noncomputable def xa_151 : List yt_CE := [(((107, false), (0, false, [0, 1, 14, 15, 16, 17, 18, 19, 20, 21, 22, 23, 6, 26, 27])), (yw_s3, xk_3)), (((319, false), (0, false, [6, 7, 8, 9, 10, 11, 12, 13, 1, 2, 3, 4, 5, 24, 25])), (yw_s79, xk_150))]
theorem xc_151 {l : Launch} {D : va_G} {cT : Nat → ClassId} {tys : List (ClassId × FieldType)} (hty : yx_Ty tys cT) : yx_C l D cT tys yw_s80 xk_151 := yx_method (calls := xa_151) (Z := xq_151) 300 (by decide +kernel) yz_X11_strong_ok hty (yl_lkX11 _) (yl_cqkX11 _) (List.forall_mem_cons.mpr ⟨⟨xc_3 hty, yg_CLv rfl rfl rfl yl_wX11_107 yd_yX11_told⟩, List.forall_mem_cons.mpr ⟨⟨xc_150 hty, yg_CLv rfl rfl rfl yl_wX11_319 yd_yX9_make⟩, fun _ h => absurd h List.not_mem_nil⟩⟩) (by decide +kernel)
noncomputable def xf_152 : ys_F := (yw_f27 2, yw_r27)
noncomputable def xk_152 : ys_K := (((yX8_hasEveryX, cX8_hasEveryX, 3, (some .boolean)), (0, 0)), ([.inr (some 0), .inl (.inl ([(0, 1)], 0)), .inl (.inl ([(1, 1)], 0))], ([((-2147483648), 2147483647), (0, 40)] ++ yw_e27, []), xf_152), ([([], [([(0, (-1))], (-1))], (xf_152.1, xf_152.2), some (.inl (.inl ([], 0)))), ([], [([(0, 1)], 0), ([(4, (-1)), (0, 1), (1, 2)], (-2))], (xf_152.1, xf_152.2), some (.inl (.inl ([], 0)))), ([], [([(0, 1)], 0), ([(0, (-1))], 101), ([(4, 1), (0, (-1)), (1, (-2))], 1)], (xf_152.1, xf_152.2), some (.inl (.inl ([], 1))))], []))
noncomputable def xq_152 : yt_Q := (yz_X8_hasEveryX, (yl_flX8, yl_ciX8, yl_cjX8, yl_cpX8, yl_cqX8), [], [])
noncomputable def xa_152 : List yt_CE := []
theorem xc_152 {l : Launch} {D : va_G} {cT : Nat → ClassId} {tys : List (ClassId × FieldType)} (hty : yx_Ty tys cT) : yx_C l D cT tys yw_s27 xk_152 := yx_method (calls := xa_152) (Z := xq_152) 300 (by decide +kernel) yz_X8_hasEveryX_ok hty (yl_lkX8 _) (yl_cqkX8 _) (fun _ h => absurd h List.not_mem_nil) (by decide +kernel)
noncomputable def xf_153 : ys_F := (yw_f28 1, yw_r28)
noncomputable def xk_153 : ys_K := (((yX8_numberOrZero, cX8_numberOrZero, 2, (some .long)), (1, 21)), ([.inr (some 0), .inl (.inl ([(0, 1)], 0))], ([((-2147483648), 2147483647)] ++ yw_e28, []), xf_153), ([([((-9223372036854775808), 9223372036854775807)], [], (xf_153.1, xf_153.2), some (.inl (.inr ([(4, 1)], 0))))], []))
noncomputable def xq_153 : yt_Q := (yz_X8_numberOrZero, (yl_flX8, yl_ciX8, yl_cjX8, yl_cpX8, yl_cqX8), [], [true])
noncomputable def xa_153 : List yt_CE := [(((54, false), (0, false, [0, 1])), (yw_s27, xk_128))]
noncomputable def xv_153 : List (List yt_VC) := [[(1000, ([((-2147483648), (-1)), (0, 1), ((-2147483648), 2147483647), (0, 100)], []), [([], 0)], [], []),
   (1000, ([(0, 2147483647), (0, 1), ((-2147483648), 2147483647), (0, 100)], [([(3, (-1)), (0, 1)], 0)]), [([], 0)], [], []),
   (1000, ([(0, 99), (0, 1), ((-2147483648), 2147483647), (1, 100), ((-9223372036854775808), 9223372036854775807)], [([(3, 1), (0, (-1))], (-1))]), [([(4, 1)], 0)], [], [.inl (.inl (1, ([(0, 1)], 0), 4))])]]
noncomputable def xG_153 : Nat → yt_G → (Nat → Int) → yt_G → Prop
  | _, _, _, _ => True
noncomputable def xP_153 : yt_Ph
  | 0, r, g0, g => (r 4) = yq_nz (g0 1) (r 3) (r 0)
  | _, _, _, _ => True
noncomputable def xR_153 : yt_Ps := fun r g0 => True
noncomputable def xT_153 : yt_Tb := fun d => match d with
  | _ => fun _ _ _ _ => True
noncomputable def xU_153 : Nat → yt_Ps := fun d => match d with
  | _ => fun _ _ => True
theorem xw_153_0_0 : yt_hold xT_153 xk_153 xq_153.2.2.1 xG_153 xP_153 xU_153 4 xk_153.2.1.2.2.2 (fun g0 r g => xR_153 r g0 ∧ g = g0) (1000, ([((-2147483648), (-1)), (0, 1), ((-2147483648), 2147483647), (0, 100)], []), [([], 0)], [], []) := by
  intro g0 r gi g hok hh hars hfr hG
  have b0 : (-2147483648) ≤ r 0 ∧ r 0 ≤ (-1) := hok.1 0 ((-2147483648), (-1)) rfl
  have b3 : 0 ≤ r 3 ∧ r 3 ≤ 100 := hok.1 3 (0, 100) rfl
  obtain ⟨hG, hgi⟩ := hG
  have hG : True := hG
  have hh : g = gi := hh
  subst hh
  refine yt_dalt (by decide) (by decide) ?_
  rw [show xk_153.2.1.2.1.1.length = 4 from rfl]
  show ((0 : Int) + 0) = yq_nz (g0 1) ((1 * r 3 + 0) + 0) ((1 * r 0 + 0) + 0)
  try simp only [Int.one_mul, Int.zero_add, Int.add_zero]
  unfold yq_nz
  rw [if_neg (by omega)]
theorem xw_153_0_1 : yt_hold xT_153 xk_153 xq_153.2.2.1 xG_153 xP_153 xU_153 4 xk_153.2.1.2.2.2 (fun g0 r g => xR_153 r g0 ∧ g = g0) (1000, ([(0, 2147483647), (0, 1), ((-2147483648), 2147483647), (0, 100)], [([(3, (-1)), (0, 1)], 0)]), [([], 0)], [], []) := by
  intro g0 r gi g hok hh hars hfr hG
  have b0 : 0 ≤ r 0 ∧ r 0 ≤ 2147483647 := hok.1 0 (0, 2147483647) rfl
  have b3 : 0 ≤ r 3 ∧ r 3 ≤ 100 := hok.1 3 (0, 100) rfl
  have f0 : 0 ≤ (((-1) * r 3 + (1 * r 0 + 0)) + 0) := hok.2 _ (List.mem_of_getElem? (i := 0) rfl)
  obtain ⟨hG, hgi⟩ := hG
  have hG : True := hG
  have hh : g = gi := hh
  subst hh
  refine yt_dalt (by decide) (by decide) ?_
  rw [show xk_153.2.1.2.1.1.length = 4 from rfl]
  show ((0 : Int) + 0) = yq_nz (g0 1) ((1 * r 3 + 0) + 0) ((1 * r 0 + 0) + 0)
  try simp only [Int.one_mul, Int.zero_add, Int.add_zero]
  unfold yq_nz
  rw [if_neg (by omega)]
theorem xw_153_0_2 : yt_hold xT_153 xk_153 xq_153.2.2.1 xG_153 xP_153 xU_153 4 xk_153.2.1.2.2.2 (fun g0 r g => xR_153 r g0 ∧ g = g0) (1000, ([(0, 99), (0, 1), ((-2147483648), 2147483647), (1, 100), ((-9223372036854775808), 9223372036854775807)], [([(3, 1), (0, (-1))], (-1))]), [([(4, 1)], 0)], [], [.inl (.inl (1, ([(0, 1)], 0), 4))]) := by
  intro g0 r gi g hok hh hars hfr hG
  have b0 : 0 ≤ r 0 ∧ r 0 ≤ 99 := hok.1 0 (0, 99) rfl
  have b3 : 1 ≤ r 3 ∧ r 3 ≤ 100 := hok.1 3 (1, 100) rfl
  have b4 : (-9223372036854775808) ≤ r 4 ∧ r 4 ≤ 9223372036854775807 := hok.1 4 ((-9223372036854775808), 9223372036854775807) rfl
  have f0 : 0 ≤ ((1 * r 3 + ((-1) * r 0 + 0)) + (-1)) := hok.2 _ (List.mem_of_getElem? (i := 0) rfl)
  obtain ⟨hG, hgi⟩ := hG
  have hG : True := hG
  obtain ⟨g0, hh, q0, e0⟩ := hh
  subst q0
  have e0 : r 4 = g 1 (((1 * r 0 + 0) + 0)).toNat := e0
  rw [show (((1 * r 0 + 0) + 0)).toNat = (r 0).toNat by omega] at e0
  have hh : g = gi := hh
  subst hh
  refine yt_dalt (by decide) (by decide) ?_
  rw [show xk_153.2.1.2.1.1.length = 4 from rfl]
  show ((1 * r 4 + 0) + 0) = yq_nz (g0 1) ((1 * r 3 + 0) + 0) ((1 * r 0 + 0) + 0)
  try simp only [Int.one_mul, Int.zero_add, Int.add_zero]
  rw [hgi] at e0
  unfold yq_nz
  rw [if_pos (by omega), ← e0]
theorem xn_153 : ∀ (j : Nat) (q : Nat × yt_T), xq_153.2.2.1[j]? = some q → q.2.2.2 = false → ∀ g0 r g, xG_153 j g0 r g
  | n + 0, q, hq, _ => by cases hq
theorem xs_153 : ∀ j, xq_153.2.2.2.getD j false = false → ∀ r g g', xP_153 j r g g'
  | 0, hf => by cases hf
  | n + 1, _ => fun _ _ _ => trivial
theorem xc_153 {l : Launch} {D : va_G} {cT : Nat → ClassId} {tys : List (ClassId × FieldType)} (hty : yx_Ty tys cT) : yt_Con l D vwCl cT tys yG yw_s28 xk_153 xR_153 xP_153 := yx_sem (calls := xa_153) (Z := xq_153) (tb := xT_153) (pt := xU_153) (Ga := xG_153) (vs := xv_153) (fun _ _ _ _ => trivial) 300 (by decide +kernel) yz_X8_numberOrZero_ok hty (yl_lkX8 _) (yl_cqkX8 _) (List.forall_mem_cons.mpr ⟨⟨xc_128 hty, yg_CLv rfl rfl rfl yl_wX8_54 yd_yX8_has, fun _ _ _ => trivial⟩, fun _ h => absurd h List.not_mem_nil⟩) (xn_153) (xs_153) (by decide +kernel) (List.forall_mem_cons.mpr ⟨xw_153_0_0, List.forall_mem_cons.mpr ⟨xw_153_0_1, List.forall_mem_cons.mpr ⟨xw_153_0_2, fun _ h => absurd h List.not_mem_nil⟩⟩⟩) (trivial)
noncomputable def xf_154 : ys_F := (yw_f28 2, yw_r28)
noncomputable def xk_154 : ys_K := (((yX8_hasNearPlaces, cX8_hasNearPlaces, 4, (some .boolean)), (2, 42)), ([.inr (some 0), .inl (.inl ([(0, 1)], 0)), .inl (.inl ([(1, 1)], 0))], ([(0, 100), (0, 100)] ++ yw_e28, []), xf_154), ([([], [([(1, 2), (0, 1)], (-1))], (xf_154.1, xf_154.2), some (.inl (.inl ([], 0)))), ([], [], (xf_154.1, xf_154.2), some (.inl (.inl ([], 1))))], []))
noncomputable def xq_154 : yt_Q := (yz_X8_hasNearPlaces, (yl_flX8, yl_ciX8, yl_cjX8, yl_cpX8, yl_cqX8), [(2, ([(0, 4000)], [], (xf_154.1, xf_154.2), [(0, .inr (some 0)), (1, .inl (.inl ([(0, 1)], 0))), (2, .inl (.inl ([(1, 1)], 0))), (3, .inl (.inl ([(5, 1)], 0)))], [], ([(5, (-1))], 4000)), [], true)], [true, true])
noncomputable def xa_154 : List yt_CE := [(((44, false), (119, false, [0, 1])), (yw_s28, xk_153)), (((48, true), (0, false, [])), (yw_s2, xk_125))]
noncomputable def xv_154 : List (List yt_VC) := [[(0, ([(0, 100), (0, 100), (0, 1), ((-2147483648), 2147483647), (0, 100)], []), [([(0, 1)], 0)], [], [])],
  [(1001, ([(0, 100), (0, 100), (0, 1), ((-2147483648), 2147483647), (0, 100), (0, 4000)], [([(1, (-2)), (0, (-1)), (5, 1)], 0)]), [], [], []),
   (1000, ([(0, 100), (0, 100), (0, 1), ((-2147483648), 2147483647), (0, 100), (0, 299), ((-9223372036854775808), (-301))], [([(1, 2), (0, 1), (5, (-1))], (-1))]), [], [], [.inr (.inr (.inl (119, 0, [([(5, 1)], 0), ([(2, 1)], 0), ([(3, 1)], 0), ([(4, 1)], 0), ([(6, 1)], 0)], [0, 1], [])))]),
   (1000, ([(0, 100), (0, 100), (0, 1), ((-2147483648), 2147483647), (0, 100), (0, 299), (301, 9223372036854775807)], [([(1, 2), (0, 1), (5, (-1))], (-1))]), [], [], [.inr (.inr (.inl (119, 0, [([(5, 1)], 0), ([(2, 1)], 0), ([(3, 1)], 0), ([(4, 1)], 0), ([(6, 1)], 0)], [0, 1], [])))]),
   (0, ([(0, 100), (0, 100), (0, 1), ((-2147483648), 2147483647), (0, 100), (0, 299), ((-300), 300)], [([(1, 2), (0, 1), (5, (-1))], (-1))]), [([(5, 1)], 1)], [], [.inr (.inr (.inl (119, 0, [([(5, 1)], 0), ([(2, 1)], 0), ([(3, 1)], 0), ([(4, 1)], 0), ([(6, 1)], 0)], [0, 1], [])))])]]
noncomputable def xG_154 : Nat → yt_G → (Nat → Int) → yt_G → Prop
  | 0, g0, r, g => yq_nr (g0 1) (r 0) (r 4) (((1 * (r 5) + 0) + 0) - (r 0)).toNat = 1 ∧ (r 0) ≤ ((1 * (r 5) + 0) + 0) ∧ ((1 * (r 5) + 0) + 0) ≤ (r 0) + 2 * (r 1)
  | _, _, _, _ => True
noncomputable def xP_154 : yt_Ph
  | 0, r, g0, g => yq_nr (g0 1) (r 0) (r 4) (2 * (r 1)).toNat = 0
  | 1, r, g0, g => yq_nr (g0 1) (r 0) (r 4) (2 * (r 1)).toNat = 1
  | _, _, _, _ => True
noncomputable def xR_154 : yt_Ps := fun r g0 => True
noncomputable def xT_154 : yt_Tb := fun d => match d with
  | 119 => xP_153
  | _ => fun _ _ _ _ => True
noncomputable def xU_154 : Nat → yt_Ps := fun d => match d with
  | 119 => xR_153
  | _ => fun _ _ => True
theorem xw_154_0_0 : yt_hold xT_154 xk_154 xq_154.2.2.1 xG_154 xP_154 xU_154 5 xk_154.2.1.2.2.2 (fun g0 r g => xR_154 r g0 ∧ g = g0) (0, ([(0, 100), (0, 100), (0, 1), ((-2147483648), 2147483647), (0, 100)], []), [([(0, 1)], 0)], [], []) := by
  intro g0 r gi g hok hh hars hfr hG
  have b0 : 0 ≤ r 0 ∧ r 0 ≤ 100 := hok.1 0 (0, 100) rfl
  have b1 : 0 ≤ r 1 ∧ r 1 ≤ 100 := hok.1 1 (0, 100) rfl
  have b4 : 0 ≤ r 4 ∧ r 4 ≤ 100 := hok.1 4 (0, 100) rfl
  obtain ⟨hG, hgi⟩ := hG
  have hG : True := hG
  have hh : g = gi := hh
  subst hh
  refine yt_dcut (by decide) rfl ?_ ?_
  · exact fun f hf => absurd hf List.not_mem_nil
  · rw [show xk_154.2.1.2.1.1.length = 5 from rfl]
    show yq_nr (g0 1) ((1 * r 0 + 0) + 0) ((1 * r 4 + 0) + 0) (((1 * ((1 * r 0 + 0) + 0) + 0) + 0) - ((1 * r 0 + 0) + 0)).toNat = 1 ∧ ((1 * r 0 + 0) + 0) ≤ ((1 * ((1 * r 0 + 0) + 0) + 0) + 0) ∧ ((1 * ((1 * r 0 + 0) + 0) + 0) + 0) ≤ ((1 * r 0 + 0) + 0) + 2 * ((1 * r 1 + 0) + 0)
    try simp only [Int.one_mul, Int.zero_add, Int.add_zero]
    exact ⟨yq_nr_0 (by omega), by omega, by omega⟩
theorem xw_154_1_0 : yt_hold xT_154 xk_154 xq_154.2.2.1 xG_154 xP_154 xU_154 6 ((xq_154.2.2.1.getD 0 (0, ([], [], ([], []), [], [], ([], 0)), [], false)).2.1.2.2.1.2) (xG_154 0) (1001, ([(0, 100), (0, 100), (0, 1), ((-2147483648), 2147483647), (0, 100), (0, 4000)], [([(1, (-2)), (0, (-1)), (5, 1)], 0)]), [], [], []) := by
  intro g0 r gi g hok hh hars hfr hG
  have b0 : 0 ≤ r 0 ∧ r 0 ≤ 100 := hok.1 0 (0, 100) rfl
  have b1 : 0 ≤ r 1 ∧ r 1 ≤ 100 := hok.1 1 (0, 100) rfl
  have b4 : 0 ≤ r 4 ∧ r 4 ≤ 100 := hok.1 4 (0, 100) rfl
  have b5 : 0 ≤ r 5 ∧ r 5 ≤ 4000 := hok.1 5 (0, 4000) rfl
  have f0 : 0 ≤ (((-2) * r 1 + ((-1) * r 0 + (1 * r 5 + 0))) + 0) := hok.2 _ (List.mem_of_getElem? (i := 0) rfl)
  have hG : yq_nr (g0 1) (r 0) (r 4) (((1 * (r 5) + 0) + 0) - (r 0)).toNat = 1 ∧ (r 0) ≤ ((1 * (r 5) + 0) + 0) ∧ ((1 * (r 5) + 0) + 0) ≤ (r 0) + 2 * (r 1) := hG
  have hh : g = gi := hh
  subst hh
  have hG : yq_nr (g0 1) (r 0) (r 4) (((1 * (r 5) + 0) + 0) - (r 0)).toNat = 1 ∧ (r 0) ≤ ((1 * (r 5) + 0) + 0) ∧ ((1 * (r 5) + 0) + 0) ≤ (r 0) + 2 * (r 1) := hG
  refine yt_dalt (by decide) (by decide) ?_
  rw [show xk_154.2.1.2.1.1.length = 5 from rfl]
  show yq_nr (g0 1) ((1 * r 0 + 0) + 0) ((1 * r 4 + 0) + 0) (2 * ((1 * r 1 + 0) + 0)).toNat = 1
  try simp only [Int.one_mul, Int.zero_add, Int.add_zero]
  try simp only [Int.one_mul, Int.zero_add, Int.add_zero] at hG
  obtain ⟨a1, a2, a3⟩ := hG
  rw [show (r 5 - r 0).toNat = (2 * r 1).toNat by omega] at a1
  exact a1
theorem xw_154_1_1 : yt_hold xT_154 xk_154 xq_154.2.2.1 xG_154 xP_154 xU_154 6 ((xq_154.2.2.1.getD 0 (0, ([], [], ([], []), [], [], ([], 0)), [], false)).2.1.2.2.1.2) (xG_154 0) (1000, ([(0, 100), (0, 100), (0, 1), ((-2147483648), 2147483647), (0, 100), (0, 299), ((-9223372036854775808), (-301))], [([(1, 2), (0, 1), (5, (-1))], (-1))]), [], [], [.inr (.inr (.inl (119, 0, [([(5, 1)], 0), ([(2, 1)], 0), ([(3, 1)], 0), ([(4, 1)], 0), ([(6, 1)], 0)], [0, 1], [])))]) := by
  intro g0 r gi g hok hh hars hfr hG
  have b0 : 0 ≤ r 0 ∧ r 0 ≤ 100 := hok.1 0 (0, 100) rfl
  have b1 : 0 ≤ r 1 ∧ r 1 ≤ 100 := hok.1 1 (0, 100) rfl
  have b4 : 0 ≤ r 4 ∧ r 4 ≤ 100 := hok.1 4 (0, 100) rfl
  have b5 : 0 ≤ r 5 ∧ r 5 ≤ 299 := hok.1 5 (0, 299) rfl
  have b6 : (-9223372036854775808) ≤ r 6 ∧ r 6 ≤ (-301) := hok.1 6 ((-9223372036854775808), (-301)) rfl
  have f0 : 0 ≤ ((2 * r 1 + (1 * r 0 + ((-1) * r 5 + 0))) + (-1)) := hok.2 _ (List.mem_of_getElem? (i := 0) rfl)
  have hG : yq_nr (g0 1) (r 0) (r 4) (((1 * (r 5) + 0) + 0) - (r 0)).toNat = 1 ∧ (r 0) ≤ ((1 * (r 5) + 0) + 0) ∧ ((1 * (r 5) + 0) + 0) ≤ (r 0) + 2 * (r 1) := hG
  obtain ⟨h0, hh, e0, k0⟩ := hh
  have k0 : ∀ j, j ∉ [] → g j = h0 j := k0
  have e0 : ((1 * r 6 + 0) + 0) = yq_nz (h0 1) ((1 * r 4 + 0) + 0) ((1 * r 5 + 0) + 0) := e0
  have hh : h0 = gi := hh
  subst hh
  have hG : yq_nr (g0 1) (r 0) (r 4) (((1 * (r 5) + 0) + 0) - (r 0)).toNat = 1 ∧ (r 0) ≤ ((1 * (r 5) + 0) + 0) ∧ ((1 * (r 5) + 0) + 0) ≤ (r 0) + 2 * (r 1) := hG
  refine yt_dalt (by decide) (by decide) ?_
  rw [show xk_154.2.1.2.1.1.length = 5 from rfl]
  show yq_nr (g0 1) ((1 * r 0 + 0) + 0) ((1 * r 4 + 0) + 0) (2 * ((1 * r 1 + 0) + 0)).toNat = 0
  try simp only [Int.one_mul, Int.zero_add, Int.add_zero]
  try simp only [Int.one_mul, Int.zero_add, Int.add_zero] at hG
  obtain ⟨a1, a2, a3⟩ := hG
  try simp only [Int.one_mul, Int.zero_add, Int.add_zero] at e0
  rw [hfr 1 (by decide)] at e0
  exact yq_nr_b (i := r 5) (by omega) (by omega) (by omega) (by rw [← e0]; omega)
theorem xw_154_1_2 : yt_hold xT_154 xk_154 xq_154.2.2.1 xG_154 xP_154 xU_154 6 ((xq_154.2.2.1.getD 0 (0, ([], [], ([], []), [], [], ([], 0)), [], false)).2.1.2.2.1.2) (xG_154 0) (1000, ([(0, 100), (0, 100), (0, 1), ((-2147483648), 2147483647), (0, 100), (0, 299), (301, 9223372036854775807)], [([(1, 2), (0, 1), (5, (-1))], (-1))]), [], [], [.inr (.inr (.inl (119, 0, [([(5, 1)], 0), ([(2, 1)], 0), ([(3, 1)], 0), ([(4, 1)], 0), ([(6, 1)], 0)], [0, 1], [])))]) := by
  intro g0 r gi g hok hh hars hfr hG
  have b0 : 0 ≤ r 0 ∧ r 0 ≤ 100 := hok.1 0 (0, 100) rfl
  have b1 : 0 ≤ r 1 ∧ r 1 ≤ 100 := hok.1 1 (0, 100) rfl
  have b4 : 0 ≤ r 4 ∧ r 4 ≤ 100 := hok.1 4 (0, 100) rfl
  have b5 : 0 ≤ r 5 ∧ r 5 ≤ 299 := hok.1 5 (0, 299) rfl
  have b6 : 301 ≤ r 6 ∧ r 6 ≤ 9223372036854775807 := hok.1 6 (301, 9223372036854775807) rfl
  have f0 : 0 ≤ ((2 * r 1 + (1 * r 0 + ((-1) * r 5 + 0))) + (-1)) := hok.2 _ (List.mem_of_getElem? (i := 0) rfl)
  have hG : yq_nr (g0 1) (r 0) (r 4) (((1 * (r 5) + 0) + 0) - (r 0)).toNat = 1 ∧ (r 0) ≤ ((1 * (r 5) + 0) + 0) ∧ ((1 * (r 5) + 0) + 0) ≤ (r 0) + 2 * (r 1) := hG
  obtain ⟨h0, hh, e0, k0⟩ := hh
  have k0 : ∀ j, j ∉ [] → g j = h0 j := k0
  have e0 : ((1 * r 6 + 0) + 0) = yq_nz (h0 1) ((1 * r 4 + 0) + 0) ((1 * r 5 + 0) + 0) := e0
  have hh : h0 = gi := hh
  subst hh
  have hG : yq_nr (g0 1) (r 0) (r 4) (((1 * (r 5) + 0) + 0) - (r 0)).toNat = 1 ∧ (r 0) ≤ ((1 * (r 5) + 0) + 0) ∧ ((1 * (r 5) + 0) + 0) ≤ (r 0) + 2 * (r 1) := hG
  refine yt_dalt (by decide) (by decide) ?_
  rw [show xk_154.2.1.2.1.1.length = 5 from rfl]
  show yq_nr (g0 1) ((1 * r 0 + 0) + 0) ((1 * r 4 + 0) + 0) (2 * ((1 * r 1 + 0) + 0)).toNat = 0
  try simp only [Int.one_mul, Int.zero_add, Int.add_zero]
  try simp only [Int.one_mul, Int.zero_add, Int.add_zero] at hG
  obtain ⟨a1, a2, a3⟩ := hG
  try simp only [Int.one_mul, Int.zero_add, Int.add_zero] at e0
  rw [hfr 1 (by decide)] at e0
  exact yq_nr_b (i := r 5) (by omega) (by omega) (by omega) (by rw [← e0]; omega)
theorem xw_154_1_3 : yt_hold xT_154 xk_154 xq_154.2.2.1 xG_154 xP_154 xU_154 6 ((xq_154.2.2.1.getD 0 (0, ([], [], ([], []), [], [], ([], 0)), [], false)).2.1.2.2.1.2) (xG_154 0) (0, ([(0, 100), (0, 100), (0, 1), ((-2147483648), 2147483647), (0, 100), (0, 299), ((-300), 300)], [([(1, 2), (0, 1), (5, (-1))], (-1))]), [([(5, 1)], 1)], [], [.inr (.inr (.inl (119, 0, [([(5, 1)], 0), ([(2, 1)], 0), ([(3, 1)], 0), ([(4, 1)], 0), ([(6, 1)], 0)], [0, 1], [])))]) := by
  intro g0 r gi g hok hh hars hfr hG
  have b0 : 0 ≤ r 0 ∧ r 0 ≤ 100 := hok.1 0 (0, 100) rfl
  have b1 : 0 ≤ r 1 ∧ r 1 ≤ 100 := hok.1 1 (0, 100) rfl
  have b4 : 0 ≤ r 4 ∧ r 4 ≤ 100 := hok.1 4 (0, 100) rfl
  have b5 : 0 ≤ r 5 ∧ r 5 ≤ 299 := hok.1 5 (0, 299) rfl
  have b6 : (-300) ≤ r 6 ∧ r 6 ≤ 300 := hok.1 6 ((-300), 300) rfl
  have f0 : 0 ≤ ((2 * r 1 + (1 * r 0 + ((-1) * r 5 + 0))) + (-1)) := hok.2 _ (List.mem_of_getElem? (i := 0) rfl)
  have hG : yq_nr (g0 1) (r 0) (r 4) (((1 * (r 5) + 0) + 0) - (r 0)).toNat = 1 ∧ (r 0) ≤ ((1 * (r 5) + 0) + 0) ∧ ((1 * (r 5) + 0) + 0) ≤ (r 0) + 2 * (r 1) := hG
  obtain ⟨h0, hh, e0, k0⟩ := hh
  have k0 : ∀ j, j ∉ [] → g j = h0 j := k0
  have e0 : ((1 * r 6 + 0) + 0) = yq_nz (h0 1) ((1 * r 4 + 0) + 0) ((1 * r 5 + 0) + 0) := e0
  have hh : h0 = gi := hh
  subst hh
  have hG : yq_nr (g0 1) (r 0) (r 4) (((1 * (r 5) + 0) + 0) - (r 0)).toNat = 1 ∧ (r 0) ≤ ((1 * (r 5) + 0) + 0) ∧ ((1 * (r 5) + 0) + 0) ≤ (r 0) + 2 * (r 1) := hG
  refine yt_dcut (by decide) rfl ?_ ?_
  · exact fun f hf => absurd hf List.not_mem_nil
  · rw [show xk_154.2.1.2.1.1.length = 5 from rfl]
    show yq_nr (g0 1) ((1 * r 0 + 0) + 0) ((1 * r 4 + 0) + 0) (((1 * ((1 * r 5 + 0) + 1) + 0) + 0) - ((1 * r 0 + 0) + 0)).toNat = 1 ∧ ((1 * r 0 + 0) + 0) ≤ ((1 * ((1 * r 5 + 0) + 1) + 0) + 0) ∧ ((1 * ((1 * r 5 + 0) + 1) + 0) + 0) ≤ ((1 * r 0 + 0) + 0) + 2 * ((1 * r 1 + 0) + 0)
    try simp only [Int.one_mul, Int.zero_add, Int.add_zero]
    try simp only [Int.one_mul, Int.zero_add, Int.add_zero] at hG
    obtain ⟨a1, a2, a3⟩ := hG
    try simp only [Int.one_mul, Int.zero_add, Int.add_zero] at e0
    rw [hfr 1 (by decide)] at e0
    refine ⟨?_, by omega, by omega⟩
    rw [yq_nr_g (i := r 5) (k := r 5 - r 0) (by omega) (by omega) rfl (by omega) (by rw [← e0]; omega) (by rw [← e0]; omega)]
    exact a1
theorem xn_154 : ∀ (j : Nat) (q : Nat × yt_T), xq_154.2.2.1[j]? = some q → q.2.2.2 = false → ∀ g0 r g, xG_154 j g0 r g
  | 0, q, hq, hf => by cases hq; cases hf
  | n + 1, q, hq, _ => by cases hq
theorem xs_154 : ∀ j, xq_154.2.2.2.getD j false = false → ∀ r g g', xP_154 j r g g'
  | 0, hf => by cases hf
  | 1, hf => by cases hf
  | n + 2, _ => fun _ _ _ => trivial
theorem xc_154 {l : Launch} {D : va_G} {cT : Nat → ClassId} {tys : List (ClassId × FieldType)} (hty : yx_Ty tys cT) : yt_Con l D vwCl cT tys yG yw_s28 xk_154 xR_154 xP_154 := yx_sem (calls := xa_154) (Z := xq_154) (tb := xT_154) (pt := xU_154) (Ga := xG_154) (vs := xv_154) (fun _ _ _ _ => trivial) 300 (by decide +kernel) yz_X8_hasNearPlaces_ok hty (yl_lkX8 _) (yl_cqkX8 _) (List.forall_mem_cons.mpr ⟨⟨xc_153 hty, yg_CLv rfl rfl rfl yl_wX8_44 yd_yX8_numberOrZero, fun _ _ _ => trivial⟩, List.forall_mem_cons.mpr ⟨⟨xc_125 hty, yg_CLs yl_wX8_48 yd_yX6_isNear, fun _ _ _ => trivial⟩, fun _ h => absurd h List.not_mem_nil⟩⟩) (xn_154) (xs_154) (by decide +kernel) (List.forall_mem_cons.mpr ⟨xw_154_0_0, fun _ h => absurd h List.not_mem_nil⟩) (⟨List.forall_mem_cons.mpr ⟨xw_154_1_0, List.forall_mem_cons.mpr ⟨xw_154_1_1, List.forall_mem_cons.mpr ⟨xw_154_1_2, List.forall_mem_cons.mpr ⟨xw_154_1_3, fun _ h => absurd h List.not_mem_nil⟩⟩⟩⟩, trivial⟩)
noncomputable def yw_s81 : List ys_C := [.inl 11, .inl 6, .inr (0, 40, []), .inr (0, 40, []), .inr (0, 40, []), .inr (0, 40, []), .inr (4, 4, [7, 9, 11, 13]), .inl 8, .inr (1, 100, []), .inl 8, .inr (1, 100, []), .inl 8, .inr (1, 100, []), .inl 8, .inr (1, 100, [])]
noncomputable def yw_f81 (n : Nat) : List (List ys_V) := [[.inr (some 1), .inr (some 15), .inr (some 16), .inr (some 6), .inr (some 17), .inr (some 18), .inr (some 19), .inr (some 20), .inr (some 21), .inr (some 22), .inr (some 23), .inr (some 24), .inr (some 25), .inr (some 26), .inl (.inl ([(n + 0, 1)], 0))], [.inr (some 2), .inr (some 3), .inr (some 4), .inr (some 5), .inl (.inl ([(n + 1, 1)], 0)), .inl (.inl ([(n + 2, 1)], 0))], [], [], [], [], [], [.inr (some 8), .inl (.inl ([(n + 3, 1)], 0)), .inl (.inl ([(n + 4, 1)], 0)), .inl (.inl ([(n + 5, 1)], 0))], [], [.inr (some 10), .inl (.inl ([(n + 6, 1)], 0)), .inl (.inl ([(n + 7, 1)], 0)), .inl (.inl ([(n + 8, 1)], 0))], [], [.inr (some 12), .inl (.inl ([(n + 9, 1)], 0)), .inl (.inl ([(n + 10, 1)], 0)), .inl (.inl ([(n + 11, 1)], 0))], [], [.inr (some 14), .inl (.inl ([(n + 12, 1)], 0)), .inl (.inl ([(n + 13, 1)], 0)), .inl (.inl ([(n + 14, 1)], 0))], []]
noncomputable def yw_e81 : ys_E := [((-2147483648), 2147483647), (0, 40), ((-2147483648), 2147483647), (0, 1), ((-2147483648), 2147483647), (0, 100), (0, 1), ((-2147483648), 2147483647), (0, 100), (0, 1), ((-2147483648), 2147483647), (0, 100), (0, 1), ((-2147483648), 2147483647), (0, 100)]
noncomputable def yw_r81 : List ys_R := [((0, 0), []), ((0, 0), []), (((-300), 300), []), (((-300), 300), []), ((0, 1), []), ((0, 1000), []), ((0, 0), []), ((0, 0), []), (((-9223372036854775808), 9223372036854775807), []), ((0, 0), []), (((-9223372036854775808), 9223372036854775807), []), ((0, 0), []), (((-9223372036854775808), 9223372036854775807), []), ((0, 0), []), (((-9223372036854775808), 9223372036854775807), [])]
noncomputable def xf_155 : ys_F := (yw_f81 4, yw_r81)
noncomputable def xk_155 : ys_K := (((yX11_take, cX11_take, 7, (some .int)), (3, 65)), ([.inr (some 0), .inl (.inl ([(0, 1)], 0)), .inl (.inl ([(1, 1)], 0)), .inl (.inl ([(2, 1)], 0)), .inl (.inl ([(3, 1)], 0))], ([((-2147483648), 2147483647), ((-2147483648), 2147483647), ((-2147483648), 2147483647), ((-2147483648), 2147483647)] ++ yw_e81, []), xf_155), ([([((-5), 40), ((-2147483648), 0), (0, 40), ((-2147483648), 2147483647)], [], ((ys_fs xf_155.1 [(0, 14, .inl (.inl ([(20, 1)], 0))), (1, 4, .inl (.inl ([(21, 1)], 0))), (1, 5, .inl (.inl ([(22, 1)], 0)))]), xf_155.2), some (.inl (.inl ([(19, 1)], 0))))], [2, 3, 4, 5]))
noncomputable def xq_155 : yt_Q := (yz_X11_take, (yl_flX11, yl_ciX11, yl_cjX11, yl_cpX11, yl_cqX11), [(116, ([(0, 40), (0, 40), ((-2147483648), 2147483647)], [([(0, 1)], 0), ([(0, (-1))], 3), ([(1, 1)], 0), ([(1, (-1))], 99), ([(2, 1)], (-1)), ([(2, (-1))], 40), ([(3, 1)], 0), ([(3, (-1))], 1), ([(5, (-1))], 39), ([(2, (-1)), (5, (-1))], 40)], ((ys_fs xf_155.1 [(1, 4, .inl (.inl ([(20, 1)], 0))), (1, 5, .inl (.inl ([(21, 1)], 0)))]), xf_155.2), [(0, .inr (some 0)), (1, .inl (.inl ([(0, 1)], 0))), (2, .inl (.inl ([(1, 1)], 0))), (3, .inl (.inl ([(2, 1)], 0))), (4, .inl (.inl ([(3, 1)], 0))), (5, .inl (.inl ([(19, 1)], 0)))], [], ([(19, (-5))], 204)), [], true), (145, ([(0, 39), (0, 4000), ((-9223372036854775808), 9223372036854775807), (0, 40), ((-2147483648), 2147483647)], [([(0, 1)], 0), ([(0, (-1))], 3), ([(1, 1)], 0), ([(1, (-1))], 99), ([(2, 1)], (-1)), ([(2, (-1))], 40), ([(3, 1)], 0), ([(3, (-1))], 1), ([(5, (-1))], 39), ([(2, (-1)), (5, (-1))], 40)], ((ys_fs xf_155.1 [(1, 4, .inl (.inl ([(22, 1)], 0))), (1, 5, .inl (.inl ([(23, 1)], 0)))]), xf_155.2), [(0, .inr (some 0)), (1, .inl (.inl ([(0, 1)], 0))), (2, .inl (.inl ([(1, 1)], 0))), (3, .inl (.inl ([(2, 1)], 0))), (4, .inl (.inl ([(3, 1)], 0))), (5, .inl (.inl ([(19, 1)], 0))), (6, .inl (.inl ([(20, 1)], 0)))], [.inl (.inr ([(21, 1)], 0)), .inr (some 1)], ([(19, (-5))], 202)), [([(21, 1)], 300), ([(21, (-1))], 300)], true), (159, ([(0, 39), ((-9223372036854775808), 9223372036854775807), ((-300), 300), (0, 40), ((-2147483648), 2147483647)], [([(0, 1)], 0), ([(0, (-1))], 3), ([(1, 1)], 0), ([(1, (-1))], 99), ([(2, 1)], (-1)), ([(2, (-1))], 40), ([(3, 1)], 0), ([(3, (-1))], 1), ([(5, (-1))], 39), ([(2, (-1)), (5, (-1))], 40)], ((ys_fs xf_155.1 [(1, 4, .inl (.inl ([(22, 1)], 0))), (1, 5, .inl (.inl ([(23, 1)], 0)))]), xf_155.2), [(0, .inr (some 0)), (1, .inl (.inl ([(0, 1)], 0))), (2, .inl (.inl ([(1, 1)], 0))), (3, .inl (.inl ([(2, 1)], 0))), (4, .inl (.inl ([(3, 1)], 0))), (5, .inl (.inl ([(19, 1)], 0)))], [.inl (.inr ([(20, 1)], 0)), .inl (.inl ([(21, 1)], 0)), .inr (some 1)], ([(19, (-5))], 200)), [([(20, 1)], 300), ([(20, (-1))], 300), ([(21, 1)], 300), ([(21, (-1))], 300)], true)], [true])
noncomputable def xa_155 : List yt_CE := [(((141, true), (0, false, [])), (yw_s2, xk_35)), (((103, true), (0, false, [])), (yw_s2, xk_61)), (((107, false), (0, false, [0, 1, 15, 16, 6, 17, 18, 19, 20, 21, 22, 23, 24, 25, 26])), (yw_s3, xk_3)), (((174, false), (0, false, [13, 14])), (yw_s27, xk_152)), (((177, false), (118, false, [13, 14])), (yw_s28, xk_154)), (((174, false), (0, false, [11, 12])), (yw_s27, xk_152)), (((177, false), (118, false, [11, 12])), (yw_s28, xk_154)), (((174, false), (0, false, [9, 10])), (yw_s27, xk_152)), (((177, false), (118, false, [9, 10])), (yw_s28, xk_154)), (((174, false), (0, false, [7, 8])), (yw_s27, xk_152)), (((177, false), (118, false, [7, 8])), (yw_s28, xk_154)), (((180, false), (119, false, [13, 14])), (yw_s28, xk_153)), (((180, false), (119, false, [11, 12])), (yw_s28, xk_153)), (((180, false), (119, false, [9, 10])), (yw_s28, xk_153)), (((180, false), (119, false, [7, 8])), (yw_s28, xk_153)), (((114, false), (130, false, [1, 2, 3, 4, 5])), (yw_s37, xk_126))]
noncomputable def xe_155_0_0 : yt_VC := (1000, ([((-2147483648), (-1)), ((-2147483648), 2147483647), ((-2147483648), 2147483647), ((-2147483648), 2147483647), ((-2147483648), 2147483647), (0, 40), ((-2147483648), 2147483647), (0, 1), ((-2147483648), 2147483647), (0, 100), (0, 1), ((-2147483648), 2147483647), (0, 100), (0, 1), ((-2147483648), 2147483647), (0, 100), (0, 1), ((-2147483648), 2147483647), (0, 100), ((-2147483648), 0)], []), [([], (-1)), ([(19, 1)], 0), ([(5, 1)], 0), ([(6, 1)], 0)], [], [])
noncomputable def xe_155_0_1 : yt_VC := (1000, ([(4, 2147483647), ((-2147483648), 2147483647), ((-2147483648), 2147483647), ((-2147483648), 2147483647), ((-2147483648), 2147483647), (0, 40), ((-2147483648), 2147483647), (0, 1), ((-2147483648), 2147483647), (0, 100), (0, 1), ((-2147483648), 2147483647), (0, 100), (0, 1), ((-2147483648), 2147483647), (0, 100), (0, 1), ((-2147483648), 2147483647), (0, 100), ((-2147483648), 0)], []), [([], (-1)), ([(19, 1)], 0), ([(5, 1)], 0), ([(6, 1)], 0)], [], [])
noncomputable def xe_155_0_2 : yt_VC := (1000, ([(0, 3), ((-2147483648), 2147483647), ((-2147483648), 2147483647), ((-2147483648), (-1)), ((-2147483648), 2147483647), (0, 40), ((-2147483648), 2147483647), (0, 1), ((-2147483648), 2147483647), (0, 100), (0, 1), ((-2147483648), 2147483647), (0, 100), (0, 1), ((-2147483648), 2147483647), (0, 100), (0, 1), ((-2147483648), 2147483647), (0, 100), ((-2147483648), 0)], []), [([], (-1)), ([(19, 1)], 0), ([(5, 1)], 0), ([(6, 1)], 0)], [], [])
noncomputable def xe_155_0_3 : yt_VC := (1000, ([(0, 3), ((-2147483648), 2147483647), ((-2147483648), 2147483647), (2, 2147483647), ((-2147483648), 2147483647), (0, 40), ((-2147483648), 2147483647), (0, 1), ((-2147483648), 2147483647), (0, 100), (0, 1), ((-2147483648), 2147483647), (0, 100), (0, 1), ((-2147483648), 2147483647), (0, 100), (0, 1), ((-2147483648), 2147483647), (0, 100), ((-2147483648), 0)], []), [([], (-1)), ([(19, 1)], 0), ([(5, 1)], 0), ([(6, 1)], 0)], [], [])
noncomputable def xe_155_0_4 : yt_VC := (1000, ([(0, 3), ((-2147483648), 2147483647), ((-2147483648), 0), (1, 1), ((-2147483648), 2147483647), (0, 40), ((-2147483648), 2147483647), (0, 1), ((-2147483648), 2147483647), (0, 100), (0, 1), ((-2147483648), 2147483647), (0, 100), (0, 1), ((-2147483648), 2147483647), (0, 100), (0, 1), ((-2147483648), 2147483647), (0, 100), ((-2147483648), 0)], []), [([], (-1)), ([(19, 1)], 0), ([(5, 1)], 0), ([(6, 1)], 0)], [], [])
noncomputable def xe_155_0_5 : yt_VC := (1000, ([(0, 0), ((-2147483648), (-1)), (1, 40), (1, 1), ((-2147483648), 2147483647), (0, 40), ((-2147483648), 2147483647), (1, 1), ((-2147483648), 2147483647), (0, 100), (0, 1), ((-2147483648), 2147483647), (0, 100), (0, 1), ((-2147483648), 2147483647), (0, 100), (0, 1), ((-2147483648), 2147483647), (0, 100), ((-2147483648), 0)], []), [([], (-3)), ([(19, 1)], 0), ([(5, 1)], 0), ([(6, 1)], 0)], [], [])
noncomputable def xe_155_0_6 : yt_VC := (1000, ([(0, 0), (0, 2147483647), (1, 40), (1, 1), ((-2147483648), 2147483647), (0, 40), ((-2147483648), 2147483647), (1, 1), ((-2147483648), 2147483647), (0, 100), (0, 1), ((-2147483648), 2147483647), (0, 100), (0, 1), ((-2147483648), 2147483647), (0, 100), (0, 1), ((-2147483648), 2147483647), (0, 100), ((-2147483648), 0)], [([(9, (-1)), (1, 1), (2, 2)], (-2))]), [([], (-3)), ([(19, 1)], 0), ([(5, 1)], 0), ([(6, 1)], 0)], [], [])
noncomputable def xe_155_0_7 : yt_VC := (1000, ([(0, 0), (0, 99), (1, 40), (1, 1), ((-2147483648), 2147483647), (0, 40), ((-2147483648), 2147483647), (1, 1), ((-2147483648), 2147483647), (1, 100), (0, 1), ((-2147483648), 2147483647), (0, 100), (0, 1), ((-2147483648), 2147483647), (0, 100), (0, 1), ((-2147483648), 2147483647), (0, 100), ((-2147483648), 0)], [([(2, 2), (1, 1)], (-1)), ([(9, 1), (1, (-1)), (2, (-2))], 1)]), [([], (-1)), ([(19, 1)], 0), ([(5, 1)], 0), ([(6, 1)], 0)], [], [.inr (.inr (.inl (118, 0, [([(1, 1)], 0), ([(2, 1)], 0), ([(7, 1)], 0), ([(8, 1)], 0), ([(9, 1)], 0)], [7, 8], [])))])
noncomputable def xe_155_0_8 : yt_VC := (0, ([(0, 0), (0, 99), (1, 40), (1, 1), ((-2147483648), 2147483647), (0, 39), ((-2147483648), 2147483647), (1, 1), ((-2147483648), 2147483647), (1, 100), (0, 1), ((-2147483648), 2147483647), (0, 100), (0, 1), ((-2147483648), 2147483647), (0, 100), (0, 1), ((-2147483648), 2147483647), (0, 100)], [([(2, (-1)), (5, (-1))], 40), ([(9, 1), (1, (-1)), (2, (-2))], 1)]), [([], 0), ([(5, 1)], 0), ([(6, 1)], 0)], [], [.inr (.inr (.inl (118, 1, [([(1, 1)], 0), ([(2, 1)], 0), ([(7, 1)], 0), ([(8, 1)], 0), ([(9, 1)], 0)], [7, 8], [])))])
noncomputable def xe_155_0_9 : yt_VC := (1000, ([(0, 0), (0, 99), (1, 40), (1, 1), ((-2147483648), 2147483647), (1, 40), ((-2147483648), 2147483647), (1, 1), ((-2147483648), 2147483647), (1, 100), (0, 1), ((-2147483648), 2147483647), (0, 100), (0, 1), ((-2147483648), 2147483647), (0, 100), (0, 1), ((-2147483648), 2147483647), (0, 100), ((-2147483648), 0)], [([(2, 1), (5, 1)], (-41)), ([(9, 1), (1, (-1)), (2, (-2))], 1)]), [([], (-5)), ([(19, 1)], 0), ([(5, 1)], 0), ([(6, 1)], 0)], [], [.inr (.inr (.inl (118, 1, [([(1, 1)], 0), ([(2, 1)], 0), ([(7, 1)], 0), ([(8, 1)], 0), ([(9, 1)], 0)], [7, 8], [])))])
noncomputable def xe_155_0_10 : yt_VC := (1000, ([(0, 0), ((-2147483648), 2147483647), (1, 40), (1, 1), ((-2147483648), 2147483647), (0, 40), ((-2147483648), 2147483647), (0, 0), ((-2147483648), 2147483647), (0, 100), (0, 1), ((-2147483648), 2147483647), (0, 100), (0, 1), ((-2147483648), 2147483647), (0, 100), (0, 1), ((-2147483648), 2147483647), (0, 100), ((-2147483648), 0)], []), [([], (-2)), ([(19, 1)], 0), ([(5, 1)], 0), ([(6, 1)], 0)], [], [])
noncomputable def xe_155_0_11 : yt_VC := (1000, ([(1, 1), ((-2147483648), (-1)), (1, 40), (1, 1), ((-2147483648), 2147483647), (0, 40), ((-2147483648), 2147483647), (0, 1), ((-2147483648), 2147483647), (0, 100), (1, 1), ((-2147483648), 2147483647), (0, 100), (0, 1), ((-2147483648), 2147483647), (0, 100), (0, 1), ((-2147483648), 2147483647), (0, 100), ((-2147483648), 0)], []), [([], (-3)), ([(19, 1)], 0), ([(5, 1)], 0), ([(6, 1)], 0)], [], [])
noncomputable def xe_155_0_12 : yt_VC := (1000, ([(1, 1), (0, 2147483647), (1, 40), (1, 1), ((-2147483648), 2147483647), (0, 40), ((-2147483648), 2147483647), (0, 1), ((-2147483648), 2147483647), (0, 100), (1, 1), ((-2147483648), 2147483647), (0, 100), (0, 1), ((-2147483648), 2147483647), (0, 100), (0, 1), ((-2147483648), 2147483647), (0, 100), ((-2147483648), 0)], [([(12, (-1)), (1, 1), (2, 2)], (-2))]), [([], (-3)), ([(19, 1)], 0), ([(5, 1)], 0), ([(6, 1)], 0)], [], [])
noncomputable def xe_155_0_13 : yt_VC := (1000, ([(1, 1), (0, 99), (1, 40), (1, 1), ((-2147483648), 2147483647), (0, 40), ((-2147483648), 2147483647), (0, 1), ((-2147483648), 2147483647), (0, 100), (1, 1), ((-2147483648), 2147483647), (1, 100), (0, 1), ((-2147483648), 2147483647), (0, 100), (0, 1), ((-2147483648), 2147483647), (0, 100), ((-2147483648), 0)], [([(2, 2), (1, 1)], (-1)), ([(12, 1), (1, (-1)), (2, (-2))], 1)]), [([], (-1)), ([(19, 1)], 0), ([(5, 1)], 0), ([(6, 1)], 0)], [], [.inr (.inr (.inl (118, 0, [([(1, 1)], 0), ([(2, 1)], 0), ([(10, 1)], 0), ([(11, 1)], 0), ([(12, 1)], 0)], [9, 10], [])))])
noncomputable def xe_155_0_14 : yt_VC := (0, ([(1, 1), (0, 99), (1, 40), (1, 1), ((-2147483648), 2147483647), (0, 39), ((-2147483648), 2147483647), (0, 1), ((-2147483648), 2147483647), (0, 100), (1, 1), ((-2147483648), 2147483647), (1, 100), (0, 1), ((-2147483648), 2147483647), (0, 100), (0, 1), ((-2147483648), 2147483647), (0, 100)], [([(2, (-1)), (5, (-1))], 40), ([(12, 1), (1, (-1)), (2, (-2))], 1)]), [([], 0), ([(5, 1)], 0), ([(6, 1)], 0)], [], [.inr (.inr (.inl (118, 1, [([(1, 1)], 0), ([(2, 1)], 0), ([(10, 1)], 0), ([(11, 1)], 0), ([(12, 1)], 0)], [9, 10], [])))])
noncomputable def xe_155_0_15 : yt_VC := (1000, ([(1, 1), (0, 99), (1, 40), (1, 1), ((-2147483648), 2147483647), (1, 40), ((-2147483648), 2147483647), (0, 1), ((-2147483648), 2147483647), (0, 100), (1, 1), ((-2147483648), 2147483647), (1, 100), (0, 1), ((-2147483648), 2147483647), (0, 100), (0, 1), ((-2147483648), 2147483647), (0, 100), ((-2147483648), 0)], [([(2, 1), (5, 1)], (-41)), ([(12, 1), (1, (-1)), (2, (-2))], 1)]), [([], (-5)), ([(19, 1)], 0), ([(5, 1)], 0), ([(6, 1)], 0)], [], [.inr (.inr (.inl (118, 1, [([(1, 1)], 0), ([(2, 1)], 0), ([(10, 1)], 0), ([(11, 1)], 0), ([(12, 1)], 0)], [9, 10], [])))])
noncomputable def xe_155_0_16 : yt_VC := (1000, ([(1, 1), ((-2147483648), 2147483647), (1, 40), (1, 1), ((-2147483648), 2147483647), (0, 40), ((-2147483648), 2147483647), (0, 1), ((-2147483648), 2147483647), (0, 100), (0, 0), ((-2147483648), 2147483647), (0, 100), (0, 1), ((-2147483648), 2147483647), (0, 100), (0, 1), ((-2147483648), 2147483647), (0, 100), ((-2147483648), 0)], []), [([], (-2)), ([(19, 1)], 0), ([(5, 1)], 0), ([(6, 1)], 0)], [], [])
noncomputable def xe_155_0_17 : yt_VC := (1000, ([(2, 2), ((-2147483648), (-1)), (1, 40), (1, 1), ((-2147483648), 2147483647), (0, 40), ((-2147483648), 2147483647), (0, 1), ((-2147483648), 2147483647), (0, 100), (0, 1), ((-2147483648), 2147483647), (0, 100), (1, 1), ((-2147483648), 2147483647), (0, 100), (0, 1), ((-2147483648), 2147483647), (0, 100), ((-2147483648), 0)], []), [([], (-3)), ([(19, 1)], 0), ([(5, 1)], 0), ([(6, 1)], 0)], [], [])
noncomputable def xe_155_0_18 : yt_VC := (1000, ([(2, 2), (0, 2147483647), (1, 40), (1, 1), ((-2147483648), 2147483647), (0, 40), ((-2147483648), 2147483647), (0, 1), ((-2147483648), 2147483647), (0, 100), (0, 1), ((-2147483648), 2147483647), (0, 100), (1, 1), ((-2147483648), 2147483647), (0, 100), (0, 1), ((-2147483648), 2147483647), (0, 100), ((-2147483648), 0)], [([(15, (-1)), (1, 1), (2, 2)], (-2))]), [([], (-3)), ([(19, 1)], 0), ([(5, 1)], 0), ([(6, 1)], 0)], [], [])
noncomputable def xe_155_0_19 : yt_VC := (1000, ([(2, 2), (0, 99), (1, 40), (1, 1), ((-2147483648), 2147483647), (0, 40), ((-2147483648), 2147483647), (0, 1), ((-2147483648), 2147483647), (0, 100), (0, 1), ((-2147483648), 2147483647), (0, 100), (1, 1), ((-2147483648), 2147483647), (1, 100), (0, 1), ((-2147483648), 2147483647), (0, 100), ((-2147483648), 0)], [([(2, 2), (1, 1)], (-1)), ([(15, 1), (1, (-1)), (2, (-2))], 1)]), [([], (-1)), ([(19, 1)], 0), ([(5, 1)], 0), ([(6, 1)], 0)], [], [.inr (.inr (.inl (118, 0, [([(1, 1)], 0), ([(2, 1)], 0), ([(13, 1)], 0), ([(14, 1)], 0), ([(15, 1)], 0)], [11, 12], [])))])
noncomputable def xe_155_0_20 : yt_VC := (0, ([(2, 2), (0, 99), (1, 40), (1, 1), ((-2147483648), 2147483647), (0, 39), ((-2147483648), 2147483647), (0, 1), ((-2147483648), 2147483647), (0, 100), (0, 1), ((-2147483648), 2147483647), (0, 100), (1, 1), ((-2147483648), 2147483647), (1, 100), (0, 1), ((-2147483648), 2147483647), (0, 100)], [([(2, (-1)), (5, (-1))], 40), ([(15, 1), (1, (-1)), (2, (-2))], 1)]), [([], 0), ([(5, 1)], 0), ([(6, 1)], 0)], [], [.inr (.inr (.inl (118, 1, [([(1, 1)], 0), ([(2, 1)], 0), ([(13, 1)], 0), ([(14, 1)], 0), ([(15, 1)], 0)], [11, 12], [])))])
noncomputable def xe_155_0_21 : yt_VC := (1000, ([(2, 2), (0, 99), (1, 40), (1, 1), ((-2147483648), 2147483647), (1, 40), ((-2147483648), 2147483647), (0, 1), ((-2147483648), 2147483647), (0, 100), (0, 1), ((-2147483648), 2147483647), (0, 100), (1, 1), ((-2147483648), 2147483647), (1, 100), (0, 1), ((-2147483648), 2147483647), (0, 100), ((-2147483648), 0)], [([(2, 1), (5, 1)], (-41)), ([(15, 1), (1, (-1)), (2, (-2))], 1)]), [([], (-5)), ([(19, 1)], 0), ([(5, 1)], 0), ([(6, 1)], 0)], [], [.inr (.inr (.inl (118, 1, [([(1, 1)], 0), ([(2, 1)], 0), ([(13, 1)], 0), ([(14, 1)], 0), ([(15, 1)], 0)], [11, 12], [])))])
noncomputable def xe_155_0_22 : yt_VC := (1000, ([(2, 2), ((-2147483648), 2147483647), (1, 40), (1, 1), ((-2147483648), 2147483647), (0, 40), ((-2147483648), 2147483647), (0, 1), ((-2147483648), 2147483647), (0, 100), (0, 1), ((-2147483648), 2147483647), (0, 100), (0, 0), ((-2147483648), 2147483647), (0, 100), (0, 1), ((-2147483648), 2147483647), (0, 100), ((-2147483648), 0)], []), [([], (-2)), ([(19, 1)], 0), ([(5, 1)], 0), ([(6, 1)], 0)], [], [])
noncomputable def xe_155_0_23 : yt_VC := (1000, ([(3, 3), ((-2147483648), (-1)), (1, 40), (1, 1), ((-2147483648), 2147483647), (0, 40), ((-2147483648), 2147483647), (0, 1), ((-2147483648), 2147483647), (0, 100), (0, 1), ((-2147483648), 2147483647), (0, 100), (0, 1), ((-2147483648), 2147483647), (0, 100), (1, 1), ((-2147483648), 2147483647), (0, 100), ((-2147483648), 0)], []), [([], (-3)), ([(19, 1)], 0), ([(5, 1)], 0), ([(6, 1)], 0)], [], [])
noncomputable def xe_155_0_24 : yt_VC := (1000, ([(3, 3), (0, 2147483647), (1, 40), (1, 1), ((-2147483648), 2147483647), (0, 40), ((-2147483648), 2147483647), (0, 1), ((-2147483648), 2147483647), (0, 100), (0, 1), ((-2147483648), 2147483647), (0, 100), (0, 1), ((-2147483648), 2147483647), (0, 100), (1, 1), ((-2147483648), 2147483647), (0, 100), ((-2147483648), 0)], [([(18, (-1)), (1, 1), (2, 2)], (-2))]), [([], (-3)), ([(19, 1)], 0), ([(5, 1)], 0), ([(6, 1)], 0)], [], [])
noncomputable def xe_155_0_25 : yt_VC := (1000, ([(3, 3), (0, 99), (1, 40), (1, 1), ((-2147483648), 2147483647), (0, 40), ((-2147483648), 2147483647), (0, 1), ((-2147483648), 2147483647), (0, 100), (0, 1), ((-2147483648), 2147483647), (0, 100), (0, 1), ((-2147483648), 2147483647), (0, 100), (1, 1), ((-2147483648), 2147483647), (1, 100), ((-2147483648), 0)], [([(2, 2), (1, 1)], (-1)), ([(18, 1), (1, (-1)), (2, (-2))], 1)]), [([], (-1)), ([(19, 1)], 0), ([(5, 1)], 0), ([(6, 1)], 0)], [], [.inr (.inr (.inl (118, 0, [([(1, 1)], 0), ([(2, 1)], 0), ([(16, 1)], 0), ([(17, 1)], 0), ([(18, 1)], 0)], [13, 14], [])))])
noncomputable def xe_155_0_26 : yt_VC := (0, ([(3, 3), (0, 99), (1, 40), (1, 1), ((-2147483648), 2147483647), (0, 39), ((-2147483648), 2147483647), (0, 1), ((-2147483648), 2147483647), (0, 100), (0, 1), ((-2147483648), 2147483647), (0, 100), (0, 1), ((-2147483648), 2147483647), (0, 100), (1, 1), ((-2147483648), 2147483647), (1, 100)], [([(2, (-1)), (5, (-1))], 40), ([(18, 1), (1, (-1)), (2, (-2))], 1)]), [([], 0), ([(5, 1)], 0), ([(6, 1)], 0)], [], [.inr (.inr (.inl (118, 1, [([(1, 1)], 0), ([(2, 1)], 0), ([(16, 1)], 0), ([(17, 1)], 0), ([(18, 1)], 0)], [13, 14], [])))])
noncomputable def xe_155_0_27 : yt_VC := (1000, ([(3, 3), (0, 99), (1, 40), (1, 1), ((-2147483648), 2147483647), (1, 40), ((-2147483648), 2147483647), (0, 1), ((-2147483648), 2147483647), (0, 100), (0, 1), ((-2147483648), 2147483647), (0, 100), (0, 1), ((-2147483648), 2147483647), (0, 100), (1, 1), ((-2147483648), 2147483647), (1, 100), ((-2147483648), 0)], [([(2, 1), (5, 1)], (-41)), ([(18, 1), (1, (-1)), (2, (-2))], 1)]), [([], (-5)), ([(19, 1)], 0), ([(5, 1)], 0), ([(6, 1)], 0)], [], [.inr (.inr (.inl (118, 1, [([(1, 1)], 0), ([(2, 1)], 0), ([(16, 1)], 0), ([(17, 1)], 0), ([(18, 1)], 0)], [13, 14], [])))])
noncomputable def xe_155_0_28 : yt_VC := (1000, ([(3, 3), ((-2147483648), 2147483647), (1, 40), (1, 1), ((-2147483648), 2147483647), (0, 40), ((-2147483648), 2147483647), (0, 1), ((-2147483648), 2147483647), (0, 100), (0, 1), ((-2147483648), 2147483647), (0, 100), (0, 1), ((-2147483648), 2147483647), (0, 100), (0, 0), ((-2147483648), 2147483647), (0, 100), ((-2147483648), 0)], []), [([], (-2)), ([(19, 1)], 0), ([(5, 1)], 0), ([(6, 1)], 0)], [], [])
noncomputable def xe_155_0_29 : yt_VC := (1000, ([(0, 3), ((-2147483648), 2147483647), (41, 2147483647), (1, 1), ((-2147483648), 2147483647), (0, 40), ((-2147483648), 2147483647), (0, 1), ((-2147483648), 2147483647), (0, 100), (0, 1), ((-2147483648), 2147483647), (0, 100), (0, 1), ((-2147483648), 2147483647), (0, 100), (0, 1), ((-2147483648), 2147483647), (0, 100), ((-2147483648), 0)], []), [([], (-1)), ([(19, 1)], 0), ([(5, 1)], 0), ([(6, 1)], 0)], [], [])
noncomputable def xe_155_0_30 : yt_VC := (1000, ([(0, 3), ((-2147483648), 2147483647), ((-2147483648), 0), (0, 0), ((-2147483648), 2147483647), (0, 40), ((-2147483648), 2147483647), (0, 1), ((-2147483648), 2147483647), (0, 100), (0, 1), ((-2147483648), 2147483647), (0, 100), (0, 1), ((-2147483648), 2147483647), (0, 100), (0, 1), ((-2147483648), 2147483647), (0, 100), ((-2147483648), 0)], []), [([], (-1)), ([(19, 1)], 0), ([(5, 1)], 0), ([(6, 1)], 0)], [], [])
noncomputable def xe_155_0_31 : yt_VC := (1000, ([(0, 0), ((-2147483648), (-1)), (1, 40), (0, 0), ((-2147483648), 2147483647), (0, 40), ((-2147483648), 2147483647), (1, 1), ((-2147483648), 2147483647), (0, 100), (0, 1), ((-2147483648), 2147483647), (0, 100), (0, 1), ((-2147483648), 2147483647), (0, 100), (0, 1), ((-2147483648), 2147483647), (0, 100), ((-2147483648), 0)], []), [([], (-3)), ([(19, 1)], 0), ([(5, 1)], 0), ([(6, 1)], 0)], [], [])
noncomputable def xe_155_0_32 : yt_VC := (1000, ([(0, 0), (0, 2147483647), (1, 40), (0, 0), ((-2147483648), 2147483647), (0, 40), ((-2147483648), 2147483647), (1, 1), ((-2147483648), 2147483647), (0, 100), (0, 1), ((-2147483648), 2147483647), (0, 100), (0, 1), ((-2147483648), 2147483647), (0, 100), (0, 1), ((-2147483648), 2147483647), (0, 100), ((-2147483648), 0)], [([(9, (-1)), (1, 1), (2, 2)], (-2))]), [([], (-3)), ([(19, 1)], 0), ([(5, 1)], 0), ([(6, 1)], 0)], [], [])
noncomputable def xe_155_0_33 : yt_VC := (1000, ([(0, 0), (0, 99), (1, 40), (0, 0), ((-2147483648), 2147483647), (0, 40), ((-2147483648), 2147483647), (1, 1), ((-2147483648), 2147483647), (1, 100), (0, 1), ((-2147483648), 2147483647), (0, 100), (0, 1), ((-2147483648), 2147483647), (0, 100), (0, 1), ((-2147483648), 2147483647), (0, 100), ((-2147483648), 0)], [([(2, 2), (1, 1)], (-1)), ([(9, 1), (1, (-1)), (2, (-2))], 1)]), [([], (-1)), ([(19, 1)], 0), ([(5, 1)], 0), ([(6, 1)], 0)], [], [.inr (.inr (.inl (118, 0, [([(1, 1)], 0), ([(2, 1)], 0), ([(7, 1)], 0), ([(8, 1)], 0), ([(9, 1)], 0)], [7, 8], [])))])
noncomputable def xe_155_0_34 : yt_VC := (0, ([(0, 0), (0, 99), (1, 40), (0, 0), ((-2147483648), 2147483647), (0, 39), ((-2147483648), 2147483647), (1, 1), ((-2147483648), 2147483647), (1, 100), (0, 1), ((-2147483648), 2147483647), (0, 100), (0, 1), ((-2147483648), 2147483647), (0, 100), (0, 1), ((-2147483648), 2147483647), (0, 100)], [([(2, (-1)), (5, (-1))], 40), ([(9, 1), (1, (-1)), (2, (-2))], 1)]), [([], 0), ([(5, 1)], 0), ([(6, 1)], 0)], [], [.inr (.inr (.inl (118, 1, [([(1, 1)], 0), ([(2, 1)], 0), ([(7, 1)], 0), ([(8, 1)], 0), ([(9, 1)], 0)], [7, 8], [])))])
noncomputable def xe_155_0_35 : yt_VC := (1000, ([(0, 0), (0, 99), (1, 40), (0, 0), ((-2147483648), 2147483647), (1, 40), ((-2147483648), 2147483647), (1, 1), ((-2147483648), 2147483647), (1, 100), (0, 1), ((-2147483648), 2147483647), (0, 100), (0, 1), ((-2147483648), 2147483647), (0, 100), (0, 1), ((-2147483648), 2147483647), (0, 100), ((-2147483648), 0)], [([(2, 1), (5, 1)], (-41)), ([(9, 1), (1, (-1)), (2, (-2))], 1)]), [([], (-5)), ([(19, 1)], 0), ([(5, 1)], 0), ([(6, 1)], 0)], [], [.inr (.inr (.inl (118, 1, [([(1, 1)], 0), ([(2, 1)], 0), ([(7, 1)], 0), ([(8, 1)], 0), ([(9, 1)], 0)], [7, 8], [])))])
noncomputable def xe_155_0_36 : yt_VC := (1000, ([(0, 0), ((-2147483648), 2147483647), (1, 40), (0, 0), ((-2147483648), 2147483647), (0, 40), ((-2147483648), 2147483647), (0, 0), ((-2147483648), 2147483647), (0, 100), (0, 1), ((-2147483648), 2147483647), (0, 100), (0, 1), ((-2147483648), 2147483647), (0, 100), (0, 1), ((-2147483648), 2147483647), (0, 100), ((-2147483648), 0)], []), [([], (-2)), ([(19, 1)], 0), ([(5, 1)], 0), ([(6, 1)], 0)], [], [])
noncomputable def xe_155_0_37 : yt_VC := (1000, ([(1, 1), ((-2147483648), (-1)), (1, 40), (0, 0), ((-2147483648), 2147483647), (0, 40), ((-2147483648), 2147483647), (0, 1), ((-2147483648), 2147483647), (0, 100), (1, 1), ((-2147483648), 2147483647), (0, 100), (0, 1), ((-2147483648), 2147483647), (0, 100), (0, 1), ((-2147483648), 2147483647), (0, 100), ((-2147483648), 0)], []), [([], (-3)), ([(19, 1)], 0), ([(5, 1)], 0), ([(6, 1)], 0)], [], [])
noncomputable def xe_155_0_38 : yt_VC := (1000, ([(1, 1), (0, 2147483647), (1, 40), (0, 0), ((-2147483648), 2147483647), (0, 40), ((-2147483648), 2147483647), (0, 1), ((-2147483648), 2147483647), (0, 100), (1, 1), ((-2147483648), 2147483647), (0, 100), (0, 1), ((-2147483648), 2147483647), (0, 100), (0, 1), ((-2147483648), 2147483647), (0, 100), ((-2147483648), 0)], [([(12, (-1)), (1, 1), (2, 2)], (-2))]), [([], (-3)), ([(19, 1)], 0), ([(5, 1)], 0), ([(6, 1)], 0)], [], [])
noncomputable def xe_155_0_39 : yt_VC := (1000, ([(1, 1), (0, 99), (1, 40), (0, 0), ((-2147483648), 2147483647), (0, 40), ((-2147483648), 2147483647), (0, 1), ((-2147483648), 2147483647), (0, 100), (1, 1), ((-2147483648), 2147483647), (1, 100), (0, 1), ((-2147483648), 2147483647), (0, 100), (0, 1), ((-2147483648), 2147483647), (0, 100), ((-2147483648), 0)], [([(2, 2), (1, 1)], (-1)), ([(12, 1), (1, (-1)), (2, (-2))], 1)]), [([], (-1)), ([(19, 1)], 0), ([(5, 1)], 0), ([(6, 1)], 0)], [], [.inr (.inr (.inl (118, 0, [([(1, 1)], 0), ([(2, 1)], 0), ([(10, 1)], 0), ([(11, 1)], 0), ([(12, 1)], 0)], [9, 10], [])))])
noncomputable def xe_155_0_40 : yt_VC := (0, ([(1, 1), (0, 99), (1, 40), (0, 0), ((-2147483648), 2147483647), (0, 39), ((-2147483648), 2147483647), (0, 1), ((-2147483648), 2147483647), (0, 100), (1, 1), ((-2147483648), 2147483647), (1, 100), (0, 1), ((-2147483648), 2147483647), (0, 100), (0, 1), ((-2147483648), 2147483647), (0, 100)], [([(2, (-1)), (5, (-1))], 40), ([(12, 1), (1, (-1)), (2, (-2))], 1)]), [([], 0), ([(5, 1)], 0), ([(6, 1)], 0)], [], [.inr (.inr (.inl (118, 1, [([(1, 1)], 0), ([(2, 1)], 0), ([(10, 1)], 0), ([(11, 1)], 0), ([(12, 1)], 0)], [9, 10], [])))])
noncomputable def xe_155_0_41 : yt_VC := (1000, ([(1, 1), (0, 99), (1, 40), (0, 0), ((-2147483648), 2147483647), (1, 40), ((-2147483648), 2147483647), (0, 1), ((-2147483648), 2147483647), (0, 100), (1, 1), ((-2147483648), 2147483647), (1, 100), (0, 1), ((-2147483648), 2147483647), (0, 100), (0, 1), ((-2147483648), 2147483647), (0, 100), ((-2147483648), 0)], [([(2, 1), (5, 1)], (-41)), ([(12, 1), (1, (-1)), (2, (-2))], 1)]), [([], (-5)), ([(19, 1)], 0), ([(5, 1)], 0), ([(6, 1)], 0)], [], [.inr (.inr (.inl (118, 1, [([(1, 1)], 0), ([(2, 1)], 0), ([(10, 1)], 0), ([(11, 1)], 0), ([(12, 1)], 0)], [9, 10], [])))])
noncomputable def xe_155_0_42 : yt_VC := (1000, ([(1, 1), ((-2147483648), 2147483647), (1, 40), (0, 0), ((-2147483648), 2147483647), (0, 40), ((-2147483648), 2147483647), (0, 1), ((-2147483648), 2147483647), (0, 100), (0, 0), ((-2147483648), 2147483647), (0, 100), (0, 1), ((-2147483648), 2147483647), (0, 100), (0, 1), ((-2147483648), 2147483647), (0, 100), ((-2147483648), 0)], []), [([], (-2)), ([(19, 1)], 0), ([(5, 1)], 0), ([(6, 1)], 0)], [], [])
noncomputable def xe_155_0_43 : yt_VC := (1000, ([(2, 2), ((-2147483648), (-1)), (1, 40), (0, 0), ((-2147483648), 2147483647), (0, 40), ((-2147483648), 2147483647), (0, 1), ((-2147483648), 2147483647), (0, 100), (0, 1), ((-2147483648), 2147483647), (0, 100), (1, 1), ((-2147483648), 2147483647), (0, 100), (0, 1), ((-2147483648), 2147483647), (0, 100), ((-2147483648), 0)], []), [([], (-3)), ([(19, 1)], 0), ([(5, 1)], 0), ([(6, 1)], 0)], [], [])
noncomputable def xe_155_0_44 : yt_VC := (1000, ([(2, 2), (0, 2147483647), (1, 40), (0, 0), ((-2147483648), 2147483647), (0, 40), ((-2147483648), 2147483647), (0, 1), ((-2147483648), 2147483647), (0, 100), (0, 1), ((-2147483648), 2147483647), (0, 100), (1, 1), ((-2147483648), 2147483647), (0, 100), (0, 1), ((-2147483648), 2147483647), (0, 100), ((-2147483648), 0)], [([(15, (-1)), (1, 1), (2, 2)], (-2))]), [([], (-3)), ([(19, 1)], 0), ([(5, 1)], 0), ([(6, 1)], 0)], [], [])
noncomputable def xe_155_0_45 : yt_VC := (1000, ([(2, 2), (0, 99), (1, 40), (0, 0), ((-2147483648), 2147483647), (0, 40), ((-2147483648), 2147483647), (0, 1), ((-2147483648), 2147483647), (0, 100), (0, 1), ((-2147483648), 2147483647), (0, 100), (1, 1), ((-2147483648), 2147483647), (1, 100), (0, 1), ((-2147483648), 2147483647), (0, 100), ((-2147483648), 0)], [([(2, 2), (1, 1)], (-1)), ([(15, 1), (1, (-1)), (2, (-2))], 1)]), [([], (-1)), ([(19, 1)], 0), ([(5, 1)], 0), ([(6, 1)], 0)], [], [.inr (.inr (.inl (118, 0, [([(1, 1)], 0), ([(2, 1)], 0), ([(13, 1)], 0), ([(14, 1)], 0), ([(15, 1)], 0)], [11, 12], [])))])
noncomputable def xe_155_0_46 : yt_VC := (0, ([(2, 2), (0, 99), (1, 40), (0, 0), ((-2147483648), 2147483647), (0, 39), ((-2147483648), 2147483647), (0, 1), ((-2147483648), 2147483647), (0, 100), (0, 1), ((-2147483648), 2147483647), (0, 100), (1, 1), ((-2147483648), 2147483647), (1, 100), (0, 1), ((-2147483648), 2147483647), (0, 100)], [([(2, (-1)), (5, (-1))], 40), ([(15, 1), (1, (-1)), (2, (-2))], 1)]), [([], 0), ([(5, 1)], 0), ([(6, 1)], 0)], [], [.inr (.inr (.inl (118, 1, [([(1, 1)], 0), ([(2, 1)], 0), ([(13, 1)], 0), ([(14, 1)], 0), ([(15, 1)], 0)], [11, 12], [])))])
noncomputable def xe_155_0_47 : yt_VC := (1000, ([(2, 2), (0, 99), (1, 40), (0, 0), ((-2147483648), 2147483647), (1, 40), ((-2147483648), 2147483647), (0, 1), ((-2147483648), 2147483647), (0, 100), (0, 1), ((-2147483648), 2147483647), (0, 100), (1, 1), ((-2147483648), 2147483647), (1, 100), (0, 1), ((-2147483648), 2147483647), (0, 100), ((-2147483648), 0)], [([(2, 1), (5, 1)], (-41)), ([(15, 1), (1, (-1)), (2, (-2))], 1)]), [([], (-5)), ([(19, 1)], 0), ([(5, 1)], 0), ([(6, 1)], 0)], [], [.inr (.inr (.inl (118, 1, [([(1, 1)], 0), ([(2, 1)], 0), ([(13, 1)], 0), ([(14, 1)], 0), ([(15, 1)], 0)], [11, 12], [])))])
noncomputable def xe_155_0_48 : yt_VC := (1000, ([(2, 2), ((-2147483648), 2147483647), (1, 40), (0, 0), ((-2147483648), 2147483647), (0, 40), ((-2147483648), 2147483647), (0, 1), ((-2147483648), 2147483647), (0, 100), (0, 1), ((-2147483648), 2147483647), (0, 100), (0, 0), ((-2147483648), 2147483647), (0, 100), (0, 1), ((-2147483648), 2147483647), (0, 100), ((-2147483648), 0)], []), [([], (-2)), ([(19, 1)], 0), ([(5, 1)], 0), ([(6, 1)], 0)], [], [])
noncomputable def xe_155_0_49 : yt_VC := (1000, ([(3, 3), ((-2147483648), (-1)), (1, 40), (0, 0), ((-2147483648), 2147483647), (0, 40), ((-2147483648), 2147483647), (0, 1), ((-2147483648), 2147483647), (0, 100), (0, 1), ((-2147483648), 2147483647), (0, 100), (0, 1), ((-2147483648), 2147483647), (0, 100), (1, 1), ((-2147483648), 2147483647), (0, 100), ((-2147483648), 0)], []), [([], (-3)), ([(19, 1)], 0), ([(5, 1)], 0), ([(6, 1)], 0)], [], [])
noncomputable def xe_155_0_50 : yt_VC := (1000, ([(3, 3), (0, 2147483647), (1, 40), (0, 0), ((-2147483648), 2147483647), (0, 40), ((-2147483648), 2147483647), (0, 1), ((-2147483648), 2147483647), (0, 100), (0, 1), ((-2147483648), 2147483647), (0, 100), (0, 1), ((-2147483648), 2147483647), (0, 100), (1, 1), ((-2147483648), 2147483647), (0, 100), ((-2147483648), 0)], [([(18, (-1)), (1, 1), (2, 2)], (-2))]), [([], (-3)), ([(19, 1)], 0), ([(5, 1)], 0), ([(6, 1)], 0)], [], [])
noncomputable def xe_155_0_51 : yt_VC := (1000, ([(3, 3), (0, 99), (1, 40), (0, 0), ((-2147483648), 2147483647), (0, 40), ((-2147483648), 2147483647), (0, 1), ((-2147483648), 2147483647), (0, 100), (0, 1), ((-2147483648), 2147483647), (0, 100), (0, 1), ((-2147483648), 2147483647), (0, 100), (1, 1), ((-2147483648), 2147483647), (1, 100), ((-2147483648), 0)], [([(2, 2), (1, 1)], (-1)), ([(18, 1), (1, (-1)), (2, (-2))], 1)]), [([], (-1)), ([(19, 1)], 0), ([(5, 1)], 0), ([(6, 1)], 0)], [], [.inr (.inr (.inl (118, 0, [([(1, 1)], 0), ([(2, 1)], 0), ([(16, 1)], 0), ([(17, 1)], 0), ([(18, 1)], 0)], [13, 14], [])))])
noncomputable def xe_155_0_52 : yt_VC := (0, ([(3, 3), (0, 99), (1, 40), (0, 0), ((-2147483648), 2147483647), (0, 39), ((-2147483648), 2147483647), (0, 1), ((-2147483648), 2147483647), (0, 100), (0, 1), ((-2147483648), 2147483647), (0, 100), (0, 1), ((-2147483648), 2147483647), (0, 100), (1, 1), ((-2147483648), 2147483647), (1, 100)], [([(2, (-1)), (5, (-1))], 40), ([(18, 1), (1, (-1)), (2, (-2))], 1)]), [([], 0), ([(5, 1)], 0), ([(6, 1)], 0)], [], [.inr (.inr (.inl (118, 1, [([(1, 1)], 0), ([(2, 1)], 0), ([(16, 1)], 0), ([(17, 1)], 0), ([(18, 1)], 0)], [13, 14], [])))])
noncomputable def xe_155_0_53 : yt_VC := (1000, ([(3, 3), (0, 99), (1, 40), (0, 0), ((-2147483648), 2147483647), (1, 40), ((-2147483648), 2147483647), (0, 1), ((-2147483648), 2147483647), (0, 100), (0, 1), ((-2147483648), 2147483647), (0, 100), (0, 1), ((-2147483648), 2147483647), (0, 100), (1, 1), ((-2147483648), 2147483647), (1, 100), ((-2147483648), 0)], [([(2, 1), (5, 1)], (-41)), ([(18, 1), (1, (-1)), (2, (-2))], 1)]), [([], (-5)), ([(19, 1)], 0), ([(5, 1)], 0), ([(6, 1)], 0)], [], [.inr (.inr (.inl (118, 1, [([(1, 1)], 0), ([(2, 1)], 0), ([(16, 1)], 0), ([(17, 1)], 0), ([(18, 1)], 0)], [13, 14], [])))])
noncomputable def xe_155_0_54 : yt_VC := (1000, ([(3, 3), ((-2147483648), 2147483647), (1, 40), (0, 0), ((-2147483648), 2147483647), (0, 40), ((-2147483648), 2147483647), (0, 1), ((-2147483648), 2147483647), (0, 100), (0, 1), ((-2147483648), 2147483647), (0, 100), (0, 1), ((-2147483648), 2147483647), (0, 100), (0, 0), ((-2147483648), 2147483647), (0, 100), ((-2147483648), 0)], []), [([], (-2)), ([(19, 1)], 0), ([(5, 1)], 0), ([(6, 1)], 0)], [], [])
noncomputable def xe_155_0_55 : yt_VC := (1000, ([(0, 3), ((-2147483648), 2147483647), (41, 2147483647), (0, 0), ((-2147483648), 2147483647), (0, 40), ((-2147483648), 2147483647), (0, 1), ((-2147483648), 2147483647), (0, 100), (0, 1), ((-2147483648), 2147483647), (0, 100), (0, 1), ((-2147483648), 2147483647), (0, 100), (0, 1), ((-2147483648), 2147483647), (0, 100), ((-2147483648), 0)], []), [([], (-1)), ([(19, 1)], 0), ([(5, 1)], 0), ([(6, 1)], 0)], [], [])
noncomputable def xl_155_0_30 : List yt_VC := xe_155_0_30 :: xe_155_0_31 :: xe_155_0_32 :: xe_155_0_33 :: xe_155_0_34 :: xe_155_0_35 :: xe_155_0_36 :: xe_155_0_37 :: xe_155_0_38 :: xe_155_0_39 :: xe_155_0_40 :: xe_155_0_41 :: xe_155_0_42 :: xe_155_0_43 :: xe_155_0_44 :: xe_155_0_45 :: xe_155_0_46 :: xe_155_0_47 :: xe_155_0_48 :: xe_155_0_49 :: xe_155_0_50 :: xe_155_0_51 :: xe_155_0_52 :: xe_155_0_53 :: xe_155_0_54 :: xe_155_0_55 :: []
noncomputable def xl_155_0_0 : List yt_VC := xe_155_0_0 :: xe_155_0_1 :: xe_155_0_2 :: xe_155_0_3 :: xe_155_0_4 :: xe_155_0_5 :: xe_155_0_6 :: xe_155_0_7 :: xe_155_0_8 :: xe_155_0_9 :: xe_155_0_10 :: xe_155_0_11 :: xe_155_0_12 :: xe_155_0_13 :: xe_155_0_14 :: xe_155_0_15 :: xe_155_0_16 :: xe_155_0_17 :: xe_155_0_18 :: xe_155_0_19 :: xe_155_0_20 :: xe_155_0_21 :: xe_155_0_22 :: xe_155_0_23 :: xe_155_0_24 :: xe_155_0_25 :: xe_155_0_26 :: xe_155_0_27 :: xe_155_0_28 :: xe_155_0_29 :: xl_155_0_30
noncomputable def xe_155_1_0 : yt_VC := (1000, ([(0, 3), (0, 99), (1, 40), (0, 1), ((-2147483648), 2147483647), (0, 39), ((-2147483648), 2147483647), (0, 1), ((-2147483648), 2147483647), (0, 100), (0, 1), ((-2147483648), 2147483647), (0, 100), (0, 1), ((-2147483648), 2147483647), (0, 100), (0, 1), ((-2147483648), 2147483647), (0, 100), (1, 40), (0, 40), ((-2147483648), 2147483647), ((-2147483648), 0)], [([(2, (-1)), (19, 1)], 0), ([(2, (-1)), (5, (-1))], 40), ([(0, 1)], 0), ([(0, (-1))], 3), ([(1, 1)], 0), ([(1, (-1))], 99), ([(2, 1)], (-1)), ([(2, (-1))], 40), ([(3, 1)], 0), ([(3, (-1))], 1), ([(5, (-1))], 39), ([(2, (-1)), (5, (-1))], 40)]), [([(20, 1)], 0), ([(22, 1)], 0), ([(20, 1)], 0), ([(21, 1)], 0)], [], [])
noncomputable def xe_155_1_1 : yt_VC := (1, ([(0, 0), (0, 99), (1, 40), (0, 1), ((-2147483648), 2147483647), (0, 39), ((-2147483648), 2147483647), (0, 1), ((-2147483648), 2147483647), (0, 100), (0, 1), ((-2147483648), 2147483647), (0, 100), (0, 1), ((-2147483648), 2147483647), (0, 100), (0, 1), ((-2147483648), 2147483647), (0, 100), (0, 39), (0, 40), ((-2147483648), 2147483647), ((-9223372036854775808), 9223372036854775807)], [([(2, 1), (19, (-1))], (-1)), ([(2, (-1)), (5, (-1))], 40), ([(0, 1)], 0), ([(0, (-1))], 3), ([(1, 1)], 0), ([(1, (-1))], 99), ([(2, 1)], (-1)), ([(2, (-1))], 40), ([(3, 1)], 0), ([(3, (-1))], 1), ([(5, (-1))], 39), ([(2, (-1)), (5, (-1))], 40)]), [([(19, 1)], 0), ([(19, 2), (1, 1)], 0), ([(22, 1)], 0), ([(20, 1)], 0), ([(21, 1)], 0)], [], [.inr (.inr (.inl (119, 0, [([(19, 2), (1, 1)], 0), ([(7, 1)], 0), ([(8, 1)], 0), ([(9, 1)], 0), ([(22, 1)], 0)], [7, 8], [])))])
noncomputable def xe_155_1_2 : yt_VC := (1, ([(1, 1), (0, 99), (1, 40), (0, 1), ((-2147483648), 2147483647), (0, 39), ((-2147483648), 2147483647), (0, 1), ((-2147483648), 2147483647), (0, 100), (0, 1), ((-2147483648), 2147483647), (0, 100), (0, 1), ((-2147483648), 2147483647), (0, 100), (0, 1), ((-2147483648), 2147483647), (0, 100), (0, 39), (0, 40), ((-2147483648), 2147483647), ((-9223372036854775808), 9223372036854775807)], [([(2, 1), (19, (-1))], (-1)), ([(2, (-1)), (5, (-1))], 40), ([(0, 1)], 0), ([(0, (-1))], 3), ([(1, 1)], 0), ([(1, (-1))], 99), ([(2, 1)], (-1)), ([(2, (-1))], 40), ([(3, 1)], 0), ([(3, (-1))], 1), ([(5, (-1))], 39), ([(2, (-1)), (5, (-1))], 40)]), [([(19, 1)], 0), ([(19, 2), (1, 1)], 0), ([(22, 1)], 0), ([(20, 1)], 0), ([(21, 1)], 0)], [], [.inr (.inr (.inl (119, 0, [([(19, 2), (1, 1)], 0), ([(10, 1)], 0), ([(11, 1)], 0), ([(12, 1)], 0), ([(22, 1)], 0)], [9, 10], [])))])
noncomputable def xe_155_1_3 : yt_VC := (1, ([(2, 2), (0, 99), (1, 40), (0, 1), ((-2147483648), 2147483647), (0, 39), ((-2147483648), 2147483647), (0, 1), ((-2147483648), 2147483647), (0, 100), (0, 1), ((-2147483648), 2147483647), (0, 100), (0, 1), ((-2147483648), 2147483647), (0, 100), (0, 1), ((-2147483648), 2147483647), (0, 100), (0, 39), (0, 40), ((-2147483648), 2147483647), ((-9223372036854775808), 9223372036854775807)], [([(2, 1), (19, (-1))], (-1)), ([(2, (-1)), (5, (-1))], 40), ([(0, 1)], 0), ([(0, (-1))], 3), ([(1, 1)], 0), ([(1, (-1))], 99), ([(2, 1)], (-1)), ([(2, (-1))], 40), ([(3, 1)], 0), ([(3, (-1))], 1), ([(5, (-1))], 39), ([(2, (-1)), (5, (-1))], 40)]), [([(19, 1)], 0), ([(19, 2), (1, 1)], 0), ([(22, 1)], 0), ([(20, 1)], 0), ([(21, 1)], 0)], [], [.inr (.inr (.inl (119, 0, [([(19, 2), (1, 1)], 0), ([(13, 1)], 0), ([(14, 1)], 0), ([(15, 1)], 0), ([(22, 1)], 0)], [11, 12], [])))])
noncomputable def xe_155_1_4 : yt_VC := (1, ([(3, 3), (0, 99), (1, 40), (0, 1), ((-2147483648), 2147483647), (0, 39), ((-2147483648), 2147483647), (0, 1), ((-2147483648), 2147483647), (0, 100), (0, 1), ((-2147483648), 2147483647), (0, 100), (0, 1), ((-2147483648), 2147483647), (0, 100), (0, 1), ((-2147483648), 2147483647), (0, 100), (0, 39), (0, 40), ((-2147483648), 2147483647), ((-9223372036854775808), 9223372036854775807)], [([(2, 1), (19, (-1))], (-1)), ([(2, (-1)), (5, (-1))], 40), ([(0, 1)], 0), ([(0, (-1))], 3), ([(1, 1)], 0), ([(1, (-1))], 99), ([(2, 1)], (-1)), ([(2, (-1))], 40), ([(3, 1)], 0), ([(3, (-1))], 1), ([(5, (-1))], 39), ([(2, (-1)), (5, (-1))], 40)]), [([(19, 1)], 0), ([(19, 2), (1, 1)], 0), ([(22, 1)], 0), ([(20, 1)], 0), ([(21, 1)], 0)], [], [.inr (.inr (.inl (119, 0, [([(19, 2), (1, 1)], 0), ([(16, 1)], 0), ([(17, 1)], 0), ([(18, 1)], 0), ([(22, 1)], 0)], [13, 14], [])))])
noncomputable def xl_155_1_0 : List yt_VC := xe_155_1_0 :: xe_155_1_1 :: xe_155_1_2 :: xe_155_1_3 :: xe_155_1_4 :: []
noncomputable def xe_155_2_0 : yt_VC := (2, ([(0, 0), (0, 99), (1, 40), (0, 1), ((-2147483648), 2147483647), (0, 39), ((-2147483648), 2147483647), (0, 1), ((-2147483648), 2147483647), (0, 100), (0, 1), ((-2147483648), 2147483647), (0, 100), (0, 1), ((-2147483648), 2147483647), (0, 100), (0, 1), ((-2147483648), 2147483647), (0, 100), (0, 39), (0, 4000), ((-300), 300), (0, 40), ((-2147483648), 2147483647), ((-9223372036854775808), 9223372036854775807)], [([(2, (-1)), (5, (-1))], 40), ([(0, 1)], 0), ([(0, (-1))], 3), ([(1, 1)], 0), ([(1, (-1))], 99), ([(2, 1)], (-1)), ([(2, (-1))], 40), ([(3, 1)], 0), ([(3, (-1))], 1), ([(5, (-1))], 39), ([(2, (-1)), (5, (-1))], 40)]), [([(19, 1)], 0), ([(24, 1)], 0), ([(21, 1)], 0), ([(22, 1)], 0), ([(23, 1)], 0)], [], [.inr (.inr (.inl (119, 0, [([(20, 1)], 1), ([(7, 1)], 0), ([(8, 1)], 0), ([(9, 1)], 0), ([(24, 1)], 0)], [7, 8], [])))])
noncomputable def xe_155_2_1 : yt_VC := (2, ([(1, 1), (0, 99), (1, 40), (0, 1), ((-2147483648), 2147483647), (0, 39), ((-2147483648), 2147483647), (0, 1), ((-2147483648), 2147483647), (0, 100), (0, 1), ((-2147483648), 2147483647), (0, 100), (0, 1), ((-2147483648), 2147483647), (0, 100), (0, 1), ((-2147483648), 2147483647), (0, 100), (0, 39), (0, 4000), ((-300), 300), (0, 40), ((-2147483648), 2147483647), ((-9223372036854775808), 9223372036854775807)], [([(2, (-1)), (5, (-1))], 40), ([(0, 1)], 0), ([(0, (-1))], 3), ([(1, 1)], 0), ([(1, (-1))], 99), ([(2, 1)], (-1)), ([(2, (-1))], 40), ([(3, 1)], 0), ([(3, (-1))], 1), ([(5, (-1))], 39), ([(2, (-1)), (5, (-1))], 40)]), [([(19, 1)], 0), ([(24, 1)], 0), ([(21, 1)], 0), ([(22, 1)], 0), ([(23, 1)], 0)], [], [.inr (.inr (.inl (119, 0, [([(20, 1)], 1), ([(10, 1)], 0), ([(11, 1)], 0), ([(12, 1)], 0), ([(24, 1)], 0)], [9, 10], [])))])
noncomputable def xe_155_2_2 : yt_VC := (2, ([(2, 2), (0, 99), (1, 40), (0, 1), ((-2147483648), 2147483647), (0, 39), ((-2147483648), 2147483647), (0, 1), ((-2147483648), 2147483647), (0, 100), (0, 1), ((-2147483648), 2147483647), (0, 100), (0, 1), ((-2147483648), 2147483647), (0, 100), (0, 1), ((-2147483648), 2147483647), (0, 100), (0, 39), (0, 4000), ((-300), 300), (0, 40), ((-2147483648), 2147483647), ((-9223372036854775808), 9223372036854775807)], [([(2, (-1)), (5, (-1))], 40), ([(0, 1)], 0), ([(0, (-1))], 3), ([(1, 1)], 0), ([(1, (-1))], 99), ([(2, 1)], (-1)), ([(2, (-1))], 40), ([(3, 1)], 0), ([(3, (-1))], 1), ([(5, (-1))], 39), ([(2, (-1)), (5, (-1))], 40)]), [([(19, 1)], 0), ([(24, 1)], 0), ([(21, 1)], 0), ([(22, 1)], 0), ([(23, 1)], 0)], [], [.inr (.inr (.inl (119, 0, [([(20, 1)], 1), ([(13, 1)], 0), ([(14, 1)], 0), ([(15, 1)], 0), ([(24, 1)], 0)], [11, 12], [])))])
noncomputable def xe_155_2_3 : yt_VC := (2, ([(3, 3), (0, 99), (1, 40), (0, 1), ((-2147483648), 2147483647), (0, 39), ((-2147483648), 2147483647), (0, 1), ((-2147483648), 2147483647), (0, 100), (0, 1), ((-2147483648), 2147483647), (0, 100), (0, 1), ((-2147483648), 2147483647), (0, 100), (0, 1), ((-2147483648), 2147483647), (0, 100), (0, 39), (0, 4000), ((-300), 300), (0, 40), ((-2147483648), 2147483647), ((-9223372036854775808), 9223372036854775807)], [([(2, (-1)), (5, (-1))], 40), ([(0, 1)], 0), ([(0, (-1))], 3), ([(1, 1)], 0), ([(1, (-1))], 99), ([(2, 1)], (-1)), ([(2, (-1))], 40), ([(3, 1)], 0), ([(3, (-1))], 1), ([(5, (-1))], 39), ([(2, (-1)), (5, (-1))], 40)]), [([(19, 1)], 0), ([(24, 1)], 0), ([(21, 1)], 0), ([(22, 1)], 0), ([(23, 1)], 0)], [], [.inr (.inr (.inl (119, 0, [([(20, 1)], 1), ([(16, 1)], 0), ([(17, 1)], 0), ([(18, 1)], 0), ([(24, 1)], 0)], [13, 14], [])))])
noncomputable def xl_155_2_0 : List yt_VC := xe_155_2_0 :: xe_155_2_1 :: xe_155_2_2 :: xe_155_2_3 :: []
noncomputable def xe_155_3_0 : yt_VC := (0, ([(0, 3), (0, 99), (1, 40), (0, 1), ((-2147483648), 2147483647), (0, 39), ((-2147483648), 2147483647), (0, 1), ((-2147483648), 2147483647), (0, 100), (0, 1), ((-2147483648), 2147483647), (0, 100), (0, 1), ((-2147483648), 2147483647), (0, 100), (0, 1), ((-2147483648), 2147483647), (0, 100), (0, 39), ((-300), 300), ((-300), 300), (0, 39), ((-2147483648), 2147483647), ((-2147483648), 2147483647)], [([(2, (-1)), (5, (-1))], 40), ([(0, 1)], 0), ([(0, (-1))], 3), ([(1, 1)], 0), ([(1, (-1))], 99), ([(2, 1)], (-1)), ([(2, (-1))], 40), ([(3, 1)], 0), ([(3, (-1))], 1), ([(5, (-1))], 39), ([(2, (-1)), (5, (-1))], 40)]), [([(19, 1)], 1), ([(22, 1)], 1), ([(24, 1)], 0)], [], [.inr (.inr (.inl (130, 0, [([(21, 1)], 0), ([(20, 1)], 0), ([(3, 1)], 0), ([(22, 1)], 0), ([(23, 1)], 0), ([(24, 1)], 0)], [1, 2, 3, 4, 5], [2, 3, 4, 5])))])
noncomputable def xe_155_3_1 : yt_VC := (0, ([(0, 3), (0, 99), (1, 40), (0, 1), ((-2147483648), 2147483647), (0, 39), ((-2147483648), 2147483647), (0, 1), ((-2147483648), 2147483647), (0, 100), (0, 1), ((-2147483648), 2147483647), (0, 100), (0, 1), ((-2147483648), 2147483647), (0, 100), (0, 1), ((-2147483648), 2147483647), (0, 100), (0, 39), ((-300), 300), ((-300), 300), (40, 40), ((-2147483648), 2147483647)], [([(2, (-1)), (5, (-1))], 40), ([(0, 1)], 0), ([(0, (-1))], 3), ([(1, 1)], 0), ([(1, (-1))], 99), ([(2, 1)], (-1)), ([(2, (-1))], 40), ([(3, 1)], 0), ([(3, (-1))], 1), ([(5, (-1))], 39), ([(2, (-1)), (5, (-1))], 40)]), [([(19, 1)], 1), ([(22, 1)], 0), ([(23, 1)], 0)], [], [.inr (.inr (.inl (130, 1, [([(21, 1)], 0), ([(20, 1)], 0), ([(3, 1)], 0), ([(22, 1)], 0), ([(23, 1)], 0)], [1, 2, 3, 4, 5], [2, 3, 4, 5])))])
noncomputable def xl_155_3_0 : List yt_VC := xe_155_3_0 :: xe_155_3_1 :: []
noncomputable def xv_155 : List (List yt_VC) := [xl_155_0_0, xl_155_1_0, xl_155_2_0, xl_155_3_0]
noncomputable def xG_155 : Nat → yt_G → (Nat → Int) → yt_G → Prop
  | 0, g0, r, g => ((yq_at (r 0) ((1 * (r 7) + 0) + 0) ((1 * (r 10) + 0) + 0) ((1 * (r 13) + 0) + 0) ((1 * (r 16) + 0) + 0)) ≠ 0 ∧ (0 ≤ (r 1) ∧ (r 1) + 2 * (r 2) - 2 < (yq_at (r 0) ((1 * (r 9) + 0) + 0) ((1 * (r 12) + 0) + 0) ((1 * (r 15) + 0) + 0) ((1 * (r 18) + 0) + 0))) ∧ (yq_nr (yq_fat (r 0) (g0 8) (g0 10) (g0 12) (g0 14)) (r 1) (yq_at (r 0) ((1 * (r 9) + 0) + 0) ((1 * (r 12) + 0) + 0) ((1 * (r 15) + 0) + 0) ((1 * (r 18) + 0) + 0)) (2 * (r 2)).toNat) = 1 ∧ ((1 * (r 20) + 0) + 0) = ((1 * (r 5) + 0) + 0) + ((1 * (r 19) + 0) + 0) ∧ ((1 * (r 19) + 0) + 0) ≤ (r 2) ∧ (g 2) = yq_ap (((1 * (r 5) + 0) + 0) + ((1 * (r 19) + 0) + 0)) ((1 * (r 5) + 0) + 0) (yq_vx (yq_fat (r 0) (g0 8) (g0 10) (g0 12) (g0 14)) (yq_at (r 0) ((1 * (r 9) + 0) + 0) ((1 * (r 12) + 0) + 0) ((1 * (r 15) + 0) + 0) ((1 * (r 18) + 0) + 0)) (r 1) ((1 * (r 5) + 0) + 0) 0) (g0 2) ∧ (g 3) = yq_ap (((1 * (r 5) + 0) + 0) + ((1 * (r 19) + 0) + 0)) ((1 * (r 5) + 0) + 0) (yq_vx (yq_fat (r 0) (g0 8) (g0 10) (g0 12) (g0 14)) (yq_at (r 0) ((1 * (r 9) + 0) + 0) ((1 * (r 12) + 0) + 0) ((1 * (r 15) + 0) + 0) ((1 * (r 18) + 0) + 0)) (r 1) ((1 * (r 5) + 0) + 0) 1) (g0 3) ∧ (g 4) = yq_ap (((1 * (r 5) + 0) + 0) + ((1 * (r 19) + 0) + 0)) ((1 * (r 5) + 0) + 0) (yq_ct (r 3)) (g0 4) ∧ (g 5) = yq_ap (((1 * (r 5) + 0) + 0) + ((1 * (r 19) + 0) + 0)) ((1 * (r 5) + 0) + 0) (yq_ct 1) (g0 5)) ∧ ((1 * (r 21) + 0) + 0) = ye_wr ((1 * (r 6) + 0) + 0) ((1 * (r 19) + 0) + 0)
  | 1, g0, r, g => ((yq_at (r 0) ((1 * (r 7) + 0) + 0) ((1 * (r 10) + 0) + 0) ((1 * (r 13) + 0) + 0) ((1 * (r 16) + 0) + 0)) ≠ 0 ∧ (0 ≤ (r 1) ∧ (r 1) + 2 * (r 2) - 2 < (yq_at (r 0) ((1 * (r 9) + 0) + 0) ((1 * (r 12) + 0) + 0) ((1 * (r 15) + 0) + 0) ((1 * (r 18) + 0) + 0))) ∧ (yq_nr (yq_fat (r 0) (g0 8) (g0 10) (g0 12) (g0 14)) (r 1) (yq_at (r 0) ((1 * (r 9) + 0) + 0) ((1 * (r 12) + 0) + 0) ((1 * (r 15) + 0) + 0) ((1 * (r 18) + 0) + 0)) (2 * (r 2)).toNat) = 1 ∧ ((1 * (r 22) + 0) + 0) = ((1 * (r 5) + 0) + 0) + ((1 * (r 19) + 0) + 0) ∧ ((1 * (r 19) + 0) + 0) + 1 ≤ (r 2) ∧ ((1 * (r 20) + 0) + 0) = (r 1) + 2 * ((1 * (r 19) + 0) + 0) ∧ (g 2) = yq_ap (((1 * (r 5) + 0) + 0) + ((1 * (r 19) + 0) + 0)) ((1 * (r 5) + 0) + 0) (yq_vx (yq_fat (r 0) (g0 8) (g0 10) (g0 12) (g0 14)) (yq_at (r 0) ((1 * (r 9) + 0) + 0) ((1 * (r 12) + 0) + 0) ((1 * (r 15) + 0) + 0) ((1 * (r 18) + 0) + 0)) (r 1) ((1 * (r 5) + 0) + 0) 0) (g0 2) ∧ (g 3) = yq_ap (((1 * (r 5) + 0) + 0) + ((1 * (r 19) + 0) + 0)) ((1 * (r 5) + 0) + 0) (yq_vx (yq_fat (r 0) (g0 8) (g0 10) (g0 12) (g0 14)) (yq_at (r 0) ((1 * (r 9) + 0) + 0) ((1 * (r 12) + 0) + 0) ((1 * (r 15) + 0) + 0) ((1 * (r 18) + 0) + 0)) (r 1) ((1 * (r 5) + 0) + 0) 1) (g0 3) ∧ (g 4) = yq_ap (((1 * (r 5) + 0) + 0) + ((1 * (r 19) + 0) + 0)) ((1 * (r 5) + 0) + 0) (yq_ct (r 3)) (g0 4) ∧ (g 5) = yq_ap (((1 * (r 5) + 0) + 0) + ((1 * (r 19) + 0) + 0)) ((1 * (r 5) + 0) + 0) (yq_ct 1) (g0 5) ∧ ((1 * (r 21) + 0) + 0) = (yq_vx (yq_fat (r 0) (g0 8) (g0 10) (g0 12) (g0 14)) (yq_at (r 0) ((1 * (r 9) + 0) + 0) ((1 * (r 12) + 0) + 0) ((1 * (r 15) + 0) + 0) ((1 * (r 18) + 0) + 0)) (r 1) ((1 * (r 5) + 0) + 0) 0) (((1 * (r 5) + 0) + 0) + ((1 * (r 19) + 0) + 0)).toNat) ∧ ((1 * (r 23) + 0) + 0) = ye_wr ((1 * (r 6) + 0) + 0) ((1 * (r 19) + 0) + 0)
  | 2, g0, r, g => ((yq_at (r 0) ((1 * (r 7) + 0) + 0) ((1 * (r 10) + 0) + 0) ((1 * (r 13) + 0) + 0) ((1 * (r 16) + 0) + 0)) ≠ 0 ∧ (0 ≤ (r 1) ∧ (r 1) + 2 * (r 2) - 2 < (yq_at (r 0) ((1 * (r 9) + 0) + 0) ((1 * (r 12) + 0) + 0) ((1 * (r 15) + 0) + 0) ((1 * (r 18) + 0) + 0))) ∧ (yq_nr (yq_fat (r 0) (g0 8) (g0 10) (g0 12) (g0 14)) (r 1) (yq_at (r 0) ((1 * (r 9) + 0) + 0) ((1 * (r 12) + 0) + 0) ((1 * (r 15) + 0) + 0) ((1 * (r 18) + 0) + 0)) (2 * (r 2)).toNat) = 1 ∧ ((1 * (r 22) + 0) + 0) = ((1 * (r 5) + 0) + 0) + ((1 * (r 19) + 0) + 0) ∧ ((1 * (r 19) + 0) + 0) + 1 ≤ (r 2) ∧ (g 2) = yq_ap (((1 * (r 5) + 0) + 0) + ((1 * (r 19) + 0) + 0)) ((1 * (r 5) + 0) + 0) (yq_vx (yq_fat (r 0) (g0 8) (g0 10) (g0 12) (g0 14)) (yq_at (r 0) ((1 * (r 9) + 0) + 0) ((1 * (r 12) + 0) + 0) ((1 * (r 15) + 0) + 0) ((1 * (r 18) + 0) + 0)) (r 1) ((1 * (r 5) + 0) + 0) 0) (g0 2) ∧ (g 3) = yq_ap (((1 * (r 5) + 0) + 0) + ((1 * (r 19) + 0) + 0)) ((1 * (r 5) + 0) + 0) (yq_vx (yq_fat (r 0) (g0 8) (g0 10) (g0 12) (g0 14)) (yq_at (r 0) ((1 * (r 9) + 0) + 0) ((1 * (r 12) + 0) + 0) ((1 * (r 15) + 0) + 0) ((1 * (r 18) + 0) + 0)) (r 1) ((1 * (r 5) + 0) + 0) 1) (g0 3) ∧ (g 4) = yq_ap (((1 * (r 5) + 0) + 0) + ((1 * (r 19) + 0) + 0)) ((1 * (r 5) + 0) + 0) (yq_ct (r 3)) (g0 4) ∧ (g 5) = yq_ap (((1 * (r 5) + 0) + 0) + ((1 * (r 19) + 0) + 0)) ((1 * (r 5) + 0) + 0) (yq_ct 1) (g0 5) ∧ ((1 * (r 21) + 0) + 0) = (yq_vx (yq_fat (r 0) (g0 8) (g0 10) (g0 12) (g0 14)) (yq_at (r 0) ((1 * (r 9) + 0) + 0) ((1 * (r 12) + 0) + 0) ((1 * (r 15) + 0) + 0) ((1 * (r 18) + 0) + 0)) (r 1) ((1 * (r 5) + 0) + 0) 0) (((1 * (r 5) + 0) + 0) + ((1 * (r 19) + 0) + 0)).toNat ∧ ((1 * (r 20) + 0) + 0) = (yq_vx (yq_fat (r 0) (g0 8) (g0 10) (g0 12) (g0 14)) (yq_at (r 0) ((1 * (r 9) + 0) + 0) ((1 * (r 12) + 0) + 0) ((1 * (r 15) + 0) + 0) ((1 * (r 18) + 0) + 0)) (r 1) ((1 * (r 5) + 0) + 0) 1) (((1 * (r 5) + 0) + 0) + ((1 * (r 19) + 0) + 0)).toNat) ∧ ((1 * (r 23) + 0) + 0) = ye_wr ((1 * (r 6) + 0) + 0) ((1 * (r 19) + 0) + 0)
  | _, _, _, _ => True
noncomputable def xP_155 : yt_Ph
  | 0, r, g0, g => (((r 19) = yq_tr (r 0) (r 1) (r 2) (r 3) (yq_at (r 0) ((1 * (r 7) + 0) + 0) ((1 * (r 10) + 0) + 0) ((1 * (r 13) + 0) + 0) ((1 * (r 16) + 0) + 0)) (yq_at (r 0) ((1 * (r 9) + 0) + 0) ((1 * (r 12) + 0) + 0) ((1 * (r 15) + 0) + 0) ((1 * (r 18) + 0) + 0)) (yq_nr (yq_fat (r 0) (g0 8) (g0 10) (g0 12) (g0 14)) (r 1) (yq_at (r 0) ((1 * (r 9) + 0) + 0) ((1 * (r 12) + 0) + 0) ((1 * (r 15) + 0) + 0) ((1 * (r 18) + 0) + 0)) (2 * (r 2)).toNat) ((1 * (r 5) + 0) + 0) ∧ ((1 * (r 21) + 0) + 0) = yq_tn (r 19) ((1 * (r 5) + 0) + 0)) ∧ (g 2) = yq_ap ((1 * (r 21) + 0) + 0) ((1 * (r 5) + 0) + 0) (yq_vx (yq_fat (r 0) (g0 8) (g0 10) (g0 12) (g0 14)) (yq_at (r 0) ((1 * (r 9) + 0) + 0) ((1 * (r 12) + 0) + 0) ((1 * (r 15) + 0) + 0) ((1 * (r 18) + 0) + 0)) (r 1) ((1 * (r 5) + 0) + 0) 0) (g0 2) ∧ (g 3) = yq_ap ((1 * (r 21) + 0) + 0) ((1 * (r 5) + 0) + 0) (yq_vx (yq_fat (r 0) (g0 8) (g0 10) (g0 12) (g0 14)) (yq_at (r 0) ((1 * (r 9) + 0) + 0) ((1 * (r 12) + 0) + 0) ((1 * (r 15) + 0) + 0) ((1 * (r 18) + 0) + 0)) (r 1) ((1 * (r 5) + 0) + 0) 1) (g0 3) ∧ (g 4) = yq_ap ((1 * (r 21) + 0) + 0) ((1 * (r 5) + 0) + 0) (yq_ct (r 3)) (g0 4) ∧ (g 5) = yq_ap ((1 * (r 21) + 0) + 0) ((1 * (r 5) + 0) + 0) (yq_ct 1) (g0 5)) ∧ ((1 * (r 22) + 0) + 0) = ye_wr ((1 * (r 6) + 0) + 0) (((1 * (r 21) + 0) + 0) - ((1 * (r 5) + 0) + 0))
  | _, _, _, _ => True
noncomputable def xR_155 : yt_Ps := fun r g0 => True
noncomputable def xT_155 : yt_Tb := fun d => match d with
  | 118 => xP_154
  | 119 => xP_153
  | 130 => xP_126
  | _ => fun _ _ _ _ => True
noncomputable def xU_155 : Nat → yt_Ps := fun d => match d with
  | 118 => xR_154
  | 119 => xR_153
  | 130 => xR_126
  | _ => fun _ _ => True
theorem xw_155_0_0 : yt_hold xT_155 xk_155 xq_155.2.2.1 xG_155 xP_155 xU_155 19 xk_155.2.1.2.2.2 (fun g0 r g => xR_155 r g0 ∧ g = g0) (1000, ([((-2147483648), (-1)), ((-2147483648), 2147483647), ((-2147483648), 2147483647), ((-2147483648), 2147483647), ((-2147483648), 2147483647), (0, 40), ((-2147483648), 2147483647), (0, 1), ((-2147483648), 2147483647), (0, 100), (0, 1), ((-2147483648), 2147483647), (0, 100), (0, 1), ((-2147483648), 2147483647), (0, 100), (0, 1), ((-2147483648), 2147483647), (0, 100), ((-2147483648), 0)], []), [([], (-1)), ([(19, 1)], 0), ([(5, 1)], 0), ([(6, 1)], 0)], [], []) := by
  intro g0 r gi g hok hh hars hfr hG
  have b0 : (-2147483648) ≤ r 0 ∧ r 0 ≤ (-1) := hok.1 0 ((-2147483648), (-1)) rfl
  have b1 : (-2147483648) ≤ r 1 ∧ r 1 ≤ 2147483647 := hok.1 1 ((-2147483648), 2147483647) rfl
  have b2 : (-2147483648) ≤ r 2 ∧ r 2 ≤ 2147483647 := hok.1 2 ((-2147483648), 2147483647) rfl
  have b3 : (-2147483648) ≤ r 3 ∧ r 3 ≤ 2147483647 := hok.1 3 ((-2147483648), 2147483647) rfl
  have b4 : (-2147483648) ≤ r 4 ∧ r 4 ≤ 2147483647 := hok.1 4 ((-2147483648), 2147483647) rfl
  have b5 : 0 ≤ r 5 ∧ r 5 ≤ 40 := hok.1 5 (0, 40) rfl
  have b6 : (-2147483648) ≤ r 6 ∧ r 6 ≤ 2147483647 := hok.1 6 ((-2147483648), 2147483647) rfl
  have b7 : 0 ≤ r 7 ∧ r 7 ≤ 1 := hok.1 7 (0, 1) rfl
  have b8 : (-2147483648) ≤ r 8 ∧ r 8 ≤ 2147483647 := hok.1 8 ((-2147483648), 2147483647) rfl
  have b9 : 0 ≤ r 9 ∧ r 9 ≤ 100 := hok.1 9 (0, 100) rfl
  have b10 : 0 ≤ r 10 ∧ r 10 ≤ 1 := hok.1 10 (0, 1) rfl
  have b11 : (-2147483648) ≤ r 11 ∧ r 11 ≤ 2147483647 := hok.1 11 ((-2147483648), 2147483647) rfl
  have b12 : 0 ≤ r 12 ∧ r 12 ≤ 100 := hok.1 12 (0, 100) rfl
  have b13 : 0 ≤ r 13 ∧ r 13 ≤ 1 := hok.1 13 (0, 1) rfl
  have b14 : (-2147483648) ≤ r 14 ∧ r 14 ≤ 2147483647 := hok.1 14 ((-2147483648), 2147483647) rfl
  have b15 : 0 ≤ r 15 ∧ r 15 ≤ 100 := hok.1 15 (0, 100) rfl
  have b16 : 0 ≤ r 16 ∧ r 16 ≤ 1 := hok.1 16 (0, 1) rfl
  have b17 : (-2147483648) ≤ r 17 ∧ r 17 ≤ 2147483647 := hok.1 17 ((-2147483648), 2147483647) rfl
  have b18 : 0 ≤ r 18 ∧ r 18 ≤ 100 := hok.1 18 (0, 100) rfl
  have b19 : (-2147483648) ≤ r 19 ∧ r 19 ≤ 0 := hok.1 19 ((-2147483648), 0) rfl
  obtain ⟨hG, hgi⟩ := hG
  have hG : True := hG
  have hh : g = gi := hh
  subst hh
  refine yt_dalt (by decide) (by decide) ?_
  rw [show xk_155.2.1.2.1.1.length = 19 from rfl]
  show ((((0 : Int) + (-1)) = yq_tr ((1 * r 0 + 0) + 0) ((1 * r 1 + 0) + 0) ((1 * r 2 + 0) + 0) ((1 * r 3 + 0) + 0) (yq_at ((1 * r 0 + 0) + 0) ((1 * ((1 * r 7 + 0) + 0) + 0) + 0) ((1 * ((1 * r 10 + 0) + 0) + 0) + 0) ((1 * ((1 * r 13 + 0) + 0) + 0) + 0) ((1 * ((1 * r 16 + 0) + 0) + 0) + 0)) (yq_at ((1 * r 0 + 0) + 0) ((1 * ((1 * r 9 + 0) + 0) + 0) + 0) ((1 * ((1 * r 12 + 0) + 0) + 0) + 0) ((1 * ((1 * r 15 + 0) + 0) + 0) + 0) ((1 * ((1 * r 18 + 0) + 0) + 0) + 0)) (yq_nr (yq_fat ((1 * r 0 + 0) + 0) (g0 8) (g0 10) (g0 12) (g0 14)) ((1 * r 1 + 0) + 0) (yq_at ((1 * r 0 + 0) + 0) ((1 * ((1 * r 9 + 0) + 0) + 0) + 0) ((1 * ((1 * r 12 + 0) + 0) + 0) + 0) ((1 * ((1 * r 15 + 0) + 0) + 0) + 0) ((1 * ((1 * r 18 + 0) + 0) + 0) + 0)) (2 * ((1 * r 2 + 0) + 0)).toNat) ((1 * ((1 * r 5 + 0) + 0) + 0) + 0) ∧ ((1 * ((1 * r 5 + 0) + 0) + 0) + 0) = yq_tn ((0 : Int) + (-1)) ((1 * ((1 * r 5 + 0) + 0) + 0) + 0)) ∧ (g 2) = yq_ap ((1 * ((1 * r 5 + 0) + 0) + 0) + 0) ((1 * ((1 * r 5 + 0) + 0) + 0) + 0) (yq_vx (yq_fat ((1 * r 0 + 0) + 0) (g0 8) (g0 10) (g0 12) (g0 14)) (yq_at ((1 * r 0 + 0) + 0) ((1 * ((1 * r 9 + 0) + 0) + 0) + 0) ((1 * ((1 * r 12 + 0) + 0) + 0) + 0) ((1 * ((1 * r 15 + 0) + 0) + 0) + 0) ((1 * ((1 * r 18 + 0) + 0) + 0) + 0)) ((1 * r 1 + 0) + 0) ((1 * ((1 * r 5 + 0) + 0) + 0) + 0) 0) (g0 2) ∧ (g 3) = yq_ap ((1 * ((1 * r 5 + 0) + 0) + 0) + 0) ((1 * ((1 * r 5 + 0) + 0) + 0) + 0) (yq_vx (yq_fat ((1 * r 0 + 0) + 0) (g0 8) (g0 10) (g0 12) (g0 14)) (yq_at ((1 * r 0 + 0) + 0) ((1 * ((1 * r 9 + 0) + 0) + 0) + 0) ((1 * ((1 * r 12 + 0) + 0) + 0) + 0) ((1 * ((1 * r 15 + 0) + 0) + 0) + 0) ((1 * ((1 * r 18 + 0) + 0) + 0) + 0)) ((1 * r 1 + 0) + 0) ((1 * ((1 * r 5 + 0) + 0) + 0) + 0) 1) (g0 3) ∧ (g 4) = yq_ap ((1 * ((1 * r 5 + 0) + 0) + 0) + 0) ((1 * ((1 * r 5 + 0) + 0) + 0) + 0) (yq_ct ((1 * r 3 + 0) + 0)) (g0 4) ∧ (g 5) = yq_ap ((1 * ((1 * r 5 + 0) + 0) + 0) + 0) ((1 * ((1 * r 5 + 0) + 0) + 0) + 0) (yq_ct 1) (g0 5)) ∧ ((1 * ((1 * r 6 + 0) + 0) + 0) + 0) = ye_wr ((1 * ((1 * r 6 + 0) + 0) + 0) + 0) (((1 * ((1 * r 5 + 0) + 0) + 0) + 0) - ((1 * ((1 * r 5 + 0) + 0) + 0) + 0))
  try simp only [Int.one_mul, Int.zero_add, Int.add_zero]
  refine ⟨?_, ?_⟩
  · refine ⟨?_, ?_⟩
    · refine ⟨?_, ?_⟩
      · unfold yq_tr
        rw [if_neg (by omega)] <;> omega
      · unfold yq_tn
        repeat' split
        all_goals omega
    · refine ⟨?_, ?_, ?_, ?_⟩
      · rw [hgi]
        exact yq_ap_0 (by omega)
      · rw [hgi]
        exact yq_ap_0 (by omega)
      · rw [hgi]
        exact yq_ap_0 (by omega)
      · rw [hgi]
        exact yq_ap_0 (by omega)
  · exact (ye_w0 (by omega) (by omega)).symm.trans (congrArg (ye_wr _) (show (0 : Int) = _ by omega))
theorem xw_155_0_1 : yt_hold xT_155 xk_155 xq_155.2.2.1 xG_155 xP_155 xU_155 19 xk_155.2.1.2.2.2 (fun g0 r g => xR_155 r g0 ∧ g = g0) (1000, ([(4, 2147483647), ((-2147483648), 2147483647), ((-2147483648), 2147483647), ((-2147483648), 2147483647), ((-2147483648), 2147483647), (0, 40), ((-2147483648), 2147483647), (0, 1), ((-2147483648), 2147483647), (0, 100), (0, 1), ((-2147483648), 2147483647), (0, 100), (0, 1), ((-2147483648), 2147483647), (0, 100), (0, 1), ((-2147483648), 2147483647), (0, 100), ((-2147483648), 0)], []), [([], (-1)), ([(19, 1)], 0), ([(5, 1)], 0), ([(6, 1)], 0)], [], []) := by
  intro g0 r gi g hok hh hars hfr hG
  have b0 : 4 ≤ r 0 ∧ r 0 ≤ 2147483647 := hok.1 0 (4, 2147483647) rfl
  have b1 : (-2147483648) ≤ r 1 ∧ r 1 ≤ 2147483647 := hok.1 1 ((-2147483648), 2147483647) rfl
  have b2 : (-2147483648) ≤ r 2 ∧ r 2 ≤ 2147483647 := hok.1 2 ((-2147483648), 2147483647) rfl
  have b3 : (-2147483648) ≤ r 3 ∧ r 3 ≤ 2147483647 := hok.1 3 ((-2147483648), 2147483647) rfl
  have b4 : (-2147483648) ≤ r 4 ∧ r 4 ≤ 2147483647 := hok.1 4 ((-2147483648), 2147483647) rfl
  have b5 : 0 ≤ r 5 ∧ r 5 ≤ 40 := hok.1 5 (0, 40) rfl
  have b6 : (-2147483648) ≤ r 6 ∧ r 6 ≤ 2147483647 := hok.1 6 ((-2147483648), 2147483647) rfl
  have b7 : 0 ≤ r 7 ∧ r 7 ≤ 1 := hok.1 7 (0, 1) rfl
  have b8 : (-2147483648) ≤ r 8 ∧ r 8 ≤ 2147483647 := hok.1 8 ((-2147483648), 2147483647) rfl
  have b9 : 0 ≤ r 9 ∧ r 9 ≤ 100 := hok.1 9 (0, 100) rfl
  have b10 : 0 ≤ r 10 ∧ r 10 ≤ 1 := hok.1 10 (0, 1) rfl
  have b11 : (-2147483648) ≤ r 11 ∧ r 11 ≤ 2147483647 := hok.1 11 ((-2147483648), 2147483647) rfl
  have b12 : 0 ≤ r 12 ∧ r 12 ≤ 100 := hok.1 12 (0, 100) rfl
  have b13 : 0 ≤ r 13 ∧ r 13 ≤ 1 := hok.1 13 (0, 1) rfl
  have b14 : (-2147483648) ≤ r 14 ∧ r 14 ≤ 2147483647 := hok.1 14 ((-2147483648), 2147483647) rfl
  have b15 : 0 ≤ r 15 ∧ r 15 ≤ 100 := hok.1 15 (0, 100) rfl
  have b16 : 0 ≤ r 16 ∧ r 16 ≤ 1 := hok.1 16 (0, 1) rfl
  have b17 : (-2147483648) ≤ r 17 ∧ r 17 ≤ 2147483647 := hok.1 17 ((-2147483648), 2147483647) rfl
  have b18 : 0 ≤ r 18 ∧ r 18 ≤ 100 := hok.1 18 (0, 100) rfl
  have b19 : (-2147483648) ≤ r 19 ∧ r 19 ≤ 0 := hok.1 19 ((-2147483648), 0) rfl
  obtain ⟨hG, hgi⟩ := hG
  have hG : True := hG
  have hh : g = gi := hh
  subst hh
  refine yt_dalt (by decide) (by decide) ?_
  rw [show xk_155.2.1.2.1.1.length = 19 from rfl]
  show ((((0 : Int) + (-1)) = yq_tr ((1 * r 0 + 0) + 0) ((1 * r 1 + 0) + 0) ((1 * r 2 + 0) + 0) ((1 * r 3 + 0) + 0) (yq_at ((1 * r 0 + 0) + 0) ((1 * ((1 * r 7 + 0) + 0) + 0) + 0) ((1 * ((1 * r 10 + 0) + 0) + 0) + 0) ((1 * ((1 * r 13 + 0) + 0) + 0) + 0) ((1 * ((1 * r 16 + 0) + 0) + 0) + 0)) (yq_at ((1 * r 0 + 0) + 0) ((1 * ((1 * r 9 + 0) + 0) + 0) + 0) ((1 * ((1 * r 12 + 0) + 0) + 0) + 0) ((1 * ((1 * r 15 + 0) + 0) + 0) + 0) ((1 * ((1 * r 18 + 0) + 0) + 0) + 0)) (yq_nr (yq_fat ((1 * r 0 + 0) + 0) (g0 8) (g0 10) (g0 12) (g0 14)) ((1 * r 1 + 0) + 0) (yq_at ((1 * r 0 + 0) + 0) ((1 * ((1 * r 9 + 0) + 0) + 0) + 0) ((1 * ((1 * r 12 + 0) + 0) + 0) + 0) ((1 * ((1 * r 15 + 0) + 0) + 0) + 0) ((1 * ((1 * r 18 + 0) + 0) + 0) + 0)) (2 * ((1 * r 2 + 0) + 0)).toNat) ((1 * ((1 * r 5 + 0) + 0) + 0) + 0) ∧ ((1 * ((1 * r 5 + 0) + 0) + 0) + 0) = yq_tn ((0 : Int) + (-1)) ((1 * ((1 * r 5 + 0) + 0) + 0) + 0)) ∧ (g 2) = yq_ap ((1 * ((1 * r 5 + 0) + 0) + 0) + 0) ((1 * ((1 * r 5 + 0) + 0) + 0) + 0) (yq_vx (yq_fat ((1 * r 0 + 0) + 0) (g0 8) (g0 10) (g0 12) (g0 14)) (yq_at ((1 * r 0 + 0) + 0) ((1 * ((1 * r 9 + 0) + 0) + 0) + 0) ((1 * ((1 * r 12 + 0) + 0) + 0) + 0) ((1 * ((1 * r 15 + 0) + 0) + 0) + 0) ((1 * ((1 * r 18 + 0) + 0) + 0) + 0)) ((1 * r 1 + 0) + 0) ((1 * ((1 * r 5 + 0) + 0) + 0) + 0) 0) (g0 2) ∧ (g 3) = yq_ap ((1 * ((1 * r 5 + 0) + 0) + 0) + 0) ((1 * ((1 * r 5 + 0) + 0) + 0) + 0) (yq_vx (yq_fat ((1 * r 0 + 0) + 0) (g0 8) (g0 10) (g0 12) (g0 14)) (yq_at ((1 * r 0 + 0) + 0) ((1 * ((1 * r 9 + 0) + 0) + 0) + 0) ((1 * ((1 * r 12 + 0) + 0) + 0) + 0) ((1 * ((1 * r 15 + 0) + 0) + 0) + 0) ((1 * ((1 * r 18 + 0) + 0) + 0) + 0)) ((1 * r 1 + 0) + 0) ((1 * ((1 * r 5 + 0) + 0) + 0) + 0) 1) (g0 3) ∧ (g 4) = yq_ap ((1 * ((1 * r 5 + 0) + 0) + 0) + 0) ((1 * ((1 * r 5 + 0) + 0) + 0) + 0) (yq_ct ((1 * r 3 + 0) + 0)) (g0 4) ∧ (g 5) = yq_ap ((1 * ((1 * r 5 + 0) + 0) + 0) + 0) ((1 * ((1 * r 5 + 0) + 0) + 0) + 0) (yq_ct 1) (g0 5)) ∧ ((1 * ((1 * r 6 + 0) + 0) + 0) + 0) = ye_wr ((1 * ((1 * r 6 + 0) + 0) + 0) + 0) (((1 * ((1 * r 5 + 0) + 0) + 0) + 0) - ((1 * ((1 * r 5 + 0) + 0) + 0) + 0))
  try simp only [Int.one_mul, Int.zero_add, Int.add_zero]
  refine ⟨?_, ?_⟩
  · refine ⟨?_, ?_⟩
    · refine ⟨?_, ?_⟩
      · unfold yq_tr
        rw [if_neg (by omega)] <;> omega
      · unfold yq_tn
        repeat' split
        all_goals omega
    · refine ⟨?_, ?_, ?_, ?_⟩
      · rw [hgi]
        exact yq_ap_0 (by omega)
      · rw [hgi]
        exact yq_ap_0 (by omega)
      · rw [hgi]
        exact yq_ap_0 (by omega)
      · rw [hgi]
        exact yq_ap_0 (by omega)
  · exact (ye_w0 (by omega) (by omega)).symm.trans (congrArg (ye_wr _) (show (0 : Int) = _ by omega))
theorem xw_155_0_2 : yt_hold xT_155 xk_155 xq_155.2.2.1 xG_155 xP_155 xU_155 19 xk_155.2.1.2.2.2 (fun g0 r g => xR_155 r g0 ∧ g = g0) (1000, ([(0, 3), ((-2147483648), 2147483647), ((-2147483648), 2147483647), ((-2147483648), (-1)), ((-2147483648), 2147483647), (0, 40), ((-2147483648), 2147483647), (0, 1), ((-2147483648), 2147483647), (0, 100), (0, 1), ((-2147483648), 2147483647), (0, 100), (0, 1), ((-2147483648), 2147483647), (0, 100), (0, 1), ((-2147483648), 2147483647), (0, 100), ((-2147483648), 0)], []), [([], (-1)), ([(19, 1)], 0), ([(5, 1)], 0), ([(6, 1)], 0)], [], []) := by
  intro g0 r gi g hok hh hars hfr hG
  have b0 : 0 ≤ r 0 ∧ r 0 ≤ 3 := hok.1 0 (0, 3) rfl
  have b1 : (-2147483648) ≤ r 1 ∧ r 1 ≤ 2147483647 := hok.1 1 ((-2147483648), 2147483647) rfl
  have b2 : (-2147483648) ≤ r 2 ∧ r 2 ≤ 2147483647 := hok.1 2 ((-2147483648), 2147483647) rfl
  have b3 : (-2147483648) ≤ r 3 ∧ r 3 ≤ (-1) := hok.1 3 ((-2147483648), (-1)) rfl
  have b4 : (-2147483648) ≤ r 4 ∧ r 4 ≤ 2147483647 := hok.1 4 ((-2147483648), 2147483647) rfl
  have b5 : 0 ≤ r 5 ∧ r 5 ≤ 40 := hok.1 5 (0, 40) rfl
  have b6 : (-2147483648) ≤ r 6 ∧ r 6 ≤ 2147483647 := hok.1 6 ((-2147483648), 2147483647) rfl
  have b7 : 0 ≤ r 7 ∧ r 7 ≤ 1 := hok.1 7 (0, 1) rfl
  have b8 : (-2147483648) ≤ r 8 ∧ r 8 ≤ 2147483647 := hok.1 8 ((-2147483648), 2147483647) rfl
  have b9 : 0 ≤ r 9 ∧ r 9 ≤ 100 := hok.1 9 (0, 100) rfl
  have b10 : 0 ≤ r 10 ∧ r 10 ≤ 1 := hok.1 10 (0, 1) rfl
  have b11 : (-2147483648) ≤ r 11 ∧ r 11 ≤ 2147483647 := hok.1 11 ((-2147483648), 2147483647) rfl
  have b12 : 0 ≤ r 12 ∧ r 12 ≤ 100 := hok.1 12 (0, 100) rfl
  have b13 : 0 ≤ r 13 ∧ r 13 ≤ 1 := hok.1 13 (0, 1) rfl
  have b14 : (-2147483648) ≤ r 14 ∧ r 14 ≤ 2147483647 := hok.1 14 ((-2147483648), 2147483647) rfl
  have b15 : 0 ≤ r 15 ∧ r 15 ≤ 100 := hok.1 15 (0, 100) rfl
  have b16 : 0 ≤ r 16 ∧ r 16 ≤ 1 := hok.1 16 (0, 1) rfl
  have b17 : (-2147483648) ≤ r 17 ∧ r 17 ≤ 2147483647 := hok.1 17 ((-2147483648), 2147483647) rfl
  have b18 : 0 ≤ r 18 ∧ r 18 ≤ 100 := hok.1 18 (0, 100) rfl
  have b19 : (-2147483648) ≤ r 19 ∧ r 19 ≤ 0 := hok.1 19 ((-2147483648), 0) rfl
  obtain ⟨hG, hgi⟩ := hG
  have hG : True := hG
  have hh : g = gi := hh
  subst hh
  refine yt_dalt (by decide) (by decide) ?_
  rw [show xk_155.2.1.2.1.1.length = 19 from rfl]
  show ((((0 : Int) + (-1)) = yq_tr ((1 * r 0 + 0) + 0) ((1 * r 1 + 0) + 0) ((1 * r 2 + 0) + 0) ((1 * r 3 + 0) + 0) (yq_at ((1 * r 0 + 0) + 0) ((1 * ((1 * r 7 + 0) + 0) + 0) + 0) ((1 * ((1 * r 10 + 0) + 0) + 0) + 0) ((1 * ((1 * r 13 + 0) + 0) + 0) + 0) ((1 * ((1 * r 16 + 0) + 0) + 0) + 0)) (yq_at ((1 * r 0 + 0) + 0) ((1 * ((1 * r 9 + 0) + 0) + 0) + 0) ((1 * ((1 * r 12 + 0) + 0) + 0) + 0) ((1 * ((1 * r 15 + 0) + 0) + 0) + 0) ((1 * ((1 * r 18 + 0) + 0) + 0) + 0)) (yq_nr (yq_fat ((1 * r 0 + 0) + 0) (g0 8) (g0 10) (g0 12) (g0 14)) ((1 * r 1 + 0) + 0) (yq_at ((1 * r 0 + 0) + 0) ((1 * ((1 * r 9 + 0) + 0) + 0) + 0) ((1 * ((1 * r 12 + 0) + 0) + 0) + 0) ((1 * ((1 * r 15 + 0) + 0) + 0) + 0) ((1 * ((1 * r 18 + 0) + 0) + 0) + 0)) (2 * ((1 * r 2 + 0) + 0)).toNat) ((1 * ((1 * r 5 + 0) + 0) + 0) + 0) ∧ ((1 * ((1 * r 5 + 0) + 0) + 0) + 0) = yq_tn ((0 : Int) + (-1)) ((1 * ((1 * r 5 + 0) + 0) + 0) + 0)) ∧ (g 2) = yq_ap ((1 * ((1 * r 5 + 0) + 0) + 0) + 0) ((1 * ((1 * r 5 + 0) + 0) + 0) + 0) (yq_vx (yq_fat ((1 * r 0 + 0) + 0) (g0 8) (g0 10) (g0 12) (g0 14)) (yq_at ((1 * r 0 + 0) + 0) ((1 * ((1 * r 9 + 0) + 0) + 0) + 0) ((1 * ((1 * r 12 + 0) + 0) + 0) + 0) ((1 * ((1 * r 15 + 0) + 0) + 0) + 0) ((1 * ((1 * r 18 + 0) + 0) + 0) + 0)) ((1 * r 1 + 0) + 0) ((1 * ((1 * r 5 + 0) + 0) + 0) + 0) 0) (g0 2) ∧ (g 3) = yq_ap ((1 * ((1 * r 5 + 0) + 0) + 0) + 0) ((1 * ((1 * r 5 + 0) + 0) + 0) + 0) (yq_vx (yq_fat ((1 * r 0 + 0) + 0) (g0 8) (g0 10) (g0 12) (g0 14)) (yq_at ((1 * r 0 + 0) + 0) ((1 * ((1 * r 9 + 0) + 0) + 0) + 0) ((1 * ((1 * r 12 + 0) + 0) + 0) + 0) ((1 * ((1 * r 15 + 0) + 0) + 0) + 0) ((1 * ((1 * r 18 + 0) + 0) + 0) + 0)) ((1 * r 1 + 0) + 0) ((1 * ((1 * r 5 + 0) + 0) + 0) + 0) 1) (g0 3) ∧ (g 4) = yq_ap ((1 * ((1 * r 5 + 0) + 0) + 0) + 0) ((1 * ((1 * r 5 + 0) + 0) + 0) + 0) (yq_ct ((1 * r 3 + 0) + 0)) (g0 4) ∧ (g 5) = yq_ap ((1 * ((1 * r 5 + 0) + 0) + 0) + 0) ((1 * ((1 * r 5 + 0) + 0) + 0) + 0) (yq_ct 1) (g0 5)) ∧ ((1 * ((1 * r 6 + 0) + 0) + 0) + 0) = ye_wr ((1 * ((1 * r 6 + 0) + 0) + 0) + 0) (((1 * ((1 * r 5 + 0) + 0) + 0) + 0) - ((1 * ((1 * r 5 + 0) + 0) + 0) + 0))
  try simp only [Int.one_mul, Int.zero_add, Int.add_zero]
  refine ⟨?_, ?_⟩
  · refine ⟨?_, ?_⟩
    · refine ⟨?_, ?_⟩
      · unfold yq_tr
        rw [if_neg (by omega)] <;> omega
      · unfold yq_tn
        repeat' split
        all_goals omega
    · refine ⟨?_, ?_, ?_, ?_⟩
      · rw [hgi]
        exact yq_ap_0 (by omega)
      · rw [hgi]
        exact yq_ap_0 (by omega)
      · rw [hgi]
        exact yq_ap_0 (by omega)
      · rw [hgi]
        exact yq_ap_0 (by omega)
  · exact (ye_w0 (by omega) (by omega)).symm.trans (congrArg (ye_wr _) (show (0 : Int) = _ by omega))
theorem xw_155_0_3 : yt_hold xT_155 xk_155 xq_155.2.2.1 xG_155 xP_155 xU_155 19 xk_155.2.1.2.2.2 (fun g0 r g => xR_155 r g0 ∧ g = g0) (1000, ([(0, 3), ((-2147483648), 2147483647), ((-2147483648), 2147483647), (2, 2147483647), ((-2147483648), 2147483647), (0, 40), ((-2147483648), 2147483647), (0, 1), ((-2147483648), 2147483647), (0, 100), (0, 1), ((-2147483648), 2147483647), (0, 100), (0, 1), ((-2147483648), 2147483647), (0, 100), (0, 1), ((-2147483648), 2147483647), (0, 100), ((-2147483648), 0)], []), [([], (-1)), ([(19, 1)], 0), ([(5, 1)], 0), ([(6, 1)], 0)], [], []) := by
  intro g0 r gi g hok hh hars hfr hG
  have b0 : 0 ≤ r 0 ∧ r 0 ≤ 3 := hok.1 0 (0, 3) rfl
  have b1 : (-2147483648) ≤ r 1 ∧ r 1 ≤ 2147483647 := hok.1 1 ((-2147483648), 2147483647) rfl
  have b2 : (-2147483648) ≤ r 2 ∧ r 2 ≤ 2147483647 := hok.1 2 ((-2147483648), 2147483647) rfl
  have b3 : 2 ≤ r 3 ∧ r 3 ≤ 2147483647 := hok.1 3 (2, 2147483647) rfl
  have b4 : (-2147483648) ≤ r 4 ∧ r 4 ≤ 2147483647 := hok.1 4 ((-2147483648), 2147483647) rfl
  have b5 : 0 ≤ r 5 ∧ r 5 ≤ 40 := hok.1 5 (0, 40) rfl
  have b6 : (-2147483648) ≤ r 6 ∧ r 6 ≤ 2147483647 := hok.1 6 ((-2147483648), 2147483647) rfl
  have b7 : 0 ≤ r 7 ∧ r 7 ≤ 1 := hok.1 7 (0, 1) rfl
  have b8 : (-2147483648) ≤ r 8 ∧ r 8 ≤ 2147483647 := hok.1 8 ((-2147483648), 2147483647) rfl
  have b9 : 0 ≤ r 9 ∧ r 9 ≤ 100 := hok.1 9 (0, 100) rfl
  have b10 : 0 ≤ r 10 ∧ r 10 ≤ 1 := hok.1 10 (0, 1) rfl
  have b11 : (-2147483648) ≤ r 11 ∧ r 11 ≤ 2147483647 := hok.1 11 ((-2147483648), 2147483647) rfl
  have b12 : 0 ≤ r 12 ∧ r 12 ≤ 100 := hok.1 12 (0, 100) rfl
  have b13 : 0 ≤ r 13 ∧ r 13 ≤ 1 := hok.1 13 (0, 1) rfl
  have b14 : (-2147483648) ≤ r 14 ∧ r 14 ≤ 2147483647 := hok.1 14 ((-2147483648), 2147483647) rfl
  have b15 : 0 ≤ r 15 ∧ r 15 ≤ 100 := hok.1 15 (0, 100) rfl
  have b16 : 0 ≤ r 16 ∧ r 16 ≤ 1 := hok.1 16 (0, 1) rfl
  have b17 : (-2147483648) ≤ r 17 ∧ r 17 ≤ 2147483647 := hok.1 17 ((-2147483648), 2147483647) rfl
  have b18 : 0 ≤ r 18 ∧ r 18 ≤ 100 := hok.1 18 (0, 100) rfl
  have b19 : (-2147483648) ≤ r 19 ∧ r 19 ≤ 0 := hok.1 19 ((-2147483648), 0) rfl
  obtain ⟨hG, hgi⟩ := hG
  have hG : True := hG
  have hh : g = gi := hh
  subst hh
  refine yt_dalt (by decide) (by decide) ?_
  rw [show xk_155.2.1.2.1.1.length = 19 from rfl]
  show ((((0 : Int) + (-1)) = yq_tr ((1 * r 0 + 0) + 0) ((1 * r 1 + 0) + 0) ((1 * r 2 + 0) + 0) ((1 * r 3 + 0) + 0) (yq_at ((1 * r 0 + 0) + 0) ((1 * ((1 * r 7 + 0) + 0) + 0) + 0) ((1 * ((1 * r 10 + 0) + 0) + 0) + 0) ((1 * ((1 * r 13 + 0) + 0) + 0) + 0) ((1 * ((1 * r 16 + 0) + 0) + 0) + 0)) (yq_at ((1 * r 0 + 0) + 0) ((1 * ((1 * r 9 + 0) + 0) + 0) + 0) ((1 * ((1 * r 12 + 0) + 0) + 0) + 0) ((1 * ((1 * r 15 + 0) + 0) + 0) + 0) ((1 * ((1 * r 18 + 0) + 0) + 0) + 0)) (yq_nr (yq_fat ((1 * r 0 + 0) + 0) (g0 8) (g0 10) (g0 12) (g0 14)) ((1 * r 1 + 0) + 0) (yq_at ((1 * r 0 + 0) + 0) ((1 * ((1 * r 9 + 0) + 0) + 0) + 0) ((1 * ((1 * r 12 + 0) + 0) + 0) + 0) ((1 * ((1 * r 15 + 0) + 0) + 0) + 0) ((1 * ((1 * r 18 + 0) + 0) + 0) + 0)) (2 * ((1 * r 2 + 0) + 0)).toNat) ((1 * ((1 * r 5 + 0) + 0) + 0) + 0) ∧ ((1 * ((1 * r 5 + 0) + 0) + 0) + 0) = yq_tn ((0 : Int) + (-1)) ((1 * ((1 * r 5 + 0) + 0) + 0) + 0)) ∧ (g 2) = yq_ap ((1 * ((1 * r 5 + 0) + 0) + 0) + 0) ((1 * ((1 * r 5 + 0) + 0) + 0) + 0) (yq_vx (yq_fat ((1 * r 0 + 0) + 0) (g0 8) (g0 10) (g0 12) (g0 14)) (yq_at ((1 * r 0 + 0) + 0) ((1 * ((1 * r 9 + 0) + 0) + 0) + 0) ((1 * ((1 * r 12 + 0) + 0) + 0) + 0) ((1 * ((1 * r 15 + 0) + 0) + 0) + 0) ((1 * ((1 * r 18 + 0) + 0) + 0) + 0)) ((1 * r 1 + 0) + 0) ((1 * ((1 * r 5 + 0) + 0) + 0) + 0) 0) (g0 2) ∧ (g 3) = yq_ap ((1 * ((1 * r 5 + 0) + 0) + 0) + 0) ((1 * ((1 * r 5 + 0) + 0) + 0) + 0) (yq_vx (yq_fat ((1 * r 0 + 0) + 0) (g0 8) (g0 10) (g0 12) (g0 14)) (yq_at ((1 * r 0 + 0) + 0) ((1 * ((1 * r 9 + 0) + 0) + 0) + 0) ((1 * ((1 * r 12 + 0) + 0) + 0) + 0) ((1 * ((1 * r 15 + 0) + 0) + 0) + 0) ((1 * ((1 * r 18 + 0) + 0) + 0) + 0)) ((1 * r 1 + 0) + 0) ((1 * ((1 * r 5 + 0) + 0) + 0) + 0) 1) (g0 3) ∧ (g 4) = yq_ap ((1 * ((1 * r 5 + 0) + 0) + 0) + 0) ((1 * ((1 * r 5 + 0) + 0) + 0) + 0) (yq_ct ((1 * r 3 + 0) + 0)) (g0 4) ∧ (g 5) = yq_ap ((1 * ((1 * r 5 + 0) + 0) + 0) + 0) ((1 * ((1 * r 5 + 0) + 0) + 0) + 0) (yq_ct 1) (g0 5)) ∧ ((1 * ((1 * r 6 + 0) + 0) + 0) + 0) = ye_wr ((1 * ((1 * r 6 + 0) + 0) + 0) + 0) (((1 * ((1 * r 5 + 0) + 0) + 0) + 0) - ((1 * ((1 * r 5 + 0) + 0) + 0) + 0))
  try simp only [Int.one_mul, Int.zero_add, Int.add_zero]
  refine ⟨?_, ?_⟩
  · refine ⟨?_, ?_⟩
    · refine ⟨?_, ?_⟩
      · unfold yq_tr
        rw [if_neg (by omega)] <;> omega
      · unfold yq_tn
        repeat' split
        all_goals omega
    · refine ⟨?_, ?_, ?_, ?_⟩
      · rw [hgi]
        exact yq_ap_0 (by omega)
      · rw [hgi]
        exact yq_ap_0 (by omega)
      · rw [hgi]
        exact yq_ap_0 (by omega)
      · rw [hgi]
        exact yq_ap_0 (by omega)
  · exact (ye_w0 (by omega) (by omega)).symm.trans (congrArg (ye_wr _) (show (0 : Int) = _ by omega))
theorem xw_155_0_4 : yt_hold xT_155 xk_155 xq_155.2.2.1 xG_155 xP_155 xU_155 19 xk_155.2.1.2.2.2 (fun g0 r g => xR_155 r g0 ∧ g = g0) (1000, ([(0, 3), ((-2147483648), 2147483647), ((-2147483648), 0), (1, 1), ((-2147483648), 2147483647), (0, 40), ((-2147483648), 2147483647), (0, 1), ((-2147483648), 2147483647), (0, 100), (0, 1), ((-2147483648), 2147483647), (0, 100), (0, 1), ((-2147483648), 2147483647), (0, 100), (0, 1), ((-2147483648), 2147483647), (0, 100), ((-2147483648), 0)], []), [([], (-1)), ([(19, 1)], 0), ([(5, 1)], 0), ([(6, 1)], 0)], [], []) := by
  intro g0 r gi g hok hh hars hfr hG
  have b0 : 0 ≤ r 0 ∧ r 0 ≤ 3 := hok.1 0 (0, 3) rfl
  have b1 : (-2147483648) ≤ r 1 ∧ r 1 ≤ 2147483647 := hok.1 1 ((-2147483648), 2147483647) rfl
  have b2 : (-2147483648) ≤ r 2 ∧ r 2 ≤ 0 := hok.1 2 ((-2147483648), 0) rfl
  have b3 : 1 ≤ r 3 ∧ r 3 ≤ 1 := hok.1 3 (1, 1) rfl
  have b4 : (-2147483648) ≤ r 4 ∧ r 4 ≤ 2147483647 := hok.1 4 ((-2147483648), 2147483647) rfl
  have b5 : 0 ≤ r 5 ∧ r 5 ≤ 40 := hok.1 5 (0, 40) rfl
  have b6 : (-2147483648) ≤ r 6 ∧ r 6 ≤ 2147483647 := hok.1 6 ((-2147483648), 2147483647) rfl
  have b7 : 0 ≤ r 7 ∧ r 7 ≤ 1 := hok.1 7 (0, 1) rfl
  have b8 : (-2147483648) ≤ r 8 ∧ r 8 ≤ 2147483647 := hok.1 8 ((-2147483648), 2147483647) rfl
  have b9 : 0 ≤ r 9 ∧ r 9 ≤ 100 := hok.1 9 (0, 100) rfl
  have b10 : 0 ≤ r 10 ∧ r 10 ≤ 1 := hok.1 10 (0, 1) rfl
  have b11 : (-2147483648) ≤ r 11 ∧ r 11 ≤ 2147483647 := hok.1 11 ((-2147483648), 2147483647) rfl
  have b12 : 0 ≤ r 12 ∧ r 12 ≤ 100 := hok.1 12 (0, 100) rfl
  have b13 : 0 ≤ r 13 ∧ r 13 ≤ 1 := hok.1 13 (0, 1) rfl
  have b14 : (-2147483648) ≤ r 14 ∧ r 14 ≤ 2147483647 := hok.1 14 ((-2147483648), 2147483647) rfl
  have b15 : 0 ≤ r 15 ∧ r 15 ≤ 100 := hok.1 15 (0, 100) rfl
  have b16 : 0 ≤ r 16 ∧ r 16 ≤ 1 := hok.1 16 (0, 1) rfl
  have b17 : (-2147483648) ≤ r 17 ∧ r 17 ≤ 2147483647 := hok.1 17 ((-2147483648), 2147483647) rfl
  have b18 : 0 ≤ r 18 ∧ r 18 ≤ 100 := hok.1 18 (0, 100) rfl
  have b19 : (-2147483648) ≤ r 19 ∧ r 19 ≤ 0 := hok.1 19 ((-2147483648), 0) rfl
  obtain ⟨hG, hgi⟩ := hG
  have hG : True := hG
  have hh : g = gi := hh
  subst hh
  refine yt_dalt (by decide) (by decide) ?_
  rw [show xk_155.2.1.2.1.1.length = 19 from rfl]
  show ((((0 : Int) + (-1)) = yq_tr ((1 * r 0 + 0) + 0) ((1 * r 1 + 0) + 0) ((1 * r 2 + 0) + 0) ((1 * r 3 + 0) + 0) (yq_at ((1 * r 0 + 0) + 0) ((1 * ((1 * r 7 + 0) + 0) + 0) + 0) ((1 * ((1 * r 10 + 0) + 0) + 0) + 0) ((1 * ((1 * r 13 + 0) + 0) + 0) + 0) ((1 * ((1 * r 16 + 0) + 0) + 0) + 0)) (yq_at ((1 * r 0 + 0) + 0) ((1 * ((1 * r 9 + 0) + 0) + 0) + 0) ((1 * ((1 * r 12 + 0) + 0) + 0) + 0) ((1 * ((1 * r 15 + 0) + 0) + 0) + 0) ((1 * ((1 * r 18 + 0) + 0) + 0) + 0)) (yq_nr (yq_fat ((1 * r 0 + 0) + 0) (g0 8) (g0 10) (g0 12) (g0 14)) ((1 * r 1 + 0) + 0) (yq_at ((1 * r 0 + 0) + 0) ((1 * ((1 * r 9 + 0) + 0) + 0) + 0) ((1 * ((1 * r 12 + 0) + 0) + 0) + 0) ((1 * ((1 * r 15 + 0) + 0) + 0) + 0) ((1 * ((1 * r 18 + 0) + 0) + 0) + 0)) (2 * ((1 * r 2 + 0) + 0)).toNat) ((1 * ((1 * r 5 + 0) + 0) + 0) + 0) ∧ ((1 * ((1 * r 5 + 0) + 0) + 0) + 0) = yq_tn ((0 : Int) + (-1)) ((1 * ((1 * r 5 + 0) + 0) + 0) + 0)) ∧ (g 2) = yq_ap ((1 * ((1 * r 5 + 0) + 0) + 0) + 0) ((1 * ((1 * r 5 + 0) + 0) + 0) + 0) (yq_vx (yq_fat ((1 * r 0 + 0) + 0) (g0 8) (g0 10) (g0 12) (g0 14)) (yq_at ((1 * r 0 + 0) + 0) ((1 * ((1 * r 9 + 0) + 0) + 0) + 0) ((1 * ((1 * r 12 + 0) + 0) + 0) + 0) ((1 * ((1 * r 15 + 0) + 0) + 0) + 0) ((1 * ((1 * r 18 + 0) + 0) + 0) + 0)) ((1 * r 1 + 0) + 0) ((1 * ((1 * r 5 + 0) + 0) + 0) + 0) 0) (g0 2) ∧ (g 3) = yq_ap ((1 * ((1 * r 5 + 0) + 0) + 0) + 0) ((1 * ((1 * r 5 + 0) + 0) + 0) + 0) (yq_vx (yq_fat ((1 * r 0 + 0) + 0) (g0 8) (g0 10) (g0 12) (g0 14)) (yq_at ((1 * r 0 + 0) + 0) ((1 * ((1 * r 9 + 0) + 0) + 0) + 0) ((1 * ((1 * r 12 + 0) + 0) + 0) + 0) ((1 * ((1 * r 15 + 0) + 0) + 0) + 0) ((1 * ((1 * r 18 + 0) + 0) + 0) + 0)) ((1 * r 1 + 0) + 0) ((1 * ((1 * r 5 + 0) + 0) + 0) + 0) 1) (g0 3) ∧ (g 4) = yq_ap ((1 * ((1 * r 5 + 0) + 0) + 0) + 0) ((1 * ((1 * r 5 + 0) + 0) + 0) + 0) (yq_ct ((1 * r 3 + 0) + 0)) (g0 4) ∧ (g 5) = yq_ap ((1 * ((1 * r 5 + 0) + 0) + 0) + 0) ((1 * ((1 * r 5 + 0) + 0) + 0) + 0) (yq_ct 1) (g0 5)) ∧ ((1 * ((1 * r 6 + 0) + 0) + 0) + 0) = ye_wr ((1 * ((1 * r 6 + 0) + 0) + 0) + 0) (((1 * ((1 * r 5 + 0) + 0) + 0) + 0) - ((1 * ((1 * r 5 + 0) + 0) + 0) + 0))
  try simp only [Int.one_mul, Int.zero_add, Int.add_zero]
  refine ⟨?_, ?_⟩
  · refine ⟨?_, ?_⟩
    · refine ⟨?_, ?_⟩
      · unfold yq_tr
        rw [if_neg (by omega)] <;> omega
      · unfold yq_tn
        repeat' split
        all_goals omega
    · refine ⟨?_, ?_, ?_, ?_⟩
      · rw [hgi]
        exact yq_ap_0 (by omega)
      · rw [hgi]
        exact yq_ap_0 (by omega)
      · rw [hgi]
        exact yq_ap_0 (by omega)
      · rw [hgi]
        exact yq_ap_0 (by omega)
  · exact (ye_w0 (by omega) (by omega)).symm.trans (congrArg (ye_wr _) (show (0 : Int) = _ by omega))
theorem xw_155_0_5 : yt_hold xT_155 xk_155 xq_155.2.2.1 xG_155 xP_155 xU_155 19 xk_155.2.1.2.2.2 (fun g0 r g => xR_155 r g0 ∧ g = g0) (1000, ([(0, 0), ((-2147483648), (-1)), (1, 40), (1, 1), ((-2147483648), 2147483647), (0, 40), ((-2147483648), 2147483647), (1, 1), ((-2147483648), 2147483647), (0, 100), (0, 1), ((-2147483648), 2147483647), (0, 100), (0, 1), ((-2147483648), 2147483647), (0, 100), (0, 1), ((-2147483648), 2147483647), (0, 100), ((-2147483648), 0)], []), [([], (-3)), ([(19, 1)], 0), ([(5, 1)], 0), ([(6, 1)], 0)], [], []) := by
  intro g0 r gi g hok hh hars hfr hG
  have b0 : 0 ≤ r 0 ∧ r 0 ≤ 0 := hok.1 0 (0, 0) rfl
  have b1 : (-2147483648) ≤ r 1 ∧ r 1 ≤ (-1) := hok.1 1 ((-2147483648), (-1)) rfl
  have b2 : 1 ≤ r 2 ∧ r 2 ≤ 40 := hok.1 2 (1, 40) rfl
  have b3 : 1 ≤ r 3 ∧ r 3 ≤ 1 := hok.1 3 (1, 1) rfl
  have b4 : (-2147483648) ≤ r 4 ∧ r 4 ≤ 2147483647 := hok.1 4 ((-2147483648), 2147483647) rfl
  have b5 : 0 ≤ r 5 ∧ r 5 ≤ 40 := hok.1 5 (0, 40) rfl
  have b6 : (-2147483648) ≤ r 6 ∧ r 6 ≤ 2147483647 := hok.1 6 ((-2147483648), 2147483647) rfl
  have b7 : 1 ≤ r 7 ∧ r 7 ≤ 1 := hok.1 7 (1, 1) rfl
  have b8 : (-2147483648) ≤ r 8 ∧ r 8 ≤ 2147483647 := hok.1 8 ((-2147483648), 2147483647) rfl
  have b9 : 0 ≤ r 9 ∧ r 9 ≤ 100 := hok.1 9 (0, 100) rfl
  have b10 : 0 ≤ r 10 ∧ r 10 ≤ 1 := hok.1 10 (0, 1) rfl
  have b11 : (-2147483648) ≤ r 11 ∧ r 11 ≤ 2147483647 := hok.1 11 ((-2147483648), 2147483647) rfl
  have b12 : 0 ≤ r 12 ∧ r 12 ≤ 100 := hok.1 12 (0, 100) rfl
  have b13 : 0 ≤ r 13 ∧ r 13 ≤ 1 := hok.1 13 (0, 1) rfl
  have b14 : (-2147483648) ≤ r 14 ∧ r 14 ≤ 2147483647 := hok.1 14 ((-2147483648), 2147483647) rfl
  have b15 : 0 ≤ r 15 ∧ r 15 ≤ 100 := hok.1 15 (0, 100) rfl
  have b16 : 0 ≤ r 16 ∧ r 16 ≤ 1 := hok.1 16 (0, 1) rfl
  have b17 : (-2147483648) ≤ r 17 ∧ r 17 ≤ 2147483647 := hok.1 17 ((-2147483648), 2147483647) rfl
  have b18 : 0 ≤ r 18 ∧ r 18 ≤ 100 := hok.1 18 (0, 100) rfl
  have b19 : (-2147483648) ≤ r 19 ∧ r 19 ≤ 0 := hok.1 19 ((-2147483648), 0) rfl
  obtain ⟨hG, hgi⟩ := hG
  have hG : True := hG
  have hh : g = gi := hh
  subst hh
  refine yt_dalt (by decide) (by decide) ?_
  rw [show xk_155.2.1.2.1.1.length = 19 from rfl]
  show ((((0 : Int) + (-3)) = yq_tr ((1 * r 0 + 0) + 0) ((1 * r 1 + 0) + 0) ((1 * r 2 + 0) + 0) ((1 * r 3 + 0) + 0) (yq_at ((1 * r 0 + 0) + 0) ((1 * ((1 * r 7 + 0) + 0) + 0) + 0) ((1 * ((1 * r 10 + 0) + 0) + 0) + 0) ((1 * ((1 * r 13 + 0) + 0) + 0) + 0) ((1 * ((1 * r 16 + 0) + 0) + 0) + 0)) (yq_at ((1 * r 0 + 0) + 0) ((1 * ((1 * r 9 + 0) + 0) + 0) + 0) ((1 * ((1 * r 12 + 0) + 0) + 0) + 0) ((1 * ((1 * r 15 + 0) + 0) + 0) + 0) ((1 * ((1 * r 18 + 0) + 0) + 0) + 0)) (yq_nr (yq_fat ((1 * r 0 + 0) + 0) (g0 8) (g0 10) (g0 12) (g0 14)) ((1 * r 1 + 0) + 0) (yq_at ((1 * r 0 + 0) + 0) ((1 * ((1 * r 9 + 0) + 0) + 0) + 0) ((1 * ((1 * r 12 + 0) + 0) + 0) + 0) ((1 * ((1 * r 15 + 0) + 0) + 0) + 0) ((1 * ((1 * r 18 + 0) + 0) + 0) + 0)) (2 * ((1 * r 2 + 0) + 0)).toNat) ((1 * ((1 * r 5 + 0) + 0) + 0) + 0) ∧ ((1 * ((1 * r 5 + 0) + 0) + 0) + 0) = yq_tn ((0 : Int) + (-3)) ((1 * ((1 * r 5 + 0) + 0) + 0) + 0)) ∧ (g 2) = yq_ap ((1 * ((1 * r 5 + 0) + 0) + 0) + 0) ((1 * ((1 * r 5 + 0) + 0) + 0) + 0) (yq_vx (yq_fat ((1 * r 0 + 0) + 0) (g0 8) (g0 10) (g0 12) (g0 14)) (yq_at ((1 * r 0 + 0) + 0) ((1 * ((1 * r 9 + 0) + 0) + 0) + 0) ((1 * ((1 * r 12 + 0) + 0) + 0) + 0) ((1 * ((1 * r 15 + 0) + 0) + 0) + 0) ((1 * ((1 * r 18 + 0) + 0) + 0) + 0)) ((1 * r 1 + 0) + 0) ((1 * ((1 * r 5 + 0) + 0) + 0) + 0) 0) (g0 2) ∧ (g 3) = yq_ap ((1 * ((1 * r 5 + 0) + 0) + 0) + 0) ((1 * ((1 * r 5 + 0) + 0) + 0) + 0) (yq_vx (yq_fat ((1 * r 0 + 0) + 0) (g0 8) (g0 10) (g0 12) (g0 14)) (yq_at ((1 * r 0 + 0) + 0) ((1 * ((1 * r 9 + 0) + 0) + 0) + 0) ((1 * ((1 * r 12 + 0) + 0) + 0) + 0) ((1 * ((1 * r 15 + 0) + 0) + 0) + 0) ((1 * ((1 * r 18 + 0) + 0) + 0) + 0)) ((1 * r 1 + 0) + 0) ((1 * ((1 * r 5 + 0) + 0) + 0) + 0) 1) (g0 3) ∧ (g 4) = yq_ap ((1 * ((1 * r 5 + 0) + 0) + 0) + 0) ((1 * ((1 * r 5 + 0) + 0) + 0) + 0) (yq_ct ((1 * r 3 + 0) + 0)) (g0 4) ∧ (g 5) = yq_ap ((1 * ((1 * r 5 + 0) + 0) + 0) + 0) ((1 * ((1 * r 5 + 0) + 0) + 0) + 0) (yq_ct 1) (g0 5)) ∧ ((1 * ((1 * r 6 + 0) + 0) + 0) + 0) = ye_wr ((1 * ((1 * r 6 + 0) + 0) + 0) + 0) (((1 * ((1 * r 5 + 0) + 0) + 0) + 0) - ((1 * ((1 * r 5 + 0) + 0) + 0) + 0))
  try simp only [Int.one_mul, Int.zero_add, Int.add_zero]
  refine ⟨?_, ?_⟩
  · refine ⟨?_, ?_⟩
    · refine ⟨?_, ?_⟩
      · rw [show r 0 = 0 by omega]
        simp only [yq_at0, yq_fat0]
        unfold yq_tr
        repeat' split
        all_goals omega
      · unfold yq_tn
        repeat' split
        all_goals omega
    · refine ⟨?_, ?_, ?_, ?_⟩
      · rw [hgi]
        exact yq_ap_0 (by omega)
      · rw [hgi]
        exact yq_ap_0 (by omega)
      · rw [hgi]
        exact yq_ap_0 (by omega)
      · rw [hgi]
        exact yq_ap_0 (by omega)
  · exact (ye_w0 (by omega) (by omega)).symm.trans (congrArg (ye_wr _) (show (0 : Int) = _ by omega))
theorem xw_155_0_6 : yt_hold xT_155 xk_155 xq_155.2.2.1 xG_155 xP_155 xU_155 19 xk_155.2.1.2.2.2 (fun g0 r g => xR_155 r g0 ∧ g = g0) (1000, ([(0, 0), (0, 2147483647), (1, 40), (1, 1), ((-2147483648), 2147483647), (0, 40), ((-2147483648), 2147483647), (1, 1), ((-2147483648), 2147483647), (0, 100), (0, 1), ((-2147483648), 2147483647), (0, 100), (0, 1), ((-2147483648), 2147483647), (0, 100), (0, 1), ((-2147483648), 2147483647), (0, 100), ((-2147483648), 0)], [([(9, (-1)), (1, 1), (2, 2)], (-2))]), [([], (-3)), ([(19, 1)], 0), ([(5, 1)], 0), ([(6, 1)], 0)], [], []) := by
  intro g0 r gi g hok hh hars hfr hG
  have b0 : 0 ≤ r 0 ∧ r 0 ≤ 0 := hok.1 0 (0, 0) rfl
  have b1 : 0 ≤ r 1 ∧ r 1 ≤ 2147483647 := hok.1 1 (0, 2147483647) rfl
  have b2 : 1 ≤ r 2 ∧ r 2 ≤ 40 := hok.1 2 (1, 40) rfl
  have b3 : 1 ≤ r 3 ∧ r 3 ≤ 1 := hok.1 3 (1, 1) rfl
  have b4 : (-2147483648) ≤ r 4 ∧ r 4 ≤ 2147483647 := hok.1 4 ((-2147483648), 2147483647) rfl
  have b5 : 0 ≤ r 5 ∧ r 5 ≤ 40 := hok.1 5 (0, 40) rfl
  have b6 : (-2147483648) ≤ r 6 ∧ r 6 ≤ 2147483647 := hok.1 6 ((-2147483648), 2147483647) rfl
  have b7 : 1 ≤ r 7 ∧ r 7 ≤ 1 := hok.1 7 (1, 1) rfl
  have b8 : (-2147483648) ≤ r 8 ∧ r 8 ≤ 2147483647 := hok.1 8 ((-2147483648), 2147483647) rfl
  have b9 : 0 ≤ r 9 ∧ r 9 ≤ 100 := hok.1 9 (0, 100) rfl
  have b10 : 0 ≤ r 10 ∧ r 10 ≤ 1 := hok.1 10 (0, 1) rfl
  have b11 : (-2147483648) ≤ r 11 ∧ r 11 ≤ 2147483647 := hok.1 11 ((-2147483648), 2147483647) rfl
  have b12 : 0 ≤ r 12 ∧ r 12 ≤ 100 := hok.1 12 (0, 100) rfl
  have b13 : 0 ≤ r 13 ∧ r 13 ≤ 1 := hok.1 13 (0, 1) rfl
  have b14 : (-2147483648) ≤ r 14 ∧ r 14 ≤ 2147483647 := hok.1 14 ((-2147483648), 2147483647) rfl
  have b15 : 0 ≤ r 15 ∧ r 15 ≤ 100 := hok.1 15 (0, 100) rfl
  have b16 : 0 ≤ r 16 ∧ r 16 ≤ 1 := hok.1 16 (0, 1) rfl
  have b17 : (-2147483648) ≤ r 17 ∧ r 17 ≤ 2147483647 := hok.1 17 ((-2147483648), 2147483647) rfl
  have b18 : 0 ≤ r 18 ∧ r 18 ≤ 100 := hok.1 18 (0, 100) rfl
  have b19 : (-2147483648) ≤ r 19 ∧ r 19 ≤ 0 := hok.1 19 ((-2147483648), 0) rfl
  have f0 : 0 ≤ (((-1) * r 9 + (1 * r 1 + (2 * r 2 + 0))) + (-2)) := hok.2 _ (List.mem_of_getElem? (i := 0) rfl)
  obtain ⟨hG, hgi⟩ := hG
  have hG : True := hG
  have hh : g = gi := hh
  subst hh
  refine yt_dalt (by decide) (by decide) ?_
  rw [show xk_155.2.1.2.1.1.length = 19 from rfl]
  show ((((0 : Int) + (-3)) = yq_tr ((1 * r 0 + 0) + 0) ((1 * r 1 + 0) + 0) ((1 * r 2 + 0) + 0) ((1 * r 3 + 0) + 0) (yq_at ((1 * r 0 + 0) + 0) ((1 * ((1 * r 7 + 0) + 0) + 0) + 0) ((1 * ((1 * r 10 + 0) + 0) + 0) + 0) ((1 * ((1 * r 13 + 0) + 0) + 0) + 0) ((1 * ((1 * r 16 + 0) + 0) + 0) + 0)) (yq_at ((1 * r 0 + 0) + 0) ((1 * ((1 * r 9 + 0) + 0) + 0) + 0) ((1 * ((1 * r 12 + 0) + 0) + 0) + 0) ((1 * ((1 * r 15 + 0) + 0) + 0) + 0) ((1 * ((1 * r 18 + 0) + 0) + 0) + 0)) (yq_nr (yq_fat ((1 * r 0 + 0) + 0) (g0 8) (g0 10) (g0 12) (g0 14)) ((1 * r 1 + 0) + 0) (yq_at ((1 * r 0 + 0) + 0) ((1 * ((1 * r 9 + 0) + 0) + 0) + 0) ((1 * ((1 * r 12 + 0) + 0) + 0) + 0) ((1 * ((1 * r 15 + 0) + 0) + 0) + 0) ((1 * ((1 * r 18 + 0) + 0) + 0) + 0)) (2 * ((1 * r 2 + 0) + 0)).toNat) ((1 * ((1 * r 5 + 0) + 0) + 0) + 0) ∧ ((1 * ((1 * r 5 + 0) + 0) + 0) + 0) = yq_tn ((0 : Int) + (-3)) ((1 * ((1 * r 5 + 0) + 0) + 0) + 0)) ∧ (g 2) = yq_ap ((1 * ((1 * r 5 + 0) + 0) + 0) + 0) ((1 * ((1 * r 5 + 0) + 0) + 0) + 0) (yq_vx (yq_fat ((1 * r 0 + 0) + 0) (g0 8) (g0 10) (g0 12) (g0 14)) (yq_at ((1 * r 0 + 0) + 0) ((1 * ((1 * r 9 + 0) + 0) + 0) + 0) ((1 * ((1 * r 12 + 0) + 0) + 0) + 0) ((1 * ((1 * r 15 + 0) + 0) + 0) + 0) ((1 * ((1 * r 18 + 0) + 0) + 0) + 0)) ((1 * r 1 + 0) + 0) ((1 * ((1 * r 5 + 0) + 0) + 0) + 0) 0) (g0 2) ∧ (g 3) = yq_ap ((1 * ((1 * r 5 + 0) + 0) + 0) + 0) ((1 * ((1 * r 5 + 0) + 0) + 0) + 0) (yq_vx (yq_fat ((1 * r 0 + 0) + 0) (g0 8) (g0 10) (g0 12) (g0 14)) (yq_at ((1 * r 0 + 0) + 0) ((1 * ((1 * r 9 + 0) + 0) + 0) + 0) ((1 * ((1 * r 12 + 0) + 0) + 0) + 0) ((1 * ((1 * r 15 + 0) + 0) + 0) + 0) ((1 * ((1 * r 18 + 0) + 0) + 0) + 0)) ((1 * r 1 + 0) + 0) ((1 * ((1 * r 5 + 0) + 0) + 0) + 0) 1) (g0 3) ∧ (g 4) = yq_ap ((1 * ((1 * r 5 + 0) + 0) + 0) + 0) ((1 * ((1 * r 5 + 0) + 0) + 0) + 0) (yq_ct ((1 * r 3 + 0) + 0)) (g0 4) ∧ (g 5) = yq_ap ((1 * ((1 * r 5 + 0) + 0) + 0) + 0) ((1 * ((1 * r 5 + 0) + 0) + 0) + 0) (yq_ct 1) (g0 5)) ∧ ((1 * ((1 * r 6 + 0) + 0) + 0) + 0) = ye_wr ((1 * ((1 * r 6 + 0) + 0) + 0) + 0) (((1 * ((1 * r 5 + 0) + 0) + 0) + 0) - ((1 * ((1 * r 5 + 0) + 0) + 0) + 0))
  try simp only [Int.one_mul, Int.zero_add, Int.add_zero]
  refine ⟨?_, ?_⟩
  · refine ⟨?_, ?_⟩
    · refine ⟨?_, ?_⟩
      · rw [show r 0 = 0 by omega]
        simp only [yq_at0, yq_fat0]
        unfold yq_tr
        repeat' split
        all_goals omega
      · unfold yq_tn
        repeat' split
        all_goals omega
    · refine ⟨?_, ?_, ?_, ?_⟩
      · rw [hgi]
        exact yq_ap_0 (by omega)
      · rw [hgi]
        exact yq_ap_0 (by omega)
      · rw [hgi]
        exact yq_ap_0 (by omega)
      · rw [hgi]
        exact yq_ap_0 (by omega)
  · exact (ye_w0 (by omega) (by omega)).symm.trans (congrArg (ye_wr _) (show (0 : Int) = _ by omega))
theorem xw_155_0_7 : yt_hold xT_155 xk_155 xq_155.2.2.1 xG_155 xP_155 xU_155 19 xk_155.2.1.2.2.2 (fun g0 r g => xR_155 r g0 ∧ g = g0) (1000, ([(0, 0), (0, 99), (1, 40), (1, 1), ((-2147483648), 2147483647), (0, 40), ((-2147483648), 2147483647), (1, 1), ((-2147483648), 2147483647), (1, 100), (0, 1), ((-2147483648), 2147483647), (0, 100), (0, 1), ((-2147483648), 2147483647), (0, 100), (0, 1), ((-2147483648), 2147483647), (0, 100), ((-2147483648), 0)], [([(2, 2), (1, 1)], (-1)), ([(9, 1), (1, (-1)), (2, (-2))], 1)]), [([], (-1)), ([(19, 1)], 0), ([(5, 1)], 0), ([(6, 1)], 0)], [], [.inr (.inr (.inl (118, 0, [([(1, 1)], 0), ([(2, 1)], 0), ([(7, 1)], 0), ([(8, 1)], 0), ([(9, 1)], 0)], [7, 8], [])))]) := by
  intro g0 r gi g hok hh hars hfr hG
  have b0 : 0 ≤ r 0 ∧ r 0 ≤ 0 := hok.1 0 (0, 0) rfl
  have b1 : 0 ≤ r 1 ∧ r 1 ≤ 99 := hok.1 1 (0, 99) rfl
  have b2 : 1 ≤ r 2 ∧ r 2 ≤ 40 := hok.1 2 (1, 40) rfl
  have b3 : 1 ≤ r 3 ∧ r 3 ≤ 1 := hok.1 3 (1, 1) rfl
  have b4 : (-2147483648) ≤ r 4 ∧ r 4 ≤ 2147483647 := hok.1 4 ((-2147483648), 2147483647) rfl
  have b5 : 0 ≤ r 5 ∧ r 5 ≤ 40 := hok.1 5 (0, 40) rfl
  have b6 : (-2147483648) ≤ r 6 ∧ r 6 ≤ 2147483647 := hok.1 6 ((-2147483648), 2147483647) rfl
  have b7 : 1 ≤ r 7 ∧ r 7 ≤ 1 := hok.1 7 (1, 1) rfl
  have b8 : (-2147483648) ≤ r 8 ∧ r 8 ≤ 2147483647 := hok.1 8 ((-2147483648), 2147483647) rfl
  have b9 : 1 ≤ r 9 ∧ r 9 ≤ 100 := hok.1 9 (1, 100) rfl
  have b10 : 0 ≤ r 10 ∧ r 10 ≤ 1 := hok.1 10 (0, 1) rfl
  have b11 : (-2147483648) ≤ r 11 ∧ r 11 ≤ 2147483647 := hok.1 11 ((-2147483648), 2147483647) rfl
  have b12 : 0 ≤ r 12 ∧ r 12 ≤ 100 := hok.1 12 (0, 100) rfl
  have b13 : 0 ≤ r 13 ∧ r 13 ≤ 1 := hok.1 13 (0, 1) rfl
  have b14 : (-2147483648) ≤ r 14 ∧ r 14 ≤ 2147483647 := hok.1 14 ((-2147483648), 2147483647) rfl
  have b15 : 0 ≤ r 15 ∧ r 15 ≤ 100 := hok.1 15 (0, 100) rfl
  have b16 : 0 ≤ r 16 ∧ r 16 ≤ 1 := hok.1 16 (0, 1) rfl
  have b17 : (-2147483648) ≤ r 17 ∧ r 17 ≤ 2147483647 := hok.1 17 ((-2147483648), 2147483647) rfl
  have b18 : 0 ≤ r 18 ∧ r 18 ≤ 100 := hok.1 18 (0, 100) rfl
  have b19 : (-2147483648) ≤ r 19 ∧ r 19 ≤ 0 := hok.1 19 ((-2147483648), 0) rfl
  have f0 : 0 ≤ ((2 * r 2 + (1 * r 1 + 0)) + (-1)) := hok.2 _ (List.mem_of_getElem? (i := 0) rfl)
  have f1 : 0 ≤ ((1 * r 9 + ((-1) * r 1 + ((-2) * r 2 + 0))) + 1) := hok.2 _ (List.mem_of_getElem? (i := 1) rfl)
  obtain ⟨hG, hgi⟩ := hG
  have hG : True := hG
  obtain ⟨h0, hh, e0, k0⟩ := hh
  have k0 : ∀ j, j ∉ [] → g j = h0 j := k0
  have e0 : yq_nr (h0 8) ((1 * r 1 + 0) + 0) ((1 * r 9 + 0) + 0) (2 * ((1 * r 2 + 0) + 0)).toNat = 0 := e0
  have hh : h0 = gi := hh
  subst hh
  refine yt_dalt (by decide) (by decide) ?_
  rw [show xk_155.2.1.2.1.1.length = 19 from rfl]
  show ((((0 : Int) + (-1)) = yq_tr ((1 * r 0 + 0) + 0) ((1 * r 1 + 0) + 0) ((1 * r 2 + 0) + 0) ((1 * r 3 + 0) + 0) (yq_at ((1 * r 0 + 0) + 0) ((1 * ((1 * r 7 + 0) + 0) + 0) + 0) ((1 * ((1 * r 10 + 0) + 0) + 0) + 0) ((1 * ((1 * r 13 + 0) + 0) + 0) + 0) ((1 * ((1 * r 16 + 0) + 0) + 0) + 0)) (yq_at ((1 * r 0 + 0) + 0) ((1 * ((1 * r 9 + 0) + 0) + 0) + 0) ((1 * ((1 * r 12 + 0) + 0) + 0) + 0) ((1 * ((1 * r 15 + 0) + 0) + 0) + 0) ((1 * ((1 * r 18 + 0) + 0) + 0) + 0)) (yq_nr (yq_fat ((1 * r 0 + 0) + 0) (g0 8) (g0 10) (g0 12) (g0 14)) ((1 * r 1 + 0) + 0) (yq_at ((1 * r 0 + 0) + 0) ((1 * ((1 * r 9 + 0) + 0) + 0) + 0) ((1 * ((1 * r 12 + 0) + 0) + 0) + 0) ((1 * ((1 * r 15 + 0) + 0) + 0) + 0) ((1 * ((1 * r 18 + 0) + 0) + 0) + 0)) (2 * ((1 * r 2 + 0) + 0)).toNat) ((1 * ((1 * r 5 + 0) + 0) + 0) + 0) ∧ ((1 * ((1 * r 5 + 0) + 0) + 0) + 0) = yq_tn ((0 : Int) + (-1)) ((1 * ((1 * r 5 + 0) + 0) + 0) + 0)) ∧ (g 2) = yq_ap ((1 * ((1 * r 5 + 0) + 0) + 0) + 0) ((1 * ((1 * r 5 + 0) + 0) + 0) + 0) (yq_vx (yq_fat ((1 * r 0 + 0) + 0) (g0 8) (g0 10) (g0 12) (g0 14)) (yq_at ((1 * r 0 + 0) + 0) ((1 * ((1 * r 9 + 0) + 0) + 0) + 0) ((1 * ((1 * r 12 + 0) + 0) + 0) + 0) ((1 * ((1 * r 15 + 0) + 0) + 0) + 0) ((1 * ((1 * r 18 + 0) + 0) + 0) + 0)) ((1 * r 1 + 0) + 0) ((1 * ((1 * r 5 + 0) + 0) + 0) + 0) 0) (g0 2) ∧ (g 3) = yq_ap ((1 * ((1 * r 5 + 0) + 0) + 0) + 0) ((1 * ((1 * r 5 + 0) + 0) + 0) + 0) (yq_vx (yq_fat ((1 * r 0 + 0) + 0) (g0 8) (g0 10) (g0 12) (g0 14)) (yq_at ((1 * r 0 + 0) + 0) ((1 * ((1 * r 9 + 0) + 0) + 0) + 0) ((1 * ((1 * r 12 + 0) + 0) + 0) + 0) ((1 * ((1 * r 15 + 0) + 0) + 0) + 0) ((1 * ((1 * r 18 + 0) + 0) + 0) + 0)) ((1 * r 1 + 0) + 0) ((1 * ((1 * r 5 + 0) + 0) + 0) + 0) 1) (g0 3) ∧ (g 4) = yq_ap ((1 * ((1 * r 5 + 0) + 0) + 0) + 0) ((1 * ((1 * r 5 + 0) + 0) + 0) + 0) (yq_ct ((1 * r 3 + 0) + 0)) (g0 4) ∧ (g 5) = yq_ap ((1 * ((1 * r 5 + 0) + 0) + 0) + 0) ((1 * ((1 * r 5 + 0) + 0) + 0) + 0) (yq_ct 1) (g0 5)) ∧ ((1 * ((1 * r 6 + 0) + 0) + 0) + 0) = ye_wr ((1 * ((1 * r 6 + 0) + 0) + 0) + 0) (((1 * ((1 * r 5 + 0) + 0) + 0) + 0) - ((1 * ((1 * r 5 + 0) + 0) + 0) + 0))
  try simp only [Int.one_mul, Int.zero_add, Int.add_zero]
  refine ⟨?_, ?_⟩
  · try simp only [Int.one_mul, Int.zero_add, Int.add_zero] at e0
    rw [hgi] at e0
    refine ⟨?_, ?_⟩
    · refine ⟨?_, ?_⟩
      · rw [show r 0 = 0 by omega]
        simp only [yq_at0, yq_fat0]
        unfold yq_tr
        repeat' split
        all_goals omega
      · unfold yq_tn
        repeat' split
        all_goals omega
    · refine ⟨?_, ?_, ?_, ?_⟩
      · rw [k0 2 (by decide), hgi]
        exact yq_ap_0 (by omega)
      · rw [k0 3 (by decide), hgi]
        exact yq_ap_0 (by omega)
      · rw [k0 4 (by decide), hgi]
        exact yq_ap_0 (by omega)
      · rw [k0 5 (by decide), hgi]
        exact yq_ap_0 (by omega)
  · exact (ye_w0 (by omega) (by omega)).symm.trans (congrArg (ye_wr _) (show (0 : Int) = _ by omega))
theorem xw_155_0_8 : yt_hold xT_155 xk_155 xq_155.2.2.1 xG_155 xP_155 xU_155 19 xk_155.2.1.2.2.2 (fun g0 r g => xR_155 r g0 ∧ g = g0) (0, ([(0, 0), (0, 99), (1, 40), (1, 1), ((-2147483648), 2147483647), (0, 39), ((-2147483648), 2147483647), (1, 1), ((-2147483648), 2147483647), (1, 100), (0, 1), ((-2147483648), 2147483647), (0, 100), (0, 1), ((-2147483648), 2147483647), (0, 100), (0, 1), ((-2147483648), 2147483647), (0, 100)], [([(2, (-1)), (5, (-1))], 40), ([(9, 1), (1, (-1)), (2, (-2))], 1)]), [([], 0), ([(5, 1)], 0), ([(6, 1)], 0)], [], [.inr (.inr (.inl (118, 1, [([(1, 1)], 0), ([(2, 1)], 0), ([(7, 1)], 0), ([(8, 1)], 0), ([(9, 1)], 0)], [7, 8], [])))]) := by
  intro g0 r gi g hok hh hars hfr hG
  have b0 : 0 ≤ r 0 ∧ r 0 ≤ 0 := hok.1 0 (0, 0) rfl
  have b1 : 0 ≤ r 1 ∧ r 1 ≤ 99 := hok.1 1 (0, 99) rfl
  have b2 : 1 ≤ r 2 ∧ r 2 ≤ 40 := hok.1 2 (1, 40) rfl
  have b3 : 1 ≤ r 3 ∧ r 3 ≤ 1 := hok.1 3 (1, 1) rfl
  have b4 : (-2147483648) ≤ r 4 ∧ r 4 ≤ 2147483647 := hok.1 4 ((-2147483648), 2147483647) rfl
  have b5 : 0 ≤ r 5 ∧ r 5 ≤ 39 := hok.1 5 (0, 39) rfl
  have b6 : (-2147483648) ≤ r 6 ∧ r 6 ≤ 2147483647 := hok.1 6 ((-2147483648), 2147483647) rfl
  have b7 : 1 ≤ r 7 ∧ r 7 ≤ 1 := hok.1 7 (1, 1) rfl
  have b8 : (-2147483648) ≤ r 8 ∧ r 8 ≤ 2147483647 := hok.1 8 ((-2147483648), 2147483647) rfl
  have b9 : 1 ≤ r 9 ∧ r 9 ≤ 100 := hok.1 9 (1, 100) rfl
  have b10 : 0 ≤ r 10 ∧ r 10 ≤ 1 := hok.1 10 (0, 1) rfl
  have b11 : (-2147483648) ≤ r 11 ∧ r 11 ≤ 2147483647 := hok.1 11 ((-2147483648), 2147483647) rfl
  have b12 : 0 ≤ r 12 ∧ r 12 ≤ 100 := hok.1 12 (0, 100) rfl
  have b13 : 0 ≤ r 13 ∧ r 13 ≤ 1 := hok.1 13 (0, 1) rfl
  have b14 : (-2147483648) ≤ r 14 ∧ r 14 ≤ 2147483647 := hok.1 14 ((-2147483648), 2147483647) rfl
  have b15 : 0 ≤ r 15 ∧ r 15 ≤ 100 := hok.1 15 (0, 100) rfl
  have b16 : 0 ≤ r 16 ∧ r 16 ≤ 1 := hok.1 16 (0, 1) rfl
  have b17 : (-2147483648) ≤ r 17 ∧ r 17 ≤ 2147483647 := hok.1 17 ((-2147483648), 2147483647) rfl
  have b18 : 0 ≤ r 18 ∧ r 18 ≤ 100 := hok.1 18 (0, 100) rfl
  have f0 : 0 ≤ (((-1) * r 2 + ((-1) * r 5 + 0)) + 40) := hok.2 _ (List.mem_of_getElem? (i := 0) rfl)
  have f1 : 0 ≤ ((1 * r 9 + ((-1) * r 1 + ((-2) * r 2 + 0))) + 1) := hok.2 _ (List.mem_of_getElem? (i := 1) rfl)
  obtain ⟨hG, hgi⟩ := hG
  have hG : True := hG
  obtain ⟨h0, hh, e0, k0⟩ := hh
  have k0 : ∀ j, j ∉ [] → g j = h0 j := k0
  have e0 : yq_nr (h0 8) ((1 * r 1 + 0) + 0) ((1 * r 9 + 0) + 0) (2 * ((1 * r 2 + 0) + 0)).toNat = 1 := e0
  have hh : h0 = gi := hh
  subst hh
  refine yt_dcut (by decide) rfl ?_ ?_
  · exact fun f hf => absurd hf List.not_mem_nil
  · rw [show xk_155.2.1.2.1.1.length = 19 from rfl]
    show ((yq_at ((1 * r 0 + 0) + 0) ((1 * ((1 * r 7 + 0) + 0) + 0) + 0) ((1 * ((1 * r 10 + 0) + 0) + 0) + 0) ((1 * ((1 * r 13 + 0) + 0) + 0) + 0) ((1 * ((1 * r 16 + 0) + 0) + 0) + 0)) ≠ 0 ∧ (0 ≤ ((1 * r 1 + 0) + 0) ∧ ((1 * r 1 + 0) + 0) + 2 * ((1 * r 2 + 0) + 0) - 2 < (yq_at ((1 * r 0 + 0) + 0) ((1 * ((1 * r 9 + 0) + 0) + 0) + 0) ((1 * ((1 * r 12 + 0) + 0) + 0) + 0) ((1 * ((1 * r 15 + 0) + 0) + 0) + 0) ((1 * ((1 * r 18 + 0) + 0) + 0) + 0))) ∧ (yq_nr (yq_fat ((1 * r 0 + 0) + 0) (g0 8) (g0 10) (g0 12) (g0 14)) ((1 * r 1 + 0) + 0) (yq_at ((1 * r 0 + 0) + 0) ((1 * ((1 * r 9 + 0) + 0) + 0) + 0) ((1 * ((1 * r 12 + 0) + 0) + 0) + 0) ((1 * ((1 * r 15 + 0) + 0) + 0) + 0) ((1 * ((1 * r 18 + 0) + 0) + 0) + 0)) (2 * ((1 * r 2 + 0) + 0)).toNat) = 1 ∧ ((1 * ((1 * r 5 + 0) + 0) + 0) + 0) = ((1 * ((1 * r 5 + 0) + 0) + 0) + 0) + ((1 * ((0 : Int) + 0) + 0) + 0) ∧ ((1 * ((0 : Int) + 0) + 0) + 0) ≤ ((1 * r 2 + 0) + 0) ∧ (g 2) = yq_ap (((1 * ((1 * r 5 + 0) + 0) + 0) + 0) + ((1 * ((0 : Int) + 0) + 0) + 0)) ((1 * ((1 * r 5 + 0) + 0) + 0) + 0) (yq_vx (yq_fat ((1 * r 0 + 0) + 0) (g0 8) (g0 10) (g0 12) (g0 14)) (yq_at ((1 * r 0 + 0) + 0) ((1 * ((1 * r 9 + 0) + 0) + 0) + 0) ((1 * ((1 * r 12 + 0) + 0) + 0) + 0) ((1 * ((1 * r 15 + 0) + 0) + 0) + 0) ((1 * ((1 * r 18 + 0) + 0) + 0) + 0)) ((1 * r 1 + 0) + 0) ((1 * ((1 * r 5 + 0) + 0) + 0) + 0) 0) (g0 2) ∧ (g 3) = yq_ap (((1 * ((1 * r 5 + 0) + 0) + 0) + 0) + ((1 * ((0 : Int) + 0) + 0) + 0)) ((1 * ((1 * r 5 + 0) + 0) + 0) + 0) (yq_vx (yq_fat ((1 * r 0 + 0) + 0) (g0 8) (g0 10) (g0 12) (g0 14)) (yq_at ((1 * r 0 + 0) + 0) ((1 * ((1 * r 9 + 0) + 0) + 0) + 0) ((1 * ((1 * r 12 + 0) + 0) + 0) + 0) ((1 * ((1 * r 15 + 0) + 0) + 0) + 0) ((1 * ((1 * r 18 + 0) + 0) + 0) + 0)) ((1 * r 1 + 0) + 0) ((1 * ((1 * r 5 + 0) + 0) + 0) + 0) 1) (g0 3) ∧ (g 4) = yq_ap (((1 * ((1 * r 5 + 0) + 0) + 0) + 0) + ((1 * ((0 : Int) + 0) + 0) + 0)) ((1 * ((1 * r 5 + 0) + 0) + 0) + 0) (yq_ct ((1 * r 3 + 0) + 0)) (g0 4) ∧ (g 5) = yq_ap (((1 * ((1 * r 5 + 0) + 0) + 0) + 0) + ((1 * ((0 : Int) + 0) + 0) + 0)) ((1 * ((1 * r 5 + 0) + 0) + 0) + 0) (yq_ct 1) (g0 5)) ∧ ((1 * ((1 * r 6 + 0) + 0) + 0) + 0) = ye_wr ((1 * ((1 * r 6 + 0) + 0) + 0) + 0) ((1 * ((0 : Int) + 0) + 0) + 0)
    try simp only [Int.one_mul, Int.zero_add, Int.add_zero]
    refine ⟨?_, ?_⟩
    · try simp only [Int.one_mul, Int.zero_add, Int.add_zero] at e0
      rw [hgi] at e0
      rw [show r 0 = 0 by omega]
      simp only [yq_at0, yq_fat0]
      refine ⟨?_, ?_, ?_, ?_, ?_, ?_, ?_, ?_, ?_⟩
      · omega
      · omega
      · exact e0
      · omega
      · omega
      · rw [k0 2 (by decide), hgi]
        exact yq_ap_0 (by omega)
      · rw [k0 3 (by decide), hgi]
        exact yq_ap_0 (by omega)
      · rw [k0 4 (by decide), hgi]
        exact yq_ap_0 (by omega)
      · rw [k0 5 (by decide), hgi]
        exact yq_ap_0 (by omega)
    · exact (ye_w0 (by omega) (by omega)).symm.trans (congrArg (ye_wr _) (show (0 : Int) = _ by omega))
theorem xw_155_0_9 : yt_hold xT_155 xk_155 xq_155.2.2.1 xG_155 xP_155 xU_155 19 xk_155.2.1.2.2.2 (fun g0 r g => xR_155 r g0 ∧ g = g0) (1000, ([(0, 0), (0, 99), (1, 40), (1, 1), ((-2147483648), 2147483647), (1, 40), ((-2147483648), 2147483647), (1, 1), ((-2147483648), 2147483647), (1, 100), (0, 1), ((-2147483648), 2147483647), (0, 100), (0, 1), ((-2147483648), 2147483647), (0, 100), (0, 1), ((-2147483648), 2147483647), (0, 100), ((-2147483648), 0)], [([(2, 1), (5, 1)], (-41)), ([(9, 1), (1, (-1)), (2, (-2))], 1)]), [([], (-5)), ([(19, 1)], 0), ([(5, 1)], 0), ([(6, 1)], 0)], [], [.inr (.inr (.inl (118, 1, [([(1, 1)], 0), ([(2, 1)], 0), ([(7, 1)], 0), ([(8, 1)], 0), ([(9, 1)], 0)], [7, 8], [])))]) := by
  intro g0 r gi g hok hh hars hfr hG
  have b0 : 0 ≤ r 0 ∧ r 0 ≤ 0 := hok.1 0 (0, 0) rfl
  have b1 : 0 ≤ r 1 ∧ r 1 ≤ 99 := hok.1 1 (0, 99) rfl
  have b2 : 1 ≤ r 2 ∧ r 2 ≤ 40 := hok.1 2 (1, 40) rfl
  have b3 : 1 ≤ r 3 ∧ r 3 ≤ 1 := hok.1 3 (1, 1) rfl
  have b4 : (-2147483648) ≤ r 4 ∧ r 4 ≤ 2147483647 := hok.1 4 ((-2147483648), 2147483647) rfl
  have b5 : 1 ≤ r 5 ∧ r 5 ≤ 40 := hok.1 5 (1, 40) rfl
  have b6 : (-2147483648) ≤ r 6 ∧ r 6 ≤ 2147483647 := hok.1 6 ((-2147483648), 2147483647) rfl
  have b7 : 1 ≤ r 7 ∧ r 7 ≤ 1 := hok.1 7 (1, 1) rfl
  have b8 : (-2147483648) ≤ r 8 ∧ r 8 ≤ 2147483647 := hok.1 8 ((-2147483648), 2147483647) rfl
  have b9 : 1 ≤ r 9 ∧ r 9 ≤ 100 := hok.1 9 (1, 100) rfl
  have b10 : 0 ≤ r 10 ∧ r 10 ≤ 1 := hok.1 10 (0, 1) rfl
  have b11 : (-2147483648) ≤ r 11 ∧ r 11 ≤ 2147483647 := hok.1 11 ((-2147483648), 2147483647) rfl
  have b12 : 0 ≤ r 12 ∧ r 12 ≤ 100 := hok.1 12 (0, 100) rfl
  have b13 : 0 ≤ r 13 ∧ r 13 ≤ 1 := hok.1 13 (0, 1) rfl
  have b14 : (-2147483648) ≤ r 14 ∧ r 14 ≤ 2147483647 := hok.1 14 ((-2147483648), 2147483647) rfl
  have b15 : 0 ≤ r 15 ∧ r 15 ≤ 100 := hok.1 15 (0, 100) rfl
  have b16 : 0 ≤ r 16 ∧ r 16 ≤ 1 := hok.1 16 (0, 1) rfl
  have b17 : (-2147483648) ≤ r 17 ∧ r 17 ≤ 2147483647 := hok.1 17 ((-2147483648), 2147483647) rfl
  have b18 : 0 ≤ r 18 ∧ r 18 ≤ 100 := hok.1 18 (0, 100) rfl
  have b19 : (-2147483648) ≤ r 19 ∧ r 19 ≤ 0 := hok.1 19 ((-2147483648), 0) rfl
  have f0 : 0 ≤ ((1 * r 2 + (1 * r 5 + 0)) + (-41)) := hok.2 _ (List.mem_of_getElem? (i := 0) rfl)
  have f1 : 0 ≤ ((1 * r 9 + ((-1) * r 1 + ((-2) * r 2 + 0))) + 1) := hok.2 _ (List.mem_of_getElem? (i := 1) rfl)
  obtain ⟨hG, hgi⟩ := hG
  have hG : True := hG
  obtain ⟨h0, hh, e0, k0⟩ := hh
  have k0 : ∀ j, j ∉ [] → g j = h0 j := k0
  have e0 : yq_nr (h0 8) ((1 * r 1 + 0) + 0) ((1 * r 9 + 0) + 0) (2 * ((1 * r 2 + 0) + 0)).toNat = 1 := e0
  have hh : h0 = gi := hh
  subst hh
  refine yt_dalt (by decide) (by decide) ?_
  rw [show xk_155.2.1.2.1.1.length = 19 from rfl]
  show ((((0 : Int) + (-5)) = yq_tr ((1 * r 0 + 0) + 0) ((1 * r 1 + 0) + 0) ((1 * r 2 + 0) + 0) ((1 * r 3 + 0) + 0) (yq_at ((1 * r 0 + 0) + 0) ((1 * ((1 * r 7 + 0) + 0) + 0) + 0) ((1 * ((1 * r 10 + 0) + 0) + 0) + 0) ((1 * ((1 * r 13 + 0) + 0) + 0) + 0) ((1 * ((1 * r 16 + 0) + 0) + 0) + 0)) (yq_at ((1 * r 0 + 0) + 0) ((1 * ((1 * r 9 + 0) + 0) + 0) + 0) ((1 * ((1 * r 12 + 0) + 0) + 0) + 0) ((1 * ((1 * r 15 + 0) + 0) + 0) + 0) ((1 * ((1 * r 18 + 0) + 0) + 0) + 0)) (yq_nr (yq_fat ((1 * r 0 + 0) + 0) (g0 8) (g0 10) (g0 12) (g0 14)) ((1 * r 1 + 0) + 0) (yq_at ((1 * r 0 + 0) + 0) ((1 * ((1 * r 9 + 0) + 0) + 0) + 0) ((1 * ((1 * r 12 + 0) + 0) + 0) + 0) ((1 * ((1 * r 15 + 0) + 0) + 0) + 0) ((1 * ((1 * r 18 + 0) + 0) + 0) + 0)) (2 * ((1 * r 2 + 0) + 0)).toNat) ((1 * ((1 * r 5 + 0) + 0) + 0) + 0) ∧ ((1 * ((1 * r 5 + 0) + 0) + 0) + 0) = yq_tn ((0 : Int) + (-5)) ((1 * ((1 * r 5 + 0) + 0) + 0) + 0)) ∧ (g 2) = yq_ap ((1 * ((1 * r 5 + 0) + 0) + 0) + 0) ((1 * ((1 * r 5 + 0) + 0) + 0) + 0) (yq_vx (yq_fat ((1 * r 0 + 0) + 0) (g0 8) (g0 10) (g0 12) (g0 14)) (yq_at ((1 * r 0 + 0) + 0) ((1 * ((1 * r 9 + 0) + 0) + 0) + 0) ((1 * ((1 * r 12 + 0) + 0) + 0) + 0) ((1 * ((1 * r 15 + 0) + 0) + 0) + 0) ((1 * ((1 * r 18 + 0) + 0) + 0) + 0)) ((1 * r 1 + 0) + 0) ((1 * ((1 * r 5 + 0) + 0) + 0) + 0) 0) (g0 2) ∧ (g 3) = yq_ap ((1 * ((1 * r 5 + 0) + 0) + 0) + 0) ((1 * ((1 * r 5 + 0) + 0) + 0) + 0) (yq_vx (yq_fat ((1 * r 0 + 0) + 0) (g0 8) (g0 10) (g0 12) (g0 14)) (yq_at ((1 * r 0 + 0) + 0) ((1 * ((1 * r 9 + 0) + 0) + 0) + 0) ((1 * ((1 * r 12 + 0) + 0) + 0) + 0) ((1 * ((1 * r 15 + 0) + 0) + 0) + 0) ((1 * ((1 * r 18 + 0) + 0) + 0) + 0)) ((1 * r 1 + 0) + 0) ((1 * ((1 * r 5 + 0) + 0) + 0) + 0) 1) (g0 3) ∧ (g 4) = yq_ap ((1 * ((1 * r 5 + 0) + 0) + 0) + 0) ((1 * ((1 * r 5 + 0) + 0) + 0) + 0) (yq_ct ((1 * r 3 + 0) + 0)) (g0 4) ∧ (g 5) = yq_ap ((1 * ((1 * r 5 + 0) + 0) + 0) + 0) ((1 * ((1 * r 5 + 0) + 0) + 0) + 0) (yq_ct 1) (g0 5)) ∧ ((1 * ((1 * r 6 + 0) + 0) + 0) + 0) = ye_wr ((1 * ((1 * r 6 + 0) + 0) + 0) + 0) (((1 * ((1 * r 5 + 0) + 0) + 0) + 0) - ((1 * ((1 * r 5 + 0) + 0) + 0) + 0))
  try simp only [Int.one_mul, Int.zero_add, Int.add_zero]
  refine ⟨?_, ?_⟩
  · try simp only [Int.one_mul, Int.zero_add, Int.add_zero] at e0
    rw [hgi] at e0
    refine ⟨?_, ?_⟩
    · refine ⟨?_, ?_⟩
      · rw [show r 0 = 0 by omega]
        simp only [yq_at0, yq_fat0]
        unfold yq_tr
        repeat' split
        all_goals omega
      · unfold yq_tn
        repeat' split
        all_goals omega
    · refine ⟨?_, ?_, ?_, ?_⟩
      · rw [k0 2 (by decide), hgi]
        exact yq_ap_0 (by omega)
      · rw [k0 3 (by decide), hgi]
        exact yq_ap_0 (by omega)
      · rw [k0 4 (by decide), hgi]
        exact yq_ap_0 (by omega)
      · rw [k0 5 (by decide), hgi]
        exact yq_ap_0 (by omega)
  · exact (ye_w0 (by omega) (by omega)).symm.trans (congrArg (ye_wr _) (show (0 : Int) = _ by omega))
theorem xw_155_0_10 : yt_hold xT_155 xk_155 xq_155.2.2.1 xG_155 xP_155 xU_155 19 xk_155.2.1.2.2.2 (fun g0 r g => xR_155 r g0 ∧ g = g0) (1000, ([(0, 0), ((-2147483648), 2147483647), (1, 40), (1, 1), ((-2147483648), 2147483647), (0, 40), ((-2147483648), 2147483647), (0, 0), ((-2147483648), 2147483647), (0, 100), (0, 1), ((-2147483648), 2147483647), (0, 100), (0, 1), ((-2147483648), 2147483647), (0, 100), (0, 1), ((-2147483648), 2147483647), (0, 100), ((-2147483648), 0)], []), [([], (-2)), ([(19, 1)], 0), ([(5, 1)], 0), ([(6, 1)], 0)], [], []) := by
  intro g0 r gi g hok hh hars hfr hG
  have b0 : 0 ≤ r 0 ∧ r 0 ≤ 0 := hok.1 0 (0, 0) rfl
  have b1 : (-2147483648) ≤ r 1 ∧ r 1 ≤ 2147483647 := hok.1 1 ((-2147483648), 2147483647) rfl
  have b2 : 1 ≤ r 2 ∧ r 2 ≤ 40 := hok.1 2 (1, 40) rfl
  have b3 : 1 ≤ r 3 ∧ r 3 ≤ 1 := hok.1 3 (1, 1) rfl
  have b4 : (-2147483648) ≤ r 4 ∧ r 4 ≤ 2147483647 := hok.1 4 ((-2147483648), 2147483647) rfl
  have b5 : 0 ≤ r 5 ∧ r 5 ≤ 40 := hok.1 5 (0, 40) rfl
  have b6 : (-2147483648) ≤ r 6 ∧ r 6 ≤ 2147483647 := hok.1 6 ((-2147483648), 2147483647) rfl
  have b7 : 0 ≤ r 7 ∧ r 7 ≤ 0 := hok.1 7 (0, 0) rfl
  have b8 : (-2147483648) ≤ r 8 ∧ r 8 ≤ 2147483647 := hok.1 8 ((-2147483648), 2147483647) rfl
  have b9 : 0 ≤ r 9 ∧ r 9 ≤ 100 := hok.1 9 (0, 100) rfl
  have b10 : 0 ≤ r 10 ∧ r 10 ≤ 1 := hok.1 10 (0, 1) rfl
  have b11 : (-2147483648) ≤ r 11 ∧ r 11 ≤ 2147483647 := hok.1 11 ((-2147483648), 2147483647) rfl
  have b12 : 0 ≤ r 12 ∧ r 12 ≤ 100 := hok.1 12 (0, 100) rfl
  have b13 : 0 ≤ r 13 ∧ r 13 ≤ 1 := hok.1 13 (0, 1) rfl
  have b14 : (-2147483648) ≤ r 14 ∧ r 14 ≤ 2147483647 := hok.1 14 ((-2147483648), 2147483647) rfl
  have b15 : 0 ≤ r 15 ∧ r 15 ≤ 100 := hok.1 15 (0, 100) rfl
  have b16 : 0 ≤ r 16 ∧ r 16 ≤ 1 := hok.1 16 (0, 1) rfl
  have b17 : (-2147483648) ≤ r 17 ∧ r 17 ≤ 2147483647 := hok.1 17 ((-2147483648), 2147483647) rfl
  have b18 : 0 ≤ r 18 ∧ r 18 ≤ 100 := hok.1 18 (0, 100) rfl
  have b19 : (-2147483648) ≤ r 19 ∧ r 19 ≤ 0 := hok.1 19 ((-2147483648), 0) rfl
  obtain ⟨hG, hgi⟩ := hG
  have hG : True := hG
  have hh : g = gi := hh
  subst hh
  refine yt_dalt (by decide) (by decide) ?_
  rw [show xk_155.2.1.2.1.1.length = 19 from rfl]
  show ((((0 : Int) + (-2)) = yq_tr ((1 * r 0 + 0) + 0) ((1 * r 1 + 0) + 0) ((1 * r 2 + 0) + 0) ((1 * r 3 + 0) + 0) (yq_at ((1 * r 0 + 0) + 0) ((1 * ((1 * r 7 + 0) + 0) + 0) + 0) ((1 * ((1 * r 10 + 0) + 0) + 0) + 0) ((1 * ((1 * r 13 + 0) + 0) + 0) + 0) ((1 * ((1 * r 16 + 0) + 0) + 0) + 0)) (yq_at ((1 * r 0 + 0) + 0) ((1 * ((1 * r 9 + 0) + 0) + 0) + 0) ((1 * ((1 * r 12 + 0) + 0) + 0) + 0) ((1 * ((1 * r 15 + 0) + 0) + 0) + 0) ((1 * ((1 * r 18 + 0) + 0) + 0) + 0)) (yq_nr (yq_fat ((1 * r 0 + 0) + 0) (g0 8) (g0 10) (g0 12) (g0 14)) ((1 * r 1 + 0) + 0) (yq_at ((1 * r 0 + 0) + 0) ((1 * ((1 * r 9 + 0) + 0) + 0) + 0) ((1 * ((1 * r 12 + 0) + 0) + 0) + 0) ((1 * ((1 * r 15 + 0) + 0) + 0) + 0) ((1 * ((1 * r 18 + 0) + 0) + 0) + 0)) (2 * ((1 * r 2 + 0) + 0)).toNat) ((1 * ((1 * r 5 + 0) + 0) + 0) + 0) ∧ ((1 * ((1 * r 5 + 0) + 0) + 0) + 0) = yq_tn ((0 : Int) + (-2)) ((1 * ((1 * r 5 + 0) + 0) + 0) + 0)) ∧ (g 2) = yq_ap ((1 * ((1 * r 5 + 0) + 0) + 0) + 0) ((1 * ((1 * r 5 + 0) + 0) + 0) + 0) (yq_vx (yq_fat ((1 * r 0 + 0) + 0) (g0 8) (g0 10) (g0 12) (g0 14)) (yq_at ((1 * r 0 + 0) + 0) ((1 * ((1 * r 9 + 0) + 0) + 0) + 0) ((1 * ((1 * r 12 + 0) + 0) + 0) + 0) ((1 * ((1 * r 15 + 0) + 0) + 0) + 0) ((1 * ((1 * r 18 + 0) + 0) + 0) + 0)) ((1 * r 1 + 0) + 0) ((1 * ((1 * r 5 + 0) + 0) + 0) + 0) 0) (g0 2) ∧ (g 3) = yq_ap ((1 * ((1 * r 5 + 0) + 0) + 0) + 0) ((1 * ((1 * r 5 + 0) + 0) + 0) + 0) (yq_vx (yq_fat ((1 * r 0 + 0) + 0) (g0 8) (g0 10) (g0 12) (g0 14)) (yq_at ((1 * r 0 + 0) + 0) ((1 * ((1 * r 9 + 0) + 0) + 0) + 0) ((1 * ((1 * r 12 + 0) + 0) + 0) + 0) ((1 * ((1 * r 15 + 0) + 0) + 0) + 0) ((1 * ((1 * r 18 + 0) + 0) + 0) + 0)) ((1 * r 1 + 0) + 0) ((1 * ((1 * r 5 + 0) + 0) + 0) + 0) 1) (g0 3) ∧ (g 4) = yq_ap ((1 * ((1 * r 5 + 0) + 0) + 0) + 0) ((1 * ((1 * r 5 + 0) + 0) + 0) + 0) (yq_ct ((1 * r 3 + 0) + 0)) (g0 4) ∧ (g 5) = yq_ap ((1 * ((1 * r 5 + 0) + 0) + 0) + 0) ((1 * ((1 * r 5 + 0) + 0) + 0) + 0) (yq_ct 1) (g0 5)) ∧ ((1 * ((1 * r 6 + 0) + 0) + 0) + 0) = ye_wr ((1 * ((1 * r 6 + 0) + 0) + 0) + 0) (((1 * ((1 * r 5 + 0) + 0) + 0) + 0) - ((1 * ((1 * r 5 + 0) + 0) + 0) + 0))
  try simp only [Int.one_mul, Int.zero_add, Int.add_zero]
  refine ⟨?_, ?_⟩
  · refine ⟨?_, ?_⟩
    · refine ⟨?_, ?_⟩
      · rw [show r 0 = 0 by omega]
        simp only [yq_at0, yq_fat0]
        unfold yq_tr
        repeat' split
        all_goals omega
      · unfold yq_tn
        repeat' split
        all_goals omega
    · refine ⟨?_, ?_, ?_, ?_⟩
      · rw [hgi]
        exact yq_ap_0 (by omega)
      · rw [hgi]
        exact yq_ap_0 (by omega)
      · rw [hgi]
        exact yq_ap_0 (by omega)
      · rw [hgi]
        exact yq_ap_0 (by omega)
  · exact (ye_w0 (by omega) (by omega)).symm.trans (congrArg (ye_wr _) (show (0 : Int) = _ by omega))
theorem xw_155_0_11 : yt_hold xT_155 xk_155 xq_155.2.2.1 xG_155 xP_155 xU_155 19 xk_155.2.1.2.2.2 (fun g0 r g => xR_155 r g0 ∧ g = g0) (1000, ([(1, 1), ((-2147483648), (-1)), (1, 40), (1, 1), ((-2147483648), 2147483647), (0, 40), ((-2147483648), 2147483647), (0, 1), ((-2147483648), 2147483647), (0, 100), (1, 1), ((-2147483648), 2147483647), (0, 100), (0, 1), ((-2147483648), 2147483647), (0, 100), (0, 1), ((-2147483648), 2147483647), (0, 100), ((-2147483648), 0)], []), [([], (-3)), ([(19, 1)], 0), ([(5, 1)], 0), ([(6, 1)], 0)], [], []) := by
  intro g0 r gi g hok hh hars hfr hG
  have b0 : 1 ≤ r 0 ∧ r 0 ≤ 1 := hok.1 0 (1, 1) rfl
  have b1 : (-2147483648) ≤ r 1 ∧ r 1 ≤ (-1) := hok.1 1 ((-2147483648), (-1)) rfl
  have b2 : 1 ≤ r 2 ∧ r 2 ≤ 40 := hok.1 2 (1, 40) rfl
  have b3 : 1 ≤ r 3 ∧ r 3 ≤ 1 := hok.1 3 (1, 1) rfl
  have b4 : (-2147483648) ≤ r 4 ∧ r 4 ≤ 2147483647 := hok.1 4 ((-2147483648), 2147483647) rfl
  have b5 : 0 ≤ r 5 ∧ r 5 ≤ 40 := hok.1 5 (0, 40) rfl
  have b6 : (-2147483648) ≤ r 6 ∧ r 6 ≤ 2147483647 := hok.1 6 ((-2147483648), 2147483647) rfl
  have b7 : 0 ≤ r 7 ∧ r 7 ≤ 1 := hok.1 7 (0, 1) rfl
  have b8 : (-2147483648) ≤ r 8 ∧ r 8 ≤ 2147483647 := hok.1 8 ((-2147483648), 2147483647) rfl
  have b9 : 0 ≤ r 9 ∧ r 9 ≤ 100 := hok.1 9 (0, 100) rfl
  have b10 : 1 ≤ r 10 ∧ r 10 ≤ 1 := hok.1 10 (1, 1) rfl
  have b11 : (-2147483648) ≤ r 11 ∧ r 11 ≤ 2147483647 := hok.1 11 ((-2147483648), 2147483647) rfl
  have b12 : 0 ≤ r 12 ∧ r 12 ≤ 100 := hok.1 12 (0, 100) rfl
  have b13 : 0 ≤ r 13 ∧ r 13 ≤ 1 := hok.1 13 (0, 1) rfl
  have b14 : (-2147483648) ≤ r 14 ∧ r 14 ≤ 2147483647 := hok.1 14 ((-2147483648), 2147483647) rfl
  have b15 : 0 ≤ r 15 ∧ r 15 ≤ 100 := hok.1 15 (0, 100) rfl
  have b16 : 0 ≤ r 16 ∧ r 16 ≤ 1 := hok.1 16 (0, 1) rfl
  have b17 : (-2147483648) ≤ r 17 ∧ r 17 ≤ 2147483647 := hok.1 17 ((-2147483648), 2147483647) rfl
  have b18 : 0 ≤ r 18 ∧ r 18 ≤ 100 := hok.1 18 (0, 100) rfl
  have b19 : (-2147483648) ≤ r 19 ∧ r 19 ≤ 0 := hok.1 19 ((-2147483648), 0) rfl
  obtain ⟨hG, hgi⟩ := hG
  have hG : True := hG
  have hh : g = gi := hh
  subst hh
  refine yt_dalt (by decide) (by decide) ?_
  rw [show xk_155.2.1.2.1.1.length = 19 from rfl]
  show ((((0 : Int) + (-3)) = yq_tr ((1 * r 0 + 0) + 0) ((1 * r 1 + 0) + 0) ((1 * r 2 + 0) + 0) ((1 * r 3 + 0) + 0) (yq_at ((1 * r 0 + 0) + 0) ((1 * ((1 * r 7 + 0) + 0) + 0) + 0) ((1 * ((1 * r 10 + 0) + 0) + 0) + 0) ((1 * ((1 * r 13 + 0) + 0) + 0) + 0) ((1 * ((1 * r 16 + 0) + 0) + 0) + 0)) (yq_at ((1 * r 0 + 0) + 0) ((1 * ((1 * r 9 + 0) + 0) + 0) + 0) ((1 * ((1 * r 12 + 0) + 0) + 0) + 0) ((1 * ((1 * r 15 + 0) + 0) + 0) + 0) ((1 * ((1 * r 18 + 0) + 0) + 0) + 0)) (yq_nr (yq_fat ((1 * r 0 + 0) + 0) (g0 8) (g0 10) (g0 12) (g0 14)) ((1 * r 1 + 0) + 0) (yq_at ((1 * r 0 + 0) + 0) ((1 * ((1 * r 9 + 0) + 0) + 0) + 0) ((1 * ((1 * r 12 + 0) + 0) + 0) + 0) ((1 * ((1 * r 15 + 0) + 0) + 0) + 0) ((1 * ((1 * r 18 + 0) + 0) + 0) + 0)) (2 * ((1 * r 2 + 0) + 0)).toNat) ((1 * ((1 * r 5 + 0) + 0) + 0) + 0) ∧ ((1 * ((1 * r 5 + 0) + 0) + 0) + 0) = yq_tn ((0 : Int) + (-3)) ((1 * ((1 * r 5 + 0) + 0) + 0) + 0)) ∧ (g 2) = yq_ap ((1 * ((1 * r 5 + 0) + 0) + 0) + 0) ((1 * ((1 * r 5 + 0) + 0) + 0) + 0) (yq_vx (yq_fat ((1 * r 0 + 0) + 0) (g0 8) (g0 10) (g0 12) (g0 14)) (yq_at ((1 * r 0 + 0) + 0) ((1 * ((1 * r 9 + 0) + 0) + 0) + 0) ((1 * ((1 * r 12 + 0) + 0) + 0) + 0) ((1 * ((1 * r 15 + 0) + 0) + 0) + 0) ((1 * ((1 * r 18 + 0) + 0) + 0) + 0)) ((1 * r 1 + 0) + 0) ((1 * ((1 * r 5 + 0) + 0) + 0) + 0) 0) (g0 2) ∧ (g 3) = yq_ap ((1 * ((1 * r 5 + 0) + 0) + 0) + 0) ((1 * ((1 * r 5 + 0) + 0) + 0) + 0) (yq_vx (yq_fat ((1 * r 0 + 0) + 0) (g0 8) (g0 10) (g0 12) (g0 14)) (yq_at ((1 * r 0 + 0) + 0) ((1 * ((1 * r 9 + 0) + 0) + 0) + 0) ((1 * ((1 * r 12 + 0) + 0) + 0) + 0) ((1 * ((1 * r 15 + 0) + 0) + 0) + 0) ((1 * ((1 * r 18 + 0) + 0) + 0) + 0)) ((1 * r 1 + 0) + 0) ((1 * ((1 * r 5 + 0) + 0) + 0) + 0) 1) (g0 3) ∧ (g 4) = yq_ap ((1 * ((1 * r 5 + 0) + 0) + 0) + 0) ((1 * ((1 * r 5 + 0) + 0) + 0) + 0) (yq_ct ((1 * r 3 + 0) + 0)) (g0 4) ∧ (g 5) = yq_ap ((1 * ((1 * r 5 + 0) + 0) + 0) + 0) ((1 * ((1 * r 5 + 0) + 0) + 0) + 0) (yq_ct 1) (g0 5)) ∧ ((1 * ((1 * r 6 + 0) + 0) + 0) + 0) = ye_wr ((1 * ((1 * r 6 + 0) + 0) + 0) + 0) (((1 * ((1 * r 5 + 0) + 0) + 0) + 0) - ((1 * ((1 * r 5 + 0) + 0) + 0) + 0))
  try simp only [Int.one_mul, Int.zero_add, Int.add_zero]
  refine ⟨?_, ?_⟩
  · refine ⟨?_, ?_⟩
    · refine ⟨?_, ?_⟩
      · rw [show r 0 = 1 by omega]
        simp only [yq_at1, yq_fat1]
        unfold yq_tr
        repeat' split
        all_goals omega
      · unfold yq_tn
        repeat' split
        all_goals omega
    · refine ⟨?_, ?_, ?_, ?_⟩
      · rw [hgi]
        exact yq_ap_0 (by omega)
      · rw [hgi]
        exact yq_ap_0 (by omega)
      · rw [hgi]
        exact yq_ap_0 (by omega)
      · rw [hgi]
        exact yq_ap_0 (by omega)
  · exact (ye_w0 (by omega) (by omega)).symm.trans (congrArg (ye_wr _) (show (0 : Int) = _ by omega))
theorem xw_155_0_12 : yt_hold xT_155 xk_155 xq_155.2.2.1 xG_155 xP_155 xU_155 19 xk_155.2.1.2.2.2 (fun g0 r g => xR_155 r g0 ∧ g = g0) (1000, ([(1, 1), (0, 2147483647), (1, 40), (1, 1), ((-2147483648), 2147483647), (0, 40), ((-2147483648), 2147483647), (0, 1), ((-2147483648), 2147483647), (0, 100), (1, 1), ((-2147483648), 2147483647), (0, 100), (0, 1), ((-2147483648), 2147483647), (0, 100), (0, 1), ((-2147483648), 2147483647), (0, 100), ((-2147483648), 0)], [([(12, (-1)), (1, 1), (2, 2)], (-2))]), [([], (-3)), ([(19, 1)], 0), ([(5, 1)], 0), ([(6, 1)], 0)], [], []) := by
  intro g0 r gi g hok hh hars hfr hG
  have b0 : 1 ≤ r 0 ∧ r 0 ≤ 1 := hok.1 0 (1, 1) rfl
  have b1 : 0 ≤ r 1 ∧ r 1 ≤ 2147483647 := hok.1 1 (0, 2147483647) rfl
  have b2 : 1 ≤ r 2 ∧ r 2 ≤ 40 := hok.1 2 (1, 40) rfl
  have b3 : 1 ≤ r 3 ∧ r 3 ≤ 1 := hok.1 3 (1, 1) rfl
  have b4 : (-2147483648) ≤ r 4 ∧ r 4 ≤ 2147483647 := hok.1 4 ((-2147483648), 2147483647) rfl
  have b5 : 0 ≤ r 5 ∧ r 5 ≤ 40 := hok.1 5 (0, 40) rfl
  have b6 : (-2147483648) ≤ r 6 ∧ r 6 ≤ 2147483647 := hok.1 6 ((-2147483648), 2147483647) rfl
  have b7 : 0 ≤ r 7 ∧ r 7 ≤ 1 := hok.1 7 (0, 1) rfl
  have b8 : (-2147483648) ≤ r 8 ∧ r 8 ≤ 2147483647 := hok.1 8 ((-2147483648), 2147483647) rfl
  have b9 : 0 ≤ r 9 ∧ r 9 ≤ 100 := hok.1 9 (0, 100) rfl
  have b10 : 1 ≤ r 10 ∧ r 10 ≤ 1 := hok.1 10 (1, 1) rfl
  have b11 : (-2147483648) ≤ r 11 ∧ r 11 ≤ 2147483647 := hok.1 11 ((-2147483648), 2147483647) rfl
  have b12 : 0 ≤ r 12 ∧ r 12 ≤ 100 := hok.1 12 (0, 100) rfl
  have b13 : 0 ≤ r 13 ∧ r 13 ≤ 1 := hok.1 13 (0, 1) rfl
  have b14 : (-2147483648) ≤ r 14 ∧ r 14 ≤ 2147483647 := hok.1 14 ((-2147483648), 2147483647) rfl
  have b15 : 0 ≤ r 15 ∧ r 15 ≤ 100 := hok.1 15 (0, 100) rfl
  have b16 : 0 ≤ r 16 ∧ r 16 ≤ 1 := hok.1 16 (0, 1) rfl
  have b17 : (-2147483648) ≤ r 17 ∧ r 17 ≤ 2147483647 := hok.1 17 ((-2147483648), 2147483647) rfl
  have b18 : 0 ≤ r 18 ∧ r 18 ≤ 100 := hok.1 18 (0, 100) rfl
  have b19 : (-2147483648) ≤ r 19 ∧ r 19 ≤ 0 := hok.1 19 ((-2147483648), 0) rfl
  have f0 : 0 ≤ (((-1) * r 12 + (1 * r 1 + (2 * r 2 + 0))) + (-2)) := hok.2 _ (List.mem_of_getElem? (i := 0) rfl)
  obtain ⟨hG, hgi⟩ := hG
  have hG : True := hG
  have hh : g = gi := hh
  subst hh
  refine yt_dalt (by decide) (by decide) ?_
  rw [show xk_155.2.1.2.1.1.length = 19 from rfl]
  show ((((0 : Int) + (-3)) = yq_tr ((1 * r 0 + 0) + 0) ((1 * r 1 + 0) + 0) ((1 * r 2 + 0) + 0) ((1 * r 3 + 0) + 0) (yq_at ((1 * r 0 + 0) + 0) ((1 * ((1 * r 7 + 0) + 0) + 0) + 0) ((1 * ((1 * r 10 + 0) + 0) + 0) + 0) ((1 * ((1 * r 13 + 0) + 0) + 0) + 0) ((1 * ((1 * r 16 + 0) + 0) + 0) + 0)) (yq_at ((1 * r 0 + 0) + 0) ((1 * ((1 * r 9 + 0) + 0) + 0) + 0) ((1 * ((1 * r 12 + 0) + 0) + 0) + 0) ((1 * ((1 * r 15 + 0) + 0) + 0) + 0) ((1 * ((1 * r 18 + 0) + 0) + 0) + 0)) (yq_nr (yq_fat ((1 * r 0 + 0) + 0) (g0 8) (g0 10) (g0 12) (g0 14)) ((1 * r 1 + 0) + 0) (yq_at ((1 * r 0 + 0) + 0) ((1 * ((1 * r 9 + 0) + 0) + 0) + 0) ((1 * ((1 * r 12 + 0) + 0) + 0) + 0) ((1 * ((1 * r 15 + 0) + 0) + 0) + 0) ((1 * ((1 * r 18 + 0) + 0) + 0) + 0)) (2 * ((1 * r 2 + 0) + 0)).toNat) ((1 * ((1 * r 5 + 0) + 0) + 0) + 0) ∧ ((1 * ((1 * r 5 + 0) + 0) + 0) + 0) = yq_tn ((0 : Int) + (-3)) ((1 * ((1 * r 5 + 0) + 0) + 0) + 0)) ∧ (g 2) = yq_ap ((1 * ((1 * r 5 + 0) + 0) + 0) + 0) ((1 * ((1 * r 5 + 0) + 0) + 0) + 0) (yq_vx (yq_fat ((1 * r 0 + 0) + 0) (g0 8) (g0 10) (g0 12) (g0 14)) (yq_at ((1 * r 0 + 0) + 0) ((1 * ((1 * r 9 + 0) + 0) + 0) + 0) ((1 * ((1 * r 12 + 0) + 0) + 0) + 0) ((1 * ((1 * r 15 + 0) + 0) + 0) + 0) ((1 * ((1 * r 18 + 0) + 0) + 0) + 0)) ((1 * r 1 + 0) + 0) ((1 * ((1 * r 5 + 0) + 0) + 0) + 0) 0) (g0 2) ∧ (g 3) = yq_ap ((1 * ((1 * r 5 + 0) + 0) + 0) + 0) ((1 * ((1 * r 5 + 0) + 0) + 0) + 0) (yq_vx (yq_fat ((1 * r 0 + 0) + 0) (g0 8) (g0 10) (g0 12) (g0 14)) (yq_at ((1 * r 0 + 0) + 0) ((1 * ((1 * r 9 + 0) + 0) + 0) + 0) ((1 * ((1 * r 12 + 0) + 0) + 0) + 0) ((1 * ((1 * r 15 + 0) + 0) + 0) + 0) ((1 * ((1 * r 18 + 0) + 0) + 0) + 0)) ((1 * r 1 + 0) + 0) ((1 * ((1 * r 5 + 0) + 0) + 0) + 0) 1) (g0 3) ∧ (g 4) = yq_ap ((1 * ((1 * r 5 + 0) + 0) + 0) + 0) ((1 * ((1 * r 5 + 0) + 0) + 0) + 0) (yq_ct ((1 * r 3 + 0) + 0)) (g0 4) ∧ (g 5) = yq_ap ((1 * ((1 * r 5 + 0) + 0) + 0) + 0) ((1 * ((1 * r 5 + 0) + 0) + 0) + 0) (yq_ct 1) (g0 5)) ∧ ((1 * ((1 * r 6 + 0) + 0) + 0) + 0) = ye_wr ((1 * ((1 * r 6 + 0) + 0) + 0) + 0) (((1 * ((1 * r 5 + 0) + 0) + 0) + 0) - ((1 * ((1 * r 5 + 0) + 0) + 0) + 0))
  try simp only [Int.one_mul, Int.zero_add, Int.add_zero]
  refine ⟨?_, ?_⟩
  · refine ⟨?_, ?_⟩
    · refine ⟨?_, ?_⟩
      · rw [show r 0 = 1 by omega]
        simp only [yq_at1, yq_fat1]
        unfold yq_tr
        repeat' split
        all_goals omega
      · unfold yq_tn
        repeat' split
        all_goals omega
    · refine ⟨?_, ?_, ?_, ?_⟩
      · rw [hgi]
        exact yq_ap_0 (by omega)
      · rw [hgi]
        exact yq_ap_0 (by omega)
      · rw [hgi]
        exact yq_ap_0 (by omega)
      · rw [hgi]
        exact yq_ap_0 (by omega)
  · exact (ye_w0 (by omega) (by omega)).symm.trans (congrArg (ye_wr _) (show (0 : Int) = _ by omega))
theorem xw_155_0_13 : yt_hold xT_155 xk_155 xq_155.2.2.1 xG_155 xP_155 xU_155 19 xk_155.2.1.2.2.2 (fun g0 r g => xR_155 r g0 ∧ g = g0) (1000, ([(1, 1), (0, 99), (1, 40), (1, 1), ((-2147483648), 2147483647), (0, 40), ((-2147483648), 2147483647), (0, 1), ((-2147483648), 2147483647), (0, 100), (1, 1), ((-2147483648), 2147483647), (1, 100), (0, 1), ((-2147483648), 2147483647), (0, 100), (0, 1), ((-2147483648), 2147483647), (0, 100), ((-2147483648), 0)], [([(2, 2), (1, 1)], (-1)), ([(12, 1), (1, (-1)), (2, (-2))], 1)]), [([], (-1)), ([(19, 1)], 0), ([(5, 1)], 0), ([(6, 1)], 0)], [], [.inr (.inr (.inl (118, 0, [([(1, 1)], 0), ([(2, 1)], 0), ([(10, 1)], 0), ([(11, 1)], 0), ([(12, 1)], 0)], [9, 10], [])))]) := by
  intro g0 r gi g hok hh hars hfr hG
  have b0 : 1 ≤ r 0 ∧ r 0 ≤ 1 := hok.1 0 (1, 1) rfl
  have b1 : 0 ≤ r 1 ∧ r 1 ≤ 99 := hok.1 1 (0, 99) rfl
  have b2 : 1 ≤ r 2 ∧ r 2 ≤ 40 := hok.1 2 (1, 40) rfl
  have b3 : 1 ≤ r 3 ∧ r 3 ≤ 1 := hok.1 3 (1, 1) rfl
  have b4 : (-2147483648) ≤ r 4 ∧ r 4 ≤ 2147483647 := hok.1 4 ((-2147483648), 2147483647) rfl
  have b5 : 0 ≤ r 5 ∧ r 5 ≤ 40 := hok.1 5 (0, 40) rfl
  have b6 : (-2147483648) ≤ r 6 ∧ r 6 ≤ 2147483647 := hok.1 6 ((-2147483648), 2147483647) rfl
  have b7 : 0 ≤ r 7 ∧ r 7 ≤ 1 := hok.1 7 (0, 1) rfl
  have b8 : (-2147483648) ≤ r 8 ∧ r 8 ≤ 2147483647 := hok.1 8 ((-2147483648), 2147483647) rfl
  have b9 : 0 ≤ r 9 ∧ r 9 ≤ 100 := hok.1 9 (0, 100) rfl
  have b10 : 1 ≤ r 10 ∧ r 10 ≤ 1 := hok.1 10 (1, 1) rfl
  have b11 : (-2147483648) ≤ r 11 ∧ r 11 ≤ 2147483647 := hok.1 11 ((-2147483648), 2147483647) rfl
  have b12 : 1 ≤ r 12 ∧ r 12 ≤ 100 := hok.1 12 (1, 100) rfl
  have b13 : 0 ≤ r 13 ∧ r 13 ≤ 1 := hok.1 13 (0, 1) rfl
  have b14 : (-2147483648) ≤ r 14 ∧ r 14 ≤ 2147483647 := hok.1 14 ((-2147483648), 2147483647) rfl
  have b15 : 0 ≤ r 15 ∧ r 15 ≤ 100 := hok.1 15 (0, 100) rfl
  have b16 : 0 ≤ r 16 ∧ r 16 ≤ 1 := hok.1 16 (0, 1) rfl
  have b17 : (-2147483648) ≤ r 17 ∧ r 17 ≤ 2147483647 := hok.1 17 ((-2147483648), 2147483647) rfl
  have b18 : 0 ≤ r 18 ∧ r 18 ≤ 100 := hok.1 18 (0, 100) rfl
  have b19 : (-2147483648) ≤ r 19 ∧ r 19 ≤ 0 := hok.1 19 ((-2147483648), 0) rfl
  have f0 : 0 ≤ ((2 * r 2 + (1 * r 1 + 0)) + (-1)) := hok.2 _ (List.mem_of_getElem? (i := 0) rfl)
  have f1 : 0 ≤ ((1 * r 12 + ((-1) * r 1 + ((-2) * r 2 + 0))) + 1) := hok.2 _ (List.mem_of_getElem? (i := 1) rfl)
  obtain ⟨hG, hgi⟩ := hG
  have hG : True := hG
  obtain ⟨h0, hh, e0, k0⟩ := hh
  have k0 : ∀ j, j ∉ [] → g j = h0 j := k0
  have e0 : yq_nr (h0 10) ((1 * r 1 + 0) + 0) ((1 * r 12 + 0) + 0) (2 * ((1 * r 2 + 0) + 0)).toNat = 0 := e0
  have hh : h0 = gi := hh
  subst hh
  refine yt_dalt (by decide) (by decide) ?_
  rw [show xk_155.2.1.2.1.1.length = 19 from rfl]
  show ((((0 : Int) + (-1)) = yq_tr ((1 * r 0 + 0) + 0) ((1 * r 1 + 0) + 0) ((1 * r 2 + 0) + 0) ((1 * r 3 + 0) + 0) (yq_at ((1 * r 0 + 0) + 0) ((1 * ((1 * r 7 + 0) + 0) + 0) + 0) ((1 * ((1 * r 10 + 0) + 0) + 0) + 0) ((1 * ((1 * r 13 + 0) + 0) + 0) + 0) ((1 * ((1 * r 16 + 0) + 0) + 0) + 0)) (yq_at ((1 * r 0 + 0) + 0) ((1 * ((1 * r 9 + 0) + 0) + 0) + 0) ((1 * ((1 * r 12 + 0) + 0) + 0) + 0) ((1 * ((1 * r 15 + 0) + 0) + 0) + 0) ((1 * ((1 * r 18 + 0) + 0) + 0) + 0)) (yq_nr (yq_fat ((1 * r 0 + 0) + 0) (g0 8) (g0 10) (g0 12) (g0 14)) ((1 * r 1 + 0) + 0) (yq_at ((1 * r 0 + 0) + 0) ((1 * ((1 * r 9 + 0) + 0) + 0) + 0) ((1 * ((1 * r 12 + 0) + 0) + 0) + 0) ((1 * ((1 * r 15 + 0) + 0) + 0) + 0) ((1 * ((1 * r 18 + 0) + 0) + 0) + 0)) (2 * ((1 * r 2 + 0) + 0)).toNat) ((1 * ((1 * r 5 + 0) + 0) + 0) + 0) ∧ ((1 * ((1 * r 5 + 0) + 0) + 0) + 0) = yq_tn ((0 : Int) + (-1)) ((1 * ((1 * r 5 + 0) + 0) + 0) + 0)) ∧ (g 2) = yq_ap ((1 * ((1 * r 5 + 0) + 0) + 0) + 0) ((1 * ((1 * r 5 + 0) + 0) + 0) + 0) (yq_vx (yq_fat ((1 * r 0 + 0) + 0) (g0 8) (g0 10) (g0 12) (g0 14)) (yq_at ((1 * r 0 + 0) + 0) ((1 * ((1 * r 9 + 0) + 0) + 0) + 0) ((1 * ((1 * r 12 + 0) + 0) + 0) + 0) ((1 * ((1 * r 15 + 0) + 0) + 0) + 0) ((1 * ((1 * r 18 + 0) + 0) + 0) + 0)) ((1 * r 1 + 0) + 0) ((1 * ((1 * r 5 + 0) + 0) + 0) + 0) 0) (g0 2) ∧ (g 3) = yq_ap ((1 * ((1 * r 5 + 0) + 0) + 0) + 0) ((1 * ((1 * r 5 + 0) + 0) + 0) + 0) (yq_vx (yq_fat ((1 * r 0 + 0) + 0) (g0 8) (g0 10) (g0 12) (g0 14)) (yq_at ((1 * r 0 + 0) + 0) ((1 * ((1 * r 9 + 0) + 0) + 0) + 0) ((1 * ((1 * r 12 + 0) + 0) + 0) + 0) ((1 * ((1 * r 15 + 0) + 0) + 0) + 0) ((1 * ((1 * r 18 + 0) + 0) + 0) + 0)) ((1 * r 1 + 0) + 0) ((1 * ((1 * r 5 + 0) + 0) + 0) + 0) 1) (g0 3) ∧ (g 4) = yq_ap ((1 * ((1 * r 5 + 0) + 0) + 0) + 0) ((1 * ((1 * r 5 + 0) + 0) + 0) + 0) (yq_ct ((1 * r 3 + 0) + 0)) (g0 4) ∧ (g 5) = yq_ap ((1 * ((1 * r 5 + 0) + 0) + 0) + 0) ((1 * ((1 * r 5 + 0) + 0) + 0) + 0) (yq_ct 1) (g0 5)) ∧ ((1 * ((1 * r 6 + 0) + 0) + 0) + 0) = ye_wr ((1 * ((1 * r 6 + 0) + 0) + 0) + 0) (((1 * ((1 * r 5 + 0) + 0) + 0) + 0) - ((1 * ((1 * r 5 + 0) + 0) + 0) + 0))
  try simp only [Int.one_mul, Int.zero_add, Int.add_zero]
  refine ⟨?_, ?_⟩
  · try simp only [Int.one_mul, Int.zero_add, Int.add_zero] at e0
    rw [hgi] at e0
    refine ⟨?_, ?_⟩
    · refine ⟨?_, ?_⟩
      · rw [show r 0 = 1 by omega]
        simp only [yq_at1, yq_fat1]
        unfold yq_tr
        repeat' split
        all_goals omega
      · unfold yq_tn
        repeat' split
        all_goals omega
    · refine ⟨?_, ?_, ?_, ?_⟩
      · rw [k0 2 (by decide), hgi]
        exact yq_ap_0 (by omega)
      · rw [k0 3 (by decide), hgi]
        exact yq_ap_0 (by omega)
      · rw [k0 4 (by decide), hgi]
        exact yq_ap_0 (by omega)
      · rw [k0 5 (by decide), hgi]
        exact yq_ap_0 (by omega)
  · exact (ye_w0 (by omega) (by omega)).symm.trans (congrArg (ye_wr _) (show (0 : Int) = _ by omega))
theorem xw_155_0_14 : yt_hold xT_155 xk_155 xq_155.2.2.1 xG_155 xP_155 xU_155 19 xk_155.2.1.2.2.2 (fun g0 r g => xR_155 r g0 ∧ g = g0) (0, ([(1, 1), (0, 99), (1, 40), (1, 1), ((-2147483648), 2147483647), (0, 39), ((-2147483648), 2147483647), (0, 1), ((-2147483648), 2147483647), (0, 100), (1, 1), ((-2147483648), 2147483647), (1, 100), (0, 1), ((-2147483648), 2147483647), (0, 100), (0, 1), ((-2147483648), 2147483647), (0, 100)], [([(2, (-1)), (5, (-1))], 40), ([(12, 1), (1, (-1)), (2, (-2))], 1)]), [([], 0), ([(5, 1)], 0), ([(6, 1)], 0)], [], [.inr (.inr (.inl (118, 1, [([(1, 1)], 0), ([(2, 1)], 0), ([(10, 1)], 0), ([(11, 1)], 0), ([(12, 1)], 0)], [9, 10], [])))]) := by
  intro g0 r gi g hok hh hars hfr hG
  have b0 : 1 ≤ r 0 ∧ r 0 ≤ 1 := hok.1 0 (1, 1) rfl
  have b1 : 0 ≤ r 1 ∧ r 1 ≤ 99 := hok.1 1 (0, 99) rfl
  have b2 : 1 ≤ r 2 ∧ r 2 ≤ 40 := hok.1 2 (1, 40) rfl
  have b3 : 1 ≤ r 3 ∧ r 3 ≤ 1 := hok.1 3 (1, 1) rfl
  have b4 : (-2147483648) ≤ r 4 ∧ r 4 ≤ 2147483647 := hok.1 4 ((-2147483648), 2147483647) rfl
  have b5 : 0 ≤ r 5 ∧ r 5 ≤ 39 := hok.1 5 (0, 39) rfl
  have b6 : (-2147483648) ≤ r 6 ∧ r 6 ≤ 2147483647 := hok.1 6 ((-2147483648), 2147483647) rfl
  have b7 : 0 ≤ r 7 ∧ r 7 ≤ 1 := hok.1 7 (0, 1) rfl
  have b8 : (-2147483648) ≤ r 8 ∧ r 8 ≤ 2147483647 := hok.1 8 ((-2147483648), 2147483647) rfl
  have b9 : 0 ≤ r 9 ∧ r 9 ≤ 100 := hok.1 9 (0, 100) rfl
  have b10 : 1 ≤ r 10 ∧ r 10 ≤ 1 := hok.1 10 (1, 1) rfl
  have b11 : (-2147483648) ≤ r 11 ∧ r 11 ≤ 2147483647 := hok.1 11 ((-2147483648), 2147483647) rfl
  have b12 : 1 ≤ r 12 ∧ r 12 ≤ 100 := hok.1 12 (1, 100) rfl
  have b13 : 0 ≤ r 13 ∧ r 13 ≤ 1 := hok.1 13 (0, 1) rfl
  have b14 : (-2147483648) ≤ r 14 ∧ r 14 ≤ 2147483647 := hok.1 14 ((-2147483648), 2147483647) rfl
  have b15 : 0 ≤ r 15 ∧ r 15 ≤ 100 := hok.1 15 (0, 100) rfl
  have b16 : 0 ≤ r 16 ∧ r 16 ≤ 1 := hok.1 16 (0, 1) rfl
  have b17 : (-2147483648) ≤ r 17 ∧ r 17 ≤ 2147483647 := hok.1 17 ((-2147483648), 2147483647) rfl
  have b18 : 0 ≤ r 18 ∧ r 18 ≤ 100 := hok.1 18 (0, 100) rfl
  have f0 : 0 ≤ (((-1) * r 2 + ((-1) * r 5 + 0)) + 40) := hok.2 _ (List.mem_of_getElem? (i := 0) rfl)
  have f1 : 0 ≤ ((1 * r 12 + ((-1) * r 1 + ((-2) * r 2 + 0))) + 1) := hok.2 _ (List.mem_of_getElem? (i := 1) rfl)
  obtain ⟨hG, hgi⟩ := hG
  have hG : True := hG
  obtain ⟨h0, hh, e0, k0⟩ := hh
  have k0 : ∀ j, j ∉ [] → g j = h0 j := k0
  have e0 : yq_nr (h0 10) ((1 * r 1 + 0) + 0) ((1 * r 12 + 0) + 0) (2 * ((1 * r 2 + 0) + 0)).toNat = 1 := e0
  have hh : h0 = gi := hh
  subst hh
  refine yt_dcut (by decide) rfl ?_ ?_
  · exact fun f hf => absurd hf List.not_mem_nil
  · rw [show xk_155.2.1.2.1.1.length = 19 from rfl]
    show ((yq_at ((1 * r 0 + 0) + 0) ((1 * ((1 * r 7 + 0) + 0) + 0) + 0) ((1 * ((1 * r 10 + 0) + 0) + 0) + 0) ((1 * ((1 * r 13 + 0) + 0) + 0) + 0) ((1 * ((1 * r 16 + 0) + 0) + 0) + 0)) ≠ 0 ∧ (0 ≤ ((1 * r 1 + 0) + 0) ∧ ((1 * r 1 + 0) + 0) + 2 * ((1 * r 2 + 0) + 0) - 2 < (yq_at ((1 * r 0 + 0) + 0) ((1 * ((1 * r 9 + 0) + 0) + 0) + 0) ((1 * ((1 * r 12 + 0) + 0) + 0) + 0) ((1 * ((1 * r 15 + 0) + 0) + 0) + 0) ((1 * ((1 * r 18 + 0) + 0) + 0) + 0))) ∧ (yq_nr (yq_fat ((1 * r 0 + 0) + 0) (g0 8) (g0 10) (g0 12) (g0 14)) ((1 * r 1 + 0) + 0) (yq_at ((1 * r 0 + 0) + 0) ((1 * ((1 * r 9 + 0) + 0) + 0) + 0) ((1 * ((1 * r 12 + 0) + 0) + 0) + 0) ((1 * ((1 * r 15 + 0) + 0) + 0) + 0) ((1 * ((1 * r 18 + 0) + 0) + 0) + 0)) (2 * ((1 * r 2 + 0) + 0)).toNat) = 1 ∧ ((1 * ((1 * r 5 + 0) + 0) + 0) + 0) = ((1 * ((1 * r 5 + 0) + 0) + 0) + 0) + ((1 * ((0 : Int) + 0) + 0) + 0) ∧ ((1 * ((0 : Int) + 0) + 0) + 0) ≤ ((1 * r 2 + 0) + 0) ∧ (g 2) = yq_ap (((1 * ((1 * r 5 + 0) + 0) + 0) + 0) + ((1 * ((0 : Int) + 0) + 0) + 0)) ((1 * ((1 * r 5 + 0) + 0) + 0) + 0) (yq_vx (yq_fat ((1 * r 0 + 0) + 0) (g0 8) (g0 10) (g0 12) (g0 14)) (yq_at ((1 * r 0 + 0) + 0) ((1 * ((1 * r 9 + 0) + 0) + 0) + 0) ((1 * ((1 * r 12 + 0) + 0) + 0) + 0) ((1 * ((1 * r 15 + 0) + 0) + 0) + 0) ((1 * ((1 * r 18 + 0) + 0) + 0) + 0)) ((1 * r 1 + 0) + 0) ((1 * ((1 * r 5 + 0) + 0) + 0) + 0) 0) (g0 2) ∧ (g 3) = yq_ap (((1 * ((1 * r 5 + 0) + 0) + 0) + 0) + ((1 * ((0 : Int) + 0) + 0) + 0)) ((1 * ((1 * r 5 + 0) + 0) + 0) + 0) (yq_vx (yq_fat ((1 * r 0 + 0) + 0) (g0 8) (g0 10) (g0 12) (g0 14)) (yq_at ((1 * r 0 + 0) + 0) ((1 * ((1 * r 9 + 0) + 0) + 0) + 0) ((1 * ((1 * r 12 + 0) + 0) + 0) + 0) ((1 * ((1 * r 15 + 0) + 0) + 0) + 0) ((1 * ((1 * r 18 + 0) + 0) + 0) + 0)) ((1 * r 1 + 0) + 0) ((1 * ((1 * r 5 + 0) + 0) + 0) + 0) 1) (g0 3) ∧ (g 4) = yq_ap (((1 * ((1 * r 5 + 0) + 0) + 0) + 0) + ((1 * ((0 : Int) + 0) + 0) + 0)) ((1 * ((1 * r 5 + 0) + 0) + 0) + 0) (yq_ct ((1 * r 3 + 0) + 0)) (g0 4) ∧ (g 5) = yq_ap (((1 * ((1 * r 5 + 0) + 0) + 0) + 0) + ((1 * ((0 : Int) + 0) + 0) + 0)) ((1 * ((1 * r 5 + 0) + 0) + 0) + 0) (yq_ct 1) (g0 5)) ∧ ((1 * ((1 * r 6 + 0) + 0) + 0) + 0) = ye_wr ((1 * ((1 * r 6 + 0) + 0) + 0) + 0) ((1 * ((0 : Int) + 0) + 0) + 0)
    try simp only [Int.one_mul, Int.zero_add, Int.add_zero]
    refine ⟨?_, ?_⟩
    · try simp only [Int.one_mul, Int.zero_add, Int.add_zero] at e0
      rw [hgi] at e0
      rw [show r 0 = 1 by omega]
      simp only [yq_at1, yq_fat1]
      refine ⟨?_, ?_, ?_, ?_, ?_, ?_, ?_, ?_, ?_⟩
      · omega
      · omega
      · exact e0
      · omega
      · omega
      · rw [k0 2 (by decide), hgi]
        exact yq_ap_0 (by omega)
      · rw [k0 3 (by decide), hgi]
        exact yq_ap_0 (by omega)
      · rw [k0 4 (by decide), hgi]
        exact yq_ap_0 (by omega)
      · rw [k0 5 (by decide), hgi]
        exact yq_ap_0 (by omega)
    · exact (ye_w0 (by omega) (by omega)).symm.trans (congrArg (ye_wr _) (show (0 : Int) = _ by omega))
theorem xw_155_0_15 : yt_hold xT_155 xk_155 xq_155.2.2.1 xG_155 xP_155 xU_155 19 xk_155.2.1.2.2.2 (fun g0 r g => xR_155 r g0 ∧ g = g0) (1000, ([(1, 1), (0, 99), (1, 40), (1, 1), ((-2147483648), 2147483647), (1, 40), ((-2147483648), 2147483647), (0, 1), ((-2147483648), 2147483647), (0, 100), (1, 1), ((-2147483648), 2147483647), (1, 100), (0, 1), ((-2147483648), 2147483647), (0, 100), (0, 1), ((-2147483648), 2147483647), (0, 100), ((-2147483648), 0)], [([(2, 1), (5, 1)], (-41)), ([(12, 1), (1, (-1)), (2, (-2))], 1)]), [([], (-5)), ([(19, 1)], 0), ([(5, 1)], 0), ([(6, 1)], 0)], [], [.inr (.inr (.inl (118, 1, [([(1, 1)], 0), ([(2, 1)], 0), ([(10, 1)], 0), ([(11, 1)], 0), ([(12, 1)], 0)], [9, 10], [])))]) := by
  intro g0 r gi g hok hh hars hfr hG
  have b0 : 1 ≤ r 0 ∧ r 0 ≤ 1 := hok.1 0 (1, 1) rfl
  have b1 : 0 ≤ r 1 ∧ r 1 ≤ 99 := hok.1 1 (0, 99) rfl
  have b2 : 1 ≤ r 2 ∧ r 2 ≤ 40 := hok.1 2 (1, 40) rfl
  have b3 : 1 ≤ r 3 ∧ r 3 ≤ 1 := hok.1 3 (1, 1) rfl
  have b4 : (-2147483648) ≤ r 4 ∧ r 4 ≤ 2147483647 := hok.1 4 ((-2147483648), 2147483647) rfl
  have b5 : 1 ≤ r 5 ∧ r 5 ≤ 40 := hok.1 5 (1, 40) rfl
  have b6 : (-2147483648) ≤ r 6 ∧ r 6 ≤ 2147483647 := hok.1 6 ((-2147483648), 2147483647) rfl
  have b7 : 0 ≤ r 7 ∧ r 7 ≤ 1 := hok.1 7 (0, 1) rfl
  have b8 : (-2147483648) ≤ r 8 ∧ r 8 ≤ 2147483647 := hok.1 8 ((-2147483648), 2147483647) rfl
  have b9 : 0 ≤ r 9 ∧ r 9 ≤ 100 := hok.1 9 (0, 100) rfl
  have b10 : 1 ≤ r 10 ∧ r 10 ≤ 1 := hok.1 10 (1, 1) rfl
  have b11 : (-2147483648) ≤ r 11 ∧ r 11 ≤ 2147483647 := hok.1 11 ((-2147483648), 2147483647) rfl
  have b12 : 1 ≤ r 12 ∧ r 12 ≤ 100 := hok.1 12 (1, 100) rfl
  have b13 : 0 ≤ r 13 ∧ r 13 ≤ 1 := hok.1 13 (0, 1) rfl
  have b14 : (-2147483648) ≤ r 14 ∧ r 14 ≤ 2147483647 := hok.1 14 ((-2147483648), 2147483647) rfl
  have b15 : 0 ≤ r 15 ∧ r 15 ≤ 100 := hok.1 15 (0, 100) rfl
  have b16 : 0 ≤ r 16 ∧ r 16 ≤ 1 := hok.1 16 (0, 1) rfl
  have b17 : (-2147483648) ≤ r 17 ∧ r 17 ≤ 2147483647 := hok.1 17 ((-2147483648), 2147483647) rfl
  have b18 : 0 ≤ r 18 ∧ r 18 ≤ 100 := hok.1 18 (0, 100) rfl
  have b19 : (-2147483648) ≤ r 19 ∧ r 19 ≤ 0 := hok.1 19 ((-2147483648), 0) rfl
  have f0 : 0 ≤ ((1 * r 2 + (1 * r 5 + 0)) + (-41)) := hok.2 _ (List.mem_of_getElem? (i := 0) rfl)
  have f1 : 0 ≤ ((1 * r 12 + ((-1) * r 1 + ((-2) * r 2 + 0))) + 1) := hok.2 _ (List.mem_of_getElem? (i := 1) rfl)
  obtain ⟨hG, hgi⟩ := hG
  have hG : True := hG
  obtain ⟨h0, hh, e0, k0⟩ := hh
  have k0 : ∀ j, j ∉ [] → g j = h0 j := k0
  have e0 : yq_nr (h0 10) ((1 * r 1 + 0) + 0) ((1 * r 12 + 0) + 0) (2 * ((1 * r 2 + 0) + 0)).toNat = 1 := e0
  have hh : h0 = gi := hh
  subst hh
  refine yt_dalt (by decide) (by decide) ?_
  rw [show xk_155.2.1.2.1.1.length = 19 from rfl]
  show ((((0 : Int) + (-5)) = yq_tr ((1 * r 0 + 0) + 0) ((1 * r 1 + 0) + 0) ((1 * r 2 + 0) + 0) ((1 * r 3 + 0) + 0) (yq_at ((1 * r 0 + 0) + 0) ((1 * ((1 * r 7 + 0) + 0) + 0) + 0) ((1 * ((1 * r 10 + 0) + 0) + 0) + 0) ((1 * ((1 * r 13 + 0) + 0) + 0) + 0) ((1 * ((1 * r 16 + 0) + 0) + 0) + 0)) (yq_at ((1 * r 0 + 0) + 0) ((1 * ((1 * r 9 + 0) + 0) + 0) + 0) ((1 * ((1 * r 12 + 0) + 0) + 0) + 0) ((1 * ((1 * r 15 + 0) + 0) + 0) + 0) ((1 * ((1 * r 18 + 0) + 0) + 0) + 0)) (yq_nr (yq_fat ((1 * r 0 + 0) + 0) (g0 8) (g0 10) (g0 12) (g0 14)) ((1 * r 1 + 0) + 0) (yq_at ((1 * r 0 + 0) + 0) ((1 * ((1 * r 9 + 0) + 0) + 0) + 0) ((1 * ((1 * r 12 + 0) + 0) + 0) + 0) ((1 * ((1 * r 15 + 0) + 0) + 0) + 0) ((1 * ((1 * r 18 + 0) + 0) + 0) + 0)) (2 * ((1 * r 2 + 0) + 0)).toNat) ((1 * ((1 * r 5 + 0) + 0) + 0) + 0) ∧ ((1 * ((1 * r 5 + 0) + 0) + 0) + 0) = yq_tn ((0 : Int) + (-5)) ((1 * ((1 * r 5 + 0) + 0) + 0) + 0)) ∧ (g 2) = yq_ap ((1 * ((1 * r 5 + 0) + 0) + 0) + 0) ((1 * ((1 * r 5 + 0) + 0) + 0) + 0) (yq_vx (yq_fat ((1 * r 0 + 0) + 0) (g0 8) (g0 10) (g0 12) (g0 14)) (yq_at ((1 * r 0 + 0) + 0) ((1 * ((1 * r 9 + 0) + 0) + 0) + 0) ((1 * ((1 * r 12 + 0) + 0) + 0) + 0) ((1 * ((1 * r 15 + 0) + 0) + 0) + 0) ((1 * ((1 * r 18 + 0) + 0) + 0) + 0)) ((1 * r 1 + 0) + 0) ((1 * ((1 * r 5 + 0) + 0) + 0) + 0) 0) (g0 2) ∧ (g 3) = yq_ap ((1 * ((1 * r 5 + 0) + 0) + 0) + 0) ((1 * ((1 * r 5 + 0) + 0) + 0) + 0) (yq_vx (yq_fat ((1 * r 0 + 0) + 0) (g0 8) (g0 10) (g0 12) (g0 14)) (yq_at ((1 * r 0 + 0) + 0) ((1 * ((1 * r 9 + 0) + 0) + 0) + 0) ((1 * ((1 * r 12 + 0) + 0) + 0) + 0) ((1 * ((1 * r 15 + 0) + 0) + 0) + 0) ((1 * ((1 * r 18 + 0) + 0) + 0) + 0)) ((1 * r 1 + 0) + 0) ((1 * ((1 * r 5 + 0) + 0) + 0) + 0) 1) (g0 3) ∧ (g 4) = yq_ap ((1 * ((1 * r 5 + 0) + 0) + 0) + 0) ((1 * ((1 * r 5 + 0) + 0) + 0) + 0) (yq_ct ((1 * r 3 + 0) + 0)) (g0 4) ∧ (g 5) = yq_ap ((1 * ((1 * r 5 + 0) + 0) + 0) + 0) ((1 * ((1 * r 5 + 0) + 0) + 0) + 0) (yq_ct 1) (g0 5)) ∧ ((1 * ((1 * r 6 + 0) + 0) + 0) + 0) = ye_wr ((1 * ((1 * r 6 + 0) + 0) + 0) + 0) (((1 * ((1 * r 5 + 0) + 0) + 0) + 0) - ((1 * ((1 * r 5 + 0) + 0) + 0) + 0))
  try simp only [Int.one_mul, Int.zero_add, Int.add_zero]
  refine ⟨?_, ?_⟩
  · try simp only [Int.one_mul, Int.zero_add, Int.add_zero] at e0
    rw [hgi] at e0
    refine ⟨?_, ?_⟩
    · refine ⟨?_, ?_⟩
      · rw [show r 0 = 1 by omega]
        simp only [yq_at1, yq_fat1]
        unfold yq_tr
        repeat' split
        all_goals omega
      · unfold yq_tn
        repeat' split
        all_goals omega
    · refine ⟨?_, ?_, ?_, ?_⟩
      · rw [k0 2 (by decide), hgi]
        exact yq_ap_0 (by omega)
      · rw [k0 3 (by decide), hgi]
        exact yq_ap_0 (by omega)
      · rw [k0 4 (by decide), hgi]
        exact yq_ap_0 (by omega)
      · rw [k0 5 (by decide), hgi]
        exact yq_ap_0 (by omega)
  · exact (ye_w0 (by omega) (by omega)).symm.trans (congrArg (ye_wr _) (show (0 : Int) = _ by omega))
theorem xw_155_0_16 : yt_hold xT_155 xk_155 xq_155.2.2.1 xG_155 xP_155 xU_155 19 xk_155.2.1.2.2.2 (fun g0 r g => xR_155 r g0 ∧ g = g0) (1000, ([(1, 1), ((-2147483648), 2147483647), (1, 40), (1, 1), ((-2147483648), 2147483647), (0, 40), ((-2147483648), 2147483647), (0, 1), ((-2147483648), 2147483647), (0, 100), (0, 0), ((-2147483648), 2147483647), (0, 100), (0, 1), ((-2147483648), 2147483647), (0, 100), (0, 1), ((-2147483648), 2147483647), (0, 100), ((-2147483648), 0)], []), [([], (-2)), ([(19, 1)], 0), ([(5, 1)], 0), ([(6, 1)], 0)], [], []) := by
  intro g0 r gi g hok hh hars hfr hG
  have b0 : 1 ≤ r 0 ∧ r 0 ≤ 1 := hok.1 0 (1, 1) rfl
  have b1 : (-2147483648) ≤ r 1 ∧ r 1 ≤ 2147483647 := hok.1 1 ((-2147483648), 2147483647) rfl
  have b2 : 1 ≤ r 2 ∧ r 2 ≤ 40 := hok.1 2 (1, 40) rfl
  have b3 : 1 ≤ r 3 ∧ r 3 ≤ 1 := hok.1 3 (1, 1) rfl
  have b4 : (-2147483648) ≤ r 4 ∧ r 4 ≤ 2147483647 := hok.1 4 ((-2147483648), 2147483647) rfl
  have b5 : 0 ≤ r 5 ∧ r 5 ≤ 40 := hok.1 5 (0, 40) rfl
  have b6 : (-2147483648) ≤ r 6 ∧ r 6 ≤ 2147483647 := hok.1 6 ((-2147483648), 2147483647) rfl
  have b7 : 0 ≤ r 7 ∧ r 7 ≤ 1 := hok.1 7 (0, 1) rfl
  have b8 : (-2147483648) ≤ r 8 ∧ r 8 ≤ 2147483647 := hok.1 8 ((-2147483648), 2147483647) rfl
  have b9 : 0 ≤ r 9 ∧ r 9 ≤ 100 := hok.1 9 (0, 100) rfl
  have b10 : 0 ≤ r 10 ∧ r 10 ≤ 0 := hok.1 10 (0, 0) rfl
  have b11 : (-2147483648) ≤ r 11 ∧ r 11 ≤ 2147483647 := hok.1 11 ((-2147483648), 2147483647) rfl
  have b12 : 0 ≤ r 12 ∧ r 12 ≤ 100 := hok.1 12 (0, 100) rfl
  have b13 : 0 ≤ r 13 ∧ r 13 ≤ 1 := hok.1 13 (0, 1) rfl
  have b14 : (-2147483648) ≤ r 14 ∧ r 14 ≤ 2147483647 := hok.1 14 ((-2147483648), 2147483647) rfl
  have b15 : 0 ≤ r 15 ∧ r 15 ≤ 100 := hok.1 15 (0, 100) rfl
  have b16 : 0 ≤ r 16 ∧ r 16 ≤ 1 := hok.1 16 (0, 1) rfl
  have b17 : (-2147483648) ≤ r 17 ∧ r 17 ≤ 2147483647 := hok.1 17 ((-2147483648), 2147483647) rfl
  have b18 : 0 ≤ r 18 ∧ r 18 ≤ 100 := hok.1 18 (0, 100) rfl
  have b19 : (-2147483648) ≤ r 19 ∧ r 19 ≤ 0 := hok.1 19 ((-2147483648), 0) rfl
  obtain ⟨hG, hgi⟩ := hG
  have hG : True := hG
  have hh : g = gi := hh
  subst hh
  refine yt_dalt (by decide) (by decide) ?_
  rw [show xk_155.2.1.2.1.1.length = 19 from rfl]
  show ((((0 : Int) + (-2)) = yq_tr ((1 * r 0 + 0) + 0) ((1 * r 1 + 0) + 0) ((1 * r 2 + 0) + 0) ((1 * r 3 + 0) + 0) (yq_at ((1 * r 0 + 0) + 0) ((1 * ((1 * r 7 + 0) + 0) + 0) + 0) ((1 * ((1 * r 10 + 0) + 0) + 0) + 0) ((1 * ((1 * r 13 + 0) + 0) + 0) + 0) ((1 * ((1 * r 16 + 0) + 0) + 0) + 0)) (yq_at ((1 * r 0 + 0) + 0) ((1 * ((1 * r 9 + 0) + 0) + 0) + 0) ((1 * ((1 * r 12 + 0) + 0) + 0) + 0) ((1 * ((1 * r 15 + 0) + 0) + 0) + 0) ((1 * ((1 * r 18 + 0) + 0) + 0) + 0)) (yq_nr (yq_fat ((1 * r 0 + 0) + 0) (g0 8) (g0 10) (g0 12) (g0 14)) ((1 * r 1 + 0) + 0) (yq_at ((1 * r 0 + 0) + 0) ((1 * ((1 * r 9 + 0) + 0) + 0) + 0) ((1 * ((1 * r 12 + 0) + 0) + 0) + 0) ((1 * ((1 * r 15 + 0) + 0) + 0) + 0) ((1 * ((1 * r 18 + 0) + 0) + 0) + 0)) (2 * ((1 * r 2 + 0) + 0)).toNat) ((1 * ((1 * r 5 + 0) + 0) + 0) + 0) ∧ ((1 * ((1 * r 5 + 0) + 0) + 0) + 0) = yq_tn ((0 : Int) + (-2)) ((1 * ((1 * r 5 + 0) + 0) + 0) + 0)) ∧ (g 2) = yq_ap ((1 * ((1 * r 5 + 0) + 0) + 0) + 0) ((1 * ((1 * r 5 + 0) + 0) + 0) + 0) (yq_vx (yq_fat ((1 * r 0 + 0) + 0) (g0 8) (g0 10) (g0 12) (g0 14)) (yq_at ((1 * r 0 + 0) + 0) ((1 * ((1 * r 9 + 0) + 0) + 0) + 0) ((1 * ((1 * r 12 + 0) + 0) + 0) + 0) ((1 * ((1 * r 15 + 0) + 0) + 0) + 0) ((1 * ((1 * r 18 + 0) + 0) + 0) + 0)) ((1 * r 1 + 0) + 0) ((1 * ((1 * r 5 + 0) + 0) + 0) + 0) 0) (g0 2) ∧ (g 3) = yq_ap ((1 * ((1 * r 5 + 0) + 0) + 0) + 0) ((1 * ((1 * r 5 + 0) + 0) + 0) + 0) (yq_vx (yq_fat ((1 * r 0 + 0) + 0) (g0 8) (g0 10) (g0 12) (g0 14)) (yq_at ((1 * r 0 + 0) + 0) ((1 * ((1 * r 9 + 0) + 0) + 0) + 0) ((1 * ((1 * r 12 + 0) + 0) + 0) + 0) ((1 * ((1 * r 15 + 0) + 0) + 0) + 0) ((1 * ((1 * r 18 + 0) + 0) + 0) + 0)) ((1 * r 1 + 0) + 0) ((1 * ((1 * r 5 + 0) + 0) + 0) + 0) 1) (g0 3) ∧ (g 4) = yq_ap ((1 * ((1 * r 5 + 0) + 0) + 0) + 0) ((1 * ((1 * r 5 + 0) + 0) + 0) + 0) (yq_ct ((1 * r 3 + 0) + 0)) (g0 4) ∧ (g 5) = yq_ap ((1 * ((1 * r 5 + 0) + 0) + 0) + 0) ((1 * ((1 * r 5 + 0) + 0) + 0) + 0) (yq_ct 1) (g0 5)) ∧ ((1 * ((1 * r 6 + 0) + 0) + 0) + 0) = ye_wr ((1 * ((1 * r 6 + 0) + 0) + 0) + 0) (((1 * ((1 * r 5 + 0) + 0) + 0) + 0) - ((1 * ((1 * r 5 + 0) + 0) + 0) + 0))
  try simp only [Int.one_mul, Int.zero_add, Int.add_zero]
  refine ⟨?_, ?_⟩
  · refine ⟨?_, ?_⟩
    · refine ⟨?_, ?_⟩
      · rw [show r 0 = 1 by omega]
        simp only [yq_at1, yq_fat1]
        unfold yq_tr
        repeat' split
        all_goals omega
      · unfold yq_tn
        repeat' split
        all_goals omega
    · refine ⟨?_, ?_, ?_, ?_⟩
      · rw [hgi]
        exact yq_ap_0 (by omega)
      · rw [hgi]
        exact yq_ap_0 (by omega)
      · rw [hgi]
        exact yq_ap_0 (by omega)
      · rw [hgi]
        exact yq_ap_0 (by omega)
  · exact (ye_w0 (by omega) (by omega)).symm.trans (congrArg (ye_wr _) (show (0 : Int) = _ by omega))
theorem xw_155_0_17 : yt_hold xT_155 xk_155 xq_155.2.2.1 xG_155 xP_155 xU_155 19 xk_155.2.1.2.2.2 (fun g0 r g => xR_155 r g0 ∧ g = g0) (1000, ([(2, 2), ((-2147483648), (-1)), (1, 40), (1, 1), ((-2147483648), 2147483647), (0, 40), ((-2147483648), 2147483647), (0, 1), ((-2147483648), 2147483647), (0, 100), (0, 1), ((-2147483648), 2147483647), (0, 100), (1, 1), ((-2147483648), 2147483647), (0, 100), (0, 1), ((-2147483648), 2147483647), (0, 100), ((-2147483648), 0)], []), [([], (-3)), ([(19, 1)], 0), ([(5, 1)], 0), ([(6, 1)], 0)], [], []) := by
  intro g0 r gi g hok hh hars hfr hG
  have b0 : 2 ≤ r 0 ∧ r 0 ≤ 2 := hok.1 0 (2, 2) rfl
  have b1 : (-2147483648) ≤ r 1 ∧ r 1 ≤ (-1) := hok.1 1 ((-2147483648), (-1)) rfl
  have b2 : 1 ≤ r 2 ∧ r 2 ≤ 40 := hok.1 2 (1, 40) rfl
  have b3 : 1 ≤ r 3 ∧ r 3 ≤ 1 := hok.1 3 (1, 1) rfl
  have b4 : (-2147483648) ≤ r 4 ∧ r 4 ≤ 2147483647 := hok.1 4 ((-2147483648), 2147483647) rfl
  have b5 : 0 ≤ r 5 ∧ r 5 ≤ 40 := hok.1 5 (0, 40) rfl
  have b6 : (-2147483648) ≤ r 6 ∧ r 6 ≤ 2147483647 := hok.1 6 ((-2147483648), 2147483647) rfl
  have b7 : 0 ≤ r 7 ∧ r 7 ≤ 1 := hok.1 7 (0, 1) rfl
  have b8 : (-2147483648) ≤ r 8 ∧ r 8 ≤ 2147483647 := hok.1 8 ((-2147483648), 2147483647) rfl
  have b9 : 0 ≤ r 9 ∧ r 9 ≤ 100 := hok.1 9 (0, 100) rfl
  have b10 : 0 ≤ r 10 ∧ r 10 ≤ 1 := hok.1 10 (0, 1) rfl
  have b11 : (-2147483648) ≤ r 11 ∧ r 11 ≤ 2147483647 := hok.1 11 ((-2147483648), 2147483647) rfl
  have b12 : 0 ≤ r 12 ∧ r 12 ≤ 100 := hok.1 12 (0, 100) rfl
  have b13 : 1 ≤ r 13 ∧ r 13 ≤ 1 := hok.1 13 (1, 1) rfl
  have b14 : (-2147483648) ≤ r 14 ∧ r 14 ≤ 2147483647 := hok.1 14 ((-2147483648), 2147483647) rfl
  have b15 : 0 ≤ r 15 ∧ r 15 ≤ 100 := hok.1 15 (0, 100) rfl
  have b16 : 0 ≤ r 16 ∧ r 16 ≤ 1 := hok.1 16 (0, 1) rfl
  have b17 : (-2147483648) ≤ r 17 ∧ r 17 ≤ 2147483647 := hok.1 17 ((-2147483648), 2147483647) rfl
  have b18 : 0 ≤ r 18 ∧ r 18 ≤ 100 := hok.1 18 (0, 100) rfl
  have b19 : (-2147483648) ≤ r 19 ∧ r 19 ≤ 0 := hok.1 19 ((-2147483648), 0) rfl
  obtain ⟨hG, hgi⟩ := hG
  have hG : True := hG
  have hh : g = gi := hh
  subst hh
  refine yt_dalt (by decide) (by decide) ?_
  rw [show xk_155.2.1.2.1.1.length = 19 from rfl]
  show ((((0 : Int) + (-3)) = yq_tr ((1 * r 0 + 0) + 0) ((1 * r 1 + 0) + 0) ((1 * r 2 + 0) + 0) ((1 * r 3 + 0) + 0) (yq_at ((1 * r 0 + 0) + 0) ((1 * ((1 * r 7 + 0) + 0) + 0) + 0) ((1 * ((1 * r 10 + 0) + 0) + 0) + 0) ((1 * ((1 * r 13 + 0) + 0) + 0) + 0) ((1 * ((1 * r 16 + 0) + 0) + 0) + 0)) (yq_at ((1 * r 0 + 0) + 0) ((1 * ((1 * r 9 + 0) + 0) + 0) + 0) ((1 * ((1 * r 12 + 0) + 0) + 0) + 0) ((1 * ((1 * r 15 + 0) + 0) + 0) + 0) ((1 * ((1 * r 18 + 0) + 0) + 0) + 0)) (yq_nr (yq_fat ((1 * r 0 + 0) + 0) (g0 8) (g0 10) (g0 12) (g0 14)) ((1 * r 1 + 0) + 0) (yq_at ((1 * r 0 + 0) + 0) ((1 * ((1 * r 9 + 0) + 0) + 0) + 0) ((1 * ((1 * r 12 + 0) + 0) + 0) + 0) ((1 * ((1 * r 15 + 0) + 0) + 0) + 0) ((1 * ((1 * r 18 + 0) + 0) + 0) + 0)) (2 * ((1 * r 2 + 0) + 0)).toNat) ((1 * ((1 * r 5 + 0) + 0) + 0) + 0) ∧ ((1 * ((1 * r 5 + 0) + 0) + 0) + 0) = yq_tn ((0 : Int) + (-3)) ((1 * ((1 * r 5 + 0) + 0) + 0) + 0)) ∧ (g 2) = yq_ap ((1 * ((1 * r 5 + 0) + 0) + 0) + 0) ((1 * ((1 * r 5 + 0) + 0) + 0) + 0) (yq_vx (yq_fat ((1 * r 0 + 0) + 0) (g0 8) (g0 10) (g0 12) (g0 14)) (yq_at ((1 * r 0 + 0) + 0) ((1 * ((1 * r 9 + 0) + 0) + 0) + 0) ((1 * ((1 * r 12 + 0) + 0) + 0) + 0) ((1 * ((1 * r 15 + 0) + 0) + 0) + 0) ((1 * ((1 * r 18 + 0) + 0) + 0) + 0)) ((1 * r 1 + 0) + 0) ((1 * ((1 * r 5 + 0) + 0) + 0) + 0) 0) (g0 2) ∧ (g 3) = yq_ap ((1 * ((1 * r 5 + 0) + 0) + 0) + 0) ((1 * ((1 * r 5 + 0) + 0) + 0) + 0) (yq_vx (yq_fat ((1 * r 0 + 0) + 0) (g0 8) (g0 10) (g0 12) (g0 14)) (yq_at ((1 * r 0 + 0) + 0) ((1 * ((1 * r 9 + 0) + 0) + 0) + 0) ((1 * ((1 * r 12 + 0) + 0) + 0) + 0) ((1 * ((1 * r 15 + 0) + 0) + 0) + 0) ((1 * ((1 * r 18 + 0) + 0) + 0) + 0)) ((1 * r 1 + 0) + 0) ((1 * ((1 * r 5 + 0) + 0) + 0) + 0) 1) (g0 3) ∧ (g 4) = yq_ap ((1 * ((1 * r 5 + 0) + 0) + 0) + 0) ((1 * ((1 * r 5 + 0) + 0) + 0) + 0) (yq_ct ((1 * r 3 + 0) + 0)) (g0 4) ∧ (g 5) = yq_ap ((1 * ((1 * r 5 + 0) + 0) + 0) + 0) ((1 * ((1 * r 5 + 0) + 0) + 0) + 0) (yq_ct 1) (g0 5)) ∧ ((1 * ((1 * r 6 + 0) + 0) + 0) + 0) = ye_wr ((1 * ((1 * r 6 + 0) + 0) + 0) + 0) (((1 * ((1 * r 5 + 0) + 0) + 0) + 0) - ((1 * ((1 * r 5 + 0) + 0) + 0) + 0))
  try simp only [Int.one_mul, Int.zero_add, Int.add_zero]
  refine ⟨?_, ?_⟩
  · refine ⟨?_, ?_⟩
    · refine ⟨?_, ?_⟩
      · rw [show r 0 = 2 by omega]
        simp only [yq_at2, yq_fat2]
        unfold yq_tr
        repeat' split
        all_goals omega
      · unfold yq_tn
        repeat' split
        all_goals omega
    · refine ⟨?_, ?_, ?_, ?_⟩
      · rw [hgi]
        exact yq_ap_0 (by omega)
      · rw [hgi]
        exact yq_ap_0 (by omega)
      · rw [hgi]
        exact yq_ap_0 (by omega)
      · rw [hgi]
        exact yq_ap_0 (by omega)
  · exact (ye_w0 (by omega) (by omega)).symm.trans (congrArg (ye_wr _) (show (0 : Int) = _ by omega))
theorem xw_155_0_18 : yt_hold xT_155 xk_155 xq_155.2.2.1 xG_155 xP_155 xU_155 19 xk_155.2.1.2.2.2 (fun g0 r g => xR_155 r g0 ∧ g = g0) (1000, ([(2, 2), (0, 2147483647), (1, 40), (1, 1), ((-2147483648), 2147483647), (0, 40), ((-2147483648), 2147483647), (0, 1), ((-2147483648), 2147483647), (0, 100), (0, 1), ((-2147483648), 2147483647), (0, 100), (1, 1), ((-2147483648), 2147483647), (0, 100), (0, 1), ((-2147483648), 2147483647), (0, 100), ((-2147483648), 0)], [([(15, (-1)), (1, 1), (2, 2)], (-2))]), [([], (-3)), ([(19, 1)], 0), ([(5, 1)], 0), ([(6, 1)], 0)], [], []) := by
  intro g0 r gi g hok hh hars hfr hG
  have b0 : 2 ≤ r 0 ∧ r 0 ≤ 2 := hok.1 0 (2, 2) rfl
  have b1 : 0 ≤ r 1 ∧ r 1 ≤ 2147483647 := hok.1 1 (0, 2147483647) rfl
  have b2 : 1 ≤ r 2 ∧ r 2 ≤ 40 := hok.1 2 (1, 40) rfl
  have b3 : 1 ≤ r 3 ∧ r 3 ≤ 1 := hok.1 3 (1, 1) rfl
  have b4 : (-2147483648) ≤ r 4 ∧ r 4 ≤ 2147483647 := hok.1 4 ((-2147483648), 2147483647) rfl
  have b5 : 0 ≤ r 5 ∧ r 5 ≤ 40 := hok.1 5 (0, 40) rfl
  have b6 : (-2147483648) ≤ r 6 ∧ r 6 ≤ 2147483647 := hok.1 6 ((-2147483648), 2147483647) rfl
  have b7 : 0 ≤ r 7 ∧ r 7 ≤ 1 := hok.1 7 (0, 1) rfl
  have b8 : (-2147483648) ≤ r 8 ∧ r 8 ≤ 2147483647 := hok.1 8 ((-2147483648), 2147483647) rfl
  have b9 : 0 ≤ r 9 ∧ r 9 ≤ 100 := hok.1 9 (0, 100) rfl
  have b10 : 0 ≤ r 10 ∧ r 10 ≤ 1 := hok.1 10 (0, 1) rfl
  have b11 : (-2147483648) ≤ r 11 ∧ r 11 ≤ 2147483647 := hok.1 11 ((-2147483648), 2147483647) rfl
  have b12 : 0 ≤ r 12 ∧ r 12 ≤ 100 := hok.1 12 (0, 100) rfl
  have b13 : 1 ≤ r 13 ∧ r 13 ≤ 1 := hok.1 13 (1, 1) rfl
  have b14 : (-2147483648) ≤ r 14 ∧ r 14 ≤ 2147483647 := hok.1 14 ((-2147483648), 2147483647) rfl
  have b15 : 0 ≤ r 15 ∧ r 15 ≤ 100 := hok.1 15 (0, 100) rfl
  have b16 : 0 ≤ r 16 ∧ r 16 ≤ 1 := hok.1 16 (0, 1) rfl
  have b17 : (-2147483648) ≤ r 17 ∧ r 17 ≤ 2147483647 := hok.1 17 ((-2147483648), 2147483647) rfl
  have b18 : 0 ≤ r 18 ∧ r 18 ≤ 100 := hok.1 18 (0, 100) rfl
  have b19 : (-2147483648) ≤ r 19 ∧ r 19 ≤ 0 := hok.1 19 ((-2147483648), 0) rfl
  have f0 : 0 ≤ (((-1) * r 15 + (1 * r 1 + (2 * r 2 + 0))) + (-2)) := hok.2 _ (List.mem_of_getElem? (i := 0) rfl)
  obtain ⟨hG, hgi⟩ := hG
  have hG : True := hG
  have hh : g = gi := hh
  subst hh
  refine yt_dalt (by decide) (by decide) ?_
  rw [show xk_155.2.1.2.1.1.length = 19 from rfl]
  show ((((0 : Int) + (-3)) = yq_tr ((1 * r 0 + 0) + 0) ((1 * r 1 + 0) + 0) ((1 * r 2 + 0) + 0) ((1 * r 3 + 0) + 0) (yq_at ((1 * r 0 + 0) + 0) ((1 * ((1 * r 7 + 0) + 0) + 0) + 0) ((1 * ((1 * r 10 + 0) + 0) + 0) + 0) ((1 * ((1 * r 13 + 0) + 0) + 0) + 0) ((1 * ((1 * r 16 + 0) + 0) + 0) + 0)) (yq_at ((1 * r 0 + 0) + 0) ((1 * ((1 * r 9 + 0) + 0) + 0) + 0) ((1 * ((1 * r 12 + 0) + 0) + 0) + 0) ((1 * ((1 * r 15 + 0) + 0) + 0) + 0) ((1 * ((1 * r 18 + 0) + 0) + 0) + 0)) (yq_nr (yq_fat ((1 * r 0 + 0) + 0) (g0 8) (g0 10) (g0 12) (g0 14)) ((1 * r 1 + 0) + 0) (yq_at ((1 * r 0 + 0) + 0) ((1 * ((1 * r 9 + 0) + 0) + 0) + 0) ((1 * ((1 * r 12 + 0) + 0) + 0) + 0) ((1 * ((1 * r 15 + 0) + 0) + 0) + 0) ((1 * ((1 * r 18 + 0) + 0) + 0) + 0)) (2 * ((1 * r 2 + 0) + 0)).toNat) ((1 * ((1 * r 5 + 0) + 0) + 0) + 0) ∧ ((1 * ((1 * r 5 + 0) + 0) + 0) + 0) = yq_tn ((0 : Int) + (-3)) ((1 * ((1 * r 5 + 0) + 0) + 0) + 0)) ∧ (g 2) = yq_ap ((1 * ((1 * r 5 + 0) + 0) + 0) + 0) ((1 * ((1 * r 5 + 0) + 0) + 0) + 0) (yq_vx (yq_fat ((1 * r 0 + 0) + 0) (g0 8) (g0 10) (g0 12) (g0 14)) (yq_at ((1 * r 0 + 0) + 0) ((1 * ((1 * r 9 + 0) + 0) + 0) + 0) ((1 * ((1 * r 12 + 0) + 0) + 0) + 0) ((1 * ((1 * r 15 + 0) + 0) + 0) + 0) ((1 * ((1 * r 18 + 0) + 0) + 0) + 0)) ((1 * r 1 + 0) + 0) ((1 * ((1 * r 5 + 0) + 0) + 0) + 0) 0) (g0 2) ∧ (g 3) = yq_ap ((1 * ((1 * r 5 + 0) + 0) + 0) + 0) ((1 * ((1 * r 5 + 0) + 0) + 0) + 0) (yq_vx (yq_fat ((1 * r 0 + 0) + 0) (g0 8) (g0 10) (g0 12) (g0 14)) (yq_at ((1 * r 0 + 0) + 0) ((1 * ((1 * r 9 + 0) + 0) + 0) + 0) ((1 * ((1 * r 12 + 0) + 0) + 0) + 0) ((1 * ((1 * r 15 + 0) + 0) + 0) + 0) ((1 * ((1 * r 18 + 0) + 0) + 0) + 0)) ((1 * r 1 + 0) + 0) ((1 * ((1 * r 5 + 0) + 0) + 0) + 0) 1) (g0 3) ∧ (g 4) = yq_ap ((1 * ((1 * r 5 + 0) + 0) + 0) + 0) ((1 * ((1 * r 5 + 0) + 0) + 0) + 0) (yq_ct ((1 * r 3 + 0) + 0)) (g0 4) ∧ (g 5) = yq_ap ((1 * ((1 * r 5 + 0) + 0) + 0) + 0) ((1 * ((1 * r 5 + 0) + 0) + 0) + 0) (yq_ct 1) (g0 5)) ∧ ((1 * ((1 * r 6 + 0) + 0) + 0) + 0) = ye_wr ((1 * ((1 * r 6 + 0) + 0) + 0) + 0) (((1 * ((1 * r 5 + 0) + 0) + 0) + 0) - ((1 * ((1 * r 5 + 0) + 0) + 0) + 0))
  try simp only [Int.one_mul, Int.zero_add, Int.add_zero]
  refine ⟨?_, ?_⟩
  · refine ⟨?_, ?_⟩
    · refine ⟨?_, ?_⟩
      · rw [show r 0 = 2 by omega]
        simp only [yq_at2, yq_fat2]
        unfold yq_tr
        repeat' split
        all_goals omega
      · unfold yq_tn
        repeat' split
        all_goals omega
    · refine ⟨?_, ?_, ?_, ?_⟩
      · rw [hgi]
        exact yq_ap_0 (by omega)
      · rw [hgi]
        exact yq_ap_0 (by omega)
      · rw [hgi]
        exact yq_ap_0 (by omega)
      · rw [hgi]
        exact yq_ap_0 (by omega)
  · exact (ye_w0 (by omega) (by omega)).symm.trans (congrArg (ye_wr _) (show (0 : Int) = _ by omega))
theorem xw_155_0_19 : yt_hold xT_155 xk_155 xq_155.2.2.1 xG_155 xP_155 xU_155 19 xk_155.2.1.2.2.2 (fun g0 r g => xR_155 r g0 ∧ g = g0) (1000, ([(2, 2), (0, 99), (1, 40), (1, 1), ((-2147483648), 2147483647), (0, 40), ((-2147483648), 2147483647), (0, 1), ((-2147483648), 2147483647), (0, 100), (0, 1), ((-2147483648), 2147483647), (0, 100), (1, 1), ((-2147483648), 2147483647), (1, 100), (0, 1), ((-2147483648), 2147483647), (0, 100), ((-2147483648), 0)], [([(2, 2), (1, 1)], (-1)), ([(15, 1), (1, (-1)), (2, (-2))], 1)]), [([], (-1)), ([(19, 1)], 0), ([(5, 1)], 0), ([(6, 1)], 0)], [], [.inr (.inr (.inl (118, 0, [([(1, 1)], 0), ([(2, 1)], 0), ([(13, 1)], 0), ([(14, 1)], 0), ([(15, 1)], 0)], [11, 12], [])))]) := by
  intro g0 r gi g hok hh hars hfr hG
  have b0 : 2 ≤ r 0 ∧ r 0 ≤ 2 := hok.1 0 (2, 2) rfl
  have b1 : 0 ≤ r 1 ∧ r 1 ≤ 99 := hok.1 1 (0, 99) rfl
  have b2 : 1 ≤ r 2 ∧ r 2 ≤ 40 := hok.1 2 (1, 40) rfl
  have b3 : 1 ≤ r 3 ∧ r 3 ≤ 1 := hok.1 3 (1, 1) rfl
  have b4 : (-2147483648) ≤ r 4 ∧ r 4 ≤ 2147483647 := hok.1 4 ((-2147483648), 2147483647) rfl
  have b5 : 0 ≤ r 5 ∧ r 5 ≤ 40 := hok.1 5 (0, 40) rfl
  have b6 : (-2147483648) ≤ r 6 ∧ r 6 ≤ 2147483647 := hok.1 6 ((-2147483648), 2147483647) rfl
  have b7 : 0 ≤ r 7 ∧ r 7 ≤ 1 := hok.1 7 (0, 1) rfl
  have b8 : (-2147483648) ≤ r 8 ∧ r 8 ≤ 2147483647 := hok.1 8 ((-2147483648), 2147483647) rfl
  have b9 : 0 ≤ r 9 ∧ r 9 ≤ 100 := hok.1 9 (0, 100) rfl
  have b10 : 0 ≤ r 10 ∧ r 10 ≤ 1 := hok.1 10 (0, 1) rfl
  have b11 : (-2147483648) ≤ r 11 ∧ r 11 ≤ 2147483647 := hok.1 11 ((-2147483648), 2147483647) rfl
  have b12 : 0 ≤ r 12 ∧ r 12 ≤ 100 := hok.1 12 (0, 100) rfl
  have b13 : 1 ≤ r 13 ∧ r 13 ≤ 1 := hok.1 13 (1, 1) rfl
  have b14 : (-2147483648) ≤ r 14 ∧ r 14 ≤ 2147483647 := hok.1 14 ((-2147483648), 2147483647) rfl
  have b15 : 1 ≤ r 15 ∧ r 15 ≤ 100 := hok.1 15 (1, 100) rfl
  have b16 : 0 ≤ r 16 ∧ r 16 ≤ 1 := hok.1 16 (0, 1) rfl
  have b17 : (-2147483648) ≤ r 17 ∧ r 17 ≤ 2147483647 := hok.1 17 ((-2147483648), 2147483647) rfl
  have b18 : 0 ≤ r 18 ∧ r 18 ≤ 100 := hok.1 18 (0, 100) rfl
  have b19 : (-2147483648) ≤ r 19 ∧ r 19 ≤ 0 := hok.1 19 ((-2147483648), 0) rfl
  have f0 : 0 ≤ ((2 * r 2 + (1 * r 1 + 0)) + (-1)) := hok.2 _ (List.mem_of_getElem? (i := 0) rfl)
  have f1 : 0 ≤ ((1 * r 15 + ((-1) * r 1 + ((-2) * r 2 + 0))) + 1) := hok.2 _ (List.mem_of_getElem? (i := 1) rfl)
  obtain ⟨hG, hgi⟩ := hG
  have hG : True := hG
  obtain ⟨h0, hh, e0, k0⟩ := hh
  have k0 : ∀ j, j ∉ [] → g j = h0 j := k0
  have e0 : yq_nr (h0 12) ((1 * r 1 + 0) + 0) ((1 * r 15 + 0) + 0) (2 * ((1 * r 2 + 0) + 0)).toNat = 0 := e0
  have hh : h0 = gi := hh
  subst hh
  refine yt_dalt (by decide) (by decide) ?_
  rw [show xk_155.2.1.2.1.1.length = 19 from rfl]
  show ((((0 : Int) + (-1)) = yq_tr ((1 * r 0 + 0) + 0) ((1 * r 1 + 0) + 0) ((1 * r 2 + 0) + 0) ((1 * r 3 + 0) + 0) (yq_at ((1 * r 0 + 0) + 0) ((1 * ((1 * r 7 + 0) + 0) + 0) + 0) ((1 * ((1 * r 10 + 0) + 0) + 0) + 0) ((1 * ((1 * r 13 + 0) + 0) + 0) + 0) ((1 * ((1 * r 16 + 0) + 0) + 0) + 0)) (yq_at ((1 * r 0 + 0) + 0) ((1 * ((1 * r 9 + 0) + 0) + 0) + 0) ((1 * ((1 * r 12 + 0) + 0) + 0) + 0) ((1 * ((1 * r 15 + 0) + 0) + 0) + 0) ((1 * ((1 * r 18 + 0) + 0) + 0) + 0)) (yq_nr (yq_fat ((1 * r 0 + 0) + 0) (g0 8) (g0 10) (g0 12) (g0 14)) ((1 * r 1 + 0) + 0) (yq_at ((1 * r 0 + 0) + 0) ((1 * ((1 * r 9 + 0) + 0) + 0) + 0) ((1 * ((1 * r 12 + 0) + 0) + 0) + 0) ((1 * ((1 * r 15 + 0) + 0) + 0) + 0) ((1 * ((1 * r 18 + 0) + 0) + 0) + 0)) (2 * ((1 * r 2 + 0) + 0)).toNat) ((1 * ((1 * r 5 + 0) + 0) + 0) + 0) ∧ ((1 * ((1 * r 5 + 0) + 0) + 0) + 0) = yq_tn ((0 : Int) + (-1)) ((1 * ((1 * r 5 + 0) + 0) + 0) + 0)) ∧ (g 2) = yq_ap ((1 * ((1 * r 5 + 0) + 0) + 0) + 0) ((1 * ((1 * r 5 + 0) + 0) + 0) + 0) (yq_vx (yq_fat ((1 * r 0 + 0) + 0) (g0 8) (g0 10) (g0 12) (g0 14)) (yq_at ((1 * r 0 + 0) + 0) ((1 * ((1 * r 9 + 0) + 0) + 0) + 0) ((1 * ((1 * r 12 + 0) + 0) + 0) + 0) ((1 * ((1 * r 15 + 0) + 0) + 0) + 0) ((1 * ((1 * r 18 + 0) + 0) + 0) + 0)) ((1 * r 1 + 0) + 0) ((1 * ((1 * r 5 + 0) + 0) + 0) + 0) 0) (g0 2) ∧ (g 3) = yq_ap ((1 * ((1 * r 5 + 0) + 0) + 0) + 0) ((1 * ((1 * r 5 + 0) + 0) + 0) + 0) (yq_vx (yq_fat ((1 * r 0 + 0) + 0) (g0 8) (g0 10) (g0 12) (g0 14)) (yq_at ((1 * r 0 + 0) + 0) ((1 * ((1 * r 9 + 0) + 0) + 0) + 0) ((1 * ((1 * r 12 + 0) + 0) + 0) + 0) ((1 * ((1 * r 15 + 0) + 0) + 0) + 0) ((1 * ((1 * r 18 + 0) + 0) + 0) + 0)) ((1 * r 1 + 0) + 0) ((1 * ((1 * r 5 + 0) + 0) + 0) + 0) 1) (g0 3) ∧ (g 4) = yq_ap ((1 * ((1 * r 5 + 0) + 0) + 0) + 0) ((1 * ((1 * r 5 + 0) + 0) + 0) + 0) (yq_ct ((1 * r 3 + 0) + 0)) (g0 4) ∧ (g 5) = yq_ap ((1 * ((1 * r 5 + 0) + 0) + 0) + 0) ((1 * ((1 * r 5 + 0) + 0) + 0) + 0) (yq_ct 1) (g0 5)) ∧ ((1 * ((1 * r 6 + 0) + 0) + 0) + 0) = ye_wr ((1 * ((1 * r 6 + 0) + 0) + 0) + 0) (((1 * ((1 * r 5 + 0) + 0) + 0) + 0) - ((1 * ((1 * r 5 + 0) + 0) + 0) + 0))
  try simp only [Int.one_mul, Int.zero_add, Int.add_zero]
  refine ⟨?_, ?_⟩
  · try simp only [Int.one_mul, Int.zero_add, Int.add_zero] at e0
    rw [hgi] at e0
    refine ⟨?_, ?_⟩
    · refine ⟨?_, ?_⟩
      · rw [show r 0 = 2 by omega]
        simp only [yq_at2, yq_fat2]
        unfold yq_tr
        repeat' split
        all_goals omega
      · unfold yq_tn
        repeat' split
        all_goals omega
    · refine ⟨?_, ?_, ?_, ?_⟩
      · rw [k0 2 (by decide), hgi]
        exact yq_ap_0 (by omega)
      · rw [k0 3 (by decide), hgi]
        exact yq_ap_0 (by omega)
      · rw [k0 4 (by decide), hgi]
        exact yq_ap_0 (by omega)
      · rw [k0 5 (by decide), hgi]
        exact yq_ap_0 (by omega)
  · exact (ye_w0 (by omega) (by omega)).symm.trans (congrArg (ye_wr _) (show (0 : Int) = _ by omega))
theorem xw_155_0_20 : yt_hold xT_155 xk_155 xq_155.2.2.1 xG_155 xP_155 xU_155 19 xk_155.2.1.2.2.2 (fun g0 r g => xR_155 r g0 ∧ g = g0) (0, ([(2, 2), (0, 99), (1, 40), (1, 1), ((-2147483648), 2147483647), (0, 39), ((-2147483648), 2147483647), (0, 1), ((-2147483648), 2147483647), (0, 100), (0, 1), ((-2147483648), 2147483647), (0, 100), (1, 1), ((-2147483648), 2147483647), (1, 100), (0, 1), ((-2147483648), 2147483647), (0, 100)], [([(2, (-1)), (5, (-1))], 40), ([(15, 1), (1, (-1)), (2, (-2))], 1)]), [([], 0), ([(5, 1)], 0), ([(6, 1)], 0)], [], [.inr (.inr (.inl (118, 1, [([(1, 1)], 0), ([(2, 1)], 0), ([(13, 1)], 0), ([(14, 1)], 0), ([(15, 1)], 0)], [11, 12], [])))]) := by
  intro g0 r gi g hok hh hars hfr hG
  have b0 : 2 ≤ r 0 ∧ r 0 ≤ 2 := hok.1 0 (2, 2) rfl
  have b1 : 0 ≤ r 1 ∧ r 1 ≤ 99 := hok.1 1 (0, 99) rfl
  have b2 : 1 ≤ r 2 ∧ r 2 ≤ 40 := hok.1 2 (1, 40) rfl
  have b3 : 1 ≤ r 3 ∧ r 3 ≤ 1 := hok.1 3 (1, 1) rfl
  have b4 : (-2147483648) ≤ r 4 ∧ r 4 ≤ 2147483647 := hok.1 4 ((-2147483648), 2147483647) rfl
  have b5 : 0 ≤ r 5 ∧ r 5 ≤ 39 := hok.1 5 (0, 39) rfl
  have b6 : (-2147483648) ≤ r 6 ∧ r 6 ≤ 2147483647 := hok.1 6 ((-2147483648), 2147483647) rfl
  have b7 : 0 ≤ r 7 ∧ r 7 ≤ 1 := hok.1 7 (0, 1) rfl
  have b8 : (-2147483648) ≤ r 8 ∧ r 8 ≤ 2147483647 := hok.1 8 ((-2147483648), 2147483647) rfl
  have b9 : 0 ≤ r 9 ∧ r 9 ≤ 100 := hok.1 9 (0, 100) rfl
  have b10 : 0 ≤ r 10 ∧ r 10 ≤ 1 := hok.1 10 (0, 1) rfl
  have b11 : (-2147483648) ≤ r 11 ∧ r 11 ≤ 2147483647 := hok.1 11 ((-2147483648), 2147483647) rfl
  have b12 : 0 ≤ r 12 ∧ r 12 ≤ 100 := hok.1 12 (0, 100) rfl
  have b13 : 1 ≤ r 13 ∧ r 13 ≤ 1 := hok.1 13 (1, 1) rfl
  have b14 : (-2147483648) ≤ r 14 ∧ r 14 ≤ 2147483647 := hok.1 14 ((-2147483648), 2147483647) rfl
  have b15 : 1 ≤ r 15 ∧ r 15 ≤ 100 := hok.1 15 (1, 100) rfl
  have b16 : 0 ≤ r 16 ∧ r 16 ≤ 1 := hok.1 16 (0, 1) rfl
  have b17 : (-2147483648) ≤ r 17 ∧ r 17 ≤ 2147483647 := hok.1 17 ((-2147483648), 2147483647) rfl
  have b18 : 0 ≤ r 18 ∧ r 18 ≤ 100 := hok.1 18 (0, 100) rfl
  have f0 : 0 ≤ (((-1) * r 2 + ((-1) * r 5 + 0)) + 40) := hok.2 _ (List.mem_of_getElem? (i := 0) rfl)
  have f1 : 0 ≤ ((1 * r 15 + ((-1) * r 1 + ((-2) * r 2 + 0))) + 1) := hok.2 _ (List.mem_of_getElem? (i := 1) rfl)
  obtain ⟨hG, hgi⟩ := hG
  have hG : True := hG
  obtain ⟨h0, hh, e0, k0⟩ := hh
  have k0 : ∀ j, j ∉ [] → g j = h0 j := k0
  have e0 : yq_nr (h0 12) ((1 * r 1 + 0) + 0) ((1 * r 15 + 0) + 0) (2 * ((1 * r 2 + 0) + 0)).toNat = 1 := e0
  have hh : h0 = gi := hh
  subst hh
  refine yt_dcut (by decide) rfl ?_ ?_
  · exact fun f hf => absurd hf List.not_mem_nil
  · rw [show xk_155.2.1.2.1.1.length = 19 from rfl]
    show ((yq_at ((1 * r 0 + 0) + 0) ((1 * ((1 * r 7 + 0) + 0) + 0) + 0) ((1 * ((1 * r 10 + 0) + 0) + 0) + 0) ((1 * ((1 * r 13 + 0) + 0) + 0) + 0) ((1 * ((1 * r 16 + 0) + 0) + 0) + 0)) ≠ 0 ∧ (0 ≤ ((1 * r 1 + 0) + 0) ∧ ((1 * r 1 + 0) + 0) + 2 * ((1 * r 2 + 0) + 0) - 2 < (yq_at ((1 * r 0 + 0) + 0) ((1 * ((1 * r 9 + 0) + 0) + 0) + 0) ((1 * ((1 * r 12 + 0) + 0) + 0) + 0) ((1 * ((1 * r 15 + 0) + 0) + 0) + 0) ((1 * ((1 * r 18 + 0) + 0) + 0) + 0))) ∧ (yq_nr (yq_fat ((1 * r 0 + 0) + 0) (g0 8) (g0 10) (g0 12) (g0 14)) ((1 * r 1 + 0) + 0) (yq_at ((1 * r 0 + 0) + 0) ((1 * ((1 * r 9 + 0) + 0) + 0) + 0) ((1 * ((1 * r 12 + 0) + 0) + 0) + 0) ((1 * ((1 * r 15 + 0) + 0) + 0) + 0) ((1 * ((1 * r 18 + 0) + 0) + 0) + 0)) (2 * ((1 * r 2 + 0) + 0)).toNat) = 1 ∧ ((1 * ((1 * r 5 + 0) + 0) + 0) + 0) = ((1 * ((1 * r 5 + 0) + 0) + 0) + 0) + ((1 * ((0 : Int) + 0) + 0) + 0) ∧ ((1 * ((0 : Int) + 0) + 0) + 0) ≤ ((1 * r 2 + 0) + 0) ∧ (g 2) = yq_ap (((1 * ((1 * r 5 + 0) + 0) + 0) + 0) + ((1 * ((0 : Int) + 0) + 0) + 0)) ((1 * ((1 * r 5 + 0) + 0) + 0) + 0) (yq_vx (yq_fat ((1 * r 0 + 0) + 0) (g0 8) (g0 10) (g0 12) (g0 14)) (yq_at ((1 * r 0 + 0) + 0) ((1 * ((1 * r 9 + 0) + 0) + 0) + 0) ((1 * ((1 * r 12 + 0) + 0) + 0) + 0) ((1 * ((1 * r 15 + 0) + 0) + 0) + 0) ((1 * ((1 * r 18 + 0) + 0) + 0) + 0)) ((1 * r 1 + 0) + 0) ((1 * ((1 * r 5 + 0) + 0) + 0) + 0) 0) (g0 2) ∧ (g 3) = yq_ap (((1 * ((1 * r 5 + 0) + 0) + 0) + 0) + ((1 * ((0 : Int) + 0) + 0) + 0)) ((1 * ((1 * r 5 + 0) + 0) + 0) + 0) (yq_vx (yq_fat ((1 * r 0 + 0) + 0) (g0 8) (g0 10) (g0 12) (g0 14)) (yq_at ((1 * r 0 + 0) + 0) ((1 * ((1 * r 9 + 0) + 0) + 0) + 0) ((1 * ((1 * r 12 + 0) + 0) + 0) + 0) ((1 * ((1 * r 15 + 0) + 0) + 0) + 0) ((1 * ((1 * r 18 + 0) + 0) + 0) + 0)) ((1 * r 1 + 0) + 0) ((1 * ((1 * r 5 + 0) + 0) + 0) + 0) 1) (g0 3) ∧ (g 4) = yq_ap (((1 * ((1 * r 5 + 0) + 0) + 0) + 0) + ((1 * ((0 : Int) + 0) + 0) + 0)) ((1 * ((1 * r 5 + 0) + 0) + 0) + 0) (yq_ct ((1 * r 3 + 0) + 0)) (g0 4) ∧ (g 5) = yq_ap (((1 * ((1 * r 5 + 0) + 0) + 0) + 0) + ((1 * ((0 : Int) + 0) + 0) + 0)) ((1 * ((1 * r 5 + 0) + 0) + 0) + 0) (yq_ct 1) (g0 5)) ∧ ((1 * ((1 * r 6 + 0) + 0) + 0) + 0) = ye_wr ((1 * ((1 * r 6 + 0) + 0) + 0) + 0) ((1 * ((0 : Int) + 0) + 0) + 0)
    try simp only [Int.one_mul, Int.zero_add, Int.add_zero]
    refine ⟨?_, ?_⟩
    · try simp only [Int.one_mul, Int.zero_add, Int.add_zero] at e0
      rw [hgi] at e0
      rw [show r 0 = 2 by omega]
      simp only [yq_at2, yq_fat2]
      refine ⟨?_, ?_, ?_, ?_, ?_, ?_, ?_, ?_, ?_⟩
      · omega
      · omega
      · exact e0
      · omega
      · omega
      · rw [k0 2 (by decide), hgi]
        exact yq_ap_0 (by omega)
      · rw [k0 3 (by decide), hgi]
        exact yq_ap_0 (by omega)
      · rw [k0 4 (by decide), hgi]
        exact yq_ap_0 (by omega)
      · rw [k0 5 (by decide), hgi]
        exact yq_ap_0 (by omega)
    · exact (ye_w0 (by omega) (by omega)).symm.trans (congrArg (ye_wr _) (show (0 : Int) = _ by omega))
theorem xw_155_0_21 : yt_hold xT_155 xk_155 xq_155.2.2.1 xG_155 xP_155 xU_155 19 xk_155.2.1.2.2.2 (fun g0 r g => xR_155 r g0 ∧ g = g0) (1000, ([(2, 2), (0, 99), (1, 40), (1, 1), ((-2147483648), 2147483647), (1, 40), ((-2147483648), 2147483647), (0, 1), ((-2147483648), 2147483647), (0, 100), (0, 1), ((-2147483648), 2147483647), (0, 100), (1, 1), ((-2147483648), 2147483647), (1, 100), (0, 1), ((-2147483648), 2147483647), (0, 100), ((-2147483648), 0)], [([(2, 1), (5, 1)], (-41)), ([(15, 1), (1, (-1)), (2, (-2))], 1)]), [([], (-5)), ([(19, 1)], 0), ([(5, 1)], 0), ([(6, 1)], 0)], [], [.inr (.inr (.inl (118, 1, [([(1, 1)], 0), ([(2, 1)], 0), ([(13, 1)], 0), ([(14, 1)], 0), ([(15, 1)], 0)], [11, 12], [])))]) := by
  intro g0 r gi g hok hh hars hfr hG
  have b0 : 2 ≤ r 0 ∧ r 0 ≤ 2 := hok.1 0 (2, 2) rfl
  have b1 : 0 ≤ r 1 ∧ r 1 ≤ 99 := hok.1 1 (0, 99) rfl
  have b2 : 1 ≤ r 2 ∧ r 2 ≤ 40 := hok.1 2 (1, 40) rfl
  have b3 : 1 ≤ r 3 ∧ r 3 ≤ 1 := hok.1 3 (1, 1) rfl
  have b4 : (-2147483648) ≤ r 4 ∧ r 4 ≤ 2147483647 := hok.1 4 ((-2147483648), 2147483647) rfl
  have b5 : 1 ≤ r 5 ∧ r 5 ≤ 40 := hok.1 5 (1, 40) rfl
  have b6 : (-2147483648) ≤ r 6 ∧ r 6 ≤ 2147483647 := hok.1 6 ((-2147483648), 2147483647) rfl
  have b7 : 0 ≤ r 7 ∧ r 7 ≤ 1 := hok.1 7 (0, 1) rfl
  have b8 : (-2147483648) ≤ r 8 ∧ r 8 ≤ 2147483647 := hok.1 8 ((-2147483648), 2147483647) rfl
  have b9 : 0 ≤ r 9 ∧ r 9 ≤ 100 := hok.1 9 (0, 100) rfl
  have b10 : 0 ≤ r 10 ∧ r 10 ≤ 1 := hok.1 10 (0, 1) rfl
  have b11 : (-2147483648) ≤ r 11 ∧ r 11 ≤ 2147483647 := hok.1 11 ((-2147483648), 2147483647) rfl
  have b12 : 0 ≤ r 12 ∧ r 12 ≤ 100 := hok.1 12 (0, 100) rfl
  have b13 : 1 ≤ r 13 ∧ r 13 ≤ 1 := hok.1 13 (1, 1) rfl
  have b14 : (-2147483648) ≤ r 14 ∧ r 14 ≤ 2147483647 := hok.1 14 ((-2147483648), 2147483647) rfl
  have b15 : 1 ≤ r 15 ∧ r 15 ≤ 100 := hok.1 15 (1, 100) rfl
  have b16 : 0 ≤ r 16 ∧ r 16 ≤ 1 := hok.1 16 (0, 1) rfl
  have b17 : (-2147483648) ≤ r 17 ∧ r 17 ≤ 2147483647 := hok.1 17 ((-2147483648), 2147483647) rfl
  have b18 : 0 ≤ r 18 ∧ r 18 ≤ 100 := hok.1 18 (0, 100) rfl
  have b19 : (-2147483648) ≤ r 19 ∧ r 19 ≤ 0 := hok.1 19 ((-2147483648), 0) rfl
  have f0 : 0 ≤ ((1 * r 2 + (1 * r 5 + 0)) + (-41)) := hok.2 _ (List.mem_of_getElem? (i := 0) rfl)
  have f1 : 0 ≤ ((1 * r 15 + ((-1) * r 1 + ((-2) * r 2 + 0))) + 1) := hok.2 _ (List.mem_of_getElem? (i := 1) rfl)
  obtain ⟨hG, hgi⟩ := hG
  have hG : True := hG
  obtain ⟨h0, hh, e0, k0⟩ := hh
  have k0 : ∀ j, j ∉ [] → g j = h0 j := k0
  have e0 : yq_nr (h0 12) ((1 * r 1 + 0) + 0) ((1 * r 15 + 0) + 0) (2 * ((1 * r 2 + 0) + 0)).toNat = 1 := e0
  have hh : h0 = gi := hh
  subst hh
  refine yt_dalt (by decide) (by decide) ?_
  rw [show xk_155.2.1.2.1.1.length = 19 from rfl]
  show ((((0 : Int) + (-5)) = yq_tr ((1 * r 0 + 0) + 0) ((1 * r 1 + 0) + 0) ((1 * r 2 + 0) + 0) ((1 * r 3 + 0) + 0) (yq_at ((1 * r 0 + 0) + 0) ((1 * ((1 * r 7 + 0) + 0) + 0) + 0) ((1 * ((1 * r 10 + 0) + 0) + 0) + 0) ((1 * ((1 * r 13 + 0) + 0) + 0) + 0) ((1 * ((1 * r 16 + 0) + 0) + 0) + 0)) (yq_at ((1 * r 0 + 0) + 0) ((1 * ((1 * r 9 + 0) + 0) + 0) + 0) ((1 * ((1 * r 12 + 0) + 0) + 0) + 0) ((1 * ((1 * r 15 + 0) + 0) + 0) + 0) ((1 * ((1 * r 18 + 0) + 0) + 0) + 0)) (yq_nr (yq_fat ((1 * r 0 + 0) + 0) (g0 8) (g0 10) (g0 12) (g0 14)) ((1 * r 1 + 0) + 0) (yq_at ((1 * r 0 + 0) + 0) ((1 * ((1 * r 9 + 0) + 0) + 0) + 0) ((1 * ((1 * r 12 + 0) + 0) + 0) + 0) ((1 * ((1 * r 15 + 0) + 0) + 0) + 0) ((1 * ((1 * r 18 + 0) + 0) + 0) + 0)) (2 * ((1 * r 2 + 0) + 0)).toNat) ((1 * ((1 * r 5 + 0) + 0) + 0) + 0) ∧ ((1 * ((1 * r 5 + 0) + 0) + 0) + 0) = yq_tn ((0 : Int) + (-5)) ((1 * ((1 * r 5 + 0) + 0) + 0) + 0)) ∧ (g 2) = yq_ap ((1 * ((1 * r 5 + 0) + 0) + 0) + 0) ((1 * ((1 * r 5 + 0) + 0) + 0) + 0) (yq_vx (yq_fat ((1 * r 0 + 0) + 0) (g0 8) (g0 10) (g0 12) (g0 14)) (yq_at ((1 * r 0 + 0) + 0) ((1 * ((1 * r 9 + 0) + 0) + 0) + 0) ((1 * ((1 * r 12 + 0) + 0) + 0) + 0) ((1 * ((1 * r 15 + 0) + 0) + 0) + 0) ((1 * ((1 * r 18 + 0) + 0) + 0) + 0)) ((1 * r 1 + 0) + 0) ((1 * ((1 * r 5 + 0) + 0) + 0) + 0) 0) (g0 2) ∧ (g 3) = yq_ap ((1 * ((1 * r 5 + 0) + 0) + 0) + 0) ((1 * ((1 * r 5 + 0) + 0) + 0) + 0) (yq_vx (yq_fat ((1 * r 0 + 0) + 0) (g0 8) (g0 10) (g0 12) (g0 14)) (yq_at ((1 * r 0 + 0) + 0) ((1 * ((1 * r 9 + 0) + 0) + 0) + 0) ((1 * ((1 * r 12 + 0) + 0) + 0) + 0) ((1 * ((1 * r 15 + 0) + 0) + 0) + 0) ((1 * ((1 * r 18 + 0) + 0) + 0) + 0)) ((1 * r 1 + 0) + 0) ((1 * ((1 * r 5 + 0) + 0) + 0) + 0) 1) (g0 3) ∧ (g 4) = yq_ap ((1 * ((1 * r 5 + 0) + 0) + 0) + 0) ((1 * ((1 * r 5 + 0) + 0) + 0) + 0) (yq_ct ((1 * r 3 + 0) + 0)) (g0 4) ∧ (g 5) = yq_ap ((1 * ((1 * r 5 + 0) + 0) + 0) + 0) ((1 * ((1 * r 5 + 0) + 0) + 0) + 0) (yq_ct 1) (g0 5)) ∧ ((1 * ((1 * r 6 + 0) + 0) + 0) + 0) = ye_wr ((1 * ((1 * r 6 + 0) + 0) + 0) + 0) (((1 * ((1 * r 5 + 0) + 0) + 0) + 0) - ((1 * ((1 * r 5 + 0) + 0) + 0) + 0))
  try simp only [Int.one_mul, Int.zero_add, Int.add_zero]
  refine ⟨?_, ?_⟩
  · try simp only [Int.one_mul, Int.zero_add, Int.add_zero] at e0
    rw [hgi] at e0
    refine ⟨?_, ?_⟩
    · refine ⟨?_, ?_⟩
      · rw [show r 0 = 2 by omega]
        simp only [yq_at2, yq_fat2]
        unfold yq_tr
        repeat' split
        all_goals omega
      · unfold yq_tn
        repeat' split
        all_goals omega
    · refine ⟨?_, ?_, ?_, ?_⟩
      · rw [k0 2 (by decide), hgi]
        exact yq_ap_0 (by omega)
      · rw [k0 3 (by decide), hgi]
        exact yq_ap_0 (by omega)
      · rw [k0 4 (by decide), hgi]
        exact yq_ap_0 (by omega)
      · rw [k0 5 (by decide), hgi]
        exact yq_ap_0 (by omega)
  · exact (ye_w0 (by omega) (by omega)).symm.trans (congrArg (ye_wr _) (show (0 : Int) = _ by omega))
theorem xw_155_0_22 : yt_hold xT_155 xk_155 xq_155.2.2.1 xG_155 xP_155 xU_155 19 xk_155.2.1.2.2.2 (fun g0 r g => xR_155 r g0 ∧ g = g0) (1000, ([(2, 2), ((-2147483648), 2147483647), (1, 40), (1, 1), ((-2147483648), 2147483647), (0, 40), ((-2147483648), 2147483647), (0, 1), ((-2147483648), 2147483647), (0, 100), (0, 1), ((-2147483648), 2147483647), (0, 100), (0, 0), ((-2147483648), 2147483647), (0, 100), (0, 1), ((-2147483648), 2147483647), (0, 100), ((-2147483648), 0)], []), [([], (-2)), ([(19, 1)], 0), ([(5, 1)], 0), ([(6, 1)], 0)], [], []) := by
  intro g0 r gi g hok hh hars hfr hG
  have b0 : 2 ≤ r 0 ∧ r 0 ≤ 2 := hok.1 0 (2, 2) rfl
  have b1 : (-2147483648) ≤ r 1 ∧ r 1 ≤ 2147483647 := hok.1 1 ((-2147483648), 2147483647) rfl
  have b2 : 1 ≤ r 2 ∧ r 2 ≤ 40 := hok.1 2 (1, 40) rfl
  have b3 : 1 ≤ r 3 ∧ r 3 ≤ 1 := hok.1 3 (1, 1) rfl
  have b4 : (-2147483648) ≤ r 4 ∧ r 4 ≤ 2147483647 := hok.1 4 ((-2147483648), 2147483647) rfl
  have b5 : 0 ≤ r 5 ∧ r 5 ≤ 40 := hok.1 5 (0, 40) rfl
  have b6 : (-2147483648) ≤ r 6 ∧ r 6 ≤ 2147483647 := hok.1 6 ((-2147483648), 2147483647) rfl
  have b7 : 0 ≤ r 7 ∧ r 7 ≤ 1 := hok.1 7 (0, 1) rfl
  have b8 : (-2147483648) ≤ r 8 ∧ r 8 ≤ 2147483647 := hok.1 8 ((-2147483648), 2147483647) rfl
  have b9 : 0 ≤ r 9 ∧ r 9 ≤ 100 := hok.1 9 (0, 100) rfl
  have b10 : 0 ≤ r 10 ∧ r 10 ≤ 1 := hok.1 10 (0, 1) rfl
  have b11 : (-2147483648) ≤ r 11 ∧ r 11 ≤ 2147483647 := hok.1 11 ((-2147483648), 2147483647) rfl
  have b12 : 0 ≤ r 12 ∧ r 12 ≤ 100 := hok.1 12 (0, 100) rfl
  have b13 : 0 ≤ r 13 ∧ r 13 ≤ 0 := hok.1 13 (0, 0) rfl
  have b14 : (-2147483648) ≤ r 14 ∧ r 14 ≤ 2147483647 := hok.1 14 ((-2147483648), 2147483647) rfl
  have b15 : 0 ≤ r 15 ∧ r 15 ≤ 100 := hok.1 15 (0, 100) rfl
  have b16 : 0 ≤ r 16 ∧ r 16 ≤ 1 := hok.1 16 (0, 1) rfl
  have b17 : (-2147483648) ≤ r 17 ∧ r 17 ≤ 2147483647 := hok.1 17 ((-2147483648), 2147483647) rfl
  have b18 : 0 ≤ r 18 ∧ r 18 ≤ 100 := hok.1 18 (0, 100) rfl
  have b19 : (-2147483648) ≤ r 19 ∧ r 19 ≤ 0 := hok.1 19 ((-2147483648), 0) rfl
  obtain ⟨hG, hgi⟩ := hG
  have hG : True := hG
  have hh : g = gi := hh
  subst hh
  refine yt_dalt (by decide) (by decide) ?_
  rw [show xk_155.2.1.2.1.1.length = 19 from rfl]
  show ((((0 : Int) + (-2)) = yq_tr ((1 * r 0 + 0) + 0) ((1 * r 1 + 0) + 0) ((1 * r 2 + 0) + 0) ((1 * r 3 + 0) + 0) (yq_at ((1 * r 0 + 0) + 0) ((1 * ((1 * r 7 + 0) + 0) + 0) + 0) ((1 * ((1 * r 10 + 0) + 0) + 0) + 0) ((1 * ((1 * r 13 + 0) + 0) + 0) + 0) ((1 * ((1 * r 16 + 0) + 0) + 0) + 0)) (yq_at ((1 * r 0 + 0) + 0) ((1 * ((1 * r 9 + 0) + 0) + 0) + 0) ((1 * ((1 * r 12 + 0) + 0) + 0) + 0) ((1 * ((1 * r 15 + 0) + 0) + 0) + 0) ((1 * ((1 * r 18 + 0) + 0) + 0) + 0)) (yq_nr (yq_fat ((1 * r 0 + 0) + 0) (g0 8) (g0 10) (g0 12) (g0 14)) ((1 * r 1 + 0) + 0) (yq_at ((1 * r 0 + 0) + 0) ((1 * ((1 * r 9 + 0) + 0) + 0) + 0) ((1 * ((1 * r 12 + 0) + 0) + 0) + 0) ((1 * ((1 * r 15 + 0) + 0) + 0) + 0) ((1 * ((1 * r 18 + 0) + 0) + 0) + 0)) (2 * ((1 * r 2 + 0) + 0)).toNat) ((1 * ((1 * r 5 + 0) + 0) + 0) + 0) ∧ ((1 * ((1 * r 5 + 0) + 0) + 0) + 0) = yq_tn ((0 : Int) + (-2)) ((1 * ((1 * r 5 + 0) + 0) + 0) + 0)) ∧ (g 2) = yq_ap ((1 * ((1 * r 5 + 0) + 0) + 0) + 0) ((1 * ((1 * r 5 + 0) + 0) + 0) + 0) (yq_vx (yq_fat ((1 * r 0 + 0) + 0) (g0 8) (g0 10) (g0 12) (g0 14)) (yq_at ((1 * r 0 + 0) + 0) ((1 * ((1 * r 9 + 0) + 0) + 0) + 0) ((1 * ((1 * r 12 + 0) + 0) + 0) + 0) ((1 * ((1 * r 15 + 0) + 0) + 0) + 0) ((1 * ((1 * r 18 + 0) + 0) + 0) + 0)) ((1 * r 1 + 0) + 0) ((1 * ((1 * r 5 + 0) + 0) + 0) + 0) 0) (g0 2) ∧ (g 3) = yq_ap ((1 * ((1 * r 5 + 0) + 0) + 0) + 0) ((1 * ((1 * r 5 + 0) + 0) + 0) + 0) (yq_vx (yq_fat ((1 * r 0 + 0) + 0) (g0 8) (g0 10) (g0 12) (g0 14)) (yq_at ((1 * r 0 + 0) + 0) ((1 * ((1 * r 9 + 0) + 0) + 0) + 0) ((1 * ((1 * r 12 + 0) + 0) + 0) + 0) ((1 * ((1 * r 15 + 0) + 0) + 0) + 0) ((1 * ((1 * r 18 + 0) + 0) + 0) + 0)) ((1 * r 1 + 0) + 0) ((1 * ((1 * r 5 + 0) + 0) + 0) + 0) 1) (g0 3) ∧ (g 4) = yq_ap ((1 * ((1 * r 5 + 0) + 0) + 0) + 0) ((1 * ((1 * r 5 + 0) + 0) + 0) + 0) (yq_ct ((1 * r 3 + 0) + 0)) (g0 4) ∧ (g 5) = yq_ap ((1 * ((1 * r 5 + 0) + 0) + 0) + 0) ((1 * ((1 * r 5 + 0) + 0) + 0) + 0) (yq_ct 1) (g0 5)) ∧ ((1 * ((1 * r 6 + 0) + 0) + 0) + 0) = ye_wr ((1 * ((1 * r 6 + 0) + 0) + 0) + 0) (((1 * ((1 * r 5 + 0) + 0) + 0) + 0) - ((1 * ((1 * r 5 + 0) + 0) + 0) + 0))
  try simp only [Int.one_mul, Int.zero_add, Int.add_zero]
  refine ⟨?_, ?_⟩
  · refine ⟨?_, ?_⟩
    · refine ⟨?_, ?_⟩
      · rw [show r 0 = 2 by omega]
        simp only [yq_at2, yq_fat2]
        unfold yq_tr
        repeat' split
        all_goals omega
      · unfold yq_tn
        repeat' split
        all_goals omega
    · refine ⟨?_, ?_, ?_, ?_⟩
      · rw [hgi]
        exact yq_ap_0 (by omega)
      · rw [hgi]
        exact yq_ap_0 (by omega)
      · rw [hgi]
        exact yq_ap_0 (by omega)
      · rw [hgi]
        exact yq_ap_0 (by omega)
  · exact (ye_w0 (by omega) (by omega)).symm.trans (congrArg (ye_wr _) (show (0 : Int) = _ by omega))
theorem xw_155_0_23 : yt_hold xT_155 xk_155 xq_155.2.2.1 xG_155 xP_155 xU_155 19 xk_155.2.1.2.2.2 (fun g0 r g => xR_155 r g0 ∧ g = g0) (1000, ([(3, 3), ((-2147483648), (-1)), (1, 40), (1, 1), ((-2147483648), 2147483647), (0, 40), ((-2147483648), 2147483647), (0, 1), ((-2147483648), 2147483647), (0, 100), (0, 1), ((-2147483648), 2147483647), (0, 100), (0, 1), ((-2147483648), 2147483647), (0, 100), (1, 1), ((-2147483648), 2147483647), (0, 100), ((-2147483648), 0)], []), [([], (-3)), ([(19, 1)], 0), ([(5, 1)], 0), ([(6, 1)], 0)], [], []) := by
  intro g0 r gi g hok hh hars hfr hG
  have b0 : 3 ≤ r 0 ∧ r 0 ≤ 3 := hok.1 0 (3, 3) rfl
  have b1 : (-2147483648) ≤ r 1 ∧ r 1 ≤ (-1) := hok.1 1 ((-2147483648), (-1)) rfl
  have b2 : 1 ≤ r 2 ∧ r 2 ≤ 40 := hok.1 2 (1, 40) rfl
  have b3 : 1 ≤ r 3 ∧ r 3 ≤ 1 := hok.1 3 (1, 1) rfl
  have b4 : (-2147483648) ≤ r 4 ∧ r 4 ≤ 2147483647 := hok.1 4 ((-2147483648), 2147483647) rfl
  have b5 : 0 ≤ r 5 ∧ r 5 ≤ 40 := hok.1 5 (0, 40) rfl
  have b6 : (-2147483648) ≤ r 6 ∧ r 6 ≤ 2147483647 := hok.1 6 ((-2147483648), 2147483647) rfl
  have b7 : 0 ≤ r 7 ∧ r 7 ≤ 1 := hok.1 7 (0, 1) rfl
  have b8 : (-2147483648) ≤ r 8 ∧ r 8 ≤ 2147483647 := hok.1 8 ((-2147483648), 2147483647) rfl
  have b9 : 0 ≤ r 9 ∧ r 9 ≤ 100 := hok.1 9 (0, 100) rfl
  have b10 : 0 ≤ r 10 ∧ r 10 ≤ 1 := hok.1 10 (0, 1) rfl
  have b11 : (-2147483648) ≤ r 11 ∧ r 11 ≤ 2147483647 := hok.1 11 ((-2147483648), 2147483647) rfl
  have b12 : 0 ≤ r 12 ∧ r 12 ≤ 100 := hok.1 12 (0, 100) rfl
  have b13 : 0 ≤ r 13 ∧ r 13 ≤ 1 := hok.1 13 (0, 1) rfl
  have b14 : (-2147483648) ≤ r 14 ∧ r 14 ≤ 2147483647 := hok.1 14 ((-2147483648), 2147483647) rfl
  have b15 : 0 ≤ r 15 ∧ r 15 ≤ 100 := hok.1 15 (0, 100) rfl
  have b16 : 1 ≤ r 16 ∧ r 16 ≤ 1 := hok.1 16 (1, 1) rfl
  have b17 : (-2147483648) ≤ r 17 ∧ r 17 ≤ 2147483647 := hok.1 17 ((-2147483648), 2147483647) rfl
  have b18 : 0 ≤ r 18 ∧ r 18 ≤ 100 := hok.1 18 (0, 100) rfl
  have b19 : (-2147483648) ≤ r 19 ∧ r 19 ≤ 0 := hok.1 19 ((-2147483648), 0) rfl
  obtain ⟨hG, hgi⟩ := hG
  have hG : True := hG
  have hh : g = gi := hh
  subst hh
  refine yt_dalt (by decide) (by decide) ?_
  rw [show xk_155.2.1.2.1.1.length = 19 from rfl]
  show ((((0 : Int) + (-3)) = yq_tr ((1 * r 0 + 0) + 0) ((1 * r 1 + 0) + 0) ((1 * r 2 + 0) + 0) ((1 * r 3 + 0) + 0) (yq_at ((1 * r 0 + 0) + 0) ((1 * ((1 * r 7 + 0) + 0) + 0) + 0) ((1 * ((1 * r 10 + 0) + 0) + 0) + 0) ((1 * ((1 * r 13 + 0) + 0) + 0) + 0) ((1 * ((1 * r 16 + 0) + 0) + 0) + 0)) (yq_at ((1 * r 0 + 0) + 0) ((1 * ((1 * r 9 + 0) + 0) + 0) + 0) ((1 * ((1 * r 12 + 0) + 0) + 0) + 0) ((1 * ((1 * r 15 + 0) + 0) + 0) + 0) ((1 * ((1 * r 18 + 0) + 0) + 0) + 0)) (yq_nr (yq_fat ((1 * r 0 + 0) + 0) (g0 8) (g0 10) (g0 12) (g0 14)) ((1 * r 1 + 0) + 0) (yq_at ((1 * r 0 + 0) + 0) ((1 * ((1 * r 9 + 0) + 0) + 0) + 0) ((1 * ((1 * r 12 + 0) + 0) + 0) + 0) ((1 * ((1 * r 15 + 0) + 0) + 0) + 0) ((1 * ((1 * r 18 + 0) + 0) + 0) + 0)) (2 * ((1 * r 2 + 0) + 0)).toNat) ((1 * ((1 * r 5 + 0) + 0) + 0) + 0) ∧ ((1 * ((1 * r 5 + 0) + 0) + 0) + 0) = yq_tn ((0 : Int) + (-3)) ((1 * ((1 * r 5 + 0) + 0) + 0) + 0)) ∧ (g 2) = yq_ap ((1 * ((1 * r 5 + 0) + 0) + 0) + 0) ((1 * ((1 * r 5 + 0) + 0) + 0) + 0) (yq_vx (yq_fat ((1 * r 0 + 0) + 0) (g0 8) (g0 10) (g0 12) (g0 14)) (yq_at ((1 * r 0 + 0) + 0) ((1 * ((1 * r 9 + 0) + 0) + 0) + 0) ((1 * ((1 * r 12 + 0) + 0) + 0) + 0) ((1 * ((1 * r 15 + 0) + 0) + 0) + 0) ((1 * ((1 * r 18 + 0) + 0) + 0) + 0)) ((1 * r 1 + 0) + 0) ((1 * ((1 * r 5 + 0) + 0) + 0) + 0) 0) (g0 2) ∧ (g 3) = yq_ap ((1 * ((1 * r 5 + 0) + 0) + 0) + 0) ((1 * ((1 * r 5 + 0) + 0) + 0) + 0) (yq_vx (yq_fat ((1 * r 0 + 0) + 0) (g0 8) (g0 10) (g0 12) (g0 14)) (yq_at ((1 * r 0 + 0) + 0) ((1 * ((1 * r 9 + 0) + 0) + 0) + 0) ((1 * ((1 * r 12 + 0) + 0) + 0) + 0) ((1 * ((1 * r 15 + 0) + 0) + 0) + 0) ((1 * ((1 * r 18 + 0) + 0) + 0) + 0)) ((1 * r 1 + 0) + 0) ((1 * ((1 * r 5 + 0) + 0) + 0) + 0) 1) (g0 3) ∧ (g 4) = yq_ap ((1 * ((1 * r 5 + 0) + 0) + 0) + 0) ((1 * ((1 * r 5 + 0) + 0) + 0) + 0) (yq_ct ((1 * r 3 + 0) + 0)) (g0 4) ∧ (g 5) = yq_ap ((1 * ((1 * r 5 + 0) + 0) + 0) + 0) ((1 * ((1 * r 5 + 0) + 0) + 0) + 0) (yq_ct 1) (g0 5)) ∧ ((1 * ((1 * r 6 + 0) + 0) + 0) + 0) = ye_wr ((1 * ((1 * r 6 + 0) + 0) + 0) + 0) (((1 * ((1 * r 5 + 0) + 0) + 0) + 0) - ((1 * ((1 * r 5 + 0) + 0) + 0) + 0))
  try simp only [Int.one_mul, Int.zero_add, Int.add_zero]
  refine ⟨?_, ?_⟩
  · refine ⟨?_, ?_⟩
    · refine ⟨?_, ?_⟩
      · rw [show r 0 = 3 by omega]
        simp only [yq_at3, yq_fat3]
        unfold yq_tr
        repeat' split
        all_goals omega
      · unfold yq_tn
        repeat' split
        all_goals omega
    · refine ⟨?_, ?_, ?_, ?_⟩
      · rw [hgi]
        exact yq_ap_0 (by omega)
      · rw [hgi]
        exact yq_ap_0 (by omega)
      · rw [hgi]
        exact yq_ap_0 (by omega)
      · rw [hgi]
        exact yq_ap_0 (by omega)
  · exact (ye_w0 (by omega) (by omega)).symm.trans (congrArg (ye_wr _) (show (0 : Int) = _ by omega))
theorem xw_155_0_24 : yt_hold xT_155 xk_155 xq_155.2.2.1 xG_155 xP_155 xU_155 19 xk_155.2.1.2.2.2 (fun g0 r g => xR_155 r g0 ∧ g = g0) (1000, ([(3, 3), (0, 2147483647), (1, 40), (1, 1), ((-2147483648), 2147483647), (0, 40), ((-2147483648), 2147483647), (0, 1), ((-2147483648), 2147483647), (0, 100), (0, 1), ((-2147483648), 2147483647), (0, 100), (0, 1), ((-2147483648), 2147483647), (0, 100), (1, 1), ((-2147483648), 2147483647), (0, 100), ((-2147483648), 0)], [([(18, (-1)), (1, 1), (2, 2)], (-2))]), [([], (-3)), ([(19, 1)], 0), ([(5, 1)], 0), ([(6, 1)], 0)], [], []) := by
  intro g0 r gi g hok hh hars hfr hG
  have b0 : 3 ≤ r 0 ∧ r 0 ≤ 3 := hok.1 0 (3, 3) rfl
  have b1 : 0 ≤ r 1 ∧ r 1 ≤ 2147483647 := hok.1 1 (0, 2147483647) rfl
  have b2 : 1 ≤ r 2 ∧ r 2 ≤ 40 := hok.1 2 (1, 40) rfl
  have b3 : 1 ≤ r 3 ∧ r 3 ≤ 1 := hok.1 3 (1, 1) rfl
  have b4 : (-2147483648) ≤ r 4 ∧ r 4 ≤ 2147483647 := hok.1 4 ((-2147483648), 2147483647) rfl
  have b5 : 0 ≤ r 5 ∧ r 5 ≤ 40 := hok.1 5 (0, 40) rfl
  have b6 : (-2147483648) ≤ r 6 ∧ r 6 ≤ 2147483647 := hok.1 6 ((-2147483648), 2147483647) rfl
  have b7 : 0 ≤ r 7 ∧ r 7 ≤ 1 := hok.1 7 (0, 1) rfl
  have b8 : (-2147483648) ≤ r 8 ∧ r 8 ≤ 2147483647 := hok.1 8 ((-2147483648), 2147483647) rfl
  have b9 : 0 ≤ r 9 ∧ r 9 ≤ 100 := hok.1 9 (0, 100) rfl
  have b10 : 0 ≤ r 10 ∧ r 10 ≤ 1 := hok.1 10 (0, 1) rfl
  have b11 : (-2147483648) ≤ r 11 ∧ r 11 ≤ 2147483647 := hok.1 11 ((-2147483648), 2147483647) rfl
  have b12 : 0 ≤ r 12 ∧ r 12 ≤ 100 := hok.1 12 (0, 100) rfl
  have b13 : 0 ≤ r 13 ∧ r 13 ≤ 1 := hok.1 13 (0, 1) rfl
  have b14 : (-2147483648) ≤ r 14 ∧ r 14 ≤ 2147483647 := hok.1 14 ((-2147483648), 2147483647) rfl
  have b15 : 0 ≤ r 15 ∧ r 15 ≤ 100 := hok.1 15 (0, 100) rfl
  have b16 : 1 ≤ r 16 ∧ r 16 ≤ 1 := hok.1 16 (1, 1) rfl
  have b17 : (-2147483648) ≤ r 17 ∧ r 17 ≤ 2147483647 := hok.1 17 ((-2147483648), 2147483647) rfl
  have b18 : 0 ≤ r 18 ∧ r 18 ≤ 100 := hok.1 18 (0, 100) rfl
  have b19 : (-2147483648) ≤ r 19 ∧ r 19 ≤ 0 := hok.1 19 ((-2147483648), 0) rfl
  have f0 : 0 ≤ (((-1) * r 18 + (1 * r 1 + (2 * r 2 + 0))) + (-2)) := hok.2 _ (List.mem_of_getElem? (i := 0) rfl)
  obtain ⟨hG, hgi⟩ := hG
  have hG : True := hG
  have hh : g = gi := hh
  subst hh
  refine yt_dalt (by decide) (by decide) ?_
  rw [show xk_155.2.1.2.1.1.length = 19 from rfl]
  show ((((0 : Int) + (-3)) = yq_tr ((1 * r 0 + 0) + 0) ((1 * r 1 + 0) + 0) ((1 * r 2 + 0) + 0) ((1 * r 3 + 0) + 0) (yq_at ((1 * r 0 + 0) + 0) ((1 * ((1 * r 7 + 0) + 0) + 0) + 0) ((1 * ((1 * r 10 + 0) + 0) + 0) + 0) ((1 * ((1 * r 13 + 0) + 0) + 0) + 0) ((1 * ((1 * r 16 + 0) + 0) + 0) + 0)) (yq_at ((1 * r 0 + 0) + 0) ((1 * ((1 * r 9 + 0) + 0) + 0) + 0) ((1 * ((1 * r 12 + 0) + 0) + 0) + 0) ((1 * ((1 * r 15 + 0) + 0) + 0) + 0) ((1 * ((1 * r 18 + 0) + 0) + 0) + 0)) (yq_nr (yq_fat ((1 * r 0 + 0) + 0) (g0 8) (g0 10) (g0 12) (g0 14)) ((1 * r 1 + 0) + 0) (yq_at ((1 * r 0 + 0) + 0) ((1 * ((1 * r 9 + 0) + 0) + 0) + 0) ((1 * ((1 * r 12 + 0) + 0) + 0) + 0) ((1 * ((1 * r 15 + 0) + 0) + 0) + 0) ((1 * ((1 * r 18 + 0) + 0) + 0) + 0)) (2 * ((1 * r 2 + 0) + 0)).toNat) ((1 * ((1 * r 5 + 0) + 0) + 0) + 0) ∧ ((1 * ((1 * r 5 + 0) + 0) + 0) + 0) = yq_tn ((0 : Int) + (-3)) ((1 * ((1 * r 5 + 0) + 0) + 0) + 0)) ∧ (g 2) = yq_ap ((1 * ((1 * r 5 + 0) + 0) + 0) + 0) ((1 * ((1 * r 5 + 0) + 0) + 0) + 0) (yq_vx (yq_fat ((1 * r 0 + 0) + 0) (g0 8) (g0 10) (g0 12) (g0 14)) (yq_at ((1 * r 0 + 0) + 0) ((1 * ((1 * r 9 + 0) + 0) + 0) + 0) ((1 * ((1 * r 12 + 0) + 0) + 0) + 0) ((1 * ((1 * r 15 + 0) + 0) + 0) + 0) ((1 * ((1 * r 18 + 0) + 0) + 0) + 0)) ((1 * r 1 + 0) + 0) ((1 * ((1 * r 5 + 0) + 0) + 0) + 0) 0) (g0 2) ∧ (g 3) = yq_ap ((1 * ((1 * r 5 + 0) + 0) + 0) + 0) ((1 * ((1 * r 5 + 0) + 0) + 0) + 0) (yq_vx (yq_fat ((1 * r 0 + 0) + 0) (g0 8) (g0 10) (g0 12) (g0 14)) (yq_at ((1 * r 0 + 0) + 0) ((1 * ((1 * r 9 + 0) + 0) + 0) + 0) ((1 * ((1 * r 12 + 0) + 0) + 0) + 0) ((1 * ((1 * r 15 + 0) + 0) + 0) + 0) ((1 * ((1 * r 18 + 0) + 0) + 0) + 0)) ((1 * r 1 + 0) + 0) ((1 * ((1 * r 5 + 0) + 0) + 0) + 0) 1) (g0 3) ∧ (g 4) = yq_ap ((1 * ((1 * r 5 + 0) + 0) + 0) + 0) ((1 * ((1 * r 5 + 0) + 0) + 0) + 0) (yq_ct ((1 * r 3 + 0) + 0)) (g0 4) ∧ (g 5) = yq_ap ((1 * ((1 * r 5 + 0) + 0) + 0) + 0) ((1 * ((1 * r 5 + 0) + 0) + 0) + 0) (yq_ct 1) (g0 5)) ∧ ((1 * ((1 * r 6 + 0) + 0) + 0) + 0) = ye_wr ((1 * ((1 * r 6 + 0) + 0) + 0) + 0) (((1 * ((1 * r 5 + 0) + 0) + 0) + 0) - ((1 * ((1 * r 5 + 0) + 0) + 0) + 0))
  try simp only [Int.one_mul, Int.zero_add, Int.add_zero]
  refine ⟨?_, ?_⟩
  · refine ⟨?_, ?_⟩
    · refine ⟨?_, ?_⟩
      · rw [show r 0 = 3 by omega]
        simp only [yq_at3, yq_fat3]
        unfold yq_tr
        repeat' split
        all_goals omega
      · unfold yq_tn
        repeat' split
        all_goals omega
    · refine ⟨?_, ?_, ?_, ?_⟩
      · rw [hgi]
        exact yq_ap_0 (by omega)
      · rw [hgi]
        exact yq_ap_0 (by omega)
      · rw [hgi]
        exact yq_ap_0 (by omega)
      · rw [hgi]
        exact yq_ap_0 (by omega)
  · exact (ye_w0 (by omega) (by omega)).symm.trans (congrArg (ye_wr _) (show (0 : Int) = _ by omega))
theorem xw_155_0_25 : yt_hold xT_155 xk_155 xq_155.2.2.1 xG_155 xP_155 xU_155 19 xk_155.2.1.2.2.2 (fun g0 r g => xR_155 r g0 ∧ g = g0) (1000, ([(3, 3), (0, 99), (1, 40), (1, 1), ((-2147483648), 2147483647), (0, 40), ((-2147483648), 2147483647), (0, 1), ((-2147483648), 2147483647), (0, 100), (0, 1), ((-2147483648), 2147483647), (0, 100), (0, 1), ((-2147483648), 2147483647), (0, 100), (1, 1), ((-2147483648), 2147483647), (1, 100), ((-2147483648), 0)], [([(2, 2), (1, 1)], (-1)), ([(18, 1), (1, (-1)), (2, (-2))], 1)]), [([], (-1)), ([(19, 1)], 0), ([(5, 1)], 0), ([(6, 1)], 0)], [], [.inr (.inr (.inl (118, 0, [([(1, 1)], 0), ([(2, 1)], 0), ([(16, 1)], 0), ([(17, 1)], 0), ([(18, 1)], 0)], [13, 14], [])))]) := by
  intro g0 r gi g hok hh hars hfr hG
  have b0 : 3 ≤ r 0 ∧ r 0 ≤ 3 := hok.1 0 (3, 3) rfl
  have b1 : 0 ≤ r 1 ∧ r 1 ≤ 99 := hok.1 1 (0, 99) rfl
  have b2 : 1 ≤ r 2 ∧ r 2 ≤ 40 := hok.1 2 (1, 40) rfl
  have b3 : 1 ≤ r 3 ∧ r 3 ≤ 1 := hok.1 3 (1, 1) rfl
  have b4 : (-2147483648) ≤ r 4 ∧ r 4 ≤ 2147483647 := hok.1 4 ((-2147483648), 2147483647) rfl
  have b5 : 0 ≤ r 5 ∧ r 5 ≤ 40 := hok.1 5 (0, 40) rfl
  have b6 : (-2147483648) ≤ r 6 ∧ r 6 ≤ 2147483647 := hok.1 6 ((-2147483648), 2147483647) rfl
  have b7 : 0 ≤ r 7 ∧ r 7 ≤ 1 := hok.1 7 (0, 1) rfl
  have b8 : (-2147483648) ≤ r 8 ∧ r 8 ≤ 2147483647 := hok.1 8 ((-2147483648), 2147483647) rfl
  have b9 : 0 ≤ r 9 ∧ r 9 ≤ 100 := hok.1 9 (0, 100) rfl
  have b10 : 0 ≤ r 10 ∧ r 10 ≤ 1 := hok.1 10 (0, 1) rfl
  have b11 : (-2147483648) ≤ r 11 ∧ r 11 ≤ 2147483647 := hok.1 11 ((-2147483648), 2147483647) rfl
  have b12 : 0 ≤ r 12 ∧ r 12 ≤ 100 := hok.1 12 (0, 100) rfl
  have b13 : 0 ≤ r 13 ∧ r 13 ≤ 1 := hok.1 13 (0, 1) rfl
  have b14 : (-2147483648) ≤ r 14 ∧ r 14 ≤ 2147483647 := hok.1 14 ((-2147483648), 2147483647) rfl
  have b15 : 0 ≤ r 15 ∧ r 15 ≤ 100 := hok.1 15 (0, 100) rfl
  have b16 : 1 ≤ r 16 ∧ r 16 ≤ 1 := hok.1 16 (1, 1) rfl
  have b17 : (-2147483648) ≤ r 17 ∧ r 17 ≤ 2147483647 := hok.1 17 ((-2147483648), 2147483647) rfl
  have b18 : 1 ≤ r 18 ∧ r 18 ≤ 100 := hok.1 18 (1, 100) rfl
  have b19 : (-2147483648) ≤ r 19 ∧ r 19 ≤ 0 := hok.1 19 ((-2147483648), 0) rfl
  have f0 : 0 ≤ ((2 * r 2 + (1 * r 1 + 0)) + (-1)) := hok.2 _ (List.mem_of_getElem? (i := 0) rfl)
  have f1 : 0 ≤ ((1 * r 18 + ((-1) * r 1 + ((-2) * r 2 + 0))) + 1) := hok.2 _ (List.mem_of_getElem? (i := 1) rfl)
  obtain ⟨hG, hgi⟩ := hG
  have hG : True := hG
  obtain ⟨h0, hh, e0, k0⟩ := hh
  have k0 : ∀ j, j ∉ [] → g j = h0 j := k0
  have e0 : yq_nr (h0 14) ((1 * r 1 + 0) + 0) ((1 * r 18 + 0) + 0) (2 * ((1 * r 2 + 0) + 0)).toNat = 0 := e0
  have hh : h0 = gi := hh
  subst hh
  refine yt_dalt (by decide) (by decide) ?_
  rw [show xk_155.2.1.2.1.1.length = 19 from rfl]
  show ((((0 : Int) + (-1)) = yq_tr ((1 * r 0 + 0) + 0) ((1 * r 1 + 0) + 0) ((1 * r 2 + 0) + 0) ((1 * r 3 + 0) + 0) (yq_at ((1 * r 0 + 0) + 0) ((1 * ((1 * r 7 + 0) + 0) + 0) + 0) ((1 * ((1 * r 10 + 0) + 0) + 0) + 0) ((1 * ((1 * r 13 + 0) + 0) + 0) + 0) ((1 * ((1 * r 16 + 0) + 0) + 0) + 0)) (yq_at ((1 * r 0 + 0) + 0) ((1 * ((1 * r 9 + 0) + 0) + 0) + 0) ((1 * ((1 * r 12 + 0) + 0) + 0) + 0) ((1 * ((1 * r 15 + 0) + 0) + 0) + 0) ((1 * ((1 * r 18 + 0) + 0) + 0) + 0)) (yq_nr (yq_fat ((1 * r 0 + 0) + 0) (g0 8) (g0 10) (g0 12) (g0 14)) ((1 * r 1 + 0) + 0) (yq_at ((1 * r 0 + 0) + 0) ((1 * ((1 * r 9 + 0) + 0) + 0) + 0) ((1 * ((1 * r 12 + 0) + 0) + 0) + 0) ((1 * ((1 * r 15 + 0) + 0) + 0) + 0) ((1 * ((1 * r 18 + 0) + 0) + 0) + 0)) (2 * ((1 * r 2 + 0) + 0)).toNat) ((1 * ((1 * r 5 + 0) + 0) + 0) + 0) ∧ ((1 * ((1 * r 5 + 0) + 0) + 0) + 0) = yq_tn ((0 : Int) + (-1)) ((1 * ((1 * r 5 + 0) + 0) + 0) + 0)) ∧ (g 2) = yq_ap ((1 * ((1 * r 5 + 0) + 0) + 0) + 0) ((1 * ((1 * r 5 + 0) + 0) + 0) + 0) (yq_vx (yq_fat ((1 * r 0 + 0) + 0) (g0 8) (g0 10) (g0 12) (g0 14)) (yq_at ((1 * r 0 + 0) + 0) ((1 * ((1 * r 9 + 0) + 0) + 0) + 0) ((1 * ((1 * r 12 + 0) + 0) + 0) + 0) ((1 * ((1 * r 15 + 0) + 0) + 0) + 0) ((1 * ((1 * r 18 + 0) + 0) + 0) + 0)) ((1 * r 1 + 0) + 0) ((1 * ((1 * r 5 + 0) + 0) + 0) + 0) 0) (g0 2) ∧ (g 3) = yq_ap ((1 * ((1 * r 5 + 0) + 0) + 0) + 0) ((1 * ((1 * r 5 + 0) + 0) + 0) + 0) (yq_vx (yq_fat ((1 * r 0 + 0) + 0) (g0 8) (g0 10) (g0 12) (g0 14)) (yq_at ((1 * r 0 + 0) + 0) ((1 * ((1 * r 9 + 0) + 0) + 0) + 0) ((1 * ((1 * r 12 + 0) + 0) + 0) + 0) ((1 * ((1 * r 15 + 0) + 0) + 0) + 0) ((1 * ((1 * r 18 + 0) + 0) + 0) + 0)) ((1 * r 1 + 0) + 0) ((1 * ((1 * r 5 + 0) + 0) + 0) + 0) 1) (g0 3) ∧ (g 4) = yq_ap ((1 * ((1 * r 5 + 0) + 0) + 0) + 0) ((1 * ((1 * r 5 + 0) + 0) + 0) + 0) (yq_ct ((1 * r 3 + 0) + 0)) (g0 4) ∧ (g 5) = yq_ap ((1 * ((1 * r 5 + 0) + 0) + 0) + 0) ((1 * ((1 * r 5 + 0) + 0) + 0) + 0) (yq_ct 1) (g0 5)) ∧ ((1 * ((1 * r 6 + 0) + 0) + 0) + 0) = ye_wr ((1 * ((1 * r 6 + 0) + 0) + 0) + 0) (((1 * ((1 * r 5 + 0) + 0) + 0) + 0) - ((1 * ((1 * r 5 + 0) + 0) + 0) + 0))
  try simp only [Int.one_mul, Int.zero_add, Int.add_zero]
  refine ⟨?_, ?_⟩
  · try simp only [Int.one_mul, Int.zero_add, Int.add_zero] at e0
    rw [hgi] at e0
    refine ⟨?_, ?_⟩
    · refine ⟨?_, ?_⟩
      · rw [show r 0 = 3 by omega]
        simp only [yq_at3, yq_fat3]
        unfold yq_tr
        repeat' split
        all_goals omega
      · unfold yq_tn
        repeat' split
        all_goals omega
    · refine ⟨?_, ?_, ?_, ?_⟩
      · rw [k0 2 (by decide), hgi]
        exact yq_ap_0 (by omega)
      · rw [k0 3 (by decide), hgi]
        exact yq_ap_0 (by omega)
      · rw [k0 4 (by decide), hgi]
        exact yq_ap_0 (by omega)
      · rw [k0 5 (by decide), hgi]
        exact yq_ap_0 (by omega)
  · exact (ye_w0 (by omega) (by omega)).symm.trans (congrArg (ye_wr _) (show (0 : Int) = _ by omega))
theorem xw_155_0_26 : yt_hold xT_155 xk_155 xq_155.2.2.1 xG_155 xP_155 xU_155 19 xk_155.2.1.2.2.2 (fun g0 r g => xR_155 r g0 ∧ g = g0) (0, ([(3, 3), (0, 99), (1, 40), (1, 1), ((-2147483648), 2147483647), (0, 39), ((-2147483648), 2147483647), (0, 1), ((-2147483648), 2147483647), (0, 100), (0, 1), ((-2147483648), 2147483647), (0, 100), (0, 1), ((-2147483648), 2147483647), (0, 100), (1, 1), ((-2147483648), 2147483647), (1, 100)], [([(2, (-1)), (5, (-1))], 40), ([(18, 1), (1, (-1)), (2, (-2))], 1)]), [([], 0), ([(5, 1)], 0), ([(6, 1)], 0)], [], [.inr (.inr (.inl (118, 1, [([(1, 1)], 0), ([(2, 1)], 0), ([(16, 1)], 0), ([(17, 1)], 0), ([(18, 1)], 0)], [13, 14], [])))]) := by
  intro g0 r gi g hok hh hars hfr hG
  have b0 : 3 ≤ r 0 ∧ r 0 ≤ 3 := hok.1 0 (3, 3) rfl
  have b1 : 0 ≤ r 1 ∧ r 1 ≤ 99 := hok.1 1 (0, 99) rfl
  have b2 : 1 ≤ r 2 ∧ r 2 ≤ 40 := hok.1 2 (1, 40) rfl
  have b3 : 1 ≤ r 3 ∧ r 3 ≤ 1 := hok.1 3 (1, 1) rfl
  have b4 : (-2147483648) ≤ r 4 ∧ r 4 ≤ 2147483647 := hok.1 4 ((-2147483648), 2147483647) rfl
  have b5 : 0 ≤ r 5 ∧ r 5 ≤ 39 := hok.1 5 (0, 39) rfl
  have b6 : (-2147483648) ≤ r 6 ∧ r 6 ≤ 2147483647 := hok.1 6 ((-2147483648), 2147483647) rfl
  have b7 : 0 ≤ r 7 ∧ r 7 ≤ 1 := hok.1 7 (0, 1) rfl
  have b8 : (-2147483648) ≤ r 8 ∧ r 8 ≤ 2147483647 := hok.1 8 ((-2147483648), 2147483647) rfl
  have b9 : 0 ≤ r 9 ∧ r 9 ≤ 100 := hok.1 9 (0, 100) rfl
  have b10 : 0 ≤ r 10 ∧ r 10 ≤ 1 := hok.1 10 (0, 1) rfl
  have b11 : (-2147483648) ≤ r 11 ∧ r 11 ≤ 2147483647 := hok.1 11 ((-2147483648), 2147483647) rfl
  have b12 : 0 ≤ r 12 ∧ r 12 ≤ 100 := hok.1 12 (0, 100) rfl
  have b13 : 0 ≤ r 13 ∧ r 13 ≤ 1 := hok.1 13 (0, 1) rfl
  have b14 : (-2147483648) ≤ r 14 ∧ r 14 ≤ 2147483647 := hok.1 14 ((-2147483648), 2147483647) rfl
  have b15 : 0 ≤ r 15 ∧ r 15 ≤ 100 := hok.1 15 (0, 100) rfl
  have b16 : 1 ≤ r 16 ∧ r 16 ≤ 1 := hok.1 16 (1, 1) rfl
  have b17 : (-2147483648) ≤ r 17 ∧ r 17 ≤ 2147483647 := hok.1 17 ((-2147483648), 2147483647) rfl
  have b18 : 1 ≤ r 18 ∧ r 18 ≤ 100 := hok.1 18 (1, 100) rfl
  have f0 : 0 ≤ (((-1) * r 2 + ((-1) * r 5 + 0)) + 40) := hok.2 _ (List.mem_of_getElem? (i := 0) rfl)
  have f1 : 0 ≤ ((1 * r 18 + ((-1) * r 1 + ((-2) * r 2 + 0))) + 1) := hok.2 _ (List.mem_of_getElem? (i := 1) rfl)
  obtain ⟨hG, hgi⟩ := hG
  have hG : True := hG
  obtain ⟨h0, hh, e0, k0⟩ := hh
  have k0 : ∀ j, j ∉ [] → g j = h0 j := k0
  have e0 : yq_nr (h0 14) ((1 * r 1 + 0) + 0) ((1 * r 18 + 0) + 0) (2 * ((1 * r 2 + 0) + 0)).toNat = 1 := e0
  have hh : h0 = gi := hh
  subst hh
  refine yt_dcut (by decide) rfl ?_ ?_
  · exact fun f hf => absurd hf List.not_mem_nil
  · rw [show xk_155.2.1.2.1.1.length = 19 from rfl]
    show ((yq_at ((1 * r 0 + 0) + 0) ((1 * ((1 * r 7 + 0) + 0) + 0) + 0) ((1 * ((1 * r 10 + 0) + 0) + 0) + 0) ((1 * ((1 * r 13 + 0) + 0) + 0) + 0) ((1 * ((1 * r 16 + 0) + 0) + 0) + 0)) ≠ 0 ∧ (0 ≤ ((1 * r 1 + 0) + 0) ∧ ((1 * r 1 + 0) + 0) + 2 * ((1 * r 2 + 0) + 0) - 2 < (yq_at ((1 * r 0 + 0) + 0) ((1 * ((1 * r 9 + 0) + 0) + 0) + 0) ((1 * ((1 * r 12 + 0) + 0) + 0) + 0) ((1 * ((1 * r 15 + 0) + 0) + 0) + 0) ((1 * ((1 * r 18 + 0) + 0) + 0) + 0))) ∧ (yq_nr (yq_fat ((1 * r 0 + 0) + 0) (g0 8) (g0 10) (g0 12) (g0 14)) ((1 * r 1 + 0) + 0) (yq_at ((1 * r 0 + 0) + 0) ((1 * ((1 * r 9 + 0) + 0) + 0) + 0) ((1 * ((1 * r 12 + 0) + 0) + 0) + 0) ((1 * ((1 * r 15 + 0) + 0) + 0) + 0) ((1 * ((1 * r 18 + 0) + 0) + 0) + 0)) (2 * ((1 * r 2 + 0) + 0)).toNat) = 1 ∧ ((1 * ((1 * r 5 + 0) + 0) + 0) + 0) = ((1 * ((1 * r 5 + 0) + 0) + 0) + 0) + ((1 * ((0 : Int) + 0) + 0) + 0) ∧ ((1 * ((0 : Int) + 0) + 0) + 0) ≤ ((1 * r 2 + 0) + 0) ∧ (g 2) = yq_ap (((1 * ((1 * r 5 + 0) + 0) + 0) + 0) + ((1 * ((0 : Int) + 0) + 0) + 0)) ((1 * ((1 * r 5 + 0) + 0) + 0) + 0) (yq_vx (yq_fat ((1 * r 0 + 0) + 0) (g0 8) (g0 10) (g0 12) (g0 14)) (yq_at ((1 * r 0 + 0) + 0) ((1 * ((1 * r 9 + 0) + 0) + 0) + 0) ((1 * ((1 * r 12 + 0) + 0) + 0) + 0) ((1 * ((1 * r 15 + 0) + 0) + 0) + 0) ((1 * ((1 * r 18 + 0) + 0) + 0) + 0)) ((1 * r 1 + 0) + 0) ((1 * ((1 * r 5 + 0) + 0) + 0) + 0) 0) (g0 2) ∧ (g 3) = yq_ap (((1 * ((1 * r 5 + 0) + 0) + 0) + 0) + ((1 * ((0 : Int) + 0) + 0) + 0)) ((1 * ((1 * r 5 + 0) + 0) + 0) + 0) (yq_vx (yq_fat ((1 * r 0 + 0) + 0) (g0 8) (g0 10) (g0 12) (g0 14)) (yq_at ((1 * r 0 + 0) + 0) ((1 * ((1 * r 9 + 0) + 0) + 0) + 0) ((1 * ((1 * r 12 + 0) + 0) + 0) + 0) ((1 * ((1 * r 15 + 0) + 0) + 0) + 0) ((1 * ((1 * r 18 + 0) + 0) + 0) + 0)) ((1 * r 1 + 0) + 0) ((1 * ((1 * r 5 + 0) + 0) + 0) + 0) 1) (g0 3) ∧ (g 4) = yq_ap (((1 * ((1 * r 5 + 0) + 0) + 0) + 0) + ((1 * ((0 : Int) + 0) + 0) + 0)) ((1 * ((1 * r 5 + 0) + 0) + 0) + 0) (yq_ct ((1 * r 3 + 0) + 0)) (g0 4) ∧ (g 5) = yq_ap (((1 * ((1 * r 5 + 0) + 0) + 0) + 0) + ((1 * ((0 : Int) + 0) + 0) + 0)) ((1 * ((1 * r 5 + 0) + 0) + 0) + 0) (yq_ct 1) (g0 5)) ∧ ((1 * ((1 * r 6 + 0) + 0) + 0) + 0) = ye_wr ((1 * ((1 * r 6 + 0) + 0) + 0) + 0) ((1 * ((0 : Int) + 0) + 0) + 0)
    try simp only [Int.one_mul, Int.zero_add, Int.add_zero]
    refine ⟨?_, ?_⟩
    · try simp only [Int.one_mul, Int.zero_add, Int.add_zero] at e0
      rw [hgi] at e0
      rw [show r 0 = 3 by omega]
      simp only [yq_at3, yq_fat3]
      refine ⟨?_, ?_, ?_, ?_, ?_, ?_, ?_, ?_, ?_⟩
      · omega
      · omega
      · exact e0
      · omega
      · omega
      · rw [k0 2 (by decide), hgi]
        exact yq_ap_0 (by omega)
      · rw [k0 3 (by decide), hgi]
        exact yq_ap_0 (by omega)
      · rw [k0 4 (by decide), hgi]
        exact yq_ap_0 (by omega)
      · rw [k0 5 (by decide), hgi]
        exact yq_ap_0 (by omega)
    · exact (ye_w0 (by omega) (by omega)).symm.trans (congrArg (ye_wr _) (show (0 : Int) = _ by omega))
theorem xw_155_0_27 : yt_hold xT_155 xk_155 xq_155.2.2.1 xG_155 xP_155 xU_155 19 xk_155.2.1.2.2.2 (fun g0 r g => xR_155 r g0 ∧ g = g0) (1000, ([(3, 3), (0, 99), (1, 40), (1, 1), ((-2147483648), 2147483647), (1, 40), ((-2147483648), 2147483647), (0, 1), ((-2147483648), 2147483647), (0, 100), (0, 1), ((-2147483648), 2147483647), (0, 100), (0, 1), ((-2147483648), 2147483647), (0, 100), (1, 1), ((-2147483648), 2147483647), (1, 100), ((-2147483648), 0)], [([(2, 1), (5, 1)], (-41)), ([(18, 1), (1, (-1)), (2, (-2))], 1)]), [([], (-5)), ([(19, 1)], 0), ([(5, 1)], 0), ([(6, 1)], 0)], [], [.inr (.inr (.inl (118, 1, [([(1, 1)], 0), ([(2, 1)], 0), ([(16, 1)], 0), ([(17, 1)], 0), ([(18, 1)], 0)], [13, 14], [])))]) := by
  intro g0 r gi g hok hh hars hfr hG
  have b0 : 3 ≤ r 0 ∧ r 0 ≤ 3 := hok.1 0 (3, 3) rfl
  have b1 : 0 ≤ r 1 ∧ r 1 ≤ 99 := hok.1 1 (0, 99) rfl
  have b2 : 1 ≤ r 2 ∧ r 2 ≤ 40 := hok.1 2 (1, 40) rfl
  have b3 : 1 ≤ r 3 ∧ r 3 ≤ 1 := hok.1 3 (1, 1) rfl
  have b4 : (-2147483648) ≤ r 4 ∧ r 4 ≤ 2147483647 := hok.1 4 ((-2147483648), 2147483647) rfl
  have b5 : 1 ≤ r 5 ∧ r 5 ≤ 40 := hok.1 5 (1, 40) rfl
  have b6 : (-2147483648) ≤ r 6 ∧ r 6 ≤ 2147483647 := hok.1 6 ((-2147483648), 2147483647) rfl
  have b7 : 0 ≤ r 7 ∧ r 7 ≤ 1 := hok.1 7 (0, 1) rfl
  have b8 : (-2147483648) ≤ r 8 ∧ r 8 ≤ 2147483647 := hok.1 8 ((-2147483648), 2147483647) rfl
  have b9 : 0 ≤ r 9 ∧ r 9 ≤ 100 := hok.1 9 (0, 100) rfl
  have b10 : 0 ≤ r 10 ∧ r 10 ≤ 1 := hok.1 10 (0, 1) rfl
  have b11 : (-2147483648) ≤ r 11 ∧ r 11 ≤ 2147483647 := hok.1 11 ((-2147483648), 2147483647) rfl
  have b12 : 0 ≤ r 12 ∧ r 12 ≤ 100 := hok.1 12 (0, 100) rfl
  have b13 : 0 ≤ r 13 ∧ r 13 ≤ 1 := hok.1 13 (0, 1) rfl
  have b14 : (-2147483648) ≤ r 14 ∧ r 14 ≤ 2147483647 := hok.1 14 ((-2147483648), 2147483647) rfl
  have b15 : 0 ≤ r 15 ∧ r 15 ≤ 100 := hok.1 15 (0, 100) rfl
  have b16 : 1 ≤ r 16 ∧ r 16 ≤ 1 := hok.1 16 (1, 1) rfl
  have b17 : (-2147483648) ≤ r 17 ∧ r 17 ≤ 2147483647 := hok.1 17 ((-2147483648), 2147483647) rfl
  have b18 : 1 ≤ r 18 ∧ r 18 ≤ 100 := hok.1 18 (1, 100) rfl
  have b19 : (-2147483648) ≤ r 19 ∧ r 19 ≤ 0 := hok.1 19 ((-2147483648), 0) rfl
  have f0 : 0 ≤ ((1 * r 2 + (1 * r 5 + 0)) + (-41)) := hok.2 _ (List.mem_of_getElem? (i := 0) rfl)
  have f1 : 0 ≤ ((1 * r 18 + ((-1) * r 1 + ((-2) * r 2 + 0))) + 1) := hok.2 _ (List.mem_of_getElem? (i := 1) rfl)
  obtain ⟨hG, hgi⟩ := hG
  have hG : True := hG
  obtain ⟨h0, hh, e0, k0⟩ := hh
  have k0 : ∀ j, j ∉ [] → g j = h0 j := k0
  have e0 : yq_nr (h0 14) ((1 * r 1 + 0) + 0) ((1 * r 18 + 0) + 0) (2 * ((1 * r 2 + 0) + 0)).toNat = 1 := e0
  have hh : h0 = gi := hh
  subst hh
  refine yt_dalt (by decide) (by decide) ?_
  rw [show xk_155.2.1.2.1.1.length = 19 from rfl]
  show ((((0 : Int) + (-5)) = yq_tr ((1 * r 0 + 0) + 0) ((1 * r 1 + 0) + 0) ((1 * r 2 + 0) + 0) ((1 * r 3 + 0) + 0) (yq_at ((1 * r 0 + 0) + 0) ((1 * ((1 * r 7 + 0) + 0) + 0) + 0) ((1 * ((1 * r 10 + 0) + 0) + 0) + 0) ((1 * ((1 * r 13 + 0) + 0) + 0) + 0) ((1 * ((1 * r 16 + 0) + 0) + 0) + 0)) (yq_at ((1 * r 0 + 0) + 0) ((1 * ((1 * r 9 + 0) + 0) + 0) + 0) ((1 * ((1 * r 12 + 0) + 0) + 0) + 0) ((1 * ((1 * r 15 + 0) + 0) + 0) + 0) ((1 * ((1 * r 18 + 0) + 0) + 0) + 0)) (yq_nr (yq_fat ((1 * r 0 + 0) + 0) (g0 8) (g0 10) (g0 12) (g0 14)) ((1 * r 1 + 0) + 0) (yq_at ((1 * r 0 + 0) + 0) ((1 * ((1 * r 9 + 0) + 0) + 0) + 0) ((1 * ((1 * r 12 + 0) + 0) + 0) + 0) ((1 * ((1 * r 15 + 0) + 0) + 0) + 0) ((1 * ((1 * r 18 + 0) + 0) + 0) + 0)) (2 * ((1 * r 2 + 0) + 0)).toNat) ((1 * ((1 * r 5 + 0) + 0) + 0) + 0) ∧ ((1 * ((1 * r 5 + 0) + 0) + 0) + 0) = yq_tn ((0 : Int) + (-5)) ((1 * ((1 * r 5 + 0) + 0) + 0) + 0)) ∧ (g 2) = yq_ap ((1 * ((1 * r 5 + 0) + 0) + 0) + 0) ((1 * ((1 * r 5 + 0) + 0) + 0) + 0) (yq_vx (yq_fat ((1 * r 0 + 0) + 0) (g0 8) (g0 10) (g0 12) (g0 14)) (yq_at ((1 * r 0 + 0) + 0) ((1 * ((1 * r 9 + 0) + 0) + 0) + 0) ((1 * ((1 * r 12 + 0) + 0) + 0) + 0) ((1 * ((1 * r 15 + 0) + 0) + 0) + 0) ((1 * ((1 * r 18 + 0) + 0) + 0) + 0)) ((1 * r 1 + 0) + 0) ((1 * ((1 * r 5 + 0) + 0) + 0) + 0) 0) (g0 2) ∧ (g 3) = yq_ap ((1 * ((1 * r 5 + 0) + 0) + 0) + 0) ((1 * ((1 * r 5 + 0) + 0) + 0) + 0) (yq_vx (yq_fat ((1 * r 0 + 0) + 0) (g0 8) (g0 10) (g0 12) (g0 14)) (yq_at ((1 * r 0 + 0) + 0) ((1 * ((1 * r 9 + 0) + 0) + 0) + 0) ((1 * ((1 * r 12 + 0) + 0) + 0) + 0) ((1 * ((1 * r 15 + 0) + 0) + 0) + 0) ((1 * ((1 * r 18 + 0) + 0) + 0) + 0)) ((1 * r 1 + 0) + 0) ((1 * ((1 * r 5 + 0) + 0) + 0) + 0) 1) (g0 3) ∧ (g 4) = yq_ap ((1 * ((1 * r 5 + 0) + 0) + 0) + 0) ((1 * ((1 * r 5 + 0) + 0) + 0) + 0) (yq_ct ((1 * r 3 + 0) + 0)) (g0 4) ∧ (g 5) = yq_ap ((1 * ((1 * r 5 + 0) + 0) + 0) + 0) ((1 * ((1 * r 5 + 0) + 0) + 0) + 0) (yq_ct 1) (g0 5)) ∧ ((1 * ((1 * r 6 + 0) + 0) + 0) + 0) = ye_wr ((1 * ((1 * r 6 + 0) + 0) + 0) + 0) (((1 * ((1 * r 5 + 0) + 0) + 0) + 0) - ((1 * ((1 * r 5 + 0) + 0) + 0) + 0))
  try simp only [Int.one_mul, Int.zero_add, Int.add_zero]
  refine ⟨?_, ?_⟩
  · try simp only [Int.one_mul, Int.zero_add, Int.add_zero] at e0
    rw [hgi] at e0
    refine ⟨?_, ?_⟩
    · refine ⟨?_, ?_⟩
      · rw [show r 0 = 3 by omega]
        simp only [yq_at3, yq_fat3]
        unfold yq_tr
        repeat' split
        all_goals omega
      · unfold yq_tn
        repeat' split
        all_goals omega
    · refine ⟨?_, ?_, ?_, ?_⟩
      · rw [k0 2 (by decide), hgi]
        exact yq_ap_0 (by omega)
      · rw [k0 3 (by decide), hgi]
        exact yq_ap_0 (by omega)
      · rw [k0 4 (by decide), hgi]
        exact yq_ap_0 (by omega)
      · rw [k0 5 (by decide), hgi]
        exact yq_ap_0 (by omega)
  · exact (ye_w0 (by omega) (by omega)).symm.trans (congrArg (ye_wr _) (show (0 : Int) = _ by omega))
theorem xw_155_0_28 : yt_hold xT_155 xk_155 xq_155.2.2.1 xG_155 xP_155 xU_155 19 xk_155.2.1.2.2.2 (fun g0 r g => xR_155 r g0 ∧ g = g0) (1000, ([(3, 3), ((-2147483648), 2147483647), (1, 40), (1, 1), ((-2147483648), 2147483647), (0, 40), ((-2147483648), 2147483647), (0, 1), ((-2147483648), 2147483647), (0, 100), (0, 1), ((-2147483648), 2147483647), (0, 100), (0, 1), ((-2147483648), 2147483647), (0, 100), (0, 0), ((-2147483648), 2147483647), (0, 100), ((-2147483648), 0)], []), [([], (-2)), ([(19, 1)], 0), ([(5, 1)], 0), ([(6, 1)], 0)], [], []) := by
  intro g0 r gi g hok hh hars hfr hG
  have b0 : 3 ≤ r 0 ∧ r 0 ≤ 3 := hok.1 0 (3, 3) rfl
  have b1 : (-2147483648) ≤ r 1 ∧ r 1 ≤ 2147483647 := hok.1 1 ((-2147483648), 2147483647) rfl
  have b2 : 1 ≤ r 2 ∧ r 2 ≤ 40 := hok.1 2 (1, 40) rfl
  have b3 : 1 ≤ r 3 ∧ r 3 ≤ 1 := hok.1 3 (1, 1) rfl
  have b4 : (-2147483648) ≤ r 4 ∧ r 4 ≤ 2147483647 := hok.1 4 ((-2147483648), 2147483647) rfl
  have b5 : 0 ≤ r 5 ∧ r 5 ≤ 40 := hok.1 5 (0, 40) rfl
  have b6 : (-2147483648) ≤ r 6 ∧ r 6 ≤ 2147483647 := hok.1 6 ((-2147483648), 2147483647) rfl
  have b7 : 0 ≤ r 7 ∧ r 7 ≤ 1 := hok.1 7 (0, 1) rfl
  have b8 : (-2147483648) ≤ r 8 ∧ r 8 ≤ 2147483647 := hok.1 8 ((-2147483648), 2147483647) rfl
  have b9 : 0 ≤ r 9 ∧ r 9 ≤ 100 := hok.1 9 (0, 100) rfl
  have b10 : 0 ≤ r 10 ∧ r 10 ≤ 1 := hok.1 10 (0, 1) rfl
  have b11 : (-2147483648) ≤ r 11 ∧ r 11 ≤ 2147483647 := hok.1 11 ((-2147483648), 2147483647) rfl
  have b12 : 0 ≤ r 12 ∧ r 12 ≤ 100 := hok.1 12 (0, 100) rfl
  have b13 : 0 ≤ r 13 ∧ r 13 ≤ 1 := hok.1 13 (0, 1) rfl
  have b14 : (-2147483648) ≤ r 14 ∧ r 14 ≤ 2147483647 := hok.1 14 ((-2147483648), 2147483647) rfl
  have b15 : 0 ≤ r 15 ∧ r 15 ≤ 100 := hok.1 15 (0, 100) rfl
  have b16 : 0 ≤ r 16 ∧ r 16 ≤ 0 := hok.1 16 (0, 0) rfl
  have b17 : (-2147483648) ≤ r 17 ∧ r 17 ≤ 2147483647 := hok.1 17 ((-2147483648), 2147483647) rfl
  have b18 : 0 ≤ r 18 ∧ r 18 ≤ 100 := hok.1 18 (0, 100) rfl
  have b19 : (-2147483648) ≤ r 19 ∧ r 19 ≤ 0 := hok.1 19 ((-2147483648), 0) rfl
  obtain ⟨hG, hgi⟩ := hG
  have hG : True := hG
  have hh : g = gi := hh
  subst hh
  refine yt_dalt (by decide) (by decide) ?_
  rw [show xk_155.2.1.2.1.1.length = 19 from rfl]
  show ((((0 : Int) + (-2)) = yq_tr ((1 * r 0 + 0) + 0) ((1 * r 1 + 0) + 0) ((1 * r 2 + 0) + 0) ((1 * r 3 + 0) + 0) (yq_at ((1 * r 0 + 0) + 0) ((1 * ((1 * r 7 + 0) + 0) + 0) + 0) ((1 * ((1 * r 10 + 0) + 0) + 0) + 0) ((1 * ((1 * r 13 + 0) + 0) + 0) + 0) ((1 * ((1 * r 16 + 0) + 0) + 0) + 0)) (yq_at ((1 * r 0 + 0) + 0) ((1 * ((1 * r 9 + 0) + 0) + 0) + 0) ((1 * ((1 * r 12 + 0) + 0) + 0) + 0) ((1 * ((1 * r 15 + 0) + 0) + 0) + 0) ((1 * ((1 * r 18 + 0) + 0) + 0) + 0)) (yq_nr (yq_fat ((1 * r 0 + 0) + 0) (g0 8) (g0 10) (g0 12) (g0 14)) ((1 * r 1 + 0) + 0) (yq_at ((1 * r 0 + 0) + 0) ((1 * ((1 * r 9 + 0) + 0) + 0) + 0) ((1 * ((1 * r 12 + 0) + 0) + 0) + 0) ((1 * ((1 * r 15 + 0) + 0) + 0) + 0) ((1 * ((1 * r 18 + 0) + 0) + 0) + 0)) (2 * ((1 * r 2 + 0) + 0)).toNat) ((1 * ((1 * r 5 + 0) + 0) + 0) + 0) ∧ ((1 * ((1 * r 5 + 0) + 0) + 0) + 0) = yq_tn ((0 : Int) + (-2)) ((1 * ((1 * r 5 + 0) + 0) + 0) + 0)) ∧ (g 2) = yq_ap ((1 * ((1 * r 5 + 0) + 0) + 0) + 0) ((1 * ((1 * r 5 + 0) + 0) + 0) + 0) (yq_vx (yq_fat ((1 * r 0 + 0) + 0) (g0 8) (g0 10) (g0 12) (g0 14)) (yq_at ((1 * r 0 + 0) + 0) ((1 * ((1 * r 9 + 0) + 0) + 0) + 0) ((1 * ((1 * r 12 + 0) + 0) + 0) + 0) ((1 * ((1 * r 15 + 0) + 0) + 0) + 0) ((1 * ((1 * r 18 + 0) + 0) + 0) + 0)) ((1 * r 1 + 0) + 0) ((1 * ((1 * r 5 + 0) + 0) + 0) + 0) 0) (g0 2) ∧ (g 3) = yq_ap ((1 * ((1 * r 5 + 0) + 0) + 0) + 0) ((1 * ((1 * r 5 + 0) + 0) + 0) + 0) (yq_vx (yq_fat ((1 * r 0 + 0) + 0) (g0 8) (g0 10) (g0 12) (g0 14)) (yq_at ((1 * r 0 + 0) + 0) ((1 * ((1 * r 9 + 0) + 0) + 0) + 0) ((1 * ((1 * r 12 + 0) + 0) + 0) + 0) ((1 * ((1 * r 15 + 0) + 0) + 0) + 0) ((1 * ((1 * r 18 + 0) + 0) + 0) + 0)) ((1 * r 1 + 0) + 0) ((1 * ((1 * r 5 + 0) + 0) + 0) + 0) 1) (g0 3) ∧ (g 4) = yq_ap ((1 * ((1 * r 5 + 0) + 0) + 0) + 0) ((1 * ((1 * r 5 + 0) + 0) + 0) + 0) (yq_ct ((1 * r 3 + 0) + 0)) (g0 4) ∧ (g 5) = yq_ap ((1 * ((1 * r 5 + 0) + 0) + 0) + 0) ((1 * ((1 * r 5 + 0) + 0) + 0) + 0) (yq_ct 1) (g0 5)) ∧ ((1 * ((1 * r 6 + 0) + 0) + 0) + 0) = ye_wr ((1 * ((1 * r 6 + 0) + 0) + 0) + 0) (((1 * ((1 * r 5 + 0) + 0) + 0) + 0) - ((1 * ((1 * r 5 + 0) + 0) + 0) + 0))
  try simp only [Int.one_mul, Int.zero_add, Int.add_zero]
  refine ⟨?_, ?_⟩
  · refine ⟨?_, ?_⟩
    · refine ⟨?_, ?_⟩
      · rw [show r 0 = 3 by omega]
        simp only [yq_at3, yq_fat3]
        unfold yq_tr
        repeat' split
        all_goals omega
      · unfold yq_tn
        repeat' split
        all_goals omega
    · refine ⟨?_, ?_, ?_, ?_⟩
      · rw [hgi]
        exact yq_ap_0 (by omega)
      · rw [hgi]
        exact yq_ap_0 (by omega)
      · rw [hgi]
        exact yq_ap_0 (by omega)
      · rw [hgi]
        exact yq_ap_0 (by omega)
  · exact (ye_w0 (by omega) (by omega)).symm.trans (congrArg (ye_wr _) (show (0 : Int) = _ by omega))
theorem xw_155_0_29 : yt_hold xT_155 xk_155 xq_155.2.2.1 xG_155 xP_155 xU_155 19 xk_155.2.1.2.2.2 (fun g0 r g => xR_155 r g0 ∧ g = g0) (1000, ([(0, 3), ((-2147483648), 2147483647), (41, 2147483647), (1, 1), ((-2147483648), 2147483647), (0, 40), ((-2147483648), 2147483647), (0, 1), ((-2147483648), 2147483647), (0, 100), (0, 1), ((-2147483648), 2147483647), (0, 100), (0, 1), ((-2147483648), 2147483647), (0, 100), (0, 1), ((-2147483648), 2147483647), (0, 100), ((-2147483648), 0)], []), [([], (-1)), ([(19, 1)], 0), ([(5, 1)], 0), ([(6, 1)], 0)], [], []) := by
  intro g0 r gi g hok hh hars hfr hG
  have b0 : 0 ≤ r 0 ∧ r 0 ≤ 3 := hok.1 0 (0, 3) rfl
  have b1 : (-2147483648) ≤ r 1 ∧ r 1 ≤ 2147483647 := hok.1 1 ((-2147483648), 2147483647) rfl
  have b2 : 41 ≤ r 2 ∧ r 2 ≤ 2147483647 := hok.1 2 (41, 2147483647) rfl
  have b3 : 1 ≤ r 3 ∧ r 3 ≤ 1 := hok.1 3 (1, 1) rfl
  have b4 : (-2147483648) ≤ r 4 ∧ r 4 ≤ 2147483647 := hok.1 4 ((-2147483648), 2147483647) rfl
  have b5 : 0 ≤ r 5 ∧ r 5 ≤ 40 := hok.1 5 (0, 40) rfl
  have b6 : (-2147483648) ≤ r 6 ∧ r 6 ≤ 2147483647 := hok.1 6 ((-2147483648), 2147483647) rfl
  have b7 : 0 ≤ r 7 ∧ r 7 ≤ 1 := hok.1 7 (0, 1) rfl
  have b8 : (-2147483648) ≤ r 8 ∧ r 8 ≤ 2147483647 := hok.1 8 ((-2147483648), 2147483647) rfl
  have b9 : 0 ≤ r 9 ∧ r 9 ≤ 100 := hok.1 9 (0, 100) rfl
  have b10 : 0 ≤ r 10 ∧ r 10 ≤ 1 := hok.1 10 (0, 1) rfl
  have b11 : (-2147483648) ≤ r 11 ∧ r 11 ≤ 2147483647 := hok.1 11 ((-2147483648), 2147483647) rfl
  have b12 : 0 ≤ r 12 ∧ r 12 ≤ 100 := hok.1 12 (0, 100) rfl
  have b13 : 0 ≤ r 13 ∧ r 13 ≤ 1 := hok.1 13 (0, 1) rfl
  have b14 : (-2147483648) ≤ r 14 ∧ r 14 ≤ 2147483647 := hok.1 14 ((-2147483648), 2147483647) rfl
  have b15 : 0 ≤ r 15 ∧ r 15 ≤ 100 := hok.1 15 (0, 100) rfl
  have b16 : 0 ≤ r 16 ∧ r 16 ≤ 1 := hok.1 16 (0, 1) rfl
  have b17 : (-2147483648) ≤ r 17 ∧ r 17 ≤ 2147483647 := hok.1 17 ((-2147483648), 2147483647) rfl
  have b18 : 0 ≤ r 18 ∧ r 18 ≤ 100 := hok.1 18 (0, 100) rfl
  have b19 : (-2147483648) ≤ r 19 ∧ r 19 ≤ 0 := hok.1 19 ((-2147483648), 0) rfl
  obtain ⟨hG, hgi⟩ := hG
  have hG : True := hG
  have hh : g = gi := hh
  subst hh
  refine yt_dalt (by decide) (by decide) ?_
  rw [show xk_155.2.1.2.1.1.length = 19 from rfl]
  show ((((0 : Int) + (-1)) = yq_tr ((1 * r 0 + 0) + 0) ((1 * r 1 + 0) + 0) ((1 * r 2 + 0) + 0) ((1 * r 3 + 0) + 0) (yq_at ((1 * r 0 + 0) + 0) ((1 * ((1 * r 7 + 0) + 0) + 0) + 0) ((1 * ((1 * r 10 + 0) + 0) + 0) + 0) ((1 * ((1 * r 13 + 0) + 0) + 0) + 0) ((1 * ((1 * r 16 + 0) + 0) + 0) + 0)) (yq_at ((1 * r 0 + 0) + 0) ((1 * ((1 * r 9 + 0) + 0) + 0) + 0) ((1 * ((1 * r 12 + 0) + 0) + 0) + 0) ((1 * ((1 * r 15 + 0) + 0) + 0) + 0) ((1 * ((1 * r 18 + 0) + 0) + 0) + 0)) (yq_nr (yq_fat ((1 * r 0 + 0) + 0) (g0 8) (g0 10) (g0 12) (g0 14)) ((1 * r 1 + 0) + 0) (yq_at ((1 * r 0 + 0) + 0) ((1 * ((1 * r 9 + 0) + 0) + 0) + 0) ((1 * ((1 * r 12 + 0) + 0) + 0) + 0) ((1 * ((1 * r 15 + 0) + 0) + 0) + 0) ((1 * ((1 * r 18 + 0) + 0) + 0) + 0)) (2 * ((1 * r 2 + 0) + 0)).toNat) ((1 * ((1 * r 5 + 0) + 0) + 0) + 0) ∧ ((1 * ((1 * r 5 + 0) + 0) + 0) + 0) = yq_tn ((0 : Int) + (-1)) ((1 * ((1 * r 5 + 0) + 0) + 0) + 0)) ∧ (g 2) = yq_ap ((1 * ((1 * r 5 + 0) + 0) + 0) + 0) ((1 * ((1 * r 5 + 0) + 0) + 0) + 0) (yq_vx (yq_fat ((1 * r 0 + 0) + 0) (g0 8) (g0 10) (g0 12) (g0 14)) (yq_at ((1 * r 0 + 0) + 0) ((1 * ((1 * r 9 + 0) + 0) + 0) + 0) ((1 * ((1 * r 12 + 0) + 0) + 0) + 0) ((1 * ((1 * r 15 + 0) + 0) + 0) + 0) ((1 * ((1 * r 18 + 0) + 0) + 0) + 0)) ((1 * r 1 + 0) + 0) ((1 * ((1 * r 5 + 0) + 0) + 0) + 0) 0) (g0 2) ∧ (g 3) = yq_ap ((1 * ((1 * r 5 + 0) + 0) + 0) + 0) ((1 * ((1 * r 5 + 0) + 0) + 0) + 0) (yq_vx (yq_fat ((1 * r 0 + 0) + 0) (g0 8) (g0 10) (g0 12) (g0 14)) (yq_at ((1 * r 0 + 0) + 0) ((1 * ((1 * r 9 + 0) + 0) + 0) + 0) ((1 * ((1 * r 12 + 0) + 0) + 0) + 0) ((1 * ((1 * r 15 + 0) + 0) + 0) + 0) ((1 * ((1 * r 18 + 0) + 0) + 0) + 0)) ((1 * r 1 + 0) + 0) ((1 * ((1 * r 5 + 0) + 0) + 0) + 0) 1) (g0 3) ∧ (g 4) = yq_ap ((1 * ((1 * r 5 + 0) + 0) + 0) + 0) ((1 * ((1 * r 5 + 0) + 0) + 0) + 0) (yq_ct ((1 * r 3 + 0) + 0)) (g0 4) ∧ (g 5) = yq_ap ((1 * ((1 * r 5 + 0) + 0) + 0) + 0) ((1 * ((1 * r 5 + 0) + 0) + 0) + 0) (yq_ct 1) (g0 5)) ∧ ((1 * ((1 * r 6 + 0) + 0) + 0) + 0) = ye_wr ((1 * ((1 * r 6 + 0) + 0) + 0) + 0) (((1 * ((1 * r 5 + 0) + 0) + 0) + 0) - ((1 * ((1 * r 5 + 0) + 0) + 0) + 0))
  try simp only [Int.one_mul, Int.zero_add, Int.add_zero]
  refine ⟨?_, ?_⟩
  · refine ⟨?_, ?_⟩
    · refine ⟨?_, ?_⟩
      · unfold yq_tr
        rw [if_neg (by omega)] <;> omega
      · unfold yq_tn
        repeat' split
        all_goals omega
    · refine ⟨?_, ?_, ?_, ?_⟩
      · rw [hgi]
        exact yq_ap_0 (by omega)
      · rw [hgi]
        exact yq_ap_0 (by omega)
      · rw [hgi]
        exact yq_ap_0 (by omega)
      · rw [hgi]
        exact yq_ap_0 (by omega)
  · exact (ye_w0 (by omega) (by omega)).symm.trans (congrArg (ye_wr _) (show (0 : Int) = _ by omega))
theorem xw_155_0_30 : yt_hold xT_155 xk_155 xq_155.2.2.1 xG_155 xP_155 xU_155 19 xk_155.2.1.2.2.2 (fun g0 r g => xR_155 r g0 ∧ g = g0) (1000, ([(0, 3), ((-2147483648), 2147483647), ((-2147483648), 0), (0, 0), ((-2147483648), 2147483647), (0, 40), ((-2147483648), 2147483647), (0, 1), ((-2147483648), 2147483647), (0, 100), (0, 1), ((-2147483648), 2147483647), (0, 100), (0, 1), ((-2147483648), 2147483647), (0, 100), (0, 1), ((-2147483648), 2147483647), (0, 100), ((-2147483648), 0)], []), [([], (-1)), ([(19, 1)], 0), ([(5, 1)], 0), ([(6, 1)], 0)], [], []) := by
  intro g0 r gi g hok hh hars hfr hG
  have b0 : 0 ≤ r 0 ∧ r 0 ≤ 3 := hok.1 0 (0, 3) rfl
  have b1 : (-2147483648) ≤ r 1 ∧ r 1 ≤ 2147483647 := hok.1 1 ((-2147483648), 2147483647) rfl
  have b2 : (-2147483648) ≤ r 2 ∧ r 2 ≤ 0 := hok.1 2 ((-2147483648), 0) rfl
  have b3 : 0 ≤ r 3 ∧ r 3 ≤ 0 := hok.1 3 (0, 0) rfl
  have b4 : (-2147483648) ≤ r 4 ∧ r 4 ≤ 2147483647 := hok.1 4 ((-2147483648), 2147483647) rfl
  have b5 : 0 ≤ r 5 ∧ r 5 ≤ 40 := hok.1 5 (0, 40) rfl
  have b6 : (-2147483648) ≤ r 6 ∧ r 6 ≤ 2147483647 := hok.1 6 ((-2147483648), 2147483647) rfl
  have b7 : 0 ≤ r 7 ∧ r 7 ≤ 1 := hok.1 7 (0, 1) rfl
  have b8 : (-2147483648) ≤ r 8 ∧ r 8 ≤ 2147483647 := hok.1 8 ((-2147483648), 2147483647) rfl
  have b9 : 0 ≤ r 9 ∧ r 9 ≤ 100 := hok.1 9 (0, 100) rfl
  have b10 : 0 ≤ r 10 ∧ r 10 ≤ 1 := hok.1 10 (0, 1) rfl
  have b11 : (-2147483648) ≤ r 11 ∧ r 11 ≤ 2147483647 := hok.1 11 ((-2147483648), 2147483647) rfl
  have b12 : 0 ≤ r 12 ∧ r 12 ≤ 100 := hok.1 12 (0, 100) rfl
  have b13 : 0 ≤ r 13 ∧ r 13 ≤ 1 := hok.1 13 (0, 1) rfl
  have b14 : (-2147483648) ≤ r 14 ∧ r 14 ≤ 2147483647 := hok.1 14 ((-2147483648), 2147483647) rfl
  have b15 : 0 ≤ r 15 ∧ r 15 ≤ 100 := hok.1 15 (0, 100) rfl
  have b16 : 0 ≤ r 16 ∧ r 16 ≤ 1 := hok.1 16 (0, 1) rfl
  have b17 : (-2147483648) ≤ r 17 ∧ r 17 ≤ 2147483647 := hok.1 17 ((-2147483648), 2147483647) rfl
  have b18 : 0 ≤ r 18 ∧ r 18 ≤ 100 := hok.1 18 (0, 100) rfl
  have b19 : (-2147483648) ≤ r 19 ∧ r 19 ≤ 0 := hok.1 19 ((-2147483648), 0) rfl
  obtain ⟨hG, hgi⟩ := hG
  have hG : True := hG
  have hh : g = gi := hh
  subst hh
  refine yt_dalt (by decide) (by decide) ?_
  rw [show xk_155.2.1.2.1.1.length = 19 from rfl]
  show ((((0 : Int) + (-1)) = yq_tr ((1 * r 0 + 0) + 0) ((1 * r 1 + 0) + 0) ((1 * r 2 + 0) + 0) ((1 * r 3 + 0) + 0) (yq_at ((1 * r 0 + 0) + 0) ((1 * ((1 * r 7 + 0) + 0) + 0) + 0) ((1 * ((1 * r 10 + 0) + 0) + 0) + 0) ((1 * ((1 * r 13 + 0) + 0) + 0) + 0) ((1 * ((1 * r 16 + 0) + 0) + 0) + 0)) (yq_at ((1 * r 0 + 0) + 0) ((1 * ((1 * r 9 + 0) + 0) + 0) + 0) ((1 * ((1 * r 12 + 0) + 0) + 0) + 0) ((1 * ((1 * r 15 + 0) + 0) + 0) + 0) ((1 * ((1 * r 18 + 0) + 0) + 0) + 0)) (yq_nr (yq_fat ((1 * r 0 + 0) + 0) (g0 8) (g0 10) (g0 12) (g0 14)) ((1 * r 1 + 0) + 0) (yq_at ((1 * r 0 + 0) + 0) ((1 * ((1 * r 9 + 0) + 0) + 0) + 0) ((1 * ((1 * r 12 + 0) + 0) + 0) + 0) ((1 * ((1 * r 15 + 0) + 0) + 0) + 0) ((1 * ((1 * r 18 + 0) + 0) + 0) + 0)) (2 * ((1 * r 2 + 0) + 0)).toNat) ((1 * ((1 * r 5 + 0) + 0) + 0) + 0) ∧ ((1 * ((1 * r 5 + 0) + 0) + 0) + 0) = yq_tn ((0 : Int) + (-1)) ((1 * ((1 * r 5 + 0) + 0) + 0) + 0)) ∧ (g 2) = yq_ap ((1 * ((1 * r 5 + 0) + 0) + 0) + 0) ((1 * ((1 * r 5 + 0) + 0) + 0) + 0) (yq_vx (yq_fat ((1 * r 0 + 0) + 0) (g0 8) (g0 10) (g0 12) (g0 14)) (yq_at ((1 * r 0 + 0) + 0) ((1 * ((1 * r 9 + 0) + 0) + 0) + 0) ((1 * ((1 * r 12 + 0) + 0) + 0) + 0) ((1 * ((1 * r 15 + 0) + 0) + 0) + 0) ((1 * ((1 * r 18 + 0) + 0) + 0) + 0)) ((1 * r 1 + 0) + 0) ((1 * ((1 * r 5 + 0) + 0) + 0) + 0) 0) (g0 2) ∧ (g 3) = yq_ap ((1 * ((1 * r 5 + 0) + 0) + 0) + 0) ((1 * ((1 * r 5 + 0) + 0) + 0) + 0) (yq_vx (yq_fat ((1 * r 0 + 0) + 0) (g0 8) (g0 10) (g0 12) (g0 14)) (yq_at ((1 * r 0 + 0) + 0) ((1 * ((1 * r 9 + 0) + 0) + 0) + 0) ((1 * ((1 * r 12 + 0) + 0) + 0) + 0) ((1 * ((1 * r 15 + 0) + 0) + 0) + 0) ((1 * ((1 * r 18 + 0) + 0) + 0) + 0)) ((1 * r 1 + 0) + 0) ((1 * ((1 * r 5 + 0) + 0) + 0) + 0) 1) (g0 3) ∧ (g 4) = yq_ap ((1 * ((1 * r 5 + 0) + 0) + 0) + 0) ((1 * ((1 * r 5 + 0) + 0) + 0) + 0) (yq_ct ((1 * r 3 + 0) + 0)) (g0 4) ∧ (g 5) = yq_ap ((1 * ((1 * r 5 + 0) + 0) + 0) + 0) ((1 * ((1 * r 5 + 0) + 0) + 0) + 0) (yq_ct 1) (g0 5)) ∧ ((1 * ((1 * r 6 + 0) + 0) + 0) + 0) = ye_wr ((1 * ((1 * r 6 + 0) + 0) + 0) + 0) (((1 * ((1 * r 5 + 0) + 0) + 0) + 0) - ((1 * ((1 * r 5 + 0) + 0) + 0) + 0))
  try simp only [Int.one_mul, Int.zero_add, Int.add_zero]
  refine ⟨?_, ?_⟩
  · refine ⟨?_, ?_⟩
    · refine ⟨?_, ?_⟩
      · unfold yq_tr
        rw [if_neg (by omega)] <;> omega
      · unfold yq_tn
        repeat' split
        all_goals omega
    · refine ⟨?_, ?_, ?_, ?_⟩
      · rw [hgi]
        exact yq_ap_0 (by omega)
      · rw [hgi]
        exact yq_ap_0 (by omega)
      · rw [hgi]
        exact yq_ap_0 (by omega)
      · rw [hgi]
        exact yq_ap_0 (by omega)
  · exact (ye_w0 (by omega) (by omega)).symm.trans (congrArg (ye_wr _) (show (0 : Int) = _ by omega))
theorem xw_155_0_31 : yt_hold xT_155 xk_155 xq_155.2.2.1 xG_155 xP_155 xU_155 19 xk_155.2.1.2.2.2 (fun g0 r g => xR_155 r g0 ∧ g = g0) (1000, ([(0, 0), ((-2147483648), (-1)), (1, 40), (0, 0), ((-2147483648), 2147483647), (0, 40), ((-2147483648), 2147483647), (1, 1), ((-2147483648), 2147483647), (0, 100), (0, 1), ((-2147483648), 2147483647), (0, 100), (0, 1), ((-2147483648), 2147483647), (0, 100), (0, 1), ((-2147483648), 2147483647), (0, 100), ((-2147483648), 0)], []), [([], (-3)), ([(19, 1)], 0), ([(5, 1)], 0), ([(6, 1)], 0)], [], []) := by
  intro g0 r gi g hok hh hars hfr hG
  have b0 : 0 ≤ r 0 ∧ r 0 ≤ 0 := hok.1 0 (0, 0) rfl
  have b1 : (-2147483648) ≤ r 1 ∧ r 1 ≤ (-1) := hok.1 1 ((-2147483648), (-1)) rfl
  have b2 : 1 ≤ r 2 ∧ r 2 ≤ 40 := hok.1 2 (1, 40) rfl
  have b3 : 0 ≤ r 3 ∧ r 3 ≤ 0 := hok.1 3 (0, 0) rfl
  have b4 : (-2147483648) ≤ r 4 ∧ r 4 ≤ 2147483647 := hok.1 4 ((-2147483648), 2147483647) rfl
  have b5 : 0 ≤ r 5 ∧ r 5 ≤ 40 := hok.1 5 (0, 40) rfl
  have b6 : (-2147483648) ≤ r 6 ∧ r 6 ≤ 2147483647 := hok.1 6 ((-2147483648), 2147483647) rfl
  have b7 : 1 ≤ r 7 ∧ r 7 ≤ 1 := hok.1 7 (1, 1) rfl
  have b8 : (-2147483648) ≤ r 8 ∧ r 8 ≤ 2147483647 := hok.1 8 ((-2147483648), 2147483647) rfl
  have b9 : 0 ≤ r 9 ∧ r 9 ≤ 100 := hok.1 9 (0, 100) rfl
  have b10 : 0 ≤ r 10 ∧ r 10 ≤ 1 := hok.1 10 (0, 1) rfl
  have b11 : (-2147483648) ≤ r 11 ∧ r 11 ≤ 2147483647 := hok.1 11 ((-2147483648), 2147483647) rfl
  have b12 : 0 ≤ r 12 ∧ r 12 ≤ 100 := hok.1 12 (0, 100) rfl
  have b13 : 0 ≤ r 13 ∧ r 13 ≤ 1 := hok.1 13 (0, 1) rfl
  have b14 : (-2147483648) ≤ r 14 ∧ r 14 ≤ 2147483647 := hok.1 14 ((-2147483648), 2147483647) rfl
  have b15 : 0 ≤ r 15 ∧ r 15 ≤ 100 := hok.1 15 (0, 100) rfl
  have b16 : 0 ≤ r 16 ∧ r 16 ≤ 1 := hok.1 16 (0, 1) rfl
  have b17 : (-2147483648) ≤ r 17 ∧ r 17 ≤ 2147483647 := hok.1 17 ((-2147483648), 2147483647) rfl
  have b18 : 0 ≤ r 18 ∧ r 18 ≤ 100 := hok.1 18 (0, 100) rfl
  have b19 : (-2147483648) ≤ r 19 ∧ r 19 ≤ 0 := hok.1 19 ((-2147483648), 0) rfl
  obtain ⟨hG, hgi⟩ := hG
  have hG : True := hG
  have hh : g = gi := hh
  subst hh
  refine yt_dalt (by decide) (by decide) ?_
  rw [show xk_155.2.1.2.1.1.length = 19 from rfl]
  show ((((0 : Int) + (-3)) = yq_tr ((1 * r 0 + 0) + 0) ((1 * r 1 + 0) + 0) ((1 * r 2 + 0) + 0) ((1 * r 3 + 0) + 0) (yq_at ((1 * r 0 + 0) + 0) ((1 * ((1 * r 7 + 0) + 0) + 0) + 0) ((1 * ((1 * r 10 + 0) + 0) + 0) + 0) ((1 * ((1 * r 13 + 0) + 0) + 0) + 0) ((1 * ((1 * r 16 + 0) + 0) + 0) + 0)) (yq_at ((1 * r 0 + 0) + 0) ((1 * ((1 * r 9 + 0) + 0) + 0) + 0) ((1 * ((1 * r 12 + 0) + 0) + 0) + 0) ((1 * ((1 * r 15 + 0) + 0) + 0) + 0) ((1 * ((1 * r 18 + 0) + 0) + 0) + 0)) (yq_nr (yq_fat ((1 * r 0 + 0) + 0) (g0 8) (g0 10) (g0 12) (g0 14)) ((1 * r 1 + 0) + 0) (yq_at ((1 * r 0 + 0) + 0) ((1 * ((1 * r 9 + 0) + 0) + 0) + 0) ((1 * ((1 * r 12 + 0) + 0) + 0) + 0) ((1 * ((1 * r 15 + 0) + 0) + 0) + 0) ((1 * ((1 * r 18 + 0) + 0) + 0) + 0)) (2 * ((1 * r 2 + 0) + 0)).toNat) ((1 * ((1 * r 5 + 0) + 0) + 0) + 0) ∧ ((1 * ((1 * r 5 + 0) + 0) + 0) + 0) = yq_tn ((0 : Int) + (-3)) ((1 * ((1 * r 5 + 0) + 0) + 0) + 0)) ∧ (g 2) = yq_ap ((1 * ((1 * r 5 + 0) + 0) + 0) + 0) ((1 * ((1 * r 5 + 0) + 0) + 0) + 0) (yq_vx (yq_fat ((1 * r 0 + 0) + 0) (g0 8) (g0 10) (g0 12) (g0 14)) (yq_at ((1 * r 0 + 0) + 0) ((1 * ((1 * r 9 + 0) + 0) + 0) + 0) ((1 * ((1 * r 12 + 0) + 0) + 0) + 0) ((1 * ((1 * r 15 + 0) + 0) + 0) + 0) ((1 * ((1 * r 18 + 0) + 0) + 0) + 0)) ((1 * r 1 + 0) + 0) ((1 * ((1 * r 5 + 0) + 0) + 0) + 0) 0) (g0 2) ∧ (g 3) = yq_ap ((1 * ((1 * r 5 + 0) + 0) + 0) + 0) ((1 * ((1 * r 5 + 0) + 0) + 0) + 0) (yq_vx (yq_fat ((1 * r 0 + 0) + 0) (g0 8) (g0 10) (g0 12) (g0 14)) (yq_at ((1 * r 0 + 0) + 0) ((1 * ((1 * r 9 + 0) + 0) + 0) + 0) ((1 * ((1 * r 12 + 0) + 0) + 0) + 0) ((1 * ((1 * r 15 + 0) + 0) + 0) + 0) ((1 * ((1 * r 18 + 0) + 0) + 0) + 0)) ((1 * r 1 + 0) + 0) ((1 * ((1 * r 5 + 0) + 0) + 0) + 0) 1) (g0 3) ∧ (g 4) = yq_ap ((1 * ((1 * r 5 + 0) + 0) + 0) + 0) ((1 * ((1 * r 5 + 0) + 0) + 0) + 0) (yq_ct ((1 * r 3 + 0) + 0)) (g0 4) ∧ (g 5) = yq_ap ((1 * ((1 * r 5 + 0) + 0) + 0) + 0) ((1 * ((1 * r 5 + 0) + 0) + 0) + 0) (yq_ct 1) (g0 5)) ∧ ((1 * ((1 * r 6 + 0) + 0) + 0) + 0) = ye_wr ((1 * ((1 * r 6 + 0) + 0) + 0) + 0) (((1 * ((1 * r 5 + 0) + 0) + 0) + 0) - ((1 * ((1 * r 5 + 0) + 0) + 0) + 0))
  try simp only [Int.one_mul, Int.zero_add, Int.add_zero]
  refine ⟨?_, ?_⟩
  · refine ⟨?_, ?_⟩
    · refine ⟨?_, ?_⟩
      · rw [show r 0 = 0 by omega]
        simp only [yq_at0, yq_fat0]
        unfold yq_tr
        repeat' split
        all_goals omega
      · unfold yq_tn
        repeat' split
        all_goals omega
    · refine ⟨?_, ?_, ?_, ?_⟩
      · rw [hgi]
        exact yq_ap_0 (by omega)
      · rw [hgi]
        exact yq_ap_0 (by omega)
      · rw [hgi]
        exact yq_ap_0 (by omega)
      · rw [hgi]
        exact yq_ap_0 (by omega)
  · exact (ye_w0 (by omega) (by omega)).symm.trans (congrArg (ye_wr _) (show (0 : Int) = _ by omega))
theorem xw_155_0_32 : yt_hold xT_155 xk_155 xq_155.2.2.1 xG_155 xP_155 xU_155 19 xk_155.2.1.2.2.2 (fun g0 r g => xR_155 r g0 ∧ g = g0) (1000, ([(0, 0), (0, 2147483647), (1, 40), (0, 0), ((-2147483648), 2147483647), (0, 40), ((-2147483648), 2147483647), (1, 1), ((-2147483648), 2147483647), (0, 100), (0, 1), ((-2147483648), 2147483647), (0, 100), (0, 1), ((-2147483648), 2147483647), (0, 100), (0, 1), ((-2147483648), 2147483647), (0, 100), ((-2147483648), 0)], [([(9, (-1)), (1, 1), (2, 2)], (-2))]), [([], (-3)), ([(19, 1)], 0), ([(5, 1)], 0), ([(6, 1)], 0)], [], []) := by
  intro g0 r gi g hok hh hars hfr hG
  have b0 : 0 ≤ r 0 ∧ r 0 ≤ 0 := hok.1 0 (0, 0) rfl
  have b1 : 0 ≤ r 1 ∧ r 1 ≤ 2147483647 := hok.1 1 (0, 2147483647) rfl
  have b2 : 1 ≤ r 2 ∧ r 2 ≤ 40 := hok.1 2 (1, 40) rfl
  have b3 : 0 ≤ r 3 ∧ r 3 ≤ 0 := hok.1 3 (0, 0) rfl
  have b4 : (-2147483648) ≤ r 4 ∧ r 4 ≤ 2147483647 := hok.1 4 ((-2147483648), 2147483647) rfl
  have b5 : 0 ≤ r 5 ∧ r 5 ≤ 40 := hok.1 5 (0, 40) rfl
  have b6 : (-2147483648) ≤ r 6 ∧ r 6 ≤ 2147483647 := hok.1 6 ((-2147483648), 2147483647) rfl
  have b7 : 1 ≤ r 7 ∧ r 7 ≤ 1 := hok.1 7 (1, 1) rfl
  have b8 : (-2147483648) ≤ r 8 ∧ r 8 ≤ 2147483647 := hok.1 8 ((-2147483648), 2147483647) rfl
  have b9 : 0 ≤ r 9 ∧ r 9 ≤ 100 := hok.1 9 (0, 100) rfl
  have b10 : 0 ≤ r 10 ∧ r 10 ≤ 1 := hok.1 10 (0, 1) rfl
  have b11 : (-2147483648) ≤ r 11 ∧ r 11 ≤ 2147483647 := hok.1 11 ((-2147483648), 2147483647) rfl
  have b12 : 0 ≤ r 12 ∧ r 12 ≤ 100 := hok.1 12 (0, 100) rfl
  have b13 : 0 ≤ r 13 ∧ r 13 ≤ 1 := hok.1 13 (0, 1) rfl
  have b14 : (-2147483648) ≤ r 14 ∧ r 14 ≤ 2147483647 := hok.1 14 ((-2147483648), 2147483647) rfl
  have b15 : 0 ≤ r 15 ∧ r 15 ≤ 100 := hok.1 15 (0, 100) rfl
  have b16 : 0 ≤ r 16 ∧ r 16 ≤ 1 := hok.1 16 (0, 1) rfl
  have b17 : (-2147483648) ≤ r 17 ∧ r 17 ≤ 2147483647 := hok.1 17 ((-2147483648), 2147483647) rfl
  have b18 : 0 ≤ r 18 ∧ r 18 ≤ 100 := hok.1 18 (0, 100) rfl
  have b19 : (-2147483648) ≤ r 19 ∧ r 19 ≤ 0 := hok.1 19 ((-2147483648), 0) rfl
  have f0 : 0 ≤ (((-1) * r 9 + (1 * r 1 + (2 * r 2 + 0))) + (-2)) := hok.2 _ (List.mem_of_getElem? (i := 0) rfl)
  obtain ⟨hG, hgi⟩ := hG
  have hG : True := hG
  have hh : g = gi := hh
  subst hh
  refine yt_dalt (by decide) (by decide) ?_
  rw [show xk_155.2.1.2.1.1.length = 19 from rfl]
  show ((((0 : Int) + (-3)) = yq_tr ((1 * r 0 + 0) + 0) ((1 * r 1 + 0) + 0) ((1 * r 2 + 0) + 0) ((1 * r 3 + 0) + 0) (yq_at ((1 * r 0 + 0) + 0) ((1 * ((1 * r 7 + 0) + 0) + 0) + 0) ((1 * ((1 * r 10 + 0) + 0) + 0) + 0) ((1 * ((1 * r 13 + 0) + 0) + 0) + 0) ((1 * ((1 * r 16 + 0) + 0) + 0) + 0)) (yq_at ((1 * r 0 + 0) + 0) ((1 * ((1 * r 9 + 0) + 0) + 0) + 0) ((1 * ((1 * r 12 + 0) + 0) + 0) + 0) ((1 * ((1 * r 15 + 0) + 0) + 0) + 0) ((1 * ((1 * r 18 + 0) + 0) + 0) + 0)) (yq_nr (yq_fat ((1 * r 0 + 0) + 0) (g0 8) (g0 10) (g0 12) (g0 14)) ((1 * r 1 + 0) + 0) (yq_at ((1 * r 0 + 0) + 0) ((1 * ((1 * r 9 + 0) + 0) + 0) + 0) ((1 * ((1 * r 12 + 0) + 0) + 0) + 0) ((1 * ((1 * r 15 + 0) + 0) + 0) + 0) ((1 * ((1 * r 18 + 0) + 0) + 0) + 0)) (2 * ((1 * r 2 + 0) + 0)).toNat) ((1 * ((1 * r 5 + 0) + 0) + 0) + 0) ∧ ((1 * ((1 * r 5 + 0) + 0) + 0) + 0) = yq_tn ((0 : Int) + (-3)) ((1 * ((1 * r 5 + 0) + 0) + 0) + 0)) ∧ (g 2) = yq_ap ((1 * ((1 * r 5 + 0) + 0) + 0) + 0) ((1 * ((1 * r 5 + 0) + 0) + 0) + 0) (yq_vx (yq_fat ((1 * r 0 + 0) + 0) (g0 8) (g0 10) (g0 12) (g0 14)) (yq_at ((1 * r 0 + 0) + 0) ((1 * ((1 * r 9 + 0) + 0) + 0) + 0) ((1 * ((1 * r 12 + 0) + 0) + 0) + 0) ((1 * ((1 * r 15 + 0) + 0) + 0) + 0) ((1 * ((1 * r 18 + 0) + 0) + 0) + 0)) ((1 * r 1 + 0) + 0) ((1 * ((1 * r 5 + 0) + 0) + 0) + 0) 0) (g0 2) ∧ (g 3) = yq_ap ((1 * ((1 * r 5 + 0) + 0) + 0) + 0) ((1 * ((1 * r 5 + 0) + 0) + 0) + 0) (yq_vx (yq_fat ((1 * r 0 + 0) + 0) (g0 8) (g0 10) (g0 12) (g0 14)) (yq_at ((1 * r 0 + 0) + 0) ((1 * ((1 * r 9 + 0) + 0) + 0) + 0) ((1 * ((1 * r 12 + 0) + 0) + 0) + 0) ((1 * ((1 * r 15 + 0) + 0) + 0) + 0) ((1 * ((1 * r 18 + 0) + 0) + 0) + 0)) ((1 * r 1 + 0) + 0) ((1 * ((1 * r 5 + 0) + 0) + 0) + 0) 1) (g0 3) ∧ (g 4) = yq_ap ((1 * ((1 * r 5 + 0) + 0) + 0) + 0) ((1 * ((1 * r 5 + 0) + 0) + 0) + 0) (yq_ct ((1 * r 3 + 0) + 0)) (g0 4) ∧ (g 5) = yq_ap ((1 * ((1 * r 5 + 0) + 0) + 0) + 0) ((1 * ((1 * r 5 + 0) + 0) + 0) + 0) (yq_ct 1) (g0 5)) ∧ ((1 * ((1 * r 6 + 0) + 0) + 0) + 0) = ye_wr ((1 * ((1 * r 6 + 0) + 0) + 0) + 0) (((1 * ((1 * r 5 + 0) + 0) + 0) + 0) - ((1 * ((1 * r 5 + 0) + 0) + 0) + 0))
  try simp only [Int.one_mul, Int.zero_add, Int.add_zero]
  refine ⟨?_, ?_⟩
  · refine ⟨?_, ?_⟩
    · refine ⟨?_, ?_⟩
      · rw [show r 0 = 0 by omega]
        simp only [yq_at0, yq_fat0]
        unfold yq_tr
        repeat' split
        all_goals omega
      · unfold yq_tn
        repeat' split
        all_goals omega
    · refine ⟨?_, ?_, ?_, ?_⟩
      · rw [hgi]
        exact yq_ap_0 (by omega)
      · rw [hgi]
        exact yq_ap_0 (by omega)
      · rw [hgi]
        exact yq_ap_0 (by omega)
      · rw [hgi]
        exact yq_ap_0 (by omega)
  · exact (ye_w0 (by omega) (by omega)).symm.trans (congrArg (ye_wr _) (show (0 : Int) = _ by omega))
theorem xw_155_0_33 : yt_hold xT_155 xk_155 xq_155.2.2.1 xG_155 xP_155 xU_155 19 xk_155.2.1.2.2.2 (fun g0 r g => xR_155 r g0 ∧ g = g0) (1000, ([(0, 0), (0, 99), (1, 40), (0, 0), ((-2147483648), 2147483647), (0, 40), ((-2147483648), 2147483647), (1, 1), ((-2147483648), 2147483647), (1, 100), (0, 1), ((-2147483648), 2147483647), (0, 100), (0, 1), ((-2147483648), 2147483647), (0, 100), (0, 1), ((-2147483648), 2147483647), (0, 100), ((-2147483648), 0)], [([(2, 2), (1, 1)], (-1)), ([(9, 1), (1, (-1)), (2, (-2))], 1)]), [([], (-1)), ([(19, 1)], 0), ([(5, 1)], 0), ([(6, 1)], 0)], [], [.inr (.inr (.inl (118, 0, [([(1, 1)], 0), ([(2, 1)], 0), ([(7, 1)], 0), ([(8, 1)], 0), ([(9, 1)], 0)], [7, 8], [])))]) := by
  intro g0 r gi g hok hh hars hfr hG
  have b0 : 0 ≤ r 0 ∧ r 0 ≤ 0 := hok.1 0 (0, 0) rfl
  have b1 : 0 ≤ r 1 ∧ r 1 ≤ 99 := hok.1 1 (0, 99) rfl
  have b2 : 1 ≤ r 2 ∧ r 2 ≤ 40 := hok.1 2 (1, 40) rfl
  have b3 : 0 ≤ r 3 ∧ r 3 ≤ 0 := hok.1 3 (0, 0) rfl
  have b4 : (-2147483648) ≤ r 4 ∧ r 4 ≤ 2147483647 := hok.1 4 ((-2147483648), 2147483647) rfl
  have b5 : 0 ≤ r 5 ∧ r 5 ≤ 40 := hok.1 5 (0, 40) rfl
  have b6 : (-2147483648) ≤ r 6 ∧ r 6 ≤ 2147483647 := hok.1 6 ((-2147483648), 2147483647) rfl
  have b7 : 1 ≤ r 7 ∧ r 7 ≤ 1 := hok.1 7 (1, 1) rfl
  have b8 : (-2147483648) ≤ r 8 ∧ r 8 ≤ 2147483647 := hok.1 8 ((-2147483648), 2147483647) rfl
  have b9 : 1 ≤ r 9 ∧ r 9 ≤ 100 := hok.1 9 (1, 100) rfl
  have b10 : 0 ≤ r 10 ∧ r 10 ≤ 1 := hok.1 10 (0, 1) rfl
  have b11 : (-2147483648) ≤ r 11 ∧ r 11 ≤ 2147483647 := hok.1 11 ((-2147483648), 2147483647) rfl
  have b12 : 0 ≤ r 12 ∧ r 12 ≤ 100 := hok.1 12 (0, 100) rfl
  have b13 : 0 ≤ r 13 ∧ r 13 ≤ 1 := hok.1 13 (0, 1) rfl
  have b14 : (-2147483648) ≤ r 14 ∧ r 14 ≤ 2147483647 := hok.1 14 ((-2147483648), 2147483647) rfl
  have b15 : 0 ≤ r 15 ∧ r 15 ≤ 100 := hok.1 15 (0, 100) rfl
  have b16 : 0 ≤ r 16 ∧ r 16 ≤ 1 := hok.1 16 (0, 1) rfl
  have b17 : (-2147483648) ≤ r 17 ∧ r 17 ≤ 2147483647 := hok.1 17 ((-2147483648), 2147483647) rfl
  have b18 : 0 ≤ r 18 ∧ r 18 ≤ 100 := hok.1 18 (0, 100) rfl
  have b19 : (-2147483648) ≤ r 19 ∧ r 19 ≤ 0 := hok.1 19 ((-2147483648), 0) rfl
  have f0 : 0 ≤ ((2 * r 2 + (1 * r 1 + 0)) + (-1)) := hok.2 _ (List.mem_of_getElem? (i := 0) rfl)
  have f1 : 0 ≤ ((1 * r 9 + ((-1) * r 1 + ((-2) * r 2 + 0))) + 1) := hok.2 _ (List.mem_of_getElem? (i := 1) rfl)
  obtain ⟨hG, hgi⟩ := hG
  have hG : True := hG
  obtain ⟨h0, hh, e0, k0⟩ := hh
  have k0 : ∀ j, j ∉ [] → g j = h0 j := k0
  have e0 : yq_nr (h0 8) ((1 * r 1 + 0) + 0) ((1 * r 9 + 0) + 0) (2 * ((1 * r 2 + 0) + 0)).toNat = 0 := e0
  have hh : h0 = gi := hh
  subst hh
  refine yt_dalt (by decide) (by decide) ?_
  rw [show xk_155.2.1.2.1.1.length = 19 from rfl]
  show ((((0 : Int) + (-1)) = yq_tr ((1 * r 0 + 0) + 0) ((1 * r 1 + 0) + 0) ((1 * r 2 + 0) + 0) ((1 * r 3 + 0) + 0) (yq_at ((1 * r 0 + 0) + 0) ((1 * ((1 * r 7 + 0) + 0) + 0) + 0) ((1 * ((1 * r 10 + 0) + 0) + 0) + 0) ((1 * ((1 * r 13 + 0) + 0) + 0) + 0) ((1 * ((1 * r 16 + 0) + 0) + 0) + 0)) (yq_at ((1 * r 0 + 0) + 0) ((1 * ((1 * r 9 + 0) + 0) + 0) + 0) ((1 * ((1 * r 12 + 0) + 0) + 0) + 0) ((1 * ((1 * r 15 + 0) + 0) + 0) + 0) ((1 * ((1 * r 18 + 0) + 0) + 0) + 0)) (yq_nr (yq_fat ((1 * r 0 + 0) + 0) (g0 8) (g0 10) (g0 12) (g0 14)) ((1 * r 1 + 0) + 0) (yq_at ((1 * r 0 + 0) + 0) ((1 * ((1 * r 9 + 0) + 0) + 0) + 0) ((1 * ((1 * r 12 + 0) + 0) + 0) + 0) ((1 * ((1 * r 15 + 0) + 0) + 0) + 0) ((1 * ((1 * r 18 + 0) + 0) + 0) + 0)) (2 * ((1 * r 2 + 0) + 0)).toNat) ((1 * ((1 * r 5 + 0) + 0) + 0) + 0) ∧ ((1 * ((1 * r 5 + 0) + 0) + 0) + 0) = yq_tn ((0 : Int) + (-1)) ((1 * ((1 * r 5 + 0) + 0) + 0) + 0)) ∧ (g 2) = yq_ap ((1 * ((1 * r 5 + 0) + 0) + 0) + 0) ((1 * ((1 * r 5 + 0) + 0) + 0) + 0) (yq_vx (yq_fat ((1 * r 0 + 0) + 0) (g0 8) (g0 10) (g0 12) (g0 14)) (yq_at ((1 * r 0 + 0) + 0) ((1 * ((1 * r 9 + 0) + 0) + 0) + 0) ((1 * ((1 * r 12 + 0) + 0) + 0) + 0) ((1 * ((1 * r 15 + 0) + 0) + 0) + 0) ((1 * ((1 * r 18 + 0) + 0) + 0) + 0)) ((1 * r 1 + 0) + 0) ((1 * ((1 * r 5 + 0) + 0) + 0) + 0) 0) (g0 2) ∧ (g 3) = yq_ap ((1 * ((1 * r 5 + 0) + 0) + 0) + 0) ((1 * ((1 * r 5 + 0) + 0) + 0) + 0) (yq_vx (yq_fat ((1 * r 0 + 0) + 0) (g0 8) (g0 10) (g0 12) (g0 14)) (yq_at ((1 * r 0 + 0) + 0) ((1 * ((1 * r 9 + 0) + 0) + 0) + 0) ((1 * ((1 * r 12 + 0) + 0) + 0) + 0) ((1 * ((1 * r 15 + 0) + 0) + 0) + 0) ((1 * ((1 * r 18 + 0) + 0) + 0) + 0)) ((1 * r 1 + 0) + 0) ((1 * ((1 * r 5 + 0) + 0) + 0) + 0) 1) (g0 3) ∧ (g 4) = yq_ap ((1 * ((1 * r 5 + 0) + 0) + 0) + 0) ((1 * ((1 * r 5 + 0) + 0) + 0) + 0) (yq_ct ((1 * r 3 + 0) + 0)) (g0 4) ∧ (g 5) = yq_ap ((1 * ((1 * r 5 + 0) + 0) + 0) + 0) ((1 * ((1 * r 5 + 0) + 0) + 0) + 0) (yq_ct 1) (g0 5)) ∧ ((1 * ((1 * r 6 + 0) + 0) + 0) + 0) = ye_wr ((1 * ((1 * r 6 + 0) + 0) + 0) + 0) (((1 * ((1 * r 5 + 0) + 0) + 0) + 0) - ((1 * ((1 * r 5 + 0) + 0) + 0) + 0))
  try simp only [Int.one_mul, Int.zero_add, Int.add_zero]
  refine ⟨?_, ?_⟩
  · try simp only [Int.one_mul, Int.zero_add, Int.add_zero] at e0
    rw [hgi] at e0
    refine ⟨?_, ?_⟩
    · refine ⟨?_, ?_⟩
      · rw [show r 0 = 0 by omega]
        simp only [yq_at0, yq_fat0]
        unfold yq_tr
        repeat' split
        all_goals omega
      · unfold yq_tn
        repeat' split
        all_goals omega
    · refine ⟨?_, ?_, ?_, ?_⟩
      · rw [k0 2 (by decide), hgi]
        exact yq_ap_0 (by omega)
      · rw [k0 3 (by decide), hgi]
        exact yq_ap_0 (by omega)
      · rw [k0 4 (by decide), hgi]
        exact yq_ap_0 (by omega)
      · rw [k0 5 (by decide), hgi]
        exact yq_ap_0 (by omega)
  · exact (ye_w0 (by omega) (by omega)).symm.trans (congrArg (ye_wr _) (show (0 : Int) = _ by omega))
theorem xw_155_0_34 : yt_hold xT_155 xk_155 xq_155.2.2.1 xG_155 xP_155 xU_155 19 xk_155.2.1.2.2.2 (fun g0 r g => xR_155 r g0 ∧ g = g0) (0, ([(0, 0), (0, 99), (1, 40), (0, 0), ((-2147483648), 2147483647), (0, 39), ((-2147483648), 2147483647), (1, 1), ((-2147483648), 2147483647), (1, 100), (0, 1), ((-2147483648), 2147483647), (0, 100), (0, 1), ((-2147483648), 2147483647), (0, 100), (0, 1), ((-2147483648), 2147483647), (0, 100)], [([(2, (-1)), (5, (-1))], 40), ([(9, 1), (1, (-1)), (2, (-2))], 1)]), [([], 0), ([(5, 1)], 0), ([(6, 1)], 0)], [], [.inr (.inr (.inl (118, 1, [([(1, 1)], 0), ([(2, 1)], 0), ([(7, 1)], 0), ([(8, 1)], 0), ([(9, 1)], 0)], [7, 8], [])))]) := by
  intro g0 r gi g hok hh hars hfr hG
  have b0 : 0 ≤ r 0 ∧ r 0 ≤ 0 := hok.1 0 (0, 0) rfl
  have b1 : 0 ≤ r 1 ∧ r 1 ≤ 99 := hok.1 1 (0, 99) rfl
  have b2 : 1 ≤ r 2 ∧ r 2 ≤ 40 := hok.1 2 (1, 40) rfl
  have b3 : 0 ≤ r 3 ∧ r 3 ≤ 0 := hok.1 3 (0, 0) rfl
  have b4 : (-2147483648) ≤ r 4 ∧ r 4 ≤ 2147483647 := hok.1 4 ((-2147483648), 2147483647) rfl
  have b5 : 0 ≤ r 5 ∧ r 5 ≤ 39 := hok.1 5 (0, 39) rfl
  have b6 : (-2147483648) ≤ r 6 ∧ r 6 ≤ 2147483647 := hok.1 6 ((-2147483648), 2147483647) rfl
  have b7 : 1 ≤ r 7 ∧ r 7 ≤ 1 := hok.1 7 (1, 1) rfl
  have b8 : (-2147483648) ≤ r 8 ∧ r 8 ≤ 2147483647 := hok.1 8 ((-2147483648), 2147483647) rfl
  have b9 : 1 ≤ r 9 ∧ r 9 ≤ 100 := hok.1 9 (1, 100) rfl
  have b10 : 0 ≤ r 10 ∧ r 10 ≤ 1 := hok.1 10 (0, 1) rfl
  have b11 : (-2147483648) ≤ r 11 ∧ r 11 ≤ 2147483647 := hok.1 11 ((-2147483648), 2147483647) rfl
  have b12 : 0 ≤ r 12 ∧ r 12 ≤ 100 := hok.1 12 (0, 100) rfl
  have b13 : 0 ≤ r 13 ∧ r 13 ≤ 1 := hok.1 13 (0, 1) rfl
  have b14 : (-2147483648) ≤ r 14 ∧ r 14 ≤ 2147483647 := hok.1 14 ((-2147483648), 2147483647) rfl
  have b15 : 0 ≤ r 15 ∧ r 15 ≤ 100 := hok.1 15 (0, 100) rfl
  have b16 : 0 ≤ r 16 ∧ r 16 ≤ 1 := hok.1 16 (0, 1) rfl
  have b17 : (-2147483648) ≤ r 17 ∧ r 17 ≤ 2147483647 := hok.1 17 ((-2147483648), 2147483647) rfl
  have b18 : 0 ≤ r 18 ∧ r 18 ≤ 100 := hok.1 18 (0, 100) rfl
  have f0 : 0 ≤ (((-1) * r 2 + ((-1) * r 5 + 0)) + 40) := hok.2 _ (List.mem_of_getElem? (i := 0) rfl)
  have f1 : 0 ≤ ((1 * r 9 + ((-1) * r 1 + ((-2) * r 2 + 0))) + 1) := hok.2 _ (List.mem_of_getElem? (i := 1) rfl)
  obtain ⟨hG, hgi⟩ := hG
  have hG : True := hG
  obtain ⟨h0, hh, e0, k0⟩ := hh
  have k0 : ∀ j, j ∉ [] → g j = h0 j := k0
  have e0 : yq_nr (h0 8) ((1 * r 1 + 0) + 0) ((1 * r 9 + 0) + 0) (2 * ((1 * r 2 + 0) + 0)).toNat = 1 := e0
  have hh : h0 = gi := hh
  subst hh
  refine yt_dcut (by decide) rfl ?_ ?_
  · exact fun f hf => absurd hf List.not_mem_nil
  · rw [show xk_155.2.1.2.1.1.length = 19 from rfl]
    show ((yq_at ((1 * r 0 + 0) + 0) ((1 * ((1 * r 7 + 0) + 0) + 0) + 0) ((1 * ((1 * r 10 + 0) + 0) + 0) + 0) ((1 * ((1 * r 13 + 0) + 0) + 0) + 0) ((1 * ((1 * r 16 + 0) + 0) + 0) + 0)) ≠ 0 ∧ (0 ≤ ((1 * r 1 + 0) + 0) ∧ ((1 * r 1 + 0) + 0) + 2 * ((1 * r 2 + 0) + 0) - 2 < (yq_at ((1 * r 0 + 0) + 0) ((1 * ((1 * r 9 + 0) + 0) + 0) + 0) ((1 * ((1 * r 12 + 0) + 0) + 0) + 0) ((1 * ((1 * r 15 + 0) + 0) + 0) + 0) ((1 * ((1 * r 18 + 0) + 0) + 0) + 0))) ∧ (yq_nr (yq_fat ((1 * r 0 + 0) + 0) (g0 8) (g0 10) (g0 12) (g0 14)) ((1 * r 1 + 0) + 0) (yq_at ((1 * r 0 + 0) + 0) ((1 * ((1 * r 9 + 0) + 0) + 0) + 0) ((1 * ((1 * r 12 + 0) + 0) + 0) + 0) ((1 * ((1 * r 15 + 0) + 0) + 0) + 0) ((1 * ((1 * r 18 + 0) + 0) + 0) + 0)) (2 * ((1 * r 2 + 0) + 0)).toNat) = 1 ∧ ((1 * ((1 * r 5 + 0) + 0) + 0) + 0) = ((1 * ((1 * r 5 + 0) + 0) + 0) + 0) + ((1 * ((0 : Int) + 0) + 0) + 0) ∧ ((1 * ((0 : Int) + 0) + 0) + 0) ≤ ((1 * r 2 + 0) + 0) ∧ (g 2) = yq_ap (((1 * ((1 * r 5 + 0) + 0) + 0) + 0) + ((1 * ((0 : Int) + 0) + 0) + 0)) ((1 * ((1 * r 5 + 0) + 0) + 0) + 0) (yq_vx (yq_fat ((1 * r 0 + 0) + 0) (g0 8) (g0 10) (g0 12) (g0 14)) (yq_at ((1 * r 0 + 0) + 0) ((1 * ((1 * r 9 + 0) + 0) + 0) + 0) ((1 * ((1 * r 12 + 0) + 0) + 0) + 0) ((1 * ((1 * r 15 + 0) + 0) + 0) + 0) ((1 * ((1 * r 18 + 0) + 0) + 0) + 0)) ((1 * r 1 + 0) + 0) ((1 * ((1 * r 5 + 0) + 0) + 0) + 0) 0) (g0 2) ∧ (g 3) = yq_ap (((1 * ((1 * r 5 + 0) + 0) + 0) + 0) + ((1 * ((0 : Int) + 0) + 0) + 0)) ((1 * ((1 * r 5 + 0) + 0) + 0) + 0) (yq_vx (yq_fat ((1 * r 0 + 0) + 0) (g0 8) (g0 10) (g0 12) (g0 14)) (yq_at ((1 * r 0 + 0) + 0) ((1 * ((1 * r 9 + 0) + 0) + 0) + 0) ((1 * ((1 * r 12 + 0) + 0) + 0) + 0) ((1 * ((1 * r 15 + 0) + 0) + 0) + 0) ((1 * ((1 * r 18 + 0) + 0) + 0) + 0)) ((1 * r 1 + 0) + 0) ((1 * ((1 * r 5 + 0) + 0) + 0) + 0) 1) (g0 3) ∧ (g 4) = yq_ap (((1 * ((1 * r 5 + 0) + 0) + 0) + 0) + ((1 * ((0 : Int) + 0) + 0) + 0)) ((1 * ((1 * r 5 + 0) + 0) + 0) + 0) (yq_ct ((1 * r 3 + 0) + 0)) (g0 4) ∧ (g 5) = yq_ap (((1 * ((1 * r 5 + 0) + 0) + 0) + 0) + ((1 * ((0 : Int) + 0) + 0) + 0)) ((1 * ((1 * r 5 + 0) + 0) + 0) + 0) (yq_ct 1) (g0 5)) ∧ ((1 * ((1 * r 6 + 0) + 0) + 0) + 0) = ye_wr ((1 * ((1 * r 6 + 0) + 0) + 0) + 0) ((1 * ((0 : Int) + 0) + 0) + 0)
    try simp only [Int.one_mul, Int.zero_add, Int.add_zero]
    refine ⟨?_, ?_⟩
    · try simp only [Int.one_mul, Int.zero_add, Int.add_zero] at e0
      rw [hgi] at e0
      rw [show r 0 = 0 by omega]
      simp only [yq_at0, yq_fat0]
      refine ⟨?_, ?_, ?_, ?_, ?_, ?_, ?_, ?_, ?_⟩
      · omega
      · omega
      · exact e0
      · omega
      · omega
      · rw [k0 2 (by decide), hgi]
        exact yq_ap_0 (by omega)
      · rw [k0 3 (by decide), hgi]
        exact yq_ap_0 (by omega)
      · rw [k0 4 (by decide), hgi]
        exact yq_ap_0 (by omega)
      · rw [k0 5 (by decide), hgi]
        exact yq_ap_0 (by omega)
    · exact (ye_w0 (by omega) (by omega)).symm.trans (congrArg (ye_wr _) (show (0 : Int) = _ by omega))
theorem xw_155_0_35 : yt_hold xT_155 xk_155 xq_155.2.2.1 xG_155 xP_155 xU_155 19 xk_155.2.1.2.2.2 (fun g0 r g => xR_155 r g0 ∧ g = g0) (1000, ([(0, 0), (0, 99), (1, 40), (0, 0), ((-2147483648), 2147483647), (1, 40), ((-2147483648), 2147483647), (1, 1), ((-2147483648), 2147483647), (1, 100), (0, 1), ((-2147483648), 2147483647), (0, 100), (0, 1), ((-2147483648), 2147483647), (0, 100), (0, 1), ((-2147483648), 2147483647), (0, 100), ((-2147483648), 0)], [([(2, 1), (5, 1)], (-41)), ([(9, 1), (1, (-1)), (2, (-2))], 1)]), [([], (-5)), ([(19, 1)], 0), ([(5, 1)], 0), ([(6, 1)], 0)], [], [.inr (.inr (.inl (118, 1, [([(1, 1)], 0), ([(2, 1)], 0), ([(7, 1)], 0), ([(8, 1)], 0), ([(9, 1)], 0)], [7, 8], [])))]) := by
  intro g0 r gi g hok hh hars hfr hG
  have b0 : 0 ≤ r 0 ∧ r 0 ≤ 0 := hok.1 0 (0, 0) rfl
  have b1 : 0 ≤ r 1 ∧ r 1 ≤ 99 := hok.1 1 (0, 99) rfl
  have b2 : 1 ≤ r 2 ∧ r 2 ≤ 40 := hok.1 2 (1, 40) rfl
  have b3 : 0 ≤ r 3 ∧ r 3 ≤ 0 := hok.1 3 (0, 0) rfl
  have b4 : (-2147483648) ≤ r 4 ∧ r 4 ≤ 2147483647 := hok.1 4 ((-2147483648), 2147483647) rfl
  have b5 : 1 ≤ r 5 ∧ r 5 ≤ 40 := hok.1 5 (1, 40) rfl
  have b6 : (-2147483648) ≤ r 6 ∧ r 6 ≤ 2147483647 := hok.1 6 ((-2147483648), 2147483647) rfl
  have b7 : 1 ≤ r 7 ∧ r 7 ≤ 1 := hok.1 7 (1, 1) rfl
  have b8 : (-2147483648) ≤ r 8 ∧ r 8 ≤ 2147483647 := hok.1 8 ((-2147483648), 2147483647) rfl
  have b9 : 1 ≤ r 9 ∧ r 9 ≤ 100 := hok.1 9 (1, 100) rfl
  have b10 : 0 ≤ r 10 ∧ r 10 ≤ 1 := hok.1 10 (0, 1) rfl
  have b11 : (-2147483648) ≤ r 11 ∧ r 11 ≤ 2147483647 := hok.1 11 ((-2147483648), 2147483647) rfl
  have b12 : 0 ≤ r 12 ∧ r 12 ≤ 100 := hok.1 12 (0, 100) rfl
  have b13 : 0 ≤ r 13 ∧ r 13 ≤ 1 := hok.1 13 (0, 1) rfl
  have b14 : (-2147483648) ≤ r 14 ∧ r 14 ≤ 2147483647 := hok.1 14 ((-2147483648), 2147483647) rfl
  have b15 : 0 ≤ r 15 ∧ r 15 ≤ 100 := hok.1 15 (0, 100) rfl
  have b16 : 0 ≤ r 16 ∧ r 16 ≤ 1 := hok.1 16 (0, 1) rfl
  have b17 : (-2147483648) ≤ r 17 ∧ r 17 ≤ 2147483647 := hok.1 17 ((-2147483648), 2147483647) rfl
  have b18 : 0 ≤ r 18 ∧ r 18 ≤ 100 := hok.1 18 (0, 100) rfl
  have b19 : (-2147483648) ≤ r 19 ∧ r 19 ≤ 0 := hok.1 19 ((-2147483648), 0) rfl
  have f0 : 0 ≤ ((1 * r 2 + (1 * r 5 + 0)) + (-41)) := hok.2 _ (List.mem_of_getElem? (i := 0) rfl)
  have f1 : 0 ≤ ((1 * r 9 + ((-1) * r 1 + ((-2) * r 2 + 0))) + 1) := hok.2 _ (List.mem_of_getElem? (i := 1) rfl)
  obtain ⟨hG, hgi⟩ := hG
  have hG : True := hG
  obtain ⟨h0, hh, e0, k0⟩ := hh
  have k0 : ∀ j, j ∉ [] → g j = h0 j := k0
  have e0 : yq_nr (h0 8) ((1 * r 1 + 0) + 0) ((1 * r 9 + 0) + 0) (2 * ((1 * r 2 + 0) + 0)).toNat = 1 := e0
  have hh : h0 = gi := hh
  subst hh
  refine yt_dalt (by decide) (by decide) ?_
  rw [show xk_155.2.1.2.1.1.length = 19 from rfl]
  show ((((0 : Int) + (-5)) = yq_tr ((1 * r 0 + 0) + 0) ((1 * r 1 + 0) + 0) ((1 * r 2 + 0) + 0) ((1 * r 3 + 0) + 0) (yq_at ((1 * r 0 + 0) + 0) ((1 * ((1 * r 7 + 0) + 0) + 0) + 0) ((1 * ((1 * r 10 + 0) + 0) + 0) + 0) ((1 * ((1 * r 13 + 0) + 0) + 0) + 0) ((1 * ((1 * r 16 + 0) + 0) + 0) + 0)) (yq_at ((1 * r 0 + 0) + 0) ((1 * ((1 * r 9 + 0) + 0) + 0) + 0) ((1 * ((1 * r 12 + 0) + 0) + 0) + 0) ((1 * ((1 * r 15 + 0) + 0) + 0) + 0) ((1 * ((1 * r 18 + 0) + 0) + 0) + 0)) (yq_nr (yq_fat ((1 * r 0 + 0) + 0) (g0 8) (g0 10) (g0 12) (g0 14)) ((1 * r 1 + 0) + 0) (yq_at ((1 * r 0 + 0) + 0) ((1 * ((1 * r 9 + 0) + 0) + 0) + 0) ((1 * ((1 * r 12 + 0) + 0) + 0) + 0) ((1 * ((1 * r 15 + 0) + 0) + 0) + 0) ((1 * ((1 * r 18 + 0) + 0) + 0) + 0)) (2 * ((1 * r 2 + 0) + 0)).toNat) ((1 * ((1 * r 5 + 0) + 0) + 0) + 0) ∧ ((1 * ((1 * r 5 + 0) + 0) + 0) + 0) = yq_tn ((0 : Int) + (-5)) ((1 * ((1 * r 5 + 0) + 0) + 0) + 0)) ∧ (g 2) = yq_ap ((1 * ((1 * r 5 + 0) + 0) + 0) + 0) ((1 * ((1 * r 5 + 0) + 0) + 0) + 0) (yq_vx (yq_fat ((1 * r 0 + 0) + 0) (g0 8) (g0 10) (g0 12) (g0 14)) (yq_at ((1 * r 0 + 0) + 0) ((1 * ((1 * r 9 + 0) + 0) + 0) + 0) ((1 * ((1 * r 12 + 0) + 0) + 0) + 0) ((1 * ((1 * r 15 + 0) + 0) + 0) + 0) ((1 * ((1 * r 18 + 0) + 0) + 0) + 0)) ((1 * r 1 + 0) + 0) ((1 * ((1 * r 5 + 0) + 0) + 0) + 0) 0) (g0 2) ∧ (g 3) = yq_ap ((1 * ((1 * r 5 + 0) + 0) + 0) + 0) ((1 * ((1 * r 5 + 0) + 0) + 0) + 0) (yq_vx (yq_fat ((1 * r 0 + 0) + 0) (g0 8) (g0 10) (g0 12) (g0 14)) (yq_at ((1 * r 0 + 0) + 0) ((1 * ((1 * r 9 + 0) + 0) + 0) + 0) ((1 * ((1 * r 12 + 0) + 0) + 0) + 0) ((1 * ((1 * r 15 + 0) + 0) + 0) + 0) ((1 * ((1 * r 18 + 0) + 0) + 0) + 0)) ((1 * r 1 + 0) + 0) ((1 * ((1 * r 5 + 0) + 0) + 0) + 0) 1) (g0 3) ∧ (g 4) = yq_ap ((1 * ((1 * r 5 + 0) + 0) + 0) + 0) ((1 * ((1 * r 5 + 0) + 0) + 0) + 0) (yq_ct ((1 * r 3 + 0) + 0)) (g0 4) ∧ (g 5) = yq_ap ((1 * ((1 * r 5 + 0) + 0) + 0) + 0) ((1 * ((1 * r 5 + 0) + 0) + 0) + 0) (yq_ct 1) (g0 5)) ∧ ((1 * ((1 * r 6 + 0) + 0) + 0) + 0) = ye_wr ((1 * ((1 * r 6 + 0) + 0) + 0) + 0) (((1 * ((1 * r 5 + 0) + 0) + 0) + 0) - ((1 * ((1 * r 5 + 0) + 0) + 0) + 0))
  try simp only [Int.one_mul, Int.zero_add, Int.add_zero]
  refine ⟨?_, ?_⟩
  · try simp only [Int.one_mul, Int.zero_add, Int.add_zero] at e0
    rw [hgi] at e0
    refine ⟨?_, ?_⟩
    · refine ⟨?_, ?_⟩
      · rw [show r 0 = 0 by omega]
        simp only [yq_at0, yq_fat0]
        unfold yq_tr
        repeat' split
        all_goals omega
      · unfold yq_tn
        repeat' split
        all_goals omega
    · refine ⟨?_, ?_, ?_, ?_⟩
      · rw [k0 2 (by decide), hgi]
        exact yq_ap_0 (by omega)
      · rw [k0 3 (by decide), hgi]
        exact yq_ap_0 (by omega)
      · rw [k0 4 (by decide), hgi]
        exact yq_ap_0 (by omega)
      · rw [k0 5 (by decide), hgi]
        exact yq_ap_0 (by omega)
  · exact (ye_w0 (by omega) (by omega)).symm.trans (congrArg (ye_wr _) (show (0 : Int) = _ by omega))
theorem xw_155_0_36 : yt_hold xT_155 xk_155 xq_155.2.2.1 xG_155 xP_155 xU_155 19 xk_155.2.1.2.2.2 (fun g0 r g => xR_155 r g0 ∧ g = g0) (1000, ([(0, 0), ((-2147483648), 2147483647), (1, 40), (0, 0), ((-2147483648), 2147483647), (0, 40), ((-2147483648), 2147483647), (0, 0), ((-2147483648), 2147483647), (0, 100), (0, 1), ((-2147483648), 2147483647), (0, 100), (0, 1), ((-2147483648), 2147483647), (0, 100), (0, 1), ((-2147483648), 2147483647), (0, 100), ((-2147483648), 0)], []), [([], (-2)), ([(19, 1)], 0), ([(5, 1)], 0), ([(6, 1)], 0)], [], []) := by
  intro g0 r gi g hok hh hars hfr hG
  have b0 : 0 ≤ r 0 ∧ r 0 ≤ 0 := hok.1 0 (0, 0) rfl
  have b1 : (-2147483648) ≤ r 1 ∧ r 1 ≤ 2147483647 := hok.1 1 ((-2147483648), 2147483647) rfl
  have b2 : 1 ≤ r 2 ∧ r 2 ≤ 40 := hok.1 2 (1, 40) rfl
  have b3 : 0 ≤ r 3 ∧ r 3 ≤ 0 := hok.1 3 (0, 0) rfl
  have b4 : (-2147483648) ≤ r 4 ∧ r 4 ≤ 2147483647 := hok.1 4 ((-2147483648), 2147483647) rfl
  have b5 : 0 ≤ r 5 ∧ r 5 ≤ 40 := hok.1 5 (0, 40) rfl
  have b6 : (-2147483648) ≤ r 6 ∧ r 6 ≤ 2147483647 := hok.1 6 ((-2147483648), 2147483647) rfl
  have b7 : 0 ≤ r 7 ∧ r 7 ≤ 0 := hok.1 7 (0, 0) rfl
  have b8 : (-2147483648) ≤ r 8 ∧ r 8 ≤ 2147483647 := hok.1 8 ((-2147483648), 2147483647) rfl
  have b9 : 0 ≤ r 9 ∧ r 9 ≤ 100 := hok.1 9 (0, 100) rfl
  have b10 : 0 ≤ r 10 ∧ r 10 ≤ 1 := hok.1 10 (0, 1) rfl
  have b11 : (-2147483648) ≤ r 11 ∧ r 11 ≤ 2147483647 := hok.1 11 ((-2147483648), 2147483647) rfl
  have b12 : 0 ≤ r 12 ∧ r 12 ≤ 100 := hok.1 12 (0, 100) rfl
  have b13 : 0 ≤ r 13 ∧ r 13 ≤ 1 := hok.1 13 (0, 1) rfl
  have b14 : (-2147483648) ≤ r 14 ∧ r 14 ≤ 2147483647 := hok.1 14 ((-2147483648), 2147483647) rfl
  have b15 : 0 ≤ r 15 ∧ r 15 ≤ 100 := hok.1 15 (0, 100) rfl
  have b16 : 0 ≤ r 16 ∧ r 16 ≤ 1 := hok.1 16 (0, 1) rfl
  have b17 : (-2147483648) ≤ r 17 ∧ r 17 ≤ 2147483647 := hok.1 17 ((-2147483648), 2147483647) rfl
  have b18 : 0 ≤ r 18 ∧ r 18 ≤ 100 := hok.1 18 (0, 100) rfl
  have b19 : (-2147483648) ≤ r 19 ∧ r 19 ≤ 0 := hok.1 19 ((-2147483648), 0) rfl
  obtain ⟨hG, hgi⟩ := hG
  have hG : True := hG
  have hh : g = gi := hh
  subst hh
  refine yt_dalt (by decide) (by decide) ?_
  rw [show xk_155.2.1.2.1.1.length = 19 from rfl]
  show ((((0 : Int) + (-2)) = yq_tr ((1 * r 0 + 0) + 0) ((1 * r 1 + 0) + 0) ((1 * r 2 + 0) + 0) ((1 * r 3 + 0) + 0) (yq_at ((1 * r 0 + 0) + 0) ((1 * ((1 * r 7 + 0) + 0) + 0) + 0) ((1 * ((1 * r 10 + 0) + 0) + 0) + 0) ((1 * ((1 * r 13 + 0) + 0) + 0) + 0) ((1 * ((1 * r 16 + 0) + 0) + 0) + 0)) (yq_at ((1 * r 0 + 0) + 0) ((1 * ((1 * r 9 + 0) + 0) + 0) + 0) ((1 * ((1 * r 12 + 0) + 0) + 0) + 0) ((1 * ((1 * r 15 + 0) + 0) + 0) + 0) ((1 * ((1 * r 18 + 0) + 0) + 0) + 0)) (yq_nr (yq_fat ((1 * r 0 + 0) + 0) (g0 8) (g0 10) (g0 12) (g0 14)) ((1 * r 1 + 0) + 0) (yq_at ((1 * r 0 + 0) + 0) ((1 * ((1 * r 9 + 0) + 0) + 0) + 0) ((1 * ((1 * r 12 + 0) + 0) + 0) + 0) ((1 * ((1 * r 15 + 0) + 0) + 0) + 0) ((1 * ((1 * r 18 + 0) + 0) + 0) + 0)) (2 * ((1 * r 2 + 0) + 0)).toNat) ((1 * ((1 * r 5 + 0) + 0) + 0) + 0) ∧ ((1 * ((1 * r 5 + 0) + 0) + 0) + 0) = yq_tn ((0 : Int) + (-2)) ((1 * ((1 * r 5 + 0) + 0) + 0) + 0)) ∧ (g 2) = yq_ap ((1 * ((1 * r 5 + 0) + 0) + 0) + 0) ((1 * ((1 * r 5 + 0) + 0) + 0) + 0) (yq_vx (yq_fat ((1 * r 0 + 0) + 0) (g0 8) (g0 10) (g0 12) (g0 14)) (yq_at ((1 * r 0 + 0) + 0) ((1 * ((1 * r 9 + 0) + 0) + 0) + 0) ((1 * ((1 * r 12 + 0) + 0) + 0) + 0) ((1 * ((1 * r 15 + 0) + 0) + 0) + 0) ((1 * ((1 * r 18 + 0) + 0) + 0) + 0)) ((1 * r 1 + 0) + 0) ((1 * ((1 * r 5 + 0) + 0) + 0) + 0) 0) (g0 2) ∧ (g 3) = yq_ap ((1 * ((1 * r 5 + 0) + 0) + 0) + 0) ((1 * ((1 * r 5 + 0) + 0) + 0) + 0) (yq_vx (yq_fat ((1 * r 0 + 0) + 0) (g0 8) (g0 10) (g0 12) (g0 14)) (yq_at ((1 * r 0 + 0) + 0) ((1 * ((1 * r 9 + 0) + 0) + 0) + 0) ((1 * ((1 * r 12 + 0) + 0) + 0) + 0) ((1 * ((1 * r 15 + 0) + 0) + 0) + 0) ((1 * ((1 * r 18 + 0) + 0) + 0) + 0)) ((1 * r 1 + 0) + 0) ((1 * ((1 * r 5 + 0) + 0) + 0) + 0) 1) (g0 3) ∧ (g 4) = yq_ap ((1 * ((1 * r 5 + 0) + 0) + 0) + 0) ((1 * ((1 * r 5 + 0) + 0) + 0) + 0) (yq_ct ((1 * r 3 + 0) + 0)) (g0 4) ∧ (g 5) = yq_ap ((1 * ((1 * r 5 + 0) + 0) + 0) + 0) ((1 * ((1 * r 5 + 0) + 0) + 0) + 0) (yq_ct 1) (g0 5)) ∧ ((1 * ((1 * r 6 + 0) + 0) + 0) + 0) = ye_wr ((1 * ((1 * r 6 + 0) + 0) + 0) + 0) (((1 * ((1 * r 5 + 0) + 0) + 0) + 0) - ((1 * ((1 * r 5 + 0) + 0) + 0) + 0))
  try simp only [Int.one_mul, Int.zero_add, Int.add_zero]
  refine ⟨?_, ?_⟩
  · refine ⟨?_, ?_⟩
    · refine ⟨?_, ?_⟩
      · rw [show r 0 = 0 by omega]
        simp only [yq_at0, yq_fat0]
        unfold yq_tr
        repeat' split
        all_goals omega
      · unfold yq_tn
        repeat' split
        all_goals omega
    · refine ⟨?_, ?_, ?_, ?_⟩
      · rw [hgi]
        exact yq_ap_0 (by omega)
      · rw [hgi]
        exact yq_ap_0 (by omega)
      · rw [hgi]
        exact yq_ap_0 (by omega)
      · rw [hgi]
        exact yq_ap_0 (by omega)
  · exact (ye_w0 (by omega) (by omega)).symm.trans (congrArg (ye_wr _) (show (0 : Int) = _ by omega))
theorem xw_155_0_37 : yt_hold xT_155 xk_155 xq_155.2.2.1 xG_155 xP_155 xU_155 19 xk_155.2.1.2.2.2 (fun g0 r g => xR_155 r g0 ∧ g = g0) (1000, ([(1, 1), ((-2147483648), (-1)), (1, 40), (0, 0), ((-2147483648), 2147483647), (0, 40), ((-2147483648), 2147483647), (0, 1), ((-2147483648), 2147483647), (0, 100), (1, 1), ((-2147483648), 2147483647), (0, 100), (0, 1), ((-2147483648), 2147483647), (0, 100), (0, 1), ((-2147483648), 2147483647), (0, 100), ((-2147483648), 0)], []), [([], (-3)), ([(19, 1)], 0), ([(5, 1)], 0), ([(6, 1)], 0)], [], []) := by
  intro g0 r gi g hok hh hars hfr hG
  have b0 : 1 ≤ r 0 ∧ r 0 ≤ 1 := hok.1 0 (1, 1) rfl
  have b1 : (-2147483648) ≤ r 1 ∧ r 1 ≤ (-1) := hok.1 1 ((-2147483648), (-1)) rfl
  have b2 : 1 ≤ r 2 ∧ r 2 ≤ 40 := hok.1 2 (1, 40) rfl
  have b3 : 0 ≤ r 3 ∧ r 3 ≤ 0 := hok.1 3 (0, 0) rfl
  have b4 : (-2147483648) ≤ r 4 ∧ r 4 ≤ 2147483647 := hok.1 4 ((-2147483648), 2147483647) rfl
  have b5 : 0 ≤ r 5 ∧ r 5 ≤ 40 := hok.1 5 (0, 40) rfl
  have b6 : (-2147483648) ≤ r 6 ∧ r 6 ≤ 2147483647 := hok.1 6 ((-2147483648), 2147483647) rfl
  have b7 : 0 ≤ r 7 ∧ r 7 ≤ 1 := hok.1 7 (0, 1) rfl
  have b8 : (-2147483648) ≤ r 8 ∧ r 8 ≤ 2147483647 := hok.1 8 ((-2147483648), 2147483647) rfl
  have b9 : 0 ≤ r 9 ∧ r 9 ≤ 100 := hok.1 9 (0, 100) rfl
  have b10 : 1 ≤ r 10 ∧ r 10 ≤ 1 := hok.1 10 (1, 1) rfl
  have b11 : (-2147483648) ≤ r 11 ∧ r 11 ≤ 2147483647 := hok.1 11 ((-2147483648), 2147483647) rfl
  have b12 : 0 ≤ r 12 ∧ r 12 ≤ 100 := hok.1 12 (0, 100) rfl
  have b13 : 0 ≤ r 13 ∧ r 13 ≤ 1 := hok.1 13 (0, 1) rfl
  have b14 : (-2147483648) ≤ r 14 ∧ r 14 ≤ 2147483647 := hok.1 14 ((-2147483648), 2147483647) rfl
  have b15 : 0 ≤ r 15 ∧ r 15 ≤ 100 := hok.1 15 (0, 100) rfl
  have b16 : 0 ≤ r 16 ∧ r 16 ≤ 1 := hok.1 16 (0, 1) rfl
  have b17 : (-2147483648) ≤ r 17 ∧ r 17 ≤ 2147483647 := hok.1 17 ((-2147483648), 2147483647) rfl
  have b18 : 0 ≤ r 18 ∧ r 18 ≤ 100 := hok.1 18 (0, 100) rfl
  have b19 : (-2147483648) ≤ r 19 ∧ r 19 ≤ 0 := hok.1 19 ((-2147483648), 0) rfl
  obtain ⟨hG, hgi⟩ := hG
  have hG : True := hG
  have hh : g = gi := hh
  subst hh
  refine yt_dalt (by decide) (by decide) ?_
  rw [show xk_155.2.1.2.1.1.length = 19 from rfl]
  show ((((0 : Int) + (-3)) = yq_tr ((1 * r 0 + 0) + 0) ((1 * r 1 + 0) + 0) ((1 * r 2 + 0) + 0) ((1 * r 3 + 0) + 0) (yq_at ((1 * r 0 + 0) + 0) ((1 * ((1 * r 7 + 0) + 0) + 0) + 0) ((1 * ((1 * r 10 + 0) + 0) + 0) + 0) ((1 * ((1 * r 13 + 0) + 0) + 0) + 0) ((1 * ((1 * r 16 + 0) + 0) + 0) + 0)) (yq_at ((1 * r 0 + 0) + 0) ((1 * ((1 * r 9 + 0) + 0) + 0) + 0) ((1 * ((1 * r 12 + 0) + 0) + 0) + 0) ((1 * ((1 * r 15 + 0) + 0) + 0) + 0) ((1 * ((1 * r 18 + 0) + 0) + 0) + 0)) (yq_nr (yq_fat ((1 * r 0 + 0) + 0) (g0 8) (g0 10) (g0 12) (g0 14)) ((1 * r 1 + 0) + 0) (yq_at ((1 * r 0 + 0) + 0) ((1 * ((1 * r 9 + 0) + 0) + 0) + 0) ((1 * ((1 * r 12 + 0) + 0) + 0) + 0) ((1 * ((1 * r 15 + 0) + 0) + 0) + 0) ((1 * ((1 * r 18 + 0) + 0) + 0) + 0)) (2 * ((1 * r 2 + 0) + 0)).toNat) ((1 * ((1 * r 5 + 0) + 0) + 0) + 0) ∧ ((1 * ((1 * r 5 + 0) + 0) + 0) + 0) = yq_tn ((0 : Int) + (-3)) ((1 * ((1 * r 5 + 0) + 0) + 0) + 0)) ∧ (g 2) = yq_ap ((1 * ((1 * r 5 + 0) + 0) + 0) + 0) ((1 * ((1 * r 5 + 0) + 0) + 0) + 0) (yq_vx (yq_fat ((1 * r 0 + 0) + 0) (g0 8) (g0 10) (g0 12) (g0 14)) (yq_at ((1 * r 0 + 0) + 0) ((1 * ((1 * r 9 + 0) + 0) + 0) + 0) ((1 * ((1 * r 12 + 0) + 0) + 0) + 0) ((1 * ((1 * r 15 + 0) + 0) + 0) + 0) ((1 * ((1 * r 18 + 0) + 0) + 0) + 0)) ((1 * r 1 + 0) + 0) ((1 * ((1 * r 5 + 0) + 0) + 0) + 0) 0) (g0 2) ∧ (g 3) = yq_ap ((1 * ((1 * r 5 + 0) + 0) + 0) + 0) ((1 * ((1 * r 5 + 0) + 0) + 0) + 0) (yq_vx (yq_fat ((1 * r 0 + 0) + 0) (g0 8) (g0 10) (g0 12) (g0 14)) (yq_at ((1 * r 0 + 0) + 0) ((1 * ((1 * r 9 + 0) + 0) + 0) + 0) ((1 * ((1 * r 12 + 0) + 0) + 0) + 0) ((1 * ((1 * r 15 + 0) + 0) + 0) + 0) ((1 * ((1 * r 18 + 0) + 0) + 0) + 0)) ((1 * r 1 + 0) + 0) ((1 * ((1 * r 5 + 0) + 0) + 0) + 0) 1) (g0 3) ∧ (g 4) = yq_ap ((1 * ((1 * r 5 + 0) + 0) + 0) + 0) ((1 * ((1 * r 5 + 0) + 0) + 0) + 0) (yq_ct ((1 * r 3 + 0) + 0)) (g0 4) ∧ (g 5) = yq_ap ((1 * ((1 * r 5 + 0) + 0) + 0) + 0) ((1 * ((1 * r 5 + 0) + 0) + 0) + 0) (yq_ct 1) (g0 5)) ∧ ((1 * ((1 * r 6 + 0) + 0) + 0) + 0) = ye_wr ((1 * ((1 * r 6 + 0) + 0) + 0) + 0) (((1 * ((1 * r 5 + 0) + 0) + 0) + 0) - ((1 * ((1 * r 5 + 0) + 0) + 0) + 0))
  try simp only [Int.one_mul, Int.zero_add, Int.add_zero]
  refine ⟨?_, ?_⟩
  · refine ⟨?_, ?_⟩
    · refine ⟨?_, ?_⟩
      · rw [show r 0 = 1 by omega]
        simp only [yq_at1, yq_fat1]
        unfold yq_tr
        repeat' split
        all_goals omega
      · unfold yq_tn
        repeat' split
        all_goals omega
    · refine ⟨?_, ?_, ?_, ?_⟩
      · rw [hgi]
        exact yq_ap_0 (by omega)
      · rw [hgi]
        exact yq_ap_0 (by omega)
      · rw [hgi]
        exact yq_ap_0 (by omega)
      · rw [hgi]
        exact yq_ap_0 (by omega)
  · exact (ye_w0 (by omega) (by omega)).symm.trans (congrArg (ye_wr _) (show (0 : Int) = _ by omega))
theorem xw_155_0_38 : yt_hold xT_155 xk_155 xq_155.2.2.1 xG_155 xP_155 xU_155 19 xk_155.2.1.2.2.2 (fun g0 r g => xR_155 r g0 ∧ g = g0) (1000, ([(1, 1), (0, 2147483647), (1, 40), (0, 0), ((-2147483648), 2147483647), (0, 40), ((-2147483648), 2147483647), (0, 1), ((-2147483648), 2147483647), (0, 100), (1, 1), ((-2147483648), 2147483647), (0, 100), (0, 1), ((-2147483648), 2147483647), (0, 100), (0, 1), ((-2147483648), 2147483647), (0, 100), ((-2147483648), 0)], [([(12, (-1)), (1, 1), (2, 2)], (-2))]), [([], (-3)), ([(19, 1)], 0), ([(5, 1)], 0), ([(6, 1)], 0)], [], []) := by
  intro g0 r gi g hok hh hars hfr hG
  have b0 : 1 ≤ r 0 ∧ r 0 ≤ 1 := hok.1 0 (1, 1) rfl
  have b1 : 0 ≤ r 1 ∧ r 1 ≤ 2147483647 := hok.1 1 (0, 2147483647) rfl
  have b2 : 1 ≤ r 2 ∧ r 2 ≤ 40 := hok.1 2 (1, 40) rfl
  have b3 : 0 ≤ r 3 ∧ r 3 ≤ 0 := hok.1 3 (0, 0) rfl
  have b4 : (-2147483648) ≤ r 4 ∧ r 4 ≤ 2147483647 := hok.1 4 ((-2147483648), 2147483647) rfl
  have b5 : 0 ≤ r 5 ∧ r 5 ≤ 40 := hok.1 5 (0, 40) rfl
  have b6 : (-2147483648) ≤ r 6 ∧ r 6 ≤ 2147483647 := hok.1 6 ((-2147483648), 2147483647) rfl
  have b7 : 0 ≤ r 7 ∧ r 7 ≤ 1 := hok.1 7 (0, 1) rfl
  have b8 : (-2147483648) ≤ r 8 ∧ r 8 ≤ 2147483647 := hok.1 8 ((-2147483648), 2147483647) rfl
  have b9 : 0 ≤ r 9 ∧ r 9 ≤ 100 := hok.1 9 (0, 100) rfl
  have b10 : 1 ≤ r 10 ∧ r 10 ≤ 1 := hok.1 10 (1, 1) rfl
  have b11 : (-2147483648) ≤ r 11 ∧ r 11 ≤ 2147483647 := hok.1 11 ((-2147483648), 2147483647) rfl
  have b12 : 0 ≤ r 12 ∧ r 12 ≤ 100 := hok.1 12 (0, 100) rfl
  have b13 : 0 ≤ r 13 ∧ r 13 ≤ 1 := hok.1 13 (0, 1) rfl
  have b14 : (-2147483648) ≤ r 14 ∧ r 14 ≤ 2147483647 := hok.1 14 ((-2147483648), 2147483647) rfl
  have b15 : 0 ≤ r 15 ∧ r 15 ≤ 100 := hok.1 15 (0, 100) rfl
  have b16 : 0 ≤ r 16 ∧ r 16 ≤ 1 := hok.1 16 (0, 1) rfl
  have b17 : (-2147483648) ≤ r 17 ∧ r 17 ≤ 2147483647 := hok.1 17 ((-2147483648), 2147483647) rfl
  have b18 : 0 ≤ r 18 ∧ r 18 ≤ 100 := hok.1 18 (0, 100) rfl
  have b19 : (-2147483648) ≤ r 19 ∧ r 19 ≤ 0 := hok.1 19 ((-2147483648), 0) rfl
  have f0 : 0 ≤ (((-1) * r 12 + (1 * r 1 + (2 * r 2 + 0))) + (-2)) := hok.2 _ (List.mem_of_getElem? (i := 0) rfl)
  obtain ⟨hG, hgi⟩ := hG
  have hG : True := hG
  have hh : g = gi := hh
  subst hh
  refine yt_dalt (by decide) (by decide) ?_
  rw [show xk_155.2.1.2.1.1.length = 19 from rfl]
  show ((((0 : Int) + (-3)) = yq_tr ((1 * r 0 + 0) + 0) ((1 * r 1 + 0) + 0) ((1 * r 2 + 0) + 0) ((1 * r 3 + 0) + 0) (yq_at ((1 * r 0 + 0) + 0) ((1 * ((1 * r 7 + 0) + 0) + 0) + 0) ((1 * ((1 * r 10 + 0) + 0) + 0) + 0) ((1 * ((1 * r 13 + 0) + 0) + 0) + 0) ((1 * ((1 * r 16 + 0) + 0) + 0) + 0)) (yq_at ((1 * r 0 + 0) + 0) ((1 * ((1 * r 9 + 0) + 0) + 0) + 0) ((1 * ((1 * r 12 + 0) + 0) + 0) + 0) ((1 * ((1 * r 15 + 0) + 0) + 0) + 0) ((1 * ((1 * r 18 + 0) + 0) + 0) + 0)) (yq_nr (yq_fat ((1 * r 0 + 0) + 0) (g0 8) (g0 10) (g0 12) (g0 14)) ((1 * r 1 + 0) + 0) (yq_at ((1 * r 0 + 0) + 0) ((1 * ((1 * r 9 + 0) + 0) + 0) + 0) ((1 * ((1 * r 12 + 0) + 0) + 0) + 0) ((1 * ((1 * r 15 + 0) + 0) + 0) + 0) ((1 * ((1 * r 18 + 0) + 0) + 0) + 0)) (2 * ((1 * r 2 + 0) + 0)).toNat) ((1 * ((1 * r 5 + 0) + 0) + 0) + 0) ∧ ((1 * ((1 * r 5 + 0) + 0) + 0) + 0) = yq_tn ((0 : Int) + (-3)) ((1 * ((1 * r 5 + 0) + 0) + 0) + 0)) ∧ (g 2) = yq_ap ((1 * ((1 * r 5 + 0) + 0) + 0) + 0) ((1 * ((1 * r 5 + 0) + 0) + 0) + 0) (yq_vx (yq_fat ((1 * r 0 + 0) + 0) (g0 8) (g0 10) (g0 12) (g0 14)) (yq_at ((1 * r 0 + 0) + 0) ((1 * ((1 * r 9 + 0) + 0) + 0) + 0) ((1 * ((1 * r 12 + 0) + 0) + 0) + 0) ((1 * ((1 * r 15 + 0) + 0) + 0) + 0) ((1 * ((1 * r 18 + 0) + 0) + 0) + 0)) ((1 * r 1 + 0) + 0) ((1 * ((1 * r 5 + 0) + 0) + 0) + 0) 0) (g0 2) ∧ (g 3) = yq_ap ((1 * ((1 * r 5 + 0) + 0) + 0) + 0) ((1 * ((1 * r 5 + 0) + 0) + 0) + 0) (yq_vx (yq_fat ((1 * r 0 + 0) + 0) (g0 8) (g0 10) (g0 12) (g0 14)) (yq_at ((1 * r 0 + 0) + 0) ((1 * ((1 * r 9 + 0) + 0) + 0) + 0) ((1 * ((1 * r 12 + 0) + 0) + 0) + 0) ((1 * ((1 * r 15 + 0) + 0) + 0) + 0) ((1 * ((1 * r 18 + 0) + 0) + 0) + 0)) ((1 * r 1 + 0) + 0) ((1 * ((1 * r 5 + 0) + 0) + 0) + 0) 1) (g0 3) ∧ (g 4) = yq_ap ((1 * ((1 * r 5 + 0) + 0) + 0) + 0) ((1 * ((1 * r 5 + 0) + 0) + 0) + 0) (yq_ct ((1 * r 3 + 0) + 0)) (g0 4) ∧ (g 5) = yq_ap ((1 * ((1 * r 5 + 0) + 0) + 0) + 0) ((1 * ((1 * r 5 + 0) + 0) + 0) + 0) (yq_ct 1) (g0 5)) ∧ ((1 * ((1 * r 6 + 0) + 0) + 0) + 0) = ye_wr ((1 * ((1 * r 6 + 0) + 0) + 0) + 0) (((1 * ((1 * r 5 + 0) + 0) + 0) + 0) - ((1 * ((1 * r 5 + 0) + 0) + 0) + 0))
  try simp only [Int.one_mul, Int.zero_add, Int.add_zero]
  refine ⟨?_, ?_⟩
  · refine ⟨?_, ?_⟩
    · refine ⟨?_, ?_⟩
      · rw [show r 0 = 1 by omega]
        simp only [yq_at1, yq_fat1]
        unfold yq_tr
        repeat' split
        all_goals omega
      · unfold yq_tn
        repeat' split
        all_goals omega
    · refine ⟨?_, ?_, ?_, ?_⟩
      · rw [hgi]
        exact yq_ap_0 (by omega)
      · rw [hgi]
        exact yq_ap_0 (by omega)
      · rw [hgi]
        exact yq_ap_0 (by omega)
      · rw [hgi]
        exact yq_ap_0 (by omega)
  · exact (ye_w0 (by omega) (by omega)).symm.trans (congrArg (ye_wr _) (show (0 : Int) = _ by omega))
theorem xw_155_0_39 : yt_hold xT_155 xk_155 xq_155.2.2.1 xG_155 xP_155 xU_155 19 xk_155.2.1.2.2.2 (fun g0 r g => xR_155 r g0 ∧ g = g0) (1000, ([(1, 1), (0, 99), (1, 40), (0, 0), ((-2147483648), 2147483647), (0, 40), ((-2147483648), 2147483647), (0, 1), ((-2147483648), 2147483647), (0, 100), (1, 1), ((-2147483648), 2147483647), (1, 100), (0, 1), ((-2147483648), 2147483647), (0, 100), (0, 1), ((-2147483648), 2147483647), (0, 100), ((-2147483648), 0)], [([(2, 2), (1, 1)], (-1)), ([(12, 1), (1, (-1)), (2, (-2))], 1)]), [([], (-1)), ([(19, 1)], 0), ([(5, 1)], 0), ([(6, 1)], 0)], [], [.inr (.inr (.inl (118, 0, [([(1, 1)], 0), ([(2, 1)], 0), ([(10, 1)], 0), ([(11, 1)], 0), ([(12, 1)], 0)], [9, 10], [])))]) := by
  intro g0 r gi g hok hh hars hfr hG
  have b0 : 1 ≤ r 0 ∧ r 0 ≤ 1 := hok.1 0 (1, 1) rfl
  have b1 : 0 ≤ r 1 ∧ r 1 ≤ 99 := hok.1 1 (0, 99) rfl
  have b2 : 1 ≤ r 2 ∧ r 2 ≤ 40 := hok.1 2 (1, 40) rfl
  have b3 : 0 ≤ r 3 ∧ r 3 ≤ 0 := hok.1 3 (0, 0) rfl
  have b4 : (-2147483648) ≤ r 4 ∧ r 4 ≤ 2147483647 := hok.1 4 ((-2147483648), 2147483647) rfl
  have b5 : 0 ≤ r 5 ∧ r 5 ≤ 40 := hok.1 5 (0, 40) rfl
  have b6 : (-2147483648) ≤ r 6 ∧ r 6 ≤ 2147483647 := hok.1 6 ((-2147483648), 2147483647) rfl
  have b7 : 0 ≤ r 7 ∧ r 7 ≤ 1 := hok.1 7 (0, 1) rfl
  have b8 : (-2147483648) ≤ r 8 ∧ r 8 ≤ 2147483647 := hok.1 8 ((-2147483648), 2147483647) rfl
  have b9 : 0 ≤ r 9 ∧ r 9 ≤ 100 := hok.1 9 (0, 100) rfl
  have b10 : 1 ≤ r 10 ∧ r 10 ≤ 1 := hok.1 10 (1, 1) rfl
  have b11 : (-2147483648) ≤ r 11 ∧ r 11 ≤ 2147483647 := hok.1 11 ((-2147483648), 2147483647) rfl
  have b12 : 1 ≤ r 12 ∧ r 12 ≤ 100 := hok.1 12 (1, 100) rfl
  have b13 : 0 ≤ r 13 ∧ r 13 ≤ 1 := hok.1 13 (0, 1) rfl
  have b14 : (-2147483648) ≤ r 14 ∧ r 14 ≤ 2147483647 := hok.1 14 ((-2147483648), 2147483647) rfl
  have b15 : 0 ≤ r 15 ∧ r 15 ≤ 100 := hok.1 15 (0, 100) rfl
  have b16 : 0 ≤ r 16 ∧ r 16 ≤ 1 := hok.1 16 (0, 1) rfl
  have b17 : (-2147483648) ≤ r 17 ∧ r 17 ≤ 2147483647 := hok.1 17 ((-2147483648), 2147483647) rfl
  have b18 : 0 ≤ r 18 ∧ r 18 ≤ 100 := hok.1 18 (0, 100) rfl
  have b19 : (-2147483648) ≤ r 19 ∧ r 19 ≤ 0 := hok.1 19 ((-2147483648), 0) rfl
  have f0 : 0 ≤ ((2 * r 2 + (1 * r 1 + 0)) + (-1)) := hok.2 _ (List.mem_of_getElem? (i := 0) rfl)
  have f1 : 0 ≤ ((1 * r 12 + ((-1) * r 1 + ((-2) * r 2 + 0))) + 1) := hok.2 _ (List.mem_of_getElem? (i := 1) rfl)
  obtain ⟨hG, hgi⟩ := hG
  have hG : True := hG
  obtain ⟨h0, hh, e0, k0⟩ := hh
  have k0 : ∀ j, j ∉ [] → g j = h0 j := k0
  have e0 : yq_nr (h0 10) ((1 * r 1 + 0) + 0) ((1 * r 12 + 0) + 0) (2 * ((1 * r 2 + 0) + 0)).toNat = 0 := e0
  have hh : h0 = gi := hh
  subst hh
  refine yt_dalt (by decide) (by decide) ?_
  rw [show xk_155.2.1.2.1.1.length = 19 from rfl]
  show ((((0 : Int) + (-1)) = yq_tr ((1 * r 0 + 0) + 0) ((1 * r 1 + 0) + 0) ((1 * r 2 + 0) + 0) ((1 * r 3 + 0) + 0) (yq_at ((1 * r 0 + 0) + 0) ((1 * ((1 * r 7 + 0) + 0) + 0) + 0) ((1 * ((1 * r 10 + 0) + 0) + 0) + 0) ((1 * ((1 * r 13 + 0) + 0) + 0) + 0) ((1 * ((1 * r 16 + 0) + 0) + 0) + 0)) (yq_at ((1 * r 0 + 0) + 0) ((1 * ((1 * r 9 + 0) + 0) + 0) + 0) ((1 * ((1 * r 12 + 0) + 0) + 0) + 0) ((1 * ((1 * r 15 + 0) + 0) + 0) + 0) ((1 * ((1 * r 18 + 0) + 0) + 0) + 0)) (yq_nr (yq_fat ((1 * r 0 + 0) + 0) (g0 8) (g0 10) (g0 12) (g0 14)) ((1 * r 1 + 0) + 0) (yq_at ((1 * r 0 + 0) + 0) ((1 * ((1 * r 9 + 0) + 0) + 0) + 0) ((1 * ((1 * r 12 + 0) + 0) + 0) + 0) ((1 * ((1 * r 15 + 0) + 0) + 0) + 0) ((1 * ((1 * r 18 + 0) + 0) + 0) + 0)) (2 * ((1 * r 2 + 0) + 0)).toNat) ((1 * ((1 * r 5 + 0) + 0) + 0) + 0) ∧ ((1 * ((1 * r 5 + 0) + 0) + 0) + 0) = yq_tn ((0 : Int) + (-1)) ((1 * ((1 * r 5 + 0) + 0) + 0) + 0)) ∧ (g 2) = yq_ap ((1 * ((1 * r 5 + 0) + 0) + 0) + 0) ((1 * ((1 * r 5 + 0) + 0) + 0) + 0) (yq_vx (yq_fat ((1 * r 0 + 0) + 0) (g0 8) (g0 10) (g0 12) (g0 14)) (yq_at ((1 * r 0 + 0) + 0) ((1 * ((1 * r 9 + 0) + 0) + 0) + 0) ((1 * ((1 * r 12 + 0) + 0) + 0) + 0) ((1 * ((1 * r 15 + 0) + 0) + 0) + 0) ((1 * ((1 * r 18 + 0) + 0) + 0) + 0)) ((1 * r 1 + 0) + 0) ((1 * ((1 * r 5 + 0) + 0) + 0) + 0) 0) (g0 2) ∧ (g 3) = yq_ap ((1 * ((1 * r 5 + 0) + 0) + 0) + 0) ((1 * ((1 * r 5 + 0) + 0) + 0) + 0) (yq_vx (yq_fat ((1 * r 0 + 0) + 0) (g0 8) (g0 10) (g0 12) (g0 14)) (yq_at ((1 * r 0 + 0) + 0) ((1 * ((1 * r 9 + 0) + 0) + 0) + 0) ((1 * ((1 * r 12 + 0) + 0) + 0) + 0) ((1 * ((1 * r 15 + 0) + 0) + 0) + 0) ((1 * ((1 * r 18 + 0) + 0) + 0) + 0)) ((1 * r 1 + 0) + 0) ((1 * ((1 * r 5 + 0) + 0) + 0) + 0) 1) (g0 3) ∧ (g 4) = yq_ap ((1 * ((1 * r 5 + 0) + 0) + 0) + 0) ((1 * ((1 * r 5 + 0) + 0) + 0) + 0) (yq_ct ((1 * r 3 + 0) + 0)) (g0 4) ∧ (g 5) = yq_ap ((1 * ((1 * r 5 + 0) + 0) + 0) + 0) ((1 * ((1 * r 5 + 0) + 0) + 0) + 0) (yq_ct 1) (g0 5)) ∧ ((1 * ((1 * r 6 + 0) + 0) + 0) + 0) = ye_wr ((1 * ((1 * r 6 + 0) + 0) + 0) + 0) (((1 * ((1 * r 5 + 0) + 0) + 0) + 0) - ((1 * ((1 * r 5 + 0) + 0) + 0) + 0))
  try simp only [Int.one_mul, Int.zero_add, Int.add_zero]
  refine ⟨?_, ?_⟩
  · try simp only [Int.one_mul, Int.zero_add, Int.add_zero] at e0
    rw [hgi] at e0
    refine ⟨?_, ?_⟩
    · refine ⟨?_, ?_⟩
      · rw [show r 0 = 1 by omega]
        simp only [yq_at1, yq_fat1]
        unfold yq_tr
        repeat' split
        all_goals omega
      · unfold yq_tn
        repeat' split
        all_goals omega
    · refine ⟨?_, ?_, ?_, ?_⟩
      · rw [k0 2 (by decide), hgi]
        exact yq_ap_0 (by omega)
      · rw [k0 3 (by decide), hgi]
        exact yq_ap_0 (by omega)
      · rw [k0 4 (by decide), hgi]
        exact yq_ap_0 (by omega)
      · rw [k0 5 (by decide), hgi]
        exact yq_ap_0 (by omega)
  · exact (ye_w0 (by omega) (by omega)).symm.trans (congrArg (ye_wr _) (show (0 : Int) = _ by omega))
theorem xw_155_0_40 : yt_hold xT_155 xk_155 xq_155.2.2.1 xG_155 xP_155 xU_155 19 xk_155.2.1.2.2.2 (fun g0 r g => xR_155 r g0 ∧ g = g0) (0, ([(1, 1), (0, 99), (1, 40), (0, 0), ((-2147483648), 2147483647), (0, 39), ((-2147483648), 2147483647), (0, 1), ((-2147483648), 2147483647), (0, 100), (1, 1), ((-2147483648), 2147483647), (1, 100), (0, 1), ((-2147483648), 2147483647), (0, 100), (0, 1), ((-2147483648), 2147483647), (0, 100)], [([(2, (-1)), (5, (-1))], 40), ([(12, 1), (1, (-1)), (2, (-2))], 1)]), [([], 0), ([(5, 1)], 0), ([(6, 1)], 0)], [], [.inr (.inr (.inl (118, 1, [([(1, 1)], 0), ([(2, 1)], 0), ([(10, 1)], 0), ([(11, 1)], 0), ([(12, 1)], 0)], [9, 10], [])))]) := by
  intro g0 r gi g hok hh hars hfr hG
  have b0 : 1 ≤ r 0 ∧ r 0 ≤ 1 := hok.1 0 (1, 1) rfl
  have b1 : 0 ≤ r 1 ∧ r 1 ≤ 99 := hok.1 1 (0, 99) rfl
  have b2 : 1 ≤ r 2 ∧ r 2 ≤ 40 := hok.1 2 (1, 40) rfl
  have b3 : 0 ≤ r 3 ∧ r 3 ≤ 0 := hok.1 3 (0, 0) rfl
  have b4 : (-2147483648) ≤ r 4 ∧ r 4 ≤ 2147483647 := hok.1 4 ((-2147483648), 2147483647) rfl
  have b5 : 0 ≤ r 5 ∧ r 5 ≤ 39 := hok.1 5 (0, 39) rfl
  have b6 : (-2147483648) ≤ r 6 ∧ r 6 ≤ 2147483647 := hok.1 6 ((-2147483648), 2147483647) rfl
  have b7 : 0 ≤ r 7 ∧ r 7 ≤ 1 := hok.1 7 (0, 1) rfl
  have b8 : (-2147483648) ≤ r 8 ∧ r 8 ≤ 2147483647 := hok.1 8 ((-2147483648), 2147483647) rfl
  have b9 : 0 ≤ r 9 ∧ r 9 ≤ 100 := hok.1 9 (0, 100) rfl
  have b10 : 1 ≤ r 10 ∧ r 10 ≤ 1 := hok.1 10 (1, 1) rfl
  have b11 : (-2147483648) ≤ r 11 ∧ r 11 ≤ 2147483647 := hok.1 11 ((-2147483648), 2147483647) rfl
  have b12 : 1 ≤ r 12 ∧ r 12 ≤ 100 := hok.1 12 (1, 100) rfl
  have b13 : 0 ≤ r 13 ∧ r 13 ≤ 1 := hok.1 13 (0, 1) rfl
  have b14 : (-2147483648) ≤ r 14 ∧ r 14 ≤ 2147483647 := hok.1 14 ((-2147483648), 2147483647) rfl
  have b15 : 0 ≤ r 15 ∧ r 15 ≤ 100 := hok.1 15 (0, 100) rfl
  have b16 : 0 ≤ r 16 ∧ r 16 ≤ 1 := hok.1 16 (0, 1) rfl
  have b17 : (-2147483648) ≤ r 17 ∧ r 17 ≤ 2147483647 := hok.1 17 ((-2147483648), 2147483647) rfl
  have b18 : 0 ≤ r 18 ∧ r 18 ≤ 100 := hok.1 18 (0, 100) rfl
  have f0 : 0 ≤ (((-1) * r 2 + ((-1) * r 5 + 0)) + 40) := hok.2 _ (List.mem_of_getElem? (i := 0) rfl)
  have f1 : 0 ≤ ((1 * r 12 + ((-1) * r 1 + ((-2) * r 2 + 0))) + 1) := hok.2 _ (List.mem_of_getElem? (i := 1) rfl)
  obtain ⟨hG, hgi⟩ := hG
  have hG : True := hG
  obtain ⟨h0, hh, e0, k0⟩ := hh
  have k0 : ∀ j, j ∉ [] → g j = h0 j := k0
  have e0 : yq_nr (h0 10) ((1 * r 1 + 0) + 0) ((1 * r 12 + 0) + 0) (2 * ((1 * r 2 + 0) + 0)).toNat = 1 := e0
  have hh : h0 = gi := hh
  subst hh
  refine yt_dcut (by decide) rfl ?_ ?_
  · exact fun f hf => absurd hf List.not_mem_nil
  · rw [show xk_155.2.1.2.1.1.length = 19 from rfl]
    show ((yq_at ((1 * r 0 + 0) + 0) ((1 * ((1 * r 7 + 0) + 0) + 0) + 0) ((1 * ((1 * r 10 + 0) + 0) + 0) + 0) ((1 * ((1 * r 13 + 0) + 0) + 0) + 0) ((1 * ((1 * r 16 + 0) + 0) + 0) + 0)) ≠ 0 ∧ (0 ≤ ((1 * r 1 + 0) + 0) ∧ ((1 * r 1 + 0) + 0) + 2 * ((1 * r 2 + 0) + 0) - 2 < (yq_at ((1 * r 0 + 0) + 0) ((1 * ((1 * r 9 + 0) + 0) + 0) + 0) ((1 * ((1 * r 12 + 0) + 0) + 0) + 0) ((1 * ((1 * r 15 + 0) + 0) + 0) + 0) ((1 * ((1 * r 18 + 0) + 0) + 0) + 0))) ∧ (yq_nr (yq_fat ((1 * r 0 + 0) + 0) (g0 8) (g0 10) (g0 12) (g0 14)) ((1 * r 1 + 0) + 0) (yq_at ((1 * r 0 + 0) + 0) ((1 * ((1 * r 9 + 0) + 0) + 0) + 0) ((1 * ((1 * r 12 + 0) + 0) + 0) + 0) ((1 * ((1 * r 15 + 0) + 0) + 0) + 0) ((1 * ((1 * r 18 + 0) + 0) + 0) + 0)) (2 * ((1 * r 2 + 0) + 0)).toNat) = 1 ∧ ((1 * ((1 * r 5 + 0) + 0) + 0) + 0) = ((1 * ((1 * r 5 + 0) + 0) + 0) + 0) + ((1 * ((0 : Int) + 0) + 0) + 0) ∧ ((1 * ((0 : Int) + 0) + 0) + 0) ≤ ((1 * r 2 + 0) + 0) ∧ (g 2) = yq_ap (((1 * ((1 * r 5 + 0) + 0) + 0) + 0) + ((1 * ((0 : Int) + 0) + 0) + 0)) ((1 * ((1 * r 5 + 0) + 0) + 0) + 0) (yq_vx (yq_fat ((1 * r 0 + 0) + 0) (g0 8) (g0 10) (g0 12) (g0 14)) (yq_at ((1 * r 0 + 0) + 0) ((1 * ((1 * r 9 + 0) + 0) + 0) + 0) ((1 * ((1 * r 12 + 0) + 0) + 0) + 0) ((1 * ((1 * r 15 + 0) + 0) + 0) + 0) ((1 * ((1 * r 18 + 0) + 0) + 0) + 0)) ((1 * r 1 + 0) + 0) ((1 * ((1 * r 5 + 0) + 0) + 0) + 0) 0) (g0 2) ∧ (g 3) = yq_ap (((1 * ((1 * r 5 + 0) + 0) + 0) + 0) + ((1 * ((0 : Int) + 0) + 0) + 0)) ((1 * ((1 * r 5 + 0) + 0) + 0) + 0) (yq_vx (yq_fat ((1 * r 0 + 0) + 0) (g0 8) (g0 10) (g0 12) (g0 14)) (yq_at ((1 * r 0 + 0) + 0) ((1 * ((1 * r 9 + 0) + 0) + 0) + 0) ((1 * ((1 * r 12 + 0) + 0) + 0) + 0) ((1 * ((1 * r 15 + 0) + 0) + 0) + 0) ((1 * ((1 * r 18 + 0) + 0) + 0) + 0)) ((1 * r 1 + 0) + 0) ((1 * ((1 * r 5 + 0) + 0) + 0) + 0) 1) (g0 3) ∧ (g 4) = yq_ap (((1 * ((1 * r 5 + 0) + 0) + 0) + 0) + ((1 * ((0 : Int) + 0) + 0) + 0)) ((1 * ((1 * r 5 + 0) + 0) + 0) + 0) (yq_ct ((1 * r 3 + 0) + 0)) (g0 4) ∧ (g 5) = yq_ap (((1 * ((1 * r 5 + 0) + 0) + 0) + 0) + ((1 * ((0 : Int) + 0) + 0) + 0)) ((1 * ((1 * r 5 + 0) + 0) + 0) + 0) (yq_ct 1) (g0 5)) ∧ ((1 * ((1 * r 6 + 0) + 0) + 0) + 0) = ye_wr ((1 * ((1 * r 6 + 0) + 0) + 0) + 0) ((1 * ((0 : Int) + 0) + 0) + 0)
    try simp only [Int.one_mul, Int.zero_add, Int.add_zero]
    refine ⟨?_, ?_⟩
    · try simp only [Int.one_mul, Int.zero_add, Int.add_zero] at e0
      rw [hgi] at e0
      rw [show r 0 = 1 by omega]
      simp only [yq_at1, yq_fat1]
      refine ⟨?_, ?_, ?_, ?_, ?_, ?_, ?_, ?_, ?_⟩
      · omega
      · omega
      · exact e0
      · omega
      · omega
      · rw [k0 2 (by decide), hgi]
        exact yq_ap_0 (by omega)
      · rw [k0 3 (by decide), hgi]
        exact yq_ap_0 (by omega)
      · rw [k0 4 (by decide), hgi]
        exact yq_ap_0 (by omega)
      · rw [k0 5 (by decide), hgi]
        exact yq_ap_0 (by omega)
    · exact (ye_w0 (by omega) (by omega)).symm.trans (congrArg (ye_wr _) (show (0 : Int) = _ by omega))
theorem xw_155_0_41 : yt_hold xT_155 xk_155 xq_155.2.2.1 xG_155 xP_155 xU_155 19 xk_155.2.1.2.2.2 (fun g0 r g => xR_155 r g0 ∧ g = g0) (1000, ([(1, 1), (0, 99), (1, 40), (0, 0), ((-2147483648), 2147483647), (1, 40), ((-2147483648), 2147483647), (0, 1), ((-2147483648), 2147483647), (0, 100), (1, 1), ((-2147483648), 2147483647), (1, 100), (0, 1), ((-2147483648), 2147483647), (0, 100), (0, 1), ((-2147483648), 2147483647), (0, 100), ((-2147483648), 0)], [([(2, 1), (5, 1)], (-41)), ([(12, 1), (1, (-1)), (2, (-2))], 1)]), [([], (-5)), ([(19, 1)], 0), ([(5, 1)], 0), ([(6, 1)], 0)], [], [.inr (.inr (.inl (118, 1, [([(1, 1)], 0), ([(2, 1)], 0), ([(10, 1)], 0), ([(11, 1)], 0), ([(12, 1)], 0)], [9, 10], [])))]) := by
  intro g0 r gi g hok hh hars hfr hG
  have b0 : 1 ≤ r 0 ∧ r 0 ≤ 1 := hok.1 0 (1, 1) rfl
  have b1 : 0 ≤ r 1 ∧ r 1 ≤ 99 := hok.1 1 (0, 99) rfl
  have b2 : 1 ≤ r 2 ∧ r 2 ≤ 40 := hok.1 2 (1, 40) rfl
  have b3 : 0 ≤ r 3 ∧ r 3 ≤ 0 := hok.1 3 (0, 0) rfl
  have b4 : (-2147483648) ≤ r 4 ∧ r 4 ≤ 2147483647 := hok.1 4 ((-2147483648), 2147483647) rfl
  have b5 : 1 ≤ r 5 ∧ r 5 ≤ 40 := hok.1 5 (1, 40) rfl
  have b6 : (-2147483648) ≤ r 6 ∧ r 6 ≤ 2147483647 := hok.1 6 ((-2147483648), 2147483647) rfl
  have b7 : 0 ≤ r 7 ∧ r 7 ≤ 1 := hok.1 7 (0, 1) rfl
  have b8 : (-2147483648) ≤ r 8 ∧ r 8 ≤ 2147483647 := hok.1 8 ((-2147483648), 2147483647) rfl
  have b9 : 0 ≤ r 9 ∧ r 9 ≤ 100 := hok.1 9 (0, 100) rfl
  have b10 : 1 ≤ r 10 ∧ r 10 ≤ 1 := hok.1 10 (1, 1) rfl
  have b11 : (-2147483648) ≤ r 11 ∧ r 11 ≤ 2147483647 := hok.1 11 ((-2147483648), 2147483647) rfl
  have b12 : 1 ≤ r 12 ∧ r 12 ≤ 100 := hok.1 12 (1, 100) rfl
  have b13 : 0 ≤ r 13 ∧ r 13 ≤ 1 := hok.1 13 (0, 1) rfl
  have b14 : (-2147483648) ≤ r 14 ∧ r 14 ≤ 2147483647 := hok.1 14 ((-2147483648), 2147483647) rfl
  have b15 : 0 ≤ r 15 ∧ r 15 ≤ 100 := hok.1 15 (0, 100) rfl
  have b16 : 0 ≤ r 16 ∧ r 16 ≤ 1 := hok.1 16 (0, 1) rfl
  have b17 : (-2147483648) ≤ r 17 ∧ r 17 ≤ 2147483647 := hok.1 17 ((-2147483648), 2147483647) rfl
  have b18 : 0 ≤ r 18 ∧ r 18 ≤ 100 := hok.1 18 (0, 100) rfl
  have b19 : (-2147483648) ≤ r 19 ∧ r 19 ≤ 0 := hok.1 19 ((-2147483648), 0) rfl
  have f0 : 0 ≤ ((1 * r 2 + (1 * r 5 + 0)) + (-41)) := hok.2 _ (List.mem_of_getElem? (i := 0) rfl)
  have f1 : 0 ≤ ((1 * r 12 + ((-1) * r 1 + ((-2) * r 2 + 0))) + 1) := hok.2 _ (List.mem_of_getElem? (i := 1) rfl)
  obtain ⟨hG, hgi⟩ := hG
  have hG : True := hG
  obtain ⟨h0, hh, e0, k0⟩ := hh
  have k0 : ∀ j, j ∉ [] → g j = h0 j := k0
  have e0 : yq_nr (h0 10) ((1 * r 1 + 0) + 0) ((1 * r 12 + 0) + 0) (2 * ((1 * r 2 + 0) + 0)).toNat = 1 := e0
  have hh : h0 = gi := hh
  subst hh
  refine yt_dalt (by decide) (by decide) ?_
  rw [show xk_155.2.1.2.1.1.length = 19 from rfl]
  show ((((0 : Int) + (-5)) = yq_tr ((1 * r 0 + 0) + 0) ((1 * r 1 + 0) + 0) ((1 * r 2 + 0) + 0) ((1 * r 3 + 0) + 0) (yq_at ((1 * r 0 + 0) + 0) ((1 * ((1 * r 7 + 0) + 0) + 0) + 0) ((1 * ((1 * r 10 + 0) + 0) + 0) + 0) ((1 * ((1 * r 13 + 0) + 0) + 0) + 0) ((1 * ((1 * r 16 + 0) + 0) + 0) + 0)) (yq_at ((1 * r 0 + 0) + 0) ((1 * ((1 * r 9 + 0) + 0) + 0) + 0) ((1 * ((1 * r 12 + 0) + 0) + 0) + 0) ((1 * ((1 * r 15 + 0) + 0) + 0) + 0) ((1 * ((1 * r 18 + 0) + 0) + 0) + 0)) (yq_nr (yq_fat ((1 * r 0 + 0) + 0) (g0 8) (g0 10) (g0 12) (g0 14)) ((1 * r 1 + 0) + 0) (yq_at ((1 * r 0 + 0) + 0) ((1 * ((1 * r 9 + 0) + 0) + 0) + 0) ((1 * ((1 * r 12 + 0) + 0) + 0) + 0) ((1 * ((1 * r 15 + 0) + 0) + 0) + 0) ((1 * ((1 * r 18 + 0) + 0) + 0) + 0)) (2 * ((1 * r 2 + 0) + 0)).toNat) ((1 * ((1 * r 5 + 0) + 0) + 0) + 0) ∧ ((1 * ((1 * r 5 + 0) + 0) + 0) + 0) = yq_tn ((0 : Int) + (-5)) ((1 * ((1 * r 5 + 0) + 0) + 0) + 0)) ∧ (g 2) = yq_ap ((1 * ((1 * r 5 + 0) + 0) + 0) + 0) ((1 * ((1 * r 5 + 0) + 0) + 0) + 0) (yq_vx (yq_fat ((1 * r 0 + 0) + 0) (g0 8) (g0 10) (g0 12) (g0 14)) (yq_at ((1 * r 0 + 0) + 0) ((1 * ((1 * r 9 + 0) + 0) + 0) + 0) ((1 * ((1 * r 12 + 0) + 0) + 0) + 0) ((1 * ((1 * r 15 + 0) + 0) + 0) + 0) ((1 * ((1 * r 18 + 0) + 0) + 0) + 0)) ((1 * r 1 + 0) + 0) ((1 * ((1 * r 5 + 0) + 0) + 0) + 0) 0) (g0 2) ∧ (g 3) = yq_ap ((1 * ((1 * r 5 + 0) + 0) + 0) + 0) ((1 * ((1 * r 5 + 0) + 0) + 0) + 0) (yq_vx (yq_fat ((1 * r 0 + 0) + 0) (g0 8) (g0 10) (g0 12) (g0 14)) (yq_at ((1 * r 0 + 0) + 0) ((1 * ((1 * r 9 + 0) + 0) + 0) + 0) ((1 * ((1 * r 12 + 0) + 0) + 0) + 0) ((1 * ((1 * r 15 + 0) + 0) + 0) + 0) ((1 * ((1 * r 18 + 0) + 0) + 0) + 0)) ((1 * r 1 + 0) + 0) ((1 * ((1 * r 5 + 0) + 0) + 0) + 0) 1) (g0 3) ∧ (g 4) = yq_ap ((1 * ((1 * r 5 + 0) + 0) + 0) + 0) ((1 * ((1 * r 5 + 0) + 0) + 0) + 0) (yq_ct ((1 * r 3 + 0) + 0)) (g0 4) ∧ (g 5) = yq_ap ((1 * ((1 * r 5 + 0) + 0) + 0) + 0) ((1 * ((1 * r 5 + 0) + 0) + 0) + 0) (yq_ct 1) (g0 5)) ∧ ((1 * ((1 * r 6 + 0) + 0) + 0) + 0) = ye_wr ((1 * ((1 * r 6 + 0) + 0) + 0) + 0) (((1 * ((1 * r 5 + 0) + 0) + 0) + 0) - ((1 * ((1 * r 5 + 0) + 0) + 0) + 0))
  try simp only [Int.one_mul, Int.zero_add, Int.add_zero]
  refine ⟨?_, ?_⟩
  · try simp only [Int.one_mul, Int.zero_add, Int.add_zero] at e0
    rw [hgi] at e0
    refine ⟨?_, ?_⟩
    · refine ⟨?_, ?_⟩
      · rw [show r 0 = 1 by omega]
        simp only [yq_at1, yq_fat1]
        unfold yq_tr
        repeat' split
        all_goals omega
      · unfold yq_tn
        repeat' split
        all_goals omega
    · refine ⟨?_, ?_, ?_, ?_⟩
      · rw [k0 2 (by decide), hgi]
        exact yq_ap_0 (by omega)
      · rw [k0 3 (by decide), hgi]
        exact yq_ap_0 (by omega)
      · rw [k0 4 (by decide), hgi]
        exact yq_ap_0 (by omega)
      · rw [k0 5 (by decide), hgi]
        exact yq_ap_0 (by omega)
  · exact (ye_w0 (by omega) (by omega)).symm.trans (congrArg (ye_wr _) (show (0 : Int) = _ by omega))
theorem xw_155_0_42 : yt_hold xT_155 xk_155 xq_155.2.2.1 xG_155 xP_155 xU_155 19 xk_155.2.1.2.2.2 (fun g0 r g => xR_155 r g0 ∧ g = g0) (1000, ([(1, 1), ((-2147483648), 2147483647), (1, 40), (0, 0), ((-2147483648), 2147483647), (0, 40), ((-2147483648), 2147483647), (0, 1), ((-2147483648), 2147483647), (0, 100), (0, 0), ((-2147483648), 2147483647), (0, 100), (0, 1), ((-2147483648), 2147483647), (0, 100), (0, 1), ((-2147483648), 2147483647), (0, 100), ((-2147483648), 0)], []), [([], (-2)), ([(19, 1)], 0), ([(5, 1)], 0), ([(6, 1)], 0)], [], []) := by
  intro g0 r gi g hok hh hars hfr hG
  have b0 : 1 ≤ r 0 ∧ r 0 ≤ 1 := hok.1 0 (1, 1) rfl
  have b1 : (-2147483648) ≤ r 1 ∧ r 1 ≤ 2147483647 := hok.1 1 ((-2147483648), 2147483647) rfl
  have b2 : 1 ≤ r 2 ∧ r 2 ≤ 40 := hok.1 2 (1, 40) rfl
  have b3 : 0 ≤ r 3 ∧ r 3 ≤ 0 := hok.1 3 (0, 0) rfl
  have b4 : (-2147483648) ≤ r 4 ∧ r 4 ≤ 2147483647 := hok.1 4 ((-2147483648), 2147483647) rfl
  have b5 : 0 ≤ r 5 ∧ r 5 ≤ 40 := hok.1 5 (0, 40) rfl
  have b6 : (-2147483648) ≤ r 6 ∧ r 6 ≤ 2147483647 := hok.1 6 ((-2147483648), 2147483647) rfl
  have b7 : 0 ≤ r 7 ∧ r 7 ≤ 1 := hok.1 7 (0, 1) rfl
  have b8 : (-2147483648) ≤ r 8 ∧ r 8 ≤ 2147483647 := hok.1 8 ((-2147483648), 2147483647) rfl
  have b9 : 0 ≤ r 9 ∧ r 9 ≤ 100 := hok.1 9 (0, 100) rfl
  have b10 : 0 ≤ r 10 ∧ r 10 ≤ 0 := hok.1 10 (0, 0) rfl
  have b11 : (-2147483648) ≤ r 11 ∧ r 11 ≤ 2147483647 := hok.1 11 ((-2147483648), 2147483647) rfl
  have b12 : 0 ≤ r 12 ∧ r 12 ≤ 100 := hok.1 12 (0, 100) rfl
  have b13 : 0 ≤ r 13 ∧ r 13 ≤ 1 := hok.1 13 (0, 1) rfl
  have b14 : (-2147483648) ≤ r 14 ∧ r 14 ≤ 2147483647 := hok.1 14 ((-2147483648), 2147483647) rfl
  have b15 : 0 ≤ r 15 ∧ r 15 ≤ 100 := hok.1 15 (0, 100) rfl
  have b16 : 0 ≤ r 16 ∧ r 16 ≤ 1 := hok.1 16 (0, 1) rfl
  have b17 : (-2147483648) ≤ r 17 ∧ r 17 ≤ 2147483647 := hok.1 17 ((-2147483648), 2147483647) rfl
  have b18 : 0 ≤ r 18 ∧ r 18 ≤ 100 := hok.1 18 (0, 100) rfl
  have b19 : (-2147483648) ≤ r 19 ∧ r 19 ≤ 0 := hok.1 19 ((-2147483648), 0) rfl
  obtain ⟨hG, hgi⟩ := hG
  have hG : True := hG
  have hh : g = gi := hh
  subst hh
  refine yt_dalt (by decide) (by decide) ?_
  rw [show xk_155.2.1.2.1.1.length = 19 from rfl]
  show ((((0 : Int) + (-2)) = yq_tr ((1 * r 0 + 0) + 0) ((1 * r 1 + 0) + 0) ((1 * r 2 + 0) + 0) ((1 * r 3 + 0) + 0) (yq_at ((1 * r 0 + 0) + 0) ((1 * ((1 * r 7 + 0) + 0) + 0) + 0) ((1 * ((1 * r 10 + 0) + 0) + 0) + 0) ((1 * ((1 * r 13 + 0) + 0) + 0) + 0) ((1 * ((1 * r 16 + 0) + 0) + 0) + 0)) (yq_at ((1 * r 0 + 0) + 0) ((1 * ((1 * r 9 + 0) + 0) + 0) + 0) ((1 * ((1 * r 12 + 0) + 0) + 0) + 0) ((1 * ((1 * r 15 + 0) + 0) + 0) + 0) ((1 * ((1 * r 18 + 0) + 0) + 0) + 0)) (yq_nr (yq_fat ((1 * r 0 + 0) + 0) (g0 8) (g0 10) (g0 12) (g0 14)) ((1 * r 1 + 0) + 0) (yq_at ((1 * r 0 + 0) + 0) ((1 * ((1 * r 9 + 0) + 0) + 0) + 0) ((1 * ((1 * r 12 + 0) + 0) + 0) + 0) ((1 * ((1 * r 15 + 0) + 0) + 0) + 0) ((1 * ((1 * r 18 + 0) + 0) + 0) + 0)) (2 * ((1 * r 2 + 0) + 0)).toNat) ((1 * ((1 * r 5 + 0) + 0) + 0) + 0) ∧ ((1 * ((1 * r 5 + 0) + 0) + 0) + 0) = yq_tn ((0 : Int) + (-2)) ((1 * ((1 * r 5 + 0) + 0) + 0) + 0)) ∧ (g 2) = yq_ap ((1 * ((1 * r 5 + 0) + 0) + 0) + 0) ((1 * ((1 * r 5 + 0) + 0) + 0) + 0) (yq_vx (yq_fat ((1 * r 0 + 0) + 0) (g0 8) (g0 10) (g0 12) (g0 14)) (yq_at ((1 * r 0 + 0) + 0) ((1 * ((1 * r 9 + 0) + 0) + 0) + 0) ((1 * ((1 * r 12 + 0) + 0) + 0) + 0) ((1 * ((1 * r 15 + 0) + 0) + 0) + 0) ((1 * ((1 * r 18 + 0) + 0) + 0) + 0)) ((1 * r 1 + 0) + 0) ((1 * ((1 * r 5 + 0) + 0) + 0) + 0) 0) (g0 2) ∧ (g 3) = yq_ap ((1 * ((1 * r 5 + 0) + 0) + 0) + 0) ((1 * ((1 * r 5 + 0) + 0) + 0) + 0) (yq_vx (yq_fat ((1 * r 0 + 0) + 0) (g0 8) (g0 10) (g0 12) (g0 14)) (yq_at ((1 * r 0 + 0) + 0) ((1 * ((1 * r 9 + 0) + 0) + 0) + 0) ((1 * ((1 * r 12 + 0) + 0) + 0) + 0) ((1 * ((1 * r 15 + 0) + 0) + 0) + 0) ((1 * ((1 * r 18 + 0) + 0) + 0) + 0)) ((1 * r 1 + 0) + 0) ((1 * ((1 * r 5 + 0) + 0) + 0) + 0) 1) (g0 3) ∧ (g 4) = yq_ap ((1 * ((1 * r 5 + 0) + 0) + 0) + 0) ((1 * ((1 * r 5 + 0) + 0) + 0) + 0) (yq_ct ((1 * r 3 + 0) + 0)) (g0 4) ∧ (g 5) = yq_ap ((1 * ((1 * r 5 + 0) + 0) + 0) + 0) ((1 * ((1 * r 5 + 0) + 0) + 0) + 0) (yq_ct 1) (g0 5)) ∧ ((1 * ((1 * r 6 + 0) + 0) + 0) + 0) = ye_wr ((1 * ((1 * r 6 + 0) + 0) + 0) + 0) (((1 * ((1 * r 5 + 0) + 0) + 0) + 0) - ((1 * ((1 * r 5 + 0) + 0) + 0) + 0))
  try simp only [Int.one_mul, Int.zero_add, Int.add_zero]
  refine ⟨?_, ?_⟩
  · refine ⟨?_, ?_⟩
    · refine ⟨?_, ?_⟩
      · rw [show r 0 = 1 by omega]
        simp only [yq_at1, yq_fat1]
        unfold yq_tr
        repeat' split
        all_goals omega
      · unfold yq_tn
        repeat' split
        all_goals omega
    · refine ⟨?_, ?_, ?_, ?_⟩
      · rw [hgi]
        exact yq_ap_0 (by omega)
      · rw [hgi]
        exact yq_ap_0 (by omega)
      · rw [hgi]
        exact yq_ap_0 (by omega)
      · rw [hgi]
        exact yq_ap_0 (by omega)
  · exact (ye_w0 (by omega) (by omega)).symm.trans (congrArg (ye_wr _) (show (0 : Int) = _ by omega))
theorem xw_155_0_43 : yt_hold xT_155 xk_155 xq_155.2.2.1 xG_155 xP_155 xU_155 19 xk_155.2.1.2.2.2 (fun g0 r g => xR_155 r g0 ∧ g = g0) (1000, ([(2, 2), ((-2147483648), (-1)), (1, 40), (0, 0), ((-2147483648), 2147483647), (0, 40), ((-2147483648), 2147483647), (0, 1), ((-2147483648), 2147483647), (0, 100), (0, 1), ((-2147483648), 2147483647), (0, 100), (1, 1), ((-2147483648), 2147483647), (0, 100), (0, 1), ((-2147483648), 2147483647), (0, 100), ((-2147483648), 0)], []), [([], (-3)), ([(19, 1)], 0), ([(5, 1)], 0), ([(6, 1)], 0)], [], []) := by
  intro g0 r gi g hok hh hars hfr hG
  have b0 : 2 ≤ r 0 ∧ r 0 ≤ 2 := hok.1 0 (2, 2) rfl
  have b1 : (-2147483648) ≤ r 1 ∧ r 1 ≤ (-1) := hok.1 1 ((-2147483648), (-1)) rfl
  have b2 : 1 ≤ r 2 ∧ r 2 ≤ 40 := hok.1 2 (1, 40) rfl
  have b3 : 0 ≤ r 3 ∧ r 3 ≤ 0 := hok.1 3 (0, 0) rfl
  have b4 : (-2147483648) ≤ r 4 ∧ r 4 ≤ 2147483647 := hok.1 4 ((-2147483648), 2147483647) rfl
  have b5 : 0 ≤ r 5 ∧ r 5 ≤ 40 := hok.1 5 (0, 40) rfl
  have b6 : (-2147483648) ≤ r 6 ∧ r 6 ≤ 2147483647 := hok.1 6 ((-2147483648), 2147483647) rfl
  have b7 : 0 ≤ r 7 ∧ r 7 ≤ 1 := hok.1 7 (0, 1) rfl
  have b8 : (-2147483648) ≤ r 8 ∧ r 8 ≤ 2147483647 := hok.1 8 ((-2147483648), 2147483647) rfl
  have b9 : 0 ≤ r 9 ∧ r 9 ≤ 100 := hok.1 9 (0, 100) rfl
  have b10 : 0 ≤ r 10 ∧ r 10 ≤ 1 := hok.1 10 (0, 1) rfl
  have b11 : (-2147483648) ≤ r 11 ∧ r 11 ≤ 2147483647 := hok.1 11 ((-2147483648), 2147483647) rfl
  have b12 : 0 ≤ r 12 ∧ r 12 ≤ 100 := hok.1 12 (0, 100) rfl
  have b13 : 1 ≤ r 13 ∧ r 13 ≤ 1 := hok.1 13 (1, 1) rfl
  have b14 : (-2147483648) ≤ r 14 ∧ r 14 ≤ 2147483647 := hok.1 14 ((-2147483648), 2147483647) rfl
  have b15 : 0 ≤ r 15 ∧ r 15 ≤ 100 := hok.1 15 (0, 100) rfl
  have b16 : 0 ≤ r 16 ∧ r 16 ≤ 1 := hok.1 16 (0, 1) rfl
  have b17 : (-2147483648) ≤ r 17 ∧ r 17 ≤ 2147483647 := hok.1 17 ((-2147483648), 2147483647) rfl
  have b18 : 0 ≤ r 18 ∧ r 18 ≤ 100 := hok.1 18 (0, 100) rfl
  have b19 : (-2147483648) ≤ r 19 ∧ r 19 ≤ 0 := hok.1 19 ((-2147483648), 0) rfl
  obtain ⟨hG, hgi⟩ := hG
  have hG : True := hG
  have hh : g = gi := hh
  subst hh
  refine yt_dalt (by decide) (by decide) ?_
  rw [show xk_155.2.1.2.1.1.length = 19 from rfl]
  show ((((0 : Int) + (-3)) = yq_tr ((1 * r 0 + 0) + 0) ((1 * r 1 + 0) + 0) ((1 * r 2 + 0) + 0) ((1 * r 3 + 0) + 0) (yq_at ((1 * r 0 + 0) + 0) ((1 * ((1 * r 7 + 0) + 0) + 0) + 0) ((1 * ((1 * r 10 + 0) + 0) + 0) + 0) ((1 * ((1 * r 13 + 0) + 0) + 0) + 0) ((1 * ((1 * r 16 + 0) + 0) + 0) + 0)) (yq_at ((1 * r 0 + 0) + 0) ((1 * ((1 * r 9 + 0) + 0) + 0) + 0) ((1 * ((1 * r 12 + 0) + 0) + 0) + 0) ((1 * ((1 * r 15 + 0) + 0) + 0) + 0) ((1 * ((1 * r 18 + 0) + 0) + 0) + 0)) (yq_nr (yq_fat ((1 * r 0 + 0) + 0) (g0 8) (g0 10) (g0 12) (g0 14)) ((1 * r 1 + 0) + 0) (yq_at ((1 * r 0 + 0) + 0) ((1 * ((1 * r 9 + 0) + 0) + 0) + 0) ((1 * ((1 * r 12 + 0) + 0) + 0) + 0) ((1 * ((1 * r 15 + 0) + 0) + 0) + 0) ((1 * ((1 * r 18 + 0) + 0) + 0) + 0)) (2 * ((1 * r 2 + 0) + 0)).toNat) ((1 * ((1 * r 5 + 0) + 0) + 0) + 0) ∧ ((1 * ((1 * r 5 + 0) + 0) + 0) + 0) = yq_tn ((0 : Int) + (-3)) ((1 * ((1 * r 5 + 0) + 0) + 0) + 0)) ∧ (g 2) = yq_ap ((1 * ((1 * r 5 + 0) + 0) + 0) + 0) ((1 * ((1 * r 5 + 0) + 0) + 0) + 0) (yq_vx (yq_fat ((1 * r 0 + 0) + 0) (g0 8) (g0 10) (g0 12) (g0 14)) (yq_at ((1 * r 0 + 0) + 0) ((1 * ((1 * r 9 + 0) + 0) + 0) + 0) ((1 * ((1 * r 12 + 0) + 0) + 0) + 0) ((1 * ((1 * r 15 + 0) + 0) + 0) + 0) ((1 * ((1 * r 18 + 0) + 0) + 0) + 0)) ((1 * r 1 + 0) + 0) ((1 * ((1 * r 5 + 0) + 0) + 0) + 0) 0) (g0 2) ∧ (g 3) = yq_ap ((1 * ((1 * r 5 + 0) + 0) + 0) + 0) ((1 * ((1 * r 5 + 0) + 0) + 0) + 0) (yq_vx (yq_fat ((1 * r 0 + 0) + 0) (g0 8) (g0 10) (g0 12) (g0 14)) (yq_at ((1 * r 0 + 0) + 0) ((1 * ((1 * r 9 + 0) + 0) + 0) + 0) ((1 * ((1 * r 12 + 0) + 0) + 0) + 0) ((1 * ((1 * r 15 + 0) + 0) + 0) + 0) ((1 * ((1 * r 18 + 0) + 0) + 0) + 0)) ((1 * r 1 + 0) + 0) ((1 * ((1 * r 5 + 0) + 0) + 0) + 0) 1) (g0 3) ∧ (g 4) = yq_ap ((1 * ((1 * r 5 + 0) + 0) + 0) + 0) ((1 * ((1 * r 5 + 0) + 0) + 0) + 0) (yq_ct ((1 * r 3 + 0) + 0)) (g0 4) ∧ (g 5) = yq_ap ((1 * ((1 * r 5 + 0) + 0) + 0) + 0) ((1 * ((1 * r 5 + 0) + 0) + 0) + 0) (yq_ct 1) (g0 5)) ∧ ((1 * ((1 * r 6 + 0) + 0) + 0) + 0) = ye_wr ((1 * ((1 * r 6 + 0) + 0) + 0) + 0) (((1 * ((1 * r 5 + 0) + 0) + 0) + 0) - ((1 * ((1 * r 5 + 0) + 0) + 0) + 0))
  try simp only [Int.one_mul, Int.zero_add, Int.add_zero]
  refine ⟨?_, ?_⟩
  · refine ⟨?_, ?_⟩
    · refine ⟨?_, ?_⟩
      · rw [show r 0 = 2 by omega]
        simp only [yq_at2, yq_fat2]
        unfold yq_tr
        repeat' split
        all_goals omega
      · unfold yq_tn
        repeat' split
        all_goals omega
    · refine ⟨?_, ?_, ?_, ?_⟩
      · rw [hgi]
        exact yq_ap_0 (by omega)
      · rw [hgi]
        exact yq_ap_0 (by omega)
      · rw [hgi]
        exact yq_ap_0 (by omega)
      · rw [hgi]
        exact yq_ap_0 (by omega)
  · exact (ye_w0 (by omega) (by omega)).symm.trans (congrArg (ye_wr _) (show (0 : Int) = _ by omega))
theorem xw_155_0_44 : yt_hold xT_155 xk_155 xq_155.2.2.1 xG_155 xP_155 xU_155 19 xk_155.2.1.2.2.2 (fun g0 r g => xR_155 r g0 ∧ g = g0) (1000, ([(2, 2), (0, 2147483647), (1, 40), (0, 0), ((-2147483648), 2147483647), (0, 40), ((-2147483648), 2147483647), (0, 1), ((-2147483648), 2147483647), (0, 100), (0, 1), ((-2147483648), 2147483647), (0, 100), (1, 1), ((-2147483648), 2147483647), (0, 100), (0, 1), ((-2147483648), 2147483647), (0, 100), ((-2147483648), 0)], [([(15, (-1)), (1, 1), (2, 2)], (-2))]), [([], (-3)), ([(19, 1)], 0), ([(5, 1)], 0), ([(6, 1)], 0)], [], []) := by
  intro g0 r gi g hok hh hars hfr hG
  have b0 : 2 ≤ r 0 ∧ r 0 ≤ 2 := hok.1 0 (2, 2) rfl
  have b1 : 0 ≤ r 1 ∧ r 1 ≤ 2147483647 := hok.1 1 (0, 2147483647) rfl
  have b2 : 1 ≤ r 2 ∧ r 2 ≤ 40 := hok.1 2 (1, 40) rfl
  have b3 : 0 ≤ r 3 ∧ r 3 ≤ 0 := hok.1 3 (0, 0) rfl
  have b4 : (-2147483648) ≤ r 4 ∧ r 4 ≤ 2147483647 := hok.1 4 ((-2147483648), 2147483647) rfl
  have b5 : 0 ≤ r 5 ∧ r 5 ≤ 40 := hok.1 5 (0, 40) rfl
  have b6 : (-2147483648) ≤ r 6 ∧ r 6 ≤ 2147483647 := hok.1 6 ((-2147483648), 2147483647) rfl
  have b7 : 0 ≤ r 7 ∧ r 7 ≤ 1 := hok.1 7 (0, 1) rfl
  have b8 : (-2147483648) ≤ r 8 ∧ r 8 ≤ 2147483647 := hok.1 8 ((-2147483648), 2147483647) rfl
  have b9 : 0 ≤ r 9 ∧ r 9 ≤ 100 := hok.1 9 (0, 100) rfl
  have b10 : 0 ≤ r 10 ∧ r 10 ≤ 1 := hok.1 10 (0, 1) rfl
  have b11 : (-2147483648) ≤ r 11 ∧ r 11 ≤ 2147483647 := hok.1 11 ((-2147483648), 2147483647) rfl
  have b12 : 0 ≤ r 12 ∧ r 12 ≤ 100 := hok.1 12 (0, 100) rfl
  have b13 : 1 ≤ r 13 ∧ r 13 ≤ 1 := hok.1 13 (1, 1) rfl
  have b14 : (-2147483648) ≤ r 14 ∧ r 14 ≤ 2147483647 := hok.1 14 ((-2147483648), 2147483647) rfl
  have b15 : 0 ≤ r 15 ∧ r 15 ≤ 100 := hok.1 15 (0, 100) rfl
  have b16 : 0 ≤ r 16 ∧ r 16 ≤ 1 := hok.1 16 (0, 1) rfl
  have b17 : (-2147483648) ≤ r 17 ∧ r 17 ≤ 2147483647 := hok.1 17 ((-2147483648), 2147483647) rfl
  have b18 : 0 ≤ r 18 ∧ r 18 ≤ 100 := hok.1 18 (0, 100) rfl
  have b19 : (-2147483648) ≤ r 19 ∧ r 19 ≤ 0 := hok.1 19 ((-2147483648), 0) rfl
  have f0 : 0 ≤ (((-1) * r 15 + (1 * r 1 + (2 * r 2 + 0))) + (-2)) := hok.2 _ (List.mem_of_getElem? (i := 0) rfl)
  obtain ⟨hG, hgi⟩ := hG
  have hG : True := hG
  have hh : g = gi := hh
  subst hh
  refine yt_dalt (by decide) (by decide) ?_
  rw [show xk_155.2.1.2.1.1.length = 19 from rfl]
  show ((((0 : Int) + (-3)) = yq_tr ((1 * r 0 + 0) + 0) ((1 * r 1 + 0) + 0) ((1 * r 2 + 0) + 0) ((1 * r 3 + 0) + 0) (yq_at ((1 * r 0 + 0) + 0) ((1 * ((1 * r 7 + 0) + 0) + 0) + 0) ((1 * ((1 * r 10 + 0) + 0) + 0) + 0) ((1 * ((1 * r 13 + 0) + 0) + 0) + 0) ((1 * ((1 * r 16 + 0) + 0) + 0) + 0)) (yq_at ((1 * r 0 + 0) + 0) ((1 * ((1 * r 9 + 0) + 0) + 0) + 0) ((1 * ((1 * r 12 + 0) + 0) + 0) + 0) ((1 * ((1 * r 15 + 0) + 0) + 0) + 0) ((1 * ((1 * r 18 + 0) + 0) + 0) + 0)) (yq_nr (yq_fat ((1 * r 0 + 0) + 0) (g0 8) (g0 10) (g0 12) (g0 14)) ((1 * r 1 + 0) + 0) (yq_at ((1 * r 0 + 0) + 0) ((1 * ((1 * r 9 + 0) + 0) + 0) + 0) ((1 * ((1 * r 12 + 0) + 0) + 0) + 0) ((1 * ((1 * r 15 + 0) + 0) + 0) + 0) ((1 * ((1 * r 18 + 0) + 0) + 0) + 0)) (2 * ((1 * r 2 + 0) + 0)).toNat) ((1 * ((1 * r 5 + 0) + 0) + 0) + 0) ∧ ((1 * ((1 * r 5 + 0) + 0) + 0) + 0) = yq_tn ((0 : Int) + (-3)) ((1 * ((1 * r 5 + 0) + 0) + 0) + 0)) ∧ (g 2) = yq_ap ((1 * ((1 * r 5 + 0) + 0) + 0) + 0) ((1 * ((1 * r 5 + 0) + 0) + 0) + 0) (yq_vx (yq_fat ((1 * r 0 + 0) + 0) (g0 8) (g0 10) (g0 12) (g0 14)) (yq_at ((1 * r 0 + 0) + 0) ((1 * ((1 * r 9 + 0) + 0) + 0) + 0) ((1 * ((1 * r 12 + 0) + 0) + 0) + 0) ((1 * ((1 * r 15 + 0) + 0) + 0) + 0) ((1 * ((1 * r 18 + 0) + 0) + 0) + 0)) ((1 * r 1 + 0) + 0) ((1 * ((1 * r 5 + 0) + 0) + 0) + 0) 0) (g0 2) ∧ (g 3) = yq_ap ((1 * ((1 * r 5 + 0) + 0) + 0) + 0) ((1 * ((1 * r 5 + 0) + 0) + 0) + 0) (yq_vx (yq_fat ((1 * r 0 + 0) + 0) (g0 8) (g0 10) (g0 12) (g0 14)) (yq_at ((1 * r 0 + 0) + 0) ((1 * ((1 * r 9 + 0) + 0) + 0) + 0) ((1 * ((1 * r 12 + 0) + 0) + 0) + 0) ((1 * ((1 * r 15 + 0) + 0) + 0) + 0) ((1 * ((1 * r 18 + 0) + 0) + 0) + 0)) ((1 * r 1 + 0) + 0) ((1 * ((1 * r 5 + 0) + 0) + 0) + 0) 1) (g0 3) ∧ (g 4) = yq_ap ((1 * ((1 * r 5 + 0) + 0) + 0) + 0) ((1 * ((1 * r 5 + 0) + 0) + 0) + 0) (yq_ct ((1 * r 3 + 0) + 0)) (g0 4) ∧ (g 5) = yq_ap ((1 * ((1 * r 5 + 0) + 0) + 0) + 0) ((1 * ((1 * r 5 + 0) + 0) + 0) + 0) (yq_ct 1) (g0 5)) ∧ ((1 * ((1 * r 6 + 0) + 0) + 0) + 0) = ye_wr ((1 * ((1 * r 6 + 0) + 0) + 0) + 0) (((1 * ((1 * r 5 + 0) + 0) + 0) + 0) - ((1 * ((1 * r 5 + 0) + 0) + 0) + 0))
  try simp only [Int.one_mul, Int.zero_add, Int.add_zero]
  refine ⟨?_, ?_⟩
  · refine ⟨?_, ?_⟩
    · refine ⟨?_, ?_⟩
      · rw [show r 0 = 2 by omega]
        simp only [yq_at2, yq_fat2]
        unfold yq_tr
        repeat' split
        all_goals omega
      · unfold yq_tn
        repeat' split
        all_goals omega
    · refine ⟨?_, ?_, ?_, ?_⟩
      · rw [hgi]
        exact yq_ap_0 (by omega)
      · rw [hgi]
        exact yq_ap_0 (by omega)
      · rw [hgi]
        exact yq_ap_0 (by omega)
      · rw [hgi]
        exact yq_ap_0 (by omega)
  · exact (ye_w0 (by omega) (by omega)).symm.trans (congrArg (ye_wr _) (show (0 : Int) = _ by omega))
theorem xw_155_0_45 : yt_hold xT_155 xk_155 xq_155.2.2.1 xG_155 xP_155 xU_155 19 xk_155.2.1.2.2.2 (fun g0 r g => xR_155 r g0 ∧ g = g0) (1000, ([(2, 2), (0, 99), (1, 40), (0, 0), ((-2147483648), 2147483647), (0, 40), ((-2147483648), 2147483647), (0, 1), ((-2147483648), 2147483647), (0, 100), (0, 1), ((-2147483648), 2147483647), (0, 100), (1, 1), ((-2147483648), 2147483647), (1, 100), (0, 1), ((-2147483648), 2147483647), (0, 100), ((-2147483648), 0)], [([(2, 2), (1, 1)], (-1)), ([(15, 1), (1, (-1)), (2, (-2))], 1)]), [([], (-1)), ([(19, 1)], 0), ([(5, 1)], 0), ([(6, 1)], 0)], [], [.inr (.inr (.inl (118, 0, [([(1, 1)], 0), ([(2, 1)], 0), ([(13, 1)], 0), ([(14, 1)], 0), ([(15, 1)], 0)], [11, 12], [])))]) := by
  intro g0 r gi g hok hh hars hfr hG
  have b0 : 2 ≤ r 0 ∧ r 0 ≤ 2 := hok.1 0 (2, 2) rfl
  have b1 : 0 ≤ r 1 ∧ r 1 ≤ 99 := hok.1 1 (0, 99) rfl
  have b2 : 1 ≤ r 2 ∧ r 2 ≤ 40 := hok.1 2 (1, 40) rfl
  have b3 : 0 ≤ r 3 ∧ r 3 ≤ 0 := hok.1 3 (0, 0) rfl
  have b4 : (-2147483648) ≤ r 4 ∧ r 4 ≤ 2147483647 := hok.1 4 ((-2147483648), 2147483647) rfl
  have b5 : 0 ≤ r 5 ∧ r 5 ≤ 40 := hok.1 5 (0, 40) rfl
  have b6 : (-2147483648) ≤ r 6 ∧ r 6 ≤ 2147483647 := hok.1 6 ((-2147483648), 2147483647) rfl
  have b7 : 0 ≤ r 7 ∧ r 7 ≤ 1 := hok.1 7 (0, 1) rfl
  have b8 : (-2147483648) ≤ r 8 ∧ r 8 ≤ 2147483647 := hok.1 8 ((-2147483648), 2147483647) rfl
  have b9 : 0 ≤ r 9 ∧ r 9 ≤ 100 := hok.1 9 (0, 100) rfl
  have b10 : 0 ≤ r 10 ∧ r 10 ≤ 1 := hok.1 10 (0, 1) rfl
  have b11 : (-2147483648) ≤ r 11 ∧ r 11 ≤ 2147483647 := hok.1 11 ((-2147483648), 2147483647) rfl
  have b12 : 0 ≤ r 12 ∧ r 12 ≤ 100 := hok.1 12 (0, 100) rfl
  have b13 : 1 ≤ r 13 ∧ r 13 ≤ 1 := hok.1 13 (1, 1) rfl
  have b14 : (-2147483648) ≤ r 14 ∧ r 14 ≤ 2147483647 := hok.1 14 ((-2147483648), 2147483647) rfl
  have b15 : 1 ≤ r 15 ∧ r 15 ≤ 100 := hok.1 15 (1, 100) rfl
  have b16 : 0 ≤ r 16 ∧ r 16 ≤ 1 := hok.1 16 (0, 1) rfl
  have b17 : (-2147483648) ≤ r 17 ∧ r 17 ≤ 2147483647 := hok.1 17 ((-2147483648), 2147483647) rfl
  have b18 : 0 ≤ r 18 ∧ r 18 ≤ 100 := hok.1 18 (0, 100) rfl
  have b19 : (-2147483648) ≤ r 19 ∧ r 19 ≤ 0 := hok.1 19 ((-2147483648), 0) rfl
  have f0 : 0 ≤ ((2 * r 2 + (1 * r 1 + 0)) + (-1)) := hok.2 _ (List.mem_of_getElem? (i := 0) rfl)
  have f1 : 0 ≤ ((1 * r 15 + ((-1) * r 1 + ((-2) * r 2 + 0))) + 1) := hok.2 _ (List.mem_of_getElem? (i := 1) rfl)
  obtain ⟨hG, hgi⟩ := hG
  have hG : True := hG
  obtain ⟨h0, hh, e0, k0⟩ := hh
  have k0 : ∀ j, j ∉ [] → g j = h0 j := k0
  have e0 : yq_nr (h0 12) ((1 * r 1 + 0) + 0) ((1 * r 15 + 0) + 0) (2 * ((1 * r 2 + 0) + 0)).toNat = 0 := e0
  have hh : h0 = gi := hh
  subst hh
  refine yt_dalt (by decide) (by decide) ?_
  rw [show xk_155.2.1.2.1.1.length = 19 from rfl]
  show ((((0 : Int) + (-1)) = yq_tr ((1 * r 0 + 0) + 0) ((1 * r 1 + 0) + 0) ((1 * r 2 + 0) + 0) ((1 * r 3 + 0) + 0) (yq_at ((1 * r 0 + 0) + 0) ((1 * ((1 * r 7 + 0) + 0) + 0) + 0) ((1 * ((1 * r 10 + 0) + 0) + 0) + 0) ((1 * ((1 * r 13 + 0) + 0) + 0) + 0) ((1 * ((1 * r 16 + 0) + 0) + 0) + 0)) (yq_at ((1 * r 0 + 0) + 0) ((1 * ((1 * r 9 + 0) + 0) + 0) + 0) ((1 * ((1 * r 12 + 0) + 0) + 0) + 0) ((1 * ((1 * r 15 + 0) + 0) + 0) + 0) ((1 * ((1 * r 18 + 0) + 0) + 0) + 0)) (yq_nr (yq_fat ((1 * r 0 + 0) + 0) (g0 8) (g0 10) (g0 12) (g0 14)) ((1 * r 1 + 0) + 0) (yq_at ((1 * r 0 + 0) + 0) ((1 * ((1 * r 9 + 0) + 0) + 0) + 0) ((1 * ((1 * r 12 + 0) + 0) + 0) + 0) ((1 * ((1 * r 15 + 0) + 0) + 0) + 0) ((1 * ((1 * r 18 + 0) + 0) + 0) + 0)) (2 * ((1 * r 2 + 0) + 0)).toNat) ((1 * ((1 * r 5 + 0) + 0) + 0) + 0) ∧ ((1 * ((1 * r 5 + 0) + 0) + 0) + 0) = yq_tn ((0 : Int) + (-1)) ((1 * ((1 * r 5 + 0) + 0) + 0) + 0)) ∧ (g 2) = yq_ap ((1 * ((1 * r 5 + 0) + 0) + 0) + 0) ((1 * ((1 * r 5 + 0) + 0) + 0) + 0) (yq_vx (yq_fat ((1 * r 0 + 0) + 0) (g0 8) (g0 10) (g0 12) (g0 14)) (yq_at ((1 * r 0 + 0) + 0) ((1 * ((1 * r 9 + 0) + 0) + 0) + 0) ((1 * ((1 * r 12 + 0) + 0) + 0) + 0) ((1 * ((1 * r 15 + 0) + 0) + 0) + 0) ((1 * ((1 * r 18 + 0) + 0) + 0) + 0)) ((1 * r 1 + 0) + 0) ((1 * ((1 * r 5 + 0) + 0) + 0) + 0) 0) (g0 2) ∧ (g 3) = yq_ap ((1 * ((1 * r 5 + 0) + 0) + 0) + 0) ((1 * ((1 * r 5 + 0) + 0) + 0) + 0) (yq_vx (yq_fat ((1 * r 0 + 0) + 0) (g0 8) (g0 10) (g0 12) (g0 14)) (yq_at ((1 * r 0 + 0) + 0) ((1 * ((1 * r 9 + 0) + 0) + 0) + 0) ((1 * ((1 * r 12 + 0) + 0) + 0) + 0) ((1 * ((1 * r 15 + 0) + 0) + 0) + 0) ((1 * ((1 * r 18 + 0) + 0) + 0) + 0)) ((1 * r 1 + 0) + 0) ((1 * ((1 * r 5 + 0) + 0) + 0) + 0) 1) (g0 3) ∧ (g 4) = yq_ap ((1 * ((1 * r 5 + 0) + 0) + 0) + 0) ((1 * ((1 * r 5 + 0) + 0) + 0) + 0) (yq_ct ((1 * r 3 + 0) + 0)) (g0 4) ∧ (g 5) = yq_ap ((1 * ((1 * r 5 + 0) + 0) + 0) + 0) ((1 * ((1 * r 5 + 0) + 0) + 0) + 0) (yq_ct 1) (g0 5)) ∧ ((1 * ((1 * r 6 + 0) + 0) + 0) + 0) = ye_wr ((1 * ((1 * r 6 + 0) + 0) + 0) + 0) (((1 * ((1 * r 5 + 0) + 0) + 0) + 0) - ((1 * ((1 * r 5 + 0) + 0) + 0) + 0))
  try simp only [Int.one_mul, Int.zero_add, Int.add_zero]
  refine ⟨?_, ?_⟩
  · try simp only [Int.one_mul, Int.zero_add, Int.add_zero] at e0
    rw [hgi] at e0
    refine ⟨?_, ?_⟩
    · refine ⟨?_, ?_⟩
      · rw [show r 0 = 2 by omega]
        simp only [yq_at2, yq_fat2]
        unfold yq_tr
        repeat' split
        all_goals omega
      · unfold yq_tn
        repeat' split
        all_goals omega
    · refine ⟨?_, ?_, ?_, ?_⟩
      · rw [k0 2 (by decide), hgi]
        exact yq_ap_0 (by omega)
      · rw [k0 3 (by decide), hgi]
        exact yq_ap_0 (by omega)
      · rw [k0 4 (by decide), hgi]
        exact yq_ap_0 (by omega)
      · rw [k0 5 (by decide), hgi]
        exact yq_ap_0 (by omega)
  · exact (ye_w0 (by omega) (by omega)).symm.trans (congrArg (ye_wr _) (show (0 : Int) = _ by omega))
theorem xw_155_0_46 : yt_hold xT_155 xk_155 xq_155.2.2.1 xG_155 xP_155 xU_155 19 xk_155.2.1.2.2.2 (fun g0 r g => xR_155 r g0 ∧ g = g0) (0, ([(2, 2), (0, 99), (1, 40), (0, 0), ((-2147483648), 2147483647), (0, 39), ((-2147483648), 2147483647), (0, 1), ((-2147483648), 2147483647), (0, 100), (0, 1), ((-2147483648), 2147483647), (0, 100), (1, 1), ((-2147483648), 2147483647), (1, 100), (0, 1), ((-2147483648), 2147483647), (0, 100)], [([(2, (-1)), (5, (-1))], 40), ([(15, 1), (1, (-1)), (2, (-2))], 1)]), [([], 0), ([(5, 1)], 0), ([(6, 1)], 0)], [], [.inr (.inr (.inl (118, 1, [([(1, 1)], 0), ([(2, 1)], 0), ([(13, 1)], 0), ([(14, 1)], 0), ([(15, 1)], 0)], [11, 12], [])))]) := by
  intro g0 r gi g hok hh hars hfr hG
  have b0 : 2 ≤ r 0 ∧ r 0 ≤ 2 := hok.1 0 (2, 2) rfl
  have b1 : 0 ≤ r 1 ∧ r 1 ≤ 99 := hok.1 1 (0, 99) rfl
  have b2 : 1 ≤ r 2 ∧ r 2 ≤ 40 := hok.1 2 (1, 40) rfl
  have b3 : 0 ≤ r 3 ∧ r 3 ≤ 0 := hok.1 3 (0, 0) rfl
  have b4 : (-2147483648) ≤ r 4 ∧ r 4 ≤ 2147483647 := hok.1 4 ((-2147483648), 2147483647) rfl
  have b5 : 0 ≤ r 5 ∧ r 5 ≤ 39 := hok.1 5 (0, 39) rfl
  have b6 : (-2147483648) ≤ r 6 ∧ r 6 ≤ 2147483647 := hok.1 6 ((-2147483648), 2147483647) rfl
  have b7 : 0 ≤ r 7 ∧ r 7 ≤ 1 := hok.1 7 (0, 1) rfl
  have b8 : (-2147483648) ≤ r 8 ∧ r 8 ≤ 2147483647 := hok.1 8 ((-2147483648), 2147483647) rfl
  have b9 : 0 ≤ r 9 ∧ r 9 ≤ 100 := hok.1 9 (0, 100) rfl
  have b10 : 0 ≤ r 10 ∧ r 10 ≤ 1 := hok.1 10 (0, 1) rfl
  have b11 : (-2147483648) ≤ r 11 ∧ r 11 ≤ 2147483647 := hok.1 11 ((-2147483648), 2147483647) rfl
  have b12 : 0 ≤ r 12 ∧ r 12 ≤ 100 := hok.1 12 (0, 100) rfl
  have b13 : 1 ≤ r 13 ∧ r 13 ≤ 1 := hok.1 13 (1, 1) rfl
  have b14 : (-2147483648) ≤ r 14 ∧ r 14 ≤ 2147483647 := hok.1 14 ((-2147483648), 2147483647) rfl
  have b15 : 1 ≤ r 15 ∧ r 15 ≤ 100 := hok.1 15 (1, 100) rfl
  have b16 : 0 ≤ r 16 ∧ r 16 ≤ 1 := hok.1 16 (0, 1) rfl
  have b17 : (-2147483648) ≤ r 17 ∧ r 17 ≤ 2147483647 := hok.1 17 ((-2147483648), 2147483647) rfl
  have b18 : 0 ≤ r 18 ∧ r 18 ≤ 100 := hok.1 18 (0, 100) rfl
  have f0 : 0 ≤ (((-1) * r 2 + ((-1) * r 5 + 0)) + 40) := hok.2 _ (List.mem_of_getElem? (i := 0) rfl)
  have f1 : 0 ≤ ((1 * r 15 + ((-1) * r 1 + ((-2) * r 2 + 0))) + 1) := hok.2 _ (List.mem_of_getElem? (i := 1) rfl)
  obtain ⟨hG, hgi⟩ := hG
  have hG : True := hG
  obtain ⟨h0, hh, e0, k0⟩ := hh
  have k0 : ∀ j, j ∉ [] → g j = h0 j := k0
  have e0 : yq_nr (h0 12) ((1 * r 1 + 0) + 0) ((1 * r 15 + 0) + 0) (2 * ((1 * r 2 + 0) + 0)).toNat = 1 := e0
  have hh : h0 = gi := hh
  subst hh
  refine yt_dcut (by decide) rfl ?_ ?_
  · exact fun f hf => absurd hf List.not_mem_nil
  · rw [show xk_155.2.1.2.1.1.length = 19 from rfl]
    show ((yq_at ((1 * r 0 + 0) + 0) ((1 * ((1 * r 7 + 0) + 0) + 0) + 0) ((1 * ((1 * r 10 + 0) + 0) + 0) + 0) ((1 * ((1 * r 13 + 0) + 0) + 0) + 0) ((1 * ((1 * r 16 + 0) + 0) + 0) + 0)) ≠ 0 ∧ (0 ≤ ((1 * r 1 + 0) + 0) ∧ ((1 * r 1 + 0) + 0) + 2 * ((1 * r 2 + 0) + 0) - 2 < (yq_at ((1 * r 0 + 0) + 0) ((1 * ((1 * r 9 + 0) + 0) + 0) + 0) ((1 * ((1 * r 12 + 0) + 0) + 0) + 0) ((1 * ((1 * r 15 + 0) + 0) + 0) + 0) ((1 * ((1 * r 18 + 0) + 0) + 0) + 0))) ∧ (yq_nr (yq_fat ((1 * r 0 + 0) + 0) (g0 8) (g0 10) (g0 12) (g0 14)) ((1 * r 1 + 0) + 0) (yq_at ((1 * r 0 + 0) + 0) ((1 * ((1 * r 9 + 0) + 0) + 0) + 0) ((1 * ((1 * r 12 + 0) + 0) + 0) + 0) ((1 * ((1 * r 15 + 0) + 0) + 0) + 0) ((1 * ((1 * r 18 + 0) + 0) + 0) + 0)) (2 * ((1 * r 2 + 0) + 0)).toNat) = 1 ∧ ((1 * ((1 * r 5 + 0) + 0) + 0) + 0) = ((1 * ((1 * r 5 + 0) + 0) + 0) + 0) + ((1 * ((0 : Int) + 0) + 0) + 0) ∧ ((1 * ((0 : Int) + 0) + 0) + 0) ≤ ((1 * r 2 + 0) + 0) ∧ (g 2) = yq_ap (((1 * ((1 * r 5 + 0) + 0) + 0) + 0) + ((1 * ((0 : Int) + 0) + 0) + 0)) ((1 * ((1 * r 5 + 0) + 0) + 0) + 0) (yq_vx (yq_fat ((1 * r 0 + 0) + 0) (g0 8) (g0 10) (g0 12) (g0 14)) (yq_at ((1 * r 0 + 0) + 0) ((1 * ((1 * r 9 + 0) + 0) + 0) + 0) ((1 * ((1 * r 12 + 0) + 0) + 0) + 0) ((1 * ((1 * r 15 + 0) + 0) + 0) + 0) ((1 * ((1 * r 18 + 0) + 0) + 0) + 0)) ((1 * r 1 + 0) + 0) ((1 * ((1 * r 5 + 0) + 0) + 0) + 0) 0) (g0 2) ∧ (g 3) = yq_ap (((1 * ((1 * r 5 + 0) + 0) + 0) + 0) + ((1 * ((0 : Int) + 0) + 0) + 0)) ((1 * ((1 * r 5 + 0) + 0) + 0) + 0) (yq_vx (yq_fat ((1 * r 0 + 0) + 0) (g0 8) (g0 10) (g0 12) (g0 14)) (yq_at ((1 * r 0 + 0) + 0) ((1 * ((1 * r 9 + 0) + 0) + 0) + 0) ((1 * ((1 * r 12 + 0) + 0) + 0) + 0) ((1 * ((1 * r 15 + 0) + 0) + 0) + 0) ((1 * ((1 * r 18 + 0) + 0) + 0) + 0)) ((1 * r 1 + 0) + 0) ((1 * ((1 * r 5 + 0) + 0) + 0) + 0) 1) (g0 3) ∧ (g 4) = yq_ap (((1 * ((1 * r 5 + 0) + 0) + 0) + 0) + ((1 * ((0 : Int) + 0) + 0) + 0)) ((1 * ((1 * r 5 + 0) + 0) + 0) + 0) (yq_ct ((1 * r 3 + 0) + 0)) (g0 4) ∧ (g 5) = yq_ap (((1 * ((1 * r 5 + 0) + 0) + 0) + 0) + ((1 * ((0 : Int) + 0) + 0) + 0)) ((1 * ((1 * r 5 + 0) + 0) + 0) + 0) (yq_ct 1) (g0 5)) ∧ ((1 * ((1 * r 6 + 0) + 0) + 0) + 0) = ye_wr ((1 * ((1 * r 6 + 0) + 0) + 0) + 0) ((1 * ((0 : Int) + 0) + 0) + 0)
    try simp only [Int.one_mul, Int.zero_add, Int.add_zero]
    refine ⟨?_, ?_⟩
    · try simp only [Int.one_mul, Int.zero_add, Int.add_zero] at e0
      rw [hgi] at e0
      rw [show r 0 = 2 by omega]
      simp only [yq_at2, yq_fat2]
      refine ⟨?_, ?_, ?_, ?_, ?_, ?_, ?_, ?_, ?_⟩
      · omega
      · omega
      · exact e0
      · omega
      · omega
      · rw [k0 2 (by decide), hgi]
        exact yq_ap_0 (by omega)
      · rw [k0 3 (by decide), hgi]
        exact yq_ap_0 (by omega)
      · rw [k0 4 (by decide), hgi]
        exact yq_ap_0 (by omega)
      · rw [k0 5 (by decide), hgi]
        exact yq_ap_0 (by omega)
    · exact (ye_w0 (by omega) (by omega)).symm.trans (congrArg (ye_wr _) (show (0 : Int) = _ by omega))
theorem xw_155_0_47 : yt_hold xT_155 xk_155 xq_155.2.2.1 xG_155 xP_155 xU_155 19 xk_155.2.1.2.2.2 (fun g0 r g => xR_155 r g0 ∧ g = g0) (1000, ([(2, 2), (0, 99), (1, 40), (0, 0), ((-2147483648), 2147483647), (1, 40), ((-2147483648), 2147483647), (0, 1), ((-2147483648), 2147483647), (0, 100), (0, 1), ((-2147483648), 2147483647), (0, 100), (1, 1), ((-2147483648), 2147483647), (1, 100), (0, 1), ((-2147483648), 2147483647), (0, 100), ((-2147483648), 0)], [([(2, 1), (5, 1)], (-41)), ([(15, 1), (1, (-1)), (2, (-2))], 1)]), [([], (-5)), ([(19, 1)], 0), ([(5, 1)], 0), ([(6, 1)], 0)], [], [.inr (.inr (.inl (118, 1, [([(1, 1)], 0), ([(2, 1)], 0), ([(13, 1)], 0), ([(14, 1)], 0), ([(15, 1)], 0)], [11, 12], [])))]) := by
  intro g0 r gi g hok hh hars hfr hG
  have b0 : 2 ≤ r 0 ∧ r 0 ≤ 2 := hok.1 0 (2, 2) rfl
  have b1 : 0 ≤ r 1 ∧ r 1 ≤ 99 := hok.1 1 (0, 99) rfl
  have b2 : 1 ≤ r 2 ∧ r 2 ≤ 40 := hok.1 2 (1, 40) rfl
  have b3 : 0 ≤ r 3 ∧ r 3 ≤ 0 := hok.1 3 (0, 0) rfl
  have b4 : (-2147483648) ≤ r 4 ∧ r 4 ≤ 2147483647 := hok.1 4 ((-2147483648), 2147483647) rfl
  have b5 : 1 ≤ r 5 ∧ r 5 ≤ 40 := hok.1 5 (1, 40) rfl
  have b6 : (-2147483648) ≤ r 6 ∧ r 6 ≤ 2147483647 := hok.1 6 ((-2147483648), 2147483647) rfl
  have b7 : 0 ≤ r 7 ∧ r 7 ≤ 1 := hok.1 7 (0, 1) rfl
  have b8 : (-2147483648) ≤ r 8 ∧ r 8 ≤ 2147483647 := hok.1 8 ((-2147483648), 2147483647) rfl
  have b9 : 0 ≤ r 9 ∧ r 9 ≤ 100 := hok.1 9 (0, 100) rfl
  have b10 : 0 ≤ r 10 ∧ r 10 ≤ 1 := hok.1 10 (0, 1) rfl
  have b11 : (-2147483648) ≤ r 11 ∧ r 11 ≤ 2147483647 := hok.1 11 ((-2147483648), 2147483647) rfl
  have b12 : 0 ≤ r 12 ∧ r 12 ≤ 100 := hok.1 12 (0, 100) rfl
  have b13 : 1 ≤ r 13 ∧ r 13 ≤ 1 := hok.1 13 (1, 1) rfl
  have b14 : (-2147483648) ≤ r 14 ∧ r 14 ≤ 2147483647 := hok.1 14 ((-2147483648), 2147483647) rfl
  have b15 : 1 ≤ r 15 ∧ r 15 ≤ 100 := hok.1 15 (1, 100) rfl
  have b16 : 0 ≤ r 16 ∧ r 16 ≤ 1 := hok.1 16 (0, 1) rfl
  have b17 : (-2147483648) ≤ r 17 ∧ r 17 ≤ 2147483647 := hok.1 17 ((-2147483648), 2147483647) rfl
  have b18 : 0 ≤ r 18 ∧ r 18 ≤ 100 := hok.1 18 (0, 100) rfl
  have b19 : (-2147483648) ≤ r 19 ∧ r 19 ≤ 0 := hok.1 19 ((-2147483648), 0) rfl
  have f0 : 0 ≤ ((1 * r 2 + (1 * r 5 + 0)) + (-41)) := hok.2 _ (List.mem_of_getElem? (i := 0) rfl)
  have f1 : 0 ≤ ((1 * r 15 + ((-1) * r 1 + ((-2) * r 2 + 0))) + 1) := hok.2 _ (List.mem_of_getElem? (i := 1) rfl)
  obtain ⟨hG, hgi⟩ := hG
  have hG : True := hG
  obtain ⟨h0, hh, e0, k0⟩ := hh
  have k0 : ∀ j, j ∉ [] → g j = h0 j := k0
  have e0 : yq_nr (h0 12) ((1 * r 1 + 0) + 0) ((1 * r 15 + 0) + 0) (2 * ((1 * r 2 + 0) + 0)).toNat = 1 := e0
  have hh : h0 = gi := hh
  subst hh
  refine yt_dalt (by decide) (by decide) ?_
  rw [show xk_155.2.1.2.1.1.length = 19 from rfl]
  show ((((0 : Int) + (-5)) = yq_tr ((1 * r 0 + 0) + 0) ((1 * r 1 + 0) + 0) ((1 * r 2 + 0) + 0) ((1 * r 3 + 0) + 0) (yq_at ((1 * r 0 + 0) + 0) ((1 * ((1 * r 7 + 0) + 0) + 0) + 0) ((1 * ((1 * r 10 + 0) + 0) + 0) + 0) ((1 * ((1 * r 13 + 0) + 0) + 0) + 0) ((1 * ((1 * r 16 + 0) + 0) + 0) + 0)) (yq_at ((1 * r 0 + 0) + 0) ((1 * ((1 * r 9 + 0) + 0) + 0) + 0) ((1 * ((1 * r 12 + 0) + 0) + 0) + 0) ((1 * ((1 * r 15 + 0) + 0) + 0) + 0) ((1 * ((1 * r 18 + 0) + 0) + 0) + 0)) (yq_nr (yq_fat ((1 * r 0 + 0) + 0) (g0 8) (g0 10) (g0 12) (g0 14)) ((1 * r 1 + 0) + 0) (yq_at ((1 * r 0 + 0) + 0) ((1 * ((1 * r 9 + 0) + 0) + 0) + 0) ((1 * ((1 * r 12 + 0) + 0) + 0) + 0) ((1 * ((1 * r 15 + 0) + 0) + 0) + 0) ((1 * ((1 * r 18 + 0) + 0) + 0) + 0)) (2 * ((1 * r 2 + 0) + 0)).toNat) ((1 * ((1 * r 5 + 0) + 0) + 0) + 0) ∧ ((1 * ((1 * r 5 + 0) + 0) + 0) + 0) = yq_tn ((0 : Int) + (-5)) ((1 * ((1 * r 5 + 0) + 0) + 0) + 0)) ∧ (g 2) = yq_ap ((1 * ((1 * r 5 + 0) + 0) + 0) + 0) ((1 * ((1 * r 5 + 0) + 0) + 0) + 0) (yq_vx (yq_fat ((1 * r 0 + 0) + 0) (g0 8) (g0 10) (g0 12) (g0 14)) (yq_at ((1 * r 0 + 0) + 0) ((1 * ((1 * r 9 + 0) + 0) + 0) + 0) ((1 * ((1 * r 12 + 0) + 0) + 0) + 0) ((1 * ((1 * r 15 + 0) + 0) + 0) + 0) ((1 * ((1 * r 18 + 0) + 0) + 0) + 0)) ((1 * r 1 + 0) + 0) ((1 * ((1 * r 5 + 0) + 0) + 0) + 0) 0) (g0 2) ∧ (g 3) = yq_ap ((1 * ((1 * r 5 + 0) + 0) + 0) + 0) ((1 * ((1 * r 5 + 0) + 0) + 0) + 0) (yq_vx (yq_fat ((1 * r 0 + 0) + 0) (g0 8) (g0 10) (g0 12) (g0 14)) (yq_at ((1 * r 0 + 0) + 0) ((1 * ((1 * r 9 + 0) + 0) + 0) + 0) ((1 * ((1 * r 12 + 0) + 0) + 0) + 0) ((1 * ((1 * r 15 + 0) + 0) + 0) + 0) ((1 * ((1 * r 18 + 0) + 0) + 0) + 0)) ((1 * r 1 + 0) + 0) ((1 * ((1 * r 5 + 0) + 0) + 0) + 0) 1) (g0 3) ∧ (g 4) = yq_ap ((1 * ((1 * r 5 + 0) + 0) + 0) + 0) ((1 * ((1 * r 5 + 0) + 0) + 0) + 0) (yq_ct ((1 * r 3 + 0) + 0)) (g0 4) ∧ (g 5) = yq_ap ((1 * ((1 * r 5 + 0) + 0) + 0) + 0) ((1 * ((1 * r 5 + 0) + 0) + 0) + 0) (yq_ct 1) (g0 5)) ∧ ((1 * ((1 * r 6 + 0) + 0) + 0) + 0) = ye_wr ((1 * ((1 * r 6 + 0) + 0) + 0) + 0) (((1 * ((1 * r 5 + 0) + 0) + 0) + 0) - ((1 * ((1 * r 5 + 0) + 0) + 0) + 0))
  try simp only [Int.one_mul, Int.zero_add, Int.add_zero]
  refine ⟨?_, ?_⟩
  · try simp only [Int.one_mul, Int.zero_add, Int.add_zero] at e0
    rw [hgi] at e0
    refine ⟨?_, ?_⟩
    · refine ⟨?_, ?_⟩
      · rw [show r 0 = 2 by omega]
        simp only [yq_at2, yq_fat2]
        unfold yq_tr
        repeat' split
        all_goals omega
      · unfold yq_tn
        repeat' split
        all_goals omega
    · refine ⟨?_, ?_, ?_, ?_⟩
      · rw [k0 2 (by decide), hgi]
        exact yq_ap_0 (by omega)
      · rw [k0 3 (by decide), hgi]
        exact yq_ap_0 (by omega)
      · rw [k0 4 (by decide), hgi]
        exact yq_ap_0 (by omega)
      · rw [k0 5 (by decide), hgi]
        exact yq_ap_0 (by omega)
  · exact (ye_w0 (by omega) (by omega)).symm.trans (congrArg (ye_wr _) (show (0 : Int) = _ by omega))
theorem xw_155_0_48 : yt_hold xT_155 xk_155 xq_155.2.2.1 xG_155 xP_155 xU_155 19 xk_155.2.1.2.2.2 (fun g0 r g => xR_155 r g0 ∧ g = g0) (1000, ([(2, 2), ((-2147483648), 2147483647), (1, 40), (0, 0), ((-2147483648), 2147483647), (0, 40), ((-2147483648), 2147483647), (0, 1), ((-2147483648), 2147483647), (0, 100), (0, 1), ((-2147483648), 2147483647), (0, 100), (0, 0), ((-2147483648), 2147483647), (0, 100), (0, 1), ((-2147483648), 2147483647), (0, 100), ((-2147483648), 0)], []), [([], (-2)), ([(19, 1)], 0), ([(5, 1)], 0), ([(6, 1)], 0)], [], []) := by
  intro g0 r gi g hok hh hars hfr hG
  have b0 : 2 ≤ r 0 ∧ r 0 ≤ 2 := hok.1 0 (2, 2) rfl
  have b1 : (-2147483648) ≤ r 1 ∧ r 1 ≤ 2147483647 := hok.1 1 ((-2147483648), 2147483647) rfl
  have b2 : 1 ≤ r 2 ∧ r 2 ≤ 40 := hok.1 2 (1, 40) rfl
  have b3 : 0 ≤ r 3 ∧ r 3 ≤ 0 := hok.1 3 (0, 0) rfl
  have b4 : (-2147483648) ≤ r 4 ∧ r 4 ≤ 2147483647 := hok.1 4 ((-2147483648), 2147483647) rfl
  have b5 : 0 ≤ r 5 ∧ r 5 ≤ 40 := hok.1 5 (0, 40) rfl
  have b6 : (-2147483648) ≤ r 6 ∧ r 6 ≤ 2147483647 := hok.1 6 ((-2147483648), 2147483647) rfl
  have b7 : 0 ≤ r 7 ∧ r 7 ≤ 1 := hok.1 7 (0, 1) rfl
  have b8 : (-2147483648) ≤ r 8 ∧ r 8 ≤ 2147483647 := hok.1 8 ((-2147483648), 2147483647) rfl
  have b9 : 0 ≤ r 9 ∧ r 9 ≤ 100 := hok.1 9 (0, 100) rfl
  have b10 : 0 ≤ r 10 ∧ r 10 ≤ 1 := hok.1 10 (0, 1) rfl
  have b11 : (-2147483648) ≤ r 11 ∧ r 11 ≤ 2147483647 := hok.1 11 ((-2147483648), 2147483647) rfl
  have b12 : 0 ≤ r 12 ∧ r 12 ≤ 100 := hok.1 12 (0, 100) rfl
  have b13 : 0 ≤ r 13 ∧ r 13 ≤ 0 := hok.1 13 (0, 0) rfl
  have b14 : (-2147483648) ≤ r 14 ∧ r 14 ≤ 2147483647 := hok.1 14 ((-2147483648), 2147483647) rfl
  have b15 : 0 ≤ r 15 ∧ r 15 ≤ 100 := hok.1 15 (0, 100) rfl
  have b16 : 0 ≤ r 16 ∧ r 16 ≤ 1 := hok.1 16 (0, 1) rfl
  have b17 : (-2147483648) ≤ r 17 ∧ r 17 ≤ 2147483647 := hok.1 17 ((-2147483648), 2147483647) rfl
  have b18 : 0 ≤ r 18 ∧ r 18 ≤ 100 := hok.1 18 (0, 100) rfl
  have b19 : (-2147483648) ≤ r 19 ∧ r 19 ≤ 0 := hok.1 19 ((-2147483648), 0) rfl
  obtain ⟨hG, hgi⟩ := hG
  have hG : True := hG
  have hh : g = gi := hh
  subst hh
  refine yt_dalt (by decide) (by decide) ?_
  rw [show xk_155.2.1.2.1.1.length = 19 from rfl]
  show ((((0 : Int) + (-2)) = yq_tr ((1 * r 0 + 0) + 0) ((1 * r 1 + 0) + 0) ((1 * r 2 + 0) + 0) ((1 * r 3 + 0) + 0) (yq_at ((1 * r 0 + 0) + 0) ((1 * ((1 * r 7 + 0) + 0) + 0) + 0) ((1 * ((1 * r 10 + 0) + 0) + 0) + 0) ((1 * ((1 * r 13 + 0) + 0) + 0) + 0) ((1 * ((1 * r 16 + 0) + 0) + 0) + 0)) (yq_at ((1 * r 0 + 0) + 0) ((1 * ((1 * r 9 + 0) + 0) + 0) + 0) ((1 * ((1 * r 12 + 0) + 0) + 0) + 0) ((1 * ((1 * r 15 + 0) + 0) + 0) + 0) ((1 * ((1 * r 18 + 0) + 0) + 0) + 0)) (yq_nr (yq_fat ((1 * r 0 + 0) + 0) (g0 8) (g0 10) (g0 12) (g0 14)) ((1 * r 1 + 0) + 0) (yq_at ((1 * r 0 + 0) + 0) ((1 * ((1 * r 9 + 0) + 0) + 0) + 0) ((1 * ((1 * r 12 + 0) + 0) + 0) + 0) ((1 * ((1 * r 15 + 0) + 0) + 0) + 0) ((1 * ((1 * r 18 + 0) + 0) + 0) + 0)) (2 * ((1 * r 2 + 0) + 0)).toNat) ((1 * ((1 * r 5 + 0) + 0) + 0) + 0) ∧ ((1 * ((1 * r 5 + 0) + 0) + 0) + 0) = yq_tn ((0 : Int) + (-2)) ((1 * ((1 * r 5 + 0) + 0) + 0) + 0)) ∧ (g 2) = yq_ap ((1 * ((1 * r 5 + 0) + 0) + 0) + 0) ((1 * ((1 * r 5 + 0) + 0) + 0) + 0) (yq_vx (yq_fat ((1 * r 0 + 0) + 0) (g0 8) (g0 10) (g0 12) (g0 14)) (yq_at ((1 * r 0 + 0) + 0) ((1 * ((1 * r 9 + 0) + 0) + 0) + 0) ((1 * ((1 * r 12 + 0) + 0) + 0) + 0) ((1 * ((1 * r 15 + 0) + 0) + 0) + 0) ((1 * ((1 * r 18 + 0) + 0) + 0) + 0)) ((1 * r 1 + 0) + 0) ((1 * ((1 * r 5 + 0) + 0) + 0) + 0) 0) (g0 2) ∧ (g 3) = yq_ap ((1 * ((1 * r 5 + 0) + 0) + 0) + 0) ((1 * ((1 * r 5 + 0) + 0) + 0) + 0) (yq_vx (yq_fat ((1 * r 0 + 0) + 0) (g0 8) (g0 10) (g0 12) (g0 14)) (yq_at ((1 * r 0 + 0) + 0) ((1 * ((1 * r 9 + 0) + 0) + 0) + 0) ((1 * ((1 * r 12 + 0) + 0) + 0) + 0) ((1 * ((1 * r 15 + 0) + 0) + 0) + 0) ((1 * ((1 * r 18 + 0) + 0) + 0) + 0)) ((1 * r 1 + 0) + 0) ((1 * ((1 * r 5 + 0) + 0) + 0) + 0) 1) (g0 3) ∧ (g 4) = yq_ap ((1 * ((1 * r 5 + 0) + 0) + 0) + 0) ((1 * ((1 * r 5 + 0) + 0) + 0) + 0) (yq_ct ((1 * r 3 + 0) + 0)) (g0 4) ∧ (g 5) = yq_ap ((1 * ((1 * r 5 + 0) + 0) + 0) + 0) ((1 * ((1 * r 5 + 0) + 0) + 0) + 0) (yq_ct 1) (g0 5)) ∧ ((1 * ((1 * r 6 + 0) + 0) + 0) + 0) = ye_wr ((1 * ((1 * r 6 + 0) + 0) + 0) + 0) (((1 * ((1 * r 5 + 0) + 0) + 0) + 0) - ((1 * ((1 * r 5 + 0) + 0) + 0) + 0))
  try simp only [Int.one_mul, Int.zero_add, Int.add_zero]
  refine ⟨?_, ?_⟩
  · refine ⟨?_, ?_⟩
    · refine ⟨?_, ?_⟩
      · rw [show r 0 = 2 by omega]
        simp only [yq_at2, yq_fat2]
        unfold yq_tr
        repeat' split
        all_goals omega
      · unfold yq_tn
        repeat' split
        all_goals omega
    · refine ⟨?_, ?_, ?_, ?_⟩
      · rw [hgi]
        exact yq_ap_0 (by omega)
      · rw [hgi]
        exact yq_ap_0 (by omega)
      · rw [hgi]
        exact yq_ap_0 (by omega)
      · rw [hgi]
        exact yq_ap_0 (by omega)
  · exact (ye_w0 (by omega) (by omega)).symm.trans (congrArg (ye_wr _) (show (0 : Int) = _ by omega))
theorem xw_155_0_49 : yt_hold xT_155 xk_155 xq_155.2.2.1 xG_155 xP_155 xU_155 19 xk_155.2.1.2.2.2 (fun g0 r g => xR_155 r g0 ∧ g = g0) (1000, ([(3, 3), ((-2147483648), (-1)), (1, 40), (0, 0), ((-2147483648), 2147483647), (0, 40), ((-2147483648), 2147483647), (0, 1), ((-2147483648), 2147483647), (0, 100), (0, 1), ((-2147483648), 2147483647), (0, 100), (0, 1), ((-2147483648), 2147483647), (0, 100), (1, 1), ((-2147483648), 2147483647), (0, 100), ((-2147483648), 0)], []), [([], (-3)), ([(19, 1)], 0), ([(5, 1)], 0), ([(6, 1)], 0)], [], []) := by
  intro g0 r gi g hok hh hars hfr hG
  have b0 : 3 ≤ r 0 ∧ r 0 ≤ 3 := hok.1 0 (3, 3) rfl
  have b1 : (-2147483648) ≤ r 1 ∧ r 1 ≤ (-1) := hok.1 1 ((-2147483648), (-1)) rfl
  have b2 : 1 ≤ r 2 ∧ r 2 ≤ 40 := hok.1 2 (1, 40) rfl
  have b3 : 0 ≤ r 3 ∧ r 3 ≤ 0 := hok.1 3 (0, 0) rfl
  have b4 : (-2147483648) ≤ r 4 ∧ r 4 ≤ 2147483647 := hok.1 4 ((-2147483648), 2147483647) rfl
  have b5 : 0 ≤ r 5 ∧ r 5 ≤ 40 := hok.1 5 (0, 40) rfl
  have b6 : (-2147483648) ≤ r 6 ∧ r 6 ≤ 2147483647 := hok.1 6 ((-2147483648), 2147483647) rfl
  have b7 : 0 ≤ r 7 ∧ r 7 ≤ 1 := hok.1 7 (0, 1) rfl
  have b8 : (-2147483648) ≤ r 8 ∧ r 8 ≤ 2147483647 := hok.1 8 ((-2147483648), 2147483647) rfl
  have b9 : 0 ≤ r 9 ∧ r 9 ≤ 100 := hok.1 9 (0, 100) rfl
  have b10 : 0 ≤ r 10 ∧ r 10 ≤ 1 := hok.1 10 (0, 1) rfl
  have b11 : (-2147483648) ≤ r 11 ∧ r 11 ≤ 2147483647 := hok.1 11 ((-2147483648), 2147483647) rfl
  have b12 : 0 ≤ r 12 ∧ r 12 ≤ 100 := hok.1 12 (0, 100) rfl
  have b13 : 0 ≤ r 13 ∧ r 13 ≤ 1 := hok.1 13 (0, 1) rfl
  have b14 : (-2147483648) ≤ r 14 ∧ r 14 ≤ 2147483647 := hok.1 14 ((-2147483648), 2147483647) rfl
  have b15 : 0 ≤ r 15 ∧ r 15 ≤ 100 := hok.1 15 (0, 100) rfl
  have b16 : 1 ≤ r 16 ∧ r 16 ≤ 1 := hok.1 16 (1, 1) rfl
  have b17 : (-2147483648) ≤ r 17 ∧ r 17 ≤ 2147483647 := hok.1 17 ((-2147483648), 2147483647) rfl
  have b18 : 0 ≤ r 18 ∧ r 18 ≤ 100 := hok.1 18 (0, 100) rfl
  have b19 : (-2147483648) ≤ r 19 ∧ r 19 ≤ 0 := hok.1 19 ((-2147483648), 0) rfl
  obtain ⟨hG, hgi⟩ := hG
  have hG : True := hG
  have hh : g = gi := hh
  subst hh
  refine yt_dalt (by decide) (by decide) ?_
  rw [show xk_155.2.1.2.1.1.length = 19 from rfl]
  show ((((0 : Int) + (-3)) = yq_tr ((1 * r 0 + 0) + 0) ((1 * r 1 + 0) + 0) ((1 * r 2 + 0) + 0) ((1 * r 3 + 0) + 0) (yq_at ((1 * r 0 + 0) + 0) ((1 * ((1 * r 7 + 0) + 0) + 0) + 0) ((1 * ((1 * r 10 + 0) + 0) + 0) + 0) ((1 * ((1 * r 13 + 0) + 0) + 0) + 0) ((1 * ((1 * r 16 + 0) + 0) + 0) + 0)) (yq_at ((1 * r 0 + 0) + 0) ((1 * ((1 * r 9 + 0) + 0) + 0) + 0) ((1 * ((1 * r 12 + 0) + 0) + 0) + 0) ((1 * ((1 * r 15 + 0) + 0) + 0) + 0) ((1 * ((1 * r 18 + 0) + 0) + 0) + 0)) (yq_nr (yq_fat ((1 * r 0 + 0) + 0) (g0 8) (g0 10) (g0 12) (g0 14)) ((1 * r 1 + 0) + 0) (yq_at ((1 * r 0 + 0) + 0) ((1 * ((1 * r 9 + 0) + 0) + 0) + 0) ((1 * ((1 * r 12 + 0) + 0) + 0) + 0) ((1 * ((1 * r 15 + 0) + 0) + 0) + 0) ((1 * ((1 * r 18 + 0) + 0) + 0) + 0)) (2 * ((1 * r 2 + 0) + 0)).toNat) ((1 * ((1 * r 5 + 0) + 0) + 0) + 0) ∧ ((1 * ((1 * r 5 + 0) + 0) + 0) + 0) = yq_tn ((0 : Int) + (-3)) ((1 * ((1 * r 5 + 0) + 0) + 0) + 0)) ∧ (g 2) = yq_ap ((1 * ((1 * r 5 + 0) + 0) + 0) + 0) ((1 * ((1 * r 5 + 0) + 0) + 0) + 0) (yq_vx (yq_fat ((1 * r 0 + 0) + 0) (g0 8) (g0 10) (g0 12) (g0 14)) (yq_at ((1 * r 0 + 0) + 0) ((1 * ((1 * r 9 + 0) + 0) + 0) + 0) ((1 * ((1 * r 12 + 0) + 0) + 0) + 0) ((1 * ((1 * r 15 + 0) + 0) + 0) + 0) ((1 * ((1 * r 18 + 0) + 0) + 0) + 0)) ((1 * r 1 + 0) + 0) ((1 * ((1 * r 5 + 0) + 0) + 0) + 0) 0) (g0 2) ∧ (g 3) = yq_ap ((1 * ((1 * r 5 + 0) + 0) + 0) + 0) ((1 * ((1 * r 5 + 0) + 0) + 0) + 0) (yq_vx (yq_fat ((1 * r 0 + 0) + 0) (g0 8) (g0 10) (g0 12) (g0 14)) (yq_at ((1 * r 0 + 0) + 0) ((1 * ((1 * r 9 + 0) + 0) + 0) + 0) ((1 * ((1 * r 12 + 0) + 0) + 0) + 0) ((1 * ((1 * r 15 + 0) + 0) + 0) + 0) ((1 * ((1 * r 18 + 0) + 0) + 0) + 0)) ((1 * r 1 + 0) + 0) ((1 * ((1 * r 5 + 0) + 0) + 0) + 0) 1) (g0 3) ∧ (g 4) = yq_ap ((1 * ((1 * r 5 + 0) + 0) + 0) + 0) ((1 * ((1 * r 5 + 0) + 0) + 0) + 0) (yq_ct ((1 * r 3 + 0) + 0)) (g0 4) ∧ (g 5) = yq_ap ((1 * ((1 * r 5 + 0) + 0) + 0) + 0) ((1 * ((1 * r 5 + 0) + 0) + 0) + 0) (yq_ct 1) (g0 5)) ∧ ((1 * ((1 * r 6 + 0) + 0) + 0) + 0) = ye_wr ((1 * ((1 * r 6 + 0) + 0) + 0) + 0) (((1 * ((1 * r 5 + 0) + 0) + 0) + 0) - ((1 * ((1 * r 5 + 0) + 0) + 0) + 0))
  try simp only [Int.one_mul, Int.zero_add, Int.add_zero]
  refine ⟨?_, ?_⟩
  · refine ⟨?_, ?_⟩
    · refine ⟨?_, ?_⟩
      · rw [show r 0 = 3 by omega]
        simp only [yq_at3, yq_fat3]
        unfold yq_tr
        repeat' split
        all_goals omega
      · unfold yq_tn
        repeat' split
        all_goals omega
    · refine ⟨?_, ?_, ?_, ?_⟩
      · rw [hgi]
        exact yq_ap_0 (by omega)
      · rw [hgi]
        exact yq_ap_0 (by omega)
      · rw [hgi]
        exact yq_ap_0 (by omega)
      · rw [hgi]
        exact yq_ap_0 (by omega)
  · exact (ye_w0 (by omega) (by omega)).symm.trans (congrArg (ye_wr _) (show (0 : Int) = _ by omega))
theorem xw_155_0_50 : yt_hold xT_155 xk_155 xq_155.2.2.1 xG_155 xP_155 xU_155 19 xk_155.2.1.2.2.2 (fun g0 r g => xR_155 r g0 ∧ g = g0) (1000, ([(3, 3), (0, 2147483647), (1, 40), (0, 0), ((-2147483648), 2147483647), (0, 40), ((-2147483648), 2147483647), (0, 1), ((-2147483648), 2147483647), (0, 100), (0, 1), ((-2147483648), 2147483647), (0, 100), (0, 1), ((-2147483648), 2147483647), (0, 100), (1, 1), ((-2147483648), 2147483647), (0, 100), ((-2147483648), 0)], [([(18, (-1)), (1, 1), (2, 2)], (-2))]), [([], (-3)), ([(19, 1)], 0), ([(5, 1)], 0), ([(6, 1)], 0)], [], []) := by
  intro g0 r gi g hok hh hars hfr hG
  have b0 : 3 ≤ r 0 ∧ r 0 ≤ 3 := hok.1 0 (3, 3) rfl
  have b1 : 0 ≤ r 1 ∧ r 1 ≤ 2147483647 := hok.1 1 (0, 2147483647) rfl
  have b2 : 1 ≤ r 2 ∧ r 2 ≤ 40 := hok.1 2 (1, 40) rfl
  have b3 : 0 ≤ r 3 ∧ r 3 ≤ 0 := hok.1 3 (0, 0) rfl
  have b4 : (-2147483648) ≤ r 4 ∧ r 4 ≤ 2147483647 := hok.1 4 ((-2147483648), 2147483647) rfl
  have b5 : 0 ≤ r 5 ∧ r 5 ≤ 40 := hok.1 5 (0, 40) rfl
  have b6 : (-2147483648) ≤ r 6 ∧ r 6 ≤ 2147483647 := hok.1 6 ((-2147483648), 2147483647) rfl
  have b7 : 0 ≤ r 7 ∧ r 7 ≤ 1 := hok.1 7 (0, 1) rfl
  have b8 : (-2147483648) ≤ r 8 ∧ r 8 ≤ 2147483647 := hok.1 8 ((-2147483648), 2147483647) rfl
  have b9 : 0 ≤ r 9 ∧ r 9 ≤ 100 := hok.1 9 (0, 100) rfl
  have b10 : 0 ≤ r 10 ∧ r 10 ≤ 1 := hok.1 10 (0, 1) rfl
  have b11 : (-2147483648) ≤ r 11 ∧ r 11 ≤ 2147483647 := hok.1 11 ((-2147483648), 2147483647) rfl
  have b12 : 0 ≤ r 12 ∧ r 12 ≤ 100 := hok.1 12 (0, 100) rfl
  have b13 : 0 ≤ r 13 ∧ r 13 ≤ 1 := hok.1 13 (0, 1) rfl
  have b14 : (-2147483648) ≤ r 14 ∧ r 14 ≤ 2147483647 := hok.1 14 ((-2147483648), 2147483647) rfl
  have b15 : 0 ≤ r 15 ∧ r 15 ≤ 100 := hok.1 15 (0, 100) rfl
  have b16 : 1 ≤ r 16 ∧ r 16 ≤ 1 := hok.1 16 (1, 1) rfl
  have b17 : (-2147483648) ≤ r 17 ∧ r 17 ≤ 2147483647 := hok.1 17 ((-2147483648), 2147483647) rfl
  have b18 : 0 ≤ r 18 ∧ r 18 ≤ 100 := hok.1 18 (0, 100) rfl
  have b19 : (-2147483648) ≤ r 19 ∧ r 19 ≤ 0 := hok.1 19 ((-2147483648), 0) rfl
  have f0 : 0 ≤ (((-1) * r 18 + (1 * r 1 + (2 * r 2 + 0))) + (-2)) := hok.2 _ (List.mem_of_getElem? (i := 0) rfl)
  obtain ⟨hG, hgi⟩ := hG
  have hG : True := hG
  have hh : g = gi := hh
  subst hh
  refine yt_dalt (by decide) (by decide) ?_
  rw [show xk_155.2.1.2.1.1.length = 19 from rfl]
  show ((((0 : Int) + (-3)) = yq_tr ((1 * r 0 + 0) + 0) ((1 * r 1 + 0) + 0) ((1 * r 2 + 0) + 0) ((1 * r 3 + 0) + 0) (yq_at ((1 * r 0 + 0) + 0) ((1 * ((1 * r 7 + 0) + 0) + 0) + 0) ((1 * ((1 * r 10 + 0) + 0) + 0) + 0) ((1 * ((1 * r 13 + 0) + 0) + 0) + 0) ((1 * ((1 * r 16 + 0) + 0) + 0) + 0)) (yq_at ((1 * r 0 + 0) + 0) ((1 * ((1 * r 9 + 0) + 0) + 0) + 0) ((1 * ((1 * r 12 + 0) + 0) + 0) + 0) ((1 * ((1 * r 15 + 0) + 0) + 0) + 0) ((1 * ((1 * r 18 + 0) + 0) + 0) + 0)) (yq_nr (yq_fat ((1 * r 0 + 0) + 0) (g0 8) (g0 10) (g0 12) (g0 14)) ((1 * r 1 + 0) + 0) (yq_at ((1 * r 0 + 0) + 0) ((1 * ((1 * r 9 + 0) + 0) + 0) + 0) ((1 * ((1 * r 12 + 0) + 0) + 0) + 0) ((1 * ((1 * r 15 + 0) + 0) + 0) + 0) ((1 * ((1 * r 18 + 0) + 0) + 0) + 0)) (2 * ((1 * r 2 + 0) + 0)).toNat) ((1 * ((1 * r 5 + 0) + 0) + 0) + 0) ∧ ((1 * ((1 * r 5 + 0) + 0) + 0) + 0) = yq_tn ((0 : Int) + (-3)) ((1 * ((1 * r 5 + 0) + 0) + 0) + 0)) ∧ (g 2) = yq_ap ((1 * ((1 * r 5 + 0) + 0) + 0) + 0) ((1 * ((1 * r 5 + 0) + 0) + 0) + 0) (yq_vx (yq_fat ((1 * r 0 + 0) + 0) (g0 8) (g0 10) (g0 12) (g0 14)) (yq_at ((1 * r 0 + 0) + 0) ((1 * ((1 * r 9 + 0) + 0) + 0) + 0) ((1 * ((1 * r 12 + 0) + 0) + 0) + 0) ((1 * ((1 * r 15 + 0) + 0) + 0) + 0) ((1 * ((1 * r 18 + 0) + 0) + 0) + 0)) ((1 * r 1 + 0) + 0) ((1 * ((1 * r 5 + 0) + 0) + 0) + 0) 0) (g0 2) ∧ (g 3) = yq_ap ((1 * ((1 * r 5 + 0) + 0) + 0) + 0) ((1 * ((1 * r 5 + 0) + 0) + 0) + 0) (yq_vx (yq_fat ((1 * r 0 + 0) + 0) (g0 8) (g0 10) (g0 12) (g0 14)) (yq_at ((1 * r 0 + 0) + 0) ((1 * ((1 * r 9 + 0) + 0) + 0) + 0) ((1 * ((1 * r 12 + 0) + 0) + 0) + 0) ((1 * ((1 * r 15 + 0) + 0) + 0) + 0) ((1 * ((1 * r 18 + 0) + 0) + 0) + 0)) ((1 * r 1 + 0) + 0) ((1 * ((1 * r 5 + 0) + 0) + 0) + 0) 1) (g0 3) ∧ (g 4) = yq_ap ((1 * ((1 * r 5 + 0) + 0) + 0) + 0) ((1 * ((1 * r 5 + 0) + 0) + 0) + 0) (yq_ct ((1 * r 3 + 0) + 0)) (g0 4) ∧ (g 5) = yq_ap ((1 * ((1 * r 5 + 0) + 0) + 0) + 0) ((1 * ((1 * r 5 + 0) + 0) + 0) + 0) (yq_ct 1) (g0 5)) ∧ ((1 * ((1 * r 6 + 0) + 0) + 0) + 0) = ye_wr ((1 * ((1 * r 6 + 0) + 0) + 0) + 0) (((1 * ((1 * r 5 + 0) + 0) + 0) + 0) - ((1 * ((1 * r 5 + 0) + 0) + 0) + 0))
  try simp only [Int.one_mul, Int.zero_add, Int.add_zero]
  refine ⟨?_, ?_⟩
  · refine ⟨?_, ?_⟩
    · refine ⟨?_, ?_⟩
      · rw [show r 0 = 3 by omega]
        simp only [yq_at3, yq_fat3]
        unfold yq_tr
        repeat' split
        all_goals omega
      · unfold yq_tn
        repeat' split
        all_goals omega
    · refine ⟨?_, ?_, ?_, ?_⟩
      · rw [hgi]
        exact yq_ap_0 (by omega)
      · rw [hgi]
        exact yq_ap_0 (by omega)
      · rw [hgi]
        exact yq_ap_0 (by omega)
      · rw [hgi]
        exact yq_ap_0 (by omega)
  · exact (ye_w0 (by omega) (by omega)).symm.trans (congrArg (ye_wr _) (show (0 : Int) = _ by omega))
theorem xw_155_0_51 : yt_hold xT_155 xk_155 xq_155.2.2.1 xG_155 xP_155 xU_155 19 xk_155.2.1.2.2.2 (fun g0 r g => xR_155 r g0 ∧ g = g0) (1000, ([(3, 3), (0, 99), (1, 40), (0, 0), ((-2147483648), 2147483647), (0, 40), ((-2147483648), 2147483647), (0, 1), ((-2147483648), 2147483647), (0, 100), (0, 1), ((-2147483648), 2147483647), (0, 100), (0, 1), ((-2147483648), 2147483647), (0, 100), (1, 1), ((-2147483648), 2147483647), (1, 100), ((-2147483648), 0)], [([(2, 2), (1, 1)], (-1)), ([(18, 1), (1, (-1)), (2, (-2))], 1)]), [([], (-1)), ([(19, 1)], 0), ([(5, 1)], 0), ([(6, 1)], 0)], [], [.inr (.inr (.inl (118, 0, [([(1, 1)], 0), ([(2, 1)], 0), ([(16, 1)], 0), ([(17, 1)], 0), ([(18, 1)], 0)], [13, 14], [])))]) := by
  intro g0 r gi g hok hh hars hfr hG
  have b0 : 3 ≤ r 0 ∧ r 0 ≤ 3 := hok.1 0 (3, 3) rfl
  have b1 : 0 ≤ r 1 ∧ r 1 ≤ 99 := hok.1 1 (0, 99) rfl
  have b2 : 1 ≤ r 2 ∧ r 2 ≤ 40 := hok.1 2 (1, 40) rfl
  have b3 : 0 ≤ r 3 ∧ r 3 ≤ 0 := hok.1 3 (0, 0) rfl
  have b4 : (-2147483648) ≤ r 4 ∧ r 4 ≤ 2147483647 := hok.1 4 ((-2147483648), 2147483647) rfl
  have b5 : 0 ≤ r 5 ∧ r 5 ≤ 40 := hok.1 5 (0, 40) rfl
  have b6 : (-2147483648) ≤ r 6 ∧ r 6 ≤ 2147483647 := hok.1 6 ((-2147483648), 2147483647) rfl
  have b7 : 0 ≤ r 7 ∧ r 7 ≤ 1 := hok.1 7 (0, 1) rfl
  have b8 : (-2147483648) ≤ r 8 ∧ r 8 ≤ 2147483647 := hok.1 8 ((-2147483648), 2147483647) rfl
  have b9 : 0 ≤ r 9 ∧ r 9 ≤ 100 := hok.1 9 (0, 100) rfl
  have b10 : 0 ≤ r 10 ∧ r 10 ≤ 1 := hok.1 10 (0, 1) rfl
  have b11 : (-2147483648) ≤ r 11 ∧ r 11 ≤ 2147483647 := hok.1 11 ((-2147483648), 2147483647) rfl
  have b12 : 0 ≤ r 12 ∧ r 12 ≤ 100 := hok.1 12 (0, 100) rfl
  have b13 : 0 ≤ r 13 ∧ r 13 ≤ 1 := hok.1 13 (0, 1) rfl
  have b14 : (-2147483648) ≤ r 14 ∧ r 14 ≤ 2147483647 := hok.1 14 ((-2147483648), 2147483647) rfl
  have b15 : 0 ≤ r 15 ∧ r 15 ≤ 100 := hok.1 15 (0, 100) rfl
  have b16 : 1 ≤ r 16 ∧ r 16 ≤ 1 := hok.1 16 (1, 1) rfl
  have b17 : (-2147483648) ≤ r 17 ∧ r 17 ≤ 2147483647 := hok.1 17 ((-2147483648), 2147483647) rfl
  have b18 : 1 ≤ r 18 ∧ r 18 ≤ 100 := hok.1 18 (1, 100) rfl
  have b19 : (-2147483648) ≤ r 19 ∧ r 19 ≤ 0 := hok.1 19 ((-2147483648), 0) rfl
  have f0 : 0 ≤ ((2 * r 2 + (1 * r 1 + 0)) + (-1)) := hok.2 _ (List.mem_of_getElem? (i := 0) rfl)
  have f1 : 0 ≤ ((1 * r 18 + ((-1) * r 1 + ((-2) * r 2 + 0))) + 1) := hok.2 _ (List.mem_of_getElem? (i := 1) rfl)
  obtain ⟨hG, hgi⟩ := hG
  have hG : True := hG
  obtain ⟨h0, hh, e0, k0⟩ := hh
  have k0 : ∀ j, j ∉ [] → g j = h0 j := k0
  have e0 : yq_nr (h0 14) ((1 * r 1 + 0) + 0) ((1 * r 18 + 0) + 0) (2 * ((1 * r 2 + 0) + 0)).toNat = 0 := e0
  have hh : h0 = gi := hh
  subst hh
  refine yt_dalt (by decide) (by decide) ?_
  rw [show xk_155.2.1.2.1.1.length = 19 from rfl]
  show ((((0 : Int) + (-1)) = yq_tr ((1 * r 0 + 0) + 0) ((1 * r 1 + 0) + 0) ((1 * r 2 + 0) + 0) ((1 * r 3 + 0) + 0) (yq_at ((1 * r 0 + 0) + 0) ((1 * ((1 * r 7 + 0) + 0) + 0) + 0) ((1 * ((1 * r 10 + 0) + 0) + 0) + 0) ((1 * ((1 * r 13 + 0) + 0) + 0) + 0) ((1 * ((1 * r 16 + 0) + 0) + 0) + 0)) (yq_at ((1 * r 0 + 0) + 0) ((1 * ((1 * r 9 + 0) + 0) + 0) + 0) ((1 * ((1 * r 12 + 0) + 0) + 0) + 0) ((1 * ((1 * r 15 + 0) + 0) + 0) + 0) ((1 * ((1 * r 18 + 0) + 0) + 0) + 0)) (yq_nr (yq_fat ((1 * r 0 + 0) + 0) (g0 8) (g0 10) (g0 12) (g0 14)) ((1 * r 1 + 0) + 0) (yq_at ((1 * r 0 + 0) + 0) ((1 * ((1 * r 9 + 0) + 0) + 0) + 0) ((1 * ((1 * r 12 + 0) + 0) + 0) + 0) ((1 * ((1 * r 15 + 0) + 0) + 0) + 0) ((1 * ((1 * r 18 + 0) + 0) + 0) + 0)) (2 * ((1 * r 2 + 0) + 0)).toNat) ((1 * ((1 * r 5 + 0) + 0) + 0) + 0) ∧ ((1 * ((1 * r 5 + 0) + 0) + 0) + 0) = yq_tn ((0 : Int) + (-1)) ((1 * ((1 * r 5 + 0) + 0) + 0) + 0)) ∧ (g 2) = yq_ap ((1 * ((1 * r 5 + 0) + 0) + 0) + 0) ((1 * ((1 * r 5 + 0) + 0) + 0) + 0) (yq_vx (yq_fat ((1 * r 0 + 0) + 0) (g0 8) (g0 10) (g0 12) (g0 14)) (yq_at ((1 * r 0 + 0) + 0) ((1 * ((1 * r 9 + 0) + 0) + 0) + 0) ((1 * ((1 * r 12 + 0) + 0) + 0) + 0) ((1 * ((1 * r 15 + 0) + 0) + 0) + 0) ((1 * ((1 * r 18 + 0) + 0) + 0) + 0)) ((1 * r 1 + 0) + 0) ((1 * ((1 * r 5 + 0) + 0) + 0) + 0) 0) (g0 2) ∧ (g 3) = yq_ap ((1 * ((1 * r 5 + 0) + 0) + 0) + 0) ((1 * ((1 * r 5 + 0) + 0) + 0) + 0) (yq_vx (yq_fat ((1 * r 0 + 0) + 0) (g0 8) (g0 10) (g0 12) (g0 14)) (yq_at ((1 * r 0 + 0) + 0) ((1 * ((1 * r 9 + 0) + 0) + 0) + 0) ((1 * ((1 * r 12 + 0) + 0) + 0) + 0) ((1 * ((1 * r 15 + 0) + 0) + 0) + 0) ((1 * ((1 * r 18 + 0) + 0) + 0) + 0)) ((1 * r 1 + 0) + 0) ((1 * ((1 * r 5 + 0) + 0) + 0) + 0) 1) (g0 3) ∧ (g 4) = yq_ap ((1 * ((1 * r 5 + 0) + 0) + 0) + 0) ((1 * ((1 * r 5 + 0) + 0) + 0) + 0) (yq_ct ((1 * r 3 + 0) + 0)) (g0 4) ∧ (g 5) = yq_ap ((1 * ((1 * r 5 + 0) + 0) + 0) + 0) ((1 * ((1 * r 5 + 0) + 0) + 0) + 0) (yq_ct 1) (g0 5)) ∧ ((1 * ((1 * r 6 + 0) + 0) + 0) + 0) = ye_wr ((1 * ((1 * r 6 + 0) + 0) + 0) + 0) (((1 * ((1 * r 5 + 0) + 0) + 0) + 0) - ((1 * ((1 * r 5 + 0) + 0) + 0) + 0))
  try simp only [Int.one_mul, Int.zero_add, Int.add_zero]
  refine ⟨?_, ?_⟩
  · try simp only [Int.one_mul, Int.zero_add, Int.add_zero] at e0
    rw [hgi] at e0
    refine ⟨?_, ?_⟩
    · refine ⟨?_, ?_⟩
      · rw [show r 0 = 3 by omega]
        simp only [yq_at3, yq_fat3]
        unfold yq_tr
        repeat' split
        all_goals omega
      · unfold yq_tn
        repeat' split
        all_goals omega
    · refine ⟨?_, ?_, ?_, ?_⟩
      · rw [k0 2 (by decide), hgi]
        exact yq_ap_0 (by omega)
      · rw [k0 3 (by decide), hgi]
        exact yq_ap_0 (by omega)
      · rw [k0 4 (by decide), hgi]
        exact yq_ap_0 (by omega)
      · rw [k0 5 (by decide), hgi]
        exact yq_ap_0 (by omega)
  · exact (ye_w0 (by omega) (by omega)).symm.trans (congrArg (ye_wr _) (show (0 : Int) = _ by omega))
theorem xw_155_0_52 : yt_hold xT_155 xk_155 xq_155.2.2.1 xG_155 xP_155 xU_155 19 xk_155.2.1.2.2.2 (fun g0 r g => xR_155 r g0 ∧ g = g0) (0, ([(3, 3), (0, 99), (1, 40), (0, 0), ((-2147483648), 2147483647), (0, 39), ((-2147483648), 2147483647), (0, 1), ((-2147483648), 2147483647), (0, 100), (0, 1), ((-2147483648), 2147483647), (0, 100), (0, 1), ((-2147483648), 2147483647), (0, 100), (1, 1), ((-2147483648), 2147483647), (1, 100)], [([(2, (-1)), (5, (-1))], 40), ([(18, 1), (1, (-1)), (2, (-2))], 1)]), [([], 0), ([(5, 1)], 0), ([(6, 1)], 0)], [], [.inr (.inr (.inl (118, 1, [([(1, 1)], 0), ([(2, 1)], 0), ([(16, 1)], 0), ([(17, 1)], 0), ([(18, 1)], 0)], [13, 14], [])))]) := by
  intro g0 r gi g hok hh hars hfr hG
  have b0 : 3 ≤ r 0 ∧ r 0 ≤ 3 := hok.1 0 (3, 3) rfl
  have b1 : 0 ≤ r 1 ∧ r 1 ≤ 99 := hok.1 1 (0, 99) rfl
  have b2 : 1 ≤ r 2 ∧ r 2 ≤ 40 := hok.1 2 (1, 40) rfl
  have b3 : 0 ≤ r 3 ∧ r 3 ≤ 0 := hok.1 3 (0, 0) rfl
  have b4 : (-2147483648) ≤ r 4 ∧ r 4 ≤ 2147483647 := hok.1 4 ((-2147483648), 2147483647) rfl
  have b5 : 0 ≤ r 5 ∧ r 5 ≤ 39 := hok.1 5 (0, 39) rfl
  have b6 : (-2147483648) ≤ r 6 ∧ r 6 ≤ 2147483647 := hok.1 6 ((-2147483648), 2147483647) rfl
  have b7 : 0 ≤ r 7 ∧ r 7 ≤ 1 := hok.1 7 (0, 1) rfl
  have b8 : (-2147483648) ≤ r 8 ∧ r 8 ≤ 2147483647 := hok.1 8 ((-2147483648), 2147483647) rfl
  have b9 : 0 ≤ r 9 ∧ r 9 ≤ 100 := hok.1 9 (0, 100) rfl
  have b10 : 0 ≤ r 10 ∧ r 10 ≤ 1 := hok.1 10 (0, 1) rfl
  have b11 : (-2147483648) ≤ r 11 ∧ r 11 ≤ 2147483647 := hok.1 11 ((-2147483648), 2147483647) rfl
  have b12 : 0 ≤ r 12 ∧ r 12 ≤ 100 := hok.1 12 (0, 100) rfl
  have b13 : 0 ≤ r 13 ∧ r 13 ≤ 1 := hok.1 13 (0, 1) rfl
  have b14 : (-2147483648) ≤ r 14 ∧ r 14 ≤ 2147483647 := hok.1 14 ((-2147483648), 2147483647) rfl
  have b15 : 0 ≤ r 15 ∧ r 15 ≤ 100 := hok.1 15 (0, 100) rfl
  have b16 : 1 ≤ r 16 ∧ r 16 ≤ 1 := hok.1 16 (1, 1) rfl
  have b17 : (-2147483648) ≤ r 17 ∧ r 17 ≤ 2147483647 := hok.1 17 ((-2147483648), 2147483647) rfl
  have b18 : 1 ≤ r 18 ∧ r 18 ≤ 100 := hok.1 18 (1, 100) rfl
  have f0 : 0 ≤ (((-1) * r 2 + ((-1) * r 5 + 0)) + 40) := hok.2 _ (List.mem_of_getElem? (i := 0) rfl)
  have f1 : 0 ≤ ((1 * r 18 + ((-1) * r 1 + ((-2) * r 2 + 0))) + 1) := hok.2 _ (List.mem_of_getElem? (i := 1) rfl)
  obtain ⟨hG, hgi⟩ := hG
  have hG : True := hG
  obtain ⟨h0, hh, e0, k0⟩ := hh
  have k0 : ∀ j, j ∉ [] → g j = h0 j := k0
  have e0 : yq_nr (h0 14) ((1 * r 1 + 0) + 0) ((1 * r 18 + 0) + 0) (2 * ((1 * r 2 + 0) + 0)).toNat = 1 := e0
  have hh : h0 = gi := hh
  subst hh
  refine yt_dcut (by decide) rfl ?_ ?_
  · exact fun f hf => absurd hf List.not_mem_nil
  · rw [show xk_155.2.1.2.1.1.length = 19 from rfl]
    show ((yq_at ((1 * r 0 + 0) + 0) ((1 * ((1 * r 7 + 0) + 0) + 0) + 0) ((1 * ((1 * r 10 + 0) + 0) + 0) + 0) ((1 * ((1 * r 13 + 0) + 0) + 0) + 0) ((1 * ((1 * r 16 + 0) + 0) + 0) + 0)) ≠ 0 ∧ (0 ≤ ((1 * r 1 + 0) + 0) ∧ ((1 * r 1 + 0) + 0) + 2 * ((1 * r 2 + 0) + 0) - 2 < (yq_at ((1 * r 0 + 0) + 0) ((1 * ((1 * r 9 + 0) + 0) + 0) + 0) ((1 * ((1 * r 12 + 0) + 0) + 0) + 0) ((1 * ((1 * r 15 + 0) + 0) + 0) + 0) ((1 * ((1 * r 18 + 0) + 0) + 0) + 0))) ∧ (yq_nr (yq_fat ((1 * r 0 + 0) + 0) (g0 8) (g0 10) (g0 12) (g0 14)) ((1 * r 1 + 0) + 0) (yq_at ((1 * r 0 + 0) + 0) ((1 * ((1 * r 9 + 0) + 0) + 0) + 0) ((1 * ((1 * r 12 + 0) + 0) + 0) + 0) ((1 * ((1 * r 15 + 0) + 0) + 0) + 0) ((1 * ((1 * r 18 + 0) + 0) + 0) + 0)) (2 * ((1 * r 2 + 0) + 0)).toNat) = 1 ∧ ((1 * ((1 * r 5 + 0) + 0) + 0) + 0) = ((1 * ((1 * r 5 + 0) + 0) + 0) + 0) + ((1 * ((0 : Int) + 0) + 0) + 0) ∧ ((1 * ((0 : Int) + 0) + 0) + 0) ≤ ((1 * r 2 + 0) + 0) ∧ (g 2) = yq_ap (((1 * ((1 * r 5 + 0) + 0) + 0) + 0) + ((1 * ((0 : Int) + 0) + 0) + 0)) ((1 * ((1 * r 5 + 0) + 0) + 0) + 0) (yq_vx (yq_fat ((1 * r 0 + 0) + 0) (g0 8) (g0 10) (g0 12) (g0 14)) (yq_at ((1 * r 0 + 0) + 0) ((1 * ((1 * r 9 + 0) + 0) + 0) + 0) ((1 * ((1 * r 12 + 0) + 0) + 0) + 0) ((1 * ((1 * r 15 + 0) + 0) + 0) + 0) ((1 * ((1 * r 18 + 0) + 0) + 0) + 0)) ((1 * r 1 + 0) + 0) ((1 * ((1 * r 5 + 0) + 0) + 0) + 0) 0) (g0 2) ∧ (g 3) = yq_ap (((1 * ((1 * r 5 + 0) + 0) + 0) + 0) + ((1 * ((0 : Int) + 0) + 0) + 0)) ((1 * ((1 * r 5 + 0) + 0) + 0) + 0) (yq_vx (yq_fat ((1 * r 0 + 0) + 0) (g0 8) (g0 10) (g0 12) (g0 14)) (yq_at ((1 * r 0 + 0) + 0) ((1 * ((1 * r 9 + 0) + 0) + 0) + 0) ((1 * ((1 * r 12 + 0) + 0) + 0) + 0) ((1 * ((1 * r 15 + 0) + 0) + 0) + 0) ((1 * ((1 * r 18 + 0) + 0) + 0) + 0)) ((1 * r 1 + 0) + 0) ((1 * ((1 * r 5 + 0) + 0) + 0) + 0) 1) (g0 3) ∧ (g 4) = yq_ap (((1 * ((1 * r 5 + 0) + 0) + 0) + 0) + ((1 * ((0 : Int) + 0) + 0) + 0)) ((1 * ((1 * r 5 + 0) + 0) + 0) + 0) (yq_ct ((1 * r 3 + 0) + 0)) (g0 4) ∧ (g 5) = yq_ap (((1 * ((1 * r 5 + 0) + 0) + 0) + 0) + ((1 * ((0 : Int) + 0) + 0) + 0)) ((1 * ((1 * r 5 + 0) + 0) + 0) + 0) (yq_ct 1) (g0 5)) ∧ ((1 * ((1 * r 6 + 0) + 0) + 0) + 0) = ye_wr ((1 * ((1 * r 6 + 0) + 0) + 0) + 0) ((1 * ((0 : Int) + 0) + 0) + 0)
    try simp only [Int.one_mul, Int.zero_add, Int.add_zero]
    refine ⟨?_, ?_⟩
    · try simp only [Int.one_mul, Int.zero_add, Int.add_zero] at e0
      rw [hgi] at e0
      rw [show r 0 = 3 by omega]
      simp only [yq_at3, yq_fat3]
      refine ⟨?_, ?_, ?_, ?_, ?_, ?_, ?_, ?_, ?_⟩
      · omega
      · omega
      · exact e0
      · omega
      · omega
      · rw [k0 2 (by decide), hgi]
        exact yq_ap_0 (by omega)
      · rw [k0 3 (by decide), hgi]
        exact yq_ap_0 (by omega)
      · rw [k0 4 (by decide), hgi]
        exact yq_ap_0 (by omega)
      · rw [k0 5 (by decide), hgi]
        exact yq_ap_0 (by omega)
    · exact (ye_w0 (by omega) (by omega)).symm.trans (congrArg (ye_wr _) (show (0 : Int) = _ by omega))
theorem xw_155_0_53 : yt_hold xT_155 xk_155 xq_155.2.2.1 xG_155 xP_155 xU_155 19 xk_155.2.1.2.2.2 (fun g0 r g => xR_155 r g0 ∧ g = g0) (1000, ([(3, 3), (0, 99), (1, 40), (0, 0), ((-2147483648), 2147483647), (1, 40), ((-2147483648), 2147483647), (0, 1), ((-2147483648), 2147483647), (0, 100), (0, 1), ((-2147483648), 2147483647), (0, 100), (0, 1), ((-2147483648), 2147483647), (0, 100), (1, 1), ((-2147483648), 2147483647), (1, 100), ((-2147483648), 0)], [([(2, 1), (5, 1)], (-41)), ([(18, 1), (1, (-1)), (2, (-2))], 1)]), [([], (-5)), ([(19, 1)], 0), ([(5, 1)], 0), ([(6, 1)], 0)], [], [.inr (.inr (.inl (118, 1, [([(1, 1)], 0), ([(2, 1)], 0), ([(16, 1)], 0), ([(17, 1)], 0), ([(18, 1)], 0)], [13, 14], [])))]) := by
  intro g0 r gi g hok hh hars hfr hG
  have b0 : 3 ≤ r 0 ∧ r 0 ≤ 3 := hok.1 0 (3, 3) rfl
  have b1 : 0 ≤ r 1 ∧ r 1 ≤ 99 := hok.1 1 (0, 99) rfl
  have b2 : 1 ≤ r 2 ∧ r 2 ≤ 40 := hok.1 2 (1, 40) rfl
  have b3 : 0 ≤ r 3 ∧ r 3 ≤ 0 := hok.1 3 (0, 0) rfl
  have b4 : (-2147483648) ≤ r 4 ∧ r 4 ≤ 2147483647 := hok.1 4 ((-2147483648), 2147483647) rfl
  have b5 : 1 ≤ r 5 ∧ r 5 ≤ 40 := hok.1 5 (1, 40) rfl
  have b6 : (-2147483648) ≤ r 6 ∧ r 6 ≤ 2147483647 := hok.1 6 ((-2147483648), 2147483647) rfl
  have b7 : 0 ≤ r 7 ∧ r 7 ≤ 1 := hok.1 7 (0, 1) rfl
  have b8 : (-2147483648) ≤ r 8 ∧ r 8 ≤ 2147483647 := hok.1 8 ((-2147483648), 2147483647) rfl
  have b9 : 0 ≤ r 9 ∧ r 9 ≤ 100 := hok.1 9 (0, 100) rfl
  have b10 : 0 ≤ r 10 ∧ r 10 ≤ 1 := hok.1 10 (0, 1) rfl
  have b11 : (-2147483648) ≤ r 11 ∧ r 11 ≤ 2147483647 := hok.1 11 ((-2147483648), 2147483647) rfl
  have b12 : 0 ≤ r 12 ∧ r 12 ≤ 100 := hok.1 12 (0, 100) rfl
  have b13 : 0 ≤ r 13 ∧ r 13 ≤ 1 := hok.1 13 (0, 1) rfl
  have b14 : (-2147483648) ≤ r 14 ∧ r 14 ≤ 2147483647 := hok.1 14 ((-2147483648), 2147483647) rfl
  have b15 : 0 ≤ r 15 ∧ r 15 ≤ 100 := hok.1 15 (0, 100) rfl
  have b16 : 1 ≤ r 16 ∧ r 16 ≤ 1 := hok.1 16 (1, 1) rfl
  have b17 : (-2147483648) ≤ r 17 ∧ r 17 ≤ 2147483647 := hok.1 17 ((-2147483648), 2147483647) rfl
  have b18 : 1 ≤ r 18 ∧ r 18 ≤ 100 := hok.1 18 (1, 100) rfl
  have b19 : (-2147483648) ≤ r 19 ∧ r 19 ≤ 0 := hok.1 19 ((-2147483648), 0) rfl
  have f0 : 0 ≤ ((1 * r 2 + (1 * r 5 + 0)) + (-41)) := hok.2 _ (List.mem_of_getElem? (i := 0) rfl)
  have f1 : 0 ≤ ((1 * r 18 + ((-1) * r 1 + ((-2) * r 2 + 0))) + 1) := hok.2 _ (List.mem_of_getElem? (i := 1) rfl)
  obtain ⟨hG, hgi⟩ := hG
  have hG : True := hG
  obtain ⟨h0, hh, e0, k0⟩ := hh
  have k0 : ∀ j, j ∉ [] → g j = h0 j := k0
  have e0 : yq_nr (h0 14) ((1 * r 1 + 0) + 0) ((1 * r 18 + 0) + 0) (2 * ((1 * r 2 + 0) + 0)).toNat = 1 := e0
  have hh : h0 = gi := hh
  subst hh
  refine yt_dalt (by decide) (by decide) ?_
  rw [show xk_155.2.1.2.1.1.length = 19 from rfl]
  show ((((0 : Int) + (-5)) = yq_tr ((1 * r 0 + 0) + 0) ((1 * r 1 + 0) + 0) ((1 * r 2 + 0) + 0) ((1 * r 3 + 0) + 0) (yq_at ((1 * r 0 + 0) + 0) ((1 * ((1 * r 7 + 0) + 0) + 0) + 0) ((1 * ((1 * r 10 + 0) + 0) + 0) + 0) ((1 * ((1 * r 13 + 0) + 0) + 0) + 0) ((1 * ((1 * r 16 + 0) + 0) + 0) + 0)) (yq_at ((1 * r 0 + 0) + 0) ((1 * ((1 * r 9 + 0) + 0) + 0) + 0) ((1 * ((1 * r 12 + 0) + 0) + 0) + 0) ((1 * ((1 * r 15 + 0) + 0) + 0) + 0) ((1 * ((1 * r 18 + 0) + 0) + 0) + 0)) (yq_nr (yq_fat ((1 * r 0 + 0) + 0) (g0 8) (g0 10) (g0 12) (g0 14)) ((1 * r 1 + 0) + 0) (yq_at ((1 * r 0 + 0) + 0) ((1 * ((1 * r 9 + 0) + 0) + 0) + 0) ((1 * ((1 * r 12 + 0) + 0) + 0) + 0) ((1 * ((1 * r 15 + 0) + 0) + 0) + 0) ((1 * ((1 * r 18 + 0) + 0) + 0) + 0)) (2 * ((1 * r 2 + 0) + 0)).toNat) ((1 * ((1 * r 5 + 0) + 0) + 0) + 0) ∧ ((1 * ((1 * r 5 + 0) + 0) + 0) + 0) = yq_tn ((0 : Int) + (-5)) ((1 * ((1 * r 5 + 0) + 0) + 0) + 0)) ∧ (g 2) = yq_ap ((1 * ((1 * r 5 + 0) + 0) + 0) + 0) ((1 * ((1 * r 5 + 0) + 0) + 0) + 0) (yq_vx (yq_fat ((1 * r 0 + 0) + 0) (g0 8) (g0 10) (g0 12) (g0 14)) (yq_at ((1 * r 0 + 0) + 0) ((1 * ((1 * r 9 + 0) + 0) + 0) + 0) ((1 * ((1 * r 12 + 0) + 0) + 0) + 0) ((1 * ((1 * r 15 + 0) + 0) + 0) + 0) ((1 * ((1 * r 18 + 0) + 0) + 0) + 0)) ((1 * r 1 + 0) + 0) ((1 * ((1 * r 5 + 0) + 0) + 0) + 0) 0) (g0 2) ∧ (g 3) = yq_ap ((1 * ((1 * r 5 + 0) + 0) + 0) + 0) ((1 * ((1 * r 5 + 0) + 0) + 0) + 0) (yq_vx (yq_fat ((1 * r 0 + 0) + 0) (g0 8) (g0 10) (g0 12) (g0 14)) (yq_at ((1 * r 0 + 0) + 0) ((1 * ((1 * r 9 + 0) + 0) + 0) + 0) ((1 * ((1 * r 12 + 0) + 0) + 0) + 0) ((1 * ((1 * r 15 + 0) + 0) + 0) + 0) ((1 * ((1 * r 18 + 0) + 0) + 0) + 0)) ((1 * r 1 + 0) + 0) ((1 * ((1 * r 5 + 0) + 0) + 0) + 0) 1) (g0 3) ∧ (g 4) = yq_ap ((1 * ((1 * r 5 + 0) + 0) + 0) + 0) ((1 * ((1 * r 5 + 0) + 0) + 0) + 0) (yq_ct ((1 * r 3 + 0) + 0)) (g0 4) ∧ (g 5) = yq_ap ((1 * ((1 * r 5 + 0) + 0) + 0) + 0) ((1 * ((1 * r 5 + 0) + 0) + 0) + 0) (yq_ct 1) (g0 5)) ∧ ((1 * ((1 * r 6 + 0) + 0) + 0) + 0) = ye_wr ((1 * ((1 * r 6 + 0) + 0) + 0) + 0) (((1 * ((1 * r 5 + 0) + 0) + 0) + 0) - ((1 * ((1 * r 5 + 0) + 0) + 0) + 0))
  try simp only [Int.one_mul, Int.zero_add, Int.add_zero]
  refine ⟨?_, ?_⟩
  · try simp only [Int.one_mul, Int.zero_add, Int.add_zero] at e0
    rw [hgi] at e0
    refine ⟨?_, ?_⟩
    · refine ⟨?_, ?_⟩
      · rw [show r 0 = 3 by omega]
        simp only [yq_at3, yq_fat3]
        unfold yq_tr
        repeat' split
        all_goals omega
      · unfold yq_tn
        repeat' split
        all_goals omega
    · refine ⟨?_, ?_, ?_, ?_⟩
      · rw [k0 2 (by decide), hgi]
        exact yq_ap_0 (by omega)
      · rw [k0 3 (by decide), hgi]
        exact yq_ap_0 (by omega)
      · rw [k0 4 (by decide), hgi]
        exact yq_ap_0 (by omega)
      · rw [k0 5 (by decide), hgi]
        exact yq_ap_0 (by omega)
  · exact (ye_w0 (by omega) (by omega)).symm.trans (congrArg (ye_wr _) (show (0 : Int) = _ by omega))
theorem xw_155_0_54 : yt_hold xT_155 xk_155 xq_155.2.2.1 xG_155 xP_155 xU_155 19 xk_155.2.1.2.2.2 (fun g0 r g => xR_155 r g0 ∧ g = g0) (1000, ([(3, 3), ((-2147483648), 2147483647), (1, 40), (0, 0), ((-2147483648), 2147483647), (0, 40), ((-2147483648), 2147483647), (0, 1), ((-2147483648), 2147483647), (0, 100), (0, 1), ((-2147483648), 2147483647), (0, 100), (0, 1), ((-2147483648), 2147483647), (0, 100), (0, 0), ((-2147483648), 2147483647), (0, 100), ((-2147483648), 0)], []), [([], (-2)), ([(19, 1)], 0), ([(5, 1)], 0), ([(6, 1)], 0)], [], []) := by
  intro g0 r gi g hok hh hars hfr hG
  have b0 : 3 ≤ r 0 ∧ r 0 ≤ 3 := hok.1 0 (3, 3) rfl
  have b1 : (-2147483648) ≤ r 1 ∧ r 1 ≤ 2147483647 := hok.1 1 ((-2147483648), 2147483647) rfl
  have b2 : 1 ≤ r 2 ∧ r 2 ≤ 40 := hok.1 2 (1, 40) rfl
  have b3 : 0 ≤ r 3 ∧ r 3 ≤ 0 := hok.1 3 (0, 0) rfl
  have b4 : (-2147483648) ≤ r 4 ∧ r 4 ≤ 2147483647 := hok.1 4 ((-2147483648), 2147483647) rfl
  have b5 : 0 ≤ r 5 ∧ r 5 ≤ 40 := hok.1 5 (0, 40) rfl
  have b6 : (-2147483648) ≤ r 6 ∧ r 6 ≤ 2147483647 := hok.1 6 ((-2147483648), 2147483647) rfl
  have b7 : 0 ≤ r 7 ∧ r 7 ≤ 1 := hok.1 7 (0, 1) rfl
  have b8 : (-2147483648) ≤ r 8 ∧ r 8 ≤ 2147483647 := hok.1 8 ((-2147483648), 2147483647) rfl
  have b9 : 0 ≤ r 9 ∧ r 9 ≤ 100 := hok.1 9 (0, 100) rfl
  have b10 : 0 ≤ r 10 ∧ r 10 ≤ 1 := hok.1 10 (0, 1) rfl
  have b11 : (-2147483648) ≤ r 11 ∧ r 11 ≤ 2147483647 := hok.1 11 ((-2147483648), 2147483647) rfl
  have b12 : 0 ≤ r 12 ∧ r 12 ≤ 100 := hok.1 12 (0, 100) rfl
  have b13 : 0 ≤ r 13 ∧ r 13 ≤ 1 := hok.1 13 (0, 1) rfl
  have b14 : (-2147483648) ≤ r 14 ∧ r 14 ≤ 2147483647 := hok.1 14 ((-2147483648), 2147483647) rfl
  have b15 : 0 ≤ r 15 ∧ r 15 ≤ 100 := hok.1 15 (0, 100) rfl
  have b16 : 0 ≤ r 16 ∧ r 16 ≤ 0 := hok.1 16 (0, 0) rfl
  have b17 : (-2147483648) ≤ r 17 ∧ r 17 ≤ 2147483647 := hok.1 17 ((-2147483648), 2147483647) rfl
  have b18 : 0 ≤ r 18 ∧ r 18 ≤ 100 := hok.1 18 (0, 100) rfl
  have b19 : (-2147483648) ≤ r 19 ∧ r 19 ≤ 0 := hok.1 19 ((-2147483648), 0) rfl
  obtain ⟨hG, hgi⟩ := hG
  have hG : True := hG
  have hh : g = gi := hh
  subst hh
  refine yt_dalt (by decide) (by decide) ?_
  rw [show xk_155.2.1.2.1.1.length = 19 from rfl]
  show ((((0 : Int) + (-2)) = yq_tr ((1 * r 0 + 0) + 0) ((1 * r 1 + 0) + 0) ((1 * r 2 + 0) + 0) ((1 * r 3 + 0) + 0) (yq_at ((1 * r 0 + 0) + 0) ((1 * ((1 * r 7 + 0) + 0) + 0) + 0) ((1 * ((1 * r 10 + 0) + 0) + 0) + 0) ((1 * ((1 * r 13 + 0) + 0) + 0) + 0) ((1 * ((1 * r 16 + 0) + 0) + 0) + 0)) (yq_at ((1 * r 0 + 0) + 0) ((1 * ((1 * r 9 + 0) + 0) + 0) + 0) ((1 * ((1 * r 12 + 0) + 0) + 0) + 0) ((1 * ((1 * r 15 + 0) + 0) + 0) + 0) ((1 * ((1 * r 18 + 0) + 0) + 0) + 0)) (yq_nr (yq_fat ((1 * r 0 + 0) + 0) (g0 8) (g0 10) (g0 12) (g0 14)) ((1 * r 1 + 0) + 0) (yq_at ((1 * r 0 + 0) + 0) ((1 * ((1 * r 9 + 0) + 0) + 0) + 0) ((1 * ((1 * r 12 + 0) + 0) + 0) + 0) ((1 * ((1 * r 15 + 0) + 0) + 0) + 0) ((1 * ((1 * r 18 + 0) + 0) + 0) + 0)) (2 * ((1 * r 2 + 0) + 0)).toNat) ((1 * ((1 * r 5 + 0) + 0) + 0) + 0) ∧ ((1 * ((1 * r 5 + 0) + 0) + 0) + 0) = yq_tn ((0 : Int) + (-2)) ((1 * ((1 * r 5 + 0) + 0) + 0) + 0)) ∧ (g 2) = yq_ap ((1 * ((1 * r 5 + 0) + 0) + 0) + 0) ((1 * ((1 * r 5 + 0) + 0) + 0) + 0) (yq_vx (yq_fat ((1 * r 0 + 0) + 0) (g0 8) (g0 10) (g0 12) (g0 14)) (yq_at ((1 * r 0 + 0) + 0) ((1 * ((1 * r 9 + 0) + 0) + 0) + 0) ((1 * ((1 * r 12 + 0) + 0) + 0) + 0) ((1 * ((1 * r 15 + 0) + 0) + 0) + 0) ((1 * ((1 * r 18 + 0) + 0) + 0) + 0)) ((1 * r 1 + 0) + 0) ((1 * ((1 * r 5 + 0) + 0) + 0) + 0) 0) (g0 2) ∧ (g 3) = yq_ap ((1 * ((1 * r 5 + 0) + 0) + 0) + 0) ((1 * ((1 * r 5 + 0) + 0) + 0) + 0) (yq_vx (yq_fat ((1 * r 0 + 0) + 0) (g0 8) (g0 10) (g0 12) (g0 14)) (yq_at ((1 * r 0 + 0) + 0) ((1 * ((1 * r 9 + 0) + 0) + 0) + 0) ((1 * ((1 * r 12 + 0) + 0) + 0) + 0) ((1 * ((1 * r 15 + 0) + 0) + 0) + 0) ((1 * ((1 * r 18 + 0) + 0) + 0) + 0)) ((1 * r 1 + 0) + 0) ((1 * ((1 * r 5 + 0) + 0) + 0) + 0) 1) (g0 3) ∧ (g 4) = yq_ap ((1 * ((1 * r 5 + 0) + 0) + 0) + 0) ((1 * ((1 * r 5 + 0) + 0) + 0) + 0) (yq_ct ((1 * r 3 + 0) + 0)) (g0 4) ∧ (g 5) = yq_ap ((1 * ((1 * r 5 + 0) + 0) + 0) + 0) ((1 * ((1 * r 5 + 0) + 0) + 0) + 0) (yq_ct 1) (g0 5)) ∧ ((1 * ((1 * r 6 + 0) + 0) + 0) + 0) = ye_wr ((1 * ((1 * r 6 + 0) + 0) + 0) + 0) (((1 * ((1 * r 5 + 0) + 0) + 0) + 0) - ((1 * ((1 * r 5 + 0) + 0) + 0) + 0))
  try simp only [Int.one_mul, Int.zero_add, Int.add_zero]
  refine ⟨?_, ?_⟩
  · refine ⟨?_, ?_⟩
    · refine ⟨?_, ?_⟩
      · rw [show r 0 = 3 by omega]
        simp only [yq_at3, yq_fat3]
        unfold yq_tr
        repeat' split
        all_goals omega
      · unfold yq_tn
        repeat' split
        all_goals omega
    · refine ⟨?_, ?_, ?_, ?_⟩
      · rw [hgi]
        exact yq_ap_0 (by omega)
      · rw [hgi]
        exact yq_ap_0 (by omega)
      · rw [hgi]
        exact yq_ap_0 (by omega)
      · rw [hgi]
        exact yq_ap_0 (by omega)
  · exact (ye_w0 (by omega) (by omega)).symm.trans (congrArg (ye_wr _) (show (0 : Int) = _ by omega))
theorem xw_155_0_55 : yt_hold xT_155 xk_155 xq_155.2.2.1 xG_155 xP_155 xU_155 19 xk_155.2.1.2.2.2 (fun g0 r g => xR_155 r g0 ∧ g = g0) (1000, ([(0, 3), ((-2147483648), 2147483647), (41, 2147483647), (0, 0), ((-2147483648), 2147483647), (0, 40), ((-2147483648), 2147483647), (0, 1), ((-2147483648), 2147483647), (0, 100), (0, 1), ((-2147483648), 2147483647), (0, 100), (0, 1), ((-2147483648), 2147483647), (0, 100), (0, 1), ((-2147483648), 2147483647), (0, 100), ((-2147483648), 0)], []), [([], (-1)), ([(19, 1)], 0), ([(5, 1)], 0), ([(6, 1)], 0)], [], []) := by
  intro g0 r gi g hok hh hars hfr hG
  have b0 : 0 ≤ r 0 ∧ r 0 ≤ 3 := hok.1 0 (0, 3) rfl
  have b1 : (-2147483648) ≤ r 1 ∧ r 1 ≤ 2147483647 := hok.1 1 ((-2147483648), 2147483647) rfl
  have b2 : 41 ≤ r 2 ∧ r 2 ≤ 2147483647 := hok.1 2 (41, 2147483647) rfl
  have b3 : 0 ≤ r 3 ∧ r 3 ≤ 0 := hok.1 3 (0, 0) rfl
  have b4 : (-2147483648) ≤ r 4 ∧ r 4 ≤ 2147483647 := hok.1 4 ((-2147483648), 2147483647) rfl
  have b5 : 0 ≤ r 5 ∧ r 5 ≤ 40 := hok.1 5 (0, 40) rfl
  have b6 : (-2147483648) ≤ r 6 ∧ r 6 ≤ 2147483647 := hok.1 6 ((-2147483648), 2147483647) rfl
  have b7 : 0 ≤ r 7 ∧ r 7 ≤ 1 := hok.1 7 (0, 1) rfl
  have b8 : (-2147483648) ≤ r 8 ∧ r 8 ≤ 2147483647 := hok.1 8 ((-2147483648), 2147483647) rfl
  have b9 : 0 ≤ r 9 ∧ r 9 ≤ 100 := hok.1 9 (0, 100) rfl
  have b10 : 0 ≤ r 10 ∧ r 10 ≤ 1 := hok.1 10 (0, 1) rfl
  have b11 : (-2147483648) ≤ r 11 ∧ r 11 ≤ 2147483647 := hok.1 11 ((-2147483648), 2147483647) rfl
  have b12 : 0 ≤ r 12 ∧ r 12 ≤ 100 := hok.1 12 (0, 100) rfl
  have b13 : 0 ≤ r 13 ∧ r 13 ≤ 1 := hok.1 13 (0, 1) rfl
  have b14 : (-2147483648) ≤ r 14 ∧ r 14 ≤ 2147483647 := hok.1 14 ((-2147483648), 2147483647) rfl
  have b15 : 0 ≤ r 15 ∧ r 15 ≤ 100 := hok.1 15 (0, 100) rfl
  have b16 : 0 ≤ r 16 ∧ r 16 ≤ 1 := hok.1 16 (0, 1) rfl
  have b17 : (-2147483648) ≤ r 17 ∧ r 17 ≤ 2147483647 := hok.1 17 ((-2147483648), 2147483647) rfl
  have b18 : 0 ≤ r 18 ∧ r 18 ≤ 100 := hok.1 18 (0, 100) rfl
  have b19 : (-2147483648) ≤ r 19 ∧ r 19 ≤ 0 := hok.1 19 ((-2147483648), 0) rfl
  obtain ⟨hG, hgi⟩ := hG
  have hG : True := hG
  have hh : g = gi := hh
  subst hh
  refine yt_dalt (by decide) (by decide) ?_
  rw [show xk_155.2.1.2.1.1.length = 19 from rfl]
  show ((((0 : Int) + (-1)) = yq_tr ((1 * r 0 + 0) + 0) ((1 * r 1 + 0) + 0) ((1 * r 2 + 0) + 0) ((1 * r 3 + 0) + 0) (yq_at ((1 * r 0 + 0) + 0) ((1 * ((1 * r 7 + 0) + 0) + 0) + 0) ((1 * ((1 * r 10 + 0) + 0) + 0) + 0) ((1 * ((1 * r 13 + 0) + 0) + 0) + 0) ((1 * ((1 * r 16 + 0) + 0) + 0) + 0)) (yq_at ((1 * r 0 + 0) + 0) ((1 * ((1 * r 9 + 0) + 0) + 0) + 0) ((1 * ((1 * r 12 + 0) + 0) + 0) + 0) ((1 * ((1 * r 15 + 0) + 0) + 0) + 0) ((1 * ((1 * r 18 + 0) + 0) + 0) + 0)) (yq_nr (yq_fat ((1 * r 0 + 0) + 0) (g0 8) (g0 10) (g0 12) (g0 14)) ((1 * r 1 + 0) + 0) (yq_at ((1 * r 0 + 0) + 0) ((1 * ((1 * r 9 + 0) + 0) + 0) + 0) ((1 * ((1 * r 12 + 0) + 0) + 0) + 0) ((1 * ((1 * r 15 + 0) + 0) + 0) + 0) ((1 * ((1 * r 18 + 0) + 0) + 0) + 0)) (2 * ((1 * r 2 + 0) + 0)).toNat) ((1 * ((1 * r 5 + 0) + 0) + 0) + 0) ∧ ((1 * ((1 * r 5 + 0) + 0) + 0) + 0) = yq_tn ((0 : Int) + (-1)) ((1 * ((1 * r 5 + 0) + 0) + 0) + 0)) ∧ (g 2) = yq_ap ((1 * ((1 * r 5 + 0) + 0) + 0) + 0) ((1 * ((1 * r 5 + 0) + 0) + 0) + 0) (yq_vx (yq_fat ((1 * r 0 + 0) + 0) (g0 8) (g0 10) (g0 12) (g0 14)) (yq_at ((1 * r 0 + 0) + 0) ((1 * ((1 * r 9 + 0) + 0) + 0) + 0) ((1 * ((1 * r 12 + 0) + 0) + 0) + 0) ((1 * ((1 * r 15 + 0) + 0) + 0) + 0) ((1 * ((1 * r 18 + 0) + 0) + 0) + 0)) ((1 * r 1 + 0) + 0) ((1 * ((1 * r 5 + 0) + 0) + 0) + 0) 0) (g0 2) ∧ (g 3) = yq_ap ((1 * ((1 * r 5 + 0) + 0) + 0) + 0) ((1 * ((1 * r 5 + 0) + 0) + 0) + 0) (yq_vx (yq_fat ((1 * r 0 + 0) + 0) (g0 8) (g0 10) (g0 12) (g0 14)) (yq_at ((1 * r 0 + 0) + 0) ((1 * ((1 * r 9 + 0) + 0) + 0) + 0) ((1 * ((1 * r 12 + 0) + 0) + 0) + 0) ((1 * ((1 * r 15 + 0) + 0) + 0) + 0) ((1 * ((1 * r 18 + 0) + 0) + 0) + 0)) ((1 * r 1 + 0) + 0) ((1 * ((1 * r 5 + 0) + 0) + 0) + 0) 1) (g0 3) ∧ (g 4) = yq_ap ((1 * ((1 * r 5 + 0) + 0) + 0) + 0) ((1 * ((1 * r 5 + 0) + 0) + 0) + 0) (yq_ct ((1 * r 3 + 0) + 0)) (g0 4) ∧ (g 5) = yq_ap ((1 * ((1 * r 5 + 0) + 0) + 0) + 0) ((1 * ((1 * r 5 + 0) + 0) + 0) + 0) (yq_ct 1) (g0 5)) ∧ ((1 * ((1 * r 6 + 0) + 0) + 0) + 0) = ye_wr ((1 * ((1 * r 6 + 0) + 0) + 0) + 0) (((1 * ((1 * r 5 + 0) + 0) + 0) + 0) - ((1 * ((1 * r 5 + 0) + 0) + 0) + 0))
  try simp only [Int.one_mul, Int.zero_add, Int.add_zero]
  refine ⟨?_, ?_⟩
  · refine ⟨?_, ?_⟩
    · refine ⟨?_, ?_⟩
      · unfold yq_tr
        rw [if_neg (by omega)] <;> omega
      · unfold yq_tn
        repeat' split
        all_goals omega
    · refine ⟨?_, ?_, ?_, ?_⟩
      · rw [hgi]
        exact yq_ap_0 (by omega)
      · rw [hgi]
        exact yq_ap_0 (by omega)
      · rw [hgi]
        exact yq_ap_0 (by omega)
      · rw [hgi]
        exact yq_ap_0 (by omega)
  · exact (ye_w0 (by omega) (by omega)).symm.trans (congrArg (ye_wr _) (show (0 : Int) = _ by omega))
theorem xw_155_1_0 : yt_hold xT_155 xk_155 xq_155.2.2.1 xG_155 xP_155 xU_155 22 ((xq_155.2.2.1.getD 0 (0, ([], [], ([], []), [], [], ([], 0)), [], false)).2.1.2.2.1.2) (xG_155 0) (1000, ([(0, 3), (0, 99), (1, 40), (0, 1), ((-2147483648), 2147483647), (0, 39), ((-2147483648), 2147483647), (0, 1), ((-2147483648), 2147483647), (0, 100), (0, 1), ((-2147483648), 2147483647), (0, 100), (0, 1), ((-2147483648), 2147483647), (0, 100), (0, 1), ((-2147483648), 2147483647), (0, 100), (1, 40), (0, 40), ((-2147483648), 2147483647), ((-2147483648), 0)], [([(2, (-1)), (19, 1)], 0), ([(2, (-1)), (5, (-1))], 40), ([(0, 1)], 0), ([(0, (-1))], 3), ([(1, 1)], 0), ([(1, (-1))], 99), ([(2, 1)], (-1)), ([(2, (-1))], 40), ([(3, 1)], 0), ([(3, (-1))], 1), ([(5, (-1))], 39), ([(2, (-1)), (5, (-1))], 40)]), [([(20, 1)], 0), ([(22, 1)], 0), ([(20, 1)], 0), ([(21, 1)], 0)], [], []) := by
  intro g0 r gi g hok hh hars hfr hG
  have b0 : 0 ≤ r 0 ∧ r 0 ≤ 3 := hok.1 0 (0, 3) rfl
  have b1 : 0 ≤ r 1 ∧ r 1 ≤ 99 := hok.1 1 (0, 99) rfl
  have b2 : 1 ≤ r 2 ∧ r 2 ≤ 40 := hok.1 2 (1, 40) rfl
  have b3 : 0 ≤ r 3 ∧ r 3 ≤ 1 := hok.1 3 (0, 1) rfl
  have b4 : (-2147483648) ≤ r 4 ∧ r 4 ≤ 2147483647 := hok.1 4 ((-2147483648), 2147483647) rfl
  have b5 : 0 ≤ r 5 ∧ r 5 ≤ 39 := hok.1 5 (0, 39) rfl
  have b6 : (-2147483648) ≤ r 6 ∧ r 6 ≤ 2147483647 := hok.1 6 ((-2147483648), 2147483647) rfl
  have b7 : 0 ≤ r 7 ∧ r 7 ≤ 1 := hok.1 7 (0, 1) rfl
  have b8 : (-2147483648) ≤ r 8 ∧ r 8 ≤ 2147483647 := hok.1 8 ((-2147483648), 2147483647) rfl
  have b9 : 0 ≤ r 9 ∧ r 9 ≤ 100 := hok.1 9 (0, 100) rfl
  have b10 : 0 ≤ r 10 ∧ r 10 ≤ 1 := hok.1 10 (0, 1) rfl
  have b11 : (-2147483648) ≤ r 11 ∧ r 11 ≤ 2147483647 := hok.1 11 ((-2147483648), 2147483647) rfl
  have b12 : 0 ≤ r 12 ∧ r 12 ≤ 100 := hok.1 12 (0, 100) rfl
  have b13 : 0 ≤ r 13 ∧ r 13 ≤ 1 := hok.1 13 (0, 1) rfl
  have b14 : (-2147483648) ≤ r 14 ∧ r 14 ≤ 2147483647 := hok.1 14 ((-2147483648), 2147483647) rfl
  have b15 : 0 ≤ r 15 ∧ r 15 ≤ 100 := hok.1 15 (0, 100) rfl
  have b16 : 0 ≤ r 16 ∧ r 16 ≤ 1 := hok.1 16 (0, 1) rfl
  have b17 : (-2147483648) ≤ r 17 ∧ r 17 ≤ 2147483647 := hok.1 17 ((-2147483648), 2147483647) rfl
  have b18 : 0 ≤ r 18 ∧ r 18 ≤ 100 := hok.1 18 (0, 100) rfl
  have b19 : 1 ≤ r 19 ∧ r 19 ≤ 40 := hok.1 19 (1, 40) rfl
  have b20 : 0 ≤ r 20 ∧ r 20 ≤ 40 := hok.1 20 (0, 40) rfl
  have b21 : (-2147483648) ≤ r 21 ∧ r 21 ≤ 2147483647 := hok.1 21 ((-2147483648), 2147483647) rfl
  have b22 : (-2147483648) ≤ r 22 ∧ r 22 ≤ 0 := hok.1 22 ((-2147483648), 0) rfl
  have f0 : 0 ≤ (((-1) * r 2 + (1 * r 19 + 0)) + 0) := hok.2 _ (List.mem_of_getElem? (i := 0) rfl)
  have f1 : 0 ≤ (((-1) * r 2 + ((-1) * r 5 + 0)) + 40) := hok.2 _ (List.mem_of_getElem? (i := 1) rfl)
  have f2 : 0 ≤ ((1 * r 0 + 0) + 0) := hok.2 _ (List.mem_of_getElem? (i := 2) rfl)
  have f3 : 0 ≤ (((-1) * r 0 + 0) + 3) := hok.2 _ (List.mem_of_getElem? (i := 3) rfl)
  have f4 : 0 ≤ ((1 * r 1 + 0) + 0) := hok.2 _ (List.mem_of_getElem? (i := 4) rfl)
  have f5 : 0 ≤ (((-1) * r 1 + 0) + 99) := hok.2 _ (List.mem_of_getElem? (i := 5) rfl)
  have f6 : 0 ≤ ((1 * r 2 + 0) + (-1)) := hok.2 _ (List.mem_of_getElem? (i := 6) rfl)
  have f7 : 0 ≤ (((-1) * r 2 + 0) + 40) := hok.2 _ (List.mem_of_getElem? (i := 7) rfl)
  have f8 : 0 ≤ ((1 * r 3 + 0) + 0) := hok.2 _ (List.mem_of_getElem? (i := 8) rfl)
  have f9 : 0 ≤ (((-1) * r 3 + 0) + 1) := hok.2 _ (List.mem_of_getElem? (i := 9) rfl)
  have f10 : 0 ≤ (((-1) * r 5 + 0) + 39) := hok.2 _ (List.mem_of_getElem? (i := 10) rfl)
  have f11 : 0 ≤ (((-1) * r 2 + ((-1) * r 5 + 0)) + 40) := hok.2 _ (List.mem_of_getElem? (i := 11) rfl)
  have hG : ((yq_at (r 0) ((1 * (r 7) + 0) + 0) ((1 * (r 10) + 0) + 0) ((1 * (r 13) + 0) + 0) ((1 * (r 16) + 0) + 0)) ≠ 0 ∧ (0 ≤ (r 1) ∧ (r 1) + 2 * (r 2) - 2 < (yq_at (r 0) ((1 * (r 9) + 0) + 0) ((1 * (r 12) + 0) + 0) ((1 * (r 15) + 0) + 0) ((1 * (r 18) + 0) + 0))) ∧ (yq_nr (yq_fat (r 0) (g0 8) (g0 10) (g0 12) (g0 14)) (r 1) (yq_at (r 0) ((1 * (r 9) + 0) + 0) ((1 * (r 12) + 0) + 0) ((1 * (r 15) + 0) + 0) ((1 * (r 18) + 0) + 0)) (2 * (r 2)).toNat) = 1 ∧ ((1 * (r 20) + 0) + 0) = ((1 * (r 5) + 0) + 0) + ((1 * (r 19) + 0) + 0) ∧ ((1 * (r 19) + 0) + 0) ≤ (r 2) ∧ (gi 2) = yq_ap (((1 * (r 5) + 0) + 0) + ((1 * (r 19) + 0) + 0)) ((1 * (r 5) + 0) + 0) (yq_vx (yq_fat (r 0) (g0 8) (g0 10) (g0 12) (g0 14)) (yq_at (r 0) ((1 * (r 9) + 0) + 0) ((1 * (r 12) + 0) + 0) ((1 * (r 15) + 0) + 0) ((1 * (r 18) + 0) + 0)) (r 1) ((1 * (r 5) + 0) + 0) 0) (g0 2) ∧ (gi 3) = yq_ap (((1 * (r 5) + 0) + 0) + ((1 * (r 19) + 0) + 0)) ((1 * (r 5) + 0) + 0) (yq_vx (yq_fat (r 0) (g0 8) (g0 10) (g0 12) (g0 14)) (yq_at (r 0) ((1 * (r 9) + 0) + 0) ((1 * (r 12) + 0) + 0) ((1 * (r 15) + 0) + 0) ((1 * (r 18) + 0) + 0)) (r 1) ((1 * (r 5) + 0) + 0) 1) (g0 3) ∧ (gi 4) = yq_ap (((1 * (r 5) + 0) + 0) + ((1 * (r 19) + 0) + 0)) ((1 * (r 5) + 0) + 0) (yq_ct (r 3)) (g0 4) ∧ (gi 5) = yq_ap (((1 * (r 5) + 0) + 0) + ((1 * (r 19) + 0) + 0)) ((1 * (r 5) + 0) + 0) (yq_ct 1) (g0 5)) ∧ ((1 * (r 21) + 0) + 0) = ye_wr ((1 * (r 6) + 0) + 0) ((1 * (r 19) + 0) + 0) := hG
  have hh : g = gi := hh
  subst hh
  refine yt_dalt (by decide) (by decide) ?_
  rw [show xk_155.2.1.2.1.1.length = 19 from rfl]
  show ((((1 * r 20 + 0) + 0) = yq_tr ((1 * r 0 + 0) + 0) ((1 * r 1 + 0) + 0) ((1 * r 2 + 0) + 0) ((1 * r 3 + 0) + 0) (yq_at ((1 * r 0 + 0) + 0) ((1 * ((1 * r 7 + 0) + 0) + 0) + 0) ((1 * ((1 * r 10 + 0) + 0) + 0) + 0) ((1 * ((1 * r 13 + 0) + 0) + 0) + 0) ((1 * ((1 * r 16 + 0) + 0) + 0) + 0)) (yq_at ((1 * r 0 + 0) + 0) ((1 * ((1 * r 9 + 0) + 0) + 0) + 0) ((1 * ((1 * r 12 + 0) + 0) + 0) + 0) ((1 * ((1 * r 15 + 0) + 0) + 0) + 0) ((1 * ((1 * r 18 + 0) + 0) + 0) + 0)) (yq_nr (yq_fat ((1 * r 0 + 0) + 0) (g0 8) (g0 10) (g0 12) (g0 14)) ((1 * r 1 + 0) + 0) (yq_at ((1 * r 0 + 0) + 0) ((1 * ((1 * r 9 + 0) + 0) + 0) + 0) ((1 * ((1 * r 12 + 0) + 0) + 0) + 0) ((1 * ((1 * r 15 + 0) + 0) + 0) + 0) ((1 * ((1 * r 18 + 0) + 0) + 0) + 0)) (2 * ((1 * r 2 + 0) + 0)).toNat) ((1 * ((1 * r 5 + 0) + 0) + 0) + 0) ∧ ((1 * ((1 * r 20 + 0) + 0) + 0) + 0) = yq_tn ((1 * r 20 + 0) + 0) ((1 * ((1 * r 5 + 0) + 0) + 0) + 0)) ∧ (g 2) = yq_ap ((1 * ((1 * r 20 + 0) + 0) + 0) + 0) ((1 * ((1 * r 5 + 0) + 0) + 0) + 0) (yq_vx (yq_fat ((1 * r 0 + 0) + 0) (g0 8) (g0 10) (g0 12) (g0 14)) (yq_at ((1 * r 0 + 0) + 0) ((1 * ((1 * r 9 + 0) + 0) + 0) + 0) ((1 * ((1 * r 12 + 0) + 0) + 0) + 0) ((1 * ((1 * r 15 + 0) + 0) + 0) + 0) ((1 * ((1 * r 18 + 0) + 0) + 0) + 0)) ((1 * r 1 + 0) + 0) ((1 * ((1 * r 5 + 0) + 0) + 0) + 0) 0) (g0 2) ∧ (g 3) = yq_ap ((1 * ((1 * r 20 + 0) + 0) + 0) + 0) ((1 * ((1 * r 5 + 0) + 0) + 0) + 0) (yq_vx (yq_fat ((1 * r 0 + 0) + 0) (g0 8) (g0 10) (g0 12) (g0 14)) (yq_at ((1 * r 0 + 0) + 0) ((1 * ((1 * r 9 + 0) + 0) + 0) + 0) ((1 * ((1 * r 12 + 0) + 0) + 0) + 0) ((1 * ((1 * r 15 + 0) + 0) + 0) + 0) ((1 * ((1 * r 18 + 0) + 0) + 0) + 0)) ((1 * r 1 + 0) + 0) ((1 * ((1 * r 5 + 0) + 0) + 0) + 0) 1) (g0 3) ∧ (g 4) = yq_ap ((1 * ((1 * r 20 + 0) + 0) + 0) + 0) ((1 * ((1 * r 5 + 0) + 0) + 0) + 0) (yq_ct ((1 * r 3 + 0) + 0)) (g0 4) ∧ (g 5) = yq_ap ((1 * ((1 * r 20 + 0) + 0) + 0) + 0) ((1 * ((1 * r 5 + 0) + 0) + 0) + 0) (yq_ct 1) (g0 5)) ∧ ((1 * ((1 * r 21 + 0) + 0) + 0) + 0) = ye_wr ((1 * ((1 * r 6 + 0) + 0) + 0) + 0) (((1 * ((1 * r 20 + 0) + 0) + 0) + 0) - ((1 * ((1 * r 5 + 0) + 0) + 0) + 0))
  try simp only [Int.one_mul, Int.zero_add, Int.add_zero]
  try simp only [Int.one_mul, Int.zero_add, Int.add_zero] at hG
  obtain ⟨hG, hN⟩ := hG
  refine ⟨?_, ?_⟩
  · try simp only [Int.one_mul, Int.zero_add, Int.add_zero] at hG
    obtain ⟨a1, a2, a3, a4, a5, c0, c1, c2, c3⟩ := hG
    refine ⟨?_, ?_⟩
    · refine ⟨?_, ?_⟩
      · unfold yq_tr
        repeat' split
        all_goals omega
      · unfold yq_tn
        repeat' split
        all_goals omega
    · rw [show r 5 + r 19 = r 20 by omega] at c0
      rw [show r 5 + r 19 = r 20 by omega] at c1
      rw [show r 5 + r 19 = r 20 by omega] at c2
      rw [show r 5 + r 19 = r 20 by omega] at c3
      exact ⟨c0, c1, c2, c3⟩
  · try simp only [Int.one_mul, Int.zero_add, Int.add_zero] at hN
    obtain ⟨a1, a2, a3, a4, a5, c0, c1, c2, c3⟩ := hG
    rw [hN]
    exact congrArg (ye_wr _) (show r 19 = _ by omega)
theorem xw_155_1_1 : yt_hold xT_155 xk_155 xq_155.2.2.1 xG_155 xP_155 xU_155 22 ((xq_155.2.2.1.getD 0 (0, ([], [], ([], []), [], [], ([], 0)), [], false)).2.1.2.2.1.2) (xG_155 0) (1, ([(0, 0), (0, 99), (1, 40), (0, 1), ((-2147483648), 2147483647), (0, 39), ((-2147483648), 2147483647), (0, 1), ((-2147483648), 2147483647), (0, 100), (0, 1), ((-2147483648), 2147483647), (0, 100), (0, 1), ((-2147483648), 2147483647), (0, 100), (0, 1), ((-2147483648), 2147483647), (0, 100), (0, 39), (0, 40), ((-2147483648), 2147483647), ((-9223372036854775808), 9223372036854775807)], [([(2, 1), (19, (-1))], (-1)), ([(2, (-1)), (5, (-1))], 40), ([(0, 1)], 0), ([(0, (-1))], 3), ([(1, 1)], 0), ([(1, (-1))], 99), ([(2, 1)], (-1)), ([(2, (-1))], 40), ([(3, 1)], 0), ([(3, (-1))], 1), ([(5, (-1))], 39), ([(2, (-1)), (5, (-1))], 40)]), [([(19, 1)], 0), ([(19, 2), (1, 1)], 0), ([(22, 1)], 0), ([(20, 1)], 0), ([(21, 1)], 0)], [], [.inr (.inr (.inl (119, 0, [([(19, 2), (1, 1)], 0), ([(7, 1)], 0), ([(8, 1)], 0), ([(9, 1)], 0), ([(22, 1)], 0)], [7, 8], [])))]) := by
  intro g0 r gi g hok hh hars hfr hG
  have b0 : 0 ≤ r 0 ∧ r 0 ≤ 0 := hok.1 0 (0, 0) rfl
  have b1 : 0 ≤ r 1 ∧ r 1 ≤ 99 := hok.1 1 (0, 99) rfl
  have b2 : 1 ≤ r 2 ∧ r 2 ≤ 40 := hok.1 2 (1, 40) rfl
  have b3 : 0 ≤ r 3 ∧ r 3 ≤ 1 := hok.1 3 (0, 1) rfl
  have b4 : (-2147483648) ≤ r 4 ∧ r 4 ≤ 2147483647 := hok.1 4 ((-2147483648), 2147483647) rfl
  have b5 : 0 ≤ r 5 ∧ r 5 ≤ 39 := hok.1 5 (0, 39) rfl
  have b6 : (-2147483648) ≤ r 6 ∧ r 6 ≤ 2147483647 := hok.1 6 ((-2147483648), 2147483647) rfl
  have b7 : 0 ≤ r 7 ∧ r 7 ≤ 1 := hok.1 7 (0, 1) rfl
  have b8 : (-2147483648) ≤ r 8 ∧ r 8 ≤ 2147483647 := hok.1 8 ((-2147483648), 2147483647) rfl
  have b9 : 0 ≤ r 9 ∧ r 9 ≤ 100 := hok.1 9 (0, 100) rfl
  have b10 : 0 ≤ r 10 ∧ r 10 ≤ 1 := hok.1 10 (0, 1) rfl
  have b11 : (-2147483648) ≤ r 11 ∧ r 11 ≤ 2147483647 := hok.1 11 ((-2147483648), 2147483647) rfl
  have b12 : 0 ≤ r 12 ∧ r 12 ≤ 100 := hok.1 12 (0, 100) rfl
  have b13 : 0 ≤ r 13 ∧ r 13 ≤ 1 := hok.1 13 (0, 1) rfl
  have b14 : (-2147483648) ≤ r 14 ∧ r 14 ≤ 2147483647 := hok.1 14 ((-2147483648), 2147483647) rfl
  have b15 : 0 ≤ r 15 ∧ r 15 ≤ 100 := hok.1 15 (0, 100) rfl
  have b16 : 0 ≤ r 16 ∧ r 16 ≤ 1 := hok.1 16 (0, 1) rfl
  have b17 : (-2147483648) ≤ r 17 ∧ r 17 ≤ 2147483647 := hok.1 17 ((-2147483648), 2147483647) rfl
  have b18 : 0 ≤ r 18 ∧ r 18 ≤ 100 := hok.1 18 (0, 100) rfl
  have b19 : 0 ≤ r 19 ∧ r 19 ≤ 39 := hok.1 19 (0, 39) rfl
  have b20 : 0 ≤ r 20 ∧ r 20 ≤ 40 := hok.1 20 (0, 40) rfl
  have b21 : (-2147483648) ≤ r 21 ∧ r 21 ≤ 2147483647 := hok.1 21 ((-2147483648), 2147483647) rfl
  have b22 : (-9223372036854775808) ≤ r 22 ∧ r 22 ≤ 9223372036854775807 := hok.1 22 ((-9223372036854775808), 9223372036854775807) rfl
  have f0 : 0 ≤ ((1 * r 2 + ((-1) * r 19 + 0)) + (-1)) := hok.2 _ (List.mem_of_getElem? (i := 0) rfl)
  have f1 : 0 ≤ (((-1) * r 2 + ((-1) * r 5 + 0)) + 40) := hok.2 _ (List.mem_of_getElem? (i := 1) rfl)
  have f2 : 0 ≤ ((1 * r 0 + 0) + 0) := hok.2 _ (List.mem_of_getElem? (i := 2) rfl)
  have f3 : 0 ≤ (((-1) * r 0 + 0) + 3) := hok.2 _ (List.mem_of_getElem? (i := 3) rfl)
  have f4 : 0 ≤ ((1 * r 1 + 0) + 0) := hok.2 _ (List.mem_of_getElem? (i := 4) rfl)
  have f5 : 0 ≤ (((-1) * r 1 + 0) + 99) := hok.2 _ (List.mem_of_getElem? (i := 5) rfl)
  have f6 : 0 ≤ ((1 * r 2 + 0) + (-1)) := hok.2 _ (List.mem_of_getElem? (i := 6) rfl)
  have f7 : 0 ≤ (((-1) * r 2 + 0) + 40) := hok.2 _ (List.mem_of_getElem? (i := 7) rfl)
  have f8 : 0 ≤ ((1 * r 3 + 0) + 0) := hok.2 _ (List.mem_of_getElem? (i := 8) rfl)
  have f9 : 0 ≤ (((-1) * r 3 + 0) + 1) := hok.2 _ (List.mem_of_getElem? (i := 9) rfl)
  have f10 : 0 ≤ (((-1) * r 5 + 0) + 39) := hok.2 _ (List.mem_of_getElem? (i := 10) rfl)
  have f11 : 0 ≤ (((-1) * r 2 + ((-1) * r 5 + 0)) + 40) := hok.2 _ (List.mem_of_getElem? (i := 11) rfl)
  have hG : ((yq_at (r 0) ((1 * (r 7) + 0) + 0) ((1 * (r 10) + 0) + 0) ((1 * (r 13) + 0) + 0) ((1 * (r 16) + 0) + 0)) ≠ 0 ∧ (0 ≤ (r 1) ∧ (r 1) + 2 * (r 2) - 2 < (yq_at (r 0) ((1 * (r 9) + 0) + 0) ((1 * (r 12) + 0) + 0) ((1 * (r 15) + 0) + 0) ((1 * (r 18) + 0) + 0))) ∧ (yq_nr (yq_fat (r 0) (g0 8) (g0 10) (g0 12) (g0 14)) (r 1) (yq_at (r 0) ((1 * (r 9) + 0) + 0) ((1 * (r 12) + 0) + 0) ((1 * (r 15) + 0) + 0) ((1 * (r 18) + 0) + 0)) (2 * (r 2)).toNat) = 1 ∧ ((1 * (r 20) + 0) + 0) = ((1 * (r 5) + 0) + 0) + ((1 * (r 19) + 0) + 0) ∧ ((1 * (r 19) + 0) + 0) ≤ (r 2) ∧ (gi 2) = yq_ap (((1 * (r 5) + 0) + 0) + ((1 * (r 19) + 0) + 0)) ((1 * (r 5) + 0) + 0) (yq_vx (yq_fat (r 0) (g0 8) (g0 10) (g0 12) (g0 14)) (yq_at (r 0) ((1 * (r 9) + 0) + 0) ((1 * (r 12) + 0) + 0) ((1 * (r 15) + 0) + 0) ((1 * (r 18) + 0) + 0)) (r 1) ((1 * (r 5) + 0) + 0) 0) (g0 2) ∧ (gi 3) = yq_ap (((1 * (r 5) + 0) + 0) + ((1 * (r 19) + 0) + 0)) ((1 * (r 5) + 0) + 0) (yq_vx (yq_fat (r 0) (g0 8) (g0 10) (g0 12) (g0 14)) (yq_at (r 0) ((1 * (r 9) + 0) + 0) ((1 * (r 12) + 0) + 0) ((1 * (r 15) + 0) + 0) ((1 * (r 18) + 0) + 0)) (r 1) ((1 * (r 5) + 0) + 0) 1) (g0 3) ∧ (gi 4) = yq_ap (((1 * (r 5) + 0) + 0) + ((1 * (r 19) + 0) + 0)) ((1 * (r 5) + 0) + 0) (yq_ct (r 3)) (g0 4) ∧ (gi 5) = yq_ap (((1 * (r 5) + 0) + 0) + ((1 * (r 19) + 0) + 0)) ((1 * (r 5) + 0) + 0) (yq_ct 1) (g0 5)) ∧ ((1 * (r 21) + 0) + 0) = ye_wr ((1 * (r 6) + 0) + 0) ((1 * (r 19) + 0) + 0) := hG
  obtain ⟨h0, hh, e0, k0⟩ := hh
  have k0 : ∀ j, j ∉ [] → g j = h0 j := k0
  have e0 : ((1 * r 22 + 0) + 0) = yq_nz (h0 8) ((1 * r 9 + 0) + 0) ((2 * r 19 + (1 * r 1 + 0)) + 0) := e0
  have hh : h0 = gi := hh
  subst hh
  refine yt_dcut (by decide) rfl ?_ ?_
  · rw [show xk_155.2.1.2.1.1.length = 19 from rfl]
    refine yx_fks _ _ ?_
    refine ⟨?_, ?_, trivial⟩
    · show 0 ≤ ((1 * ((1 * r 22 + 0) + 0) + 0) + 300)
      try simp only [Int.one_mul, Int.zero_add, Int.add_zero] at hG
      obtain ⟨hG, hN⟩ := hG
      try simp only [Int.one_mul, Int.zero_add, Int.add_zero] at hG
      obtain ⟨a1, a2, a3, a4, a5, c0, c1, c2, c3⟩ := hG
      rw [show r 0 = 0 by omega] at a2 a3
      simp only [yq_at0, yq_fat0] at a2 a3
      try simp only [Int.one_mul, Int.zero_add, Int.add_zero] at e0
      rw [hfr 8 (by decide)] at e0
      have wn := yq_nr_in (by omega) _ a3 (2 * r 19 + r 1) (by omega) (by omega)
      rw [← e0] at wn
      omega
    · show 0 ≤ (((-1) * ((1 * r 22 + 0) + 0) + 0) + 300)
      try simp only [Int.one_mul, Int.zero_add, Int.add_zero] at hG
      obtain ⟨hG, hN⟩ := hG
      try simp only [Int.one_mul, Int.zero_add, Int.add_zero] at hG
      obtain ⟨a1, a2, a3, a4, a5, c0, c1, c2, c3⟩ := hG
      rw [show r 0 = 0 by omega] at a2 a3
      simp only [yq_at0, yq_fat0] at a2 a3
      try simp only [Int.one_mul, Int.zero_add, Int.add_zero] at e0
      rw [hfr 8 (by decide)] at e0
      have wn := yq_nr_in (by omega) _ a3 (2 * r 19 + r 1) (by omega) (by omega)
      rw [← e0] at wn
      omega
  · rw [show xk_155.2.1.2.1.1.length = 19 from rfl]
    show ((yq_at ((1 * r 0 + 0) + 0) ((1 * ((1 * r 7 + 0) + 0) + 0) + 0) ((1 * ((1 * r 10 + 0) + 0) + 0) + 0) ((1 * ((1 * r 13 + 0) + 0) + 0) + 0) ((1 * ((1 * r 16 + 0) + 0) + 0) + 0)) ≠ 0 ∧ (0 ≤ ((1 * r 1 + 0) + 0) ∧ ((1 * r 1 + 0) + 0) + 2 * ((1 * r 2 + 0) + 0) - 2 < (yq_at ((1 * r 0 + 0) + 0) ((1 * ((1 * r 9 + 0) + 0) + 0) + 0) ((1 * ((1 * r 12 + 0) + 0) + 0) + 0) ((1 * ((1 * r 15 + 0) + 0) + 0) + 0) ((1 * ((1 * r 18 + 0) + 0) + 0) + 0))) ∧ (yq_nr (yq_fat ((1 * r 0 + 0) + 0) (g0 8) (g0 10) (g0 12) (g0 14)) ((1 * r 1 + 0) + 0) (yq_at ((1 * r 0 + 0) + 0) ((1 * ((1 * r 9 + 0) + 0) + 0) + 0) ((1 * ((1 * r 12 + 0) + 0) + 0) + 0) ((1 * ((1 * r 15 + 0) + 0) + 0) + 0) ((1 * ((1 * r 18 + 0) + 0) + 0) + 0)) (2 * ((1 * r 2 + 0) + 0)).toNat) = 1 ∧ ((1 * ((1 * r 20 + 0) + 0) + 0) + 0) = ((1 * ((1 * r 5 + 0) + 0) + 0) + 0) + ((1 * ((1 * r 19 + 0) + 0) + 0) + 0) ∧ ((1 * ((1 * r 19 + 0) + 0) + 0) + 0) + 1 ≤ ((1 * r 2 + 0) + 0) ∧ ((1 * ((2 * r 19 + (1 * r 1 + 0)) + 0) + 0) + 0) = ((1 * r 1 + 0) + 0) + 2 * ((1 * ((1 * r 19 + 0) + 0) + 0) + 0) ∧ (g 2) = yq_ap (((1 * ((1 * r 5 + 0) + 0) + 0) + 0) + ((1 * ((1 * r 19 + 0) + 0) + 0) + 0)) ((1 * ((1 * r 5 + 0) + 0) + 0) + 0) (yq_vx (yq_fat ((1 * r 0 + 0) + 0) (g0 8) (g0 10) (g0 12) (g0 14)) (yq_at ((1 * r 0 + 0) + 0) ((1 * ((1 * r 9 + 0) + 0) + 0) + 0) ((1 * ((1 * r 12 + 0) + 0) + 0) + 0) ((1 * ((1 * r 15 + 0) + 0) + 0) + 0) ((1 * ((1 * r 18 + 0) + 0) + 0) + 0)) ((1 * r 1 + 0) + 0) ((1 * ((1 * r 5 + 0) + 0) + 0) + 0) 0) (g0 2) ∧ (g 3) = yq_ap (((1 * ((1 * r 5 + 0) + 0) + 0) + 0) + ((1 * ((1 * r 19 + 0) + 0) + 0) + 0)) ((1 * ((1 * r 5 + 0) + 0) + 0) + 0) (yq_vx (yq_fat ((1 * r 0 + 0) + 0) (g0 8) (g0 10) (g0 12) (g0 14)) (yq_at ((1 * r 0 + 0) + 0) ((1 * ((1 * r 9 + 0) + 0) + 0) + 0) ((1 * ((1 * r 12 + 0) + 0) + 0) + 0) ((1 * ((1 * r 15 + 0) + 0) + 0) + 0) ((1 * ((1 * r 18 + 0) + 0) + 0) + 0)) ((1 * r 1 + 0) + 0) ((1 * ((1 * r 5 + 0) + 0) + 0) + 0) 1) (g0 3) ∧ (g 4) = yq_ap (((1 * ((1 * r 5 + 0) + 0) + 0) + 0) + ((1 * ((1 * r 19 + 0) + 0) + 0) + 0)) ((1 * ((1 * r 5 + 0) + 0) + 0) + 0) (yq_ct ((1 * r 3 + 0) + 0)) (g0 4) ∧ (g 5) = yq_ap (((1 * ((1 * r 5 + 0) + 0) + 0) + 0) + ((1 * ((1 * r 19 + 0) + 0) + 0) + 0)) ((1 * ((1 * r 5 + 0) + 0) + 0) + 0) (yq_ct 1) (g0 5) ∧ ((1 * ((1 * r 22 + 0) + 0) + 0) + 0) = (yq_vx (yq_fat ((1 * r 0 + 0) + 0) (g0 8) (g0 10) (g0 12) (g0 14)) (yq_at ((1 * r 0 + 0) + 0) ((1 * ((1 * r 9 + 0) + 0) + 0) + 0) ((1 * ((1 * r 12 + 0) + 0) + 0) + 0) ((1 * ((1 * r 15 + 0) + 0) + 0) + 0) ((1 * ((1 * r 18 + 0) + 0) + 0) + 0)) ((1 * r 1 + 0) + 0) ((1 * ((1 * r 5 + 0) + 0) + 0) + 0) 0) (((1 * ((1 * r 5 + 0) + 0) + 0) + 0) + ((1 * ((1 * r 19 + 0) + 0) + 0) + 0)).toNat) ∧ ((1 * ((1 * r 21 + 0) + 0) + 0) + 0) = ye_wr ((1 * ((1 * r 6 + 0) + 0) + 0) + 0) ((1 * ((1 * r 19 + 0) + 0) + 0) + 0)
    try simp only [Int.one_mul, Int.zero_add, Int.add_zero]
    try simp only [Int.one_mul, Int.zero_add, Int.add_zero] at hG
    obtain ⟨hG, hN⟩ := hG
    refine ⟨?_, ?_⟩
    · try simp only [Int.one_mul, Int.zero_add, Int.add_zero] at hG
      have b1 := hG.1
      have b2 := hG.2.1
      have b3 := hG.2.2.1
      obtain ⟨a1, a2, a3, a4, a5, c0, c1, c2, c3⟩ := hG
      rw [show r 0 = 0 by omega] at a2 a3
      simp only [yq_at0, yq_fat0] at a2 a3
      try simp only [Int.one_mul, Int.zero_add, Int.add_zero] at e0
      rw [hfr 8 (by decide)] at e0
      have wn := yq_nr_in (by omega) _ a3 (2 * r 19 + r 1) (by omega) (by omega)
      rw [← e0] at wn
      refine ⟨?_, ?_, ?_, ?_, ?_, ?_, ?_, ?_, ?_, ?_, ?_⟩
      · exact b1
      · exact b2
      · exact b3
      · omega
      · omega
      · omega
      · rw [k0 2 (by decide)]
        exact c0
      · rw [k0 3 (by decide)]
        exact c1
      · rw [k0 4 (by decide)]
        exact c2
      · rw [k0 5 (by decide)]
        exact c3
      · rw [show r 0 = 0 by omega]
        simp only [yq_at0, yq_fat0]
        rw [yq_vx_e (i := 2 * r 19 + r 1) (by omega), ← e0]
    · try simp only [Int.one_mul, Int.zero_add, Int.add_zero] at hN
      exact hN
theorem xw_155_1_2 : yt_hold xT_155 xk_155 xq_155.2.2.1 xG_155 xP_155 xU_155 22 ((xq_155.2.2.1.getD 0 (0, ([], [], ([], []), [], [], ([], 0)), [], false)).2.1.2.2.1.2) (xG_155 0) (1, ([(1, 1), (0, 99), (1, 40), (0, 1), ((-2147483648), 2147483647), (0, 39), ((-2147483648), 2147483647), (0, 1), ((-2147483648), 2147483647), (0, 100), (0, 1), ((-2147483648), 2147483647), (0, 100), (0, 1), ((-2147483648), 2147483647), (0, 100), (0, 1), ((-2147483648), 2147483647), (0, 100), (0, 39), (0, 40), ((-2147483648), 2147483647), ((-9223372036854775808), 9223372036854775807)], [([(2, 1), (19, (-1))], (-1)), ([(2, (-1)), (5, (-1))], 40), ([(0, 1)], 0), ([(0, (-1))], 3), ([(1, 1)], 0), ([(1, (-1))], 99), ([(2, 1)], (-1)), ([(2, (-1))], 40), ([(3, 1)], 0), ([(3, (-1))], 1), ([(5, (-1))], 39), ([(2, (-1)), (5, (-1))], 40)]), [([(19, 1)], 0), ([(19, 2), (1, 1)], 0), ([(22, 1)], 0), ([(20, 1)], 0), ([(21, 1)], 0)], [], [.inr (.inr (.inl (119, 0, [([(19, 2), (1, 1)], 0), ([(10, 1)], 0), ([(11, 1)], 0), ([(12, 1)], 0), ([(22, 1)], 0)], [9, 10], [])))]) := by
  intro g0 r gi g hok hh hars hfr hG
  have b0 : 1 ≤ r 0 ∧ r 0 ≤ 1 := hok.1 0 (1, 1) rfl
  have b1 : 0 ≤ r 1 ∧ r 1 ≤ 99 := hok.1 1 (0, 99) rfl
  have b2 : 1 ≤ r 2 ∧ r 2 ≤ 40 := hok.1 2 (1, 40) rfl
  have b3 : 0 ≤ r 3 ∧ r 3 ≤ 1 := hok.1 3 (0, 1) rfl
  have b4 : (-2147483648) ≤ r 4 ∧ r 4 ≤ 2147483647 := hok.1 4 ((-2147483648), 2147483647) rfl
  have b5 : 0 ≤ r 5 ∧ r 5 ≤ 39 := hok.1 5 (0, 39) rfl
  have b6 : (-2147483648) ≤ r 6 ∧ r 6 ≤ 2147483647 := hok.1 6 ((-2147483648), 2147483647) rfl
  have b7 : 0 ≤ r 7 ∧ r 7 ≤ 1 := hok.1 7 (0, 1) rfl
  have b8 : (-2147483648) ≤ r 8 ∧ r 8 ≤ 2147483647 := hok.1 8 ((-2147483648), 2147483647) rfl
  have b9 : 0 ≤ r 9 ∧ r 9 ≤ 100 := hok.1 9 (0, 100) rfl
  have b10 : 0 ≤ r 10 ∧ r 10 ≤ 1 := hok.1 10 (0, 1) rfl
  have b11 : (-2147483648) ≤ r 11 ∧ r 11 ≤ 2147483647 := hok.1 11 ((-2147483648), 2147483647) rfl
  have b12 : 0 ≤ r 12 ∧ r 12 ≤ 100 := hok.1 12 (0, 100) rfl
  have b13 : 0 ≤ r 13 ∧ r 13 ≤ 1 := hok.1 13 (0, 1) rfl
  have b14 : (-2147483648) ≤ r 14 ∧ r 14 ≤ 2147483647 := hok.1 14 ((-2147483648), 2147483647) rfl
  have b15 : 0 ≤ r 15 ∧ r 15 ≤ 100 := hok.1 15 (0, 100) rfl
  have b16 : 0 ≤ r 16 ∧ r 16 ≤ 1 := hok.1 16 (0, 1) rfl
  have b17 : (-2147483648) ≤ r 17 ∧ r 17 ≤ 2147483647 := hok.1 17 ((-2147483648), 2147483647) rfl
  have b18 : 0 ≤ r 18 ∧ r 18 ≤ 100 := hok.1 18 (0, 100) rfl
  have b19 : 0 ≤ r 19 ∧ r 19 ≤ 39 := hok.1 19 (0, 39) rfl
  have b20 : 0 ≤ r 20 ∧ r 20 ≤ 40 := hok.1 20 (0, 40) rfl
  have b21 : (-2147483648) ≤ r 21 ∧ r 21 ≤ 2147483647 := hok.1 21 ((-2147483648), 2147483647) rfl
  have b22 : (-9223372036854775808) ≤ r 22 ∧ r 22 ≤ 9223372036854775807 := hok.1 22 ((-9223372036854775808), 9223372036854775807) rfl
  have f0 : 0 ≤ ((1 * r 2 + ((-1) * r 19 + 0)) + (-1)) := hok.2 _ (List.mem_of_getElem? (i := 0) rfl)
  have f1 : 0 ≤ (((-1) * r 2 + ((-1) * r 5 + 0)) + 40) := hok.2 _ (List.mem_of_getElem? (i := 1) rfl)
  have f2 : 0 ≤ ((1 * r 0 + 0) + 0) := hok.2 _ (List.mem_of_getElem? (i := 2) rfl)
  have f3 : 0 ≤ (((-1) * r 0 + 0) + 3) := hok.2 _ (List.mem_of_getElem? (i := 3) rfl)
  have f4 : 0 ≤ ((1 * r 1 + 0) + 0) := hok.2 _ (List.mem_of_getElem? (i := 4) rfl)
  have f5 : 0 ≤ (((-1) * r 1 + 0) + 99) := hok.2 _ (List.mem_of_getElem? (i := 5) rfl)
  have f6 : 0 ≤ ((1 * r 2 + 0) + (-1)) := hok.2 _ (List.mem_of_getElem? (i := 6) rfl)
  have f7 : 0 ≤ (((-1) * r 2 + 0) + 40) := hok.2 _ (List.mem_of_getElem? (i := 7) rfl)
  have f8 : 0 ≤ ((1 * r 3 + 0) + 0) := hok.2 _ (List.mem_of_getElem? (i := 8) rfl)
  have f9 : 0 ≤ (((-1) * r 3 + 0) + 1) := hok.2 _ (List.mem_of_getElem? (i := 9) rfl)
  have f10 : 0 ≤ (((-1) * r 5 + 0) + 39) := hok.2 _ (List.mem_of_getElem? (i := 10) rfl)
  have f11 : 0 ≤ (((-1) * r 2 + ((-1) * r 5 + 0)) + 40) := hok.2 _ (List.mem_of_getElem? (i := 11) rfl)
  have hG : ((yq_at (r 0) ((1 * (r 7) + 0) + 0) ((1 * (r 10) + 0) + 0) ((1 * (r 13) + 0) + 0) ((1 * (r 16) + 0) + 0)) ≠ 0 ∧ (0 ≤ (r 1) ∧ (r 1) + 2 * (r 2) - 2 < (yq_at (r 0) ((1 * (r 9) + 0) + 0) ((1 * (r 12) + 0) + 0) ((1 * (r 15) + 0) + 0) ((1 * (r 18) + 0) + 0))) ∧ (yq_nr (yq_fat (r 0) (g0 8) (g0 10) (g0 12) (g0 14)) (r 1) (yq_at (r 0) ((1 * (r 9) + 0) + 0) ((1 * (r 12) + 0) + 0) ((1 * (r 15) + 0) + 0) ((1 * (r 18) + 0) + 0)) (2 * (r 2)).toNat) = 1 ∧ ((1 * (r 20) + 0) + 0) = ((1 * (r 5) + 0) + 0) + ((1 * (r 19) + 0) + 0) ∧ ((1 * (r 19) + 0) + 0) ≤ (r 2) ∧ (gi 2) = yq_ap (((1 * (r 5) + 0) + 0) + ((1 * (r 19) + 0) + 0)) ((1 * (r 5) + 0) + 0) (yq_vx (yq_fat (r 0) (g0 8) (g0 10) (g0 12) (g0 14)) (yq_at (r 0) ((1 * (r 9) + 0) + 0) ((1 * (r 12) + 0) + 0) ((1 * (r 15) + 0) + 0) ((1 * (r 18) + 0) + 0)) (r 1) ((1 * (r 5) + 0) + 0) 0) (g0 2) ∧ (gi 3) = yq_ap (((1 * (r 5) + 0) + 0) + ((1 * (r 19) + 0) + 0)) ((1 * (r 5) + 0) + 0) (yq_vx (yq_fat (r 0) (g0 8) (g0 10) (g0 12) (g0 14)) (yq_at (r 0) ((1 * (r 9) + 0) + 0) ((1 * (r 12) + 0) + 0) ((1 * (r 15) + 0) + 0) ((1 * (r 18) + 0) + 0)) (r 1) ((1 * (r 5) + 0) + 0) 1) (g0 3) ∧ (gi 4) = yq_ap (((1 * (r 5) + 0) + 0) + ((1 * (r 19) + 0) + 0)) ((1 * (r 5) + 0) + 0) (yq_ct (r 3)) (g0 4) ∧ (gi 5) = yq_ap (((1 * (r 5) + 0) + 0) + ((1 * (r 19) + 0) + 0)) ((1 * (r 5) + 0) + 0) (yq_ct 1) (g0 5)) ∧ ((1 * (r 21) + 0) + 0) = ye_wr ((1 * (r 6) + 0) + 0) ((1 * (r 19) + 0) + 0) := hG
  obtain ⟨h0, hh, e0, k0⟩ := hh
  have k0 : ∀ j, j ∉ [] → g j = h0 j := k0
  have e0 : ((1 * r 22 + 0) + 0) = yq_nz (h0 10) ((1 * r 12 + 0) + 0) ((2 * r 19 + (1 * r 1 + 0)) + 0) := e0
  have hh : h0 = gi := hh
  subst hh
  refine yt_dcut (by decide) rfl ?_ ?_
  · rw [show xk_155.2.1.2.1.1.length = 19 from rfl]
    refine yx_fks _ _ ?_
    refine ⟨?_, ?_, trivial⟩
    · show 0 ≤ ((1 * ((1 * r 22 + 0) + 0) + 0) + 300)
      try simp only [Int.one_mul, Int.zero_add, Int.add_zero] at hG
      obtain ⟨hG, hN⟩ := hG
      try simp only [Int.one_mul, Int.zero_add, Int.add_zero] at hG
      obtain ⟨a1, a2, a3, a4, a5, c0, c1, c2, c3⟩ := hG
      rw [show r 0 = 1 by omega] at a2 a3
      simp only [yq_at1, yq_fat1] at a2 a3
      try simp only [Int.one_mul, Int.zero_add, Int.add_zero] at e0
      rw [hfr 10 (by decide)] at e0
      have wn := yq_nr_in (by omega) _ a3 (2 * r 19 + r 1) (by omega) (by omega)
      rw [← e0] at wn
      omega
    · show 0 ≤ (((-1) * ((1 * r 22 + 0) + 0) + 0) + 300)
      try simp only [Int.one_mul, Int.zero_add, Int.add_zero] at hG
      obtain ⟨hG, hN⟩ := hG
      try simp only [Int.one_mul, Int.zero_add, Int.add_zero] at hG
      obtain ⟨a1, a2, a3, a4, a5, c0, c1, c2, c3⟩ := hG
      rw [show r 0 = 1 by omega] at a2 a3
      simp only [yq_at1, yq_fat1] at a2 a3
      try simp only [Int.one_mul, Int.zero_add, Int.add_zero] at e0
      rw [hfr 10 (by decide)] at e0
      have wn := yq_nr_in (by omega) _ a3 (2 * r 19 + r 1) (by omega) (by omega)
      rw [← e0] at wn
      omega
  · rw [show xk_155.2.1.2.1.1.length = 19 from rfl]
    show ((yq_at ((1 * r 0 + 0) + 0) ((1 * ((1 * r 7 + 0) + 0) + 0) + 0) ((1 * ((1 * r 10 + 0) + 0) + 0) + 0) ((1 * ((1 * r 13 + 0) + 0) + 0) + 0) ((1 * ((1 * r 16 + 0) + 0) + 0) + 0)) ≠ 0 ∧ (0 ≤ ((1 * r 1 + 0) + 0) ∧ ((1 * r 1 + 0) + 0) + 2 * ((1 * r 2 + 0) + 0) - 2 < (yq_at ((1 * r 0 + 0) + 0) ((1 * ((1 * r 9 + 0) + 0) + 0) + 0) ((1 * ((1 * r 12 + 0) + 0) + 0) + 0) ((1 * ((1 * r 15 + 0) + 0) + 0) + 0) ((1 * ((1 * r 18 + 0) + 0) + 0) + 0))) ∧ (yq_nr (yq_fat ((1 * r 0 + 0) + 0) (g0 8) (g0 10) (g0 12) (g0 14)) ((1 * r 1 + 0) + 0) (yq_at ((1 * r 0 + 0) + 0) ((1 * ((1 * r 9 + 0) + 0) + 0) + 0) ((1 * ((1 * r 12 + 0) + 0) + 0) + 0) ((1 * ((1 * r 15 + 0) + 0) + 0) + 0) ((1 * ((1 * r 18 + 0) + 0) + 0) + 0)) (2 * ((1 * r 2 + 0) + 0)).toNat) = 1 ∧ ((1 * ((1 * r 20 + 0) + 0) + 0) + 0) = ((1 * ((1 * r 5 + 0) + 0) + 0) + 0) + ((1 * ((1 * r 19 + 0) + 0) + 0) + 0) ∧ ((1 * ((1 * r 19 + 0) + 0) + 0) + 0) + 1 ≤ ((1 * r 2 + 0) + 0) ∧ ((1 * ((2 * r 19 + (1 * r 1 + 0)) + 0) + 0) + 0) = ((1 * r 1 + 0) + 0) + 2 * ((1 * ((1 * r 19 + 0) + 0) + 0) + 0) ∧ (g 2) = yq_ap (((1 * ((1 * r 5 + 0) + 0) + 0) + 0) + ((1 * ((1 * r 19 + 0) + 0) + 0) + 0)) ((1 * ((1 * r 5 + 0) + 0) + 0) + 0) (yq_vx (yq_fat ((1 * r 0 + 0) + 0) (g0 8) (g0 10) (g0 12) (g0 14)) (yq_at ((1 * r 0 + 0) + 0) ((1 * ((1 * r 9 + 0) + 0) + 0) + 0) ((1 * ((1 * r 12 + 0) + 0) + 0) + 0) ((1 * ((1 * r 15 + 0) + 0) + 0) + 0) ((1 * ((1 * r 18 + 0) + 0) + 0) + 0)) ((1 * r 1 + 0) + 0) ((1 * ((1 * r 5 + 0) + 0) + 0) + 0) 0) (g0 2) ∧ (g 3) = yq_ap (((1 * ((1 * r 5 + 0) + 0) + 0) + 0) + ((1 * ((1 * r 19 + 0) + 0) + 0) + 0)) ((1 * ((1 * r 5 + 0) + 0) + 0) + 0) (yq_vx (yq_fat ((1 * r 0 + 0) + 0) (g0 8) (g0 10) (g0 12) (g0 14)) (yq_at ((1 * r 0 + 0) + 0) ((1 * ((1 * r 9 + 0) + 0) + 0) + 0) ((1 * ((1 * r 12 + 0) + 0) + 0) + 0) ((1 * ((1 * r 15 + 0) + 0) + 0) + 0) ((1 * ((1 * r 18 + 0) + 0) + 0) + 0)) ((1 * r 1 + 0) + 0) ((1 * ((1 * r 5 + 0) + 0) + 0) + 0) 1) (g0 3) ∧ (g 4) = yq_ap (((1 * ((1 * r 5 + 0) + 0) + 0) + 0) + ((1 * ((1 * r 19 + 0) + 0) + 0) + 0)) ((1 * ((1 * r 5 + 0) + 0) + 0) + 0) (yq_ct ((1 * r 3 + 0) + 0)) (g0 4) ∧ (g 5) = yq_ap (((1 * ((1 * r 5 + 0) + 0) + 0) + 0) + ((1 * ((1 * r 19 + 0) + 0) + 0) + 0)) ((1 * ((1 * r 5 + 0) + 0) + 0) + 0) (yq_ct 1) (g0 5) ∧ ((1 * ((1 * r 22 + 0) + 0) + 0) + 0) = (yq_vx (yq_fat ((1 * r 0 + 0) + 0) (g0 8) (g0 10) (g0 12) (g0 14)) (yq_at ((1 * r 0 + 0) + 0) ((1 * ((1 * r 9 + 0) + 0) + 0) + 0) ((1 * ((1 * r 12 + 0) + 0) + 0) + 0) ((1 * ((1 * r 15 + 0) + 0) + 0) + 0) ((1 * ((1 * r 18 + 0) + 0) + 0) + 0)) ((1 * r 1 + 0) + 0) ((1 * ((1 * r 5 + 0) + 0) + 0) + 0) 0) (((1 * ((1 * r 5 + 0) + 0) + 0) + 0) + ((1 * ((1 * r 19 + 0) + 0) + 0) + 0)).toNat) ∧ ((1 * ((1 * r 21 + 0) + 0) + 0) + 0) = ye_wr ((1 * ((1 * r 6 + 0) + 0) + 0) + 0) ((1 * ((1 * r 19 + 0) + 0) + 0) + 0)
    try simp only [Int.one_mul, Int.zero_add, Int.add_zero]
    try simp only [Int.one_mul, Int.zero_add, Int.add_zero] at hG
    obtain ⟨hG, hN⟩ := hG
    refine ⟨?_, ?_⟩
    · try simp only [Int.one_mul, Int.zero_add, Int.add_zero] at hG
      have b1 := hG.1
      have b2 := hG.2.1
      have b3 := hG.2.2.1
      obtain ⟨a1, a2, a3, a4, a5, c0, c1, c2, c3⟩ := hG
      rw [show r 0 = 1 by omega] at a2 a3
      simp only [yq_at1, yq_fat1] at a2 a3
      try simp only [Int.one_mul, Int.zero_add, Int.add_zero] at e0
      rw [hfr 10 (by decide)] at e0
      have wn := yq_nr_in (by omega) _ a3 (2 * r 19 + r 1) (by omega) (by omega)
      rw [← e0] at wn
      refine ⟨?_, ?_, ?_, ?_, ?_, ?_, ?_, ?_, ?_, ?_, ?_⟩
      · exact b1
      · exact b2
      · exact b3
      · omega
      · omega
      · omega
      · rw [k0 2 (by decide)]
        exact c0
      · rw [k0 3 (by decide)]
        exact c1
      · rw [k0 4 (by decide)]
        exact c2
      · rw [k0 5 (by decide)]
        exact c3
      · rw [show r 0 = 1 by omega]
        simp only [yq_at1, yq_fat1]
        rw [yq_vx_e (i := 2 * r 19 + r 1) (by omega), ← e0]
    · try simp only [Int.one_mul, Int.zero_add, Int.add_zero] at hN
      exact hN
theorem xw_155_1_3 : yt_hold xT_155 xk_155 xq_155.2.2.1 xG_155 xP_155 xU_155 22 ((xq_155.2.2.1.getD 0 (0, ([], [], ([], []), [], [], ([], 0)), [], false)).2.1.2.2.1.2) (xG_155 0) (1, ([(2, 2), (0, 99), (1, 40), (0, 1), ((-2147483648), 2147483647), (0, 39), ((-2147483648), 2147483647), (0, 1), ((-2147483648), 2147483647), (0, 100), (0, 1), ((-2147483648), 2147483647), (0, 100), (0, 1), ((-2147483648), 2147483647), (0, 100), (0, 1), ((-2147483648), 2147483647), (0, 100), (0, 39), (0, 40), ((-2147483648), 2147483647), ((-9223372036854775808), 9223372036854775807)], [([(2, 1), (19, (-1))], (-1)), ([(2, (-1)), (5, (-1))], 40), ([(0, 1)], 0), ([(0, (-1))], 3), ([(1, 1)], 0), ([(1, (-1))], 99), ([(2, 1)], (-1)), ([(2, (-1))], 40), ([(3, 1)], 0), ([(3, (-1))], 1), ([(5, (-1))], 39), ([(2, (-1)), (5, (-1))], 40)]), [([(19, 1)], 0), ([(19, 2), (1, 1)], 0), ([(22, 1)], 0), ([(20, 1)], 0), ([(21, 1)], 0)], [], [.inr (.inr (.inl (119, 0, [([(19, 2), (1, 1)], 0), ([(13, 1)], 0), ([(14, 1)], 0), ([(15, 1)], 0), ([(22, 1)], 0)], [11, 12], [])))]) := by
  intro g0 r gi g hok hh hars hfr hG
  have b0 : 2 ≤ r 0 ∧ r 0 ≤ 2 := hok.1 0 (2, 2) rfl
  have b1 : 0 ≤ r 1 ∧ r 1 ≤ 99 := hok.1 1 (0, 99) rfl
  have b2 : 1 ≤ r 2 ∧ r 2 ≤ 40 := hok.1 2 (1, 40) rfl
  have b3 : 0 ≤ r 3 ∧ r 3 ≤ 1 := hok.1 3 (0, 1) rfl
  have b4 : (-2147483648) ≤ r 4 ∧ r 4 ≤ 2147483647 := hok.1 4 ((-2147483648), 2147483647) rfl
  have b5 : 0 ≤ r 5 ∧ r 5 ≤ 39 := hok.1 5 (0, 39) rfl
  have b6 : (-2147483648) ≤ r 6 ∧ r 6 ≤ 2147483647 := hok.1 6 ((-2147483648), 2147483647) rfl
  have b7 : 0 ≤ r 7 ∧ r 7 ≤ 1 := hok.1 7 (0, 1) rfl
  have b8 : (-2147483648) ≤ r 8 ∧ r 8 ≤ 2147483647 := hok.1 8 ((-2147483648), 2147483647) rfl
  have b9 : 0 ≤ r 9 ∧ r 9 ≤ 100 := hok.1 9 (0, 100) rfl
  have b10 : 0 ≤ r 10 ∧ r 10 ≤ 1 := hok.1 10 (0, 1) rfl
  have b11 : (-2147483648) ≤ r 11 ∧ r 11 ≤ 2147483647 := hok.1 11 ((-2147483648), 2147483647) rfl
  have b12 : 0 ≤ r 12 ∧ r 12 ≤ 100 := hok.1 12 (0, 100) rfl
  have b13 : 0 ≤ r 13 ∧ r 13 ≤ 1 := hok.1 13 (0, 1) rfl
  have b14 : (-2147483648) ≤ r 14 ∧ r 14 ≤ 2147483647 := hok.1 14 ((-2147483648), 2147483647) rfl
  have b15 : 0 ≤ r 15 ∧ r 15 ≤ 100 := hok.1 15 (0, 100) rfl
  have b16 : 0 ≤ r 16 ∧ r 16 ≤ 1 := hok.1 16 (0, 1) rfl
  have b17 : (-2147483648) ≤ r 17 ∧ r 17 ≤ 2147483647 := hok.1 17 ((-2147483648), 2147483647) rfl
  have b18 : 0 ≤ r 18 ∧ r 18 ≤ 100 := hok.1 18 (0, 100) rfl
  have b19 : 0 ≤ r 19 ∧ r 19 ≤ 39 := hok.1 19 (0, 39) rfl
  have b20 : 0 ≤ r 20 ∧ r 20 ≤ 40 := hok.1 20 (0, 40) rfl
  have b21 : (-2147483648) ≤ r 21 ∧ r 21 ≤ 2147483647 := hok.1 21 ((-2147483648), 2147483647) rfl
  have b22 : (-9223372036854775808) ≤ r 22 ∧ r 22 ≤ 9223372036854775807 := hok.1 22 ((-9223372036854775808), 9223372036854775807) rfl
  have f0 : 0 ≤ ((1 * r 2 + ((-1) * r 19 + 0)) + (-1)) := hok.2 _ (List.mem_of_getElem? (i := 0) rfl)
  have f1 : 0 ≤ (((-1) * r 2 + ((-1) * r 5 + 0)) + 40) := hok.2 _ (List.mem_of_getElem? (i := 1) rfl)
  have f2 : 0 ≤ ((1 * r 0 + 0) + 0) := hok.2 _ (List.mem_of_getElem? (i := 2) rfl)
  have f3 : 0 ≤ (((-1) * r 0 + 0) + 3) := hok.2 _ (List.mem_of_getElem? (i := 3) rfl)
  have f4 : 0 ≤ ((1 * r 1 + 0) + 0) := hok.2 _ (List.mem_of_getElem? (i := 4) rfl)
  have f5 : 0 ≤ (((-1) * r 1 + 0) + 99) := hok.2 _ (List.mem_of_getElem? (i := 5) rfl)
  have f6 : 0 ≤ ((1 * r 2 + 0) + (-1)) := hok.2 _ (List.mem_of_getElem? (i := 6) rfl)
  have f7 : 0 ≤ (((-1) * r 2 + 0) + 40) := hok.2 _ (List.mem_of_getElem? (i := 7) rfl)
  have f8 : 0 ≤ ((1 * r 3 + 0) + 0) := hok.2 _ (List.mem_of_getElem? (i := 8) rfl)
  have f9 : 0 ≤ (((-1) * r 3 + 0) + 1) := hok.2 _ (List.mem_of_getElem? (i := 9) rfl)
  have f10 : 0 ≤ (((-1) * r 5 + 0) + 39) := hok.2 _ (List.mem_of_getElem? (i := 10) rfl)
  have f11 : 0 ≤ (((-1) * r 2 + ((-1) * r 5 + 0)) + 40) := hok.2 _ (List.mem_of_getElem? (i := 11) rfl)
  have hG : ((yq_at (r 0) ((1 * (r 7) + 0) + 0) ((1 * (r 10) + 0) + 0) ((1 * (r 13) + 0) + 0) ((1 * (r 16) + 0) + 0)) ≠ 0 ∧ (0 ≤ (r 1) ∧ (r 1) + 2 * (r 2) - 2 < (yq_at (r 0) ((1 * (r 9) + 0) + 0) ((1 * (r 12) + 0) + 0) ((1 * (r 15) + 0) + 0) ((1 * (r 18) + 0) + 0))) ∧ (yq_nr (yq_fat (r 0) (g0 8) (g0 10) (g0 12) (g0 14)) (r 1) (yq_at (r 0) ((1 * (r 9) + 0) + 0) ((1 * (r 12) + 0) + 0) ((1 * (r 15) + 0) + 0) ((1 * (r 18) + 0) + 0)) (2 * (r 2)).toNat) = 1 ∧ ((1 * (r 20) + 0) + 0) = ((1 * (r 5) + 0) + 0) + ((1 * (r 19) + 0) + 0) ∧ ((1 * (r 19) + 0) + 0) ≤ (r 2) ∧ (gi 2) = yq_ap (((1 * (r 5) + 0) + 0) + ((1 * (r 19) + 0) + 0)) ((1 * (r 5) + 0) + 0) (yq_vx (yq_fat (r 0) (g0 8) (g0 10) (g0 12) (g0 14)) (yq_at (r 0) ((1 * (r 9) + 0) + 0) ((1 * (r 12) + 0) + 0) ((1 * (r 15) + 0) + 0) ((1 * (r 18) + 0) + 0)) (r 1) ((1 * (r 5) + 0) + 0) 0) (g0 2) ∧ (gi 3) = yq_ap (((1 * (r 5) + 0) + 0) + ((1 * (r 19) + 0) + 0)) ((1 * (r 5) + 0) + 0) (yq_vx (yq_fat (r 0) (g0 8) (g0 10) (g0 12) (g0 14)) (yq_at (r 0) ((1 * (r 9) + 0) + 0) ((1 * (r 12) + 0) + 0) ((1 * (r 15) + 0) + 0) ((1 * (r 18) + 0) + 0)) (r 1) ((1 * (r 5) + 0) + 0) 1) (g0 3) ∧ (gi 4) = yq_ap (((1 * (r 5) + 0) + 0) + ((1 * (r 19) + 0) + 0)) ((1 * (r 5) + 0) + 0) (yq_ct (r 3)) (g0 4) ∧ (gi 5) = yq_ap (((1 * (r 5) + 0) + 0) + ((1 * (r 19) + 0) + 0)) ((1 * (r 5) + 0) + 0) (yq_ct 1) (g0 5)) ∧ ((1 * (r 21) + 0) + 0) = ye_wr ((1 * (r 6) + 0) + 0) ((1 * (r 19) + 0) + 0) := hG
  obtain ⟨h0, hh, e0, k0⟩ := hh
  have k0 : ∀ j, j ∉ [] → g j = h0 j := k0
  have e0 : ((1 * r 22 + 0) + 0) = yq_nz (h0 12) ((1 * r 15 + 0) + 0) ((2 * r 19 + (1 * r 1 + 0)) + 0) := e0
  have hh : h0 = gi := hh
  subst hh
  refine yt_dcut (by decide) rfl ?_ ?_
  · rw [show xk_155.2.1.2.1.1.length = 19 from rfl]
    refine yx_fks _ _ ?_
    refine ⟨?_, ?_, trivial⟩
    · show 0 ≤ ((1 * ((1 * r 22 + 0) + 0) + 0) + 300)
      try simp only [Int.one_mul, Int.zero_add, Int.add_zero] at hG
      obtain ⟨hG, hN⟩ := hG
      try simp only [Int.one_mul, Int.zero_add, Int.add_zero] at hG
      obtain ⟨a1, a2, a3, a4, a5, c0, c1, c2, c3⟩ := hG
      rw [show r 0 = 2 by omega] at a2 a3
      simp only [yq_at2, yq_fat2] at a2 a3
      try simp only [Int.one_mul, Int.zero_add, Int.add_zero] at e0
      rw [hfr 12 (by decide)] at e0
      have wn := yq_nr_in (by omega) _ a3 (2 * r 19 + r 1) (by omega) (by omega)
      rw [← e0] at wn
      omega
    · show 0 ≤ (((-1) * ((1 * r 22 + 0) + 0) + 0) + 300)
      try simp only [Int.one_mul, Int.zero_add, Int.add_zero] at hG
      obtain ⟨hG, hN⟩ := hG
      try simp only [Int.one_mul, Int.zero_add, Int.add_zero] at hG
      obtain ⟨a1, a2, a3, a4, a5, c0, c1, c2, c3⟩ := hG
      rw [show r 0 = 2 by omega] at a2 a3
      simp only [yq_at2, yq_fat2] at a2 a3
      try simp only [Int.one_mul, Int.zero_add, Int.add_zero] at e0
      rw [hfr 12 (by decide)] at e0
      have wn := yq_nr_in (by omega) _ a3 (2 * r 19 + r 1) (by omega) (by omega)
      rw [← e0] at wn
      omega
  · rw [show xk_155.2.1.2.1.1.length = 19 from rfl]
    show ((yq_at ((1 * r 0 + 0) + 0) ((1 * ((1 * r 7 + 0) + 0) + 0) + 0) ((1 * ((1 * r 10 + 0) + 0) + 0) + 0) ((1 * ((1 * r 13 + 0) + 0) + 0) + 0) ((1 * ((1 * r 16 + 0) + 0) + 0) + 0)) ≠ 0 ∧ (0 ≤ ((1 * r 1 + 0) + 0) ∧ ((1 * r 1 + 0) + 0) + 2 * ((1 * r 2 + 0) + 0) - 2 < (yq_at ((1 * r 0 + 0) + 0) ((1 * ((1 * r 9 + 0) + 0) + 0) + 0) ((1 * ((1 * r 12 + 0) + 0) + 0) + 0) ((1 * ((1 * r 15 + 0) + 0) + 0) + 0) ((1 * ((1 * r 18 + 0) + 0) + 0) + 0))) ∧ (yq_nr (yq_fat ((1 * r 0 + 0) + 0) (g0 8) (g0 10) (g0 12) (g0 14)) ((1 * r 1 + 0) + 0) (yq_at ((1 * r 0 + 0) + 0) ((1 * ((1 * r 9 + 0) + 0) + 0) + 0) ((1 * ((1 * r 12 + 0) + 0) + 0) + 0) ((1 * ((1 * r 15 + 0) + 0) + 0) + 0) ((1 * ((1 * r 18 + 0) + 0) + 0) + 0)) (2 * ((1 * r 2 + 0) + 0)).toNat) = 1 ∧ ((1 * ((1 * r 20 + 0) + 0) + 0) + 0) = ((1 * ((1 * r 5 + 0) + 0) + 0) + 0) + ((1 * ((1 * r 19 + 0) + 0) + 0) + 0) ∧ ((1 * ((1 * r 19 + 0) + 0) + 0) + 0) + 1 ≤ ((1 * r 2 + 0) + 0) ∧ ((1 * ((2 * r 19 + (1 * r 1 + 0)) + 0) + 0) + 0) = ((1 * r 1 + 0) + 0) + 2 * ((1 * ((1 * r 19 + 0) + 0) + 0) + 0) ∧ (g 2) = yq_ap (((1 * ((1 * r 5 + 0) + 0) + 0) + 0) + ((1 * ((1 * r 19 + 0) + 0) + 0) + 0)) ((1 * ((1 * r 5 + 0) + 0) + 0) + 0) (yq_vx (yq_fat ((1 * r 0 + 0) + 0) (g0 8) (g0 10) (g0 12) (g0 14)) (yq_at ((1 * r 0 + 0) + 0) ((1 * ((1 * r 9 + 0) + 0) + 0) + 0) ((1 * ((1 * r 12 + 0) + 0) + 0) + 0) ((1 * ((1 * r 15 + 0) + 0) + 0) + 0) ((1 * ((1 * r 18 + 0) + 0) + 0) + 0)) ((1 * r 1 + 0) + 0) ((1 * ((1 * r 5 + 0) + 0) + 0) + 0) 0) (g0 2) ∧ (g 3) = yq_ap (((1 * ((1 * r 5 + 0) + 0) + 0) + 0) + ((1 * ((1 * r 19 + 0) + 0) + 0) + 0)) ((1 * ((1 * r 5 + 0) + 0) + 0) + 0) (yq_vx (yq_fat ((1 * r 0 + 0) + 0) (g0 8) (g0 10) (g0 12) (g0 14)) (yq_at ((1 * r 0 + 0) + 0) ((1 * ((1 * r 9 + 0) + 0) + 0) + 0) ((1 * ((1 * r 12 + 0) + 0) + 0) + 0) ((1 * ((1 * r 15 + 0) + 0) + 0) + 0) ((1 * ((1 * r 18 + 0) + 0) + 0) + 0)) ((1 * r 1 + 0) + 0) ((1 * ((1 * r 5 + 0) + 0) + 0) + 0) 1) (g0 3) ∧ (g 4) = yq_ap (((1 * ((1 * r 5 + 0) + 0) + 0) + 0) + ((1 * ((1 * r 19 + 0) + 0) + 0) + 0)) ((1 * ((1 * r 5 + 0) + 0) + 0) + 0) (yq_ct ((1 * r 3 + 0) + 0)) (g0 4) ∧ (g 5) = yq_ap (((1 * ((1 * r 5 + 0) + 0) + 0) + 0) + ((1 * ((1 * r 19 + 0) + 0) + 0) + 0)) ((1 * ((1 * r 5 + 0) + 0) + 0) + 0) (yq_ct 1) (g0 5) ∧ ((1 * ((1 * r 22 + 0) + 0) + 0) + 0) = (yq_vx (yq_fat ((1 * r 0 + 0) + 0) (g0 8) (g0 10) (g0 12) (g0 14)) (yq_at ((1 * r 0 + 0) + 0) ((1 * ((1 * r 9 + 0) + 0) + 0) + 0) ((1 * ((1 * r 12 + 0) + 0) + 0) + 0) ((1 * ((1 * r 15 + 0) + 0) + 0) + 0) ((1 * ((1 * r 18 + 0) + 0) + 0) + 0)) ((1 * r 1 + 0) + 0) ((1 * ((1 * r 5 + 0) + 0) + 0) + 0) 0) (((1 * ((1 * r 5 + 0) + 0) + 0) + 0) + ((1 * ((1 * r 19 + 0) + 0) + 0) + 0)).toNat) ∧ ((1 * ((1 * r 21 + 0) + 0) + 0) + 0) = ye_wr ((1 * ((1 * r 6 + 0) + 0) + 0) + 0) ((1 * ((1 * r 19 + 0) + 0) + 0) + 0)
    try simp only [Int.one_mul, Int.zero_add, Int.add_zero]
    try simp only [Int.one_mul, Int.zero_add, Int.add_zero] at hG
    obtain ⟨hG, hN⟩ := hG
    refine ⟨?_, ?_⟩
    · try simp only [Int.one_mul, Int.zero_add, Int.add_zero] at hG
      have b1 := hG.1
      have b2 := hG.2.1
      have b3 := hG.2.2.1
      obtain ⟨a1, a2, a3, a4, a5, c0, c1, c2, c3⟩ := hG
      rw [show r 0 = 2 by omega] at a2 a3
      simp only [yq_at2, yq_fat2] at a2 a3
      try simp only [Int.one_mul, Int.zero_add, Int.add_zero] at e0
      rw [hfr 12 (by decide)] at e0
      have wn := yq_nr_in (by omega) _ a3 (2 * r 19 + r 1) (by omega) (by omega)
      rw [← e0] at wn
      refine ⟨?_, ?_, ?_, ?_, ?_, ?_, ?_, ?_, ?_, ?_, ?_⟩
      · exact b1
      · exact b2
      · exact b3
      · omega
      · omega
      · omega
      · rw [k0 2 (by decide)]
        exact c0
      · rw [k0 3 (by decide)]
        exact c1
      · rw [k0 4 (by decide)]
        exact c2
      · rw [k0 5 (by decide)]
        exact c3
      · rw [show r 0 = 2 by omega]
        simp only [yq_at2, yq_fat2]
        rw [yq_vx_e (i := 2 * r 19 + r 1) (by omega), ← e0]
    · try simp only [Int.one_mul, Int.zero_add, Int.add_zero] at hN
      exact hN
theorem xw_155_1_4 : yt_hold xT_155 xk_155 xq_155.2.2.1 xG_155 xP_155 xU_155 22 ((xq_155.2.2.1.getD 0 (0, ([], [], ([], []), [], [], ([], 0)), [], false)).2.1.2.2.1.2) (xG_155 0) (1, ([(3, 3), (0, 99), (1, 40), (0, 1), ((-2147483648), 2147483647), (0, 39), ((-2147483648), 2147483647), (0, 1), ((-2147483648), 2147483647), (0, 100), (0, 1), ((-2147483648), 2147483647), (0, 100), (0, 1), ((-2147483648), 2147483647), (0, 100), (0, 1), ((-2147483648), 2147483647), (0, 100), (0, 39), (0, 40), ((-2147483648), 2147483647), ((-9223372036854775808), 9223372036854775807)], [([(2, 1), (19, (-1))], (-1)), ([(2, (-1)), (5, (-1))], 40), ([(0, 1)], 0), ([(0, (-1))], 3), ([(1, 1)], 0), ([(1, (-1))], 99), ([(2, 1)], (-1)), ([(2, (-1))], 40), ([(3, 1)], 0), ([(3, (-1))], 1), ([(5, (-1))], 39), ([(2, (-1)), (5, (-1))], 40)]), [([(19, 1)], 0), ([(19, 2), (1, 1)], 0), ([(22, 1)], 0), ([(20, 1)], 0), ([(21, 1)], 0)], [], [.inr (.inr (.inl (119, 0, [([(19, 2), (1, 1)], 0), ([(16, 1)], 0), ([(17, 1)], 0), ([(18, 1)], 0), ([(22, 1)], 0)], [13, 14], [])))]) := by
  intro g0 r gi g hok hh hars hfr hG
  have b0 : 3 ≤ r 0 ∧ r 0 ≤ 3 := hok.1 0 (3, 3) rfl
  have b1 : 0 ≤ r 1 ∧ r 1 ≤ 99 := hok.1 1 (0, 99) rfl
  have b2 : 1 ≤ r 2 ∧ r 2 ≤ 40 := hok.1 2 (1, 40) rfl
  have b3 : 0 ≤ r 3 ∧ r 3 ≤ 1 := hok.1 3 (0, 1) rfl
  have b4 : (-2147483648) ≤ r 4 ∧ r 4 ≤ 2147483647 := hok.1 4 ((-2147483648), 2147483647) rfl
  have b5 : 0 ≤ r 5 ∧ r 5 ≤ 39 := hok.1 5 (0, 39) rfl
  have b6 : (-2147483648) ≤ r 6 ∧ r 6 ≤ 2147483647 := hok.1 6 ((-2147483648), 2147483647) rfl
  have b7 : 0 ≤ r 7 ∧ r 7 ≤ 1 := hok.1 7 (0, 1) rfl
  have b8 : (-2147483648) ≤ r 8 ∧ r 8 ≤ 2147483647 := hok.1 8 ((-2147483648), 2147483647) rfl
  have b9 : 0 ≤ r 9 ∧ r 9 ≤ 100 := hok.1 9 (0, 100) rfl
  have b10 : 0 ≤ r 10 ∧ r 10 ≤ 1 := hok.1 10 (0, 1) rfl
  have b11 : (-2147483648) ≤ r 11 ∧ r 11 ≤ 2147483647 := hok.1 11 ((-2147483648), 2147483647) rfl
  have b12 : 0 ≤ r 12 ∧ r 12 ≤ 100 := hok.1 12 (0, 100) rfl
  have b13 : 0 ≤ r 13 ∧ r 13 ≤ 1 := hok.1 13 (0, 1) rfl
  have b14 : (-2147483648) ≤ r 14 ∧ r 14 ≤ 2147483647 := hok.1 14 ((-2147483648), 2147483647) rfl
  have b15 : 0 ≤ r 15 ∧ r 15 ≤ 100 := hok.1 15 (0, 100) rfl
  have b16 : 0 ≤ r 16 ∧ r 16 ≤ 1 := hok.1 16 (0, 1) rfl
  have b17 : (-2147483648) ≤ r 17 ∧ r 17 ≤ 2147483647 := hok.1 17 ((-2147483648), 2147483647) rfl
  have b18 : 0 ≤ r 18 ∧ r 18 ≤ 100 := hok.1 18 (0, 100) rfl
  have b19 : 0 ≤ r 19 ∧ r 19 ≤ 39 := hok.1 19 (0, 39) rfl
  have b20 : 0 ≤ r 20 ∧ r 20 ≤ 40 := hok.1 20 (0, 40) rfl
  have b21 : (-2147483648) ≤ r 21 ∧ r 21 ≤ 2147483647 := hok.1 21 ((-2147483648), 2147483647) rfl
  have b22 : (-9223372036854775808) ≤ r 22 ∧ r 22 ≤ 9223372036854775807 := hok.1 22 ((-9223372036854775808), 9223372036854775807) rfl
  have f0 : 0 ≤ ((1 * r 2 + ((-1) * r 19 + 0)) + (-1)) := hok.2 _ (List.mem_of_getElem? (i := 0) rfl)
  have f1 : 0 ≤ (((-1) * r 2 + ((-1) * r 5 + 0)) + 40) := hok.2 _ (List.mem_of_getElem? (i := 1) rfl)
  have f2 : 0 ≤ ((1 * r 0 + 0) + 0) := hok.2 _ (List.mem_of_getElem? (i := 2) rfl)
  have f3 : 0 ≤ (((-1) * r 0 + 0) + 3) := hok.2 _ (List.mem_of_getElem? (i := 3) rfl)
  have f4 : 0 ≤ ((1 * r 1 + 0) + 0) := hok.2 _ (List.mem_of_getElem? (i := 4) rfl)
  have f5 : 0 ≤ (((-1) * r 1 + 0) + 99) := hok.2 _ (List.mem_of_getElem? (i := 5) rfl)
  have f6 : 0 ≤ ((1 * r 2 + 0) + (-1)) := hok.2 _ (List.mem_of_getElem? (i := 6) rfl)
  have f7 : 0 ≤ (((-1) * r 2 + 0) + 40) := hok.2 _ (List.mem_of_getElem? (i := 7) rfl)
  have f8 : 0 ≤ ((1 * r 3 + 0) + 0) := hok.2 _ (List.mem_of_getElem? (i := 8) rfl)
  have f9 : 0 ≤ (((-1) * r 3 + 0) + 1) := hok.2 _ (List.mem_of_getElem? (i := 9) rfl)
  have f10 : 0 ≤ (((-1) * r 5 + 0) + 39) := hok.2 _ (List.mem_of_getElem? (i := 10) rfl)
  have f11 : 0 ≤ (((-1) * r 2 + ((-1) * r 5 + 0)) + 40) := hok.2 _ (List.mem_of_getElem? (i := 11) rfl)
  have hG : ((yq_at (r 0) ((1 * (r 7) + 0) + 0) ((1 * (r 10) + 0) + 0) ((1 * (r 13) + 0) + 0) ((1 * (r 16) + 0) + 0)) ≠ 0 ∧ (0 ≤ (r 1) ∧ (r 1) + 2 * (r 2) - 2 < (yq_at (r 0) ((1 * (r 9) + 0) + 0) ((1 * (r 12) + 0) + 0) ((1 * (r 15) + 0) + 0) ((1 * (r 18) + 0) + 0))) ∧ (yq_nr (yq_fat (r 0) (g0 8) (g0 10) (g0 12) (g0 14)) (r 1) (yq_at (r 0) ((1 * (r 9) + 0) + 0) ((1 * (r 12) + 0) + 0) ((1 * (r 15) + 0) + 0) ((1 * (r 18) + 0) + 0)) (2 * (r 2)).toNat) = 1 ∧ ((1 * (r 20) + 0) + 0) = ((1 * (r 5) + 0) + 0) + ((1 * (r 19) + 0) + 0) ∧ ((1 * (r 19) + 0) + 0) ≤ (r 2) ∧ (gi 2) = yq_ap (((1 * (r 5) + 0) + 0) + ((1 * (r 19) + 0) + 0)) ((1 * (r 5) + 0) + 0) (yq_vx (yq_fat (r 0) (g0 8) (g0 10) (g0 12) (g0 14)) (yq_at (r 0) ((1 * (r 9) + 0) + 0) ((1 * (r 12) + 0) + 0) ((1 * (r 15) + 0) + 0) ((1 * (r 18) + 0) + 0)) (r 1) ((1 * (r 5) + 0) + 0) 0) (g0 2) ∧ (gi 3) = yq_ap (((1 * (r 5) + 0) + 0) + ((1 * (r 19) + 0) + 0)) ((1 * (r 5) + 0) + 0) (yq_vx (yq_fat (r 0) (g0 8) (g0 10) (g0 12) (g0 14)) (yq_at (r 0) ((1 * (r 9) + 0) + 0) ((1 * (r 12) + 0) + 0) ((1 * (r 15) + 0) + 0) ((1 * (r 18) + 0) + 0)) (r 1) ((1 * (r 5) + 0) + 0) 1) (g0 3) ∧ (gi 4) = yq_ap (((1 * (r 5) + 0) + 0) + ((1 * (r 19) + 0) + 0)) ((1 * (r 5) + 0) + 0) (yq_ct (r 3)) (g0 4) ∧ (gi 5) = yq_ap (((1 * (r 5) + 0) + 0) + ((1 * (r 19) + 0) + 0)) ((1 * (r 5) + 0) + 0) (yq_ct 1) (g0 5)) ∧ ((1 * (r 21) + 0) + 0) = ye_wr ((1 * (r 6) + 0) + 0) ((1 * (r 19) + 0) + 0) := hG
  obtain ⟨h0, hh, e0, k0⟩ := hh
  have k0 : ∀ j, j ∉ [] → g j = h0 j := k0
  have e0 : ((1 * r 22 + 0) + 0) = yq_nz (h0 14) ((1 * r 18 + 0) + 0) ((2 * r 19 + (1 * r 1 + 0)) + 0) := e0
  have hh : h0 = gi := hh
  subst hh
  refine yt_dcut (by decide) rfl ?_ ?_
  · rw [show xk_155.2.1.2.1.1.length = 19 from rfl]
    refine yx_fks _ _ ?_
    refine ⟨?_, ?_, trivial⟩
    · show 0 ≤ ((1 * ((1 * r 22 + 0) + 0) + 0) + 300)
      try simp only [Int.one_mul, Int.zero_add, Int.add_zero] at hG
      obtain ⟨hG, hN⟩ := hG
      try simp only [Int.one_mul, Int.zero_add, Int.add_zero] at hG
      obtain ⟨a1, a2, a3, a4, a5, c0, c1, c2, c3⟩ := hG
      rw [show r 0 = 3 by omega] at a2 a3
      simp only [yq_at3, yq_fat3] at a2 a3
      try simp only [Int.one_mul, Int.zero_add, Int.add_zero] at e0
      rw [hfr 14 (by decide)] at e0
      have wn := yq_nr_in (by omega) _ a3 (2 * r 19 + r 1) (by omega) (by omega)
      rw [← e0] at wn
      omega
    · show 0 ≤ (((-1) * ((1 * r 22 + 0) + 0) + 0) + 300)
      try simp only [Int.one_mul, Int.zero_add, Int.add_zero] at hG
      obtain ⟨hG, hN⟩ := hG
      try simp only [Int.one_mul, Int.zero_add, Int.add_zero] at hG
      obtain ⟨a1, a2, a3, a4, a5, c0, c1, c2, c3⟩ := hG
      rw [show r 0 = 3 by omega] at a2 a3
      simp only [yq_at3, yq_fat3] at a2 a3
      try simp only [Int.one_mul, Int.zero_add, Int.add_zero] at e0
      rw [hfr 14 (by decide)] at e0
      have wn := yq_nr_in (by omega) _ a3 (2 * r 19 + r 1) (by omega) (by omega)
      rw [← e0] at wn
      omega
  · rw [show xk_155.2.1.2.1.1.length = 19 from rfl]
    show ((yq_at ((1 * r 0 + 0) + 0) ((1 * ((1 * r 7 + 0) + 0) + 0) + 0) ((1 * ((1 * r 10 + 0) + 0) + 0) + 0) ((1 * ((1 * r 13 + 0) + 0) + 0) + 0) ((1 * ((1 * r 16 + 0) + 0) + 0) + 0)) ≠ 0 ∧ (0 ≤ ((1 * r 1 + 0) + 0) ∧ ((1 * r 1 + 0) + 0) + 2 * ((1 * r 2 + 0) + 0) - 2 < (yq_at ((1 * r 0 + 0) + 0) ((1 * ((1 * r 9 + 0) + 0) + 0) + 0) ((1 * ((1 * r 12 + 0) + 0) + 0) + 0) ((1 * ((1 * r 15 + 0) + 0) + 0) + 0) ((1 * ((1 * r 18 + 0) + 0) + 0) + 0))) ∧ (yq_nr (yq_fat ((1 * r 0 + 0) + 0) (g0 8) (g0 10) (g0 12) (g0 14)) ((1 * r 1 + 0) + 0) (yq_at ((1 * r 0 + 0) + 0) ((1 * ((1 * r 9 + 0) + 0) + 0) + 0) ((1 * ((1 * r 12 + 0) + 0) + 0) + 0) ((1 * ((1 * r 15 + 0) + 0) + 0) + 0) ((1 * ((1 * r 18 + 0) + 0) + 0) + 0)) (2 * ((1 * r 2 + 0) + 0)).toNat) = 1 ∧ ((1 * ((1 * r 20 + 0) + 0) + 0) + 0) = ((1 * ((1 * r 5 + 0) + 0) + 0) + 0) + ((1 * ((1 * r 19 + 0) + 0) + 0) + 0) ∧ ((1 * ((1 * r 19 + 0) + 0) + 0) + 0) + 1 ≤ ((1 * r 2 + 0) + 0) ∧ ((1 * ((2 * r 19 + (1 * r 1 + 0)) + 0) + 0) + 0) = ((1 * r 1 + 0) + 0) + 2 * ((1 * ((1 * r 19 + 0) + 0) + 0) + 0) ∧ (g 2) = yq_ap (((1 * ((1 * r 5 + 0) + 0) + 0) + 0) + ((1 * ((1 * r 19 + 0) + 0) + 0) + 0)) ((1 * ((1 * r 5 + 0) + 0) + 0) + 0) (yq_vx (yq_fat ((1 * r 0 + 0) + 0) (g0 8) (g0 10) (g0 12) (g0 14)) (yq_at ((1 * r 0 + 0) + 0) ((1 * ((1 * r 9 + 0) + 0) + 0) + 0) ((1 * ((1 * r 12 + 0) + 0) + 0) + 0) ((1 * ((1 * r 15 + 0) + 0) + 0) + 0) ((1 * ((1 * r 18 + 0) + 0) + 0) + 0)) ((1 * r 1 + 0) + 0) ((1 * ((1 * r 5 + 0) + 0) + 0) + 0) 0) (g0 2) ∧ (g 3) = yq_ap (((1 * ((1 * r 5 + 0) + 0) + 0) + 0) + ((1 * ((1 * r 19 + 0) + 0) + 0) + 0)) ((1 * ((1 * r 5 + 0) + 0) + 0) + 0) (yq_vx (yq_fat ((1 * r 0 + 0) + 0) (g0 8) (g0 10) (g0 12) (g0 14)) (yq_at ((1 * r 0 + 0) + 0) ((1 * ((1 * r 9 + 0) + 0) + 0) + 0) ((1 * ((1 * r 12 + 0) + 0) + 0) + 0) ((1 * ((1 * r 15 + 0) + 0) + 0) + 0) ((1 * ((1 * r 18 + 0) + 0) + 0) + 0)) ((1 * r 1 + 0) + 0) ((1 * ((1 * r 5 + 0) + 0) + 0) + 0) 1) (g0 3) ∧ (g 4) = yq_ap (((1 * ((1 * r 5 + 0) + 0) + 0) + 0) + ((1 * ((1 * r 19 + 0) + 0) + 0) + 0)) ((1 * ((1 * r 5 + 0) + 0) + 0) + 0) (yq_ct ((1 * r 3 + 0) + 0)) (g0 4) ∧ (g 5) = yq_ap (((1 * ((1 * r 5 + 0) + 0) + 0) + 0) + ((1 * ((1 * r 19 + 0) + 0) + 0) + 0)) ((1 * ((1 * r 5 + 0) + 0) + 0) + 0) (yq_ct 1) (g0 5) ∧ ((1 * ((1 * r 22 + 0) + 0) + 0) + 0) = (yq_vx (yq_fat ((1 * r 0 + 0) + 0) (g0 8) (g0 10) (g0 12) (g0 14)) (yq_at ((1 * r 0 + 0) + 0) ((1 * ((1 * r 9 + 0) + 0) + 0) + 0) ((1 * ((1 * r 12 + 0) + 0) + 0) + 0) ((1 * ((1 * r 15 + 0) + 0) + 0) + 0) ((1 * ((1 * r 18 + 0) + 0) + 0) + 0)) ((1 * r 1 + 0) + 0) ((1 * ((1 * r 5 + 0) + 0) + 0) + 0) 0) (((1 * ((1 * r 5 + 0) + 0) + 0) + 0) + ((1 * ((1 * r 19 + 0) + 0) + 0) + 0)).toNat) ∧ ((1 * ((1 * r 21 + 0) + 0) + 0) + 0) = ye_wr ((1 * ((1 * r 6 + 0) + 0) + 0) + 0) ((1 * ((1 * r 19 + 0) + 0) + 0) + 0)
    try simp only [Int.one_mul, Int.zero_add, Int.add_zero]
    try simp only [Int.one_mul, Int.zero_add, Int.add_zero] at hG
    obtain ⟨hG, hN⟩ := hG
    refine ⟨?_, ?_⟩
    · try simp only [Int.one_mul, Int.zero_add, Int.add_zero] at hG
      have b1 := hG.1
      have b2 := hG.2.1
      have b3 := hG.2.2.1
      obtain ⟨a1, a2, a3, a4, a5, c0, c1, c2, c3⟩ := hG
      rw [show r 0 = 3 by omega] at a2 a3
      simp only [yq_at3, yq_fat3] at a2 a3
      try simp only [Int.one_mul, Int.zero_add, Int.add_zero] at e0
      rw [hfr 14 (by decide)] at e0
      have wn := yq_nr_in (by omega) _ a3 (2 * r 19 + r 1) (by omega) (by omega)
      rw [← e0] at wn
      refine ⟨?_, ?_, ?_, ?_, ?_, ?_, ?_, ?_, ?_, ?_, ?_⟩
      · exact b1
      · exact b2
      · exact b3
      · omega
      · omega
      · omega
      · rw [k0 2 (by decide)]
        exact c0
      · rw [k0 3 (by decide)]
        exact c1
      · rw [k0 4 (by decide)]
        exact c2
      · rw [k0 5 (by decide)]
        exact c3
      · rw [show r 0 = 3 by omega]
        simp only [yq_at3, yq_fat3]
        rw [yq_vx_e (i := 2 * r 19 + r 1) (by omega), ← e0]
    · try simp only [Int.one_mul, Int.zero_add, Int.add_zero] at hN
      exact hN
theorem xw_155_2_0 : yt_hold xT_155 xk_155 xq_155.2.2.1 xG_155 xP_155 xU_155 24 ((xq_155.2.2.1.getD 1 (0, ([], [], ([], []), [], [], ([], 0)), [], false)).2.1.2.2.1.2) (xG_155 1) (2, ([(0, 0), (0, 99), (1, 40), (0, 1), ((-2147483648), 2147483647), (0, 39), ((-2147483648), 2147483647), (0, 1), ((-2147483648), 2147483647), (0, 100), (0, 1), ((-2147483648), 2147483647), (0, 100), (0, 1), ((-2147483648), 2147483647), (0, 100), (0, 1), ((-2147483648), 2147483647), (0, 100), (0, 39), (0, 4000), ((-300), 300), (0, 40), ((-2147483648), 2147483647), ((-9223372036854775808), 9223372036854775807)], [([(2, (-1)), (5, (-1))], 40), ([(0, 1)], 0), ([(0, (-1))], 3), ([(1, 1)], 0), ([(1, (-1))], 99), ([(2, 1)], (-1)), ([(2, (-1))], 40), ([(3, 1)], 0), ([(3, (-1))], 1), ([(5, (-1))], 39), ([(2, (-1)), (5, (-1))], 40)]), [([(19, 1)], 0), ([(24, 1)], 0), ([(21, 1)], 0), ([(22, 1)], 0), ([(23, 1)], 0)], [], [.inr (.inr (.inl (119, 0, [([(20, 1)], 1), ([(7, 1)], 0), ([(8, 1)], 0), ([(9, 1)], 0), ([(24, 1)], 0)], [7, 8], [])))]) := by
  intro g0 r gi g hok hh hars hfr hG
  have b0 : 0 ≤ r 0 ∧ r 0 ≤ 0 := hok.1 0 (0, 0) rfl
  have b1 : 0 ≤ r 1 ∧ r 1 ≤ 99 := hok.1 1 (0, 99) rfl
  have b2 : 1 ≤ r 2 ∧ r 2 ≤ 40 := hok.1 2 (1, 40) rfl
  have b3 : 0 ≤ r 3 ∧ r 3 ≤ 1 := hok.1 3 (0, 1) rfl
  have b4 : (-2147483648) ≤ r 4 ∧ r 4 ≤ 2147483647 := hok.1 4 ((-2147483648), 2147483647) rfl
  have b5 : 0 ≤ r 5 ∧ r 5 ≤ 39 := hok.1 5 (0, 39) rfl
  have b6 : (-2147483648) ≤ r 6 ∧ r 6 ≤ 2147483647 := hok.1 6 ((-2147483648), 2147483647) rfl
  have b7 : 0 ≤ r 7 ∧ r 7 ≤ 1 := hok.1 7 (0, 1) rfl
  have b8 : (-2147483648) ≤ r 8 ∧ r 8 ≤ 2147483647 := hok.1 8 ((-2147483648), 2147483647) rfl
  have b9 : 0 ≤ r 9 ∧ r 9 ≤ 100 := hok.1 9 (0, 100) rfl
  have b10 : 0 ≤ r 10 ∧ r 10 ≤ 1 := hok.1 10 (0, 1) rfl
  have b11 : (-2147483648) ≤ r 11 ∧ r 11 ≤ 2147483647 := hok.1 11 ((-2147483648), 2147483647) rfl
  have b12 : 0 ≤ r 12 ∧ r 12 ≤ 100 := hok.1 12 (0, 100) rfl
  have b13 : 0 ≤ r 13 ∧ r 13 ≤ 1 := hok.1 13 (0, 1) rfl
  have b14 : (-2147483648) ≤ r 14 ∧ r 14 ≤ 2147483647 := hok.1 14 ((-2147483648), 2147483647) rfl
  have b15 : 0 ≤ r 15 ∧ r 15 ≤ 100 := hok.1 15 (0, 100) rfl
  have b16 : 0 ≤ r 16 ∧ r 16 ≤ 1 := hok.1 16 (0, 1) rfl
  have b17 : (-2147483648) ≤ r 17 ∧ r 17 ≤ 2147483647 := hok.1 17 ((-2147483648), 2147483647) rfl
  have b18 : 0 ≤ r 18 ∧ r 18 ≤ 100 := hok.1 18 (0, 100) rfl
  have b19 : 0 ≤ r 19 ∧ r 19 ≤ 39 := hok.1 19 (0, 39) rfl
  have b20 : 0 ≤ r 20 ∧ r 20 ≤ 4000 := hok.1 20 (0, 4000) rfl
  have b21 : (-300) ≤ r 21 ∧ r 21 ≤ 300 := hok.1 21 ((-300), 300) rfl
  have b22 : 0 ≤ r 22 ∧ r 22 ≤ 40 := hok.1 22 (0, 40) rfl
  have b23 : (-2147483648) ≤ r 23 ∧ r 23 ≤ 2147483647 := hok.1 23 ((-2147483648), 2147483647) rfl
  have b24 : (-9223372036854775808) ≤ r 24 ∧ r 24 ≤ 9223372036854775807 := hok.1 24 ((-9223372036854775808), 9223372036854775807) rfl
  have f0 : 0 ≤ (((-1) * r 2 + ((-1) * r 5 + 0)) + 40) := hok.2 _ (List.mem_of_getElem? (i := 0) rfl)
  have f1 : 0 ≤ ((1 * r 0 + 0) + 0) := hok.2 _ (List.mem_of_getElem? (i := 1) rfl)
  have f2 : 0 ≤ (((-1) * r 0 + 0) + 3) := hok.2 _ (List.mem_of_getElem? (i := 2) rfl)
  have f3 : 0 ≤ ((1 * r 1 + 0) + 0) := hok.2 _ (List.mem_of_getElem? (i := 3) rfl)
  have f4 : 0 ≤ (((-1) * r 1 + 0) + 99) := hok.2 _ (List.mem_of_getElem? (i := 4) rfl)
  have f5 : 0 ≤ ((1 * r 2 + 0) + (-1)) := hok.2 _ (List.mem_of_getElem? (i := 5) rfl)
  have f6 : 0 ≤ (((-1) * r 2 + 0) + 40) := hok.2 _ (List.mem_of_getElem? (i := 6) rfl)
  have f7 : 0 ≤ ((1 * r 3 + 0) + 0) := hok.2 _ (List.mem_of_getElem? (i := 7) rfl)
  have f8 : 0 ≤ (((-1) * r 3 + 0) + 1) := hok.2 _ (List.mem_of_getElem? (i := 8) rfl)
  have f9 : 0 ≤ (((-1) * r 5 + 0) + 39) := hok.2 _ (List.mem_of_getElem? (i := 9) rfl)
  have f10 : 0 ≤ (((-1) * r 2 + ((-1) * r 5 + 0)) + 40) := hok.2 _ (List.mem_of_getElem? (i := 10) rfl)
  have hG : ((yq_at (r 0) ((1 * (r 7) + 0) + 0) ((1 * (r 10) + 0) + 0) ((1 * (r 13) + 0) + 0) ((1 * (r 16) + 0) + 0)) ≠ 0 ∧ (0 ≤ (r 1) ∧ (r 1) + 2 * (r 2) - 2 < (yq_at (r 0) ((1 * (r 9) + 0) + 0) ((1 * (r 12) + 0) + 0) ((1 * (r 15) + 0) + 0) ((1 * (r 18) + 0) + 0))) ∧ (yq_nr (yq_fat (r 0) (g0 8) (g0 10) (g0 12) (g0 14)) (r 1) (yq_at (r 0) ((1 * (r 9) + 0) + 0) ((1 * (r 12) + 0) + 0) ((1 * (r 15) + 0) + 0) ((1 * (r 18) + 0) + 0)) (2 * (r 2)).toNat) = 1 ∧ ((1 * (r 22) + 0) + 0) = ((1 * (r 5) + 0) + 0) + ((1 * (r 19) + 0) + 0) ∧ ((1 * (r 19) + 0) + 0) + 1 ≤ (r 2) ∧ ((1 * (r 20) + 0) + 0) = (r 1) + 2 * ((1 * (r 19) + 0) + 0) ∧ (gi 2) = yq_ap (((1 * (r 5) + 0) + 0) + ((1 * (r 19) + 0) + 0)) ((1 * (r 5) + 0) + 0) (yq_vx (yq_fat (r 0) (g0 8) (g0 10) (g0 12) (g0 14)) (yq_at (r 0) ((1 * (r 9) + 0) + 0) ((1 * (r 12) + 0) + 0) ((1 * (r 15) + 0) + 0) ((1 * (r 18) + 0) + 0)) (r 1) ((1 * (r 5) + 0) + 0) 0) (g0 2) ∧ (gi 3) = yq_ap (((1 * (r 5) + 0) + 0) + ((1 * (r 19) + 0) + 0)) ((1 * (r 5) + 0) + 0) (yq_vx (yq_fat (r 0) (g0 8) (g0 10) (g0 12) (g0 14)) (yq_at (r 0) ((1 * (r 9) + 0) + 0) ((1 * (r 12) + 0) + 0) ((1 * (r 15) + 0) + 0) ((1 * (r 18) + 0) + 0)) (r 1) ((1 * (r 5) + 0) + 0) 1) (g0 3) ∧ (gi 4) = yq_ap (((1 * (r 5) + 0) + 0) + ((1 * (r 19) + 0) + 0)) ((1 * (r 5) + 0) + 0) (yq_ct (r 3)) (g0 4) ∧ (gi 5) = yq_ap (((1 * (r 5) + 0) + 0) + ((1 * (r 19) + 0) + 0)) ((1 * (r 5) + 0) + 0) (yq_ct 1) (g0 5) ∧ ((1 * (r 21) + 0) + 0) = (yq_vx (yq_fat (r 0) (g0 8) (g0 10) (g0 12) (g0 14)) (yq_at (r 0) ((1 * (r 9) + 0) + 0) ((1 * (r 12) + 0) + 0) ((1 * (r 15) + 0) + 0) ((1 * (r 18) + 0) + 0)) (r 1) ((1 * (r 5) + 0) + 0) 0) (((1 * (r 5) + 0) + 0) + ((1 * (r 19) + 0) + 0)).toNat) ∧ ((1 * (r 23) + 0) + 0) = ye_wr ((1 * (r 6) + 0) + 0) ((1 * (r 19) + 0) + 0) := hG
  obtain ⟨h0, hh, e0, k0⟩ := hh
  have k0 : ∀ j, j ∉ [] → g j = h0 j := k0
  have e0 : ((1 * r 24 + 0) + 0) = yq_nz (h0 8) ((1 * r 9 + 0) + 0) ((1 * r 20 + 0) + 1) := e0
  have hh : h0 = gi := hh
  subst hh
  refine yt_dcut (by decide) rfl ?_ ?_
  · rw [show xk_155.2.1.2.1.1.length = 19 from rfl]
    refine yx_fks _ _ ?_
    refine ⟨?_, ?_, ?_, ?_, trivial⟩
    · show 0 ≤ ((1 * ((1 * r 24 + 0) + 0) + 0) + 300)
      try simp only [Int.one_mul, Int.zero_add, Int.add_zero] at hG
      obtain ⟨hG, hN⟩ := hG
      try simp only [Int.one_mul, Int.zero_add, Int.add_zero] at hG
      obtain ⟨a1, a2, a3, a4, a5, a6, c0, c1, c2, c3, cx⟩ := hG
      rw [show r 0 = 0 by omega] at a2 a3
      simp only [yq_at0, yq_fat0] at a2 a3
      try simp only [Int.one_mul, Int.zero_add, Int.add_zero] at e0
      rw [hfr 8 (by decide)] at e0
      have wn := yq_nr_in (by omega) _ a3 (r 20 + 1) (by omega) (by omega)
      rw [← e0] at wn
      omega
    · show 0 ≤ (((-1) * ((1 * r 24 + 0) + 0) + 0) + 300)
      try simp only [Int.one_mul, Int.zero_add, Int.add_zero] at hG
      obtain ⟨hG, hN⟩ := hG
      try simp only [Int.one_mul, Int.zero_add, Int.add_zero] at hG
      obtain ⟨a1, a2, a3, a4, a5, a6, c0, c1, c2, c3, cx⟩ := hG
      rw [show r 0 = 0 by omega] at a2 a3
      simp only [yq_at0, yq_fat0] at a2 a3
      try simp only [Int.one_mul, Int.zero_add, Int.add_zero] at e0
      rw [hfr 8 (by decide)] at e0
      have wn := yq_nr_in (by omega) _ a3 (r 20 + 1) (by omega) (by omega)
      rw [← e0] at wn
      omega
    · show 0 ≤ ((1 * ((1 * r 21 + 0) + 0) + 0) + 300)
      try simp only [Int.one_mul, Int.zero_add, Int.add_zero] at hG
      obtain ⟨hG, hN⟩ := hG
      try simp only [Int.one_mul, Int.zero_add, Int.add_zero] at hG
      obtain ⟨a1, a2, a3, a4, a5, a6, c0, c1, c2, c3, cx⟩ := hG
      rw [show r 0 = 0 by omega] at a2 a3
      simp only [yq_at0, yq_fat0] at a2 a3
      try simp only [Int.one_mul, Int.zero_add, Int.add_zero] at e0
      rw [hfr 8 (by decide)] at e0
      have wn := yq_nr_in (by omega) _ a3 (r 20 + 1) (by omega) (by omega)
      rw [← e0] at wn
      omega
    · show 0 ≤ (((-1) * ((1 * r 21 + 0) + 0) + 0) + 300)
      try simp only [Int.one_mul, Int.zero_add, Int.add_zero] at hG
      obtain ⟨hG, hN⟩ := hG
      try simp only [Int.one_mul, Int.zero_add, Int.add_zero] at hG
      obtain ⟨a1, a2, a3, a4, a5, a6, c0, c1, c2, c3, cx⟩ := hG
      rw [show r 0 = 0 by omega] at a2 a3
      simp only [yq_at0, yq_fat0] at a2 a3
      try simp only [Int.one_mul, Int.zero_add, Int.add_zero] at e0
      rw [hfr 8 (by decide)] at e0
      have wn := yq_nr_in (by omega) _ a3 (r 20 + 1) (by omega) (by omega)
      rw [← e0] at wn
      omega
  · rw [show xk_155.2.1.2.1.1.length = 19 from rfl]
    show ((yq_at ((1 * r 0 + 0) + 0) ((1 * ((1 * r 7 + 0) + 0) + 0) + 0) ((1 * ((1 * r 10 + 0) + 0) + 0) + 0) ((1 * ((1 * r 13 + 0) + 0) + 0) + 0) ((1 * ((1 * r 16 + 0) + 0) + 0) + 0)) ≠ 0 ∧ (0 ≤ ((1 * r 1 + 0) + 0) ∧ ((1 * r 1 + 0) + 0) + 2 * ((1 * r 2 + 0) + 0) - 2 < (yq_at ((1 * r 0 + 0) + 0) ((1 * ((1 * r 9 + 0) + 0) + 0) + 0) ((1 * ((1 * r 12 + 0) + 0) + 0) + 0) ((1 * ((1 * r 15 + 0) + 0) + 0) + 0) ((1 * ((1 * r 18 + 0) + 0) + 0) + 0))) ∧ (yq_nr (yq_fat ((1 * r 0 + 0) + 0) (g0 8) (g0 10) (g0 12) (g0 14)) ((1 * r 1 + 0) + 0) (yq_at ((1 * r 0 + 0) + 0) ((1 * ((1 * r 9 + 0) + 0) + 0) + 0) ((1 * ((1 * r 12 + 0) + 0) + 0) + 0) ((1 * ((1 * r 15 + 0) + 0) + 0) + 0) ((1 * ((1 * r 18 + 0) + 0) + 0) + 0)) (2 * ((1 * r 2 + 0) + 0)).toNat) = 1 ∧ ((1 * ((1 * r 22 + 0) + 0) + 0) + 0) = ((1 * ((1 * r 5 + 0) + 0) + 0) + 0) + ((1 * ((1 * r 19 + 0) + 0) + 0) + 0) ∧ ((1 * ((1 * r 19 + 0) + 0) + 0) + 0) + 1 ≤ ((1 * r 2 + 0) + 0) ∧ (g 2) = yq_ap (((1 * ((1 * r 5 + 0) + 0) + 0) + 0) + ((1 * ((1 * r 19 + 0) + 0) + 0) + 0)) ((1 * ((1 * r 5 + 0) + 0) + 0) + 0) (yq_vx (yq_fat ((1 * r 0 + 0) + 0) (g0 8) (g0 10) (g0 12) (g0 14)) (yq_at ((1 * r 0 + 0) + 0) ((1 * ((1 * r 9 + 0) + 0) + 0) + 0) ((1 * ((1 * r 12 + 0) + 0) + 0) + 0) ((1 * ((1 * r 15 + 0) + 0) + 0) + 0) ((1 * ((1 * r 18 + 0) + 0) + 0) + 0)) ((1 * r 1 + 0) + 0) ((1 * ((1 * r 5 + 0) + 0) + 0) + 0) 0) (g0 2) ∧ (g 3) = yq_ap (((1 * ((1 * r 5 + 0) + 0) + 0) + 0) + ((1 * ((1 * r 19 + 0) + 0) + 0) + 0)) ((1 * ((1 * r 5 + 0) + 0) + 0) + 0) (yq_vx (yq_fat ((1 * r 0 + 0) + 0) (g0 8) (g0 10) (g0 12) (g0 14)) (yq_at ((1 * r 0 + 0) + 0) ((1 * ((1 * r 9 + 0) + 0) + 0) + 0) ((1 * ((1 * r 12 + 0) + 0) + 0) + 0) ((1 * ((1 * r 15 + 0) + 0) + 0) + 0) ((1 * ((1 * r 18 + 0) + 0) + 0) + 0)) ((1 * r 1 + 0) + 0) ((1 * ((1 * r 5 + 0) + 0) + 0) + 0) 1) (g0 3) ∧ (g 4) = yq_ap (((1 * ((1 * r 5 + 0) + 0) + 0) + 0) + ((1 * ((1 * r 19 + 0) + 0) + 0) + 0)) ((1 * ((1 * r 5 + 0) + 0) + 0) + 0) (yq_ct ((1 * r 3 + 0) + 0)) (g0 4) ∧ (g 5) = yq_ap (((1 * ((1 * r 5 + 0) + 0) + 0) + 0) + ((1 * ((1 * r 19 + 0) + 0) + 0) + 0)) ((1 * ((1 * r 5 + 0) + 0) + 0) + 0) (yq_ct 1) (g0 5) ∧ ((1 * ((1 * r 21 + 0) + 0) + 0) + 0) = (yq_vx (yq_fat ((1 * r 0 + 0) + 0) (g0 8) (g0 10) (g0 12) (g0 14)) (yq_at ((1 * r 0 + 0) + 0) ((1 * ((1 * r 9 + 0) + 0) + 0) + 0) ((1 * ((1 * r 12 + 0) + 0) + 0) + 0) ((1 * ((1 * r 15 + 0) + 0) + 0) + 0) ((1 * ((1 * r 18 + 0) + 0) + 0) + 0)) ((1 * r 1 + 0) + 0) ((1 * ((1 * r 5 + 0) + 0) + 0) + 0) 0) (((1 * ((1 * r 5 + 0) + 0) + 0) + 0) + ((1 * ((1 * r 19 + 0) + 0) + 0) + 0)).toNat ∧ ((1 * ((1 * r 24 + 0) + 0) + 0) + 0) = (yq_vx (yq_fat ((1 * r 0 + 0) + 0) (g0 8) (g0 10) (g0 12) (g0 14)) (yq_at ((1 * r 0 + 0) + 0) ((1 * ((1 * r 9 + 0) + 0) + 0) + 0) ((1 * ((1 * r 12 + 0) + 0) + 0) + 0) ((1 * ((1 * r 15 + 0) + 0) + 0) + 0) ((1 * ((1 * r 18 + 0) + 0) + 0) + 0)) ((1 * r 1 + 0) + 0) ((1 * ((1 * r 5 + 0) + 0) + 0) + 0) 1) (((1 * ((1 * r 5 + 0) + 0) + 0) + 0) + ((1 * ((1 * r 19 + 0) + 0) + 0) + 0)).toNat) ∧ ((1 * ((1 * r 23 + 0) + 0) + 0) + 0) = ye_wr ((1 * ((1 * r 6 + 0) + 0) + 0) + 0) ((1 * ((1 * r 19 + 0) + 0) + 0) + 0)
    try simp only [Int.one_mul, Int.zero_add, Int.add_zero]
    try simp only [Int.one_mul, Int.zero_add, Int.add_zero] at hG
    obtain ⟨hG, hN⟩ := hG
    refine ⟨?_, ?_⟩
    · try simp only [Int.one_mul, Int.zero_add, Int.add_zero] at hG
      have b1 := hG.1
      have b2 := hG.2.1
      have b3 := hG.2.2.1
      obtain ⟨a1, a2, a3, a4, a5, a6, c0, c1, c2, c3, cx⟩ := hG
      rw [show r 0 = 0 by omega] at a2 a3
      simp only [yq_at0, yq_fat0] at a2 a3
      try simp only [Int.one_mul, Int.zero_add, Int.add_zero] at e0
      rw [hfr 8 (by decide)] at e0
      have wn := yq_nr_in (by omega) _ a3 (r 20 + 1) (by omega) (by omega)
      rw [← e0] at wn
      refine ⟨?_, ?_, ?_, ?_, ?_, ?_, ?_, ?_, ?_, ?_, ?_⟩
      · exact b1
      · exact b2
      · exact b3
      · omega
      · omega
      · rw [k0 2 (by decide)]
        exact c0
      · rw [k0 3 (by decide)]
        exact c1
      · rw [k0 4 (by decide)]
        exact c2
      · rw [k0 5 (by decide)]
        exact c3
      · exact cx
      · rw [show r 0 = 0 by omega]
        simp only [yq_at0, yq_fat0]
        rw [yq_vx_e (i := r 20 + 1) (by omega), ← e0]
    · try simp only [Int.one_mul, Int.zero_add, Int.add_zero] at hN
      exact hN
theorem xw_155_2_1 : yt_hold xT_155 xk_155 xq_155.2.2.1 xG_155 xP_155 xU_155 24 ((xq_155.2.2.1.getD 1 (0, ([], [], ([], []), [], [], ([], 0)), [], false)).2.1.2.2.1.2) (xG_155 1) (2, ([(1, 1), (0, 99), (1, 40), (0, 1), ((-2147483648), 2147483647), (0, 39), ((-2147483648), 2147483647), (0, 1), ((-2147483648), 2147483647), (0, 100), (0, 1), ((-2147483648), 2147483647), (0, 100), (0, 1), ((-2147483648), 2147483647), (0, 100), (0, 1), ((-2147483648), 2147483647), (0, 100), (0, 39), (0, 4000), ((-300), 300), (0, 40), ((-2147483648), 2147483647), ((-9223372036854775808), 9223372036854775807)], [([(2, (-1)), (5, (-1))], 40), ([(0, 1)], 0), ([(0, (-1))], 3), ([(1, 1)], 0), ([(1, (-1))], 99), ([(2, 1)], (-1)), ([(2, (-1))], 40), ([(3, 1)], 0), ([(3, (-1))], 1), ([(5, (-1))], 39), ([(2, (-1)), (5, (-1))], 40)]), [([(19, 1)], 0), ([(24, 1)], 0), ([(21, 1)], 0), ([(22, 1)], 0), ([(23, 1)], 0)], [], [.inr (.inr (.inl (119, 0, [([(20, 1)], 1), ([(10, 1)], 0), ([(11, 1)], 0), ([(12, 1)], 0), ([(24, 1)], 0)], [9, 10], [])))]) := by
  intro g0 r gi g hok hh hars hfr hG
  have b0 : 1 ≤ r 0 ∧ r 0 ≤ 1 := hok.1 0 (1, 1) rfl
  have b1 : 0 ≤ r 1 ∧ r 1 ≤ 99 := hok.1 1 (0, 99) rfl
  have b2 : 1 ≤ r 2 ∧ r 2 ≤ 40 := hok.1 2 (1, 40) rfl
  have b3 : 0 ≤ r 3 ∧ r 3 ≤ 1 := hok.1 3 (0, 1) rfl
  have b4 : (-2147483648) ≤ r 4 ∧ r 4 ≤ 2147483647 := hok.1 4 ((-2147483648), 2147483647) rfl
  have b5 : 0 ≤ r 5 ∧ r 5 ≤ 39 := hok.1 5 (0, 39) rfl
  have b6 : (-2147483648) ≤ r 6 ∧ r 6 ≤ 2147483647 := hok.1 6 ((-2147483648), 2147483647) rfl
  have b7 : 0 ≤ r 7 ∧ r 7 ≤ 1 := hok.1 7 (0, 1) rfl
  have b8 : (-2147483648) ≤ r 8 ∧ r 8 ≤ 2147483647 := hok.1 8 ((-2147483648), 2147483647) rfl
  have b9 : 0 ≤ r 9 ∧ r 9 ≤ 100 := hok.1 9 (0, 100) rfl
  have b10 : 0 ≤ r 10 ∧ r 10 ≤ 1 := hok.1 10 (0, 1) rfl
  have b11 : (-2147483648) ≤ r 11 ∧ r 11 ≤ 2147483647 := hok.1 11 ((-2147483648), 2147483647) rfl
  have b12 : 0 ≤ r 12 ∧ r 12 ≤ 100 := hok.1 12 (0, 100) rfl
  have b13 : 0 ≤ r 13 ∧ r 13 ≤ 1 := hok.1 13 (0, 1) rfl
  have b14 : (-2147483648) ≤ r 14 ∧ r 14 ≤ 2147483647 := hok.1 14 ((-2147483648), 2147483647) rfl
  have b15 : 0 ≤ r 15 ∧ r 15 ≤ 100 := hok.1 15 (0, 100) rfl
  have b16 : 0 ≤ r 16 ∧ r 16 ≤ 1 := hok.1 16 (0, 1) rfl
  have b17 : (-2147483648) ≤ r 17 ∧ r 17 ≤ 2147483647 := hok.1 17 ((-2147483648), 2147483647) rfl
  have b18 : 0 ≤ r 18 ∧ r 18 ≤ 100 := hok.1 18 (0, 100) rfl
  have b19 : 0 ≤ r 19 ∧ r 19 ≤ 39 := hok.1 19 (0, 39) rfl
  have b20 : 0 ≤ r 20 ∧ r 20 ≤ 4000 := hok.1 20 (0, 4000) rfl
  have b21 : (-300) ≤ r 21 ∧ r 21 ≤ 300 := hok.1 21 ((-300), 300) rfl
  have b22 : 0 ≤ r 22 ∧ r 22 ≤ 40 := hok.1 22 (0, 40) rfl
  have b23 : (-2147483648) ≤ r 23 ∧ r 23 ≤ 2147483647 := hok.1 23 ((-2147483648), 2147483647) rfl
  have b24 : (-9223372036854775808) ≤ r 24 ∧ r 24 ≤ 9223372036854775807 := hok.1 24 ((-9223372036854775808), 9223372036854775807) rfl
  have f0 : 0 ≤ (((-1) * r 2 + ((-1) * r 5 + 0)) + 40) := hok.2 _ (List.mem_of_getElem? (i := 0) rfl)
  have f1 : 0 ≤ ((1 * r 0 + 0) + 0) := hok.2 _ (List.mem_of_getElem? (i := 1) rfl)
  have f2 : 0 ≤ (((-1) * r 0 + 0) + 3) := hok.2 _ (List.mem_of_getElem? (i := 2) rfl)
  have f3 : 0 ≤ ((1 * r 1 + 0) + 0) := hok.2 _ (List.mem_of_getElem? (i := 3) rfl)
  have f4 : 0 ≤ (((-1) * r 1 + 0) + 99) := hok.2 _ (List.mem_of_getElem? (i := 4) rfl)
  have f5 : 0 ≤ ((1 * r 2 + 0) + (-1)) := hok.2 _ (List.mem_of_getElem? (i := 5) rfl)
  have f6 : 0 ≤ (((-1) * r 2 + 0) + 40) := hok.2 _ (List.mem_of_getElem? (i := 6) rfl)
  have f7 : 0 ≤ ((1 * r 3 + 0) + 0) := hok.2 _ (List.mem_of_getElem? (i := 7) rfl)
  have f8 : 0 ≤ (((-1) * r 3 + 0) + 1) := hok.2 _ (List.mem_of_getElem? (i := 8) rfl)
  have f9 : 0 ≤ (((-1) * r 5 + 0) + 39) := hok.2 _ (List.mem_of_getElem? (i := 9) rfl)
  have f10 : 0 ≤ (((-1) * r 2 + ((-1) * r 5 + 0)) + 40) := hok.2 _ (List.mem_of_getElem? (i := 10) rfl)
  have hG : ((yq_at (r 0) ((1 * (r 7) + 0) + 0) ((1 * (r 10) + 0) + 0) ((1 * (r 13) + 0) + 0) ((1 * (r 16) + 0) + 0)) ≠ 0 ∧ (0 ≤ (r 1) ∧ (r 1) + 2 * (r 2) - 2 < (yq_at (r 0) ((1 * (r 9) + 0) + 0) ((1 * (r 12) + 0) + 0) ((1 * (r 15) + 0) + 0) ((1 * (r 18) + 0) + 0))) ∧ (yq_nr (yq_fat (r 0) (g0 8) (g0 10) (g0 12) (g0 14)) (r 1) (yq_at (r 0) ((1 * (r 9) + 0) + 0) ((1 * (r 12) + 0) + 0) ((1 * (r 15) + 0) + 0) ((1 * (r 18) + 0) + 0)) (2 * (r 2)).toNat) = 1 ∧ ((1 * (r 22) + 0) + 0) = ((1 * (r 5) + 0) + 0) + ((1 * (r 19) + 0) + 0) ∧ ((1 * (r 19) + 0) + 0) + 1 ≤ (r 2) ∧ ((1 * (r 20) + 0) + 0) = (r 1) + 2 * ((1 * (r 19) + 0) + 0) ∧ (gi 2) = yq_ap (((1 * (r 5) + 0) + 0) + ((1 * (r 19) + 0) + 0)) ((1 * (r 5) + 0) + 0) (yq_vx (yq_fat (r 0) (g0 8) (g0 10) (g0 12) (g0 14)) (yq_at (r 0) ((1 * (r 9) + 0) + 0) ((1 * (r 12) + 0) + 0) ((1 * (r 15) + 0) + 0) ((1 * (r 18) + 0) + 0)) (r 1) ((1 * (r 5) + 0) + 0) 0) (g0 2) ∧ (gi 3) = yq_ap (((1 * (r 5) + 0) + 0) + ((1 * (r 19) + 0) + 0)) ((1 * (r 5) + 0) + 0) (yq_vx (yq_fat (r 0) (g0 8) (g0 10) (g0 12) (g0 14)) (yq_at (r 0) ((1 * (r 9) + 0) + 0) ((1 * (r 12) + 0) + 0) ((1 * (r 15) + 0) + 0) ((1 * (r 18) + 0) + 0)) (r 1) ((1 * (r 5) + 0) + 0) 1) (g0 3) ∧ (gi 4) = yq_ap (((1 * (r 5) + 0) + 0) + ((1 * (r 19) + 0) + 0)) ((1 * (r 5) + 0) + 0) (yq_ct (r 3)) (g0 4) ∧ (gi 5) = yq_ap (((1 * (r 5) + 0) + 0) + ((1 * (r 19) + 0) + 0)) ((1 * (r 5) + 0) + 0) (yq_ct 1) (g0 5) ∧ ((1 * (r 21) + 0) + 0) = (yq_vx (yq_fat (r 0) (g0 8) (g0 10) (g0 12) (g0 14)) (yq_at (r 0) ((1 * (r 9) + 0) + 0) ((1 * (r 12) + 0) + 0) ((1 * (r 15) + 0) + 0) ((1 * (r 18) + 0) + 0)) (r 1) ((1 * (r 5) + 0) + 0) 0) (((1 * (r 5) + 0) + 0) + ((1 * (r 19) + 0) + 0)).toNat) ∧ ((1 * (r 23) + 0) + 0) = ye_wr ((1 * (r 6) + 0) + 0) ((1 * (r 19) + 0) + 0) := hG
  obtain ⟨h0, hh, e0, k0⟩ := hh
  have k0 : ∀ j, j ∉ [] → g j = h0 j := k0
  have e0 : ((1 * r 24 + 0) + 0) = yq_nz (h0 10) ((1 * r 12 + 0) + 0) ((1 * r 20 + 0) + 1) := e0
  have hh : h0 = gi := hh
  subst hh
  refine yt_dcut (by decide) rfl ?_ ?_
  · rw [show xk_155.2.1.2.1.1.length = 19 from rfl]
    refine yx_fks _ _ ?_
    refine ⟨?_, ?_, ?_, ?_, trivial⟩
    · show 0 ≤ ((1 * ((1 * r 24 + 0) + 0) + 0) + 300)
      try simp only [Int.one_mul, Int.zero_add, Int.add_zero] at hG
      obtain ⟨hG, hN⟩ := hG
      try simp only [Int.one_mul, Int.zero_add, Int.add_zero] at hG
      obtain ⟨a1, a2, a3, a4, a5, a6, c0, c1, c2, c3, cx⟩ := hG
      rw [show r 0 = 1 by omega] at a2 a3
      simp only [yq_at1, yq_fat1] at a2 a3
      try simp only [Int.one_mul, Int.zero_add, Int.add_zero] at e0
      rw [hfr 10 (by decide)] at e0
      have wn := yq_nr_in (by omega) _ a3 (r 20 + 1) (by omega) (by omega)
      rw [← e0] at wn
      omega
    · show 0 ≤ (((-1) * ((1 * r 24 + 0) + 0) + 0) + 300)
      try simp only [Int.one_mul, Int.zero_add, Int.add_zero] at hG
      obtain ⟨hG, hN⟩ := hG
      try simp only [Int.one_mul, Int.zero_add, Int.add_zero] at hG
      obtain ⟨a1, a2, a3, a4, a5, a6, c0, c1, c2, c3, cx⟩ := hG
      rw [show r 0 = 1 by omega] at a2 a3
      simp only [yq_at1, yq_fat1] at a2 a3
      try simp only [Int.one_mul, Int.zero_add, Int.add_zero] at e0
      rw [hfr 10 (by decide)] at e0
      have wn := yq_nr_in (by omega) _ a3 (r 20 + 1) (by omega) (by omega)
      rw [← e0] at wn
      omega
    · show 0 ≤ ((1 * ((1 * r 21 + 0) + 0) + 0) + 300)
      try simp only [Int.one_mul, Int.zero_add, Int.add_zero] at hG
      obtain ⟨hG, hN⟩ := hG
      try simp only [Int.one_mul, Int.zero_add, Int.add_zero] at hG
      obtain ⟨a1, a2, a3, a4, a5, a6, c0, c1, c2, c3, cx⟩ := hG
      rw [show r 0 = 1 by omega] at a2 a3
      simp only [yq_at1, yq_fat1] at a2 a3
      try simp only [Int.one_mul, Int.zero_add, Int.add_zero] at e0
      rw [hfr 10 (by decide)] at e0
      have wn := yq_nr_in (by omega) _ a3 (r 20 + 1) (by omega) (by omega)
      rw [← e0] at wn
      omega
    · show 0 ≤ (((-1) * ((1 * r 21 + 0) + 0) + 0) + 300)
      try simp only [Int.one_mul, Int.zero_add, Int.add_zero] at hG
      obtain ⟨hG, hN⟩ := hG
      try simp only [Int.one_mul, Int.zero_add, Int.add_zero] at hG
      obtain ⟨a1, a2, a3, a4, a5, a6, c0, c1, c2, c3, cx⟩ := hG
      rw [show r 0 = 1 by omega] at a2 a3
      simp only [yq_at1, yq_fat1] at a2 a3
      try simp only [Int.one_mul, Int.zero_add, Int.add_zero] at e0
      rw [hfr 10 (by decide)] at e0
      have wn := yq_nr_in (by omega) _ a3 (r 20 + 1) (by omega) (by omega)
      rw [← e0] at wn
      omega
  · rw [show xk_155.2.1.2.1.1.length = 19 from rfl]
    show ((yq_at ((1 * r 0 + 0) + 0) ((1 * ((1 * r 7 + 0) + 0) + 0) + 0) ((1 * ((1 * r 10 + 0) + 0) + 0) + 0) ((1 * ((1 * r 13 + 0) + 0) + 0) + 0) ((1 * ((1 * r 16 + 0) + 0) + 0) + 0)) ≠ 0 ∧ (0 ≤ ((1 * r 1 + 0) + 0) ∧ ((1 * r 1 + 0) + 0) + 2 * ((1 * r 2 + 0) + 0) - 2 < (yq_at ((1 * r 0 + 0) + 0) ((1 * ((1 * r 9 + 0) + 0) + 0) + 0) ((1 * ((1 * r 12 + 0) + 0) + 0) + 0) ((1 * ((1 * r 15 + 0) + 0) + 0) + 0) ((1 * ((1 * r 18 + 0) + 0) + 0) + 0))) ∧ (yq_nr (yq_fat ((1 * r 0 + 0) + 0) (g0 8) (g0 10) (g0 12) (g0 14)) ((1 * r 1 + 0) + 0) (yq_at ((1 * r 0 + 0) + 0) ((1 * ((1 * r 9 + 0) + 0) + 0) + 0) ((1 * ((1 * r 12 + 0) + 0) + 0) + 0) ((1 * ((1 * r 15 + 0) + 0) + 0) + 0) ((1 * ((1 * r 18 + 0) + 0) + 0) + 0)) (2 * ((1 * r 2 + 0) + 0)).toNat) = 1 ∧ ((1 * ((1 * r 22 + 0) + 0) + 0) + 0) = ((1 * ((1 * r 5 + 0) + 0) + 0) + 0) + ((1 * ((1 * r 19 + 0) + 0) + 0) + 0) ∧ ((1 * ((1 * r 19 + 0) + 0) + 0) + 0) + 1 ≤ ((1 * r 2 + 0) + 0) ∧ (g 2) = yq_ap (((1 * ((1 * r 5 + 0) + 0) + 0) + 0) + ((1 * ((1 * r 19 + 0) + 0) + 0) + 0)) ((1 * ((1 * r 5 + 0) + 0) + 0) + 0) (yq_vx (yq_fat ((1 * r 0 + 0) + 0) (g0 8) (g0 10) (g0 12) (g0 14)) (yq_at ((1 * r 0 + 0) + 0) ((1 * ((1 * r 9 + 0) + 0) + 0) + 0) ((1 * ((1 * r 12 + 0) + 0) + 0) + 0) ((1 * ((1 * r 15 + 0) + 0) + 0) + 0) ((1 * ((1 * r 18 + 0) + 0) + 0) + 0)) ((1 * r 1 + 0) + 0) ((1 * ((1 * r 5 + 0) + 0) + 0) + 0) 0) (g0 2) ∧ (g 3) = yq_ap (((1 * ((1 * r 5 + 0) + 0) + 0) + 0) + ((1 * ((1 * r 19 + 0) + 0) + 0) + 0)) ((1 * ((1 * r 5 + 0) + 0) + 0) + 0) (yq_vx (yq_fat ((1 * r 0 + 0) + 0) (g0 8) (g0 10) (g0 12) (g0 14)) (yq_at ((1 * r 0 + 0) + 0) ((1 * ((1 * r 9 + 0) + 0) + 0) + 0) ((1 * ((1 * r 12 + 0) + 0) + 0) + 0) ((1 * ((1 * r 15 + 0) + 0) + 0) + 0) ((1 * ((1 * r 18 + 0) + 0) + 0) + 0)) ((1 * r 1 + 0) + 0) ((1 * ((1 * r 5 + 0) + 0) + 0) + 0) 1) (g0 3) ∧ (g 4) = yq_ap (((1 * ((1 * r 5 + 0) + 0) + 0) + 0) + ((1 * ((1 * r 19 + 0) + 0) + 0) + 0)) ((1 * ((1 * r 5 + 0) + 0) + 0) + 0) (yq_ct ((1 * r 3 + 0) + 0)) (g0 4) ∧ (g 5) = yq_ap (((1 * ((1 * r 5 + 0) + 0) + 0) + 0) + ((1 * ((1 * r 19 + 0) + 0) + 0) + 0)) ((1 * ((1 * r 5 + 0) + 0) + 0) + 0) (yq_ct 1) (g0 5) ∧ ((1 * ((1 * r 21 + 0) + 0) + 0) + 0) = (yq_vx (yq_fat ((1 * r 0 + 0) + 0) (g0 8) (g0 10) (g0 12) (g0 14)) (yq_at ((1 * r 0 + 0) + 0) ((1 * ((1 * r 9 + 0) + 0) + 0) + 0) ((1 * ((1 * r 12 + 0) + 0) + 0) + 0) ((1 * ((1 * r 15 + 0) + 0) + 0) + 0) ((1 * ((1 * r 18 + 0) + 0) + 0) + 0)) ((1 * r 1 + 0) + 0) ((1 * ((1 * r 5 + 0) + 0) + 0) + 0) 0) (((1 * ((1 * r 5 + 0) + 0) + 0) + 0) + ((1 * ((1 * r 19 + 0) + 0) + 0) + 0)).toNat ∧ ((1 * ((1 * r 24 + 0) + 0) + 0) + 0) = (yq_vx (yq_fat ((1 * r 0 + 0) + 0) (g0 8) (g0 10) (g0 12) (g0 14)) (yq_at ((1 * r 0 + 0) + 0) ((1 * ((1 * r 9 + 0) + 0) + 0) + 0) ((1 * ((1 * r 12 + 0) + 0) + 0) + 0) ((1 * ((1 * r 15 + 0) + 0) + 0) + 0) ((1 * ((1 * r 18 + 0) + 0) + 0) + 0)) ((1 * r 1 + 0) + 0) ((1 * ((1 * r 5 + 0) + 0) + 0) + 0) 1) (((1 * ((1 * r 5 + 0) + 0) + 0) + 0) + ((1 * ((1 * r 19 + 0) + 0) + 0) + 0)).toNat) ∧ ((1 * ((1 * r 23 + 0) + 0) + 0) + 0) = ye_wr ((1 * ((1 * r 6 + 0) + 0) + 0) + 0) ((1 * ((1 * r 19 + 0) + 0) + 0) + 0)
    try simp only [Int.one_mul, Int.zero_add, Int.add_zero]
    try simp only [Int.one_mul, Int.zero_add, Int.add_zero] at hG
    obtain ⟨hG, hN⟩ := hG
    refine ⟨?_, ?_⟩
    · try simp only [Int.one_mul, Int.zero_add, Int.add_zero] at hG
      have b1 := hG.1
      have b2 := hG.2.1
      have b3 := hG.2.2.1
      obtain ⟨a1, a2, a3, a4, a5, a6, c0, c1, c2, c3, cx⟩ := hG
      rw [show r 0 = 1 by omega] at a2 a3
      simp only [yq_at1, yq_fat1] at a2 a3
      try simp only [Int.one_mul, Int.zero_add, Int.add_zero] at e0
      rw [hfr 10 (by decide)] at e0
      have wn := yq_nr_in (by omega) _ a3 (r 20 + 1) (by omega) (by omega)
      rw [← e0] at wn
      refine ⟨?_, ?_, ?_, ?_, ?_, ?_, ?_, ?_, ?_, ?_, ?_⟩
      · exact b1
      · exact b2
      · exact b3
      · omega
      · omega
      · rw [k0 2 (by decide)]
        exact c0
      · rw [k0 3 (by decide)]
        exact c1
      · rw [k0 4 (by decide)]
        exact c2
      · rw [k0 5 (by decide)]
        exact c3
      · exact cx
      · rw [show r 0 = 1 by omega]
        simp only [yq_at1, yq_fat1]
        rw [yq_vx_e (i := r 20 + 1) (by omega), ← e0]
    · try simp only [Int.one_mul, Int.zero_add, Int.add_zero] at hN
      exact hN
theorem xw_155_2_2 : yt_hold xT_155 xk_155 xq_155.2.2.1 xG_155 xP_155 xU_155 24 ((xq_155.2.2.1.getD 1 (0, ([], [], ([], []), [], [], ([], 0)), [], false)).2.1.2.2.1.2) (xG_155 1) (2, ([(2, 2), (0, 99), (1, 40), (0, 1), ((-2147483648), 2147483647), (0, 39), ((-2147483648), 2147483647), (0, 1), ((-2147483648), 2147483647), (0, 100), (0, 1), ((-2147483648), 2147483647), (0, 100), (0, 1), ((-2147483648), 2147483647), (0, 100), (0, 1), ((-2147483648), 2147483647), (0, 100), (0, 39), (0, 4000), ((-300), 300), (0, 40), ((-2147483648), 2147483647), ((-9223372036854775808), 9223372036854775807)], [([(2, (-1)), (5, (-1))], 40), ([(0, 1)], 0), ([(0, (-1))], 3), ([(1, 1)], 0), ([(1, (-1))], 99), ([(2, 1)], (-1)), ([(2, (-1))], 40), ([(3, 1)], 0), ([(3, (-1))], 1), ([(5, (-1))], 39), ([(2, (-1)), (5, (-1))], 40)]), [([(19, 1)], 0), ([(24, 1)], 0), ([(21, 1)], 0), ([(22, 1)], 0), ([(23, 1)], 0)], [], [.inr (.inr (.inl (119, 0, [([(20, 1)], 1), ([(13, 1)], 0), ([(14, 1)], 0), ([(15, 1)], 0), ([(24, 1)], 0)], [11, 12], [])))]) := by
  intro g0 r gi g hok hh hars hfr hG
  have b0 : 2 ≤ r 0 ∧ r 0 ≤ 2 := hok.1 0 (2, 2) rfl
  have b1 : 0 ≤ r 1 ∧ r 1 ≤ 99 := hok.1 1 (0, 99) rfl
  have b2 : 1 ≤ r 2 ∧ r 2 ≤ 40 := hok.1 2 (1, 40) rfl
  have b3 : 0 ≤ r 3 ∧ r 3 ≤ 1 := hok.1 3 (0, 1) rfl
  have b4 : (-2147483648) ≤ r 4 ∧ r 4 ≤ 2147483647 := hok.1 4 ((-2147483648), 2147483647) rfl
  have b5 : 0 ≤ r 5 ∧ r 5 ≤ 39 := hok.1 5 (0, 39) rfl
  have b6 : (-2147483648) ≤ r 6 ∧ r 6 ≤ 2147483647 := hok.1 6 ((-2147483648), 2147483647) rfl
  have b7 : 0 ≤ r 7 ∧ r 7 ≤ 1 := hok.1 7 (0, 1) rfl
  have b8 : (-2147483648) ≤ r 8 ∧ r 8 ≤ 2147483647 := hok.1 8 ((-2147483648), 2147483647) rfl
  have b9 : 0 ≤ r 9 ∧ r 9 ≤ 100 := hok.1 9 (0, 100) rfl
  have b10 : 0 ≤ r 10 ∧ r 10 ≤ 1 := hok.1 10 (0, 1) rfl
  have b11 : (-2147483648) ≤ r 11 ∧ r 11 ≤ 2147483647 := hok.1 11 ((-2147483648), 2147483647) rfl
  have b12 : 0 ≤ r 12 ∧ r 12 ≤ 100 := hok.1 12 (0, 100) rfl
  have b13 : 0 ≤ r 13 ∧ r 13 ≤ 1 := hok.1 13 (0, 1) rfl
  have b14 : (-2147483648) ≤ r 14 ∧ r 14 ≤ 2147483647 := hok.1 14 ((-2147483648), 2147483647) rfl
  have b15 : 0 ≤ r 15 ∧ r 15 ≤ 100 := hok.1 15 (0, 100) rfl
  have b16 : 0 ≤ r 16 ∧ r 16 ≤ 1 := hok.1 16 (0, 1) rfl
  have b17 : (-2147483648) ≤ r 17 ∧ r 17 ≤ 2147483647 := hok.1 17 ((-2147483648), 2147483647) rfl
  have b18 : 0 ≤ r 18 ∧ r 18 ≤ 100 := hok.1 18 (0, 100) rfl
  have b19 : 0 ≤ r 19 ∧ r 19 ≤ 39 := hok.1 19 (0, 39) rfl
  have b20 : 0 ≤ r 20 ∧ r 20 ≤ 4000 := hok.1 20 (0, 4000) rfl
  have b21 : (-300) ≤ r 21 ∧ r 21 ≤ 300 := hok.1 21 ((-300), 300) rfl
  have b22 : 0 ≤ r 22 ∧ r 22 ≤ 40 := hok.1 22 (0, 40) rfl
  have b23 : (-2147483648) ≤ r 23 ∧ r 23 ≤ 2147483647 := hok.1 23 ((-2147483648), 2147483647) rfl
  have b24 : (-9223372036854775808) ≤ r 24 ∧ r 24 ≤ 9223372036854775807 := hok.1 24 ((-9223372036854775808), 9223372036854775807) rfl
  have f0 : 0 ≤ (((-1) * r 2 + ((-1) * r 5 + 0)) + 40) := hok.2 _ (List.mem_of_getElem? (i := 0) rfl)
  have f1 : 0 ≤ ((1 * r 0 + 0) + 0) := hok.2 _ (List.mem_of_getElem? (i := 1) rfl)
  have f2 : 0 ≤ (((-1) * r 0 + 0) + 3) := hok.2 _ (List.mem_of_getElem? (i := 2) rfl)
  have f3 : 0 ≤ ((1 * r 1 + 0) + 0) := hok.2 _ (List.mem_of_getElem? (i := 3) rfl)
  have f4 : 0 ≤ (((-1) * r 1 + 0) + 99) := hok.2 _ (List.mem_of_getElem? (i := 4) rfl)
  have f5 : 0 ≤ ((1 * r 2 + 0) + (-1)) := hok.2 _ (List.mem_of_getElem? (i := 5) rfl)
  have f6 : 0 ≤ (((-1) * r 2 + 0) + 40) := hok.2 _ (List.mem_of_getElem? (i := 6) rfl)
  have f7 : 0 ≤ ((1 * r 3 + 0) + 0) := hok.2 _ (List.mem_of_getElem? (i := 7) rfl)
  have f8 : 0 ≤ (((-1) * r 3 + 0) + 1) := hok.2 _ (List.mem_of_getElem? (i := 8) rfl)
  have f9 : 0 ≤ (((-1) * r 5 + 0) + 39) := hok.2 _ (List.mem_of_getElem? (i := 9) rfl)
  have f10 : 0 ≤ (((-1) * r 2 + ((-1) * r 5 + 0)) + 40) := hok.2 _ (List.mem_of_getElem? (i := 10) rfl)
  have hG : ((yq_at (r 0) ((1 * (r 7) + 0) + 0) ((1 * (r 10) + 0) + 0) ((1 * (r 13) + 0) + 0) ((1 * (r 16) + 0) + 0)) ≠ 0 ∧ (0 ≤ (r 1) ∧ (r 1) + 2 * (r 2) - 2 < (yq_at (r 0) ((1 * (r 9) + 0) + 0) ((1 * (r 12) + 0) + 0) ((1 * (r 15) + 0) + 0) ((1 * (r 18) + 0) + 0))) ∧ (yq_nr (yq_fat (r 0) (g0 8) (g0 10) (g0 12) (g0 14)) (r 1) (yq_at (r 0) ((1 * (r 9) + 0) + 0) ((1 * (r 12) + 0) + 0) ((1 * (r 15) + 0) + 0) ((1 * (r 18) + 0) + 0)) (2 * (r 2)).toNat) = 1 ∧ ((1 * (r 22) + 0) + 0) = ((1 * (r 5) + 0) + 0) + ((1 * (r 19) + 0) + 0) ∧ ((1 * (r 19) + 0) + 0) + 1 ≤ (r 2) ∧ ((1 * (r 20) + 0) + 0) = (r 1) + 2 * ((1 * (r 19) + 0) + 0) ∧ (gi 2) = yq_ap (((1 * (r 5) + 0) + 0) + ((1 * (r 19) + 0) + 0)) ((1 * (r 5) + 0) + 0) (yq_vx (yq_fat (r 0) (g0 8) (g0 10) (g0 12) (g0 14)) (yq_at (r 0) ((1 * (r 9) + 0) + 0) ((1 * (r 12) + 0) + 0) ((1 * (r 15) + 0) + 0) ((1 * (r 18) + 0) + 0)) (r 1) ((1 * (r 5) + 0) + 0) 0) (g0 2) ∧ (gi 3) = yq_ap (((1 * (r 5) + 0) + 0) + ((1 * (r 19) + 0) + 0)) ((1 * (r 5) + 0) + 0) (yq_vx (yq_fat (r 0) (g0 8) (g0 10) (g0 12) (g0 14)) (yq_at (r 0) ((1 * (r 9) + 0) + 0) ((1 * (r 12) + 0) + 0) ((1 * (r 15) + 0) + 0) ((1 * (r 18) + 0) + 0)) (r 1) ((1 * (r 5) + 0) + 0) 1) (g0 3) ∧ (gi 4) = yq_ap (((1 * (r 5) + 0) + 0) + ((1 * (r 19) + 0) + 0)) ((1 * (r 5) + 0) + 0) (yq_ct (r 3)) (g0 4) ∧ (gi 5) = yq_ap (((1 * (r 5) + 0) + 0) + ((1 * (r 19) + 0) + 0)) ((1 * (r 5) + 0) + 0) (yq_ct 1) (g0 5) ∧ ((1 * (r 21) + 0) + 0) = (yq_vx (yq_fat (r 0) (g0 8) (g0 10) (g0 12) (g0 14)) (yq_at (r 0) ((1 * (r 9) + 0) + 0) ((1 * (r 12) + 0) + 0) ((1 * (r 15) + 0) + 0) ((1 * (r 18) + 0) + 0)) (r 1) ((1 * (r 5) + 0) + 0) 0) (((1 * (r 5) + 0) + 0) + ((1 * (r 19) + 0) + 0)).toNat) ∧ ((1 * (r 23) + 0) + 0) = ye_wr ((1 * (r 6) + 0) + 0) ((1 * (r 19) + 0) + 0) := hG
  obtain ⟨h0, hh, e0, k0⟩ := hh
  have k0 : ∀ j, j ∉ [] → g j = h0 j := k0
  have e0 : ((1 * r 24 + 0) + 0) = yq_nz (h0 12) ((1 * r 15 + 0) + 0) ((1 * r 20 + 0) + 1) := e0
  have hh : h0 = gi := hh
  subst hh
  refine yt_dcut (by decide) rfl ?_ ?_
  · rw [show xk_155.2.1.2.1.1.length = 19 from rfl]
    refine yx_fks _ _ ?_
    refine ⟨?_, ?_, ?_, ?_, trivial⟩
    · show 0 ≤ ((1 * ((1 * r 24 + 0) + 0) + 0) + 300)
      try simp only [Int.one_mul, Int.zero_add, Int.add_zero] at hG
      obtain ⟨hG, hN⟩ := hG
      try simp only [Int.one_mul, Int.zero_add, Int.add_zero] at hG
      obtain ⟨a1, a2, a3, a4, a5, a6, c0, c1, c2, c3, cx⟩ := hG
      rw [show r 0 = 2 by omega] at a2 a3
      simp only [yq_at2, yq_fat2] at a2 a3
      try simp only [Int.one_mul, Int.zero_add, Int.add_zero] at e0
      rw [hfr 12 (by decide)] at e0
      have wn := yq_nr_in (by omega) _ a3 (r 20 + 1) (by omega) (by omega)
      rw [← e0] at wn
      omega
    · show 0 ≤ (((-1) * ((1 * r 24 + 0) + 0) + 0) + 300)
      try simp only [Int.one_mul, Int.zero_add, Int.add_zero] at hG
      obtain ⟨hG, hN⟩ := hG
      try simp only [Int.one_mul, Int.zero_add, Int.add_zero] at hG
      obtain ⟨a1, a2, a3, a4, a5, a6, c0, c1, c2, c3, cx⟩ := hG
      rw [show r 0 = 2 by omega] at a2 a3
      simp only [yq_at2, yq_fat2] at a2 a3
      try simp only [Int.one_mul, Int.zero_add, Int.add_zero] at e0
      rw [hfr 12 (by decide)] at e0
      have wn := yq_nr_in (by omega) _ a3 (r 20 + 1) (by omega) (by omega)
      rw [← e0] at wn
      omega
    · show 0 ≤ ((1 * ((1 * r 21 + 0) + 0) + 0) + 300)
      try simp only [Int.one_mul, Int.zero_add, Int.add_zero] at hG
      obtain ⟨hG, hN⟩ := hG
      try simp only [Int.one_mul, Int.zero_add, Int.add_zero] at hG
      obtain ⟨a1, a2, a3, a4, a5, a6, c0, c1, c2, c3, cx⟩ := hG
      rw [show r 0 = 2 by omega] at a2 a3
      simp only [yq_at2, yq_fat2] at a2 a3
      try simp only [Int.one_mul, Int.zero_add, Int.add_zero] at e0
      rw [hfr 12 (by decide)] at e0
      have wn := yq_nr_in (by omega) _ a3 (r 20 + 1) (by omega) (by omega)
      rw [← e0] at wn
      omega
    · show 0 ≤ (((-1) * ((1 * r 21 + 0) + 0) + 0) + 300)
      try simp only [Int.one_mul, Int.zero_add, Int.add_zero] at hG
      obtain ⟨hG, hN⟩ := hG
      try simp only [Int.one_mul, Int.zero_add, Int.add_zero] at hG
      obtain ⟨a1, a2, a3, a4, a5, a6, c0, c1, c2, c3, cx⟩ := hG
      rw [show r 0 = 2 by omega] at a2 a3
      simp only [yq_at2, yq_fat2] at a2 a3
      try simp only [Int.one_mul, Int.zero_add, Int.add_zero] at e0
      rw [hfr 12 (by decide)] at e0
      have wn := yq_nr_in (by omega) _ a3 (r 20 + 1) (by omega) (by omega)
      rw [← e0] at wn
      omega
  · rw [show xk_155.2.1.2.1.1.length = 19 from rfl]
    show ((yq_at ((1 * r 0 + 0) + 0) ((1 * ((1 * r 7 + 0) + 0) + 0) + 0) ((1 * ((1 * r 10 + 0) + 0) + 0) + 0) ((1 * ((1 * r 13 + 0) + 0) + 0) + 0) ((1 * ((1 * r 16 + 0) + 0) + 0) + 0)) ≠ 0 ∧ (0 ≤ ((1 * r 1 + 0) + 0) ∧ ((1 * r 1 + 0) + 0) + 2 * ((1 * r 2 + 0) + 0) - 2 < (yq_at ((1 * r 0 + 0) + 0) ((1 * ((1 * r 9 + 0) + 0) + 0) + 0) ((1 * ((1 * r 12 + 0) + 0) + 0) + 0) ((1 * ((1 * r 15 + 0) + 0) + 0) + 0) ((1 * ((1 * r 18 + 0) + 0) + 0) + 0))) ∧ (yq_nr (yq_fat ((1 * r 0 + 0) + 0) (g0 8) (g0 10) (g0 12) (g0 14)) ((1 * r 1 + 0) + 0) (yq_at ((1 * r 0 + 0) + 0) ((1 * ((1 * r 9 + 0) + 0) + 0) + 0) ((1 * ((1 * r 12 + 0) + 0) + 0) + 0) ((1 * ((1 * r 15 + 0) + 0) + 0) + 0) ((1 * ((1 * r 18 + 0) + 0) + 0) + 0)) (2 * ((1 * r 2 + 0) + 0)).toNat) = 1 ∧ ((1 * ((1 * r 22 + 0) + 0) + 0) + 0) = ((1 * ((1 * r 5 + 0) + 0) + 0) + 0) + ((1 * ((1 * r 19 + 0) + 0) + 0) + 0) ∧ ((1 * ((1 * r 19 + 0) + 0) + 0) + 0) + 1 ≤ ((1 * r 2 + 0) + 0) ∧ (g 2) = yq_ap (((1 * ((1 * r 5 + 0) + 0) + 0) + 0) + ((1 * ((1 * r 19 + 0) + 0) + 0) + 0)) ((1 * ((1 * r 5 + 0) + 0) + 0) + 0) (yq_vx (yq_fat ((1 * r 0 + 0) + 0) (g0 8) (g0 10) (g0 12) (g0 14)) (yq_at ((1 * r 0 + 0) + 0) ((1 * ((1 * r 9 + 0) + 0) + 0) + 0) ((1 * ((1 * r 12 + 0) + 0) + 0) + 0) ((1 * ((1 * r 15 + 0) + 0) + 0) + 0) ((1 * ((1 * r 18 + 0) + 0) + 0) + 0)) ((1 * r 1 + 0) + 0) ((1 * ((1 * r 5 + 0) + 0) + 0) + 0) 0) (g0 2) ∧ (g 3) = yq_ap (((1 * ((1 * r 5 + 0) + 0) + 0) + 0) + ((1 * ((1 * r 19 + 0) + 0) + 0) + 0)) ((1 * ((1 * r 5 + 0) + 0) + 0) + 0) (yq_vx (yq_fat ((1 * r 0 + 0) + 0) (g0 8) (g0 10) (g0 12) (g0 14)) (yq_at ((1 * r 0 + 0) + 0) ((1 * ((1 * r 9 + 0) + 0) + 0) + 0) ((1 * ((1 * r 12 + 0) + 0) + 0) + 0) ((1 * ((1 * r 15 + 0) + 0) + 0) + 0) ((1 * ((1 * r 18 + 0) + 0) + 0) + 0)) ((1 * r 1 + 0) + 0) ((1 * ((1 * r 5 + 0) + 0) + 0) + 0) 1) (g0 3) ∧ (g 4) = yq_ap (((1 * ((1 * r 5 + 0) + 0) + 0) + 0) + ((1 * ((1 * r 19 + 0) + 0) + 0) + 0)) ((1 * ((1 * r 5 + 0) + 0) + 0) + 0) (yq_ct ((1 * r 3 + 0) + 0)) (g0 4) ∧ (g 5) = yq_ap (((1 * ((1 * r 5 + 0) + 0) + 0) + 0) + ((1 * ((1 * r 19 + 0) + 0) + 0) + 0)) ((1 * ((1 * r 5 + 0) + 0) + 0) + 0) (yq_ct 1) (g0 5) ∧ ((1 * ((1 * r 21 + 0) + 0) + 0) + 0) = (yq_vx (yq_fat ((1 * r 0 + 0) + 0) (g0 8) (g0 10) (g0 12) (g0 14)) (yq_at ((1 * r 0 + 0) + 0) ((1 * ((1 * r 9 + 0) + 0) + 0) + 0) ((1 * ((1 * r 12 + 0) + 0) + 0) + 0) ((1 * ((1 * r 15 + 0) + 0) + 0) + 0) ((1 * ((1 * r 18 + 0) + 0) + 0) + 0)) ((1 * r 1 + 0) + 0) ((1 * ((1 * r 5 + 0) + 0) + 0) + 0) 0) (((1 * ((1 * r 5 + 0) + 0) + 0) + 0) + ((1 * ((1 * r 19 + 0) + 0) + 0) + 0)).toNat ∧ ((1 * ((1 * r 24 + 0) + 0) + 0) + 0) = (yq_vx (yq_fat ((1 * r 0 + 0) + 0) (g0 8) (g0 10) (g0 12) (g0 14)) (yq_at ((1 * r 0 + 0) + 0) ((1 * ((1 * r 9 + 0) + 0) + 0) + 0) ((1 * ((1 * r 12 + 0) + 0) + 0) + 0) ((1 * ((1 * r 15 + 0) + 0) + 0) + 0) ((1 * ((1 * r 18 + 0) + 0) + 0) + 0)) ((1 * r 1 + 0) + 0) ((1 * ((1 * r 5 + 0) + 0) + 0) + 0) 1) (((1 * ((1 * r 5 + 0) + 0) + 0) + 0) + ((1 * ((1 * r 19 + 0) + 0) + 0) + 0)).toNat) ∧ ((1 * ((1 * r 23 + 0) + 0) + 0) + 0) = ye_wr ((1 * ((1 * r 6 + 0) + 0) + 0) + 0) ((1 * ((1 * r 19 + 0) + 0) + 0) + 0)
    try simp only [Int.one_mul, Int.zero_add, Int.add_zero]
    try simp only [Int.one_mul, Int.zero_add, Int.add_zero] at hG
    obtain ⟨hG, hN⟩ := hG
    refine ⟨?_, ?_⟩
    · try simp only [Int.one_mul, Int.zero_add, Int.add_zero] at hG
      have b1 := hG.1
      have b2 := hG.2.1
      have b3 := hG.2.2.1
      obtain ⟨a1, a2, a3, a4, a5, a6, c0, c1, c2, c3, cx⟩ := hG
      rw [show r 0 = 2 by omega] at a2 a3
      simp only [yq_at2, yq_fat2] at a2 a3
      try simp only [Int.one_mul, Int.zero_add, Int.add_zero] at e0
      rw [hfr 12 (by decide)] at e0
      have wn := yq_nr_in (by omega) _ a3 (r 20 + 1) (by omega) (by omega)
      rw [← e0] at wn
      refine ⟨?_, ?_, ?_, ?_, ?_, ?_, ?_, ?_, ?_, ?_, ?_⟩
      · exact b1
      · exact b2
      · exact b3
      · omega
      · omega
      · rw [k0 2 (by decide)]
        exact c0
      · rw [k0 3 (by decide)]
        exact c1
      · rw [k0 4 (by decide)]
        exact c2
      · rw [k0 5 (by decide)]
        exact c3
      · exact cx
      · rw [show r 0 = 2 by omega]
        simp only [yq_at2, yq_fat2]
        rw [yq_vx_e (i := r 20 + 1) (by omega), ← e0]
    · try simp only [Int.one_mul, Int.zero_add, Int.add_zero] at hN
      exact hN
theorem xw_155_2_3 : yt_hold xT_155 xk_155 xq_155.2.2.1 xG_155 xP_155 xU_155 24 ((xq_155.2.2.1.getD 1 (0, ([], [], ([], []), [], [], ([], 0)), [], false)).2.1.2.2.1.2) (xG_155 1) (2, ([(3, 3), (0, 99), (1, 40), (0, 1), ((-2147483648), 2147483647), (0, 39), ((-2147483648), 2147483647), (0, 1), ((-2147483648), 2147483647), (0, 100), (0, 1), ((-2147483648), 2147483647), (0, 100), (0, 1), ((-2147483648), 2147483647), (0, 100), (0, 1), ((-2147483648), 2147483647), (0, 100), (0, 39), (0, 4000), ((-300), 300), (0, 40), ((-2147483648), 2147483647), ((-9223372036854775808), 9223372036854775807)], [([(2, (-1)), (5, (-1))], 40), ([(0, 1)], 0), ([(0, (-1))], 3), ([(1, 1)], 0), ([(1, (-1))], 99), ([(2, 1)], (-1)), ([(2, (-1))], 40), ([(3, 1)], 0), ([(3, (-1))], 1), ([(5, (-1))], 39), ([(2, (-1)), (5, (-1))], 40)]), [([(19, 1)], 0), ([(24, 1)], 0), ([(21, 1)], 0), ([(22, 1)], 0), ([(23, 1)], 0)], [], [.inr (.inr (.inl (119, 0, [([(20, 1)], 1), ([(16, 1)], 0), ([(17, 1)], 0), ([(18, 1)], 0), ([(24, 1)], 0)], [13, 14], [])))]) := by
  intro g0 r gi g hok hh hars hfr hG
  have b0 : 3 ≤ r 0 ∧ r 0 ≤ 3 := hok.1 0 (3, 3) rfl
  have b1 : 0 ≤ r 1 ∧ r 1 ≤ 99 := hok.1 1 (0, 99) rfl
  have b2 : 1 ≤ r 2 ∧ r 2 ≤ 40 := hok.1 2 (1, 40) rfl
  have b3 : 0 ≤ r 3 ∧ r 3 ≤ 1 := hok.1 3 (0, 1) rfl
  have b4 : (-2147483648) ≤ r 4 ∧ r 4 ≤ 2147483647 := hok.1 4 ((-2147483648), 2147483647) rfl
  have b5 : 0 ≤ r 5 ∧ r 5 ≤ 39 := hok.1 5 (0, 39) rfl
  have b6 : (-2147483648) ≤ r 6 ∧ r 6 ≤ 2147483647 := hok.1 6 ((-2147483648), 2147483647) rfl
  have b7 : 0 ≤ r 7 ∧ r 7 ≤ 1 := hok.1 7 (0, 1) rfl
  have b8 : (-2147483648) ≤ r 8 ∧ r 8 ≤ 2147483647 := hok.1 8 ((-2147483648), 2147483647) rfl
  have b9 : 0 ≤ r 9 ∧ r 9 ≤ 100 := hok.1 9 (0, 100) rfl
  have b10 : 0 ≤ r 10 ∧ r 10 ≤ 1 := hok.1 10 (0, 1) rfl
  have b11 : (-2147483648) ≤ r 11 ∧ r 11 ≤ 2147483647 := hok.1 11 ((-2147483648), 2147483647) rfl
  have b12 : 0 ≤ r 12 ∧ r 12 ≤ 100 := hok.1 12 (0, 100) rfl
  have b13 : 0 ≤ r 13 ∧ r 13 ≤ 1 := hok.1 13 (0, 1) rfl
  have b14 : (-2147483648) ≤ r 14 ∧ r 14 ≤ 2147483647 := hok.1 14 ((-2147483648), 2147483647) rfl
  have b15 : 0 ≤ r 15 ∧ r 15 ≤ 100 := hok.1 15 (0, 100) rfl
  have b16 : 0 ≤ r 16 ∧ r 16 ≤ 1 := hok.1 16 (0, 1) rfl
  have b17 : (-2147483648) ≤ r 17 ∧ r 17 ≤ 2147483647 := hok.1 17 ((-2147483648), 2147483647) rfl
  have b18 : 0 ≤ r 18 ∧ r 18 ≤ 100 := hok.1 18 (0, 100) rfl
  have b19 : 0 ≤ r 19 ∧ r 19 ≤ 39 := hok.1 19 (0, 39) rfl
  have b20 : 0 ≤ r 20 ∧ r 20 ≤ 4000 := hok.1 20 (0, 4000) rfl
  have b21 : (-300) ≤ r 21 ∧ r 21 ≤ 300 := hok.1 21 ((-300), 300) rfl
  have b22 : 0 ≤ r 22 ∧ r 22 ≤ 40 := hok.1 22 (0, 40) rfl
  have b23 : (-2147483648) ≤ r 23 ∧ r 23 ≤ 2147483647 := hok.1 23 ((-2147483648), 2147483647) rfl
  have b24 : (-9223372036854775808) ≤ r 24 ∧ r 24 ≤ 9223372036854775807 := hok.1 24 ((-9223372036854775808), 9223372036854775807) rfl
  have f0 : 0 ≤ (((-1) * r 2 + ((-1) * r 5 + 0)) + 40) := hok.2 _ (List.mem_of_getElem? (i := 0) rfl)
  have f1 : 0 ≤ ((1 * r 0 + 0) + 0) := hok.2 _ (List.mem_of_getElem? (i := 1) rfl)
  have f2 : 0 ≤ (((-1) * r 0 + 0) + 3) := hok.2 _ (List.mem_of_getElem? (i := 2) rfl)
  have f3 : 0 ≤ ((1 * r 1 + 0) + 0) := hok.2 _ (List.mem_of_getElem? (i := 3) rfl)
  have f4 : 0 ≤ (((-1) * r 1 + 0) + 99) := hok.2 _ (List.mem_of_getElem? (i := 4) rfl)
  have f5 : 0 ≤ ((1 * r 2 + 0) + (-1)) := hok.2 _ (List.mem_of_getElem? (i := 5) rfl)
  have f6 : 0 ≤ (((-1) * r 2 + 0) + 40) := hok.2 _ (List.mem_of_getElem? (i := 6) rfl)
  have f7 : 0 ≤ ((1 * r 3 + 0) + 0) := hok.2 _ (List.mem_of_getElem? (i := 7) rfl)
  have f8 : 0 ≤ (((-1) * r 3 + 0) + 1) := hok.2 _ (List.mem_of_getElem? (i := 8) rfl)
  have f9 : 0 ≤ (((-1) * r 5 + 0) + 39) := hok.2 _ (List.mem_of_getElem? (i := 9) rfl)
  have f10 : 0 ≤ (((-1) * r 2 + ((-1) * r 5 + 0)) + 40) := hok.2 _ (List.mem_of_getElem? (i := 10) rfl)
  have hG : ((yq_at (r 0) ((1 * (r 7) + 0) + 0) ((1 * (r 10) + 0) + 0) ((1 * (r 13) + 0) + 0) ((1 * (r 16) + 0) + 0)) ≠ 0 ∧ (0 ≤ (r 1) ∧ (r 1) + 2 * (r 2) - 2 < (yq_at (r 0) ((1 * (r 9) + 0) + 0) ((1 * (r 12) + 0) + 0) ((1 * (r 15) + 0) + 0) ((1 * (r 18) + 0) + 0))) ∧ (yq_nr (yq_fat (r 0) (g0 8) (g0 10) (g0 12) (g0 14)) (r 1) (yq_at (r 0) ((1 * (r 9) + 0) + 0) ((1 * (r 12) + 0) + 0) ((1 * (r 15) + 0) + 0) ((1 * (r 18) + 0) + 0)) (2 * (r 2)).toNat) = 1 ∧ ((1 * (r 22) + 0) + 0) = ((1 * (r 5) + 0) + 0) + ((1 * (r 19) + 0) + 0) ∧ ((1 * (r 19) + 0) + 0) + 1 ≤ (r 2) ∧ ((1 * (r 20) + 0) + 0) = (r 1) + 2 * ((1 * (r 19) + 0) + 0) ∧ (gi 2) = yq_ap (((1 * (r 5) + 0) + 0) + ((1 * (r 19) + 0) + 0)) ((1 * (r 5) + 0) + 0) (yq_vx (yq_fat (r 0) (g0 8) (g0 10) (g0 12) (g0 14)) (yq_at (r 0) ((1 * (r 9) + 0) + 0) ((1 * (r 12) + 0) + 0) ((1 * (r 15) + 0) + 0) ((1 * (r 18) + 0) + 0)) (r 1) ((1 * (r 5) + 0) + 0) 0) (g0 2) ∧ (gi 3) = yq_ap (((1 * (r 5) + 0) + 0) + ((1 * (r 19) + 0) + 0)) ((1 * (r 5) + 0) + 0) (yq_vx (yq_fat (r 0) (g0 8) (g0 10) (g0 12) (g0 14)) (yq_at (r 0) ((1 * (r 9) + 0) + 0) ((1 * (r 12) + 0) + 0) ((1 * (r 15) + 0) + 0) ((1 * (r 18) + 0) + 0)) (r 1) ((1 * (r 5) + 0) + 0) 1) (g0 3) ∧ (gi 4) = yq_ap (((1 * (r 5) + 0) + 0) + ((1 * (r 19) + 0) + 0)) ((1 * (r 5) + 0) + 0) (yq_ct (r 3)) (g0 4) ∧ (gi 5) = yq_ap (((1 * (r 5) + 0) + 0) + ((1 * (r 19) + 0) + 0)) ((1 * (r 5) + 0) + 0) (yq_ct 1) (g0 5) ∧ ((1 * (r 21) + 0) + 0) = (yq_vx (yq_fat (r 0) (g0 8) (g0 10) (g0 12) (g0 14)) (yq_at (r 0) ((1 * (r 9) + 0) + 0) ((1 * (r 12) + 0) + 0) ((1 * (r 15) + 0) + 0) ((1 * (r 18) + 0) + 0)) (r 1) ((1 * (r 5) + 0) + 0) 0) (((1 * (r 5) + 0) + 0) + ((1 * (r 19) + 0) + 0)).toNat) ∧ ((1 * (r 23) + 0) + 0) = ye_wr ((1 * (r 6) + 0) + 0) ((1 * (r 19) + 0) + 0) := hG
  obtain ⟨h0, hh, e0, k0⟩ := hh
  have k0 : ∀ j, j ∉ [] → g j = h0 j := k0
  have e0 : ((1 * r 24 + 0) + 0) = yq_nz (h0 14) ((1 * r 18 + 0) + 0) ((1 * r 20 + 0) + 1) := e0
  have hh : h0 = gi := hh
  subst hh
  refine yt_dcut (by decide) rfl ?_ ?_
  · rw [show xk_155.2.1.2.1.1.length = 19 from rfl]
    refine yx_fks _ _ ?_
    refine ⟨?_, ?_, ?_, ?_, trivial⟩
    · show 0 ≤ ((1 * ((1 * r 24 + 0) + 0) + 0) + 300)
      try simp only [Int.one_mul, Int.zero_add, Int.add_zero] at hG
      obtain ⟨hG, hN⟩ := hG
      try simp only [Int.one_mul, Int.zero_add, Int.add_zero] at hG
      obtain ⟨a1, a2, a3, a4, a5, a6, c0, c1, c2, c3, cx⟩ := hG
      rw [show r 0 = 3 by omega] at a2 a3
      simp only [yq_at3, yq_fat3] at a2 a3
      try simp only [Int.one_mul, Int.zero_add, Int.add_zero] at e0
      rw [hfr 14 (by decide)] at e0
      have wn := yq_nr_in (by omega) _ a3 (r 20 + 1) (by omega) (by omega)
      rw [← e0] at wn
      omega
    · show 0 ≤ (((-1) * ((1 * r 24 + 0) + 0) + 0) + 300)
      try simp only [Int.one_mul, Int.zero_add, Int.add_zero] at hG
      obtain ⟨hG, hN⟩ := hG
      try simp only [Int.one_mul, Int.zero_add, Int.add_zero] at hG
      obtain ⟨a1, a2, a3, a4, a5, a6, c0, c1, c2, c3, cx⟩ := hG
      rw [show r 0 = 3 by omega] at a2 a3
      simp only [yq_at3, yq_fat3] at a2 a3
      try simp only [Int.one_mul, Int.zero_add, Int.add_zero] at e0
      rw [hfr 14 (by decide)] at e0
      have wn := yq_nr_in (by omega) _ a3 (r 20 + 1) (by omega) (by omega)
      rw [← e0] at wn
      omega
    · show 0 ≤ ((1 * ((1 * r 21 + 0) + 0) + 0) + 300)
      try simp only [Int.one_mul, Int.zero_add, Int.add_zero] at hG
      obtain ⟨hG, hN⟩ := hG
      try simp only [Int.one_mul, Int.zero_add, Int.add_zero] at hG
      obtain ⟨a1, a2, a3, a4, a5, a6, c0, c1, c2, c3, cx⟩ := hG
      rw [show r 0 = 3 by omega] at a2 a3
      simp only [yq_at3, yq_fat3] at a2 a3
      try simp only [Int.one_mul, Int.zero_add, Int.add_zero] at e0
      rw [hfr 14 (by decide)] at e0
      have wn := yq_nr_in (by omega) _ a3 (r 20 + 1) (by omega) (by omega)
      rw [← e0] at wn
      omega
    · show 0 ≤ (((-1) * ((1 * r 21 + 0) + 0) + 0) + 300)
      try simp only [Int.one_mul, Int.zero_add, Int.add_zero] at hG
      obtain ⟨hG, hN⟩ := hG
      try simp only [Int.one_mul, Int.zero_add, Int.add_zero] at hG
      obtain ⟨a1, a2, a3, a4, a5, a6, c0, c1, c2, c3, cx⟩ := hG
      rw [show r 0 = 3 by omega] at a2 a3
      simp only [yq_at3, yq_fat3] at a2 a3
      try simp only [Int.one_mul, Int.zero_add, Int.add_zero] at e0
      rw [hfr 14 (by decide)] at e0
      have wn := yq_nr_in (by omega) _ a3 (r 20 + 1) (by omega) (by omega)
      rw [← e0] at wn
      omega
  · rw [show xk_155.2.1.2.1.1.length = 19 from rfl]
    show ((yq_at ((1 * r 0 + 0) + 0) ((1 * ((1 * r 7 + 0) + 0) + 0) + 0) ((1 * ((1 * r 10 + 0) + 0) + 0) + 0) ((1 * ((1 * r 13 + 0) + 0) + 0) + 0) ((1 * ((1 * r 16 + 0) + 0) + 0) + 0)) ≠ 0 ∧ (0 ≤ ((1 * r 1 + 0) + 0) ∧ ((1 * r 1 + 0) + 0) + 2 * ((1 * r 2 + 0) + 0) - 2 < (yq_at ((1 * r 0 + 0) + 0) ((1 * ((1 * r 9 + 0) + 0) + 0) + 0) ((1 * ((1 * r 12 + 0) + 0) + 0) + 0) ((1 * ((1 * r 15 + 0) + 0) + 0) + 0) ((1 * ((1 * r 18 + 0) + 0) + 0) + 0))) ∧ (yq_nr (yq_fat ((1 * r 0 + 0) + 0) (g0 8) (g0 10) (g0 12) (g0 14)) ((1 * r 1 + 0) + 0) (yq_at ((1 * r 0 + 0) + 0) ((1 * ((1 * r 9 + 0) + 0) + 0) + 0) ((1 * ((1 * r 12 + 0) + 0) + 0) + 0) ((1 * ((1 * r 15 + 0) + 0) + 0) + 0) ((1 * ((1 * r 18 + 0) + 0) + 0) + 0)) (2 * ((1 * r 2 + 0) + 0)).toNat) = 1 ∧ ((1 * ((1 * r 22 + 0) + 0) + 0) + 0) = ((1 * ((1 * r 5 + 0) + 0) + 0) + 0) + ((1 * ((1 * r 19 + 0) + 0) + 0) + 0) ∧ ((1 * ((1 * r 19 + 0) + 0) + 0) + 0) + 1 ≤ ((1 * r 2 + 0) + 0) ∧ (g 2) = yq_ap (((1 * ((1 * r 5 + 0) + 0) + 0) + 0) + ((1 * ((1 * r 19 + 0) + 0) + 0) + 0)) ((1 * ((1 * r 5 + 0) + 0) + 0) + 0) (yq_vx (yq_fat ((1 * r 0 + 0) + 0) (g0 8) (g0 10) (g0 12) (g0 14)) (yq_at ((1 * r 0 + 0) + 0) ((1 * ((1 * r 9 + 0) + 0) + 0) + 0) ((1 * ((1 * r 12 + 0) + 0) + 0) + 0) ((1 * ((1 * r 15 + 0) + 0) + 0) + 0) ((1 * ((1 * r 18 + 0) + 0) + 0) + 0)) ((1 * r 1 + 0) + 0) ((1 * ((1 * r 5 + 0) + 0) + 0) + 0) 0) (g0 2) ∧ (g 3) = yq_ap (((1 * ((1 * r 5 + 0) + 0) + 0) + 0) + ((1 * ((1 * r 19 + 0) + 0) + 0) + 0)) ((1 * ((1 * r 5 + 0) + 0) + 0) + 0) (yq_vx (yq_fat ((1 * r 0 + 0) + 0) (g0 8) (g0 10) (g0 12) (g0 14)) (yq_at ((1 * r 0 + 0) + 0) ((1 * ((1 * r 9 + 0) + 0) + 0) + 0) ((1 * ((1 * r 12 + 0) + 0) + 0) + 0) ((1 * ((1 * r 15 + 0) + 0) + 0) + 0) ((1 * ((1 * r 18 + 0) + 0) + 0) + 0)) ((1 * r 1 + 0) + 0) ((1 * ((1 * r 5 + 0) + 0) + 0) + 0) 1) (g0 3) ∧ (g 4) = yq_ap (((1 * ((1 * r 5 + 0) + 0) + 0) + 0) + ((1 * ((1 * r 19 + 0) + 0) + 0) + 0)) ((1 * ((1 * r 5 + 0) + 0) + 0) + 0) (yq_ct ((1 * r 3 + 0) + 0)) (g0 4) ∧ (g 5) = yq_ap (((1 * ((1 * r 5 + 0) + 0) + 0) + 0) + ((1 * ((1 * r 19 + 0) + 0) + 0) + 0)) ((1 * ((1 * r 5 + 0) + 0) + 0) + 0) (yq_ct 1) (g0 5) ∧ ((1 * ((1 * r 21 + 0) + 0) + 0) + 0) = (yq_vx (yq_fat ((1 * r 0 + 0) + 0) (g0 8) (g0 10) (g0 12) (g0 14)) (yq_at ((1 * r 0 + 0) + 0) ((1 * ((1 * r 9 + 0) + 0) + 0) + 0) ((1 * ((1 * r 12 + 0) + 0) + 0) + 0) ((1 * ((1 * r 15 + 0) + 0) + 0) + 0) ((1 * ((1 * r 18 + 0) + 0) + 0) + 0)) ((1 * r 1 + 0) + 0) ((1 * ((1 * r 5 + 0) + 0) + 0) + 0) 0) (((1 * ((1 * r 5 + 0) + 0) + 0) + 0) + ((1 * ((1 * r 19 + 0) + 0) + 0) + 0)).toNat ∧ ((1 * ((1 * r 24 + 0) + 0) + 0) + 0) = (yq_vx (yq_fat ((1 * r 0 + 0) + 0) (g0 8) (g0 10) (g0 12) (g0 14)) (yq_at ((1 * r 0 + 0) + 0) ((1 * ((1 * r 9 + 0) + 0) + 0) + 0) ((1 * ((1 * r 12 + 0) + 0) + 0) + 0) ((1 * ((1 * r 15 + 0) + 0) + 0) + 0) ((1 * ((1 * r 18 + 0) + 0) + 0) + 0)) ((1 * r 1 + 0) + 0) ((1 * ((1 * r 5 + 0) + 0) + 0) + 0) 1) (((1 * ((1 * r 5 + 0) + 0) + 0) + 0) + ((1 * ((1 * r 19 + 0) + 0) + 0) + 0)).toNat) ∧ ((1 * ((1 * r 23 + 0) + 0) + 0) + 0) = ye_wr ((1 * ((1 * r 6 + 0) + 0) + 0) + 0) ((1 * ((1 * r 19 + 0) + 0) + 0) + 0)
    try simp only [Int.one_mul, Int.zero_add, Int.add_zero]
    try simp only [Int.one_mul, Int.zero_add, Int.add_zero] at hG
    obtain ⟨hG, hN⟩ := hG
    refine ⟨?_, ?_⟩
    · try simp only [Int.one_mul, Int.zero_add, Int.add_zero] at hG
      have b1 := hG.1
      have b2 := hG.2.1
      have b3 := hG.2.2.1
      obtain ⟨a1, a2, a3, a4, a5, a6, c0, c1, c2, c3, cx⟩ := hG
      rw [show r 0 = 3 by omega] at a2 a3
      simp only [yq_at3, yq_fat3] at a2 a3
      try simp only [Int.one_mul, Int.zero_add, Int.add_zero] at e0
      rw [hfr 14 (by decide)] at e0
      have wn := yq_nr_in (by omega) _ a3 (r 20 + 1) (by omega) (by omega)
      rw [← e0] at wn
      refine ⟨?_, ?_, ?_, ?_, ?_, ?_, ?_, ?_, ?_, ?_, ?_⟩
      · exact b1
      · exact b2
      · exact b3
      · omega
      · omega
      · rw [k0 2 (by decide)]
        exact c0
      · rw [k0 3 (by decide)]
        exact c1
      · rw [k0 4 (by decide)]
        exact c2
      · rw [k0 5 (by decide)]
        exact c3
      · exact cx
      · rw [show r 0 = 3 by omega]
        simp only [yq_at3, yq_fat3]
        rw [yq_vx_e (i := r 20 + 1) (by omega), ← e0]
    · try simp only [Int.one_mul, Int.zero_add, Int.add_zero] at hN
      exact hN
theorem xw_155_3_0 : yt_hold xT_155 xk_155 xq_155.2.2.1 xG_155 xP_155 xU_155 24 ((xq_155.2.2.1.getD 2 (0, ([], [], ([], []), [], [], ([], 0)), [], false)).2.1.2.2.1.2) (xG_155 2) (0, ([(0, 3), (0, 99), (1, 40), (0, 1), ((-2147483648), 2147483647), (0, 39), ((-2147483648), 2147483647), (0, 1), ((-2147483648), 2147483647), (0, 100), (0, 1), ((-2147483648), 2147483647), (0, 100), (0, 1), ((-2147483648), 2147483647), (0, 100), (0, 1), ((-2147483648), 2147483647), (0, 100), (0, 39), ((-300), 300), ((-300), 300), (0, 39), ((-2147483648), 2147483647), ((-2147483648), 2147483647)], [([(2, (-1)), (5, (-1))], 40), ([(0, 1)], 0), ([(0, (-1))], 3), ([(1, 1)], 0), ([(1, (-1))], 99), ([(2, 1)], (-1)), ([(2, (-1))], 40), ([(3, 1)], 0), ([(3, (-1))], 1), ([(5, (-1))], 39), ([(2, (-1)), (5, (-1))], 40)]), [([(19, 1)], 1), ([(22, 1)], 1), ([(24, 1)], 0)], [], [.inr (.inr (.inl (130, 0, [([(21, 1)], 0), ([(20, 1)], 0), ([(3, 1)], 0), ([(22, 1)], 0), ([(23, 1)], 0), ([(24, 1)], 0)], [1, 2, 3, 4, 5], [2, 3, 4, 5])))]) := by
  intro g0 r gi g hok hh hars hfr hG
  have b0 : 0 ≤ r 0 ∧ r 0 ≤ 3 := hok.1 0 (0, 3) rfl
  have b1 : 0 ≤ r 1 ∧ r 1 ≤ 99 := hok.1 1 (0, 99) rfl
  have b2 : 1 ≤ r 2 ∧ r 2 ≤ 40 := hok.1 2 (1, 40) rfl
  have b3 : 0 ≤ r 3 ∧ r 3 ≤ 1 := hok.1 3 (0, 1) rfl
  have b4 : (-2147483648) ≤ r 4 ∧ r 4 ≤ 2147483647 := hok.1 4 ((-2147483648), 2147483647) rfl
  have b5 : 0 ≤ r 5 ∧ r 5 ≤ 39 := hok.1 5 (0, 39) rfl
  have b6 : (-2147483648) ≤ r 6 ∧ r 6 ≤ 2147483647 := hok.1 6 ((-2147483648), 2147483647) rfl
  have b7 : 0 ≤ r 7 ∧ r 7 ≤ 1 := hok.1 7 (0, 1) rfl
  have b8 : (-2147483648) ≤ r 8 ∧ r 8 ≤ 2147483647 := hok.1 8 ((-2147483648), 2147483647) rfl
  have b9 : 0 ≤ r 9 ∧ r 9 ≤ 100 := hok.1 9 (0, 100) rfl
  have b10 : 0 ≤ r 10 ∧ r 10 ≤ 1 := hok.1 10 (0, 1) rfl
  have b11 : (-2147483648) ≤ r 11 ∧ r 11 ≤ 2147483647 := hok.1 11 ((-2147483648), 2147483647) rfl
  have b12 : 0 ≤ r 12 ∧ r 12 ≤ 100 := hok.1 12 (0, 100) rfl
  have b13 : 0 ≤ r 13 ∧ r 13 ≤ 1 := hok.1 13 (0, 1) rfl
  have b14 : (-2147483648) ≤ r 14 ∧ r 14 ≤ 2147483647 := hok.1 14 ((-2147483648), 2147483647) rfl
  have b15 : 0 ≤ r 15 ∧ r 15 ≤ 100 := hok.1 15 (0, 100) rfl
  have b16 : 0 ≤ r 16 ∧ r 16 ≤ 1 := hok.1 16 (0, 1) rfl
  have b17 : (-2147483648) ≤ r 17 ∧ r 17 ≤ 2147483647 := hok.1 17 ((-2147483648), 2147483647) rfl
  have b18 : 0 ≤ r 18 ∧ r 18 ≤ 100 := hok.1 18 (0, 100) rfl
  have b19 : 0 ≤ r 19 ∧ r 19 ≤ 39 := hok.1 19 (0, 39) rfl
  have b20 : (-300) ≤ r 20 ∧ r 20 ≤ 300 := hok.1 20 ((-300), 300) rfl
  have b21 : (-300) ≤ r 21 ∧ r 21 ≤ 300 := hok.1 21 ((-300), 300) rfl
  have b22 : 0 ≤ r 22 ∧ r 22 ≤ 39 := hok.1 22 (0, 39) rfl
  have b23 : (-2147483648) ≤ r 23 ∧ r 23 ≤ 2147483647 := hok.1 23 ((-2147483648), 2147483647) rfl
  have b24 : (-2147483648) ≤ r 24 ∧ r 24 ≤ 2147483647 := hok.1 24 ((-2147483648), 2147483647) rfl
  have f0 : 0 ≤ (((-1) * r 2 + ((-1) * r 5 + 0)) + 40) := hok.2 _ (List.mem_of_getElem? (i := 0) rfl)
  have f1 : 0 ≤ ((1 * r 0 + 0) + 0) := hok.2 _ (List.mem_of_getElem? (i := 1) rfl)
  have f2 : 0 ≤ (((-1) * r 0 + 0) + 3) := hok.2 _ (List.mem_of_getElem? (i := 2) rfl)
  have f3 : 0 ≤ ((1 * r 1 + 0) + 0) := hok.2 _ (List.mem_of_getElem? (i := 3) rfl)
  have f4 : 0 ≤ (((-1) * r 1 + 0) + 99) := hok.2 _ (List.mem_of_getElem? (i := 4) rfl)
  have f5 : 0 ≤ ((1 * r 2 + 0) + (-1)) := hok.2 _ (List.mem_of_getElem? (i := 5) rfl)
  have f6 : 0 ≤ (((-1) * r 2 + 0) + 40) := hok.2 _ (List.mem_of_getElem? (i := 6) rfl)
  have f7 : 0 ≤ ((1 * r 3 + 0) + 0) := hok.2 _ (List.mem_of_getElem? (i := 7) rfl)
  have f8 : 0 ≤ (((-1) * r 3 + 0) + 1) := hok.2 _ (List.mem_of_getElem? (i := 8) rfl)
  have f9 : 0 ≤ (((-1) * r 5 + 0) + 39) := hok.2 _ (List.mem_of_getElem? (i := 9) rfl)
  have f10 : 0 ≤ (((-1) * r 2 + ((-1) * r 5 + 0)) + 40) := hok.2 _ (List.mem_of_getElem? (i := 10) rfl)
  have hG : ((yq_at (r 0) ((1 * (r 7) + 0) + 0) ((1 * (r 10) + 0) + 0) ((1 * (r 13) + 0) + 0) ((1 * (r 16) + 0) + 0)) ≠ 0 ∧ (0 ≤ (r 1) ∧ (r 1) + 2 * (r 2) - 2 < (yq_at (r 0) ((1 * (r 9) + 0) + 0) ((1 * (r 12) + 0) + 0) ((1 * (r 15) + 0) + 0) ((1 * (r 18) + 0) + 0))) ∧ (yq_nr (yq_fat (r 0) (g0 8) (g0 10) (g0 12) (g0 14)) (r 1) (yq_at (r 0) ((1 * (r 9) + 0) + 0) ((1 * (r 12) + 0) + 0) ((1 * (r 15) + 0) + 0) ((1 * (r 18) + 0) + 0)) (2 * (r 2)).toNat) = 1 ∧ ((1 * (r 22) + 0) + 0) = ((1 * (r 5) + 0) + 0) + ((1 * (r 19) + 0) + 0) ∧ ((1 * (r 19) + 0) + 0) + 1 ≤ (r 2) ∧ (gi 2) = yq_ap (((1 * (r 5) + 0) + 0) + ((1 * (r 19) + 0) + 0)) ((1 * (r 5) + 0) + 0) (yq_vx (yq_fat (r 0) (g0 8) (g0 10) (g0 12) (g0 14)) (yq_at (r 0) ((1 * (r 9) + 0) + 0) ((1 * (r 12) + 0) + 0) ((1 * (r 15) + 0) + 0) ((1 * (r 18) + 0) + 0)) (r 1) ((1 * (r 5) + 0) + 0) 0) (g0 2) ∧ (gi 3) = yq_ap (((1 * (r 5) + 0) + 0) + ((1 * (r 19) + 0) + 0)) ((1 * (r 5) + 0) + 0) (yq_vx (yq_fat (r 0) (g0 8) (g0 10) (g0 12) (g0 14)) (yq_at (r 0) ((1 * (r 9) + 0) + 0) ((1 * (r 12) + 0) + 0) ((1 * (r 15) + 0) + 0) ((1 * (r 18) + 0) + 0)) (r 1) ((1 * (r 5) + 0) + 0) 1) (g0 3) ∧ (gi 4) = yq_ap (((1 * (r 5) + 0) + 0) + ((1 * (r 19) + 0) + 0)) ((1 * (r 5) + 0) + 0) (yq_ct (r 3)) (g0 4) ∧ (gi 5) = yq_ap (((1 * (r 5) + 0) + 0) + ((1 * (r 19) + 0) + 0)) ((1 * (r 5) + 0) + 0) (yq_ct 1) (g0 5) ∧ ((1 * (r 21) + 0) + 0) = (yq_vx (yq_fat (r 0) (g0 8) (g0 10) (g0 12) (g0 14)) (yq_at (r 0) ((1 * (r 9) + 0) + 0) ((1 * (r 12) + 0) + 0) ((1 * (r 15) + 0) + 0) ((1 * (r 18) + 0) + 0)) (r 1) ((1 * (r 5) + 0) + 0) 0) (((1 * (r 5) + 0) + 0) + ((1 * (r 19) + 0) + 0)).toNat ∧ ((1 * (r 20) + 0) + 0) = (yq_vx (yq_fat (r 0) (g0 8) (g0 10) (g0 12) (g0 14)) (yq_at (r 0) ((1 * (r 9) + 0) + 0) ((1 * (r 12) + 0) + 0) ((1 * (r 15) + 0) + 0) ((1 * (r 18) + 0) + 0)) (r 1) ((1 * (r 5) + 0) + 0) 1) (((1 * (r 5) + 0) + 0) + ((1 * (r 19) + 0) + 0)).toNat) ∧ ((1 * (r 23) + 0) + 0) = ye_wr ((1 * (r 6) + 0) + 0) ((1 * (r 19) + 0) + 0) := hG
  obtain ⟨h0, hh, e0, k0⟩ := hh
  have k0 : ∀ j, j ∉ [2, 3, 4, 5] → g j = h0 j := k0
  have e0 : ((g 2) = yq_set (h0 2) (((1 * r 22 + 0) + 0)).toNat ((1 * r 21 + 0) + 0) ∧ (g 3) = yq_set (h0 3) (((1 * r 22 + 0) + 0)).toNat ((1 * r 20 + 0) + 0) ∧ (g 4) = yq_set (h0 4) (((1 * r 22 + 0) + 0)).toNat ((1 * r 3 + 0) + 0) ∧ (g 5) = yq_set (h0 5) (((1 * r 22 + 0) + 0)).toNat 1) ∧ ((1 * ((1 * r 24 + 0) + 0) + 0) + 0) = ye_wr ((1 * ((1 * r 23 + 0) + 0) + 0) + 0) 1 := e0
  have hh : h0 = gi := hh
  subst hh
  refine yt_dcut (by decide) rfl ?_ ?_
  · exact fun f hf => absurd hf List.not_mem_nil
  · rw [show xk_155.2.1.2.1.1.length = 19 from rfl]
    show ((yq_at ((1 * r 0 + 0) + 0) ((1 * ((1 * r 7 + 0) + 0) + 0) + 0) ((1 * ((1 * r 10 + 0) + 0) + 0) + 0) ((1 * ((1 * r 13 + 0) + 0) + 0) + 0) ((1 * ((1 * r 16 + 0) + 0) + 0) + 0)) ≠ 0 ∧ (0 ≤ ((1 * r 1 + 0) + 0) ∧ ((1 * r 1 + 0) + 0) + 2 * ((1 * r 2 + 0) + 0) - 2 < (yq_at ((1 * r 0 + 0) + 0) ((1 * ((1 * r 9 + 0) + 0) + 0) + 0) ((1 * ((1 * r 12 + 0) + 0) + 0) + 0) ((1 * ((1 * r 15 + 0) + 0) + 0) + 0) ((1 * ((1 * r 18 + 0) + 0) + 0) + 0))) ∧ (yq_nr (yq_fat ((1 * r 0 + 0) + 0) (g0 8) (g0 10) (g0 12) (g0 14)) ((1 * r 1 + 0) + 0) (yq_at ((1 * r 0 + 0) + 0) ((1 * ((1 * r 9 + 0) + 0) + 0) + 0) ((1 * ((1 * r 12 + 0) + 0) + 0) + 0) ((1 * ((1 * r 15 + 0) + 0) + 0) + 0) ((1 * ((1 * r 18 + 0) + 0) + 0) + 0)) (2 * ((1 * r 2 + 0) + 0)).toNat) = 1 ∧ ((1 * ((1 * r 22 + 0) + 1) + 0) + 0) = ((1 * ((1 * r 5 + 0) + 0) + 0) + 0) + ((1 * ((1 * r 19 + 0) + 1) + 0) + 0) ∧ ((1 * ((1 * r 19 + 0) + 1) + 0) + 0) ≤ ((1 * r 2 + 0) + 0) ∧ (g 2) = yq_ap (((1 * ((1 * r 5 + 0) + 0) + 0) + 0) + ((1 * ((1 * r 19 + 0) + 1) + 0) + 0)) ((1 * ((1 * r 5 + 0) + 0) + 0) + 0) (yq_vx (yq_fat ((1 * r 0 + 0) + 0) (g0 8) (g0 10) (g0 12) (g0 14)) (yq_at ((1 * r 0 + 0) + 0) ((1 * ((1 * r 9 + 0) + 0) + 0) + 0) ((1 * ((1 * r 12 + 0) + 0) + 0) + 0) ((1 * ((1 * r 15 + 0) + 0) + 0) + 0) ((1 * ((1 * r 18 + 0) + 0) + 0) + 0)) ((1 * r 1 + 0) + 0) ((1 * ((1 * r 5 + 0) + 0) + 0) + 0) 0) (g0 2) ∧ (g 3) = yq_ap (((1 * ((1 * r 5 + 0) + 0) + 0) + 0) + ((1 * ((1 * r 19 + 0) + 1) + 0) + 0)) ((1 * ((1 * r 5 + 0) + 0) + 0) + 0) (yq_vx (yq_fat ((1 * r 0 + 0) + 0) (g0 8) (g0 10) (g0 12) (g0 14)) (yq_at ((1 * r 0 + 0) + 0) ((1 * ((1 * r 9 + 0) + 0) + 0) + 0) ((1 * ((1 * r 12 + 0) + 0) + 0) + 0) ((1 * ((1 * r 15 + 0) + 0) + 0) + 0) ((1 * ((1 * r 18 + 0) + 0) + 0) + 0)) ((1 * r 1 + 0) + 0) ((1 * ((1 * r 5 + 0) + 0) + 0) + 0) 1) (g0 3) ∧ (g 4) = yq_ap (((1 * ((1 * r 5 + 0) + 0) + 0) + 0) + ((1 * ((1 * r 19 + 0) + 1) + 0) + 0)) ((1 * ((1 * r 5 + 0) + 0) + 0) + 0) (yq_ct ((1 * r 3 + 0) + 0)) (g0 4) ∧ (g 5) = yq_ap (((1 * ((1 * r 5 + 0) + 0) + 0) + 0) + ((1 * ((1 * r 19 + 0) + 1) + 0) + 0)) ((1 * ((1 * r 5 + 0) + 0) + 0) + 0) (yq_ct 1) (g0 5)) ∧ ((1 * ((1 * r 24 + 0) + 0) + 0) + 0) = ye_wr ((1 * ((1 * r 6 + 0) + 0) + 0) + 0) ((1 * ((1 * r 19 + 0) + 1) + 0) + 0)
    try simp only [Int.one_mul, Int.zero_add, Int.add_zero]
    try simp only [Int.one_mul, Int.zero_add, Int.add_zero] at hG
    obtain ⟨hG, hN⟩ := hG
    refine ⟨?_, ?_⟩
    · try simp only [Int.one_mul, Int.zero_add, Int.add_zero] at hG
      obtain ⟨a1, a2, a3, a4, a5, c0, c1, c2, c3, cx, cy⟩ := hG
      try simp only [Int.one_mul, Int.zero_add, Int.add_zero] at e0
      obtain ⟨⟨m0, m1, m2, m3⟩, mc⟩ := e0
      refine ⟨?_, ?_, ?_, ?_, ?_, ?_, ?_, ?_, ?_⟩
      · exact a1
      · exact a2
      · exact a3
      · omega
      · omega
      · rw [m0, c0, show r 22 = r 5 + r 19 by omega]
        exact yq_ap_s (by omega) (by omega) (by omega) cx
      · rw [m1, c1, show r 22 = r 5 + r 19 by omega]
        exact yq_ap_s (by omega) (by omega) (by omega) cy
      · rw [m2, c2, show r 22 = r 5 + r 19 by omega]
        exact yq_ap_s (by omega) (by omega) (by omega) rfl
      · rw [m3, c3, show r 22 = r 5 + r 19 by omega]
        exact yq_ap_s (by omega) (by omega) (by omega) rfl
    · try simp only [Int.one_mul, Int.zero_add, Int.add_zero] at hN
      try simp only [Int.one_mul, Int.zero_add, Int.add_zero] at e0
      rw [e0.2, hN, ye_wt]
theorem xw_155_3_1 : yt_hold xT_155 xk_155 xq_155.2.2.1 xG_155 xP_155 xU_155 24 ((xq_155.2.2.1.getD 2 (0, ([], [], ([], []), [], [], ([], 0)), [], false)).2.1.2.2.1.2) (xG_155 2) (0, ([(0, 3), (0, 99), (1, 40), (0, 1), ((-2147483648), 2147483647), (0, 39), ((-2147483648), 2147483647), (0, 1), ((-2147483648), 2147483647), (0, 100), (0, 1), ((-2147483648), 2147483647), (0, 100), (0, 1), ((-2147483648), 2147483647), (0, 100), (0, 1), ((-2147483648), 2147483647), (0, 100), (0, 39), ((-300), 300), ((-300), 300), (40, 40), ((-2147483648), 2147483647)], [([(2, (-1)), (5, (-1))], 40), ([(0, 1)], 0), ([(0, (-1))], 3), ([(1, 1)], 0), ([(1, (-1))], 99), ([(2, 1)], (-1)), ([(2, (-1))], 40), ([(3, 1)], 0), ([(3, (-1))], 1), ([(5, (-1))], 39), ([(2, (-1)), (5, (-1))], 40)]), [([(19, 1)], 1), ([(22, 1)], 0), ([(23, 1)], 0)], [], [.inr (.inr (.inl (130, 1, [([(21, 1)], 0), ([(20, 1)], 0), ([(3, 1)], 0), ([(22, 1)], 0), ([(23, 1)], 0)], [1, 2, 3, 4, 5], [2, 3, 4, 5])))]) := by
  intro g0 r gi g hok hh hars hfr hG
  have b0 : 0 ≤ r 0 ∧ r 0 ≤ 3 := hok.1 0 (0, 3) rfl
  have b1 : 0 ≤ r 1 ∧ r 1 ≤ 99 := hok.1 1 (0, 99) rfl
  have b2 : 1 ≤ r 2 ∧ r 2 ≤ 40 := hok.1 2 (1, 40) rfl
  have b3 : 0 ≤ r 3 ∧ r 3 ≤ 1 := hok.1 3 (0, 1) rfl
  have b4 : (-2147483648) ≤ r 4 ∧ r 4 ≤ 2147483647 := hok.1 4 ((-2147483648), 2147483647) rfl
  have b5 : 0 ≤ r 5 ∧ r 5 ≤ 39 := hok.1 5 (0, 39) rfl
  have b6 : (-2147483648) ≤ r 6 ∧ r 6 ≤ 2147483647 := hok.1 6 ((-2147483648), 2147483647) rfl
  have b7 : 0 ≤ r 7 ∧ r 7 ≤ 1 := hok.1 7 (0, 1) rfl
  have b8 : (-2147483648) ≤ r 8 ∧ r 8 ≤ 2147483647 := hok.1 8 ((-2147483648), 2147483647) rfl
  have b9 : 0 ≤ r 9 ∧ r 9 ≤ 100 := hok.1 9 (0, 100) rfl
  have b10 : 0 ≤ r 10 ∧ r 10 ≤ 1 := hok.1 10 (0, 1) rfl
  have b11 : (-2147483648) ≤ r 11 ∧ r 11 ≤ 2147483647 := hok.1 11 ((-2147483648), 2147483647) rfl
  have b12 : 0 ≤ r 12 ∧ r 12 ≤ 100 := hok.1 12 (0, 100) rfl
  have b13 : 0 ≤ r 13 ∧ r 13 ≤ 1 := hok.1 13 (0, 1) rfl
  have b14 : (-2147483648) ≤ r 14 ∧ r 14 ≤ 2147483647 := hok.1 14 ((-2147483648), 2147483647) rfl
  have b15 : 0 ≤ r 15 ∧ r 15 ≤ 100 := hok.1 15 (0, 100) rfl
  have b16 : 0 ≤ r 16 ∧ r 16 ≤ 1 := hok.1 16 (0, 1) rfl
  have b17 : (-2147483648) ≤ r 17 ∧ r 17 ≤ 2147483647 := hok.1 17 ((-2147483648), 2147483647) rfl
  have b18 : 0 ≤ r 18 ∧ r 18 ≤ 100 := hok.1 18 (0, 100) rfl
  have b19 : 0 ≤ r 19 ∧ r 19 ≤ 39 := hok.1 19 (0, 39) rfl
  have b20 : (-300) ≤ r 20 ∧ r 20 ≤ 300 := hok.1 20 ((-300), 300) rfl
  have b21 : (-300) ≤ r 21 ∧ r 21 ≤ 300 := hok.1 21 ((-300), 300) rfl
  have b22 : 40 ≤ r 22 ∧ r 22 ≤ 40 := hok.1 22 (40, 40) rfl
  have b23 : (-2147483648) ≤ r 23 ∧ r 23 ≤ 2147483647 := hok.1 23 ((-2147483648), 2147483647) rfl
  have f0 : 0 ≤ (((-1) * r 2 + ((-1) * r 5 + 0)) + 40) := hok.2 _ (List.mem_of_getElem? (i := 0) rfl)
  have f1 : 0 ≤ ((1 * r 0 + 0) + 0) := hok.2 _ (List.mem_of_getElem? (i := 1) rfl)
  have f2 : 0 ≤ (((-1) * r 0 + 0) + 3) := hok.2 _ (List.mem_of_getElem? (i := 2) rfl)
  have f3 : 0 ≤ ((1 * r 1 + 0) + 0) := hok.2 _ (List.mem_of_getElem? (i := 3) rfl)
  have f4 : 0 ≤ (((-1) * r 1 + 0) + 99) := hok.2 _ (List.mem_of_getElem? (i := 4) rfl)
  have f5 : 0 ≤ ((1 * r 2 + 0) + (-1)) := hok.2 _ (List.mem_of_getElem? (i := 5) rfl)
  have f6 : 0 ≤ (((-1) * r 2 + 0) + 40) := hok.2 _ (List.mem_of_getElem? (i := 6) rfl)
  have f7 : 0 ≤ ((1 * r 3 + 0) + 0) := hok.2 _ (List.mem_of_getElem? (i := 7) rfl)
  have f8 : 0 ≤ (((-1) * r 3 + 0) + 1) := hok.2 _ (List.mem_of_getElem? (i := 8) rfl)
  have f9 : 0 ≤ (((-1) * r 5 + 0) + 39) := hok.2 _ (List.mem_of_getElem? (i := 9) rfl)
  have f10 : 0 ≤ (((-1) * r 2 + ((-1) * r 5 + 0)) + 40) := hok.2 _ (List.mem_of_getElem? (i := 10) rfl)
  have hG : ((yq_at (r 0) ((1 * (r 7) + 0) + 0) ((1 * (r 10) + 0) + 0) ((1 * (r 13) + 0) + 0) ((1 * (r 16) + 0) + 0)) ≠ 0 ∧ (0 ≤ (r 1) ∧ (r 1) + 2 * (r 2) - 2 < (yq_at (r 0) ((1 * (r 9) + 0) + 0) ((1 * (r 12) + 0) + 0) ((1 * (r 15) + 0) + 0) ((1 * (r 18) + 0) + 0))) ∧ (yq_nr (yq_fat (r 0) (g0 8) (g0 10) (g0 12) (g0 14)) (r 1) (yq_at (r 0) ((1 * (r 9) + 0) + 0) ((1 * (r 12) + 0) + 0) ((1 * (r 15) + 0) + 0) ((1 * (r 18) + 0) + 0)) (2 * (r 2)).toNat) = 1 ∧ ((1 * (r 22) + 0) + 0) = ((1 * (r 5) + 0) + 0) + ((1 * (r 19) + 0) + 0) ∧ ((1 * (r 19) + 0) + 0) + 1 ≤ (r 2) ∧ (gi 2) = yq_ap (((1 * (r 5) + 0) + 0) + ((1 * (r 19) + 0) + 0)) ((1 * (r 5) + 0) + 0) (yq_vx (yq_fat (r 0) (g0 8) (g0 10) (g0 12) (g0 14)) (yq_at (r 0) ((1 * (r 9) + 0) + 0) ((1 * (r 12) + 0) + 0) ((1 * (r 15) + 0) + 0) ((1 * (r 18) + 0) + 0)) (r 1) ((1 * (r 5) + 0) + 0) 0) (g0 2) ∧ (gi 3) = yq_ap (((1 * (r 5) + 0) + 0) + ((1 * (r 19) + 0) + 0)) ((1 * (r 5) + 0) + 0) (yq_vx (yq_fat (r 0) (g0 8) (g0 10) (g0 12) (g0 14)) (yq_at (r 0) ((1 * (r 9) + 0) + 0) ((1 * (r 12) + 0) + 0) ((1 * (r 15) + 0) + 0) ((1 * (r 18) + 0) + 0)) (r 1) ((1 * (r 5) + 0) + 0) 1) (g0 3) ∧ (gi 4) = yq_ap (((1 * (r 5) + 0) + 0) + ((1 * (r 19) + 0) + 0)) ((1 * (r 5) + 0) + 0) (yq_ct (r 3)) (g0 4) ∧ (gi 5) = yq_ap (((1 * (r 5) + 0) + 0) + ((1 * (r 19) + 0) + 0)) ((1 * (r 5) + 0) + 0) (yq_ct 1) (g0 5) ∧ ((1 * (r 21) + 0) + 0) = (yq_vx (yq_fat (r 0) (g0 8) (g0 10) (g0 12) (g0 14)) (yq_at (r 0) ((1 * (r 9) + 0) + 0) ((1 * (r 12) + 0) + 0) ((1 * (r 15) + 0) + 0) ((1 * (r 18) + 0) + 0)) (r 1) ((1 * (r 5) + 0) + 0) 0) (((1 * (r 5) + 0) + 0) + ((1 * (r 19) + 0) + 0)).toNat ∧ ((1 * (r 20) + 0) + 0) = (yq_vx (yq_fat (r 0) (g0 8) (g0 10) (g0 12) (g0 14)) (yq_at (r 0) ((1 * (r 9) + 0) + 0) ((1 * (r 12) + 0) + 0) ((1 * (r 15) + 0) + 0) ((1 * (r 18) + 0) + 0)) (r 1) ((1 * (r 5) + 0) + 0) 1) (((1 * (r 5) + 0) + 0) + ((1 * (r 19) + 0) + 0)).toNat) ∧ ((1 * (r 23) + 0) + 0) = ye_wr ((1 * (r 6) + 0) + 0) ((1 * (r 19) + 0) + 0) := hG
  obtain ⟨h0, hh, e0, k0⟩ := hh
  have k0 : ∀ j, j ∉ [2, 3, 4, 5] → g j = h0 j := k0
  have hh : h0 = gi := hh
  subst hh
  refine yt_dcut (by decide) rfl ?_ ?_
  · exact fun f hf => absurd hf List.not_mem_nil
  · rw [show xk_155.2.1.2.1.1.length = 19 from rfl]
    show ((yq_at ((1 * r 0 + 0) + 0) ((1 * ((1 * r 7 + 0) + 0) + 0) + 0) ((1 * ((1 * r 10 + 0) + 0) + 0) + 0) ((1 * ((1 * r 13 + 0) + 0) + 0) + 0) ((1 * ((1 * r 16 + 0) + 0) + 0) + 0)) ≠ 0 ∧ (0 ≤ ((1 * r 1 + 0) + 0) ∧ ((1 * r 1 + 0) + 0) + 2 * ((1 * r 2 + 0) + 0) - 2 < (yq_at ((1 * r 0 + 0) + 0) ((1 * ((1 * r 9 + 0) + 0) + 0) + 0) ((1 * ((1 * r 12 + 0) + 0) + 0) + 0) ((1 * ((1 * r 15 + 0) + 0) + 0) + 0) ((1 * ((1 * r 18 + 0) + 0) + 0) + 0))) ∧ (yq_nr (yq_fat ((1 * r 0 + 0) + 0) (g0 8) (g0 10) (g0 12) (g0 14)) ((1 * r 1 + 0) + 0) (yq_at ((1 * r 0 + 0) + 0) ((1 * ((1 * r 9 + 0) + 0) + 0) + 0) ((1 * ((1 * r 12 + 0) + 0) + 0) + 0) ((1 * ((1 * r 15 + 0) + 0) + 0) + 0) ((1 * ((1 * r 18 + 0) + 0) + 0) + 0)) (2 * ((1 * r 2 + 0) + 0)).toNat) = 1 ∧ ((1 * ((1 * r 22 + 0) + 0) + 0) + 0) = ((1 * ((1 * r 5 + 0) + 0) + 0) + 0) + ((1 * ((1 * r 19 + 0) + 1) + 0) + 0) ∧ ((1 * ((1 * r 19 + 0) + 1) + 0) + 0) ≤ ((1 * r 2 + 0) + 0) ∧ (g 2) = yq_ap (((1 * ((1 * r 5 + 0) + 0) + 0) + 0) + ((1 * ((1 * r 19 + 0) + 1) + 0) + 0)) ((1 * ((1 * r 5 + 0) + 0) + 0) + 0) (yq_vx (yq_fat ((1 * r 0 + 0) + 0) (g0 8) (g0 10) (g0 12) (g0 14)) (yq_at ((1 * r 0 + 0) + 0) ((1 * ((1 * r 9 + 0) + 0) + 0) + 0) ((1 * ((1 * r 12 + 0) + 0) + 0) + 0) ((1 * ((1 * r 15 + 0) + 0) + 0) + 0) ((1 * ((1 * r 18 + 0) + 0) + 0) + 0)) ((1 * r 1 + 0) + 0) ((1 * ((1 * r 5 + 0) + 0) + 0) + 0) 0) (g0 2) ∧ (g 3) = yq_ap (((1 * ((1 * r 5 + 0) + 0) + 0) + 0) + ((1 * ((1 * r 19 + 0) + 1) + 0) + 0)) ((1 * ((1 * r 5 + 0) + 0) + 0) + 0) (yq_vx (yq_fat ((1 * r 0 + 0) + 0) (g0 8) (g0 10) (g0 12) (g0 14)) (yq_at ((1 * r 0 + 0) + 0) ((1 * ((1 * r 9 + 0) + 0) + 0) + 0) ((1 * ((1 * r 12 + 0) + 0) + 0) + 0) ((1 * ((1 * r 15 + 0) + 0) + 0) + 0) ((1 * ((1 * r 18 + 0) + 0) + 0) + 0)) ((1 * r 1 + 0) + 0) ((1 * ((1 * r 5 + 0) + 0) + 0) + 0) 1) (g0 3) ∧ (g 4) = yq_ap (((1 * ((1 * r 5 + 0) + 0) + 0) + 0) + ((1 * ((1 * r 19 + 0) + 1) + 0) + 0)) ((1 * ((1 * r 5 + 0) + 0) + 0) + 0) (yq_ct ((1 * r 3 + 0) + 0)) (g0 4) ∧ (g 5) = yq_ap (((1 * ((1 * r 5 + 0) + 0) + 0) + 0) + ((1 * ((1 * r 19 + 0) + 1) + 0) + 0)) ((1 * ((1 * r 5 + 0) + 0) + 0) + 0) (yq_ct 1) (g0 5)) ∧ ((1 * ((1 * r 23 + 0) + 0) + 0) + 0) = ye_wr ((1 * ((1 * r 6 + 0) + 0) + 0) + 0) ((1 * ((1 * r 19 + 0) + 1) + 0) + 0)
    try simp only [Int.one_mul, Int.zero_add, Int.add_zero]
    try simp only [Int.one_mul, Int.zero_add, Int.add_zero] at hG
    obtain ⟨hG, hN⟩ := hG
    refine ⟨?_, ?_⟩
    · try simp only [Int.one_mul, Int.zero_add, Int.add_zero] at hG
      obtain ⟨a1, a2, a3, a4, a5, c0, c1, c2, c3, cx, cy⟩ := hG
      exfalso
      omega
    · try simp only [Int.one_mul, Int.zero_add, Int.add_zero] at hN
      obtain ⟨a1, a2, a3, a4, a5, c0, c1, c2, c3, cx, cy⟩ := hG
      exfalso
      omega
theorem xn_155 : ∀ (j : Nat) (q : Nat × yt_T), xq_155.2.2.1[j]? = some q → q.2.2.2 = false → ∀ g0 r g, xG_155 j g0 r g
  | 0, q, hq, hf => by cases hq; cases hf
  | 1, q, hq, hf => by cases hq; cases hf
  | 2, q, hq, hf => by cases hq; cases hf
  | n + 3, q, hq, _ => by cases hq
theorem xs_155 : ∀ j, xq_155.2.2.2.getD j false = false → ∀ r g g', xP_155 j r g g'
  | 0, hf => by cases hf
  | n + 1, _ => fun _ _ _ => trivial
set_option maxRecDepth 20000 in
set_option maxHeartbeats 4000000 in
theorem xc_155 {l : Launch} {D : va_G} {cT : Nat → ClassId} {tys : List (ClassId × FieldType)} (hty : yx_Ty tys cT) : yt_Con l D vwCl cT tys yG yw_s81 xk_155 xR_155 xP_155 := yx_sem (calls := xa_155) (Z := xq_155) (tb := xT_155) (pt := xU_155) (Ga := xG_155) (vs := xv_155) (fun _ _ _ _ => trivial) 300 (by decide +kernel) yz_X11_take_ok hty (yl_lkX11 _) (yl_cqkX11 _) (List.forall_mem_cons.mpr ⟨⟨xc_35 hty, yg_CLs yl_wX11_141 yd_yX11_isSheet, fun _ _ _ => trivial⟩, List.forall_mem_cons.mpr ⟨⟨xc_61 hty, yg_CLs yl_wX11_103 yd_yX6_isColour, fun _ _ _ => trivial⟩, List.forall_mem_cons.mpr ⟨⟨xc_3 hty, yg_CLv rfl rfl rfl yl_wX11_107 yd_yX11_told, fun _ _ _ => trivial⟩, List.forall_mem_cons.mpr ⟨⟨xc_152 hty, yg_CLv rfl rfl rfl yl_wX11_174 yd_yX8_hasEveryX, fun _ _ _ => trivial⟩, List.forall_mem_cons.mpr ⟨⟨xc_154 hty, yg_CLv rfl rfl rfl yl_wX11_177 yd_yX8_hasNearPlaces, fun _ _ _ => trivial⟩, List.forall_mem_cons.mpr ⟨⟨xc_152 hty, yg_CLv rfl rfl rfl yl_wX11_174 yd_yX8_hasEveryX, fun _ _ _ => trivial⟩, List.forall_mem_cons.mpr ⟨⟨xc_154 hty, yg_CLv rfl rfl rfl yl_wX11_177 yd_yX8_hasNearPlaces, fun _ _ _ => trivial⟩, List.forall_mem_cons.mpr ⟨⟨xc_152 hty, yg_CLv rfl rfl rfl yl_wX11_174 yd_yX8_hasEveryX, fun _ _ _ => trivial⟩, List.forall_mem_cons.mpr ⟨⟨xc_154 hty, yg_CLv rfl rfl rfl yl_wX11_177 yd_yX8_hasNearPlaces, fun _ _ _ => trivial⟩, List.forall_mem_cons.mpr ⟨⟨xc_152 hty, yg_CLv rfl rfl rfl yl_wX11_174 yd_yX8_hasEveryX, fun _ _ _ => trivial⟩, List.forall_mem_cons.mpr ⟨⟨xc_154 hty, yg_CLv rfl rfl rfl yl_wX11_177 yd_yX8_hasNearPlaces, fun _ _ _ => trivial⟩, List.forall_mem_cons.mpr ⟨⟨xc_153 hty, yg_CLv rfl rfl rfl yl_wX11_180 yd_yX8_numberOrZero, fun _ _ _ => trivial⟩, List.forall_mem_cons.mpr ⟨⟨xc_153 hty, yg_CLv rfl rfl rfl yl_wX11_180 yd_yX8_numberOrZero, fun _ _ _ => trivial⟩, List.forall_mem_cons.mpr ⟨⟨xc_153 hty, yg_CLv rfl rfl rfl yl_wX11_180 yd_yX8_numberOrZero, fun _ _ _ => trivial⟩, List.forall_mem_cons.mpr ⟨⟨xc_153 hty, yg_CLv rfl rfl rfl yl_wX11_180 yd_yX8_numberOrZero, fun _ _ _ => trivial⟩, List.forall_mem_cons.mpr ⟨⟨xc_126 hty, yg_CLv rfl rfl rfl yl_wX11_114 yd_yX6_add, fun _ _ _ => trivial⟩, fun _ h => absurd h List.not_mem_nil⟩⟩⟩⟩⟩⟩⟩⟩⟩⟩⟩⟩⟩⟩⟩⟩) (xn_155) (xs_155) (by decide +kernel) (List.forall_mem_cons.mpr ⟨xw_155_0_0, List.forall_mem_cons.mpr ⟨xw_155_0_1, List.forall_mem_cons.mpr ⟨xw_155_0_2, List.forall_mem_cons.mpr ⟨xw_155_0_3, List.forall_mem_cons.mpr ⟨xw_155_0_4, List.forall_mem_cons.mpr ⟨xw_155_0_5, List.forall_mem_cons.mpr ⟨xw_155_0_6, List.forall_mem_cons.mpr ⟨xw_155_0_7, List.forall_mem_cons.mpr ⟨xw_155_0_8, List.forall_mem_cons.mpr ⟨xw_155_0_9, List.forall_mem_cons.mpr ⟨xw_155_0_10, List.forall_mem_cons.mpr ⟨xw_155_0_11, List.forall_mem_cons.mpr ⟨xw_155_0_12, List.forall_mem_cons.mpr ⟨xw_155_0_13, List.forall_mem_cons.mpr ⟨xw_155_0_14, List.forall_mem_cons.mpr ⟨xw_155_0_15, List.forall_mem_cons.mpr ⟨xw_155_0_16, List.forall_mem_cons.mpr ⟨xw_155_0_17, List.forall_mem_cons.mpr ⟨xw_155_0_18, List.forall_mem_cons.mpr ⟨xw_155_0_19, List.forall_mem_cons.mpr ⟨xw_155_0_20, List.forall_mem_cons.mpr ⟨xw_155_0_21, List.forall_mem_cons.mpr ⟨xw_155_0_22, List.forall_mem_cons.mpr ⟨xw_155_0_23, List.forall_mem_cons.mpr ⟨xw_155_0_24, List.forall_mem_cons.mpr ⟨xw_155_0_25, List.forall_mem_cons.mpr ⟨xw_155_0_26, List.forall_mem_cons.mpr ⟨xw_155_0_27, List.forall_mem_cons.mpr ⟨xw_155_0_28, List.forall_mem_cons.mpr ⟨xw_155_0_29, List.forall_mem_cons.mpr ⟨xw_155_0_30, List.forall_mem_cons.mpr ⟨xw_155_0_31, List.forall_mem_cons.mpr ⟨xw_155_0_32, List.forall_mem_cons.mpr ⟨xw_155_0_33, List.forall_mem_cons.mpr ⟨xw_155_0_34, List.forall_mem_cons.mpr ⟨xw_155_0_35, List.forall_mem_cons.mpr ⟨xw_155_0_36, List.forall_mem_cons.mpr ⟨xw_155_0_37, List.forall_mem_cons.mpr ⟨xw_155_0_38, List.forall_mem_cons.mpr ⟨xw_155_0_39, List.forall_mem_cons.mpr ⟨xw_155_0_40, List.forall_mem_cons.mpr ⟨xw_155_0_41, List.forall_mem_cons.mpr ⟨xw_155_0_42, List.forall_mem_cons.mpr ⟨xw_155_0_43, List.forall_mem_cons.mpr ⟨xw_155_0_44, List.forall_mem_cons.mpr ⟨xw_155_0_45, List.forall_mem_cons.mpr ⟨xw_155_0_46, List.forall_mem_cons.mpr ⟨xw_155_0_47, List.forall_mem_cons.mpr ⟨xw_155_0_48, List.forall_mem_cons.mpr ⟨xw_155_0_49, List.forall_mem_cons.mpr ⟨xw_155_0_50, List.forall_mem_cons.mpr ⟨xw_155_0_51, List.forall_mem_cons.mpr ⟨xw_155_0_52, List.forall_mem_cons.mpr ⟨xw_155_0_53, List.forall_mem_cons.mpr ⟨xw_155_0_54, List.forall_mem_cons.mpr ⟨xw_155_0_55, fun _ h => absurd h List.not_mem_nil⟩⟩⟩⟩⟩⟩⟩⟩⟩⟩⟩⟩⟩⟩⟩⟩⟩⟩⟩⟩⟩⟩⟩⟩⟩⟩⟩⟩⟩⟩⟩⟩⟩⟩⟩⟩⟩⟩⟩⟩⟩⟩⟩⟩⟩⟩⟩⟩⟩⟩⟩⟩⟩⟩⟩⟩) (⟨List.forall_mem_cons.mpr ⟨xw_155_1_0, List.forall_mem_cons.mpr ⟨xw_155_1_1, List.forall_mem_cons.mpr ⟨xw_155_1_2, List.forall_mem_cons.mpr ⟨xw_155_1_3, List.forall_mem_cons.mpr ⟨xw_155_1_4, fun _ h => absurd h List.not_mem_nil⟩⟩⟩⟩⟩, ⟨List.forall_mem_cons.mpr ⟨xw_155_2_0, List.forall_mem_cons.mpr ⟨xw_155_2_1, List.forall_mem_cons.mpr ⟨xw_155_2_2, List.forall_mem_cons.mpr ⟨xw_155_2_3, fun _ h => absurd h List.not_mem_nil⟩⟩⟩⟩, ⟨List.forall_mem_cons.mpr ⟨xw_155_3_0, List.forall_mem_cons.mpr ⟨xw_155_3_1, fun _ h => absurd h List.not_mem_nil⟩⟩, trivial⟩⟩⟩)
noncomputable def yw_s82 : List ys_C := [.inr (1, 40, [])]
noncomputable def yw_f82 (n : Nat) : List (List ys_V) := [[]]
noncomputable def yw_e82 : ys_E := []
noncomputable def yw_r82 : List ys_R := [(((-9223372036854775808), 9223372036854775807), [])]
noncomputable def xf_156 : ys_F := (yw_f82 1, yw_r82)
noncomputable def xk_156 : ys_K := (((yJ7_fill_d0a16, cJ7_fill_d0a16, 5, none), (0, 0)), ([.inr (some 0), .inl (.inr ([(0, 1)], 0))], ([((-9223372036854775808), 9223372036854775807)] ++ yw_e82, []), xf_156), ([([], [], (xf_156.1, xf_156.2), none)], [0]))
noncomputable def xq_156 : yt_Q := (yz_J7_fill_d0a16, (yl_flJ7, yl_ciJ7, yl_cjJ7, yl_cpJ7, yl_cqJ7), [(6, ([(0, 40)], [], (xf_156.1, xf_156.2), [(0, .inr (some 0)), (1, .inl (.inr ([(0, 1)], 0))), (3, .inl (.inl ([(1, 1)], 0))), (4, .inl (.inl ([], 40)))], [], ([(1, (-1))], 40)), [], false)], [])
noncomputable def xa_156 : List yt_CE := []
theorem xc_156 {l : Launch} {D : va_G} {cT : Nat → ClassId} {tys : List (ClassId × FieldType)} (hty : yx_Ty tys cT) : yx_C l D cT tys yw_s82 xk_156 := yx_method (calls := xa_156) (Z := xq_156) 300 (by decide +kernel) yz_J7_fill_d0a16_ok hty (yl_lkJ7 _) (yl_cqkJ7 _) (fun _ h => absurd h List.not_mem_nil) (by decide +kernel)
noncomputable def xf_157 : ys_F := (yw_f82 0, yw_r82)
noncomputable def xk_157 : ys_K := (((yX9_setToOne, cX9_setToOne, 1, none), (1, 24)), ([.inr (some 0)], ([] ++ yw_e82, []), xf_157), ([([], [], (xf_157.1, xf_157.2), none)], [0]))
noncomputable def xq_157 : yt_Q := (yz_X9_setToOne, (yl_flX9, yl_ciX9, yl_cjX9, yl_cpX9, yl_cqX9), [], [])
noncomputable def xa_157 : List yt_CE := [(((144, true), (0, false, [0])), (yw_s82, xk_156))]
theorem xc_157 {l : Launch} {D : va_G} {cT : Nat → ClassId} {tys : List (ClassId × FieldType)} (hty : yx_Ty tys cT) : yx_C l D cT tys yw_s82 xk_157 := yx_method (calls := xa_157) (Z := xq_157) 300 (by decide +kernel) yz_X9_setToOne_ok hty (yl_lkX9 _) (yl_cqkX9 _) (List.forall_mem_cons.mpr ⟨⟨xc_156 hty, yg_CLs yl_wX9_144 yd_yJ7_fill_d0a16⟩, fun _ h => absurd h List.not_mem_nil⟩) (by decide +kernel)
noncomputable def xf_158 : ys_F := (yw_f82 1, yw_r82)
noncomputable def xk_158 : ys_K := (((yX9_multiply, cX9_multiply, 8, none), (0, 0)), ([.inr (some 0), .inl (.inr ([(0, 1)], 0))], ([((-9223372036854775808), 9223372036854775807)] ++ yw_e82, []), xf_158), ([([], [], (xf_158.1, xf_158.2), none)], [0]))
noncomputable def xq_158 : yt_Q := (yz_X9_multiply, (yl_flX9, yl_ciX9, yl_cjX9, yl_cpX9, yl_cqX9), [(5, ([((-9223372036854775808), 9223372036854775807), (0, 40)], [], (xf_158.1, xf_158.2), [(0, .inr (some 0)), (1, .inl (.inr ([(0, 1)], 0))), (3, .inl (.inr ([(1, 1)], 0))), (5, .inl (.inl ([(2, 1)], 0)))], [], ([(2, (-1))], 40)), [], false)], [])
noncomputable def xa_158 : List yt_CE := []
theorem xc_158 {l : Launch} {D : va_G} {cT : Nat → ClassId} {tys : List (ClassId × FieldType)} (hty : yx_Ty tys cT) : yx_C l D cT tys yw_s82 xk_158 := yx_method (calls := xa_158) (Z := xq_158) 300 (by decide +kernel) yz_X9_multiply_ok hty (yl_lkX9 _) (yl_cqkX9 _) (fun _ h => absurd h List.not_mem_nil) (by decide +kernel)
noncomputable def yw_s83 : List ys_C := [.inl 9, .inr (0, 12, []), .inr (0, 12, []), .inr (0, 12, []), .inr (1, 12, []), .inr (1, 12, []), .inr (1, 40, []), .inr (1, 40, [])]
noncomputable def yw_f83 (n : Nat) : List (List ys_V) := [[.inr (some 1), .inr (some 2), .inr (some 3), .inr (some 4), .inr (some 5), .inr (some 8), .inl (.inl ([(n + 0, 1)], 0)), .inl (.inl ([(n + 1, 1)], 0)), .inl (.inl ([(n + 2, 1)], 0)), .inr (some 9), .inr (some 6), .inr (some 7), .inl (.inl ([(n + 3, 1)], 0)), .inl (.inl ([(n + 4, 1)], 0)), .inl (.inl ([(n + 5, 1)], 0)), .inl (.inr ([(n + 6, 1)], 0)), .inl (.inr ([(n + 7, 1)], 0))], [], [], [], [], [], [], []]
noncomputable def yw_e83 : ys_E := [(0, 40), (0, 12), ((-2147483648), 2147483647), ((-2147483648), 2147483647), ((-2147483648), 2147483647), ((-2147483648), 2147483647), ((-9223372036854775808), 9223372036854775807), ((-9223372036854775808), 9223372036854775807)]
noncomputable def yw_r83 : List ys_R := [((0, 0), []), (((-2147483648), 2147483647), []), (((-2147483648), 2147483647), []), (((-2147483648), 2147483647), []), (((-9223372036854775808), 9223372036854775807), []), (((-9223372036854775808), 9223372036854775807), []), (((-9223372036854775808), 9223372036854775807), []), (((-9223372036854775808), 9223372036854775807), [])]
noncomputable def xf_159 : ys_F := (yw_f83 2, yw_r83)
noncomputable def xk_159 : ys_K := (((yX9_poll, cX9_poll, 5, (some .int)), (2, 44)), ([.inr (some 0), .inl (.inl ([(0, 1)], 0)), .inl (.inl ([(1, 1)], 0))], ([((-2147483648), 2147483647), ((-2147483648), 2147483647)] ++ yw_e83, []), xf_159), ([([(0, 2)], [], (xf_159.1, xf_159.2), some (.inl (.inl ([(10, 1)], 0))))], [6, 7]))
noncomputable def xq_159 : yt_Q := (yz_X9_poll, (yl_flX9, yl_ciX9, yl_cjX9, yl_cpX9, yl_cqX9), [(163, ([((-1), 39)], [], (xf_159.1, xf_159.2), [(0, .inr (some 0)), (3, .inl (.inl ([(10, 1)], 0)))], [], ([(10, 1)], 1)), [], false), (64, ([(0, 12)], [], (xf_159.1, xf_159.2), [(0, .inr (some 0)), (1, .inl (.inl ([(0, 1)], 0))), (2, .inl (.inl ([(1, 1)], 0))), (3, .inl (.inl ([(10, 1)], 0)))], [], ([(10, (-1))], 54)), [], false)], [])
noncomputable def xa_159 : List yt_CE := [(((98, true), (0, false, [])), (yw_s2, xk_140)), (((136, true), (0, false, [6])), (yw_s82, xk_157)), (((136, true), (0, false, [7])), (yw_s82, xk_157)), (((140, true), (0, false, [6])), (yw_s82, xk_158)), (((140, true), (0, false, [7])), (yw_s82, xk_158))]
theorem xc_159 {l : Launch} {D : va_G} {cT : Nat → ClassId} {tys : List (ClassId × FieldType)} (hty : yx_Ty tys cT) : yx_C l D cT tys yw_s83 xk_159 := yx_method (calls := xa_159) (Z := xq_159) 300 (by decide +kernel) yz_X9_poll_ok hty (yl_lkX9 _) (yl_cqkX9 _) (List.forall_mem_cons.mpr ⟨⟨xc_140 hty, yg_CLs yl_wX9_98 yd_yX9_saysYes⟩, List.forall_mem_cons.mpr ⟨⟨xc_157 hty, yg_CLs yl_wX9_136 yd_yX9_setToOne⟩, List.forall_mem_cons.mpr ⟨⟨xc_157 hty, yg_CLs yl_wX9_136 yd_yX9_setToOne⟩, List.forall_mem_cons.mpr ⟨⟨xc_158 hty, yg_CLs yl_wX9_140 yd_yX9_multiply⟩, List.forall_mem_cons.mpr ⟨⟨xc_158 hty, yg_CLs yl_wX9_140 yd_yX9_multiply⟩, fun _ h => absurd h List.not_mem_nil⟩⟩⟩⟩⟩) (by decide +kernel)
noncomputable def yw_s84 : List ys_C := [.inl 11, .inl 9, .inr (0, 12, []), .inr (0, 12, []), .inr (0, 12, []), .inr (1, 12, []), .inr (1, 12, []), .inr (1, 40, []), .inr (1, 40, [])]
noncomputable def yw_f84 (n : Nat) : List (List ys_V) := [[.inr (some 9), .inr (some 10), .inr (some 11), .inr (some 12), .inr (some 13), .inr (some 14), .inr (some 15), .inr (some 16), .inr (some 17), .inr (some 18), .inr (some 19), .inr (some 1), .inr (some 22), .inr (some 23), .inl (.inl ([(n + 0, 1)], 0))], [.inr (some 2), .inr (some 3), .inr (some 4), .inr (some 5), .inr (some 6), .inr (some 20), .inl (.inl ([(n + 1, 1)], 0)), .inl (.inl ([(n + 2, 1)], 0)), .inl (.inl ([(n + 3, 1)], 0)), .inr (some 21), .inr (some 7), .inr (some 8), .inl (.inl ([(n + 4, 1)], 0)), .inl (.inl ([(n + 5, 1)], 0)), .inl (.inl ([(n + 6, 1)], 0)), .inl (.inr ([(n + 7, 1)], 0)), .inl (.inr ([(n + 8, 1)], 0))], [], [], [], [], [], [], []]
noncomputable def yw_e84 : ys_E := [((-2147483648), 2147483647), (0, 40), (0, 12), ((-2147483648), 2147483647), ((-2147483648), 2147483647), ((-2147483648), 2147483647), ((-2147483648), 2147483647), ((-9223372036854775808), 9223372036854775807), ((-9223372036854775808), 9223372036854775807)]
noncomputable def yw_r84 : List ys_R := [((0, 0), []), ((0, 0), []), (((-2147483648), 2147483647), []), (((-2147483648), 2147483647), []), (((-2147483648), 2147483647), []), (((-9223372036854775808), 9223372036854775807), []), (((-9223372036854775808), 9223372036854775807), []), (((-9223372036854775808), 9223372036854775807), []), (((-9223372036854775808), 9223372036854775807), [])]
noncomputable def xf_160 : ys_F := (yw_f84 2, yw_r84)
noncomputable def xk_160 : ys_K := (((yX11_vote, cX11_vote, 3, (some .int)), (3, 68)), ([.inr (some 0), .inl (.inl ([(0, 1)], 0)), .inl (.inl ([(1, 1)], 0))], ([((-2147483648), 2147483647), ((-2147483648), 2147483647)] ++ yw_e84, []), xf_160), ([([(0, 2)], [], (xf_160.1, xf_160.2), some (.inl (.inl ([(11, 1)], 0))))], [7, 8]))
noncomputable def xq_160 : yt_Q := (yz_X11_vote, (yl_flX11, yl_ciX11, yl_cjX11, yl_cpX11, yl_cqX11), [], [])
noncomputable def xa_160 : List yt_CE := [(((347, false), (0, false, [1, 2, 3, 4, 5, 6, 7, 8, 20, 21])), (yw_s83, xk_159))]
theorem xc_160 {l : Launch} {D : va_G} {cT : Nat → ClassId} {tys : List (ClassId × FieldType)} (hty : yx_Ty tys cT) : yx_C l D cT tys yw_s84 xk_160 := yx_method (calls := xa_160) (Z := xq_160) 300 (by decide +kernel) yz_X11_vote_ok hty (yl_lkX11 _) (yl_cqkX11 _) (List.forall_mem_cons.mpr ⟨⟨xc_159 hty, yg_CLv rfl rfl rfl yl_wX11_347 yd_yX9_poll⟩, fun _ h => absurd h List.not_mem_nil⟩) (by decide +kernel)
noncomputable def xf_161 : ys_F := (yw_f2 1, yw_r2)
noncomputable def xk_161 : ys_K := (((yJ13_bitCount_95d88, cJ13_bitCount_95d88, 2, (some .int)), (0, 0)), ([.inl (.inr ([(0, 1)], 0))], ([((-9223372036854775808), 9223372036854775807)] ++ yw_e2, []), xf_161), ([([(0, 127)], [], (xf_161.1, xf_161.2), some (.inl (.inl ([(1, 1)], 0))))], []))
noncomputable def xq_161 : yt_Q := (yz_J13_bitCount_95d88, (yl_flJ13, yl_ciJ13, yl_cjJ13, yl_cpJ13, yl_cqJ13), [], [])
noncomputable def xa_161 : List yt_CE := []
theorem xc_161 {l : Launch} {D : va_G} {cT : Nat → ClassId} {tys : List (ClassId × FieldType)} (hty : yx_Ty tys cT) : yx_C l D cT tys yw_s2 xk_161 := yx_method (calls := xa_161) (Z := xq_161) 300 (by decide +kernel) yz_J13_bitCount_95d88_ok hty (yl_lkJ13 _) (yl_cqkJ13 _) (fun _ h => absurd h List.not_mem_nil) (by decide +kernel)
noncomputable def xf_162 : ys_F := (yw_f10 0, yw_r10)
noncomputable def xk_162 : ys_K := (((yX5_tally, cX5_tally, 3, (some .int)), (1, 21)), ([.inr (some 0)], ([] ++ yw_e10, []), xf_162), ([([((-2147483648), 2147483647)], [], (xf_162.1, xf_162.2), some (.inl (.inl ([(3, 1)], 0))))], []))
noncomputable def xq_162 : yt_Q := (yz_X5_tally, (yl_flX5, yl_ciX5, yl_cjX5, yl_cpX5, yl_cqX5), [(4, ([((-2147483648), 2147483647), (0, 64)], [], (xf_162.1, xf_162.2), [(0, .inr (some 0)), (1, .inl (.inl ([(3, 1)], 0))), (2, .inl (.inl ([(4, 1)], 0)))], [], ([(4, (-1))], 64)), [], false)], [])
noncomputable def xa_162 : List yt_CE := [(((55, true), (0, false, [])), (yw_s2, xk_161))]
theorem xc_162 {l : Launch} {D : va_G} {cT : Nat → ClassId} {tys : List (ClassId × FieldType)} (hty : yx_Ty tys cT) : yx_C l D cT tys yw_s10 xk_162 := yx_method (calls := xa_162) (Z := xq_162) 300 (by decide +kernel) yz_X5_tally_ok hty (yl_lkX5 _) (yl_cqkX5 _) (List.forall_mem_cons.mpr ⟨⟨xc_161 hty, yg_CLs yl_wX5_55 yd_yJ13_bitCount_95d88⟩, fun _ h => absurd h List.not_mem_nil⟩) (by decide +kernel)
noncomputable def xf_163 : ys_F := (yw_f45 1, yw_r45)
noncomputable def xk_163 : ys_K := (((yX11_ways, cX11_ways, 2, (some .int)), (4, 95)), ([.inr (some 0), .inl (.inl ([(0, 1)], 0))], ([((-2147483648), 2147483647)] ++ yw_e45, []), xf_163), ([([((-2147483648), 2147483647), (0, 4095)], [], ((ys_fs xf_163.1 [(4, 3, .inl (.inl ([(8, 1)], 0)))]), xf_163.2), some (.inl (.inl ([(7, 1)], 0))))], [5]))
noncomputable def xq_163 : yt_Q := (yz_X11_ways, (yl_flX11, yl_ciX11, yl_cjX11, yl_cpX11, yl_cqX11), [], [])
noncomputable def xa_163 : List yt_CE := [(((254, false), (0, false, [0, 1, 2, 3, 6, 7, 8, 9, 10, 11, 12, 13, 14, 15, 16, 4, 17, 18, 19])), (yw_s8, xk_8)), (((257, false), (0, false, [4, 5, 1, 2, 3, 6, 7])), (yw_s12, xk_16)), (((260, false), (0, false, [4, 5])), (yw_s10, xk_162))]
theorem xc_163 {l : Launch} {D : va_G} {cT : Nat → ClassId} {tys : List (ClassId × FieldType)} (hty : yx_Ty tys cT) : yx_C l D cT tys yw_s45 xk_163 := yx_method (calls := xa_163) (Z := xq_163) 300 (by decide +kernel) yz_X11_ways_ok hty (yl_lkX11 _) (yl_cqkX11 _) (List.forall_mem_cons.mpr ⟨⟨xc_8 hty, yg_CLv rfl rfl rfl yl_wX11_254 yd_yX11_canPartFirst⟩, List.forall_mem_cons.mpr ⟨⟨xc_16 hty, yg_CLv rfl rfl rfl yl_wX11_257 yd_yX5_find⟩, List.forall_mem_cons.mpr ⟨⟨xc_162 hty, yg_CLv rfl rfl rfl yl_wX11_260 yd_yX5_tally⟩, fun _ h => absurd h List.not_mem_nil⟩⟩⟩) (by decide +kernel)
noncomputable def xf_164 : ys_F := (yw_f56 1, yw_r56)
noncomputable def xk_164 : ys_K := (((yX11_wide, cX11_wide, 2, (some .long)), (5, 124)), ([.inr (some 0), .inl (.inl ([(0, 1)], 0))], ([((-2147483648), 2147483647)] ++ yw_e56, []), xf_164), ([([((-9223372036854775808), 9223372036854775807), (0, 1), ((-9223372036854775808), 9223372036854775807), ((-9223372036854775808), 9223372036854775807), ((-9223372036854775808), 9223372036854775807), (0, 40), ((-2147483648), 2147483647), ((-600), 600), ((-600), 600), ((-1000000), 1000000), ((-1000000), 1000000), ((-9223372036854775808), 9223372036854775807), ((-9223372036854775808), 9223372036854775807)], [], ((ys_fs xf_164.1 [(5, 1, .inl (.inl ([(17, 1)], 0))), (5, 2, .inl (.inr ([(18, 1)], 0))), (5, 3, .inl (.inr ([(19, 1)], 0))), (5, 4, .inl (.inr ([(20, 1)], 0))), (5, 5, .inl (.inl ([(21, 1)], 0))), (5, 6, .inl (.inl ([(22, 1)], 0))), (5, 7, .inl (.inl ([(23, 1)], 0))), (5, 8, .inl (.inl ([(24, 1)], 0))), (5, 9, .inl (.inl ([(25, 1)], 0))), (5, 10, .inl (.inl ([(26, 1)], 0))), (6, 0, .inl (.inr ([(27, 1)], 0))), (6, 1, .inl (.inr ([(28, 1)], 0)))]), xf_164.2), some (.inl (.inr ([(16, 1)], 0))))], []))
noncomputable def xq_164 : yt_Q := (yz_X11_wide, (yl_flX11, yl_ciX11, yl_cjX11, yl_cpX11, yl_cqX11), [], [true])
noncomputable def xa_164 : List yt_CE := [(((190, false), (305, false, [5, 6, 1, 2, 3, 4, 7])), (yw_s55, xk_90))]
noncomputable def xv_164 : List (List yt_VC) := [[(1000, ([((-2147483648), (-1)), ((-2147483648), 2147483647), (0, 40), ((-2147483648), 2147483647), (0, 1), ((-9223372036854775808), 9223372036854775807), ((-9223372036854775808), 9223372036854775807), ((-9223372036854775808), 9223372036854775807), (0, 40), ((-2147483648), 2147483647), ((-600), 600), ((-600), 600), ((-1000000), 1000000), ((-1000000), 1000000), ((-9223372036854775808), 9223372036854775807), ((-9223372036854775808), 9223372036854775807)], []), [([], (-1)), ([(4, 1)], 0), ([(5, 1)], 0), ([(6, 1)], 0), ([(7, 1)], 0), ([(8, 1)], 0), ([(9, 1)], 0), ([(10, 1)], 0), ([(11, 1)], 0), ([(12, 1)], 0), ([(13, 1)], 0), ([(14, 1)], 0), ([(15, 1)], 0)], [], []),
   (1000, ([(5, 5), ((-2147483648), 2147483647), (0, 40), ((-2147483648), 2147483647), (0, 1), ((-9223372036854775808), 9223372036854775807), ((-9223372036854775808), 9223372036854775807), ((-9223372036854775808), 9223372036854775807), (0, 40), ((-2147483648), 2147483647), ((-600), 600), ((-600), 600), ((-1000000), 1000000), ((-1000000), 1000000), ((-9223372036854775808), 9223372036854775807), ((-9223372036854775808), 9223372036854775807), (1, 1), ((-9223372036854775808), 9223372036854775807), ((-9223372036854775808), 9223372036854775807), ((-9223372036854775808), 9223372036854775807), (0, 40), ((-2147483648), 2147483647), ((-600), 600), ((-600), 600), ((-1000000), 1000000), ((-1000000), 1000000), ((-9223372036854775808), 9223372036854775807), ((-9223372036854775808), 9223372036854775807)], []), [([(20, 1)], 0), ([(16, 1)], 0), ([(17, 1)], 0), ([(18, 1)], 0), ([(19, 1)], 0), ([(20, 1)], 0), ([(21, 1)], 0), ([(22, 1)], 0), ([(23, 1)], 0), ([(24, 1)], 0), ([(25, 1)], 0), ([(26, 1)], 0), ([(27, 1)], 0)], [], [.inr (.inr (.inl (305, 0, [([(4, 1)], 0), ([(5, 1)], 0), ([(6, 1)], 0), ([(7, 1)], 0), ([(8, 1)], 0), ([(9, 1)], 0), ([(10, 1)], 0), ([(11, 1)], 0), ([(12, 1)], 0), ([(13, 1)], 0), ([(14, 1)], 0), ([(15, 1)], 0), ([(2, 1)], 0), ([(3, 1)], 0), ([(16, 1)], 0), ([(17, 1)], 0), ([(18, 1)], 0), ([(19, 1)], 0), ([(20, 1)], 0), ([(21, 1)], 0), ([(22, 1)], 0), ([(23, 1)], 0), ([(24, 1)], 0), ([(25, 1)], 0), ([(26, 1)], 0), ([(27, 1)], 0)], [5, 6, 1, 2, 3, 4, 7], [])))]),
   (1000, ([(0, 0), ((-2147483648), 2147483647), (0, 40), ((-2147483648), 2147483647), (0, 1), ((-9223372036854775808), 9223372036854775807), ((-9223372036854775808), 9223372036854775807), ((-9223372036854775808), 9223372036854775807), (0, 40), ((-2147483648), 2147483647), ((-600), 600), ((-600), 600), ((-1000000), 1000000), ((-1000000), 1000000), ((-9223372036854775808), 9223372036854775807), ((-9223372036854775808), 9223372036854775807), (1, 1), ((-9223372036854775808), 9223372036854775807), ((-9223372036854775808), 9223372036854775807), ((-9223372036854775808), 9223372036854775807), (0, 40), ((-2147483648), 2147483647), ((-600), 600), ((-600), 600), ((-1000000), 1000000), ((-1000000), 1000000), ((-9223372036854775808), 9223372036854775807), ((-9223372036854775808), 9223372036854775807)], []), [([(26, 1)], 0), ([(16, 1)], 0), ([(17, 1)], 0), ([(18, 1)], 0), ([(19, 1)], 0), ([(20, 1)], 0), ([(21, 1)], 0), ([(22, 1)], 0), ([(23, 1)], 0), ([(24, 1)], 0), ([(25, 1)], 0), ([(26, 1)], 0), ([(27, 1)], 0)], [], [.inr (.inr (.inl (305, 0, [([(4, 1)], 0), ([(5, 1)], 0), ([(6, 1)], 0), ([(7, 1)], 0), ([(8, 1)], 0), ([(9, 1)], 0), ([(10, 1)], 0), ([(11, 1)], 0), ([(12, 1)], 0), ([(13, 1)], 0), ([(14, 1)], 0), ([(15, 1)], 0), ([(2, 1)], 0), ([(3, 1)], 0), ([(16, 1)], 0), ([(17, 1)], 0), ([(18, 1)], 0), ([(19, 1)], 0), ([(20, 1)], 0), ([(21, 1)], 0), ([(22, 1)], 0), ([(23, 1)], 0), ([(24, 1)], 0), ([(25, 1)], 0), ([(26, 1)], 0), ([(27, 1)], 0)], [5, 6, 1, 2, 3, 4, 7], [])))]),
   (1000, ([(1, 1), ((-2147483648), 2147483647), (0, 40), ((-2147483648), 2147483647), (0, 1), ((-9223372036854775808), 9223372036854775807), ((-9223372036854775808), 9223372036854775807), ((-9223372036854775808), 9223372036854775807), (0, 40), ((-2147483648), 2147483647), ((-600), 600), ((-600), 600), ((-1000000), 1000000), ((-1000000), 1000000), ((-9223372036854775808), 9223372036854775807), ((-9223372036854775808), 9223372036854775807), (1, 1), ((-9223372036854775808), 9223372036854775807), ((-9223372036854775808), 9223372036854775807), ((-9223372036854775808), 9223372036854775807), (0, 40), ((-2147483648), 2147483647), ((-600), 600), ((-600), 600), ((-1000000), 1000000), ((-1000000), 1000000), ((-9223372036854775808), 9223372036854775807), ((-9223372036854775808), 9223372036854775807)], []), [([(27, 1)], 0), ([(16, 1)], 0), ([(17, 1)], 0), ([(18, 1)], 0), ([(19, 1)], 0), ([(20, 1)], 0), ([(21, 1)], 0), ([(22, 1)], 0), ([(23, 1)], 0), ([(24, 1)], 0), ([(25, 1)], 0), ([(26, 1)], 0), ([(27, 1)], 0)], [], [.inr (.inr (.inl (305, 0, [([(4, 1)], 0), ([(5, 1)], 0), ([(6, 1)], 0), ([(7, 1)], 0), ([(8, 1)], 0), ([(9, 1)], 0), ([(10, 1)], 0), ([(11, 1)], 0), ([(12, 1)], 0), ([(13, 1)], 0), ([(14, 1)], 0), ([(15, 1)], 0), ([(2, 1)], 0), ([(3, 1)], 0), ([(16, 1)], 0), ([(17, 1)], 0), ([(18, 1)], 0), ([(19, 1)], 0), ([(20, 1)], 0), ([(21, 1)], 0), ([(22, 1)], 0), ([(23, 1)], 0), ([(24, 1)], 0), ([(25, 1)], 0), ([(26, 1)], 0), ([(27, 1)], 0)], [5, 6, 1, 2, 3, 4, 7], [])))]),
   (1000, ([(2, 2), ((-2147483648), 2147483647), (0, 40), ((-2147483648), 2147483647), (0, 1), ((-9223372036854775808), 9223372036854775807), ((-9223372036854775808), 9223372036854775807), ((-9223372036854775808), 9223372036854775807), (0, 40), ((-2147483648), 2147483647), ((-600), 600), ((-600), 600), ((-1000000), 1000000), ((-1000000), 1000000), ((-9223372036854775808), 9223372036854775807), ((-9223372036854775808), 9223372036854775807), (1, 1), ((-9223372036854775808), 9223372036854775807), ((-9223372036854775808), 9223372036854775807), ((-9223372036854775808), 9223372036854775807), (0, 40), ((-2147483648), 2147483647), ((-600), 600), ((-600), 600), ((-1000000), 1000000), ((-1000000), 1000000), ((-9223372036854775808), 9223372036854775807), ((-9223372036854775808), 9223372036854775807)], []), [([(17, 1)], 0), ([(16, 1)], 0), ([(17, 1)], 0), ([(18, 1)], 0), ([(19, 1)], 0), ([(20, 1)], 0), ([(21, 1)], 0), ([(22, 1)], 0), ([(23, 1)], 0), ([(24, 1)], 0), ([(25, 1)], 0), ([(26, 1)], 0), ([(27, 1)], 0)], [], [.inr (.inr (.inl (305, 0, [([(4, 1)], 0), ([(5, 1)], 0), ([(6, 1)], 0), ([(7, 1)], 0), ([(8, 1)], 0), ([(9, 1)], 0), ([(10, 1)], 0), ([(11, 1)], 0), ([(12, 1)], 0), ([(13, 1)], 0), ([(14, 1)], 0), ([(15, 1)], 0), ([(2, 1)], 0), ([(3, 1)], 0), ([(16, 1)], 0), ([(17, 1)], 0), ([(18, 1)], 0), ([(19, 1)], 0), ([(20, 1)], 0), ([(21, 1)], 0), ([(22, 1)], 0), ([(23, 1)], 0), ([(24, 1)], 0), ([(25, 1)], 0), ([(26, 1)], 0), ([(27, 1)], 0)], [5, 6, 1, 2, 3, 4, 7], [])))]),
   (1000, ([(3, 3), ((-2147483648), 2147483647), (0, 40), ((-2147483648), 2147483647), (0, 1), ((-9223372036854775808), 9223372036854775807), ((-9223372036854775808), 9223372036854775807), ((-9223372036854775808), 9223372036854775807), (0, 40), ((-2147483648), 2147483647), ((-600), 600), ((-600), 600), ((-1000000), 1000000), ((-1000000), 1000000), ((-9223372036854775808), 9223372036854775807), ((-9223372036854775808), 9223372036854775807), (1, 1), ((-9223372036854775808), 9223372036854775807), ((-9223372036854775808), 9223372036854775807), ((-9223372036854775808), 9223372036854775807), (0, 40), ((-2147483648), 2147483647), ((-600), 600), ((-600), 600), ((-1000000), 1000000), ((-1000000), 1000000), ((-9223372036854775808), 9223372036854775807), ((-9223372036854775808), 9223372036854775807)], []), [([(18, 1)], 0), ([(16, 1)], 0), ([(17, 1)], 0), ([(18, 1)], 0), ([(19, 1)], 0), ([(20, 1)], 0), ([(21, 1)], 0), ([(22, 1)], 0), ([(23, 1)], 0), ([(24, 1)], 0), ([(25, 1)], 0), ([(26, 1)], 0), ([(27, 1)], 0)], [], [.inr (.inr (.inl (305, 0, [([(4, 1)], 0), ([(5, 1)], 0), ([(6, 1)], 0), ([(7, 1)], 0), ([(8, 1)], 0), ([(9, 1)], 0), ([(10, 1)], 0), ([(11, 1)], 0), ([(12, 1)], 0), ([(13, 1)], 0), ([(14, 1)], 0), ([(15, 1)], 0), ([(2, 1)], 0), ([(3, 1)], 0), ([(16, 1)], 0), ([(17, 1)], 0), ([(18, 1)], 0), ([(19, 1)], 0), ([(20, 1)], 0), ([(21, 1)], 0), ([(22, 1)], 0), ([(23, 1)], 0), ([(24, 1)], 0), ([(25, 1)], 0), ([(26, 1)], 0), ([(27, 1)], 0)], [5, 6, 1, 2, 3, 4, 7], [])))]),
   (1000, ([(4, 4), ((-2147483648), 2147483647), (0, 40), ((-2147483648), 2147483647), (0, 1), ((-9223372036854775808), 9223372036854775807), ((-9223372036854775808), 9223372036854775807), ((-9223372036854775808), 9223372036854775807), (0, 40), ((-2147483648), 2147483647), ((-600), 600), ((-600), 600), ((-1000000), 1000000), ((-1000000), 1000000), ((-9223372036854775808), 9223372036854775807), ((-9223372036854775808), 9223372036854775807), (1, 1), ((-9223372036854775808), 9223372036854775807), ((-9223372036854775808), 9223372036854775807), ((-9223372036854775808), 9223372036854775807), (0, 40), ((-2147483648), 2147483647), ((-600), 600), ((-600), 600), ((-1000000), 1000000), ((-1000000), 1000000), ((-9223372036854775808), 9223372036854775807), ((-9223372036854775808), 9223372036854775807)], []), [([(19, 1)], 0), ([(16, 1)], 0), ([(17, 1)], 0), ([(18, 1)], 0), ([(19, 1)], 0), ([(20, 1)], 0), ([(21, 1)], 0), ([(22, 1)], 0), ([(23, 1)], 0), ([(24, 1)], 0), ([(25, 1)], 0), ([(26, 1)], 0), ([(27, 1)], 0)], [], [.inr (.inr (.inl (305, 0, [([(4, 1)], 0), ([(5, 1)], 0), ([(6, 1)], 0), ([(7, 1)], 0), ([(8, 1)], 0), ([(9, 1)], 0), ([(10, 1)], 0), ([(11, 1)], 0), ([(12, 1)], 0), ([(13, 1)], 0), ([(14, 1)], 0), ([(15, 1)], 0), ([(2, 1)], 0), ([(3, 1)], 0), ([(16, 1)], 0), ([(17, 1)], 0), ([(18, 1)], 0), ([(19, 1)], 0), ([(20, 1)], 0), ([(21, 1)], 0), ([(22, 1)], 0), ([(23, 1)], 0), ([(24, 1)], 0), ([(25, 1)], 0), ([(26, 1)], 0), ([(27, 1)], 0)], [5, 6, 1, 2, 3, 4, 7], [])))]),
   (1000, ([(0, 5), ((-2147483648), 2147483647), (0, 40), ((-2147483648), 2147483647), (0, 1), ((-9223372036854775808), 9223372036854775807), ((-9223372036854775808), 9223372036854775807), ((-9223372036854775808), 9223372036854775807), (0, 40), ((-2147483648), 2147483647), ((-600), 600), ((-600), 600), ((-1000000), 1000000), ((-1000000), 1000000), ((-9223372036854775808), 9223372036854775807), ((-9223372036854775808), 9223372036854775807), (0, 0), ((-9223372036854775808), 9223372036854775807), ((-9223372036854775808), 9223372036854775807), ((-9223372036854775808), 9223372036854775807), (0, 40), ((-2147483648), 2147483647), ((-600), 600), ((-600), 600), ((-1000000), 1000000), ((-1000000), 1000000), ((-9223372036854775808), 9223372036854775807), ((-9223372036854775808), 9223372036854775807)], []), [([], (-6)), ([(16, 1)], 0), ([(17, 1)], 0), ([(18, 1)], 0), ([(19, 1)], 0), ([(20, 1)], 0), ([(21, 1)], 0), ([(22, 1)], 0), ([(23, 1)], 0), ([(24, 1)], 0), ([(25, 1)], 0), ([(26, 1)], 0), ([(27, 1)], 0)], [], [.inr (.inr (.inl (305, 0, [([(4, 1)], 0), ([(5, 1)], 0), ([(6, 1)], 0), ([(7, 1)], 0), ([(8, 1)], 0), ([(9, 1)], 0), ([(10, 1)], 0), ([(11, 1)], 0), ([(12, 1)], 0), ([(13, 1)], 0), ([(14, 1)], 0), ([(15, 1)], 0), ([(2, 1)], 0), ([(3, 1)], 0), ([(16, 1)], 0), ([(17, 1)], 0), ([(18, 1)], 0), ([(19, 1)], 0), ([(20, 1)], 0), ([(21, 1)], 0), ([(22, 1)], 0), ([(23, 1)], 0), ([(24, 1)], 0), ([(25, 1)], 0), ([(26, 1)], 0), ([(27, 1)], 0)], [5, 6, 1, 2, 3, 4, 7], [])))]),
   (1000, ([(6, 2147483647), ((-2147483648), 2147483647), (0, 40), ((-2147483648), 2147483647), (0, 1), ((-9223372036854775808), 9223372036854775807), ((-9223372036854775808), 9223372036854775807), ((-9223372036854775808), 9223372036854775807), (0, 40), ((-2147483648), 2147483647), ((-600), 600), ((-600), 600), ((-1000000), 1000000), ((-1000000), 1000000), ((-9223372036854775808), 9223372036854775807), ((-9223372036854775808), 9223372036854775807)], []), [([], (-1)), ([(4, 1)], 0), ([(5, 1)], 0), ([(6, 1)], 0), ([(7, 1)], 0), ([(8, 1)], 0), ([(9, 1)], 0), ([(10, 1)], 0), ([(11, 1)], 0), ([(12, 1)], 0), ([(13, 1)], 0), ([(14, 1)], 0), ([(15, 1)], 0)], [], [])]]
noncomputable def xG_164 : Nat → yt_G → (Nat → Int) → yt_G → Prop
  | _, _, _, _ => True
noncomputable def xP_164 : yt_Ph
  | 0, r, g0, g => (¬ (0 ≤ (r 0) ∧ (r 0) ≤ 5) ∧ (r 16) = -1 ∧ (((1 * (r 22) + 0) + 0) = ((1 * (r 9) + 0) + 0) ∧ (((1 * (r 17) + 0) + 0), ((1 * (r 23) + 0) + 0), ((1 * (r 24) + 0) + 0), ((1 * (r 25) + 0) + 0), ((1 * (r 26) + 0) + 0)) = (((1 * (r 4) + 0) + 0), ((1 * (r 10) + 0) + 0), ((1 * (r 11) + 0) + 0), ((1 * (r 12) + 0) + 0), ((1 * (r 13) + 0) + 0)) ∧ (((1 * (r 27) + 0) + 0), ((1 * (r 28) + 0) + 0), ((1 * (r 18) + 0) + 0), ((1 * (r 19) + 0) + 0), ((1 * (r 20) + 0) + 0), ((1 * (r 21) + 0) + 0)) = (((1 * (r 14) + 0) + 0), ((1 * (r 15) + 0) + 0), ((1 * (r 5) + 0) + 0), ((1 * (r 6) + 0) + 0), ((1 * (r 7) + 0) + 0), ((1 * (r 8) + 0) + 0)))) ∨ ((0 ≤ (r 0) ∧ (r 0) ≤ 5) ∧ (ye_fd (g0 2) (g0 3) (g0 4) (((1 * (r 2) + 0) + 0)).toNat ((1 * (r 3) + 0) + 0) ((1 * (r 9) + 0) + 0) (((1 * (r 4) + 0) + 0), ((1 * (r 10) + 0) + 0), ((1 * (r 11) + 0) + 0), ((1 * (r 12) + 0) + 0), ((1 * (r 13) + 0) + 0)) ((1 * (r 22) + 0) + 0) (((1 * (r 17) + 0) + 0), ((1 * (r 23) + 0) + 0), ((1 * (r 24) + 0) + 0), ((1 * (r 25) + 0) + 0), ((1 * (r 26) + 0) + 0)) ∧ ye_fo (g0 2) (g0 3) (((1 * (r 2) + 0) + 0)).toNat ((1 * (r 3) + 0) + 0) ((1 * (r 9) + 0) + 0) (((1 * (r 14) + 0) + 0), ((1 * (r 15) + 0) + 0), ((1 * (r 5) + 0) + 0), ((1 * (r 6) + 0) + 0), ((1 * (r 7) + 0) + 0), ((1 * (r 8) + 0) + 0)) (((1 * (r 17) + 0) + 0), ((1 * (r 23) + 0) + 0), ((1 * (r 24) + 0) + 0), ((1 * (r 25) + 0) + 0), ((1 * (r 26) + 0) + 0)) (((1 * (r 27) + 0) + 0), ((1 * (r 28) + 0) + 0), ((1 * (r 18) + 0) + 0), ((1 * (r 19) + 0) + 0), ((1 * (r 20) + 0) + 0), ((1 * (r 21) + 0) + 0))) ∧ (r 16) = ye_ra (((1 * (r 17) + 0) + 0), ((1 * (r 23) + 0) + 0), ((1 * (r 24) + 0) + 0), ((1 * (r 25) + 0) + 0), ((1 * (r 26) + 0) + 0)) (((1 * (r 27) + 0) + 0), ((1 * (r 28) + 0) + 0), ((1 * (r 18) + 0) + 0), ((1 * (r 19) + 0) + 0), ((1 * (r 20) + 0) + 0), ((1 * (r 21) + 0) + 0)) (r 0))
  | _, _, _, _ => True
noncomputable def xR_164 : yt_Ps := fun r g0 => True
noncomputable def xT_164 : yt_Tb := fun d => match d with
  | 305 => xP_90
  | _ => fun _ _ _ _ => True
noncomputable def xU_164 : Nat → yt_Ps := fun d => match d with
  | 305 => xR_90
  | _ => fun _ _ => True
theorem xw_164_0_0 : yt_hold xT_164 xk_164 xq_164.2.2.1 xG_164 xP_164 xU_164 16 xk_164.2.1.2.2.2 (fun g0 r g => xR_164 r g0 ∧ g = g0) (1000, ([((-2147483648), (-1)), ((-2147483648), 2147483647), (0, 40), ((-2147483648), 2147483647), (0, 1), ((-9223372036854775808), 9223372036854775807), ((-9223372036854775808), 9223372036854775807), ((-9223372036854775808), 9223372036854775807), (0, 40), ((-2147483648), 2147483647), ((-600), 600), ((-600), 600), ((-1000000), 1000000), ((-1000000), 1000000), ((-9223372036854775808), 9223372036854775807), ((-9223372036854775808), 9223372036854775807)], []), [([], (-1)), ([(4, 1)], 0), ([(5, 1)], 0), ([(6, 1)], 0), ([(7, 1)], 0), ([(8, 1)], 0), ([(9, 1)], 0), ([(10, 1)], 0), ([(11, 1)], 0), ([(12, 1)], 0), ([(13, 1)], 0), ([(14, 1)], 0), ([(15, 1)], 0)], [], []) := by
  intro g0 r gi g hok hh hars hfr hG
  have b0 : (-2147483648) ≤ r 0 ∧ r 0 ≤ (-1) := hok.1 0 ((-2147483648), (-1)) rfl
  obtain ⟨hG, hgi⟩ := hG
  have hG : True := hG
  have hh : g = gi := hh
  subst hh
  refine yt_dalt (by decide) (by decide) ?_
  rw [show xk_164.2.1.2.1.1.length = 16 from rfl]
  show (¬ (0 ≤ ((1 * r 0 + 0) + 0) ∧ ((1 * r 0 + 0) + 0) ≤ 5) ∧ ((0 : Int) + (-1)) = -1 ∧ (((1 * ((1 * r 9 + 0) + 0) + 0) + 0) = ((1 * ((1 * r 9 + 0) + 0) + 0) + 0) ∧ (((1 * ((1 * r 4 + 0) + 0) + 0) + 0), ((1 * ((1 * r 10 + 0) + 0) + 0) + 0), ((1 * ((1 * r 11 + 0) + 0) + 0) + 0), ((1 * ((1 * r 12 + 0) + 0) + 0) + 0), ((1 * ((1 * r 13 + 0) + 0) + 0) + 0)) = (((1 * ((1 * r 4 + 0) + 0) + 0) + 0), ((1 * ((1 * r 10 + 0) + 0) + 0) + 0), ((1 * ((1 * r 11 + 0) + 0) + 0) + 0), ((1 * ((1 * r 12 + 0) + 0) + 0) + 0), ((1 * ((1 * r 13 + 0) + 0) + 0) + 0)) ∧ (((1 * ((1 * r 14 + 0) + 0) + 0) + 0), ((1 * ((1 * r 15 + 0) + 0) + 0) + 0), ((1 * ((1 * r 5 + 0) + 0) + 0) + 0), ((1 * ((1 * r 6 + 0) + 0) + 0) + 0), ((1 * ((1 * r 7 + 0) + 0) + 0) + 0), ((1 * ((1 * r 8 + 0) + 0) + 0) + 0)) = (((1 * ((1 * r 14 + 0) + 0) + 0) + 0), ((1 * ((1 * r 15 + 0) + 0) + 0) + 0), ((1 * ((1 * r 5 + 0) + 0) + 0) + 0), ((1 * ((1 * r 6 + 0) + 0) + 0) + 0), ((1 * ((1 * r 7 + 0) + 0) + 0) + 0), ((1 * ((1 * r 8 + 0) + 0) + 0) + 0)))) ∨ ((0 ≤ ((1 * r 0 + 0) + 0) ∧ ((1 * r 0 + 0) + 0) ≤ 5) ∧ (ye_fd (g0 2) (g0 3) (g0 4) (((1 * ((1 * r 2 + 0) + 0) + 0) + 0)).toNat ((1 * ((1 * r 3 + 0) + 0) + 0) + 0) ((1 * ((1 * r 9 + 0) + 0) + 0) + 0) (((1 * ((1 * r 4 + 0) + 0) + 0) + 0), ((1 * ((1 * r 10 + 0) + 0) + 0) + 0), ((1 * ((1 * r 11 + 0) + 0) + 0) + 0), ((1 * ((1 * r 12 + 0) + 0) + 0) + 0), ((1 * ((1 * r 13 + 0) + 0) + 0) + 0)) ((1 * ((1 * r 9 + 0) + 0) + 0) + 0) (((1 * ((1 * r 4 + 0) + 0) + 0) + 0), ((1 * ((1 * r 10 + 0) + 0) + 0) + 0), ((1 * ((1 * r 11 + 0) + 0) + 0) + 0), ((1 * ((1 * r 12 + 0) + 0) + 0) + 0), ((1 * ((1 * r 13 + 0) + 0) + 0) + 0)) ∧ ye_fo (g0 2) (g0 3) (((1 * ((1 * r 2 + 0) + 0) + 0) + 0)).toNat ((1 * ((1 * r 3 + 0) + 0) + 0) + 0) ((1 * ((1 * r 9 + 0) + 0) + 0) + 0) (((1 * ((1 * r 14 + 0) + 0) + 0) + 0), ((1 * ((1 * r 15 + 0) + 0) + 0) + 0), ((1 * ((1 * r 5 + 0) + 0) + 0) + 0), ((1 * ((1 * r 6 + 0) + 0) + 0) + 0), ((1 * ((1 * r 7 + 0) + 0) + 0) + 0), ((1 * ((1 * r 8 + 0) + 0) + 0) + 0)) (((1 * ((1 * r 4 + 0) + 0) + 0) + 0), ((1 * ((1 * r 10 + 0) + 0) + 0) + 0), ((1 * ((1 * r 11 + 0) + 0) + 0) + 0), ((1 * ((1 * r 12 + 0) + 0) + 0) + 0), ((1 * ((1 * r 13 + 0) + 0) + 0) + 0)) (((1 * ((1 * r 14 + 0) + 0) + 0) + 0), ((1 * ((1 * r 15 + 0) + 0) + 0) + 0), ((1 * ((1 * r 5 + 0) + 0) + 0) + 0), ((1 * ((1 * r 6 + 0) + 0) + 0) + 0), ((1 * ((1 * r 7 + 0) + 0) + 0) + 0), ((1 * ((1 * r 8 + 0) + 0) + 0) + 0))) ∧ ((0 : Int) + (-1)) = ye_ra (((1 * ((1 * r 4 + 0) + 0) + 0) + 0), ((1 * ((1 * r 10 + 0) + 0) + 0) + 0), ((1 * ((1 * r 11 + 0) + 0) + 0) + 0), ((1 * ((1 * r 12 + 0) + 0) + 0) + 0), ((1 * ((1 * r 13 + 0) + 0) + 0) + 0)) (((1 * ((1 * r 14 + 0) + 0) + 0) + 0), ((1 * ((1 * r 15 + 0) + 0) + 0) + 0), ((1 * ((1 * r 5 + 0) + 0) + 0) + 0), ((1 * ((1 * r 6 + 0) + 0) + 0) + 0), ((1 * ((1 * r 7 + 0) + 0) + 0) + 0), ((1 * ((1 * r 8 + 0) + 0) + 0) + 0)) ((1 * r 0 + 0) + 0))
  try simp only [Int.one_mul, Int.zero_add, Int.add_zero]
  exact Or.inl ⟨by omega, by first | rfl | trivial, ⟨by first | rfl | trivial, by first | rfl | trivial, by first | rfl | trivial⟩⟩
theorem xw_164_0_1 : yt_hold xT_164 xk_164 xq_164.2.2.1 xG_164 xP_164 xU_164 16 xk_164.2.1.2.2.2 (fun g0 r g => xR_164 r g0 ∧ g = g0) (1000, ([(5, 5), ((-2147483648), 2147483647), (0, 40), ((-2147483648), 2147483647), (0, 1), ((-9223372036854775808), 9223372036854775807), ((-9223372036854775808), 9223372036854775807), ((-9223372036854775808), 9223372036854775807), (0, 40), ((-2147483648), 2147483647), ((-600), 600), ((-600), 600), ((-1000000), 1000000), ((-1000000), 1000000), ((-9223372036854775808), 9223372036854775807), ((-9223372036854775808), 9223372036854775807), (1, 1), ((-9223372036854775808), 9223372036854775807), ((-9223372036854775808), 9223372036854775807), ((-9223372036854775808), 9223372036854775807), (0, 40), ((-2147483648), 2147483647), ((-600), 600), ((-600), 600), ((-1000000), 1000000), ((-1000000), 1000000), ((-9223372036854775808), 9223372036854775807), ((-9223372036854775808), 9223372036854775807)], []), [([(20, 1)], 0), ([(16, 1)], 0), ([(17, 1)], 0), ([(18, 1)], 0), ([(19, 1)], 0), ([(20, 1)], 0), ([(21, 1)], 0), ([(22, 1)], 0), ([(23, 1)], 0), ([(24, 1)], 0), ([(25, 1)], 0), ([(26, 1)], 0), ([(27, 1)], 0)], [], [.inr (.inr (.inl (305, 0, [([(4, 1)], 0), ([(5, 1)], 0), ([(6, 1)], 0), ([(7, 1)], 0), ([(8, 1)], 0), ([(9, 1)], 0), ([(10, 1)], 0), ([(11, 1)], 0), ([(12, 1)], 0), ([(13, 1)], 0), ([(14, 1)], 0), ([(15, 1)], 0), ([(2, 1)], 0), ([(3, 1)], 0), ([(16, 1)], 0), ([(17, 1)], 0), ([(18, 1)], 0), ([(19, 1)], 0), ([(20, 1)], 0), ([(21, 1)], 0), ([(22, 1)], 0), ([(23, 1)], 0), ([(24, 1)], 0), ([(25, 1)], 0), ([(26, 1)], 0), ([(27, 1)], 0)], [5, 6, 1, 2, 3, 4, 7], [])))]) := by
  intro g0 r gi g hok hh hars hfr hG
  have b0 : 5 ≤ r 0 ∧ r 0 ≤ 5 := hok.1 0 (5, 5) rfl
  have b16 : 1 ≤ r 16 ∧ r 16 ≤ 1 := hok.1 16 (1, 1) rfl
  have b17 : (-9223372036854775808) ≤ r 17 ∧ r 17 ≤ 9223372036854775807 := hok.1 17 ((-9223372036854775808), 9223372036854775807) rfl
  have b18 : (-9223372036854775808) ≤ r 18 ∧ r 18 ≤ 9223372036854775807 := hok.1 18 ((-9223372036854775808), 9223372036854775807) rfl
  have b19 : (-9223372036854775808) ≤ r 19 ∧ r 19 ≤ 9223372036854775807 := hok.1 19 ((-9223372036854775808), 9223372036854775807) rfl
  have b20 : 0 ≤ r 20 ∧ r 20 ≤ 40 := hok.1 20 (0, 40) rfl
  have b21 : (-2147483648) ≤ r 21 ∧ r 21 ≤ 2147483647 := hok.1 21 ((-2147483648), 2147483647) rfl
  have b22 : (-600) ≤ r 22 ∧ r 22 ≤ 600 := hok.1 22 ((-600), 600) rfl
  have b23 : (-600) ≤ r 23 ∧ r 23 ≤ 600 := hok.1 23 ((-600), 600) rfl
  have b24 : (-1000000) ≤ r 24 ∧ r 24 ≤ 1000000 := hok.1 24 ((-1000000), 1000000) rfl
  have b25 : (-1000000) ≤ r 25 ∧ r 25 ≤ 1000000 := hok.1 25 ((-1000000), 1000000) rfl
  have b26 : (-9223372036854775808) ≤ r 26 ∧ r 26 ≤ 9223372036854775807 := hok.1 26 ((-9223372036854775808), 9223372036854775807) rfl
  have b27 : (-9223372036854775808) ≤ r 27 ∧ r 27 ≤ 9223372036854775807 := hok.1 27 ((-9223372036854775808), 9223372036854775807) rfl
  obtain ⟨hG, hgi⟩ := hG
  have hG : True := hG
  obtain ⟨h0, hh, e0, k0⟩ := hh
  have k0 : ∀ j, j ∉ [] → g j = h0 j := k0
  have e0 : (ye_fd (h0 2) (h0 3) (h0 4) (((1 * ((1 * r 2 + 0) + 0) + 0) + 0)).toNat ((1 * ((1 * r 3 + 0) + 0) + 0) + 0) ((1 * ((1 * r 9 + 0) + 0) + 0) + 0) (((1 * ((1 * r 4 + 0) + 0) + 0) + 0), ((1 * ((1 * r 10 + 0) + 0) + 0) + 0), ((1 * ((1 * r 11 + 0) + 0) + 0) + 0), ((1 * ((1 * r 12 + 0) + 0) + 0) + 0), ((1 * ((1 * r 13 + 0) + 0) + 0) + 0)) ((1 * ((1 * r 21 + 0) + 0) + 0) + 0) (((1 * ((1 * r 16 + 0) + 0) + 0) + 0), ((1 * ((1 * r 22 + 0) + 0) + 0) + 0), ((1 * ((1 * r 23 + 0) + 0) + 0) + 0), ((1 * ((1 * r 24 + 0) + 0) + 0) + 0), ((1 * ((1 * r 25 + 0) + 0) + 0) + 0)) ∧ ye_fo (h0 2) (h0 3) (((1 * ((1 * r 2 + 0) + 0) + 0) + 0)).toNat ((1 * ((1 * r 3 + 0) + 0) + 0) + 0) ((1 * ((1 * r 9 + 0) + 0) + 0) + 0) (((1 * ((1 * r 14 + 0) + 0) + 0) + 0), ((1 * ((1 * r 15 + 0) + 0) + 0) + 0), ((1 * ((1 * r 5 + 0) + 0) + 0) + 0), ((1 * ((1 * r 6 + 0) + 0) + 0) + 0), ((1 * ((1 * r 7 + 0) + 0) + 0) + 0), ((1 * ((1 * r 8 + 0) + 0) + 0) + 0)) (((1 * ((1 * r 16 + 0) + 0) + 0) + 0), ((1 * ((1 * r 22 + 0) + 0) + 0) + 0), ((1 * ((1 * r 23 + 0) + 0) + 0) + 0), ((1 * ((1 * r 24 + 0) + 0) + 0) + 0), ((1 * ((1 * r 25 + 0) + 0) + 0) + 0)) (((1 * ((1 * r 26 + 0) + 0) + 0) + 0), ((1 * ((1 * r 27 + 0) + 0) + 0) + 0), ((1 * ((1 * r 17 + 0) + 0) + 0) + 0), ((1 * ((1 * r 18 + 0) + 0) + 0) + 0), ((1 * ((1 * r 19 + 0) + 0) + 0) + 0), ((1 * ((1 * r 20 + 0) + 0) + 0) + 0))) := e0
  have hh : h0 = gi := hh
  subst hh
  refine yt_dalt (by decide) (by decide) ?_
  rw [show xk_164.2.1.2.1.1.length = 16 from rfl]
  show (¬ (0 ≤ ((1 * r 0 + 0) + 0) ∧ ((1 * r 0 + 0) + 0) ≤ 5) ∧ ((1 * r 20 + 0) + 0) = -1 ∧ (((1 * ((1 * r 21 + 0) + 0) + 0) + 0) = ((1 * ((1 * r 9 + 0) + 0) + 0) + 0) ∧ (((1 * ((1 * r 16 + 0) + 0) + 0) + 0), ((1 * ((1 * r 22 + 0) + 0) + 0) + 0), ((1 * ((1 * r 23 + 0) + 0) + 0) + 0), ((1 * ((1 * r 24 + 0) + 0) + 0) + 0), ((1 * ((1 * r 25 + 0) + 0) + 0) + 0)) = (((1 * ((1 * r 4 + 0) + 0) + 0) + 0), ((1 * ((1 * r 10 + 0) + 0) + 0) + 0), ((1 * ((1 * r 11 + 0) + 0) + 0) + 0), ((1 * ((1 * r 12 + 0) + 0) + 0) + 0), ((1 * ((1 * r 13 + 0) + 0) + 0) + 0)) ∧ (((1 * ((1 * r 26 + 0) + 0) + 0) + 0), ((1 * ((1 * r 27 + 0) + 0) + 0) + 0), ((1 * ((1 * r 17 + 0) + 0) + 0) + 0), ((1 * ((1 * r 18 + 0) + 0) + 0) + 0), ((1 * ((1 * r 19 + 0) + 0) + 0) + 0), ((1 * ((1 * r 20 + 0) + 0) + 0) + 0)) = (((1 * ((1 * r 14 + 0) + 0) + 0) + 0), ((1 * ((1 * r 15 + 0) + 0) + 0) + 0), ((1 * ((1 * r 5 + 0) + 0) + 0) + 0), ((1 * ((1 * r 6 + 0) + 0) + 0) + 0), ((1 * ((1 * r 7 + 0) + 0) + 0) + 0), ((1 * ((1 * r 8 + 0) + 0) + 0) + 0)))) ∨ ((0 ≤ ((1 * r 0 + 0) + 0) ∧ ((1 * r 0 + 0) + 0) ≤ 5) ∧ (ye_fd (g0 2) (g0 3) (g0 4) (((1 * ((1 * r 2 + 0) + 0) + 0) + 0)).toNat ((1 * ((1 * r 3 + 0) + 0) + 0) + 0) ((1 * ((1 * r 9 + 0) + 0) + 0) + 0) (((1 * ((1 * r 4 + 0) + 0) + 0) + 0), ((1 * ((1 * r 10 + 0) + 0) + 0) + 0), ((1 * ((1 * r 11 + 0) + 0) + 0) + 0), ((1 * ((1 * r 12 + 0) + 0) + 0) + 0), ((1 * ((1 * r 13 + 0) + 0) + 0) + 0)) ((1 * ((1 * r 21 + 0) + 0) + 0) + 0) (((1 * ((1 * r 16 + 0) + 0) + 0) + 0), ((1 * ((1 * r 22 + 0) + 0) + 0) + 0), ((1 * ((1 * r 23 + 0) + 0) + 0) + 0), ((1 * ((1 * r 24 + 0) + 0) + 0) + 0), ((1 * ((1 * r 25 + 0) + 0) + 0) + 0)) ∧ ye_fo (g0 2) (g0 3) (((1 * ((1 * r 2 + 0) + 0) + 0) + 0)).toNat ((1 * ((1 * r 3 + 0) + 0) + 0) + 0) ((1 * ((1 * r 9 + 0) + 0) + 0) + 0) (((1 * ((1 * r 14 + 0) + 0) + 0) + 0), ((1 * ((1 * r 15 + 0) + 0) + 0) + 0), ((1 * ((1 * r 5 + 0) + 0) + 0) + 0), ((1 * ((1 * r 6 + 0) + 0) + 0) + 0), ((1 * ((1 * r 7 + 0) + 0) + 0) + 0), ((1 * ((1 * r 8 + 0) + 0) + 0) + 0)) (((1 * ((1 * r 16 + 0) + 0) + 0) + 0), ((1 * ((1 * r 22 + 0) + 0) + 0) + 0), ((1 * ((1 * r 23 + 0) + 0) + 0) + 0), ((1 * ((1 * r 24 + 0) + 0) + 0) + 0), ((1 * ((1 * r 25 + 0) + 0) + 0) + 0)) (((1 * ((1 * r 26 + 0) + 0) + 0) + 0), ((1 * ((1 * r 27 + 0) + 0) + 0) + 0), ((1 * ((1 * r 17 + 0) + 0) + 0) + 0), ((1 * ((1 * r 18 + 0) + 0) + 0) + 0), ((1 * ((1 * r 19 + 0) + 0) + 0) + 0), ((1 * ((1 * r 20 + 0) + 0) + 0) + 0))) ∧ ((1 * r 20 + 0) + 0) = ye_ra (((1 * ((1 * r 16 + 0) + 0) + 0) + 0), ((1 * ((1 * r 22 + 0) + 0) + 0) + 0), ((1 * ((1 * r 23 + 0) + 0) + 0) + 0), ((1 * ((1 * r 24 + 0) + 0) + 0) + 0), ((1 * ((1 * r 25 + 0) + 0) + 0) + 0)) (((1 * ((1 * r 26 + 0) + 0) + 0) + 0), ((1 * ((1 * r 27 + 0) + 0) + 0) + 0), ((1 * ((1 * r 17 + 0) + 0) + 0) + 0), ((1 * ((1 * r 18 + 0) + 0) + 0) + 0), ((1 * ((1 * r 19 + 0) + 0) + 0) + 0), ((1 * ((1 * r 20 + 0) + 0) + 0) + 0)) ((1 * r 0 + 0) + 0))
  try simp only [Int.one_mul, Int.zero_add, Int.add_zero]
  try simp only [Int.one_mul, Int.zero_add, Int.add_zero] at e0
  rw [hgi] at e0
  refine Or.inr ⟨by omega, e0, ?_⟩
  unfold ye_ra
  dsimp only
  repeat' split
  all_goals omega
theorem xw_164_0_2 : yt_hold xT_164 xk_164 xq_164.2.2.1 xG_164 xP_164 xU_164 16 xk_164.2.1.2.2.2 (fun g0 r g => xR_164 r g0 ∧ g = g0) (1000, ([(0, 0), ((-2147483648), 2147483647), (0, 40), ((-2147483648), 2147483647), (0, 1), ((-9223372036854775808), 9223372036854775807), ((-9223372036854775808), 9223372036854775807), ((-9223372036854775808), 9223372036854775807), (0, 40), ((-2147483648), 2147483647), ((-600), 600), ((-600), 600), ((-1000000), 1000000), ((-1000000), 1000000), ((-9223372036854775808), 9223372036854775807), ((-9223372036854775808), 9223372036854775807), (1, 1), ((-9223372036854775808), 9223372036854775807), ((-9223372036854775808), 9223372036854775807), ((-9223372036854775808), 9223372036854775807), (0, 40), ((-2147483648), 2147483647), ((-600), 600), ((-600), 600), ((-1000000), 1000000), ((-1000000), 1000000), ((-9223372036854775808), 9223372036854775807), ((-9223372036854775808), 9223372036854775807)], []), [([(26, 1)], 0), ([(16, 1)], 0), ([(17, 1)], 0), ([(18, 1)], 0), ([(19, 1)], 0), ([(20, 1)], 0), ([(21, 1)], 0), ([(22, 1)], 0), ([(23, 1)], 0), ([(24, 1)], 0), ([(25, 1)], 0), ([(26, 1)], 0), ([(27, 1)], 0)], [], [.inr (.inr (.inl (305, 0, [([(4, 1)], 0), ([(5, 1)], 0), ([(6, 1)], 0), ([(7, 1)], 0), ([(8, 1)], 0), ([(9, 1)], 0), ([(10, 1)], 0), ([(11, 1)], 0), ([(12, 1)], 0), ([(13, 1)], 0), ([(14, 1)], 0), ([(15, 1)], 0), ([(2, 1)], 0), ([(3, 1)], 0), ([(16, 1)], 0), ([(17, 1)], 0), ([(18, 1)], 0), ([(19, 1)], 0), ([(20, 1)], 0), ([(21, 1)], 0), ([(22, 1)], 0), ([(23, 1)], 0), ([(24, 1)], 0), ([(25, 1)], 0), ([(26, 1)], 0), ([(27, 1)], 0)], [5, 6, 1, 2, 3, 4, 7], [])))]) := by
  intro g0 r gi g hok hh hars hfr hG
  have b0 : 0 ≤ r 0 ∧ r 0 ≤ 0 := hok.1 0 (0, 0) rfl
  have b16 : 1 ≤ r 16 ∧ r 16 ≤ 1 := hok.1 16 (1, 1) rfl
  have b17 : (-9223372036854775808) ≤ r 17 ∧ r 17 ≤ 9223372036854775807 := hok.1 17 ((-9223372036854775808), 9223372036854775807) rfl
  have b18 : (-9223372036854775808) ≤ r 18 ∧ r 18 ≤ 9223372036854775807 := hok.1 18 ((-9223372036854775808), 9223372036854775807) rfl
  have b19 : (-9223372036854775808) ≤ r 19 ∧ r 19 ≤ 9223372036854775807 := hok.1 19 ((-9223372036854775808), 9223372036854775807) rfl
  have b20 : 0 ≤ r 20 ∧ r 20 ≤ 40 := hok.1 20 (0, 40) rfl
  have b21 : (-2147483648) ≤ r 21 ∧ r 21 ≤ 2147483647 := hok.1 21 ((-2147483648), 2147483647) rfl
  have b22 : (-600) ≤ r 22 ∧ r 22 ≤ 600 := hok.1 22 ((-600), 600) rfl
  have b23 : (-600) ≤ r 23 ∧ r 23 ≤ 600 := hok.1 23 ((-600), 600) rfl
  have b24 : (-1000000) ≤ r 24 ∧ r 24 ≤ 1000000 := hok.1 24 ((-1000000), 1000000) rfl
  have b25 : (-1000000) ≤ r 25 ∧ r 25 ≤ 1000000 := hok.1 25 ((-1000000), 1000000) rfl
  have b26 : (-9223372036854775808) ≤ r 26 ∧ r 26 ≤ 9223372036854775807 := hok.1 26 ((-9223372036854775808), 9223372036854775807) rfl
  have b27 : (-9223372036854775808) ≤ r 27 ∧ r 27 ≤ 9223372036854775807 := hok.1 27 ((-9223372036854775808), 9223372036854775807) rfl
  obtain ⟨hG, hgi⟩ := hG
  have hG : True := hG
  obtain ⟨h0, hh, e0, k0⟩ := hh
  have k0 : ∀ j, j ∉ [] → g j = h0 j := k0
  have e0 : (ye_fd (h0 2) (h0 3) (h0 4) (((1 * ((1 * r 2 + 0) + 0) + 0) + 0)).toNat ((1 * ((1 * r 3 + 0) + 0) + 0) + 0) ((1 * ((1 * r 9 + 0) + 0) + 0) + 0) (((1 * ((1 * r 4 + 0) + 0) + 0) + 0), ((1 * ((1 * r 10 + 0) + 0) + 0) + 0), ((1 * ((1 * r 11 + 0) + 0) + 0) + 0), ((1 * ((1 * r 12 + 0) + 0) + 0) + 0), ((1 * ((1 * r 13 + 0) + 0) + 0) + 0)) ((1 * ((1 * r 21 + 0) + 0) + 0) + 0) (((1 * ((1 * r 16 + 0) + 0) + 0) + 0), ((1 * ((1 * r 22 + 0) + 0) + 0) + 0), ((1 * ((1 * r 23 + 0) + 0) + 0) + 0), ((1 * ((1 * r 24 + 0) + 0) + 0) + 0), ((1 * ((1 * r 25 + 0) + 0) + 0) + 0)) ∧ ye_fo (h0 2) (h0 3) (((1 * ((1 * r 2 + 0) + 0) + 0) + 0)).toNat ((1 * ((1 * r 3 + 0) + 0) + 0) + 0) ((1 * ((1 * r 9 + 0) + 0) + 0) + 0) (((1 * ((1 * r 14 + 0) + 0) + 0) + 0), ((1 * ((1 * r 15 + 0) + 0) + 0) + 0), ((1 * ((1 * r 5 + 0) + 0) + 0) + 0), ((1 * ((1 * r 6 + 0) + 0) + 0) + 0), ((1 * ((1 * r 7 + 0) + 0) + 0) + 0), ((1 * ((1 * r 8 + 0) + 0) + 0) + 0)) (((1 * ((1 * r 16 + 0) + 0) + 0) + 0), ((1 * ((1 * r 22 + 0) + 0) + 0) + 0), ((1 * ((1 * r 23 + 0) + 0) + 0) + 0), ((1 * ((1 * r 24 + 0) + 0) + 0) + 0), ((1 * ((1 * r 25 + 0) + 0) + 0) + 0)) (((1 * ((1 * r 26 + 0) + 0) + 0) + 0), ((1 * ((1 * r 27 + 0) + 0) + 0) + 0), ((1 * ((1 * r 17 + 0) + 0) + 0) + 0), ((1 * ((1 * r 18 + 0) + 0) + 0) + 0), ((1 * ((1 * r 19 + 0) + 0) + 0) + 0), ((1 * ((1 * r 20 + 0) + 0) + 0) + 0))) := e0
  have hh : h0 = gi := hh
  subst hh
  refine yt_dalt (by decide) (by decide) ?_
  rw [show xk_164.2.1.2.1.1.length = 16 from rfl]
  show (¬ (0 ≤ ((1 * r 0 + 0) + 0) ∧ ((1 * r 0 + 0) + 0) ≤ 5) ∧ ((1 * r 26 + 0) + 0) = -1 ∧ (((1 * ((1 * r 21 + 0) + 0) + 0) + 0) = ((1 * ((1 * r 9 + 0) + 0) + 0) + 0) ∧ (((1 * ((1 * r 16 + 0) + 0) + 0) + 0), ((1 * ((1 * r 22 + 0) + 0) + 0) + 0), ((1 * ((1 * r 23 + 0) + 0) + 0) + 0), ((1 * ((1 * r 24 + 0) + 0) + 0) + 0), ((1 * ((1 * r 25 + 0) + 0) + 0) + 0)) = (((1 * ((1 * r 4 + 0) + 0) + 0) + 0), ((1 * ((1 * r 10 + 0) + 0) + 0) + 0), ((1 * ((1 * r 11 + 0) + 0) + 0) + 0), ((1 * ((1 * r 12 + 0) + 0) + 0) + 0), ((1 * ((1 * r 13 + 0) + 0) + 0) + 0)) ∧ (((1 * ((1 * r 26 + 0) + 0) + 0) + 0), ((1 * ((1 * r 27 + 0) + 0) + 0) + 0), ((1 * ((1 * r 17 + 0) + 0) + 0) + 0), ((1 * ((1 * r 18 + 0) + 0) + 0) + 0), ((1 * ((1 * r 19 + 0) + 0) + 0) + 0), ((1 * ((1 * r 20 + 0) + 0) + 0) + 0)) = (((1 * ((1 * r 14 + 0) + 0) + 0) + 0), ((1 * ((1 * r 15 + 0) + 0) + 0) + 0), ((1 * ((1 * r 5 + 0) + 0) + 0) + 0), ((1 * ((1 * r 6 + 0) + 0) + 0) + 0), ((1 * ((1 * r 7 + 0) + 0) + 0) + 0), ((1 * ((1 * r 8 + 0) + 0) + 0) + 0)))) ∨ ((0 ≤ ((1 * r 0 + 0) + 0) ∧ ((1 * r 0 + 0) + 0) ≤ 5) ∧ (ye_fd (g0 2) (g0 3) (g0 4) (((1 * ((1 * r 2 + 0) + 0) + 0) + 0)).toNat ((1 * ((1 * r 3 + 0) + 0) + 0) + 0) ((1 * ((1 * r 9 + 0) + 0) + 0) + 0) (((1 * ((1 * r 4 + 0) + 0) + 0) + 0), ((1 * ((1 * r 10 + 0) + 0) + 0) + 0), ((1 * ((1 * r 11 + 0) + 0) + 0) + 0), ((1 * ((1 * r 12 + 0) + 0) + 0) + 0), ((1 * ((1 * r 13 + 0) + 0) + 0) + 0)) ((1 * ((1 * r 21 + 0) + 0) + 0) + 0) (((1 * ((1 * r 16 + 0) + 0) + 0) + 0), ((1 * ((1 * r 22 + 0) + 0) + 0) + 0), ((1 * ((1 * r 23 + 0) + 0) + 0) + 0), ((1 * ((1 * r 24 + 0) + 0) + 0) + 0), ((1 * ((1 * r 25 + 0) + 0) + 0) + 0)) ∧ ye_fo (g0 2) (g0 3) (((1 * ((1 * r 2 + 0) + 0) + 0) + 0)).toNat ((1 * ((1 * r 3 + 0) + 0) + 0) + 0) ((1 * ((1 * r 9 + 0) + 0) + 0) + 0) (((1 * ((1 * r 14 + 0) + 0) + 0) + 0), ((1 * ((1 * r 15 + 0) + 0) + 0) + 0), ((1 * ((1 * r 5 + 0) + 0) + 0) + 0), ((1 * ((1 * r 6 + 0) + 0) + 0) + 0), ((1 * ((1 * r 7 + 0) + 0) + 0) + 0), ((1 * ((1 * r 8 + 0) + 0) + 0) + 0)) (((1 * ((1 * r 16 + 0) + 0) + 0) + 0), ((1 * ((1 * r 22 + 0) + 0) + 0) + 0), ((1 * ((1 * r 23 + 0) + 0) + 0) + 0), ((1 * ((1 * r 24 + 0) + 0) + 0) + 0), ((1 * ((1 * r 25 + 0) + 0) + 0) + 0)) (((1 * ((1 * r 26 + 0) + 0) + 0) + 0), ((1 * ((1 * r 27 + 0) + 0) + 0) + 0), ((1 * ((1 * r 17 + 0) + 0) + 0) + 0), ((1 * ((1 * r 18 + 0) + 0) + 0) + 0), ((1 * ((1 * r 19 + 0) + 0) + 0) + 0), ((1 * ((1 * r 20 + 0) + 0) + 0) + 0))) ∧ ((1 * r 26 + 0) + 0) = ye_ra (((1 * ((1 * r 16 + 0) + 0) + 0) + 0), ((1 * ((1 * r 22 + 0) + 0) + 0) + 0), ((1 * ((1 * r 23 + 0) + 0) + 0) + 0), ((1 * ((1 * r 24 + 0) + 0) + 0) + 0), ((1 * ((1 * r 25 + 0) + 0) + 0) + 0)) (((1 * ((1 * r 26 + 0) + 0) + 0) + 0), ((1 * ((1 * r 27 + 0) + 0) + 0) + 0), ((1 * ((1 * r 17 + 0) + 0) + 0) + 0), ((1 * ((1 * r 18 + 0) + 0) + 0) + 0), ((1 * ((1 * r 19 + 0) + 0) + 0) + 0), ((1 * ((1 * r 20 + 0) + 0) + 0) + 0)) ((1 * r 0 + 0) + 0))
  try simp only [Int.one_mul, Int.zero_add, Int.add_zero]
  try simp only [Int.one_mul, Int.zero_add, Int.add_zero] at e0
  rw [hgi] at e0
  refine Or.inr ⟨by omega, e0, ?_⟩
  unfold ye_ra
  dsimp only
  repeat' split
  all_goals omega
theorem xw_164_0_3 : yt_hold xT_164 xk_164 xq_164.2.2.1 xG_164 xP_164 xU_164 16 xk_164.2.1.2.2.2 (fun g0 r g => xR_164 r g0 ∧ g = g0) (1000, ([(1, 1), ((-2147483648), 2147483647), (0, 40), ((-2147483648), 2147483647), (0, 1), ((-9223372036854775808), 9223372036854775807), ((-9223372036854775808), 9223372036854775807), ((-9223372036854775808), 9223372036854775807), (0, 40), ((-2147483648), 2147483647), ((-600), 600), ((-600), 600), ((-1000000), 1000000), ((-1000000), 1000000), ((-9223372036854775808), 9223372036854775807), ((-9223372036854775808), 9223372036854775807), (1, 1), ((-9223372036854775808), 9223372036854775807), ((-9223372036854775808), 9223372036854775807), ((-9223372036854775808), 9223372036854775807), (0, 40), ((-2147483648), 2147483647), ((-600), 600), ((-600), 600), ((-1000000), 1000000), ((-1000000), 1000000), ((-9223372036854775808), 9223372036854775807), ((-9223372036854775808), 9223372036854775807)], []), [([(27, 1)], 0), ([(16, 1)], 0), ([(17, 1)], 0), ([(18, 1)], 0), ([(19, 1)], 0), ([(20, 1)], 0), ([(21, 1)], 0), ([(22, 1)], 0), ([(23, 1)], 0), ([(24, 1)], 0), ([(25, 1)], 0), ([(26, 1)], 0), ([(27, 1)], 0)], [], [.inr (.inr (.inl (305, 0, [([(4, 1)], 0), ([(5, 1)], 0), ([(6, 1)], 0), ([(7, 1)], 0), ([(8, 1)], 0), ([(9, 1)], 0), ([(10, 1)], 0), ([(11, 1)], 0), ([(12, 1)], 0), ([(13, 1)], 0), ([(14, 1)], 0), ([(15, 1)], 0), ([(2, 1)], 0), ([(3, 1)], 0), ([(16, 1)], 0), ([(17, 1)], 0), ([(18, 1)], 0), ([(19, 1)], 0), ([(20, 1)], 0), ([(21, 1)], 0), ([(22, 1)], 0), ([(23, 1)], 0), ([(24, 1)], 0), ([(25, 1)], 0), ([(26, 1)], 0), ([(27, 1)], 0)], [5, 6, 1, 2, 3, 4, 7], [])))]) := by
  intro g0 r gi g hok hh hars hfr hG
  have b0 : 1 ≤ r 0 ∧ r 0 ≤ 1 := hok.1 0 (1, 1) rfl
  have b16 : 1 ≤ r 16 ∧ r 16 ≤ 1 := hok.1 16 (1, 1) rfl
  have b17 : (-9223372036854775808) ≤ r 17 ∧ r 17 ≤ 9223372036854775807 := hok.1 17 ((-9223372036854775808), 9223372036854775807) rfl
  have b18 : (-9223372036854775808) ≤ r 18 ∧ r 18 ≤ 9223372036854775807 := hok.1 18 ((-9223372036854775808), 9223372036854775807) rfl
  have b19 : (-9223372036854775808) ≤ r 19 ∧ r 19 ≤ 9223372036854775807 := hok.1 19 ((-9223372036854775808), 9223372036854775807) rfl
  have b20 : 0 ≤ r 20 ∧ r 20 ≤ 40 := hok.1 20 (0, 40) rfl
  have b21 : (-2147483648) ≤ r 21 ∧ r 21 ≤ 2147483647 := hok.1 21 ((-2147483648), 2147483647) rfl
  have b22 : (-600) ≤ r 22 ∧ r 22 ≤ 600 := hok.1 22 ((-600), 600) rfl
  have b23 : (-600) ≤ r 23 ∧ r 23 ≤ 600 := hok.1 23 ((-600), 600) rfl
  have b24 : (-1000000) ≤ r 24 ∧ r 24 ≤ 1000000 := hok.1 24 ((-1000000), 1000000) rfl
  have b25 : (-1000000) ≤ r 25 ∧ r 25 ≤ 1000000 := hok.1 25 ((-1000000), 1000000) rfl
  have b26 : (-9223372036854775808) ≤ r 26 ∧ r 26 ≤ 9223372036854775807 := hok.1 26 ((-9223372036854775808), 9223372036854775807) rfl
  have b27 : (-9223372036854775808) ≤ r 27 ∧ r 27 ≤ 9223372036854775807 := hok.1 27 ((-9223372036854775808), 9223372036854775807) rfl
  obtain ⟨hG, hgi⟩ := hG
  have hG : True := hG
  obtain ⟨h0, hh, e0, k0⟩ := hh
  have k0 : ∀ j, j ∉ [] → g j = h0 j := k0
  have e0 : (ye_fd (h0 2) (h0 3) (h0 4) (((1 * ((1 * r 2 + 0) + 0) + 0) + 0)).toNat ((1 * ((1 * r 3 + 0) + 0) + 0) + 0) ((1 * ((1 * r 9 + 0) + 0) + 0) + 0) (((1 * ((1 * r 4 + 0) + 0) + 0) + 0), ((1 * ((1 * r 10 + 0) + 0) + 0) + 0), ((1 * ((1 * r 11 + 0) + 0) + 0) + 0), ((1 * ((1 * r 12 + 0) + 0) + 0) + 0), ((1 * ((1 * r 13 + 0) + 0) + 0) + 0)) ((1 * ((1 * r 21 + 0) + 0) + 0) + 0) (((1 * ((1 * r 16 + 0) + 0) + 0) + 0), ((1 * ((1 * r 22 + 0) + 0) + 0) + 0), ((1 * ((1 * r 23 + 0) + 0) + 0) + 0), ((1 * ((1 * r 24 + 0) + 0) + 0) + 0), ((1 * ((1 * r 25 + 0) + 0) + 0) + 0)) ∧ ye_fo (h0 2) (h0 3) (((1 * ((1 * r 2 + 0) + 0) + 0) + 0)).toNat ((1 * ((1 * r 3 + 0) + 0) + 0) + 0) ((1 * ((1 * r 9 + 0) + 0) + 0) + 0) (((1 * ((1 * r 14 + 0) + 0) + 0) + 0), ((1 * ((1 * r 15 + 0) + 0) + 0) + 0), ((1 * ((1 * r 5 + 0) + 0) + 0) + 0), ((1 * ((1 * r 6 + 0) + 0) + 0) + 0), ((1 * ((1 * r 7 + 0) + 0) + 0) + 0), ((1 * ((1 * r 8 + 0) + 0) + 0) + 0)) (((1 * ((1 * r 16 + 0) + 0) + 0) + 0), ((1 * ((1 * r 22 + 0) + 0) + 0) + 0), ((1 * ((1 * r 23 + 0) + 0) + 0) + 0), ((1 * ((1 * r 24 + 0) + 0) + 0) + 0), ((1 * ((1 * r 25 + 0) + 0) + 0) + 0)) (((1 * ((1 * r 26 + 0) + 0) + 0) + 0), ((1 * ((1 * r 27 + 0) + 0) + 0) + 0), ((1 * ((1 * r 17 + 0) + 0) + 0) + 0), ((1 * ((1 * r 18 + 0) + 0) + 0) + 0), ((1 * ((1 * r 19 + 0) + 0) + 0) + 0), ((1 * ((1 * r 20 + 0) + 0) + 0) + 0))) := e0
  have hh : h0 = gi := hh
  subst hh
  refine yt_dalt (by decide) (by decide) ?_
  rw [show xk_164.2.1.2.1.1.length = 16 from rfl]
  show (¬ (0 ≤ ((1 * r 0 + 0) + 0) ∧ ((1 * r 0 + 0) + 0) ≤ 5) ∧ ((1 * r 27 + 0) + 0) = -1 ∧ (((1 * ((1 * r 21 + 0) + 0) + 0) + 0) = ((1 * ((1 * r 9 + 0) + 0) + 0) + 0) ∧ (((1 * ((1 * r 16 + 0) + 0) + 0) + 0), ((1 * ((1 * r 22 + 0) + 0) + 0) + 0), ((1 * ((1 * r 23 + 0) + 0) + 0) + 0), ((1 * ((1 * r 24 + 0) + 0) + 0) + 0), ((1 * ((1 * r 25 + 0) + 0) + 0) + 0)) = (((1 * ((1 * r 4 + 0) + 0) + 0) + 0), ((1 * ((1 * r 10 + 0) + 0) + 0) + 0), ((1 * ((1 * r 11 + 0) + 0) + 0) + 0), ((1 * ((1 * r 12 + 0) + 0) + 0) + 0), ((1 * ((1 * r 13 + 0) + 0) + 0) + 0)) ∧ (((1 * ((1 * r 26 + 0) + 0) + 0) + 0), ((1 * ((1 * r 27 + 0) + 0) + 0) + 0), ((1 * ((1 * r 17 + 0) + 0) + 0) + 0), ((1 * ((1 * r 18 + 0) + 0) + 0) + 0), ((1 * ((1 * r 19 + 0) + 0) + 0) + 0), ((1 * ((1 * r 20 + 0) + 0) + 0) + 0)) = (((1 * ((1 * r 14 + 0) + 0) + 0) + 0), ((1 * ((1 * r 15 + 0) + 0) + 0) + 0), ((1 * ((1 * r 5 + 0) + 0) + 0) + 0), ((1 * ((1 * r 6 + 0) + 0) + 0) + 0), ((1 * ((1 * r 7 + 0) + 0) + 0) + 0), ((1 * ((1 * r 8 + 0) + 0) + 0) + 0)))) ∨ ((0 ≤ ((1 * r 0 + 0) + 0) ∧ ((1 * r 0 + 0) + 0) ≤ 5) ∧ (ye_fd (g0 2) (g0 3) (g0 4) (((1 * ((1 * r 2 + 0) + 0) + 0) + 0)).toNat ((1 * ((1 * r 3 + 0) + 0) + 0) + 0) ((1 * ((1 * r 9 + 0) + 0) + 0) + 0) (((1 * ((1 * r 4 + 0) + 0) + 0) + 0), ((1 * ((1 * r 10 + 0) + 0) + 0) + 0), ((1 * ((1 * r 11 + 0) + 0) + 0) + 0), ((1 * ((1 * r 12 + 0) + 0) + 0) + 0), ((1 * ((1 * r 13 + 0) + 0) + 0) + 0)) ((1 * ((1 * r 21 + 0) + 0) + 0) + 0) (((1 * ((1 * r 16 + 0) + 0) + 0) + 0), ((1 * ((1 * r 22 + 0) + 0) + 0) + 0), ((1 * ((1 * r 23 + 0) + 0) + 0) + 0), ((1 * ((1 * r 24 + 0) + 0) + 0) + 0), ((1 * ((1 * r 25 + 0) + 0) + 0) + 0)) ∧ ye_fo (g0 2) (g0 3) (((1 * ((1 * r 2 + 0) + 0) + 0) + 0)).toNat ((1 * ((1 * r 3 + 0) + 0) + 0) + 0) ((1 * ((1 * r 9 + 0) + 0) + 0) + 0) (((1 * ((1 * r 14 + 0) + 0) + 0) + 0), ((1 * ((1 * r 15 + 0) + 0) + 0) + 0), ((1 * ((1 * r 5 + 0) + 0) + 0) + 0), ((1 * ((1 * r 6 + 0) + 0) + 0) + 0), ((1 * ((1 * r 7 + 0) + 0) + 0) + 0), ((1 * ((1 * r 8 + 0) + 0) + 0) + 0)) (((1 * ((1 * r 16 + 0) + 0) + 0) + 0), ((1 * ((1 * r 22 + 0) + 0) + 0) + 0), ((1 * ((1 * r 23 + 0) + 0) + 0) + 0), ((1 * ((1 * r 24 + 0) + 0) + 0) + 0), ((1 * ((1 * r 25 + 0) + 0) + 0) + 0)) (((1 * ((1 * r 26 + 0) + 0) + 0) + 0), ((1 * ((1 * r 27 + 0) + 0) + 0) + 0), ((1 * ((1 * r 17 + 0) + 0) + 0) + 0), ((1 * ((1 * r 18 + 0) + 0) + 0) + 0), ((1 * ((1 * r 19 + 0) + 0) + 0) + 0), ((1 * ((1 * r 20 + 0) + 0) + 0) + 0))) ∧ ((1 * r 27 + 0) + 0) = ye_ra (((1 * ((1 * r 16 + 0) + 0) + 0) + 0), ((1 * ((1 * r 22 + 0) + 0) + 0) + 0), ((1 * ((1 * r 23 + 0) + 0) + 0) + 0), ((1 * ((1 * r 24 + 0) + 0) + 0) + 0), ((1 * ((1 * r 25 + 0) + 0) + 0) + 0)) (((1 * ((1 * r 26 + 0) + 0) + 0) + 0), ((1 * ((1 * r 27 + 0) + 0) + 0) + 0), ((1 * ((1 * r 17 + 0) + 0) + 0) + 0), ((1 * ((1 * r 18 + 0) + 0) + 0) + 0), ((1 * ((1 * r 19 + 0) + 0) + 0) + 0), ((1 * ((1 * r 20 + 0) + 0) + 0) + 0)) ((1 * r 0 + 0) + 0))
  try simp only [Int.one_mul, Int.zero_add, Int.add_zero]
  try simp only [Int.one_mul, Int.zero_add, Int.add_zero] at e0
  rw [hgi] at e0
  refine Or.inr ⟨by omega, e0, ?_⟩
  unfold ye_ra
  dsimp only
  repeat' split
  all_goals omega
theorem xw_164_0_4 : yt_hold xT_164 xk_164 xq_164.2.2.1 xG_164 xP_164 xU_164 16 xk_164.2.1.2.2.2 (fun g0 r g => xR_164 r g0 ∧ g = g0) (1000, ([(2, 2), ((-2147483648), 2147483647), (0, 40), ((-2147483648), 2147483647), (0, 1), ((-9223372036854775808), 9223372036854775807), ((-9223372036854775808), 9223372036854775807), ((-9223372036854775808), 9223372036854775807), (0, 40), ((-2147483648), 2147483647), ((-600), 600), ((-600), 600), ((-1000000), 1000000), ((-1000000), 1000000), ((-9223372036854775808), 9223372036854775807), ((-9223372036854775808), 9223372036854775807), (1, 1), ((-9223372036854775808), 9223372036854775807), ((-9223372036854775808), 9223372036854775807), ((-9223372036854775808), 9223372036854775807), (0, 40), ((-2147483648), 2147483647), ((-600), 600), ((-600), 600), ((-1000000), 1000000), ((-1000000), 1000000), ((-9223372036854775808), 9223372036854775807), ((-9223372036854775808), 9223372036854775807)], []), [([(17, 1)], 0), ([(16, 1)], 0), ([(17, 1)], 0), ([(18, 1)], 0), ([(19, 1)], 0), ([(20, 1)], 0), ([(21, 1)], 0), ([(22, 1)], 0), ([(23, 1)], 0), ([(24, 1)], 0), ([(25, 1)], 0), ([(26, 1)], 0), ([(27, 1)], 0)], [], [.inr (.inr (.inl (305, 0, [([(4, 1)], 0), ([(5, 1)], 0), ([(6, 1)], 0), ([(7, 1)], 0), ([(8, 1)], 0), ([(9, 1)], 0), ([(10, 1)], 0), ([(11, 1)], 0), ([(12, 1)], 0), ([(13, 1)], 0), ([(14, 1)], 0), ([(15, 1)], 0), ([(2, 1)], 0), ([(3, 1)], 0), ([(16, 1)], 0), ([(17, 1)], 0), ([(18, 1)], 0), ([(19, 1)], 0), ([(20, 1)], 0), ([(21, 1)], 0), ([(22, 1)], 0), ([(23, 1)], 0), ([(24, 1)], 0), ([(25, 1)], 0), ([(26, 1)], 0), ([(27, 1)], 0)], [5, 6, 1, 2, 3, 4, 7], [])))]) := by
  intro g0 r gi g hok hh hars hfr hG
  have b0 : 2 ≤ r 0 ∧ r 0 ≤ 2 := hok.1 0 (2, 2) rfl
  have b16 : 1 ≤ r 16 ∧ r 16 ≤ 1 := hok.1 16 (1, 1) rfl
  have b17 : (-9223372036854775808) ≤ r 17 ∧ r 17 ≤ 9223372036854775807 := hok.1 17 ((-9223372036854775808), 9223372036854775807) rfl
  have b18 : (-9223372036854775808) ≤ r 18 ∧ r 18 ≤ 9223372036854775807 := hok.1 18 ((-9223372036854775808), 9223372036854775807) rfl
  have b19 : (-9223372036854775808) ≤ r 19 ∧ r 19 ≤ 9223372036854775807 := hok.1 19 ((-9223372036854775808), 9223372036854775807) rfl
  have b20 : 0 ≤ r 20 ∧ r 20 ≤ 40 := hok.1 20 (0, 40) rfl
  have b21 : (-2147483648) ≤ r 21 ∧ r 21 ≤ 2147483647 := hok.1 21 ((-2147483648), 2147483647) rfl
  have b22 : (-600) ≤ r 22 ∧ r 22 ≤ 600 := hok.1 22 ((-600), 600) rfl
  have b23 : (-600) ≤ r 23 ∧ r 23 ≤ 600 := hok.1 23 ((-600), 600) rfl
  have b24 : (-1000000) ≤ r 24 ∧ r 24 ≤ 1000000 := hok.1 24 ((-1000000), 1000000) rfl
  have b25 : (-1000000) ≤ r 25 ∧ r 25 ≤ 1000000 := hok.1 25 ((-1000000), 1000000) rfl
  have b26 : (-9223372036854775808) ≤ r 26 ∧ r 26 ≤ 9223372036854775807 := hok.1 26 ((-9223372036854775808), 9223372036854775807) rfl
  have b27 : (-9223372036854775808) ≤ r 27 ∧ r 27 ≤ 9223372036854775807 := hok.1 27 ((-9223372036854775808), 9223372036854775807) rfl
  obtain ⟨hG, hgi⟩ := hG
  have hG : True := hG
  obtain ⟨h0, hh, e0, k0⟩ := hh
  have k0 : ∀ j, j ∉ [] → g j = h0 j := k0
  have e0 : (ye_fd (h0 2) (h0 3) (h0 4) (((1 * ((1 * r 2 + 0) + 0) + 0) + 0)).toNat ((1 * ((1 * r 3 + 0) + 0) + 0) + 0) ((1 * ((1 * r 9 + 0) + 0) + 0) + 0) (((1 * ((1 * r 4 + 0) + 0) + 0) + 0), ((1 * ((1 * r 10 + 0) + 0) + 0) + 0), ((1 * ((1 * r 11 + 0) + 0) + 0) + 0), ((1 * ((1 * r 12 + 0) + 0) + 0) + 0), ((1 * ((1 * r 13 + 0) + 0) + 0) + 0)) ((1 * ((1 * r 21 + 0) + 0) + 0) + 0) (((1 * ((1 * r 16 + 0) + 0) + 0) + 0), ((1 * ((1 * r 22 + 0) + 0) + 0) + 0), ((1 * ((1 * r 23 + 0) + 0) + 0) + 0), ((1 * ((1 * r 24 + 0) + 0) + 0) + 0), ((1 * ((1 * r 25 + 0) + 0) + 0) + 0)) ∧ ye_fo (h0 2) (h0 3) (((1 * ((1 * r 2 + 0) + 0) + 0) + 0)).toNat ((1 * ((1 * r 3 + 0) + 0) + 0) + 0) ((1 * ((1 * r 9 + 0) + 0) + 0) + 0) (((1 * ((1 * r 14 + 0) + 0) + 0) + 0), ((1 * ((1 * r 15 + 0) + 0) + 0) + 0), ((1 * ((1 * r 5 + 0) + 0) + 0) + 0), ((1 * ((1 * r 6 + 0) + 0) + 0) + 0), ((1 * ((1 * r 7 + 0) + 0) + 0) + 0), ((1 * ((1 * r 8 + 0) + 0) + 0) + 0)) (((1 * ((1 * r 16 + 0) + 0) + 0) + 0), ((1 * ((1 * r 22 + 0) + 0) + 0) + 0), ((1 * ((1 * r 23 + 0) + 0) + 0) + 0), ((1 * ((1 * r 24 + 0) + 0) + 0) + 0), ((1 * ((1 * r 25 + 0) + 0) + 0) + 0)) (((1 * ((1 * r 26 + 0) + 0) + 0) + 0), ((1 * ((1 * r 27 + 0) + 0) + 0) + 0), ((1 * ((1 * r 17 + 0) + 0) + 0) + 0), ((1 * ((1 * r 18 + 0) + 0) + 0) + 0), ((1 * ((1 * r 19 + 0) + 0) + 0) + 0), ((1 * ((1 * r 20 + 0) + 0) + 0) + 0))) := e0
  have hh : h0 = gi := hh
  subst hh
  refine yt_dalt (by decide) (by decide) ?_
  rw [show xk_164.2.1.2.1.1.length = 16 from rfl]
  show (¬ (0 ≤ ((1 * r 0 + 0) + 0) ∧ ((1 * r 0 + 0) + 0) ≤ 5) ∧ ((1 * r 17 + 0) + 0) = -1 ∧ (((1 * ((1 * r 21 + 0) + 0) + 0) + 0) = ((1 * ((1 * r 9 + 0) + 0) + 0) + 0) ∧ (((1 * ((1 * r 16 + 0) + 0) + 0) + 0), ((1 * ((1 * r 22 + 0) + 0) + 0) + 0), ((1 * ((1 * r 23 + 0) + 0) + 0) + 0), ((1 * ((1 * r 24 + 0) + 0) + 0) + 0), ((1 * ((1 * r 25 + 0) + 0) + 0) + 0)) = (((1 * ((1 * r 4 + 0) + 0) + 0) + 0), ((1 * ((1 * r 10 + 0) + 0) + 0) + 0), ((1 * ((1 * r 11 + 0) + 0) + 0) + 0), ((1 * ((1 * r 12 + 0) + 0) + 0) + 0), ((1 * ((1 * r 13 + 0) + 0) + 0) + 0)) ∧ (((1 * ((1 * r 26 + 0) + 0) + 0) + 0), ((1 * ((1 * r 27 + 0) + 0) + 0) + 0), ((1 * ((1 * r 17 + 0) + 0) + 0) + 0), ((1 * ((1 * r 18 + 0) + 0) + 0) + 0), ((1 * ((1 * r 19 + 0) + 0) + 0) + 0), ((1 * ((1 * r 20 + 0) + 0) + 0) + 0)) = (((1 * ((1 * r 14 + 0) + 0) + 0) + 0), ((1 * ((1 * r 15 + 0) + 0) + 0) + 0), ((1 * ((1 * r 5 + 0) + 0) + 0) + 0), ((1 * ((1 * r 6 + 0) + 0) + 0) + 0), ((1 * ((1 * r 7 + 0) + 0) + 0) + 0), ((1 * ((1 * r 8 + 0) + 0) + 0) + 0)))) ∨ ((0 ≤ ((1 * r 0 + 0) + 0) ∧ ((1 * r 0 + 0) + 0) ≤ 5) ∧ (ye_fd (g0 2) (g0 3) (g0 4) (((1 * ((1 * r 2 + 0) + 0) + 0) + 0)).toNat ((1 * ((1 * r 3 + 0) + 0) + 0) + 0) ((1 * ((1 * r 9 + 0) + 0) + 0) + 0) (((1 * ((1 * r 4 + 0) + 0) + 0) + 0), ((1 * ((1 * r 10 + 0) + 0) + 0) + 0), ((1 * ((1 * r 11 + 0) + 0) + 0) + 0), ((1 * ((1 * r 12 + 0) + 0) + 0) + 0), ((1 * ((1 * r 13 + 0) + 0) + 0) + 0)) ((1 * ((1 * r 21 + 0) + 0) + 0) + 0) (((1 * ((1 * r 16 + 0) + 0) + 0) + 0), ((1 * ((1 * r 22 + 0) + 0) + 0) + 0), ((1 * ((1 * r 23 + 0) + 0) + 0) + 0), ((1 * ((1 * r 24 + 0) + 0) + 0) + 0), ((1 * ((1 * r 25 + 0) + 0) + 0) + 0)) ∧ ye_fo (g0 2) (g0 3) (((1 * ((1 * r 2 + 0) + 0) + 0) + 0)).toNat ((1 * ((1 * r 3 + 0) + 0) + 0) + 0) ((1 * ((1 * r 9 + 0) + 0) + 0) + 0) (((1 * ((1 * r 14 + 0) + 0) + 0) + 0), ((1 * ((1 * r 15 + 0) + 0) + 0) + 0), ((1 * ((1 * r 5 + 0) + 0) + 0) + 0), ((1 * ((1 * r 6 + 0) + 0) + 0) + 0), ((1 * ((1 * r 7 + 0) + 0) + 0) + 0), ((1 * ((1 * r 8 + 0) + 0) + 0) + 0)) (((1 * ((1 * r 16 + 0) + 0) + 0) + 0), ((1 * ((1 * r 22 + 0) + 0) + 0) + 0), ((1 * ((1 * r 23 + 0) + 0) + 0) + 0), ((1 * ((1 * r 24 + 0) + 0) + 0) + 0), ((1 * ((1 * r 25 + 0) + 0) + 0) + 0)) (((1 * ((1 * r 26 + 0) + 0) + 0) + 0), ((1 * ((1 * r 27 + 0) + 0) + 0) + 0), ((1 * ((1 * r 17 + 0) + 0) + 0) + 0), ((1 * ((1 * r 18 + 0) + 0) + 0) + 0), ((1 * ((1 * r 19 + 0) + 0) + 0) + 0), ((1 * ((1 * r 20 + 0) + 0) + 0) + 0))) ∧ ((1 * r 17 + 0) + 0) = ye_ra (((1 * ((1 * r 16 + 0) + 0) + 0) + 0), ((1 * ((1 * r 22 + 0) + 0) + 0) + 0), ((1 * ((1 * r 23 + 0) + 0) + 0) + 0), ((1 * ((1 * r 24 + 0) + 0) + 0) + 0), ((1 * ((1 * r 25 + 0) + 0) + 0) + 0)) (((1 * ((1 * r 26 + 0) + 0) + 0) + 0), ((1 * ((1 * r 27 + 0) + 0) + 0) + 0), ((1 * ((1 * r 17 + 0) + 0) + 0) + 0), ((1 * ((1 * r 18 + 0) + 0) + 0) + 0), ((1 * ((1 * r 19 + 0) + 0) + 0) + 0), ((1 * ((1 * r 20 + 0) + 0) + 0) + 0)) ((1 * r 0 + 0) + 0))
  try simp only [Int.one_mul, Int.zero_add, Int.add_zero]
  try simp only [Int.one_mul, Int.zero_add, Int.add_zero] at e0
  rw [hgi] at e0
  refine Or.inr ⟨by omega, e0, ?_⟩
  unfold ye_ra
  dsimp only
  repeat' split
  all_goals omega
theorem xw_164_0_5 : yt_hold xT_164 xk_164 xq_164.2.2.1 xG_164 xP_164 xU_164 16 xk_164.2.1.2.2.2 (fun g0 r g => xR_164 r g0 ∧ g = g0) (1000, ([(3, 3), ((-2147483648), 2147483647), (0, 40), ((-2147483648), 2147483647), (0, 1), ((-9223372036854775808), 9223372036854775807), ((-9223372036854775808), 9223372036854775807), ((-9223372036854775808), 9223372036854775807), (0, 40), ((-2147483648), 2147483647), ((-600), 600), ((-600), 600), ((-1000000), 1000000), ((-1000000), 1000000), ((-9223372036854775808), 9223372036854775807), ((-9223372036854775808), 9223372036854775807), (1, 1), ((-9223372036854775808), 9223372036854775807), ((-9223372036854775808), 9223372036854775807), ((-9223372036854775808), 9223372036854775807), (0, 40), ((-2147483648), 2147483647), ((-600), 600), ((-600), 600), ((-1000000), 1000000), ((-1000000), 1000000), ((-9223372036854775808), 9223372036854775807), ((-9223372036854775808), 9223372036854775807)], []), [([(18, 1)], 0), ([(16, 1)], 0), ([(17, 1)], 0), ([(18, 1)], 0), ([(19, 1)], 0), ([(20, 1)], 0), ([(21, 1)], 0), ([(22, 1)], 0), ([(23, 1)], 0), ([(24, 1)], 0), ([(25, 1)], 0), ([(26, 1)], 0), ([(27, 1)], 0)], [], [.inr (.inr (.inl (305, 0, [([(4, 1)], 0), ([(5, 1)], 0), ([(6, 1)], 0), ([(7, 1)], 0), ([(8, 1)], 0), ([(9, 1)], 0), ([(10, 1)], 0), ([(11, 1)], 0), ([(12, 1)], 0), ([(13, 1)], 0), ([(14, 1)], 0), ([(15, 1)], 0), ([(2, 1)], 0), ([(3, 1)], 0), ([(16, 1)], 0), ([(17, 1)], 0), ([(18, 1)], 0), ([(19, 1)], 0), ([(20, 1)], 0), ([(21, 1)], 0), ([(22, 1)], 0), ([(23, 1)], 0), ([(24, 1)], 0), ([(25, 1)], 0), ([(26, 1)], 0), ([(27, 1)], 0)], [5, 6, 1, 2, 3, 4, 7], [])))]) := by
  intro g0 r gi g hok hh hars hfr hG
  have b0 : 3 ≤ r 0 ∧ r 0 ≤ 3 := hok.1 0 (3, 3) rfl
  have b16 : 1 ≤ r 16 ∧ r 16 ≤ 1 := hok.1 16 (1, 1) rfl
  have b17 : (-9223372036854775808) ≤ r 17 ∧ r 17 ≤ 9223372036854775807 := hok.1 17 ((-9223372036854775808), 9223372036854775807) rfl
  have b18 : (-9223372036854775808) ≤ r 18 ∧ r 18 ≤ 9223372036854775807 := hok.1 18 ((-9223372036854775808), 9223372036854775807) rfl
  have b19 : (-9223372036854775808) ≤ r 19 ∧ r 19 ≤ 9223372036854775807 := hok.1 19 ((-9223372036854775808), 9223372036854775807) rfl
  have b20 : 0 ≤ r 20 ∧ r 20 ≤ 40 := hok.1 20 (0, 40) rfl
  have b21 : (-2147483648) ≤ r 21 ∧ r 21 ≤ 2147483647 := hok.1 21 ((-2147483648), 2147483647) rfl
  have b22 : (-600) ≤ r 22 ∧ r 22 ≤ 600 := hok.1 22 ((-600), 600) rfl
  have b23 : (-600) ≤ r 23 ∧ r 23 ≤ 600 := hok.1 23 ((-600), 600) rfl
  have b24 : (-1000000) ≤ r 24 ∧ r 24 ≤ 1000000 := hok.1 24 ((-1000000), 1000000) rfl
  have b25 : (-1000000) ≤ r 25 ∧ r 25 ≤ 1000000 := hok.1 25 ((-1000000), 1000000) rfl
  have b26 : (-9223372036854775808) ≤ r 26 ∧ r 26 ≤ 9223372036854775807 := hok.1 26 ((-9223372036854775808), 9223372036854775807) rfl
  have b27 : (-9223372036854775808) ≤ r 27 ∧ r 27 ≤ 9223372036854775807 := hok.1 27 ((-9223372036854775808), 9223372036854775807) rfl
  obtain ⟨hG, hgi⟩ := hG
  have hG : True := hG
  obtain ⟨h0, hh, e0, k0⟩ := hh
  have k0 : ∀ j, j ∉ [] → g j = h0 j := k0
  have e0 : (ye_fd (h0 2) (h0 3) (h0 4) (((1 * ((1 * r 2 + 0) + 0) + 0) + 0)).toNat ((1 * ((1 * r 3 + 0) + 0) + 0) + 0) ((1 * ((1 * r 9 + 0) + 0) + 0) + 0) (((1 * ((1 * r 4 + 0) + 0) + 0) + 0), ((1 * ((1 * r 10 + 0) + 0) + 0) + 0), ((1 * ((1 * r 11 + 0) + 0) + 0) + 0), ((1 * ((1 * r 12 + 0) + 0) + 0) + 0), ((1 * ((1 * r 13 + 0) + 0) + 0) + 0)) ((1 * ((1 * r 21 + 0) + 0) + 0) + 0) (((1 * ((1 * r 16 + 0) + 0) + 0) + 0), ((1 * ((1 * r 22 + 0) + 0) + 0) + 0), ((1 * ((1 * r 23 + 0) + 0) + 0) + 0), ((1 * ((1 * r 24 + 0) + 0) + 0) + 0), ((1 * ((1 * r 25 + 0) + 0) + 0) + 0)) ∧ ye_fo (h0 2) (h0 3) (((1 * ((1 * r 2 + 0) + 0) + 0) + 0)).toNat ((1 * ((1 * r 3 + 0) + 0) + 0) + 0) ((1 * ((1 * r 9 + 0) + 0) + 0) + 0) (((1 * ((1 * r 14 + 0) + 0) + 0) + 0), ((1 * ((1 * r 15 + 0) + 0) + 0) + 0), ((1 * ((1 * r 5 + 0) + 0) + 0) + 0), ((1 * ((1 * r 6 + 0) + 0) + 0) + 0), ((1 * ((1 * r 7 + 0) + 0) + 0) + 0), ((1 * ((1 * r 8 + 0) + 0) + 0) + 0)) (((1 * ((1 * r 16 + 0) + 0) + 0) + 0), ((1 * ((1 * r 22 + 0) + 0) + 0) + 0), ((1 * ((1 * r 23 + 0) + 0) + 0) + 0), ((1 * ((1 * r 24 + 0) + 0) + 0) + 0), ((1 * ((1 * r 25 + 0) + 0) + 0) + 0)) (((1 * ((1 * r 26 + 0) + 0) + 0) + 0), ((1 * ((1 * r 27 + 0) + 0) + 0) + 0), ((1 * ((1 * r 17 + 0) + 0) + 0) + 0), ((1 * ((1 * r 18 + 0) + 0) + 0) + 0), ((1 * ((1 * r 19 + 0) + 0) + 0) + 0), ((1 * ((1 * r 20 + 0) + 0) + 0) + 0))) := e0
  have hh : h0 = gi := hh
  subst hh
  refine yt_dalt (by decide) (by decide) ?_
  rw [show xk_164.2.1.2.1.1.length = 16 from rfl]
  show (¬ (0 ≤ ((1 * r 0 + 0) + 0) ∧ ((1 * r 0 + 0) + 0) ≤ 5) ∧ ((1 * r 18 + 0) + 0) = -1 ∧ (((1 * ((1 * r 21 + 0) + 0) + 0) + 0) = ((1 * ((1 * r 9 + 0) + 0) + 0) + 0) ∧ (((1 * ((1 * r 16 + 0) + 0) + 0) + 0), ((1 * ((1 * r 22 + 0) + 0) + 0) + 0), ((1 * ((1 * r 23 + 0) + 0) + 0) + 0), ((1 * ((1 * r 24 + 0) + 0) + 0) + 0), ((1 * ((1 * r 25 + 0) + 0) + 0) + 0)) = (((1 * ((1 * r 4 + 0) + 0) + 0) + 0), ((1 * ((1 * r 10 + 0) + 0) + 0) + 0), ((1 * ((1 * r 11 + 0) + 0) + 0) + 0), ((1 * ((1 * r 12 + 0) + 0) + 0) + 0), ((1 * ((1 * r 13 + 0) + 0) + 0) + 0)) ∧ (((1 * ((1 * r 26 + 0) + 0) + 0) + 0), ((1 * ((1 * r 27 + 0) + 0) + 0) + 0), ((1 * ((1 * r 17 + 0) + 0) + 0) + 0), ((1 * ((1 * r 18 + 0) + 0) + 0) + 0), ((1 * ((1 * r 19 + 0) + 0) + 0) + 0), ((1 * ((1 * r 20 + 0) + 0) + 0) + 0)) = (((1 * ((1 * r 14 + 0) + 0) + 0) + 0), ((1 * ((1 * r 15 + 0) + 0) + 0) + 0), ((1 * ((1 * r 5 + 0) + 0) + 0) + 0), ((1 * ((1 * r 6 + 0) + 0) + 0) + 0), ((1 * ((1 * r 7 + 0) + 0) + 0) + 0), ((1 * ((1 * r 8 + 0) + 0) + 0) + 0)))) ∨ ((0 ≤ ((1 * r 0 + 0) + 0) ∧ ((1 * r 0 + 0) + 0) ≤ 5) ∧ (ye_fd (g0 2) (g0 3) (g0 4) (((1 * ((1 * r 2 + 0) + 0) + 0) + 0)).toNat ((1 * ((1 * r 3 + 0) + 0) + 0) + 0) ((1 * ((1 * r 9 + 0) + 0) + 0) + 0) (((1 * ((1 * r 4 + 0) + 0) + 0) + 0), ((1 * ((1 * r 10 + 0) + 0) + 0) + 0), ((1 * ((1 * r 11 + 0) + 0) + 0) + 0), ((1 * ((1 * r 12 + 0) + 0) + 0) + 0), ((1 * ((1 * r 13 + 0) + 0) + 0) + 0)) ((1 * ((1 * r 21 + 0) + 0) + 0) + 0) (((1 * ((1 * r 16 + 0) + 0) + 0) + 0), ((1 * ((1 * r 22 + 0) + 0) + 0) + 0), ((1 * ((1 * r 23 + 0) + 0) + 0) + 0), ((1 * ((1 * r 24 + 0) + 0) + 0) + 0), ((1 * ((1 * r 25 + 0) + 0) + 0) + 0)) ∧ ye_fo (g0 2) (g0 3) (((1 * ((1 * r 2 + 0) + 0) + 0) + 0)).toNat ((1 * ((1 * r 3 + 0) + 0) + 0) + 0) ((1 * ((1 * r 9 + 0) + 0) + 0) + 0) (((1 * ((1 * r 14 + 0) + 0) + 0) + 0), ((1 * ((1 * r 15 + 0) + 0) + 0) + 0), ((1 * ((1 * r 5 + 0) + 0) + 0) + 0), ((1 * ((1 * r 6 + 0) + 0) + 0) + 0), ((1 * ((1 * r 7 + 0) + 0) + 0) + 0), ((1 * ((1 * r 8 + 0) + 0) + 0) + 0)) (((1 * ((1 * r 16 + 0) + 0) + 0) + 0), ((1 * ((1 * r 22 + 0) + 0) + 0) + 0), ((1 * ((1 * r 23 + 0) + 0) + 0) + 0), ((1 * ((1 * r 24 + 0) + 0) + 0) + 0), ((1 * ((1 * r 25 + 0) + 0) + 0) + 0)) (((1 * ((1 * r 26 + 0) + 0) + 0) + 0), ((1 * ((1 * r 27 + 0) + 0) + 0) + 0), ((1 * ((1 * r 17 + 0) + 0) + 0) + 0), ((1 * ((1 * r 18 + 0) + 0) + 0) + 0), ((1 * ((1 * r 19 + 0) + 0) + 0) + 0), ((1 * ((1 * r 20 + 0) + 0) + 0) + 0))) ∧ ((1 * r 18 + 0) + 0) = ye_ra (((1 * ((1 * r 16 + 0) + 0) + 0) + 0), ((1 * ((1 * r 22 + 0) + 0) + 0) + 0), ((1 * ((1 * r 23 + 0) + 0) + 0) + 0), ((1 * ((1 * r 24 + 0) + 0) + 0) + 0), ((1 * ((1 * r 25 + 0) + 0) + 0) + 0)) (((1 * ((1 * r 26 + 0) + 0) + 0) + 0), ((1 * ((1 * r 27 + 0) + 0) + 0) + 0), ((1 * ((1 * r 17 + 0) + 0) + 0) + 0), ((1 * ((1 * r 18 + 0) + 0) + 0) + 0), ((1 * ((1 * r 19 + 0) + 0) + 0) + 0), ((1 * ((1 * r 20 + 0) + 0) + 0) + 0)) ((1 * r 0 + 0) + 0))
  try simp only [Int.one_mul, Int.zero_add, Int.add_zero]
  try simp only [Int.one_mul, Int.zero_add, Int.add_zero] at e0
  rw [hgi] at e0
  refine Or.inr ⟨by omega, e0, ?_⟩
  unfold ye_ra
  dsimp only
  repeat' split
  all_goals omega
theorem xw_164_0_6 : yt_hold xT_164 xk_164 xq_164.2.2.1 xG_164 xP_164 xU_164 16 xk_164.2.1.2.2.2 (fun g0 r g => xR_164 r g0 ∧ g = g0) (1000, ([(4, 4), ((-2147483648), 2147483647), (0, 40), ((-2147483648), 2147483647), (0, 1), ((-9223372036854775808), 9223372036854775807), ((-9223372036854775808), 9223372036854775807), ((-9223372036854775808), 9223372036854775807), (0, 40), ((-2147483648), 2147483647), ((-600), 600), ((-600), 600), ((-1000000), 1000000), ((-1000000), 1000000), ((-9223372036854775808), 9223372036854775807), ((-9223372036854775808), 9223372036854775807), (1, 1), ((-9223372036854775808), 9223372036854775807), ((-9223372036854775808), 9223372036854775807), ((-9223372036854775808), 9223372036854775807), (0, 40), ((-2147483648), 2147483647), ((-600), 600), ((-600), 600), ((-1000000), 1000000), ((-1000000), 1000000), ((-9223372036854775808), 9223372036854775807), ((-9223372036854775808), 9223372036854775807)], []), [([(19, 1)], 0), ([(16, 1)], 0), ([(17, 1)], 0), ([(18, 1)], 0), ([(19, 1)], 0), ([(20, 1)], 0), ([(21, 1)], 0), ([(22, 1)], 0), ([(23, 1)], 0), ([(24, 1)], 0), ([(25, 1)], 0), ([(26, 1)], 0), ([(27, 1)], 0)], [], [.inr (.inr (.inl (305, 0, [([(4, 1)], 0), ([(5, 1)], 0), ([(6, 1)], 0), ([(7, 1)], 0), ([(8, 1)], 0), ([(9, 1)], 0), ([(10, 1)], 0), ([(11, 1)], 0), ([(12, 1)], 0), ([(13, 1)], 0), ([(14, 1)], 0), ([(15, 1)], 0), ([(2, 1)], 0), ([(3, 1)], 0), ([(16, 1)], 0), ([(17, 1)], 0), ([(18, 1)], 0), ([(19, 1)], 0), ([(20, 1)], 0), ([(21, 1)], 0), ([(22, 1)], 0), ([(23, 1)], 0), ([(24, 1)], 0), ([(25, 1)], 0), ([(26, 1)], 0), ([(27, 1)], 0)], [5, 6, 1, 2, 3, 4, 7], [])))]) := by
  intro g0 r gi g hok hh hars hfr hG
  have b0 : 4 ≤ r 0 ∧ r 0 ≤ 4 := hok.1 0 (4, 4) rfl
  have b16 : 1 ≤ r 16 ∧ r 16 ≤ 1 := hok.1 16 (1, 1) rfl
  have b17 : (-9223372036854775808) ≤ r 17 ∧ r 17 ≤ 9223372036854775807 := hok.1 17 ((-9223372036854775808), 9223372036854775807) rfl
  have b18 : (-9223372036854775808) ≤ r 18 ∧ r 18 ≤ 9223372036854775807 := hok.1 18 ((-9223372036854775808), 9223372036854775807) rfl
  have b19 : (-9223372036854775808) ≤ r 19 ∧ r 19 ≤ 9223372036854775807 := hok.1 19 ((-9223372036854775808), 9223372036854775807) rfl
  have b20 : 0 ≤ r 20 ∧ r 20 ≤ 40 := hok.1 20 (0, 40) rfl
  have b21 : (-2147483648) ≤ r 21 ∧ r 21 ≤ 2147483647 := hok.1 21 ((-2147483648), 2147483647) rfl
  have b22 : (-600) ≤ r 22 ∧ r 22 ≤ 600 := hok.1 22 ((-600), 600) rfl
  have b23 : (-600) ≤ r 23 ∧ r 23 ≤ 600 := hok.1 23 ((-600), 600) rfl
  have b24 : (-1000000) ≤ r 24 ∧ r 24 ≤ 1000000 := hok.1 24 ((-1000000), 1000000) rfl
  have b25 : (-1000000) ≤ r 25 ∧ r 25 ≤ 1000000 := hok.1 25 ((-1000000), 1000000) rfl
  have b26 : (-9223372036854775808) ≤ r 26 ∧ r 26 ≤ 9223372036854775807 := hok.1 26 ((-9223372036854775808), 9223372036854775807) rfl
  have b27 : (-9223372036854775808) ≤ r 27 ∧ r 27 ≤ 9223372036854775807 := hok.1 27 ((-9223372036854775808), 9223372036854775807) rfl
  obtain ⟨hG, hgi⟩ := hG
  have hG : True := hG
  obtain ⟨h0, hh, e0, k0⟩ := hh
  have k0 : ∀ j, j ∉ [] → g j = h0 j := k0
  have e0 : (ye_fd (h0 2) (h0 3) (h0 4) (((1 * ((1 * r 2 + 0) + 0) + 0) + 0)).toNat ((1 * ((1 * r 3 + 0) + 0) + 0) + 0) ((1 * ((1 * r 9 + 0) + 0) + 0) + 0) (((1 * ((1 * r 4 + 0) + 0) + 0) + 0), ((1 * ((1 * r 10 + 0) + 0) + 0) + 0), ((1 * ((1 * r 11 + 0) + 0) + 0) + 0), ((1 * ((1 * r 12 + 0) + 0) + 0) + 0), ((1 * ((1 * r 13 + 0) + 0) + 0) + 0)) ((1 * ((1 * r 21 + 0) + 0) + 0) + 0) (((1 * ((1 * r 16 + 0) + 0) + 0) + 0), ((1 * ((1 * r 22 + 0) + 0) + 0) + 0), ((1 * ((1 * r 23 + 0) + 0) + 0) + 0), ((1 * ((1 * r 24 + 0) + 0) + 0) + 0), ((1 * ((1 * r 25 + 0) + 0) + 0) + 0)) ∧ ye_fo (h0 2) (h0 3) (((1 * ((1 * r 2 + 0) + 0) + 0) + 0)).toNat ((1 * ((1 * r 3 + 0) + 0) + 0) + 0) ((1 * ((1 * r 9 + 0) + 0) + 0) + 0) (((1 * ((1 * r 14 + 0) + 0) + 0) + 0), ((1 * ((1 * r 15 + 0) + 0) + 0) + 0), ((1 * ((1 * r 5 + 0) + 0) + 0) + 0), ((1 * ((1 * r 6 + 0) + 0) + 0) + 0), ((1 * ((1 * r 7 + 0) + 0) + 0) + 0), ((1 * ((1 * r 8 + 0) + 0) + 0) + 0)) (((1 * ((1 * r 16 + 0) + 0) + 0) + 0), ((1 * ((1 * r 22 + 0) + 0) + 0) + 0), ((1 * ((1 * r 23 + 0) + 0) + 0) + 0), ((1 * ((1 * r 24 + 0) + 0) + 0) + 0), ((1 * ((1 * r 25 + 0) + 0) + 0) + 0)) (((1 * ((1 * r 26 + 0) + 0) + 0) + 0), ((1 * ((1 * r 27 + 0) + 0) + 0) + 0), ((1 * ((1 * r 17 + 0) + 0) + 0) + 0), ((1 * ((1 * r 18 + 0) + 0) + 0) + 0), ((1 * ((1 * r 19 + 0) + 0) + 0) + 0), ((1 * ((1 * r 20 + 0) + 0) + 0) + 0))) := e0
  have hh : h0 = gi := hh
  subst hh
  refine yt_dalt (by decide) (by decide) ?_
  rw [show xk_164.2.1.2.1.1.length = 16 from rfl]
  show (¬ (0 ≤ ((1 * r 0 + 0) + 0) ∧ ((1 * r 0 + 0) + 0) ≤ 5) ∧ ((1 * r 19 + 0) + 0) = -1 ∧ (((1 * ((1 * r 21 + 0) + 0) + 0) + 0) = ((1 * ((1 * r 9 + 0) + 0) + 0) + 0) ∧ (((1 * ((1 * r 16 + 0) + 0) + 0) + 0), ((1 * ((1 * r 22 + 0) + 0) + 0) + 0), ((1 * ((1 * r 23 + 0) + 0) + 0) + 0), ((1 * ((1 * r 24 + 0) + 0) + 0) + 0), ((1 * ((1 * r 25 + 0) + 0) + 0) + 0)) = (((1 * ((1 * r 4 + 0) + 0) + 0) + 0), ((1 * ((1 * r 10 + 0) + 0) + 0) + 0), ((1 * ((1 * r 11 + 0) + 0) + 0) + 0), ((1 * ((1 * r 12 + 0) + 0) + 0) + 0), ((1 * ((1 * r 13 + 0) + 0) + 0) + 0)) ∧ (((1 * ((1 * r 26 + 0) + 0) + 0) + 0), ((1 * ((1 * r 27 + 0) + 0) + 0) + 0), ((1 * ((1 * r 17 + 0) + 0) + 0) + 0), ((1 * ((1 * r 18 + 0) + 0) + 0) + 0), ((1 * ((1 * r 19 + 0) + 0) + 0) + 0), ((1 * ((1 * r 20 + 0) + 0) + 0) + 0)) = (((1 * ((1 * r 14 + 0) + 0) + 0) + 0), ((1 * ((1 * r 15 + 0) + 0) + 0) + 0), ((1 * ((1 * r 5 + 0) + 0) + 0) + 0), ((1 * ((1 * r 6 + 0) + 0) + 0) + 0), ((1 * ((1 * r 7 + 0) + 0) + 0) + 0), ((1 * ((1 * r 8 + 0) + 0) + 0) + 0)))) ∨ ((0 ≤ ((1 * r 0 + 0) + 0) ∧ ((1 * r 0 + 0) + 0) ≤ 5) ∧ (ye_fd (g0 2) (g0 3) (g0 4) (((1 * ((1 * r 2 + 0) + 0) + 0) + 0)).toNat ((1 * ((1 * r 3 + 0) + 0) + 0) + 0) ((1 * ((1 * r 9 + 0) + 0) + 0) + 0) (((1 * ((1 * r 4 + 0) + 0) + 0) + 0), ((1 * ((1 * r 10 + 0) + 0) + 0) + 0), ((1 * ((1 * r 11 + 0) + 0) + 0) + 0), ((1 * ((1 * r 12 + 0) + 0) + 0) + 0), ((1 * ((1 * r 13 + 0) + 0) + 0) + 0)) ((1 * ((1 * r 21 + 0) + 0) + 0) + 0) (((1 * ((1 * r 16 + 0) + 0) + 0) + 0), ((1 * ((1 * r 22 + 0) + 0) + 0) + 0), ((1 * ((1 * r 23 + 0) + 0) + 0) + 0), ((1 * ((1 * r 24 + 0) + 0) + 0) + 0), ((1 * ((1 * r 25 + 0) + 0) + 0) + 0)) ∧ ye_fo (g0 2) (g0 3) (((1 * ((1 * r 2 + 0) + 0) + 0) + 0)).toNat ((1 * ((1 * r 3 + 0) + 0) + 0) + 0) ((1 * ((1 * r 9 + 0) + 0) + 0) + 0) (((1 * ((1 * r 14 + 0) + 0) + 0) + 0), ((1 * ((1 * r 15 + 0) + 0) + 0) + 0), ((1 * ((1 * r 5 + 0) + 0) + 0) + 0), ((1 * ((1 * r 6 + 0) + 0) + 0) + 0), ((1 * ((1 * r 7 + 0) + 0) + 0) + 0), ((1 * ((1 * r 8 + 0) + 0) + 0) + 0)) (((1 * ((1 * r 16 + 0) + 0) + 0) + 0), ((1 * ((1 * r 22 + 0) + 0) + 0) + 0), ((1 * ((1 * r 23 + 0) + 0) + 0) + 0), ((1 * ((1 * r 24 + 0) + 0) + 0) + 0), ((1 * ((1 * r 25 + 0) + 0) + 0) + 0)) (((1 * ((1 * r 26 + 0) + 0) + 0) + 0), ((1 * ((1 * r 27 + 0) + 0) + 0) + 0), ((1 * ((1 * r 17 + 0) + 0) + 0) + 0), ((1 * ((1 * r 18 + 0) + 0) + 0) + 0), ((1 * ((1 * r 19 + 0) + 0) + 0) + 0), ((1 * ((1 * r 20 + 0) + 0) + 0) + 0))) ∧ ((1 * r 19 + 0) + 0) = ye_ra (((1 * ((1 * r 16 + 0) + 0) + 0) + 0), ((1 * ((1 * r 22 + 0) + 0) + 0) + 0), ((1 * ((1 * r 23 + 0) + 0) + 0) + 0), ((1 * ((1 * r 24 + 0) + 0) + 0) + 0), ((1 * ((1 * r 25 + 0) + 0) + 0) + 0)) (((1 * ((1 * r 26 + 0) + 0) + 0) + 0), ((1 * ((1 * r 27 + 0) + 0) + 0) + 0), ((1 * ((1 * r 17 + 0) + 0) + 0) + 0), ((1 * ((1 * r 18 + 0) + 0) + 0) + 0), ((1 * ((1 * r 19 + 0) + 0) + 0) + 0), ((1 * ((1 * r 20 + 0) + 0) + 0) + 0)) ((1 * r 0 + 0) + 0))
  try simp only [Int.one_mul, Int.zero_add, Int.add_zero]
  try simp only [Int.one_mul, Int.zero_add, Int.add_zero] at e0
  rw [hgi] at e0
  refine Or.inr ⟨by omega, e0, ?_⟩
  unfold ye_ra
  dsimp only
  repeat' split
  all_goals omega
theorem xw_164_0_7 : yt_hold xT_164 xk_164 xq_164.2.2.1 xG_164 xP_164 xU_164 16 xk_164.2.1.2.2.2 (fun g0 r g => xR_164 r g0 ∧ g = g0) (1000, ([(0, 5), ((-2147483648), 2147483647), (0, 40), ((-2147483648), 2147483647), (0, 1), ((-9223372036854775808), 9223372036854775807), ((-9223372036854775808), 9223372036854775807), ((-9223372036854775808), 9223372036854775807), (0, 40), ((-2147483648), 2147483647), ((-600), 600), ((-600), 600), ((-1000000), 1000000), ((-1000000), 1000000), ((-9223372036854775808), 9223372036854775807), ((-9223372036854775808), 9223372036854775807), (0, 0), ((-9223372036854775808), 9223372036854775807), ((-9223372036854775808), 9223372036854775807), ((-9223372036854775808), 9223372036854775807), (0, 40), ((-2147483648), 2147483647), ((-600), 600), ((-600), 600), ((-1000000), 1000000), ((-1000000), 1000000), ((-9223372036854775808), 9223372036854775807), ((-9223372036854775808), 9223372036854775807)], []), [([], (-6)), ([(16, 1)], 0), ([(17, 1)], 0), ([(18, 1)], 0), ([(19, 1)], 0), ([(20, 1)], 0), ([(21, 1)], 0), ([(22, 1)], 0), ([(23, 1)], 0), ([(24, 1)], 0), ([(25, 1)], 0), ([(26, 1)], 0), ([(27, 1)], 0)], [], [.inr (.inr (.inl (305, 0, [([(4, 1)], 0), ([(5, 1)], 0), ([(6, 1)], 0), ([(7, 1)], 0), ([(8, 1)], 0), ([(9, 1)], 0), ([(10, 1)], 0), ([(11, 1)], 0), ([(12, 1)], 0), ([(13, 1)], 0), ([(14, 1)], 0), ([(15, 1)], 0), ([(2, 1)], 0), ([(3, 1)], 0), ([(16, 1)], 0), ([(17, 1)], 0), ([(18, 1)], 0), ([(19, 1)], 0), ([(20, 1)], 0), ([(21, 1)], 0), ([(22, 1)], 0), ([(23, 1)], 0), ([(24, 1)], 0), ([(25, 1)], 0), ([(26, 1)], 0), ([(27, 1)], 0)], [5, 6, 1, 2, 3, 4, 7], [])))]) := by
  intro g0 r gi g hok hh hars hfr hG
  have b0 : 0 ≤ r 0 ∧ r 0 ≤ 5 := hok.1 0 (0, 5) rfl
  have b16 : 0 ≤ r 16 ∧ r 16 ≤ 0 := hok.1 16 (0, 0) rfl
  have b17 : (-9223372036854775808) ≤ r 17 ∧ r 17 ≤ 9223372036854775807 := hok.1 17 ((-9223372036854775808), 9223372036854775807) rfl
  have b18 : (-9223372036854775808) ≤ r 18 ∧ r 18 ≤ 9223372036854775807 := hok.1 18 ((-9223372036854775808), 9223372036854775807) rfl
  have b19 : (-9223372036854775808) ≤ r 19 ∧ r 19 ≤ 9223372036854775807 := hok.1 19 ((-9223372036854775808), 9223372036854775807) rfl
  have b20 : 0 ≤ r 20 ∧ r 20 ≤ 40 := hok.1 20 (0, 40) rfl
  have b21 : (-2147483648) ≤ r 21 ∧ r 21 ≤ 2147483647 := hok.1 21 ((-2147483648), 2147483647) rfl
  have b22 : (-600) ≤ r 22 ∧ r 22 ≤ 600 := hok.1 22 ((-600), 600) rfl
  have b23 : (-600) ≤ r 23 ∧ r 23 ≤ 600 := hok.1 23 ((-600), 600) rfl
  have b24 : (-1000000) ≤ r 24 ∧ r 24 ≤ 1000000 := hok.1 24 ((-1000000), 1000000) rfl
  have b25 : (-1000000) ≤ r 25 ∧ r 25 ≤ 1000000 := hok.1 25 ((-1000000), 1000000) rfl
  have b26 : (-9223372036854775808) ≤ r 26 ∧ r 26 ≤ 9223372036854775807 := hok.1 26 ((-9223372036854775808), 9223372036854775807) rfl
  have b27 : (-9223372036854775808) ≤ r 27 ∧ r 27 ≤ 9223372036854775807 := hok.1 27 ((-9223372036854775808), 9223372036854775807) rfl
  obtain ⟨hG, hgi⟩ := hG
  have hG : True := hG
  obtain ⟨h0, hh, e0, k0⟩ := hh
  have k0 : ∀ j, j ∉ [] → g j = h0 j := k0
  have e0 : (ye_fd (h0 2) (h0 3) (h0 4) (((1 * ((1 * r 2 + 0) + 0) + 0) + 0)).toNat ((1 * ((1 * r 3 + 0) + 0) + 0) + 0) ((1 * ((1 * r 9 + 0) + 0) + 0) + 0) (((1 * ((1 * r 4 + 0) + 0) + 0) + 0), ((1 * ((1 * r 10 + 0) + 0) + 0) + 0), ((1 * ((1 * r 11 + 0) + 0) + 0) + 0), ((1 * ((1 * r 12 + 0) + 0) + 0) + 0), ((1 * ((1 * r 13 + 0) + 0) + 0) + 0)) ((1 * ((1 * r 21 + 0) + 0) + 0) + 0) (((1 * ((1 * r 16 + 0) + 0) + 0) + 0), ((1 * ((1 * r 22 + 0) + 0) + 0) + 0), ((1 * ((1 * r 23 + 0) + 0) + 0) + 0), ((1 * ((1 * r 24 + 0) + 0) + 0) + 0), ((1 * ((1 * r 25 + 0) + 0) + 0) + 0)) ∧ ye_fo (h0 2) (h0 3) (((1 * ((1 * r 2 + 0) + 0) + 0) + 0)).toNat ((1 * ((1 * r 3 + 0) + 0) + 0) + 0) ((1 * ((1 * r 9 + 0) + 0) + 0) + 0) (((1 * ((1 * r 14 + 0) + 0) + 0) + 0), ((1 * ((1 * r 15 + 0) + 0) + 0) + 0), ((1 * ((1 * r 5 + 0) + 0) + 0) + 0), ((1 * ((1 * r 6 + 0) + 0) + 0) + 0), ((1 * ((1 * r 7 + 0) + 0) + 0) + 0), ((1 * ((1 * r 8 + 0) + 0) + 0) + 0)) (((1 * ((1 * r 16 + 0) + 0) + 0) + 0), ((1 * ((1 * r 22 + 0) + 0) + 0) + 0), ((1 * ((1 * r 23 + 0) + 0) + 0) + 0), ((1 * ((1 * r 24 + 0) + 0) + 0) + 0), ((1 * ((1 * r 25 + 0) + 0) + 0) + 0)) (((1 * ((1 * r 26 + 0) + 0) + 0) + 0), ((1 * ((1 * r 27 + 0) + 0) + 0) + 0), ((1 * ((1 * r 17 + 0) + 0) + 0) + 0), ((1 * ((1 * r 18 + 0) + 0) + 0) + 0), ((1 * ((1 * r 19 + 0) + 0) + 0) + 0), ((1 * ((1 * r 20 + 0) + 0) + 0) + 0))) := e0
  have hh : h0 = gi := hh
  subst hh
  refine yt_dalt (by decide) (by decide) ?_
  rw [show xk_164.2.1.2.1.1.length = 16 from rfl]
  show (¬ (0 ≤ ((1 * r 0 + 0) + 0) ∧ ((1 * r 0 + 0) + 0) ≤ 5) ∧ ((0 : Int) + (-6)) = -1 ∧ (((1 * ((1 * r 21 + 0) + 0) + 0) + 0) = ((1 * ((1 * r 9 + 0) + 0) + 0) + 0) ∧ (((1 * ((1 * r 16 + 0) + 0) + 0) + 0), ((1 * ((1 * r 22 + 0) + 0) + 0) + 0), ((1 * ((1 * r 23 + 0) + 0) + 0) + 0), ((1 * ((1 * r 24 + 0) + 0) + 0) + 0), ((1 * ((1 * r 25 + 0) + 0) + 0) + 0)) = (((1 * ((1 * r 4 + 0) + 0) + 0) + 0), ((1 * ((1 * r 10 + 0) + 0) + 0) + 0), ((1 * ((1 * r 11 + 0) + 0) + 0) + 0), ((1 * ((1 * r 12 + 0) + 0) + 0) + 0), ((1 * ((1 * r 13 + 0) + 0) + 0) + 0)) ∧ (((1 * ((1 * r 26 + 0) + 0) + 0) + 0), ((1 * ((1 * r 27 + 0) + 0) + 0) + 0), ((1 * ((1 * r 17 + 0) + 0) + 0) + 0), ((1 * ((1 * r 18 + 0) + 0) + 0) + 0), ((1 * ((1 * r 19 + 0) + 0) + 0) + 0), ((1 * ((1 * r 20 + 0) + 0) + 0) + 0)) = (((1 * ((1 * r 14 + 0) + 0) + 0) + 0), ((1 * ((1 * r 15 + 0) + 0) + 0) + 0), ((1 * ((1 * r 5 + 0) + 0) + 0) + 0), ((1 * ((1 * r 6 + 0) + 0) + 0) + 0), ((1 * ((1 * r 7 + 0) + 0) + 0) + 0), ((1 * ((1 * r 8 + 0) + 0) + 0) + 0)))) ∨ ((0 ≤ ((1 * r 0 + 0) + 0) ∧ ((1 * r 0 + 0) + 0) ≤ 5) ∧ (ye_fd (g0 2) (g0 3) (g0 4) (((1 * ((1 * r 2 + 0) + 0) + 0) + 0)).toNat ((1 * ((1 * r 3 + 0) + 0) + 0) + 0) ((1 * ((1 * r 9 + 0) + 0) + 0) + 0) (((1 * ((1 * r 4 + 0) + 0) + 0) + 0), ((1 * ((1 * r 10 + 0) + 0) + 0) + 0), ((1 * ((1 * r 11 + 0) + 0) + 0) + 0), ((1 * ((1 * r 12 + 0) + 0) + 0) + 0), ((1 * ((1 * r 13 + 0) + 0) + 0) + 0)) ((1 * ((1 * r 21 + 0) + 0) + 0) + 0) (((1 * ((1 * r 16 + 0) + 0) + 0) + 0), ((1 * ((1 * r 22 + 0) + 0) + 0) + 0), ((1 * ((1 * r 23 + 0) + 0) + 0) + 0), ((1 * ((1 * r 24 + 0) + 0) + 0) + 0), ((1 * ((1 * r 25 + 0) + 0) + 0) + 0)) ∧ ye_fo (g0 2) (g0 3) (((1 * ((1 * r 2 + 0) + 0) + 0) + 0)).toNat ((1 * ((1 * r 3 + 0) + 0) + 0) + 0) ((1 * ((1 * r 9 + 0) + 0) + 0) + 0) (((1 * ((1 * r 14 + 0) + 0) + 0) + 0), ((1 * ((1 * r 15 + 0) + 0) + 0) + 0), ((1 * ((1 * r 5 + 0) + 0) + 0) + 0), ((1 * ((1 * r 6 + 0) + 0) + 0) + 0), ((1 * ((1 * r 7 + 0) + 0) + 0) + 0), ((1 * ((1 * r 8 + 0) + 0) + 0) + 0)) (((1 * ((1 * r 16 + 0) + 0) + 0) + 0), ((1 * ((1 * r 22 + 0) + 0) + 0) + 0), ((1 * ((1 * r 23 + 0) + 0) + 0) + 0), ((1 * ((1 * r 24 + 0) + 0) + 0) + 0), ((1 * ((1 * r 25 + 0) + 0) + 0) + 0)) (((1 * ((1 * r 26 + 0) + 0) + 0) + 0), ((1 * ((1 * r 27 + 0) + 0) + 0) + 0), ((1 * ((1 * r 17 + 0) + 0) + 0) + 0), ((1 * ((1 * r 18 + 0) + 0) + 0) + 0), ((1 * ((1 * r 19 + 0) + 0) + 0) + 0), ((1 * ((1 * r 20 + 0) + 0) + 0) + 0))) ∧ ((0 : Int) + (-6)) = ye_ra (((1 * ((1 * r 16 + 0) + 0) + 0) + 0), ((1 * ((1 * r 22 + 0) + 0) + 0) + 0), ((1 * ((1 * r 23 + 0) + 0) + 0) + 0), ((1 * ((1 * r 24 + 0) + 0) + 0) + 0), ((1 * ((1 * r 25 + 0) + 0) + 0) + 0)) (((1 * ((1 * r 26 + 0) + 0) + 0) + 0), ((1 * ((1 * r 27 + 0) + 0) + 0) + 0), ((1 * ((1 * r 17 + 0) + 0) + 0) + 0), ((1 * ((1 * r 18 + 0) + 0) + 0) + 0), ((1 * ((1 * r 19 + 0) + 0) + 0) + 0), ((1 * ((1 * r 20 + 0) + 0) + 0) + 0)) ((1 * r 0 + 0) + 0))
  try simp only [Int.one_mul, Int.zero_add, Int.add_zero]
  try simp only [Int.one_mul, Int.zero_add, Int.add_zero] at e0
  rw [hgi] at e0
  refine Or.inr ⟨by omega, e0, ?_⟩
  unfold ye_ra
  dsimp only
  repeat' split
  all_goals omega
theorem xw_164_0_8 : yt_hold xT_164 xk_164 xq_164.2.2.1 xG_164 xP_164 xU_164 16 xk_164.2.1.2.2.2 (fun g0 r g => xR_164 r g0 ∧ g = g0) (1000, ([(6, 2147483647), ((-2147483648), 2147483647), (0, 40), ((-2147483648), 2147483647), (0, 1), ((-9223372036854775808), 9223372036854775807), ((-9223372036854775808), 9223372036854775807), ((-9223372036854775808), 9223372036854775807), (0, 40), ((-2147483648), 2147483647), ((-600), 600), ((-600), 600), ((-1000000), 1000000), ((-1000000), 1000000), ((-9223372036854775808), 9223372036854775807), ((-9223372036854775808), 9223372036854775807)], []), [([], (-1)), ([(4, 1)], 0), ([(5, 1)], 0), ([(6, 1)], 0), ([(7, 1)], 0), ([(8, 1)], 0), ([(9, 1)], 0), ([(10, 1)], 0), ([(11, 1)], 0), ([(12, 1)], 0), ([(13, 1)], 0), ([(14, 1)], 0), ([(15, 1)], 0)], [], []) := by
  intro g0 r gi g hok hh hars hfr hG
  have b0 : 6 ≤ r 0 ∧ r 0 ≤ 2147483647 := hok.1 0 (6, 2147483647) rfl
  obtain ⟨hG, hgi⟩ := hG
  have hG : True := hG
  have hh : g = gi := hh
  subst hh
  refine yt_dalt (by decide) (by decide) ?_
  rw [show xk_164.2.1.2.1.1.length = 16 from rfl]
  show (¬ (0 ≤ ((1 * r 0 + 0) + 0) ∧ ((1 * r 0 + 0) + 0) ≤ 5) ∧ ((0 : Int) + (-1)) = -1 ∧ (((1 * ((1 * r 9 + 0) + 0) + 0) + 0) = ((1 * ((1 * r 9 + 0) + 0) + 0) + 0) ∧ (((1 * ((1 * r 4 + 0) + 0) + 0) + 0), ((1 * ((1 * r 10 + 0) + 0) + 0) + 0), ((1 * ((1 * r 11 + 0) + 0) + 0) + 0), ((1 * ((1 * r 12 + 0) + 0) + 0) + 0), ((1 * ((1 * r 13 + 0) + 0) + 0) + 0)) = (((1 * ((1 * r 4 + 0) + 0) + 0) + 0), ((1 * ((1 * r 10 + 0) + 0) + 0) + 0), ((1 * ((1 * r 11 + 0) + 0) + 0) + 0), ((1 * ((1 * r 12 + 0) + 0) + 0) + 0), ((1 * ((1 * r 13 + 0) + 0) + 0) + 0)) ∧ (((1 * ((1 * r 14 + 0) + 0) + 0) + 0), ((1 * ((1 * r 15 + 0) + 0) + 0) + 0), ((1 * ((1 * r 5 + 0) + 0) + 0) + 0), ((1 * ((1 * r 6 + 0) + 0) + 0) + 0), ((1 * ((1 * r 7 + 0) + 0) + 0) + 0), ((1 * ((1 * r 8 + 0) + 0) + 0) + 0)) = (((1 * ((1 * r 14 + 0) + 0) + 0) + 0), ((1 * ((1 * r 15 + 0) + 0) + 0) + 0), ((1 * ((1 * r 5 + 0) + 0) + 0) + 0), ((1 * ((1 * r 6 + 0) + 0) + 0) + 0), ((1 * ((1 * r 7 + 0) + 0) + 0) + 0), ((1 * ((1 * r 8 + 0) + 0) + 0) + 0)))) ∨ ((0 ≤ ((1 * r 0 + 0) + 0) ∧ ((1 * r 0 + 0) + 0) ≤ 5) ∧ (ye_fd (g0 2) (g0 3) (g0 4) (((1 * ((1 * r 2 + 0) + 0) + 0) + 0)).toNat ((1 * ((1 * r 3 + 0) + 0) + 0) + 0) ((1 * ((1 * r 9 + 0) + 0) + 0) + 0) (((1 * ((1 * r 4 + 0) + 0) + 0) + 0), ((1 * ((1 * r 10 + 0) + 0) + 0) + 0), ((1 * ((1 * r 11 + 0) + 0) + 0) + 0), ((1 * ((1 * r 12 + 0) + 0) + 0) + 0), ((1 * ((1 * r 13 + 0) + 0) + 0) + 0)) ((1 * ((1 * r 9 + 0) + 0) + 0) + 0) (((1 * ((1 * r 4 + 0) + 0) + 0) + 0), ((1 * ((1 * r 10 + 0) + 0) + 0) + 0), ((1 * ((1 * r 11 + 0) + 0) + 0) + 0), ((1 * ((1 * r 12 + 0) + 0) + 0) + 0), ((1 * ((1 * r 13 + 0) + 0) + 0) + 0)) ∧ ye_fo (g0 2) (g0 3) (((1 * ((1 * r 2 + 0) + 0) + 0) + 0)).toNat ((1 * ((1 * r 3 + 0) + 0) + 0) + 0) ((1 * ((1 * r 9 + 0) + 0) + 0) + 0) (((1 * ((1 * r 14 + 0) + 0) + 0) + 0), ((1 * ((1 * r 15 + 0) + 0) + 0) + 0), ((1 * ((1 * r 5 + 0) + 0) + 0) + 0), ((1 * ((1 * r 6 + 0) + 0) + 0) + 0), ((1 * ((1 * r 7 + 0) + 0) + 0) + 0), ((1 * ((1 * r 8 + 0) + 0) + 0) + 0)) (((1 * ((1 * r 4 + 0) + 0) + 0) + 0), ((1 * ((1 * r 10 + 0) + 0) + 0) + 0), ((1 * ((1 * r 11 + 0) + 0) + 0) + 0), ((1 * ((1 * r 12 + 0) + 0) + 0) + 0), ((1 * ((1 * r 13 + 0) + 0) + 0) + 0)) (((1 * ((1 * r 14 + 0) + 0) + 0) + 0), ((1 * ((1 * r 15 + 0) + 0) + 0) + 0), ((1 * ((1 * r 5 + 0) + 0) + 0) + 0), ((1 * ((1 * r 6 + 0) + 0) + 0) + 0), ((1 * ((1 * r 7 + 0) + 0) + 0) + 0), ((1 * ((1 * r 8 + 0) + 0) + 0) + 0))) ∧ ((0 : Int) + (-1)) = ye_ra (((1 * ((1 * r 4 + 0) + 0) + 0) + 0), ((1 * ((1 * r 10 + 0) + 0) + 0) + 0), ((1 * ((1 * r 11 + 0) + 0) + 0) + 0), ((1 * ((1 * r 12 + 0) + 0) + 0) + 0), ((1 * ((1 * r 13 + 0) + 0) + 0) + 0)) (((1 * ((1 * r 14 + 0) + 0) + 0) + 0), ((1 * ((1 * r 15 + 0) + 0) + 0) + 0), ((1 * ((1 * r 5 + 0) + 0) + 0) + 0), ((1 * ((1 * r 6 + 0) + 0) + 0) + 0), ((1 * ((1 * r 7 + 0) + 0) + 0) + 0), ((1 * ((1 * r 8 + 0) + 0) + 0) + 0)) ((1 * r 0 + 0) + 0))
  try simp only [Int.one_mul, Int.zero_add, Int.add_zero]
  exact Or.inl ⟨by omega, by first | rfl | trivial, ⟨by first | rfl | trivial, by first | rfl | trivial, by first | rfl | trivial⟩⟩
theorem xn_164 : ∀ (j : Nat) (q : Nat × yt_T), xq_164.2.2.1[j]? = some q → q.2.2.2 = false → ∀ g0 r g, xG_164 j g0 r g
  | n + 0, q, hq, _ => by cases hq
theorem xs_164 : ∀ j, xq_164.2.2.2.getD j false = false → ∀ r g g', xP_164 j r g g'
  | 0, hf => by cases hf
  | n + 1, _ => fun _ _ _ => trivial
theorem xc_164 {l : Launch} {D : va_G} {cT : Nat → ClassId} {tys : List (ClassId × FieldType)} (hty : yx_Ty tys cT) : yt_Con l D vwCl cT tys yG yw_s56 xk_164 xR_164 xP_164 := yx_sem (calls := xa_164) (Z := xq_164) (tb := xT_164) (pt := xU_164) (Ga := xG_164) (vs := xv_164) (fun _ _ _ _ => trivial) 300 (by decide +kernel) yz_X11_wide_ok hty (yl_lkX11 _) (yl_cqkX11 _) (List.forall_mem_cons.mpr ⟨⟨xc_90 hty, yg_CLv rfl rfl rfl yl_wX11_190 yd_yX10_find, fun _ _ _ => trivial⟩, fun _ h => absurd h List.not_mem_nil⟩) (xn_164) (xs_164) (by decide +kernel) (List.forall_mem_cons.mpr ⟨xw_164_0_0, List.forall_mem_cons.mpr ⟨xw_164_0_1, List.forall_mem_cons.mpr ⟨xw_164_0_2, List.forall_mem_cons.mpr ⟨xw_164_0_3, List.forall_mem_cons.mpr ⟨xw_164_0_4, List.forall_mem_cons.mpr ⟨xw_164_0_5, List.forall_mem_cons.mpr ⟨xw_164_0_6, List.forall_mem_cons.mpr ⟨xw_164_0_7, List.forall_mem_cons.mpr ⟨xw_164_0_8, fun _ h => absurd h List.not_mem_nil⟩⟩⟩⟩⟩⟩⟩⟩⟩) (trivial)
noncomputable def xf_165 : ys_F := (yw_f28 2, yw_r28)
noncomputable def xk_165 : ys_K := (((yX8_put, cX8_put, 4, none), (1, 22)), ([.inr (some 0), .inl (.inl ([(0, 1)], 0)), .inl (.inr ([(1, 1)], 0))], ([(0, 99), ((-9223372036854775808), 9223372036854775807)] ++ yw_e28, []), xf_165), ([([], [], (xf_165.1, xf_165.2), none)], [1]))
noncomputable def xq_165 : yt_Q := (yz_X8_put, (yl_flX8, yl_ciX8, yl_cjX8, yl_cpX8, yl_cqX8), [], [true])
noncomputable def xa_165 : List yt_CE := [(((32, false), (95, false, [0, 1])), (yw_s27, xk_37))]
noncomputable def xv_165 : List (List yt_VC) := [[(1000, ([(0, 99), ((-9223372036854775808), 9223372036854775807), (0, 1), ((-2147483648), 2147483647), (0, 100), ((-9223372036854775808), 9223372036854775807)], []), [], [], [.inr (.inl (1, ([(0, 1)], 0), ([(5, 1)], 0))), .inr (.inr (.inl (95, 0, [([(1, 1)], 0), ([(2, 1)], 0), ([(3, 1)], 0), ([(4, 1)], 0), ([(5, 1)], 0)], [0, 1], [])))])]]
noncomputable def xG_165 : Nat → yt_G → (Nat → Int) → yt_G → Prop
  | _, _, _, _ => True
noncomputable def xP_165 : yt_Ph
  | 0, r, g0, g => (g 1) = yq_set (g0 1) ((r 0)).toNat (yq_cut (r 3) (r 1))
  | _, _, _, _ => True
noncomputable def xR_165 : yt_Ps := fun r g0 => True
noncomputable def xT_165 : yt_Tb := fun d => match d with
  | 95 => xP_37
  | _ => fun _ _ _ _ => True
noncomputable def xU_165 : Nat → yt_Ps := fun d => match d with
  | 95 => xR_37
  | _ => fun _ _ => True
theorem xw_165_0_0 : yt_hold xT_165 xk_165 xq_165.2.2.1 xG_165 xP_165 xU_165 5 xk_165.2.1.2.2.2 (fun g0 r g => xR_165 r g0 ∧ g = g0) (1000, ([(0, 99), ((-9223372036854775808), 9223372036854775807), (0, 1), ((-2147483648), 2147483647), (0, 100), ((-9223372036854775808), 9223372036854775807)], []), [], [], [.inr (.inl (1, ([(0, 1)], 0), ([(5, 1)], 0))), .inr (.inr (.inl (95, 0, [([(1, 1)], 0), ([(2, 1)], 0), ([(3, 1)], 0), ([(4, 1)], 0), ([(5, 1)], 0)], [0, 1], [])))]) := by
  intro g0 r gi g hok hh hars hfr hG
  have b0 : 0 ≤ r 0 ∧ r 0 ≤ 99 := hok.1 0 (0, 99) rfl
  have b1 : (-9223372036854775808) ≤ r 1 ∧ r 1 ≤ 9223372036854775807 := hok.1 1 ((-9223372036854775808), 9223372036854775807) rfl
  have b5 : (-9223372036854775808) ≤ r 5 ∧ r 5 ≤ 9223372036854775807 := hok.1 5 ((-9223372036854775808), 9223372036854775807) rfl
  obtain ⟨hG, hgi⟩ := hG
  have hG : True := hG
  obtain ⟨h0, hh, e0⟩ := hh
  have e0 : g = ys_gup h0 1 (((1 * r 0 + 0) + 0)).toNat ((1 * r 5 + 0) + 0) := e0
  obtain ⟨h1, hh, e1, k1⟩ := hh
  have k1 : ∀ j, j ∉ [] → h0 j = h1 j := k1
  have e1 : ((1 * r 5 + 0) + 0) = yq_cut ((1 * r 3 + 0) + 0) ((1 * r 1 + 0) + 0) := e1
  have hh : h1 = gi := hh
  subst hh
  refine yt_dalt (by decide) (by decide) ?_
  rw [show xk_165.2.1.2.1.1.length = 5 from rfl]
  show (g 1) = yq_set (g0 1) (((1 * r 0 + 0) + 0)).toNat (yq_cut ((1 * r 3 + 0) + 0) ((1 * r 1 + 0) + 0))
  try simp only [Int.one_mul, Int.zero_add, Int.add_zero]
  try simp only [Int.one_mul, Int.zero_add, Int.add_zero] at e0
  try simp only [Int.one_mul, Int.zero_add, Int.add_zero] at e1
  rw [e0, yq_gup_self, k1 1 (by decide), hgi, e1]
  
theorem xn_165 : ∀ (j : Nat) (q : Nat × yt_T), xq_165.2.2.1[j]? = some q → q.2.2.2 = false → ∀ g0 r g, xG_165 j g0 r g
  | n + 0, q, hq, _ => by cases hq
theorem xs_165 : ∀ j, xq_165.2.2.2.getD j false = false → ∀ r g g', xP_165 j r g g'
  | 0, hf => by cases hf
  | n + 1, _ => fun _ _ _ => trivial
theorem xc_165 {l : Launch} {D : va_G} {cT : Nat → ClassId} {tys : List (ClassId × FieldType)} (hty : yx_Ty tys cT) : yt_Con l D vwCl cT tys yG yw_s28 xk_165 xR_165 xP_165 := yx_sem (calls := xa_165) (Z := xq_165) (tb := xT_165) (pt := xU_165) (Ga := xG_165) (vs := xv_165) (fun _ _ _ _ => trivial) 300 (by decide +kernel) yz_X8_put_ok hty (yl_lkX8 _) (yl_cqkX8 _) (List.forall_mem_cons.mpr ⟨⟨xc_37 hty, yg_CLv rfl rfl rfl yl_wX8_32 yd_yX8_cut, fun _ _ _ => trivial⟩, fun _ h => absurd h List.not_mem_nil⟩) (xn_165) (xs_165) (by decide +kernel) (List.forall_mem_cons.mpr ⟨xw_165_0_0, fun _ h => absurd h List.not_mem_nil⟩) (trivial)
noncomputable def xf_166 : ys_F := (yw_f30 3, yw_r30)
noncomputable def xk_166 : ys_K := (((yX11_write, cX11_write, 5, (some .int)), (2, 45)), ([.inr (some 0), .inl (.inl ([(0, 1)], 0)), .inl (.inl ([(1, 1)], 0)), .inl (.inr ([(2, 1)], 0))], ([((-2147483648), 2147483647), ((-2147483648), 2147483647), ((-9223372036854775808), 9223372036854775807)] ++ yw_e30, []), xf_166), ([([((-3), 0), ((-2147483648), 0)], [], ((ys_fs xf_166.1 [(0, 14, .inl (.inl ([(17, 1)], 0)))]), xf_166.2), some (.inl (.inl ([(16, 1)], 0))))], [3, 5, 7, 9]))
noncomputable def xq_166 : yt_Q := (yz_X11_write, (yl_flX11, yl_ciX11, yl_cjX11, yl_cpX11, yl_cqX11), [], [true])
noncomputable def xa_166 : List yt_CE := [(((141, true), (0, false, [])), (yw_s2, xk_35)), (((107, false), (0, false, [0, 10, 11, 12, 1, 13, 14, 15, 16, 17, 18, 19, 20, 21, 22])), (yw_s3, xk_3)), (((155, false), (0, false, [8, 9])), (yw_s27, xk_128)), (((156, false), (97, false, [8, 9])), (yw_s28, xk_165)), (((155, false), (0, false, [6, 7])), (yw_s27, xk_128)), (((156, false), (97, false, [6, 7])), (yw_s28, xk_165)), (((155, false), (0, false, [4, 5])), (yw_s27, xk_128)), (((156, false), (97, false, [4, 5])), (yw_s28, xk_165)), (((155, false), (0, false, [2, 3])), (yw_s27, xk_128)), (((156, false), (97, false, [2, 3])), (yw_s28, xk_165))]
noncomputable def xv_166 : List (List yt_VC) := [[(1000, ([((-2147483648), (-1)), ((-2147483648), 2147483647), ((-9223372036854775808), 9223372036854775807), ((-2147483648), 2147483647), (0, 1), ((-2147483648), 2147483647), (0, 100), (0, 1), ((-2147483648), 2147483647), (0, 100), (0, 1), ((-2147483648), 2147483647), (0, 100), (0, 1), ((-2147483648), 2147483647), (0, 100), ((-2147483648), 0)], []), [([], (-1)), ([(16, 1)], 0)], [], []),
   (1000, ([(4, 2147483647), ((-2147483648), 2147483647), ((-9223372036854775808), 9223372036854775807), ((-2147483648), 2147483647), (0, 1), ((-2147483648), 2147483647), (0, 100), (0, 1), ((-2147483648), 2147483647), (0, 100), (0, 1), ((-2147483648), 2147483647), (0, 100), (0, 1), ((-2147483648), 2147483647), (0, 100), ((-2147483648), 0)], []), [([], (-1)), ([(16, 1)], 0)], [], []),
   (1000, ([(0, 0), ((-2147483648), (-1)), ((-9223372036854775808), 9223372036854775807), ((-2147483648), 2147483647), (1, 1), ((-2147483648), 2147483647), (0, 100), (0, 1), ((-2147483648), 2147483647), (0, 100), (0, 1), ((-2147483648), 2147483647), (0, 100), (0, 1), ((-2147483648), 2147483647), (0, 100), ((-2147483648), 0)], []), [([], (-3)), ([(16, 1)], 0)], [], []),
   (1000, ([(0, 0), (0, 2147483647), ((-9223372036854775808), 9223372036854775807), ((-2147483648), 2147483647), (1, 1), ((-2147483648), 2147483647), (0, 100), (0, 1), ((-2147483648), 2147483647), (0, 100), (0, 1), ((-2147483648), 2147483647), (0, 100), (0, 1), ((-2147483648), 2147483647), (0, 100), ((-2147483648), 0)], [([(6, (-1)), (1, 1)], 0)]), [([], (-3)), ([(16, 1)], 0)], [], []),
   (1000, ([(0, 0), (0, 99), ((-9223372036854775808), 9223372036854775807), ((-2147483648), 2147483647), (1, 1), ((-2147483648), 2147483647), (1, 100), (0, 1), ((-2147483648), 2147483647), (0, 100), (0, 1), ((-2147483648), 2147483647), (0, 100), (0, 1), ((-2147483648), 2147483647), (0, 100), ((-2147483648), 0)], [([(6, 1), (1, (-1))], (-1))]), [([], 0), ([(16, 1)], 0)], [], [.inr (.inr (.inl (97, 0, [([(1, 1)], 0), ([(2, 1)], 0), ([(4, 1)], 0), ([(5, 1)], 0), ([(6, 1)], 0)], [2, 3], [3])))]),
   (1000, ([(0, 0), ((-2147483648), 2147483647), ((-9223372036854775808), 9223372036854775807), ((-2147483648), 2147483647), (0, 0), ((-2147483648), 2147483647), (0, 100), (0, 1), ((-2147483648), 2147483647), (0, 100), (0, 1), ((-2147483648), 2147483647), (0, 100), (0, 1), ((-2147483648), 2147483647), (0, 100), ((-2147483648), 0)], []), [([], (-2)), ([(16, 1)], 0)], [], []),
   (1000, ([(1, 1), ((-2147483648), (-1)), ((-9223372036854775808), 9223372036854775807), ((-2147483648), 2147483647), (0, 1), ((-2147483648), 2147483647), (0, 100), (1, 1), ((-2147483648), 2147483647), (0, 100), (0, 1), ((-2147483648), 2147483647), (0, 100), (0, 1), ((-2147483648), 2147483647), (0, 100), ((-2147483648), 0)], []), [([], (-3)), ([(16, 1)], 0)], [], []),
   (1000, ([(1, 1), (0, 2147483647), ((-9223372036854775808), 9223372036854775807), ((-2147483648), 2147483647), (0, 1), ((-2147483648), 2147483647), (0, 100), (1, 1), ((-2147483648), 2147483647), (0, 100), (0, 1), ((-2147483648), 2147483647), (0, 100), (0, 1), ((-2147483648), 2147483647), (0, 100), ((-2147483648), 0)], [([(9, (-1)), (1, 1)], 0)]), [([], (-3)), ([(16, 1)], 0)], [], []),
   (1000, ([(1, 1), (0, 99), ((-9223372036854775808), 9223372036854775807), ((-2147483648), 2147483647), (0, 1), ((-2147483648), 2147483647), (0, 100), (1, 1), ((-2147483648), 2147483647), (1, 100), (0, 1), ((-2147483648), 2147483647), (0, 100), (0, 1), ((-2147483648), 2147483647), (0, 100), ((-2147483648), 0)], [([(9, 1), (1, (-1))], (-1))]), [([], 0), ([(16, 1)], 0)], [], [.inr (.inr (.inl (97, 0, [([(1, 1)], 0), ([(2, 1)], 0), ([(7, 1)], 0), ([(8, 1)], 0), ([(9, 1)], 0)], [4, 5], [5])))]),
   (1000, ([(1, 1), ((-2147483648), 2147483647), ((-9223372036854775808), 9223372036854775807), ((-2147483648), 2147483647), (0, 1), ((-2147483648), 2147483647), (0, 100), (0, 0), ((-2147483648), 2147483647), (0, 100), (0, 1), ((-2147483648), 2147483647), (0, 100), (0, 1), ((-2147483648), 2147483647), (0, 100), ((-2147483648), 0)], []), [([], (-2)), ([(16, 1)], 0)], [], []),
   (1000, ([(2, 2), ((-2147483648), (-1)), ((-9223372036854775808), 9223372036854775807), ((-2147483648), 2147483647), (0, 1), ((-2147483648), 2147483647), (0, 100), (0, 1), ((-2147483648), 2147483647), (0, 100), (1, 1), ((-2147483648), 2147483647), (0, 100), (0, 1), ((-2147483648), 2147483647), (0, 100), ((-2147483648), 0)], []), [([], (-3)), ([(16, 1)], 0)], [], []),
   (1000, ([(2, 2), (0, 2147483647), ((-9223372036854775808), 9223372036854775807), ((-2147483648), 2147483647), (0, 1), ((-2147483648), 2147483647), (0, 100), (0, 1), ((-2147483648), 2147483647), (0, 100), (1, 1), ((-2147483648), 2147483647), (0, 100), (0, 1), ((-2147483648), 2147483647), (0, 100), ((-2147483648), 0)], [([(12, (-1)), (1, 1)], 0)]), [([], (-3)), ([(16, 1)], 0)], [], []),
   (1000, ([(2, 2), (0, 99), ((-9223372036854775808), 9223372036854775807), ((-2147483648), 2147483647), (0, 1), ((-2147483648), 2147483647), (0, 100), (0, 1), ((-2147483648), 2147483647), (0, 100), (1, 1), ((-2147483648), 2147483647), (1, 100), (0, 1), ((-2147483648), 2147483647), (0, 100), ((-2147483648), 0)], [([(12, 1), (1, (-1))], (-1))]), [([], 0), ([(16, 1)], 0)], [], [.inr (.inr (.inl (97, 0, [([(1, 1)], 0), ([(2, 1)], 0), ([(10, 1)], 0), ([(11, 1)], 0), ([(12, 1)], 0)], [6, 7], [7])))]),
   (1000, ([(2, 2), ((-2147483648), 2147483647), ((-9223372036854775808), 9223372036854775807), ((-2147483648), 2147483647), (0, 1), ((-2147483648), 2147483647), (0, 100), (0, 1), ((-2147483648), 2147483647), (0, 100), (0, 0), ((-2147483648), 2147483647), (0, 100), (0, 1), ((-2147483648), 2147483647), (0, 100), ((-2147483648), 0)], []), [([], (-2)), ([(16, 1)], 0)], [], []),
   (1000, ([(3, 3), ((-2147483648), (-1)), ((-9223372036854775808), 9223372036854775807), ((-2147483648), 2147483647), (0, 1), ((-2147483648), 2147483647), (0, 100), (0, 1), ((-2147483648), 2147483647), (0, 100), (0, 1), ((-2147483648), 2147483647), (0, 100), (1, 1), ((-2147483648), 2147483647), (0, 100), ((-2147483648), 0)], []), [([], (-3)), ([(16, 1)], 0)], [], []),
   (1000, ([(3, 3), (0, 2147483647), ((-9223372036854775808), 9223372036854775807), ((-2147483648), 2147483647), (0, 1), ((-2147483648), 2147483647), (0, 100), (0, 1), ((-2147483648), 2147483647), (0, 100), (0, 1), ((-2147483648), 2147483647), (0, 100), (1, 1), ((-2147483648), 2147483647), (0, 100), ((-2147483648), 0)], [([(15, (-1)), (1, 1)], 0)]), [([], (-3)), ([(16, 1)], 0)], [], []),
   (1000, ([(3, 3), (0, 99), ((-9223372036854775808), 9223372036854775807), ((-2147483648), 2147483647), (0, 1), ((-2147483648), 2147483647), (0, 100), (0, 1), ((-2147483648), 2147483647), (0, 100), (0, 1), ((-2147483648), 2147483647), (0, 100), (1, 1), ((-2147483648), 2147483647), (1, 100), ((-2147483648), 0)], [([(15, 1), (1, (-1))], (-1))]), [([], 0), ([(16, 1)], 0)], [], [.inr (.inr (.inl (97, 0, [([(1, 1)], 0), ([(2, 1)], 0), ([(13, 1)], 0), ([(14, 1)], 0), ([(15, 1)], 0)], [8, 9], [9])))]),
   (1000, ([(3, 3), ((-2147483648), 2147483647), ((-9223372036854775808), 9223372036854775807), ((-2147483648), 2147483647), (0, 1), ((-2147483648), 2147483647), (0, 100), (0, 1), ((-2147483648), 2147483647), (0, 100), (0, 1), ((-2147483648), 2147483647), (0, 100), (0, 0), ((-2147483648), 2147483647), (0, 100), ((-2147483648), 0)], []), [([], (-2)), ([(16, 1)], 0)], [], [])]]
noncomputable def xG_166 : Nat → yt_G → (Nat → Int) → yt_G → Prop
  | _, _, _, _ => True
noncomputable def xP_166 : yt_Ph
  | 0, r, g0, g => (r 16) = yq_wr (r 0) (r 1) (yq_at (r 0) ((1 * (r 4) + 0) + 0) ((1 * (r 7) + 0) + 0) ((1 * (r 10) + 0) + 0) ((1 * (r 13) + 0) + 0)) (yq_at (r 0) ((1 * (r 6) + 0) + 0) ((1 * (r 9) + 0) + 0) ((1 * (r 12) + 0) + 0) ((1 * (r 15) + 0) + 0)) ∧ (g 3) = yq_xw (r 0) (r 1) (r 2) 0 ((1 * (r 4) + 0) + 0) ((1 * (r 6) + 0) + 0) ((1 * (r 5) + 0) + 0) (g0 3) ∧ (g 5) = yq_xw (r 0) (r 1) (r 2) 1 ((1 * (r 7) + 0) + 0) ((1 * (r 9) + 0) + 0) ((1 * (r 8) + 0) + 0) (g0 5) ∧ (g 7) = yq_xw (r 0) (r 1) (r 2) 2 ((1 * (r 10) + 0) + 0) ((1 * (r 12) + 0) + 0) ((1 * (r 11) + 0) + 0) (g0 7) ∧ (g 9) = yq_xw (r 0) (r 1) (r 2) 3 ((1 * (r 13) + 0) + 0) ((1 * (r 15) + 0) + 0) ((1 * (r 14) + 0) + 0) (g0 9)
  | _, _, _, _ => True
noncomputable def xR_166 : yt_Ps := fun r g0 => True
noncomputable def xT_166 : yt_Tb := fun d => match d with
  | 97 => xP_165
  | _ => fun _ _ _ _ => True
noncomputable def xU_166 : Nat → yt_Ps := fun d => match d with
  | 97 => xR_165
  | _ => fun _ _ => True
theorem xw_166_0_0 : yt_hold xT_166 xk_166 xq_166.2.2.1 xG_166 xP_166 xU_166 16 xk_166.2.1.2.2.2 (fun g0 r g => xR_166 r g0 ∧ g = g0) (1000, ([((-2147483648), (-1)), ((-2147483648), 2147483647), ((-9223372036854775808), 9223372036854775807), ((-2147483648), 2147483647), (0, 1), ((-2147483648), 2147483647), (0, 100), (0, 1), ((-2147483648), 2147483647), (0, 100), (0, 1), ((-2147483648), 2147483647), (0, 100), (0, 1), ((-2147483648), 2147483647), (0, 100), ((-2147483648), 0)], []), [([], (-1)), ([(16, 1)], 0)], [], []) := by
  intro g0 r gi g hok hh hars hfr hG
  have b0 : (-2147483648) ≤ r 0 ∧ r 0 ≤ (-1) := hok.1 0 ((-2147483648), (-1)) rfl
  have b1 : (-2147483648) ≤ r 1 ∧ r 1 ≤ 2147483647 := hok.1 1 ((-2147483648), 2147483647) rfl
  have b2 : (-9223372036854775808) ≤ r 2 ∧ r 2 ≤ 9223372036854775807 := hok.1 2 ((-9223372036854775808), 9223372036854775807) rfl
  have b3 : (-2147483648) ≤ r 3 ∧ r 3 ≤ 2147483647 := hok.1 3 ((-2147483648), 2147483647) rfl
  have b4 : 0 ≤ r 4 ∧ r 4 ≤ 1 := hok.1 4 (0, 1) rfl
  have b5 : (-2147483648) ≤ r 5 ∧ r 5 ≤ 2147483647 := hok.1 5 ((-2147483648), 2147483647) rfl
  have b6 : 0 ≤ r 6 ∧ r 6 ≤ 100 := hok.1 6 (0, 100) rfl
  have b7 : 0 ≤ r 7 ∧ r 7 ≤ 1 := hok.1 7 (0, 1) rfl
  have b8 : (-2147483648) ≤ r 8 ∧ r 8 ≤ 2147483647 := hok.1 8 ((-2147483648), 2147483647) rfl
  have b9 : 0 ≤ r 9 ∧ r 9 ≤ 100 := hok.1 9 (0, 100) rfl
  have b10 : 0 ≤ r 10 ∧ r 10 ≤ 1 := hok.1 10 (0, 1) rfl
  have b11 : (-2147483648) ≤ r 11 ∧ r 11 ≤ 2147483647 := hok.1 11 ((-2147483648), 2147483647) rfl
  have b12 : 0 ≤ r 12 ∧ r 12 ≤ 100 := hok.1 12 (0, 100) rfl
  have b13 : 0 ≤ r 13 ∧ r 13 ≤ 1 := hok.1 13 (0, 1) rfl
  have b14 : (-2147483648) ≤ r 14 ∧ r 14 ≤ 2147483647 := hok.1 14 ((-2147483648), 2147483647) rfl
  have b15 : 0 ≤ r 15 ∧ r 15 ≤ 100 := hok.1 15 (0, 100) rfl
  have b16 : (-2147483648) ≤ r 16 ∧ r 16 ≤ 0 := hok.1 16 ((-2147483648), 0) rfl
  obtain ⟨hG, hgi⟩ := hG
  have hG : True := hG
  have hh : g = gi := hh
  subst hh
  refine yt_dalt (by decide) (by decide) ?_
  rw [show xk_166.2.1.2.1.1.length = 16 from rfl]
  show ((0 : Int) + (-1)) = yq_wr ((1 * r 0 + 0) + 0) ((1 * r 1 + 0) + 0) (yq_at ((1 * r 0 + 0) + 0) ((1 * ((1 * r 4 + 0) + 0) + 0) + 0) ((1 * ((1 * r 7 + 0) + 0) + 0) + 0) ((1 * ((1 * r 10 + 0) + 0) + 0) + 0) ((1 * ((1 * r 13 + 0) + 0) + 0) + 0)) (yq_at ((1 * r 0 + 0) + 0) ((1 * ((1 * r 6 + 0) + 0) + 0) + 0) ((1 * ((1 * r 9 + 0) + 0) + 0) + 0) ((1 * ((1 * r 12 + 0) + 0) + 0) + 0) ((1 * ((1 * r 15 + 0) + 0) + 0) + 0)) ∧ (g 3) = yq_xw ((1 * r 0 + 0) + 0) ((1 * r 1 + 0) + 0) ((1 * r 2 + 0) + 0) 0 ((1 * ((1 * r 4 + 0) + 0) + 0) + 0) ((1 * ((1 * r 6 + 0) + 0) + 0) + 0) ((1 * ((1 * r 5 + 0) + 0) + 0) + 0) (g0 3) ∧ (g 5) = yq_xw ((1 * r 0 + 0) + 0) ((1 * r 1 + 0) + 0) ((1 * r 2 + 0) + 0) 1 ((1 * ((1 * r 7 + 0) + 0) + 0) + 0) ((1 * ((1 * r 9 + 0) + 0) + 0) + 0) ((1 * ((1 * r 8 + 0) + 0) + 0) + 0) (g0 5) ∧ (g 7) = yq_xw ((1 * r 0 + 0) + 0) ((1 * r 1 + 0) + 0) ((1 * r 2 + 0) + 0) 2 ((1 * ((1 * r 10 + 0) + 0) + 0) + 0) ((1 * ((1 * r 12 + 0) + 0) + 0) + 0) ((1 * ((1 * r 11 + 0) + 0) + 0) + 0) (g0 7) ∧ (g 9) = yq_xw ((1 * r 0 + 0) + 0) ((1 * r 1 + 0) + 0) ((1 * r 2 + 0) + 0) 3 ((1 * ((1 * r 13 + 0) + 0) + 0) + 0) ((1 * ((1 * r 15 + 0) + 0) + 0) + 0) ((1 * ((1 * r 14 + 0) + 0) + 0) + 0) (g0 9)
  try simp only [Int.one_mul, Int.zero_add, Int.add_zero]
  refine ⟨?_, ?_, ?_, ?_, ?_⟩
  · unfold yq_wr
    rw [if_neg (by omega)] <;> omega
  · unfold yq_xw
    rw [if_neg (by omega)]
    rw [hgi]
  · unfold yq_xw
    rw [if_neg (by omega)]
    rw [hgi]
  · unfold yq_xw
    rw [if_neg (by omega)]
    rw [hgi]
  · unfold yq_xw
    rw [if_neg (by omega)]
    rw [hgi]
theorem xw_166_0_1 : yt_hold xT_166 xk_166 xq_166.2.2.1 xG_166 xP_166 xU_166 16 xk_166.2.1.2.2.2 (fun g0 r g => xR_166 r g0 ∧ g = g0) (1000, ([(4, 2147483647), ((-2147483648), 2147483647), ((-9223372036854775808), 9223372036854775807), ((-2147483648), 2147483647), (0, 1), ((-2147483648), 2147483647), (0, 100), (0, 1), ((-2147483648), 2147483647), (0, 100), (0, 1), ((-2147483648), 2147483647), (0, 100), (0, 1), ((-2147483648), 2147483647), (0, 100), ((-2147483648), 0)], []), [([], (-1)), ([(16, 1)], 0)], [], []) := by
  intro g0 r gi g hok hh hars hfr hG
  have b0 : 4 ≤ r 0 ∧ r 0 ≤ 2147483647 := hok.1 0 (4, 2147483647) rfl
  have b1 : (-2147483648) ≤ r 1 ∧ r 1 ≤ 2147483647 := hok.1 1 ((-2147483648), 2147483647) rfl
  have b2 : (-9223372036854775808) ≤ r 2 ∧ r 2 ≤ 9223372036854775807 := hok.1 2 ((-9223372036854775808), 9223372036854775807) rfl
  have b3 : (-2147483648) ≤ r 3 ∧ r 3 ≤ 2147483647 := hok.1 3 ((-2147483648), 2147483647) rfl
  have b4 : 0 ≤ r 4 ∧ r 4 ≤ 1 := hok.1 4 (0, 1) rfl
  have b5 : (-2147483648) ≤ r 5 ∧ r 5 ≤ 2147483647 := hok.1 5 ((-2147483648), 2147483647) rfl
  have b6 : 0 ≤ r 6 ∧ r 6 ≤ 100 := hok.1 6 (0, 100) rfl
  have b7 : 0 ≤ r 7 ∧ r 7 ≤ 1 := hok.1 7 (0, 1) rfl
  have b8 : (-2147483648) ≤ r 8 ∧ r 8 ≤ 2147483647 := hok.1 8 ((-2147483648), 2147483647) rfl
  have b9 : 0 ≤ r 9 ∧ r 9 ≤ 100 := hok.1 9 (0, 100) rfl
  have b10 : 0 ≤ r 10 ∧ r 10 ≤ 1 := hok.1 10 (0, 1) rfl
  have b11 : (-2147483648) ≤ r 11 ∧ r 11 ≤ 2147483647 := hok.1 11 ((-2147483648), 2147483647) rfl
  have b12 : 0 ≤ r 12 ∧ r 12 ≤ 100 := hok.1 12 (0, 100) rfl
  have b13 : 0 ≤ r 13 ∧ r 13 ≤ 1 := hok.1 13 (0, 1) rfl
  have b14 : (-2147483648) ≤ r 14 ∧ r 14 ≤ 2147483647 := hok.1 14 ((-2147483648), 2147483647) rfl
  have b15 : 0 ≤ r 15 ∧ r 15 ≤ 100 := hok.1 15 (0, 100) rfl
  have b16 : (-2147483648) ≤ r 16 ∧ r 16 ≤ 0 := hok.1 16 ((-2147483648), 0) rfl
  obtain ⟨hG, hgi⟩ := hG
  have hG : True := hG
  have hh : g = gi := hh
  subst hh
  refine yt_dalt (by decide) (by decide) ?_
  rw [show xk_166.2.1.2.1.1.length = 16 from rfl]
  show ((0 : Int) + (-1)) = yq_wr ((1 * r 0 + 0) + 0) ((1 * r 1 + 0) + 0) (yq_at ((1 * r 0 + 0) + 0) ((1 * ((1 * r 4 + 0) + 0) + 0) + 0) ((1 * ((1 * r 7 + 0) + 0) + 0) + 0) ((1 * ((1 * r 10 + 0) + 0) + 0) + 0) ((1 * ((1 * r 13 + 0) + 0) + 0) + 0)) (yq_at ((1 * r 0 + 0) + 0) ((1 * ((1 * r 6 + 0) + 0) + 0) + 0) ((1 * ((1 * r 9 + 0) + 0) + 0) + 0) ((1 * ((1 * r 12 + 0) + 0) + 0) + 0) ((1 * ((1 * r 15 + 0) + 0) + 0) + 0)) ∧ (g 3) = yq_xw ((1 * r 0 + 0) + 0) ((1 * r 1 + 0) + 0) ((1 * r 2 + 0) + 0) 0 ((1 * ((1 * r 4 + 0) + 0) + 0) + 0) ((1 * ((1 * r 6 + 0) + 0) + 0) + 0) ((1 * ((1 * r 5 + 0) + 0) + 0) + 0) (g0 3) ∧ (g 5) = yq_xw ((1 * r 0 + 0) + 0) ((1 * r 1 + 0) + 0) ((1 * r 2 + 0) + 0) 1 ((1 * ((1 * r 7 + 0) + 0) + 0) + 0) ((1 * ((1 * r 9 + 0) + 0) + 0) + 0) ((1 * ((1 * r 8 + 0) + 0) + 0) + 0) (g0 5) ∧ (g 7) = yq_xw ((1 * r 0 + 0) + 0) ((1 * r 1 + 0) + 0) ((1 * r 2 + 0) + 0) 2 ((1 * ((1 * r 10 + 0) + 0) + 0) + 0) ((1 * ((1 * r 12 + 0) + 0) + 0) + 0) ((1 * ((1 * r 11 + 0) + 0) + 0) + 0) (g0 7) ∧ (g 9) = yq_xw ((1 * r 0 + 0) + 0) ((1 * r 1 + 0) + 0) ((1 * r 2 + 0) + 0) 3 ((1 * ((1 * r 13 + 0) + 0) + 0) + 0) ((1 * ((1 * r 15 + 0) + 0) + 0) + 0) ((1 * ((1 * r 14 + 0) + 0) + 0) + 0) (g0 9)
  try simp only [Int.one_mul, Int.zero_add, Int.add_zero]
  refine ⟨?_, ?_, ?_, ?_, ?_⟩
  · unfold yq_wr
    rw [if_neg (by omega)] <;> omega
  · unfold yq_xw
    rw [if_neg (by omega)]
    rw [hgi]
  · unfold yq_xw
    rw [if_neg (by omega)]
    rw [hgi]
  · unfold yq_xw
    rw [if_neg (by omega)]
    rw [hgi]
  · unfold yq_xw
    rw [if_neg (by omega)]
    rw [hgi]
theorem xw_166_0_2 : yt_hold xT_166 xk_166 xq_166.2.2.1 xG_166 xP_166 xU_166 16 xk_166.2.1.2.2.2 (fun g0 r g => xR_166 r g0 ∧ g = g0) (1000, ([(0, 0), ((-2147483648), (-1)), ((-9223372036854775808), 9223372036854775807), ((-2147483648), 2147483647), (1, 1), ((-2147483648), 2147483647), (0, 100), (0, 1), ((-2147483648), 2147483647), (0, 100), (0, 1), ((-2147483648), 2147483647), (0, 100), (0, 1), ((-2147483648), 2147483647), (0, 100), ((-2147483648), 0)], []), [([], (-3)), ([(16, 1)], 0)], [], []) := by
  intro g0 r gi g hok hh hars hfr hG
  have b0 : 0 ≤ r 0 ∧ r 0 ≤ 0 := hok.1 0 (0, 0) rfl
  have b1 : (-2147483648) ≤ r 1 ∧ r 1 ≤ (-1) := hok.1 1 ((-2147483648), (-1)) rfl
  have b2 : (-9223372036854775808) ≤ r 2 ∧ r 2 ≤ 9223372036854775807 := hok.1 2 ((-9223372036854775808), 9223372036854775807) rfl
  have b3 : (-2147483648) ≤ r 3 ∧ r 3 ≤ 2147483647 := hok.1 3 ((-2147483648), 2147483647) rfl
  have b4 : 1 ≤ r 4 ∧ r 4 ≤ 1 := hok.1 4 (1, 1) rfl
  have b5 : (-2147483648) ≤ r 5 ∧ r 5 ≤ 2147483647 := hok.1 5 ((-2147483648), 2147483647) rfl
  have b6 : 0 ≤ r 6 ∧ r 6 ≤ 100 := hok.1 6 (0, 100) rfl
  have b7 : 0 ≤ r 7 ∧ r 7 ≤ 1 := hok.1 7 (0, 1) rfl
  have b8 : (-2147483648) ≤ r 8 ∧ r 8 ≤ 2147483647 := hok.1 8 ((-2147483648), 2147483647) rfl
  have b9 : 0 ≤ r 9 ∧ r 9 ≤ 100 := hok.1 9 (0, 100) rfl
  have b10 : 0 ≤ r 10 ∧ r 10 ≤ 1 := hok.1 10 (0, 1) rfl
  have b11 : (-2147483648) ≤ r 11 ∧ r 11 ≤ 2147483647 := hok.1 11 ((-2147483648), 2147483647) rfl
  have b12 : 0 ≤ r 12 ∧ r 12 ≤ 100 := hok.1 12 (0, 100) rfl
  have b13 : 0 ≤ r 13 ∧ r 13 ≤ 1 := hok.1 13 (0, 1) rfl
  have b14 : (-2147483648) ≤ r 14 ∧ r 14 ≤ 2147483647 := hok.1 14 ((-2147483648), 2147483647) rfl
  have b15 : 0 ≤ r 15 ∧ r 15 ≤ 100 := hok.1 15 (0, 100) rfl
  have b16 : (-2147483648) ≤ r 16 ∧ r 16 ≤ 0 := hok.1 16 ((-2147483648), 0) rfl
  obtain ⟨hG, hgi⟩ := hG
  have hG : True := hG
  have hh : g = gi := hh
  subst hh
  refine yt_dalt (by decide) (by decide) ?_
  rw [show xk_166.2.1.2.1.1.length = 16 from rfl]
  show ((0 : Int) + (-3)) = yq_wr ((1 * r 0 + 0) + 0) ((1 * r 1 + 0) + 0) (yq_at ((1 * r 0 + 0) + 0) ((1 * ((1 * r 4 + 0) + 0) + 0) + 0) ((1 * ((1 * r 7 + 0) + 0) + 0) + 0) ((1 * ((1 * r 10 + 0) + 0) + 0) + 0) ((1 * ((1 * r 13 + 0) + 0) + 0) + 0)) (yq_at ((1 * r 0 + 0) + 0) ((1 * ((1 * r 6 + 0) + 0) + 0) + 0) ((1 * ((1 * r 9 + 0) + 0) + 0) + 0) ((1 * ((1 * r 12 + 0) + 0) + 0) + 0) ((1 * ((1 * r 15 + 0) + 0) + 0) + 0)) ∧ (g 3) = yq_xw ((1 * r 0 + 0) + 0) ((1 * r 1 + 0) + 0) ((1 * r 2 + 0) + 0) 0 ((1 * ((1 * r 4 + 0) + 0) + 0) + 0) ((1 * ((1 * r 6 + 0) + 0) + 0) + 0) ((1 * ((1 * r 5 + 0) + 0) + 0) + 0) (g0 3) ∧ (g 5) = yq_xw ((1 * r 0 + 0) + 0) ((1 * r 1 + 0) + 0) ((1 * r 2 + 0) + 0) 1 ((1 * ((1 * r 7 + 0) + 0) + 0) + 0) ((1 * ((1 * r 9 + 0) + 0) + 0) + 0) ((1 * ((1 * r 8 + 0) + 0) + 0) + 0) (g0 5) ∧ (g 7) = yq_xw ((1 * r 0 + 0) + 0) ((1 * r 1 + 0) + 0) ((1 * r 2 + 0) + 0) 2 ((1 * ((1 * r 10 + 0) + 0) + 0) + 0) ((1 * ((1 * r 12 + 0) + 0) + 0) + 0) ((1 * ((1 * r 11 + 0) + 0) + 0) + 0) (g0 7) ∧ (g 9) = yq_xw ((1 * r 0 + 0) + 0) ((1 * r 1 + 0) + 0) ((1 * r 2 + 0) + 0) 3 ((1 * ((1 * r 13 + 0) + 0) + 0) + 0) ((1 * ((1 * r 15 + 0) + 0) + 0) + 0) ((1 * ((1 * r 14 + 0) + 0) + 0) + 0) (g0 9)
  try simp only [Int.one_mul, Int.zero_add, Int.add_zero]
  refine ⟨?_, ?_, ?_, ?_, ?_⟩
  · rw [show r 0 = 0 by omega]
    simp only [yq_at0]
    unfold yq_wr
    repeat' split
    all_goals omega
  · unfold yq_xw
    rw [if_neg (by omega)]
    rw [hgi]
  · unfold yq_xw
    rw [if_neg (by omega)]
    rw [hgi]
  · unfold yq_xw
    rw [if_neg (by omega)]
    rw [hgi]
  · unfold yq_xw
    rw [if_neg (by omega)]
    rw [hgi]
theorem xw_166_0_3 : yt_hold xT_166 xk_166 xq_166.2.2.1 xG_166 xP_166 xU_166 16 xk_166.2.1.2.2.2 (fun g0 r g => xR_166 r g0 ∧ g = g0) (1000, ([(0, 0), (0, 2147483647), ((-9223372036854775808), 9223372036854775807), ((-2147483648), 2147483647), (1, 1), ((-2147483648), 2147483647), (0, 100), (0, 1), ((-2147483648), 2147483647), (0, 100), (0, 1), ((-2147483648), 2147483647), (0, 100), (0, 1), ((-2147483648), 2147483647), (0, 100), ((-2147483648), 0)], [([(6, (-1)), (1, 1)], 0)]), [([], (-3)), ([(16, 1)], 0)], [], []) := by
  intro g0 r gi g hok hh hars hfr hG
  have b0 : 0 ≤ r 0 ∧ r 0 ≤ 0 := hok.1 0 (0, 0) rfl
  have b1 : 0 ≤ r 1 ∧ r 1 ≤ 2147483647 := hok.1 1 (0, 2147483647) rfl
  have b2 : (-9223372036854775808) ≤ r 2 ∧ r 2 ≤ 9223372036854775807 := hok.1 2 ((-9223372036854775808), 9223372036854775807) rfl
  have b3 : (-2147483648) ≤ r 3 ∧ r 3 ≤ 2147483647 := hok.1 3 ((-2147483648), 2147483647) rfl
  have b4 : 1 ≤ r 4 ∧ r 4 ≤ 1 := hok.1 4 (1, 1) rfl
  have b5 : (-2147483648) ≤ r 5 ∧ r 5 ≤ 2147483647 := hok.1 5 ((-2147483648), 2147483647) rfl
  have b6 : 0 ≤ r 6 ∧ r 6 ≤ 100 := hok.1 6 (0, 100) rfl
  have b7 : 0 ≤ r 7 ∧ r 7 ≤ 1 := hok.1 7 (0, 1) rfl
  have b8 : (-2147483648) ≤ r 8 ∧ r 8 ≤ 2147483647 := hok.1 8 ((-2147483648), 2147483647) rfl
  have b9 : 0 ≤ r 9 ∧ r 9 ≤ 100 := hok.1 9 (0, 100) rfl
  have b10 : 0 ≤ r 10 ∧ r 10 ≤ 1 := hok.1 10 (0, 1) rfl
  have b11 : (-2147483648) ≤ r 11 ∧ r 11 ≤ 2147483647 := hok.1 11 ((-2147483648), 2147483647) rfl
  have b12 : 0 ≤ r 12 ∧ r 12 ≤ 100 := hok.1 12 (0, 100) rfl
  have b13 : 0 ≤ r 13 ∧ r 13 ≤ 1 := hok.1 13 (0, 1) rfl
  have b14 : (-2147483648) ≤ r 14 ∧ r 14 ≤ 2147483647 := hok.1 14 ((-2147483648), 2147483647) rfl
  have b15 : 0 ≤ r 15 ∧ r 15 ≤ 100 := hok.1 15 (0, 100) rfl
  have b16 : (-2147483648) ≤ r 16 ∧ r 16 ≤ 0 := hok.1 16 ((-2147483648), 0) rfl
  have f0 : 0 ≤ (((-1) * r 6 + (1 * r 1 + 0)) + 0) := hok.2 _ (List.mem_of_getElem? (i := 0) rfl)
  obtain ⟨hG, hgi⟩ := hG
  have hG : True := hG
  have hh : g = gi := hh
  subst hh
  refine yt_dalt (by decide) (by decide) ?_
  rw [show xk_166.2.1.2.1.1.length = 16 from rfl]
  show ((0 : Int) + (-3)) = yq_wr ((1 * r 0 + 0) + 0) ((1 * r 1 + 0) + 0) (yq_at ((1 * r 0 + 0) + 0) ((1 * ((1 * r 4 + 0) + 0) + 0) + 0) ((1 * ((1 * r 7 + 0) + 0) + 0) + 0) ((1 * ((1 * r 10 + 0) + 0) + 0) + 0) ((1 * ((1 * r 13 + 0) + 0) + 0) + 0)) (yq_at ((1 * r 0 + 0) + 0) ((1 * ((1 * r 6 + 0) + 0) + 0) + 0) ((1 * ((1 * r 9 + 0) + 0) + 0) + 0) ((1 * ((1 * r 12 + 0) + 0) + 0) + 0) ((1 * ((1 * r 15 + 0) + 0) + 0) + 0)) ∧ (g 3) = yq_xw ((1 * r 0 + 0) + 0) ((1 * r 1 + 0) + 0) ((1 * r 2 + 0) + 0) 0 ((1 * ((1 * r 4 + 0) + 0) + 0) + 0) ((1 * ((1 * r 6 + 0) + 0) + 0) + 0) ((1 * ((1 * r 5 + 0) + 0) + 0) + 0) (g0 3) ∧ (g 5) = yq_xw ((1 * r 0 + 0) + 0) ((1 * r 1 + 0) + 0) ((1 * r 2 + 0) + 0) 1 ((1 * ((1 * r 7 + 0) + 0) + 0) + 0) ((1 * ((1 * r 9 + 0) + 0) + 0) + 0) ((1 * ((1 * r 8 + 0) + 0) + 0) + 0) (g0 5) ∧ (g 7) = yq_xw ((1 * r 0 + 0) + 0) ((1 * r 1 + 0) + 0) ((1 * r 2 + 0) + 0) 2 ((1 * ((1 * r 10 + 0) + 0) + 0) + 0) ((1 * ((1 * r 12 + 0) + 0) + 0) + 0) ((1 * ((1 * r 11 + 0) + 0) + 0) + 0) (g0 7) ∧ (g 9) = yq_xw ((1 * r 0 + 0) + 0) ((1 * r 1 + 0) + 0) ((1 * r 2 + 0) + 0) 3 ((1 * ((1 * r 13 + 0) + 0) + 0) + 0) ((1 * ((1 * r 15 + 0) + 0) + 0) + 0) ((1 * ((1 * r 14 + 0) + 0) + 0) + 0) (g0 9)
  try simp only [Int.one_mul, Int.zero_add, Int.add_zero]
  refine ⟨?_, ?_, ?_, ?_, ?_⟩
  · rw [show r 0 = 0 by omega]
    simp only [yq_at0]
    unfold yq_wr
    repeat' split
    all_goals omega
  · unfold yq_xw
    rw [if_neg (by omega)]
    rw [hgi]
  · unfold yq_xw
    rw [if_neg (by omega)]
    rw [hgi]
  · unfold yq_xw
    rw [if_neg (by omega)]
    rw [hgi]
  · unfold yq_xw
    rw [if_neg (by omega)]
    rw [hgi]
theorem xw_166_0_4 : yt_hold xT_166 xk_166 xq_166.2.2.1 xG_166 xP_166 xU_166 16 xk_166.2.1.2.2.2 (fun g0 r g => xR_166 r g0 ∧ g = g0) (1000, ([(0, 0), (0, 99), ((-9223372036854775808), 9223372036854775807), ((-2147483648), 2147483647), (1, 1), ((-2147483648), 2147483647), (1, 100), (0, 1), ((-2147483648), 2147483647), (0, 100), (0, 1), ((-2147483648), 2147483647), (0, 100), (0, 1), ((-2147483648), 2147483647), (0, 100), ((-2147483648), 0)], [([(6, 1), (1, (-1))], (-1))]), [([], 0), ([(16, 1)], 0)], [], [.inr (.inr (.inl (97, 0, [([(1, 1)], 0), ([(2, 1)], 0), ([(4, 1)], 0), ([(5, 1)], 0), ([(6, 1)], 0)], [2, 3], [3])))]) := by
  intro g0 r gi g hok hh hars hfr hG
  have b0 : 0 ≤ r 0 ∧ r 0 ≤ 0 := hok.1 0 (0, 0) rfl
  have b1 : 0 ≤ r 1 ∧ r 1 ≤ 99 := hok.1 1 (0, 99) rfl
  have b2 : (-9223372036854775808) ≤ r 2 ∧ r 2 ≤ 9223372036854775807 := hok.1 2 ((-9223372036854775808), 9223372036854775807) rfl
  have b3 : (-2147483648) ≤ r 3 ∧ r 3 ≤ 2147483647 := hok.1 3 ((-2147483648), 2147483647) rfl
  have b4 : 1 ≤ r 4 ∧ r 4 ≤ 1 := hok.1 4 (1, 1) rfl
  have b5 : (-2147483648) ≤ r 5 ∧ r 5 ≤ 2147483647 := hok.1 5 ((-2147483648), 2147483647) rfl
  have b6 : 1 ≤ r 6 ∧ r 6 ≤ 100 := hok.1 6 (1, 100) rfl
  have b7 : 0 ≤ r 7 ∧ r 7 ≤ 1 := hok.1 7 (0, 1) rfl
  have b8 : (-2147483648) ≤ r 8 ∧ r 8 ≤ 2147483647 := hok.1 8 ((-2147483648), 2147483647) rfl
  have b9 : 0 ≤ r 9 ∧ r 9 ≤ 100 := hok.1 9 (0, 100) rfl
  have b10 : 0 ≤ r 10 ∧ r 10 ≤ 1 := hok.1 10 (0, 1) rfl
  have b11 : (-2147483648) ≤ r 11 ∧ r 11 ≤ 2147483647 := hok.1 11 ((-2147483648), 2147483647) rfl
  have b12 : 0 ≤ r 12 ∧ r 12 ≤ 100 := hok.1 12 (0, 100) rfl
  have b13 : 0 ≤ r 13 ∧ r 13 ≤ 1 := hok.1 13 (0, 1) rfl
  have b14 : (-2147483648) ≤ r 14 ∧ r 14 ≤ 2147483647 := hok.1 14 ((-2147483648), 2147483647) rfl
  have b15 : 0 ≤ r 15 ∧ r 15 ≤ 100 := hok.1 15 (0, 100) rfl
  have b16 : (-2147483648) ≤ r 16 ∧ r 16 ≤ 0 := hok.1 16 ((-2147483648), 0) rfl
  have f0 : 0 ≤ ((1 * r 6 + ((-1) * r 1 + 0)) + (-1)) := hok.2 _ (List.mem_of_getElem? (i := 0) rfl)
  obtain ⟨hG, hgi⟩ := hG
  have hG : True := hG
  obtain ⟨h0, hh, e0, k0⟩ := hh
  have k0 : ∀ j, j ∉ [3] → g j = h0 j := k0
  have e0 : (g 3) = yq_set (h0 3) (((1 * r 1 + 0) + 0)).toNat (yq_cut ((1 * r 5 + 0) + 0) ((1 * r 2 + 0) + 0)) := e0
  have hh : h0 = gi := hh
  subst hh
  refine yt_dalt (by decide) (by decide) ?_
  rw [show xk_166.2.1.2.1.1.length = 16 from rfl]
  show ((0 : Int) + 0) = yq_wr ((1 * r 0 + 0) + 0) ((1 * r 1 + 0) + 0) (yq_at ((1 * r 0 + 0) + 0) ((1 * ((1 * r 4 + 0) + 0) + 0) + 0) ((1 * ((1 * r 7 + 0) + 0) + 0) + 0) ((1 * ((1 * r 10 + 0) + 0) + 0) + 0) ((1 * ((1 * r 13 + 0) + 0) + 0) + 0)) (yq_at ((1 * r 0 + 0) + 0) ((1 * ((1 * r 6 + 0) + 0) + 0) + 0) ((1 * ((1 * r 9 + 0) + 0) + 0) + 0) ((1 * ((1 * r 12 + 0) + 0) + 0) + 0) ((1 * ((1 * r 15 + 0) + 0) + 0) + 0)) ∧ (g 3) = yq_xw ((1 * r 0 + 0) + 0) ((1 * r 1 + 0) + 0) ((1 * r 2 + 0) + 0) 0 ((1 * ((1 * r 4 + 0) + 0) + 0) + 0) ((1 * ((1 * r 6 + 0) + 0) + 0) + 0) ((1 * ((1 * r 5 + 0) + 0) + 0) + 0) (g0 3) ∧ (g 5) = yq_xw ((1 * r 0 + 0) + 0) ((1 * r 1 + 0) + 0) ((1 * r 2 + 0) + 0) 1 ((1 * ((1 * r 7 + 0) + 0) + 0) + 0) ((1 * ((1 * r 9 + 0) + 0) + 0) + 0) ((1 * ((1 * r 8 + 0) + 0) + 0) + 0) (g0 5) ∧ (g 7) = yq_xw ((1 * r 0 + 0) + 0) ((1 * r 1 + 0) + 0) ((1 * r 2 + 0) + 0) 2 ((1 * ((1 * r 10 + 0) + 0) + 0) + 0) ((1 * ((1 * r 12 + 0) + 0) + 0) + 0) ((1 * ((1 * r 11 + 0) + 0) + 0) + 0) (g0 7) ∧ (g 9) = yq_xw ((1 * r 0 + 0) + 0) ((1 * r 1 + 0) + 0) ((1 * r 2 + 0) + 0) 3 ((1 * ((1 * r 13 + 0) + 0) + 0) + 0) ((1 * ((1 * r 15 + 0) + 0) + 0) + 0) ((1 * ((1 * r 14 + 0) + 0) + 0) + 0) (g0 9)
  try simp only [Int.one_mul, Int.zero_add, Int.add_zero]
  try simp only [Int.one_mul, Int.zero_add, Int.add_zero] at e0
  refine ⟨?_, ?_, ?_, ?_, ?_⟩
  · rw [show r 0 = 0 by omega]
    simp only [yq_at0]
    unfold yq_wr
    repeat' split
    all_goals omega
  · unfold yq_xw
    rw [if_pos (by omega), e0, hgi]
  · unfold yq_xw
    rw [if_neg (by omega)]
    rw [k0 5 (by decide), hgi]
  · unfold yq_xw
    rw [if_neg (by omega)]
    rw [k0 7 (by decide), hgi]
  · unfold yq_xw
    rw [if_neg (by omega)]
    rw [k0 9 (by decide), hgi]
theorem xw_166_0_5 : yt_hold xT_166 xk_166 xq_166.2.2.1 xG_166 xP_166 xU_166 16 xk_166.2.1.2.2.2 (fun g0 r g => xR_166 r g0 ∧ g = g0) (1000, ([(0, 0), ((-2147483648), 2147483647), ((-9223372036854775808), 9223372036854775807), ((-2147483648), 2147483647), (0, 0), ((-2147483648), 2147483647), (0, 100), (0, 1), ((-2147483648), 2147483647), (0, 100), (0, 1), ((-2147483648), 2147483647), (0, 100), (0, 1), ((-2147483648), 2147483647), (0, 100), ((-2147483648), 0)], []), [([], (-2)), ([(16, 1)], 0)], [], []) := by
  intro g0 r gi g hok hh hars hfr hG
  have b0 : 0 ≤ r 0 ∧ r 0 ≤ 0 := hok.1 0 (0, 0) rfl
  have b1 : (-2147483648) ≤ r 1 ∧ r 1 ≤ 2147483647 := hok.1 1 ((-2147483648), 2147483647) rfl
  have b2 : (-9223372036854775808) ≤ r 2 ∧ r 2 ≤ 9223372036854775807 := hok.1 2 ((-9223372036854775808), 9223372036854775807) rfl
  have b3 : (-2147483648) ≤ r 3 ∧ r 3 ≤ 2147483647 := hok.1 3 ((-2147483648), 2147483647) rfl
  have b4 : 0 ≤ r 4 ∧ r 4 ≤ 0 := hok.1 4 (0, 0) rfl
  have b5 : (-2147483648) ≤ r 5 ∧ r 5 ≤ 2147483647 := hok.1 5 ((-2147483648), 2147483647) rfl
  have b6 : 0 ≤ r 6 ∧ r 6 ≤ 100 := hok.1 6 (0, 100) rfl
  have b7 : 0 ≤ r 7 ∧ r 7 ≤ 1 := hok.1 7 (0, 1) rfl
  have b8 : (-2147483648) ≤ r 8 ∧ r 8 ≤ 2147483647 := hok.1 8 ((-2147483648), 2147483647) rfl
  have b9 : 0 ≤ r 9 ∧ r 9 ≤ 100 := hok.1 9 (0, 100) rfl
  have b10 : 0 ≤ r 10 ∧ r 10 ≤ 1 := hok.1 10 (0, 1) rfl
  have b11 : (-2147483648) ≤ r 11 ∧ r 11 ≤ 2147483647 := hok.1 11 ((-2147483648), 2147483647) rfl
  have b12 : 0 ≤ r 12 ∧ r 12 ≤ 100 := hok.1 12 (0, 100) rfl
  have b13 : 0 ≤ r 13 ∧ r 13 ≤ 1 := hok.1 13 (0, 1) rfl
  have b14 : (-2147483648) ≤ r 14 ∧ r 14 ≤ 2147483647 := hok.1 14 ((-2147483648), 2147483647) rfl
  have b15 : 0 ≤ r 15 ∧ r 15 ≤ 100 := hok.1 15 (0, 100) rfl
  have b16 : (-2147483648) ≤ r 16 ∧ r 16 ≤ 0 := hok.1 16 ((-2147483648), 0) rfl
  obtain ⟨hG, hgi⟩ := hG
  have hG : True := hG
  have hh : g = gi := hh
  subst hh
  refine yt_dalt (by decide) (by decide) ?_
  rw [show xk_166.2.1.2.1.1.length = 16 from rfl]
  show ((0 : Int) + (-2)) = yq_wr ((1 * r 0 + 0) + 0) ((1 * r 1 + 0) + 0) (yq_at ((1 * r 0 + 0) + 0) ((1 * ((1 * r 4 + 0) + 0) + 0) + 0) ((1 * ((1 * r 7 + 0) + 0) + 0) + 0) ((1 * ((1 * r 10 + 0) + 0) + 0) + 0) ((1 * ((1 * r 13 + 0) + 0) + 0) + 0)) (yq_at ((1 * r 0 + 0) + 0) ((1 * ((1 * r 6 + 0) + 0) + 0) + 0) ((1 * ((1 * r 9 + 0) + 0) + 0) + 0) ((1 * ((1 * r 12 + 0) + 0) + 0) + 0) ((1 * ((1 * r 15 + 0) + 0) + 0) + 0)) ∧ (g 3) = yq_xw ((1 * r 0 + 0) + 0) ((1 * r 1 + 0) + 0) ((1 * r 2 + 0) + 0) 0 ((1 * ((1 * r 4 + 0) + 0) + 0) + 0) ((1 * ((1 * r 6 + 0) + 0) + 0) + 0) ((1 * ((1 * r 5 + 0) + 0) + 0) + 0) (g0 3) ∧ (g 5) = yq_xw ((1 * r 0 + 0) + 0) ((1 * r 1 + 0) + 0) ((1 * r 2 + 0) + 0) 1 ((1 * ((1 * r 7 + 0) + 0) + 0) + 0) ((1 * ((1 * r 9 + 0) + 0) + 0) + 0) ((1 * ((1 * r 8 + 0) + 0) + 0) + 0) (g0 5) ∧ (g 7) = yq_xw ((1 * r 0 + 0) + 0) ((1 * r 1 + 0) + 0) ((1 * r 2 + 0) + 0) 2 ((1 * ((1 * r 10 + 0) + 0) + 0) + 0) ((1 * ((1 * r 12 + 0) + 0) + 0) + 0) ((1 * ((1 * r 11 + 0) + 0) + 0) + 0) (g0 7) ∧ (g 9) = yq_xw ((1 * r 0 + 0) + 0) ((1 * r 1 + 0) + 0) ((1 * r 2 + 0) + 0) 3 ((1 * ((1 * r 13 + 0) + 0) + 0) + 0) ((1 * ((1 * r 15 + 0) + 0) + 0) + 0) ((1 * ((1 * r 14 + 0) + 0) + 0) + 0) (g0 9)
  try simp only [Int.one_mul, Int.zero_add, Int.add_zero]
  refine ⟨?_, ?_, ?_, ?_, ?_⟩
  · rw [show r 0 = 0 by omega]
    simp only [yq_at0]
    unfold yq_wr
    repeat' split
    all_goals omega
  · unfold yq_xw
    rw [if_neg (by omega)]
    rw [hgi]
  · unfold yq_xw
    rw [if_neg (by omega)]
    rw [hgi]
  · unfold yq_xw
    rw [if_neg (by omega)]
    rw [hgi]
  · unfold yq_xw
    rw [if_neg (by omega)]
    rw [hgi]
theorem xw_166_0_6 : yt_hold xT_166 xk_166 xq_166.2.2.1 xG_166 xP_166 xU_166 16 xk_166.2.1.2.2.2 (fun g0 r g => xR_166 r g0 ∧ g = g0) (1000, ([(1, 1), ((-2147483648), (-1)), ((-9223372036854775808), 9223372036854775807), ((-2147483648), 2147483647), (0, 1), ((-2147483648), 2147483647), (0, 100), (1, 1), ((-2147483648), 2147483647), (0, 100), (0, 1), ((-2147483648), 2147483647), (0, 100), (0, 1), ((-2147483648), 2147483647), (0, 100), ((-2147483648), 0)], []), [([], (-3)), ([(16, 1)], 0)], [], []) := by
  intro g0 r gi g hok hh hars hfr hG
  have b0 : 1 ≤ r 0 ∧ r 0 ≤ 1 := hok.1 0 (1, 1) rfl
  have b1 : (-2147483648) ≤ r 1 ∧ r 1 ≤ (-1) := hok.1 1 ((-2147483648), (-1)) rfl
  have b2 : (-9223372036854775808) ≤ r 2 ∧ r 2 ≤ 9223372036854775807 := hok.1 2 ((-9223372036854775808), 9223372036854775807) rfl
  have b3 : (-2147483648) ≤ r 3 ∧ r 3 ≤ 2147483647 := hok.1 3 ((-2147483648), 2147483647) rfl
  have b4 : 0 ≤ r 4 ∧ r 4 ≤ 1 := hok.1 4 (0, 1) rfl
  have b5 : (-2147483648) ≤ r 5 ∧ r 5 ≤ 2147483647 := hok.1 5 ((-2147483648), 2147483647) rfl
  have b6 : 0 ≤ r 6 ∧ r 6 ≤ 100 := hok.1 6 (0, 100) rfl
  have b7 : 1 ≤ r 7 ∧ r 7 ≤ 1 := hok.1 7 (1, 1) rfl
  have b8 : (-2147483648) ≤ r 8 ∧ r 8 ≤ 2147483647 := hok.1 8 ((-2147483648), 2147483647) rfl
  have b9 : 0 ≤ r 9 ∧ r 9 ≤ 100 := hok.1 9 (0, 100) rfl
  have b10 : 0 ≤ r 10 ∧ r 10 ≤ 1 := hok.1 10 (0, 1) rfl
  have b11 : (-2147483648) ≤ r 11 ∧ r 11 ≤ 2147483647 := hok.1 11 ((-2147483648), 2147483647) rfl
  have b12 : 0 ≤ r 12 ∧ r 12 ≤ 100 := hok.1 12 (0, 100) rfl
  have b13 : 0 ≤ r 13 ∧ r 13 ≤ 1 := hok.1 13 (0, 1) rfl
  have b14 : (-2147483648) ≤ r 14 ∧ r 14 ≤ 2147483647 := hok.1 14 ((-2147483648), 2147483647) rfl
  have b15 : 0 ≤ r 15 ∧ r 15 ≤ 100 := hok.1 15 (0, 100) rfl
  have b16 : (-2147483648) ≤ r 16 ∧ r 16 ≤ 0 := hok.1 16 ((-2147483648), 0) rfl
  obtain ⟨hG, hgi⟩ := hG
  have hG : True := hG
  have hh : g = gi := hh
  subst hh
  refine yt_dalt (by decide) (by decide) ?_
  rw [show xk_166.2.1.2.1.1.length = 16 from rfl]
  show ((0 : Int) + (-3)) = yq_wr ((1 * r 0 + 0) + 0) ((1 * r 1 + 0) + 0) (yq_at ((1 * r 0 + 0) + 0) ((1 * ((1 * r 4 + 0) + 0) + 0) + 0) ((1 * ((1 * r 7 + 0) + 0) + 0) + 0) ((1 * ((1 * r 10 + 0) + 0) + 0) + 0) ((1 * ((1 * r 13 + 0) + 0) + 0) + 0)) (yq_at ((1 * r 0 + 0) + 0) ((1 * ((1 * r 6 + 0) + 0) + 0) + 0) ((1 * ((1 * r 9 + 0) + 0) + 0) + 0) ((1 * ((1 * r 12 + 0) + 0) + 0) + 0) ((1 * ((1 * r 15 + 0) + 0) + 0) + 0)) ∧ (g 3) = yq_xw ((1 * r 0 + 0) + 0) ((1 * r 1 + 0) + 0) ((1 * r 2 + 0) + 0) 0 ((1 * ((1 * r 4 + 0) + 0) + 0) + 0) ((1 * ((1 * r 6 + 0) + 0) + 0) + 0) ((1 * ((1 * r 5 + 0) + 0) + 0) + 0) (g0 3) ∧ (g 5) = yq_xw ((1 * r 0 + 0) + 0) ((1 * r 1 + 0) + 0) ((1 * r 2 + 0) + 0) 1 ((1 * ((1 * r 7 + 0) + 0) + 0) + 0) ((1 * ((1 * r 9 + 0) + 0) + 0) + 0) ((1 * ((1 * r 8 + 0) + 0) + 0) + 0) (g0 5) ∧ (g 7) = yq_xw ((1 * r 0 + 0) + 0) ((1 * r 1 + 0) + 0) ((1 * r 2 + 0) + 0) 2 ((1 * ((1 * r 10 + 0) + 0) + 0) + 0) ((1 * ((1 * r 12 + 0) + 0) + 0) + 0) ((1 * ((1 * r 11 + 0) + 0) + 0) + 0) (g0 7) ∧ (g 9) = yq_xw ((1 * r 0 + 0) + 0) ((1 * r 1 + 0) + 0) ((1 * r 2 + 0) + 0) 3 ((1 * ((1 * r 13 + 0) + 0) + 0) + 0) ((1 * ((1 * r 15 + 0) + 0) + 0) + 0) ((1 * ((1 * r 14 + 0) + 0) + 0) + 0) (g0 9)
  try simp only [Int.one_mul, Int.zero_add, Int.add_zero]
  refine ⟨?_, ?_, ?_, ?_, ?_⟩
  · rw [show r 0 = 1 by omega]
    simp only [yq_at1]
    unfold yq_wr
    repeat' split
    all_goals omega
  · unfold yq_xw
    rw [if_neg (by omega)]
    rw [hgi]
  · unfold yq_xw
    rw [if_neg (by omega)]
    rw [hgi]
  · unfold yq_xw
    rw [if_neg (by omega)]
    rw [hgi]
  · unfold yq_xw
    rw [if_neg (by omega)]
    rw [hgi]
theorem xw_166_0_7 : yt_hold xT_166 xk_166 xq_166.2.2.1 xG_166 xP_166 xU_166 16 xk_166.2.1.2.2.2 (fun g0 r g => xR_166 r g0 ∧ g = g0) (1000, ([(1, 1), (0, 2147483647), ((-9223372036854775808), 9223372036854775807), ((-2147483648), 2147483647), (0, 1), ((-2147483648), 2147483647), (0, 100), (1, 1), ((-2147483648), 2147483647), (0, 100), (0, 1), ((-2147483648), 2147483647), (0, 100), (0, 1), ((-2147483648), 2147483647), (0, 100), ((-2147483648), 0)], [([(9, (-1)), (1, 1)], 0)]), [([], (-3)), ([(16, 1)], 0)], [], []) := by
  intro g0 r gi g hok hh hars hfr hG
  have b0 : 1 ≤ r 0 ∧ r 0 ≤ 1 := hok.1 0 (1, 1) rfl
  have b1 : 0 ≤ r 1 ∧ r 1 ≤ 2147483647 := hok.1 1 (0, 2147483647) rfl
  have b2 : (-9223372036854775808) ≤ r 2 ∧ r 2 ≤ 9223372036854775807 := hok.1 2 ((-9223372036854775808), 9223372036854775807) rfl
  have b3 : (-2147483648) ≤ r 3 ∧ r 3 ≤ 2147483647 := hok.1 3 ((-2147483648), 2147483647) rfl
  have b4 : 0 ≤ r 4 ∧ r 4 ≤ 1 := hok.1 4 (0, 1) rfl
  have b5 : (-2147483648) ≤ r 5 ∧ r 5 ≤ 2147483647 := hok.1 5 ((-2147483648), 2147483647) rfl
  have b6 : 0 ≤ r 6 ∧ r 6 ≤ 100 := hok.1 6 (0, 100) rfl
  have b7 : 1 ≤ r 7 ∧ r 7 ≤ 1 := hok.1 7 (1, 1) rfl
  have b8 : (-2147483648) ≤ r 8 ∧ r 8 ≤ 2147483647 := hok.1 8 ((-2147483648), 2147483647) rfl
  have b9 : 0 ≤ r 9 ∧ r 9 ≤ 100 := hok.1 9 (0, 100) rfl
  have b10 : 0 ≤ r 10 ∧ r 10 ≤ 1 := hok.1 10 (0, 1) rfl
  have b11 : (-2147483648) ≤ r 11 ∧ r 11 ≤ 2147483647 := hok.1 11 ((-2147483648), 2147483647) rfl
  have b12 : 0 ≤ r 12 ∧ r 12 ≤ 100 := hok.1 12 (0, 100) rfl
  have b13 : 0 ≤ r 13 ∧ r 13 ≤ 1 := hok.1 13 (0, 1) rfl
  have b14 : (-2147483648) ≤ r 14 ∧ r 14 ≤ 2147483647 := hok.1 14 ((-2147483648), 2147483647) rfl
  have b15 : 0 ≤ r 15 ∧ r 15 ≤ 100 := hok.1 15 (0, 100) rfl
  have b16 : (-2147483648) ≤ r 16 ∧ r 16 ≤ 0 := hok.1 16 ((-2147483648), 0) rfl
  have f0 : 0 ≤ (((-1) * r 9 + (1 * r 1 + 0)) + 0) := hok.2 _ (List.mem_of_getElem? (i := 0) rfl)
  obtain ⟨hG, hgi⟩ := hG
  have hG : True := hG
  have hh : g = gi := hh
  subst hh
  refine yt_dalt (by decide) (by decide) ?_
  rw [show xk_166.2.1.2.1.1.length = 16 from rfl]
  show ((0 : Int) + (-3)) = yq_wr ((1 * r 0 + 0) + 0) ((1 * r 1 + 0) + 0) (yq_at ((1 * r 0 + 0) + 0) ((1 * ((1 * r 4 + 0) + 0) + 0) + 0) ((1 * ((1 * r 7 + 0) + 0) + 0) + 0) ((1 * ((1 * r 10 + 0) + 0) + 0) + 0) ((1 * ((1 * r 13 + 0) + 0) + 0) + 0)) (yq_at ((1 * r 0 + 0) + 0) ((1 * ((1 * r 6 + 0) + 0) + 0) + 0) ((1 * ((1 * r 9 + 0) + 0) + 0) + 0) ((1 * ((1 * r 12 + 0) + 0) + 0) + 0) ((1 * ((1 * r 15 + 0) + 0) + 0) + 0)) ∧ (g 3) = yq_xw ((1 * r 0 + 0) + 0) ((1 * r 1 + 0) + 0) ((1 * r 2 + 0) + 0) 0 ((1 * ((1 * r 4 + 0) + 0) + 0) + 0) ((1 * ((1 * r 6 + 0) + 0) + 0) + 0) ((1 * ((1 * r 5 + 0) + 0) + 0) + 0) (g0 3) ∧ (g 5) = yq_xw ((1 * r 0 + 0) + 0) ((1 * r 1 + 0) + 0) ((1 * r 2 + 0) + 0) 1 ((1 * ((1 * r 7 + 0) + 0) + 0) + 0) ((1 * ((1 * r 9 + 0) + 0) + 0) + 0) ((1 * ((1 * r 8 + 0) + 0) + 0) + 0) (g0 5) ∧ (g 7) = yq_xw ((1 * r 0 + 0) + 0) ((1 * r 1 + 0) + 0) ((1 * r 2 + 0) + 0) 2 ((1 * ((1 * r 10 + 0) + 0) + 0) + 0) ((1 * ((1 * r 12 + 0) + 0) + 0) + 0) ((1 * ((1 * r 11 + 0) + 0) + 0) + 0) (g0 7) ∧ (g 9) = yq_xw ((1 * r 0 + 0) + 0) ((1 * r 1 + 0) + 0) ((1 * r 2 + 0) + 0) 3 ((1 * ((1 * r 13 + 0) + 0) + 0) + 0) ((1 * ((1 * r 15 + 0) + 0) + 0) + 0) ((1 * ((1 * r 14 + 0) + 0) + 0) + 0) (g0 9)
  try simp only [Int.one_mul, Int.zero_add, Int.add_zero]
  refine ⟨?_, ?_, ?_, ?_, ?_⟩
  · rw [show r 0 = 1 by omega]
    simp only [yq_at1]
    unfold yq_wr
    repeat' split
    all_goals omega
  · unfold yq_xw
    rw [if_neg (by omega)]
    rw [hgi]
  · unfold yq_xw
    rw [if_neg (by omega)]
    rw [hgi]
  · unfold yq_xw
    rw [if_neg (by omega)]
    rw [hgi]
  · unfold yq_xw
    rw [if_neg (by omega)]
    rw [hgi]
theorem xw_166_0_8 : yt_hold xT_166 xk_166 xq_166.2.2.1 xG_166 xP_166 xU_166 16 xk_166.2.1.2.2.2 (fun g0 r g => xR_166 r g0 ∧ g = g0) (1000, ([(1, 1), (0, 99), ((-9223372036854775808), 9223372036854775807), ((-2147483648), 2147483647), (0, 1), ((-2147483648), 2147483647), (0, 100), (1, 1), ((-2147483648), 2147483647), (1, 100), (0, 1), ((-2147483648), 2147483647), (0, 100), (0, 1), ((-2147483648), 2147483647), (0, 100), ((-2147483648), 0)], [([(9, 1), (1, (-1))], (-1))]), [([], 0), ([(16, 1)], 0)], [], [.inr (.inr (.inl (97, 0, [([(1, 1)], 0), ([(2, 1)], 0), ([(7, 1)], 0), ([(8, 1)], 0), ([(9, 1)], 0)], [4, 5], [5])))]) := by
  intro g0 r gi g hok hh hars hfr hG
  have b0 : 1 ≤ r 0 ∧ r 0 ≤ 1 := hok.1 0 (1, 1) rfl
  have b1 : 0 ≤ r 1 ∧ r 1 ≤ 99 := hok.1 1 (0, 99) rfl
  have b2 : (-9223372036854775808) ≤ r 2 ∧ r 2 ≤ 9223372036854775807 := hok.1 2 ((-9223372036854775808), 9223372036854775807) rfl
  have b3 : (-2147483648) ≤ r 3 ∧ r 3 ≤ 2147483647 := hok.1 3 ((-2147483648), 2147483647) rfl
  have b4 : 0 ≤ r 4 ∧ r 4 ≤ 1 := hok.1 4 (0, 1) rfl
  have b5 : (-2147483648) ≤ r 5 ∧ r 5 ≤ 2147483647 := hok.1 5 ((-2147483648), 2147483647) rfl
  have b6 : 0 ≤ r 6 ∧ r 6 ≤ 100 := hok.1 6 (0, 100) rfl
  have b7 : 1 ≤ r 7 ∧ r 7 ≤ 1 := hok.1 7 (1, 1) rfl
  have b8 : (-2147483648) ≤ r 8 ∧ r 8 ≤ 2147483647 := hok.1 8 ((-2147483648), 2147483647) rfl
  have b9 : 1 ≤ r 9 ∧ r 9 ≤ 100 := hok.1 9 (1, 100) rfl
  have b10 : 0 ≤ r 10 ∧ r 10 ≤ 1 := hok.1 10 (0, 1) rfl
  have b11 : (-2147483648) ≤ r 11 ∧ r 11 ≤ 2147483647 := hok.1 11 ((-2147483648), 2147483647) rfl
  have b12 : 0 ≤ r 12 ∧ r 12 ≤ 100 := hok.1 12 (0, 100) rfl
  have b13 : 0 ≤ r 13 ∧ r 13 ≤ 1 := hok.1 13 (0, 1) rfl
  have b14 : (-2147483648) ≤ r 14 ∧ r 14 ≤ 2147483647 := hok.1 14 ((-2147483648), 2147483647) rfl
  have b15 : 0 ≤ r 15 ∧ r 15 ≤ 100 := hok.1 15 (0, 100) rfl
  have b16 : (-2147483648) ≤ r 16 ∧ r 16 ≤ 0 := hok.1 16 ((-2147483648), 0) rfl
  have f0 : 0 ≤ ((1 * r 9 + ((-1) * r 1 + 0)) + (-1)) := hok.2 _ (List.mem_of_getElem? (i := 0) rfl)
  obtain ⟨hG, hgi⟩ := hG
  have hG : True := hG
  obtain ⟨h0, hh, e0, k0⟩ := hh
  have k0 : ∀ j, j ∉ [5] → g j = h0 j := k0
  have e0 : (g 5) = yq_set (h0 5) (((1 * r 1 + 0) + 0)).toNat (yq_cut ((1 * r 8 + 0) + 0) ((1 * r 2 + 0) + 0)) := e0
  have hh : h0 = gi := hh
  subst hh
  refine yt_dalt (by decide) (by decide) ?_
  rw [show xk_166.2.1.2.1.1.length = 16 from rfl]
  show ((0 : Int) + 0) = yq_wr ((1 * r 0 + 0) + 0) ((1 * r 1 + 0) + 0) (yq_at ((1 * r 0 + 0) + 0) ((1 * ((1 * r 4 + 0) + 0) + 0) + 0) ((1 * ((1 * r 7 + 0) + 0) + 0) + 0) ((1 * ((1 * r 10 + 0) + 0) + 0) + 0) ((1 * ((1 * r 13 + 0) + 0) + 0) + 0)) (yq_at ((1 * r 0 + 0) + 0) ((1 * ((1 * r 6 + 0) + 0) + 0) + 0) ((1 * ((1 * r 9 + 0) + 0) + 0) + 0) ((1 * ((1 * r 12 + 0) + 0) + 0) + 0) ((1 * ((1 * r 15 + 0) + 0) + 0) + 0)) ∧ (g 3) = yq_xw ((1 * r 0 + 0) + 0) ((1 * r 1 + 0) + 0) ((1 * r 2 + 0) + 0) 0 ((1 * ((1 * r 4 + 0) + 0) + 0) + 0) ((1 * ((1 * r 6 + 0) + 0) + 0) + 0) ((1 * ((1 * r 5 + 0) + 0) + 0) + 0) (g0 3) ∧ (g 5) = yq_xw ((1 * r 0 + 0) + 0) ((1 * r 1 + 0) + 0) ((1 * r 2 + 0) + 0) 1 ((1 * ((1 * r 7 + 0) + 0) + 0) + 0) ((1 * ((1 * r 9 + 0) + 0) + 0) + 0) ((1 * ((1 * r 8 + 0) + 0) + 0) + 0) (g0 5) ∧ (g 7) = yq_xw ((1 * r 0 + 0) + 0) ((1 * r 1 + 0) + 0) ((1 * r 2 + 0) + 0) 2 ((1 * ((1 * r 10 + 0) + 0) + 0) + 0) ((1 * ((1 * r 12 + 0) + 0) + 0) + 0) ((1 * ((1 * r 11 + 0) + 0) + 0) + 0) (g0 7) ∧ (g 9) = yq_xw ((1 * r 0 + 0) + 0) ((1 * r 1 + 0) + 0) ((1 * r 2 + 0) + 0) 3 ((1 * ((1 * r 13 + 0) + 0) + 0) + 0) ((1 * ((1 * r 15 + 0) + 0) + 0) + 0) ((1 * ((1 * r 14 + 0) + 0) + 0) + 0) (g0 9)
  try simp only [Int.one_mul, Int.zero_add, Int.add_zero]
  try simp only [Int.one_mul, Int.zero_add, Int.add_zero] at e0
  refine ⟨?_, ?_, ?_, ?_, ?_⟩
  · rw [show r 0 = 1 by omega]
    simp only [yq_at1]
    unfold yq_wr
    repeat' split
    all_goals omega
  · unfold yq_xw
    rw [if_neg (by omega)]
    rw [k0 3 (by decide), hgi]
  · unfold yq_xw
    rw [if_pos (by omega), e0, hgi]
  · unfold yq_xw
    rw [if_neg (by omega)]
    rw [k0 7 (by decide), hgi]
  · unfold yq_xw
    rw [if_neg (by omega)]
    rw [k0 9 (by decide), hgi]
theorem xw_166_0_9 : yt_hold xT_166 xk_166 xq_166.2.2.1 xG_166 xP_166 xU_166 16 xk_166.2.1.2.2.2 (fun g0 r g => xR_166 r g0 ∧ g = g0) (1000, ([(1, 1), ((-2147483648), 2147483647), ((-9223372036854775808), 9223372036854775807), ((-2147483648), 2147483647), (0, 1), ((-2147483648), 2147483647), (0, 100), (0, 0), ((-2147483648), 2147483647), (0, 100), (0, 1), ((-2147483648), 2147483647), (0, 100), (0, 1), ((-2147483648), 2147483647), (0, 100), ((-2147483648), 0)], []), [([], (-2)), ([(16, 1)], 0)], [], []) := by
  intro g0 r gi g hok hh hars hfr hG
  have b0 : 1 ≤ r 0 ∧ r 0 ≤ 1 := hok.1 0 (1, 1) rfl
  have b1 : (-2147483648) ≤ r 1 ∧ r 1 ≤ 2147483647 := hok.1 1 ((-2147483648), 2147483647) rfl
  have b2 : (-9223372036854775808) ≤ r 2 ∧ r 2 ≤ 9223372036854775807 := hok.1 2 ((-9223372036854775808), 9223372036854775807) rfl
  have b3 : (-2147483648) ≤ r 3 ∧ r 3 ≤ 2147483647 := hok.1 3 ((-2147483648), 2147483647) rfl
  have b4 : 0 ≤ r 4 ∧ r 4 ≤ 1 := hok.1 4 (0, 1) rfl
  have b5 : (-2147483648) ≤ r 5 ∧ r 5 ≤ 2147483647 := hok.1 5 ((-2147483648), 2147483647) rfl
  have b6 : 0 ≤ r 6 ∧ r 6 ≤ 100 := hok.1 6 (0, 100) rfl
  have b7 : 0 ≤ r 7 ∧ r 7 ≤ 0 := hok.1 7 (0, 0) rfl
  have b8 : (-2147483648) ≤ r 8 ∧ r 8 ≤ 2147483647 := hok.1 8 ((-2147483648), 2147483647) rfl
  have b9 : 0 ≤ r 9 ∧ r 9 ≤ 100 := hok.1 9 (0, 100) rfl
  have b10 : 0 ≤ r 10 ∧ r 10 ≤ 1 := hok.1 10 (0, 1) rfl
  have b11 : (-2147483648) ≤ r 11 ∧ r 11 ≤ 2147483647 := hok.1 11 ((-2147483648), 2147483647) rfl
  have b12 : 0 ≤ r 12 ∧ r 12 ≤ 100 := hok.1 12 (0, 100) rfl
  have b13 : 0 ≤ r 13 ∧ r 13 ≤ 1 := hok.1 13 (0, 1) rfl
  have b14 : (-2147483648) ≤ r 14 ∧ r 14 ≤ 2147483647 := hok.1 14 ((-2147483648), 2147483647) rfl
  have b15 : 0 ≤ r 15 ∧ r 15 ≤ 100 := hok.1 15 (0, 100) rfl
  have b16 : (-2147483648) ≤ r 16 ∧ r 16 ≤ 0 := hok.1 16 ((-2147483648), 0) rfl
  obtain ⟨hG, hgi⟩ := hG
  have hG : True := hG
  have hh : g = gi := hh
  subst hh
  refine yt_dalt (by decide) (by decide) ?_
  rw [show xk_166.2.1.2.1.1.length = 16 from rfl]
  show ((0 : Int) + (-2)) = yq_wr ((1 * r 0 + 0) + 0) ((1 * r 1 + 0) + 0) (yq_at ((1 * r 0 + 0) + 0) ((1 * ((1 * r 4 + 0) + 0) + 0) + 0) ((1 * ((1 * r 7 + 0) + 0) + 0) + 0) ((1 * ((1 * r 10 + 0) + 0) + 0) + 0) ((1 * ((1 * r 13 + 0) + 0) + 0) + 0)) (yq_at ((1 * r 0 + 0) + 0) ((1 * ((1 * r 6 + 0) + 0) + 0) + 0) ((1 * ((1 * r 9 + 0) + 0) + 0) + 0) ((1 * ((1 * r 12 + 0) + 0) + 0) + 0) ((1 * ((1 * r 15 + 0) + 0) + 0) + 0)) ∧ (g 3) = yq_xw ((1 * r 0 + 0) + 0) ((1 * r 1 + 0) + 0) ((1 * r 2 + 0) + 0) 0 ((1 * ((1 * r 4 + 0) + 0) + 0) + 0) ((1 * ((1 * r 6 + 0) + 0) + 0) + 0) ((1 * ((1 * r 5 + 0) + 0) + 0) + 0) (g0 3) ∧ (g 5) = yq_xw ((1 * r 0 + 0) + 0) ((1 * r 1 + 0) + 0) ((1 * r 2 + 0) + 0) 1 ((1 * ((1 * r 7 + 0) + 0) + 0) + 0) ((1 * ((1 * r 9 + 0) + 0) + 0) + 0) ((1 * ((1 * r 8 + 0) + 0) + 0) + 0) (g0 5) ∧ (g 7) = yq_xw ((1 * r 0 + 0) + 0) ((1 * r 1 + 0) + 0) ((1 * r 2 + 0) + 0) 2 ((1 * ((1 * r 10 + 0) + 0) + 0) + 0) ((1 * ((1 * r 12 + 0) + 0) + 0) + 0) ((1 * ((1 * r 11 + 0) + 0) + 0) + 0) (g0 7) ∧ (g 9) = yq_xw ((1 * r 0 + 0) + 0) ((1 * r 1 + 0) + 0) ((1 * r 2 + 0) + 0) 3 ((1 * ((1 * r 13 + 0) + 0) + 0) + 0) ((1 * ((1 * r 15 + 0) + 0) + 0) + 0) ((1 * ((1 * r 14 + 0) + 0) + 0) + 0) (g0 9)
  try simp only [Int.one_mul, Int.zero_add, Int.add_zero]
  refine ⟨?_, ?_, ?_, ?_, ?_⟩
  · rw [show r 0 = 1 by omega]
    simp only [yq_at1]
    unfold yq_wr
    repeat' split
    all_goals omega
  · unfold yq_xw
    rw [if_neg (by omega)]
    rw [hgi]
  · unfold yq_xw
    rw [if_neg (by omega)]
    rw [hgi]
  · unfold yq_xw
    rw [if_neg (by omega)]
    rw [hgi]
  · unfold yq_xw
    rw [if_neg (by omega)]
    rw [hgi]
theorem xw_166_0_10 : yt_hold xT_166 xk_166 xq_166.2.2.1 xG_166 xP_166 xU_166 16 xk_166.2.1.2.2.2 (fun g0 r g => xR_166 r g0 ∧ g = g0) (1000, ([(2, 2), ((-2147483648), (-1)), ((-9223372036854775808), 9223372036854775807), ((-2147483648), 2147483647), (0, 1), ((-2147483648), 2147483647), (0, 100), (0, 1), ((-2147483648), 2147483647), (0, 100), (1, 1), ((-2147483648), 2147483647), (0, 100), (0, 1), ((-2147483648), 2147483647), (0, 100), ((-2147483648), 0)], []), [([], (-3)), ([(16, 1)], 0)], [], []) := by
  intro g0 r gi g hok hh hars hfr hG
  have b0 : 2 ≤ r 0 ∧ r 0 ≤ 2 := hok.1 0 (2, 2) rfl
  have b1 : (-2147483648) ≤ r 1 ∧ r 1 ≤ (-1) := hok.1 1 ((-2147483648), (-1)) rfl
  have b2 : (-9223372036854775808) ≤ r 2 ∧ r 2 ≤ 9223372036854775807 := hok.1 2 ((-9223372036854775808), 9223372036854775807) rfl
  have b3 : (-2147483648) ≤ r 3 ∧ r 3 ≤ 2147483647 := hok.1 3 ((-2147483648), 2147483647) rfl
  have b4 : 0 ≤ r 4 ∧ r 4 ≤ 1 := hok.1 4 (0, 1) rfl
  have b5 : (-2147483648) ≤ r 5 ∧ r 5 ≤ 2147483647 := hok.1 5 ((-2147483648), 2147483647) rfl
  have b6 : 0 ≤ r 6 ∧ r 6 ≤ 100 := hok.1 6 (0, 100) rfl
  have b7 : 0 ≤ r 7 ∧ r 7 ≤ 1 := hok.1 7 (0, 1) rfl
  have b8 : (-2147483648) ≤ r 8 ∧ r 8 ≤ 2147483647 := hok.1 8 ((-2147483648), 2147483647) rfl
  have b9 : 0 ≤ r 9 ∧ r 9 ≤ 100 := hok.1 9 (0, 100) rfl
  have b10 : 1 ≤ r 10 ∧ r 10 ≤ 1 := hok.1 10 (1, 1) rfl
  have b11 : (-2147483648) ≤ r 11 ∧ r 11 ≤ 2147483647 := hok.1 11 ((-2147483648), 2147483647) rfl
  have b12 : 0 ≤ r 12 ∧ r 12 ≤ 100 := hok.1 12 (0, 100) rfl
  have b13 : 0 ≤ r 13 ∧ r 13 ≤ 1 := hok.1 13 (0, 1) rfl
  have b14 : (-2147483648) ≤ r 14 ∧ r 14 ≤ 2147483647 := hok.1 14 ((-2147483648), 2147483647) rfl
  have b15 : 0 ≤ r 15 ∧ r 15 ≤ 100 := hok.1 15 (0, 100) rfl
  have b16 : (-2147483648) ≤ r 16 ∧ r 16 ≤ 0 := hok.1 16 ((-2147483648), 0) rfl
  obtain ⟨hG, hgi⟩ := hG
  have hG : True := hG
  have hh : g = gi := hh
  subst hh
  refine yt_dalt (by decide) (by decide) ?_
  rw [show xk_166.2.1.2.1.1.length = 16 from rfl]
  show ((0 : Int) + (-3)) = yq_wr ((1 * r 0 + 0) + 0) ((1 * r 1 + 0) + 0) (yq_at ((1 * r 0 + 0) + 0) ((1 * ((1 * r 4 + 0) + 0) + 0) + 0) ((1 * ((1 * r 7 + 0) + 0) + 0) + 0) ((1 * ((1 * r 10 + 0) + 0) + 0) + 0) ((1 * ((1 * r 13 + 0) + 0) + 0) + 0)) (yq_at ((1 * r 0 + 0) + 0) ((1 * ((1 * r 6 + 0) + 0) + 0) + 0) ((1 * ((1 * r 9 + 0) + 0) + 0) + 0) ((1 * ((1 * r 12 + 0) + 0) + 0) + 0) ((1 * ((1 * r 15 + 0) + 0) + 0) + 0)) ∧ (g 3) = yq_xw ((1 * r 0 + 0) + 0) ((1 * r 1 + 0) + 0) ((1 * r 2 + 0) + 0) 0 ((1 * ((1 * r 4 + 0) + 0) + 0) + 0) ((1 * ((1 * r 6 + 0) + 0) + 0) + 0) ((1 * ((1 * r 5 + 0) + 0) + 0) + 0) (g0 3) ∧ (g 5) = yq_xw ((1 * r 0 + 0) + 0) ((1 * r 1 + 0) + 0) ((1 * r 2 + 0) + 0) 1 ((1 * ((1 * r 7 + 0) + 0) + 0) + 0) ((1 * ((1 * r 9 + 0) + 0) + 0) + 0) ((1 * ((1 * r 8 + 0) + 0) + 0) + 0) (g0 5) ∧ (g 7) = yq_xw ((1 * r 0 + 0) + 0) ((1 * r 1 + 0) + 0) ((1 * r 2 + 0) + 0) 2 ((1 * ((1 * r 10 + 0) + 0) + 0) + 0) ((1 * ((1 * r 12 + 0) + 0) + 0) + 0) ((1 * ((1 * r 11 + 0) + 0) + 0) + 0) (g0 7) ∧ (g 9) = yq_xw ((1 * r 0 + 0) + 0) ((1 * r 1 + 0) + 0) ((1 * r 2 + 0) + 0) 3 ((1 * ((1 * r 13 + 0) + 0) + 0) + 0) ((1 * ((1 * r 15 + 0) + 0) + 0) + 0) ((1 * ((1 * r 14 + 0) + 0) + 0) + 0) (g0 9)
  try simp only [Int.one_mul, Int.zero_add, Int.add_zero]
  refine ⟨?_, ?_, ?_, ?_, ?_⟩
  · rw [show r 0 = 2 by omega]
    simp only [yq_at2]
    unfold yq_wr
    repeat' split
    all_goals omega
  · unfold yq_xw
    rw [if_neg (by omega)]
    rw [hgi]
  · unfold yq_xw
    rw [if_neg (by omega)]
    rw [hgi]
  · unfold yq_xw
    rw [if_neg (by omega)]
    rw [hgi]
  · unfold yq_xw
    rw [if_neg (by omega)]
    rw [hgi]
theorem xw_166_0_11 : yt_hold xT_166 xk_166 xq_166.2.2.1 xG_166 xP_166 xU_166 16 xk_166.2.1.2.2.2 (fun g0 r g => xR_166 r g0 ∧ g = g0) (1000, ([(2, 2), (0, 2147483647), ((-9223372036854775808), 9223372036854775807), ((-2147483648), 2147483647), (0, 1), ((-2147483648), 2147483647), (0, 100), (0, 1), ((-2147483648), 2147483647), (0, 100), (1, 1), ((-2147483648), 2147483647), (0, 100), (0, 1), ((-2147483648), 2147483647), (0, 100), ((-2147483648), 0)], [([(12, (-1)), (1, 1)], 0)]), [([], (-3)), ([(16, 1)], 0)], [], []) := by
  intro g0 r gi g hok hh hars hfr hG
  have b0 : 2 ≤ r 0 ∧ r 0 ≤ 2 := hok.1 0 (2, 2) rfl
  have b1 : 0 ≤ r 1 ∧ r 1 ≤ 2147483647 := hok.1 1 (0, 2147483647) rfl
  have b2 : (-9223372036854775808) ≤ r 2 ∧ r 2 ≤ 9223372036854775807 := hok.1 2 ((-9223372036854775808), 9223372036854775807) rfl
  have b3 : (-2147483648) ≤ r 3 ∧ r 3 ≤ 2147483647 := hok.1 3 ((-2147483648), 2147483647) rfl
  have b4 : 0 ≤ r 4 ∧ r 4 ≤ 1 := hok.1 4 (0, 1) rfl
  have b5 : (-2147483648) ≤ r 5 ∧ r 5 ≤ 2147483647 := hok.1 5 ((-2147483648), 2147483647) rfl
  have b6 : 0 ≤ r 6 ∧ r 6 ≤ 100 := hok.1 6 (0, 100) rfl
  have b7 : 0 ≤ r 7 ∧ r 7 ≤ 1 := hok.1 7 (0, 1) rfl
  have b8 : (-2147483648) ≤ r 8 ∧ r 8 ≤ 2147483647 := hok.1 8 ((-2147483648), 2147483647) rfl
  have b9 : 0 ≤ r 9 ∧ r 9 ≤ 100 := hok.1 9 (0, 100) rfl
  have b10 : 1 ≤ r 10 ∧ r 10 ≤ 1 := hok.1 10 (1, 1) rfl
  have b11 : (-2147483648) ≤ r 11 ∧ r 11 ≤ 2147483647 := hok.1 11 ((-2147483648), 2147483647) rfl
  have b12 : 0 ≤ r 12 ∧ r 12 ≤ 100 := hok.1 12 (0, 100) rfl
  have b13 : 0 ≤ r 13 ∧ r 13 ≤ 1 := hok.1 13 (0, 1) rfl
  have b14 : (-2147483648) ≤ r 14 ∧ r 14 ≤ 2147483647 := hok.1 14 ((-2147483648), 2147483647) rfl
  have b15 : 0 ≤ r 15 ∧ r 15 ≤ 100 := hok.1 15 (0, 100) rfl
  have b16 : (-2147483648) ≤ r 16 ∧ r 16 ≤ 0 := hok.1 16 ((-2147483648), 0) rfl
  have f0 : 0 ≤ (((-1) * r 12 + (1 * r 1 + 0)) + 0) := hok.2 _ (List.mem_of_getElem? (i := 0) rfl)
  obtain ⟨hG, hgi⟩ := hG
  have hG : True := hG
  have hh : g = gi := hh
  subst hh
  refine yt_dalt (by decide) (by decide) ?_
  rw [show xk_166.2.1.2.1.1.length = 16 from rfl]
  show ((0 : Int) + (-3)) = yq_wr ((1 * r 0 + 0) + 0) ((1 * r 1 + 0) + 0) (yq_at ((1 * r 0 + 0) + 0) ((1 * ((1 * r 4 + 0) + 0) + 0) + 0) ((1 * ((1 * r 7 + 0) + 0) + 0) + 0) ((1 * ((1 * r 10 + 0) + 0) + 0) + 0) ((1 * ((1 * r 13 + 0) + 0) + 0) + 0)) (yq_at ((1 * r 0 + 0) + 0) ((1 * ((1 * r 6 + 0) + 0) + 0) + 0) ((1 * ((1 * r 9 + 0) + 0) + 0) + 0) ((1 * ((1 * r 12 + 0) + 0) + 0) + 0) ((1 * ((1 * r 15 + 0) + 0) + 0) + 0)) ∧ (g 3) = yq_xw ((1 * r 0 + 0) + 0) ((1 * r 1 + 0) + 0) ((1 * r 2 + 0) + 0) 0 ((1 * ((1 * r 4 + 0) + 0) + 0) + 0) ((1 * ((1 * r 6 + 0) + 0) + 0) + 0) ((1 * ((1 * r 5 + 0) + 0) + 0) + 0) (g0 3) ∧ (g 5) = yq_xw ((1 * r 0 + 0) + 0) ((1 * r 1 + 0) + 0) ((1 * r 2 + 0) + 0) 1 ((1 * ((1 * r 7 + 0) + 0) + 0) + 0) ((1 * ((1 * r 9 + 0) + 0) + 0) + 0) ((1 * ((1 * r 8 + 0) + 0) + 0) + 0) (g0 5) ∧ (g 7) = yq_xw ((1 * r 0 + 0) + 0) ((1 * r 1 + 0) + 0) ((1 * r 2 + 0) + 0) 2 ((1 * ((1 * r 10 + 0) + 0) + 0) + 0) ((1 * ((1 * r 12 + 0) + 0) + 0) + 0) ((1 * ((1 * r 11 + 0) + 0) + 0) + 0) (g0 7) ∧ (g 9) = yq_xw ((1 * r 0 + 0) + 0) ((1 * r 1 + 0) + 0) ((1 * r 2 + 0) + 0) 3 ((1 * ((1 * r 13 + 0) + 0) + 0) + 0) ((1 * ((1 * r 15 + 0) + 0) + 0) + 0) ((1 * ((1 * r 14 + 0) + 0) + 0) + 0) (g0 9)
  try simp only [Int.one_mul, Int.zero_add, Int.add_zero]
  refine ⟨?_, ?_, ?_, ?_, ?_⟩
  · rw [show r 0 = 2 by omega]
    simp only [yq_at2]
    unfold yq_wr
    repeat' split
    all_goals omega
  · unfold yq_xw
    rw [if_neg (by omega)]
    rw [hgi]
  · unfold yq_xw
    rw [if_neg (by omega)]
    rw [hgi]
  · unfold yq_xw
    rw [if_neg (by omega)]
    rw [hgi]
  · unfold yq_xw
    rw [if_neg (by omega)]
    rw [hgi]
theorem xw_166_0_12 : yt_hold xT_166 xk_166 xq_166.2.2.1 xG_166 xP_166 xU_166 16 xk_166.2.1.2.2.2 (fun g0 r g => xR_166 r g0 ∧ g = g0) (1000, ([(2, 2), (0, 99), ((-9223372036854775808), 9223372036854775807), ((-2147483648), 2147483647), (0, 1), ((-2147483648), 2147483647), (0, 100), (0, 1), ((-2147483648), 2147483647), (0, 100), (1, 1), ((-2147483648), 2147483647), (1, 100), (0, 1), ((-2147483648), 2147483647), (0, 100), ((-2147483648), 0)], [([(12, 1), (1, (-1))], (-1))]), [([], 0), ([(16, 1)], 0)], [], [.inr (.inr (.inl (97, 0, [([(1, 1)], 0), ([(2, 1)], 0), ([(10, 1)], 0), ([(11, 1)], 0), ([(12, 1)], 0)], [6, 7], [7])))]) := by
  intro g0 r gi g hok hh hars hfr hG
  have b0 : 2 ≤ r 0 ∧ r 0 ≤ 2 := hok.1 0 (2, 2) rfl
  have b1 : 0 ≤ r 1 ∧ r 1 ≤ 99 := hok.1 1 (0, 99) rfl
  have b2 : (-9223372036854775808) ≤ r 2 ∧ r 2 ≤ 9223372036854775807 := hok.1 2 ((-9223372036854775808), 9223372036854775807) rfl
  have b3 : (-2147483648) ≤ r 3 ∧ r 3 ≤ 2147483647 := hok.1 3 ((-2147483648), 2147483647) rfl
  have b4 : 0 ≤ r 4 ∧ r 4 ≤ 1 := hok.1 4 (0, 1) rfl
  have b5 : (-2147483648) ≤ r 5 ∧ r 5 ≤ 2147483647 := hok.1 5 ((-2147483648), 2147483647) rfl
  have b6 : 0 ≤ r 6 ∧ r 6 ≤ 100 := hok.1 6 (0, 100) rfl
  have b7 : 0 ≤ r 7 ∧ r 7 ≤ 1 := hok.1 7 (0, 1) rfl
  have b8 : (-2147483648) ≤ r 8 ∧ r 8 ≤ 2147483647 := hok.1 8 ((-2147483648), 2147483647) rfl
  have b9 : 0 ≤ r 9 ∧ r 9 ≤ 100 := hok.1 9 (0, 100) rfl
  have b10 : 1 ≤ r 10 ∧ r 10 ≤ 1 := hok.1 10 (1, 1) rfl
  have b11 : (-2147483648) ≤ r 11 ∧ r 11 ≤ 2147483647 := hok.1 11 ((-2147483648), 2147483647) rfl
  have b12 : 1 ≤ r 12 ∧ r 12 ≤ 100 := hok.1 12 (1, 100) rfl
  have b13 : 0 ≤ r 13 ∧ r 13 ≤ 1 := hok.1 13 (0, 1) rfl
  have b14 : (-2147483648) ≤ r 14 ∧ r 14 ≤ 2147483647 := hok.1 14 ((-2147483648), 2147483647) rfl
  have b15 : 0 ≤ r 15 ∧ r 15 ≤ 100 := hok.1 15 (0, 100) rfl
  have b16 : (-2147483648) ≤ r 16 ∧ r 16 ≤ 0 := hok.1 16 ((-2147483648), 0) rfl
  have f0 : 0 ≤ ((1 * r 12 + ((-1) * r 1 + 0)) + (-1)) := hok.2 _ (List.mem_of_getElem? (i := 0) rfl)
  obtain ⟨hG, hgi⟩ := hG
  have hG : True := hG
  obtain ⟨h0, hh, e0, k0⟩ := hh
  have k0 : ∀ j, j ∉ [7] → g j = h0 j := k0
  have e0 : (g 7) = yq_set (h0 7) (((1 * r 1 + 0) + 0)).toNat (yq_cut ((1 * r 11 + 0) + 0) ((1 * r 2 + 0) + 0)) := e0
  have hh : h0 = gi := hh
  subst hh
  refine yt_dalt (by decide) (by decide) ?_
  rw [show xk_166.2.1.2.1.1.length = 16 from rfl]
  show ((0 : Int) + 0) = yq_wr ((1 * r 0 + 0) + 0) ((1 * r 1 + 0) + 0) (yq_at ((1 * r 0 + 0) + 0) ((1 * ((1 * r 4 + 0) + 0) + 0) + 0) ((1 * ((1 * r 7 + 0) + 0) + 0) + 0) ((1 * ((1 * r 10 + 0) + 0) + 0) + 0) ((1 * ((1 * r 13 + 0) + 0) + 0) + 0)) (yq_at ((1 * r 0 + 0) + 0) ((1 * ((1 * r 6 + 0) + 0) + 0) + 0) ((1 * ((1 * r 9 + 0) + 0) + 0) + 0) ((1 * ((1 * r 12 + 0) + 0) + 0) + 0) ((1 * ((1 * r 15 + 0) + 0) + 0) + 0)) ∧ (g 3) = yq_xw ((1 * r 0 + 0) + 0) ((1 * r 1 + 0) + 0) ((1 * r 2 + 0) + 0) 0 ((1 * ((1 * r 4 + 0) + 0) + 0) + 0) ((1 * ((1 * r 6 + 0) + 0) + 0) + 0) ((1 * ((1 * r 5 + 0) + 0) + 0) + 0) (g0 3) ∧ (g 5) = yq_xw ((1 * r 0 + 0) + 0) ((1 * r 1 + 0) + 0) ((1 * r 2 + 0) + 0) 1 ((1 * ((1 * r 7 + 0) + 0) + 0) + 0) ((1 * ((1 * r 9 + 0) + 0) + 0) + 0) ((1 * ((1 * r 8 + 0) + 0) + 0) + 0) (g0 5) ∧ (g 7) = yq_xw ((1 * r 0 + 0) + 0) ((1 * r 1 + 0) + 0) ((1 * r 2 + 0) + 0) 2 ((1 * ((1 * r 10 + 0) + 0) + 0) + 0) ((1 * ((1 * r 12 + 0) + 0) + 0) + 0) ((1 * ((1 * r 11 + 0) + 0) + 0) + 0) (g0 7) ∧ (g 9) = yq_xw ((1 * r 0 + 0) + 0) ((1 * r 1 + 0) + 0) ((1 * r 2 + 0) + 0) 3 ((1 * ((1 * r 13 + 0) + 0) + 0) + 0) ((1 * ((1 * r 15 + 0) + 0) + 0) + 0) ((1 * ((1 * r 14 + 0) + 0) + 0) + 0) (g0 9)
  try simp only [Int.one_mul, Int.zero_add, Int.add_zero]
  try simp only [Int.one_mul, Int.zero_add, Int.add_zero] at e0
  refine ⟨?_, ?_, ?_, ?_, ?_⟩
  · rw [show r 0 = 2 by omega]
    simp only [yq_at2]
    unfold yq_wr
    repeat' split
    all_goals omega
  · unfold yq_xw
    rw [if_neg (by omega)]
    rw [k0 3 (by decide), hgi]
  · unfold yq_xw
    rw [if_neg (by omega)]
    rw [k0 5 (by decide), hgi]
  · unfold yq_xw
    rw [if_pos (by omega), e0, hgi]
  · unfold yq_xw
    rw [if_neg (by omega)]
    rw [k0 9 (by decide), hgi]
theorem xw_166_0_13 : yt_hold xT_166 xk_166 xq_166.2.2.1 xG_166 xP_166 xU_166 16 xk_166.2.1.2.2.2 (fun g0 r g => xR_166 r g0 ∧ g = g0) (1000, ([(2, 2), ((-2147483648), 2147483647), ((-9223372036854775808), 9223372036854775807), ((-2147483648), 2147483647), (0, 1), ((-2147483648), 2147483647), (0, 100), (0, 1), ((-2147483648), 2147483647), (0, 100), (0, 0), ((-2147483648), 2147483647), (0, 100), (0, 1), ((-2147483648), 2147483647), (0, 100), ((-2147483648), 0)], []), [([], (-2)), ([(16, 1)], 0)], [], []) := by
  intro g0 r gi g hok hh hars hfr hG
  have b0 : 2 ≤ r 0 ∧ r 0 ≤ 2 := hok.1 0 (2, 2) rfl
  have b1 : (-2147483648) ≤ r 1 ∧ r 1 ≤ 2147483647 := hok.1 1 ((-2147483648), 2147483647) rfl
  have b2 : (-9223372036854775808) ≤ r 2 ∧ r 2 ≤ 9223372036854775807 := hok.1 2 ((-9223372036854775808), 9223372036854775807) rfl
  have b3 : (-2147483648) ≤ r 3 ∧ r 3 ≤ 2147483647 := hok.1 3 ((-2147483648), 2147483647) rfl
  have b4 : 0 ≤ r 4 ∧ r 4 ≤ 1 := hok.1 4 (0, 1) rfl
  have b5 : (-2147483648) ≤ r 5 ∧ r 5 ≤ 2147483647 := hok.1 5 ((-2147483648), 2147483647) rfl
  have b6 : 0 ≤ r 6 ∧ r 6 ≤ 100 := hok.1 6 (0, 100) rfl
  have b7 : 0 ≤ r 7 ∧ r 7 ≤ 1 := hok.1 7 (0, 1) rfl
  have b8 : (-2147483648) ≤ r 8 ∧ r 8 ≤ 2147483647 := hok.1 8 ((-2147483648), 2147483647) rfl
  have b9 : 0 ≤ r 9 ∧ r 9 ≤ 100 := hok.1 9 (0, 100) rfl
  have b10 : 0 ≤ r 10 ∧ r 10 ≤ 0 := hok.1 10 (0, 0) rfl
  have b11 : (-2147483648) ≤ r 11 ∧ r 11 ≤ 2147483647 := hok.1 11 ((-2147483648), 2147483647) rfl
  have b12 : 0 ≤ r 12 ∧ r 12 ≤ 100 := hok.1 12 (0, 100) rfl
  have b13 : 0 ≤ r 13 ∧ r 13 ≤ 1 := hok.1 13 (0, 1) rfl
  have b14 : (-2147483648) ≤ r 14 ∧ r 14 ≤ 2147483647 := hok.1 14 ((-2147483648), 2147483647) rfl
  have b15 : 0 ≤ r 15 ∧ r 15 ≤ 100 := hok.1 15 (0, 100) rfl
  have b16 : (-2147483648) ≤ r 16 ∧ r 16 ≤ 0 := hok.1 16 ((-2147483648), 0) rfl
  obtain ⟨hG, hgi⟩ := hG
  have hG : True := hG
  have hh : g = gi := hh
  subst hh
  refine yt_dalt (by decide) (by decide) ?_
  rw [show xk_166.2.1.2.1.1.length = 16 from rfl]
  show ((0 : Int) + (-2)) = yq_wr ((1 * r 0 + 0) + 0) ((1 * r 1 + 0) + 0) (yq_at ((1 * r 0 + 0) + 0) ((1 * ((1 * r 4 + 0) + 0) + 0) + 0) ((1 * ((1 * r 7 + 0) + 0) + 0) + 0) ((1 * ((1 * r 10 + 0) + 0) + 0) + 0) ((1 * ((1 * r 13 + 0) + 0) + 0) + 0)) (yq_at ((1 * r 0 + 0) + 0) ((1 * ((1 * r 6 + 0) + 0) + 0) + 0) ((1 * ((1 * r 9 + 0) + 0) + 0) + 0) ((1 * ((1 * r 12 + 0) + 0) + 0) + 0) ((1 * ((1 * r 15 + 0) + 0) + 0) + 0)) ∧ (g 3) = yq_xw ((1 * r 0 + 0) + 0) ((1 * r 1 + 0) + 0) ((1 * r 2 + 0) + 0) 0 ((1 * ((1 * r 4 + 0) + 0) + 0) + 0) ((1 * ((1 * r 6 + 0) + 0) + 0) + 0) ((1 * ((1 * r 5 + 0) + 0) + 0) + 0) (g0 3) ∧ (g 5) = yq_xw ((1 * r 0 + 0) + 0) ((1 * r 1 + 0) + 0) ((1 * r 2 + 0) + 0) 1 ((1 * ((1 * r 7 + 0) + 0) + 0) + 0) ((1 * ((1 * r 9 + 0) + 0) + 0) + 0) ((1 * ((1 * r 8 + 0) + 0) + 0) + 0) (g0 5) ∧ (g 7) = yq_xw ((1 * r 0 + 0) + 0) ((1 * r 1 + 0) + 0) ((1 * r 2 + 0) + 0) 2 ((1 * ((1 * r 10 + 0) + 0) + 0) + 0) ((1 * ((1 * r 12 + 0) + 0) + 0) + 0) ((1 * ((1 * r 11 + 0) + 0) + 0) + 0) (g0 7) ∧ (g 9) = yq_xw ((1 * r 0 + 0) + 0) ((1 * r 1 + 0) + 0) ((1 * r 2 + 0) + 0) 3 ((1 * ((1 * r 13 + 0) + 0) + 0) + 0) ((1 * ((1 * r 15 + 0) + 0) + 0) + 0) ((1 * ((1 * r 14 + 0) + 0) + 0) + 0) (g0 9)
  try simp only [Int.one_mul, Int.zero_add, Int.add_zero]
  refine ⟨?_, ?_, ?_, ?_, ?_⟩
  · rw [show r 0 = 2 by omega]
    simp only [yq_at2]
    unfold yq_wr
    repeat' split
    all_goals omega
  · unfold yq_xw
    rw [if_neg (by omega)]
    rw [hgi]
  · unfold yq_xw
    rw [if_neg (by omega)]
    rw [hgi]
  · unfold yq_xw
    rw [if_neg (by omega)]
    rw [hgi]
  · unfold yq_xw
    rw [if_neg (by omega)]
    rw [hgi]
theorem xw_166_0_14 : yt_hold xT_166 xk_166 xq_166.2.2.1 xG_166 xP_166 xU_166 16 xk_166.2.1.2.2.2 (fun g0 r g => xR_166 r g0 ∧ g = g0) (1000, ([(3, 3), ((-2147483648), (-1)), ((-9223372036854775808), 9223372036854775807), ((-2147483648), 2147483647), (0, 1), ((-2147483648), 2147483647), (0, 100), (0, 1), ((-2147483648), 2147483647), (0, 100), (0, 1), ((-2147483648), 2147483647), (0, 100), (1, 1), ((-2147483648), 2147483647), (0, 100), ((-2147483648), 0)], []), [([], (-3)), ([(16, 1)], 0)], [], []) := by
  intro g0 r gi g hok hh hars hfr hG
  have b0 : 3 ≤ r 0 ∧ r 0 ≤ 3 := hok.1 0 (3, 3) rfl
  have b1 : (-2147483648) ≤ r 1 ∧ r 1 ≤ (-1) := hok.1 1 ((-2147483648), (-1)) rfl
  have b2 : (-9223372036854775808) ≤ r 2 ∧ r 2 ≤ 9223372036854775807 := hok.1 2 ((-9223372036854775808), 9223372036854775807) rfl
  have b3 : (-2147483648) ≤ r 3 ∧ r 3 ≤ 2147483647 := hok.1 3 ((-2147483648), 2147483647) rfl
  have b4 : 0 ≤ r 4 ∧ r 4 ≤ 1 := hok.1 4 (0, 1) rfl
  have b5 : (-2147483648) ≤ r 5 ∧ r 5 ≤ 2147483647 := hok.1 5 ((-2147483648), 2147483647) rfl
  have b6 : 0 ≤ r 6 ∧ r 6 ≤ 100 := hok.1 6 (0, 100) rfl
  have b7 : 0 ≤ r 7 ∧ r 7 ≤ 1 := hok.1 7 (0, 1) rfl
  have b8 : (-2147483648) ≤ r 8 ∧ r 8 ≤ 2147483647 := hok.1 8 ((-2147483648), 2147483647) rfl
  have b9 : 0 ≤ r 9 ∧ r 9 ≤ 100 := hok.1 9 (0, 100) rfl
  have b10 : 0 ≤ r 10 ∧ r 10 ≤ 1 := hok.1 10 (0, 1) rfl
  have b11 : (-2147483648) ≤ r 11 ∧ r 11 ≤ 2147483647 := hok.1 11 ((-2147483648), 2147483647) rfl
  have b12 : 0 ≤ r 12 ∧ r 12 ≤ 100 := hok.1 12 (0, 100) rfl
  have b13 : 1 ≤ r 13 ∧ r 13 ≤ 1 := hok.1 13 (1, 1) rfl
  have b14 : (-2147483648) ≤ r 14 ∧ r 14 ≤ 2147483647 := hok.1 14 ((-2147483648), 2147483647) rfl
  have b15 : 0 ≤ r 15 ∧ r 15 ≤ 100 := hok.1 15 (0, 100) rfl
  have b16 : (-2147483648) ≤ r 16 ∧ r 16 ≤ 0 := hok.1 16 ((-2147483648), 0) rfl
  obtain ⟨hG, hgi⟩ := hG
  have hG : True := hG
  have hh : g = gi := hh
  subst hh
  refine yt_dalt (by decide) (by decide) ?_
  rw [show xk_166.2.1.2.1.1.length = 16 from rfl]
  show ((0 : Int) + (-3)) = yq_wr ((1 * r 0 + 0) + 0) ((1 * r 1 + 0) + 0) (yq_at ((1 * r 0 + 0) + 0) ((1 * ((1 * r 4 + 0) + 0) + 0) + 0) ((1 * ((1 * r 7 + 0) + 0) + 0) + 0) ((1 * ((1 * r 10 + 0) + 0) + 0) + 0) ((1 * ((1 * r 13 + 0) + 0) + 0) + 0)) (yq_at ((1 * r 0 + 0) + 0) ((1 * ((1 * r 6 + 0) + 0) + 0) + 0) ((1 * ((1 * r 9 + 0) + 0) + 0) + 0) ((1 * ((1 * r 12 + 0) + 0) + 0) + 0) ((1 * ((1 * r 15 + 0) + 0) + 0) + 0)) ∧ (g 3) = yq_xw ((1 * r 0 + 0) + 0) ((1 * r 1 + 0) + 0) ((1 * r 2 + 0) + 0) 0 ((1 * ((1 * r 4 + 0) + 0) + 0) + 0) ((1 * ((1 * r 6 + 0) + 0) + 0) + 0) ((1 * ((1 * r 5 + 0) + 0) + 0) + 0) (g0 3) ∧ (g 5) = yq_xw ((1 * r 0 + 0) + 0) ((1 * r 1 + 0) + 0) ((1 * r 2 + 0) + 0) 1 ((1 * ((1 * r 7 + 0) + 0) + 0) + 0) ((1 * ((1 * r 9 + 0) + 0) + 0) + 0) ((1 * ((1 * r 8 + 0) + 0) + 0) + 0) (g0 5) ∧ (g 7) = yq_xw ((1 * r 0 + 0) + 0) ((1 * r 1 + 0) + 0) ((1 * r 2 + 0) + 0) 2 ((1 * ((1 * r 10 + 0) + 0) + 0) + 0) ((1 * ((1 * r 12 + 0) + 0) + 0) + 0) ((1 * ((1 * r 11 + 0) + 0) + 0) + 0) (g0 7) ∧ (g 9) = yq_xw ((1 * r 0 + 0) + 0) ((1 * r 1 + 0) + 0) ((1 * r 2 + 0) + 0) 3 ((1 * ((1 * r 13 + 0) + 0) + 0) + 0) ((1 * ((1 * r 15 + 0) + 0) + 0) + 0) ((1 * ((1 * r 14 + 0) + 0) + 0) + 0) (g0 9)
  try simp only [Int.one_mul, Int.zero_add, Int.add_zero]
  refine ⟨?_, ?_, ?_, ?_, ?_⟩
  · rw [show r 0 = 3 by omega]
    simp only [yq_at3]
    unfold yq_wr
    repeat' split
    all_goals omega
  · unfold yq_xw
    rw [if_neg (by omega)]
    rw [hgi]
  · unfold yq_xw
    rw [if_neg (by omega)]
    rw [hgi]
  · unfold yq_xw
    rw [if_neg (by omega)]
    rw [hgi]
  · unfold yq_xw
    rw [if_neg (by omega)]
    rw [hgi]
theorem xw_166_0_15 : yt_hold xT_166 xk_166 xq_166.2.2.1 xG_166 xP_166 xU_166 16 xk_166.2.1.2.2.2 (fun g0 r g => xR_166 r g0 ∧ g = g0) (1000, ([(3, 3), (0, 2147483647), ((-9223372036854775808), 9223372036854775807), ((-2147483648), 2147483647), (0, 1), ((-2147483648), 2147483647), (0, 100), (0, 1), ((-2147483648), 2147483647), (0, 100), (0, 1), ((-2147483648), 2147483647), (0, 100), (1, 1), ((-2147483648), 2147483647), (0, 100), ((-2147483648), 0)], [([(15, (-1)), (1, 1)], 0)]), [([], (-3)), ([(16, 1)], 0)], [], []) := by
  intro g0 r gi g hok hh hars hfr hG
  have b0 : 3 ≤ r 0 ∧ r 0 ≤ 3 := hok.1 0 (3, 3) rfl
  have b1 : 0 ≤ r 1 ∧ r 1 ≤ 2147483647 := hok.1 1 (0, 2147483647) rfl
  have b2 : (-9223372036854775808) ≤ r 2 ∧ r 2 ≤ 9223372036854775807 := hok.1 2 ((-9223372036854775808), 9223372036854775807) rfl
  have b3 : (-2147483648) ≤ r 3 ∧ r 3 ≤ 2147483647 := hok.1 3 ((-2147483648), 2147483647) rfl
  have b4 : 0 ≤ r 4 ∧ r 4 ≤ 1 := hok.1 4 (0, 1) rfl
  have b5 : (-2147483648) ≤ r 5 ∧ r 5 ≤ 2147483647 := hok.1 5 ((-2147483648), 2147483647) rfl
  have b6 : 0 ≤ r 6 ∧ r 6 ≤ 100 := hok.1 6 (0, 100) rfl
  have b7 : 0 ≤ r 7 ∧ r 7 ≤ 1 := hok.1 7 (0, 1) rfl
  have b8 : (-2147483648) ≤ r 8 ∧ r 8 ≤ 2147483647 := hok.1 8 ((-2147483648), 2147483647) rfl
  have b9 : 0 ≤ r 9 ∧ r 9 ≤ 100 := hok.1 9 (0, 100) rfl
  have b10 : 0 ≤ r 10 ∧ r 10 ≤ 1 := hok.1 10 (0, 1) rfl
  have b11 : (-2147483648) ≤ r 11 ∧ r 11 ≤ 2147483647 := hok.1 11 ((-2147483648), 2147483647) rfl
  have b12 : 0 ≤ r 12 ∧ r 12 ≤ 100 := hok.1 12 (0, 100) rfl
  have b13 : 1 ≤ r 13 ∧ r 13 ≤ 1 := hok.1 13 (1, 1) rfl
  have b14 : (-2147483648) ≤ r 14 ∧ r 14 ≤ 2147483647 := hok.1 14 ((-2147483648), 2147483647) rfl
  have b15 : 0 ≤ r 15 ∧ r 15 ≤ 100 := hok.1 15 (0, 100) rfl
  have b16 : (-2147483648) ≤ r 16 ∧ r 16 ≤ 0 := hok.1 16 ((-2147483648), 0) rfl
  have f0 : 0 ≤ (((-1) * r 15 + (1 * r 1 + 0)) + 0) := hok.2 _ (List.mem_of_getElem? (i := 0) rfl)
  obtain ⟨hG, hgi⟩ := hG
  have hG : True := hG
  have hh : g = gi := hh
  subst hh
  refine yt_dalt (by decide) (by decide) ?_
  rw [show xk_166.2.1.2.1.1.length = 16 from rfl]
  show ((0 : Int) + (-3)) = yq_wr ((1 * r 0 + 0) + 0) ((1 * r 1 + 0) + 0) (yq_at ((1 * r 0 + 0) + 0) ((1 * ((1 * r 4 + 0) + 0) + 0) + 0) ((1 * ((1 * r 7 + 0) + 0) + 0) + 0) ((1 * ((1 * r 10 + 0) + 0) + 0) + 0) ((1 * ((1 * r 13 + 0) + 0) + 0) + 0)) (yq_at ((1 * r 0 + 0) + 0) ((1 * ((1 * r 6 + 0) + 0) + 0) + 0) ((1 * ((1 * r 9 + 0) + 0) + 0) + 0) ((1 * ((1 * r 12 + 0) + 0) + 0) + 0) ((1 * ((1 * r 15 + 0) + 0) + 0) + 0)) ∧ (g 3) = yq_xw ((1 * r 0 + 0) + 0) ((1 * r 1 + 0) + 0) ((1 * r 2 + 0) + 0) 0 ((1 * ((1 * r 4 + 0) + 0) + 0) + 0) ((1 * ((1 * r 6 + 0) + 0) + 0) + 0) ((1 * ((1 * r 5 + 0) + 0) + 0) + 0) (g0 3) ∧ (g 5) = yq_xw ((1 * r 0 + 0) + 0) ((1 * r 1 + 0) + 0) ((1 * r 2 + 0) + 0) 1 ((1 * ((1 * r 7 + 0) + 0) + 0) + 0) ((1 * ((1 * r 9 + 0) + 0) + 0) + 0) ((1 * ((1 * r 8 + 0) + 0) + 0) + 0) (g0 5) ∧ (g 7) = yq_xw ((1 * r 0 + 0) + 0) ((1 * r 1 + 0) + 0) ((1 * r 2 + 0) + 0) 2 ((1 * ((1 * r 10 + 0) + 0) + 0) + 0) ((1 * ((1 * r 12 + 0) + 0) + 0) + 0) ((1 * ((1 * r 11 + 0) + 0) + 0) + 0) (g0 7) ∧ (g 9) = yq_xw ((1 * r 0 + 0) + 0) ((1 * r 1 + 0) + 0) ((1 * r 2 + 0) + 0) 3 ((1 * ((1 * r 13 + 0) + 0) + 0) + 0) ((1 * ((1 * r 15 + 0) + 0) + 0) + 0) ((1 * ((1 * r 14 + 0) + 0) + 0) + 0) (g0 9)
  try simp only [Int.one_mul, Int.zero_add, Int.add_zero]
  refine ⟨?_, ?_, ?_, ?_, ?_⟩
  · rw [show r 0 = 3 by omega]
    simp only [yq_at3]
    unfold yq_wr
    repeat' split
    all_goals omega
  · unfold yq_xw
    rw [if_neg (by omega)]
    rw [hgi]
  · unfold yq_xw
    rw [if_neg (by omega)]
    rw [hgi]
  · unfold yq_xw
    rw [if_neg (by omega)]
    rw [hgi]
  · unfold yq_xw
    rw [if_neg (by omega)]
    rw [hgi]
theorem xw_166_0_16 : yt_hold xT_166 xk_166 xq_166.2.2.1 xG_166 xP_166 xU_166 16 xk_166.2.1.2.2.2 (fun g0 r g => xR_166 r g0 ∧ g = g0) (1000, ([(3, 3), (0, 99), ((-9223372036854775808), 9223372036854775807), ((-2147483648), 2147483647), (0, 1), ((-2147483648), 2147483647), (0, 100), (0, 1), ((-2147483648), 2147483647), (0, 100), (0, 1), ((-2147483648), 2147483647), (0, 100), (1, 1), ((-2147483648), 2147483647), (1, 100), ((-2147483648), 0)], [([(15, 1), (1, (-1))], (-1))]), [([], 0), ([(16, 1)], 0)], [], [.inr (.inr (.inl (97, 0, [([(1, 1)], 0), ([(2, 1)], 0), ([(13, 1)], 0), ([(14, 1)], 0), ([(15, 1)], 0)], [8, 9], [9])))]) := by
  intro g0 r gi g hok hh hars hfr hG
  have b0 : 3 ≤ r 0 ∧ r 0 ≤ 3 := hok.1 0 (3, 3) rfl
  have b1 : 0 ≤ r 1 ∧ r 1 ≤ 99 := hok.1 1 (0, 99) rfl
  have b2 : (-9223372036854775808) ≤ r 2 ∧ r 2 ≤ 9223372036854775807 := hok.1 2 ((-9223372036854775808), 9223372036854775807) rfl
  have b3 : (-2147483648) ≤ r 3 ∧ r 3 ≤ 2147483647 := hok.1 3 ((-2147483648), 2147483647) rfl
  have b4 : 0 ≤ r 4 ∧ r 4 ≤ 1 := hok.1 4 (0, 1) rfl
  have b5 : (-2147483648) ≤ r 5 ∧ r 5 ≤ 2147483647 := hok.1 5 ((-2147483648), 2147483647) rfl
  have b6 : 0 ≤ r 6 ∧ r 6 ≤ 100 := hok.1 6 (0, 100) rfl
  have b7 : 0 ≤ r 7 ∧ r 7 ≤ 1 := hok.1 7 (0, 1) rfl
  have b8 : (-2147483648) ≤ r 8 ∧ r 8 ≤ 2147483647 := hok.1 8 ((-2147483648), 2147483647) rfl
  have b9 : 0 ≤ r 9 ∧ r 9 ≤ 100 := hok.1 9 (0, 100) rfl
  have b10 : 0 ≤ r 10 ∧ r 10 ≤ 1 := hok.1 10 (0, 1) rfl
  have b11 : (-2147483648) ≤ r 11 ∧ r 11 ≤ 2147483647 := hok.1 11 ((-2147483648), 2147483647) rfl
  have b12 : 0 ≤ r 12 ∧ r 12 ≤ 100 := hok.1 12 (0, 100) rfl
  have b13 : 1 ≤ r 13 ∧ r 13 ≤ 1 := hok.1 13 (1, 1) rfl
  have b14 : (-2147483648) ≤ r 14 ∧ r 14 ≤ 2147483647 := hok.1 14 ((-2147483648), 2147483647) rfl
  have b15 : 1 ≤ r 15 ∧ r 15 ≤ 100 := hok.1 15 (1, 100) rfl
  have b16 : (-2147483648) ≤ r 16 ∧ r 16 ≤ 0 := hok.1 16 ((-2147483648), 0) rfl
  have f0 : 0 ≤ ((1 * r 15 + ((-1) * r 1 + 0)) + (-1)) := hok.2 _ (List.mem_of_getElem? (i := 0) rfl)
  obtain ⟨hG, hgi⟩ := hG
  have hG : True := hG
  obtain ⟨h0, hh, e0, k0⟩ := hh
  have k0 : ∀ j, j ∉ [9] → g j = h0 j := k0
  have e0 : (g 9) = yq_set (h0 9) (((1 * r 1 + 0) + 0)).toNat (yq_cut ((1 * r 14 + 0) + 0) ((1 * r 2 + 0) + 0)) := e0
  have hh : h0 = gi := hh
  subst hh
  refine yt_dalt (by decide) (by decide) ?_
  rw [show xk_166.2.1.2.1.1.length = 16 from rfl]
  show ((0 : Int) + 0) = yq_wr ((1 * r 0 + 0) + 0) ((1 * r 1 + 0) + 0) (yq_at ((1 * r 0 + 0) + 0) ((1 * ((1 * r 4 + 0) + 0) + 0) + 0) ((1 * ((1 * r 7 + 0) + 0) + 0) + 0) ((1 * ((1 * r 10 + 0) + 0) + 0) + 0) ((1 * ((1 * r 13 + 0) + 0) + 0) + 0)) (yq_at ((1 * r 0 + 0) + 0) ((1 * ((1 * r 6 + 0) + 0) + 0) + 0) ((1 * ((1 * r 9 + 0) + 0) + 0) + 0) ((1 * ((1 * r 12 + 0) + 0) + 0) + 0) ((1 * ((1 * r 15 + 0) + 0) + 0) + 0)) ∧ (g 3) = yq_xw ((1 * r 0 + 0) + 0) ((1 * r 1 + 0) + 0) ((1 * r 2 + 0) + 0) 0 ((1 * ((1 * r 4 + 0) + 0) + 0) + 0) ((1 * ((1 * r 6 + 0) + 0) + 0) + 0) ((1 * ((1 * r 5 + 0) + 0) + 0) + 0) (g0 3) ∧ (g 5) = yq_xw ((1 * r 0 + 0) + 0) ((1 * r 1 + 0) + 0) ((1 * r 2 + 0) + 0) 1 ((1 * ((1 * r 7 + 0) + 0) + 0) + 0) ((1 * ((1 * r 9 + 0) + 0) + 0) + 0) ((1 * ((1 * r 8 + 0) + 0) + 0) + 0) (g0 5) ∧ (g 7) = yq_xw ((1 * r 0 + 0) + 0) ((1 * r 1 + 0) + 0) ((1 * r 2 + 0) + 0) 2 ((1 * ((1 * r 10 + 0) + 0) + 0) + 0) ((1 * ((1 * r 12 + 0) + 0) + 0) + 0) ((1 * ((1 * r 11 + 0) + 0) + 0) + 0) (g0 7) ∧ (g 9) = yq_xw ((1 * r 0 + 0) + 0) ((1 * r 1 + 0) + 0) ((1 * r 2 + 0) + 0) 3 ((1 * ((1 * r 13 + 0) + 0) + 0) + 0) ((1 * ((1 * r 15 + 0) + 0) + 0) + 0) ((1 * ((1 * r 14 + 0) + 0) + 0) + 0) (g0 9)
  try simp only [Int.one_mul, Int.zero_add, Int.add_zero]
  try simp only [Int.one_mul, Int.zero_add, Int.add_zero] at e0
  refine ⟨?_, ?_, ?_, ?_, ?_⟩
  · rw [show r 0 = 3 by omega]
    simp only [yq_at3]
    unfold yq_wr
    repeat' split
    all_goals omega
  · unfold yq_xw
    rw [if_neg (by omega)]
    rw [k0 3 (by decide), hgi]
  · unfold yq_xw
    rw [if_neg (by omega)]
    rw [k0 5 (by decide), hgi]
  · unfold yq_xw
    rw [if_neg (by omega)]
    rw [k0 7 (by decide), hgi]
  · unfold yq_xw
    rw [if_pos (by omega), e0, hgi]
theorem xw_166_0_17 : yt_hold xT_166 xk_166 xq_166.2.2.1 xG_166 xP_166 xU_166 16 xk_166.2.1.2.2.2 (fun g0 r g => xR_166 r g0 ∧ g = g0) (1000, ([(3, 3), ((-2147483648), 2147483647), ((-9223372036854775808), 9223372036854775807), ((-2147483648), 2147483647), (0, 1), ((-2147483648), 2147483647), (0, 100), (0, 1), ((-2147483648), 2147483647), (0, 100), (0, 1), ((-2147483648), 2147483647), (0, 100), (0, 0), ((-2147483648), 2147483647), (0, 100), ((-2147483648), 0)], []), [([], (-2)), ([(16, 1)], 0)], [], []) := by
  intro g0 r gi g hok hh hars hfr hG
  have b0 : 3 ≤ r 0 ∧ r 0 ≤ 3 := hok.1 0 (3, 3) rfl
  have b1 : (-2147483648) ≤ r 1 ∧ r 1 ≤ 2147483647 := hok.1 1 ((-2147483648), 2147483647) rfl
  have b2 : (-9223372036854775808) ≤ r 2 ∧ r 2 ≤ 9223372036854775807 := hok.1 2 ((-9223372036854775808), 9223372036854775807) rfl
  have b3 : (-2147483648) ≤ r 3 ∧ r 3 ≤ 2147483647 := hok.1 3 ((-2147483648), 2147483647) rfl
  have b4 : 0 ≤ r 4 ∧ r 4 ≤ 1 := hok.1 4 (0, 1) rfl
  have b5 : (-2147483648) ≤ r 5 ∧ r 5 ≤ 2147483647 := hok.1 5 ((-2147483648), 2147483647) rfl
  have b6 : 0 ≤ r 6 ∧ r 6 ≤ 100 := hok.1 6 (0, 100) rfl
  have b7 : 0 ≤ r 7 ∧ r 7 ≤ 1 := hok.1 7 (0, 1) rfl
  have b8 : (-2147483648) ≤ r 8 ∧ r 8 ≤ 2147483647 := hok.1 8 ((-2147483648), 2147483647) rfl
  have b9 : 0 ≤ r 9 ∧ r 9 ≤ 100 := hok.1 9 (0, 100) rfl
  have b10 : 0 ≤ r 10 ∧ r 10 ≤ 1 := hok.1 10 (0, 1) rfl
  have b11 : (-2147483648) ≤ r 11 ∧ r 11 ≤ 2147483647 := hok.1 11 ((-2147483648), 2147483647) rfl
  have b12 : 0 ≤ r 12 ∧ r 12 ≤ 100 := hok.1 12 (0, 100) rfl
  have b13 : 0 ≤ r 13 ∧ r 13 ≤ 0 := hok.1 13 (0, 0) rfl
  have b14 : (-2147483648) ≤ r 14 ∧ r 14 ≤ 2147483647 := hok.1 14 ((-2147483648), 2147483647) rfl
  have b15 : 0 ≤ r 15 ∧ r 15 ≤ 100 := hok.1 15 (0, 100) rfl
  have b16 : (-2147483648) ≤ r 16 ∧ r 16 ≤ 0 := hok.1 16 ((-2147483648), 0) rfl
  obtain ⟨hG, hgi⟩ := hG
  have hG : True := hG
  have hh : g = gi := hh
  subst hh
  refine yt_dalt (by decide) (by decide) ?_
  rw [show xk_166.2.1.2.1.1.length = 16 from rfl]
  show ((0 : Int) + (-2)) = yq_wr ((1 * r 0 + 0) + 0) ((1 * r 1 + 0) + 0) (yq_at ((1 * r 0 + 0) + 0) ((1 * ((1 * r 4 + 0) + 0) + 0) + 0) ((1 * ((1 * r 7 + 0) + 0) + 0) + 0) ((1 * ((1 * r 10 + 0) + 0) + 0) + 0) ((1 * ((1 * r 13 + 0) + 0) + 0) + 0)) (yq_at ((1 * r 0 + 0) + 0) ((1 * ((1 * r 6 + 0) + 0) + 0) + 0) ((1 * ((1 * r 9 + 0) + 0) + 0) + 0) ((1 * ((1 * r 12 + 0) + 0) + 0) + 0) ((1 * ((1 * r 15 + 0) + 0) + 0) + 0)) ∧ (g 3) = yq_xw ((1 * r 0 + 0) + 0) ((1 * r 1 + 0) + 0) ((1 * r 2 + 0) + 0) 0 ((1 * ((1 * r 4 + 0) + 0) + 0) + 0) ((1 * ((1 * r 6 + 0) + 0) + 0) + 0) ((1 * ((1 * r 5 + 0) + 0) + 0) + 0) (g0 3) ∧ (g 5) = yq_xw ((1 * r 0 + 0) + 0) ((1 * r 1 + 0) + 0) ((1 * r 2 + 0) + 0) 1 ((1 * ((1 * r 7 + 0) + 0) + 0) + 0) ((1 * ((1 * r 9 + 0) + 0) + 0) + 0) ((1 * ((1 * r 8 + 0) + 0) + 0) + 0) (g0 5) ∧ (g 7) = yq_xw ((1 * r 0 + 0) + 0) ((1 * r 1 + 0) + 0) ((1 * r 2 + 0) + 0) 2 ((1 * ((1 * r 10 + 0) + 0) + 0) + 0) ((1 * ((1 * r 12 + 0) + 0) + 0) + 0) ((1 * ((1 * r 11 + 0) + 0) + 0) + 0) (g0 7) ∧ (g 9) = yq_xw ((1 * r 0 + 0) + 0) ((1 * r 1 + 0) + 0) ((1 * r 2 + 0) + 0) 3 ((1 * ((1 * r 13 + 0) + 0) + 0) + 0) ((1 * ((1 * r 15 + 0) + 0) + 0) + 0) ((1 * ((1 * r 14 + 0) + 0) + 0) + 0) (g0 9)
  try simp only [Int.one_mul, Int.zero_add, Int.add_zero]
  refine ⟨?_, ?_, ?_, ?_, ?_⟩
  · rw [show r 0 = 3 by omega]
    simp only [yq_at3]
    unfold yq_wr
    repeat' split
    all_goals omega
  · unfold yq_xw
    rw [if_neg (by omega)]
    rw [hgi]
  · unfold yq_xw
    rw [if_neg (by omega)]
    rw [hgi]
  · unfold yq_xw
    rw [if_neg (by omega)]
    rw [hgi]
  · unfold yq_xw
    rw [if_neg (by omega)]
    rw [hgi]
theorem xn_166 : ∀ (j : Nat) (q : Nat × yt_T), xq_166.2.2.1[j]? = some q → q.2.2.2 = false → ∀ g0 r g, xG_166 j g0 r g
  | n + 0, q, hq, _ => by cases hq
theorem xs_166 : ∀ j, xq_166.2.2.2.getD j false = false → ∀ r g g', xP_166 j r g g'
  | 0, hf => by cases hf
  | n + 1, _ => fun _ _ _ => trivial
theorem xc_166 {l : Launch} {D : va_G} {cT : Nat → ClassId} {tys : List (ClassId × FieldType)} (hty : yx_Ty tys cT) : yt_Con l D vwCl cT tys yG yw_s30 xk_166 xR_166 xP_166 := yx_sem (calls := xa_166) (Z := xq_166) (tb := xT_166) (pt := xU_166) (Ga := xG_166) (vs := xv_166) (fun _ _ _ _ => trivial) 300 (by decide +kernel) yz_X11_write_ok hty (yl_lkX11 _) (yl_cqkX11 _) (List.forall_mem_cons.mpr ⟨⟨xc_35 hty, yg_CLs yl_wX11_141 yd_yX11_isSheet, fun _ _ _ => trivial⟩, List.forall_mem_cons.mpr ⟨⟨xc_3 hty, yg_CLv rfl rfl rfl yl_wX11_107 yd_yX11_told, fun _ _ _ => trivial⟩, List.forall_mem_cons.mpr ⟨⟨xc_128 hty, yg_CLv rfl rfl rfl yl_wX11_155 yd_yX8_has, fun _ _ _ => trivial⟩, List.forall_mem_cons.mpr ⟨⟨xc_165 hty, yg_CLv rfl rfl rfl yl_wX11_156 yd_yX8_put, fun _ _ _ => trivial⟩, List.forall_mem_cons.mpr ⟨⟨xc_128 hty, yg_CLv rfl rfl rfl yl_wX11_155 yd_yX8_has, fun _ _ _ => trivial⟩, List.forall_mem_cons.mpr ⟨⟨xc_165 hty, yg_CLv rfl rfl rfl yl_wX11_156 yd_yX8_put, fun _ _ _ => trivial⟩, List.forall_mem_cons.mpr ⟨⟨xc_128 hty, yg_CLv rfl rfl rfl yl_wX11_155 yd_yX8_has, fun _ _ _ => trivial⟩, List.forall_mem_cons.mpr ⟨⟨xc_165 hty, yg_CLv rfl rfl rfl yl_wX11_156 yd_yX8_put, fun _ _ _ => trivial⟩, List.forall_mem_cons.mpr ⟨⟨xc_128 hty, yg_CLv rfl rfl rfl yl_wX11_155 yd_yX8_has, fun _ _ _ => trivial⟩, List.forall_mem_cons.mpr ⟨⟨xc_165 hty, yg_CLv rfl rfl rfl yl_wX11_156 yd_yX8_put, fun _ _ _ => trivial⟩, fun _ h => absurd h List.not_mem_nil⟩⟩⟩⟩⟩⟩⟩⟩⟩⟩) (xn_166) (xs_166) (by decide +kernel) (List.forall_mem_cons.mpr ⟨xw_166_0_0, List.forall_mem_cons.mpr ⟨xw_166_0_1, List.forall_mem_cons.mpr ⟨xw_166_0_2, List.forall_mem_cons.mpr ⟨xw_166_0_3, List.forall_mem_cons.mpr ⟨xw_166_0_4, List.forall_mem_cons.mpr ⟨xw_166_0_5, List.forall_mem_cons.mpr ⟨xw_166_0_6, List.forall_mem_cons.mpr ⟨xw_166_0_7, List.forall_mem_cons.mpr ⟨xw_166_0_8, List.forall_mem_cons.mpr ⟨xw_166_0_9, List.forall_mem_cons.mpr ⟨xw_166_0_10, List.forall_mem_cons.mpr ⟨xw_166_0_11, List.forall_mem_cons.mpr ⟨xw_166_0_12, List.forall_mem_cons.mpr ⟨xw_166_0_13, List.forall_mem_cons.mpr ⟨xw_166_0_14, List.forall_mem_cons.mpr ⟨xw_166_0_15, List.forall_mem_cons.mpr ⟨xw_166_0_16, List.forall_mem_cons.mpr ⟨xw_166_0_17, fun _ h => absurd h List.not_mem_nil⟩⟩⟩⟩⟩⟩⟩⟩⟩⟩⟩⟩⟩⟩⟩⟩⟩⟩) (trivial)
