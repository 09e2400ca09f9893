noncomputable def yw_s45 : List ys_C := [.inl 11, .inl 6, .inr (0, 40, []), .inr (0, 40, []), .inl 5, .inr (1, 64, [])]
noncomputable def yw_f45 (n : Nat) : List (List ys_V) := [[.inr (some 1), .inr (some 8), .inr (some 9), .inr (some 10), .inr (some 11), .inr (some 12), .inr (some 13), .inr (some 14), .inr (some 15), .inr (some 16), .inr (some 4), .inr (some 17), .inr (some 18), .inr (some 19), .inl (.inl ([(n + 0, 1)], 0))], [.inr (some 2), .inr (some 3), .inr (some 6), .inr (some 7), .inl (.inl ([(n + 1, 1)], 0)), .inl (.inl ([(n + 2, 1)], 0))], [], [], [.inl (.inl ([(n + 3, 1)], 0)), .inl (.inl ([(n + 4, 1)], 0)), .inr (some 5), .inl (.inl ([(n + 5, 1)], 0))], []]
noncomputable def yw_e45 : ys_E := [((-2147483648), 2147483647), (0, 40), ((-2147483648), 2147483647), ((-2147483648), 2147483647), ((-2147483648), 2147483647), (0, 4095)]
noncomputable def yw_r45 : List ys_R := [((0, 0), []), ((0, 0), []), (((-300), 300), []), (((-300), 300), []), ((0, 0), []), (((-9223372036854775808), 9223372036854775807), [])]
noncomputable def xf_70 : ys_F := (yw_f45 2, yw_r45)
noncomputable def xk_70 : ys_K := (((yX11_isWay, cX11_isWay, 3, (some .int)), (4, 95)), ([.inr (some 0), .inl (.inl ([(0, 1)], 0)), .inl (.inl ([(1, 1)], 0))], ([((-2147483648), 2147483647), ((-2147483648), 2147483647)] ++ yw_e45, []), xf_70), ([([((-1), 1), (0, 4095)], [], ((ys_fs xf_70.1 [(4, 3, .inl (.inl ([(9, 1)], 0)))]), xf_70.2), some (.inl (.inl ([(8, 1)], 0))))], [5]))
noncomputable def xq_70 : yt_Q := (yz_X11_isWay, (yl_flX11, yl_ciX11, yl_cjX11, yl_cpX11, yl_cqX11), [], [])
noncomputable def xa_70 : List yt_CE := [(((254, false), (0, false, [0, 1, 2, 3, 6, 7, 8, 9, 10, 11, 12, 13, 14, 15, 16, 4, 17, 18, 19])), (yw_s8, xk_8)), (((264, true), (0, false, [])), (yw_s2, xk_69)), (((257, false), (0, false, [4, 5, 1, 2, 3, 6, 7])), (yw_s12, xk_16)), (((267, false), (0, false, [4, 5])), (yw_s10, xk_17))]
theorem xc_70 {l : Launch} {D : va_G} {cT : Nat → ClassId} {tys : List (ClassId × FieldType)} (hty : yx_Ty tys cT) : yx_C l D cT tys yw_s45 xk_70 := yx_method (calls := xa_70) (Z := xq_70) 300 (by decide +kernel) yz_X11_isWay_ok hty (yl_lkX11 _) (yl_cqkX11 _) (List.forall_mem_cons.mpr ⟨⟨xc_8 hty, yg_CLv rfl rfl rfl yl_wX11_254 yd_yX11_canPartFirst⟩, List.forall_mem_cons.mpr ⟨⟨xc_69 hty, yg_CLs yl_wX11_264 yd_yX5_fits⟩, List.forall_mem_cons.mpr ⟨⟨xc_16 hty, yg_CLv rfl rfl rfl yl_wX11_257 yd_yX5_find⟩, List.forall_mem_cons.mpr ⟨⟨xc_17 hty, yg_CLv rfl rfl rfl yl_wX11_267 yd_yX5_isMarked⟩, fun _ h => absurd h List.not_mem_nil⟩⟩⟩⟩) (by decide +kernel)
noncomputable def xf_71 : ys_F := (yw_f40 3, yw_r40)
noncomputable def xk_71 : ys_K := (((yX2_add, cX2_add, 4, none), (0, 0)), ([.inr (some 0), .inl (.inl ([(0, 1)], 0)), .inl (.inl ([(1, 1)], 0)), .inl (.inl ([(2, 1)], 0))], ([((-2147483648), 2147483647), ((-2147483648), 2147483647), ((-2147483648), 2147483647)] ++ yw_e40, []), xf_71), ([([], [([(3, (-1))], 11)], ((ys_fs xf_71.1 [(0, 0, .inl (.inl ([(3, 1)], 1)))]), xf_71.2), none), ([], [([(3, 1)], (-12))], (xf_71.1, xf_71.2), none)], [1, 2, 3]))
noncomputable def xq_71 : yt_Q := (yz_X2_add, (yl_flX2, yl_ciX2, yl_cjX2, yl_cpX2, yl_cqX2), [], [])
noncomputable def xa_71 : List yt_CE := []
theorem xc_71 {l : Launch} {D : va_G} {cT : Nat → ClassId} {tys : List (ClassId × FieldType)} (hty : yx_Ty tys cT) : yx_C l D cT tys yw_s40 xk_71 := yx_method (calls := xa_71) (Z := xq_71) 300 (by decide +kernel) yz_X2_add_ok hty (yl_lkX2 _) (yl_cqkX2 _) (fun _ h => absurd h List.not_mem_nil) (by decide +kernel)
noncomputable def yw_s46 : List ys_C := [.inl 11, .inl 2, .inr (0, 12, []), .inr (0, 12, []), .inr (0, 12, [])]
noncomputable def yw_f46 (n : Nat) : List (List ys_V) := [[.inr (some 5), .inr (some 1), .inr (some 6), .inr (some 7), .inr (some 8), .inr (some 9), .inr (some 10), .inr (some 11), .inr (some 12), .inr (some 13), .inr (some 14), .inr (some 15), .inr (some 16), .inr (some 17), .inl (.inl ([(n + 0, 1)], 0))], [.inl (.inl ([(n + 1, 1)], 0)), .inl (.inl ([(n + 2, 1)], 0)), .inr (some 2), .inr (some 3), .inr (some 4)], [], [], []]
noncomputable def yw_e46 : ys_E := [((-2147483648), 2147483647), (0, 12), ((-2147483648), 2147483647)]
noncomputable def yw_r46 : List ys_R := [((0, 0), []), ((0, 0), []), (((-2147483648), 2147483647), []), (((-2147483648), 2147483647), []), (((-2147483648), 2147483647), [])]
noncomputable def xf_72 : ys_F := (yw_f46 3, yw_r46)
noncomputable def xk_72 : ys_K := (((yX11_judge, cX11_judge, 4, (some .int)), (2, 42)), ([.inr (some 0), .inl (.inl ([(0, 1)], 0)), .inl (.inl ([(1, 1)], 0)), .inl (.inl ([(2, 1)], 0))], ([((-2147483648), 2147483647), ((-2147483648), 2147483647), ((-2147483648), 2147483647)] ++ yw_e46, []), xf_72), ([([((-5), 12), ((-2147483648), 0), (0, 12)], [], ((ys_fs xf_72.1 [(0, 14, .inl (.inl ([(7, 1)], 0))), (1, 0, .inl (.inl ([(8, 1)], 0)))]), xf_72.2), some (.inl (.inl ([(6, 1)], 0))))], [2, 3, 4]))
noncomputable def xq_72 : yt_Q := (yz_X11_judge, (yl_flX11, yl_ciX11, yl_cjX11, yl_cpX11, yl_cqX11), [], [true])
noncomputable def xa_72 : List yt_CE := [(((246, true), (72, false, [])), (yw_s2, xk_32)), (((107, false), (0, false, [0, 5, 1, 6, 7, 8, 9, 10, 11, 12, 13, 14, 15, 16, 17])), (yw_s3, xk_3)), (((311, false), (0, false, [1, 2, 3, 4])), (yw_s40, xk_71))]
noncomputable def xv_72 : List (List yt_VC) := [[(1000, ([((-2147483648), 2147483647), ((-2147483648), 2147483647), ((-2147483648), 2147483647), ((-2147483648), 2147483647), (0, 12), ((-2147483648), 2147483647), ((-2147483648), 0)], []), [([], (-1)), ([(6, 1)], 0), ([(4, 1)], 0)], [], [.inr (.inr (.inl (72, 0, [([(0, 1)], 0), ([(1, 1)], 0), ([(2, 1)], 0)], [], [])))]),
   (1000, ([((-2147483648), 2147483647), ((-2147483648), 2147483647), ((-1000000), 1000000), ((-2147483648), 2147483647), (0, 11), ((-2147483648), 2147483647), ((-2147483648), 0)], []), [([(4, 1)], 1), ([(6, 1)], 0), ([(4, 1)], 1)], [], [.inr (.inr (.inl (0, 0, [([(0, 1)], 0), ([(1, 1)], 0), ([(2, 1)], 0), ([(4, 1)], 0), ([(5, 1)], 0)], [1, 2, 3, 4], [2, 3, 4]))), .inr (.inr (.inl (72, 1, [([(0, 1)], 0), ([(1, 1)], 0), ([(2, 1)], 0)], [], [])))]),
   (1000, ([((-2147483648), 2147483647), ((-2147483648), 2147483647), ((-1000000), 1000000), ((-2147483648), 2147483647), (12, 12), ((-2147483648), 2147483647), ((-2147483648), 0)], []), [([], (-5)), ([(6, 1)], 0), ([(4, 1)], 0)], [], [.inr (.inr (.inl (72, 1, [([(0, 1)], 0), ([(1, 1)], 0), ([(2, 1)], 0)], [], [])))])]]
noncomputable def xG_72 : Nat → yt_G → (Nat → Int) → yt_G → Prop
  | _, _, _, _ => True
noncomputable def xP_72 : yt_Ph
  | 0, r, g0, g => (r 6) = yq_jr (r 0) (r 1) (r 2) ((1 * (r 4) + 0) + 0) ∧ ((1 * (r 8) + 0) + 0) = yq_jm (r 0) (r 1) (r 2) ((1 * (r 4) + 0) + 0)
  | _, _, _, _ => True
noncomputable def xR_72 : yt_Ps := fun r g0 => True
noncomputable def xT_72 : yt_Tb := fun d => match d with
  | 72 => xP_32
  | _ => fun _ _ _ _ => True
noncomputable def xU_72 : Nat → yt_Ps := fun d => match d with
  | 72 => xR_32
  | _ => fun _ _ => True
theorem xw_72_0_0 : yt_hold xT_72 xk_72 xq_72.2.2.1 xG_72 xP_72 xU_72 6 xk_72.2.1.2.2.2 (fun g0 r g => xR_72 r g0 ∧ g = g0) (1000, ([((-2147483648), 2147483647), ((-2147483648), 2147483647), ((-2147483648), 2147483647), ((-2147483648), 2147483647), (0, 12), ((-2147483648), 2147483647), ((-2147483648), 0)], []), [([], (-1)), ([(6, 1)], 0), ([(4, 1)], 0)], [], [.inr (.inr (.inl (72, 0, [([(0, 1)], 0), ([(1, 1)], 0), ([(2, 1)], 0)], [], [])))]) := by
  intro g0 r gi g hok hh hars hfr hG
  have b0 : (-2147483648) ≤ r 0 ∧ r 0 ≤ 2147483647 := hok.1 0 ((-2147483648), 2147483647) rfl
  have b1 : (-2147483648) ≤ r 1 ∧ r 1 ≤ 2147483647 := hok.1 1 ((-2147483648), 2147483647) rfl
  have b2 : (-2147483648) ≤ r 2 ∧ r 2 ≤ 2147483647 := hok.1 2 ((-2147483648), 2147483647) rfl
  have b4 : 0 ≤ r 4 ∧ r 4 ≤ 12 := hok.1 4 (0, 12) rfl
  have b6 : (-2147483648) ≤ r 6 ∧ r 6 ≤ 0 := hok.1 6 ((-2147483648), 0) rfl
  obtain ⟨hG, hgi⟩ := hG
  have hG : True := hG
  obtain ⟨h0, hh, e0, k0⟩ := hh
  have k0 : ∀ j, j ∉ [] → g j = h0 j := k0
  have e0 : ¬ ((-1000000 ≤ ((1 * r 0 + 0) + 0) ∧ ((1 * r 0 + 0) + 0) ≤ 1000000 ∧ -1000000 ≤ ((1 * r 1 + 0) + 0) ∧ ((1 * r 1 + 0) + 0) ≤ 1000000 ∧ -1000000 ≤ ((1 * r 2 + 0) + 0) ∧ ((1 * r 2 + 0) + 0) ≤ 1000000) ∧ (((1 * r 0 + 0) + 0) ≠ 0 ∨ ((1 * r 1 + 0) + 0) ≠ 0)) := e0
  have hh : h0 = gi := hh
  subst hh
  refine yt_dalt (by decide) (by decide) ?_
  rw [show xk_72.2.1.2.1.1.length = 6 from rfl]
  show ((0 : Int) + (-1)) = yq_jr ((1 * r 0 + 0) + 0) ((1 * r 1 + 0) + 0) ((1 * r 2 + 0) + 0) ((1 * ((1 * r 4 + 0) + 0) + 0) + 0) ∧ ((1 * ((1 * r 4 + 0) + 0) + 0) + 0) = yq_jm ((1 * r 0 + 0) + 0) ((1 * r 1 + 0) + 0) ((1 * r 2 + 0) + 0) ((1 * ((1 * r 4 + 0) + 0) + 0) + 0)
  try simp only [Int.one_mul, Int.zero_add, Int.add_zero]
  try simp only [Int.one_mul, Int.zero_add, Int.add_zero] at e0
  refine ⟨?_, ?_⟩
  · unfold yq_jr
    repeat' split
    all_goals omega
  · unfold yq_jm
    repeat' split
    all_goals omega
theorem xw_72_0_1 : yt_hold xT_72 xk_72 xq_72.2.2.1 xG_72 xP_72 xU_72 6 xk_72.2.1.2.2.2 (fun g0 r g => xR_72 r g0 ∧ g = g0) (1000, ([((-2147483648), 2147483647), ((-2147483648), 2147483647), ((-1000000), 1000000), ((-2147483648), 2147483647), (0, 11), ((-2147483648), 2147483647), ((-2147483648), 0)], []), [([(4, 1)], 1), ([(6, 1)], 0), ([(4, 1)], 1)], [], [.inr (.inr (.inl (0, 0, [([(0, 1)], 0), ([(1, 1)], 0), ([(2, 1)], 0), ([(4, 1)], 0), ([(5, 1)], 0)], [1, 2, 3, 4], [2, 3, 4]))), .inr (.inr (.inl (72, 1, [([(0, 1)], 0), ([(1, 1)], 0), ([(2, 1)], 0)], [], [])))]) := by
  intro g0 r gi g hok hh hars hfr hG
  have b0 : (-2147483648) ≤ r 0 ∧ r 0 ≤ 2147483647 := hok.1 0 ((-2147483648), 2147483647) rfl
  have b1 : (-2147483648) ≤ r 1 ∧ r 1 ≤ 2147483647 := hok.1 1 ((-2147483648), 2147483647) rfl
  have b2 : (-1000000) ≤ r 2 ∧ r 2 ≤ 1000000 := hok.1 2 ((-1000000), 1000000) rfl
  have b4 : 0 ≤ r 4 ∧ r 4 ≤ 11 := hok.1 4 (0, 11) rfl
  have b6 : (-2147483648) ≤ r 6 ∧ r 6 ≤ 0 := hok.1 6 ((-2147483648), 0) rfl
  obtain ⟨hG, hgi⟩ := hG
  have hG : True := hG
  obtain ⟨h0, hh, e0, k0⟩ := hh
  have k0 : ∀ j, j ∉ [2, 3, 4] → g j = h0 j := k0
  obtain ⟨h1, hh, e1, k1⟩ := hh
  have k1 : ∀ j, j ∉ [] → h0 j = h1 j := k1
  have e1 : (-1000000 ≤ ((1 * r 0 + 0) + 0) ∧ ((1 * r 0 + 0) + 0) ≤ 1000000 ∧ -1000000 ≤ ((1 * r 1 + 0) + 0) ∧ ((1 * r 1 + 0) + 0) ≤ 1000000 ∧ -1000000 ≤ ((1 * r 2 + 0) + 0) ∧ ((1 * r 2 + 0) + 0) ≤ 1000000) ∧ (((1 * r 0 + 0) + 0) ≠ 0 ∨ ((1 * r 1 + 0) + 0) ≠ 0) := e1
  have hh : h1 = gi := hh
  subst hh
  refine yt_dalt (by decide) (by decide) ?_
  rw [show xk_72.2.1.2.1.1.length = 6 from rfl]
  show ((1 * r 4 + 0) + 1) = yq_jr ((1 * r 0 + 0) + 0) ((1 * r 1 + 0) + 0) ((1 * r 2 + 0) + 0) ((1 * ((1 * r 4 + 0) + 0) + 0) + 0) ∧ ((1 * ((1 * r 4 + 0) + 1) + 0) + 0) = yq_jm ((1 * r 0 + 0) + 0) ((1 * r 1 + 0) + 0) ((1 * r 2 + 0) + 0) ((1 * ((1 * r 4 + 0) + 0) + 0) + 0)
  try simp only [Int.one_mul, Int.zero_add, Int.add_zero]
  try simp only [Int.one_mul, Int.zero_add, Int.add_zero] at e1
  refine ⟨?_, ?_⟩
  · unfold yq_jr
    repeat' split
    all_goals omega
  · unfold yq_jm
    repeat' split
    all_goals omega
theorem xw_72_0_2 : yt_hold xT_72 xk_72 xq_72.2.2.1 xG_72 xP_72 xU_72 6 xk_72.2.1.2.2.2 (fun g0 r g => xR_72 r g0 ∧ g = g0) (1000, ([((-2147483648), 2147483647), ((-2147483648), 2147483647), ((-1000000), 1000000), ((-2147483648), 2147483647), (12, 12), ((-2147483648), 2147483647), ((-2147483648), 0)], []), [([], (-5)), ([(6, 1)], 0), ([(4, 1)], 0)], [], [.inr (.inr (.inl (72, 1, [([(0, 1)], 0), ([(1, 1)], 0), ([(2, 1)], 0)], [], [])))]) := by
  intro g0 r gi g hok hh hars hfr hG
  have b0 : (-2147483648) ≤ r 0 ∧ r 0 ≤ 2147483647 := hok.1 0 ((-2147483648), 2147483647) rfl
  have b1 : (-2147483648) ≤ r 1 ∧ r 1 ≤ 2147483647 := hok.1 1 ((-2147483648), 2147483647) rfl
  have b2 : (-1000000) ≤ r 2 ∧ r 2 ≤ 1000000 := hok.1 2 ((-1000000), 1000000) rfl
  have b4 : 12 ≤ r 4 ∧ r 4 ≤ 12 := hok.1 4 (12, 12) rfl
  have b6 : (-2147483648) ≤ r 6 ∧ r 6 ≤ 0 := hok.1 6 ((-2147483648), 0) rfl
  obtain ⟨hG, hgi⟩ := hG
  have hG : True := hG
  obtain ⟨h0, hh, e0, k0⟩ := hh
  have k0 : ∀ j, j ∉ [] → g j = h0 j := k0
  have e0 : (-1000000 ≤ ((1 * r 0 + 0) + 0) ∧ ((1 * r 0 + 0) + 0) ≤ 1000000 ∧ -1000000 ≤ ((1 * r 1 + 0) + 0) ∧ ((1 * r 1 + 0) + 0) ≤ 1000000 ∧ -1000000 ≤ ((1 * r 2 + 0) + 0) ∧ ((1 * r 2 + 0) + 0) ≤ 1000000) ∧ (((1 * r 0 + 0) + 0) ≠ 0 ∨ ((1 * r 1 + 0) + 0) ≠ 0) := e0
  have hh : h0 = gi := hh
  subst hh
  refine yt_dalt (by decide) (by decide) ?_
  rw [show xk_72.2.1.2.1.1.length = 6 from rfl]
  show ((0 : Int) + (-5)) = yq_jr ((1 * r 0 + 0) + 0) ((1 * r 1 + 0) + 0) ((1 * r 2 + 0) + 0) ((1 * ((1 * r 4 + 0) + 0) + 0) + 0) ∧ ((1 * ((1 * r 4 + 0) + 0) + 0) + 0) = yq_jm ((1 * r 0 + 0) + 0) ((1 * r 1 + 0) + 0) ((1 * r 2 + 0) + 0) ((1 * ((1 * r 4 + 0) + 0) + 0) + 0)
  try simp only [Int.one_mul, Int.zero_add, Int.add_zero]
  try simp only [Int.one_mul, Int.zero_add, Int.add_zero] at e0
  refine ⟨?_, ?_⟩
  · unfold yq_jr
    repeat' split
    all_goals omega
  · unfold yq_jm
    repeat' split
    all_goals omega
theorem xn_72 : ∀ (j : Nat) (q : Nat × yt_T), xq_72.2.2.1[j]? = some q → q.2.2.2 = false → ∀ g0 r g, xG_72 j g0 r g
  | n + 0, q, hq, _ => by cases hq
theorem xs_72 : ∀ j, xq_72.2.2.2.getD j false = false → ∀ r g g', xP_72 j r g g'
  | 0, hf => by cases hf
  | n + 1, _ => fun _ _ _ => trivial
theorem xc_72 {l : Launch} {D : va_G} {cT : Nat → ClassId} {tys : List (ClassId × FieldType)} (hty : yx_Ty tys cT) : yt_Con l D vwCl cT tys yG yw_s46 xk_72 xR_72 xP_72 := yx_sem (calls := xa_72) (Z := xq_72) (tb := xT_72) (pt := xU_72) (Ga := xG_72) (vs := xv_72) (fun _ _ _ _ => trivial) 300 (by decide +kernel) yz_X11_judge_ok hty (yl_lkX11 _) (yl_cqkX11 _) (List.forall_mem_cons.mpr ⟨⟨xc_32 hty, yg_CLs yl_wX11_246 yd_yX2_isLine, fun _ _ _ => trivial⟩, List.forall_mem_cons.mpr ⟨⟨xc_3 hty, yg_CLv rfl rfl rfl yl_wX11_107 yd_yX11_told, fun _ _ _ => trivial⟩, List.forall_mem_cons.mpr ⟨⟨xc_71 hty, yg_CLv rfl rfl rfl yl_wX11_311 yd_yX2_add, fun _ _ _ => trivial⟩, fun _ h => absurd h List.not_mem_nil⟩⟩⟩) (xn_72) (xs_72) (by decide +kernel) (List.forall_mem_cons.mpr ⟨xw_72_0_0, List.forall_mem_cons.mpr ⟨xw_72_0_1, List.forall_mem_cons.mpr ⟨xw_72_0_2, fun _ h => absurd h List.not_mem_nil⟩⟩⟩) (trivial)
noncomputable def xf_73 : ys_F := (yw_f0 3, yw_r0)
noncomputable def xk_73 : ys_K := (((yX3_mend, cX3_mend, 4, none), (0, 0)), ([.inr (some 0), .inl (.inl ([(0, 1)], 0)), .inl (.inl ([(1, 1)], 0)), .inl (.inl ([(2, 1)], 0))], ([((-2147483648), 2147483647), ((-2147483648), 2147483647), ((-2147483648), 2147483647)] ++ yw_e0, []), xf_73), ([([((-9223372036854775808), 9223372036854775807), ((-9223372036854775808), 9223372036854775807), ((-9223372036854775808), 9223372036854775807)], [], ((ys_fs xf_73.1 [(0, 0, .inl (.inr ([(8, 1)], 0))), (0, 1, .inl (.inr ([(9, 1)], 0))), (0, 2, .inl (.inr ([(10, 1)], 0)))]), xf_73.2), none)], []))
noncomputable def xq_73 : yt_Q := (yz_X3_mend, (yl_flX3, yl_ciX3, yl_cjX3, yl_cpX3, yl_cqX3), [], [])
noncomputable def xa_73 : List yt_CE := []
theorem xc_73 {l : Launch} {D : va_G} {cT : Nat → ClassId} {tys : List (ClassId × FieldType)} (hty : yx_Ty tys cT) : yx_C l D cT tys yw_s0 xk_73 := yx_method (calls := xa_73) (Z := xq_73) 300 (by decide +kernel) yz_X3_mend_ok hty (yl_lkX3 _) (yl_cqkX3 _) (fun _ h => absurd h List.not_mem_nil) (by decide +kernel)
noncomputable def yw_s47 : List ys_C := [.inl 3, .inl 6, .inr (0, 40, []), .inr (0, 40, []), .inr (0, 40, [])]
noncomputable def yw_f47 (n : Nat) : List (List ys_V) := [[.inl (.inr ([(n + 0, 1)], 0)), .inl (.inr ([(n + 1, 1)], 0)), .inl (.inr ([(n + 2, 1)], 0)), .inl (.inr ([(n + 3, 1)], 0)), .inl (.inr ([(n + 4, 1)], 0))], [.inr (some 2), .inr (some 3), .inr (some 4), .inr (some 5), .inl (.inl ([(n + 5, 1)], 0)), .inl (.inl ([(n + 6, 1)], 0))], [], [], []]
noncomputable def yw_e47 : ys_E := [((-9223372036854775808), 9223372036854775807), ((-9223372036854775808), 9223372036854775807), ((-9223372036854775808), 9223372036854775807), ((-9223372036854775808), 9223372036854775807), ((-9223372036854775808), 9223372036854775807), (0, 40), ((-2147483648), 2147483647)]
noncomputable def yw_r47 : List ys_R := [((0, 0), []), ((0, 0), []), (((-300), 300), []), (((-300), 300), []), ((0, 1), [])]
noncomputable def xf_74 : ys_F := (yw_f47 0, yw_r47)
noncomputable def xk_74 : ys_K := (((yX3_goRound, cX3_goRound, 6, (some .int)), (1, 23)), ([.inr (some 0), .inr (some 1)], ([] ++ yw_e47, []), xf_74), ([([((-2147483648), 2147483647), ((-9223372036854775808), 9223372036854775807), ((-9223372036854775808), 9223372036854775807), ((-9223372036854775808), 9223372036854775807)], [], ((ys_fs xf_74.1 [(0, 0, .inl (.inr ([(8, 1)], 0))), (0, 1, .inl (.inr ([(9, 1)], 0))), (0, 2, .inl (.inr ([(10, 1)], 0)))]), xf_74.2), some (.inl (.inl ([(7, 1)], 0))))], []))
noncomputable def xq_74 : yt_Q := (yz_X3_goRound, (yl_flX3, yl_ciX3, yl_cjX3, yl_cpX3, yl_cqX3), [(4, ([((-2147483648), 2147483647), (0, 40), ((-9223372036854775808), 9223372036854775807), ((-9223372036854775808), 9223372036854775807), ((-9223372036854775808), 9223372036854775807)], [], ((ys_fs xf_74.1 [(0, 0, .inl (.inr ([(9, 1)], 0))), (0, 1, .inl (.inr ([(10, 1)], 0))), (0, 2, .inl (.inr ([(11, 1)], 0)))]), xf_74.2), [(0, .inr (some 0)), (1, .inr (some 1)), (2, .inl (.inl ([(7, 1)], 0))), (3, .inl (.inl ([(8, 1)], 0)))], [], ([(8, (-1))], 40)), [], false)], [])
noncomputable def xa_74 : List yt_CE := [(((47, false), (0, false, [0])), (yw_s0, xk_73))]
theorem xc_74 {l : Launch} {D : va_G} {cT : Nat → ClassId} {tys : List (ClassId × FieldType)} (hty : yx_Ty tys cT) : yx_C l D cT tys yw_s47 xk_74 := yx_method (calls := xa_74) (Z := xq_74) 300 (by decide +kernel) yz_X3_goRound_ok hty (yl_lkX3 _) (yl_cqkX3 _) (List.forall_mem_cons.mpr ⟨⟨xc_73 hty, yg_CLv rfl rfl rfl yl_wX3_47 yd_yX3_mend⟩, fun _ h => absurd h List.not_mem_nil⟩) (by decide +kernel)
noncomputable def xf_75 : ys_F := (yw_f47 1, yw_r47)
noncomputable def xk_75 : ys_K := (((yX3_train, cX3_train, 6, (some .int)), (2, 48)), ([.inr (some 0), .inr (some 1), .inl (.inl ([(0, 1)], 0))], ([(0, 4096)] ++ yw_e47, []), xf_75), ([([((-2147483648), 2147483647), ((-9223372036854775808), 9223372036854775807), ((-9223372036854775808), 9223372036854775807), ((-9223372036854775808), 9223372036854775807), ((-9223372036854775808), 9223372036854775807), ((-9223372036854775808), 9223372036854775807)], [], ((ys_fs xf_75.1 [(0, 0, .inl (.inr ([(9, 1)], 0))), (0, 1, .inl (.inr ([(10, 1)], 0))), (0, 2, .inl (.inr ([(11, 1)], 0))), (0, 3, .inl (.inr ([(12, 1)], 0))), (0, 4, .inl (.inr ([(13, 1)], 0)))]), xf_75.2), some (.inl (.inl ([(8, 1)], 0))))], []))
noncomputable def xq_75 : yt_Q := (yz_X3_train, (yl_flX3, yl_ciX3, yl_cjX3, yl_cpX3, yl_cqX3), [(5, ([((-2147483648), 2147483647), (0, 4096), ((-9223372036854775808), 9223372036854775807), ((-9223372036854775808), 9223372036854775807), ((-9223372036854775808), 9223372036854775807), ((-9223372036854775808), 9223372036854775807)], [], ((ys_fs xf_75.1 [(0, 0, .inl (.inr ([(10, 1)], 0))), (0, 1, .inl (.inr ([(11, 1)], 0))), (0, 2, .inl (.inr ([(12, 1)], 0))), (0, 4, .inl (.inr ([(13, 1)], 0)))]), xf_75.2), [(0, .inr (some 0)), (1, .inr (some 1)), (2, .inl (.inl ([(0, 1)], 0))), (3, .inl (.inl ([(8, 1)], 0))), (4, .inl (.inl ([(9, 1)], 0)))], [], ([(9, (-1))], 4096)), [], false)], [])
noncomputable def xa_75 : List yt_CE := [(((27, false), (0, false, [0, 1, 2, 3, 4, 5])), (yw_s47, xk_74))]
theorem xc_75 {l : Launch} {D : va_G} {cT : Nat → ClassId} {tys : List (ClassId × FieldType)} (hty : yx_Ty tys cT) : yx_C l D cT tys yw_s47 xk_75 := yx_method (calls := xa_75) (Z := xq_75) 300 (by decide +kernel) yz_X3_train_ok hty (yl_lkX3 _) (yl_cqkX3 _) (List.forall_mem_cons.mpr ⟨⟨xc_74 hty, yg_CLv rfl rfl rfl yl_wX3_27 yd_yX3_goRound⟩, fun _ h => absurd h List.not_mem_nil⟩) (by decide +kernel)
noncomputable def yw_s48 : List ys_C := [.inl 11, .inl 6, .inr (0, 40, []), .inr (0, 40, []), .inr (0, 40, []), .inl 3]
noncomputable def yw_f48 (n : Nat) : List (List ys_V) := [[.inr (some 1), .inr (some 7), .inr (some 5), .inr (some 8), .inr (some 9), .inr (some 10), .inr (some 11), .inr (some 12), .inr (some 13), .inr (some 14), .inr (some 15), .inr (some 16), .inr (some 17), .inr (some 18), .inl (.inl ([(n + 0, 1)], 0))], [.inr (some 2), .inr (some 3), .inr (some 4), .inr (some 6), .inl (.inl ([(n + 1, 1)], 0)), .inl (.inl ([(n + 2, 1)], 0))], [], [], [], [.inl (.inr ([(n + 3, 1)], 0)), .inl (.inr ([(n + 4, 1)], 0)), .inl (.inr ([(n + 5, 1)], 0)), .inl (.inr ([(n + 6, 1)], 0)), .inl (.inr ([(n + 7, 1)], 0))]]
noncomputable def yw_e48 : ys_E := [((-2147483648), 2147483647), (0, 40), ((-2147483648), 2147483647), ((-9223372036854775808), 9223372036854775807), ((-9223372036854775808), 9223372036854775807), ((-9223372036854775808), 9223372036854775807), ((-9223372036854775808), 9223372036854775807), ((-9223372036854775808), 9223372036854775807)]
noncomputable def yw_r48 : List ys_R := [((0, 0), []), ((0, 0), []), (((-300), 300), []), (((-300), 300), []), ((0, 1), []), ((0, 0), [])]
noncomputable def xf_76 : ys_F := (yw_f48 1, yw_r48)
noncomputable def xk_76 : ys_K := (((yX11_learn, cX11_learn, 2, (some .int)), (3, 73)), ([.inr (some 0), .inl (.inl ([(0, 1)], 0))], ([((-2147483648), 2147483647)] ++ yw_e48, []), xf_76), ([([((-2147483648), 2147483647), ((-2147483648), 0), ((-9223372036854775808), 9223372036854775807), ((-9223372036854775808), 9223372036854775807), ((-9223372036854775808), 9223372036854775807), ((-9223372036854775808), 9223372036854775807), ((-9223372036854775808), 9223372036854775807)], [], ((ys_fs xf_76.1 [(0, 14, .inl (.inl ([(10, 1)], 0))), (5, 0, .inl (.inr ([(11, 1)], 0))), (5, 1, .inl (.inr ([(12, 1)], 0))), (5, 2, .inl (.inr ([(13, 1)], 0))), (5, 3, .inl (.inr ([(14, 1)], 0))), (5, 4, .inl (.inr ([(15, 1)], 0)))]), xf_76.2), some (.inl (.inl ([(9, 1)], 0))))], []))
noncomputable def xq_76 : yt_Q := (yz_X11_learn, (yl_flX11, yl_ciX11, yl_cjX11, yl_cpX11, yl_cqX11), [], [])
noncomputable def xa_76 : List yt_CE := [(((107, false), (0, false, [0, 1, 7, 5, 8, 9, 10, 11, 12, 13, 14, 15, 16, 17, 18])), (yw_s3, xk_3)), (((288, false), (0, false, [5, 1, 2, 3, 4, 6])), (yw_s47, xk_75))]
theorem xc_76 {l : Launch} {D : va_G} {cT : Nat → ClassId} {tys : List (ClassId × FieldType)} (hty : yx_Ty tys cT) : yx_C l D cT tys yw_s48 xk_76 := yx_method (calls := xa_76) (Z := xq_76) 300 (by decide +kernel) yz_X11_learn_ok hty (yl_lkX11 _) (yl_cqkX11 _) (List.forall_mem_cons.mpr ⟨⟨xc_3 hty, yg_CLv rfl rfl rfl yl_wX11_107 yd_yX11_told⟩, List.forall_mem_cons.mpr ⟨⟨xc_75 hty, yg_CLv rfl rfl rfl yl_wX11_288 yd_yX3_train⟩, fun _ h => absurd h List.not_mem_nil⟩⟩) (by decide +kernel)
noncomputable def xf_77 : ys_F := (yw_f1 1, yw_r1)
noncomputable def xk_77 : ys_K := (((yX11_learnt, cX11_learnt, 2, (some .long)), (0, 0)), ([.inr (some 0), .inl (.inl ([(0, 1)], 0))], ([((-2147483648), 2147483647)] ++ yw_e1, []), xf_77), ([([((-9223372036854775808), 9223372036854775807)], [], (xf_77.1, xf_77.2), some (.inl (.inr ([(7, 1)], 0))))], []))
noncomputable def xq_77 : yt_Q := (yz_X11_learnt, (yl_flX11, yl_ciX11, yl_cjX11, yl_cpX11, yl_cqX11), [], [])
noncomputable def xa_77 : List yt_CE := []
theorem xc_77 {l : Launch} {D : va_G} {cT : Nat → ClassId} {tys : List (ClassId × FieldType)} (hty : yx_Ty tys cT) : yx_C l D cT tys yw_s1 xk_77 := yx_method (calls := xa_77) (Z := xq_77) 300 (by decide +kernel) yz_X11_learnt_ok hty (yl_lkX11 _) (yl_cqkX11 _) (fun _ h => absurd h List.not_mem_nil) (by decide +kernel)
noncomputable def xf_78 : ys_F := (yw_f35 0, yw_r35)
noncomputable def xk_78 : ys_K := (((yX11_left, cX11_left, 1, (some .int)), (0, 0)), ([.inr (some 0)], ([] ++ yw_e35, []), xf_78), ([([], [], (xf_78.1, xf_78.2), some (.inl (.inl ([(2, 1)], 0))))], []))
noncomputable def xq_78 : yt_Q := (yz_X11_left, (yl_flX11, yl_ciX11, yl_cjX11, yl_cpX11, yl_cqX11), [], [])
noncomputable def xa_78 : List yt_CE := []
theorem xc_78 {l : Launch} {D : va_G} {cT : Nat → ClassId} {tys : List (ClassId × FieldType)} (hty : yx_Ty tys cT) : yx_C l D cT tys yw_s35 xk_78 := yx_method (calls := xa_78) (Z := xq_78) 300 (by decide +kernel) yz_X11_left_ok hty (yl_lkX11 _) (yl_cqkX11 _) (fun _ h => absurd h List.not_mem_nil) (by decide +kernel)
noncomputable def yw_s49 : List ys_C := [.inl 11, .inl 9, .inr (1, 40, [])]
noncomputable def yw_f49 (n : Nat) : List (List ys_V) := [[.inr (some 3), .inr (some 4), .inr (some 5), .inr (some 6), .inr (some 7), .inr (some 8), .inr (some 9), .inr (some 10), .inr (some 11), .inr (some 12), .inr (some 13), .inr (some 1), .inr (some 22), .inr (some 23), .inl (.inl ([(n + 0, 1)], 0))], [.inr (some 14), .inr (some 15), .inr (some 16), .inr (some 17), .inr (some 18), .inr (some 2), .inl (.inl ([(n + 1, 1)], 0)), .inl (.inl ([(n + 2, 1)], 0)), .inl (.inl ([(n + 3, 1)], 0)), .inr (some 19), .inr (some 20), .inr (some 21), .inl (.inl ([(n + 4, 1)], 0)), .inl (.inl ([(n + 5, 1)], 0)), .inl (.inl ([(n + 6, 1)], 0)), .inl (.inr ([(n + 7, 1)], 0)), .inl (.inr ([(n + 8, 1)], 0))], []]
noncomputable def yw_e49 : ys_E := [((-2147483648), 2147483647), (0, 40), (0, 12), ((-2147483648), 2147483647), ((-2147483648), 2147483647), ((-2147483648), 2147483647), ((-2147483648), 2147483647), ((-9223372036854775808), 9223372036854775807), ((-9223372036854775808), 9223372036854775807)]
noncomputable def yw_r49 : List ys_R := [((0, 0), []), ((0, 0), []), (((-9223372036854775808), 9223372036854775807), [])]
noncomputable def xf_79 : ys_F := (yw_f49 1, yw_r49)
noncomputable def xk_79 : ys_K := (((yX11_mass, cX11_mass, 2, (some .long)), (1, 21)), ([.inr (some 0), .inl (.inl ([(0, 1)], 0))], ([((-2147483648), 2147483647)] ++ yw_e49, []), xf_79), ([([((-9223372036854775808), 9223372036854775807), ((-2147483648), 0)], [], ((ys_fs xf_79.1 [(0, 14, .inl (.inl ([(11, 1)], 0)))]), xf_79.2), some (.inl (.inr ([(10, 1)], 0))))], []))
noncomputable def xq_79 : yt_Q := (yz_X11_mass, (yl_flX11, yl_ciX11, yl_cjX11, yl_cpX11, yl_cqX11), [], [])
noncomputable def xa_79 : List yt_CE := [(((107, false), (0, false, [0, 3, 4, 5, 6, 7, 8, 9, 10, 11, 12, 13, 1, 22, 23])), (yw_s3, xk_3))]
theorem xc_79 {l : Launch} {D : va_G} {cT : Nat → ClassId} {tys : List (ClassId × FieldType)} (hty : yx_Ty tys cT) : yx_C l D cT tys yw_s49 xk_79 := yx_method (calls := xa_79) (Z := xq_79) 300 (by decide +kernel) yz_X11_mass_ok hty (yl_lkX11 _) (yl_cqkX11 _) (List.forall_mem_cons.mpr ⟨⟨xc_3 hty, yg_CLv rfl rfl rfl yl_wX11_107 yd_yX11_told⟩, fun _ h => absurd h List.not_mem_nil⟩) (by decide +kernel)
noncomputable def xf_80 : ys_F := (yw_f2 1, yw_r2)
noncomputable def xk_80 : ys_K := (((yX4_canTell, cX4_canTell, 1, (some .boolean)), (0, 0)), ([.inl (.inl ([(0, 1)], 0))], ([((-2147483648), 2147483647)] ++ yw_e2, []), xf_80), ([([], [], (xf_80.1, xf_80.2), some (.inl (.inl ([], 0)))), ([], [], (xf_80.1, xf_80.2), some (.inl (.inl ([], 1))))], []))
noncomputable def xq_80 : yt_Q := (yz_X4_canTell, (yl_flX4, yl_ciX4, yl_cjX4, yl_cpX4, yl_cqX4), [], [])
noncomputable def xa_80 : List yt_CE := []
theorem xc_80 {l : Launch} {D : va_G} {cT : Nat → ClassId} {tys : List (ClassId × FieldType)} (hty : yx_Ty tys cT) : yx_C l D cT tys yw_s2 xk_80 := yx_method (calls := xa_80) (Z := xq_80) 300 (by decide +kernel) yz_X4_canTell_ok hty (yl_lkX4 _) (yl_cqkX4 _) (fun _ h => absurd h List.not_mem_nil) (by decide +kernel)
noncomputable def xf_81 : ys_F := (yw_f16 0, yw_r16)
noncomputable def xk_81 : ys_K := (((yX6_hasBothColours, cX6_hasBothColours, 2, (some .boolean)), (1, 23)), ([.inr (some 0)], ([] ++ yw_e16, []), xf_81), ([([], [], (xf_81.1, xf_81.2), some (.inl (.inl ([], 0)))), ([], [([(0, 1)], (-2))], (xf_81.1, xf_81.2), some (.inl (.inl ([], 1))))], []))
noncomputable def xq_81 : yt_Q := (yz_X6_hasBothColours, (yl_flX6, yl_ciX6, yl_cjX6, yl_cpX6, yl_cqX6), [], [true, true])
noncomputable def xa_81 : List yt_CE := [(((45, false), (150, false, [0, 1, 2, 3, 4])), (yw_s16, xk_21))]
noncomputable def xv_81 : List (List yt_VC) := [[(1000, ([(0, 40), ((-2147483648), 2147483647), (0, 0)], []), [], [], [.inr (.inr (.inl (150, 0, [([], 1), ([(0, 1)], 0), ([(1, 1)], 0), ([(2, 1)], 0)], [0, 1, 2, 3, 4], [])))]),
   (1000, ([(0, 40), ((-2147483648), 2147483647), (1, 40)], [([(0, (-1)), (2, 1)], 0)]), [], [], [.inr (.inr (.inl (150, 0, [([], 1), ([(0, 1)], 0), ([(1, 1)], 0), ([(2, 1)], 0)], [0, 1, 2, 3, 4], [])))]),
   (1001, ([(2, 40), ((-2147483648), 2147483647), (1, 39)], [([(0, 1), (2, (-1))], (-1))]), [], [], [.inr (.inr (.inl (150, 0, [([], 1), ([(0, 1)], 0), ([(1, 1)], 0), ([(2, 1)], 0)], [0, 1, 2, 3, 4], [])))])]]
noncomputable def xG_81 : Nat → yt_G → (Nat → Int) → yt_G → Prop
  | _, _, _, _ => True
noncomputable def xP_81 : yt_Ph
  | 0, r, g0, g => ¬ ye_bo (g0 1) ((r 0)).toNat
  | 1, r, g0, g => ye_bo (g0 1) ((r 0)).toNat
  | _, _, _, _ => True
noncomputable def xR_81 : yt_Ps := fun r g0 => True
noncomputable def xT_81 : yt_Tb := fun d => match d with
  | 150 => xP_21
  | _ => fun _ _ _ _ => True
noncomputable def xU_81 : Nat → yt_Ps := fun d => match d with
  | 150 => xR_21
  | _ => fun _ _ => True
theorem xw_81_0_0 : yt_hold xT_81 xk_81 xq_81.2.2.1 xG_81 xP_81 xU_81 2 xk_81.2.1.2.2.2 (fun g0 r g => xR_81 r g0 ∧ g = g0) (1000, ([(0, 40), ((-2147483648), 2147483647), (0, 0)], []), [], [], [.inr (.inr (.inl (150, 0, [([], 1), ([(0, 1)], 0), ([(1, 1)], 0), ([(2, 1)], 0)], [0, 1, 2, 3, 4], [])))]) := by
  intro g0 r gi g hok hh hars hfr hG
  have b0 : 0 ≤ r 0 ∧ r 0 ≤ 40 := hok.1 0 (0, 40) rfl
  have b2 : 0 ≤ r 2 ∧ r 2 ≤ 0 := hok.1 2 (0, 0) rfl
  obtain ⟨hG, hgi⟩ := hG
  have hG : True := hG
  obtain ⟨h0, hh, e0, k0⟩ := hh
  have k0 : ∀ j, j ∉ [] → g j = h0 j := k0
  have e0 : ((1 * r 2 + 0) + 0) = yq_cnt (h0 1) ((0 : Int) + 1) (((1 * r 0 + 0) + 0)).toNat := e0
  have hh : h0 = gi := hh
  subst hh
  refine yt_dalt (by decide) (by decide) ?_
  rw [show xk_81.2.1.2.1.1.length = 2 from rfl]
  show ¬ ye_bo (g0 1) (((1 * r 0 + 0) + 0)).toNat
  try simp only [Int.one_mul, Int.zero_add, Int.add_zero]
  try simp only [Int.one_mul, Int.zero_add, Int.add_zero] at e0
  rw [hgi] at e0
  unfold ye_bo
  rw [← e0]
  omega
theorem xw_81_0_1 : yt_hold xT_81 xk_81 xq_81.2.2.1 xG_81 xP_81 xU_81 2 xk_81.2.1.2.2.2 (fun g0 r g => xR_81 r g0 ∧ g = g0) (1000, ([(0, 40), ((-2147483648), 2147483647), (1, 40)], [([(0, (-1)), (2, 1)], 0)]), [], [], [.inr (.inr (.inl (150, 0, [([], 1), ([(0, 1)], 0), ([(1, 1)], 0), ([(2, 1)], 0)], [0, 1, 2, 3, 4], [])))]) := by
  intro g0 r gi g hok hh hars hfr hG
  have b0 : 0 ≤ r 0 ∧ r 0 ≤ 40 := hok.1 0 (0, 40) rfl
  have b2 : 1 ≤ r 2 ∧ r 2 ≤ 40 := hok.1 2 (1, 40) rfl
  have f0 : 0 ≤ (((-1) * r 0 + (1 * r 2 + 0)) + 0) := hok.2 _ (List.mem_of_getElem? (i := 0) rfl)
  obtain ⟨hG, hgi⟩ := hG
  have hG : True := hG
  obtain ⟨h0, hh, e0, k0⟩ := hh
  have k0 : ∀ j, j ∉ [] → g j = h0 j := k0
  have e0 : ((1 * r 2 + 0) + 0) = yq_cnt (h0 1) ((0 : Int) + 1) (((1 * r 0 + 0) + 0)).toNat := e0
  have hh : h0 = gi := hh
  subst hh
  refine yt_dalt (by decide) (by decide) ?_
  rw [show xk_81.2.1.2.1.1.length = 2 from rfl]
  show ¬ ye_bo (g0 1) (((1 * r 0 + 0) + 0)).toNat
  try simp only [Int.one_mul, Int.zero_add, Int.add_zero]
  try simp only [Int.one_mul, Int.zero_add, Int.add_zero] at e0
  rw [hgi] at e0
  unfold ye_bo
  rw [← e0]
  omega
theorem xw_81_0_2 : yt_hold xT_81 xk_81 xq_81.2.2.1 xG_81 xP_81 xU_81 2 xk_81.2.1.2.2.2 (fun g0 r g => xR_81 r g0 ∧ g = g0) (1001, ([(2, 40), ((-2147483648), 2147483647), (1, 39)], [([(0, 1), (2, (-1))], (-1))]), [], [], [.inr (.inr (.inl (150, 0, [([], 1), ([(0, 1)], 0), ([(1, 1)], 0), ([(2, 1)], 0)], [0, 1, 2, 3, 4], [])))]) := by
  intro g0 r gi g hok hh hars hfr hG
  have b0 : 2 ≤ r 0 ∧ r 0 ≤ 40 := hok.1 0 (2, 40) rfl
  have b2 : 1 ≤ r 2 ∧ r 2 ≤ 39 := hok.1 2 (1, 39) rfl
  have f0 : 0 ≤ ((1 * r 0 + ((-1) * r 2 + 0)) + (-1)) := hok.2 _ (List.mem_of_getElem? (i := 0) rfl)
  obtain ⟨hG, hgi⟩ := hG
  have hG : True := hG
  obtain ⟨h0, hh, e0, k0⟩ := hh
  have k0 : ∀ j, j ∉ [] → g j = h0 j := k0
  have e0 : ((1 * r 2 + 0) + 0) = yq_cnt (h0 1) ((0 : Int) + 1) (((1 * r 0 + 0) + 0)).toNat := e0
  have hh : h0 = gi := hh
  subst hh
  refine yt_dalt (by decide) (by decide) ?_
  rw [show xk_81.2.1.2.1.1.length = 2 from rfl]
  show ye_bo (g0 1) (((1 * r 0 + 0) + 0)).toNat
  try simp only [Int.one_mul, Int.zero_add, Int.add_zero]
  try simp only [Int.one_mul, Int.zero_add, Int.add_zero] at e0
  rw [hgi] at e0
  unfold ye_bo
  rw [← e0]
  omega
theorem xn_81 : ∀ (j : Nat) (q : Nat × yt_T), xq_81.2.2.1[j]? = some q → q.2.2.2 = false → ∀ g0 r g, xG_81 j g0 r g
  | n + 0, q, hq, _ => by cases hq
theorem xs_81 : ∀ j, xq_81.2.2.2.getD j false = false → ∀ r g g', xP_81 j r g g'
  | 0, hf => by cases hf
  | 1, hf => by cases hf
  | n + 2, _ => fun _ _ _ => trivial
theorem xc_81 {l : Launch} {D : va_G} {cT : Nat → ClassId} {tys : List (ClassId × FieldType)} (hty : yx_Ty tys cT) : yt_Con l D vwCl cT tys yG yw_s16 xk_81 xR_81 xP_81 := yx_sem (calls := xa_81) (Z := xq_81) (tb := xT_81) (pt := xU_81) (Ga := xG_81) (vs := xv_81) (fun _ _ _ _ => trivial) 300 (by decide +kernel) yz_X6_hasBothColours_ok hty (yl_lkX6 _) (yl_cqkX6 _) (List.forall_mem_cons.mpr ⟨⟨xc_21 hty, yg_CLv rfl rfl rfl yl_wX6_45 yd_yX6_tally, fun _ _ _ => trivial⟩, fun _ h => absurd h List.not_mem_nil⟩) (xn_81) (xs_81) (by decide +kernel) (List.forall_mem_cons.mpr ⟨xw_81_0_0, List.forall_mem_cons.mpr ⟨xw_81_0_1, List.forall_mem_cons.mpr ⟨xw_81_0_2, fun _ h => absurd h List.not_mem_nil⟩⟩⟩) (trivial)
noncomputable def xf_82 : ys_F := (yw_f2 2, yw_r2)
noncomputable def xk_82 : ys_K := (((yX10_squareSum, cX10_squareSum, 4, (some .long)), (0, 0)), ([.inl (.inr ([(0, 1)], 0)), .inl (.inr ([(1, 1)], 0))], ([((-600), 600), ((-600), 600)] ++ yw_e2, []), xf_82), ([([(0, 720000)], [], (xf_82.1, xf_82.2), some (.inl (.inr ([(2, 1)], 0))))], []))
noncomputable def xq_82 : yt_Q := (yz_X10_squareSum, (yl_flX10, yl_ciX10, yl_cjX10, yl_cpX10, yl_cqX10), [], [true])
noncomputable def xa_82 : List yt_CE := []
noncomputable def xv_82 : List (List yt_VC) := [[(1000, ([((-600), 600), ((-600), 600), (0, 360000), (0, 360000)], []), [([(3, 1), (2, 1)], 0)], [], [.inl (.inr (3, ([(1, 1)], 0), ([(1, 1)], 0))), .inl (.inr (2, ([(0, 1)], 0), ([(0, 1)], 0)))])]]
noncomputable def xG_82 : Nat → yt_G → (Nat → Int) → yt_G → Prop
  | _, _, _, _ => True
noncomputable def xP_82 : yt_Ph
  | 0, r, g0, g => (r 2) = (r 0) * (r 0) + (r 1) * (r 1)
  | _, _, _, _ => True
noncomputable def xR_82 : yt_Ps := fun r g0 => True
noncomputable def xT_82 : yt_Tb := fun d => match d with
  | _ => fun _ _ _ _ => True
noncomputable def xU_82 : Nat → yt_Ps := fun d => match d with
  | _ => fun _ _ => True
theorem xw_82_0_0 : yt_hold xT_82 xk_82 xq_82.2.2.1 xG_82 xP_82 xU_82 2 xk_82.2.1.2.2.2 (fun g0 r g => xR_82 r g0 ∧ g = g0) (1000, ([((-600), 600), ((-600), 600), (0, 360000), (0, 360000)], []), [([(3, 1), (2, 1)], 0)], [], [.inl (.inr (3, ([(1, 1)], 0), ([(1, 1)], 0))), .inl (.inr (2, ([(0, 1)], 0), ([(0, 1)], 0)))]) := by
  intro g0 r gi g hok hh hars hfr hG
  have b2 : 0 ≤ r 2 ∧ r 2 ≤ 360000 := hok.1 2 (0, 360000) rfl
  have b3 : 0 ≤ r 3 ∧ r 3 ≤ 360000 := hok.1 3 (0, 360000) rfl
  obtain ⟨hG, hgi⟩ := hG
  have hG : True := hG
  obtain ⟨g0, hh, q0, e0⟩ := hh
  subst q0
  have e0 : r 3 = ((1 * r 1 + 0) + 0) * ((1 * r 1 + 0) + 0) := e0
  try simp only [Int.one_mul, Int.zero_add, Int.add_zero] at e0
  obtain ⟨g1, hh, q1, e1⟩ := hh
  subst q1
  have e1 : r 2 = ((1 * r 0 + 0) + 0) * ((1 * r 0 + 0) + 0) := e1
  try simp only [Int.one_mul, Int.zero_add, Int.add_zero] at e1
  have hh : g = gi := hh
  subst hh
  refine yt_dalt (by decide) (by decide) ?_
  rw [show xk_82.2.1.2.1.1.length = 2 from rfl]
  show ((1 * r 3 + (1 * r 2 + 0)) + 0) = ((1 * r 0 + 0) + 0) * ((1 * r 0 + 0) + 0) + ((1 * r 1 + 0) + 0) * ((1 * r 1 + 0) + 0)
  try simp only [Int.one_mul, Int.zero_add, Int.add_zero]
  try simp only [Int.one_mul, Int.zero_add, Int.add_zero] at e0
  try simp only [Int.one_mul, Int.zero_add, Int.add_zero] at e1
  omega
theorem xn_82 : ∀ (j : Nat) (q : Nat × yt_T), xq_82.2.2.1[j]? = some q → q.2.2.2 = false → ∀ g0 r g, xG_82 j g0 r g
  | n + 0, q, hq, _ => by cases hq
theorem xs_82 : ∀ j, xq_82.2.2.2.getD j false = false → ∀ r g g', xP_82 j r g g'
  | 0, hf => by cases hf
  | n + 1, _ => fun _ _ _ => trivial
theorem xc_82 {l : Launch} {D : va_G} {cT : Nat → ClassId} {tys : List (ClassId × FieldType)} (hty : yx_Ty tys cT) : yt_Con l D vwCl cT tys yG yw_s2 xk_82 xR_82 xP_82 := yx_sem (calls := xa_82) (Z := xq_82) (tb := xT_82) (pt := xU_82) (Ga := xG_82) (vs := xv_82) (fun _ _ _ _ => trivial) 300 (by decide +kernel) yz_X10_squareSum_ok hty (yl_lkX10 _) (yl_cqkX10 _) (fun _ h => absurd h List.not_mem_nil) (xn_82) (xs_82) (by decide +kernel) (List.forall_mem_cons.mpr ⟨xw_82_0_0, fun _ h => absurd h List.not_mem_nil⟩) (trivial)
noncomputable def xf_83 : ys_F := (yw_f2 2, yw_r2)
noncomputable def xk_83 : ys_K := (((yX1_common, cX1_common, 11, (some .long)), (1, 15)), ([.inl (.inr ([(0, 1)], 0)), .inl (.inr ([(1, 1)], 0))], ([((-4611686018427387904), 4611686018427387904), ((-4611686018427387904), 4611686018427387904)] ++ yw_e2, []), xf_83), ([([(1, 4611686018427387904)], [], (xf_83.1, xf_83.2), some (.inl (.inr ([(2, 1)], 0))))], []))
noncomputable def xq_83 : yt_Q := (yz_X1_common, (yl_flX1, yl_ciX1, yl_cjX1, yl_cpX1, yl_cqX1), [(15, ([(0, 4611686018427387904), (0, 4611686018427387904), (0, 128)], [], (xf_83.1, xf_83.2), [(4, .inl (.inr ([(2, 1)], 0))), (6, .inl (.inr ([(3, 1)], 0))), (8, .inl (.inl ([(4, 1)], 0)))], [], ([(4, (-1))], 128)), [], true)], [true])
noncomputable def xa_83 : List yt_CE := []
noncomputable def xv_83 : List (List yt_VC) := [[(0, ([(0, 4611686018427387904), (0, 4611686018427387904), (0, 0), (0, 0)], []), [([(0, 1)], 0), ([(1, 1)], 0), ([], 0)], [], []),
   (0, ([(0, 4611686018427387904), ((-4611686018427387904), (-1)), (0, 0), (0, 0)], []), [([(0, 1)], 0), ([(1, (-1))], 0), ([], 0)], [], []),
   (0, ([((-4611686018427387904), (-1)), (0, 4611686018427387904), (0, 0), (0, 0)], []), [([(0, (-1))], 0), ([(1, 1)], 0), ([], 0)], [], []),
   (0, ([((-4611686018427387904), (-1)), ((-4611686018427387904), (-1)), (0, 0), (0, 0)], []), [([(0, (-1))], 0), ([(1, (-1))], 0), ([], 0)], [], [])],
  [(1000, ([((-4611686018427387904), 4611686018427387904), ((-4611686018427387904), 4611686018427387904), (0, 0), (0, 4611686018427387904), (128, 128), (0, 0)], []), [([], 1)], [], []),
   (1000, ([((-4611686018427387904), 4611686018427387904), ((-4611686018427387904), 4611686018427387904), (1, 4611686018427387904), (0, 4611686018427387904), (128, 128), (0, 0)], []), [([(2, 1)], 0)], [], []),
   (1000, ([((-4611686018427387904), 4611686018427387904), ((-4611686018427387904), 4611686018427387904), (0, 0), (0, 0), (0, 127), (0, 0)], []), [([], 1)], [], []),
   (1000, ([((-4611686018427387904), 4611686018427387904), ((-4611686018427387904), 4611686018427387904), (1, 4611686018427387904), (0, 0), (0, 127), (0, 0)], []), [([(2, 1)], 0)], [], []),
   (0, ([((-4611686018427387904), 4611686018427387904), ((-4611686018427387904), 4611686018427387904), (0, 4611686018427387903), (1, 4611686018427387904), (0, 127), (0, 0)], [([(3, 1), (2, (-1))], (-1))]), [([(3, 1)], 0), ([(2, 1)], 0), ([(4, 1)], 1)], [], [.inr (.inr (.inl (998, 16, [([(2, 1)], 0), ([(3, 1)], 0), ([(2, 1)], 0)], [], [])))]),
   (0, ([((-4611686018427387904), 4611686018427387904), ((-4611686018427387904), 4611686018427387904), (1, 4611686018427387904), (1, 4611686018427387904), (0, 127), (0, 4611686018427387903)], [([(5, (-1)), (2, 1), (3, (-1))], 0), ([(3, 1), (5, (-1))], (-1)), ([(3, (-1)), (2, 1)], 0)]), [([(3, 1)], 0), ([(5, 1)], 0), ([(4, 1)], 1)], [], [.inr (.inr (.inl (998, 16, [([(2, 1)], 0), ([(3, 1)], 0), ([(5, 1)], 0)], [], [])))])]]
noncomputable def xG_83 : Nat → yt_G → (Nat → Int) → yt_G → Prop
  | 0, g0, r, g => 0 ≤ ((1 * (r 2) + 0) + 0) ∧ 0 ≤ ((1 * (r 3) + 0) + 0) ∧ Nat.gcd (((1 * (r 2) + 0) + 0)).toNat (((1 * (r 3) + 0) + 0)).toNat = Nat.gcd ((r 0)).natAbs ((r 1)).natAbs ∧ (((1 * (r 4) + 0) + 0) = 0 ∨ (((1 * (r 3) + 0) + 0) < ((1 * (r 2) + 0) + 0) ∧ (((1 * (r 2) + 0) + 0)).toNat * (((1 * (r 3) + 0) + 0)).toNat * 2 ^ (((1 * (r 4) + 0) + 0) - 1).toNat < 2 ^ 126))
  | _, _, _, _ => True
noncomputable def xP_83 : yt_Ph
  | 0, r, g0, g => (r 2) = ye_q (r 0) (r 1)
  | _, _, _, _ => True
noncomputable def xR_83 : yt_Ps := fun r g0 => True
noncomputable def xT_83 : yt_Tb := fun d => match d with
  | 998 => fun i r _ _ => yt_hwp i r
  | _ => fun _ _ _ _ => True
noncomputable def xU_83 : Nat → yt_Ps := fun d => match d with
  | _ => fun _ _ => True
theorem xw_83_0_0 : yt_hold xT_83 xk_83 xq_83.2.2.1 xG_83 xP_83 xU_83 2 xk_83.2.1.2.2.2 (fun g0 r g => xR_83 r g0 ∧ g = g0) (0, ([(0, 4611686018427387904), (0, 4611686018427387904), (0, 0), (0, 0)], []), [([(0, 1)], 0), ([(1, 1)], 0), ([], 0)], [], []) := by
  intro g0 r gi g hok hh hars hfr hG
  have b0 : 0 ≤ r 0 ∧ r 0 ≤ 4611686018427387904 := hok.1 0 (0, 4611686018427387904) rfl
  have b1 : 0 ≤ r 1 ∧ r 1 ≤ 4611686018427387904 := hok.1 1 (0, 4611686018427387904) rfl
  have b2 : 0 ≤ r 2 ∧ r 2 ≤ 0 := hok.1 2 (0, 0) rfl
  have b3 : 0 ≤ r 3 ∧ r 3 ≤ 0 := hok.1 3 (0, 0) rfl
  obtain ⟨hG, hgi⟩ := hG
  have hG : True := hG
  have hh : g = gi := hh
  subst hh
  refine yt_dcut (by decide) rfl ?_ ?_
  · exact fun f hf => absurd hf List.not_mem_nil
  · rw [show xk_83.2.1.2.1.1.length = 2 from rfl]
    show 0 ≤ ((1 * ((1 * r 0 + 0) + 0) + 0) + 0) ∧ 0 ≤ ((1 * ((1 * r 1 + 0) + 0) + 0) + 0) ∧ Nat.gcd (((1 * ((1 * r 0 + 0) + 0) + 0) + 0)).toNat (((1 * ((1 * r 1 + 0) + 0) + 0) + 0)).toNat = Nat.gcd (((1 * r 0 + 0) + 0)).natAbs (((1 * r 1 + 0) + 0)).natAbs ∧ (((1 * ((0 : Int) + 0) + 0) + 0) = 0 ∨ (((1 * ((1 * r 1 + 0) + 0) + 0) + 0) < ((1 * ((1 * r 0 + 0) + 0) + 0) + 0) ∧ (((1 * ((1 * r 0 + 0) + 0) + 0) + 0)).toNat * (((1 * ((1 * r 1 + 0) + 0) + 0) + 0)).toNat * 2 ^ (((1 * ((0 : Int) + 0) + 0) + 0) - 1).toNat < 2 ^ 126))
    try simp only [Int.one_mul, Int.zero_add, Int.add_zero]
    refine ⟨by omega, by omega, ?_, Or.inl (by first | rfl | trivial)⟩
    exact congr (congrArg Nat.gcd (by omega)) (by omega)
theorem xw_83_0_1 : yt_hold xT_83 xk_83 xq_83.2.2.1 xG_83 xP_83 xU_83 2 xk_83.2.1.2.2.2 (fun g0 r g => xR_83 r g0 ∧ g = g0) (0, ([(0, 4611686018427387904), ((-4611686018427387904), (-1)), (0, 0), (0, 0)], []), [([(0, 1)], 0), ([(1, (-1))], 0), ([], 0)], [], []) := by
  intro g0 r gi g hok hh hars hfr hG
  have b0 : 0 ≤ r 0 ∧ r 0 ≤ 4611686018427387904 := hok.1 0 (0, 4611686018427387904) rfl
  have b1 : (-4611686018427387904) ≤ r 1 ∧ r 1 ≤ (-1) := hok.1 1 ((-4611686018427387904), (-1)) rfl
  have b2 : 0 ≤ r 2 ∧ r 2 ≤ 0 := hok.1 2 (0, 0) rfl
  have b3 : 0 ≤ r 3 ∧ r 3 ≤ 0 := hok.1 3 (0, 0) rfl
  obtain ⟨hG, hgi⟩ := hG
  have hG : True := hG
  have hh : g = gi := hh
  subst hh
  refine yt_dcut (by decide) rfl ?_ ?_
  · exact fun f hf => absurd hf List.not_mem_nil
  · rw [show xk_83.2.1.2.1.1.length = 2 from rfl]
    show 0 ≤ ((1 * ((1 * r 0 + 0) + 0) + 0) + 0) ∧ 0 ≤ ((1 * (((-1) * r 1 + 0) + 0) + 0) + 0) ∧ Nat.gcd (((1 * ((1 * r 0 + 0) + 0) + 0) + 0)).toNat (((1 * (((-1) * r 1 + 0) + 0) + 0) + 0)).toNat = Nat.gcd (((1 * r 0 + 0) + 0)).natAbs (((1 * r 1 + 0) + 0)).natAbs ∧ (((1 * ((0 : Int) + 0) + 0) + 0) = 0 ∨ (((1 * (((-1) * r 1 + 0) + 0) + 0) + 0) < ((1 * ((1 * r 0 + 0) + 0) + 0) + 0) ∧ (((1 * ((1 * r 0 + 0) + 0) + 0) + 0)).toNat * (((1 * (((-1) * r 1 + 0) + 0) + 0) + 0)).toNat * 2 ^ (((1 * ((0 : Int) + 0) + 0) + 0) - 1).toNat < 2 ^ 126))
    try simp only [Int.one_mul, Int.zero_add, Int.add_zero]
    refine ⟨by omega, by omega, ?_, Or.inl (by first | rfl | trivial)⟩
    exact congr (congrArg Nat.gcd (by omega)) (by omega)
theorem xw_83_0_2 : yt_hold xT_83 xk_83 xq_83.2.2.1 xG_83 xP_83 xU_83 2 xk_83.2.1.2.2.2 (fun g0 r g => xR_83 r g0 ∧ g = g0) (0, ([((-4611686018427387904), (-1)), (0, 4611686018427387904), (0, 0), (0, 0)], []), [([(0, (-1))], 0), ([(1, 1)], 0), ([], 0)], [], []) := by
  intro g0 r gi g hok hh hars hfr hG
  have b0 : (-4611686018427387904) ≤ r 0 ∧ r 0 ≤ (-1) := hok.1 0 ((-4611686018427387904), (-1)) rfl
  have b1 : 0 ≤ r 1 ∧ r 1 ≤ 4611686018427387904 := hok.1 1 (0, 4611686018427387904) rfl
  have b2 : 0 ≤ r 2 ∧ r 2 ≤ 0 := hok.1 2 (0, 0) rfl
  have b3 : 0 ≤ r 3 ∧ r 3 ≤ 0 := hok.1 3 (0, 0) rfl
  obtain ⟨hG, hgi⟩ := hG
  have hG : True := hG
  have hh : g = gi := hh
  subst hh
  refine yt_dcut (by decide) rfl ?_ ?_
  · exact fun f hf => absurd hf List.not_mem_nil
  · rw [show xk_83.2.1.2.1.1.length = 2 from rfl]
    show 0 ≤ ((1 * (((-1) * r 0 + 0) + 0) + 0) + 0) ∧ 0 ≤ ((1 * ((1 * r 1 + 0) + 0) + 0) + 0) ∧ Nat.gcd (((1 * (((-1) * r 0 + 0) + 0) + 0) + 0)).toNat (((1 * ((1 * r 1 + 0) + 0) + 0) + 0)).toNat = Nat.gcd (((1 * r 0 + 0) + 0)).natAbs (((1 * r 1 + 0) + 0)).natAbs ∧ (((1 * ((0 : Int) + 0) + 0) + 0) = 0 ∨ (((1 * ((1 * r 1 + 0) + 0) + 0) + 0) < ((1 * (((-1) * r 0 + 0) + 0) + 0) + 0) ∧ (((1 * (((-1) * r 0 + 0) + 0) + 0) + 0)).toNat * (((1 * ((1 * r 1 + 0) + 0) + 0) + 0)).toNat * 2 ^ (((1 * ((0 : Int) + 0) + 0) + 0) - 1).toNat < 2 ^ 126))
    try simp only [Int.one_mul, Int.zero_add, Int.add_zero]
    refine ⟨by omega, by omega, ?_, Or.inl (by first | rfl | trivial)⟩
    exact congr (congrArg Nat.gcd (by omega)) (by omega)
theorem xw_83_0_3 : yt_hold xT_83 xk_83 xq_83.2.2.1 xG_83 xP_83 xU_83 2 xk_83.2.1.2.2.2 (fun g0 r g => xR_83 r g0 ∧ g = g0) (0, ([((-4611686018427387904), (-1)), ((-4611686018427387904), (-1)), (0, 0), (0, 0)], []), [([(0, (-1))], 0), ([(1, (-1))], 0), ([], 0)], [], []) := by
  intro g0 r gi g hok hh hars hfr hG
  have b0 : (-4611686018427387904) ≤ r 0 ∧ r 0 ≤ (-1) := hok.1 0 ((-4611686018427387904), (-1)) rfl
  have b1 : (-4611686018427387904) ≤ r 1 ∧ r 1 ≤ (-1) := hok.1 1 ((-4611686018427387904), (-1)) rfl
  have b2 : 0 ≤ r 2 ∧ r 2 ≤ 0 := hok.1 2 (0, 0) rfl
  have b3 : 0 ≤ r 3 ∧ r 3 ≤ 0 := hok.1 3 (0, 0) rfl
  obtain ⟨hG, hgi⟩ := hG
  have hG : True := hG
  have hh : g = gi := hh
  subst hh
  refine yt_dcut (by decide) rfl ?_ ?_
  · exact fun f hf => absurd hf List.not_mem_nil
  · rw [show xk_83.2.1.2.1.1.length = 2 from rfl]
    show 0 ≤ ((1 * (((-1) * r 0 + 0) + 0) + 0) + 0) ∧ 0 ≤ ((1 * (((-1) * r 1 + 0) + 0) + 0) + 0) ∧ Nat.gcd (((1 * (((-1) * r 0 + 0) + 0) + 0) + 0)).toNat (((1 * (((-1) * r 1 + 0) + 0) + 0) + 0)).toNat = Nat.gcd (((1 * r 0 + 0) + 0)).natAbs (((1 * r 1 + 0) + 0)).natAbs ∧ (((1 * ((0 : Int) + 0) + 0) + 0) = 0 ∨ (((1 * (((-1) * r 1 + 0) + 0) + 0) + 0) < ((1 * (((-1) * r 0 + 0) + 0) + 0) + 0) ∧ (((1 * (((-1) * r 0 + 0) + 0) + 0) + 0)).toNat * (((1 * (((-1) * r 1 + 0) + 0) + 0) + 0)).toNat * 2 ^ (((1 * ((0 : Int) + 0) + 0) + 0) - 1).toNat < 2 ^ 126))
    try simp only [Int.one_mul, Int.zero_add, Int.add_zero]
    refine ⟨by omega, by omega, ?_, Or.inl (by first | rfl | trivial)⟩
    exact congr (congrArg Nat.gcd (by omega)) (by omega)
theorem xw_83_1_0 : yt_hold xT_83 xk_83 xq_83.2.2.1 xG_83 xP_83 xU_83 5 ((xq_83.2.2.1.getD 0 (0, ([], [], ([], []), [], [], ([], 0)), [], false)).2.1.2.2.1.2) (xG_83 0) (1000, ([((-4611686018427387904), 4611686018427387904), ((-4611686018427387904), 4611686018427387904), (0, 0), (0, 4611686018427387904), (128, 128), (0, 0)], []), [([], 1)], [], []) := by
  intro g0 r gi g hok hh hars hfr hG
  have b0 : (-4611686018427387904) ≤ r 0 ∧ r 0 ≤ 4611686018427387904 := hok.1 0 ((-4611686018427387904), 4611686018427387904) rfl
  have b1 : (-4611686018427387904) ≤ r 1 ∧ r 1 ≤ 4611686018427387904 := hok.1 1 ((-4611686018427387904), 4611686018427387904) rfl
  have b2 : 0 ≤ r 2 ∧ r 2 ≤ 0 := hok.1 2 (0, 0) rfl
  have b3 : 0 ≤ r 3 ∧ r 3 ≤ 4611686018427387904 := hok.1 3 (0, 4611686018427387904) rfl
  have b4 : 128 ≤ r 4 ∧ r 4 ≤ 128 := hok.1 4 (128, 128) rfl
  have b5 : 0 ≤ r 5 ∧ r 5 ≤ 0 := hok.1 5 (0, 0) rfl
  have hG : 0 ≤ ((1 * (r 2) + 0) + 0) ∧ 0 ≤ ((1 * (r 3) + 0) + 0) ∧ Nat.gcd (((1 * (r 2) + 0) + 0)).toNat (((1 * (r 3) + 0) + 0)).toNat = Nat.gcd ((r 0)).natAbs ((r 1)).natAbs ∧ (((1 * (r 4) + 0) + 0) = 0 ∨ (((1 * (r 3) + 0) + 0) < ((1 * (r 2) + 0) + 0) ∧ (((1 * (r 2) + 0) + 0)).toNat * (((1 * (r 3) + 0) + 0)).toNat * 2 ^ (((1 * (r 4) + 0) + 0) - 1).toNat < 2 ^ 126)) := hG
  have hh : g = gi := hh
  subst hh
  have hG : 0 ≤ ((1 * (r 2) + 0) + 0) ∧ 0 ≤ ((1 * (r 3) + 0) + 0) ∧ Nat.gcd (((1 * (r 2) + 0) + 0)).toNat (((1 * (r 3) + 0) + 0)).toNat = Nat.gcd ((r 0)).natAbs ((r 1)).natAbs ∧ (((1 * (r 4) + 0) + 0) = 0 ∨ (((1 * (r 3) + 0) + 0) < ((1 * (r 2) + 0) + 0) ∧ (((1 * (r 2) + 0) + 0)).toNat * (((1 * (r 3) + 0) + 0)).toNat * 2 ^ (((1 * (r 4) + 0) + 0) - 1).toNat < 2 ^ 126)) := hG
  refine yt_dalt (by decide) (by decide) ?_
  rw [show xk_83.2.1.2.1.1.length = 2 from rfl]
  show ((0 : Int) + 1) = ye_q ((1 * r 0 + 0) + 0) ((1 * r 1 + 0) + 0)
  try simp only [Int.one_mul, Int.zero_add, Int.add_zero]
  try simp only [Int.one_mul, Int.zero_add, Int.add_zero] at hG
  obtain ⟨a1, a2, a3, a4⟩ := hG
  have hb : r 3 = 0 := by
    first
      | omega
      | (have h8 : r 4 = 128 := by omega
         rcases a4 with q | ⟨q1, q2⟩
         · exfalso; omega
         · rw [show (r 4 - 1).toNat = 127 by omega] at q2
           have q3 := yy_e127 (by omega) q2
           omega)
  rw [hb, show (0 : Int).toNat = 0 from rfl, Nat.gcd_zero_right] at a3
  unfold ye_q yy_mx
  rw [← a3]
  split <;> omega
theorem xw_83_1_1 : yt_hold xT_83 xk_83 xq_83.2.2.1 xG_83 xP_83 xU_83 5 ((xq_83.2.2.1.getD 0 (0, ([], [], ([], []), [], [], ([], 0)), [], false)).2.1.2.2.1.2) (xG_83 0) (1000, ([((-4611686018427387904), 4611686018427387904), ((-4611686018427387904), 4611686018427387904), (1, 4611686018427387904), (0, 4611686018427387904), (128, 128), (0, 0)], []), [([(2, 1)], 0)], [], []) := by
  intro g0 r gi g hok hh hars hfr hG
  have b0 : (-4611686018427387904) ≤ r 0 ∧ r 0 ≤ 4611686018427387904 := hok.1 0 ((-4611686018427387904), 4611686018427387904) rfl
  have b1 : (-4611686018427387904) ≤ r 1 ∧ r 1 ≤ 4611686018427387904 := hok.1 1 ((-4611686018427387904), 4611686018427387904) rfl
  have b2 : 1 ≤ r 2 ∧ r 2 ≤ 4611686018427387904 := hok.1 2 (1, 4611686018427387904) rfl
  have b3 : 0 ≤ r 3 ∧ r 3 ≤ 4611686018427387904 := hok.1 3 (0, 4611686018427387904) rfl
  have b4 : 128 ≤ r 4 ∧ r 4 ≤ 128 := hok.1 4 (128, 128) rfl
  have b5 : 0 ≤ r 5 ∧ r 5 ≤ 0 := hok.1 5 (0, 0) rfl
  have hG : 0 ≤ ((1 * (r 2) + 0) + 0) ∧ 0 ≤ ((1 * (r 3) + 0) + 0) ∧ Nat.gcd (((1 * (r 2) + 0) + 0)).toNat (((1 * (r 3) + 0) + 0)).toNat = Nat.gcd ((r 0)).natAbs ((r 1)).natAbs ∧ (((1 * (r 4) + 0) + 0) = 0 ∨ (((1 * (r 3) + 0) + 0) < ((1 * (r 2) + 0) + 0) ∧ (((1 * (r 2) + 0) + 0)).toNat * (((1 * (r 3) + 0) + 0)).toNat * 2 ^ (((1 * (r 4) + 0) + 0) - 1).toNat < 2 ^ 126)) := hG
  have hh : g = gi := hh
  subst hh
  have hG : 0 ≤ ((1 * (r 2) + 0) + 0) ∧ 0 ≤ ((1 * (r 3) + 0) + 0) ∧ Nat.gcd (((1 * (r 2) + 0) + 0)).toNat (((1 * (r 3) + 0) + 0)).toNat = Nat.gcd ((r 0)).natAbs ((r 1)).natAbs ∧ (((1 * (r 4) + 0) + 0) = 0 ∨ (((1 * (r 3) + 0) + 0) < ((1 * (r 2) + 0) + 0) ∧ (((1 * (r 2) + 0) + 0)).toNat * (((1 * (r 3) + 0) + 0)).toNat * 2 ^ (((1 * (r 4) + 0) + 0) - 1).toNat < 2 ^ 126)) := hG
  refine yt_dalt (by decide) (by decide) ?_
  rw [show xk_83.2.1.2.1.1.length = 2 from rfl]
  show ((1 * r 2 + 0) + 0) = ye_q ((1 * r 0 + 0) + 0) ((1 * r 1 + 0) + 0)
  try simp only [Int.one_mul, Int.zero_add, Int.add_zero]
  try simp only [Int.one_mul, Int.zero_add, Int.add_zero] at hG
  obtain ⟨a1, a2, a3, a4⟩ := hG
  have hb : r 3 = 0 := by
    first
      | omega
      | (have h8 : r 4 = 128 := by omega
         rcases a4 with q | ⟨q1, q2⟩
         · exfalso; omega
         · rw [show (r 4 - 1).toNat = 127 by omega] at q2
           have q3 := yy_e127 (by omega) q2
           omega)
  rw [hb, show (0 : Int).toNat = 0 from rfl, Nat.gcd_zero_right] at a3
  unfold ye_q yy_mx
  rw [← a3]
  split <;> omega
theorem xw_83_1_2 : yt_hold xT_83 xk_83 xq_83.2.2.1 xG_83 xP_83 xU_83 5 ((xq_83.2.2.1.getD 0 (0, ([], [], ([], []), [], [], ([], 0)), [], false)).2.1.2.2.1.2) (xG_83 0) (1000, ([((-4611686018427387904), 4611686018427387904), ((-4611686018427387904), 4611686018427387904), (0, 0), (0, 0), (0, 127), (0, 0)], []), [([], 1)], [], []) := by
  intro g0 r gi g hok hh hars hfr hG
  have b0 : (-4611686018427387904) ≤ r 0 ∧ r 0 ≤ 4611686018427387904 := hok.1 0 ((-4611686018427387904), 4611686018427387904) rfl
  have b1 : (-4611686018427387904) ≤ r 1 ∧ r 1 ≤ 4611686018427387904 := hok.1 1 ((-4611686018427387904), 4611686018427387904) rfl
  have b2 : 0 ≤ r 2 ∧ r 2 ≤ 0 := hok.1 2 (0, 0) rfl
  have b3 : 0 ≤ r 3 ∧ r 3 ≤ 0 := hok.1 3 (0, 0) rfl
  have b4 : 0 ≤ r 4 ∧ r 4 ≤ 127 := hok.1 4 (0, 127) rfl
  have b5 : 0 ≤ r 5 ∧ r 5 ≤ 0 := hok.1 5 (0, 0) rfl
  have hG : 0 ≤ ((1 * (r 2) + 0) + 0) ∧ 0 ≤ ((1 * (r 3) + 0) + 0) ∧ Nat.gcd (((1 * (r 2) + 0) + 0)).toNat (((1 * (r 3) + 0) + 0)).toNat = Nat.gcd ((r 0)).natAbs ((r 1)).natAbs ∧ (((1 * (r 4) + 0) + 0) = 0 ∨ (((1 * (r 3) + 0) + 0) < ((1 * (r 2) + 0) + 0) ∧ (((1 * (r 2) + 0) + 0)).toNat * (((1 * (r 3) + 0) + 0)).toNat * 2 ^ (((1 * (r 4) + 0) + 0) - 1).toNat < 2 ^ 126)) := hG
  have hh : g = gi := hh
  subst hh
  have hG : 0 ≤ ((1 * (r 2) + 0) + 0) ∧ 0 ≤ ((1 * (r 3) + 0) + 0) ∧ Nat.gcd (((1 * (r 2) + 0) + 0)).toNat (((1 * (r 3) + 0) + 0)).toNat = Nat.gcd ((r 0)).natAbs ((r 1)).natAbs ∧ (((1 * (r 4) + 0) + 0) = 0 ∨ (((1 * (r 3) + 0) + 0) < ((1 * (r 2) + 0) + 0) ∧ (((1 * (r 2) + 0) + 0)).toNat * (((1 * (r 3) + 0) + 0)).toNat * 2 ^ (((1 * (r 4) + 0) + 0) - 1).toNat < 2 ^ 126)) := hG
  refine yt_dalt (by decide) (by decide) ?_
  rw [show xk_83.2.1.2.1.1.length = 2 from rfl]
  show ((0 : Int) + 1) = ye_q ((1 * r 0 + 0) + 0) ((1 * r 1 + 0) + 0)
  try simp only [Int.one_mul, Int.zero_add, Int.add_zero]
  try simp only [Int.one_mul, Int.zero_add, Int.add_zero] at hG
  obtain ⟨a1, a2, a3, a4⟩ := hG
  have hb : r 3 = 0 := by
    first
      | omega
      | (have h8 : r 4 = 128 := by omega
         rcases a4 with q | ⟨q1, q2⟩
         · exfalso; omega
         · rw [show (r 4 - 1).toNat = 127 by omega] at q2
           have q3 := yy_e127 (by omega) q2
           omega)
  rw [hb, show (0 : Int).toNat = 0 from rfl, Nat.gcd_zero_right] at a3
  unfold ye_q yy_mx
  rw [← a3]
  split <;> omega
theorem xw_83_1_3 : yt_hold xT_83 xk_83 xq_83.2.2.1 xG_83 xP_83 xU_83 5 ((xq_83.2.2.1.getD 0 (0, ([], [], ([], []), [], [], ([], 0)), [], false)).2.1.2.2.1.2) (xG_83 0) (1000, ([((-4611686018427387904), 4611686018427387904), ((-4611686018427387904), 4611686018427387904), (1, 4611686018427387904), (0, 0), (0, 127), (0, 0)], []), [([(2, 1)], 0)], [], []) := by
  intro g0 r gi g hok hh hars hfr hG
  have b0 : (-4611686018427387904) ≤ r 0 ∧ r 0 ≤ 4611686018427387904 := hok.1 0 ((-4611686018427387904), 4611686018427387904) rfl
  have b1 : (-4611686018427387904) ≤ r 1 ∧ r 1 ≤ 4611686018427387904 := hok.1 1 ((-4611686018427387904), 4611686018427387904) rfl
  have b2 : 1 ≤ r 2 ∧ r 2 ≤ 4611686018427387904 := hok.1 2 (1, 4611686018427387904) rfl
  have b3 : 0 ≤ r 3 ∧ r 3 ≤ 0 := hok.1 3 (0, 0) rfl
  have b4 : 0 ≤ r 4 ∧ r 4 ≤ 127 := hok.1 4 (0, 127) rfl
  have b5 : 0 ≤ r 5 ∧ r 5 ≤ 0 := hok.1 5 (0, 0) rfl
  have hG : 0 ≤ ((1 * (r 2) + 0) + 0) ∧ 0 ≤ ((1 * (r 3) + 0) + 0) ∧ Nat.gcd (((1 * (r 2) + 0) + 0)).toNat (((1 * (r 3) + 0) + 0)).toNat = Nat.gcd ((r 0)).natAbs ((r 1)).natAbs ∧ (((1 * (r 4) + 0) + 0) = 0 ∨ (((1 * (r 3) + 0) + 0) < ((1 * (r 2) + 0) + 0) ∧ (((1 * (r 2) + 0) + 0)).toNat * (((1 * (r 3) + 0) + 0)).toNat * 2 ^ (((1 * (r 4) + 0) + 0) - 1).toNat < 2 ^ 126)) := hG
  have hh : g = gi := hh
  subst hh
  have hG : 0 ≤ ((1 * (r 2) + 0) + 0) ∧ 0 ≤ ((1 * (r 3) + 0) + 0) ∧ Nat.gcd (((1 * (r 2) + 0) + 0)).toNat (((1 * (r 3) + 0) + 0)).toNat = Nat.gcd ((r 0)).natAbs ((r 1)).natAbs ∧ (((1 * (r 4) + 0) + 0) = 0 ∨ (((1 * (r 3) + 0) + 0) < ((1 * (r 2) + 0) + 0) ∧ (((1 * (r 2) + 0) + 0)).toNat * (((1 * (r 3) + 0) + 0)).toNat * 2 ^ (((1 * (r 4) + 0) + 0) - 1).toNat < 2 ^ 126)) := hG
  refine yt_dalt (by decide) (by decide) ?_
  rw [show xk_83.2.1.2.1.1.length = 2 from rfl]
  show ((1 * r 2 + 0) + 0) = ye_q ((1 * r 0 + 0) + 0) ((1 * r 1 + 0) + 0)
  try simp only [Int.one_mul, Int.zero_add, Int.add_zero]
  try simp only [Int.one_mul, Int.zero_add, Int.add_zero] at hG
  obtain ⟨a1, a2, a3, a4⟩ := hG
  have hb : r 3 = 0 := by
    first
      | omega
      | (have h8 : r 4 = 128 := by omega
         rcases a4 with q | ⟨q1, q2⟩
         · exfalso; omega
         · rw [show (r 4 - 1).toNat = 127 by omega] at q2
           have q3 := yy_e127 (by omega) q2
           omega)
  rw [hb, show (0 : Int).toNat = 0 from rfl, Nat.gcd_zero_right] at a3
  unfold ye_q yy_mx
  rw [← a3]
  split <;> omega
theorem xw_83_1_4 : yt_hold xT_83 xk_83 xq_83.2.2.1 xG_83 xP_83 xU_83 5 ((xq_83.2.2.1.getD 0 (0, ([], [], ([], []), [], [], ([], 0)), [], false)).2.1.2.2.1.2) (xG_83 0) (0, ([((-4611686018427387904), 4611686018427387904), ((-4611686018427387904), 4611686018427387904), (0, 4611686018427387903), (1, 4611686018427387904), (0, 127), (0, 0)], [([(3, 1), (2, (-1))], (-1))]), [([(3, 1)], 0), ([(2, 1)], 0), ([(4, 1)], 1)], [], [.inr (.inr (.inl (998, 16, [([(2, 1)], 0), ([(3, 1)], 0), ([(2, 1)], 0)], [], [])))]) := by
  intro g0 r gi g hok hh hars hfr hG
  have b0 : (-4611686018427387904) ≤ r 0 ∧ r 0 ≤ 4611686018427387904 := hok.1 0 ((-4611686018427387904), 4611686018427387904) rfl
  have b1 : (-4611686018427387904) ≤ r 1 ∧ r 1 ≤ 4611686018427387904 := hok.1 1 ((-4611686018427387904), 4611686018427387904) rfl
  have b2 : 0 ≤ r 2 ∧ r 2 ≤ 4611686018427387903 := hok.1 2 (0, 4611686018427387903) rfl
  have b3 : 1 ≤ r 3 ∧ r 3 ≤ 4611686018427387904 := hok.1 3 (1, 4611686018427387904) rfl
  have b4 : 0 ≤ r 4 ∧ r 4 ≤ 127 := hok.1 4 (0, 127) rfl
  have b5 : 0 ≤ r 5 ∧ r 5 ≤ 0 := hok.1 5 (0, 0) rfl
  have f0 : 0 ≤ ((1 * r 3 + ((-1) * r 2 + 0)) + (-1)) := hok.2 _ (List.mem_of_getElem? (i := 0) rfl)
  have hG : 0 ≤ ((1 * (r 2) + 0) + 0) ∧ 0 ≤ ((1 * (r 3) + 0) + 0) ∧ Nat.gcd (((1 * (r 2) + 0) + 0)).toNat (((1 * (r 3) + 0) + 0)).toNat = Nat.gcd ((r 0)).natAbs ((r 1)).natAbs ∧ (((1 * (r 4) + 0) + 0) = 0 ∨ (((1 * (r 3) + 0) + 0) < ((1 * (r 2) + 0) + 0) ∧ (((1 * (r 2) + 0) + 0)).toNat * (((1 * (r 3) + 0) + 0)).toNat * 2 ^ (((1 * (r 4) + 0) + 0) - 1).toNat < 2 ^ 126)) := hG
  obtain ⟨h0, hh, e0, k0⟩ := hh
  have k0 : ∀ j, j ∉ [] → g j = h0 j := k0
  have e0 : ((1 * r 2 + 0) + 0) = (((1 * r 2 + 0) + 0)).tmod (((1 * r 3 + 0) + 0)) := e0
  have hh : h0 = gi := hh
  subst hh
  have hG : 0 ≤ ((1 * (r 2) + 0) + 0) ∧ 0 ≤ ((1 * (r 3) + 0) + 0) ∧ Nat.gcd (((1 * (r 2) + 0) + 0)).toNat (((1 * (r 3) + 0) + 0)).toNat = Nat.gcd ((r 0)).natAbs ((r 1)).natAbs ∧ (((1 * (r 4) + 0) + 0) = 0 ∨ (((1 * (r 3) + 0) + 0) < ((1 * (r 2) + 0) + 0) ∧ (((1 * (r 2) + 0) + 0)).toNat * (((1 * (r 3) + 0) + 0)).toNat * 2 ^ (((1 * (r 4) + 0) + 0) - 1).toNat < 2 ^ 126)) := hG
  refine yt_dcut (by decide) rfl ?_ ?_
  · exact fun f hf => absurd hf List.not_mem_nil
  · rw [show xk_83.2.1.2.1.1.length = 2 from rfl]
    show 0 ≤ ((1 * ((1 * r 3 + 0) + 0) + 0) + 0) ∧ 0 ≤ ((1 * ((1 * r 2 + 0) + 0) + 0) + 0) ∧ Nat.gcd (((1 * ((1 * r 3 + 0) + 0) + 0) + 0)).toNat (((1 * ((1 * r 2 + 0) + 0) + 0) + 0)).toNat = Nat.gcd (((1 * r 0 + 0) + 0)).natAbs (((1 * r 1 + 0) + 0)).natAbs ∧ (((1 * ((1 * r 4 + 0) + 1) + 0) + 0) = 0 ∨ (((1 * ((1 * r 2 + 0) + 0) + 0) + 0) < ((1 * ((1 * r 3 + 0) + 0) + 0) + 0) ∧ (((1 * ((1 * r 3 + 0) + 0) + 0) + 0)).toNat * (((1 * ((1 * r 2 + 0) + 0) + 0) + 0)).toNat * 2 ^ (((1 * ((1 * r 4 + 0) + 1) + 0) + 0) - 1).toNat < 2 ^ 126))
    try simp only [Int.one_mul, Int.zero_add, Int.add_zero]
    try simp only [Int.one_mul, Int.zero_add, Int.add_zero] at hG
    obtain ⟨a1, a2, a3, a4⟩ := hG
    try simp only [Int.one_mul, Int.zero_add, Int.add_zero] at e0
    first
      | (exfalso; omega)
      | (have em : r 2 = (((r 2).toNat % (r 3).toNat : Nat) : Int) := e0.trans (yy_tm a1 a2)
         have em2 : (r 2).toNat = (r 2).toNat % (r 3).toNat := by omega
         have hl : (r 2).toNat % (r 3).toNat < (r 3).toNat := Nat.mod_lt _ (by omega)
         refine ⟨a2, by omega, ?_, Or.inr ⟨by omega, ?_⟩⟩
         · rw [em2, yy_gs]
           exact a3
         · rw [em2]
           by_cases qn : r 4 = 0
           · rw [show (r 4 + 1 - 1).toNat = 0 by omega]
             exact yy_e0 (by omega) (by omega)
           · rcases a4 with q | ⟨q1, q2⟩
             · exact absurd q qn
             · rw [show (r 4 + 1 - 1).toNat = (r 4 - 1).toNat + 1 by omega]
               exact yy_eu (by omega) (by omega) q2)
theorem xw_83_1_5 : yt_hold xT_83 xk_83 xq_83.2.2.1 xG_83 xP_83 xU_83 5 ((xq_83.2.2.1.getD 0 (0, ([], [], ([], []), [], [], ([], 0)), [], false)).2.1.2.2.1.2) (xG_83 0) (0, ([((-4611686018427387904), 4611686018427387904), ((-4611686018427387904), 4611686018427387904), (1, 4611686018427387904), (1, 4611686018427387904), (0, 127), (0, 4611686018427387903)], [([(5, (-1)), (2, 1), (3, (-1))], 0), ([(3, 1), (5, (-1))], (-1)), ([(3, (-1)), (2, 1)], 0)]), [([(3, 1)], 0), ([(5, 1)], 0), ([(4, 1)], 1)], [], [.inr (.inr (.inl (998, 16, [([(2, 1)], 0), ([(3, 1)], 0), ([(5, 1)], 0)], [], [])))]) := by
  intro g0 r gi g hok hh hars hfr hG
  have b0 : (-4611686018427387904) ≤ r 0 ∧ r 0 ≤ 4611686018427387904 := hok.1 0 ((-4611686018427387904), 4611686018427387904) rfl
  have b1 : (-4611686018427387904) ≤ r 1 ∧ r 1 ≤ 4611686018427387904 := hok.1 1 ((-4611686018427387904), 4611686018427387904) rfl
  have b2 : 1 ≤ r 2 ∧ r 2 ≤ 4611686018427387904 := hok.1 2 (1, 4611686018427387904) rfl
  have b3 : 1 ≤ r 3 ∧ r 3 ≤ 4611686018427387904 := hok.1 3 (1, 4611686018427387904) rfl
  have b4 : 0 ≤ r 4 ∧ r 4 ≤ 127 := hok.1 4 (0, 127) rfl
  have b5 : 0 ≤ r 5 ∧ r 5 ≤ 4611686018427387903 := hok.1 5 (0, 4611686018427387903) rfl
  have f0 : 0 ≤ (((-1) * r 5 + (1 * r 2 + ((-1) * r 3 + 0))) + 0) := hok.2 _ (List.mem_of_getElem? (i := 0) rfl)
  have f1 : 0 ≤ ((1 * r 3 + ((-1) * r 5 + 0)) + (-1)) := hok.2 _ (List.mem_of_getElem? (i := 1) rfl)
  have f2 : 0 ≤ (((-1) * r 3 + (1 * r 2 + 0)) + 0) := hok.2 _ (List.mem_of_getElem? (i := 2) rfl)
  have hG : 0 ≤ ((1 * (r 2) + 0) + 0) ∧ 0 ≤ ((1 * (r 3) + 0) + 0) ∧ Nat.gcd (((1 * (r 2) + 0) + 0)).toNat (((1 * (r 3) + 0) + 0)).toNat = Nat.gcd ((r 0)).natAbs ((r 1)).natAbs ∧ (((1 * (r 4) + 0) + 0) = 0 ∨ (((1 * (r 3) + 0) + 0) < ((1 * (r 2) + 0) + 0) ∧ (((1 * (r 2) + 0) + 0)).toNat * (((1 * (r 3) + 0) + 0)).toNat * 2 ^ (((1 * (r 4) + 0) + 0) - 1).toNat < 2 ^ 126)) := hG
  obtain ⟨h0, hh, e0, k0⟩ := hh
  have k0 : ∀ j, j ∉ [] → g j = h0 j := k0
  have e0 : ((1 * r 5 + 0) + 0) = (((1 * r 2 + 0) + 0)).tmod (((1 * r 3 + 0) + 0)) := e0
  have hh : h0 = gi := hh
  subst hh
  have hG : 0 ≤ ((1 * (r 2) + 0) + 0) ∧ 0 ≤ ((1 * (r 3) + 0) + 0) ∧ Nat.gcd (((1 * (r 2) + 0) + 0)).toNat (((1 * (r 3) + 0) + 0)).toNat = Nat.gcd ((r 0)).natAbs ((r 1)).natAbs ∧ (((1 * (r 4) + 0) + 0) = 0 ∨ (((1 * (r 3) + 0) + 0) < ((1 * (r 2) + 0) + 0) ∧ (((1 * (r 2) + 0) + 0)).toNat * (((1 * (r 3) + 0) + 0)).toNat * 2 ^ (((1 * (r 4) + 0) + 0) - 1).toNat < 2 ^ 126)) := hG
  refine yt_dcut (by decide) rfl ?_ ?_
  · exact fun f hf => absurd hf List.not_mem_nil
  · rw [show xk_83.2.1.2.1.1.length = 2 from rfl]
    show 0 ≤ ((1 * ((1 * r 3 + 0) + 0) + 0) + 0) ∧ 0 ≤ ((1 * ((1 * r 5 + 0) + 0) + 0) + 0) ∧ Nat.gcd (((1 * ((1 * r 3 + 0) + 0) + 0) + 0)).toNat (((1 * ((1 * r 5 + 0) + 0) + 0) + 0)).toNat = Nat.gcd (((1 * r 0 + 0) + 0)).natAbs (((1 * r 1 + 0) + 0)).natAbs ∧ (((1 * ((1 * r 4 + 0) + 1) + 0) + 0) = 0 ∨ (((1 * ((1 * r 5 + 0) + 0) + 0) + 0) < ((1 * ((1 * r 3 + 0) + 0) + 0) + 0) ∧ (((1 * ((1 * r 3 + 0) + 0) + 0) + 0)).toNat * (((1 * ((1 * r 5 + 0) + 0) + 0) + 0)).toNat * 2 ^ (((1 * ((1 * r 4 + 0) + 1) + 0) + 0) - 1).toNat < 2 ^ 126))
    try simp only [Int.one_mul, Int.zero_add, Int.add_zero]
    try simp only [Int.one_mul, Int.zero_add, Int.add_zero] at hG
    obtain ⟨a1, a2, a3, a4⟩ := hG
    try simp only [Int.one_mul, Int.zero_add, Int.add_zero] at e0
    first
      | (exfalso; omega)
      | (have em : r 5 = (((r 2).toNat % (r 3).toNat : Nat) : Int) := e0.trans (yy_tm a1 a2)
         have em2 : (r 5).toNat = (r 2).toNat % (r 3).toNat := by omega
         have hl : (r 2).toNat % (r 3).toNat < (r 3).toNat := Nat.mod_lt _ (by omega)
         refine ⟨a2, by omega, ?_, Or.inr ⟨by omega, ?_⟩⟩
         · rw [em2, yy_gs]
           exact a3
         · rw [em2]
           by_cases qn : r 4 = 0
           · rw [show (r 4 + 1 - 1).toNat = 0 by omega]
             exact yy_e0 (by omega) (by omega)
           · rcases a4 with q | ⟨q1, q2⟩
             · exact absurd q qn
             · rw [show (r 4 + 1 - 1).toNat = (r 4 - 1).toNat + 1 by omega]
               exact yy_eu (by omega) (by omega) q2)
theorem xn_83 : ∀ (j : Nat) (q : Nat × yt_T), xq_83.2.2.1[j]? = some q → q.2.2.2 = false → ∀ g0 r g, xG_83 j g0 r g
  | 0, q, hq, hf => by cases hq; cases hf
  | n + 1, q, hq, _ => by cases hq
theorem xs_83 : ∀ j, xq_83.2.2.2.getD j false = false → ∀ r g g', xP_83 j r g g'
  | 0, hf => by cases hf
  | n + 1, _ => fun _ _ _ => trivial
theorem xc_83 {l : Launch} {D : va_G} {cT : Nat → ClassId} {tys : List (ClassId × FieldType)} (hty : yx_Ty tys cT) : yt_Con l D vwCl cT tys yG yw_s2 xk_83 xR_83 xP_83 := yx_sem (calls := xa_83) (Z := xq_83) (tb := xT_83) (pt := xU_83) (Ga := xG_83) (vs := xv_83) (fun _ _ _ h => h) 300 (by decide +kernel) yz_X1_common_ok hty (yl_lkX1 _) (yl_cqkX1 _) (fun _ h => absurd h List.not_mem_nil) (xn_83) (xs_83) (by decide +kernel) (List.forall_mem_cons.mpr ⟨xw_83_0_0, List.forall_mem_cons.mpr ⟨xw_83_0_1, List.forall_mem_cons.mpr ⟨xw_83_0_2, List.forall_mem_cons.mpr ⟨xw_83_0_3, fun _ h => absurd h List.not_mem_nil⟩⟩⟩⟩) (⟨List.forall_mem_cons.mpr ⟨xw_83_1_0, List.forall_mem_cons.mpr ⟨xw_83_1_1, List.forall_mem_cons.mpr ⟨xw_83_1_2, List.forall_mem_cons.mpr ⟨xw_83_1_3, List.forall_mem_cons.mpr ⟨xw_83_1_4, List.forall_mem_cons.mpr ⟨xw_83_1_5, fun _ h => absurd h List.not_mem_nil⟩⟩⟩⟩⟩⟩, trivial⟩)
noncomputable def yw_s50 : List ys_C := [.inl 1]
noncomputable def yw_f50 (n : Nat) : List (List ys_V) := [[.inl (.inr ([(n + 0, 1)], 0)), .inl (.inr ([(n + 1, 1)], 0))]]
noncomputable def yw_e50 : ys_E := [((-9223372036854775808), 9223372036854775807), ((-9223372036854775808), 9223372036854775807)]
noncomputable def yw_r50 : List ys_R := [((0, 0), [])]
noncomputable def xf_84 : ys_F := (yw_f50 2, yw_r50)
noncomputable def xk_84 : ys_K := (((yX1_become, cX1_become, 7, none), (2, 45)), ([.inr (some 0), .inl (.inr ([(0, 1)], 0)), .inl (.inr ([(1, 1)], 0))], ([((-4611686018427387904), 4611686018427387904), ((-4611686018427387904), 4611686018427387904)] ++ yw_e50, []), xf_84), ([([((-9223372036854775808), 9223372036854775807), ((-9223372036854775808), 9223372036854775807)], [], ((ys_fs xf_84.1 [(0, 0, .inl (.inr ([(4, 1)], 0))), (0, 1, .inl (.inr ([(5, 1)], 0)))]), xf_84.2), none)], []))
noncomputable def xq_84 : yt_Q := (yz_X1_become, (yl_flX1, yl_ciX1, yl_cjX1, yl_cpX1, yl_cqX1), [], [true])
noncomputable def xa_84 : List yt_CE := [(((16, true), (312, false, [])), (yw_s2, xk_83))]
noncomputable def xv_84 : List (List yt_VC) := [[(1000, ([(0, 4611686018427387903), (0, 4611686018427387903), ((-9223372036854775808), 9223372036854775807), ((-9223372036854775808), 9223372036854775807), (1, 4611686018427387904), (0, 0), (0, 0)], [([(4, 1), (1, (-1))], (-1)), ([(4, 1), (0, (-1))], (-1))]), [([], 0), ([], 0)], [], [.inr (.inr (.inl (998, 1, [([(1, 1)], 0), ([(4, 1)], 0), ([], 0)], [], []))), .inr (.inr (.inl (998, 1, [([(0, 1)], 0), ([(4, 1)], 0), ([], 0)], [], []))), .inr (.inr (.inl (312, 0, [([(0, 1)], 0), ([(1, 1)], 0), ([(4, 1)], 0)], [], [])))]),
   (1000, ([(0, 4611686018427387903), (1, 4611686018427387904), ((-9223372036854775808), 9223372036854775807), ((-9223372036854775808), 9223372036854775807), (1, 4611686018427387904), (0, 0), (1, 4611686018427387904)], [([(6, (-1)), (1, 1)], 0), ([(4, (-1)), (1, 1)], 0), ([(4, 1), (0, (-1))], (-1))]), [([], 0), ([(6, 1)], 0)], [], [.inr (.inr (.inl (998, 1, [([(1, 1)], 0), ([(4, 1)], 0), ([(6, 1)], 0)], [], []))), .inr (.inr (.inl (998, 1, [([(0, 1)], 0), ([(4, 1)], 0), ([], 0)], [], []))), .inr (.inr (.inl (312, 0, [([(0, 1)], 0), ([(1, 1)], 0), ([(4, 1)], 0)], [], [])))]),
   (1000, ([(1, 4611686018427387904), (0, 4611686018427387903), ((-9223372036854775808), 9223372036854775807), ((-9223372036854775808), 9223372036854775807), (1, 4611686018427387904), (1, 4611686018427387904), (0, 0)], [([(4, 1), (1, (-1))], (-1)), ([(5, (-1)), (0, 1)], 0), ([(4, (-1)), (0, 1)], 0)]), [([(5, 1)], 0), ([], 0)], [], [.inr (.inr (.inl (998, 1, [([(1, 1)], 0), ([(4, 1)], 0), ([], 0)], [], []))), .inr (.inr (.inl (998, 1, [([(0, 1)], 0), ([(4, 1)], 0), ([(5, 1)], 0)], [], []))), .inr (.inr (.inl (312, 0, [([(0, 1)], 0), ([(1, 1)], 0), ([(4, 1)], 0)], [], [])))]),
   (1000, ([(1, 4611686018427387904), (1, 4611686018427387904), ((-9223372036854775808), 9223372036854775807), ((-9223372036854775808), 9223372036854775807), (1, 4611686018427387904), (1, 4611686018427387904), (1, 4611686018427387904)], [([(6, (-1)), (1, 1)], 0), ([(4, (-1)), (1, 1)], 0), ([(5, (-1)), (0, 1)], 0), ([(4, (-1)), (0, 1)], 0)]), [([(5, 1)], 0), ([(6, 1)], 0)], [], [.inr (.inr (.inl (998, 1, [([(1, 1)], 0), ([(4, 1)], 0), ([(6, 1)], 0)], [], []))), .inr (.inr (.inl (998, 1, [([(0, 1)], 0), ([(4, 1)], 0), ([(5, 1)], 0)], [], []))), .inr (.inr (.inl (312, 0, [([(0, 1)], 0), ([(1, 1)], 0), ([(4, 1)], 0)], [], [])))]),
   (1000, ([((-4611686018427387904), (-1)), (0, 4611686018427387903), ((-9223372036854775808), 9223372036854775807), ((-9223372036854775808), 9223372036854775807), (1, 4611686018427387904), ((-4611686018427387904), 0), (0, 0)], [([(4, 1), (1, (-1))], (-1)), ([(0, (-1)), (5, 1)], 0)]), [([(5, 1)], 0), ([], 0)], [], [.inr (.inr (.inl (998, 1, [([(1, 1)], 0), ([(4, 1)], 0), ([], 0)], [], []))), .inr (.inr (.inl (998, 1, [([(0, 1)], 0), ([(4, 1)], 0), ([(5, 1)], 0)], [], []))), .inr (.inr (.inl (312, 0, [([(0, 1)], 0), ([(1, 1)], 0), ([(4, 1)], 0)], [], [])))]),
   (1000, ([((-4611686018427387904), (-1)), (1, 4611686018427387904), ((-9223372036854775808), 9223372036854775807), ((-9223372036854775808), 9223372036854775807), (1, 4611686018427387904), ((-4611686018427387904), 0), (1, 4611686018427387904)], [([(6, (-1)), (1, 1)], 0), ([(4, (-1)), (1, 1)], 0), ([(0, (-1)), (5, 1)], 0)]), [([(5, 1)], 0), ([(6, 1)], 0)], [], [.inr (.inr (.inl (998, 1, [([(1, 1)], 0), ([(4, 1)], 0), ([(6, 1)], 0)], [], []))), .inr (.inr (.inl (998, 1, [([(0, 1)], 0), ([(4, 1)], 0), ([(5, 1)], 0)], [], []))), .inr (.inr (.inl (312, 0, [([(0, 1)], 0), ([(1, 1)], 0), ([(4, 1)], 0)], [], [])))]),
   (1000, ([((-4611686018427387904), 4611686018427387904), ((-4611686018427387904), (-1)), ((-9223372036854775808), 9223372036854775807), ((-9223372036854775808), 9223372036854775807), (1, 4611686018427387904), ((-9223372036854775808), 9223372036854775807), ((-9223372036854775808), 9223372036854775807)], []), [([(5, 1)], 0), ([(6, 1)], 0)], [], [.inr (.inr (.inl (312, 0, [([(0, 1)], 0), ([(1, 1)], 0), ([(4, 1)], 0)], [], [])))])]]
noncomputable def xG_84 : Nat → yt_G → (Nat → Int) → yt_G → Prop
  | _, _, _, _ => True
noncomputable def xP_84 : yt_Ph
  | 0, r, g0, g => 0 ≤ (r 1) → ((1 * (r 4) + 0) + 0) = ((r 0)).tdiv (ye_q (r 0) (r 1)) ∧ ((1 * (r 5) + 0) + 0) = ((r 1)).tdiv (ye_q (r 0) (r 1))
  | _, _, _, _ => True
noncomputable def xR_84 : yt_Ps := fun r g0 => True
noncomputable def xT_84 : yt_Tb := fun d => match d with
  | 312 => xP_83
  | 998 => fun i r _ _ => yt_hwp i r
  | _ => fun _ _ _ _ => True
noncomputable def xU_84 : Nat → yt_Ps := fun d => match d with
  | 312 => xR_83
  | _ => fun _ _ => True
theorem xw_84_0_0 : yt_hold xT_84 xk_84 xq_84.2.2.1 xG_84 xP_84 xU_84 4 xk_84.2.1.2.2.2 (fun g0 r g => xR_84 r g0 ∧ g = g0) (1000, ([(0, 4611686018427387903), (0, 4611686018427387903), ((-9223372036854775808), 9223372036854775807), ((-9223372036854775808), 9223372036854775807), (1, 4611686018427387904), (0, 0), (0, 0)], [([(4, 1), (1, (-1))], (-1)), ([(4, 1), (0, (-1))], (-1))]), [([], 0), ([], 0)], [], [.inr (.inr (.inl (998, 1, [([(1, 1)], 0), ([(4, 1)], 0), ([], 0)], [], []))), .inr (.inr (.inl (998, 1, [([(0, 1)], 0), ([(4, 1)], 0), ([], 0)], [], []))), .inr (.inr (.inl (312, 0, [([(0, 1)], 0), ([(1, 1)], 0), ([(4, 1)], 0)], [], [])))]) := by
  intro g0 r gi g hok hh hars hfr hG
  have b0 : 0 ≤ r 0 ∧ r 0 ≤ 4611686018427387903 := hok.1 0 (0, 4611686018427387903) rfl
  have b1 : 0 ≤ r 1 ∧ r 1 ≤ 4611686018427387903 := hok.1 1 (0, 4611686018427387903) rfl
  have b4 : 1 ≤ r 4 ∧ r 4 ≤ 4611686018427387904 := hok.1 4 (1, 4611686018427387904) rfl
  have b5 : 0 ≤ r 5 ∧ r 5 ≤ 0 := hok.1 5 (0, 0) rfl
  have b6 : 0 ≤ r 6 ∧ r 6 ≤ 0 := hok.1 6 (0, 0) rfl
  have f0 : 0 ≤ ((1 * r 4 + ((-1) * r 1 + 0)) + (-1)) := hok.2 _ (List.mem_of_getElem? (i := 0) rfl)
  have f1 : 0 ≤ ((1 * r 4 + ((-1) * r 0 + 0)) + (-1)) := hok.2 _ (List.mem_of_getElem? (i := 1) rfl)
  obtain ⟨hG, hgi⟩ := hG
  have hG : True := hG
  obtain ⟨h0, hh, e0, k0⟩ := hh
  have k0 : ∀ j, j ∉ [] → g j = h0 j := k0
  have e0 : ((0 : Int) + 0) = (((1 * r 1 + 0) + 0)).tdiv (((1 * r 4 + 0) + 0)) := e0
  obtain ⟨h1, hh, e1, k1⟩ := hh
  have k1 : ∀ j, j ∉ [] → h0 j = h1 j := k1
  have e1 : ((0 : Int) + 0) = (((1 * r 0 + 0) + 0)).tdiv (((1 * r 4 + 0) + 0)) := e1
  obtain ⟨h2, hh, e2, k2⟩ := hh
  have k2 : ∀ j, j ∉ [] → h1 j = h2 j := k2
  have e2 : ((1 * r 4 + 0) + 0) = ye_q ((1 * r 0 + 0) + 0) ((1 * r 1 + 0) + 0) := e2
  have hh : h2 = gi := hh
  subst hh
  refine yt_dalt (by decide) (by decide) ?_
  rw [show xk_84.2.1.2.1.1.length = 4 from rfl]
  show 0 ≤ ((1 * r 1 + 0) + 0) → ((1 * ((0 : Int) + 0) + 0) + 0) = (((1 * r 0 + 0) + 0)).tdiv (ye_q ((1 * r 0 + 0) + 0) ((1 * r 1 + 0) + 0)) ∧ ((1 * ((0 : Int) + 0) + 0) + 0) = (((1 * r 1 + 0) + 0)).tdiv (ye_q ((1 * r 0 + 0) + 0) ((1 * r 1 + 0) + 0))
  try simp only [Int.one_mul, Int.zero_add, Int.add_zero]
  try simp only [Int.one_mul, Int.zero_add, Int.add_zero] at e2 e0 e1
  intro _
  rw [← e2]
  exact ⟨e1, e0⟩
theorem xw_84_0_1 : yt_hold xT_84 xk_84 xq_84.2.2.1 xG_84 xP_84 xU_84 4 xk_84.2.1.2.2.2 (fun g0 r g => xR_84 r g0 ∧ g = g0) (1000, ([(0, 4611686018427387903), (1, 4611686018427387904), ((-9223372036854775808), 9223372036854775807), ((-9223372036854775808), 9223372036854775807), (1, 4611686018427387904), (0, 0), (1, 4611686018427387904)], [([(6, (-1)), (1, 1)], 0), ([(4, (-1)), (1, 1)], 0), ([(4, 1), (0, (-1))], (-1))]), [([], 0), ([(6, 1)], 0)], [], [.inr (.inr (.inl (998, 1, [([(1, 1)], 0), ([(4, 1)], 0), ([(6, 1)], 0)], [], []))), .inr (.inr (.inl (998, 1, [([(0, 1)], 0), ([(4, 1)], 0), ([], 0)], [], []))), .inr (.inr (.inl (312, 0, [([(0, 1)], 0), ([(1, 1)], 0), ([(4, 1)], 0)], [], [])))]) := by
  intro g0 r gi g hok hh hars hfr hG
  have b0 : 0 ≤ r 0 ∧ r 0 ≤ 4611686018427387903 := hok.1 0 (0, 4611686018427387903) rfl
  have b1 : 1 ≤ r 1 ∧ r 1 ≤ 4611686018427387904 := hok.1 1 (1, 4611686018427387904) rfl
  have b4 : 1 ≤ r 4 ∧ r 4 ≤ 4611686018427387904 := hok.1 4 (1, 4611686018427387904) rfl
  have b5 : 0 ≤ r 5 ∧ r 5 ≤ 0 := hok.1 5 (0, 0) rfl
  have b6 : 1 ≤ r 6 ∧ r 6 ≤ 4611686018427387904 := hok.1 6 (1, 4611686018427387904) rfl
  have f0 : 0 ≤ (((-1) * r 6 + (1 * r 1 + 0)) + 0) := hok.2 _ (List.mem_of_getElem? (i := 0) rfl)
  have f1 : 0 ≤ (((-1) * r 4 + (1 * r 1 + 0)) + 0) := hok.2 _ (List.mem_of_getElem? (i := 1) rfl)
  have f2 : 0 ≤ ((1 * r 4 + ((-1) * r 0 + 0)) + (-1)) := hok.2 _ (List.mem_of_getElem? (i := 2) rfl)
  obtain ⟨hG, hgi⟩ := hG
  have hG : True := hG
  obtain ⟨h0, hh, e0, k0⟩ := hh
  have k0 : ∀ j, j ∉ [] → g j = h0 j := k0
  have e0 : ((1 * r 6 + 0) + 0) = (((1 * r 1 + 0) + 0)).tdiv (((1 * r 4 + 0) + 0)) := e0
  obtain ⟨h1, hh, e1, k1⟩ := hh
  have k1 : ∀ j, j ∉ [] → h0 j = h1 j := k1
  have e1 : ((0 : Int) + 0) = (((1 * r 0 + 0) + 0)).tdiv (((1 * r 4 + 0) + 0)) := e1
  obtain ⟨h2, hh, e2, k2⟩ := hh
  have k2 : ∀ j, j ∉ [] → h1 j = h2 j := k2
  have e2 : ((1 * r 4 + 0) + 0) = ye_q ((1 * r 0 + 0) + 0) ((1 * r 1 + 0) + 0) := e2
  have hh : h2 = gi := hh
  subst hh
  refine yt_dalt (by decide) (by decide) ?_
  rw [show xk_84.2.1.2.1.1.length = 4 from rfl]
  show 0 ≤ ((1 * r 1 + 0) + 0) → ((1 * ((0 : Int) + 0) + 0) + 0) = (((1 * r 0 + 0) + 0)).tdiv (ye_q ((1 * r 0 + 0) + 0) ((1 * r 1 + 0) + 0)) ∧ ((1 * ((1 * r 6 + 0) + 0) + 0) + 0) = (((1 * r 1 + 0) + 0)).tdiv (ye_q ((1 * r 0 + 0) + 0) ((1 * r 1 + 0) + 0))
  try simp only [Int.one_mul, Int.zero_add, Int.add_zero]
  try simp only [Int.one_mul, Int.zero_add, Int.add_zero] at e2 e0 e1
  intro _
  rw [← e2]
  exact ⟨e1, e0⟩
theorem xw_84_0_2 : yt_hold xT_84 xk_84 xq_84.2.2.1 xG_84 xP_84 xU_84 4 xk_84.2.1.2.2.2 (fun g0 r g => xR_84 r g0 ∧ g = g0) (1000, ([(1, 4611686018427387904), (0, 4611686018427387903), ((-9223372036854775808), 9223372036854775807), ((-9223372036854775808), 9223372036854775807), (1, 4611686018427387904), (1, 4611686018427387904), (0, 0)], [([(4, 1), (1, (-1))], (-1)), ([(5, (-1)), (0, 1)], 0), ([(4, (-1)), (0, 1)], 0)]), [([(5, 1)], 0), ([], 0)], [], [.inr (.inr (.inl (998, 1, [([(1, 1)], 0), ([(4, 1)], 0), ([], 0)], [], []))), .inr (.inr (.inl (998, 1, [([(0, 1)], 0), ([(4, 1)], 0), ([(5, 1)], 0)], [], []))), .inr (.inr (.inl (312, 0, [([(0, 1)], 0), ([(1, 1)], 0), ([(4, 1)], 0)], [], [])))]) := by
  intro g0 r gi g hok hh hars hfr hG
  have b0 : 1 ≤ r 0 ∧ r 0 ≤ 4611686018427387904 := hok.1 0 (1, 4611686018427387904) rfl
  have b1 : 0 ≤ r 1 ∧ r 1 ≤ 4611686018427387903 := hok.1 1 (0, 4611686018427387903) rfl
  have b4 : 1 ≤ r 4 ∧ r 4 ≤ 4611686018427387904 := hok.1 4 (1, 4611686018427387904) rfl
  have b5 : 1 ≤ r 5 ∧ r 5 ≤ 4611686018427387904 := hok.1 5 (1, 4611686018427387904) rfl
  have b6 : 0 ≤ r 6 ∧ r 6 ≤ 0 := hok.1 6 (0, 0) rfl
  have f0 : 0 ≤ ((1 * r 4 + ((-1) * r 1 + 0)) + (-1)) := hok.2 _ (List.mem_of_getElem? (i := 0) rfl)
  have f1 : 0 ≤ (((-1) * r 5 + (1 * r 0 + 0)) + 0) := hok.2 _ (List.mem_of_getElem? (i := 1) rfl)
  have f2 : 0 ≤ (((-1) * r 4 + (1 * r 0 + 0)) + 0) := hok.2 _ (List.mem_of_getElem? (i := 2) rfl)
  obtain ⟨hG, hgi⟩ := hG
  have hG : True := hG
  obtain ⟨h0, hh, e0, k0⟩ := hh
  have k0 : ∀ j, j ∉ [] → g j = h0 j := k0
  have e0 : ((0 : Int) + 0) = (((1 * r 1 + 0) + 0)).tdiv (((1 * r 4 + 0) + 0)) := e0
  obtain ⟨h1, hh, e1, k1⟩ := hh
  have k1 : ∀ j, j ∉ [] → h0 j = h1 j := k1
  have e1 : ((1 * r 5 + 0) + 0) = (((1 * r 0 + 0) + 0)).tdiv (((1 * r 4 + 0) + 0)) := e1
  obtain ⟨h2, hh, e2, k2⟩ := hh
  have k2 : ∀ j, j ∉ [] → h1 j = h2 j := k2
  have e2 : ((1 * r 4 + 0) + 0) = ye_q ((1 * r 0 + 0) + 0) ((1 * r 1 + 0) + 0) := e2
  have hh : h2 = gi := hh
  subst hh
  refine yt_dalt (by decide) (by decide) ?_
  rw [show xk_84.2.1.2.1.1.length = 4 from rfl]
  show 0 ≤ ((1 * r 1 + 0) + 0) → ((1 * ((1 * r 5 + 0) + 0) + 0) + 0) = (((1 * r 0 + 0) + 0)).tdiv (ye_q ((1 * r 0 + 0) + 0) ((1 * r 1 + 0) + 0)) ∧ ((1 * ((0 : Int) + 0) + 0) + 0) = (((1 * r 1 + 0) + 0)).tdiv (ye_q ((1 * r 0 + 0) + 0) ((1 * r 1 + 0) + 0))
  try simp only [Int.one_mul, Int.zero_add, Int.add_zero]
  try simp only [Int.one_mul, Int.zero_add, Int.add_zero] at e2 e0 e1
  intro _
  rw [← e2]
  exact ⟨e1, e0⟩
theorem xw_84_0_3 : yt_hold xT_84 xk_84 xq_84.2.2.1 xG_84 xP_84 xU_84 4 xk_84.2.1.2.2.2 (fun g0 r g => xR_84 r g0 ∧ g = g0) (1000, ([(1, 4611686018427387904), (1, 4611686018427387904), ((-9223372036854775808), 9223372036854775807), ((-9223372036854775808), 9223372036854775807), (1, 4611686018427387904), (1, 4611686018427387904), (1, 4611686018427387904)], [([(6, (-1)), (1, 1)], 0), ([(4, (-1)), (1, 1)], 0), ([(5, (-1)), (0, 1)], 0), ([(4, (-1)), (0, 1)], 0)]), [([(5, 1)], 0), ([(6, 1)], 0)], [], [.inr (.inr (.inl (998, 1, [([(1, 1)], 0), ([(4, 1)], 0), ([(6, 1)], 0)], [], []))), .inr (.inr (.inl (998, 1, [([(0, 1)], 0), ([(4, 1)], 0), ([(5, 1)], 0)], [], []))), .inr (.inr (.inl (312, 0, [([(0, 1)], 0), ([(1, 1)], 0), ([(4, 1)], 0)], [], [])))]) := by
  intro g0 r gi g hok hh hars hfr hG
  have b0 : 1 ≤ r 0 ∧ r 0 ≤ 4611686018427387904 := hok.1 0 (1, 4611686018427387904) rfl
  have b1 : 1 ≤ r 1 ∧ r 1 ≤ 4611686018427387904 := hok.1 1 (1, 4611686018427387904) rfl
  have b4 : 1 ≤ r 4 ∧ r 4 ≤ 4611686018427387904 := hok.1 4 (1, 4611686018427387904) rfl
  have b5 : 1 ≤ r 5 ∧ r 5 ≤ 4611686018427387904 := hok.1 5 (1, 4611686018427387904) rfl
  have b6 : 1 ≤ r 6 ∧ r 6 ≤ 4611686018427387904 := hok.1 6 (1, 4611686018427387904) rfl
  have f0 : 0 ≤ (((-1) * r 6 + (1 * r 1 + 0)) + 0) := hok.2 _ (List.mem_of_getElem? (i := 0) rfl)
  have f1 : 0 ≤ (((-1) * r 4 + (1 * r 1 + 0)) + 0) := hok.2 _ (List.mem_of_getElem? (i := 1) rfl)
  have f2 : 0 ≤ (((-1) * r 5 + (1 * r 0 + 0)) + 0) := hok.2 _ (List.mem_of_getElem? (i := 2) rfl)
  have f3 : 0 ≤ (((-1) * r 4 + (1 * r 0 + 0)) + 0) := hok.2 _ (List.mem_of_getElem? (i := 3) rfl)
  obtain ⟨hG, hgi⟩ := hG
  have hG : True := hG
  obtain ⟨h0, hh, e0, k0⟩ := hh
  have k0 : ∀ j, j ∉ [] → g j = h0 j := k0
  have e0 : ((1 * r 6 + 0) + 0) = (((1 * r 1 + 0) + 0)).tdiv (((1 * r 4 + 0) + 0)) := e0
  obtain ⟨h1, hh, e1, k1⟩ := hh
  have k1 : ∀ j, j ∉ [] → h0 j = h1 j := k1
  have e1 : ((1 * r 5 + 0) + 0) = (((1 * r 0 + 0) + 0)).tdiv (((1 * r 4 + 0) + 0)) := e1
  obtain ⟨h2, hh, e2, k2⟩ := hh
  have k2 : ∀ j, j ∉ [] → h1 j = h2 j := k2
  have e2 : ((1 * r 4 + 0) + 0) = ye_q ((1 * r 0 + 0) + 0) ((1 * r 1 + 0) + 0) := e2
  have hh : h2 = gi := hh
  subst hh
  refine yt_dalt (by decide) (by decide) ?_
  rw [show xk_84.2.1.2.1.1.length = 4 from rfl]
  show 0 ≤ ((1 * r 1 + 0) + 0) → ((1 * ((1 * r 5 + 0) + 0) + 0) + 0) = (((1 * r 0 + 0) + 0)).tdiv (ye_q ((1 * r 0 + 0) + 0) ((1 * r 1 + 0) + 0)) ∧ ((1 * ((1 * r 6 + 0) + 0) + 0) + 0) = (((1 * r 1 + 0) + 0)).tdiv (ye_q ((1 * r 0 + 0) + 0) ((1 * r 1 + 0) + 0))
  try simp only [Int.one_mul, Int.zero_add, Int.add_zero]
  try simp only [Int.one_mul, Int.zero_add, Int.add_zero] at e2 e0 e1
  intro _
  rw [← e2]
  exact ⟨e1, e0⟩
theorem xw_84_0_4 : yt_hold xT_84 xk_84 xq_84.2.2.1 xG_84 xP_84 xU_84 4 xk_84.2.1.2.2.2 (fun g0 r g => xR_84 r g0 ∧ g = g0) (1000, ([((-4611686018427387904), (-1)), (0, 4611686018427387903), ((-9223372036854775808), 9223372036854775807), ((-9223372036854775808), 9223372036854775807), (1, 4611686018427387904), ((-4611686018427387904), 0), (0, 0)], [([(4, 1), (1, (-1))], (-1)), ([(0, (-1)), (5, 1)], 0)]), [([(5, 1)], 0), ([], 0)], [], [.inr (.inr (.inl (998, 1, [([(1, 1)], 0), ([(4, 1)], 0), ([], 0)], [], []))), .inr (.inr (.inl (998, 1, [([(0, 1)], 0), ([(4, 1)], 0), ([(5, 1)], 0)], [], []))), .inr (.inr (.inl (312, 0, [([(0, 1)], 0), ([(1, 1)], 0), ([(4, 1)], 0)], [], [])))]) := by
  intro g0 r gi g hok hh hars hfr hG
  have b0 : (-4611686018427387904) ≤ r 0 ∧ r 0 ≤ (-1) := hok.1 0 ((-4611686018427387904), (-1)) rfl
  have b1 : 0 ≤ r 1 ∧ r 1 ≤ 4611686018427387903 := hok.1 1 (0, 4611686018427387903) rfl
  have b4 : 1 ≤ r 4 ∧ r 4 ≤ 4611686018427387904 := hok.1 4 (1, 4611686018427387904) rfl
  have b5 : (-4611686018427387904) ≤ r 5 ∧ r 5 ≤ 0 := hok.1 5 ((-4611686018427387904), 0) rfl
  have b6 : 0 ≤ r 6 ∧ r 6 ≤ 0 := hok.1 6 (0, 0) rfl
  have f0 : 0 ≤ ((1 * r 4 + ((-1) * r 1 + 0)) + (-1)) := hok.2 _ (List.mem_of_getElem? (i := 0) rfl)
  have f1 : 0 ≤ (((-1) * r 0 + (1 * r 5 + 0)) + 0) := hok.2 _ (List.mem_of_getElem? (i := 1) rfl)
  obtain ⟨hG, hgi⟩ := hG
  have hG : True := hG
  obtain ⟨h0, hh, e0, k0⟩ := hh
  have k0 : ∀ j, j ∉ [] → g j = h0 j := k0
  have e0 : ((0 : Int) + 0) = (((1 * r 1 + 0) + 0)).tdiv (((1 * r 4 + 0) + 0)) := e0
  obtain ⟨h1, hh, e1, k1⟩ := hh
  have k1 : ∀ j, j ∉ [] → h0 j = h1 j := k1
  have e1 : ((1 * r 5 + 0) + 0) = (((1 * r 0 + 0) + 0)).tdiv (((1 * r 4 + 0) + 0)) := e1
  obtain ⟨h2, hh, e2, k2⟩ := hh
  have k2 : ∀ j, j ∉ [] → h1 j = h2 j := k2
  have e2 : ((1 * r 4 + 0) + 0) = ye_q ((1 * r 0 + 0) + 0) ((1 * r 1 + 0) + 0) := e2
  have hh : h2 = gi := hh
  subst hh
  refine yt_dalt (by decide) (by decide) ?_
  rw [show xk_84.2.1.2.1.1.length = 4 from rfl]
  show 0 ≤ ((1 * r 1 + 0) + 0) → ((1 * ((1 * r 5 + 0) + 0) + 0) + 0) = (((1 * r 0 + 0) + 0)).tdiv (ye_q ((1 * r 0 + 0) + 0) ((1 * r 1 + 0) + 0)) ∧ ((1 * ((0 : Int) + 0) + 0) + 0) = (((1 * r 1 + 0) + 0)).tdiv (ye_q ((1 * r 0 + 0) + 0) ((1 * r 1 + 0) + 0))
  try simp only [Int.one_mul, Int.zero_add, Int.add_zero]
  try simp only [Int.one_mul, Int.zero_add, Int.add_zero] at e2 e0 e1
  intro _
  rw [← e2]
  exact ⟨e1, e0⟩
theorem xw_84_0_5 : yt_hold xT_84 xk_84 xq_84.2.2.1 xG_84 xP_84 xU_84 4 xk_84.2.1.2.2.2 (fun g0 r g => xR_84 r g0 ∧ g = g0) (1000, ([((-4611686018427387904), (-1)), (1, 4611686018427387904), ((-9223372036854775808), 9223372036854775807), ((-9223372036854775808), 9223372036854775807), (1, 4611686018427387904), ((-4611686018427387904), 0), (1, 4611686018427387904)], [([(6, (-1)), (1, 1)], 0), ([(4, (-1)), (1, 1)], 0), ([(0, (-1)), (5, 1)], 0)]), [([(5, 1)], 0), ([(6, 1)], 0)], [], [.inr (.inr (.inl (998, 1, [([(1, 1)], 0), ([(4, 1)], 0), ([(6, 1)], 0)], [], []))), .inr (.inr (.inl (998, 1, [([(0, 1)], 0), ([(4, 1)], 0), ([(5, 1)], 0)], [], []))), .inr (.inr (.inl (312, 0, [([(0, 1)], 0), ([(1, 1)], 0), ([(4, 1)], 0)], [], [])))]) := by
  intro g0 r gi g hok hh hars hfr hG
  have b0 : (-4611686018427387904) ≤ r 0 ∧ r 0 ≤ (-1) := hok.1 0 ((-4611686018427387904), (-1)) rfl
  have b1 : 1 ≤ r 1 ∧ r 1 ≤ 4611686018427387904 := hok.1 1 (1, 4611686018427387904) rfl
  have b4 : 1 ≤ r 4 ∧ r 4 ≤ 4611686018427387904 := hok.1 4 (1, 4611686018427387904) rfl
  have b5 : (-4611686018427387904) ≤ r 5 ∧ r 5 ≤ 0 := hok.1 5 ((-4611686018427387904), 0) rfl
  have b6 : 1 ≤ r 6 ∧ r 6 ≤ 4611686018427387904 := hok.1 6 (1, 4611686018427387904) rfl
  have f0 : 0 ≤ (((-1) * r 6 + (1 * r 1 + 0)) + 0) := hok.2 _ (List.mem_of_getElem? (i := 0) rfl)
  have f1 : 0 ≤ (((-1) * r 4 + (1 * r 1 + 0)) + 0) := hok.2 _ (List.mem_of_getElem? (i := 1) rfl)
  have f2 : 0 ≤ (((-1) * r 0 + (1 * r 5 + 0)) + 0) := hok.2 _ (List.mem_of_getElem? (i := 2) rfl)
  obtain ⟨hG, hgi⟩ := hG
  have hG : True := hG
  obtain ⟨h0, hh, e0, k0⟩ := hh
  have k0 : ∀ j, j ∉ [] → g j = h0 j := k0
  have e0 : ((1 * r 6 + 0) + 0) = (((1 * r 1 + 0) + 0)).tdiv (((1 * r 4 + 0) + 0)) := e0
  obtain ⟨h1, hh, e1, k1⟩ := hh
  have k1 : ∀ j, j ∉ [] → h0 j = h1 j := k1
  have e1 : ((1 * r 5 + 0) + 0) = (((1 * r 0 + 0) + 0)).tdiv (((1 * r 4 + 0) + 0)) := e1
  obtain ⟨h2, hh, e2, k2⟩ := hh
  have k2 : ∀ j, j ∉ [] → h1 j = h2 j := k2
  have e2 : ((1 * r 4 + 0) + 0) = ye_q ((1 * r 0 + 0) + 0) ((1 * r 1 + 0) + 0) := e2
  have hh : h2 = gi := hh
  subst hh
  refine yt_dalt (by decide) (by decide) ?_
  rw [show xk_84.2.1.2.1.1.length = 4 from rfl]
  show 0 ≤ ((1 * r 1 + 0) + 0) → ((1 * ((1 * r 5 + 0) + 0) + 0) + 0) = (((1 * r 0 + 0) + 0)).tdiv (ye_q ((1 * r 0 + 0) + 0) ((1 * r 1 + 0) + 0)) ∧ ((1 * ((1 * r 6 + 0) + 0) + 0) + 0) = (((1 * r 1 + 0) + 0)).tdiv (ye_q ((1 * r 0 + 0) + 0) ((1 * r 1 + 0) + 0))
  try simp only [Int.one_mul, Int.zero_add, Int.add_zero]
  try simp only [Int.one_mul, Int.zero_add, Int.add_zero] at e2 e0 e1
  intro _
  rw [← e2]
  exact ⟨e1, e0⟩
theorem xw_84_0_6 : yt_hold xT_84 xk_84 xq_84.2.2.1 xG_84 xP_84 xU_84 4 xk_84.2.1.2.2.2 (fun g0 r g => xR_84 r g0 ∧ g = g0) (1000, ([((-4611686018427387904), 4611686018427387904), ((-4611686018427387904), (-1)), ((-9223372036854775808), 9223372036854775807), ((-9223372036854775808), 9223372036854775807), (1, 4611686018427387904), ((-9223372036854775808), 9223372036854775807), ((-9223372036854775808), 9223372036854775807)], []), [([(5, 1)], 0), ([(6, 1)], 0)], [], [.inr (.inr (.inl (312, 0, [([(0, 1)], 0), ([(1, 1)], 0), ([(4, 1)], 0)], [], [])))]) := by
  intro g0 r gi g hok hh hars hfr hG
  have b0 : (-4611686018427387904) ≤ r 0 ∧ r 0 ≤ 4611686018427387904 := hok.1 0 ((-4611686018427387904), 4611686018427387904) rfl
  have b1 : (-4611686018427387904) ≤ r 1 ∧ r 1 ≤ (-1) := hok.1 1 ((-4611686018427387904), (-1)) rfl
  have b4 : 1 ≤ r 4 ∧ r 4 ≤ 4611686018427387904 := hok.1 4 (1, 4611686018427387904) rfl
  have b5 : (-9223372036854775808) ≤ r 5 ∧ r 5 ≤ 9223372036854775807 := hok.1 5 ((-9223372036854775808), 9223372036854775807) rfl
  have b6 : (-9223372036854775808) ≤ r 6 ∧ r 6 ≤ 9223372036854775807 := hok.1 6 ((-9223372036854775808), 9223372036854775807) rfl
  obtain ⟨hG, hgi⟩ := hG
  have hG : True := hG
  obtain ⟨h0, hh, e0, k0⟩ := hh
  have k0 : ∀ j, j ∉ [] → g j = h0 j := k0
  have e0 : ((1 * r 4 + 0) + 0) = ye_q ((1 * r 0 + 0) + 0) ((1 * r 1 + 0) + 0) := e0
  have hh : h0 = gi := hh
  subst hh
  refine yt_dalt (by decide) (by decide) ?_
  rw [show xk_84.2.1.2.1.1.length = 4 from rfl]
  show 0 ≤ ((1 * r 1 + 0) + 0) → ((1 * ((1 * r 5 + 0) + 0) + 0) + 0) = (((1 * r 0 + 0) + 0)).tdiv (ye_q ((1 * r 0 + 0) + 0) ((1 * r 1 + 0) + 0)) ∧ ((1 * ((1 * r 6 + 0) + 0) + 0) + 0) = (((1 * r 1 + 0) + 0)).tdiv (ye_q ((1 * r 0 + 0) + 0) ((1 * r 1 + 0) + 0))
  try simp only [Int.one_mul, Int.zero_add, Int.add_zero]
  intro h
  exfalso
  omega
theorem xn_84 : ∀ (j : Nat) (q : Nat × yt_T), xq_84.2.2.1[j]? = some q → q.2.2.2 = false → ∀ g0 r g, xG_84 j g0 r g
  | n + 0, q, hq, _ => by cases hq
theorem xs_84 : ∀ j, xq_84.2.2.2.getD j false = false → ∀ r g g', xP_84 j r g g'
  | 0, hf => by cases hf
  | n + 1, _ => fun _ _ _ => trivial
theorem xc_84 {l : Launch} {D : va_G} {cT : Nat → ClassId} {tys : List (ClassId × FieldType)} (hty : yx_Ty tys cT) : yt_Con l D vwCl cT tys yG yw_s50 xk_84 xR_84 xP_84 := yx_sem (calls := xa_84) (Z := xq_84) (tb := xT_84) (pt := xU_84) (Ga := xG_84) (vs := xv_84) (fun _ _ _ h => h) 300 (by decide +kernel) yz_X1_become_ok hty (yl_lkX1 _) (yl_cqkX1 _) (List.forall_mem_cons.mpr ⟨⟨xc_83 hty, yg_CLs yl_wX1_16 yd_yX1_common, fun _ _ _ => trivial⟩, fun _ h => absurd h List.not_mem_nil⟩) (xn_84) (xs_84) (by decide +kernel) (List.forall_mem_cons.mpr ⟨xw_84_0_0, List.forall_mem_cons.mpr ⟨xw_84_0_1, List.forall_mem_cons.mpr ⟨xw_84_0_2, List.forall_mem_cons.mpr ⟨xw_84_0_3, List.forall_mem_cons.mpr ⟨xw_84_0_4, List.forall_mem_cons.mpr ⟨xw_84_0_5, List.forall_mem_cons.mpr ⟨xw_84_0_6, fun _ h => absurd h List.not_mem_nil⟩⟩⟩⟩⟩⟩⟩) (trivial)
noncomputable def yw_s51 : List ys_C := [.inl 10, .inl 6, .inr (0, 40, []), .inr (0, 40, [])]
noncomputable def yw_f51 (n : Nat) : List (List ys_V) := [[.inr (some 4), .inl (.inl ([(n + 0, 1)], 0)), .inl (.inr ([(n + 1, 1)], 0)), .inl (.inr ([(n + 2, 1)], 0)), .inl (.inr ([(n + 3, 1)], 0)), .inl (.inl ([(n + 4, 1)], 0)), .inl (.inl ([(n + 5, 1)], 0)), .inl (.inl ([(n + 6, 1)], 0)), .inl (.inl ([(n + 7, 1)], 0)), .inl (.inl ([(n + 8, 1)], 0)), .inl (.inl ([(n + 9, 1)], 0))], [.inr (some 2), .inr (some 3), .inr (some 5), .inr (some 6), .inl (.inl ([(n + 10, 1)], 0)), .inl (.inl ([(n + 11, 1)], 0))], [], []]
noncomputable def yw_e51 : ys_E := [(0, 1), ((-9223372036854775808), 9223372036854775807), ((-9223372036854775808), 9223372036854775807), ((-9223372036854775808), 9223372036854775807), (0, 40), ((-2147483648), 2147483647), ((-600), 600), ((-600), 600), ((-1000000), 1000000), ((-1000000), 1000000), (0, 40), ((-2147483648), 2147483647)]
noncomputable def yw_r51 : List ys_R := [((0, 0), []), ((0, 0), []), (((-300), 300), []), (((-300), 300), [])]
noncomputable def xf_85 : ys_F := (yw_f51 1, yw_r51)
noncomputable def xk_85 : ys_K := (((yX10_isAtSide, cX10_isAtSide, 4, (some .boolean)), (0, 0)), ([.inr (some 0), .inr (some 1), .inl (.inl ([(0, 1)], 0))], ([(0, 39)] ++ yw_e51, []), xf_85), ([([], [], (xf_85.1, xf_85.2), some (.inl (.inl ([], 0)))), ([], [], (xf_85.1, xf_85.2), some (.inl (.inl ([], 1))))], []))
noncomputable def xq_85 : yt_Q := (yz_X10_isAtSide, (yl_flX10, yl_ciX10, yl_cjX10, yl_cpX10, yl_cqX10), [], [true, true])
noncomputable def xa_85 : List yt_CE := []
noncomputable def xv_85 : List (List yt_VC) := [[(1001, ([(0, 39), (0, 1), ((-9223372036854775808), 9223372036854775807), ((-9223372036854775808), 9223372036854775807), ((-9223372036854775808), 9223372036854775807), (0, 40), ((-2147483648), 2147483647), ((-600), 600), ((-600), 600), ((-360000), 360000), ((-1000000), 1000000), (0, 40), ((-2147483648), 2147483647), ((-300), 300), ((-180000), 180000), ((-300), 300), ((-180000), 180000)], [([(16, (-1)), (14, (-1)), (9, 1)], 0), ([(9, (-1)), (14, 1), (16, 1)], 0)]), [], [], [.inl (.inr (16, ([(8, 1)], 0), ([(15, 1)], 0))), .inl (.inl (3, ([(0, 1)], 0), 15)), .inl (.inr (14, ([(7, 1)], 0), ([(13, 1)], 0))), .inl (.inl (2, ([(0, 1)], 0), 13))]),
   (1000, ([(0, 39), (0, 1), ((-9223372036854775808), 9223372036854775807), ((-9223372036854775808), 9223372036854775807), ((-9223372036854775808), 9223372036854775807), (0, 40), ((-2147483648), 2147483647), ((-600), 600), ((-600), 600), ((-1000000), 359999), ((-1000000), 359999), (0, 40), ((-2147483648), 2147483647), ((-300), 300), ((-180000), 180000), ((-300), 300), ((-180000), 180000)], [([(16, 1), (14, 1), (10, (-1))], (-1)), ([(16, 1), (14, 1), (9, (-1))], (-1))]), [], [], [.inl (.inr (16, ([(8, 1)], 0), ([(15, 1)], 0))), .inl (.inl (3, ([(0, 1)], 0), 15)), .inl (.inr (14, ([(7, 1)], 0), ([(13, 1)], 0))), .inl (.inl (2, ([(0, 1)], 0), 13))]),
   (1000, ([(0, 39), (0, 1), ((-9223372036854775808), 9223372036854775807), ((-9223372036854775808), 9223372036854775807), ((-9223372036854775808), 9223372036854775807), (0, 40), ((-2147483648), 2147483647), ((-600), 600), ((-600), 600), ((-1000000), 359999), ((-359999), 1000000), (0, 40), ((-2147483648), 2147483647), ((-300), 300), ((-180000), 180000), ((-300), 300), ((-180000), 180000)], [([(10, 1), (14, (-1)), (16, (-1))], (-1)), ([(16, 1), (14, 1), (9, (-1))], (-1))]), [], [], [.inl (.inr (16, ([(8, 1)], 0), ([(15, 1)], 0))), .inl (.inl (3, ([(0, 1)], 0), 15)), .inl (.inr (14, ([(7, 1)], 0), ([(13, 1)], 0))), .inl (.inl (2, ([(0, 1)], 0), 13))]),
   (1001, ([(0, 39), (0, 1), ((-9223372036854775808), 9223372036854775807), ((-9223372036854775808), 9223372036854775807), ((-9223372036854775808), 9223372036854775807), (0, 40), ((-2147483648), 2147483647), ((-600), 600), ((-600), 600), ((-1000000), 359999), ((-360000), 360000), (0, 40), ((-2147483648), 2147483647), ((-300), 300), ((-180000), 180000), ((-300), 300), ((-180000), 180000)], [([(16, (-1)), (14, (-1)), (10, 1)], 0), ([(10, (-1)), (14, 1), (16, 1)], 0), ([(16, 1), (14, 1), (9, (-1))], (-1))]), [], [], [.inl (.inr (16, ([(8, 1)], 0), ([(15, 1)], 0))), .inl (.inl (3, ([(0, 1)], 0), 15)), .inl (.inr (14, ([(7, 1)], 0), ([(13, 1)], 0))), .inl (.inl (2, ([(0, 1)], 0), 13))]),
   (1000, ([(0, 39), (0, 1), ((-9223372036854775808), 9223372036854775807), ((-9223372036854775808), 9223372036854775807), ((-9223372036854775808), 9223372036854775807), (0, 40), ((-2147483648), 2147483647), ((-600), 600), ((-600), 600), ((-359999), 1000000), ((-1000000), 359999), (0, 40), ((-2147483648), 2147483647), ((-300), 300), ((-180000), 180000), ((-300), 300), ((-180000), 180000)], [([(16, 1), (14, 1), (10, (-1))], (-1)), ([(9, 1), (14, (-1)), (16, (-1))], (-1))]), [], [], [.inl (.inr (16, ([(8, 1)], 0), ([(15, 1)], 0))), .inl (.inl (3, ([(0, 1)], 0), 15)), .inl (.inr (14, ([(7, 1)], 0), ([(13, 1)], 0))), .inl (.inl (2, ([(0, 1)], 0), 13))]),
   (1000, ([(0, 39), (0, 1), ((-9223372036854775808), 9223372036854775807), ((-9223372036854775808), 9223372036854775807), ((-9223372036854775808), 9223372036854775807), (0, 40), ((-2147483648), 2147483647), ((-600), 600), ((-600), 600), ((-359999), 1000000), ((-359999), 1000000), (0, 40), ((-2147483648), 2147483647), ((-300), 300), ((-180000), 180000), ((-300), 300), ((-180000), 180000)], [([(10, 1), (14, (-1)), (16, (-1))], (-1)), ([(9, 1), (14, (-1)), (16, (-1))], (-1))]), [], [], [.inl (.inr (16, ([(8, 1)], 0), ([(15, 1)], 0))), .inl (.inl (3, ([(0, 1)], 0), 15)), .inl (.inr (14, ([(7, 1)], 0), ([(13, 1)], 0))), .inl (.inl (2, ([(0, 1)], 0), 13))]),
   (1001, ([(0, 39), (0, 1), ((-9223372036854775808), 9223372036854775807), ((-9223372036854775808), 9223372036854775807), ((-9223372036854775808), 9223372036854775807), (0, 40), ((-2147483648), 2147483647), ((-600), 600), ((-600), 600), ((-359999), 1000000), ((-360000), 360000), (0, 40), ((-2147483648), 2147483647), ((-300), 300), ((-180000), 180000), ((-300), 300), ((-180000), 180000)], [([(16, (-1)), (14, (-1)), (10, 1)], 0), ([(10, (-1)), (14, 1), (16, 1)], 0), ([(9, 1), (14, (-1)), (16, (-1))], (-1))]), [], [], [.inl (.inr (16, ([(8, 1)], 0), ([(15, 1)], 0))), .inl (.inl (3, ([(0, 1)], 0), 15)), .inl (.inr (14, ([(7, 1)], 0), ([(13, 1)], 0))), .inl (.inl (2, ([(0, 1)], 0), 13))])]]
noncomputable def xG_85 : Nat → yt_G → (Nat → Int) → yt_G → Prop
  | _, _, _, _ => True
noncomputable def xP_85 : yt_Ph
  | 0, r, g0, g => ¬ (ye_d (g0 2) (g0 3) ((1 * (r 7) + 0) + 0) ((1 * (r 8) + 0) + 0) ((r 0)).toNat = ((1 * (r 9) + 0) + 0) ∨ ye_d (g0 2) (g0 3) ((1 * (r 7) + 0) + 0) ((1 * (r 8) + 0) + 0) ((r 0)).toNat = ((1 * (r 10) + 0) + 0))
  | 1, r, g0, g => (ye_d (g0 2) (g0 3) ((1 * (r 7) + 0) + 0) ((1 * (r 8) + 0) + 0) ((r 0)).toNat = ((1 * (r 9) + 0) + 0) ∨ ye_d (g0 2) (g0 3) ((1 * (r 7) + 0) + 0) ((1 * (r 8) + 0) + 0) ((r 0)).toNat = ((1 * (r 10) + 0) + 0))
  | _, _, _, _ => True
noncomputable def xR_85 : yt_Ps := fun r g0 => True
noncomputable def xT_85 : yt_Tb := fun d => match d with
  | _ => fun _ _ _ _ => True
noncomputable def xU_85 : Nat → yt_Ps := fun d => match d with
  | _ => fun _ _ => True
theorem xw_85_0_0 : yt_hold xT_85 xk_85 xq_85.2.2.1 xG_85 xP_85 xU_85 13 xk_85.2.1.2.2.2 (fun g0 r g => xR_85 r g0 ∧ g = g0) (1001, ([(0, 39), (0, 1), ((-9223372036854775808), 9223372036854775807), ((-9223372036854775808), 9223372036854775807), ((-9223372036854775808), 9223372036854775807), (0, 40), ((-2147483648), 2147483647), ((-600), 600), ((-600), 600), ((-360000), 360000), ((-1000000), 1000000), (0, 40), ((-2147483648), 2147483647), ((-300), 300), ((-180000), 180000), ((-300), 300), ((-180000), 180000)], [([(16, (-1)), (14, (-1)), (9, 1)], 0), ([(9, (-1)), (14, 1), (16, 1)], 0)]), [], [], [.inl (.inr (16, ([(8, 1)], 0), ([(15, 1)], 0))), .inl (.inl (3, ([(0, 1)], 0), 15)), .inl (.inr (14, ([(7, 1)], 0), ([(13, 1)], 0))), .inl (.inl (2, ([(0, 1)], 0), 13))]) := by
  intro g0 r gi g hok hh hars hfr hG
  have b0 : 0 ≤ r 0 ∧ r 0 ≤ 39 := hok.1 0 (0, 39) rfl
  have b1 : 0 ≤ r 1 ∧ r 1 ≤ 1 := hok.1 1 (0, 1) rfl
  have b7 : (-600) ≤ r 7 ∧ r 7 ≤ 600 := hok.1 7 ((-600), 600) rfl
  have b8 : (-600) ≤ r 8 ∧ r 8 ≤ 600 := hok.1 8 ((-600), 600) rfl
  have b9 : (-360000) ≤ r 9 ∧ r 9 ≤ 360000 := hok.1 9 ((-360000), 360000) rfl
  have b10 : (-1000000) ≤ r 10 ∧ r 10 ≤ 1000000 := hok.1 10 ((-1000000), 1000000) rfl
  have b13 : (-300) ≤ r 13 ∧ r 13 ≤ 300 := hok.1 13 ((-300), 300) rfl
  have b14 : (-180000) ≤ r 14 ∧ r 14 ≤ 180000 := hok.1 14 ((-180000), 180000) rfl
  have b15 : (-300) ≤ r 15 ∧ r 15 ≤ 300 := hok.1 15 ((-300), 300) rfl
  have b16 : (-180000) ≤ r 16 ∧ r 16 ≤ 180000 := hok.1 16 ((-180000), 180000) rfl
  have f0 : 0 ≤ (((-1) * r 16 + ((-1) * r 14 + (1 * r 9 + 0))) + 0) := hok.2 _ (List.mem_of_getElem? (i := 0) rfl)
  have f1 : 0 ≤ (((-1) * r 9 + (1 * r 14 + (1 * r 16 + 0))) + 0) := hok.2 _ (List.mem_of_getElem? (i := 1) rfl)
  obtain ⟨hG, hgi⟩ := hG
  have hG : True := hG
  obtain ⟨g0, hh, q0, e0⟩ := hh
  subst q0
  have e0 : r 16 = ((1 * r 8 + 0) + 0) * ((1 * r 15 + 0) + 0) := e0
  try simp only [Int.one_mul, Int.zero_add, Int.add_zero] at e0
  obtain ⟨g1, hh, q1, e1⟩ := hh
  subst q1
  have e1 : r 15 = g 3 (((1 * r 0 + 0) + 0)).toNat := e1
  rw [show (((1 * r 0 + 0) + 0)).toNat = (r 0).toNat by omega] at e1
  obtain ⟨g2, hh, q2, e2⟩ := hh
  subst q2
  have e2 : r 14 = ((1 * r 7 + 0) + 0) * ((1 * r 13 + 0) + 0) := e2
  try simp only [Int.one_mul, Int.zero_add, Int.add_zero] at e2
  obtain ⟨g3, hh, q3, e3⟩ := hh
  subst q3
  have e3 : r 13 = g 2 (((1 * r 0 + 0) + 0)).toNat := e3
  rw [show (((1 * r 0 + 0) + 0)).toNat = (r 0).toNat by omega] at e3
  have hh : g = gi := hh
  subst hh
  refine yt_dalt (by decide) (by decide) ?_
  rw [show xk_85.2.1.2.1.1.length = 13 from rfl]
  show (ye_d (g0 2) (g0 3) ((1 * ((1 * r 7 + 0) + 0) + 0) + 0) ((1 * ((1 * r 8 + 0) + 0) + 0) + 0) (((1 * r 0 + 0) + 0)).toNat = ((1 * ((1 * r 9 + 0) + 0) + 0) + 0) ∨ ye_d (g0 2) (g0 3) ((1 * ((1 * r 7 + 0) + 0) + 0) + 0) ((1 * ((1 * r 8 + 0) + 0) + 0) + 0) (((1 * r 0 + 0) + 0)).toNat = ((1 * ((1 * r 10 + 0) + 0) + 0) + 0))
  try simp only [Int.one_mul, Int.zero_add, Int.add_zero]
  rw [hgi] at e1
  rw [hgi] at e3
  try simp only [Int.one_mul, Int.zero_add, Int.add_zero] at e2 e0
  have hd : ye_d (g0 2) (g0 3) (r 7) (r 8) (r 0).toNat = r 16 + r 14 := by
    unfold ye_d
    rw [← e3, ← e1, ← e2, ← e0]
    omega
  rw [hd]
  omega
theorem xw_85_0_1 : yt_hold xT_85 xk_85 xq_85.2.2.1 xG_85 xP_85 xU_85 13 xk_85.2.1.2.2.2 (fun g0 r g => xR_85 r g0 ∧ g = g0) (1000, ([(0, 39), (0, 1), ((-9223372036854775808), 9223372036854775807), ((-9223372036854775808), 9223372036854775807), ((-9223372036854775808), 9223372036854775807), (0, 40), ((-2147483648), 2147483647), ((-600), 600), ((-600), 600), ((-1000000), 359999), ((-1000000), 359999), (0, 40), ((-2147483648), 2147483647), ((-300), 300), ((-180000), 180000), ((-300), 300), ((-180000), 180000)], [([(16, 1), (14, 1), (10, (-1))], (-1)), ([(16, 1), (14, 1), (9, (-1))], (-1))]), [], [], [.inl (.inr (16, ([(8, 1)], 0), ([(15, 1)], 0))), .inl (.inl (3, ([(0, 1)], 0), 15)), .inl (.inr (14, ([(7, 1)], 0), ([(13, 1)], 0))), .inl (.inl (2, ([(0, 1)], 0), 13))]) := by
  intro g0 r gi g hok hh hars hfr hG
  have b0 : 0 ≤ r 0 ∧ r 0 ≤ 39 := hok.1 0 (0, 39) rfl
  have b1 : 0 ≤ r 1 ∧ r 1 ≤ 1 := hok.1 1 (0, 1) rfl
  have b7 : (-600) ≤ r 7 ∧ r 7 ≤ 600 := hok.1 7 ((-600), 600) rfl
  have b8 : (-600) ≤ r 8 ∧ r 8 ≤ 600 := hok.1 8 ((-600), 600) rfl
  have b9 : (-1000000) ≤ r 9 ∧ r 9 ≤ 359999 := hok.1 9 ((-1000000), 359999) rfl
  have b10 : (-1000000) ≤ r 10 ∧ r 10 ≤ 359999 := hok.1 10 ((-1000000), 359999) rfl
  have b13 : (-300) ≤ r 13 ∧ r 13 ≤ 300 := hok.1 13 ((-300), 300) rfl
  have b14 : (-180000) ≤ r 14 ∧ r 14 ≤ 180000 := hok.1 14 ((-180000), 180000) rfl
  have b15 : (-300) ≤ r 15 ∧ r 15 ≤ 300 := hok.1 15 ((-300), 300) rfl
  have b16 : (-180000) ≤ r 16 ∧ r 16 ≤ 180000 := hok.1 16 ((-180000), 180000) rfl
  have f0 : 0 ≤ ((1 * r 16 + (1 * r 14 + ((-1) * r 10 + 0))) + (-1)) := hok.2 _ (List.mem_of_getElem? (i := 0) rfl)
  have f1 : 0 ≤ ((1 * r 16 + (1 * r 14 + ((-1) * r 9 + 0))) + (-1)) := hok.2 _ (List.mem_of_getElem? (i := 1) rfl)
  obtain ⟨hG, hgi⟩ := hG
  have hG : True := hG
  obtain ⟨g0, hh, q0, e0⟩ := hh
  subst q0
  have e0 : r 16 = ((1 * r 8 + 0) + 0) * ((1 * r 15 + 0) + 0) := e0
  try simp only [Int.one_mul, Int.zero_add, Int.add_zero] at e0
  obtain ⟨g1, hh, q1, e1⟩ := hh
  subst q1
  have e1 : r 15 = g 3 (((1 * r 0 + 0) + 0)).toNat := e1
  rw [show (((1 * r 0 + 0) + 0)).toNat = (r 0).toNat by omega] at e1
  obtain ⟨g2, hh, q2, e2⟩ := hh
  subst q2
  have e2 : r 14 = ((1 * r 7 + 0) + 0) * ((1 * r 13 + 0) + 0) := e2
  try simp only [Int.one_mul, Int.zero_add, Int.add_zero] at e2
  obtain ⟨g3, hh, q3, e3⟩ := hh
  subst q3
  have e3 : r 13 = g 2 (((1 * r 0 + 0) + 0)).toNat := e3
  rw [show (((1 * r 0 + 0) + 0)).toNat = (r 0).toNat by omega] at e3
  have hh : g = gi := hh
  subst hh
  refine yt_dalt (by decide) (by decide) ?_
  rw [show xk_85.2.1.2.1.1.length = 13 from rfl]
  show ¬ (ye_d (g0 2) (g0 3) ((1 * ((1 * r 7 + 0) + 0) + 0) + 0) ((1 * ((1 * r 8 + 0) + 0) + 0) + 0) (((1 * r 0 + 0) + 0)).toNat = ((1 * ((1 * r 9 + 0) + 0) + 0) + 0) ∨ ye_d (g0 2) (g0 3) ((1 * ((1 * r 7 + 0) + 0) + 0) + 0) ((1 * ((1 * r 8 + 0) + 0) + 0) + 0) (((1 * r 0 + 0) + 0)).toNat = ((1 * ((1 * r 10 + 0) + 0) + 0) + 0))
  try simp only [Int.one_mul, Int.zero_add, Int.add_zero]
  rw [hgi] at e1
  rw [hgi] at e3
  try simp only [Int.one_mul, Int.zero_add, Int.add_zero] at e2 e0
  have hd : ye_d (g0 2) (g0 3) (r 7) (r 8) (r 0).toNat = r 16 + r 14 := by
    unfold ye_d
    rw [← e3, ← e1, ← e2, ← e0]
    omega
  rw [hd]
  omega
theorem xw_85_0_2 : yt_hold xT_85 xk_85 xq_85.2.2.1 xG_85 xP_85 xU_85 13 xk_85.2.1.2.2.2 (fun g0 r g => xR_85 r g0 ∧ g = g0) (1000, ([(0, 39), (0, 1), ((-9223372036854775808), 9223372036854775807), ((-9223372036854775808), 9223372036854775807), ((-9223372036854775808), 9223372036854775807), (0, 40), ((-2147483648), 2147483647), ((-600), 600), ((-600), 600), ((-1000000), 359999), ((-359999), 1000000), (0, 40), ((-2147483648), 2147483647), ((-300), 300), ((-180000), 180000), ((-300), 300), ((-180000), 180000)], [([(10, 1), (14, (-1)), (16, (-1))], (-1)), ([(16, 1), (14, 1), (9, (-1))], (-1))]), [], [], [.inl (.inr (16, ([(8, 1)], 0), ([(15, 1)], 0))), .inl (.inl (3, ([(0, 1)], 0), 15)), .inl (.inr (14, ([(7, 1)], 0), ([(13, 1)], 0))), .inl (.inl (2, ([(0, 1)], 0), 13))]) := by
  intro g0 r gi g hok hh hars hfr hG
  have b0 : 0 ≤ r 0 ∧ r 0 ≤ 39 := hok.1 0 (0, 39) rfl
  have b1 : 0 ≤ r 1 ∧ r 1 ≤ 1 := hok.1 1 (0, 1) rfl
  have b7 : (-600) ≤ r 7 ∧ r 7 ≤ 600 := hok.1 7 ((-600), 600) rfl
  have b8 : (-600) ≤ r 8 ∧ r 8 ≤ 600 := hok.1 8 ((-600), 600) rfl
  have b9 : (-1000000) ≤ r 9 ∧ r 9 ≤ 359999 := hok.1 9 ((-1000000), 359999) rfl
  have b10 : (-359999) ≤ r 10 ∧ r 10 ≤ 1000000 := hok.1 10 ((-359999), 1000000) rfl
  have b13 : (-300) ≤ r 13 ∧ r 13 ≤ 300 := hok.1 13 ((-300), 300) rfl
  have b14 : (-180000) ≤ r 14 ∧ r 14 ≤ 180000 := hok.1 14 ((-180000), 180000) rfl
  have b15 : (-300) ≤ r 15 ∧ r 15 ≤ 300 := hok.1 15 ((-300), 300) rfl
  have b16 : (-180000) ≤ r 16 ∧ r 16 ≤ 180000 := hok.1 16 ((-180000), 180000) rfl
  have f0 : 0 ≤ ((1 * r 10 + ((-1) * r 14 + ((-1) * r 16 + 0))) + (-1)) := hok.2 _ (List.mem_of_getElem? (i := 0) rfl)
  have f1 : 0 ≤ ((1 * r 16 + (1 * r 14 + ((-1) * r 9 + 0))) + (-1)) := hok.2 _ (List.mem_of_getElem? (i := 1) rfl)
  obtain ⟨hG, hgi⟩ := hG
  have hG : True := hG
  obtain ⟨g0, hh, q0, e0⟩ := hh
  subst q0
  have e0 : r 16 = ((1 * r 8 + 0) + 0) * ((1 * r 15 + 0) + 0) := e0
  try simp only [Int.one_mul, Int.zero_add, Int.add_zero] at e0
  obtain ⟨g1, hh, q1, e1⟩ := hh
  subst q1
  have e1 : r 15 = g 3 (((1 * r 0 + 0) + 0)).toNat := e1
  rw [show (((1 * r 0 + 0) + 0)).toNat = (r 0).toNat by omega] at e1
  obtain ⟨g2, hh, q2, e2⟩ := hh
  subst q2
  have e2 : r 14 = ((1 * r 7 + 0) + 0) * ((1 * r 13 + 0) + 0) := e2
  try simp only [Int.one_mul, Int.zero_add, Int.add_zero] at e2
  obtain ⟨g3, hh, q3, e3⟩ := hh
  subst q3
  have e3 : r 13 = g 2 (((1 * r 0 + 0) + 0)).toNat := e3
  rw [show (((1 * r 0 + 0) + 0)).toNat = (r 0).toNat by omega] at e3
  have hh : g = gi := hh
  subst hh
  refine yt_dalt (by decide) (by decide) ?_
  rw [show xk_85.2.1.2.1.1.length = 13 from rfl]
  show ¬ (ye_d (g0 2) (g0 3) ((1 * ((1 * r 7 + 0) + 0) + 0) + 0) ((1 * ((1 * r 8 + 0) + 0) + 0) + 0) (((1 * r 0 + 0) + 0)).toNat = ((1 * ((1 * r 9 + 0) + 0) + 0) + 0) ∨ ye_d (g0 2) (g0 3) ((1 * ((1 * r 7 + 0) + 0) + 0) + 0) ((1 * ((1 * r 8 + 0) + 0) + 0) + 0) (((1 * r 0 + 0) + 0)).toNat = ((1 * ((1 * r 10 + 0) + 0) + 0) + 0))
  try simp only [Int.one_mul, Int.zero_add, Int.add_zero]
  rw [hgi] at e1
  rw [hgi] at e3
  try simp only [Int.one_mul, Int.zero_add, Int.add_zero] at e2 e0
  have hd : ye_d (g0 2) (g0 3) (r 7) (r 8) (r 0).toNat = r 16 + r 14 := by
    unfold ye_d
    rw [← e3, ← e1, ← e2, ← e0]
    omega
  rw [hd]
  omega
theorem xw_85_0_3 : yt_hold xT_85 xk_85 xq_85.2.2.1 xG_85 xP_85 xU_85 13 xk_85.2.1.2.2.2 (fun g0 r g => xR_85 r g0 ∧ g = g0) (1001, ([(0, 39), (0, 1), ((-9223372036854775808), 9223372036854775807), ((-9223372036854775808), 9223372036854775807), ((-9223372036854775808), 9223372036854775807), (0, 40), ((-2147483648), 2147483647), ((-600), 600), ((-600), 600), ((-1000000), 359999), ((-360000), 360000), (0, 40), ((-2147483648), 2147483647), ((-300), 300), ((-180000), 180000), ((-300), 300), ((-180000), 180000)], [([(16, (-1)), (14, (-1)), (10, 1)], 0), ([(10, (-1)), (14, 1), (16, 1)], 0), ([(16, 1), (14, 1), (9, (-1))], (-1))]), [], [], [.inl (.inr (16, ([(8, 1)], 0), ([(15, 1)], 0))), .inl (.inl (3, ([(0, 1)], 0), 15)), .inl (.inr (14, ([(7, 1)], 0), ([(13, 1)], 0))), .inl (.inl (2, ([(0, 1)], 0), 13))]) := by
  intro g0 r gi g hok hh hars hfr hG
  have b0 : 0 ≤ r 0 ∧ r 0 ≤ 39 := hok.1 0 (0, 39) rfl
  have b1 : 0 ≤ r 1 ∧ r 1 ≤ 1 := hok.1 1 (0, 1) rfl
  have b7 : (-600) ≤ r 7 ∧ r 7 ≤ 600 := hok.1 7 ((-600), 600) rfl
  have b8 : (-600) ≤ r 8 ∧ r 8 ≤ 600 := hok.1 8 ((-600), 600) rfl
  have b9 : (-1000000) ≤ r 9 ∧ r 9 ≤ 359999 := hok.1 9 ((-1000000), 359999) rfl
  have b10 : (-360000) ≤ r 10 ∧ r 10 ≤ 360000 := hok.1 10 ((-360000), 360000) rfl
  have b13 : (-300) ≤ r 13 ∧ r 13 ≤ 300 := hok.1 13 ((-300), 300) rfl
  have b14 : (-180000) ≤ r 14 ∧ r 14 ≤ 180000 := hok.1 14 ((-180000), 180000) rfl
  have b15 : (-300) ≤ r 15 ∧ r 15 ≤ 300 := hok.1 15 ((-300), 300) rfl
  have b16 : (-180000) ≤ r 16 ∧ r 16 ≤ 180000 := hok.1 16 ((-180000), 180000) rfl
  have f0 : 0 ≤ (((-1) * r 16 + ((-1) * r 14 + (1 * r 10 + 0))) + 0) := hok.2 _ (List.mem_of_getElem? (i := 0) rfl)
  have f1 : 0 ≤ (((-1) * r 10 + (1 * r 14 + (1 * r 16 + 0))) + 0) := hok.2 _ (List.mem_of_getElem? (i := 1) rfl)
  have f2 : 0 ≤ ((1 * r 16 + (1 * r 14 + ((-1) * r 9 + 0))) + (-1)) := hok.2 _ (List.mem_of_getElem? (i := 2) rfl)
  obtain ⟨hG, hgi⟩ := hG
  have hG : True := hG
  obtain ⟨g0, hh, q0, e0⟩ := hh
  subst q0
  have e0 : r 16 = ((1 * r 8 + 0) + 0) * ((1 * r 15 + 0) + 0) := e0
  try simp only [Int.one_mul, Int.zero_add, Int.add_zero] at e0
  obtain ⟨g1, hh, q1, e1⟩ := hh
  subst q1
  have e1 : r 15 = g 3 (((1 * r 0 + 0) + 0)).toNat := e1
  rw [show (((1 * r 0 + 0) + 0)).toNat = (r 0).toNat by omega] at e1
  obtain ⟨g2, hh, q2, e2⟩ := hh
  subst q2
  have e2 : r 14 = ((1 * r 7 + 0) + 0) * ((1 * r 13 + 0) + 0) := e2
  try simp only [Int.one_mul, Int.zero_add, Int.add_zero] at e2
  obtain ⟨g3, hh, q3, e3⟩ := hh
  subst q3
  have e3 : r 13 = g 2 (((1 * r 0 + 0) + 0)).toNat := e3
  rw [show (((1 * r 0 + 0) + 0)).toNat = (r 0).toNat by omega] at e3
  have hh : g = gi := hh
  subst hh
  refine yt_dalt (by decide) (by decide) ?_
  rw [show xk_85.2.1.2.1.1.length = 13 from rfl]
  show (ye_d (g0 2) (g0 3) ((1 * ((1 * r 7 + 0) + 0) + 0) + 0) ((1 * ((1 * r 8 + 0) + 0) + 0) + 0) (((1 * r 0 + 0) + 0)).toNat = ((1 * ((1 * r 9 + 0) + 0) + 0) + 0) ∨ ye_d (g0 2) (g0 3) ((1 * ((1 * r 7 + 0) + 0) + 0) + 0) ((1 * ((1 * r 8 + 0) + 0) + 0) + 0) (((1 * r 0 + 0) + 0)).toNat = ((1 * ((1 * r 10 + 0) + 0) + 0) + 0))
  try simp only [Int.one_mul, Int.zero_add, Int.add_zero]
  rw [hgi] at e1
  rw [hgi] at e3
  try simp only [Int.one_mul, Int.zero_add, Int.add_zero] at e2 e0
  have hd : ye_d (g0 2) (g0 3) (r 7) (r 8) (r 0).toNat = r 16 + r 14 := by
    unfold ye_d
    rw [← e3, ← e1, ← e2, ← e0]
    omega
  rw [hd]
  omega
theorem xw_85_0_4 : yt_hold xT_85 xk_85 xq_85.2.2.1 xG_85 xP_85 xU_85 13 xk_85.2.1.2.2.2 (fun g0 r g => xR_85 r g0 ∧ g = g0) (1000, ([(0, 39), (0, 1), ((-9223372036854775808), 9223372036854775807), ((-9223372036854775808), 9223372036854775807), ((-9223372036854775808), 9223372036854775807), (0, 40), ((-2147483648), 2147483647), ((-600), 600), ((-600), 600), ((-359999), 1000000), ((-1000000), 359999), (0, 40), ((-2147483648), 2147483647), ((-300), 300), ((-180000), 180000), ((-300), 300), ((-180000), 180000)], [([(16, 1), (14, 1), (10, (-1))], (-1)), ([(9, 1), (14, (-1)), (16, (-1))], (-1))]), [], [], [.inl (.inr (16, ([(8, 1)], 0), ([(15, 1)], 0))), .inl (.inl (3, ([(0, 1)], 0), 15)), .inl (.inr (14, ([(7, 1)], 0), ([(13, 1)], 0))), .inl (.inl (2, ([(0, 1)], 0), 13))]) := by
  intro g0 r gi g hok hh hars hfr hG
  have b0 : 0 ≤ r 0 ∧ r 0 ≤ 39 := hok.1 0 (0, 39) rfl
  have b1 : 0 ≤ r 1 ∧ r 1 ≤ 1 := hok.1 1 (0, 1) rfl
  have b7 : (-600) ≤ r 7 ∧ r 7 ≤ 600 := hok.1 7 ((-600), 600) rfl
  have b8 : (-600) ≤ r 8 ∧ r 8 ≤ 600 := hok.1 8 ((-600), 600) rfl
  have b9 : (-359999) ≤ r 9 ∧ r 9 ≤ 1000000 := hok.1 9 ((-359999), 1000000) rfl
  have b10 : (-1000000) ≤ r 10 ∧ r 10 ≤ 359999 := hok.1 10 ((-1000000), 359999) rfl
  have b13 : (-300) ≤ r 13 ∧ r 13 ≤ 300 := hok.1 13 ((-300), 300) rfl
  have b14 : (-180000) ≤ r 14 ∧ r 14 ≤ 180000 := hok.1 14 ((-180000), 180000) rfl
  have b15 : (-300) ≤ r 15 ∧ r 15 ≤ 300 := hok.1 15 ((-300), 300) rfl
  have b16 : (-180000) ≤ r 16 ∧ r 16 ≤ 180000 := hok.1 16 ((-180000), 180000) rfl
  have f0 : 0 ≤ ((1 * r 16 + (1 * r 14 + ((-1) * r 10 + 0))) + (-1)) := hok.2 _ (List.mem_of_getElem? (i := 0) rfl)
  have f1 : 0 ≤ ((1 * r 9 + ((-1) * r 14 + ((-1) * r 16 + 0))) + (-1)) := hok.2 _ (List.mem_of_getElem? (i := 1) rfl)
  obtain ⟨hG, hgi⟩ := hG
  have hG : True := hG
  obtain ⟨g0, hh, q0, e0⟩ := hh
  subst q0
  have e0 : r 16 = ((1 * r 8 + 0) + 0) * ((1 * r 15 + 0) + 0) := e0
  try simp only [Int.one_mul, Int.zero_add, Int.add_zero] at e0
  obtain ⟨g1, hh, q1, e1⟩ := hh
  subst q1
  have e1 : r 15 = g 3 (((1 * r 0 + 0) + 0)).toNat := e1
  rw [show (((1 * r 0 + 0) + 0)).toNat = (r 0).toNat by omega] at e1
  obtain ⟨g2, hh, q2, e2⟩ := hh
  subst q2
  have e2 : r 14 = ((1 * r 7 + 0) + 0) * ((1 * r 13 + 0) + 0) := e2
  try simp only [Int.one_mul, Int.zero_add, Int.add_zero] at e2
  obtain ⟨g3, hh, q3, e3⟩ := hh
  subst q3
  have e3 : r 13 = g 2 (((1 * r 0 + 0) + 0)).toNat := e3
  rw [show (((1 * r 0 + 0) + 0)).toNat = (r 0).toNat by omega] at e3
  have hh : g = gi := hh
  subst hh
  refine yt_dalt (by decide) (by decide) ?_
  rw [show xk_85.2.1.2.1.1.length = 13 from rfl]
  show ¬ (ye_d (g0 2) (g0 3) ((1 * ((1 * r 7 + 0) + 0) + 0) + 0) ((1 * ((1 * r 8 + 0) + 0) + 0) + 0) (((1 * r 0 + 0) + 0)).toNat = ((1 * ((1 * r 9 + 0) + 0) + 0) + 0) ∨ ye_d (g0 2) (g0 3) ((1 * ((1 * r 7 + 0) + 0) + 0) + 0) ((1 * ((1 * r 8 + 0) + 0) + 0) + 0) (((1 * r 0 + 0) + 0)).toNat = ((1 * ((1 * r 10 + 0) + 0) + 0) + 0))
  try simp only [Int.one_mul, Int.zero_add, Int.add_zero]
  rw [hgi] at e1
  rw [hgi] at e3
  try simp only [Int.one_mul, Int.zero_add, Int.add_zero] at e2 e0
  have hd : ye_d (g0 2) (g0 3) (r 7) (r 8) (r 0).toNat = r 16 + r 14 := by
    unfold ye_d
    rw [← e3, ← e1, ← e2, ← e0]
    omega
  rw [hd]
  omega
theorem xw_85_0_5 : yt_hold xT_85 xk_85 xq_85.2.2.1 xG_85 xP_85 xU_85 13 xk_85.2.1.2.2.2 (fun g0 r g => xR_85 r g0 ∧ g = g0) (1000, ([(0, 39), (0, 1), ((-9223372036854775808), 9223372036854775807), ((-9223372036854775808), 9223372036854775807), ((-9223372036854775808), 9223372036854775807), (0, 40), ((-2147483648), 2147483647), ((-600), 600), ((-600), 600), ((-359999), 1000000), ((-359999), 1000000), (0, 40), ((-2147483648), 2147483647), ((-300), 300), ((-180000), 180000), ((-300), 300), ((-180000), 180000)], [([(10, 1), (14, (-1)), (16, (-1))], (-1)), ([(9, 1), (14, (-1)), (16, (-1))], (-1))]), [], [], [.inl (.inr (16, ([(8, 1)], 0), ([(15, 1)], 0))), .inl (.inl (3, ([(0, 1)], 0), 15)), .inl (.inr (14, ([(7, 1)], 0), ([(13, 1)], 0))), .inl (.inl (2, ([(0, 1)], 0), 13))]) := by
  intro g0 r gi g hok hh hars hfr hG
  have b0 : 0 ≤ r 0 ∧ r 0 ≤ 39 := hok.1 0 (0, 39) rfl
  have b1 : 0 ≤ r 1 ∧ r 1 ≤ 1 := hok.1 1 (0, 1) rfl
  have b7 : (-600) ≤ r 7 ∧ r 7 ≤ 600 := hok.1 7 ((-600), 600) rfl
  have b8 : (-600) ≤ r 8 ∧ r 8 ≤ 600 := hok.1 8 ((-600), 600) rfl
  have b9 : (-359999) ≤ r 9 ∧ r 9 ≤ 1000000 := hok.1 9 ((-359999), 1000000) rfl
  have b10 : (-359999) ≤ r 10 ∧ r 10 ≤ 1000000 := hok.1 10 ((-359999), 1000000) rfl
  have b13 : (-300) ≤ r 13 ∧ r 13 ≤ 300 := hok.1 13 ((-300), 300) rfl
  have b14 : (-180000) ≤ r 14 ∧ r 14 ≤ 180000 := hok.1 14 ((-180000), 180000) rfl
  have b15 : (-300) ≤ r 15 ∧ r 15 ≤ 300 := hok.1 15 ((-300), 300) rfl
  have b16 : (-180000) ≤ r 16 ∧ r 16 ≤ 180000 := hok.1 16 ((-180000), 180000) rfl
  have f0 : 0 ≤ ((1 * r 10 + ((-1) * r 14 + ((-1) * r 16 + 0))) + (-1)) := hok.2 _ (List.mem_of_getElem? (i := 0) rfl)
  have f1 : 0 ≤ ((1 * r 9 + ((-1) * r 14 + ((-1) * r 16 + 0))) + (-1)) := hok.2 _ (List.mem_of_getElem? (i := 1) rfl)
  obtain ⟨hG, hgi⟩ := hG
  have hG : True := hG
  obtain ⟨g0, hh, q0, e0⟩ := hh
  subst q0
  have e0 : r 16 = ((1 * r 8 + 0) + 0) * ((1 * r 15 + 0) + 0) := e0
  try simp only [Int.one_mul, Int.zero_add, Int.add_zero] at e0
  obtain ⟨g1, hh, q1, e1⟩ := hh
  subst q1
  have e1 : r 15 = g 3 (((1 * r 0 + 0) + 0)).toNat := e1
  rw [show (((1 * r 0 + 0) + 0)).toNat = (r 0).toNat by omega] at e1
  obtain ⟨g2, hh, q2, e2⟩ := hh
  subst q2
  have e2 : r 14 = ((1 * r 7 + 0) + 0) * ((1 * r 13 + 0) + 0) := e2
  try simp only [Int.one_mul, Int.zero_add, Int.add_zero] at e2
  obtain ⟨g3, hh, q3, e3⟩ := hh
  subst q3
  have e3 : r 13 = g 2 (((1 * r 0 + 0) + 0)).toNat := e3
  rw [show (((1 * r 0 + 0) + 0)).toNat = (r 0).toNat by omega] at e3
  have hh : g = gi := hh
  subst hh
  refine yt_dalt (by decide) (by decide) ?_
  rw [show xk_85.2.1.2.1.1.length = 13 from rfl]
  show ¬ (ye_d (g0 2) (g0 3) ((1 * ((1 * r 7 + 0) + 0) + 0) + 0) ((1 * ((1 * r 8 + 0) + 0) + 0) + 0) (((1 * r 0 + 0) + 0)).toNat = ((1 * ((1 * r 9 + 0) + 0) + 0) + 0) ∨ ye_d (g0 2) (g0 3) ((1 * ((1 * r 7 + 0) + 0) + 0) + 0) ((1 * ((1 * r 8 + 0) + 0) + 0) + 0) (((1 * r 0 + 0) + 0)).toNat = ((1 * ((1 * r 10 + 0) + 0) + 0) + 0))
  try simp only [Int.one_mul, Int.zero_add, Int.add_zero]
  rw [hgi] at e1
  rw [hgi] at e3
  try simp only [Int.one_mul, Int.zero_add, Int.add_zero] at e2 e0
  have hd : ye_d (g0 2) (g0 3) (r 7) (r 8) (r 0).toNat = r 16 + r 14 := by
    unfold ye_d
    rw [← e3, ← e1, ← e2, ← e0]
    omega
  rw [hd]
  omega
theorem xw_85_0_6 : yt_hold xT_85 xk_85 xq_85.2.2.1 xG_85 xP_85 xU_85 13 xk_85.2.1.2.2.2 (fun g0 r g => xR_85 r g0 ∧ g = g0) (1001, ([(0, 39), (0, 1), ((-9223372036854775808), 9223372036854775807), ((-9223372036854775808), 9223372036854775807), ((-9223372036854775808), 9223372036854775807), (0, 40), ((-2147483648), 2147483647), ((-600), 600), ((-600), 600), ((-359999), 1000000), ((-360000), 360000), (0, 40), ((-2147483648), 2147483647), ((-300), 300), ((-180000), 180000), ((-300), 300), ((-180000), 180000)], [([(16, (-1)), (14, (-1)), (10, 1)], 0), ([(10, (-1)), (14, 1), (16, 1)], 0), ([(9, 1), (14, (-1)), (16, (-1))], (-1))]), [], [], [.inl (.inr (16, ([(8, 1)], 0), ([(15, 1)], 0))), .inl (.inl (3, ([(0, 1)], 0), 15)), .inl (.inr (14, ([(7, 1)], 0), ([(13, 1)], 0))), .inl (.inl (2, ([(0, 1)], 0), 13))]) := by
  intro g0 r gi g hok hh hars hfr hG
  have b0 : 0 ≤ r 0 ∧ r 0 ≤ 39 := hok.1 0 (0, 39) rfl
  have b1 : 0 ≤ r 1 ∧ r 1 ≤ 1 := hok.1 1 (0, 1) rfl
  have b7 : (-600) ≤ r 7 ∧ r 7 ≤ 600 := hok.1 7 ((-600), 600) rfl
  have b8 : (-600) ≤ r 8 ∧ r 8 ≤ 600 := hok.1 8 ((-600), 600) rfl
  have b9 : (-359999) ≤ r 9 ∧ r 9 ≤ 1000000 := hok.1 9 ((-359999), 1000000) rfl
  have b10 : (-360000) ≤ r 10 ∧ r 10 ≤ 360000 := hok.1 10 ((-360000), 360000) rfl
  have b13 : (-300) ≤ r 13 ∧ r 13 ≤ 300 := hok.1 13 ((-300), 300) rfl
  have b14 : (-180000) ≤ r 14 ∧ r 14 ≤ 180000 := hok.1 14 ((-180000), 180000) rfl
  have b15 : (-300) ≤ r 15 ∧ r 15 ≤ 300 := hok.1 15 ((-300), 300) rfl
  have b16 : (-180000) ≤ r 16 ∧ r 16 ≤ 180000 := hok.1 16 ((-180000), 180000) rfl
  have f0 : 0 ≤ (((-1) * r 16 + ((-1) * r 14 + (1 * r 10 + 0))) + 0) := hok.2 _ (List.mem_of_getElem? (i := 0) rfl)
  have f1 : 0 ≤ (((-1) * r 10 + (1 * r 14 + (1 * r 16 + 0))) + 0) := hok.2 _ (List.mem_of_getElem? (i := 1) rfl)
  have f2 : 0 ≤ ((1 * r 9 + ((-1) * r 14 + ((-1) * r 16 + 0))) + (-1)) := hok.2 _ (List.mem_of_getElem? (i := 2) rfl)
  obtain ⟨hG, hgi⟩ := hG
  have hG : True := hG
  obtain ⟨g0, hh, q0, e0⟩ := hh
  subst q0
  have e0 : r 16 = ((1 * r 8 + 0) + 0) * ((1 * r 15 + 0) + 0) := e0
  try simp only [Int.one_mul, Int.zero_add, Int.add_zero] at e0
  obtain ⟨g1, hh, q1, e1⟩ := hh
  subst q1
  have e1 : r 15 = g 3 (((1 * r 0 + 0) + 0)).toNat := e1
  rw [show (((1 * r 0 + 0) + 0)).toNat = (r 0).toNat by omega] at e1
  obtain ⟨g2, hh, q2, e2⟩ := hh
  subst q2
  have e2 : r 14 = ((1 * r 7 + 0) + 0) * ((1 * r 13 + 0) + 0) := e2
  try simp only [Int.one_mul, Int.zero_add, Int.add_zero] at e2
  obtain ⟨g3, hh, q3, e3⟩ := hh
  subst q3
  have e3 : r 13 = g 2 (((1 * r 0 + 0) + 0)).toNat := e3
  rw [show (((1 * r 0 + 0) + 0)).toNat = (r 0).toNat by omega] at e3
  have hh : g = gi := hh
  subst hh
  refine yt_dalt (by decide) (by decide) ?_
  rw [show xk_85.2.1.2.1.1.length = 13 from rfl]
  show (ye_d (g0 2) (g0 3) ((1 * ((1 * r 7 + 0) + 0) + 0) + 0) ((1 * ((1 * r 8 + 0) + 0) + 0) + 0) (((1 * r 0 + 0) + 0)).toNat = ((1 * ((1 * r 9 + 0) + 0) + 0) + 0) ∨ ye_d (g0 2) (g0 3) ((1 * ((1 * r 7 + 0) + 0) + 0) + 0) ((1 * ((1 * r 8 + 0) + 0) + 0) + 0) (((1 * r 0 + 0) + 0)).toNat = ((1 * ((1 * r 10 + 0) + 0) + 0) + 0))
  try simp only [Int.one_mul, Int.zero_add, Int.add_zero]
  rw [hgi] at e1
  rw [hgi] at e3
  try simp only [Int.one_mul, Int.zero_add, Int.add_zero] at e2 e0
  have hd : ye_d (g0 2) (g0 3) (r 7) (r 8) (r 0).toNat = r 16 + r 14 := by
    unfold ye_d
    rw [← e3, ← e1, ← e2, ← e0]
    omega
  rw [hd]
  omega
theorem xn_85 : ∀ (j : Nat) (q : Nat × yt_T), xq_85.2.2.1[j]? = some q → q.2.2.2 = false → ∀ g0 r g, xG_85 j g0 r g
  | n + 0, q, hq, _ => by cases hq
theorem xs_85 : ∀ j, xq_85.2.2.2.getD j false = false → ∀ r g g', xP_85 j r g g'
  | 0, hf => by cases hf
  | 1, hf => by cases hf
  | n + 2, _ => fun _ _ _ => trivial
theorem xc_85 {l : Launch} {D : va_G} {cT : Nat → ClassId} {tys : List (ClassId × FieldType)} (hty : yx_Ty tys cT) : yt_Con l D vwCl cT tys yG yw_s51 xk_85 xR_85 xP_85 := yx_sem (calls := xa_85) (Z := xq_85) (tb := xT_85) (pt := xU_85) (Ga := xG_85) (vs := xv_85) (fun _ _ _ _ => trivial) 300 (by decide +kernel) yz_X10_isAtSide_ok hty (yl_lkX10 _) (yl_cqkX10 _) (fun _ h => absurd h List.not_mem_nil) (xn_85) (xs_85) (by decide +kernel) (List.forall_mem_cons.mpr ⟨xw_85_0_0, List.forall_mem_cons.mpr ⟨xw_85_0_1, List.forall_mem_cons.mpr ⟨xw_85_0_2, List.forall_mem_cons.mpr ⟨xw_85_0_3, List.forall_mem_cons.mpr ⟨xw_85_0_4, List.forall_mem_cons.mpr ⟨xw_85_0_5, List.forall_mem_cons.mpr ⟨xw_85_0_6, fun _ h => absurd h List.not_mem_nil⟩⟩⟩⟩⟩⟩⟩) (trivial)
noncomputable def yw_s52 : List ys_C := [.inl 10, .inl 1, .inl 6, .inr (0, 40, []), .inr (0, 40, [])]
noncomputable def yw_f52 (n : Nat) : List (List ys_V) := [[.inr (some 1), .inl (.inl ([(n + 0, 1)], 0)), .inl (.inr ([(n + 1, 1)], 0)), .inl (.inr ([(n + 2, 1)], 0)), .inl (.inr ([(n + 3, 1)], 0)), .inl (.inl ([(n + 4, 1)], 0)), .inl (.inl ([(n + 5, 1)], 0)), .inl (.inl ([(n + 6, 1)], 0)), .inl (.inl ([(n + 7, 1)], 0)), .inl (.inl ([(n + 8, 1)], 0)), .inl (.inl ([(n + 9, 1)], 0))], [.inl (.inr ([(n + 10, 1)], 0)), .inl (.inr ([(n + 11, 1)], 0))], [.inr (some 3), .inr (some 4), .inr (some 5), .inr (some 6), .inl (.inl ([(n + 12, 1)], 0)), .inl (.inl ([(n + 13, 1)], 0))], [], []]
noncomputable def yw_e52 : ys_E := [(0, 1), ((-9223372036854775808), 9223372036854775807), ((-9223372036854775808), 9223372036854775807), ((-9223372036854775808), 9223372036854775807), (0, 40), ((-2147483648), 2147483647), ((-600), 600), ((-600), 600), ((-1000000), 1000000), ((-1000000), 1000000), ((-9223372036854775808), 9223372036854775807), ((-9223372036854775808), 9223372036854775807), (0, 40), ((-2147483648), 2147483647)]
noncomputable def yw_r52 : List ys_R := [((0, 0), []), ((0, 0), []), ((0, 0), []), (((-300), 300), []), (((-300), 300), [])]
noncomputable def xf_86 : ys_F := (yw_f52 0, yw_r52)
noncomputable def xk_86 : ys_K := (((yX10_finish, cX10_finish, 9, none), (3, 71)), ([.inr (some 0), .inr (some 2)], ([] ++ yw_e52, []), xf_86), ([([((-1200), 4000), ((-1200), 1200), ((-2000000), 2000000), (0, 40), ((-9223372036854775808), 9223372036854775807), ((-9223372036854775808), 9223372036854775807)], [], ((ys_fs xf_86.1 [(0, 2, .inl (.inr ([(14, 1)], 0))), (0, 3, .inl (.inr ([(15, 1)], 0))), (0, 4, .inl (.inr ([(16, 1)], 0))), (0, 5, .inl (.inl ([(17, 1)], 0))), (1, 0, .inl (.inr ([(18, 1)], 0))), (1, 1, .inl (.inr ([(19, 1)], 0)))]), xf_86.2), none)], []))
noncomputable def xq_86 : yt_Q := (yz_X10_finish, (yl_flX10, yl_ciX10, yl_cjX10, yl_cpX10, yl_cqX10), [(123, ([(0, 40), ((-1200), 4000), ((-1200), 1200), ((-2000000), 2000000), (0, 40), ((-9223372036854775808), 9223372036854775807), ((-9223372036854775808), 9223372036854775807)], [], ((ys_fs xf_86.1 [(0, 2, .inl (.inr ([(15, 1)], 0))), (0, 3, .inl (.inr ([(16, 1)], 0))), (0, 4, .inl (.inr ([(17, 1)], 0))), (0, 5, .inl (.inl ([(18, 1)], 0))), (1, 0, .inl (.inr ([(19, 1)], 0))), (1, 1, .inl (.inr ([(20, 1)], 0)))]), xf_86.2), [(0, .inr (some 0)), (1, .inr (some 2)), (8, .inl (.inl ([(14, 1)], 0)))], [], ([(14, (-1))], 40)), [([(18, 1)], 0), ([(18, (-1)), (14, 1)], 0)], true)], [true])
noncomputable def xa_86 : List yt_CE := [(((103, true), (300, false, [])), (yw_s2, xk_82)), (((107, false), (313, false, [1])), (yw_s50, xk_84)), (((113, true), (312, false, [])), (yw_s2, xk_83)), (((116, false), (314, false, [0, 2, 3, 4, 1, 5, 6])), (yw_s51, xk_85))]
noncomputable def xv_86 : List (List yt_VC) := [[(0, ([(0, 1), ((-9223372036854775808), 9223372036854775807), ((-9223372036854775808), 9223372036854775807), ((-9223372036854775808), 9223372036854775807), (0, 40), ((-2147483648), 2147483647), ((-600), 600), ((-600), 600), ((-1000000), 1000000), ((-1000000), 1000000), ((-9223372036854775808), 9223372036854775807), ((-9223372036854775808), 9223372036854775807), (0, 40), ((-2147483648), 2147483647), (0, 4000000000000), (0, 720000), ((-9223372036854775808), 9223372036854775807), ((-9223372036854775808), 9223372036854775807), (1, 4611686018427387904), (1, 4611686018427387904), (0, 0), (0, 0), (0, 0)], [([(19, 1), (8, (-1)), (9, (-1))], (-1)), ([(9, 1), (8, 1)], 0), ([(19, 1), (7, (-2))], (-1)), ([(7, 2)], 0), ([(19, 1), (6, (-2))], (-1)), ([(6, 2)], 0)]), [([], 0), ([], 0), ([], 0), ([], 0), ([], 0), ([(16, 1)], 0), ([(17, 1)], 0)], [], [.inr (.inr (.inl (998, 1, [([(9, 1), (8, 1)], 0), ([(19, 1)], 0), ([], 0)], [], []))), .inr (.inr (.inl (998, 1, [([(7, 2)], 0), ([(19, 1)], 0), ([], 0)], [], []))), .inr (.inr (.inl (998, 1, [([(6, 2)], 0), ([(19, 1)], 0), ([], 0)], [], []))), .inr (.inr (.inl (312, 0, [([(18, 1)], 0), ([(9, 1), (8, 1)], 0), ([(19, 1)], 0)], [], []))), .inr (.inr (.inl (312, 0, [([(6, 2)], 0), ([(7, 2)], 0), ([(18, 1)], 0)], [], []))), .inr (.inr (.inl (313, 0, [([(14, 1)], 0), ([(15, 1)], 0), ([(10, 1)], 0), ([(11, 1)], 0), ([(16, 1)], 0), ([(17, 1)], 0)], [1], []))), .inr (.inr (.inl (300, 0, [([(6, 1)], 0), ([(7, 1)], 0), ([(15, 1)], 0)], [], []))), .inl (.inr (14, ([(9, (-1)), (8, 1)], 0), ([(9, (-1)), (8, 1)], 0)))]),
   (0, ([(0, 1), ((-9223372036854775808), 9223372036854775807), ((-9223372036854775808), 9223372036854775807), ((-9223372036854775808), 9223372036854775807), (0, 40), ((-2147483648), 2147483647), ((-600), 600), ((-600), 600), ((-999999), 1000000), ((-999999), 1000000), ((-9223372036854775808), 9223372036854775807), ((-9223372036854775808), 9223372036854775807), (0, 40), ((-2147483648), 2147483647), (0, 4000000000000), (0, 720000), ((-9223372036854775808), 9223372036854775807), ((-9223372036854775808), 9223372036854775807), (1, 4611686018427387904), (1, 2000000), (0, 0), (0, 0), (1, 2000000)], [([(22, (-1)), (8, 1), (9, 1)], 0), ([(19, (-1)), (8, 1), (9, 1)], 0), ([(19, 1), (7, (-2))], (-1)), ([(7, 2)], 0), ([(19, 1), (6, (-2))], (-1)), ([(6, 2)], 0)]), [([], 0), ([], 0), ([], 0), ([(22, 1)], 0), ([], 0), ([(16, 1)], 0), ([(17, 1)], 0)], [], [.inr (.inr (.inl (998, 1, [([(9, 1), (8, 1)], 0), ([(19, 1)], 0), ([(22, 1)], 0)], [], []))), .inr (.inr (.inl (998, 1, [([(7, 2)], 0), ([(19, 1)], 0), ([], 0)], [], []))), .inr (.inr (.inl (998, 1, [([(6, 2)], 0), ([(19, 1)], 0), ([], 0)], [], []))), .inr (.inr (.inl (312, 0, [([(18, 1)], 0), ([(9, 1), (8, 1)], 0), ([(19, 1)], 0)], [], []))), .inr (.inr (.inl (312, 0, [([(6, 2)], 0), ([(7, 2)], 0), ([(18, 1)], 0)], [], []))), .inr (.inr (.inl (313, 0, [([(14, 1)], 0), ([(15, 1)], 0), ([(10, 1)], 0), ([(11, 1)], 0), ([(16, 1)], 0), ([(17, 1)], 0)], [1], []))), .inr (.inr (.inl (300, 0, [([(6, 1)], 0), ([(7, 1)], 0), ([(15, 1)], 0)], [], []))), .inl (.inr (14, ([(9, (-1)), (8, 1)], 0), ([(9, (-1)), (8, 1)], 0)))]),
   (0, ([(0, 1), ((-9223372036854775808), 9223372036854775807), ((-9223372036854775808), 9223372036854775807), ((-9223372036854775808), 9223372036854775807), (0, 40), ((-2147483648), 2147483647), ((-600), 600), ((-600), 600), ((-1000000), 999999), ((-1000000), 999999), ((-9223372036854775808), 9223372036854775807), ((-9223372036854775808), 9223372036854775807), (0, 40), ((-2147483648), 2147483647), (0, 4000000000000), (0, 720000), ((-9223372036854775808), 9223372036854775807), ((-9223372036854775808), 9223372036854775807), (1, 4611686018427387904), (1, 4611686018427387904), (0, 0), (0, 0), ((-2000000), 0)], [([(9, (-1)), (8, (-1)), (22, 1)], 0), ([(8, (-1)), (9, (-1))], (-1)), ([(19, 1), (7, (-2))], (-1)), ([(7, 2)], 0), ([(19, 1), (6, (-2))], (-1)), ([(6, 2)], 0)]), [([], 0), ([], 0), ([], 0), ([(22, 1)], 0), ([], 0), ([(16, 1)], 0), ([(17, 1)], 0)], [], [.inr (.inr (.inl (998, 1, [([(9, 1), (8, 1)], 0), ([(19, 1)], 0), ([(22, 1)], 0)], [], []))), .inr (.inr (.inl (998, 1, [([(7, 2)], 0), ([(19, 1)], 0), ([], 0)], [], []))), .inr (.inr (.inl (998, 1, [([(6, 2)], 0), ([(19, 1)], 0), ([], 0)], [], []))), .inr (.inr (.inl (312, 0, [([(18, 1)], 0), ([(9, 1), (8, 1)], 0), ([(19, 1)], 0)], [], []))), .inr (.inr (.inl (312, 0, [([(6, 2)], 0), ([(7, 2)], 0), ([(18, 1)], 0)], [], []))), .inr (.inr (.inl (313, 0, [([(14, 1)], 0), ([(15, 1)], 0), ([(10, 1)], 0), ([(11, 1)], 0), ([(16, 1)], 0), ([(17, 1)], 0)], [1], []))), .inr (.inr (.inl (300, 0, [([(6, 1)], 0), ([(7, 1)], 0), ([(15, 1)], 0)], [], []))), .inl (.inr (14, ([(9, (-1)), (8, 1)], 0), ([(9, (-1)), (8, 1)], 0)))]),
   (0, ([(0, 1), ((-9223372036854775808), 9223372036854775807), ((-9223372036854775808), 9223372036854775807), ((-9223372036854775808), 9223372036854775807), (0, 40), ((-2147483648), 2147483647), ((-600), 600), ((-600), 600), ((-1000000), 1000000), ((-1000000), 1000000), ((-9223372036854775808), 9223372036854775807), ((-9223372036854775808), 9223372036854775807), (0, 40), ((-2147483648), 2147483647), (0, 4000000000000), (0, 720000), ((-9223372036854775808), 9223372036854775807), ((-9223372036854775808), 9223372036854775807), (1, 4611686018427387904), (1, 1200), (0, 0), (1, 1200), (0, 0)], [([(19, 1), (8, (-1)), (9, (-1))], (-1)), ([(9, 1), (8, 1)], 0), ([(21, (-1)), (7, 2)], 0), ([(19, (-1)), (7, 2)], 0), ([(19, 1), (6, (-2))], (-1)), ([(6, 2)], 0)]), [([], 0), ([], 0), ([(21, 1)], 0), ([], 0), ([], 0), ([(16, 1)], 0), ([(17, 1)], 0)], [], [.inr (.inr (.inl (998, 1, [([(9, 1), (8, 1)], 0), ([(19, 1)], 0), ([], 0)], [], []))), .inr (.inr (.inl (998, 1, [([(7, 2)], 0), ([(19, 1)], 0), ([(21, 1)], 0)], [], []))), .inr (.inr (.inl (998, 1, [([(6, 2)], 0), ([(19, 1)], 0), ([], 0)], [], []))), .inr (.inr (.inl (312, 0, [([(18, 1)], 0), ([(9, 1), (8, 1)], 0), ([(19, 1)], 0)], [], []))), .inr (.inr (.inl (312, 0, [([(6, 2)], 0), ([(7, 2)], 0), ([(18, 1)], 0)], [], []))), .inr (.inr (.inl (313, 0, [([(14, 1)], 0), ([(15, 1)], 0), ([(10, 1)], 0), ([(11, 1)], 0), ([(16, 1)], 0), ([(17, 1)], 0)], [1], []))), .inr (.inr (.inl (300, 0, [([(6, 1)], 0), ([(7, 1)], 0), ([(15, 1)], 0)], [], []))), .inl (.inr (14, ([(9, (-1)), (8, 1)], 0), ([(9, (-1)), (8, 1)], 0)))]),
   (0, ([(0, 1), ((-9223372036854775808), 9223372036854775807), ((-9223372036854775808), 9223372036854775807), ((-9223372036854775808), 9223372036854775807), (0, 40), ((-2147483648), 2147483647), ((-600), 600), ((-600), 600), ((-999999), 1000000), ((-999999), 1000000), ((-9223372036854775808), 9223372036854775807), ((-9223372036854775808), 9223372036854775807), (0, 40), ((-2147483648), 2147483647), (0, 4000000000000), (0, 720000), ((-9223372036854775808), 9223372036854775807), ((-9223372036854775808), 9223372036854775807), (1, 4611686018427387904), (1, 1200), (0, 0), (1, 1200), (1, 2000000)], [([(22, (-1)), (8, 1), (9, 1)], 0), ([(19, (-1)), (8, 1), (9, 1)], 0), ([(21, (-1)), (7, 2)], 0), ([(19, (-1)), (7, 2)], 0), ([(19, 1), (6, (-2))], (-1)), ([(6, 2)], 0)]), [([], 0), ([], 0), ([(21, 1)], 0), ([(22, 1)], 0), ([], 0), ([(16, 1)], 0), ([(17, 1)], 0)], [], [.inr (.inr (.inl (998, 1, [([(9, 1), (8, 1)], 0), ([(19, 1)], 0), ([(22, 1)], 0)], [], []))), .inr (.inr (.inl (998, 1, [([(7, 2)], 0), ([(19, 1)], 0), ([(21, 1)], 0)], [], []))), .inr (.inr (.inl (998, 1, [([(6, 2)], 0), ([(19, 1)], 0), ([], 0)], [], []))), .inr (.inr (.inl (312, 0, [([(18, 1)], 0), ([(9, 1), (8, 1)], 0), ([(19, 1)], 0)], [], []))), .inr (.inr (.inl (312, 0, [([(6, 2)], 0), ([(7, 2)], 0), ([(18, 1)], 0)], [], []))), .inr (.inr (.inl (313, 0, [([(14, 1)], 0), ([(15, 1)], 0), ([(10, 1)], 0), ([(11, 1)], 0), ([(16, 1)], 0), ([(17, 1)], 0)], [1], []))), .inr (.inr (.inl (300, 0, [([(6, 1)], 0), ([(7, 1)], 0), ([(15, 1)], 0)], [], []))), .inl (.inr (14, ([(9, (-1)), (8, 1)], 0), ([(9, (-1)), (8, 1)], 0)))]),
   (0, ([(0, 1), ((-9223372036854775808), 9223372036854775807), ((-9223372036854775808), 9223372036854775807), ((-9223372036854775808), 9223372036854775807), (0, 40), ((-2147483648), 2147483647), ((-600), 600), ((-600), 600), ((-1000000), 999999), ((-1000000), 999999), ((-9223372036854775808), 9223372036854775807), ((-9223372036854775808), 9223372036854775807), (0, 40), ((-2147483648), 2147483647), (0, 4000000000000), (0, 720000), ((-9223372036854775808), 9223372036854775807), ((-9223372036854775808), 9223372036854775807), (1, 4611686018427387904), (1, 1200), (0, 0), (1, 1200), ((-2000000), 0)], [([(9, (-1)), (8, (-1)), (22, 1)], 0), ([(8, (-1)), (9, (-1))], (-1)), ([(21, (-1)), (7, 2)], 0), ([(19, (-1)), (7, 2)], 0), ([(19, 1), (6, (-2))], (-1)), ([(6, 2)], 0)]), [([], 0), ([], 0), ([(21, 1)], 0), ([(22, 1)], 0), ([], 0), ([(16, 1)], 0), ([(17, 1)], 0)], [], [.inr (.inr (.inl (998, 1, [([(9, 1), (8, 1)], 0), ([(19, 1)], 0), ([(22, 1)], 0)], [], []))), .inr (.inr (.inl (998, 1, [([(7, 2)], 0), ([(19, 1)], 0), ([(21, 1)], 0)], [], []))), .inr (.inr (.inl (998, 1, [([(6, 2)], 0), ([(19, 1)], 0), ([], 0)], [], []))), .inr (.inr (.inl (312, 0, [([(18, 1)], 0), ([(9, 1), (8, 1)], 0), ([(19, 1)], 0)], [], []))), .inr (.inr (.inl (312, 0, [([(6, 2)], 0), ([(7, 2)], 0), ([(18, 1)], 0)], [], []))), .inr (.inr (.inl (313, 0, [([(14, 1)], 0), ([(15, 1)], 0), ([(10, 1)], 0), ([(11, 1)], 0), ([(16, 1)], 0), ([(17, 1)], 0)], [1], []))), .inr (.inr (.inl (300, 0, [([(6, 1)], 0), ([(7, 1)], 0), ([(15, 1)], 0)], [], []))), .inl (.inr (14, ([(9, (-1)), (8, 1)], 0), ([(9, (-1)), (8, 1)], 0)))]),
   (0, ([(0, 1), ((-9223372036854775808), 9223372036854775807), ((-9223372036854775808), 9223372036854775807), ((-9223372036854775808), 9223372036854775807), (0, 40), ((-2147483648), 2147483647), ((-600), 600), ((-600), 600), ((-1000000), 1000000), ((-1000000), 1000000), ((-9223372036854775808), 9223372036854775807), ((-9223372036854775808), 9223372036854775807), (0, 40), ((-2147483648), 2147483647), (0, 4000000000000), (0, 720000), ((-9223372036854775808), 9223372036854775807), ((-9223372036854775808), 9223372036854775807), (1, 4611686018427387904), (1, 4611686018427387904), (0, 0), ((-1200), 0), (0, 0)], [([(19, 1), (8, (-1)), (9, (-1))], (-1)), ([(9, 1), (8, 1)], 0), ([(7, (-2)), (21, 1)], 0), ([(7, (-2))], (-1)), ([(19, 1), (6, (-2))], (-1)), ([(6, 2)], 0)]), [([], 0), ([], 0), ([(21, 1)], 0), ([], 0), ([], 0), ([(16, 1)], 0), ([(17, 1)], 0)], [], [.inr (.inr (.inl (998, 1, [([(9, 1), (8, 1)], 0), ([(19, 1)], 0), ([], 0)], [], []))), .inr (.inr (.inl (998, 1, [([(7, 2)], 0), ([(19, 1)], 0), ([(21, 1)], 0)], [], []))), .inr (.inr (.inl (998, 1, [([(6, 2)], 0), ([(19, 1)], 0), ([], 0)], [], []))), .inr (.inr (.inl (312, 0, [([(18, 1)], 0), ([(9, 1), (8, 1)], 0), ([(19, 1)], 0)], [], []))), .inr (.inr (.inl (312, 0, [([(6, 2)], 0), ([(7, 2)], 0), ([(18, 1)], 0)], [], []))), .inr (.inr (.inl (313, 0, [([(14, 1)], 0), ([(15, 1)], 0), ([(10, 1)], 0), ([(11, 1)], 0), ([(16, 1)], 0), ([(17, 1)], 0)], [1], []))), .inr (.inr (.inl (300, 0, [([(6, 1)], 0), ([(7, 1)], 0), ([(15, 1)], 0)], [], []))), .inl (.inr (14, ([(9, (-1)), (8, 1)], 0), ([(9, (-1)), (8, 1)], 0)))]),
   (0, ([(0, 1), ((-9223372036854775808), 9223372036854775807), ((-9223372036854775808), 9223372036854775807), ((-9223372036854775808), 9223372036854775807), (0, 40), ((-2147483648), 2147483647), ((-600), 600), ((-600), 600), ((-999999), 1000000), ((-999999), 1000000), ((-9223372036854775808), 9223372036854775807), ((-9223372036854775808), 9223372036854775807), (0, 40), ((-2147483648), 2147483647), (0, 4000000000000), (0, 720000), ((-9223372036854775808), 9223372036854775807), ((-9223372036854775808), 9223372036854775807), (1, 4611686018427387904), (1, 2000000), (0, 0), ((-1200), 0), (1, 2000000)], [([(22, (-1)), (8, 1), (9, 1)], 0), ([(19, (-1)), (8, 1), (9, 1)], 0), ([(7, (-2)), (21, 1)], 0), ([(7, (-2))], (-1)), ([(19, 1), (6, (-2))], (-1)), ([(6, 2)], 0)]), [([], 0), ([], 0), ([(21, 1)], 0), ([(22, 1)], 0), ([], 0), ([(16, 1)], 0), ([(17, 1)], 0)], [], [.inr (.inr (.inl (998, 1, [([(9, 1), (8, 1)], 0), ([(19, 1)], 0), ([(22, 1)], 0)], [], []))), .inr (.inr (.inl (998, 1, [([(7, 2)], 0), ([(19, 1)], 0), ([(21, 1)], 0)], [], []))), .inr (.inr (.inl (998, 1, [([(6, 2)], 0), ([(19, 1)], 0), ([], 0)], [], []))), .inr (.inr (.inl (312, 0, [([(18, 1)], 0), ([(9, 1), (8, 1)], 0), ([(19, 1)], 0)], [], []))), .inr (.inr (.inl (312, 0, [([(6, 2)], 0), ([(7, 2)], 0), ([(18, 1)], 0)], [], []))), .inr (.inr (.inl (313, 0, [([(14, 1)], 0), ([(15, 1)], 0), ([(10, 1)], 0), ([(11, 1)], 0), ([(16, 1)], 0), ([(17, 1)], 0)], [1], []))), .inr (.inr (.inl (300, 0, [([(6, 1)], 0), ([(7, 1)], 0), ([(15, 1)], 0)], [], []))), .inl (.inr (14, ([(9, (-1)), (8, 1)], 0), ([(9, (-1)), (8, 1)], 0)))]),
   (0, ([(0, 1), ((-9223372036854775808), 9223372036854775807), ((-9223372036854775808), 9223372036854775807), ((-9223372036854775808), 9223372036854775807), (0, 40), ((-2147483648), 2147483647), ((-600), 600), ((-600), 600), ((-1000000), 999999), ((-1000000), 999999), ((-9223372036854775808), 9223372036854775807), ((-9223372036854775808), 9223372036854775807), (0, 40), ((-2147483648), 2147483647), (0, 4000000000000), (0, 720000), ((-9223372036854775808), 9223372036854775807), ((-9223372036854775808), 9223372036854775807), (1, 4611686018427387904), (1, 4611686018427387904), (0, 0), ((-1200), 0), ((-2000000), 0)], [([(9, (-1)), (8, (-1)), (22, 1)], 0), ([(8, (-1)), (9, (-1))], (-1)), ([(7, (-2)), (21, 1)], 0), ([(7, (-2))], (-1)), ([(19, 1), (6, (-2))], (-1)), ([(6, 2)], 0)]), [([], 0), ([], 0), ([(21, 1)], 0), ([(22, 1)], 0), ([], 0), ([(16, 1)], 0), ([(17, 1)], 0)], [], [.inr (.inr (.inl (998, 1, [([(9, 1), (8, 1)], 0), ([(19, 1)], 0), ([(22, 1)], 0)], [], []))), .inr (.inr (.inl (998, 1, [([(7, 2)], 0), ([(19, 1)], 0), ([(21, 1)], 0)], [], []))), .inr (.inr (.inl (998, 1, [([(6, 2)], 0), ([(19, 1)], 0), ([], 0)], [], []))), .inr (.inr (.inl (312, 0, [([(18, 1)], 0), ([(9, 1), (8, 1)], 0), ([(19, 1)], 0)], [], []))), .inr (.inr (.inl (312, 0, [([(6, 2)], 0), ([(7, 2)], 0), ([(18, 1)], 0)], [], []))), .inr (.inr (.inl (313, 0, [([(14, 1)], 0), ([(15, 1)], 0), ([(10, 1)], 0), ([(11, 1)], 0), ([(16, 1)], 0), ([(17, 1)], 0)], [1], []))), .inr (.inr (.inl (300, 0, [([(6, 1)], 0), ([(7, 1)], 0), ([(15, 1)], 0)], [], []))), .inl (.inr (14, ([(9, (-1)), (8, 1)], 0), ([(9, (-1)), (8, 1)], 0)))]),
   (0, ([(0, 1), ((-9223372036854775808), 9223372036854775807), ((-9223372036854775808), 9223372036854775807), ((-9223372036854775808), 9223372036854775807), (0, 40), ((-2147483648), 2147483647), ((-600), 600), ((-600), 600), ((-1000000), 1000000), ((-1000000), 1000000), ((-9223372036854775808), 9223372036854775807), ((-9223372036854775808), 9223372036854775807), (0, 40), ((-2147483648), 2147483647), (0, 4000000000000), (0, 720000), ((-9223372036854775808), 9223372036854775807), ((-9223372036854775808), 9223372036854775807), (1, 4611686018427387904), (1, 1200), (1, 1200), (0, 0), (0, 0)], [([(19, 1), (8, (-1)), (9, (-1))], (-1)), ([(9, 1), (8, 1)], 0), ([(19, 1), (7, (-2))], (-1)), ([(7, 2)], 0), ([(20, (-1)), (6, 2)], 0), ([(19, (-1)), (6, 2)], 0)]), [([], 0), ([(20, 1)], 0), ([], 0), ([], 0), ([], 0), ([(16, 1)], 0), ([(17, 1)], 0)], [], [.inr (.inr (.inl (998, 1, [([(9, 1), (8, 1)], 0), ([(19, 1)], 0), ([], 0)], [], []))), .inr (.inr (.inl (998, 1, [([(7, 2)], 0), ([(19, 1)], 0), ([], 0)], [], []))), .inr (.inr (.inl (998, 1, [([(6, 2)], 0), ([(19, 1)], 0), ([(20, 1)], 0)], [], []))), .inr (.inr (.inl (312, 0, [([(18, 1)], 0), ([(9, 1), (8, 1)], 0), ([(19, 1)], 0)], [], []))), .inr (.inr (.inl (312, 0, [([(6, 2)], 0), ([(7, 2)], 0), ([(18, 1)], 0)], [], []))), .inr (.inr (.inl (313, 0, [([(14, 1)], 0), ([(15, 1)], 0), ([(10, 1)], 0), ([(11, 1)], 0), ([(16, 1)], 0), ([(17, 1)], 0)], [1], []))), .inr (.inr (.inl (300, 0, [([(6, 1)], 0), ([(7, 1)], 0), ([(15, 1)], 0)], [], []))), .inl (.inr (14, ([(9, (-1)), (8, 1)], 0), ([(9, (-1)), (8, 1)], 0)))]),
   (0, ([(0, 1), ((-9223372036854775808), 9223372036854775807), ((-9223372036854775808), 9223372036854775807), ((-9223372036854775808), 9223372036854775807), (0, 40), ((-2147483648), 2147483647), ((-600), 600), ((-600), 600), ((-999999), 1000000), ((-999999), 1000000), ((-9223372036854775808), 9223372036854775807), ((-9223372036854775808), 9223372036854775807), (0, 40), ((-2147483648), 2147483647), (0, 4000000000000), (0, 720000), ((-9223372036854775808), 9223372036854775807), ((-9223372036854775808), 9223372036854775807), (1, 4611686018427387904), (1, 1200), (1, 1200), (0, 0), (1, 2000000)], [([(22, (-1)), (8, 1), (9, 1)], 0), ([(19, (-1)), (8, 1), (9, 1)], 0), ([(19, 1), (7, (-2))], (-1)), ([(7, 2)], 0), ([(20, (-1)), (6, 2)], 0), ([(19, (-1)), (6, 2)], 0)]), [([], 0), ([(20, 1)], 0), ([], 0), ([(22, 1)], 0), ([], 0), ([(16, 1)], 0), ([(17, 1)], 0)], [], [.inr (.inr (.inl (998, 1, [([(9, 1), (8, 1)], 0), ([(19, 1)], 0), ([(22, 1)], 0)], [], []))), .inr (.inr (.inl (998, 1, [([(7, 2)], 0), ([(19, 1)], 0), ([], 0)], [], []))), .inr (.inr (.inl (998, 1, [([(6, 2)], 0), ([(19, 1)], 0), ([(20, 1)], 0)], [], []))), .inr (.inr (.inl (312, 0, [([(18, 1)], 0), ([(9, 1), (8, 1)], 0), ([(19, 1)], 0)], [], []))), .inr (.inr (.inl (312, 0, [([(6, 2)], 0), ([(7, 2)], 0), ([(18, 1)], 0)], [], []))), .inr (.inr (.inl (313, 0, [([(14, 1)], 0), ([(15, 1)], 0), ([(10, 1)], 0), ([(11, 1)], 0), ([(16, 1)], 0), ([(17, 1)], 0)], [1], []))), .inr (.inr (.inl (300, 0, [([(6, 1)], 0), ([(7, 1)], 0), ([(15, 1)], 0)], [], []))), .inl (.inr (14, ([(9, (-1)), (8, 1)], 0), ([(9, (-1)), (8, 1)], 0)))]),
   (0, ([(0, 1), ((-9223372036854775808), 9223372036854775807), ((-9223372036854775808), 9223372036854775807), ((-9223372036854775808), 9223372036854775807), (0, 40), ((-2147483648), 2147483647), ((-600), 600), ((-600), 600), ((-1000000), 999999), ((-1000000), 999999), ((-9223372036854775808), 9223372036854775807), ((-9223372036854775808), 9223372036854775807), (0, 40), ((-2147483648), 2147483647), (0, 4000000000000), (0, 720000), ((-9223372036854775808), 9223372036854775807), ((-9223372036854775808), 9223372036854775807), (1, 4611686018427387904), (1, 1200), (1, 1200), (0, 0), ((-2000000), 0)], [([(9, (-1)), (8, (-1)), (22, 1)], 0), ([(8, (-1)), (9, (-1))], (-1)), ([(19, 1), (7, (-2))], (-1)), ([(7, 2)], 0), ([(20, (-1)), (6, 2)], 0), ([(19, (-1)), (6, 2)], 0)]), [([], 0), ([(20, 1)], 0), ([], 0), ([(22, 1)], 0), ([], 0), ([(16, 1)], 0), ([(17, 1)], 0)], [], [.inr (.inr (.inl (998, 1, [([(9, 1), (8, 1)], 0), ([(19, 1)], 0), ([(22, 1)], 0)], [], []))), .inr (.inr (.inl (998, 1, [([(7, 2)], 0), ([(19, 1)], 0), ([], 0)], [], []))), .inr (.inr (.inl (998, 1, [([(6, 2)], 0), ([(19, 1)], 0), ([(20, 1)], 0)], [], []))), .inr (.inr (.inl (312, 0, [([(18, 1)], 0), ([(9, 1), (8, 1)], 0), ([(19, 1)], 0)], [], []))), .inr (.inr (.inl (312, 0, [([(6, 2)], 0), ([(7, 2)], 0), ([(18, 1)], 0)], [], []))), .inr (.inr (.inl (313, 0, [([(14, 1)], 0), ([(15, 1)], 0), ([(10, 1)], 0), ([(11, 1)], 0), ([(16, 1)], 0), ([(17, 1)], 0)], [1], []))), .inr (.inr (.inl (300, 0, [([(6, 1)], 0), ([(7, 1)], 0), ([(15, 1)], 0)], [], []))), .inl (.inr (14, ([(9, (-1)), (8, 1)], 0), ([(9, (-1)), (8, 1)], 0)))]),
   (0, ([(0, 1), ((-9223372036854775808), 9223372036854775807), ((-9223372036854775808), 9223372036854775807), ((-9223372036854775808), 9223372036854775807), (0, 40), ((-2147483648), 2147483647), ((-600), 600), ((-600), 600), ((-1000000), 1000000), ((-1000000), 1000000), ((-9223372036854775808), 9223372036854775807), ((-9223372036854775808), 9223372036854775807), (0, 40), ((-2147483648), 2147483647), (0, 4000000000000), (0, 720000), ((-9223372036854775808), 9223372036854775807), ((-9223372036854775808), 9223372036854775807), (1, 4611686018427387904), (1, 1200), (1, 1200), (1, 1200), (0, 0)], [([(19, 1), (8, (-1)), (9, (-1))], (-1)), ([(9, 1), (8, 1)], 0), ([(21, (-1)), (7, 2)], 0), ([(19, (-1)), (7, 2)], 0), ([(20, (-1)), (6, 2)], 0), ([(19, (-1)), (6, 2)], 0)]), [([], 0), ([(20, 1)], 0), ([(21, 1)], 0), ([], 0), ([], 0), ([(16, 1)], 0), ([(17, 1)], 0)], [], [.inr (.inr (.inl (998, 1, [([(9, 1), (8, 1)], 0), ([(19, 1)], 0), ([], 0)], [], []))), .inr (.inr (.inl (998, 1, [([(7, 2)], 0), ([(19, 1)], 0), ([(21, 1)], 0)], [], []))), .inr (.inr (.inl (998, 1, [([(6, 2)], 0), ([(19, 1)], 0), ([(20, 1)], 0)], [], []))), .inr (.inr (.inl (312, 0, [([(18, 1)], 0), ([(9, 1), (8, 1)], 0), ([(19, 1)], 0)], [], []))), .inr (.inr (.inl (312, 0, [([(6, 2)], 0), ([(7, 2)], 0), ([(18, 1)], 0)], [], []))), .inr (.inr (.inl (313, 0, [([(14, 1)], 0), ([(15, 1)], 0), ([(10, 1)], 0), ([(11, 1)], 0), ([(16, 1)], 0), ([(17, 1)], 0)], [1], []))), .inr (.inr (.inl (300, 0, [([(6, 1)], 0), ([(7, 1)], 0), ([(15, 1)], 0)], [], []))), .inl (.inr (14, ([(9, (-1)), (8, 1)], 0), ([(9, (-1)), (8, 1)], 0)))]),
   (0, ([(0, 1), ((-9223372036854775808), 9223372036854775807), ((-9223372036854775808), 9223372036854775807), ((-9223372036854775808), 9223372036854775807), (0, 40), ((-2147483648), 2147483647), ((-600), 600), ((-600), 600), ((-999999), 1000000), ((-999999), 1000000), ((-9223372036854775808), 9223372036854775807), ((-9223372036854775808), 9223372036854775807), (0, 40), ((-2147483648), 2147483647), (0, 4000000000000), (0, 720000), ((-9223372036854775808), 9223372036854775807), ((-9223372036854775808), 9223372036854775807), (1, 4611686018427387904), (1, 1200), (1, 1200), (1, 1200), (1, 2000000)], [([(22, (-1)), (8, 1), (9, 1)], 0), ([(19, (-1)), (8, 1), (9, 1)], 0), ([(21, (-1)), (7, 2)], 0), ([(19, (-1)), (7, 2)], 0), ([(20, (-1)), (6, 2)], 0), ([(19, (-1)), (6, 2)], 0)]), [([], 0), ([(20, 1)], 0), ([(21, 1)], 0), ([(22, 1)], 0), ([], 0), ([(16, 1)], 0), ([(17, 1)], 0)], [], [.inr (.inr (.inl (998, 1, [([(9, 1), (8, 1)], 0), ([(19, 1)], 0), ([(22, 1)], 0)], [], []))), .inr (.inr (.inl (998, 1, [([(7, 2)], 0), ([(19, 1)], 0), ([(21, 1)], 0)], [], []))), .inr (.inr (.inl (998, 1, [([(6, 2)], 0), ([(19, 1)], 0), ([(20, 1)], 0)], [], []))), .inr (.inr (.inl (312, 0, [([(18, 1)], 0), ([(9, 1), (8, 1)], 0), ([(19, 1)], 0)], [], []))), .inr (.inr (.inl (312, 0, [([(6, 2)], 0), ([(7, 2)], 0), ([(18, 1)], 0)], [], []))), .inr (.inr (.inl (313, 0, [([(14, 1)], 0), ([(15, 1)], 0), ([(10, 1)], 0), ([(11, 1)], 0), ([(16, 1)], 0), ([(17, 1)], 0)], [1], []))), .inr (.inr (.inl (300, 0, [([(6, 1)], 0), ([(7, 1)], 0), ([(15, 1)], 0)], [], []))), .inl (.inr (14, ([(9, (-1)), (8, 1)], 0), ([(9, (-1)), (8, 1)], 0)))]),
   (0, ([(0, 1), ((-9223372036854775808), 9223372036854775807), ((-9223372036854775808), 9223372036854775807), ((-9223372036854775808), 9223372036854775807), (0, 40), ((-2147483648), 2147483647), ((-600), 600), ((-600), 600), ((-1000000), 999999), ((-1000000), 999999), ((-9223372036854775808), 9223372036854775807), ((-9223372036854775808), 9223372036854775807), (0, 40), ((-2147483648), 2147483647), (0, 4000000000000), (0, 720000), ((-9223372036854775808), 9223372036854775807), ((-9223372036854775808), 9223372036854775807), (1, 4611686018427387904), (1, 1200), (1, 1200), (1, 1200), ((-2000000), 0)], [([(9, (-1)), (8, (-1)), (22, 1)], 0), ([(8, (-1)), (9, (-1))], (-1)), ([(21, (-1)), (7, 2)], 0), ([(19, (-1)), (7, 2)], 0), ([(20, (-1)), (6, 2)], 0), ([(19, (-1)), (6, 2)], 0)]), [([], 0), ([(20, 1)], 0), ([(21, 1)], 0), ([(22, 1)], 0), ([], 0), ([(16, 1)], 0), ([(17, 1)], 0)], [], [.inr (.inr (.inl (998, 1, [([(9, 1), (8, 1)], 0), ([(19, 1)], 0), ([(22, 1)], 0)], [], []))), .inr (.inr (.inl (998, 1, [([(7, 2)], 0), ([(19, 1)], 0), ([(21, 1)], 0)], [], []))), .inr (.inr (.inl (998, 1, [([(6, 2)], 0), ([(19, 1)], 0), ([(20, 1)], 0)], [], []))), .inr (.inr (.inl (312, 0, [([(18, 1)], 0), ([(9, 1), (8, 1)], 0), ([(19, 1)], 0)], [], []))), .inr (.inr (.inl (312, 0, [([(6, 2)], 0), ([(7, 2)], 0), ([(18, 1)], 0)], [], []))), .inr (.inr (.inl (313, 0, [([(14, 1)], 0), ([(15, 1)], 0), ([(10, 1)], 0), ([(11, 1)], 0), ([(16, 1)], 0), ([(17, 1)], 0)], [1], []))), .inr (.inr (.inl (300, 0, [([(6, 1)], 0), ([(7, 1)], 0), ([(15, 1)], 0)], [], []))), .inl (.inr (14, ([(9, (-1)), (8, 1)], 0), ([(9, (-1)), (8, 1)], 0)))]),
   (0, ([(0, 1), ((-9223372036854775808), 9223372036854775807), ((-9223372036854775808), 9223372036854775807), ((-9223372036854775808), 9223372036854775807), (0, 40), ((-2147483648), 2147483647), ((-600), 600), ((-600), 600), ((-1000000), 1000000), ((-1000000), 1000000), ((-9223372036854775808), 9223372036854775807), ((-9223372036854775808), 9223372036854775807), (0, 40), ((-2147483648), 2147483647), (0, 4000000000000), (0, 720000), ((-9223372036854775808), 9223372036854775807), ((-9223372036854775808), 9223372036854775807), (1, 4611686018427387904), (1, 1200), (1, 1200), ((-1200), 0), (0, 0)], [([(19, 1), (8, (-1)), (9, (-1))], (-1)), ([(9, 1), (8, 1)], 0), ([(7, (-2)), (21, 1)], 0), ([(7, (-2))], (-1)), ([(20, (-1)), (6, 2)], 0), ([(19, (-1)), (6, 2)], 0)]), [([], 0), ([(20, 1)], 0), ([(21, 1)], 0), ([], 0), ([], 0), ([(16, 1)], 0), ([(17, 1)], 0)], [], [.inr (.inr (.inl (998, 1, [([(9, 1), (8, 1)], 0), ([(19, 1)], 0), ([], 0)], [], []))), .inr (.inr (.inl (998, 1, [([(7, 2)], 0), ([(19, 1)], 0), ([(21, 1)], 0)], [], []))), .inr (.inr (.inl (998, 1, [([(6, 2)], 0), ([(19, 1)], 0), ([(20, 1)], 0)], [], []))), .inr (.inr (.inl (312, 0, [([(18, 1)], 0), ([(9, 1), (8, 1)], 0), ([(19, 1)], 0)], [], []))), .inr (.inr (.inl (312, 0, [([(6, 2)], 0), ([(7, 2)], 0), ([(18, 1)], 0)], [], []))), .inr (.inr (.inl (313, 0, [([(14, 1)], 0), ([(15, 1)], 0), ([(10, 1)], 0), ([(11, 1)], 0), ([(16, 1)], 0), ([(17, 1)], 0)], [1], []))), .inr (.inr (.inl (300, 0, [([(6, 1)], 0), ([(7, 1)], 0), ([(15, 1)], 0)], [], []))), .inl (.inr (14, ([(9, (-1)), (8, 1)], 0), ([(9, (-1)), (8, 1)], 0)))]),
   (0, ([(0, 1), ((-9223372036854775808), 9223372036854775807), ((-9223372036854775808), 9223372036854775807), ((-9223372036854775808), 9223372036854775807), (0, 40), ((-2147483648), 2147483647), ((-600), 600), ((-600), 600), ((-999999), 1000000), ((-999999), 1000000), ((-9223372036854775808), 9223372036854775807), ((-9223372036854775808), 9223372036854775807), (0, 40), ((-2147483648), 2147483647), (0, 4000000000000), (0, 720000), ((-9223372036854775808), 9223372036854775807), ((-9223372036854775808), 9223372036854775807), (1, 4611686018427387904), (1, 1200), (1, 1200), ((-1200), 0), (1, 2000000)], [([(22, (-1)), (8, 1), (9, 1)], 0), ([(19, (-1)), (8, 1), (9, 1)], 0), ([(7, (-2)), (21, 1)], 0), ([(7, (-2))], (-1)), ([(20, (-1)), (6, 2)], 0), ([(19, (-1)), (6, 2)], 0)]), [([], 0), ([(20, 1)], 0), ([(21, 1)], 0), ([(22, 1)], 0), ([], 0), ([(16, 1)], 0), ([(17, 1)], 0)], [], [.inr (.inr (.inl (998, 1, [([(9, 1), (8, 1)], 0), ([(19, 1)], 0), ([(22, 1)], 0)], [], []))), .inr (.inr (.inl (998, 1, [([(7, 2)], 0), ([(19, 1)], 0), ([(21, 1)], 0)], [], []))), .inr (.inr (.inl (998, 1, [([(6, 2)], 0), ([(19, 1)], 0), ([(20, 1)], 0)], [], []))), .inr (.inr (.inl (312, 0, [([(18, 1)], 0), ([(9, 1), (8, 1)], 0), ([(19, 1)], 0)], [], []))), .inr (.inr (.inl (312, 0, [([(6, 2)], 0), ([(7, 2)], 0), ([(18, 1)], 0)], [], []))), .inr (.inr (.inl (313, 0, [([(14, 1)], 0), ([(15, 1)], 0), ([(10, 1)], 0), ([(11, 1)], 0), ([(16, 1)], 0), ([(17, 1)], 0)], [1], []))), .inr (.inr (.inl (300, 0, [([(6, 1)], 0), ([(7, 1)], 0), ([(15, 1)], 0)], [], []))), .inl (.inr (14, ([(9, (-1)), (8, 1)], 0), ([(9, (-1)), (8, 1)], 0)))]),
   (0, ([(0, 1), ((-9223372036854775808), 9223372036854775807), ((-9223372036854775808), 9223372036854775807), ((-9223372036854775808), 9223372036854775807), (0, 40), ((-2147483648), 2147483647), ((-600), 600), ((-600), 600), ((-1000000), 999999), ((-1000000), 999999), ((-9223372036854775808), 9223372036854775807), ((-9223372036854775808), 9223372036854775807), (0, 40), ((-2147483648), 2147483647), (0, 4000000000000), (0, 720000), ((-9223372036854775808), 9223372036854775807), ((-9223372036854775808), 9223372036854775807), (1, 4611686018427387904), (1, 1200), (1, 1200), ((-1200), 0), ((-2000000), 0)], [([(9, (-1)), (8, (-1)), (22, 1)], 0), ([(8, (-1)), (9, (-1))], (-1)), ([(7, (-2)), (21, 1)], 0), ([(7, (-2))], (-1)), ([(20, (-1)), (6, 2)], 0), ([(19, (-1)), (6, 2)], 0)]), [([], 0), ([(20, 1)], 0), ([(21, 1)], 0), ([(22, 1)], 0), ([], 0), ([(16, 1)], 0), ([(17, 1)], 0)], [], [.inr (.inr (.inl (998, 1, [([(9, 1), (8, 1)], 0), ([(19, 1)], 0), ([(22, 1)], 0)], [], []))), .inr (.inr (.inl (998, 1, [([(7, 2)], 0), ([(19, 1)], 0), ([(21, 1)], 0)], [], []))), .inr (.inr (.inl (998, 1, [([(6, 2)], 0), ([(19, 1)], 0), ([(20, 1)], 0)], [], []))), .inr (.inr (.inl (312, 0, [([(18, 1)], 0), ([(9, 1), (8, 1)], 0), ([(19, 1)], 0)], [], []))), .inr (.inr (.inl (312, 0, [([(6, 2)], 0), ([(7, 2)], 0), ([(18, 1)], 0)], [], []))), .inr (.inr (.inl (313, 0, [([(14, 1)], 0), ([(15, 1)], 0), ([(10, 1)], 0), ([(11, 1)], 0), ([(16, 1)], 0), ([(17, 1)], 0)], [1], []))), .inr (.inr (.inl (300, 0, [([(6, 1)], 0), ([(7, 1)], 0), ([(15, 1)], 0)], [], []))), .inl (.inr (14, ([(9, (-1)), (8, 1)], 0), ([(9, (-1)), (8, 1)], 0)))]),
   (0, ([(0, 1), ((-9223372036854775808), 9223372036854775807), ((-9223372036854775808), 9223372036854775807), ((-9223372036854775808), 9223372036854775807), (0, 40), ((-2147483648), 2147483647), ((-600), 600), ((-600), 600), ((-1000000), 1000000), ((-1000000), 1000000), ((-9223372036854775808), 9223372036854775807), ((-9223372036854775808), 9223372036854775807), (0, 40), ((-2147483648), 2147483647), (0, 4000000000000), (0, 720000), ((-9223372036854775808), 9223372036854775807), ((-9223372036854775808), 9223372036854775807), (1, 4611686018427387904), (1, 4611686018427387904), ((-1200), 0), (0, 0), (0, 0)], [([(19, 1), (8, (-1)), (9, (-1))], (-1)), ([(9, 1), (8, 1)], 0), ([(19, 1), (7, (-2))], (-1)), ([(7, 2)], 0), ([(6, (-2)), (20, 1)], 0), ([(6, (-2))], (-1))]), [([], 0), ([(20, 1)], 0), ([], 0), ([], 0), ([], 0), ([(16, 1)], 0), ([(17, 1)], 0)], [], [.inr (.inr (.inl (998, 1, [([(9, 1), (8, 1)], 0), ([(19, 1)], 0), ([], 0)], [], []))), .inr (.inr (.inl (998, 1, [([(7, 2)], 0), ([(19, 1)], 0), ([], 0)], [], []))), .inr (.inr (.inl (998, 1, [([(6, 2)], 0), ([(19, 1)], 0), ([(20, 1)], 0)], [], []))), .inr (.inr (.inl (312, 0, [([(18, 1)], 0), ([(9, 1), (8, 1)], 0), ([(19, 1)], 0)], [], []))), .inr (.inr (.inl (312, 0, [([(6, 2)], 0), ([(7, 2)], 0), ([(18, 1)], 0)], [], []))), .inr (.inr (.inl (313, 0, [([(14, 1)], 0), ([(15, 1)], 0), ([(10, 1)], 0), ([(11, 1)], 0), ([(16, 1)], 0), ([(17, 1)], 0)], [1], []))), .inr (.inr (.inl (300, 0, [([(6, 1)], 0), ([(7, 1)], 0), ([(15, 1)], 0)], [], []))), .inl (.inr (14, ([(9, (-1)), (8, 1)], 0), ([(9, (-1)), (8, 1)], 0)))]),
   (0, ([(0, 1), ((-9223372036854775808), 9223372036854775807), ((-9223372036854775808), 9223372036854775807), ((-9223372036854775808), 9223372036854775807), (0, 40), ((-2147483648), 2147483647), ((-600), 600), ((-600), 600), ((-999999), 1000000), ((-999999), 1000000), ((-9223372036854775808), 9223372036854775807), ((-9223372036854775808), 9223372036854775807), (0, 40), ((-2147483648), 2147483647), (0, 4000000000000), (0, 720000), ((-9223372036854775808), 9223372036854775807), ((-9223372036854775808), 9223372036854775807), (1, 4611686018427387904), (1, 2000000), ((-1200), 0), (0, 0), (1, 2000000)], [([(22, (-1)), (8, 1), (9, 1)], 0), ([(19, (-1)), (8, 1), (9, 1)], 0), ([(19, 1), (7, (-2))], (-1)), ([(7, 2)], 0), ([(6, (-2)), (20, 1)], 0), ([(6, (-2))], (-1))]), [([], 0), ([(20, 1)], 0), ([], 0), ([(22, 1)], 0), ([], 0), ([(16, 1)], 0), ([(17, 1)], 0)], [], [.inr (.inr (.inl (998, 1, [([(9, 1), (8, 1)], 0), ([(19, 1)], 0), ([(22, 1)], 0)], [], []))), .inr (.inr (.inl (998, 1, [([(7, 2)], 0), ([(19, 1)], 0), ([], 0)], [], []))), .inr (.inr (.inl (998, 1, [([(6, 2)], 0), ([(19, 1)], 0), ([(20, 1)], 0)], [], []))), .inr (.inr (.inl (312, 0, [([(18, 1)], 0), ([(9, 1), (8, 1)], 0), ([(19, 1)], 0)], [], []))), .inr (.inr (.inl (312, 0, [([(6, 2)], 0), ([(7, 2)], 0), ([(18, 1)], 0)], [], []))), .inr (.inr (.inl (313, 0, [([(14, 1)], 0), ([(15, 1)], 0), ([(10, 1)], 0), ([(11, 1)], 0), ([(16, 1)], 0), ([(17, 1)], 0)], [1], []))), .inr (.inr (.inl (300, 0, [([(6, 1)], 0), ([(7, 1)], 0), ([(15, 1)], 0)], [], []))), .inl (.inr (14, ([(9, (-1)), (8, 1)], 0), ([(9, (-1)), (8, 1)], 0)))]),
   (0, ([(0, 1), ((-9223372036854775808), 9223372036854775807), ((-9223372036854775808), 9223372036854775807), ((-9223372036854775808), 9223372036854775807), (0, 40), ((-2147483648), 2147483647), ((-600), 600), ((-600), 600), ((-1000000), 999999), ((-1000000), 999999), ((-9223372036854775808), 9223372036854775807), ((-9223372036854775808), 9223372036854775807), (0, 40), ((-2147483648), 2147483647), (0, 4000000000000), (0, 720000), ((-9223372036854775808), 9223372036854775807), ((-9223372036854775808), 9223372036854775807), (1, 4611686018427387904), (1, 4611686018427387904), ((-1200), 0), (0, 0), ((-2000000), 0)], [([(9, (-1)), (8, (-1)), (22, 1)], 0), ([(8, (-1)), (9, (-1))], (-1)), ([(19, 1), (7, (-2))], (-1)), ([(7, 2)], 0), ([(6, (-2)), (20, 1)], 0), ([(6, (-2))], (-1))]), [([], 0), ([(20, 1)], 0), ([], 0), ([(22, 1)], 0), ([], 0), ([(16, 1)], 0), ([(17, 1)], 0)], [], [.inr (.inr (.inl (998, 1, [([(9, 1), (8, 1)], 0), ([(19, 1)], 0), ([(22, 1)], 0)], [], []))), .inr (.inr (.inl (998, 1, [([(7, 2)], 0), ([(19, 1)], 0), ([], 0)], [], []))), .inr (.inr (.inl (998, 1, [([(6, 2)], 0), ([(19, 1)], 0), ([(20, 1)], 0)], [], []))), .inr (.inr (.inl (312, 0, [([(18, 1)], 0), ([(9, 1), (8, 1)], 0), ([(19, 1)], 0)], [], []))), .inr (.inr (.inl (312, 0, [([(6, 2)], 0), ([(7, 2)], 0), ([(18, 1)], 0)], [], []))), .inr (.inr (.inl (313, 0, [([(14, 1)], 0), ([(15, 1)], 0), ([(10, 1)], 0), ([(11, 1)], 0), ([(16, 1)], 0), ([(17, 1)], 0)], [1], []))), .inr (.inr (.inl (300, 0, [([(6, 1)], 0), ([(7, 1)], 0), ([(15, 1)], 0)], [], []))), .inl (.inr (14, ([(9, (-1)), (8, 1)], 0), ([(9, (-1)), (8, 1)], 0)))]),
   (0, ([(0, 1), ((-9223372036854775808), 9223372036854775807), ((-9223372036854775808), 9223372036854775807), ((-9223372036854775808), 9223372036854775807), (0, 40), ((-2147483648), 2147483647), ((-600), 600), ((-600), 600), ((-1000000), 1000000), ((-1000000), 1000000), ((-9223372036854775808), 9223372036854775807), ((-9223372036854775808), 9223372036854775807), (0, 40), ((-2147483648), 2147483647), (0, 4000000000000), (0, 720000), ((-9223372036854775808), 9223372036854775807), ((-9223372036854775808), 9223372036854775807), (1, 4611686018427387904), (1, 1200), ((-1200), 0), (1, 1200), (0, 0)], [([(19, 1), (8, (-1)), (9, (-1))], (-1)), ([(9, 1), (8, 1)], 0), ([(21, (-1)), (7, 2)], 0), ([(19, (-1)), (7, 2)], 0), ([(6, (-2)), (20, 1)], 0), ([(6, (-2))], (-1))]), [([], 0), ([(20, 1)], 0), ([(21, 1)], 0), ([], 0), ([], 0), ([(16, 1)], 0), ([(17, 1)], 0)], [], [.inr (.inr (.inl (998, 1, [([(9, 1), (8, 1)], 0), ([(19, 1)], 0), ([], 0)], [], []))), .inr (.inr (.inl (998, 1, [([(7, 2)], 0), ([(19, 1)], 0), ([(21, 1)], 0)], [], []))), .inr (.inr (.inl (998, 1, [([(6, 2)], 0), ([(19, 1)], 0), ([(20, 1)], 0)], [], []))), .inr (.inr (.inl (312, 0, [([(18, 1)], 0), ([(9, 1), (8, 1)], 0), ([(19, 1)], 0)], [], []))), .inr (.inr (.inl (312, 0, [([(6, 2)], 0), ([(7, 2)], 0), ([(18, 1)], 0)], [], []))), .inr (.inr (.inl (313, 0, [([(14, 1)], 0), ([(15, 1)], 0), ([(10, 1)], 0), ([(11, 1)], 0), ([(16, 1)], 0), ([(17, 1)], 0)], [1], []))), .inr (.inr (.inl (300, 0, [([(6, 1)], 0), ([(7, 1)], 0), ([(15, 1)], 0)], [], []))), .inl (.inr (14, ([(9, (-1)), (8, 1)], 0), ([(9, (-1)), (8, 1)], 0)))]),
   (0, ([(0, 1), ((-9223372036854775808), 9223372036854775807), ((-9223372036854775808), 9223372036854775807), ((-9223372036854775808), 9223372036854775807), (0, 40), ((-2147483648), 2147483647), ((-600), 600), ((-600), 600), ((-999999), 1000000), ((-999999), 1000000), ((-9223372036854775808), 9223372036854775807), ((-9223372036854775808), 9223372036854775807), (0, 40), ((-2147483648), 2147483647), (0, 4000000000000), (0, 720000), ((-9223372036854775808), 9223372036854775807), ((-9223372036854775808), 9223372036854775807), (1, 4611686018427387904), (1, 1200), ((-1200), 0), (1, 1200), (1, 2000000)], [([(22, (-1)), (8, 1), (9, 1)], 0), ([(19, (-1)), (8, 1), (9, 1)], 0), ([(21, (-1)), (7, 2)], 0), ([(19, (-1)), (7, 2)], 0), ([(6, (-2)), (20, 1)], 0), ([(6, (-2))], (-1))]), [([], 0), ([(20, 1)], 0), ([(21, 1)], 0), ([(22, 1)], 0), ([], 0), ([(16, 1)], 0), ([(17, 1)], 0)], [], [.inr (.inr (.inl (998, 1, [([(9, 1), (8, 1)], 0), ([(19, 1)], 0), ([(22, 1)], 0)], [], []))), .inr (.inr (.inl (998, 1, [([(7, 2)], 0), ([(19, 1)], 0), ([(21, 1)], 0)], [], []))), .inr (.inr (.inl (998, 1, [([(6, 2)], 0), ([(19, 1)], 0), ([(20, 1)], 0)], [], []))), .inr (.inr (.inl (312, 0, [([(18, 1)], 0), ([(9, 1), (8, 1)], 0), ([(19, 1)], 0)], [], []))), .inr (.inr (.inl (312, 0, [([(6, 2)], 0), ([(7, 2)], 0), ([(18, 1)], 0)], [], []))), .inr (.inr (.inl (313, 0, [([(14, 1)], 0), ([(15, 1)], 0), ([(10, 1)], 0), ([(11, 1)], 0), ([(16, 1)], 0), ([(17, 1)], 0)], [1], []))), .inr (.inr (.inl (300, 0, [([(6, 1)], 0), ([(7, 1)], 0), ([(15, 1)], 0)], [], []))), .inl (.inr (14, ([(9, (-1)), (8, 1)], 0), ([(9, (-1)), (8, 1)], 0)))]),
   (0, ([(0, 1), ((-9223372036854775808), 9223372036854775807), ((-9223372036854775808), 9223372036854775807), ((-9223372036854775808), 9223372036854775807), (0, 40), ((-2147483648), 2147483647), ((-600), 600), ((-600), 600), ((-1000000), 999999), ((-1000000), 999999), ((-9223372036854775808), 9223372036854775807), ((-9223372036854775808), 9223372036854775807), (0, 40), ((-2147483648), 2147483647), (0, 4000000000000), (0, 720000), ((-9223372036854775808), 9223372036854775807), ((-9223372036854775808), 9223372036854775807), (1, 4611686018427387904), (1, 1200), ((-1200), 0), (1, 1200), ((-2000000), 0)], [([(9, (-1)), (8, (-1)), (22, 1)], 0), ([(8, (-1)), (9, (-1))], (-1)), ([(21, (-1)), (7, 2)], 0), ([(19, (-1)), (7, 2)], 0), ([(6, (-2)), (20, 1)], 0), ([(6, (-2))], (-1))]), [([], 0), ([(20, 1)], 0), ([(21, 1)], 0), ([(22, 1)], 0), ([], 0), ([(16, 1)], 0), ([(17, 1)], 0)], [], [.inr (.inr (.inl (998, 1, [([(9, 1), (8, 1)], 0), ([(19, 1)], 0), ([(22, 1)], 0)], [], []))), .inr (.inr (.inl (998, 1, [([(7, 2)], 0), ([(19, 1)], 0), ([(21, 1)], 0)], [], []))), .inr (.inr (.inl (998, 1, [([(6, 2)], 0), ([(19, 1)], 0), ([(20, 1)], 0)], [], []))), .inr (.inr (.inl (312, 0, [([(18, 1)], 0), ([(9, 1), (8, 1)], 0), ([(19, 1)], 0)], [], []))), .inr (.inr (.inl (312, 0, [([(6, 2)], 0), ([(7, 2)], 0), ([(18, 1)], 0)], [], []))), .inr (.inr (.inl (313, 0, [([(14, 1)], 0), ([(15, 1)], 0), ([(10, 1)], 0), ([(11, 1)], 0), ([(16, 1)], 0), ([(17, 1)], 0)], [1], []))), .inr (.inr (.inl (300, 0, [([(6, 1)], 0), ([(7, 1)], 0), ([(15, 1)], 0)], [], []))), .inl (.inr (14, ([(9, (-1)), (8, 1)], 0), ([(9, (-1)), (8, 1)], 0)))]),
   (0, ([(0, 1), ((-9223372036854775808), 9223372036854775807), ((-9223372036854775808), 9223372036854775807), ((-9223372036854775808), 9223372036854775807), (0, 40), ((-2147483648), 2147483647), ((-600), 600), ((-600), 600), ((-1000000), 1000000), ((-1000000), 1000000), ((-9223372036854775808), 9223372036854775807), ((-9223372036854775808), 9223372036854775807), (0, 40), ((-2147483648), 2147483647), (0, 4000000000000), (0, 720000), ((-9223372036854775808), 9223372036854775807), ((-9223372036854775808), 9223372036854775807), (1, 4611686018427387904), (1, 4611686018427387904), ((-1200), 0), ((-1200), 0), (0, 0)], [([(19, 1), (8, (-1)), (9, (-1))], (-1)), ([(9, 1), (8, 1)], 0), ([(7, (-2)), (21, 1)], 0), ([(7, (-2))], (-1)), ([(6, (-2)), (20, 1)], 0), ([(6, (-2))], (-1))]), [([], 0), ([(20, 1)], 0), ([(21, 1)], 0), ([], 0), ([], 0), ([(16, 1)], 0), ([(17, 1)], 0)], [], [.inr (.inr (.inl (998, 1, [([(9, 1), (8, 1)], 0), ([(19, 1)], 0), ([], 0)], [], []))), .inr (.inr (.inl (998, 1, [([(7, 2)], 0), ([(19, 1)], 0), ([(21, 1)], 0)], [], []))), .inr (.inr (.inl (998, 1, [([(6, 2)], 0), ([(19, 1)], 0), ([(20, 1)], 0)], [], []))), .inr (.inr (.inl (312, 0, [([(18, 1)], 0), ([(9, 1), (8, 1)], 0), ([(19, 1)], 0)], [], []))), .inr (.inr (.inl (312, 0, [([(6, 2)], 0), ([(7, 2)], 0), ([(18, 1)], 0)], [], []))), .inr (.inr (.inl (313, 0, [([(14, 1)], 0), ([(15, 1)], 0), ([(10, 1)], 0), ([(11, 1)], 0), ([(16, 1)], 0), ([(17, 1)], 0)], [1], []))), .inr (.inr (.inl (300, 0, [([(6, 1)], 0), ([(7, 1)], 0), ([(15, 1)], 0)], [], []))), .inl (.inr (14, ([(9, (-1)), (8, 1)], 0), ([(9, (-1)), (8, 1)], 0)))]),
   (0, ([(0, 1), ((-9223372036854775808), 9223372036854775807), ((-9223372036854775808), 9223372036854775807), ((-9223372036854775808), 9223372036854775807), (0, 40), ((-2147483648), 2147483647), ((-600), 600), ((-600), 600), ((-999999), 1000000), ((-999999), 1000000), ((-9223372036854775808), 9223372036854775807), ((-9223372036854775808), 9223372036854775807), (0, 40), ((-2147483648), 2147483647), (0, 4000000000000), (0, 720000), ((-9223372036854775808), 9223372036854775807), ((-9223372036854775808), 9223372036854775807), (1, 4611686018427387904), (1, 2000000), ((-1200), 0), ((-1200), 0), (1, 2000000)], [([(22, (-1)), (8, 1), (9, 1)], 0), ([(19, (-1)), (8, 1), (9, 1)], 0), ([(7, (-2)), (21, 1)], 0), ([(7, (-2))], (-1)), ([(6, (-2)), (20, 1)], 0), ([(6, (-2))], (-1))]), [([], 0), ([(20, 1)], 0), ([(21, 1)], 0), ([(22, 1)], 0), ([], 0), ([(16, 1)], 0), ([(17, 1)], 0)], [], [.inr (.inr (.inl (998, 1, [([(9, 1), (8, 1)], 0), ([(19, 1)], 0), ([(22, 1)], 0)], [], []))), .inr (.inr (.inl (998, 1, [([(7, 2)], 0), ([(19, 1)], 0), ([(21, 1)], 0)], [], []))), .inr (.inr (.inl (998, 1, [([(6, 2)], 0), ([(19, 1)], 0), ([(20, 1)], 0)], [], []))), .inr (.inr (.inl (312, 0, [([(18, 1)], 0), ([(9, 1), (8, 1)], 0), ([(19, 1)], 0)], [], []))), .inr (.inr (.inl (312, 0, [([(6, 2)], 0), ([(7, 2)], 0), ([(18, 1)], 0)], [], []))), .inr (.inr (.inl (313, 0, [([(14, 1)], 0), ([(15, 1)], 0), ([(10, 1)], 0), ([(11, 1)], 0), ([(16, 1)], 0), ([(17, 1)], 0)], [1], []))), .inr (.inr (.inl (300, 0, [([(6, 1)], 0), ([(7, 1)], 0), ([(15, 1)], 0)], [], []))), .inl (.inr (14, ([(9, (-1)), (8, 1)], 0), ([(9, (-1)), (8, 1)], 0)))]),
   (0, ([(0, 1), ((-9223372036854775808), 9223372036854775807), ((-9223372036854775808), 9223372036854775807), ((-9223372036854775808), 9223372036854775807), (0, 40), ((-2147483648), 2147483647), ((-600), 600), ((-600), 600), ((-1000000), 999999), ((-1000000), 999999), ((-9223372036854775808), 9223372036854775807), ((-9223372036854775808), 9223372036854775807), (0, 40), ((-2147483648), 2147483647), (0, 4000000000000), (0, 720000), ((-9223372036854775808), 9223372036854775807), ((-9223372036854775808), 9223372036854775807), (1, 4611686018427387904), (1, 4611686018427387904), ((-1200), 0), ((-1200), 0), ((-2000000), 0)], [([(9, (-1)), (8, (-1)), (22, 1)], 0), ([(8, (-1)), (9, (-1))], (-1)), ([(7, (-2)), (21, 1)], 0), ([(7, (-2))], (-1)), ([(6, (-2)), (20, 1)], 0), ([(6, (-2))], (-1))]), [([], 0), ([(20, 1)], 0), ([(21, 1)], 0), ([(22, 1)], 0), ([], 0), ([(16, 1)], 0), ([(17, 1)], 0)], [], [.inr (.inr (.inl (998, 1, [([(9, 1), (8, 1)], 0), ([(19, 1)], 0), ([(22, 1)], 0)], [], []))), .inr (.inr (.inl (998, 1, [([(7, 2)], 0), ([(19, 1)], 0), ([(21, 1)], 0)], [], []))), .inr (.inr (.inl (998, 1, [([(6, 2)], 0), ([(19, 1)], 0), ([(20, 1)], 0)], [], []))), .inr (.inr (.inl (312, 0, [([(18, 1)], 0), ([(9, 1), (8, 1)], 0), ([(19, 1)], 0)], [], []))), .inr (.inr (.inl (312, 0, [([(6, 2)], 0), ([(7, 2)], 0), ([(18, 1)], 0)], [], []))), .inr (.inr (.inl (313, 0, [([(14, 1)], 0), ([(15, 1)], 0), ([(10, 1)], 0), ([(11, 1)], 0), ([(16, 1)], 0), ([(17, 1)], 0)], [1], []))), .inr (.inr (.inl (300, 0, [([(6, 1)], 0), ([(7, 1)], 0), ([(15, 1)], 0)], [], []))), .inl (.inr (14, ([(9, (-1)), (8, 1)], 0), ([(9, (-1)), (8, 1)], 0)))])],
  [(1000, ([(0, 1), ((-9223372036854775808), 9223372036854775807), ((-9223372036854775808), 9223372036854775807), ((-9223372036854775808), 9223372036854775807), (0, 40), ((-2147483648), 2147483647), ((-600), 600), ((-600), 600), ((-1000000), 1000000), ((-1000000), 1000000), ((-9223372036854775808), 9223372036854775807), ((-9223372036854775808), 9223372036854775807), (0, 40), ((-2147483648), 2147483647), (0, 40), ((-1200), 4000), ((-1200), 1200), ((-2000000), 2000000), (0, 40), ((-9223372036854775808), 9223372036854775807), ((-9223372036854775808), 9223372036854775807)], [([(12, (-1)), (14, 1)], 0), ([(18, (-1)), (14, 1)], 0)]), [([(15, 1)], 0), ([(16, 1)], 0), ([(17, 1)], 0), ([(18, 1)], 0), ([(19, 1)], 0), ([(20, 1)], 0)], [], []),
   (0, ([(0, 1), ((-9223372036854775808), 9223372036854775807), ((-9223372036854775808), 9223372036854775807), ((-9223372036854775808), 9223372036854775807), (0, 40), ((-2147483648), 2147483647), ((-600), 600), ((-600), 600), ((-1000000), 1000000), ((-1000000), 1000000), ((-9223372036854775808), 9223372036854775807), ((-9223372036854775808), 9223372036854775807), (1, 40), ((-2147483648), 2147483647), (0, 39), ((-1200), 4000), ((-1200), 1200), ((-2000000), 2000000), (0, 40), ((-9223372036854775808), 9223372036854775807), ((-9223372036854775808), 9223372036854775807)], [([(12, 1), (14, (-1))], (-1)), ([(18, (-1)), (14, 1)], 0)]), [([(14, 1)], 1), ([(15, 1)], 0), ([(16, 1)], 0), ([(17, 1)], 0), ([(18, 1)], 0), ([(19, 1)], 0), ([(20, 1)], 0)], [], [.inr (.inr (.inl (314, 0, [([(14, 1)], 0), ([(0, 1)], 0), ([(15, 1)], 0), ([(16, 1)], 0), ([(17, 1)], 0), ([(18, 1)], 0), ([(5, 1)], 0), ([(6, 1)], 0), ([(7, 1)], 0), ([(8, 1)], 0), ([(9, 1)], 0), ([(12, 1)], 0), ([(13, 1)], 0)], [0, 2, 3, 4, 1, 5, 6], [])))]),
   (0, ([(0, 1), ((-9223372036854775808), 9223372036854775807), ((-9223372036854775808), 9223372036854775807), ((-9223372036854775808), 9223372036854775807), (0, 40), ((-2147483648), 2147483647), ((-600), 600), ((-600), 600), ((-1000000), 1000000), ((-1000000), 1000000), ((-9223372036854775808), 9223372036854775807), ((-9223372036854775808), 9223372036854775807), (1, 40), ((-2147483648), 2147483647), (0, 39), ((-1200), 4000), ((-1200), 1200), ((-2000000), 2000000), (0, 40), ((-9223372036854775808), 9223372036854775807), ((-9223372036854775808), 9223372036854775807)], [([(12, 1), (14, (-1))], (-1)), ([(18, (-1)), (14, 1)], 0)]), [([(14, 1)], 1), ([(15, 1)], 0), ([(16, 1)], 0), ([(17, 1)], 0), ([(18, 1)], 1), ([(19, 1)], 0), ([(20, 1)], 0)], [], [.inr (.inr (.inl (314, 1, [([(14, 1)], 0), ([(0, 1)], 0), ([(15, 1)], 0), ([(16, 1)], 0), ([(17, 1)], 0), ([(18, 1)], 0), ([(5, 1)], 0), ([(6, 1)], 0), ([(7, 1)], 0), ([(8, 1)], 0), ([(9, 1)], 0), ([(12, 1)], 0), ([(13, 1)], 0)], [0, 2, 3, 4, 1, 5, 6], [])))])]]
noncomputable def xG_86 : Nat → yt_G → (Nat → Int) → yt_G → Prop
  | 0, g0, r, g => ((1 * (r 19) + 0) + 0) = ye_wd (g0 3) (g0 4) (((1 * (r 12) + 0) + 0)).toNat ((1 * (r 6) + 0) + 0) ((1 * (r 7) + 0) + 0) ((1 * (r 8) + 0) + 0) ((1 * (r 9) + 0) + 0) 0 ∧ ((1 * (r 20) + 0) + 0) = ye_wd (g0 3) (g0 4) (((1 * (r 12) + 0) + 0)).toNat ((1 * (r 6) + 0) + 0) ((1 * (r 7) + 0) + 0) ((1 * (r 8) + 0) + 0) ((1 * (r 9) + 0) + 0) 1 ∧ ((1 * (r 15) + 0) + 0) = ye_wd (g0 3) (g0 4) (((1 * (r 12) + 0) + 0)).toNat ((1 * (r 6) + 0) + 0) ((1 * (r 7) + 0) + 0) ((1 * (r 8) + 0) + 0) ((1 * (r 9) + 0) + 0) 2 ∧ ((1 * (r 16) + 0) + 0) = ye_wd (g0 3) (g0 4) (((1 * (r 12) + 0) + 0)).toNat ((1 * (r 6) + 0) + 0) ((1 * (r 7) + 0) + 0) ((1 * (r 8) + 0) + 0) ((1 * (r 9) + 0) + 0) 3 ∧ ((1 * (r 17) + 0) + 0) = ye_wd (g0 3) (g0 4) (((1 * (r 12) + 0) + 0)).toNat ((1 * (r 6) + 0) + 0) ((1 * (r 7) + 0) + 0) ((1 * (r 8) + 0) + 0) ((1 * (r 9) + 0) + 0) 4 ∧ ((1 * (r 18) + 0) + 0) = ye_sc (g0 3) (g0 4) ((1 * (r 6) + 0) + 0) ((1 * (r 7) + 0) + 0) ((1 * (r 8) + 0) + 0) ((1 * (r 9) + 0) + 0) (((1 * (r 14) + 0) + 0)).toNat ∧ ((1 * (r 14) + 0) + 0) ≤ ((1 * (r 12) + 0) + 0)
  | _, _, _, _ => True
noncomputable def xP_86 : yt_Ph
  | 0, r, g0, g => ((1 * (r 18) + 0) + 0) = ye_wd (g0 3) (g0 4) (((1 * (r 12) + 0) + 0)).toNat ((1 * (r 6) + 0) + 0) ((1 * (r 7) + 0) + 0) ((1 * (r 8) + 0) + 0) ((1 * (r 9) + 0) + 0) 0 ∧ ((1 * (r 19) + 0) + 0) = ye_wd (g0 3) (g0 4) (((1 * (r 12) + 0) + 0)).toNat ((1 * (r 6) + 0) + 0) ((1 * (r 7) + 0) + 0) ((1 * (r 8) + 0) + 0) ((1 * (r 9) + 0) + 0) 1 ∧ ((1 * (r 14) + 0) + 0) = ye_wd (g0 3) (g0 4) (((1 * (r 12) + 0) + 0)).toNat ((1 * (r 6) + 0) + 0) ((1 * (r 7) + 0) + 0) ((1 * (r 8) + 0) + 0) ((1 * (r 9) + 0) + 0) 2 ∧ ((1 * (r 15) + 0) + 0) = ye_wd (g0 3) (g0 4) (((1 * (r 12) + 0) + 0)).toNat ((1 * (r 6) + 0) + 0) ((1 * (r 7) + 0) + 0) ((1 * (r 8) + 0) + 0) ((1 * (r 9) + 0) + 0) 3 ∧ ((1 * (r 16) + 0) + 0) = ye_wd (g0 3) (g0 4) (((1 * (r 12) + 0) + 0)).toNat ((1 * (r 6) + 0) + 0) ((1 * (r 7) + 0) + 0) ((1 * (r 8) + 0) + 0) ((1 * (r 9) + 0) + 0) 4 ∧ ((1 * (r 17) + 0) + 0) = ye_wd (g0 3) (g0 4) (((1 * (r 12) + 0) + 0)).toNat ((1 * (r 6) + 0) + 0) ((1 * (r 7) + 0) + 0) ((1 * (r 8) + 0) + 0) ((1 * (r 9) + 0) + 0) 5
  | _, _, _, _ => True
noncomputable def xR_86 : yt_Ps := fun r g0 => True
noncomputable def xT_86 : yt_Tb := fun d => match d with
  | 300 => xP_82
  | 312 => xP_83
  | 313 => xP_84
  | 314 => xP_85
  | 998 => fun i r _ _ => yt_hwp i r
  | _ => fun _ _ _ _ => True
noncomputable def xU_86 : Nat → yt_Ps := fun d => match d with
  | 300 => xR_82
  | 312 => xR_83
  | 313 => xR_84
  | 314 => xR_85
  | _ => fun _ _ => True
theorem xw_86_0_0 : yt_hold xT_86 xk_86 xq_86.2.2.1 xG_86 xP_86 xU_86 14 xk_86.2.1.2.2.2 (fun g0 r g => xR_86 r g0 ∧ g = g0) (0, ([(0, 1), ((-9223372036854775808), 9223372036854775807), ((-9223372036854775808), 9223372036854775807), ((-9223372036854775808), 9223372036854775807), (0, 40), ((-2147483648), 2147483647), ((-600), 600), ((-600), 600), ((-1000000), 1000000), ((-1000000), 1000000), ((-9223372036854775808), 9223372036854775807), ((-9223372036854775808), 9223372036854775807), (0, 40), ((-2147483648), 2147483647), (0, 4000000000000), (0, 720000), ((-9223372036854775808), 9223372036854775807), ((-9223372036854775808), 9223372036854775807), (1, 4611686018427387904), (1, 4611686018427387904), (0, 0), (0, 0), (0, 0)], [([(19, 1), (8, (-1)), (9, (-1))], (-1)), ([(9, 1), (8, 1)], 0), ([(19, 1), (7, (-2))], (-1)), ([(7, 2)], 0), ([(19, 1), (6, (-2))], (-1)), ([(6, 2)], 0)]), [([], 0), ([], 0), ([], 0), ([], 0), ([], 0), ([(16, 1)], 0), ([(17, 1)], 0)], [], [.inr (.inr (.inl (998, 1, [([(9, 1), (8, 1)], 0), ([(19, 1)], 0), ([], 0)], [], []))), .inr (.inr (.inl (998, 1, [([(7, 2)], 0), ([(19, 1)], 0), ([], 0)], [], []))), .inr (.inr (.inl (998, 1, [([(6, 2)], 0), ([(19, 1)], 0), ([], 0)], [], []))), .inr (.inr (.inl (312, 0, [([(18, 1)], 0), ([(9, 1), (8, 1)], 0), ([(19, 1)], 0)], [], []))), .inr (.inr (.inl (312, 0, [([(6, 2)], 0), ([(7, 2)], 0), ([(18, 1)], 0)], [], []))), .inr (.inr (.inl (313, 0, [([(14, 1)], 0), ([(15, 1)], 0), ([(10, 1)], 0), ([(11, 1)], 0), ([(16, 1)], 0), ([(17, 1)], 0)], [1], []))), .inr (.inr (.inl (300, 0, [([(6, 1)], 0), ([(7, 1)], 0), ([(15, 1)], 0)], [], []))), .inl (.inr (14, ([(9, (-1)), (8, 1)], 0), ([(9, (-1)), (8, 1)], 0)))]) := by
  intro g0 r gi g hok hh hars hfr hG
  have b0 : 0 ≤ r 0 ∧ r 0 ≤ 1 := hok.1 0 (0, 1) rfl
  have b6 : (-600) ≤ r 6 ∧ r 6 ≤ 600 := hok.1 6 ((-600), 600) rfl
  have b7 : (-600) ≤ r 7 ∧ r 7 ≤ 600 := hok.1 7 ((-600), 600) rfl
  have b8 : (-1000000) ≤ r 8 ∧ r 8 ≤ 1000000 := hok.1 8 ((-1000000), 1000000) rfl
  have b9 : (-1000000) ≤ r 9 ∧ r 9 ≤ 1000000 := hok.1 9 ((-1000000), 1000000) rfl
  have b12 : 0 ≤ r 12 ∧ r 12 ≤ 40 := hok.1 12 (0, 40) rfl
  have b14 : 0 ≤ r 14 ∧ r 14 ≤ 4000000000000 := hok.1 14 (0, 4000000000000) rfl
  have b15 : 0 ≤ r 15 ∧ r 15 ≤ 720000 := hok.1 15 (0, 720000) rfl
  have b16 : (-9223372036854775808) ≤ r 16 ∧ r 16 ≤ 9223372036854775807 := hok.1 16 ((-9223372036854775808), 9223372036854775807) rfl
  have b17 : (-9223372036854775808) ≤ r 17 ∧ r 17 ≤ 9223372036854775807 := hok.1 17 ((-9223372036854775808), 9223372036854775807) rfl
  have b18 : 1 ≤ r 18 ∧ r 18 ≤ 4611686018427387904 := hok.1 18 (1, 4611686018427387904) rfl
  have b19 : 1 ≤ r 19 ∧ r 19 ≤ 4611686018427387904 := hok.1 19 (1, 4611686018427387904) rfl
  have b20 : 0 ≤ r 20 ∧ r 20 ≤ 0 := hok.1 20 (0, 0) rfl
  have b21 : 0 ≤ r 21 ∧ r 21 ≤ 0 := hok.1 21 (0, 0) rfl
  have b22 : 0 ≤ r 22 ∧ r 22 ≤ 0 := hok.1 22 (0, 0) rfl
  have f0 : 0 ≤ ((1 * r 19 + ((-1) * r 8 + ((-1) * r 9 + 0))) + (-1)) := hok.2 _ (List.mem_of_getElem? (i := 0) rfl)
  have f1 : 0 ≤ ((1 * r 9 + (1 * r 8 + 0)) + 0) := hok.2 _ (List.mem_of_getElem? (i := 1) rfl)
  have f2 : 0 ≤ ((1 * r 19 + ((-2) * r 7 + 0)) + (-1)) := hok.2 _ (List.mem_of_getElem? (i := 2) rfl)
  have f3 : 0 ≤ ((2 * r 7 + 0) + 0) := hok.2 _ (List.mem_of_getElem? (i := 3) rfl)
  have f4 : 0 ≤ ((1 * r 19 + ((-2) * r 6 + 0)) + (-1)) := hok.2 _ (List.mem_of_getElem? (i := 4) rfl)
  have f5 : 0 ≤ ((2 * r 6 + 0) + 0) := hok.2 _ (List.mem_of_getElem? (i := 5) rfl)
  obtain ⟨hG, hgi⟩ := hG
  have hG : True := hG
  obtain ⟨h0, hh, e0, k0⟩ := hh
  have k0 : ∀ j, j ∉ [] → g j = h0 j := k0
  have e0 : ((0 : Int) + 0) = (((1 * r 9 + (1 * r 8 + 0)) + 0)).tdiv (((1 * r 19 + 0) + 0)) := e0
  obtain ⟨h1, hh, e1, k1⟩ := hh
  have k1 : ∀ j, j ∉ [] → h0 j = h1 j := k1
  have e1 : ((0 : Int) + 0) = (((2 * r 7 + 0) + 0)).tdiv (((1 * r 19 + 0) + 0)) := e1
  obtain ⟨h2, hh, e2, k2⟩ := hh
  have k2 : ∀ j, j ∉ [] → h1 j = h2 j := k2
  have e2 : ((0 : Int) + 0) = (((2 * r 6 + 0) + 0)).tdiv (((1 * r 19 + 0) + 0)) := e2
  obtain ⟨h3, hh, e3, k3⟩ := hh
  have k3 : ∀ j, j ∉ [] → h2 j = h3 j := k3
  have e3 : ((1 * r 19 + 0) + 0) = ye_q ((1 * r 18 + 0) + 0) ((1 * r 9 + (1 * r 8 + 0)) + 0) := e3
  obtain ⟨h4, hh, e4, k4⟩ := hh
  have k4 : ∀ j, j ∉ [] → h3 j = h4 j := k4
  have e4 : ((1 * r 18 + 0) + 0) = ye_q ((2 * r 6 + 0) + 0) ((2 * r 7 + 0) + 0) := e4
  obtain ⟨h5, hh, e5, k5⟩ := hh
  have k5 : ∀ j, j ∉ [] → h4 j = h5 j := k5
  have e5 : 0 ≤ ((1 * r 15 + 0) + 0) → ((1 * ((1 * r 16 + 0) + 0) + 0) + 0) = (((1 * r 14 + 0) + 0)).tdiv (ye_q ((1 * r 14 + 0) + 0) ((1 * r 15 + 0) + 0)) ∧ ((1 * ((1 * r 17 + 0) + 0) + 0) + 0) = (((1 * r 15 + 0) + 0)).tdiv (ye_q ((1 * r 14 + 0) + 0) ((1 * r 15 + 0) + 0)) := e5
  obtain ⟨h6, hh, e6, k6⟩ := hh
  have k6 : ∀ j, j ∉ [] → h5 j = h6 j := k6
  have e6 : ((1 * r 15 + 0) + 0) = ((1 * r 6 + 0) + 0) * ((1 * r 6 + 0) + 0) + ((1 * r 7 + 0) + 0) * ((1 * r 7 + 0) + 0) := e6
  obtain ⟨g7, hh, q7, e7⟩ := hh
  subst q7
  have e7 : r 14 = (((-1) * r 9 + (1 * r 8 + 0)) + 0) * (((-1) * r 9 + (1 * r 8 + 0)) + 0) := e7
  try simp only [Int.one_mul, Int.zero_add, Int.add_zero] at e7
  have hh : h6 = gi := hh
  subst hh
  refine yt_dcut (by decide) rfl ?_ ?_
  · rw [show xk_86.2.1.2.1.1.length = 14 from rfl]
    refine yx_fks _ _ ?_
    refine ⟨?_, ?_, trivial⟩
    · show 0 ≤ ((1 * ((0 : Int) + 0) + 0) + 0)
      omega
    · show 0 ≤ (((-1) * ((0 : Int) + 0) + (1 * ((0 : Int) + 0) + 0)) + 0)
      omega
  · rw [show xk_86.2.1.2.1.1.length = 14 from rfl]
    show ((1 * ((1 * r 16 + 0) + 0) + 0) + 0) = ye_wd (g0 3) (g0 4) (((1 * ((1 * r 12 + 0) + 0) + 0) + 0)).toNat ((1 * ((1 * r 6 + 0) + 0) + 0) + 0) ((1 * ((1 * r 7 + 0) + 0) + 0) + 0) ((1 * ((1 * r 8 + 0) + 0) + 0) + 0) ((1 * ((1 * r 9 + 0) + 0) + 0) + 0) 0 ∧ ((1 * ((1 * r 17 + 0) + 0) + 0) + 0) = ye_wd (g0 3) (g0 4) (((1 * ((1 * r 12 + 0) + 0) + 0) + 0)).toNat ((1 * ((1 * r 6 + 0) + 0) + 0) + 0) ((1 * ((1 * r 7 + 0) + 0) + 0) + 0) ((1 * ((1 * r 8 + 0) + 0) + 0) + 0) ((1 * ((1 * r 9 + 0) + 0) + 0) + 0) 1 ∧ ((1 * ((0 : Int) + 0) + 0) + 0) = ye_wd (g0 3) (g0 4) (((1 * ((1 * r 12 + 0) + 0) + 0) + 0)).toNat ((1 * ((1 * r 6 + 0) + 0) + 0) + 0) ((1 * ((1 * r 7 + 0) + 0) + 0) + 0) ((1 * ((1 * r 8 + 0) + 0) + 0) + 0) ((1 * ((1 * r 9 + 0) + 0) + 0) + 0) 2 ∧ ((1 * ((0 : Int) + 0) + 0) + 0) = ye_wd (g0 3) (g0 4) (((1 * ((1 * r 12 + 0) + 0) + 0) + 0)).toNat ((1 * ((1 * r 6 + 0) + 0) + 0) + 0) ((1 * ((1 * r 7 + 0) + 0) + 0) + 0) ((1 * ((1 * r 8 + 0) + 0) + 0) + 0) ((1 * ((1 * r 9 + 0) + 0) + 0) + 0) 3 ∧ ((1 * ((0 : Int) + 0) + 0) + 0) = ye_wd (g0 3) (g0 4) (((1 * ((1 * r 12 + 0) + 0) + 0) + 0)).toNat ((1 * ((1 * r 6 + 0) + 0) + 0) + 0) ((1 * ((1 * r 7 + 0) + 0) + 0) + 0) ((1 * ((1 * r 8 + 0) + 0) + 0) + 0) ((1 * ((1 * r 9 + 0) + 0) + 0) + 0) 4 ∧ ((1 * ((0 : Int) + 0) + 0) + 0) = ye_sc (g0 3) (g0 4) ((1 * ((1 * r 6 + 0) + 0) + 0) + 0) ((1 * ((1 * r 7 + 0) + 0) + 0) + 0) ((1 * ((1 * r 8 + 0) + 0) + 0) + 0) ((1 * ((1 * r 9 + 0) + 0) + 0) + 0) (((1 * ((0 : Int) + 0) + 0) + 0)).toNat ∧ ((1 * ((0 : Int) + 0) + 0) + 0) ≤ ((1 * ((1 * r 12 + 0) + 0) + 0) + 0)
    try simp only [Int.one_mul, Int.zero_add, Int.add_zero]
    try simp only [Int.one_mul, Int.zero_add, Int.add_zero] at e5
    try simp only [Int.one_mul, Int.zero_add, Int.add_zero] at e6
    try simp only [Int.one_mul, Int.zero_add, Int.add_zero] at e7
    try simp only [Int.one_mul, Int.zero_add, Int.add_zero] at e3
    try simp only [Int.one_mul, Int.zero_add, Int.add_zero] at e4
    try simp only [Int.one_mul, Int.zero_add, Int.add_zero] at e0
    try simp only [Int.one_mul, Int.zero_add, Int.add_zero] at e1
    try simp only [Int.one_mul, Int.zero_add, Int.add_zero] at e2
    rw [show -1 * r 9 + r 8 = r 8 - r 9 by omega] at e7
    rw [e6, e7] at e5
    obtain ⟨q0, q1⟩ := e5 (ye_ss (r 6) (r 7))
    rw [e4, show r 9 + r 8 = r 8 + r 9 by omega] at e3
    rw [e3] at e2 e1 e0
    rw [show r 9 + r 8 = r 8 + r 9 by omega] at e0
    refine ⟨?_, ?_, ?_, ?_, ?_, ?_, ?_⟩
    · unfold ye_wd
      rw [if_pos rfl]
      exact q0
    · unfold ye_wd
      rw [if_neg (by decide), if_pos rfl]
      exact q1
    · unfold ye_wd
      rw [if_neg (by decide), if_neg (by decide), if_pos rfl]
      exact e2
    · unfold ye_wd
      rw [if_neg (by decide), if_neg (by decide), if_neg (by decide), if_pos rfl]
      exact e1
    · unfold ye_wd
      rw [if_neg (by decide), if_neg (by decide), if_neg (by decide), if_neg (by decide), if_pos rfl]
      exact e0
    · rfl
    · omega
theorem xw_86_0_1 : yt_hold xT_86 xk_86 xq_86.2.2.1 xG_86 xP_86 xU_86 14 xk_86.2.1.2.2.2 (fun g0 r g => xR_86 r g0 ∧ g = g0) (0, ([(0, 1), ((-9223372036854775808), 9223372036854775807), ((-9223372036854775808), 9223372036854775807), ((-9223372036854775808), 9223372036854775807), (0, 40), ((-2147483648), 2147483647), ((-600), 600), ((-600), 600), ((-999999), 1000000), ((-999999), 1000000), ((-9223372036854775808), 9223372036854775807), ((-9223372036854775808), 9223372036854775807), (0, 40), ((-2147483648), 2147483647), (0, 4000000000000), (0, 720000), ((-9223372036854775808), 9223372036854775807), ((-9223372036854775808), 9223372036854775807), (1, 4611686018427387904), (1, 2000000), (0, 0), (0, 0), (1, 2000000)], [([(22, (-1)), (8, 1), (9, 1)], 0), ([(19, (-1)), (8, 1), (9, 1)], 0), ([(19, 1), (7, (-2))], (-1)), ([(7, 2)], 0), ([(19, 1), (6, (-2))], (-1)), ([(6, 2)], 0)]), [([], 0), ([], 0), ([], 0), ([(22, 1)], 0), ([], 0), ([(16, 1)], 0), ([(17, 1)], 0)], [], [.inr (.inr (.inl (998, 1, [([(9, 1), (8, 1)], 0), ([(19, 1)], 0), ([(22, 1)], 0)], [], []))), .inr (.inr (.inl (998, 1, [([(7, 2)], 0), ([(19, 1)], 0), ([], 0)], [], []))), .inr (.inr (.inl (998, 1, [([(6, 2)], 0), ([(19, 1)], 0), ([], 0)], [], []))), .inr (.inr (.inl (312, 0, [([(18, 1)], 0), ([(9, 1), (8, 1)], 0), ([(19, 1)], 0)], [], []))), .inr (.inr (.inl (312, 0, [([(6, 2)], 0), ([(7, 2)], 0), ([(18, 1)], 0)], [], []))), .inr (.inr (.inl (313, 0, [([(14, 1)], 0), ([(15, 1)], 0), ([(10, 1)], 0), ([(11, 1)], 0), ([(16, 1)], 0), ([(17, 1)], 0)], [1], []))), .inr (.inr (.inl (300, 0, [([(6, 1)], 0), ([(7, 1)], 0), ([(15, 1)], 0)], [], []))), .inl (.inr (14, ([(9, (-1)), (8, 1)], 0), ([(9, (-1)), (8, 1)], 0)))]) := by
  intro g0 r gi g hok hh hars hfr hG
  have b0 : 0 ≤ r 0 ∧ r 0 ≤ 1 := hok.1 0 (0, 1) rfl
  have b6 : (-600) ≤ r 6 ∧ r 6 ≤ 600 := hok.1 6 ((-600), 600) rfl
  have b7 : (-600) ≤ r 7 ∧ r 7 ≤ 600 := hok.1 7 ((-600), 600) rfl
  have b8 : (-999999) ≤ r 8 ∧ r 8 ≤ 1000000 := hok.1 8 ((-999999), 1000000) rfl
  have b9 : (-999999) ≤ r 9 ∧ r 9 ≤ 1000000 := hok.1 9 ((-999999), 1000000) rfl
  have b12 : 0 ≤ r 12 ∧ r 12 ≤ 40 := hok.1 12 (0, 40) rfl
  have b14 : 0 ≤ r 14 ∧ r 14 ≤ 4000000000000 := hok.1 14 (0, 4000000000000) rfl
  have b15 : 0 ≤ r 15 ∧ r 15 ≤ 720000 := hok.1 15 (0, 720000) rfl
  have b16 : (-9223372036854775808) ≤ r 16 ∧ r 16 ≤ 9223372036854775807 := hok.1 16 ((-9223372036854775808), 9223372036854775807) rfl
  have b17 : (-9223372036854775808) ≤ r 17 ∧ r 17 ≤ 9223372036854775807 := hok.1 17 ((-9223372036854775808), 9223372036854775807) rfl
  have b18 : 1 ≤ r 18 ∧ r 18 ≤ 4611686018427387904 := hok.1 18 (1, 4611686018427387904) rfl
  have b19 : 1 ≤ r 19 ∧ r 19 ≤ 2000000 := hok.1 19 (1, 2000000) rfl
  have b20 : 0 ≤ r 20 ∧ r 20 ≤ 0 := hok.1 20 (0, 0) rfl
  have b21 : 0 ≤ r 21 ∧ r 21 ≤ 0 := hok.1 21 (0, 0) rfl
  have b22 : 1 ≤ r 22 ∧ r 22 ≤ 2000000 := hok.1 22 (1, 2000000) rfl
  have f0 : 0 ≤ (((-1) * r 22 + (1 * r 8 + (1 * r 9 + 0))) + 0) := hok.2 _ (List.mem_of_getElem? (i := 0) rfl)
  have f1 : 0 ≤ (((-1) * r 19 + (1 * r 8 + (1 * r 9 + 0))) + 0) := hok.2 _ (List.mem_of_getElem? (i := 1) rfl)
  have f2 : 0 ≤ ((1 * r 19 + ((-2) * r 7 + 0)) + (-1)) := hok.2 _ (List.mem_of_getElem? (i := 2) rfl)
  have f3 : 0 ≤ ((2 * r 7 + 0) + 0) := hok.2 _ (List.mem_of_getElem? (i := 3) rfl)
  have f4 : 0 ≤ ((1 * r 19 + ((-2) * r 6 + 0)) + (-1)) := hok.2 _ (List.mem_of_getElem? (i := 4) rfl)
  have f5 : 0 ≤ ((2 * r 6 + 0) + 0) := hok.2 _ (List.mem_of_getElem? (i := 5) rfl)
  obtain ⟨hG, hgi⟩ := hG
  have hG : True := hG
  obtain ⟨h0, hh, e0, k0⟩ := hh
  have k0 : ∀ j, j ∉ [] → g j = h0 j := k0
  have e0 : ((1 * r 22 + 0) + 0) = (((1 * r 9 + (1 * r 8 + 0)) + 0)).tdiv (((1 * r 19 + 0) + 0)) := e0
  obtain ⟨h1, hh, e1, k1⟩ := hh
  have k1 : ∀ j, j ∉ [] → h0 j = h1 j := k1
  have e1 : ((0 : Int) + 0) = (((2 * r 7 + 0) + 0)).tdiv (((1 * r 19 + 0) + 0)) := e1
  obtain ⟨h2, hh, e2, k2⟩ := hh
  have k2 : ∀ j, j ∉ [] → h1 j = h2 j := k2
  have e2 : ((0 : Int) + 0) = (((2 * r 6 + 0) + 0)).tdiv (((1 * r 19 + 0) + 0)) := e2
  obtain ⟨h3, hh, e3, k3⟩ := hh
  have k3 : ∀ j, j ∉ [] → h2 j = h3 j := k3
  have e3 : ((1 * r 19 + 0) + 0) = ye_q ((1 * r 18 + 0) + 0) ((1 * r 9 + (1 * r 8 + 0)) + 0) := e3
  obtain ⟨h4, hh, e4, k4⟩ := hh
  have k4 : ∀ j, j ∉ [] → h3 j = h4 j := k4
  have e4 : ((1 * r 18 + 0) + 0) = ye_q ((2 * r 6 + 0) + 0) ((2 * r 7 + 0) + 0) := e4
  obtain ⟨h5, hh, e5, k5⟩ := hh
  have k5 : ∀ j, j ∉ [] → h4 j = h5 j := k5
  have e5 : 0 ≤ ((1 * r 15 + 0) + 0) → ((1 * ((1 * r 16 + 0) + 0) + 0) + 0) = (((1 * r 14 + 0) + 0)).tdiv (ye_q ((1 * r 14 + 0) + 0) ((1 * r 15 + 0) + 0)) ∧ ((1 * ((1 * r 17 + 0) + 0) + 0) + 0) = (((1 * r 15 + 0) + 0)).tdiv (ye_q ((1 * r 14 + 0) + 0) ((1 * r 15 + 0) + 0)) := e5
  obtain ⟨h6, hh, e6, k6⟩ := hh
  have k6 : ∀ j, j ∉ [] → h5 j = h6 j := k6
  have e6 : ((1 * r 15 + 0) + 0) = ((1 * r 6 + 0) + 0) * ((1 * r 6 + 0) + 0) + ((1 * r 7 + 0) + 0) * ((1 * r 7 + 0) + 0) := e6
  obtain ⟨g7, hh, q7, e7⟩ := hh
  subst q7
  have e7 : r 14 = (((-1) * r 9 + (1 * r 8 + 0)) + 0) * (((-1) * r 9 + (1 * r 8 + 0)) + 0) := e7
  try simp only [Int.one_mul, Int.zero_add, Int.add_zero] at e7
  have hh : h6 = gi := hh
  subst hh
  refine yt_dcut (by decide) rfl ?_ ?_
  · rw [show xk_86.2.1.2.1.1.length = 14 from rfl]
    refine yx_fks _ _ ?_
    refine ⟨?_, ?_, trivial⟩
    · show 0 ≤ ((1 * ((0 : Int) + 0) + 0) + 0)
      omega
    · show 0 ≤ (((-1) * ((0 : Int) + 0) + (1 * ((0 : Int) + 0) + 0)) + 0)
      omega
  · rw [show xk_86.2.1.2.1.1.length = 14 from rfl]
    show ((1 * ((1 * r 16 + 0) + 0) + 0) + 0) = ye_wd (g0 3) (g0 4) (((1 * ((1 * r 12 + 0) + 0) + 0) + 0)).toNat ((1 * ((1 * r 6 + 0) + 0) + 0) + 0) ((1 * ((1 * r 7 + 0) + 0) + 0) + 0) ((1 * ((1 * r 8 + 0) + 0) + 0) + 0) ((1 * ((1 * r 9 + 0) + 0) + 0) + 0) 0 ∧ ((1 * ((1 * r 17 + 0) + 0) + 0) + 0) = ye_wd (g0 3) (g0 4) (((1 * ((1 * r 12 + 0) + 0) + 0) + 0)).toNat ((1 * ((1 * r 6 + 0) + 0) + 0) + 0) ((1 * ((1 * r 7 + 0) + 0) + 0) + 0) ((1 * ((1 * r 8 + 0) + 0) + 0) + 0) ((1 * ((1 * r 9 + 0) + 0) + 0) + 0) 1 ∧ ((1 * ((0 : Int) + 0) + 0) + 0) = ye_wd (g0 3) (g0 4) (((1 * ((1 * r 12 + 0) + 0) + 0) + 0)).toNat ((1 * ((1 * r 6 + 0) + 0) + 0) + 0) ((1 * ((1 * r 7 + 0) + 0) + 0) + 0) ((1 * ((1 * r 8 + 0) + 0) + 0) + 0) ((1 * ((1 * r 9 + 0) + 0) + 0) + 0) 2 ∧ ((1 * ((0 : Int) + 0) + 0) + 0) = ye_wd (g0 3) (g0 4) (((1 * ((1 * r 12 + 0) + 0) + 0) + 0)).toNat ((1 * ((1 * r 6 + 0) + 0) + 0) + 0) ((1 * ((1 * r 7 + 0) + 0) + 0) + 0) ((1 * ((1 * r 8 + 0) + 0) + 0) + 0) ((1 * ((1 * r 9 + 0) + 0) + 0) + 0) 3 ∧ ((1 * ((1 * r 22 + 0) + 0) + 0) + 0) = ye_wd (g0 3) (g0 4) (((1 * ((1 * r 12 + 0) + 0) + 0) + 0)).toNat ((1 * ((1 * r 6 + 0) + 0) + 0) + 0) ((1 * ((1 * r 7 + 0) + 0) + 0) + 0) ((1 * ((1 * r 8 + 0) + 0) + 0) + 0) ((1 * ((1 * r 9 + 0) + 0) + 0) + 0) 4 ∧ ((1 * ((0 : Int) + 0) + 0) + 0) = ye_sc (g0 3) (g0 4) ((1 * ((1 * r 6 + 0) + 0) + 0) + 0) ((1 * ((1 * r 7 + 0) + 0) + 0) + 0) ((1 * ((1 * r 8 + 0) + 0) + 0) + 0) ((1 * ((1 * r 9 + 0) + 0) + 0) + 0) (((1 * ((0 : Int) + 0) + 0) + 0)).toNat ∧ ((1 * ((0 : Int) + 0) + 0) + 0) ≤ ((1 * ((1 * r 12 + 0) + 0) + 0) + 0)
    try simp only [Int.one_mul, Int.zero_add, Int.add_zero]
    try simp only [Int.one_mul, Int.zero_add, Int.add_zero] at e5
    try simp only [Int.one_mul, Int.zero_add, Int.add_zero] at e6
    try simp only [Int.one_mul, Int.zero_add, Int.add_zero] at e7
    try simp only [Int.one_mul, Int.zero_add, Int.add_zero] at e3
    try simp only [Int.one_mul, Int.zero_add, Int.add_zero] at e4
    try simp only [Int.one_mul, Int.zero_add, Int.add_zero] at e0
    try simp only [Int.one_mul, Int.zero_add, Int.add_zero] at e1
    try simp only [Int.one_mul, Int.zero_add, Int.add_zero] at e2
    rw [show -1 * r 9 + r 8 = r 8 - r 9 by omega] at e7
    rw [e6, e7] at e5
    obtain ⟨q0, q1⟩ := e5 (ye_ss (r 6) (r 7))
    rw [e4, show r 9 + r 8 = r 8 + r 9 by omega] at e3
    rw [e3] at e2 e1 e0
    rw [show r 9 + r 8 = r 8 + r 9 by omega] at e0
    refine ⟨?_, ?_, ?_, ?_, ?_, ?_, ?_⟩
    · unfold ye_wd
      rw [if_pos rfl]
      exact q0
    · unfold ye_wd
      rw [if_neg (by decide), if_pos rfl]
      exact q1
    · unfold ye_wd
      rw [if_neg (by decide), if_neg (by decide), if_pos rfl]
      exact e2
    · unfold ye_wd
      rw [if_neg (by decide), if_neg (by decide), if_neg (by decide), if_pos rfl]
      exact e1
    · unfold ye_wd
      rw [if_neg (by decide), if_neg (by decide), if_neg (by decide), if_neg (by decide), if_pos rfl]
      exact e0
    · rfl
    · omega
theorem xw_86_0_2 : yt_hold xT_86 xk_86 xq_86.2.2.1 xG_86 xP_86 xU_86 14 xk_86.2.1.2.2.2 (fun g0 r g => xR_86 r g0 ∧ g = g0) (0, ([(0, 1), ((-9223372036854775808), 9223372036854775807), ((-9223372036854775808), 9223372036854775807), ((-9223372036854775808), 9223372036854775807), (0, 40), ((-2147483648), 2147483647), ((-600), 600), ((-600), 600), ((-1000000), 999999), ((-1000000), 999999), ((-9223372036854775808), 9223372036854775807), ((-9223372036854775808), 9223372036854775807), (0, 40), ((-2147483648), 2147483647), (0, 4000000000000), (0, 720000), ((-9223372036854775808), 9223372036854775807), ((-9223372036854775808), 9223372036854775807), (1, 4611686018427387904), (1, 4611686018427387904), (0, 0), (0, 0), ((-2000000), 0)], [([(9, (-1)), (8, (-1)), (22, 1)], 0), ([(8, (-1)), (9, (-1))], (-1)), ([(19, 1), (7, (-2))], (-1)), ([(7, 2)], 0), ([(19, 1), (6, (-2))], (-1)), ([(6, 2)], 0)]), [([], 0), ([], 0), ([], 0), ([(22, 1)], 0), ([], 0), ([(16, 1)], 0), ([(17, 1)], 0)], [], [.inr (.inr (.inl (998, 1, [([(9, 1), (8, 1)], 0), ([(19, 1)], 0), ([(22, 1)], 0)], [], []))), .inr (.inr (.inl (998, 1, [([(7, 2)], 0), ([(19, 1)], 0), ([], 0)], [], []))), .inr (.inr (.inl (998, 1, [([(6, 2)], 0), ([(19, 1)], 0), ([], 0)], [], []))), .inr (.inr (.inl (312, 0, [([(18, 1)], 0), ([(9, 1), (8, 1)], 0), ([(19, 1)], 0)], [], []))), .inr (.inr (.inl (312, 0, [([(6, 2)], 0), ([(7, 2)], 0), ([(18, 1)], 0)], [], []))), .inr (.inr (.inl (313, 0, [([(14, 1)], 0), ([(15, 1)], 0), ([(10, 1)], 0), ([(11, 1)], 0), ([(16, 1)], 0), ([(17, 1)], 0)], [1], []))), .inr (.inr (.inl (300, 0, [([(6, 1)], 0), ([(7, 1)], 0), ([(15, 1)], 0)], [], []))), .inl (.inr (14, ([(9, (-1)), (8, 1)], 0), ([(9, (-1)), (8, 1)], 0)))]) := by
  intro g0 r gi g hok hh hars hfr hG
  have b0 : 0 ≤ r 0 ∧ r 0 ≤ 1 := hok.1 0 (0, 1) rfl
  have b6 : (-600) ≤ r 6 ∧ r 6 ≤ 600 := hok.1 6 ((-600), 600) rfl
  have b7 : (-600) ≤ r 7 ∧ r 7 ≤ 600 := hok.1 7 ((-600), 600) rfl
  have b8 : (-1000000) ≤ r 8 ∧ r 8 ≤ 999999 := hok.1 8 ((-1000000), 999999) rfl
  have b9 : (-1000000) ≤ r 9 ∧ r 9 ≤ 999999 := hok.1 9 ((-1000000), 999999) rfl
  have b12 : 0 ≤ r 12 ∧ r 12 ≤ 40 := hok.1 12 (0, 40) rfl
  have b14 : 0 ≤ r 14 ∧ r 14 ≤ 4000000000000 := hok.1 14 (0, 4000000000000) rfl
  have b15 : 0 ≤ r 15 ∧ r 15 ≤ 720000 := hok.1 15 (0, 720000) rfl
  have b16 : (-9223372036854775808) ≤ r 16 ∧ r 16 ≤ 9223372036854775807 := hok.1 16 ((-9223372036854775808), 9223372036854775807) rfl
  have b17 : (-9223372036854775808) ≤ r 17 ∧ r 17 ≤ 9223372036854775807 := hok.1 17 ((-9223372036854775808), 9223372036854775807) rfl
  have b18 : 1 ≤ r 18 ∧ r 18 ≤ 4611686018427387904 := hok.1 18 (1, 4611686018427387904) rfl
  have b19 : 1 ≤ r 19 ∧ r 19 ≤ 4611686018427387904 := hok.1 19 (1, 4611686018427387904) rfl
  have b20 : 0 ≤ r 20 ∧ r 20 ≤ 0 := hok.1 20 (0, 0) rfl
  have b21 : 0 ≤ r 21 ∧ r 21 ≤ 0 := hok.1 21 (0, 0) rfl
  have b22 : (-2000000) ≤ r 22 ∧ r 22 ≤ 0 := hok.1 22 ((-2000000), 0) rfl
  have f0 : 0 ≤ (((-1) * r 9 + ((-1) * r 8 + (1 * r 22 + 0))) + 0) := hok.2 _ (List.mem_of_getElem? (i := 0) rfl)
  have f1 : 0 ≤ (((-1) * r 8 + ((-1) * r 9 + 0)) + (-1)) := hok.2 _ (List.mem_of_getElem? (i := 1) rfl)
  have f2 : 0 ≤ ((1 * r 19 + ((-2) * r 7 + 0)) + (-1)) := hok.2 _ (List.mem_of_getElem? (i := 2) rfl)
  have f3 : 0 ≤ ((2 * r 7 + 0) + 0) := hok.2 _ (List.mem_of_getElem? (i := 3) rfl)
  have f4 : 0 ≤ ((1 * r 19 + ((-2) * r 6 + 0)) + (-1)) := hok.2 _ (List.mem_of_getElem? (i := 4) rfl)
  have f5 : 0 ≤ ((2 * r 6 + 0) + 0) := hok.2 _ (List.mem_of_getElem? (i := 5) rfl)
  obtain ⟨hG, hgi⟩ := hG
  have hG : True := hG
  obtain ⟨h0, hh, e0, k0⟩ := hh
  have k0 : ∀ j, j ∉ [] → g j = h0 j := k0
  have e0 : ((1 * r 22 + 0) + 0) = (((1 * r 9 + (1 * r 8 + 0)) + 0)).tdiv (((1 * r 19 + 0) + 0)) := e0
  obtain ⟨h1, hh, e1, k1⟩ := hh
  have k1 : ∀ j, j ∉ [] → h0 j = h1 j := k1
  have e1 : ((0 : Int) + 0) = (((2 * r 7 + 0) + 0)).tdiv (((1 * r 19 + 0) + 0)) := e1
  obtain ⟨h2, hh, e2, k2⟩ := hh
  have k2 : ∀ j, j ∉ [] → h1 j = h2 j := k2
  have e2 : ((0 : Int) + 0) = (((2 * r 6 + 0) + 0)).tdiv (((1 * r 19 + 0) + 0)) := e2
  obtain ⟨h3, hh, e3, k3⟩ := hh
  have k3 : ∀ j, j ∉ [] → h2 j = h3 j := k3
  have e3 : ((1 * r 19 + 0) + 0) = ye_q ((1 * r 18 + 0) + 0) ((1 * r 9 + (1 * r 8 + 0)) + 0) := e3
  obtain ⟨h4, hh, e4, k4⟩ := hh
  have k4 : ∀ j, j ∉ [] → h3 j = h4 j := k4
  have e4 : ((1 * r 18 + 0) + 0) = ye_q ((2 * r 6 + 0) + 0) ((2 * r 7 + 0) + 0) := e4
  obtain ⟨h5, hh, e5, k5⟩ := hh
  have k5 : ∀ j, j ∉ [] → h4 j = h5 j := k5
  have e5 : 0 ≤ ((1 * r 15 + 0) + 0) → ((1 * ((1 * r 16 + 0) + 0) + 0) + 0) = (((1 * r 14 + 0) + 0)).tdiv (ye_q ((1 * r 14 + 0) + 0) ((1 * r 15 + 0) + 0)) ∧ ((1 * ((1 * r 17 + 0) + 0) + 0) + 0) = (((1 * r 15 + 0) + 0)).tdiv (ye_q ((1 * r 14 + 0) + 0) ((1 * r 15 + 0) + 0)) := e5
  obtain ⟨h6, hh, e6, k6⟩ := hh
  have k6 : ∀ j, j ∉ [] → h5 j = h6 j := k6
  have e6 : ((1 * r 15 + 0) + 0) = ((1 * r 6 + 0) + 0) * ((1 * r 6 + 0) + 0) + ((1 * r 7 + 0) + 0) * ((1 * r 7 + 0) + 0) := e6
  obtain ⟨g7, hh, q7, e7⟩ := hh
  subst q7
  have e7 : r 14 = (((-1) * r 9 + (1 * r 8 + 0)) + 0) * (((-1) * r 9 + (1 * r 8 + 0)) + 0) := e7
  try simp only [Int.one_mul, Int.zero_add, Int.add_zero] at e7
  have hh : h6 = gi := hh
  subst hh
  refine yt_dcut (by decide) rfl ?_ ?_
  · rw [show xk_86.2.1.2.1.1.length = 14 from rfl]
    refine yx_fks _ _ ?_
    refine ⟨?_, ?_, trivial⟩
    · show 0 ≤ ((1 * ((0 : Int) + 0) + 0) + 0)
      omega
    · show 0 ≤ (((-1) * ((0 : Int) + 0) + (1 * ((0 : Int) + 0) + 0)) + 0)
      omega
  · rw [show xk_86.2.1.2.1.1.length = 14 from rfl]
    show ((1 * ((1 * r 16 + 0) + 0) + 0) + 0) = ye_wd (g0 3) (g0 4) (((1 * ((1 * r 12 + 0) + 0) + 0) + 0)).toNat ((1 * ((1 * r 6 + 0) + 0) + 0) + 0) ((1 * ((1 * r 7 + 0) + 0) + 0) + 0) ((1 * ((1 * r 8 + 0) + 0) + 0) + 0) ((1 * ((1 * r 9 + 0) + 0) + 0) + 0) 0 ∧ ((1 * ((1 * r 17 + 0) + 0) + 0) + 0) = ye_wd (g0 3) (g0 4) (((1 * ((1 * r 12 + 0) + 0) + 0) + 0)).toNat ((1 * ((1 * r 6 + 0) + 0) + 0) + 0) ((1 * ((1 * r 7 + 0) + 0) + 0) + 0) ((1 * ((1 * r 8 + 0) + 0) + 0) + 0) ((1 * ((1 * r 9 + 0) + 0) + 0) + 0) 1 ∧ ((1 * ((0 : Int) + 0) + 0) + 0) = ye_wd (g0 3) (g0 4) (((1 * ((1 * r 12 + 0) + 0) + 0) + 0)).toNat ((1 * ((1 * r 6 + 0) + 0) + 0) + 0) ((1 * ((1 * r 7 + 0) + 0) + 0) + 0) ((1 * ((1 * r 8 + 0) + 0) + 0) + 0) ((1 * ((1 * r 9 + 0) + 0) + 0) + 0) 2 ∧ ((1 * ((0 : Int) + 0) + 0) + 0) = ye_wd (g0 3) (g0 4) (((1 * ((1 * r 12 + 0) + 0) + 0) + 0)).toNat ((1 * ((1 * r 6 + 0) + 0) + 0) + 0) ((1 * ((1 * r 7 + 0) + 0) + 0) + 0) ((1 * ((1 * r 8 + 0) + 0) + 0) + 0) ((1 * ((1 * r 9 + 0) + 0) + 0) + 0) 3 ∧ ((1 * ((1 * r 22 + 0) + 0) + 0) + 0) = ye_wd (g0 3) (g0 4) (((1 * ((1 * r 12 + 0) + 0) + 0) + 0)).toNat ((1 * ((1 * r 6 + 0) + 0) + 0) + 0) ((1 * ((1 * r 7 + 0) + 0) + 0) + 0) ((1 * ((1 * r 8 + 0) + 0) + 0) + 0) ((1 * ((1 * r 9 + 0) + 0) + 0) + 0) 4 ∧ ((1 * ((0 : Int) + 0) + 0) + 0) = ye_sc (g0 3) (g0 4) ((1 * ((1 * r 6 + 0) + 0) + 0) + 0) ((1 * ((1 * r 7 + 0) + 0) + 0) + 0) ((1 * ((1 * r 8 + 0) + 0) + 0) + 0) ((1 * ((1 * r 9 + 0) + 0) + 0) + 0) (((1 * ((0 : Int) + 0) + 0) + 0)).toNat ∧ ((1 * ((0 : Int) + 0) + 0) + 0) ≤ ((1 * ((1 * r 12 + 0) + 0) + 0) + 0)
    try simp only [Int.one_mul, Int.zero_add, Int.add_zero]
    try simp only [Int.one_mul, Int.zero_add, Int.add_zero] at e5
    try simp only [Int.one_mul, Int.zero_add, Int.add_zero] at e6
    try simp only [Int.one_mul, Int.zero_add, Int.add_zero] at e7
    try simp only [Int.one_mul, Int.zero_add, Int.add_zero] at e3
    try simp only [Int.one_mul, Int.zero_add, Int.add_zero] at e4
    try simp only [Int.one_mul, Int.zero_add, Int.add_zero] at e0
    try simp only [Int.one_mul, Int.zero_add, Int.add_zero] at e1
    try simp only [Int.one_mul, Int.zero_add, Int.add_zero] at e2
    rw [show -1 * r 9 + r 8 = r 8 - r 9 by omega] at e7
    rw [e6, e7] at e5
    obtain ⟨q0, q1⟩ := e5 (ye_ss (r 6) (r 7))
    rw [e4, show r 9 + r 8 = r 8 + r 9 by omega] at e3
    rw [e3] at e2 e1 e0
    rw [show r 9 + r 8 = r 8 + r 9 by omega] at e0
    refine ⟨?_, ?_, ?_, ?_, ?_, ?_, ?_⟩
    · unfold ye_wd
      rw [if_pos rfl]
      exact q0
    · unfold ye_wd
      rw [if_neg (by decide), if_pos rfl]
      exact q1
    · unfold ye_wd
      rw [if_neg (by decide), if_neg (by decide), if_pos rfl]
      exact e2
    · unfold ye_wd
      rw [if_neg (by decide), if_neg (by decide), if_neg (by decide), if_pos rfl]
      exact e1
    · unfold ye_wd
      rw [if_neg (by decide), if_neg (by decide), if_neg (by decide), if_neg (by decide), if_pos rfl]
      exact e0
    · rfl
    · omega
theorem xw_86_0_3 : yt_hold xT_86 xk_86 xq_86.2.2.1 xG_86 xP_86 xU_86 14 xk_86.2.1.2.2.2 (fun g0 r g => xR_86 r g0 ∧ g = g0) (0, ([(0, 1), ((-9223372036854775808), 9223372036854775807), ((-9223372036854775808), 9223372036854775807), ((-9223372036854775808), 9223372036854775807), (0, 40), ((-2147483648), 2147483647), ((-600), 600), ((-600), 600), ((-1000000), 1000000), ((-1000000), 1000000), ((-9223372036854775808), 9223372036854775807), ((-9223372036854775808), 9223372036854775807), (0, 40), ((-2147483648), 2147483647), (0, 4000000000000), (0, 720000), ((-9223372036854775808), 9223372036854775807), ((-9223372036854775808), 9223372036854775807), (1, 4611686018427387904), (1, 1200), (0, 0), (1, 1200), (0, 0)], [([(19, 1), (8, (-1)), (9, (-1))], (-1)), ([(9, 1), (8, 1)], 0), ([(21, (-1)), (7, 2)], 0), ([(19, (-1)), (7, 2)], 0), ([(19, 1), (6, (-2))], (-1)), ([(6, 2)], 0)]), [([], 0), ([], 0), ([(21, 1)], 0), ([], 0), ([], 0), ([(16, 1)], 0), ([(17, 1)], 0)], [], [.inr (.inr (.inl (998, 1, [([(9, 1), (8, 1)], 0), ([(19, 1)], 0), ([], 0)], [], []))), .inr (.inr (.inl (998, 1, [([(7, 2)], 0), ([(19, 1)], 0), ([(21, 1)], 0)], [], []))), .inr (.inr (.inl (998, 1, [([(6, 2)], 0), ([(19, 1)], 0), ([], 0)], [], []))), .inr (.inr (.inl (312, 0, [([(18, 1)], 0), ([(9, 1), (8, 1)], 0), ([(19, 1)], 0)], [], []))), .inr (.inr (.inl (312, 0, [([(6, 2)], 0), ([(7, 2)], 0), ([(18, 1)], 0)], [], []))), .inr (.inr (.inl (313, 0, [([(14, 1)], 0), ([(15, 1)], 0), ([(10, 1)], 0), ([(11, 1)], 0), ([(16, 1)], 0), ([(17, 1)], 0)], [1], []))), .inr (.inr (.inl (300, 0, [([(6, 1)], 0), ([(7, 1)], 0), ([(15, 1)], 0)], [], []))), .inl (.inr (14, ([(9, (-1)), (8, 1)], 0), ([(9, (-1)), (8, 1)], 0)))]) := by
  intro g0 r gi g hok hh hars hfr hG
  have b0 : 0 ≤ r 0 ∧ r 0 ≤ 1 := hok.1 0 (0, 1) rfl
  have b6 : (-600) ≤ r 6 ∧ r 6 ≤ 600 := hok.1 6 ((-600), 600) rfl
  have b7 : (-600) ≤ r 7 ∧ r 7 ≤ 600 := hok.1 7 ((-600), 600) rfl
  have b8 : (-1000000) ≤ r 8 ∧ r 8 ≤ 1000000 := hok.1 8 ((-1000000), 1000000) rfl
  have b9 : (-1000000) ≤ r 9 ∧ r 9 ≤ 1000000 := hok.1 9 ((-1000000), 1000000) rfl
  have b12 : 0 ≤ r 12 ∧ r 12 ≤ 40 := hok.1 12 (0, 40) rfl
  have b14 : 0 ≤ r 14 ∧ r 14 ≤ 4000000000000 := hok.1 14 (0, 4000000000000) rfl
  have b15 : 0 ≤ r 15 ∧ r 15 ≤ 720000 := hok.1 15 (0, 720000) rfl
  have b16 : (-9223372036854775808) ≤ r 16 ∧ r 16 ≤ 9223372036854775807 := hok.1 16 ((-9223372036854775808), 9223372036854775807) rfl
  have b17 : (-9223372036854775808) ≤ r 17 ∧ r 17 ≤ 9223372036854775807 := hok.1 17 ((-9223372036854775808), 9223372036854775807) rfl
  have b18 : 1 ≤ r 18 ∧ r 18 ≤ 4611686018427387904 := hok.1 18 (1, 4611686018427387904) rfl
  have b19 : 1 ≤ r 19 ∧ r 19 ≤ 1200 := hok.1 19 (1, 1200) rfl
  have b20 : 0 ≤ r 20 ∧ r 20 ≤ 0 := hok.1 20 (0, 0) rfl
  have b21 : 1 ≤ r 21 ∧ r 21 ≤ 1200 := hok.1 21 (1, 1200) rfl
  have b22 : 0 ≤ r 22 ∧ r 22 ≤ 0 := hok.1 22 (0, 0) rfl
  have f0 : 0 ≤ ((1 * r 19 + ((-1) * r 8 + ((-1) * r 9 + 0))) + (-1)) := hok.2 _ (List.mem_of_getElem? (i := 0) rfl)
  have f1 : 0 ≤ ((1 * r 9 + (1 * r 8 + 0)) + 0) := hok.2 _ (List.mem_of_getElem? (i := 1) rfl)
  have f2 : 0 ≤ (((-1) * r 21 + (2 * r 7 + 0)) + 0) := hok.2 _ (List.mem_of_getElem? (i := 2) rfl)
  have f3 : 0 ≤ (((-1) * r 19 + (2 * r 7 + 0)) + 0) := hok.2 _ (List.mem_of_getElem? (i := 3) rfl)
  have f4 : 0 ≤ ((1 * r 19 + ((-2) * r 6 + 0)) + (-1)) := hok.2 _ (List.mem_of_getElem? (i := 4) rfl)
  have f5 : 0 ≤ ((2 * r 6 + 0) + 0) := hok.2 _ (List.mem_of_getElem? (i := 5) rfl)
  obtain ⟨hG, hgi⟩ := hG
  have hG : True := hG
  obtain ⟨h0, hh, e0, k0⟩ := hh
  have k0 : ∀ j, j ∉ [] → g j = h0 j := k0
  have e0 : ((0 : Int) + 0) = (((1 * r 9 + (1 * r 8 + 0)) + 0)).tdiv (((1 * r 19 + 0) + 0)) := e0
  obtain ⟨h1, hh, e1, k1⟩ := hh
  have k1 : ∀ j, j ∉ [] → h0 j = h1 j := k1
  have e1 : ((1 * r 21 + 0) + 0) = (((2 * r 7 + 0) + 0)).tdiv (((1 * r 19 + 0) + 0)) := e1
  obtain ⟨h2, hh, e2, k2⟩ := hh
  have k2 : ∀ j, j ∉ [] → h1 j = h2 j := k2
  have e2 : ((0 : Int) + 0) = (((2 * r 6 + 0) + 0)).tdiv (((1 * r 19 + 0) + 0)) := e2
  obtain ⟨h3, hh, e3, k3⟩ := hh
  have k3 : ∀ j, j ∉ [] → h2 j = h3 j := k3
  have e3 : ((1 * r 19 + 0) + 0) = ye_q ((1 * r 18 + 0) + 0) ((1 * r 9 + (1 * r 8 + 0)) + 0) := e3
  obtain ⟨h4, hh, e4, k4⟩ := hh
  have k4 : ∀ j, j ∉ [] → h3 j = h4 j := k4
  have e4 : ((1 * r 18 + 0) + 0) = ye_q ((2 * r 6 + 0) + 0) ((2 * r 7 + 0) + 0) := e4
  obtain ⟨h5, hh, e5, k5⟩ := hh
  have k5 : ∀ j, j ∉ [] → h4 j = h5 j := k5
  have e5 : 0 ≤ ((1 * r 15 + 0) + 0) → ((1 * ((1 * r 16 + 0) + 0) + 0) + 0) = (((1 * r 14 + 0) + 0)).tdiv (ye_q ((1 * r 14 + 0) + 0) ((1 * r 15 + 0) + 0)) ∧ ((1 * ((1 * r 17 + 0) + 0) + 0) + 0) = (((1 * r 15 + 0) + 0)).tdiv (ye_q ((1 * r 14 + 0) + 0) ((1 * r 15 + 0) + 0)) := e5
  obtain ⟨h6, hh, e6, k6⟩ := hh
  have k6 : ∀ j, j ∉ [] → h5 j = h6 j := k6
  have e6 : ((1 * r 15 + 0) + 0) = ((1 * r 6 + 0) + 0) * ((1 * r 6 + 0) + 0) + ((1 * r 7 + 0) + 0) * ((1 * r 7 + 0) + 0) := e6
  obtain ⟨g7, hh, q7, e7⟩ := hh
  subst q7
  have e7 : r 14 = (((-1) * r 9 + (1 * r 8 + 0)) + 0) * (((-1) * r 9 + (1 * r 8 + 0)) + 0) := e7
  try simp only [Int.one_mul, Int.zero_add, Int.add_zero] at e7
  have hh : h6 = gi := hh
  subst hh
  refine yt_dcut (by decide) rfl ?_ ?_
  · rw [show xk_86.2.1.2.1.1.length = 14 from rfl]
    refine yx_fks _ _ ?_
    refine ⟨?_, ?_, trivial⟩
    · show 0 ≤ ((1 * ((0 : Int) + 0) + 0) + 0)
      omega
    · show 0 ≤ (((-1) * ((0 : Int) + 0) + (1 * ((0 : Int) + 0) + 0)) + 0)
      omega
  · rw [show xk_86.2.1.2.1.1.length = 14 from rfl]
    show ((1 * ((1 * r 16 + 0) + 0) + 0) + 0) = ye_wd (g0 3) (g0 4) (((1 * ((1 * r 12 + 0) + 0) + 0) + 0)).toNat ((1 * ((1 * r 6 + 0) + 0) + 0) + 0) ((1 * ((1 * r 7 + 0) + 0) + 0) + 0) ((1 * ((1 * r 8 + 0) + 0) + 0) + 0) ((1 * ((1 * r 9 + 0) + 0) + 0) + 0) 0 ∧ ((1 * ((1 * r 17 + 0) + 0) + 0) + 0) = ye_wd (g0 3) (g0 4) (((1 * ((1 * r 12 + 0) + 0) + 0) + 0)).toNat ((1 * ((1 * r 6 + 0) + 0) + 0) + 0) ((1 * ((1 * r 7 + 0) + 0) + 0) + 0) ((1 * ((1 * r 8 + 0) + 0) + 0) + 0) ((1 * ((1 * r 9 + 0) + 0) + 0) + 0) 1 ∧ ((1 * ((0 : Int) + 0) + 0) + 0) = ye_wd (g0 3) (g0 4) (((1 * ((1 * r 12 + 0) + 0) + 0) + 0)).toNat ((1 * ((1 * r 6 + 0) + 0) + 0) + 0) ((1 * ((1 * r 7 + 0) + 0) + 0) + 0) ((1 * ((1 * r 8 + 0) + 0) + 0) + 0) ((1 * ((1 * r 9 + 0) + 0) + 0) + 0) 2 ∧ ((1 * ((1 * r 21 + 0) + 0) + 0) + 0) = ye_wd (g0 3) (g0 4) (((1 * ((1 * r 12 + 0) + 0) + 0) + 0)).toNat ((1 * ((1 * r 6 + 0) + 0) + 0) + 0) ((1 * ((1 * r 7 + 0) + 0) + 0) + 0) ((1 * ((1 * r 8 + 0) + 0) + 0) + 0) ((1 * ((1 * r 9 + 0) + 0) + 0) + 0) 3 ∧ ((1 * ((0 : Int) + 0) + 0) + 0) = ye_wd (g0 3) (g0 4) (((1 * ((1 * r 12 + 0) + 0) + 0) + 0)).toNat ((1 * ((1 * r 6 + 0) + 0) + 0) + 0) ((1 * ((1 * r 7 + 0) + 0) + 0) + 0) ((1 * ((1 * r 8 + 0) + 0) + 0) + 0) ((1 * ((1 * r 9 + 0) + 0) + 0) + 0) 4 ∧ ((1 * ((0 : Int) + 0) + 0) + 0) = ye_sc (g0 3) (g0 4) ((1 * ((1 * r 6 + 0) + 0) + 0) + 0) ((1 * ((1 * r 7 + 0) + 0) + 0) + 0) ((1 * ((1 * r 8 + 0) + 0) + 0) + 0) ((1 * ((1 * r 9 + 0) + 0) + 0) + 0) (((1 * ((0 : Int) + 0) + 0) + 0)).toNat ∧ ((1 * ((0 : Int) + 0) + 0) + 0) ≤ ((1 * ((1 * r 12 + 0) + 0) + 0) + 0)
    try simp only [Int.one_mul, Int.zero_add, Int.add_zero]
    try simp only [Int.one_mul, Int.zero_add, Int.add_zero] at e5
    try simp only [Int.one_mul, Int.zero_add, Int.add_zero] at e6
    try simp only [Int.one_mul, Int.zero_add, Int.add_zero] at e7
    try simp only [Int.one_mul, Int.zero_add, Int.add_zero] at e3
    try simp only [Int.one_mul, Int.zero_add, Int.add_zero] at e4
    try simp only [Int.one_mul, Int.zero_add, Int.add_zero] at e0
    try simp only [Int.one_mul, Int.zero_add, Int.add_zero] at e1
    try simp only [Int.one_mul, Int.zero_add, Int.add_zero] at e2
    rw [show -1 * r 9 + r 8 = r 8 - r 9 by omega] at e7
    rw [e6, e7] at e5
    obtain ⟨q0, q1⟩ := e5 (ye_ss (r 6) (r 7))
    rw [e4, show r 9 + r 8 = r 8 + r 9 by omega] at e3
    rw [e3] at e2 e1 e0
    rw [show r 9 + r 8 = r 8 + r 9 by omega] at e0
    refine ⟨?_, ?_, ?_, ?_, ?_, ?_, ?_⟩
    · unfold ye_wd
      rw [if_pos rfl]
      exact q0
    · unfold ye_wd
      rw [if_neg (by decide), if_pos rfl]
      exact q1
    · unfold ye_wd
      rw [if_neg (by decide), if_neg (by decide), if_pos rfl]
      exact e2
    · unfold ye_wd
      rw [if_neg (by decide), if_neg (by decide), if_neg (by decide), if_pos rfl]
      exact e1
    · unfold ye_wd
      rw [if_neg (by decide), if_neg (by decide), if_neg (by decide), if_neg (by decide), if_pos rfl]
      exact e0
    · rfl
    · omega
theorem xw_86_0_4 : yt_hold xT_86 xk_86 xq_86.2.2.1 xG_86 xP_86 xU_86 14 xk_86.2.1.2.2.2 (fun g0 r g => xR_86 r g0 ∧ g = g0) (0, ([(0, 1), ((-9223372036854775808), 9223372036854775807), ((-9223372036854775808), 9223372036854775807), ((-9223372036854775808), 9223372036854775807), (0, 40), ((-2147483648), 2147483647), ((-600), 600), ((-600), 600), ((-999999), 1000000), ((-999999), 1000000), ((-9223372036854775808), 9223372036854775807), ((-9223372036854775808), 9223372036854775807), (0, 40), ((-2147483648), 2147483647), (0, 4000000000000), (0, 720000), ((-9223372036854775808), 9223372036854775807), ((-9223372036854775808), 9223372036854775807), (1, 4611686018427387904), (1, 1200), (0, 0), (1, 1200), (1, 2000000)], [([(22, (-1)), (8, 1), (9, 1)], 0), ([(19, (-1)), (8, 1), (9, 1)], 0), ([(21, (-1)), (7, 2)], 0), ([(19, (-1)), (7, 2)], 0), ([(19, 1), (6, (-2))], (-1)), ([(6, 2)], 0)]), [([], 0), ([], 0), ([(21, 1)], 0), ([(22, 1)], 0), ([], 0), ([(16, 1)], 0), ([(17, 1)], 0)], [], [.inr (.inr (.inl (998, 1, [([(9, 1), (8, 1)], 0), ([(19, 1)], 0), ([(22, 1)], 0)], [], []))), .inr (.inr (.inl (998, 1, [([(7, 2)], 0), ([(19, 1)], 0), ([(21, 1)], 0)], [], []))), .inr (.inr (.inl (998, 1, [([(6, 2)], 0), ([(19, 1)], 0), ([], 0)], [], []))), .inr (.inr (.inl (312, 0, [([(18, 1)], 0), ([(9, 1), (8, 1)], 0), ([(19, 1)], 0)], [], []))), .inr (.inr (.inl (312, 0, [([(6, 2)], 0), ([(7, 2)], 0), ([(18, 1)], 0)], [], []))), .inr (.inr (.inl (313, 0, [([(14, 1)], 0), ([(15, 1)], 0), ([(10, 1)], 0), ([(11, 1)], 0), ([(16, 1)], 0), ([(17, 1)], 0)], [1], []))), .inr (.inr (.inl (300, 0, [([(6, 1)], 0), ([(7, 1)], 0), ([(15, 1)], 0)], [], []))), .inl (.inr (14, ([(9, (-1)), (8, 1)], 0), ([(9, (-1)), (8, 1)], 0)))]) := by
  intro g0 r gi g hok hh hars hfr hG
  have b0 : 0 ≤ r 0 ∧ r 0 ≤ 1 := hok.1 0 (0, 1) rfl
  have b6 : (-600) ≤ r 6 ∧ r 6 ≤ 600 := hok.1 6 ((-600), 600) rfl
  have b7 : (-600) ≤ r 7 ∧ r 7 ≤ 600 := hok.1 7 ((-600), 600) rfl
  have b8 : (-999999) ≤ r 8 ∧ r 8 ≤ 1000000 := hok.1 8 ((-999999), 1000000) rfl
  have b9 : (-999999) ≤ r 9 ∧ r 9 ≤ 1000000 := hok.1 9 ((-999999), 1000000) rfl
  have b12 : 0 ≤ r 12 ∧ r 12 ≤ 40 := hok.1 12 (0, 40) rfl
  have b14 : 0 ≤ r 14 ∧ r 14 ≤ 4000000000000 := hok.1 14 (0, 4000000000000) rfl
  have b15 : 0 ≤ r 15 ∧ r 15 ≤ 720000 := hok.1 15 (0, 720000) rfl
  have b16 : (-9223372036854775808) ≤ r 16 ∧ r 16 ≤ 9223372036854775807 := hok.1 16 ((-9223372036854775808), 9223372036854775807) rfl
  have b17 : (-9223372036854775808) ≤ r 17 ∧ r 17 ≤ 9223372036854775807 := hok.1 17 ((-9223372036854775808), 9223372036854775807) rfl
  have b18 : 1 ≤ r 18 ∧ r 18 ≤ 4611686018427387904 := hok.1 18 (1, 4611686018427387904) rfl
  have b19 : 1 ≤ r 19 ∧ r 19 ≤ 1200 := hok.1 19 (1, 1200) rfl
  have b20 : 0 ≤ r 20 ∧ r 20 ≤ 0 := hok.1 20 (0, 0) rfl
  have b21 : 1 ≤ r 21 ∧ r 21 ≤ 1200 := hok.1 21 (1, 1200) rfl
  have b22 : 1 ≤ r 22 ∧ r 22 ≤ 2000000 := hok.1 22 (1, 2000000) rfl
  have f0 : 0 ≤ (((-1) * r 22 + (1 * r 8 + (1 * r 9 + 0))) + 0) := hok.2 _ (List.mem_of_getElem? (i := 0) rfl)
  have f1 : 0 ≤ (((-1) * r 19 + (1 * r 8 + (1 * r 9 + 0))) + 0) := hok.2 _ (List.mem_of_getElem? (i := 1) rfl)
  have f2 : 0 ≤ (((-1) * r 21 + (2 * r 7 + 0)) + 0) := hok.2 _ (List.mem_of_getElem? (i := 2) rfl)
  have f3 : 0 ≤ (((-1) * r 19 + (2 * r 7 + 0)) + 0) := hok.2 _ (List.mem_of_getElem? (i := 3) rfl)
  have f4 : 0 ≤ ((1 * r 19 + ((-2) * r 6 + 0)) + (-1)) := hok.2 _ (List.mem_of_getElem? (i := 4) rfl)
  have f5 : 0 ≤ ((2 * r 6 + 0) + 0) := hok.2 _ (List.mem_of_getElem? (i := 5) rfl)
  obtain ⟨hG, hgi⟩ := hG
  have hG : True := hG
  obtain ⟨h0, hh, e0, k0⟩ := hh
  have k0 : ∀ j, j ∉ [] → g j = h0 j := k0
  have e0 : ((1 * r 22 + 0) + 0) = (((1 * r 9 + (1 * r 8 + 0)) + 0)).tdiv (((1 * r 19 + 0) + 0)) := e0
  obtain ⟨h1, hh, e1, k1⟩ := hh
  have k1 : ∀ j, j ∉ [] → h0 j = h1 j := k1
  have e1 : ((1 * r 21 + 0) + 0) = (((2 * r 7 + 0) + 0)).tdiv (((1 * r 19 + 0) + 0)) := e1
  obtain ⟨h2, hh, e2, k2⟩ := hh
  have k2 : ∀ j, j ∉ [] → h1 j = h2 j := k2
  have e2 : ((0 : Int) + 0) = (((2 * r 6 + 0) + 0)).tdiv (((1 * r 19 + 0) + 0)) := e2
  obtain ⟨h3, hh, e3, k3⟩ := hh
  have k3 : ∀ j, j ∉ [] → h2 j = h3 j := k3
  have e3 : ((1 * r 19 + 0) + 0) = ye_q ((1 * r 18 + 0) + 0) ((1 * r 9 + (1 * r 8 + 0)) + 0) := e3
  obtain ⟨h4, hh, e4, k4⟩ := hh
  have k4 : ∀ j, j ∉ [] → h3 j = h4 j := k4
  have e4 : ((1 * r 18 + 0) + 0) = ye_q ((2 * r 6 + 0) + 0) ((2 * r 7 + 0) + 0) := e4
  obtain ⟨h5, hh, e5, k5⟩ := hh
  have k5 : ∀ j, j ∉ [] → h4 j = h5 j := k5
  have e5 : 0 ≤ ((1 * r 15 + 0) + 0) → ((1 * ((1 * r 16 + 0) + 0) + 0) + 0) = (((1 * r 14 + 0) + 0)).tdiv (ye_q ((1 * r 14 + 0) + 0) ((1 * r 15 + 0) + 0)) ∧ ((1 * ((1 * r 17 + 0) + 0) + 0) + 0) = (((1 * r 15 + 0) + 0)).tdiv (ye_q ((1 * r 14 + 0) + 0) ((1 * r 15 + 0) + 0)) := e5
  obtain ⟨h6, hh, e6, k6⟩ := hh
  have k6 : ∀ j, j ∉ [] → h5 j = h6 j := k6
  have e6 : ((1 * r 15 + 0) + 0) = ((1 * r 6 + 0) + 0) * ((1 * r 6 + 0) + 0) + ((1 * r 7 + 0) + 0) * ((1 * r 7 + 0) + 0) := e6
  obtain ⟨g7, hh, q7, e7⟩ := hh
  subst q7
  have e7 : r 14 = (((-1) * r 9 + (1 * r 8 + 0)) + 0) * (((-1) * r 9 + (1 * r 8 + 0)) + 0) := e7
  try simp only [Int.one_mul, Int.zero_add, Int.add_zero] at e7
  have hh : h6 = gi := hh
  subst hh
  refine yt_dcut (by decide) rfl ?_ ?_
  · rw [show xk_86.2.1.2.1.1.length = 14 from rfl]
    refine yx_fks _ _ ?_
    refine ⟨?_, ?_, trivial⟩
    · show 0 ≤ ((1 * ((0 : Int) + 0) + 0) + 0)
      omega
    · show 0 ≤ (((-1) * ((0 : Int) + 0) + (1 * ((0 : Int) + 0) + 0)) + 0)
      omega
  · rw [show xk_86.2.1.2.1.1.length = 14 from rfl]
    show ((1 * ((1 * r 16 + 0) + 0) + 0) + 0) = ye_wd (g0 3) (g0 4) (((1 * ((1 * r 12 + 0) + 0) + 0) + 0)).toNat ((1 * ((1 * r 6 + 0) + 0) + 0) + 0) ((1 * ((1 * r 7 + 0) + 0) + 0) + 0) ((1 * ((1 * r 8 + 0) + 0) + 0) + 0) ((1 * ((1 * r 9 + 0) + 0) + 0) + 0) 0 ∧ ((1 * ((1 * r 17 + 0) + 0) + 0) + 0) = ye_wd (g0 3) (g0 4) (((1 * ((1 * r 12 + 0) + 0) + 0) + 0)).toNat ((1 * ((1 * r 6 + 0) + 0) + 0) + 0) ((1 * ((1 * r 7 + 0) + 0) + 0) + 0) ((1 * ((1 * r 8 + 0) + 0) + 0) + 0) ((1 * ((1 * r 9 + 0) + 0) + 0) + 0) 1 ∧ ((1 * ((0 : Int) + 0) + 0) + 0) = ye_wd (g0 3) (g0 4) (((1 * ((1 * r 12 + 0) + 0) + 0) + 0)).toNat ((1 * ((1 * r 6 + 0) + 0) + 0) + 0) ((1 * ((1 * r 7 + 0) + 0) + 0) + 0) ((1 * ((1 * r 8 + 0) + 0) + 0) + 0) ((1 * ((1 * r 9 + 0) + 0) + 0) + 0) 2 ∧ ((1 * ((1 * r 21 + 0) + 0) + 0) + 0) = ye_wd (g0 3) (g0 4) (((1 * ((1 * r 12 + 0) + 0) + 0) + 0)).toNat ((1 * ((1 * r 6 + 0) + 0) + 0) + 0) ((1 * ((1 * r 7 + 0) + 0) + 0) + 0) ((1 * ((1 * r 8 + 0) + 0) + 0) + 0) ((1 * ((1 * r 9 + 0) + 0) + 0) + 0) 3 ∧ ((1 * ((1 * r 22 + 0) + 0) + 0) + 0) = ye_wd (g0 3) (g0 4) (((1 * ((1 * r 12 + 0) + 0) + 0) + 0)).toNat ((1 * ((1 * r 6 + 0) + 0) + 0) + 0) ((1 * ((1 * r 7 + 0) + 0) + 0) + 0) ((1 * ((1 * r 8 + 0) + 0) + 0) + 0) ((1 * ((1 * r 9 + 0) + 0) + 0) + 0) 4 ∧ ((1 * ((0 : Int) + 0) + 0) + 0) = ye_sc (g0 3) (g0 4) ((1 * ((1 * r 6 + 0) + 0) + 0) + 0) ((1 * ((1 * r 7 + 0) + 0) + 0) + 0) ((1 * ((1 * r 8 + 0) + 0) + 0) + 0) ((1 * ((1 * r 9 + 0) + 0) + 0) + 0) (((1 * ((0 : Int) + 0) + 0) + 0)).toNat ∧ ((1 * ((0 : Int) + 0) + 0) + 0) ≤ ((1 * ((1 * r 12 + 0) + 0) + 0) + 0)
    try simp only [Int.one_mul, Int.zero_add, Int.add_zero]
    try simp only [Int.one_mul, Int.zero_add, Int.add_zero] at e5
    try simp only [Int.one_mul, Int.zero_add, Int.add_zero] at e6
    try simp only [Int.one_mul, Int.zero_add, Int.add_zero] at e7
    try simp only [Int.one_mul, Int.zero_add, Int.add_zero] at e3
    try simp only [Int.one_mul, Int.zero_add, Int.add_zero] at e4
    try simp only [Int.one_mul, Int.zero_add, Int.add_zero] at e0
    try simp only [Int.one_mul, Int.zero_add, Int.add_zero] at e1
    try simp only [Int.one_mul, Int.zero_add, Int.add_zero] at e2
    rw [show -1 * r 9 + r 8 = r 8 - r 9 by omega] at e7
    rw [e6, e7] at e5
    obtain ⟨q0, q1⟩ := e5 (ye_ss (r 6) (r 7))
    rw [e4, show r 9 + r 8 = r 8 + r 9 by omega] at e3
    rw [e3] at e2 e1 e0
    rw [show r 9 + r 8 = r 8 + r 9 by omega] at e0
    refine ⟨?_, ?_, ?_, ?_, ?_, ?_, ?_⟩
    · unfold ye_wd
      rw [if_pos rfl]
      exact q0
    · unfold ye_wd
      rw [if_neg (by decide), if_pos rfl]
      exact q1
    · unfold ye_wd
      rw [if_neg (by decide), if_neg (by decide), if_pos rfl]
      exact e2
    · unfold ye_wd
      rw [if_neg (by decide), if_neg (by decide), if_neg (by decide), if_pos rfl]
      exact e1
    · unfold ye_wd
      rw [if_neg (by decide), if_neg (by decide), if_neg (by decide), if_neg (by decide), if_pos rfl]
      exact e0
    · rfl
    · omega
theorem xw_86_0_5 : yt_hold xT_86 xk_86 xq_86.2.2.1 xG_86 xP_86 xU_86 14 xk_86.2.1.2.2.2 (fun g0 r g => xR_86 r g0 ∧ g = g0) (0, ([(0, 1), ((-9223372036854775808), 9223372036854775807), ((-9223372036854775808), 9223372036854775807), ((-9223372036854775808), 9223372036854775807), (0, 40), ((-2147483648), 2147483647), ((-600), 600), ((-600), 600), ((-1000000), 999999), ((-1000000), 999999), ((-9223372036854775808), 9223372036854775807), ((-9223372036854775808), 9223372036854775807), (0, 40), ((-2147483648), 2147483647), (0, 4000000000000), (0, 720000), ((-9223372036854775808), 9223372036854775807), ((-9223372036854775808), 9223372036854775807), (1, 4611686018427387904), (1, 1200), (0, 0), (1, 1200), ((-2000000), 0)], [([(9, (-1)), (8, (-1)), (22, 1)], 0), ([(8, (-1)), (9, (-1))], (-1)), ([(21, (-1)), (7, 2)], 0), ([(19, (-1)), (7, 2)], 0), ([(19, 1), (6, (-2))], (-1)), ([(6, 2)], 0)]), [([], 0), ([], 0), ([(21, 1)], 0), ([(22, 1)], 0), ([], 0), ([(16, 1)], 0), ([(17, 1)], 0)], [], [.inr (.inr (.inl (998, 1, [([(9, 1), (8, 1)], 0), ([(19, 1)], 0), ([(22, 1)], 0)], [], []))), .inr (.inr (.inl (998, 1, [([(7, 2)], 0), ([(19, 1)], 0), ([(21, 1)], 0)], [], []))), .inr (.inr (.inl (998, 1, [([(6, 2)], 0), ([(19, 1)], 0), ([], 0)], [], []))), .inr (.inr (.inl (312, 0, [([(18, 1)], 0), ([(9, 1), (8, 1)], 0), ([(19, 1)], 0)], [], []))), .inr (.inr (.inl (312, 0, [([(6, 2)], 0), ([(7, 2)], 0), ([(18, 1)], 0)], [], []))), .inr (.inr (.inl (313, 0, [([(14, 1)], 0), ([(15, 1)], 0), ([(10, 1)], 0), ([(11, 1)], 0), ([(16, 1)], 0), ([(17, 1)], 0)], [1], []))), .inr (.inr (.inl (300, 0, [([(6, 1)], 0), ([(7, 1)], 0), ([(15, 1)], 0)], [], []))), .inl (.inr (14, ([(9, (-1)), (8, 1)], 0), ([(9, (-1)), (8, 1)], 0)))]) := by
  intro g0 r gi g hok hh hars hfr hG
  have b0 : 0 ≤ r 0 ∧ r 0 ≤ 1 := hok.1 0 (0, 1) rfl
  have b6 : (-600) ≤ r 6 ∧ r 6 ≤ 600 := hok.1 6 ((-600), 600) rfl
  have b7 : (-600) ≤ r 7 ∧ r 7 ≤ 600 := hok.1 7 ((-600), 600) rfl
  have b8 : (-1000000) ≤ r 8 ∧ r 8 ≤ 999999 := hok.1 8 ((-1000000), 999999) rfl
  have b9 : (-1000000) ≤ r 9 ∧ r 9 ≤ 999999 := hok.1 9 ((-1000000), 999999) rfl
  have b12 : 0 ≤ r 12 ∧ r 12 ≤ 40 := hok.1 12 (0, 40) rfl
  have b14 : 0 ≤ r 14 ∧ r 14 ≤ 4000000000000 := hok.1 14 (0, 4000000000000) rfl
  have b15 : 0 ≤ r 15 ∧ r 15 ≤ 720000 := hok.1 15 (0, 720000) rfl
  have b16 : (-9223372036854775808) ≤ r 16 ∧ r 16 ≤ 9223372036854775807 := hok.1 16 ((-9223372036854775808), 9223372036854775807) rfl
  have b17 : (-9223372036854775808) ≤ r 17 ∧ r 17 ≤ 9223372036854775807 := hok.1 17 ((-9223372036854775808), 9223372036854775807) rfl
  have b18 : 1 ≤ r 18 ∧ r 18 ≤ 4611686018427387904 := hok.1 18 (1, 4611686018427387904) rfl
  have b19 : 1 ≤ r 19 ∧ r 19 ≤ 1200 := hok.1 19 (1, 1200) rfl
  have b20 : 0 ≤ r 20 ∧ r 20 ≤ 0 := hok.1 20 (0, 0) rfl
  have b21 : 1 ≤ r 21 ∧ r 21 ≤ 1200 := hok.1 21 (1, 1200) rfl
  have b22 : (-2000000) ≤ r 22 ∧ r 22 ≤ 0 := hok.1 22 ((-2000000), 0) rfl
  have f0 : 0 ≤ (((-1) * r 9 + ((-1) * r 8 + (1 * r 22 + 0))) + 0) := hok.2 _ (List.mem_of_getElem? (i := 0) rfl)
  have f1 : 0 ≤ (((-1) * r 8 + ((-1) * r 9 + 0)) + (-1)) := hok.2 _ (List.mem_of_getElem? (i := 1) rfl)
  have f2 : 0 ≤ (((-1) * r 21 + (2 * r 7 + 0)) + 0) := hok.2 _ (List.mem_of_getElem? (i := 2) rfl)
  have f3 : 0 ≤ (((-1) * r 19 + (2 * r 7 + 0)) + 0) := hok.2 _ (List.mem_of_getElem? (i := 3) rfl)
  have f4 : 0 ≤ ((1 * r 19 + ((-2) * r 6 + 0)) + (-1)) := hok.2 _ (List.mem_of_getElem? (i := 4) rfl)
  have f5 : 0 ≤ ((2 * r 6 + 0) + 0) := hok.2 _ (List.mem_of_getElem? (i := 5) rfl)
  obtain ⟨hG, hgi⟩ := hG
  have hG : True := hG
  obtain ⟨h0, hh, e0, k0⟩ := hh
  have k0 : ∀ j, j ∉ [] → g j = h0 j := k0
  have e0 : ((1 * r 22 + 0) + 0) = (((1 * r 9 + (1 * r 8 + 0)) + 0)).tdiv (((1 * r 19 + 0) + 0)) := e0
  obtain ⟨h1, hh, e1, k1⟩ := hh
  have k1 : ∀ j, j ∉ [] → h0 j = h1 j := k1
  have e1 : ((1 * r 21 + 0) + 0) = (((2 * r 7 + 0) + 0)).tdiv (((1 * r 19 + 0) + 0)) := e1
  obtain ⟨h2, hh, e2, k2⟩ := hh
  have k2 : ∀ j, j ∉ [] → h1 j = h2 j := k2
  have e2 : ((0 : Int) + 0) = (((2 * r 6 + 0) + 0)).tdiv (((1 * r 19 + 0) + 0)) := e2
  obtain ⟨h3, hh, e3, k3⟩ := hh
  have k3 : ∀ j, j ∉ [] → h2 j = h3 j := k3
  have e3 : ((1 * r 19 + 0) + 0) = ye_q ((1 * r 18 + 0) + 0) ((1 * r 9 + (1 * r 8 + 0)) + 0) := e3
  obtain ⟨h4, hh, e4, k4⟩ := hh
  have k4 : ∀ j, j ∉ [] → h3 j = h4 j := k4
  have e4 : ((1 * r 18 + 0) + 0) = ye_q ((2 * r 6 + 0) + 0) ((2 * r 7 + 0) + 0) := e4
  obtain ⟨h5, hh, e5, k5⟩ := hh
  have k5 : ∀ j, j ∉ [] → h4 j = h5 j := k5
  have e5 : 0 ≤ ((1 * r 15 + 0) + 0) → ((1 * ((1 * r 16 + 0) + 0) + 0) + 0) = (((1 * r 14 + 0) + 0)).tdiv (ye_q ((1 * r 14 + 0) + 0) ((1 * r 15 + 0) + 0)) ∧ ((1 * ((1 * r 17 + 0) + 0) + 0) + 0) = (((1 * r 15 + 0) + 0)).tdiv (ye_q ((1 * r 14 + 0) + 0) ((1 * r 15 + 0) + 0)) := e5
  obtain ⟨h6, hh, e6, k6⟩ := hh
  have k6 : ∀ j, j ∉ [] → h5 j = h6 j := k6
  have e6 : ((1 * r 15 + 0) + 0) = ((1 * r 6 + 0) + 0) * ((1 * r 6 + 0) + 0) + ((1 * r 7 + 0) + 0) * ((1 * r 7 + 0) + 0) := e6
  obtain ⟨g7, hh, q7, e7⟩ := hh
  subst q7
  have e7 : r 14 = (((-1) * r 9 + (1 * r 8 + 0)) + 0) * (((-1) * r 9 + (1 * r 8 + 0)) + 0) := e7
  try simp only [Int.one_mul, Int.zero_add, Int.add_zero] at e7
  have hh : h6 = gi := hh
  subst hh
  refine yt_dcut (by decide) rfl ?_ ?_
  · rw [show xk_86.2.1.2.1.1.length = 14 from rfl]
    refine yx_fks _ _ ?_
    refine ⟨?_, ?_, trivial⟩
    · show 0 ≤ ((1 * ((0 : Int) + 0) + 0) + 0)
      omega
    · show 0 ≤ (((-1) * ((0 : Int) + 0) + (1 * ((0 : Int) + 0) + 0)) + 0)
      omega
  · rw [show xk_86.2.1.2.1.1.length = 14 from rfl]
    show ((1 * ((1 * r 16 + 0) + 0) + 0) + 0) = ye_wd (g0 3) (g0 4) (((1 * ((1 * r 12 + 0) + 0) + 0) + 0)).toNat ((1 * ((1 * r 6 + 0) + 0) + 0) + 0) ((1 * ((1 * r 7 + 0) + 0) + 0) + 0) ((1 * ((1 * r 8 + 0) + 0) + 0) + 0) ((1 * ((1 * r 9 + 0) + 0) + 0) + 0) 0 ∧ ((1 * ((1 * r 17 + 0) + 0) + 0) + 0) = ye_wd (g0 3) (g0 4) (((1 * ((1 * r 12 + 0) + 0) + 0) + 0)).toNat ((1 * ((1 * r 6 + 0) + 0) + 0) + 0) ((1 * ((1 * r 7 + 0) + 0) + 0) + 0) ((1 * ((1 * r 8 + 0) + 0) + 0) + 0) ((1 * ((1 * r 9 + 0) + 0) + 0) + 0) 1 ∧ ((1 * ((0 : Int) + 0) + 0) + 0) = ye_wd (g0 3) (g0 4) (((1 * ((1 * r 12 + 0) + 0) + 0) + 0)).toNat ((1 * ((1 * r 6 + 0) + 0) + 0) + 0) ((1 * ((1 * r 7 + 0) + 0) + 0) + 0) ((1 * ((1 * r 8 + 0) + 0) + 0) + 0) ((1 * ((1 * r 9 + 0) + 0) + 0) + 0) 2 ∧ ((1 * ((1 * r 21 + 0) + 0) + 0) + 0) = ye_wd (g0 3) (g0 4) (((1 * ((1 * r 12 + 0) + 0) + 0) + 0)).toNat ((1 * ((1 * r 6 + 0) + 0) + 0) + 0) ((1 * ((1 * r 7 + 0) + 0) + 0) + 0) ((1 * ((1 * r 8 + 0) + 0) + 0) + 0) ((1 * ((1 * r 9 + 0) + 0) + 0) + 0) 3 ∧ ((1 * ((1 * r 22 + 0) + 0) + 0) + 0) = ye_wd (g0 3) (g0 4) (((1 * ((1 * r 12 + 0) + 0) + 0) + 0)).toNat ((1 * ((1 * r 6 + 0) + 0) + 0) + 0) ((1 * ((1 * r 7 + 0) + 0) + 0) + 0) ((1 * ((1 * r 8 + 0) + 0) + 0) + 0) ((1 * ((1 * r 9 + 0) + 0) + 0) + 0) 4 ∧ ((1 * ((0 : Int) + 0) + 0) + 0) = ye_sc (g0 3) (g0 4) ((1 * ((1 * r 6 + 0) + 0) + 0) + 0) ((1 * ((1 * r 7 + 0) + 0) + 0) + 0) ((1 * ((1 * r 8 + 0) + 0) + 0) + 0) ((1 * ((1 * r 9 + 0) + 0) + 0) + 0) (((1 * ((0 : Int) + 0) + 0) + 0)).toNat ∧ ((1 * ((0 : Int) + 0) + 0) + 0) ≤ ((1 * ((1 * r 12 + 0) + 0) + 0) + 0)
    try simp only [Int.one_mul, Int.zero_add, Int.add_zero]
    try simp only [Int.one_mul, Int.zero_add, Int.add_zero] at e5
    try simp only [Int.one_mul, Int.zero_add, Int.add_zero] at e6
    try simp only [Int.one_mul, Int.zero_add, Int.add_zero] at e7
    try simp only [Int.one_mul, Int.zero_add, Int.add_zero] at e3
    try simp only [Int.one_mul, Int.zero_add, Int.add_zero] at e4
    try simp only [Int.one_mul, Int.zero_add, Int.add_zero] at e0
    try simp only [Int.one_mul, Int.zero_add, Int.add_zero] at e1
    try simp only [Int.one_mul, Int.zero_add, Int.add_zero] at e2
    rw [show -1 * r 9 + r 8 = r 8 - r 9 by omega] at e7
    rw [e6, e7] at e5
    obtain ⟨q0, q1⟩ := e5 (ye_ss (r 6) (r 7))
    rw [e4, show r 9 + r 8 = r 8 + r 9 by omega] at e3
    rw [e3] at e2 e1 e0
    rw [show r 9 + r 8 = r 8 + r 9 by omega] at e0
    refine ⟨?_, ?_, ?_, ?_, ?_, ?_, ?_⟩
    · unfold ye_wd
      rw [if_pos rfl]
      exact q0
    · unfold ye_wd
      rw [if_neg (by decide), if_pos rfl]
      exact q1
    · unfold ye_wd
      rw [if_neg (by decide), if_neg (by decide), if_pos rfl]
      exact e2
    · unfold ye_wd
      rw [if_neg (by decide), if_neg (by decide), if_neg (by decide), if_pos rfl]
      exact e1
    · unfold ye_wd
      rw [if_neg (by decide), if_neg (by decide), if_neg (by decide), if_neg (by decide), if_pos rfl]
      exact e0
    · rfl
    · omega
theorem xw_86_0_6 : yt_hold xT_86 xk_86 xq_86.2.2.1 xG_86 xP_86 xU_86 14 xk_86.2.1.2.2.2 (fun g0 r g => xR_86 r g0 ∧ g = g0) (0, ([(0, 1), ((-9223372036854775808), 9223372036854775807), ((-9223372036854775808), 9223372036854775807), ((-9223372036854775808), 9223372036854775807), (0, 40), ((-2147483648), 2147483647), ((-600), 600), ((-600), 600), ((-1000000), 1000000), ((-1000000), 1000000), ((-9223372036854775808), 9223372036854775807), ((-9223372036854775808), 9223372036854775807), (0, 40), ((-2147483648), 2147483647), (0, 4000000000000), (0, 720000), ((-9223372036854775808), 9223372036854775807), ((-9223372036854775808), 9223372036854775807), (1, 4611686018427387904), (1, 4611686018427387904), (0, 0), ((-1200), 0), (0, 0)], [([(19, 1), (8, (-1)), (9, (-1))], (-1)), ([(9, 1), (8, 1)], 0), ([(7, (-2)), (21, 1)], 0), ([(7, (-2))], (-1)), ([(19, 1), (6, (-2))], (-1)), ([(6, 2)], 0)]), [([], 0), ([], 0), ([(21, 1)], 0), ([], 0), ([], 0), ([(16, 1)], 0), ([(17, 1)], 0)], [], [.inr (.inr (.inl (998, 1, [([(9, 1), (8, 1)], 0), ([(19, 1)], 0), ([], 0)], [], []))), .inr (.inr (.inl (998, 1, [([(7, 2)], 0), ([(19, 1)], 0), ([(21, 1)], 0)], [], []))), .inr (.inr (.inl (998, 1, [([(6, 2)], 0), ([(19, 1)], 0), ([], 0)], [], []))), .inr (.inr (.inl (312, 0, [([(18, 1)], 0), ([(9, 1), (8, 1)], 0), ([(19, 1)], 0)], [], []))), .inr (.inr (.inl (312, 0, [([(6, 2)], 0), ([(7, 2)], 0), ([(18, 1)], 0)], [], []))), .inr (.inr (.inl (313, 0, [([(14, 1)], 0), ([(15, 1)], 0), ([(10, 1)], 0), ([(11, 1)], 0), ([(16, 1)], 0), ([(17, 1)], 0)], [1], []))), .inr (.inr (.inl (300, 0, [([(6, 1)], 0), ([(7, 1)], 0), ([(15, 1)], 0)], [], []))), .inl (.inr (14, ([(9, (-1)), (8, 1)], 0), ([(9, (-1)), (8, 1)], 0)))]) := by
  intro g0 r gi g hok hh hars hfr hG
  have b0 : 0 ≤ r 0 ∧ r 0 ≤ 1 := hok.1 0 (0, 1) rfl
  have b6 : (-600) ≤ r 6 ∧ r 6 ≤ 600 := hok.1 6 ((-600), 600) rfl
  have b7 : (-600) ≤ r 7 ∧ r 7 ≤ 600 := hok.1 7 ((-600), 600) rfl
  have b8 : (-1000000) ≤ r 8 ∧ r 8 ≤ 1000000 := hok.1 8 ((-1000000), 1000000) rfl
  have b9 : (-1000000) ≤ r 9 ∧ r 9 ≤ 1000000 := hok.1 9 ((-1000000), 1000000) rfl
  have b12 : 0 ≤ r 12 ∧ r 12 ≤ 40 := hok.1 12 (0, 40) rfl
  have b14 : 0 ≤ r 14 ∧ r 14 ≤ 4000000000000 := hok.1 14 (0, 4000000000000) rfl
  have b15 : 0 ≤ r 15 ∧ r 15 ≤ 720000 := hok.1 15 (0, 720000) rfl
  have b16 : (-9223372036854775808) ≤ r 16 ∧ r 16 ≤ 9223372036854775807 := hok.1 16 ((-9223372036854775808), 9223372036854775807) rfl
  have b17 : (-9223372036854775808) ≤ r 17 ∧ r 17 ≤ 9223372036854775807 := hok.1 17 ((-9223372036854775808), 9223372036854775807) rfl
  have b18 : 1 ≤ r 18 ∧ r 18 ≤ 4611686018427387904 := hok.1 18 (1, 4611686018427387904) rfl
  have b19 : 1 ≤ r 19 ∧ r 19 ≤ 4611686018427387904 := hok.1 19 (1, 4611686018427387904) rfl
  have b20 : 0 ≤ r 20 ∧ r 20 ≤ 0 := hok.1 20 (0, 0) rfl
  have b21 : (-1200) ≤ r 21 ∧ r 21 ≤ 0 := hok.1 21 ((-1200), 0) rfl
  have b22 : 0 ≤ r 22 ∧ r 22 ≤ 0 := hok.1 22 (0, 0) rfl
  have f0 : 0 ≤ ((1 * r 19 + ((-1) * r 8 + ((-1) * r 9 + 0))) + (-1)) := hok.2 _ (List.mem_of_getElem? (i := 0) rfl)
  have f1 : 0 ≤ ((1 * r 9 + (1 * r 8 + 0)) + 0) := hok.2 _ (List.mem_of_getElem? (i := 1) rfl)
  have f2 : 0 ≤ (((-2) * r 7 + (1 * r 21 + 0)) + 0) := hok.2 _ (List.mem_of_getElem? (i := 2) rfl)
  have f3 : 0 ≤ (((-2) * r 7 + 0) + (-1)) := hok.2 _ (List.mem_of_getElem? (i := 3) rfl)
  have f4 : 0 ≤ ((1 * r 19 + ((-2) * r 6 + 0)) + (-1)) := hok.2 _ (List.mem_of_getElem? (i := 4) rfl)
  have f5 : 0 ≤ ((2 * r 6 + 0) + 0) := hok.2 _ (List.mem_of_getElem? (i := 5) rfl)
  obtain ⟨hG, hgi⟩ := hG
  have hG : True := hG
  obtain ⟨h0, hh, e0, k0⟩ := hh
  have k0 : ∀ j, j ∉ [] → g j = h0 j := k0
  have e0 : ((0 : Int) + 0) = (((1 * r 9 + (1 * r 8 + 0)) + 0)).tdiv (((1 * r 19 + 0) + 0)) := e0
  obtain ⟨h1, hh, e1, k1⟩ := hh
  have k1 : ∀ j, j ∉ [] → h0 j = h1 j := k1
  have e1 : ((1 * r 21 + 0) + 0) = (((2 * r 7 + 0) + 0)).tdiv (((1 * r 19 + 0) + 0)) := e1
  obtain ⟨h2, hh, e2, k2⟩ := hh
  have k2 : ∀ j, j ∉ [] → h1 j = h2 j := k2
  have e2 : ((0 : Int) + 0) = (((2 * r 6 + 0) + 0)).tdiv (((1 * r 19 + 0) + 0)) := e2
  obtain ⟨h3, hh, e3, k3⟩ := hh
  have k3 : ∀ j, j ∉ [] → h2 j = h3 j := k3
  have e3 : ((1 * r 19 + 0) + 0) = ye_q ((1 * r 18 + 0) + 0) ((1 * r 9 + (1 * r 8 + 0)) + 0) := e3
  obtain ⟨h4, hh, e4, k4⟩ := hh
  have k4 : ∀ j, j ∉ [] → h3 j = h4 j := k4
  have e4 : ((1 * r 18 + 0) + 0) = ye_q ((2 * r 6 + 0) + 0) ((2 * r 7 + 0) + 0) := e4
  obtain ⟨h5, hh, e5, k5⟩ := hh
  have k5 : ∀ j, j ∉ [] → h4 j = h5 j := k5
  have e5 : 0 ≤ ((1 * r 15 + 0) + 0) → ((1 * ((1 * r 16 + 0) + 0) + 0) + 0) = (((1 * r 14 + 0) + 0)).tdiv (ye_q ((1 * r 14 + 0) + 0) ((1 * r 15 + 0) + 0)) ∧ ((1 * ((1 * r 17 + 0) + 0) + 0) + 0) = (((1 * r 15 + 0) + 0)).tdiv (ye_q ((1 * r 14 + 0) + 0) ((1 * r 15 + 0) + 0)) := e5
  obtain ⟨h6, hh, e6, k6⟩ := hh
  have k6 : ∀ j, j ∉ [] → h5 j = h6 j := k6
  have e6 : ((1 * r 15 + 0) + 0) = ((1 * r 6 + 0) + 0) * ((1 * r 6 + 0) + 0) + ((1 * r 7 + 0) + 0) * ((1 * r 7 + 0) + 0) := e6
  obtain ⟨g7, hh, q7, e7⟩ := hh
  subst q7
  have e7 : r 14 = (((-1) * r 9 + (1 * r 8 + 0)) + 0) * (((-1) * r 9 + (1 * r 8 + 0)) + 0) := e7
  try simp only [Int.one_mul, Int.zero_add, Int.add_zero] at e7
  have hh : h6 = gi := hh
  subst hh
  refine yt_dcut (by decide) rfl ?_ ?_
  · rw [show xk_86.2.1.2.1.1.length = 14 from rfl]
    refine yx_fks _ _ ?_
    refine ⟨?_, ?_, trivial⟩
    · show 0 ≤ ((1 * ((0 : Int) + 0) + 0) + 0)
      omega
    · show 0 ≤ (((-1) * ((0 : Int) + 0) + (1 * ((0 : Int) + 0) + 0)) + 0)
      omega
  · rw [show xk_86.2.1.2.1.1.length = 14 from rfl]
    show ((1 * ((1 * r 16 + 0) + 0) + 0) + 0) = ye_wd (g0 3) (g0 4) (((1 * ((1 * r 12 + 0) + 0) + 0) + 0)).toNat ((1 * ((1 * r 6 + 0) + 0) + 0) + 0) ((1 * ((1 * r 7 + 0) + 0) + 0) + 0) ((1 * ((1 * r 8 + 0) + 0) + 0) + 0) ((1 * ((1 * r 9 + 0) + 0) + 0) + 0) 0 ∧ ((1 * ((1 * r 17 + 0) + 0) + 0) + 0) = ye_wd (g0 3) (g0 4) (((1 * ((1 * r 12 + 0) + 0) + 0) + 0)).toNat ((1 * ((1 * r 6 + 0) + 0) + 0) + 0) ((1 * ((1 * r 7 + 0) + 0) + 0) + 0) ((1 * ((1 * r 8 + 0) + 0) + 0) + 0) ((1 * ((1 * r 9 + 0) + 0) + 0) + 0) 1 ∧ ((1 * ((0 : Int) + 0) + 0) + 0) = ye_wd (g0 3) (g0 4) (((1 * ((1 * r 12 + 0) + 0) + 0) + 0)).toNat ((1 * ((1 * r 6 + 0) + 0) + 0) + 0) ((1 * ((1 * r 7 + 0) + 0) + 0) + 0) ((1 * ((1 * r 8 + 0) + 0) + 0) + 0) ((1 * ((1 * r 9 + 0) + 0) + 0) + 0) 2 ∧ ((1 * ((1 * r 21 + 0) + 0) + 0) + 0) = ye_wd (g0 3) (g0 4) (((1 * ((1 * r 12 + 0) + 0) + 0) + 0)).toNat ((1 * ((1 * r 6 + 0) + 0) + 0) + 0) ((1 * ((1 * r 7 + 0) + 0) + 0) + 0) ((1 * ((1 * r 8 + 0) + 0) + 0) + 0) ((1 * ((1 * r 9 + 0) + 0) + 0) + 0) 3 ∧ ((1 * ((0 : Int) + 0) + 0) + 0) = ye_wd (g0 3) (g0 4) (((1 * ((1 * r 12 + 0) + 0) + 0) + 0)).toNat ((1 * ((1 * r 6 + 0) + 0) + 0) + 0) ((1 * ((1 * r 7 + 0) + 0) + 0) + 0) ((1 * ((1 * r 8 + 0) + 0) + 0) + 0) ((1 * ((1 * r 9 + 0) + 0) + 0) + 0) 4 ∧ ((1 * ((0 : Int) + 0) + 0) + 0) = ye_sc (g0 3) (g0 4) ((1 * ((1 * r 6 + 0) + 0) + 0) + 0) ((1 * ((1 * r 7 + 0) + 0) + 0) + 0) ((1 * ((1 * r 8 + 0) + 0) + 0) + 0) ((1 * ((1 * r 9 + 0) + 0) + 0) + 0) (((1 * ((0 : Int) + 0) + 0) + 0)).toNat ∧ ((1 * ((0 : Int) + 0) + 0) + 0) ≤ ((1 * ((1 * r 12 + 0) + 0) + 0) + 0)
    try simp only [Int.one_mul, Int.zero_add, Int.add_zero]
    try simp only [Int.one_mul, Int.zero_add, Int.add_zero] at e5
    try simp only [Int.one_mul, Int.zero_add, Int.add_zero] at e6
    try simp only [Int.one_mul, Int.zero_add, Int.add_zero] at e7
    try simp only [Int.one_mul, Int.zero_add, Int.add_zero] at e3
    try simp only [Int.one_mul, Int.zero_add, Int.add_zero] at e4
    try simp only [Int.one_mul, Int.zero_add, Int.add_zero] at e0
    try simp only [Int.one_mul, Int.zero_add, Int.add_zero] at e1
    try simp only [Int.one_mul, Int.zero_add, Int.add_zero] at e2
    rw [show -1 * r 9 + r 8 = r 8 - r 9 by omega] at e7
    rw [e6, e7] at e5
    obtain ⟨q0, q1⟩ := e5 (ye_ss (r 6) (r 7))
    rw [e4, show r 9 + r 8 = r 8 + r 9 by omega] at e3
    rw [e3] at e2 e1 e0
    rw [show r 9 + r 8 = r 8 + r 9 by omega] at e0
    refine ⟨?_, ?_, ?_, ?_, ?_, ?_, ?_⟩
    · unfold ye_wd
      rw [if_pos rfl]
      exact q0
    · unfold ye_wd
      rw [if_neg (by decide), if_pos rfl]
      exact q1
    · unfold ye_wd
      rw [if_neg (by decide), if_neg (by decide), if_pos rfl]
      exact e2
    · unfold ye_wd
      rw [if_neg (by decide), if_neg (by decide), if_neg (by decide), if_pos rfl]
      exact e1
    · unfold ye_wd
      rw [if_neg (by decide), if_neg (by decide), if_neg (by decide), if_neg (by decide), if_pos rfl]
      exact e0
    · rfl
    · omega
theorem xw_86_0_7 : yt_hold xT_86 xk_86 xq_86.2.2.1 xG_86 xP_86 xU_86 14 xk_86.2.1.2.2.2 (fun g0 r g => xR_86 r g0 ∧ g = g0) (0, ([(0, 1), ((-9223372036854775808), 9223372036854775807), ((-9223372036854775808), 9223372036854775807), ((-9223372036854775808), 9223372036854775807), (0, 40), ((-2147483648), 2147483647), ((-600), 600), ((-600), 600), ((-999999), 1000000), ((-999999), 1000000), ((-9223372036854775808), 9223372036854775807), ((-9223372036854775808), 9223372036854775807), (0, 40), ((-2147483648), 2147483647), (0, 4000000000000), (0, 720000), ((-9223372036854775808), 9223372036854775807), ((-9223372036854775808), 9223372036854775807), (1, 4611686018427387904), (1, 2000000), (0, 0), ((-1200), 0), (1, 2000000)], [([(22, (-1)), (8, 1), (9, 1)], 0), ([(19, (-1)), (8, 1), (9, 1)], 0), ([(7, (-2)), (21, 1)], 0), ([(7, (-2))], (-1)), ([(19, 1), (6, (-2))], (-1)), ([(6, 2)], 0)]), [([], 0), ([], 0), ([(21, 1)], 0), ([(22, 1)], 0), ([], 0), ([(16, 1)], 0), ([(17, 1)], 0)], [], [.inr (.inr (.inl (998, 1, [([(9, 1), (8, 1)], 0), ([(19, 1)], 0), ([(22, 1)], 0)], [], []))), .inr (.inr (.inl (998, 1, [([(7, 2)], 0), ([(19, 1)], 0), ([(21, 1)], 0)], [], []))), .inr (.inr (.inl (998, 1, [([(6, 2)], 0), ([(19, 1)], 0), ([], 0)], [], []))), .inr (.inr (.inl (312, 0, [([(18, 1)], 0), ([(9, 1), (8, 1)], 0), ([(19, 1)], 0)], [], []))), .inr (.inr (.inl (312, 0, [([(6, 2)], 0), ([(7, 2)], 0), ([(18, 1)], 0)], [], []))), .inr (.inr (.inl (313, 0, [([(14, 1)], 0), ([(15, 1)], 0), ([(10, 1)], 0), ([(11, 1)], 0), ([(16, 1)], 0), ([(17, 1)], 0)], [1], []))), .inr (.inr (.inl (300, 0, [([(6, 1)], 0), ([(7, 1)], 0), ([(15, 1)], 0)], [], []))), .inl (.inr (14, ([(9, (-1)), (8, 1)], 0), ([(9, (-1)), (8, 1)], 0)))]) := by
  intro g0 r gi g hok hh hars hfr hG
  have b0 : 0 ≤ r 0 ∧ r 0 ≤ 1 := hok.1 0 (0, 1) rfl
  have b6 : (-600) ≤ r 6 ∧ r 6 ≤ 600 := hok.1 6 ((-600), 600) rfl
  have b7 : (-600) ≤ r 7 ∧ r 7 ≤ 600 := hok.1 7 ((-600), 600) rfl
  have b8 : (-999999) ≤ r 8 ∧ r 8 ≤ 1000000 := hok.1 8 ((-999999), 1000000) rfl
  have b9 : (-999999) ≤ r 9 ∧ r 9 ≤ 1000000 := hok.1 9 ((-999999), 1000000) rfl
  have b12 : 0 ≤ r 12 ∧ r 12 ≤ 40 := hok.1 12 (0, 40) rfl
  have b14 : 0 ≤ r 14 ∧ r 14 ≤ 4000000000000 := hok.1 14 (0, 4000000000000) rfl
  have b15 : 0 ≤ r 15 ∧ r 15 ≤ 720000 := hok.1 15 (0, 720000) rfl
  have b16 : (-9223372036854775808) ≤ r 16 ∧ r 16 ≤ 9223372036854775807 := hok.1 16 ((-9223372036854775808), 9223372036854775807) rfl
  have b17 : (-9223372036854775808) ≤ r 17 ∧ r 17 ≤ 9223372036854775807 := hok.1 17 ((-9223372036854775808), 9223372036854775807) rfl
  have b18 : 1 ≤ r 18 ∧ r 18 ≤ 4611686018427387904 := hok.1 18 (1, 4611686018427387904) rfl
  have b19 : 1 ≤ r 19 ∧ r 19 ≤ 2000000 := hok.1 19 (1, 2000000) rfl
  have b20 : 0 ≤ r 20 ∧ r 20 ≤ 0 := hok.1 20 (0, 0) rfl
  have b21 : (-1200) ≤ r 21 ∧ r 21 ≤ 0 := hok.1 21 ((-1200), 0) rfl
  have b22 : 1 ≤ r 22 ∧ r 22 ≤ 2000000 := hok.1 22 (1, 2000000) rfl
  have f0 : 0 ≤ (((-1) * r 22 + (1 * r 8 + (1 * r 9 + 0))) + 0) := hok.2 _ (List.mem_of_getElem? (i := 0) rfl)
  have f1 : 0 ≤ (((-1) * r 19 + (1 * r 8 + (1 * r 9 + 0))) + 0) := hok.2 _ (List.mem_of_getElem? (i := 1) rfl)
  have f2 : 0 ≤ (((-2) * r 7 + (1 * r 21 + 0)) + 0) := hok.2 _ (List.mem_of_getElem? (i := 2) rfl)
  have f3 : 0 ≤ (((-2) * r 7 + 0) + (-1)) := hok.2 _ (List.mem_of_getElem? (i := 3) rfl)
  have f4 : 0 ≤ ((1 * r 19 + ((-2) * r 6 + 0)) + (-1)) := hok.2 _ (List.mem_of_getElem? (i := 4) rfl)
  have f5 : 0 ≤ ((2 * r 6 + 0) + 0) := hok.2 _ (List.mem_of_getElem? (i := 5) rfl)
  obtain ⟨hG, hgi⟩ := hG
  have hG : True := hG
  obtain ⟨h0, hh, e0, k0⟩ := hh
  have k0 : ∀ j, j ∉ [] → g j = h0 j := k0
  have e0 : ((1 * r 22 + 0) + 0) = (((1 * r 9 + (1 * r 8 + 0)) + 0)).tdiv (((1 * r 19 + 0) + 0)) := e0
  obtain ⟨h1, hh, e1, k1⟩ := hh
  have k1 : ∀ j, j ∉ [] → h0 j = h1 j := k1
  have e1 : ((1 * r 21 + 0) + 0) = (((2 * r 7 + 0) + 0)).tdiv (((1 * r 19 + 0) + 0)) := e1
  obtain ⟨h2, hh, e2, k2⟩ := hh
  have k2 : ∀ j, j ∉ [] → h1 j = h2 j := k2
  have e2 : ((0 : Int) + 0) = (((2 * r 6 + 0) + 0)).tdiv (((1 * r 19 + 0) + 0)) := e2
  obtain ⟨h3, hh, e3, k3⟩ := hh
  have k3 : ∀ j, j ∉ [] → h2 j = h3 j := k3
  have e3 : ((1 * r 19 + 0) + 0) = ye_q ((1 * r 18 + 0) + 0) ((1 * r 9 + (1 * r 8 + 0)) + 0) := e3
  obtain ⟨h4, hh, e4, k4⟩ := hh
  have k4 : ∀ j, j ∉ [] → h3 j = h4 j := k4
  have e4 : ((1 * r 18 + 0) + 0) = ye_q ((2 * r 6 + 0) + 0) ((2 * r 7 + 0) + 0) := e4
  obtain ⟨h5, hh, e5, k5⟩ := hh
  have k5 : ∀ j, j ∉ [] → h4 j = h5 j := k5
  have e5 : 0 ≤ ((1 * r 15 + 0) + 0) → ((1 * ((1 * r 16 + 0) + 0) + 0) + 0) = (((1 * r 14 + 0) + 0)).tdiv (ye_q ((1 * r 14 + 0) + 0) ((1 * r 15 + 0) + 0)) ∧ ((1 * ((1 * r 17 + 0) + 0) + 0) + 0) = (((1 * r 15 + 0) + 0)).tdiv (ye_q ((1 * r 14 + 0) + 0) ((1 * r 15 + 0) + 0)) := e5
  obtain ⟨h6, hh, e6, k6⟩ := hh
  have k6 : ∀ j, j ∉ [] → h5 j = h6 j := k6
  have e6 : ((1 * r 15 + 0) + 0) = ((1 * r 6 + 0) + 0) * ((1 * r 6 + 0) + 0) + ((1 * r 7 + 0) + 0) * ((1 * r 7 + 0) + 0) := e6
  obtain ⟨g7, hh, q7, e7⟩ := hh
  subst q7
  have e7 : r 14 = (((-1) * r 9 + (1 * r 8 + 0)) + 0) * (((-1) * r 9 + (1 * r 8 + 0)) + 0) := e7
  try simp only [Int.one_mul, Int.zero_add, Int.add_zero] at e7
  have hh : h6 = gi := hh
  subst hh
  refine yt_dcut (by decide) rfl ?_ ?_
  · rw [show xk_86.2.1.2.1.1.length = 14 from rfl]
    refine yx_fks _ _ ?_
    refine ⟨?_, ?_, trivial⟩
    · show 0 ≤ ((1 * ((0 : Int) + 0) + 0) + 0)
      omega
    · show 0 ≤ (((-1) * ((0 : Int) + 0) + (1 * ((0 : Int) + 0) + 0)) + 0)
      omega
  · rw [show xk_86.2.1.2.1.1.length = 14 from rfl]
    show ((1 * ((1 * r 16 + 0) + 0) + 0) + 0) = ye_wd (g0 3) (g0 4) (((1 * ((1 * r 12 + 0) + 0) + 0) + 0)).toNat ((1 * ((1 * r 6 + 0) + 0) + 0) + 0) ((1 * ((1 * r 7 + 0) + 0) + 0) + 0) ((1 * ((1 * r 8 + 0) + 0) + 0) + 0) ((1 * ((1 * r 9 + 0) + 0) + 0) + 0) 0 ∧ ((1 * ((1 * r 17 + 0) + 0) + 0) + 0) = ye_wd (g0 3) (g0 4) (((1 * ((1 * r 12 + 0) + 0) + 0) + 0)).toNat ((1 * ((1 * r 6 + 0) + 0) + 0) + 0) ((1 * ((1 * r 7 + 0) + 0) + 0) + 0) ((1 * ((1 * r 8 + 0) + 0) + 0) + 0) ((1 * ((1 * r 9 + 0) + 0) + 0) + 0) 1 ∧ ((1 * ((0 : Int) + 0) + 0) + 0) = ye_wd (g0 3) (g0 4) (((1 * ((1 * r 12 + 0) + 0) + 0) + 0)).toNat ((1 * ((1 * r 6 + 0) + 0) + 0) + 0) ((1 * ((1 * r 7 + 0) + 0) + 0) + 0) ((1 * ((1 * r 8 + 0) + 0) + 0) + 0) ((1 * ((1 * r 9 + 0) + 0) + 0) + 0) 2 ∧ ((1 * ((1 * r 21 + 0) + 0) + 0) + 0) = ye_wd (g0 3) (g0 4) (((1 * ((1 * r 12 + 0) + 0) + 0) + 0)).toNat ((1 * ((1 * r 6 + 0) + 0) + 0) + 0) ((1 * ((1 * r 7 + 0) + 0) + 0) + 0) ((1 * ((1 * r 8 + 0) + 0) + 0) + 0) ((1 * ((1 * r 9 + 0) + 0) + 0) + 0) 3 ∧ ((1 * ((1 * r 22 + 0) + 0) + 0) + 0) = ye_wd (g0 3) (g0 4) (((1 * ((1 * r 12 + 0) + 0) + 0) + 0)).toNat ((1 * ((1 * r 6 + 0) + 0) + 0) + 0) ((1 * ((1 * r 7 + 0) + 0) + 0) + 0) ((1 * ((1 * r 8 + 0) + 0) + 0) + 0) ((1 * ((1 * r 9 + 0) + 0) + 0) + 0) 4 ∧ ((1 * ((0 : Int) + 0) + 0) + 0) = ye_sc (g0 3) (g0 4) ((1 * ((1 * r 6 + 0) + 0) + 0) + 0) ((1 * ((1 * r 7 + 0) + 0) + 0) + 0) ((1 * ((1 * r 8 + 0) + 0) + 0) + 0) ((1 * ((1 * r 9 + 0) + 0) + 0) + 0) (((1 * ((0 : Int) + 0) + 0) + 0)).toNat ∧ ((1 * ((0 : Int) + 0) + 0) + 0) ≤ ((1 * ((1 * r 12 + 0) + 0) + 0) + 0)
    try simp only [Int.one_mul, Int.zero_add, Int.add_zero]
    try simp only [Int.one_mul, Int.zero_add, Int.add_zero] at e5
    try simp only [Int.one_mul, Int.zero_add, Int.add_zero] at e6
    try simp only [Int.one_mul, Int.zero_add, Int.add_zero] at e7
    try simp only [Int.one_mul, Int.zero_add, Int.add_zero] at e3
    try simp only [Int.one_mul, Int.zero_add, Int.add_zero] at e4
    try simp only [Int.one_mul, Int.zero_add, Int.add_zero] at e0
    try simp only [Int.one_mul, Int.zero_add, Int.add_zero] at e1
    try simp only [Int.one_mul, Int.zero_add, Int.add_zero] at e2
    rw [show -1 * r 9 + r 8 = r 8 - r 9 by omega] at e7
    rw [e6, e7] at e5
    obtain ⟨q0, q1⟩ := e5 (ye_ss (r 6) (r 7))
    rw [e4, show r 9 + r 8 = r 8 + r 9 by omega] at e3
    rw [e3] at e2 e1 e0
    rw [show r 9 + r 8 = r 8 + r 9 by omega] at e0
    refine ⟨?_, ?_, ?_, ?_, ?_, ?_, ?_⟩
    · unfold ye_wd
      rw [if_pos rfl]
      exact q0
    · unfold ye_wd
      rw [if_neg (by decide), if_pos rfl]
      exact q1
    · unfold ye_wd
      rw [if_neg (by decide), if_neg (by decide), if_pos rfl]
      exact e2
    · unfold ye_wd
      rw [if_neg (by decide), if_neg (by decide), if_neg (by decide), if_pos rfl]
      exact e1
    · unfold ye_wd
      rw [if_neg (by decide), if_neg (by decide), if_neg (by decide), if_neg (by decide), if_pos rfl]
      exact e0
    · rfl
    · omega
theorem xw_86_0_8 : yt_hold xT_86 xk_86 xq_86.2.2.1 xG_86 xP_86 xU_86 14 xk_86.2.1.2.2.2 (fun g0 r g => xR_86 r g0 ∧ g = g0) (0, ([(0, 1), ((-9223372036854775808), 9223372036854775807), ((-9223372036854775808), 9223372036854775807), ((-9223372036854775808), 9223372036854775807), (0, 40), ((-2147483648), 2147483647), ((-600), 600), ((-600), 600), ((-1000000), 999999), ((-1000000), 999999), ((-9223372036854775808), 9223372036854775807), ((-9223372036854775808), 9223372036854775807), (0, 40), ((-2147483648), 2147483647), (0, 4000000000000), (0, 720000), ((-9223372036854775808), 9223372036854775807), ((-9223372036854775808), 9223372036854775807), (1, 4611686018427387904), (1, 4611686018427387904), (0, 0), ((-1200), 0), ((-2000000), 0)], [([(9, (-1)), (8, (-1)), (22, 1)], 0), ([(8, (-1)), (9, (-1))], (-1)), ([(7, (-2)), (21, 1)], 0), ([(7, (-2))], (-1)), ([(19, 1), (6, (-2))], (-1)), ([(6, 2)], 0)]), [([], 0), ([], 0), ([(21, 1)], 0), ([(22, 1)], 0), ([], 0), ([(16, 1)], 0), ([(17, 1)], 0)], [], [.inr (.inr (.inl (998, 1, [([(9, 1), (8, 1)], 0), ([(19, 1)], 0), ([(22, 1)], 0)], [], []))), .inr (.inr (.inl (998, 1, [([(7, 2)], 0), ([(19, 1)], 0), ([(21, 1)], 0)], [], []))), .inr (.inr (.inl (998, 1, [([(6, 2)], 0), ([(19, 1)], 0), ([], 0)], [], []))), .inr (.inr (.inl (312, 0, [([(18, 1)], 0), ([(9, 1), (8, 1)], 0), ([(19, 1)], 0)], [], []))), .inr (.inr (.inl (312, 0, [([(6, 2)], 0), ([(7, 2)], 0), ([(18, 1)], 0)], [], []))), .inr (.inr (.inl (313, 0, [([(14, 1)], 0), ([(15, 1)], 0), ([(10, 1)], 0), ([(11, 1)], 0), ([(16, 1)], 0), ([(17, 1)], 0)], [1], []))), .inr (.inr (.inl (300, 0, [([(6, 1)], 0), ([(7, 1)], 0), ([(15, 1)], 0)], [], []))), .inl (.inr (14, ([(9, (-1)), (8, 1)], 0), ([(9, (-1)), (8, 1)], 0)))]) := by
  intro g0 r gi g hok hh hars hfr hG
  have b0 : 0 ≤ r 0 ∧ r 0 ≤ 1 := hok.1 0 (0, 1) rfl
  have b6 : (-600) ≤ r 6 ∧ r 6 ≤ 600 := hok.1 6 ((-600), 600) rfl
  have b7 : (-600) ≤ r 7 ∧ r 7 ≤ 600 := hok.1 7 ((-600), 600) rfl
  have b8 : (-1000000) ≤ r 8 ∧ r 8 ≤ 999999 := hok.1 8 ((-1000000), 999999) rfl
  have b9 : (-1000000) ≤ r 9 ∧ r 9 ≤ 999999 := hok.1 9 ((-1000000), 999999) rfl
  have b12 : 0 ≤ r 12 ∧ r 12 ≤ 40 := hok.1 12 (0, 40) rfl
  have b14 : 0 ≤ r 14 ∧ r 14 ≤ 4000000000000 := hok.1 14 (0, 4000000000000) rfl
  have b15 : 0 ≤ r 15 ∧ r 15 ≤ 720000 := hok.1 15 (0, 720000) rfl
  have b16 : (-9223372036854775808) ≤ r 16 ∧ r 16 ≤ 9223372036854775807 := hok.1 16 ((-9223372036854775808), 9223372036854775807) rfl
  have b17 : (-9223372036854775808) ≤ r 17 ∧ r 17 ≤ 9223372036854775807 := hok.1 17 ((-9223372036854775808), 9223372036854775807) rfl
  have b18 : 1 ≤ r 18 ∧ r 18 ≤ 4611686018427387904 := hok.1 18 (1, 4611686018427387904) rfl
  have b19 : 1 ≤ r 19 ∧ r 19 ≤ 4611686018427387904 := hok.1 19 (1, 4611686018427387904) rfl
  have b20 : 0 ≤ r 20 ∧ r 20 ≤ 0 := hok.1 20 (0, 0) rfl
  have b21 : (-1200) ≤ r 21 ∧ r 21 ≤ 0 := hok.1 21 ((-1200), 0) rfl
  have b22 : (-2000000) ≤ r 22 ∧ r 22 ≤ 0 := hok.1 22 ((-2000000), 0) rfl
  have f0 : 0 ≤ (((-1) * r 9 + ((-1) * r 8 + (1 * r 22 + 0))) + 0) := hok.2 _ (List.mem_of_getElem? (i := 0) rfl)
  have f1 : 0 ≤ (((-1) * r 8 + ((-1) * r 9 + 0)) + (-1)) := hok.2 _ (List.mem_of_getElem? (i := 1) rfl)
  have f2 : 0 ≤ (((-2) * r 7 + (1 * r 21 + 0)) + 0) := hok.2 _ (List.mem_of_getElem? (i := 2) rfl)
  have f3 : 0 ≤ (((-2) * r 7 + 0) + (-1)) := hok.2 _ (List.mem_of_getElem? (i := 3) rfl)
  have f4 : 0 ≤ ((1 * r 19 + ((-2) * r 6 + 0)) + (-1)) := hok.2 _ (List.mem_of_getElem? (i := 4) rfl)
  have f5 : 0 ≤ ((2 * r 6 + 0) + 0) := hok.2 _ (List.mem_of_getElem? (i := 5) rfl)
  obtain ⟨hG, hgi⟩ := hG
  have hG : True := hG
  obtain ⟨h0, hh, e0, k0⟩ := hh
  have k0 : ∀ j, j ∉ [] → g j = h0 j := k0
  have e0 : ((1 * r 22 + 0) + 0) = (((1 * r 9 + (1 * r 8 + 0)) + 0)).tdiv (((1 * r 19 + 0) + 0)) := e0
  obtain ⟨h1, hh, e1, k1⟩ := hh
  have k1 : ∀ j, j ∉ [] → h0 j = h1 j := k1
  have e1 : ((1 * r 21 + 0) + 0) = (((2 * r 7 + 0) + 0)).tdiv (((1 * r 19 + 0) + 0)) := e1
  obtain ⟨h2, hh, e2, k2⟩ := hh
  have k2 : ∀ j, j ∉ [] → h1 j = h2 j := k2
  have e2 : ((0 : Int) + 0) = (((2 * r 6 + 0) + 0)).tdiv (((1 * r 19 + 0) + 0)) := e2
  obtain ⟨h3, hh, e3, k3⟩ := hh
  have k3 : ∀ j, j ∉ [] → h2 j = h3 j := k3
  have e3 : ((1 * r 19 + 0) + 0) = ye_q ((1 * r 18 + 0) + 0) ((1 * r 9 + (1 * r 8 + 0)) + 0) := e3
  obtain ⟨h4, hh, e4, k4⟩ := hh
  have k4 : ∀ j, j ∉ [] → h3 j = h4 j := k4
  have e4 : ((1 * r 18 + 0) + 0) = ye_q ((2 * r 6 + 0) + 0) ((2 * r 7 + 0) + 0) := e4
  obtain ⟨h5, hh, e5, k5⟩ := hh
  have k5 : ∀ j, j ∉ [] → h4 j = h5 j := k5
  have e5 : 0 ≤ ((1 * r 15 + 0) + 0) → ((1 * ((1 * r 16 + 0) + 0) + 0) + 0) = (((1 * r 14 + 0) + 0)).tdiv (ye_q ((1 * r 14 + 0) + 0) ((1 * r 15 + 0) + 0)) ∧ ((1 * ((1 * r 17 + 0) + 0) + 0) + 0) = (((1 * r 15 + 0) + 0)).tdiv (ye_q ((1 * r 14 + 0) + 0) ((1 * r 15 + 0) + 0)) := e5
  obtain ⟨h6, hh, e6, k6⟩ := hh
  have k6 : ∀ j, j ∉ [] → h5 j = h6 j := k6
  have e6 : ((1 * r 15 + 0) + 0) = ((1 * r 6 + 0) + 0) * ((1 * r 6 + 0) + 0) + ((1 * r 7 + 0) + 0) * ((1 * r 7 + 0) + 0) := e6
  obtain ⟨g7, hh, q7, e7⟩ := hh
  subst q7
  have e7 : r 14 = (((-1) * r 9 + (1 * r 8 + 0)) + 0) * (((-1) * r 9 + (1 * r 8 + 0)) + 0) := e7
  try simp only [Int.one_mul, Int.zero_add, Int.add_zero] at e7
  have hh : h6 = gi := hh
  subst hh
  refine yt_dcut (by decide) rfl ?_ ?_
  · rw [show xk_86.2.1.2.1.1.length = 14 from rfl]
    refine yx_fks _ _ ?_
    refine ⟨?_, ?_, trivial⟩
    · show 0 ≤ ((1 * ((0 : Int) + 0) + 0) + 0)
      omega
    · show 0 ≤ (((-1) * ((0 : Int) + 0) + (1 * ((0 : Int) + 0) + 0)) + 0)
      omega
  · rw [show xk_86.2.1.2.1.1.length = 14 from rfl]
    show ((1 * ((1 * r 16 + 0) + 0) + 0) + 0) = ye_wd (g0 3) (g0 4) (((1 * ((1 * r 12 + 0) + 0) + 0) + 0)).toNat ((1 * ((1 * r 6 + 0) + 0) + 0) + 0) ((1 * ((1 * r 7 + 0) + 0) + 0) + 0) ((1 * ((1 * r 8 + 0) + 0) + 0) + 0) ((1 * ((1 * r 9 + 0) + 0) + 0) + 0) 0 ∧ ((1 * ((1 * r 17 + 0) + 0) + 0) + 0) = ye_wd (g0 3) (g0 4) (((1 * ((1 * r 12 + 0) + 0) + 0) + 0)).toNat ((1 * ((1 * r 6 + 0) + 0) + 0) + 0) ((1 * ((1 * r 7 + 0) + 0) + 0) + 0) ((1 * ((1 * r 8 + 0) + 0) + 0) + 0) ((1 * ((1 * r 9 + 0) + 0) + 0) + 0) 1 ∧ ((1 * ((0 : Int) + 0) + 0) + 0) = ye_wd (g0 3) (g0 4) (((1 * ((1 * r 12 + 0) + 0) + 0) + 0)).toNat ((1 * ((1 * r 6 + 0) + 0) + 0) + 0) ((1 * ((1 * r 7 + 0) + 0) + 0) + 0) ((1 * ((1 * r 8 + 0) + 0) + 0) + 0) ((1 * ((1 * r 9 + 0) + 0) + 0) + 0) 2 ∧ ((1 * ((1 * r 21 + 0) + 0) + 0) + 0) = ye_wd (g0 3) (g0 4) (((1 * ((1 * r 12 + 0) + 0) + 0) + 0)).toNat ((1 * ((1 * r 6 + 0) + 0) + 0) + 0) ((1 * ((1 * r 7 + 0) + 0) + 0) + 0) ((1 * ((1 * r 8 + 0) + 0) + 0) + 0) ((1 * ((1 * r 9 + 0) + 0) + 0) + 0) 3 ∧ ((1 * ((1 * r 22 + 0) + 0) + 0) + 0) = ye_wd (g0 3) (g0 4) (((1 * ((1 * r 12 + 0) + 0) + 0) + 0)).toNat ((1 * ((1 * r 6 + 0) + 0) + 0) + 0) ((1 * ((1 * r 7 + 0) + 0) + 0) + 0) ((1 * ((1 * r 8 + 0) + 0) + 0) + 0) ((1 * ((1 * r 9 + 0) + 0) + 0) + 0) 4 ∧ ((1 * ((0 : Int) + 0) + 0) + 0) = ye_sc (g0 3) (g0 4) ((1 * ((1 * r 6 + 0) + 0) + 0) + 0) ((1 * ((1 * r 7 + 0) + 0) + 0) + 0) ((1 * ((1 * r 8 + 0) + 0) + 0) + 0) ((1 * ((1 * r 9 + 0) + 0) + 0) + 0) (((1 * ((0 : Int) + 0) + 0) + 0)).toNat ∧ ((1 * ((0 : Int) + 0) + 0) + 0) ≤ ((1 * ((1 * r 12 + 0) + 0) + 0) + 0)
    try simp only [Int.one_mul, Int.zero_add, Int.add_zero]
    try simp only [Int.one_mul, Int.zero_add, Int.add_zero] at e5
    try simp only [Int.one_mul, Int.zero_add, Int.add_zero] at e6
    try simp only [Int.one_mul, Int.zero_add, Int.add_zero] at e7
    try simp only [Int.one_mul, Int.zero_add, Int.add_zero] at e3
    try simp only [Int.one_mul, Int.zero_add, Int.add_zero] at e4
    try simp only [Int.one_mul, Int.zero_add, Int.add_zero] at e0
    try simp only [Int.one_mul, Int.zero_add, Int.add_zero] at e1
    try simp only [Int.one_mul, Int.zero_add, Int.add_zero] at e2
    rw [show -1 * r 9 + r 8 = r 8 - r 9 by omega] at e7
    rw [e6, e7] at e5
    obtain ⟨q0, q1⟩ := e5 (ye_ss (r 6) (r 7))
    rw [e4, show r 9 + r 8 = r 8 + r 9 by omega] at e3
    rw [e3] at e2 e1 e0
    rw [show r 9 + r 8 = r 8 + r 9 by omega] at e0
    refine ⟨?_, ?_, ?_, ?_, ?_, ?_, ?_⟩
    · unfold ye_wd
      rw [if_pos rfl]
      exact q0
    · unfold ye_wd
      rw [if_neg (by decide), if_pos rfl]
      exact q1
    · unfold ye_wd
      rw [if_neg (by decide), if_neg (by decide), if_pos rfl]
      exact e2
    · unfold ye_wd
      rw [if_neg (by decide), if_neg (by decide), if_neg (by decide), if_pos rfl]
      exact e1
    · unfold ye_wd
      rw [if_neg (by decide), if_neg (by decide), if_neg (by decide), if_neg (by decide), if_pos rfl]
      exact e0
    · rfl
    · omega
theorem xw_86_0_9 : yt_hold xT_86 xk_86 xq_86.2.2.1 xG_86 xP_86 xU_86 14 xk_86.2.1.2.2.2 (fun g0 r g => xR_86 r g0 ∧ g = g0) (0, ([(0, 1), ((-9223372036854775808), 9223372036854775807), ((-9223372036854775808), 9223372036854775807), ((-9223372036854775808), 9223372036854775807), (0, 40), ((-2147483648), 2147483647), ((-600), 600), ((-600), 600), ((-1000000), 1000000), ((-1000000), 1000000), ((-9223372036854775808), 9223372036854775807), ((-9223372036854775808), 9223372036854775807), (0, 40), ((-2147483648), 2147483647), (0, 4000000000000), (0, 720000), ((-9223372036854775808), 9223372036854775807), ((-9223372036854775808), 9223372036854775807), (1, 4611686018427387904), (1, 1200), (1, 1200), (0, 0), (0, 0)], [([(19, 1), (8, (-1)), (9, (-1))], (-1)), ([(9, 1), (8, 1)], 0), ([(19, 1), (7, (-2))], (-1)), ([(7, 2)], 0), ([(20, (-1)), (6, 2)], 0), ([(19, (-1)), (6, 2)], 0)]), [([], 0), ([(20, 1)], 0), ([], 0), ([], 0), ([], 0), ([(16, 1)], 0), ([(17, 1)], 0)], [], [.inr (.inr (.inl (998, 1, [([(9, 1), (8, 1)], 0), ([(19, 1)], 0), ([], 0)], [], []))), .inr (.inr (.inl (998, 1, [([(7, 2)], 0), ([(19, 1)], 0), ([], 0)], [], []))), .inr (.inr (.inl (998, 1, [([(6, 2)], 0), ([(19, 1)], 0), ([(20, 1)], 0)], [], []))), .inr (.inr (.inl (312, 0, [([(18, 1)], 0), ([(9, 1), (8, 1)], 0), ([(19, 1)], 0)], [], []))), .inr (.inr (.inl (312, 0, [([(6, 2)], 0), ([(7, 2)], 0), ([(18, 1)], 0)], [], []))), .inr (.inr (.inl (313, 0, [([(14, 1)], 0), ([(15, 1)], 0), ([(10, 1)], 0), ([(11, 1)], 0), ([(16, 1)], 0), ([(17, 1)], 0)], [1], []))), .inr (.inr (.inl (300, 0, [([(6, 1)], 0), ([(7, 1)], 0), ([(15, 1)], 0)], [], []))), .inl (.inr (14, ([(9, (-1)), (8, 1)], 0), ([(9, (-1)), (8, 1)], 0)))]) := by
  intro g0 r gi g hok hh hars hfr hG
  have b0 : 0 ≤ r 0 ∧ r 0 ≤ 1 := hok.1 0 (0, 1) rfl
  have b6 : (-600) ≤ r 6 ∧ r 6 ≤ 600 := hok.1 6 ((-600), 600) rfl
  have b7 : (-600) ≤ r 7 ∧ r 7 ≤ 600 := hok.1 7 ((-600), 600) rfl
  have b8 : (-1000000) ≤ r 8 ∧ r 8 ≤ 1000000 := hok.1 8 ((-1000000), 1000000) rfl
  have b9 : (-1000000) ≤ r 9 ∧ r 9 ≤ 1000000 := hok.1 9 ((-1000000), 1000000) rfl
  have b12 : 0 ≤ r 12 ∧ r 12 ≤ 40 := hok.1 12 (0, 40) rfl
  have b14 : 0 ≤ r 14 ∧ r 14 ≤ 4000000000000 := hok.1 14 (0, 4000000000000) rfl
  have b15 : 0 ≤ r 15 ∧ r 15 ≤ 720000 := hok.1 15 (0, 720000) rfl
  have b16 : (-9223372036854775808) ≤ r 16 ∧ r 16 ≤ 9223372036854775807 := hok.1 16 ((-9223372036854775808), 9223372036854775807) rfl
  have b17 : (-9223372036854775808) ≤ r 17 ∧ r 17 ≤ 9223372036854775807 := hok.1 17 ((-9223372036854775808), 9223372036854775807) rfl
  have b18 : 1 ≤ r 18 ∧ r 18 ≤ 4611686018427387904 := hok.1 18 (1, 4611686018427387904) rfl
  have b19 : 1 ≤ r 19 ∧ r 19 ≤ 1200 := hok.1 19 (1, 1200) rfl
  have b20 : 1 ≤ r 20 ∧ r 20 ≤ 1200 := hok.1 20 (1, 1200) rfl
  have b21 : 0 ≤ r 21 ∧ r 21 ≤ 0 := hok.1 21 (0, 0) rfl
  have b22 : 0 ≤ r 22 ∧ r 22 ≤ 0 := hok.1 22 (0, 0) rfl
  have f0 : 0 ≤ ((1 * r 19 + ((-1) * r 8 + ((-1) * r 9 + 0))) + (-1)) := hok.2 _ (List.mem_of_getElem? (i := 0) rfl)
  have f1 : 0 ≤ ((1 * r 9 + (1 * r 8 + 0)) + 0) := hok.2 _ (List.mem_of_getElem? (i := 1) rfl)
  have f2 : 0 ≤ ((1 * r 19 + ((-2) * r 7 + 0)) + (-1)) := hok.2 _ (List.mem_of_getElem? (i := 2) rfl)
  have f3 : 0 ≤ ((2 * r 7 + 0) + 0) := hok.2 _ (List.mem_of_getElem? (i := 3) rfl)
  have f4 : 0 ≤ (((-1) * r 20 + (2 * r 6 + 0)) + 0) := hok.2 _ (List.mem_of_getElem? (i := 4) rfl)
  have f5 : 0 ≤ (((-1) * r 19 + (2 * r 6 + 0)) + 0) := hok.2 _ (List.mem_of_getElem? (i := 5) rfl)
  obtain ⟨hG, hgi⟩ := hG
  have hG : True := hG
  obtain ⟨h0, hh, e0, k0⟩ := hh
  have k0 : ∀ j, j ∉ [] → g j = h0 j := k0
  have e0 : ((0 : Int) + 0) = (((1 * r 9 + (1 * r 8 + 0)) + 0)).tdiv (((1 * r 19 + 0) + 0)) := e0
  obtain ⟨h1, hh, e1, k1⟩ := hh
  have k1 : ∀ j, j ∉ [] → h0 j = h1 j := k1
  have e1 : ((0 : Int) + 0) = (((2 * r 7 + 0) + 0)).tdiv (((1 * r 19 + 0) + 0)) := e1
  obtain ⟨h2, hh, e2, k2⟩ := hh
  have k2 : ∀ j, j ∉ [] → h1 j = h2 j := k2
  have e2 : ((1 * r 20 + 0) + 0) = (((2 * r 6 + 0) + 0)).tdiv (((1 * r 19 + 0) + 0)) := e2
  obtain ⟨h3, hh, e3, k3⟩ := hh
  have k3 : ∀ j, j ∉ [] → h2 j = h3 j := k3
  have e3 : ((1 * r 19 + 0) + 0) = ye_q ((1 * r 18 + 0) + 0) ((1 * r 9 + (1 * r 8 + 0)) + 0) := e3
  obtain ⟨h4, hh, e4, k4⟩ := hh
  have k4 : ∀ j, j ∉ [] → h3 j = h4 j := k4
  have e4 : ((1 * r 18 + 0) + 0) = ye_q ((2 * r 6 + 0) + 0) ((2 * r 7 + 0) + 0) := e4
  obtain ⟨h5, hh, e5, k5⟩ := hh
  have k5 : ∀ j, j ∉ [] → h4 j = h5 j := k5
  have e5 : 0 ≤ ((1 * r 15 + 0) + 0) → ((1 * ((1 * r 16 + 0) + 0) + 0) + 0) = (((1 * r 14 + 0) + 0)).tdiv (ye_q ((1 * r 14 + 0) + 0) ((1 * r 15 + 0) + 0)) ∧ ((1 * ((1 * r 17 + 0) + 0) + 0) + 0) = (((1 * r 15 + 0) + 0)).tdiv (ye_q ((1 * r 14 + 0) + 0) ((1 * r 15 + 0) + 0)) := e5
  obtain ⟨h6, hh, e6, k6⟩ := hh
  have k6 : ∀ j, j ∉ [] → h5 j = h6 j := k6
  have e6 : ((1 * r 15 + 0) + 0) = ((1 * r 6 + 0) + 0) * ((1 * r 6 + 0) + 0) + ((1 * r 7 + 0) + 0) * ((1 * r 7 + 0) + 0) := e6
  obtain ⟨g7, hh, q7, e7⟩ := hh
  subst q7
  have e7 : r 14 = (((-1) * r 9 + (1 * r 8 + 0)) + 0) * (((-1) * r 9 + (1 * r 8 + 0)) + 0) := e7
  try simp only [Int.one_mul, Int.zero_add, Int.add_zero] at e7
  have hh : h6 = gi := hh
  subst hh
  refine yt_dcut (by decide) rfl ?_ ?_
  · rw [show xk_86.2.1.2.1.1.length = 14 from rfl]
    refine yx_fks _ _ ?_
    refine ⟨?_, ?_, trivial⟩
    · show 0 ≤ ((1 * ((0 : Int) + 0) + 0) + 0)
      omega
    · show 0 ≤ (((-1) * ((0 : Int) + 0) + (1 * ((0 : Int) + 0) + 0)) + 0)
      omega
  · rw [show xk_86.2.1.2.1.1.length = 14 from rfl]
    show ((1 * ((1 * r 16 + 0) + 0) + 0) + 0) = ye_wd (g0 3) (g0 4) (((1 * ((1 * r 12 + 0) + 0) + 0) + 0)).toNat ((1 * ((1 * r 6 + 0) + 0) + 0) + 0) ((1 * ((1 * r 7 + 0) + 0) + 0) + 0) ((1 * ((1 * r 8 + 0) + 0) + 0) + 0) ((1 * ((1 * r 9 + 0) + 0) + 0) + 0) 0 ∧ ((1 * ((1 * r 17 + 0) + 0) + 0) + 0) = ye_wd (g0 3) (g0 4) (((1 * ((1 * r 12 + 0) + 0) + 0) + 0)).toNat ((1 * ((1 * r 6 + 0) + 0) + 0) + 0) ((1 * ((1 * r 7 + 0) + 0) + 0) + 0) ((1 * ((1 * r 8 + 0) + 0) + 0) + 0) ((1 * ((1 * r 9 + 0) + 0) + 0) + 0) 1 ∧ ((1 * ((1 * r 20 + 0) + 0) + 0) + 0) = ye_wd (g0 3) (g0 4) (((1 * ((1 * r 12 + 0) + 0) + 0) + 0)).toNat ((1 * ((1 * r 6 + 0) + 0) + 0) + 0) ((1 * ((1 * r 7 + 0) + 0) + 0) + 0) ((1 * ((1 * r 8 + 0) + 0) + 0) + 0) ((1 * ((1 * r 9 + 0) + 0) + 0) + 0) 2 ∧ ((1 * ((0 : Int) + 0) + 0) + 0) = ye_wd (g0 3) (g0 4) (((1 * ((1 * r 12 + 0) + 0) + 0) + 0)).toNat ((1 * ((1 * r 6 + 0) + 0) + 0) + 0) ((1 * ((1 * r 7 + 0) + 0) + 0) + 0) ((1 * ((1 * r 8 + 0) + 0) + 0) + 0) ((1 * ((1 * r 9 + 0) + 0) + 0) + 0) 3 ∧ ((1 * ((0 : Int) + 0) + 0) + 0) = ye_wd (g0 3) (g0 4) (((1 * ((1 * r 12 + 0) + 0) + 0) + 0)).toNat ((1 * ((1 * r 6 + 0) + 0) + 0) + 0) ((1 * ((1 * r 7 + 0) + 0) + 0) + 0) ((1 * ((1 * r 8 + 0) + 0) + 0) + 0) ((1 * ((1 * r 9 + 0) + 0) + 0) + 0) 4 ∧ ((1 * ((0 : Int) + 0) + 0) + 0) = ye_sc (g0 3) (g0 4) ((1 * ((1 * r 6 + 0) + 0) + 0) + 0) ((1 * ((1 * r 7 + 0) + 0) + 0) + 0) ((1 * ((1 * r 8 + 0) + 0) + 0) + 0) ((1 * ((1 * r 9 + 0) + 0) + 0) + 0) (((1 * ((0 : Int) + 0) + 0) + 0)).toNat ∧ ((1 * ((0 : Int) + 0) + 0) + 0) ≤ ((1 * ((1 * r 12 + 0) + 0) + 0) + 0)
    try simp only [Int.one_mul, Int.zero_add, Int.add_zero]
    try simp only [Int.one_mul, Int.zero_add, Int.add_zero] at e5
    try simp only [Int.one_mul, Int.zero_add, Int.add_zero] at e6
    try simp only [Int.one_mul, Int.zero_add, Int.add_zero] at e7
    try simp only [Int.one_mul, Int.zero_add, Int.add_zero] at e3
    try simp only [Int.one_mul, Int.zero_add, Int.add_zero] at e4
    try simp only [Int.one_mul, Int.zero_add, Int.add_zero] at e0
    try simp only [Int.one_mul, Int.zero_add, Int.add_zero] at e1
    try simp only [Int.one_mul, Int.zero_add, Int.add_zero] at e2
    rw [show -1 * r 9 + r 8 = r 8 - r 9 by omega] at e7
    rw [e6, e7] at e5
    obtain ⟨q0, q1⟩ := e5 (ye_ss (r 6) (r 7))
    rw [e4, show r 9 + r 8 = r 8 + r 9 by omega] at e3
    rw [e3] at e2 e1 e0
    rw [show r 9 + r 8 = r 8 + r 9 by omega] at e0
    refine ⟨?_, ?_, ?_, ?_, ?_, ?_, ?_⟩
    · unfold ye_wd
      rw [if_pos rfl]
      exact q0
    · unfold ye_wd
      rw [if_neg (by decide), if_pos rfl]
      exact q1
    · unfold ye_wd
      rw [if_neg (by decide), if_neg (by decide), if_pos rfl]
      exact e2
    · unfold ye_wd
      rw [if_neg (by decide), if_neg (by decide), if_neg (by decide), if_pos rfl]
      exact e1
    · unfold ye_wd
      rw [if_neg (by decide), if_neg (by decide), if_neg (by decide), if_neg (by decide), if_pos rfl]
      exact e0
    · rfl
    · omega
theorem xw_86_0_10 : yt_hold xT_86 xk_86 xq_86.2.2.1 xG_86 xP_86 xU_86 14 xk_86.2.1.2.2.2 (fun g0 r g => xR_86 r g0 ∧ g = g0) (0, ([(0, 1), ((-9223372036854775808), 9223372036854775807), ((-9223372036854775808), 9223372036854775807), ((-9223372036854775808), 9223372036854775807), (0, 40), ((-2147483648), 2147483647), ((-600), 600), ((-600), 600), ((-999999), 1000000), ((-999999), 1000000), ((-9223372036854775808), 9223372036854775807), ((-9223372036854775808), 9223372036854775807), (0, 40), ((-2147483648), 2147483647), (0, 4000000000000), (0, 720000), ((-9223372036854775808), 9223372036854775807), ((-9223372036854775808), 9223372036854775807), (1, 4611686018427387904), (1, 1200), (1, 1200), (0, 0), (1, 2000000)], [([(22, (-1)), (8, 1), (9, 1)], 0), ([(19, (-1)), (8, 1), (9, 1)], 0), ([(19, 1), (7, (-2))], (-1)), ([(7, 2)], 0), ([(20, (-1)), (6, 2)], 0), ([(19, (-1)), (6, 2)], 0)]), [([], 0), ([(20, 1)], 0), ([], 0), ([(22, 1)], 0), ([], 0), ([(16, 1)], 0), ([(17, 1)], 0)], [], [.inr (.inr (.inl (998, 1, [([(9, 1), (8, 1)], 0), ([(19, 1)], 0), ([(22, 1)], 0)], [], []))), .inr (.inr (.inl (998, 1, [([(7, 2)], 0), ([(19, 1)], 0), ([], 0)], [], []))), .inr (.inr (.inl (998, 1, [([(6, 2)], 0), ([(19, 1)], 0), ([(20, 1)], 0)], [], []))), .inr (.inr (.inl (312, 0, [([(18, 1)], 0), ([(9, 1), (8, 1)], 0), ([(19, 1)], 0)], [], []))), .inr (.inr (.inl (312, 0, [([(6, 2)], 0), ([(7, 2)], 0), ([(18, 1)], 0)], [], []))), .inr (.inr (.inl (313, 0, [([(14, 1)], 0), ([(15, 1)], 0), ([(10, 1)], 0), ([(11, 1)], 0), ([(16, 1)], 0), ([(17, 1)], 0)], [1], []))), .inr (.inr (.inl (300, 0, [([(6, 1)], 0), ([(7, 1)], 0), ([(15, 1)], 0)], [], []))), .inl (.inr (14, ([(9, (-1)), (8, 1)], 0), ([(9, (-1)), (8, 1)], 0)))]) := by
  intro g0 r gi g hok hh hars hfr hG
  have b0 : 0 ≤ r 0 ∧ r 0 ≤ 1 := hok.1 0 (0, 1) rfl
  have b6 : (-600) ≤ r 6 ∧ r 6 ≤ 600 := hok.1 6 ((-600), 600) rfl
  have b7 : (-600) ≤ r 7 ∧ r 7 ≤ 600 := hok.1 7 ((-600), 600) rfl
  have b8 : (-999999) ≤ r 8 ∧ r 8 ≤ 1000000 := hok.1 8 ((-999999), 1000000) rfl
  have b9 : (-999999) ≤ r 9 ∧ r 9 ≤ 1000000 := hok.1 9 ((-999999), 1000000) rfl
  have b12 : 0 ≤ r 12 ∧ r 12 ≤ 40 := hok.1 12 (0, 40) rfl
  have b14 : 0 ≤ r 14 ∧ r 14 ≤ 4000000000000 := hok.1 14 (0, 4000000000000) rfl
  have b15 : 0 ≤ r 15 ∧ r 15 ≤ 720000 := hok.1 15 (0, 720000) rfl
  have b16 : (-9223372036854775808) ≤ r 16 ∧ r 16 ≤ 9223372036854775807 := hok.1 16 ((-9223372036854775808), 9223372036854775807) rfl
  have b17 : (-9223372036854775808) ≤ r 17 ∧ r 17 ≤ 9223372036854775807 := hok.1 17 ((-9223372036854775808), 9223372036854775807) rfl
  have b18 : 1 ≤ r 18 ∧ r 18 ≤ 4611686018427387904 := hok.1 18 (1, 4611686018427387904) rfl
  have b19 : 1 ≤ r 19 ∧ r 19 ≤ 1200 := hok.1 19 (1, 1200) rfl
  have b20 : 1 ≤ r 20 ∧ r 20 ≤ 1200 := hok.1 20 (1, 1200) rfl
  have b21 : 0 ≤ r 21 ∧ r 21 ≤ 0 := hok.1 21 (0, 0) rfl
  have b22 : 1 ≤ r 22 ∧ r 22 ≤ 2000000 := hok.1 22 (1, 2000000) rfl
  have f0 : 0 ≤ (((-1) * r 22 + (1 * r 8 + (1 * r 9 + 0))) + 0) := hok.2 _ (List.mem_of_getElem? (i := 0) rfl)
  have f1 : 0 ≤ (((-1) * r 19 + (1 * r 8 + (1 * r 9 + 0))) + 0) := hok.2 _ (List.mem_of_getElem? (i := 1) rfl)
  have f2 : 0 ≤ ((1 * r 19 + ((-2) * r 7 + 0)) + (-1)) := hok.2 _ (List.mem_of_getElem? (i := 2) rfl)
  have f3 : 0 ≤ ((2 * r 7 + 0) + 0) := hok.2 _ (List.mem_of_getElem? (i := 3) rfl)
  have f4 : 0 ≤ (((-1) * r 20 + (2 * r 6 + 0)) + 0) := hok.2 _ (List.mem_of_getElem? (i := 4) rfl)
  have f5 : 0 ≤ (((-1) * r 19 + (2 * r 6 + 0)) + 0) := hok.2 _ (List.mem_of_getElem? (i := 5) rfl)
  obtain ⟨hG, hgi⟩ := hG
  have hG : True := hG
  obtain ⟨h0, hh, e0, k0⟩ := hh
  have k0 : ∀ j, j ∉ [] → g j = h0 j := k0
  have e0 : ((1 * r 22 + 0) + 0) = (((1 * r 9 + (1 * r 8 + 0)) + 0)).tdiv (((1 * r 19 + 0) + 0)) := e0
  obtain ⟨h1, hh, e1, k1⟩ := hh
  have k1 : ∀ j, j ∉ [] → h0 j = h1 j := k1
  have e1 : ((0 : Int) + 0) = (((2 * r 7 + 0) + 0)).tdiv (((1 * r 19 + 0) + 0)) := e1
  obtain ⟨h2, hh, e2, k2⟩ := hh
  have k2 : ∀ j, j ∉ [] → h1 j = h2 j := k2
  have e2 : ((1 * r 20 + 0) + 0) = (((2 * r 6 + 0) + 0)).tdiv (((1 * r 19 + 0) + 0)) := e2
  obtain ⟨h3, hh, e3, k3⟩ := hh
  have k3 : ∀ j, j ∉ [] → h2 j = h3 j := k3
  have e3 : ((1 * r 19 + 0) + 0) = ye_q ((1 * r 18 + 0) + 0) ((1 * r 9 + (1 * r 8 + 0)) + 0) := e3
  obtain ⟨h4, hh, e4, k4⟩ := hh
  have k4 : ∀ j, j ∉ [] → h3 j = h4 j := k4
  have e4 : ((1 * r 18 + 0) + 0) = ye_q ((2 * r 6 + 0) + 0) ((2 * r 7 + 0) + 0) := e4
  obtain ⟨h5, hh, e5, k5⟩ := hh
  have k5 : ∀ j, j ∉ [] → h4 j = h5 j := k5
  have e5 : 0 ≤ ((1 * r 15 + 0) + 0) → ((1 * ((1 * r 16 + 0) + 0) + 0) + 0) = (((1 * r 14 + 0) + 0)).tdiv (ye_q ((1 * r 14 + 0) + 0) ((1 * r 15 + 0) + 0)) ∧ ((1 * ((1 * r 17 + 0) + 0) + 0) + 0) = (((1 * r 15 + 0) + 0)).tdiv (ye_q ((1 * r 14 + 0) + 0) ((1 * r 15 + 0) + 0)) := e5
  obtain ⟨h6, hh, e6, k6⟩ := hh
  have k6 : ∀ j, j ∉ [] → h5 j = h6 j := k6
  have e6 : ((1 * r 15 + 0) + 0) = ((1 * r 6 + 0) + 0) * ((1 * r 6 + 0) + 0) + ((1 * r 7 + 0) + 0) * ((1 * r 7 + 0) + 0) := e6
  obtain ⟨g7, hh, q7, e7⟩ := hh
  subst q7
  have e7 : r 14 = (((-1) * r 9 + (1 * r 8 + 0)) + 0) * (((-1) * r 9 + (1 * r 8 + 0)) + 0) := e7
  try simp only [Int.one_mul, Int.zero_add, Int.add_zero] at e7
  have hh : h6 = gi := hh
  subst hh
  refine yt_dcut (by decide) rfl ?_ ?_
  · rw [show xk_86.2.1.2.1.1.length = 14 from rfl]
    refine yx_fks _ _ ?_
    refine ⟨?_, ?_, trivial⟩
    · show 0 ≤ ((1 * ((0 : Int) + 0) + 0) + 0)
      omega
    · show 0 ≤ (((-1) * ((0 : Int) + 0) + (1 * ((0 : Int) + 0) + 0)) + 0)
      omega
  · rw [show xk_86.2.1.2.1.1.length = 14 from rfl]
    show ((1 * ((1 * r 16 + 0) + 0) + 0) + 0) = ye_wd (g0 3) (g0 4) (((1 * ((1 * r 12 + 0) + 0) + 0) + 0)).toNat ((1 * ((1 * r 6 + 0) + 0) + 0) + 0) ((1 * ((1 * r 7 + 0) + 0) + 0) + 0) ((1 * ((1 * r 8 + 0) + 0) + 0) + 0) ((1 * ((1 * r 9 + 0) + 0) + 0) + 0) 0 ∧ ((1 * ((1 * r 17 + 0) + 0) + 0) + 0) = ye_wd (g0 3) (g0 4) (((1 * ((1 * r 12 + 0) + 0) + 0) + 0)).toNat ((1 * ((1 * r 6 + 0) + 0) + 0) + 0) ((1 * ((1 * r 7 + 0) + 0) + 0) + 0) ((1 * ((1 * r 8 + 0) + 0) + 0) + 0) ((1 * ((1 * r 9 + 0) + 0) + 0) + 0) 1 ∧ ((1 * ((1 * r 20 + 0) + 0) + 0) + 0) = ye_wd (g0 3) (g0 4) (((1 * ((1 * r 12 + 0) + 0) + 0) + 0)).toNat ((1 * ((1 * r 6 + 0) + 0) + 0) + 0) ((1 * ((1 * r 7 + 0) + 0) + 0) + 0) ((1 * ((1 * r 8 + 0) + 0) + 0) + 0) ((1 * ((1 * r 9 + 0) + 0) + 0) + 0) 2 ∧ ((1 * ((0 : Int) + 0) + 0) + 0) = ye_wd (g0 3) (g0 4) (((1 * ((1 * r 12 + 0) + 0) + 0) + 0)).toNat ((1 * ((1 * r 6 + 0) + 0) + 0) + 0) ((1 * ((1 * r 7 + 0) + 0) + 0) + 0) ((1 * ((1 * r 8 + 0) + 0) + 0) + 0) ((1 * ((1 * r 9 + 0) + 0) + 0) + 0) 3 ∧ ((1 * ((1 * r 22 + 0) + 0) + 0) + 0) = ye_wd (g0 3) (g0 4) (((1 * ((1 * r 12 + 0) + 0) + 0) + 0)).toNat ((1 * ((1 * r 6 + 0) + 0) + 0) + 0) ((1 * ((1 * r 7 + 0) + 0) + 0) + 0) ((1 * ((1 * r 8 + 0) + 0) + 0) + 0) ((1 * ((1 * r 9 + 0) + 0) + 0) + 0) 4 ∧ ((1 * ((0 : Int) + 0) + 0) + 0) = ye_sc (g0 3) (g0 4) ((1 * ((1 * r 6 + 0) + 0) + 0) + 0) ((1 * ((1 * r 7 + 0) + 0) + 0) + 0) ((1 * ((1 * r 8 + 0) + 0) + 0) + 0) ((1 * ((1 * r 9 + 0) + 0) + 0) + 0) (((1 * ((0 : Int) + 0) + 0) + 0)).toNat ∧ ((1 * ((0 : Int) + 0) + 0) + 0) ≤ ((1 * ((1 * r 12 + 0) + 0) + 0) + 0)
    try simp only [Int.one_mul, Int.zero_add, Int.add_zero]
    try simp only [Int.one_mul, Int.zero_add, Int.add_zero] at e5
    try simp only [Int.one_mul, Int.zero_add, Int.add_zero] at e6
    try simp only [Int.one_mul, Int.zero_add, Int.add_zero] at e7
    try simp only [Int.one_mul, Int.zero_add, Int.add_zero] at e3
    try simp only [Int.one_mul, Int.zero_add, Int.add_zero] at e4
    try simp only [Int.one_mul, Int.zero_add, Int.add_zero] at e0
    try simp only [Int.one_mul, Int.zero_add, Int.add_zero] at e1
    try simp only [Int.one_mul, Int.zero_add, Int.add_zero] at e2
    rw [show -1 * r 9 + r 8 = r 8 - r 9 by omega] at e7
    rw [e6, e7] at e5
    obtain ⟨q0, q1⟩ := e5 (ye_ss (r 6) (r 7))
    rw [e4, show r 9 + r 8 = r 8 + r 9 by omega] at e3
    rw [e3] at e2 e1 e0
    rw [show r 9 + r 8 = r 8 + r 9 by omega] at e0
    refine ⟨?_, ?_, ?_, ?_, ?_, ?_, ?_⟩
    · unfold ye_wd
      rw [if_pos rfl]
      exact q0
    · unfold ye_wd
      rw [if_neg (by decide), if_pos rfl]
      exact q1
    · unfold ye_wd
      rw [if_neg (by decide), if_neg (by decide), if_pos rfl]
      exact e2
    · unfold ye_wd
      rw [if_neg (by decide), if_neg (by decide), if_neg (by decide), if_pos rfl]
      exact e1
    · unfold ye_wd
      rw [if_neg (by decide), if_neg (by decide), if_neg (by decide), if_neg (by decide), if_pos rfl]
      exact e0
    · rfl
    · omega
theorem xw_86_0_11 : yt_hold xT_86 xk_86 xq_86.2.2.1 xG_86 xP_86 xU_86 14 xk_86.2.1.2.2.2 (fun g0 r g => xR_86 r g0 ∧ g = g0) (0, ([(0, 1), ((-9223372036854775808), 9223372036854775807), ((-9223372036854775808), 9223372036854775807), ((-9223372036854775808), 9223372036854775807), (0, 40), ((-2147483648), 2147483647), ((-600), 600), ((-600), 600), ((-1000000), 999999), ((-1000000), 999999), ((-9223372036854775808), 9223372036854775807), ((-9223372036854775808), 9223372036854775807), (0, 40), ((-2147483648), 2147483647), (0, 4000000000000), (0, 720000), ((-9223372036854775808), 9223372036854775807), ((-9223372036854775808), 9223372036854775807), (1, 4611686018427387904), (1, 1200), (1, 1200), (0, 0), ((-2000000), 0)], [([(9, (-1)), (8, (-1)), (22, 1)], 0), ([(8, (-1)), (9, (-1))], (-1)), ([(19, 1), (7, (-2))], (-1)), ([(7, 2)], 0), ([(20, (-1)), (6, 2)], 0), ([(19, (-1)), (6, 2)], 0)]), [([], 0), ([(20, 1)], 0), ([], 0), ([(22, 1)], 0), ([], 0), ([(16, 1)], 0), ([(17, 1)], 0)], [], [.inr (.inr (.inl (998, 1, [([(9, 1), (8, 1)], 0), ([(19, 1)], 0), ([(22, 1)], 0)], [], []))), .inr (.inr (.inl (998, 1, [([(7, 2)], 0), ([(19, 1)], 0), ([], 0)], [], []))), .inr (.inr (.inl (998, 1, [([(6, 2)], 0), ([(19, 1)], 0), ([(20, 1)], 0)], [], []))), .inr (.inr (.inl (312, 0, [([(18, 1)], 0), ([(9, 1), (8, 1)], 0), ([(19, 1)], 0)], [], []))), .inr (.inr (.inl (312, 0, [([(6, 2)], 0), ([(7, 2)], 0), ([(18, 1)], 0)], [], []))), .inr (.inr (.inl (313, 0, [([(14, 1)], 0), ([(15, 1)], 0), ([(10, 1)], 0), ([(11, 1)], 0), ([(16, 1)], 0), ([(17, 1)], 0)], [1], []))), .inr (.inr (.inl (300, 0, [([(6, 1)], 0), ([(7, 1)], 0), ([(15, 1)], 0)], [], []))), .inl (.inr (14, ([(9, (-1)), (8, 1)], 0), ([(9, (-1)), (8, 1)], 0)))]) := by
  intro g0 r gi g hok hh hars hfr hG
  have b0 : 0 ≤ r 0 ∧ r 0 ≤ 1 := hok.1 0 (0, 1) rfl
  have b6 : (-600) ≤ r 6 ∧ r 6 ≤ 600 := hok.1 6 ((-600), 600) rfl
  have b7 : (-600) ≤ r 7 ∧ r 7 ≤ 600 := hok.1 7 ((-600), 600) rfl
  have b8 : (-1000000) ≤ r 8 ∧ r 8 ≤ 999999 := hok.1 8 ((-1000000), 999999) rfl
  have b9 : (-1000000) ≤ r 9 ∧ r 9 ≤ 999999 := hok.1 9 ((-1000000), 999999) rfl
  have b12 : 0 ≤ r 12 ∧ r 12 ≤ 40 := hok.1 12 (0, 40) rfl
  have b14 : 0 ≤ r 14 ∧ r 14 ≤ 4000000000000 := hok.1 14 (0, 4000000000000) rfl
  have b15 : 0 ≤ r 15 ∧ r 15 ≤ 720000 := hok.1 15 (0, 720000) rfl
  have b16 : (-9223372036854775808) ≤ r 16 ∧ r 16 ≤ 9223372036854775807 := hok.1 16 ((-9223372036854775808), 9223372036854775807) rfl
  have b17 : (-9223372036854775808) ≤ r 17 ∧ r 17 ≤ 9223372036854775807 := hok.1 17 ((-9223372036854775808), 9223372036854775807) rfl
  have b18 : 1 ≤ r 18 ∧ r 18 ≤ 4611686018427387904 := hok.1 18 (1, 4611686018427387904) rfl
  have b19 : 1 ≤ r 19 ∧ r 19 ≤ 1200 := hok.1 19 (1, 1200) rfl
  have b20 : 1 ≤ r 20 ∧ r 20 ≤ 1200 := hok.1 20 (1, 1200) rfl
  have b21 : 0 ≤ r 21 ∧ r 21 ≤ 0 := hok.1 21 (0, 0) rfl
  have b22 : (-2000000) ≤ r 22 ∧ r 22 ≤ 0 := hok.1 22 ((-2000000), 0) rfl
  have f0 : 0 ≤ (((-1) * r 9 + ((-1) * r 8 + (1 * r 22 + 0))) + 0) := hok.2 _ (List.mem_of_getElem? (i := 0) rfl)
  have f1 : 0 ≤ (((-1) * r 8 + ((-1) * r 9 + 0)) + (-1)) := hok.2 _ (List.mem_of_getElem? (i := 1) rfl)
  have f2 : 0 ≤ ((1 * r 19 + ((-2) * r 7 + 0)) + (-1)) := hok.2 _ (List.mem_of_getElem? (i := 2) rfl)
  have f3 : 0 ≤ ((2 * r 7 + 0) + 0) := hok.2 _ (List.mem_of_getElem? (i := 3) rfl)
  have f4 : 0 ≤ (((-1) * r 20 + (2 * r 6 + 0)) + 0) := hok.2 _ (List.mem_of_getElem? (i := 4) rfl)
  have f5 : 0 ≤ (((-1) * r 19 + (2 * r 6 + 0)) + 0) := hok.2 _ (List.mem_of_getElem? (i := 5) rfl)
  obtain ⟨hG, hgi⟩ := hG
  have hG : True := hG
  obtain ⟨h0, hh, e0, k0⟩ := hh
  have k0 : ∀ j, j ∉ [] → g j = h0 j := k0
  have e0 : ((1 * r 22 + 0) + 0) = (((1 * r 9 + (1 * r 8 + 0)) + 0)).tdiv (((1 * r 19 + 0) + 0)) := e0
  obtain ⟨h1, hh, e1, k1⟩ := hh
  have k1 : ∀ j, j ∉ [] → h0 j = h1 j := k1
  have e1 : ((0 : Int) + 0) = (((2 * r 7 + 0) + 0)).tdiv (((1 * r 19 + 0) + 0)) := e1
  obtain ⟨h2, hh, e2, k2⟩ := hh
  have k2 : ∀ j, j ∉ [] → h1 j = h2 j := k2
  have e2 : ((1 * r 20 + 0) + 0) = (((2 * r 6 + 0) + 0)).tdiv (((1 * r 19 + 0) + 0)) := e2
  obtain ⟨h3, hh, e3, k3⟩ := hh
  have k3 : ∀ j, j ∉ [] → h2 j = h3 j := k3
  have e3 : ((1 * r 19 + 0) + 0) = ye_q ((1 * r 18 + 0) + 0) ((1 * r 9 + (1 * r 8 + 0)) + 0) := e3
  obtain ⟨h4, hh, e4, k4⟩ := hh
  have k4 : ∀ j, j ∉ [] → h3 j = h4 j := k4
  have e4 : ((1 * r 18 + 0) + 0) = ye_q ((2 * r 6 + 0) + 0) ((2 * r 7 + 0) + 0) := e4
  obtain ⟨h5, hh, e5, k5⟩ := hh
  have k5 : ∀ j, j ∉ [] → h4 j = h5 j := k5
  have e5 : 0 ≤ ((1 * r 15 + 0) + 0) → ((1 * ((1 * r 16 + 0) + 0) + 0) + 0) = (((1 * r 14 + 0) + 0)).tdiv (ye_q ((1 * r 14 + 0) + 0) ((1 * r 15 + 0) + 0)) ∧ ((1 * ((1 * r 17 + 0) + 0) + 0) + 0) = (((1 * r 15 + 0) + 0)).tdiv (ye_q ((1 * r 14 + 0) + 0) ((1 * r 15 + 0) + 0)) := e5
  obtain ⟨h6, hh, e6, k6⟩ := hh
  have k6 : ∀ j, j ∉ [] → h5 j = h6 j := k6
  have e6 : ((1 * r 15 + 0) + 0) = ((1 * r 6 + 0) + 0) * ((1 * r 6 + 0) + 0) + ((1 * r 7 + 0) + 0) * ((1 * r 7 + 0) + 0) := e6
  obtain ⟨g7, hh, q7, e7⟩ := hh
  subst q7
  have e7 : r 14 = (((-1) * r 9 + (1 * r 8 + 0)) + 0) * (((-1) * r 9 + (1 * r 8 + 0)) + 0) := e7
  try simp only [Int.one_mul, Int.zero_add, Int.add_zero] at e7
  have hh : h6 = gi := hh
  subst hh
  refine yt_dcut (by decide) rfl ?_ ?_
  · rw [show xk_86.2.1.2.1.1.length = 14 from rfl]
    refine yx_fks _ _ ?_
    refine ⟨?_, ?_, trivial⟩
    · show 0 ≤ ((1 * ((0 : Int) + 0) + 0) + 0)
      omega
    · show 0 ≤ (((-1) * ((0 : Int) + 0) + (1 * ((0 : Int) + 0) + 0)) + 0)
      omega
  · rw [show xk_86.2.1.2.1.1.length = 14 from rfl]
    show ((1 * ((1 * r 16 + 0) + 0) + 0) + 0) = ye_wd (g0 3) (g0 4) (((1 * ((1 * r 12 + 0) + 0) + 0) + 0)).toNat ((1 * ((1 * r 6 + 0) + 0) + 0) + 0) ((1 * ((1 * r 7 + 0) + 0) + 0) + 0) ((1 * ((1 * r 8 + 0) + 0) + 0) + 0) ((1 * ((1 * r 9 + 0) + 0) + 0) + 0) 0 ∧ ((1 * ((1 * r 17 + 0) + 0) + 0) + 0) = ye_wd (g0 3) (g0 4) (((1 * ((1 * r 12 + 0) + 0) + 0) + 0)).toNat ((1 * ((1 * r 6 + 0) + 0) + 0) + 0) ((1 * ((1 * r 7 + 0) + 0) + 0) + 0) ((1 * ((1 * r 8 + 0) + 0) + 0) + 0) ((1 * ((1 * r 9 + 0) + 0) + 0) + 0) 1 ∧ ((1 * ((1 * r 20 + 0) + 0) + 0) + 0) = ye_wd (g0 3) (g0 4) (((1 * ((1 * r 12 + 0) + 0) + 0) + 0)).toNat ((1 * ((1 * r 6 + 0) + 0) + 0) + 0) ((1 * ((1 * r 7 + 0) + 0) + 0) + 0) ((1 * ((1 * r 8 + 0) + 0) + 0) + 0) ((1 * ((1 * r 9 + 0) + 0) + 0) + 0) 2 ∧ ((1 * ((0 : Int) + 0) + 0) + 0) = ye_wd (g0 3) (g0 4) (((1 * ((1 * r 12 + 0) + 0) + 0) + 0)).toNat ((1 * ((1 * r 6 + 0) + 0) + 0) + 0) ((1 * ((1 * r 7 + 0) + 0) + 0) + 0) ((1 * ((1 * r 8 + 0) + 0) + 0) + 0) ((1 * ((1 * r 9 + 0) + 0) + 0) + 0) 3 ∧ ((1 * ((1 * r 22 + 0) + 0) + 0) + 0) = ye_wd (g0 3) (g0 4) (((1 * ((1 * r 12 + 0) + 0) + 0) + 0)).toNat ((1 * ((1 * r 6 + 0) + 0) + 0) + 0) ((1 * ((1 * r 7 + 0) + 0) + 0) + 0) ((1 * ((1 * r 8 + 0) + 0) + 0) + 0) ((1 * ((1 * r 9 + 0) + 0) + 0) + 0) 4 ∧ ((1 * ((0 : Int) + 0) + 0) + 0) = ye_sc (g0 3) (g0 4) ((1 * ((1 * r 6 + 0) + 0) + 0) + 0) ((1 * ((1 * r 7 + 0) + 0) + 0) + 0) ((1 * ((1 * r 8 + 0) + 0) + 0) + 0) ((1 * ((1 * r 9 + 0) + 0) + 0) + 0) (((1 * ((0 : Int) + 0) + 0) + 0)).toNat ∧ ((1 * ((0 : Int) + 0) + 0) + 0) ≤ ((1 * ((1 * r 12 + 0) + 0) + 0) + 0)
    try simp only [Int.one_mul, Int.zero_add, Int.add_zero]
    try simp only [Int.one_mul, Int.zero_add, Int.add_zero] at e5
    try simp only [Int.one_mul, Int.zero_add, Int.add_zero] at e6
    try simp only [Int.one_mul, Int.zero_add, Int.add_zero] at e7
    try simp only [Int.one_mul, Int.zero_add, Int.add_zero] at e3
    try simp only [Int.one_mul, Int.zero_add, Int.add_zero] at e4
    try simp only [Int.one_mul, Int.zero_add, Int.add_zero] at e0
    try simp only [Int.one_mul, Int.zero_add, Int.add_zero] at e1
    try simp only [Int.one_mul, Int.zero_add, Int.add_zero] at e2
    rw [show -1 * r 9 + r 8 = r 8 - r 9 by omega] at e7
    rw [e6, e7] at e5
    obtain ⟨q0, q1⟩ := e5 (ye_ss (r 6) (r 7))
    rw [e4, show r 9 + r 8 = r 8 + r 9 by omega] at e3
    rw [e3] at e2 e1 e0
    rw [show r 9 + r 8 = r 8 + r 9 by omega] at e0
    refine ⟨?_, ?_, ?_, ?_, ?_, ?_, ?_⟩
    · unfold ye_wd
      rw [if_pos rfl]
      exact q0
    · unfold ye_wd
      rw [if_neg (by decide), if_pos rfl]
      exact q1
    · unfold ye_wd
      rw [if_neg (by decide), if_neg (by decide), if_pos rfl]
      exact e2
    · unfold ye_wd
      rw [if_neg (by decide), if_neg (by decide), if_neg (by decide), if_pos rfl]
      exact e1
    · unfold ye_wd
      rw [if_neg (by decide), if_neg (by decide), if_neg (by decide), if_neg (by decide), if_pos rfl]
      exact e0
    · rfl
    · omega
theorem xw_86_0_12 : yt_hold xT_86 xk_86 xq_86.2.2.1 xG_86 xP_86 xU_86 14 xk_86.2.1.2.2.2 (fun g0 r g => xR_86 r g0 ∧ g = g0) (0, ([(0, 1), ((-9223372036854775808), 9223372036854775807), ((-9223372036854775808), 9223372036854775807), ((-9223372036854775808), 9223372036854775807), (0, 40), ((-2147483648), 2147483647), ((-600), 600), ((-600), 600), ((-1000000), 1000000), ((-1000000), 1000000), ((-9223372036854775808), 9223372036854775807), ((-9223372036854775808), 9223372036854775807), (0, 40), ((-2147483648), 2147483647), (0, 4000000000000), (0, 720000), ((-9223372036854775808), 9223372036854775807), ((-9223372036854775808), 9223372036854775807), (1, 4611686018427387904), (1, 1200), (1, 1200), (1, 1200), (0, 0)], [([(19, 1), (8, (-1)), (9, (-1))], (-1)), ([(9, 1), (8, 1)], 0), ([(21, (-1)), (7, 2)], 0), ([(19, (-1)), (7, 2)], 0), ([(20, (-1)), (6, 2)], 0), ([(19, (-1)), (6, 2)], 0)]), [([], 0), ([(20, 1)], 0), ([(21, 1)], 0), ([], 0), ([], 0), ([(16, 1)], 0), ([(17, 1)], 0)], [], [.inr (.inr (.inl (998, 1, [([(9, 1), (8, 1)], 0), ([(19, 1)], 0), ([], 0)], [], []))), .inr (.inr (.inl (998, 1, [([(7, 2)], 0), ([(19, 1)], 0), ([(21, 1)], 0)], [], []))), .inr (.inr (.inl (998, 1, [([(6, 2)], 0), ([(19, 1)], 0), ([(20, 1)], 0)], [], []))), .inr (.inr (.inl (312, 0, [([(18, 1)], 0), ([(9, 1), (8, 1)], 0), ([(19, 1)], 0)], [], []))), .inr (.inr (.inl (312, 0, [([(6, 2)], 0), ([(7, 2)], 0), ([(18, 1)], 0)], [], []))), .inr (.inr (.inl (313, 0, [([(14, 1)], 0), ([(15, 1)], 0), ([(10, 1)], 0), ([(11, 1)], 0), ([(16, 1)], 0), ([(17, 1)], 0)], [1], []))), .inr (.inr (.inl (300, 0, [([(6, 1)], 0), ([(7, 1)], 0), ([(15, 1)], 0)], [], []))), .inl (.inr (14, ([(9, (-1)), (8, 1)], 0), ([(9, (-1)), (8, 1)], 0)))]) := by
  intro g0 r gi g hok hh hars hfr hG
  have b0 : 0 ≤ r 0 ∧ r 0 ≤ 1 := hok.1 0 (0, 1) rfl
  have b6 : (-600) ≤ r 6 ∧ r 6 ≤ 600 := hok.1 6 ((-600), 600) rfl
  have b7 : (-600) ≤ r 7 ∧ r 7 ≤ 600 := hok.1 7 ((-600), 600) rfl
  have b8 : (-1000000) ≤ r 8 ∧ r 8 ≤ 1000000 := hok.1 8 ((-1000000), 1000000) rfl
  have b9 : (-1000000) ≤ r 9 ∧ r 9 ≤ 1000000 := hok.1 9 ((-1000000), 1000000) rfl
  have b12 : 0 ≤ r 12 ∧ r 12 ≤ 40 := hok.1 12 (0, 40) rfl
  have b14 : 0 ≤ r 14 ∧ r 14 ≤ 4000000000000 := hok.1 14 (0, 4000000000000) rfl
  have b15 : 0 ≤ r 15 ∧ r 15 ≤ 720000 := hok.1 15 (0, 720000) rfl
  have b16 : (-9223372036854775808) ≤ r 16 ∧ r 16 ≤ 9223372036854775807 := hok.1 16 ((-9223372036854775808), 9223372036854775807) rfl
  have b17 : (-9223372036854775808) ≤ r 17 ∧ r 17 ≤ 9223372036854775807 := hok.1 17 ((-9223372036854775808), 9223372036854775807) rfl
  have b18 : 1 ≤ r 18 ∧ r 18 ≤ 4611686018427387904 := hok.1 18 (1, 4611686018427387904) rfl
  have b19 : 1 ≤ r 19 ∧ r 19 ≤ 1200 := hok.1 19 (1, 1200) rfl
  have b20 : 1 ≤ r 20 ∧ r 20 ≤ 1200 := hok.1 20 (1, 1200) rfl
  have b21 : 1 ≤ r 21 ∧ r 21 ≤ 1200 := hok.1 21 (1, 1200) rfl
  have b22 : 0 ≤ r 22 ∧ r 22 ≤ 0 := hok.1 22 (0, 0) rfl
  have f0 : 0 ≤ ((1 * r 19 + ((-1) * r 8 + ((-1) * r 9 + 0))) + (-1)) := hok.2 _ (List.mem_of_getElem? (i := 0) rfl)
  have f1 : 0 ≤ ((1 * r 9 + (1 * r 8 + 0)) + 0) := hok.2 _ (List.mem_of_getElem? (i := 1) rfl)
  have f2 : 0 ≤ (((-1) * r 21 + (2 * r 7 + 0)) + 0) := hok.2 _ (List.mem_of_getElem? (i := 2) rfl)
  have f3 : 0 ≤ (((-1) * r 19 + (2 * r 7 + 0)) + 0) := hok.2 _ (List.mem_of_getElem? (i := 3) rfl)
  have f4 : 0 ≤ (((-1) * r 20 + (2 * r 6 + 0)) + 0) := hok.2 _ (List.mem_of_getElem? (i := 4) rfl)
  have f5 : 0 ≤ (((-1) * r 19 + (2 * r 6 + 0)) + 0) := hok.2 _ (List.mem_of_getElem? (i := 5) rfl)
  obtain ⟨hG, hgi⟩ := hG
  have hG : True := hG
  obtain ⟨h0, hh, e0, k0⟩ := hh
  have k0 : ∀ j, j ∉ [] → g j = h0 j := k0
  have e0 : ((0 : Int) + 0) = (((1 * r 9 + (1 * r 8 + 0)) + 0)).tdiv (((1 * r 19 + 0) + 0)) := e0
  obtain ⟨h1, hh, e1, k1⟩ := hh
  have k1 : ∀ j, j ∉ [] → h0 j = h1 j := k1
  have e1 : ((1 * r 21 + 0) + 0) = (((2 * r 7 + 0) + 0)).tdiv (((1 * r 19 + 0) + 0)) := e1
  obtain ⟨h2, hh, e2, k2⟩ := hh
  have k2 : ∀ j, j ∉ [] → h1 j = h2 j := k2
  have e2 : ((1 * r 20 + 0) + 0) = (((2 * r 6 + 0) + 0)).tdiv (((1 * r 19 + 0) + 0)) := e2
  obtain ⟨h3, hh, e3, k3⟩ := hh
  have k3 : ∀ j, j ∉ [] → h2 j = h3 j := k3
  have e3 : ((1 * r 19 + 0) + 0) = ye_q ((1 * r 18 + 0) + 0) ((1 * r 9 + (1 * r 8 + 0)) + 0) := e3
  obtain ⟨h4, hh, e4, k4⟩ := hh
  have k4 : ∀ j, j ∉ [] → h3 j = h4 j := k4
  have e4 : ((1 * r 18 + 0) + 0) = ye_q ((2 * r 6 + 0) + 0) ((2 * r 7 + 0) + 0) := e4
  obtain ⟨h5, hh, e5, k5⟩ := hh
  have k5 : ∀ j, j ∉ [] → h4 j = h5 j := k5
  have e5 : 0 ≤ ((1 * r 15 + 0) + 0) → ((1 * ((1 * r 16 + 0) + 0) + 0) + 0) = (((1 * r 14 + 0) + 0)).tdiv (ye_q ((1 * r 14 + 0) + 0) ((1 * r 15 + 0) + 0)) ∧ ((1 * ((1 * r 17 + 0) + 0) + 0) + 0) = (((1 * r 15 + 0) + 0)).tdiv (ye_q ((1 * r 14 + 0) + 0) ((1 * r 15 + 0) + 0)) := e5
  obtain ⟨h6, hh, e6, k6⟩ := hh
  have k6 : ∀ j, j ∉ [] → h5 j = h6 j := k6
  have e6 : ((1 * r 15 + 0) + 0) = ((1 * r 6 + 0) + 0) * ((1 * r 6 + 0) + 0) + ((1 * r 7 + 0) + 0) * ((1 * r 7 + 0) + 0) := e6
  obtain ⟨g7, hh, q7, e7⟩ := hh
  subst q7
  have e7 : r 14 = (((-1) * r 9 + (1 * r 8 + 0)) + 0) * (((-1) * r 9 + (1 * r 8 + 0)) + 0) := e7
  try simp only [Int.one_mul, Int.zero_add, Int.add_zero] at e7
  have hh : h6 = gi := hh
  subst hh
  refine yt_dcut (by decide) rfl ?_ ?_
  · rw [show xk_86.2.1.2.1.1.length = 14 from rfl]
    refine yx_fks _ _ ?_
    refine ⟨?_, ?_, trivial⟩
    · show 0 ≤ ((1 * ((0 : Int) + 0) + 0) + 0)
      omega
    · show 0 ≤ (((-1) * ((0 : Int) + 0) + (1 * ((0 : Int) + 0) + 0)) + 0)
      omega
  · rw [show xk_86.2.1.2.1.1.length = 14 from rfl]
    show ((1 * ((1 * r 16 + 0) + 0) + 0) + 0) = ye_wd (g0 3) (g0 4) (((1 * ((1 * r 12 + 0) + 0) + 0) + 0)).toNat ((1 * ((1 * r 6 + 0) + 0) + 0) + 0) ((1 * ((1 * r 7 + 0) + 0) + 0) + 0) ((1 * ((1 * r 8 + 0) + 0) + 0) + 0) ((1 * ((1 * r 9 + 0) + 0) + 0) + 0) 0 ∧ ((1 * ((1 * r 17 + 0) + 0) + 0) + 0) = ye_wd (g0 3) (g0 4) (((1 * ((1 * r 12 + 0) + 0) + 0) + 0)).toNat ((1 * ((1 * r 6 + 0) + 0) + 0) + 0) ((1 * ((1 * r 7 + 0) + 0) + 0) + 0) ((1 * ((1 * r 8 + 0) + 0) + 0) + 0) ((1 * ((1 * r 9 + 0) + 0) + 0) + 0) 1 ∧ ((1 * ((1 * r 20 + 0) + 0) + 0) + 0) = ye_wd (g0 3) (g0 4) (((1 * ((1 * r 12 + 0) + 0) + 0) + 0)).toNat ((1 * ((1 * r 6 + 0) + 0) + 0) + 0) ((1 * ((1 * r 7 + 0) + 0) + 0) + 0) ((1 * ((1 * r 8 + 0) + 0) + 0) + 0) ((1 * ((1 * r 9 + 0) + 0) + 0) + 0) 2 ∧ ((1 * ((1 * r 21 + 0) + 0) + 0) + 0) = ye_wd (g0 3) (g0 4) (((1 * ((1 * r 12 + 0) + 0) + 0) + 0)).toNat ((1 * ((1 * r 6 + 0) + 0) + 0) + 0) ((1 * ((1 * r 7 + 0) + 0) + 0) + 0) ((1 * ((1 * r 8 + 0) + 0) + 0) + 0) ((1 * ((1 * r 9 + 0) + 0) + 0) + 0) 3 ∧ ((1 * ((0 : Int) + 0) + 0) + 0) = ye_wd (g0 3) (g0 4) (((1 * ((1 * r 12 + 0) + 0) + 0) + 0)).toNat ((1 * ((1 * r 6 + 0) + 0) + 0) + 0) ((1 * ((1 * r 7 + 0) + 0) + 0) + 0) ((1 * ((1 * r 8 + 0) + 0) + 0) + 0) ((1 * ((1 * r 9 + 0) + 0) + 0) + 0) 4 ∧ ((1 * ((0 : Int) + 0) + 0) + 0) = ye_sc (g0 3) (g0 4) ((1 * ((1 * r 6 + 0) + 0) + 0) + 0) ((1 * ((1 * r 7 + 0) + 0) + 0) + 0) ((1 * ((1 * r 8 + 0) + 0) + 0) + 0) ((1 * ((1 * r 9 + 0) + 0) + 0) + 0) (((1 * ((0 : Int) + 0) + 0) + 0)).toNat ∧ ((1 * ((0 : Int) + 0) + 0) + 0) ≤ ((1 * ((1 * r 12 + 0) + 0) + 0) + 0)
    try simp only [Int.one_mul, Int.zero_add, Int.add_zero]
    try simp only [Int.one_mul, Int.zero_add, Int.add_zero] at e5
    try simp only [Int.one_mul, Int.zero_add, Int.add_zero] at e6
    try simp only [Int.one_mul, Int.zero_add, Int.add_zero] at e7
    try simp only [Int.one_mul, Int.zero_add, Int.add_zero] at e3
    try simp only [Int.one_mul, Int.zero_add, Int.add_zero] at e4
    try simp only [Int.one_mul, Int.zero_add, Int.add_zero] at e0
    try simp only [Int.one_mul, Int.zero_add, Int.add_zero] at e1
    try simp only [Int.one_mul, Int.zero_add, Int.add_zero] at e2
    rw [show -1 * r 9 + r 8 = r 8 - r 9 by omega] at e7
    rw [e6, e7] at e5
    obtain ⟨q0, q1⟩ := e5 (ye_ss (r 6) (r 7))
    rw [e4, show r 9 + r 8 = r 8 + r 9 by omega] at e3
    rw [e3] at e2 e1 e0
    rw [show r 9 + r 8 = r 8 + r 9 by omega] at e0
    refine ⟨?_, ?_, ?_, ?_, ?_, ?_, ?_⟩
    · unfold ye_wd
      rw [if_pos rfl]
      exact q0
    · unfold ye_wd
      rw [if_neg (by decide), if_pos rfl]
      exact q1
    · unfold ye_wd
      rw [if_neg (by decide), if_neg (by decide), if_pos rfl]
      exact e2
    · unfold ye_wd
      rw [if_neg (by decide), if_neg (by decide), if_neg (by decide), if_pos rfl]
      exact e1
    · unfold ye_wd
      rw [if_neg (by decide), if_neg (by decide), if_neg (by decide), if_neg (by decide), if_pos rfl]
      exact e0
    · rfl
    · omega
theorem xw_86_0_13 : yt_hold xT_86 xk_86 xq_86.2.2.1 xG_86 xP_86 xU_86 14 xk_86.2.1.2.2.2 (fun g0 r g => xR_86 r g0 ∧ g = g0) (0, ([(0, 1), ((-9223372036854775808), 9223372036854775807), ((-9223372036854775808), 9223372036854775807), ((-9223372036854775808), 9223372036854775807), (0, 40), ((-2147483648), 2147483647), ((-600), 600), ((-600), 600), ((-999999), 1000000), ((-999999), 1000000), ((-9223372036854775808), 9223372036854775807), ((-9223372036854775808), 9223372036854775807), (0, 40), ((-2147483648), 2147483647), (0, 4000000000000), (0, 720000), ((-9223372036854775808), 9223372036854775807), ((-9223372036854775808), 9223372036854775807), (1, 4611686018427387904), (1, 1200), (1, 1200), (1, 1200), (1, 2000000)], [([(22, (-1)), (8, 1), (9, 1)], 0), ([(19, (-1)), (8, 1), (9, 1)], 0), ([(21, (-1)), (7, 2)], 0), ([(19, (-1)), (7, 2)], 0), ([(20, (-1)), (6, 2)], 0), ([(19, (-1)), (6, 2)], 0)]), [([], 0), ([(20, 1)], 0), ([(21, 1)], 0), ([(22, 1)], 0), ([], 0), ([(16, 1)], 0), ([(17, 1)], 0)], [], [.inr (.inr (.inl (998, 1, [([(9, 1), (8, 1)], 0), ([(19, 1)], 0), ([(22, 1)], 0)], [], []))), .inr (.inr (.inl (998, 1, [([(7, 2)], 0), ([(19, 1)], 0), ([(21, 1)], 0)], [], []))), .inr (.inr (.inl (998, 1, [([(6, 2)], 0), ([(19, 1)], 0), ([(20, 1)], 0)], [], []))), .inr (.inr (.inl (312, 0, [([(18, 1)], 0), ([(9, 1), (8, 1)], 0), ([(19, 1)], 0)], [], []))), .inr (.inr (.inl (312, 0, [([(6, 2)], 0), ([(7, 2)], 0), ([(18, 1)], 0)], [], []))), .inr (.inr (.inl (313, 0, [([(14, 1)], 0), ([(15, 1)], 0), ([(10, 1)], 0), ([(11, 1)], 0), ([(16, 1)], 0), ([(17, 1)], 0)], [1], []))), .inr (.inr (.inl (300, 0, [([(6, 1)], 0), ([(7, 1)], 0), ([(15, 1)], 0)], [], []))), .inl (.inr (14, ([(9, (-1)), (8, 1)], 0), ([(9, (-1)), (8, 1)], 0)))]) := by
  intro g0 r gi g hok hh hars hfr hG
  have b0 : 0 ≤ r 0 ∧ r 0 ≤ 1 := hok.1 0 (0, 1) rfl
  have b6 : (-600) ≤ r 6 ∧ r 6 ≤ 600 := hok.1 6 ((-600), 600) rfl
  have b7 : (-600) ≤ r 7 ∧ r 7 ≤ 600 := hok.1 7 ((-600), 600) rfl
  have b8 : (-999999) ≤ r 8 ∧ r 8 ≤ 1000000 := hok.1 8 ((-999999), 1000000) rfl
  have b9 : (-999999) ≤ r 9 ∧ r 9 ≤ 1000000 := hok.1 9 ((-999999), 1000000) rfl
  have b12 : 0 ≤ r 12 ∧ r 12 ≤ 40 := hok.1 12 (0, 40) rfl
  have b14 : 0 ≤ r 14 ∧ r 14 ≤ 4000000000000 := hok.1 14 (0, 4000000000000) rfl
  have b15 : 0 ≤ r 15 ∧ r 15 ≤ 720000 := hok.1 15 (0, 720000) rfl
  have b16 : (-9223372036854775808) ≤ r 16 ∧ r 16 ≤ 9223372036854775807 := hok.1 16 ((-9223372036854775808), 9223372036854775807) rfl
  have b17 : (-9223372036854775808) ≤ r 17 ∧ r 17 ≤ 9223372036854775807 := hok.1 17 ((-9223372036854775808), 9223372036854775807) rfl
  have b18 : 1 ≤ r 18 ∧ r 18 ≤ 4611686018427387904 := hok.1 18 (1, 4611686018427387904) rfl
  have b19 : 1 ≤ r 19 ∧ r 19 ≤ 1200 := hok.1 19 (1, 1200) rfl
  have b20 : 1 ≤ r 20 ∧ r 20 ≤ 1200 := hok.1 20 (1, 1200) rfl
  have b21 : 1 ≤ r 21 ∧ r 21 ≤ 1200 := hok.1 21 (1, 1200) rfl
  have b22 : 1 ≤ r 22 ∧ r 22 ≤ 2000000 := hok.1 22 (1, 2000000) rfl
  have f0 : 0 ≤ (((-1) * r 22 + (1 * r 8 + (1 * r 9 + 0))) + 0) := hok.2 _ (List.mem_of_getElem? (i := 0) rfl)
  have f1 : 0 ≤ (((-1) * r 19 + (1 * r 8 + (1 * r 9 + 0))) + 0) := hok.2 _ (List.mem_of_getElem? (i := 1) rfl)
  have f2 : 0 ≤ (((-1) * r 21 + (2 * r 7 + 0)) + 0) := hok.2 _ (List.mem_of_getElem? (i := 2) rfl)
  have f3 : 0 ≤ (((-1) * r 19 + (2 * r 7 + 0)) + 0) := hok.2 _ (List.mem_of_getElem? (i := 3) rfl)
  have f4 : 0 ≤ (((-1) * r 20 + (2 * r 6 + 0)) + 0) := hok.2 _ (List.mem_of_getElem? (i := 4) rfl)
  have f5 : 0 ≤ (((-1) * r 19 + (2 * r 6 + 0)) + 0) := hok.2 _ (List.mem_of_getElem? (i := 5) rfl)
  obtain ⟨hG, hgi⟩ := hG
  have hG : True := hG
  obtain ⟨h0, hh, e0, k0⟩ := hh
  have k0 : ∀ j, j ∉ [] → g j = h0 j := k0
  have e0 : ((1 * r 22 + 0) + 0) = (((1 * r 9 + (1 * r 8 + 0)) + 0)).tdiv (((1 * r 19 + 0) + 0)) := e0
  obtain ⟨h1, hh, e1, k1⟩ := hh
  have k1 : ∀ j, j ∉ [] → h0 j = h1 j := k1
  have e1 : ((1 * r 21 + 0) + 0) = (((2 * r 7 + 0) + 0)).tdiv (((1 * r 19 + 0) + 0)) := e1
  obtain ⟨h2, hh, e2, k2⟩ := hh
  have k2 : ∀ j, j ∉ [] → h1 j = h2 j := k2
  have e2 : ((1 * r 20 + 0) + 0) = (((2 * r 6 + 0) + 0)).tdiv (((1 * r 19 + 0) + 0)) := e2
  obtain ⟨h3, hh, e3, k3⟩ := hh
  have k3 : ∀ j, j ∉ [] → h2 j = h3 j := k3
  have e3 : ((1 * r 19 + 0) + 0) = ye_q ((1 * r 18 + 0) + 0) ((1 * r 9 + (1 * r 8 + 0)) + 0) := e3
  obtain ⟨h4, hh, e4, k4⟩ := hh
  have k4 : ∀ j, j ∉ [] → h3 j = h4 j := k4
  have e4 : ((1 * r 18 + 0) + 0) = ye_q ((2 * r 6 + 0) + 0) ((2 * r 7 + 0) + 0) := e4
  obtain ⟨h5, hh, e5, k5⟩ := hh
  have k5 : ∀ j, j ∉ [] → h4 j = h5 j := k5
  have e5 : 0 ≤ ((1 * r 15 + 0) + 0) → ((1 * ((1 * r 16 + 0) + 0) + 0) + 0) = (((1 * r 14 + 0) + 0)).tdiv (ye_q ((1 * r 14 + 0) + 0) ((1 * r 15 + 0) + 0)) ∧ ((1 * ((1 * r 17 + 0) + 0) + 0) + 0) = (((1 * r 15 + 0) + 0)).tdiv (ye_q ((1 * r 14 + 0) + 0) ((1 * r 15 + 0) + 0)) := e5
  obtain ⟨h6, hh, e6, k6⟩ := hh
  have k6 : ∀ j, j ∉ [] → h5 j = h6 j := k6
  have e6 : ((1 * r 15 + 0) + 0) = ((1 * r 6 + 0) + 0) * ((1 * r 6 + 0) + 0) + ((1 * r 7 + 0) + 0) * ((1 * r 7 + 0) + 0) := e6
  obtain ⟨g7, hh, q7, e7⟩ := hh
  subst q7
  have e7 : r 14 = (((-1) * r 9 + (1 * r 8 + 0)) + 0) * (((-1) * r 9 + (1 * r 8 + 0)) + 0) := e7
  try simp only [Int.one_mul, Int.zero_add, Int.add_zero] at e7
  have hh : h6 = gi := hh
  subst hh
  refine yt_dcut (by decide) rfl ?_ ?_
  · rw [show xk_86.2.1.2.1.1.length = 14 from rfl]
    refine yx_fks _ _ ?_
    refine ⟨?_, ?_, trivial⟩
    · show 0 ≤ ((1 * ((0 : Int) + 0) + 0) + 0)
      omega
    · show 0 ≤ (((-1) * ((0 : Int) + 0) + (1 * ((0 : Int) + 0) + 0)) + 0)
      omega
  · rw [show xk_86.2.1.2.1.1.length = 14 from rfl]
    show ((1 * ((1 * r 16 + 0) + 0) + 0) + 0) = ye_wd (g0 3) (g0 4) (((1 * ((1 * r 12 + 0) + 0) + 0) + 0)).toNat ((1 * ((1 * r 6 + 0) + 0) + 0) + 0) ((1 * ((1 * r 7 + 0) + 0) + 0) + 0) ((1 * ((1 * r 8 + 0) + 0) + 0) + 0) ((1 * ((1 * r 9 + 0) + 0) + 0) + 0) 0 ∧ ((1 * ((1 * r 17 + 0) + 0) + 0) + 0) = ye_wd (g0 3) (g0 4) (((1 * ((1 * r 12 + 0) + 0) + 0) + 0)).toNat ((1 * ((1 * r 6 + 0) + 0) + 0) + 0) ((1 * ((1 * r 7 + 0) + 0) + 0) + 0) ((1 * ((1 * r 8 + 0) + 0) + 0) + 0) ((1 * ((1 * r 9 + 0) + 0) + 0) + 0) 1 ∧ ((1 * ((1 * r 20 + 0) + 0) + 0) + 0) = ye_wd (g0 3) (g0 4) (((1 * ((1 * r 12 + 0) + 0) + 0) + 0)).toNat ((1 * ((1 * r 6 + 0) + 0) + 0) + 0) ((1 * ((1 * r 7 + 0) + 0) + 0) + 0) ((1 * ((1 * r 8 + 0) + 0) + 0) + 0) ((1 * ((1 * r 9 + 0) + 0) + 0) + 0) 2 ∧ ((1 * ((1 * r 21 + 0) + 0) + 0) + 0) = ye_wd (g0 3) (g0 4) (((1 * ((1 * r 12 + 0) + 0) + 0) + 0)).toNat ((1 * ((1 * r 6 + 0) + 0) + 0) + 0) ((1 * ((1 * r 7 + 0) + 0) + 0) + 0) ((1 * ((1 * r 8 + 0) + 0) + 0) + 0) ((1 * ((1 * r 9 + 0) + 0) + 0) + 0) 3 ∧ ((1 * ((1 * r 22 + 0) + 0) + 0) + 0) = ye_wd (g0 3) (g0 4) (((1 * ((1 * r 12 + 0) + 0) + 0) + 0)).toNat ((1 * ((1 * r 6 + 0) + 0) + 0) + 0) ((1 * ((1 * r 7 + 0) + 0) + 0) + 0) ((1 * ((1 * r 8 + 0) + 0) + 0) + 0) ((1 * ((1 * r 9 + 0) + 0) + 0) + 0) 4 ∧ ((1 * ((0 : Int) + 0) + 0) + 0) = ye_sc (g0 3) (g0 4) ((1 * ((1 * r 6 + 0) + 0) + 0) + 0) ((1 * ((1 * r 7 + 0) + 0) + 0) + 0) ((1 * ((1 * r 8 + 0) + 0) + 0) + 0) ((1 * ((1 * r 9 + 0) + 0) + 0) + 0) (((1 * ((0 : Int) + 0) + 0) + 0)).toNat ∧ ((1 * ((0 : Int) + 0) + 0) + 0) ≤ ((1 * ((1 * r 12 + 0) + 0) + 0) + 0)
    try simp only [Int.one_mul, Int.zero_add, Int.add_zero]
    try simp only [Int.one_mul, Int.zero_add, Int.add_zero] at e5
    try simp only [Int.one_mul, Int.zero_add, Int.add_zero] at e6
    try simp only [Int.one_mul, Int.zero_add, Int.add_zero] at e7
    try simp only [Int.one_mul, Int.zero_add, Int.add_zero] at e3
    try simp only [Int.one_mul, Int.zero_add, Int.add_zero] at e4
    try simp only [Int.one_mul, Int.zero_add, Int.add_zero] at e0
    try simp only [Int.one_mul, Int.zero_add, Int.add_zero] at e1
    try simp only [Int.one_mul, Int.zero_add, Int.add_zero] at e2
    rw [show -1 * r 9 + r 8 = r 8 - r 9 by omega] at e7
    rw [e6, e7] at e5
    obtain ⟨q0, q1⟩ := e5 (ye_ss (r 6) (r 7))
    rw [e4, show r 9 + r 8 = r 8 + r 9 by omega] at e3
    rw [e3] at e2 e1 e0
    rw [show r 9 + r 8 = r 8 + r 9 by omega] at e0
    refine ⟨?_, ?_, ?_, ?_, ?_, ?_, ?_⟩
    · unfold ye_wd
      rw [if_pos rfl]
      exact q0
    · unfold ye_wd
      rw [if_neg (by decide), if_pos rfl]
      exact q1
    · unfold ye_wd
      rw [if_neg (by decide), if_neg (by decide), if_pos rfl]
      exact e2
    · unfold ye_wd
      rw [if_neg (by decide), if_neg (by decide), if_neg (by decide), if_pos rfl]
      exact e1
    · unfold ye_wd
      rw [if_neg (by decide), if_neg (by decide), if_neg (by decide), if_neg (by decide), if_pos rfl]
      exact e0
    · rfl
    · omega
theorem xw_86_0_14 : yt_hold xT_86 xk_86 xq_86.2.2.1 xG_86 xP_86 xU_86 14 xk_86.2.1.2.2.2 (fun g0 r g => xR_86 r g0 ∧ g = g0) (0, ([(0, 1), ((-9223372036854775808), 9223372036854775807), ((-9223372036854775808), 9223372036854775807), ((-9223372036854775808), 9223372036854775807), (0, 40), ((-2147483648), 2147483647), ((-600), 600), ((-600), 600), ((-1000000), 999999), ((-1000000), 999999), ((-9223372036854775808), 9223372036854775807), ((-9223372036854775808), 9223372036854775807), (0, 40), ((-2147483648), 2147483647), (0, 4000000000000), (0, 720000), ((-9223372036854775808), 9223372036854775807), ((-9223372036854775808), 9223372036854775807), (1, 4611686018427387904), (1, 1200), (1, 1200), (1, 1200), ((-2000000), 0)], [([(9, (-1)), (8, (-1)), (22, 1)], 0), ([(8, (-1)), (9, (-1))], (-1)), ([(21, (-1)), (7, 2)], 0), ([(19, (-1)), (7, 2)], 0), ([(20, (-1)), (6, 2)], 0), ([(19, (-1)), (6, 2)], 0)]), [([], 0), ([(20, 1)], 0), ([(21, 1)], 0), ([(22, 1)], 0), ([], 0), ([(16, 1)], 0), ([(17, 1)], 0)], [], [.inr (.inr (.inl (998, 1, [([(9, 1), (8, 1)], 0), ([(19, 1)], 0), ([(22, 1)], 0)], [], []))), .inr (.inr (.inl (998, 1, [([(7, 2)], 0), ([(19, 1)], 0), ([(21, 1)], 0)], [], []))), .inr (.inr (.inl (998, 1, [([(6, 2)], 0), ([(19, 1)], 0), ([(20, 1)], 0)], [], []))), .inr (.inr (.inl (312, 0, [([(18, 1)], 0), ([(9, 1), (8, 1)], 0), ([(19, 1)], 0)], [], []))), .inr (.inr (.inl (312, 0, [([(6, 2)], 0), ([(7, 2)], 0), ([(18, 1)], 0)], [], []))), .inr (.inr (.inl (313, 0, [([(14, 1)], 0), ([(15, 1)], 0), ([(10, 1)], 0), ([(11, 1)], 0), ([(16, 1)], 0), ([(17, 1)], 0)], [1], []))), .inr (.inr (.inl (300, 0, [([(6, 1)], 0), ([(7, 1)], 0), ([(15, 1)], 0)], [], []))), .inl (.inr (14, ([(9, (-1)), (8, 1)], 0), ([(9, (-1)), (8, 1)], 0)))]) := by
  intro g0 r gi g hok hh hars hfr hG
  have b0 : 0 ≤ r 0 ∧ r 0 ≤ 1 := hok.1 0 (0, 1) rfl
  have b6 : (-600) ≤ r 6 ∧ r 6 ≤ 600 := hok.1 6 ((-600), 600) rfl
  have b7 : (-600) ≤ r 7 ∧ r 7 ≤ 600 := hok.1 7 ((-600), 600) rfl
  have b8 : (-1000000) ≤ r 8 ∧ r 8 ≤ 999999 := hok.1 8 ((-1000000), 999999) rfl
  have b9 : (-1000000) ≤ r 9 ∧ r 9 ≤ 999999 := hok.1 9 ((-1000000), 999999) rfl
  have b12 : 0 ≤ r 12 ∧ r 12 ≤ 40 := hok.1 12 (0, 40) rfl
  have b14 : 0 ≤ r 14 ∧ r 14 ≤ 4000000000000 := hok.1 14 (0, 4000000000000) rfl
  have b15 : 0 ≤ r 15 ∧ r 15 ≤ 720000 := hok.1 15 (0, 720000) rfl
  have b16 : (-9223372036854775808) ≤ r 16 ∧ r 16 ≤ 9223372036854775807 := hok.1 16 ((-9223372036854775808), 9223372036854775807) rfl
  have b17 : (-9223372036854775808) ≤ r 17 ∧ r 17 ≤ 9223372036854775807 := hok.1 17 ((-9223372036854775808), 9223372036854775807) rfl
  have b18 : 1 ≤ r 18 ∧ r 18 ≤ 4611686018427387904 := hok.1 18 (1, 4611686018427387904) rfl
  have b19 : 1 ≤ r 19 ∧ r 19 ≤ 1200 := hok.1 19 (1, 1200) rfl
  have b20 : 1 ≤ r 20 ∧ r 20 ≤ 1200 := hok.1 20 (1, 1200) rfl
  have b21 : 1 ≤ r 21 ∧ r 21 ≤ 1200 := hok.1 21 (1, 1200) rfl
  have b22 : (-2000000) ≤ r 22 ∧ r 22 ≤ 0 := hok.1 22 ((-2000000), 0) rfl
  have f0 : 0 ≤ (((-1) * r 9 + ((-1) * r 8 + (1 * r 22 + 0))) + 0) := hok.2 _ (List.mem_of_getElem? (i := 0) rfl)
  have f1 : 0 ≤ (((-1) * r 8 + ((-1) * r 9 + 0)) + (-1)) := hok.2 _ (List.mem_of_getElem? (i := 1) rfl)
  have f2 : 0 ≤ (((-1) * r 21 + (2 * r 7 + 0)) + 0) := hok.2 _ (List.mem_of_getElem? (i := 2) rfl)
  have f3 : 0 ≤ (((-1) * r 19 + (2 * r 7 + 0)) + 0) := hok.2 _ (List.mem_of_getElem? (i := 3) rfl)
  have f4 : 0 ≤ (((-1) * r 20 + (2 * r 6 + 0)) + 0) := hok.2 _ (List.mem_of_getElem? (i := 4) rfl)
  have f5 : 0 ≤ (((-1) * r 19 + (2 * r 6 + 0)) + 0) := hok.2 _ (List.mem_of_getElem? (i := 5) rfl)
  obtain ⟨hG, hgi⟩ := hG
  have hG : True := hG
  obtain ⟨h0, hh, e0, k0⟩ := hh
  have k0 : ∀ j, j ∉ [] → g j = h0 j := k0
  have e0 : ((1 * r 22 + 0) + 0) = (((1 * r 9 + (1 * r 8 + 0)) + 0)).tdiv (((1 * r 19 + 0) + 0)) := e0
  obtain ⟨h1, hh, e1, k1⟩ := hh
  have k1 : ∀ j, j ∉ [] → h0 j = h1 j := k1
  have e1 : ((1 * r 21 + 0) + 0) = (((2 * r 7 + 0) + 0)).tdiv (((1 * r 19 + 0) + 0)) := e1
  obtain ⟨h2, hh, e2, k2⟩ := hh
  have k2 : ∀ j, j ∉ [] → h1 j = h2 j := k2
  have e2 : ((1 * r 20 + 0) + 0) = (((2 * r 6 + 0) + 0)).tdiv (((1 * r 19 + 0) + 0)) := e2
  obtain ⟨h3, hh, e3, k3⟩ := hh
  have k3 : ∀ j, j ∉ [] → h2 j = h3 j := k3
  have e3 : ((1 * r 19 + 0) + 0) = ye_q ((1 * r 18 + 0) + 0) ((1 * r 9 + (1 * r 8 + 0)) + 0) := e3
  obtain ⟨h4, hh, e4, k4⟩ := hh
  have k4 : ∀ j, j ∉ [] → h3 j = h4 j := k4
  have e4 : ((1 * r 18 + 0) + 0) = ye_q ((2 * r 6 + 0) + 0) ((2 * r 7 + 0) + 0) := e4
  obtain ⟨h5, hh, e5, k5⟩ := hh
  have k5 : ∀ j, j ∉ [] → h4 j = h5 j := k5
  have e5 : 0 ≤ ((1 * r 15 + 0) + 0) → ((1 * ((1 * r 16 + 0) + 0) + 0) + 0) = (((1 * r 14 + 0) + 0)).tdiv (ye_q ((1 * r 14 + 0) + 0) ((1 * r 15 + 0) + 0)) ∧ ((1 * ((1 * r 17 + 0) + 0) + 0) + 0) = (((1 * r 15 + 0) + 0)).tdiv (ye_q ((1 * r 14 + 0) + 0) ((1 * r 15 + 0) + 0)) := e5
  obtain ⟨h6, hh, e6, k6⟩ := hh
  have k6 : ∀ j, j ∉ [] → h5 j = h6 j := k6
  have e6 : ((1 * r 15 + 0) + 0) = ((1 * r 6 + 0) + 0) * ((1 * r 6 + 0) + 0) + ((1 * r 7 + 0) + 0) * ((1 * r 7 + 0) + 0) := e6
  obtain ⟨g7, hh, q7, e7⟩ := hh
  subst q7
  have e7 : r 14 = (((-1) * r 9 + (1 * r 8 + 0)) + 0) * (((-1) * r 9 + (1 * r 8 + 0)) + 0) := e7
  try simp only [Int.one_mul, Int.zero_add, Int.add_zero] at e7
  have hh : h6 = gi := hh
  subst hh
  refine yt_dcut (by decide) rfl ?_ ?_
  · rw [show xk_86.2.1.2.1.1.length = 14 from rfl]
    refine yx_fks _ _ ?_
    refine ⟨?_, ?_, trivial⟩
    · show 0 ≤ ((1 * ((0 : Int) + 0) + 0) + 0)
      omega
    · show 0 ≤ (((-1) * ((0 : Int) + 0) + (1 * ((0 : Int) + 0) + 0)) + 0)
      omega
  · rw [show xk_86.2.1.2.1.1.length = 14 from rfl]
    show ((1 * ((1 * r 16 + 0) + 0) + 0) + 0) = ye_wd (g0 3) (g0 4) (((1 * ((1 * r 12 + 0) + 0) + 0) + 0)).toNat ((1 * ((1 * r 6 + 0) + 0) + 0) + 0) ((1 * ((1 * r 7 + 0) + 0) + 0) + 0) ((1 * ((1 * r 8 + 0) + 0) + 0) + 0) ((1 * ((1 * r 9 + 0) + 0) + 0) + 0) 0 ∧ ((1 * ((1 * r 17 + 0) + 0) + 0) + 0) = ye_wd (g0 3) (g0 4) (((1 * ((1 * r 12 + 0) + 0) + 0) + 0)).toNat ((1 * ((1 * r 6 + 0) + 0) + 0) + 0) ((1 * ((1 * r 7 + 0) + 0) + 0) + 0) ((1 * ((1 * r 8 + 0) + 0) + 0) + 0) ((1 * ((1 * r 9 + 0) + 0) + 0) + 0) 1 ∧ ((1 * ((1 * r 20 + 0) + 0) + 0) + 0) = ye_wd (g0 3) (g0 4) (((1 * ((1 * r 12 + 0) + 0) + 0) + 0)).toNat ((1 * ((1 * r 6 + 0) + 0) + 0) + 0) ((1 * ((1 * r 7 + 0) + 0) + 0) + 0) ((1 * ((1 * r 8 + 0) + 0) + 0) + 0) ((1 * ((1 * r 9 + 0) + 0) + 0) + 0) 2 ∧ ((1 * ((1 * r 21 + 0) + 0) + 0) + 0) = ye_wd (g0 3) (g0 4) (((1 * ((1 * r 12 + 0) + 0) + 0) + 0)).toNat ((1 * ((1 * r 6 + 0) + 0) + 0) + 0) ((1 * ((1 * r 7 + 0) + 0) + 0) + 0) ((1 * ((1 * r 8 + 0) + 0) + 0) + 0) ((1 * ((1 * r 9 + 0) + 0) + 0) + 0) 3 ∧ ((1 * ((1 * r 22 + 0) + 0) + 0) + 0) = ye_wd (g0 3) (g0 4) (((1 * ((1 * r 12 + 0) + 0) + 0) + 0)).toNat ((1 * ((1 * r 6 + 0) + 0) + 0) + 0) ((1 * ((1 * r 7 + 0) + 0) + 0) + 0) ((1 * ((1 * r 8 + 0) + 0) + 0) + 0) ((1 * ((1 * r 9 + 0) + 0) + 0) + 0) 4 ∧ ((1 * ((0 : Int) + 0) + 0) + 0) = ye_sc (g0 3) (g0 4) ((1 * ((1 * r 6 + 0) + 0) + 0) + 0) ((1 * ((1 * r 7 + 0) + 0) + 0) + 0) ((1 * ((1 * r 8 + 0) + 0) + 0) + 0) ((1 * ((1 * r 9 + 0) + 0) + 0) + 0) (((1 * ((0 : Int) + 0) + 0) + 0)).toNat ∧ ((1 * ((0 : Int) + 0) + 0) + 0) ≤ ((1 * ((1 * r 12 + 0) + 0) + 0) + 0)
    try simp only [Int.one_mul, Int.zero_add, Int.add_zero]
    try simp only [Int.one_mul, Int.zero_add, Int.add_zero] at e5
    try simp only [Int.one_mul, Int.zero_add, Int.add_zero] at e6
    try simp only [Int.one_mul, Int.zero_add, Int.add_zero] at e7
    try simp only [Int.one_mul, Int.zero_add, Int.add_zero] at e3
    try simp only [Int.one_mul, Int.zero_add, Int.add_zero] at e4
    try simp only [Int.one_mul, Int.zero_add, Int.add_zero] at e0
    try simp only [Int.one_mul, Int.zero_add, Int.add_zero] at e1
    try simp only [Int.one_mul, Int.zero_add, Int.add_zero] at e2
    rw [show -1 * r 9 + r 8 = r 8 - r 9 by omega] at e7
    rw [e6, e7] at e5
    obtain ⟨q0, q1⟩ := e5 (ye_ss (r 6) (r 7))
    rw [e4, show r 9 + r 8 = r 8 + r 9 by omega] at e3
    rw [e3] at e2 e1 e0
    rw [show r 9 + r 8 = r 8 + r 9 by omega] at e0
    refine ⟨?_, ?_, ?_, ?_, ?_, ?_, ?_⟩
    · unfold ye_wd
      rw [if_pos rfl]
      exact q0
    · unfold ye_wd
      rw [if_neg (by decide), if_pos rfl]
      exact q1
    · unfold ye_wd
      rw [if_neg (by decide), if_neg (by decide), if_pos rfl]
      exact e2
    · unfold ye_wd
      rw [if_neg (by decide), if_neg (by decide), if_neg (by decide), if_pos rfl]
      exact e1
    · unfold ye_wd
      rw [if_neg (by decide), if_neg (by decide), if_neg (by decide), if_neg (by decide), if_pos rfl]
      exact e0
    · rfl
    · omega
theorem xw_86_0_15 : yt_hold xT_86 xk_86 xq_86.2.2.1 xG_86 xP_86 xU_86 14 xk_86.2.1.2.2.2 (fun g0 r g => xR_86 r g0 ∧ g = g0) (0, ([(0, 1), ((-9223372036854775808), 9223372036854775807), ((-9223372036854775808), 9223372036854775807), ((-9223372036854775808), 9223372036854775807), (0, 40), ((-2147483648), 2147483647), ((-600), 600), ((-600), 600), ((-1000000), 1000000), ((-1000000), 1000000), ((-9223372036854775808), 9223372036854775807), ((-9223372036854775808), 9223372036854775807), (0, 40), ((-2147483648), 2147483647), (0, 4000000000000), (0, 720000), ((-9223372036854775808), 9223372036854775807), ((-9223372036854775808), 9223372036854775807), (1, 4611686018427387904), (1, 1200), (1, 1200), ((-1200), 0), (0, 0)], [([(19, 1), (8, (-1)), (9, (-1))], (-1)), ([(9, 1), (8, 1)], 0), ([(7, (-2)), (21, 1)], 0), ([(7, (-2))], (-1)), ([(20, (-1)), (6, 2)], 0), ([(19, (-1)), (6, 2)], 0)]), [([], 0), ([(20, 1)], 0), ([(21, 1)], 0), ([], 0), ([], 0), ([(16, 1)], 0), ([(17, 1)], 0)], [], [.inr (.inr (.inl (998, 1, [([(9, 1), (8, 1)], 0), ([(19, 1)], 0), ([], 0)], [], []))), .inr (.inr (.inl (998, 1, [([(7, 2)], 0), ([(19, 1)], 0), ([(21, 1)], 0)], [], []))), .inr (.inr (.inl (998, 1, [([(6, 2)], 0), ([(19, 1)], 0), ([(20, 1)], 0)], [], []))), .inr (.inr (.inl (312, 0, [([(18, 1)], 0), ([(9, 1), (8, 1)], 0), ([(19, 1)], 0)], [], []))), .inr (.inr (.inl (312, 0, [([(6, 2)], 0), ([(7, 2)], 0), ([(18, 1)], 0)], [], []))), .inr (.inr (.inl (313, 0, [([(14, 1)], 0), ([(15, 1)], 0), ([(10, 1)], 0), ([(11, 1)], 0), ([(16, 1)], 0), ([(17, 1)], 0)], [1], []))), .inr (.inr (.inl (300, 0, [([(6, 1)], 0), ([(7, 1)], 0), ([(15, 1)], 0)], [], []))), .inl (.inr (14, ([(9, (-1)), (8, 1)], 0), ([(9, (-1)), (8, 1)], 0)))]) := by
  intro g0 r gi g hok hh hars hfr hG
  have b0 : 0 ≤ r 0 ∧ r 0 ≤ 1 := hok.1 0 (0, 1) rfl
  have b6 : (-600) ≤ r 6 ∧ r 6 ≤ 600 := hok.1 6 ((-600), 600) rfl
  have b7 : (-600) ≤ r 7 ∧ r 7 ≤ 600 := hok.1 7 ((-600), 600) rfl
  have b8 : (-1000000) ≤ r 8 ∧ r 8 ≤ 1000000 := hok.1 8 ((-1000000), 1000000) rfl
  have b9 : (-1000000) ≤ r 9 ∧ r 9 ≤ 1000000 := hok.1 9 ((-1000000), 1000000) rfl
  have b12 : 0 ≤ r 12 ∧ r 12 ≤ 40 := hok.1 12 (0, 40) rfl
  have b14 : 0 ≤ r 14 ∧ r 14 ≤ 4000000000000 := hok.1 14 (0, 4000000000000) rfl
  have b15 : 0 ≤ r 15 ∧ r 15 ≤ 720000 := hok.1 15 (0, 720000) rfl
  have b16 : (-9223372036854775808) ≤ r 16 ∧ r 16 ≤ 9223372036854775807 := hok.1 16 ((-9223372036854775808), 9223372036854775807) rfl
  have b17 : (-9223372036854775808) ≤ r 17 ∧ r 17 ≤ 9223372036854775807 := hok.1 17 ((-9223372036854775808), 9223372036854775807) rfl
  have b18 : 1 ≤ r 18 ∧ r 18 ≤ 4611686018427387904 := hok.1 18 (1, 4611686018427387904) rfl
  have b19 : 1 ≤ r 19 ∧ r 19 ≤ 1200 := hok.1 19 (1, 1200) rfl
  have b20 : 1 ≤ r 20 ∧ r 20 ≤ 1200 := hok.1 20 (1, 1200) rfl
  have b21 : (-1200) ≤ r 21 ∧ r 21 ≤ 0 := hok.1 21 ((-1200), 0) rfl
  have b22 : 0 ≤ r 22 ∧ r 22 ≤ 0 := hok.1 22 (0, 0) rfl
  have f0 : 0 ≤ ((1 * r 19 + ((-1) * r 8 + ((-1) * r 9 + 0))) + (-1)) := hok.2 _ (List.mem_of_getElem? (i := 0) rfl)
  have f1 : 0 ≤ ((1 * r 9 + (1 * r 8 + 0)) + 0) := hok.2 _ (List.mem_of_getElem? (i := 1) rfl)
  have f2 : 0 ≤ (((-2) * r 7 + (1 * r 21 + 0)) + 0) := hok.2 _ (List.mem_of_getElem? (i := 2) rfl)
  have f3 : 0 ≤ (((-2) * r 7 + 0) + (-1)) := hok.2 _ (List.mem_of_getElem? (i := 3) rfl)
  have f4 : 0 ≤ (((-1) * r 20 + (2 * r 6 + 0)) + 0) := hok.2 _ (List.mem_of_getElem? (i := 4) rfl)
  have f5 : 0 ≤ (((-1) * r 19 + (2 * r 6 + 0)) + 0) := hok.2 _ (List.mem_of_getElem? (i := 5) rfl)
  obtain ⟨hG, hgi⟩ := hG
  have hG : True := hG
  obtain ⟨h0, hh, e0, k0⟩ := hh
  have k0 : ∀ j, j ∉ [] → g j = h0 j := k0
  have e0 : ((0 : Int) + 0) = (((1 * r 9 + (1 * r 8 + 0)) + 0)).tdiv (((1 * r 19 + 0) + 0)) := e0
  obtain ⟨h1, hh, e1, k1⟩ := hh
  have k1 : ∀ j, j ∉ [] → h0 j = h1 j := k1
  have e1 : ((1 * r 21 + 0) + 0) = (((2 * r 7 + 0) + 0)).tdiv (((1 * r 19 + 0) + 0)) := e1
  obtain ⟨h2, hh, e2, k2⟩ := hh
  have k2 : ∀ j, j ∉ [] → h1 j = h2 j := k2
  have e2 : ((1 * r 20 + 0) + 0) = (((2 * r 6 + 0) + 0)).tdiv (((1 * r 19 + 0) + 0)) := e2
  obtain ⟨h3, hh, e3, k3⟩ := hh
  have k3 : ∀ j, j ∉ [] → h2 j = h3 j := k3
  have e3 : ((1 * r 19 + 0) + 0) = ye_q ((1 * r 18 + 0) + 0) ((1 * r 9 + (1 * r 8 + 0)) + 0) := e3
  obtain ⟨h4, hh, e4, k4⟩ := hh
  have k4 : ∀ j, j ∉ [] → h3 j = h4 j := k4
  have e4 : ((1 * r 18 + 0) + 0) = ye_q ((2 * r 6 + 0) + 0) ((2 * r 7 + 0) + 0) := e4
  obtain ⟨h5, hh, e5, k5⟩ := hh
  have k5 : ∀ j, j ∉ [] → h4 j = h5 j := k5
  have e5 : 0 ≤ ((1 * r 15 + 0) + 0) → ((1 * ((1 * r 16 + 0) + 0) + 0) + 0) = (((1 * r 14 + 0) + 0)).tdiv (ye_q ((1 * r 14 + 0) + 0) ((1 * r 15 + 0) + 0)) ∧ ((1 * ((1 * r 17 + 0) + 0) + 0) + 0) = (((1 * r 15 + 0) + 0)).tdiv (ye_q ((1 * r 14 + 0) + 0) ((1 * r 15 + 0) + 0)) := e5
  obtain ⟨h6, hh, e6, k6⟩ := hh
  have k6 : ∀ j, j ∉ [] → h5 j = h6 j := k6
  have e6 : ((1 * r 15 + 0) + 0) = ((1 * r 6 + 0) + 0) * ((1 * r 6 + 0) + 0) + ((1 * r 7 + 0) + 0) * ((1 * r 7 + 0) + 0) := e6
  obtain ⟨g7, hh, q7, e7⟩ := hh
  subst q7
  have e7 : r 14 = (((-1) * r 9 + (1 * r 8 + 0)) + 0) * (((-1) * r 9 + (1 * r 8 + 0)) + 0) := e7
  try simp only [Int.one_mul, Int.zero_add, Int.add_zero] at e7
  have hh : h6 = gi := hh
  subst hh
  refine yt_dcut (by decide) rfl ?_ ?_
  · rw [show xk_86.2.1.2.1.1.length = 14 from rfl]
    refine yx_fks _ _ ?_
    refine ⟨?_, ?_, trivial⟩
    · show 0 ≤ ((1 * ((0 : Int) + 0) + 0) + 0)
      omega
    · show 0 ≤ (((-1) * ((0 : Int) + 0) + (1 * ((0 : Int) + 0) + 0)) + 0)
      omega
  · rw [show xk_86.2.1.2.1.1.length = 14 from rfl]
    show ((1 * ((1 * r 16 + 0) + 0) + 0) + 0) = ye_wd (g0 3) (g0 4) (((1 * ((1 * r 12 + 0) + 0) + 0) + 0)).toNat ((1 * ((1 * r 6 + 0) + 0) + 0) + 0) ((1 * ((1 * r 7 + 0) + 0) + 0) + 0) ((1 * ((1 * r 8 + 0) + 0) + 0) + 0) ((1 * ((1 * r 9 + 0) + 0) + 0) + 0) 0 ∧ ((1 * ((1 * r 17 + 0) + 0) + 0) + 0) = ye_wd (g0 3) (g0 4) (((1 * ((1 * r 12 + 0) + 0) + 0) + 0)).toNat ((1 * ((1 * r 6 + 0) + 0) + 0) + 0) ((1 * ((1 * r 7 + 0) + 0) + 0) + 0) ((1 * ((1 * r 8 + 0) + 0) + 0) + 0) ((1 * ((1 * r 9 + 0) + 0) + 0) + 0) 1 ∧ ((1 * ((1 * r 20 + 0) + 0) + 0) + 0) = ye_wd (g0 3) (g0 4) (((1 * ((1 * r 12 + 0) + 0) + 0) + 0)).toNat ((1 * ((1 * r 6 + 0) + 0) + 0) + 0) ((1 * ((1 * r 7 + 0) + 0) + 0) + 0) ((1 * ((1 * r 8 + 0) + 0) + 0) + 0) ((1 * ((1 * r 9 + 0) + 0) + 0) + 0) 2 ∧ ((1 * ((1 * r 21 + 0) + 0) + 0) + 0) = ye_wd (g0 3) (g0 4) (((1 * ((1 * r 12 + 0) + 0) + 0) + 0)).toNat ((1 * ((1 * r 6 + 0) + 0) + 0) + 0) ((1 * ((1 * r 7 + 0) + 0) + 0) + 0) ((1 * ((1 * r 8 + 0) + 0) + 0) + 0) ((1 * ((1 * r 9 + 0) + 0) + 0) + 0) 3 ∧ ((1 * ((0 : Int) + 0) + 0) + 0) = ye_wd (g0 3) (g0 4) (((1 * ((1 * r 12 + 0) + 0) + 0) + 0)).toNat ((1 * ((1 * r 6 + 0) + 0) + 0) + 0) ((1 * ((1 * r 7 + 0) + 0) + 0) + 0) ((1 * ((1 * r 8 + 0) + 0) + 0) + 0) ((1 * ((1 * r 9 + 0) + 0) + 0) + 0) 4 ∧ ((1 * ((0 : Int) + 0) + 0) + 0) = ye_sc (g0 3) (g0 4) ((1 * ((1 * r 6 + 0) + 0) + 0) + 0) ((1 * ((1 * r 7 + 0) + 0) + 0) + 0) ((1 * ((1 * r 8 + 0) + 0) + 0) + 0) ((1 * ((1 * r 9 + 0) + 0) + 0) + 0) (((1 * ((0 : Int) + 0) + 0) + 0)).toNat ∧ ((1 * ((0 : Int) + 0) + 0) + 0) ≤ ((1 * ((1 * r 12 + 0) + 0) + 0) + 0)
    try simp only [Int.one_mul, Int.zero_add, Int.add_zero]
    try simp only [Int.one_mul, Int.zero_add, Int.add_zero] at e5
    try simp only [Int.one_mul, Int.zero_add, Int.add_zero] at e6
    try simp only [Int.one_mul, Int.zero_add, Int.add_zero] at e7
    try simp only [Int.one_mul, Int.zero_add, Int.add_zero] at e3
    try simp only [Int.one_mul, Int.zero_add, Int.add_zero] at e4
    try simp only [Int.one_mul, Int.zero_add, Int.add_zero] at e0
    try simp only [Int.one_mul, Int.zero_add, Int.add_zero] at e1
    try simp only [Int.one_mul, Int.zero_add, Int.add_zero] at e2
    rw [show -1 * r 9 + r 8 = r 8 - r 9 by omega] at e7
    rw [e6, e7] at e5
    obtain ⟨q0, q1⟩ := e5 (ye_ss (r 6) (r 7))
    rw [e4, show r 9 + r 8 = r 8 + r 9 by omega] at e3
    rw [e3] at e2 e1 e0
    rw [show r 9 + r 8 = r 8 + r 9 by omega] at e0
    refine ⟨?_, ?_, ?_, ?_, ?_, ?_, ?_⟩
    · unfold ye_wd
      rw [if_pos rfl]
      exact q0
    · unfold ye_wd
      rw [if_neg (by decide), if_pos rfl]
      exact q1
    · unfold ye_wd
      rw [if_neg (by decide), if_neg (by decide), if_pos rfl]
      exact e2
    · unfold ye_wd
      rw [if_neg (by decide), if_neg (by decide), if_neg (by decide), if_pos rfl]
      exact e1
    · unfold ye_wd
      rw [if_neg (by decide), if_neg (by decide), if_neg (by decide), if_neg (by decide), if_pos rfl]
      exact e0
    · rfl
    · omega
theorem xw_86_0_16 : yt_hold xT_86 xk_86 xq_86.2.2.1 xG_86 xP_86 xU_86 14 xk_86.2.1.2.2.2 (fun g0 r g => xR_86 r g0 ∧ g = g0) (0, ([(0, 1), ((-9223372036854775808), 9223372036854775807), ((-9223372036854775808), 9223372036854775807), ((-9223372036854775808), 9223372036854775807), (0, 40), ((-2147483648), 2147483647), ((-600), 600), ((-600), 600), ((-999999), 1000000), ((-999999), 1000000), ((-9223372036854775808), 9223372036854775807), ((-9223372036854775808), 9223372036854775807), (0, 40), ((-2147483648), 2147483647), (0, 4000000000000), (0, 720000), ((-9223372036854775808), 9223372036854775807), ((-9223372036854775808), 9223372036854775807), (1, 4611686018427387904), (1, 1200), (1, 1200), ((-1200), 0), (1, 2000000)], [([(22, (-1)), (8, 1), (9, 1)], 0), ([(19, (-1)), (8, 1), (9, 1)], 0), ([(7, (-2)), (21, 1)], 0), ([(7, (-2))], (-1)), ([(20, (-1)), (6, 2)], 0), ([(19, (-1)), (6, 2)], 0)]), [([], 0), ([(20, 1)], 0), ([(21, 1)], 0), ([(22, 1)], 0), ([], 0), ([(16, 1)], 0), ([(17, 1)], 0)], [], [.inr (.inr (.inl (998, 1, [([(9, 1), (8, 1)], 0), ([(19, 1)], 0), ([(22, 1)], 0)], [], []))), .inr (.inr (.inl (998, 1, [([(7, 2)], 0), ([(19, 1)], 0), ([(21, 1)], 0)], [], []))), .inr (.inr (.inl (998, 1, [([(6, 2)], 0), ([(19, 1)], 0), ([(20, 1)], 0)], [], []))), .inr (.inr (.inl (312, 0, [([(18, 1)], 0), ([(9, 1), (8, 1)], 0), ([(19, 1)], 0)], [], []))), .inr (.inr (.inl (312, 0, [([(6, 2)], 0), ([(7, 2)], 0), ([(18, 1)], 0)], [], []))), .inr (.inr (.inl (313, 0, [([(14, 1)], 0), ([(15, 1)], 0), ([(10, 1)], 0), ([(11, 1)], 0), ([(16, 1)], 0), ([(17, 1)], 0)], [1], []))), .inr (.inr (.inl (300, 0, [([(6, 1)], 0), ([(7, 1)], 0), ([(15, 1)], 0)], [], []))), .inl (.inr (14, ([(9, (-1)), (8, 1)], 0), ([(9, (-1)), (8, 1)], 0)))]) := by
  intro g0 r gi g hok hh hars hfr hG
  have b0 : 0 ≤ r 0 ∧ r 0 ≤ 1 := hok.1 0 (0, 1) rfl
  have b6 : (-600) ≤ r 6 ∧ r 6 ≤ 600 := hok.1 6 ((-600), 600) rfl
  have b7 : (-600) ≤ r 7 ∧ r 7 ≤ 600 := hok.1 7 ((-600), 600) rfl
  have b8 : (-999999) ≤ r 8 ∧ r 8 ≤ 1000000 := hok.1 8 ((-999999), 1000000) rfl
  have b9 : (-999999) ≤ r 9 ∧ r 9 ≤ 1000000 := hok.1 9 ((-999999), 1000000) rfl
  have b12 : 0 ≤ r 12 ∧ r 12 ≤ 40 := hok.1 12 (0, 40) rfl
  have b14 : 0 ≤ r 14 ∧ r 14 ≤ 4000000000000 := hok.1 14 (0, 4000000000000) rfl
  have b15 : 0 ≤ r 15 ∧ r 15 ≤ 720000 := hok.1 15 (0, 720000) rfl
  have b16 : (-9223372036854775808) ≤ r 16 ∧ r 16 ≤ 9223372036854775807 := hok.1 16 ((-9223372036854775808), 9223372036854775807) rfl
  have b17 : (-9223372036854775808) ≤ r 17 ∧ r 17 ≤ 9223372036854775807 := hok.1 17 ((-9223372036854775808), 9223372036854775807) rfl
  have b18 : 1 ≤ r 18 ∧ r 18 ≤ 4611686018427387904 := hok.1 18 (1, 4611686018427387904) rfl
  have b19 : 1 ≤ r 19 ∧ r 19 ≤ 1200 := hok.1 19 (1, 1200) rfl
  have b20 : 1 ≤ r 20 ∧ r 20 ≤ 1200 := hok.1 20 (1, 1200) rfl
  have b21 : (-1200) ≤ r 21 ∧ r 21 ≤ 0 := hok.1 21 ((-1200), 0) rfl
  have b22 : 1 ≤ r 22 ∧ r 22 ≤ 2000000 := hok.1 22 (1, 2000000) rfl
  have f0 : 0 ≤ (((-1) * r 22 + (1 * r 8 + (1 * r 9 + 0))) + 0) := hok.2 _ (List.mem_of_getElem? (i := 0) rfl)
  have f1 : 0 ≤ (((-1) * r 19 + (1 * r 8 + (1 * r 9 + 0))) + 0) := hok.2 _ (List.mem_of_getElem? (i := 1) rfl)
  have f2 : 0 ≤ (((-2) * r 7 + (1 * r 21 + 0)) + 0) := hok.2 _ (List.mem_of_getElem? (i := 2) rfl)
  have f3 : 0 ≤ (((-2) * r 7 + 0) + (-1)) := hok.2 _ (List.mem_of_getElem? (i := 3) rfl)
  have f4 : 0 ≤ (((-1) * r 20 + (2 * r 6 + 0)) + 0) := hok.2 _ (List.mem_of_getElem? (i := 4) rfl)
  have f5 : 0 ≤ (((-1) * r 19 + (2 * r 6 + 0)) + 0) := hok.2 _ (List.mem_of_getElem? (i := 5) rfl)
  obtain ⟨hG, hgi⟩ := hG
  have hG : True := hG
  obtain ⟨h0, hh, e0, k0⟩ := hh
  have k0 : ∀ j, j ∉ [] → g j = h0 j := k0
  have e0 : ((1 * r 22 + 0) + 0) = (((1 * r 9 + (1 * r 8 + 0)) + 0)).tdiv (((1 * r 19 + 0) + 0)) := e0
  obtain ⟨h1, hh, e1, k1⟩ := hh
  have k1 : ∀ j, j ∉ [] → h0 j = h1 j := k1
  have e1 : ((1 * r 21 + 0) + 0) = (((2 * r 7 + 0) + 0)).tdiv (((1 * r 19 + 0) + 0)) := e1
  obtain ⟨h2, hh, e2, k2⟩ := hh
  have k2 : ∀ j, j ∉ [] → h1 j = h2 j := k2
  have e2 : ((1 * r 20 + 0) + 0) = (((2 * r 6 + 0) + 0)).tdiv (((1 * r 19 + 0) + 0)) := e2
  obtain ⟨h3, hh, e3, k3⟩ := hh
  have k3 : ∀ j, j ∉ [] → h2 j = h3 j := k3
  have e3 : ((1 * r 19 + 0) + 0) = ye_q ((1 * r 18 + 0) + 0) ((1 * r 9 + (1 * r 8 + 0)) + 0) := e3
  obtain ⟨h4, hh, e4, k4⟩ := hh
  have k4 : ∀ j, j ∉ [] → h3 j = h4 j := k4
  have e4 : ((1 * r 18 + 0) + 0) = ye_q ((2 * r 6 + 0) + 0) ((2 * r 7 + 0) + 0) := e4
  obtain ⟨h5, hh, e5, k5⟩ := hh
  have k5 : ∀ j, j ∉ [] → h4 j = h5 j := k5
  have e5 : 0 ≤ ((1 * r 15 + 0) + 0) → ((1 * ((1 * r 16 + 0) + 0) + 0) + 0) = (((1 * r 14 + 0) + 0)).tdiv (ye_q ((1 * r 14 + 0) + 0) ((1 * r 15 + 0) + 0)) ∧ ((1 * ((1 * r 17 + 0) + 0) + 0) + 0) = (((1 * r 15 + 0) + 0)).tdiv (ye_q ((1 * r 14 + 0) + 0) ((1 * r 15 + 0) + 0)) := e5
  obtain ⟨h6, hh, e6, k6⟩ := hh
  have k6 : ∀ j, j ∉ [] → h5 j = h6 j := k6
  have e6 : ((1 * r 15 + 0) + 0) = ((1 * r 6 + 0) + 0) * ((1 * r 6 + 0) + 0) + ((1 * r 7 + 0) + 0) * ((1 * r 7 + 0) + 0) := e6
  obtain ⟨g7, hh, q7, e7⟩ := hh
  subst q7
  have e7 : r 14 = (((-1) * r 9 + (1 * r 8 + 0)) + 0) * (((-1) * r 9 + (1 * r 8 + 0)) + 0) := e7
  try simp only [Int.one_mul, Int.zero_add, Int.add_zero] at e7
  have hh : h6 = gi := hh
  subst hh
  refine yt_dcut (by decide) rfl ?_ ?_
  · rw [show xk_86.2.1.2.1.1.length = 14 from rfl]
    refine yx_fks _ _ ?_
    refine ⟨?_, ?_, trivial⟩
    · show 0 ≤ ((1 * ((0 : Int) + 0) + 0) + 0)
      omega
    · show 0 ≤ (((-1) * ((0 : Int) + 0) + (1 * ((0 : Int) + 0) + 0)) + 0)
      omega
  · rw [show xk_86.2.1.2.1.1.length = 14 from rfl]
    show ((1 * ((1 * r 16 + 0) + 0) + 0) + 0) = ye_wd (g0 3) (g0 4) (((1 * ((1 * r 12 + 0) + 0) + 0) + 0)).toNat ((1 * ((1 * r 6 + 0) + 0) + 0) + 0) ((1 * ((1 * r 7 + 0) + 0) + 0) + 0) ((1 * ((1 * r 8 + 0) + 0) + 0) + 0) ((1 * ((1 * r 9 + 0) + 0) + 0) + 0) 0 ∧ ((1 * ((1 * r 17 + 0) + 0) + 0) + 0) = ye_wd (g0 3) (g0 4) (((1 * ((1 * r 12 + 0) + 0) + 0) + 0)).toNat ((1 * ((1 * r 6 + 0) + 0) + 0) + 0) ((1 * ((1 * r 7 + 0) + 0) + 0) + 0) ((1 * ((1 * r 8 + 0) + 0) + 0) + 0) ((1 * ((1 * r 9 + 0) + 0) + 0) + 0) 1 ∧ ((1 * ((1 * r 20 + 0) + 0) + 0) + 0) = ye_wd (g0 3) (g0 4) (((1 * ((1 * r 12 + 0) + 0) + 0) + 0)).toNat ((1 * ((1 * r 6 + 0) + 0) + 0) + 0) ((1 * ((1 * r 7 + 0) + 0) + 0) + 0) ((1 * ((1 * r 8 + 0) + 0) + 0) + 0) ((1 * ((1 * r 9 + 0) + 0) + 0) + 0) 2 ∧ ((1 * ((1 * r 21 + 0) + 0) + 0) + 0) = ye_wd (g0 3) (g0 4) (((1 * ((1 * r 12 + 0) + 0) + 0) + 0)).toNat ((1 * ((1 * r 6 + 0) + 0) + 0) + 0) ((1 * ((1 * r 7 + 0) + 0) + 0) + 0) ((1 * ((1 * r 8 + 0) + 0) + 0) + 0) ((1 * ((1 * r 9 + 0) + 0) + 0) + 0) 3 ∧ ((1 * ((1 * r 22 + 0) + 0) + 0) + 0) = ye_wd (g0 3) (g0 4) (((1 * ((1 * r 12 + 0) + 0) + 0) + 0)).toNat ((1 * ((1 * r 6 + 0) + 0) + 0) + 0) ((1 * ((1 * r 7 + 0) + 0) + 0) + 0) ((1 * ((1 * r 8 + 0) + 0) + 0) + 0) ((1 * ((1 * r 9 + 0) + 0) + 0) + 0) 4 ∧ ((1 * ((0 : Int) + 0) + 0) + 0) = ye_sc (g0 3) (g0 4) ((1 * ((1 * r 6 + 0) + 0) + 0) + 0) ((1 * ((1 * r 7 + 0) + 0) + 0) + 0) ((1 * ((1 * r 8 + 0) + 0) + 0) + 0) ((1 * ((1 * r 9 + 0) + 0) + 0) + 0) (((1 * ((0 : Int) + 0) + 0) + 0)).toNat ∧ ((1 * ((0 : Int) + 0) + 0) + 0) ≤ ((1 * ((1 * r 12 + 0) + 0) + 0) + 0)
    try simp only [Int.one_mul, Int.zero_add, Int.add_zero]
    try simp only [Int.one_mul, Int.zero_add, Int.add_zero] at e5
    try simp only [Int.one_mul, Int.zero_add, Int.add_zero] at e6
    try simp only [Int.one_mul, Int.zero_add, Int.add_zero] at e7
    try simp only [Int.one_mul, Int.zero_add, Int.add_zero] at e3
    try simp only [Int.one_mul, Int.zero_add, Int.add_zero] at e4
    try simp only [Int.one_mul, Int.zero_add, Int.add_zero] at e0
    try simp only [Int.one_mul, Int.zero_add, Int.add_zero] at e1
    try simp only [Int.one_mul, Int.zero_add, Int.add_zero] at e2
    rw [show -1 * r 9 + r 8 = r 8 - r 9 by omega] at e7
    rw [e6, e7] at e5
    obtain ⟨q0, q1⟩ := e5 (ye_ss (r 6) (r 7))
    rw [e4, show r 9 + r 8 = r 8 + r 9 by omega] at e3
    rw [e3] at e2 e1 e0
    rw [show r 9 + r 8 = r 8 + r 9 by omega] at e0
    refine ⟨?_, ?_, ?_, ?_, ?_, ?_, ?_⟩
    · unfold ye_wd
      rw [if_pos rfl]
      exact q0
    · unfold ye_wd
      rw [if_neg (by decide), if_pos rfl]
      exact q1
    · unfold ye_wd
      rw [if_neg (by decide), if_neg (by decide), if_pos rfl]
      exact e2
    · unfold ye_wd
      rw [if_neg (by decide), if_neg (by decide), if_neg (by decide), if_pos rfl]
      exact e1
    · unfold ye_wd
      rw [if_neg (by decide), if_neg (by decide), if_neg (by decide), if_neg (by decide), if_pos rfl]
      exact e0
    · rfl
    · omega
theorem xw_86_0_17 : yt_hold xT_86 xk_86 xq_86.2.2.1 xG_86 xP_86 xU_86 14 xk_86.2.1.2.2.2 (fun g0 r g => xR_86 r g0 ∧ g = g0) (0, ([(0, 1), ((-9223372036854775808), 9223372036854775807), ((-9223372036854775808), 9223372036854775807), ((-9223372036854775808), 9223372036854775807), (0, 40), ((-2147483648), 2147483647), ((-600), 600), ((-600), 600), ((-1000000), 999999), ((-1000000), 999999), ((-9223372036854775808), 9223372036854775807), ((-9223372036854775808), 9223372036854775807), (0, 40), ((-2147483648), 2147483647), (0, 4000000000000), (0, 720000), ((-9223372036854775808), 9223372036854775807), ((-9223372036854775808), 9223372036854775807), (1, 4611686018427387904), (1, 1200), (1, 1200), ((-1200), 0), ((-2000000), 0)], [([(9, (-1)), (8, (-1)), (22, 1)], 0), ([(8, (-1)), (9, (-1))], (-1)), ([(7, (-2)), (21, 1)], 0), ([(7, (-2))], (-1)), ([(20, (-1)), (6, 2)], 0), ([(19, (-1)), (6, 2)], 0)]), [([], 0), ([(20, 1)], 0), ([(21, 1)], 0), ([(22, 1)], 0), ([], 0), ([(16, 1)], 0), ([(17, 1)], 0)], [], [.inr (.inr (.inl (998, 1, [([(9, 1), (8, 1)], 0), ([(19, 1)], 0), ([(22, 1)], 0)], [], []))), .inr (.inr (.inl (998, 1, [([(7, 2)], 0), ([(19, 1)], 0), ([(21, 1)], 0)], [], []))), .inr (.inr (.inl (998, 1, [([(6, 2)], 0), ([(19, 1)], 0), ([(20, 1)], 0)], [], []))), .inr (.inr (.inl (312, 0, [([(18, 1)], 0), ([(9, 1), (8, 1)], 0), ([(19, 1)], 0)], [], []))), .inr (.inr (.inl (312, 0, [([(6, 2)], 0), ([(7, 2)], 0), ([(18, 1)], 0)], [], []))), .inr (.inr (.inl (313, 0, [([(14, 1)], 0), ([(15, 1)], 0), ([(10, 1)], 0), ([(11, 1)], 0), ([(16, 1)], 0), ([(17, 1)], 0)], [1], []))), .inr (.inr (.inl (300, 0, [([(6, 1)], 0), ([(7, 1)], 0), ([(15, 1)], 0)], [], []))), .inl (.inr (14, ([(9, (-1)), (8, 1)], 0), ([(9, (-1)), (8, 1)], 0)))]) := by
  intro g0 r gi g hok hh hars hfr hG
  have b0 : 0 ≤ r 0 ∧ r 0 ≤ 1 := hok.1 0 (0, 1) rfl
  have b6 : (-600) ≤ r 6 ∧ r 6 ≤ 600 := hok.1 6 ((-600), 600) rfl
  have b7 : (-600) ≤ r 7 ∧ r 7 ≤ 600 := hok.1 7 ((-600), 600) rfl
  have b8 : (-1000000) ≤ r 8 ∧ r 8 ≤ 999999 := hok.1 8 ((-1000000), 999999) rfl
  have b9 : (-1000000) ≤ r 9 ∧ r 9 ≤ 999999 := hok.1 9 ((-1000000), 999999) rfl
  have b12 : 0 ≤ r 12 ∧ r 12 ≤ 40 := hok.1 12 (0, 40) rfl
  have b14 : 0 ≤ r 14 ∧ r 14 ≤ 4000000000000 := hok.1 14 (0, 4000000000000) rfl
  have b15 : 0 ≤ r 15 ∧ r 15 ≤ 720000 := hok.1 15 (0, 720000) rfl
  have b16 : (-9223372036854775808) ≤ r 16 ∧ r 16 ≤ 9223372036854775807 := hok.1 16 ((-9223372036854775808), 9223372036854775807) rfl
  have b17 : (-9223372036854775808) ≤ r 17 ∧ r 17 ≤ 9223372036854775807 := hok.1 17 ((-9223372036854775808), 9223372036854775807) rfl
  have b18 : 1 ≤ r 18 ∧ r 18 ≤ 4611686018427387904 := hok.1 18 (1, 4611686018427387904) rfl
  have b19 : 1 ≤ r 19 ∧ r 19 ≤ 1200 := hok.1 19 (1, 1200) rfl
  have b20 : 1 ≤ r 20 ∧ r 20 ≤ 1200 := hok.1 20 (1, 1200) rfl
  have b21 : (-1200) ≤ r 21 ∧ r 21 ≤ 0 := hok.1 21 ((-1200), 0) rfl
  have b22 : (-2000000) ≤ r 22 ∧ r 22 ≤ 0 := hok.1 22 ((-2000000), 0) rfl
  have f0 : 0 ≤ (((-1) * r 9 + ((-1) * r 8 + (1 * r 22 + 0))) + 0) := hok.2 _ (List.mem_of_getElem? (i := 0) rfl)
  have f1 : 0 ≤ (((-1) * r 8 + ((-1) * r 9 + 0)) + (-1)) := hok.2 _ (List.mem_of_getElem? (i := 1) rfl)
  have f2 : 0 ≤ (((-2) * r 7 + (1 * r 21 + 0)) + 0) := hok.2 _ (List.mem_of_getElem? (i := 2) rfl)
  have f3 : 0 ≤ (((-2) * r 7 + 0) + (-1)) := hok.2 _ (List.mem_of_getElem? (i := 3) rfl)
  have f4 : 0 ≤ (((-1) * r 20 + (2 * r 6 + 0)) + 0) := hok.2 _ (List.mem_of_getElem? (i := 4) rfl)
  have f5 : 0 ≤ (((-1) * r 19 + (2 * r 6 + 0)) + 0) := hok.2 _ (List.mem_of_getElem? (i := 5) rfl)
  obtain ⟨hG, hgi⟩ := hG
  have hG : True := hG
  obtain ⟨h0, hh, e0, k0⟩ := hh
  have k0 : ∀ j, j ∉ [] → g j = h0 j := k0
  have e0 : ((1 * r 22 + 0) + 0) = (((1 * r 9 + (1 * r 8 + 0)) + 0)).tdiv (((1 * r 19 + 0) + 0)) := e0
  obtain ⟨h1, hh, e1, k1⟩ := hh
  have k1 : ∀ j, j ∉ [] → h0 j = h1 j := k1
  have e1 : ((1 * r 21 + 0) + 0) = (((2 * r 7 + 0) + 0)).tdiv (((1 * r 19 + 0) + 0)) := e1
  obtain ⟨h2, hh, e2, k2⟩ := hh
  have k2 : ∀ j, j ∉ [] → h1 j = h2 j := k2
  have e2 : ((1 * r 20 + 0) + 0) = (((2 * r 6 + 0) + 0)).tdiv (((1 * r 19 + 0) + 0)) := e2
  obtain ⟨h3, hh, e3, k3⟩ := hh
  have k3 : ∀ j, j ∉ [] → h2 j = h3 j := k3
  have e3 : ((1 * r 19 + 0) + 0) = ye_q ((1 * r 18 + 0) + 0) ((1 * r 9 + (1 * r 8 + 0)) + 0) := e3
  obtain ⟨h4, hh, e4, k4⟩ := hh
  have k4 : ∀ j, j ∉ [] → h3 j = h4 j := k4
  have e4 : ((1 * r 18 + 0) + 0) = ye_q ((2 * r 6 + 0) + 0) ((2 * r 7 + 0) + 0) := e4
  obtain ⟨h5, hh, e5, k5⟩ := hh
  have k5 : ∀ j, j ∉ [] → h4 j = h5 j := k5
  have e5 : 0 ≤ ((1 * r 15 + 0) + 0) → ((1 * ((1 * r 16 + 0) + 0) + 0) + 0) = (((1 * r 14 + 0) + 0)).tdiv (ye_q ((1 * r 14 + 0) + 0) ((1 * r 15 + 0) + 0)) ∧ ((1 * ((1 * r 17 + 0) + 0) + 0) + 0) = (((1 * r 15 + 0) + 0)).tdiv (ye_q ((1 * r 14 + 0) + 0) ((1 * r 15 + 0) + 0)) := e5
  obtain ⟨h6, hh, e6, k6⟩ := hh
  have k6 : ∀ j, j ∉ [] → h5 j = h6 j := k6
  have e6 : ((1 * r 15 + 0) + 0) = ((1 * r 6 + 0) + 0) * ((1 * r 6 + 0) + 0) + ((1 * r 7 + 0) + 0) * ((1 * r 7 + 0) + 0) := e6
  obtain ⟨g7, hh, q7, e7⟩ := hh
  subst q7
  have e7 : r 14 = (((-1) * r 9 + (1 * r 8 + 0)) + 0) * (((-1) * r 9 + (1 * r 8 + 0)) + 0) := e7
  try simp only [Int.one_mul, Int.zero_add, Int.add_zero] at e7
  have hh : h6 = gi := hh
  subst hh
  refine yt_dcut (by decide) rfl ?_ ?_
  · rw [show xk_86.2.1.2.1.1.length = 14 from rfl]
    refine yx_fks _ _ ?_
    refine ⟨?_, ?_, trivial⟩
    · show 0 ≤ ((1 * ((0 : Int) + 0) + 0) + 0)
      omega
    · show 0 ≤ (((-1) * ((0 : Int) + 0) + (1 * ((0 : Int) + 0) + 0)) + 0)
      omega
  · rw [show xk_86.2.1.2.1.1.length = 14 from rfl]
    show ((1 * ((1 * r 16 + 0) + 0) + 0) + 0) = ye_wd (g0 3) (g0 4) (((1 * ((1 * r 12 + 0) + 0) + 0) + 0)).toNat ((1 * ((1 * r 6 + 0) + 0) + 0) + 0) ((1 * ((1 * r 7 + 0) + 0) + 0) + 0) ((1 * ((1 * r 8 + 0) + 0) + 0) + 0) ((1 * ((1 * r 9 + 0) + 0) + 0) + 0) 0 ∧ ((1 * ((1 * r 17 + 0) + 0) + 0) + 0) = ye_wd (g0 3) (g0 4) (((1 * ((1 * r 12 + 0) + 0) + 0) + 0)).toNat ((1 * ((1 * r 6 + 0) + 0) + 0) + 0) ((1 * ((1 * r 7 + 0) + 0) + 0) + 0) ((1 * ((1 * r 8 + 0) + 0) + 0) + 0) ((1 * ((1 * r 9 + 0) + 0) + 0) + 0) 1 ∧ ((1 * ((1 * r 20 + 0) + 0) + 0) + 0) = ye_wd (g0 3) (g0 4) (((1 * ((1 * r 12 + 0) + 0) + 0) + 0)).toNat ((1 * ((1 * r 6 + 0) + 0) + 0) + 0) ((1 * ((1 * r 7 + 0) + 0) + 0) + 0) ((1 * ((1 * r 8 + 0) + 0) + 0) + 0) ((1 * ((1 * r 9 + 0) + 0) + 0) + 0) 2 ∧ ((1 * ((1 * r 21 + 0) + 0) + 0) + 0) = ye_wd (g0 3) (g0 4) (((1 * ((1 * r 12 + 0) + 0) + 0) + 0)).toNat ((1 * ((1 * r 6 + 0) + 0) + 0) + 0) ((1 * ((1 * r 7 + 0) + 0) + 0) + 0) ((1 * ((1 * r 8 + 0) + 0) + 0) + 0) ((1 * ((1 * r 9 + 0) + 0) + 0) + 0) 3 ∧ ((1 * ((1 * r 22 + 0) + 0) + 0) + 0) = ye_wd (g0 3) (g0 4) (((1 * ((1 * r 12 + 0) + 0) + 0) + 0)).toNat ((1 * ((1 * r 6 + 0) + 0) + 0) + 0) ((1 * ((1 * r 7 + 0) + 0) + 0) + 0) ((1 * ((1 * r 8 + 0) + 0) + 0) + 0) ((1 * ((1 * r 9 + 0) + 0) + 0) + 0) 4 ∧ ((1 * ((0 : Int) + 0) + 0) + 0) = ye_sc (g0 3) (g0 4) ((1 * ((1 * r 6 + 0) + 0) + 0) + 0) ((1 * ((1 * r 7 + 0) + 0) + 0) + 0) ((1 * ((1 * r 8 + 0) + 0) + 0) + 0) ((1 * ((1 * r 9 + 0) + 0) + 0) + 0) (((1 * ((0 : Int) + 0) + 0) + 0)).toNat ∧ ((1 * ((0 : Int) + 0) + 0) + 0) ≤ ((1 * ((1 * r 12 + 0) + 0) + 0) + 0)
    try simp only [Int.one_mul, Int.zero_add, Int.add_zero]
    try simp only [Int.one_mul, Int.zero_add, Int.add_zero] at e5
    try simp only [Int.one_mul, Int.zero_add, Int.add_zero] at e6
    try simp only [Int.one_mul, Int.zero_add, Int.add_zero] at e7
    try simp only [Int.one_mul, Int.zero_add, Int.add_zero] at e3
    try simp only [Int.one_mul, Int.zero_add, Int.add_zero] at e4
    try simp only [Int.one_mul, Int.zero_add, Int.add_zero] at e0
    try simp only [Int.one_mul, Int.zero_add, Int.add_zero] at e1
    try simp only [Int.one_mul, Int.zero_add, Int.add_zero] at e2
    rw [show -1 * r 9 + r 8 = r 8 - r 9 by omega] at e7
    rw [e6, e7] at e5
    obtain ⟨q0, q1⟩ := e5 (ye_ss (r 6) (r 7))
    rw [e4, show r 9 + r 8 = r 8 + r 9 by omega] at e3
    rw [e3] at e2 e1 e0
    rw [show r 9 + r 8 = r 8 + r 9 by omega] at e0
    refine ⟨?_, ?_, ?_, ?_, ?_, ?_, ?_⟩
    · unfold ye_wd
      rw [if_pos rfl]
      exact q0
    · unfold ye_wd
      rw [if_neg (by decide), if_pos rfl]
      exact q1
    · unfold ye_wd
      rw [if_neg (by decide), if_neg (by decide), if_pos rfl]
      exact e2
    · unfold ye_wd
      rw [if_neg (by decide), if_neg (by decide), if_neg (by decide), if_pos rfl]
      exact e1
    · unfold ye_wd
      rw [if_neg (by decide), if_neg (by decide), if_neg (by decide), if_neg (by decide), if_pos rfl]
      exact e0
    · rfl
    · omega
theorem xw_86_0_18 : yt_hold xT_86 xk_86 xq_86.2.2.1 xG_86 xP_86 xU_86 14 xk_86.2.1.2.2.2 (fun g0 r g => xR_86 r g0 ∧ g = g0) (0, ([(0, 1), ((-9223372036854775808), 9223372036854775807), ((-9223372036854775808), 9223372036854775807), ((-9223372036854775808), 9223372036854775807), (0, 40), ((-2147483648), 2147483647), ((-600), 600), ((-600), 600), ((-1000000), 1000000), ((-1000000), 1000000), ((-9223372036854775808), 9223372036854775807), ((-9223372036854775808), 9223372036854775807), (0, 40), ((-2147483648), 2147483647), (0, 4000000000000), (0, 720000), ((-9223372036854775808), 9223372036854775807), ((-9223372036854775808), 9223372036854775807), (1, 4611686018427387904), (1, 4611686018427387904), ((-1200), 0), (0, 0), (0, 0)], [([(19, 1), (8, (-1)), (9, (-1))], (-1)), ([(9, 1), (8, 1)], 0), ([(19, 1), (7, (-2))], (-1)), ([(7, 2)], 0), ([(6, (-2)), (20, 1)], 0), ([(6, (-2))], (-1))]), [([], 0), ([(20, 1)], 0), ([], 0), ([], 0), ([], 0), ([(16, 1)], 0), ([(17, 1)], 0)], [], [.inr (.inr (.inl (998, 1, [([(9, 1), (8, 1)], 0), ([(19, 1)], 0), ([], 0)], [], []))), .inr (.inr (.inl (998, 1, [([(7, 2)], 0), ([(19, 1)], 0), ([], 0)], [], []))), .inr (.inr (.inl (998, 1, [([(6, 2)], 0), ([(19, 1)], 0), ([(20, 1)], 0)], [], []))), .inr (.inr (.inl (312, 0, [([(18, 1)], 0), ([(9, 1), (8, 1)], 0), ([(19, 1)], 0)], [], []))), .inr (.inr (.inl (312, 0, [([(6, 2)], 0), ([(7, 2)], 0), ([(18, 1)], 0)], [], []))), .inr (.inr (.inl (313, 0, [([(14, 1)], 0), ([(15, 1)], 0), ([(10, 1)], 0), ([(11, 1)], 0), ([(16, 1)], 0), ([(17, 1)], 0)], [1], []))), .inr (.inr (.inl (300, 0, [([(6, 1)], 0), ([(7, 1)], 0), ([(15, 1)], 0)], [], []))), .inl (.inr (14, ([(9, (-1)), (8, 1)], 0), ([(9, (-1)), (8, 1)], 0)))]) := by
  intro g0 r gi g hok hh hars hfr hG
  have b0 : 0 ≤ r 0 ∧ r 0 ≤ 1 := hok.1 0 (0, 1) rfl
  have b6 : (-600) ≤ r 6 ∧ r 6 ≤ 600 := hok.1 6 ((-600), 600) rfl
  have b7 : (-600) ≤ r 7 ∧ r 7 ≤ 600 := hok.1 7 ((-600), 600) rfl
  have b8 : (-1000000) ≤ r 8 ∧ r 8 ≤ 1000000 := hok.1 8 ((-1000000), 1000000) rfl
  have b9 : (-1000000) ≤ r 9 ∧ r 9 ≤ 1000000 := hok.1 9 ((-1000000), 1000000) rfl
  have b12 : 0 ≤ r 12 ∧ r 12 ≤ 40 := hok.1 12 (0, 40) rfl
  have b14 : 0 ≤ r 14 ∧ r 14 ≤ 4000000000000 := hok.1 14 (0, 4000000000000) rfl
  have b15 : 0 ≤ r 15 ∧ r 15 ≤ 720000 := hok.1 15 (0, 720000) rfl
  have b16 : (-9223372036854775808) ≤ r 16 ∧ r 16 ≤ 9223372036854775807 := hok.1 16 ((-9223372036854775808), 9223372036854775807) rfl
  have b17 : (-9223372036854775808) ≤ r 17 ∧ r 17 ≤ 9223372036854775807 := hok.1 17 ((-9223372036854775808), 9223372036854775807) rfl
  have b18 : 1 ≤ r 18 ∧ r 18 ≤ 4611686018427387904 := hok.1 18 (1, 4611686018427387904) rfl
  have b19 : 1 ≤ r 19 ∧ r 19 ≤ 4611686018427387904 := hok.1 19 (1, 4611686018427387904) rfl
  have b20 : (-1200) ≤ r 20 ∧ r 20 ≤ 0 := hok.1 20 ((-1200), 0) rfl
  have b21 : 0 ≤ r 21 ∧ r 21 ≤ 0 := hok.1 21 (0, 0) rfl
  have b22 : 0 ≤ r 22 ∧ r 22 ≤ 0 := hok.1 22 (0, 0) rfl
  have f0 : 0 ≤ ((1 * r 19 + ((-1) * r 8 + ((-1) * r 9 + 0))) + (-1)) := hok.2 _ (List.mem_of_getElem? (i := 0) rfl)
  have f1 : 0 ≤ ((1 * r 9 + (1 * r 8 + 0)) + 0) := hok.2 _ (List.mem_of_getElem? (i := 1) rfl)
  have f2 : 0 ≤ ((1 * r 19 + ((-2) * r 7 + 0)) + (-1)) := hok.2 _ (List.mem_of_getElem? (i := 2) rfl)
  have f3 : 0 ≤ ((2 * r 7 + 0) + 0) := hok.2 _ (List.mem_of_getElem? (i := 3) rfl)
  have f4 : 0 ≤ (((-2) * r 6 + (1 * r 20 + 0)) + 0) := hok.2 _ (List.mem_of_getElem? (i := 4) rfl)
  have f5 : 0 ≤ (((-2) * r 6 + 0) + (-1)) := hok.2 _ (List.mem_of_getElem? (i := 5) rfl)
  obtain ⟨hG, hgi⟩ := hG
  have hG : True := hG
  obtain ⟨h0, hh, e0, k0⟩ := hh
  have k0 : ∀ j, j ∉ [] → g j = h0 j := k0
  have e0 : ((0 : Int) + 0) = (((1 * r 9 + (1 * r 8 + 0)) + 0)).tdiv (((1 * r 19 + 0) + 0)) := e0
  obtain ⟨h1, hh, e1, k1⟩ := hh
  have k1 : ∀ j, j ∉ [] → h0 j = h1 j := k1
  have e1 : ((0 : Int) + 0) = (((2 * r 7 + 0) + 0)).tdiv (((1 * r 19 + 0) + 0)) := e1
  obtain ⟨h2, hh, e2, k2⟩ := hh
  have k2 : ∀ j, j ∉ [] → h1 j = h2 j := k2
  have e2 : ((1 * r 20 + 0) + 0) = (((2 * r 6 + 0) + 0)).tdiv (((1 * r 19 + 0) + 0)) := e2
  obtain ⟨h3, hh, e3, k3⟩ := hh
  have k3 : ∀ j, j ∉ [] → h2 j = h3 j := k3
  have e3 : ((1 * r 19 + 0) + 0) = ye_q ((1 * r 18 + 0) + 0) ((1 * r 9 + (1 * r 8 + 0)) + 0) := e3
  obtain ⟨h4, hh, e4, k4⟩ := hh
  have k4 : ∀ j, j ∉ [] → h3 j = h4 j := k4
  have e4 : ((1 * r 18 + 0) + 0) = ye_q ((2 * r 6 + 0) + 0) ((2 * r 7 + 0) + 0) := e4
  obtain ⟨h5, hh, e5, k5⟩ := hh
  have k5 : ∀ j, j ∉ [] → h4 j = h5 j := k5
  have e5 : 0 ≤ ((1 * r 15 + 0) + 0) → ((1 * ((1 * r 16 + 0) + 0) + 0) + 0) = (((1 * r 14 + 0) + 0)).tdiv (ye_q ((1 * r 14 + 0) + 0) ((1 * r 15 + 0) + 0)) ∧ ((1 * ((1 * r 17 + 0) + 0) + 0) + 0) = (((1 * r 15 + 0) + 0)).tdiv (ye_q ((1 * r 14 + 0) + 0) ((1 * r 15 + 0) + 0)) := e5
  obtain ⟨h6, hh, e6, k6⟩ := hh
  have k6 : ∀ j, j ∉ [] → h5 j = h6 j := k6
  have e6 : ((1 * r 15 + 0) + 0) = ((1 * r 6 + 0) + 0) * ((1 * r 6 + 0) + 0) + ((1 * r 7 + 0) + 0) * ((1 * r 7 + 0) + 0) := e6
  obtain ⟨g7, hh, q7, e7⟩ := hh
  subst q7
  have e7 : r 14 = (((-1) * r 9 + (1 * r 8 + 0)) + 0) * (((-1) * r 9 + (1 * r 8 + 0)) + 0) := e7
  try simp only [Int.one_mul, Int.zero_add, Int.add_zero] at e7
  have hh : h6 = gi := hh
  subst hh
  refine yt_dcut (by decide) rfl ?_ ?_
  · rw [show xk_86.2.1.2.1.1.length = 14 from rfl]
    refine yx_fks _ _ ?_
    refine ⟨?_, ?_, trivial⟩
    · show 0 ≤ ((1 * ((0 : Int) + 0) + 0) + 0)
      omega
    · show 0 ≤ (((-1) * ((0 : Int) + 0) + (1 * ((0 : Int) + 0) + 0)) + 0)
      omega
  · rw [show xk_86.2.1.2.1.1.length = 14 from rfl]
    show ((1 * ((1 * r 16 + 0) + 0) + 0) + 0) = ye_wd (g0 3) (g0 4) (((1 * ((1 * r 12 + 0) + 0) + 0) + 0)).toNat ((1 * ((1 * r 6 + 0) + 0) + 0) + 0) ((1 * ((1 * r 7 + 0) + 0) + 0) + 0) ((1 * ((1 * r 8 + 0) + 0) + 0) + 0) ((1 * ((1 * r 9 + 0) + 0) + 0) + 0) 0 ∧ ((1 * ((1 * r 17 + 0) + 0) + 0) + 0) = ye_wd (g0 3) (g0 4) (((1 * ((1 * r 12 + 0) + 0) + 0) + 0)).toNat ((1 * ((1 * r 6 + 0) + 0) + 0) + 0) ((1 * ((1 * r 7 + 0) + 0) + 0) + 0) ((1 * ((1 * r 8 + 0) + 0) + 0) + 0) ((1 * ((1 * r 9 + 0) + 0) + 0) + 0) 1 ∧ ((1 * ((1 * r 20 + 0) + 0) + 0) + 0) = ye_wd (g0 3) (g0 4) (((1 * ((1 * r 12 + 0) + 0) + 0) + 0)).toNat ((1 * ((1 * r 6 + 0) + 0) + 0) + 0) ((1 * ((1 * r 7 + 0) + 0) + 0) + 0) ((1 * ((1 * r 8 + 0) + 0) + 0) + 0) ((1 * ((1 * r 9 + 0) + 0) + 0) + 0) 2 ∧ ((1 * ((0 : Int) + 0) + 0) + 0) = ye_wd (g0 3) (g0 4) (((1 * ((1 * r 12 + 0) + 0) + 0) + 0)).toNat ((1 * ((1 * r 6 + 0) + 0) + 0) + 0) ((1 * ((1 * r 7 + 0) + 0) + 0) + 0) ((1 * ((1 * r 8 + 0) + 0) + 0) + 0) ((1 * ((1 * r 9 + 0) + 0) + 0) + 0) 3 ∧ ((1 * ((0 : Int) + 0) + 0) + 0) = ye_wd (g0 3) (g0 4) (((1 * ((1 * r 12 + 0) + 0) + 0) + 0)).toNat ((1 * ((1 * r 6 + 0) + 0) + 0) + 0) ((1 * ((1 * r 7 + 0) + 0) + 0) + 0) ((1 * ((1 * r 8 + 0) + 0) + 0) + 0) ((1 * ((1 * r 9 + 0) + 0) + 0) + 0) 4 ∧ ((1 * ((0 : Int) + 0) + 0) + 0) = ye_sc (g0 3) (g0 4) ((1 * ((1 * r 6 + 0) + 0) + 0) + 0) ((1 * ((1 * r 7 + 0) + 0) + 0) + 0) ((1 * ((1 * r 8 + 0) + 0) + 0) + 0) ((1 * ((1 * r 9 + 0) + 0) + 0) + 0) (((1 * ((0 : Int) + 0) + 0) + 0)).toNat ∧ ((1 * ((0 : Int) + 0) + 0) + 0) ≤ ((1 * ((1 * r 12 + 0) + 0) + 0) + 0)
    try simp only [Int.one_mul, Int.zero_add, Int.add_zero]
    try simp only [Int.one_mul, Int.zero_add, Int.add_zero] at e5
    try simp only [Int.one_mul, Int.zero_add, Int.add_zero] at e6
    try simp only [Int.one_mul, Int.zero_add, Int.add_zero] at e7
    try simp only [Int.one_mul, Int.zero_add, Int.add_zero] at e3
    try simp only [Int.one_mul, Int.zero_add, Int.add_zero] at e4
    try simp only [Int.one_mul, Int.zero_add, Int.add_zero] at e0
    try simp only [Int.one_mul, Int.zero_add, Int.add_zero] at e1
    try simp only [Int.one_mul, Int.zero_add, Int.add_zero] at e2
    rw [show -1 * r 9 + r 8 = r 8 - r 9 by omega] at e7
    rw [e6, e7] at e5
    obtain ⟨q0, q1⟩ := e5 (ye_ss (r 6) (r 7))
    rw [e4, show r 9 + r 8 = r 8 + r 9 by omega] at e3
    rw [e3] at e2 e1 e0
    rw [show r 9 + r 8 = r 8 + r 9 by omega] at e0
    refine ⟨?_, ?_, ?_, ?_, ?_, ?_, ?_⟩
    · unfold ye_wd
      rw [if_pos rfl]
      exact q0
    · unfold ye_wd
      rw [if_neg (by decide), if_pos rfl]
      exact q1
    · unfold ye_wd
      rw [if_neg (by decide), if_neg (by decide), if_pos rfl]
      exact e2
    · unfold ye_wd
      rw [if_neg (by decide), if_neg (by decide), if_neg (by decide), if_pos rfl]
      exact e1
    · unfold ye_wd
      rw [if_neg (by decide), if_neg (by decide), if_neg (by decide), if_neg (by decide), if_pos rfl]
      exact e0
    · rfl
    · omega
theorem xw_86_0_19 : yt_hold xT_86 xk_86 xq_86.2.2.1 xG_86 xP_86 xU_86 14 xk_86.2.1.2.2.2 (fun g0 r g => xR_86 r g0 ∧ g = g0) (0, ([(0, 1), ((-9223372036854775808), 9223372036854775807), ((-9223372036854775808), 9223372036854775807), ((-9223372036854775808), 9223372036854775807), (0, 40), ((-2147483648), 2147483647), ((-600), 600), ((-600), 600), ((-999999), 1000000), ((-999999), 1000000), ((-9223372036854775808), 9223372036854775807), ((-9223372036854775808), 9223372036854775807), (0, 40), ((-2147483648), 2147483647), (0, 4000000000000), (0, 720000), ((-9223372036854775808), 9223372036854775807), ((-9223372036854775808), 9223372036854775807), (1, 4611686018427387904), (1, 2000000), ((-1200), 0), (0, 0), (1, 2000000)], [([(22, (-1)), (8, 1), (9, 1)], 0), ([(19, (-1)), (8, 1), (9, 1)], 0), ([(19, 1), (7, (-2))], (-1)), ([(7, 2)], 0), ([(6, (-2)), (20, 1)], 0), ([(6, (-2))], (-1))]), [([], 0), ([(20, 1)], 0), ([], 0), ([(22, 1)], 0), ([], 0), ([(16, 1)], 0), ([(17, 1)], 0)], [], [.inr (.inr (.inl (998, 1, [([(9, 1), (8, 1)], 0), ([(19, 1)], 0), ([(22, 1)], 0)], [], []))), .inr (.inr (.inl (998, 1, [([(7, 2)], 0), ([(19, 1)], 0), ([], 0)], [], []))), .inr (.inr (.inl (998, 1, [([(6, 2)], 0), ([(19, 1)], 0), ([(20, 1)], 0)], [], []))), .inr (.inr (.inl (312, 0, [([(18, 1)], 0), ([(9, 1), (8, 1)], 0), ([(19, 1)], 0)], [], []))), .inr (.inr (.inl (312, 0, [([(6, 2)], 0), ([(7, 2)], 0), ([(18, 1)], 0)], [], []))), .inr (.inr (.inl (313, 0, [([(14, 1)], 0), ([(15, 1)], 0), ([(10, 1)], 0), ([(11, 1)], 0), ([(16, 1)], 0), ([(17, 1)], 0)], [1], []))), .inr (.inr (.inl (300, 0, [([(6, 1)], 0), ([(7, 1)], 0), ([(15, 1)], 0)], [], []))), .inl (.inr (14, ([(9, (-1)), (8, 1)], 0), ([(9, (-1)), (8, 1)], 0)))]) := by
  intro g0 r gi g hok hh hars hfr hG
  have b0 : 0 ≤ r 0 ∧ r 0 ≤ 1 := hok.1 0 (0, 1) rfl
  have b6 : (-600) ≤ r 6 ∧ r 6 ≤ 600 := hok.1 6 ((-600), 600) rfl
  have b7 : (-600) ≤ r 7 ∧ r 7 ≤ 600 := hok.1 7 ((-600), 600) rfl
  have b8 : (-999999) ≤ r 8 ∧ r 8 ≤ 1000000 := hok.1 8 ((-999999), 1000000) rfl
  have b9 : (-999999) ≤ r 9 ∧ r 9 ≤ 1000000 := hok.1 9 ((-999999), 1000000) rfl
  have b12 : 0 ≤ r 12 ∧ r 12 ≤ 40 := hok.1 12 (0, 40) rfl
  have b14 : 0 ≤ r 14 ∧ r 14 ≤ 4000000000000 := hok.1 14 (0, 4000000000000) rfl
  have b15 : 0 ≤ r 15 ∧ r 15 ≤ 720000 := hok.1 15 (0, 720000) rfl
  have b16 : (-9223372036854775808) ≤ r 16 ∧ r 16 ≤ 9223372036854775807 := hok.1 16 ((-9223372036854775808), 9223372036854775807) rfl
  have b17 : (-9223372036854775808) ≤ r 17 ∧ r 17 ≤ 9223372036854775807 := hok.1 17 ((-9223372036854775808), 9223372036854775807) rfl
  have b18 : 1 ≤ r 18 ∧ r 18 ≤ 4611686018427387904 := hok.1 18 (1, 4611686018427387904) rfl
  have b19 : 1 ≤ r 19 ∧ r 19 ≤ 2000000 := hok.1 19 (1, 2000000) rfl
  have b20 : (-1200) ≤ r 20 ∧ r 20 ≤ 0 := hok.1 20 ((-1200), 0) rfl
  have b21 : 0 ≤ r 21 ∧ r 21 ≤ 0 := hok.1 21 (0, 0) rfl
  have b22 : 1 ≤ r 22 ∧ r 22 ≤ 2000000 := hok.1 22 (1, 2000000) rfl
  have f0 : 0 ≤ (((-1) * r 22 + (1 * r 8 + (1 * r 9 + 0))) + 0) := hok.2 _ (List.mem_of_getElem? (i := 0) rfl)
  have f1 : 0 ≤ (((-1) * r 19 + (1 * r 8 + (1 * r 9 + 0))) + 0) := hok.2 _ (List.mem_of_getElem? (i := 1) rfl)
  have f2 : 0 ≤ ((1 * r 19 + ((-2) * r 7 + 0)) + (-1)) := hok.2 _ (List.mem_of_getElem? (i := 2) rfl)
  have f3 : 0 ≤ ((2 * r 7 + 0) + 0) := hok.2 _ (List.mem_of_getElem? (i := 3) rfl)
  have f4 : 0 ≤ (((-2) * r 6 + (1 * r 20 + 0)) + 0) := hok.2 _ (List.mem_of_getElem? (i := 4) rfl)
  have f5 : 0 ≤ (((-2) * r 6 + 0) + (-1)) := hok.2 _ (List.mem_of_getElem? (i := 5) rfl)
  obtain ⟨hG, hgi⟩ := hG
  have hG : True := hG
  obtain ⟨h0, hh, e0, k0⟩ := hh
  have k0 : ∀ j, j ∉ [] → g j = h0 j := k0
  have e0 : ((1 * r 22 + 0) + 0) = (((1 * r 9 + (1 * r 8 + 0)) + 0)).tdiv (((1 * r 19 + 0) + 0)) := e0
  obtain ⟨h1, hh, e1, k1⟩ := hh
  have k1 : ∀ j, j ∉ [] → h0 j = h1 j := k1
  have e1 : ((0 : Int) + 0) = (((2 * r 7 + 0) + 0)).tdiv (((1 * r 19 + 0) + 0)) := e1
  obtain ⟨h2, hh, e2, k2⟩ := hh
  have k2 : ∀ j, j ∉ [] → h1 j = h2 j := k2
  have e2 : ((1 * r 20 + 0) + 0) = (((2 * r 6 + 0) + 0)).tdiv (((1 * r 19 + 0) + 0)) := e2
  obtain ⟨h3, hh, e3, k3⟩ := hh
  have k3 : ∀ j, j ∉ [] → h2 j = h3 j := k3
  have e3 : ((1 * r 19 + 0) + 0) = ye_q ((1 * r 18 + 0) + 0) ((1 * r 9 + (1 * r 8 + 0)) + 0) := e3
  obtain ⟨h4, hh, e4, k4⟩ := hh
  have k4 : ∀ j, j ∉ [] → h3 j = h4 j := k4
  have e4 : ((1 * r 18 + 0) + 0) = ye_q ((2 * r 6 + 0) + 0) ((2 * r 7 + 0) + 0) := e4
  obtain ⟨h5, hh, e5, k5⟩ := hh
  have k5 : ∀ j, j ∉ [] → h4 j = h5 j := k5
  have e5 : 0 ≤ ((1 * r 15 + 0) + 0) → ((1 * ((1 * r 16 + 0) + 0) + 0) + 0) = (((1 * r 14 + 0) + 0)).tdiv (ye_q ((1 * r 14 + 0) + 0) ((1 * r 15 + 0) + 0)) ∧ ((1 * ((1 * r 17 + 0) + 0) + 0) + 0) = (((1 * r 15 + 0) + 0)).tdiv (ye_q ((1 * r 14 + 0) + 0) ((1 * r 15 + 0) + 0)) := e5
  obtain ⟨h6, hh, e6, k6⟩ := hh
  have k6 : ∀ j, j ∉ [] → h5 j = h6 j := k6
  have e6 : ((1 * r 15 + 0) + 0) = ((1 * r 6 + 0) + 0) * ((1 * r 6 + 0) + 0) + ((1 * r 7 + 0) + 0) * ((1 * r 7 + 0) + 0) := e6
  obtain ⟨g7, hh, q7, e7⟩ := hh
  subst q7
  have e7 : r 14 = (((-1) * r 9 + (1 * r 8 + 0)) + 0) * (((-1) * r 9 + (1 * r 8 + 0)) + 0) := e7
  try simp only [Int.one_mul, Int.zero_add, Int.add_zero] at e7
  have hh : h6 = gi := hh
  subst hh
  refine yt_dcut (by decide) rfl ?_ ?_
  · rw [show xk_86.2.1.2.1.1.length = 14 from rfl]
    refine yx_fks _ _ ?_
    refine ⟨?_, ?_, trivial⟩
    · show 0 ≤ ((1 * ((0 : Int) + 0) + 0) + 0)
      omega
    · show 0 ≤ (((-1) * ((0 : Int) + 0) + (1 * ((0 : Int) + 0) + 0)) + 0)
      omega
  · rw [show xk_86.2.1.2.1.1.length = 14 from rfl]
    show ((1 * ((1 * r 16 + 0) + 0) + 0) + 0) = ye_wd (g0 3) (g0 4) (((1 * ((1 * r 12 + 0) + 0) + 0) + 0)).toNat ((1 * ((1 * r 6 + 0) + 0) + 0) + 0) ((1 * ((1 * r 7 + 0) + 0) + 0) + 0) ((1 * ((1 * r 8 + 0) + 0) + 0) + 0) ((1 * ((1 * r 9 + 0) + 0) + 0) + 0) 0 ∧ ((1 * ((1 * r 17 + 0) + 0) + 0) + 0) = ye_wd (g0 3) (g0 4) (((1 * ((1 * r 12 + 0) + 0) + 0) + 0)).toNat ((1 * ((1 * r 6 + 0) + 0) + 0) + 0) ((1 * ((1 * r 7 + 0) + 0) + 0) + 0) ((1 * ((1 * r 8 + 0) + 0) + 0) + 0) ((1 * ((1 * r 9 + 0) + 0) + 0) + 0) 1 ∧ ((1 * ((1 * r 20 + 0) + 0) + 0) + 0) = ye_wd (g0 3) (g0 4) (((1 * ((1 * r 12 + 0) + 0) + 0) + 0)).toNat ((1 * ((1 * r 6 + 0) + 0) + 0) + 0) ((1 * ((1 * r 7 + 0) + 0) + 0) + 0) ((1 * ((1 * r 8 + 0) + 0) + 0) + 0) ((1 * ((1 * r 9 + 0) + 0) + 0) + 0) 2 ∧ ((1 * ((0 : Int) + 0) + 0) + 0) = ye_wd (g0 3) (g0 4) (((1 * ((1 * r 12 + 0) + 0) + 0) + 0)).toNat ((1 * ((1 * r 6 + 0) + 0) + 0) + 0) ((1 * ((1 * r 7 + 0) + 0) + 0) + 0) ((1 * ((1 * r 8 + 0) + 0) + 0) + 0) ((1 * ((1 * r 9 + 0) + 0) + 0) + 0) 3 ∧ ((1 * ((1 * r 22 + 0) + 0) + 0) + 0) = ye_wd (g0 3) (g0 4) (((1 * ((1 * r 12 + 0) + 0) + 0) + 0)).toNat ((1 * ((1 * r 6 + 0) + 0) + 0) + 0) ((1 * ((1 * r 7 + 0) + 0) + 0) + 0) ((1 * ((1 * r 8 + 0) + 0) + 0) + 0) ((1 * ((1 * r 9 + 0) + 0) + 0) + 0) 4 ∧ ((1 * ((0 : Int) + 0) + 0) + 0) = ye_sc (g0 3) (g0 4) ((1 * ((1 * r 6 + 0) + 0) + 0) + 0) ((1 * ((1 * r 7 + 0) + 0) + 0) + 0) ((1 * ((1 * r 8 + 0) + 0) + 0) + 0) ((1 * ((1 * r 9 + 0) + 0) + 0) + 0) (((1 * ((0 : Int) + 0) + 0) + 0)).toNat ∧ ((1 * ((0 : Int) + 0) + 0) + 0) ≤ ((1 * ((1 * r 12 + 0) + 0) + 0) + 0)
    try simp only [Int.one_mul, Int.zero_add, Int.add_zero]
    try simp only [Int.one_mul, Int.zero_add, Int.add_zero] at e5
    try simp only [Int.one_mul, Int.zero_add, Int.add_zero] at e6
    try simp only [Int.one_mul, Int.zero_add, Int.add_zero] at e7
    try simp only [Int.one_mul, Int.zero_add, Int.add_zero] at e3
    try simp only [Int.one_mul, Int.zero_add, Int.add_zero] at e4
    try simp only [Int.one_mul, Int.zero_add, Int.add_zero] at e0
    try simp only [Int.one_mul, Int.zero_add, Int.add_zero] at e1
    try simp only [Int.one_mul, Int.zero_add, Int.add_zero] at e2
    rw [show -1 * r 9 + r 8 = r 8 - r 9 by omega] at e7
    rw [e6, e7] at e5
    obtain ⟨q0, q1⟩ := e5 (ye_ss (r 6) (r 7))
    rw [e4, show r 9 + r 8 = r 8 + r 9 by omega] at e3
    rw [e3] at e2 e1 e0
    rw [show r 9 + r 8 = r 8 + r 9 by omega] at e0
    refine ⟨?_, ?_, ?_, ?_, ?_, ?_, ?_⟩
    · unfold ye_wd
      rw [if_pos rfl]
      exact q0
    · unfold ye_wd
      rw [if_neg (by decide), if_pos rfl]
      exact q1
    · unfold ye_wd
      rw [if_neg (by decide), if_neg (by decide), if_pos rfl]
      exact e2
    · unfold ye_wd
      rw [if_neg (by decide), if_neg (by decide), if_neg (by decide), if_pos rfl]
      exact e1
    · unfold ye_wd
      rw [if_neg (by decide), if_neg (by decide), if_neg (by decide), if_neg (by decide), if_pos rfl]
      exact e0
    · rfl
    · omega
theorem xw_86_0_20 : yt_hold xT_86 xk_86 xq_86.2.2.1 xG_86 xP_86 xU_86 14 xk_86.2.1.2.2.2 (fun g0 r g => xR_86 r g0 ∧ g = g0) (0, ([(0, 1), ((-9223372036854775808), 9223372036854775807), ((-9223372036854775808), 9223372036854775807), ((-9223372036854775808), 9223372036854775807), (0, 40), ((-2147483648), 2147483647), ((-600), 600), ((-600), 600), ((-1000000), 999999), ((-1000000), 999999), ((-9223372036854775808), 9223372036854775807), ((-9223372036854775808), 9223372036854775807), (0, 40), ((-2147483648), 2147483647), (0, 4000000000000), (0, 720000), ((-9223372036854775808), 9223372036854775807), ((-9223372036854775808), 9223372036854775807), (1, 4611686018427387904), (1, 4611686018427387904), ((-1200), 0), (0, 0), ((-2000000), 0)], [([(9, (-1)), (8, (-1)), (22, 1)], 0), ([(8, (-1)), (9, (-1))], (-1)), ([(19, 1), (7, (-2))], (-1)), ([(7, 2)], 0), ([(6, (-2)), (20, 1)], 0), ([(6, (-2))], (-1))]), [([], 0), ([(20, 1)], 0), ([], 0), ([(22, 1)], 0), ([], 0), ([(16, 1)], 0), ([(17, 1)], 0)], [], [.inr (.inr (.inl (998, 1, [([(9, 1), (8, 1)], 0), ([(19, 1)], 0), ([(22, 1)], 0)], [], []))), .inr (.inr (.inl (998, 1, [([(7, 2)], 0), ([(19, 1)], 0), ([], 0)], [], []))), .inr (.inr (.inl (998, 1, [([(6, 2)], 0), ([(19, 1)], 0), ([(20, 1)], 0)], [], []))), .inr (.inr (.inl (312, 0, [([(18, 1)], 0), ([(9, 1), (8, 1)], 0), ([(19, 1)], 0)], [], []))), .inr (.inr (.inl (312, 0, [([(6, 2)], 0), ([(7, 2)], 0), ([(18, 1)], 0)], [], []))), .inr (.inr (.inl (313, 0, [([(14, 1)], 0), ([(15, 1)], 0), ([(10, 1)], 0), ([(11, 1)], 0), ([(16, 1)], 0), ([(17, 1)], 0)], [1], []))), .inr (.inr (.inl (300, 0, [([(6, 1)], 0), ([(7, 1)], 0), ([(15, 1)], 0)], [], []))), .inl (.inr (14, ([(9, (-1)), (8, 1)], 0), ([(9, (-1)), (8, 1)], 0)))]) := by
  intro g0 r gi g hok hh hars hfr hG
  have b0 : 0 ≤ r 0 ∧ r 0 ≤ 1 := hok.1 0 (0, 1) rfl
  have b6 : (-600) ≤ r 6 ∧ r 6 ≤ 600 := hok.1 6 ((-600), 600) rfl
  have b7 : (-600) ≤ r 7 ∧ r 7 ≤ 600 := hok.1 7 ((-600), 600) rfl
  have b8 : (-1000000) ≤ r 8 ∧ r 8 ≤ 999999 := hok.1 8 ((-1000000), 999999) rfl
  have b9 : (-1000000) ≤ r 9 ∧ r 9 ≤ 999999 := hok.1 9 ((-1000000), 999999) rfl
  have b12 : 0 ≤ r 12 ∧ r 12 ≤ 40 := hok.1 12 (0, 40) rfl
  have b14 : 0 ≤ r 14 ∧ r 14 ≤ 4000000000000 := hok.1 14 (0, 4000000000000) rfl
  have b15 : 0 ≤ r 15 ∧ r 15 ≤ 720000 := hok.1 15 (0, 720000) rfl
  have b16 : (-9223372036854775808) ≤ r 16 ∧ r 16 ≤ 9223372036854775807 := hok.1 16 ((-9223372036854775808), 9223372036854775807) rfl
  have b17 : (-9223372036854775808) ≤ r 17 ∧ r 17 ≤ 9223372036854775807 := hok.1 17 ((-9223372036854775808), 9223372036854775807) rfl
  have b18 : 1 ≤ r 18 ∧ r 18 ≤ 4611686018427387904 := hok.1 18 (1, 4611686018427387904) rfl
  have b19 : 1 ≤ r 19 ∧ r 19 ≤ 4611686018427387904 := hok.1 19 (1, 4611686018427387904) rfl
  have b20 : (-1200) ≤ r 20 ∧ r 20 ≤ 0 := hok.1 20 ((-1200), 0) rfl
  have b21 : 0 ≤ r 21 ∧ r 21 ≤ 0 := hok.1 21 (0, 0) rfl
  have b22 : (-2000000) ≤ r 22 ∧ r 22 ≤ 0 := hok.1 22 ((-2000000), 0) rfl
  have f0 : 0 ≤ (((-1) * r 9 + ((-1) * r 8 + (1 * r 22 + 0))) + 0) := hok.2 _ (List.mem_of_getElem? (i := 0) rfl)
  have f1 : 0 ≤ (((-1) * r 8 + ((-1) * r 9 + 0)) + (-1)) := hok.2 _ (List.mem_of_getElem? (i := 1) rfl)
  have f2 : 0 ≤ ((1 * r 19 + ((-2) * r 7 + 0)) + (-1)) := hok.2 _ (List.mem_of_getElem? (i := 2) rfl)
  have f3 : 0 ≤ ((2 * r 7 + 0) + 0) := hok.2 _ (List.mem_of_getElem? (i := 3) rfl)
  have f4 : 0 ≤ (((-2) * r 6 + (1 * r 20 + 0)) + 0) := hok.2 _ (List.mem_of_getElem? (i := 4) rfl)
  have f5 : 0 ≤ (((-2) * r 6 + 0) + (-1)) := hok.2 _ (List.mem_of_getElem? (i := 5) rfl)
  obtain ⟨hG, hgi⟩ := hG
  have hG : True := hG
  obtain ⟨h0, hh, e0, k0⟩ := hh
  have k0 : ∀ j, j ∉ [] → g j = h0 j := k0
  have e0 : ((1 * r 22 + 0) + 0) = (((1 * r 9 + (1 * r 8 + 0)) + 0)).tdiv (((1 * r 19 + 0) + 0)) := e0
  obtain ⟨h1, hh, e1, k1⟩ := hh
  have k1 : ∀ j, j ∉ [] → h0 j = h1 j := k1
  have e1 : ((0 : Int) + 0) = (((2 * r 7 + 0) + 0)).tdiv (((1 * r 19 + 0) + 0)) := e1
  obtain ⟨h2, hh, e2, k2⟩ := hh
  have k2 : ∀ j, j ∉ [] → h1 j = h2 j := k2
  have e2 : ((1 * r 20 + 0) + 0) = (((2 * r 6 + 0) + 0)).tdiv (((1 * r 19 + 0) + 0)) := e2
  obtain ⟨h3, hh, e3, k3⟩ := hh
  have k3 : ∀ j, j ∉ [] → h2 j = h3 j := k3
  have e3 : ((1 * r 19 + 0) + 0) = ye_q ((1 * r 18 + 0) + 0) ((1 * r 9 + (1 * r 8 + 0)) + 0) := e3
  obtain ⟨h4, hh, e4, k4⟩ := hh
  have k4 : ∀ j, j ∉ [] → h3 j = h4 j := k4
  have e4 : ((1 * r 18 + 0) + 0) = ye_q ((2 * r 6 + 0) + 0) ((2 * r 7 + 0) + 0) := e4
  obtain ⟨h5, hh, e5, k5⟩ := hh
  have k5 : ∀ j, j ∉ [] → h4 j = h5 j := k5
  have e5 : 0 ≤ ((1 * r 15 + 0) + 0) → ((1 * ((1 * r 16 + 0) + 0) + 0) + 0) = (((1 * r 14 + 0) + 0)).tdiv (ye_q ((1 * r 14 + 0) + 0) ((1 * r 15 + 0) + 0)) ∧ ((1 * ((1 * r 17 + 0) + 0) + 0) + 0) = (((1 * r 15 + 0) + 0)).tdiv (ye_q ((1 * r 14 + 0) + 0) ((1 * r 15 + 0) + 0)) := e5
  obtain ⟨h6, hh, e6, k6⟩ := hh
  have k6 : ∀ j, j ∉ [] → h5 j = h6 j := k6
  have e6 : ((1 * r 15 + 0) + 0) = ((1 * r 6 + 0) + 0) * ((1 * r 6 + 0) + 0) + ((1 * r 7 + 0) + 0) * ((1 * r 7 + 0) + 0) := e6
  obtain ⟨g7, hh, q7, e7⟩ := hh
  subst q7
  have e7 : r 14 = (((-1) * r 9 + (1 * r 8 + 0)) + 0) * (((-1) * r 9 + (1 * r 8 + 0)) + 0) := e7
  try simp only [Int.one_mul, Int.zero_add, Int.add_zero] at e7
  have hh : h6 = gi := hh
  subst hh
  refine yt_dcut (by decide) rfl ?_ ?_
  · rw [show xk_86.2.1.2.1.1.length = 14 from rfl]
    refine yx_fks _ _ ?_
    refine ⟨?_, ?_, trivial⟩
    · show 0 ≤ ((1 * ((0 : Int) + 0) + 0) + 0)
      omega
    · show 0 ≤ (((-1) * ((0 : Int) + 0) + (1 * ((0 : Int) + 0) + 0)) + 0)
      omega
  · rw [show xk_86.2.1.2.1.1.length = 14 from rfl]
    show ((1 * ((1 * r 16 + 0) + 0) + 0) + 0) = ye_wd (g0 3) (g0 4) (((1 * ((1 * r 12 + 0) + 0) + 0) + 0)).toNat ((1 * ((1 * r 6 + 0) + 0) + 0) + 0) ((1 * ((1 * r 7 + 0) + 0) + 0) + 0) ((1 * ((1 * r 8 + 0) + 0) + 0) + 0) ((1 * ((1 * r 9 + 0) + 0) + 0) + 0) 0 ∧ ((1 * ((1 * r 17 + 0) + 0) + 0) + 0) = ye_wd (g0 3) (g0 4) (((1 * ((1 * r 12 + 0) + 0) + 0) + 0)).toNat ((1 * ((1 * r 6 + 0) + 0) + 0) + 0) ((1 * ((1 * r 7 + 0) + 0) + 0) + 0) ((1 * ((1 * r 8 + 0) + 0) + 0) + 0) ((1 * ((1 * r 9 + 0) + 0) + 0) + 0) 1 ∧ ((1 * ((1 * r 20 + 0) + 0) + 0) + 0) = ye_wd (g0 3) (g0 4) (((1 * ((1 * r 12 + 0) + 0) + 0) + 0)).toNat ((1 * ((1 * r 6 + 0) + 0) + 0) + 0) ((1 * ((1 * r 7 + 0) + 0) + 0) + 0) ((1 * ((1 * r 8 + 0) + 0) + 0) + 0) ((1 * ((1 * r 9 + 0) + 0) + 0) + 0) 2 ∧ ((1 * ((0 : Int) + 0) + 0) + 0) = ye_wd (g0 3) (g0 4) (((1 * ((1 * r 12 + 0) + 0) + 0) + 0)).toNat ((1 * ((1 * r 6 + 0) + 0) + 0) + 0) ((1 * ((1 * r 7 + 0) + 0) + 0) + 0) ((1 * ((1 * r 8 + 0) + 0) + 0) + 0) ((1 * ((1 * r 9 + 0) + 0) + 0) + 0) 3 ∧ ((1 * ((1 * r 22 + 0) + 0) + 0) + 0) = ye_wd (g0 3) (g0 4) (((1 * ((1 * r 12 + 0) + 0) + 0) + 0)).toNat ((1 * ((1 * r 6 + 0) + 0) + 0) + 0) ((1 * ((1 * r 7 + 0) + 0) + 0) + 0) ((1 * ((1 * r 8 + 0) + 0) + 0) + 0) ((1 * ((1 * r 9 + 0) + 0) + 0) + 0) 4 ∧ ((1 * ((0 : Int) + 0) + 0) + 0) = ye_sc (g0 3) (g0 4) ((1 * ((1 * r 6 + 0) + 0) + 0) + 0) ((1 * ((1 * r 7 + 0) + 0) + 0) + 0) ((1 * ((1 * r 8 + 0) + 0) + 0) + 0) ((1 * ((1 * r 9 + 0) + 0) + 0) + 0) (((1 * ((0 : Int) + 0) + 0) + 0)).toNat ∧ ((1 * ((0 : Int) + 0) + 0) + 0) ≤ ((1 * ((1 * r 12 + 0) + 0) + 0) + 0)
    try simp only [Int.one_mul, Int.zero_add, Int.add_zero]
    try simp only [Int.one_mul, Int.zero_add, Int.add_zero] at e5
    try simp only [Int.one_mul, Int.zero_add, Int.add_zero] at e6
    try simp only [Int.one_mul, Int.zero_add, Int.add_zero] at e7
    try simp only [Int.one_mul, Int.zero_add, Int.add_zero] at e3
    try simp only [Int.one_mul, Int.zero_add, Int.add_zero] at e4
    try simp only [Int.one_mul, Int.zero_add, Int.add_zero] at e0
    try simp only [Int.one_mul, Int.zero_add, Int.add_zero] at e1
    try simp only [Int.one_mul, Int.zero_add, Int.add_zero] at e2
    rw [show -1 * r 9 + r 8 = r 8 - r 9 by omega] at e7
    rw [e6, e7] at e5
    obtain ⟨q0, q1⟩ := e5 (ye_ss (r 6) (r 7))
    rw [e4, show r 9 + r 8 = r 8 + r 9 by omega] at e3
    rw [e3] at e2 e1 e0
    rw [show r 9 + r 8 = r 8 + r 9 by omega] at e0
    refine ⟨?_, ?_, ?_, ?_, ?_, ?_, ?_⟩
    · unfold ye_wd
      rw [if_pos rfl]
      exact q0
    · unfold ye_wd
      rw [if_neg (by decide), if_pos rfl]
      exact q1
    · unfold ye_wd
      rw [if_neg (by decide), if_neg (by decide), if_pos rfl]
      exact e2
    · unfold ye_wd
      rw [if_neg (by decide), if_neg (by decide), if_neg (by decide), if_pos rfl]
      exact e1
    · unfold ye_wd
      rw [if_neg (by decide), if_neg (by decide), if_neg (by decide), if_neg (by decide), if_pos rfl]
      exact e0
    · rfl
    · omega
theorem xw_86_0_21 : yt_hold xT_86 xk_86 xq_86.2.2.1 xG_86 xP_86 xU_86 14 xk_86.2.1.2.2.2 (fun g0 r g => xR_86 r g0 ∧ g = g0) (0, ([(0, 1), ((-9223372036854775808), 9223372036854775807), ((-9223372036854775808), 9223372036854775807), ((-9223372036854775808), 9223372036854775807), (0, 40), ((-2147483648), 2147483647), ((-600), 600), ((-600), 600), ((-1000000), 1000000), ((-1000000), 1000000), ((-9223372036854775808), 9223372036854775807), ((-9223372036854775808), 9223372036854775807), (0, 40), ((-2147483648), 2147483647), (0, 4000000000000), (0, 720000), ((-9223372036854775808), 9223372036854775807), ((-9223372036854775808), 9223372036854775807), (1, 4611686018427387904), (1, 1200), ((-1200), 0), (1, 1200), (0, 0)], [([(19, 1), (8, (-1)), (9, (-1))], (-1)), ([(9, 1), (8, 1)], 0), ([(21, (-1)), (7, 2)], 0), ([(19, (-1)), (7, 2)], 0), ([(6, (-2)), (20, 1)], 0), ([(6, (-2))], (-1))]), [([], 0), ([(20, 1)], 0), ([(21, 1)], 0), ([], 0), ([], 0), ([(16, 1)], 0), ([(17, 1)], 0)], [], [.inr (.inr (.inl (998, 1, [([(9, 1), (8, 1)], 0), ([(19, 1)], 0), ([], 0)], [], []))), .inr (.inr (.inl (998, 1, [([(7, 2)], 0), ([(19, 1)], 0), ([(21, 1)], 0)], [], []))), .inr (.inr (.inl (998, 1, [([(6, 2)], 0), ([(19, 1)], 0), ([(20, 1)], 0)], [], []))), .inr (.inr (.inl (312, 0, [([(18, 1)], 0), ([(9, 1), (8, 1)], 0), ([(19, 1)], 0)], [], []))), .inr (.inr (.inl (312, 0, [([(6, 2)], 0), ([(7, 2)], 0), ([(18, 1)], 0)], [], []))), .inr (.inr (.inl (313, 0, [([(14, 1)], 0), ([(15, 1)], 0), ([(10, 1)], 0), ([(11, 1)], 0), ([(16, 1)], 0), ([(17, 1)], 0)], [1], []))), .inr (.inr (.inl (300, 0, [([(6, 1)], 0), ([(7, 1)], 0), ([(15, 1)], 0)], [], []))), .inl (.inr (14, ([(9, (-1)), (8, 1)], 0), ([(9, (-1)), (8, 1)], 0)))]) := by
  intro g0 r gi g hok hh hars hfr hG
  have b0 : 0 ≤ r 0 ∧ r 0 ≤ 1 := hok.1 0 (0, 1) rfl
  have b6 : (-600) ≤ r 6 ∧ r 6 ≤ 600 := hok.1 6 ((-600), 600) rfl
  have b7 : (-600) ≤ r 7 ∧ r 7 ≤ 600 := hok.1 7 ((-600), 600) rfl
  have b8 : (-1000000) ≤ r 8 ∧ r 8 ≤ 1000000 := hok.1 8 ((-1000000), 1000000) rfl
  have b9 : (-1000000) ≤ r 9 ∧ r 9 ≤ 1000000 := hok.1 9 ((-1000000), 1000000) rfl
  have b12 : 0 ≤ r 12 ∧ r 12 ≤ 40 := hok.1 12 (0, 40) rfl
  have b14 : 0 ≤ r 14 ∧ r 14 ≤ 4000000000000 := hok.1 14 (0, 4000000000000) rfl
  have b15 : 0 ≤ r 15 ∧ r 15 ≤ 720000 := hok.1 15 (0, 720000) rfl
  have b16 : (-9223372036854775808) ≤ r 16 ∧ r 16 ≤ 9223372036854775807 := hok.1 16 ((-9223372036854775808), 9223372036854775807) rfl
  have b17 : (-9223372036854775808) ≤ r 17 ∧ r 17 ≤ 9223372036854775807 := hok.1 17 ((-9223372036854775808), 9223372036854775807) rfl
  have b18 : 1 ≤ r 18 ∧ r 18 ≤ 4611686018427387904 := hok.1 18 (1, 4611686018427387904) rfl
  have b19 : 1 ≤ r 19 ∧ r 19 ≤ 1200 := hok.1 19 (1, 1200) rfl
  have b20 : (-1200) ≤ r 20 ∧ r 20 ≤ 0 := hok.1 20 ((-1200), 0) rfl
  have b21 : 1 ≤ r 21 ∧ r 21 ≤ 1200 := hok.1 21 (1, 1200) rfl
  have b22 : 0 ≤ r 22 ∧ r 22 ≤ 0 := hok.1 22 (0, 0) rfl
  have f0 : 0 ≤ ((1 * r 19 + ((-1) * r 8 + ((-1) * r 9 + 0))) + (-1)) := hok.2 _ (List.mem_of_getElem? (i := 0) rfl)
  have f1 : 0 ≤ ((1 * r 9 + (1 * r 8 + 0)) + 0) := hok.2 _ (List.mem_of_getElem? (i := 1) rfl)
  have f2 : 0 ≤ (((-1) * r 21 + (2 * r 7 + 0)) + 0) := hok.2 _ (List.mem_of_getElem? (i := 2) rfl)
  have f3 : 0 ≤ (((-1) * r 19 + (2 * r 7 + 0)) + 0) := hok.2 _ (List.mem_of_getElem? (i := 3) rfl)
  have f4 : 0 ≤ (((-2) * r 6 + (1 * r 20 + 0)) + 0) := hok.2 _ (List.mem_of_getElem? (i := 4) rfl)
  have f5 : 0 ≤ (((-2) * r 6 + 0) + (-1)) := hok.2 _ (List.mem_of_getElem? (i := 5) rfl)
  obtain ⟨hG, hgi⟩ := hG
  have hG : True := hG
  obtain ⟨h0, hh, e0, k0⟩ := hh
  have k0 : ∀ j, j ∉ [] → g j = h0 j := k0
  have e0 : ((0 : Int) + 0) = (((1 * r 9 + (1 * r 8 + 0)) + 0)).tdiv (((1 * r 19 + 0) + 0)) := e0
  obtain ⟨h1, hh, e1, k1⟩ := hh
  have k1 : ∀ j, j ∉ [] → h0 j = h1 j := k1
  have e1 : ((1 * r 21 + 0) + 0) = (((2 * r 7 + 0) + 0)).tdiv (((1 * r 19 + 0) + 0)) := e1
  obtain ⟨h2, hh, e2, k2⟩ := hh
  have k2 : ∀ j, j ∉ [] → h1 j = h2 j := k2
  have e2 : ((1 * r 20 + 0) + 0) = (((2 * r 6 + 0) + 0)).tdiv (((1 * r 19 + 0) + 0)) := e2
  obtain ⟨h3, hh, e3, k3⟩ := hh
  have k3 : ∀ j, j ∉ [] → h2 j = h3 j := k3
  have e3 : ((1 * r 19 + 0) + 0) = ye_q ((1 * r 18 + 0) + 0) ((1 * r 9 + (1 * r 8 + 0)) + 0) := e3
  obtain ⟨h4, hh, e4, k4⟩ := hh
  have k4 : ∀ j, j ∉ [] → h3 j = h4 j := k4
  have e4 : ((1 * r 18 + 0) + 0) = ye_q ((2 * r 6 + 0) + 0) ((2 * r 7 + 0) + 0) := e4
  obtain ⟨h5, hh, e5, k5⟩ := hh
  have k5 : ∀ j, j ∉ [] → h4 j = h5 j := k5
  have e5 : 0 ≤ ((1 * r 15 + 0) + 0) → ((1 * ((1 * r 16 + 0) + 0) + 0) + 0) = (((1 * r 14 + 0) + 0)).tdiv (ye_q ((1 * r 14 + 0) + 0) ((1 * r 15 + 0) + 0)) ∧ ((1 * ((1 * r 17 + 0) + 0) + 0) + 0) = (((1 * r 15 + 0) + 0)).tdiv (ye_q ((1 * r 14 + 0) + 0) ((1 * r 15 + 0) + 0)) := e5
  obtain ⟨h6, hh, e6, k6⟩ := hh
  have k6 : ∀ j, j ∉ [] → h5 j = h6 j := k6
  have e6 : ((1 * r 15 + 0) + 0) = ((1 * r 6 + 0) + 0) * ((1 * r 6 + 0) + 0) + ((1 * r 7 + 0) + 0) * ((1 * r 7 + 0) + 0) := e6
  obtain ⟨g7, hh, q7, e7⟩ := hh
  subst q7
  have e7 : r 14 = (((-1) * r 9 + (1 * r 8 + 0)) + 0) * (((-1) * r 9 + (1 * r 8 + 0)) + 0) := e7
  try simp only [Int.one_mul, Int.zero_add, Int.add_zero] at e7
  have hh : h6 = gi := hh
  subst hh
  refine yt_dcut (by decide) rfl ?_ ?_
  · rw [show xk_86.2.1.2.1.1.length = 14 from rfl]
    refine yx_fks _ _ ?_
    refine ⟨?_, ?_, trivial⟩
    · show 0 ≤ ((1 * ((0 : Int) + 0) + 0) + 0)
      omega
    · show 0 ≤ (((-1) * ((0 : Int) + 0) + (1 * ((0 : Int) + 0) + 0)) + 0)
      omega
  · rw [show xk_86.2.1.2.1.1.length = 14 from rfl]
    show ((1 * ((1 * r 16 + 0) + 0) + 0) + 0) = ye_wd (g0 3) (g0 4) (((1 * ((1 * r 12 + 0) + 0) + 0) + 0)).toNat ((1 * ((1 * r 6 + 0) + 0) + 0) + 0) ((1 * ((1 * r 7 + 0) + 0) + 0) + 0) ((1 * ((1 * r 8 + 0) + 0) + 0) + 0) ((1 * ((1 * r 9 + 0) + 0) + 0) + 0) 0 ∧ ((1 * ((1 * r 17 + 0) + 0) + 0) + 0) = ye_wd (g0 3) (g0 4) (((1 * ((1 * r 12 + 0) + 0) + 0) + 0)).toNat ((1 * ((1 * r 6 + 0) + 0) + 0) + 0) ((1 * ((1 * r 7 + 0) + 0) + 0) + 0) ((1 * ((1 * r 8 + 0) + 0) + 0) + 0) ((1 * ((1 * r 9 + 0) + 0) + 0) + 0) 1 ∧ ((1 * ((1 * r 20 + 0) + 0) + 0) + 0) = ye_wd (g0 3) (g0 4) (((1 * ((1 * r 12 + 0) + 0) + 0) + 0)).toNat ((1 * ((1 * r 6 + 0) + 0) + 0) + 0) ((1 * ((1 * r 7 + 0) + 0) + 0) + 0) ((1 * ((1 * r 8 + 0) + 0) + 0) + 0) ((1 * ((1 * r 9 + 0) + 0) + 0) + 0) 2 ∧ ((1 * ((1 * r 21 + 0) + 0) + 0) + 0) = ye_wd (g0 3) (g0 4) (((1 * ((1 * r 12 + 0) + 0) + 0) + 0)).toNat ((1 * ((1 * r 6 + 0) + 0) + 0) + 0) ((1 * ((1 * r 7 + 0) + 0) + 0) + 0) ((1 * ((1 * r 8 + 0) + 0) + 0) + 0) ((1 * ((1 * r 9 + 0) + 0) + 0) + 0) 3 ∧ ((1 * ((0 : Int) + 0) + 0) + 0) = ye_wd (g0 3) (g0 4) (((1 * ((1 * r 12 + 0) + 0) + 0) + 0)).toNat ((1 * ((1 * r 6 + 0) + 0) + 0) + 0) ((1 * ((1 * r 7 + 0) + 0) + 0) + 0) ((1 * ((1 * r 8 + 0) + 0) + 0) + 0) ((1 * ((1 * r 9 + 0) + 0) + 0) + 0) 4 ∧ ((1 * ((0 : Int) + 0) + 0) + 0) = ye_sc (g0 3) (g0 4) ((1 * ((1 * r 6 + 0) + 0) + 0) + 0) ((1 * ((1 * r 7 + 0) + 0) + 0) + 0) ((1 * ((1 * r 8 + 0) + 0) + 0) + 0) ((1 * ((1 * r 9 + 0) + 0) + 0) + 0) (((1 * ((0 : Int) + 0) + 0) + 0)).toNat ∧ ((1 * ((0 : Int) + 0) + 0) + 0) ≤ ((1 * ((1 * r 12 + 0) + 0) + 0) + 0)
    try simp only [Int.one_mul, Int.zero_add, Int.add_zero]
    try simp only [Int.one_mul, Int.zero_add, Int.add_zero] at e5
    try simp only [Int.one_mul, Int.zero_add, Int.add_zero] at e6
    try simp only [Int.one_mul, Int.zero_add, Int.add_zero] at e7
    try simp only [Int.one_mul, Int.zero_add, Int.add_zero] at e3
    try simp only [Int.one_mul, Int.zero_add, Int.add_zero] at e4
    try simp only [Int.one_mul, Int.zero_add, Int.add_zero] at e0
    try simp only [Int.one_mul, Int.zero_add, Int.add_zero] at e1
    try simp only [Int.one_mul, Int.zero_add, Int.add_zero] at e2
    rw [show -1 * r 9 + r 8 = r 8 - r 9 by omega] at e7
    rw [e6, e7] at e5
    obtain ⟨q0, q1⟩ := e5 (ye_ss (r 6) (r 7))
    rw [e4, show r 9 + r 8 = r 8 + r 9 by omega] at e3
    rw [e3] at e2 e1 e0
    rw [show r 9 + r 8 = r 8 + r 9 by omega] at e0
    refine ⟨?_, ?_, ?_, ?_, ?_, ?_, ?_⟩
    · unfold ye_wd
      rw [if_pos rfl]
      exact q0
    · unfold ye_wd
      rw [if_neg (by decide), if_pos rfl]
      exact q1
    · unfold ye_wd
      rw [if_neg (by decide), if_neg (by decide), if_pos rfl]
      exact e2
    · unfold ye_wd
      rw [if_neg (by decide), if_neg (by decide), if_neg (by decide), if_pos rfl]
      exact e1
    · unfold ye_wd
      rw [if_neg (by decide), if_neg (by decide), if_neg (by decide), if_neg (by decide), if_pos rfl]
      exact e0
    · rfl
    · omega
theorem xw_86_0_22 : yt_hold xT_86 xk_86 xq_86.2.2.1 xG_86 xP_86 xU_86 14 xk_86.2.1.2.2.2 (fun g0 r g => xR_86 r g0 ∧ g = g0) (0, ([(0, 1), ((-9223372036854775808), 9223372036854775807), ((-9223372036854775808), 9223372036854775807), ((-9223372036854775808), 9223372036854775807), (0, 40), ((-2147483648), 2147483647), ((-600), 600), ((-600), 600), ((-999999), 1000000), ((-999999), 1000000), ((-9223372036854775808), 9223372036854775807), ((-9223372036854775808), 9223372036854775807), (0, 40), ((-2147483648), 2147483647), (0, 4000000000000), (0, 720000), ((-9223372036854775808), 9223372036854775807), ((-9223372036854775808), 9223372036854775807), (1, 4611686018427387904), (1, 1200), ((-1200), 0), (1, 1200), (1, 2000000)], [([(22, (-1)), (8, 1), (9, 1)], 0), ([(19, (-1)), (8, 1), (9, 1)], 0), ([(21, (-1)), (7, 2)], 0), ([(19, (-1)), (7, 2)], 0), ([(6, (-2)), (20, 1)], 0), ([(6, (-2))], (-1))]), [([], 0), ([(20, 1)], 0), ([(21, 1)], 0), ([(22, 1)], 0), ([], 0), ([(16, 1)], 0), ([(17, 1)], 0)], [], [.inr (.inr (.inl (998, 1, [([(9, 1), (8, 1)], 0), ([(19, 1)], 0), ([(22, 1)], 0)], [], []))), .inr (.inr (.inl (998, 1, [([(7, 2)], 0), ([(19, 1)], 0), ([(21, 1)], 0)], [], []))), .inr (.inr (.inl (998, 1, [([(6, 2)], 0), ([(19, 1)], 0), ([(20, 1)], 0)], [], []))), .inr (.inr (.inl (312, 0, [([(18, 1)], 0), ([(9, 1), (8, 1)], 0), ([(19, 1)], 0)], [], []))), .inr (.inr (.inl (312, 0, [([(6, 2)], 0), ([(7, 2)], 0), ([(18, 1)], 0)], [], []))), .inr (.inr (.inl (313, 0, [([(14, 1)], 0), ([(15, 1)], 0), ([(10, 1)], 0), ([(11, 1)], 0), ([(16, 1)], 0), ([(17, 1)], 0)], [1], []))), .inr (.inr (.inl (300, 0, [([(6, 1)], 0), ([(7, 1)], 0), ([(15, 1)], 0)], [], []))), .inl (.inr (14, ([(9, (-1)), (8, 1)], 0), ([(9, (-1)), (8, 1)], 0)))]) := by
  intro g0 r gi g hok hh hars hfr hG
  have b0 : 0 ≤ r 0 ∧ r 0 ≤ 1 := hok.1 0 (0, 1) rfl
  have b6 : (-600) ≤ r 6 ∧ r 6 ≤ 600 := hok.1 6 ((-600), 600) rfl
  have b7 : (-600) ≤ r 7 ∧ r 7 ≤ 600 := hok.1 7 ((-600), 600) rfl
  have b8 : (-999999) ≤ r 8 ∧ r 8 ≤ 1000000 := hok.1 8 ((-999999), 1000000) rfl
  have b9 : (-999999) ≤ r 9 ∧ r 9 ≤ 1000000 := hok.1 9 ((-999999), 1000000) rfl
  have b12 : 0 ≤ r 12 ∧ r 12 ≤ 40 := hok.1 12 (0, 40) rfl
  have b14 : 0 ≤ r 14 ∧ r 14 ≤ 4000000000000 := hok.1 14 (0, 4000000000000) rfl
  have b15 : 0 ≤ r 15 ∧ r 15 ≤ 720000 := hok.1 15 (0, 720000) rfl
  have b16 : (-9223372036854775808) ≤ r 16 ∧ r 16 ≤ 9223372036854775807 := hok.1 16 ((-9223372036854775808), 9223372036854775807) rfl
  have b17 : (-9223372036854775808) ≤ r 17 ∧ r 17 ≤ 9223372036854775807 := hok.1 17 ((-9223372036854775808), 9223372036854775807) rfl
  have b18 : 1 ≤ r 18 ∧ r 18 ≤ 4611686018427387904 := hok.1 18 (1, 4611686018427387904) rfl
  have b19 : 1 ≤ r 19 ∧ r 19 ≤ 1200 := hok.1 19 (1, 1200) rfl
  have b20 : (-1200) ≤ r 20 ∧ r 20 ≤ 0 := hok.1 20 ((-1200), 0) rfl
  have b21 : 1 ≤ r 21 ∧ r 21 ≤ 1200 := hok.1 21 (1, 1200) rfl
  have b22 : 1 ≤ r 22 ∧ r 22 ≤ 2000000 := hok.1 22 (1, 2000000) rfl
  have f0 : 0 ≤ (((-1) * r 22 + (1 * r 8 + (1 * r 9 + 0))) + 0) := hok.2 _ (List.mem_of_getElem? (i := 0) rfl)
  have f1 : 0 ≤ (((-1) * r 19 + (1 * r 8 + (1 * r 9 + 0))) + 0) := hok.2 _ (List.mem_of_getElem? (i := 1) rfl)
  have f2 : 0 ≤ (((-1) * r 21 + (2 * r 7 + 0)) + 0) := hok.2 _ (List.mem_of_getElem? (i := 2) rfl)
  have f3 : 0 ≤ (((-1) * r 19 + (2 * r 7 + 0)) + 0) := hok.2 _ (List.mem_of_getElem? (i := 3) rfl)
  have f4 : 0 ≤ (((-2) * r 6 + (1 * r 20 + 0)) + 0) := hok.2 _ (List.mem_of_getElem? (i := 4) rfl)
  have f5 : 0 ≤ (((-2) * r 6 + 0) + (-1)) := hok.2 _ (List.mem_of_getElem? (i := 5) rfl)
  obtain ⟨hG, hgi⟩ := hG
  have hG : True := hG
  obtain ⟨h0, hh, e0, k0⟩ := hh
  have k0 : ∀ j, j ∉ [] → g j = h0 j := k0
  have e0 : ((1 * r 22 + 0) + 0) = (((1 * r 9 + (1 * r 8 + 0)) + 0)).tdiv (((1 * r 19 + 0) + 0)) := e0
  obtain ⟨h1, hh, e1, k1⟩ := hh
  have k1 : ∀ j, j ∉ [] → h0 j = h1 j := k1
  have e1 : ((1 * r 21 + 0) + 0) = (((2 * r 7 + 0) + 0)).tdiv (((1 * r 19 + 0) + 0)) := e1
  obtain ⟨h2, hh, e2, k2⟩ := hh
  have k2 : ∀ j, j ∉ [] → h1 j = h2 j := k2
  have e2 : ((1 * r 20 + 0) + 0) = (((2 * r 6 + 0) + 0)).tdiv (((1 * r 19 + 0) + 0)) := e2
  obtain ⟨h3, hh, e3, k3⟩ := hh
  have k3 : ∀ j, j ∉ [] → h2 j = h3 j := k3
  have e3 : ((1 * r 19 + 0) + 0) = ye_q ((1 * r 18 + 0) + 0) ((1 * r 9 + (1 * r 8 + 0)) + 0) := e3
  obtain ⟨h4, hh, e4, k4⟩ := hh
  have k4 : ∀ j, j ∉ [] → h3 j = h4 j := k4
  have e4 : ((1 * r 18 + 0) + 0) = ye_q ((2 * r 6 + 0) + 0) ((2 * r 7 + 0) + 0) := e4
  obtain ⟨h5, hh, e5, k5⟩ := hh
  have k5 : ∀ j, j ∉ [] → h4 j = h5 j := k5
  have e5 : 0 ≤ ((1 * r 15 + 0) + 0) → ((1 * ((1 * r 16 + 0) + 0) + 0) + 0) = (((1 * r 14 + 0) + 0)).tdiv (ye_q ((1 * r 14 + 0) + 0) ((1 * r 15 + 0) + 0)) ∧ ((1 * ((1 * r 17 + 0) + 0) + 0) + 0) = (((1 * r 15 + 0) + 0)).tdiv (ye_q ((1 * r 14 + 0) + 0) ((1 * r 15 + 0) + 0)) := e5
  obtain ⟨h6, hh, e6, k6⟩ := hh
  have k6 : ∀ j, j ∉ [] → h5 j = h6 j := k6
  have e6 : ((1 * r 15 + 0) + 0) = ((1 * r 6 + 0) + 0) * ((1 * r 6 + 0) + 0) + ((1 * r 7 + 0) + 0) * ((1 * r 7 + 0) + 0) := e6
  obtain ⟨g7, hh, q7, e7⟩ := hh
  subst q7
  have e7 : r 14 = (((-1) * r 9 + (1 * r 8 + 0)) + 0) * (((-1) * r 9 + (1 * r 8 + 0)) + 0) := e7
  try simp only [Int.one_mul, Int.zero_add, Int.add_zero] at e7
  have hh : h6 = gi := hh
  subst hh
  refine yt_dcut (by decide) rfl ?_ ?_
  · rw [show xk_86.2.1.2.1.1.length = 14 from rfl]
    refine yx_fks _ _ ?_
    refine ⟨?_, ?_, trivial⟩
    · show 0 ≤ ((1 * ((0 : Int) + 0) + 0) + 0)
      omega
    · show 0 ≤ (((-1) * ((0 : Int) + 0) + (1 * ((0 : Int) + 0) + 0)) + 0)
      omega
  · rw [show xk_86.2.1.2.1.1.length = 14 from rfl]
    show ((1 * ((1 * r 16 + 0) + 0) + 0) + 0) = ye_wd (g0 3) (g0 4) (((1 * ((1 * r 12 + 0) + 0) + 0) + 0)).toNat ((1 * ((1 * r 6 + 0) + 0) + 0) + 0) ((1 * ((1 * r 7 + 0) + 0) + 0) + 0) ((1 * ((1 * r 8 + 0) + 0) + 0) + 0) ((1 * ((1 * r 9 + 0) + 0) + 0) + 0) 0 ∧ ((1 * ((1 * r 17 + 0) + 0) + 0) + 0) = ye_wd (g0 3) (g0 4) (((1 * ((1 * r 12 + 0) + 0) + 0) + 0)).toNat ((1 * ((1 * r 6 + 0) + 0) + 0) + 0) ((1 * ((1 * r 7 + 0) + 0) + 0) + 0) ((1 * ((1 * r 8 + 0) + 0) + 0) + 0) ((1 * ((1 * r 9 + 0) + 0) + 0) + 0) 1 ∧ ((1 * ((1 * r 20 + 0) + 0) + 0) + 0) = ye_wd (g0 3) (g0 4) (((1 * ((1 * r 12 + 0) + 0) + 0) + 0)).toNat ((1 * ((1 * r 6 + 0) + 0) + 0) + 0) ((1 * ((1 * r 7 + 0) + 0) + 0) + 0) ((1 * ((1 * r 8 + 0) + 0) + 0) + 0) ((1 * ((1 * r 9 + 0) + 0) + 0) + 0) 2 ∧ ((1 * ((1 * r 21 + 0) + 0) + 0) + 0) = ye_wd (g0 3) (g0 4) (((1 * ((1 * r 12 + 0) + 0) + 0) + 0)).toNat ((1 * ((1 * r 6 + 0) + 0) + 0) + 0) ((1 * ((1 * r 7 + 0) + 0) + 0) + 0) ((1 * ((1 * r 8 + 0) + 0) + 0) + 0) ((1 * ((1 * r 9 + 0) + 0) + 0) + 0) 3 ∧ ((1 * ((1 * r 22 + 0) + 0) + 0) + 0) = ye_wd (g0 3) (g0 4) (((1 * ((1 * r 12 + 0) + 0) + 0) + 0)).toNat ((1 * ((1 * r 6 + 0) + 0) + 0) + 0) ((1 * ((1 * r 7 + 0) + 0) + 0) + 0) ((1 * ((1 * r 8 + 0) + 0) + 0) + 0) ((1 * ((1 * r 9 + 0) + 0) + 0) + 0) 4 ∧ ((1 * ((0 : Int) + 0) + 0) + 0) = ye_sc (g0 3) (g0 4) ((1 * ((1 * r 6 + 0) + 0) + 0) + 0) ((1 * ((1 * r 7 + 0) + 0) + 0) + 0) ((1 * ((1 * r 8 + 0) + 0) + 0) + 0) ((1 * ((1 * r 9 + 0) + 0) + 0) + 0) (((1 * ((0 : Int) + 0) + 0) + 0)).toNat ∧ ((1 * ((0 : Int) + 0) + 0) + 0) ≤ ((1 * ((1 * r 12 + 0) + 0) + 0) + 0)
    try simp only [Int.one_mul, Int.zero_add, Int.add_zero]
    try simp only [Int.one_mul, Int.zero_add, Int.add_zero] at e5
    try simp only [Int.one_mul, Int.zero_add, Int.add_zero] at e6
    try simp only [Int.one_mul, Int.zero_add, Int.add_zero] at e7
    try simp only [Int.one_mul, Int.zero_add, Int.add_zero] at e3
    try simp only [Int.one_mul, Int.zero_add, Int.add_zero] at e4
    try simp only [Int.one_mul, Int.zero_add, Int.add_zero] at e0
    try simp only [Int.one_mul, Int.zero_add, Int.add_zero] at e1
    try simp only [Int.one_mul, Int.zero_add, Int.add_zero] at e2
    rw [show -1 * r 9 + r 8 = r 8 - r 9 by omega] at e7
    rw [e6, e7] at e5
    obtain ⟨q0, q1⟩ := e5 (ye_ss (r 6) (r 7))
    rw [e4, show r 9 + r 8 = r 8 + r 9 by omega] at e3
    rw [e3] at e2 e1 e0
    rw [show r 9 + r 8 = r 8 + r 9 by omega] at e0
    refine ⟨?_, ?_, ?_, ?_, ?_, ?_, ?_⟩
    · unfold ye_wd
      rw [if_pos rfl]
      exact q0
    · unfold ye_wd
      rw [if_neg (by decide), if_pos rfl]
      exact q1
    · unfold ye_wd
      rw [if_neg (by decide), if_neg (by decide), if_pos rfl]
      exact e2
    · unfold ye_wd
      rw [if_neg (by decide), if_neg (by decide), if_neg (by decide), if_pos rfl]
      exact e1
    · unfold ye_wd
      rw [if_neg (by decide), if_neg (by decide), if_neg (by decide), if_neg (by decide), if_pos rfl]
      exact e0
    · rfl
    · omega
theorem xw_86_0_23 : yt_hold xT_86 xk_86 xq_86.2.2.1 xG_86 xP_86 xU_86 14 xk_86.2.1.2.2.2 (fun g0 r g => xR_86 r g0 ∧ g = g0) (0, ([(0, 1), ((-9223372036854775808), 9223372036854775807), ((-9223372036854775808), 9223372036854775807), ((-9223372036854775808), 9223372036854775807), (0, 40), ((-2147483648), 2147483647), ((-600), 600), ((-600), 600), ((-1000000), 999999), ((-1000000), 999999), ((-9223372036854775808), 9223372036854775807), ((-9223372036854775808), 9223372036854775807), (0, 40), ((-2147483648), 2147483647), (0, 4000000000000), (0, 720000), ((-9223372036854775808), 9223372036854775807), ((-9223372036854775808), 9223372036854775807), (1, 4611686018427387904), (1, 1200), ((-1200), 0), (1, 1200), ((-2000000), 0)], [([(9, (-1)), (8, (-1)), (22, 1)], 0), ([(8, (-1)), (9, (-1))], (-1)), ([(21, (-1)), (7, 2)], 0), ([(19, (-1)), (7, 2)], 0), ([(6, (-2)), (20, 1)], 0), ([(6, (-2))], (-1))]), [([], 0), ([(20, 1)], 0), ([(21, 1)], 0), ([(22, 1)], 0), ([], 0), ([(16, 1)], 0), ([(17, 1)], 0)], [], [.inr (.inr (.inl (998, 1, [([(9, 1), (8, 1)], 0), ([(19, 1)], 0), ([(22, 1)], 0)], [], []))), .inr (.inr (.inl (998, 1, [([(7, 2)], 0), ([(19, 1)], 0), ([(21, 1)], 0)], [], []))), .inr (.inr (.inl (998, 1, [([(6, 2)], 0), ([(19, 1)], 0), ([(20, 1)], 0)], [], []))), .inr (.inr (.inl (312, 0, [([(18, 1)], 0), ([(9, 1), (8, 1)], 0), ([(19, 1)], 0)], [], []))), .inr (.inr (.inl (312, 0, [([(6, 2)], 0), ([(7, 2)], 0), ([(18, 1)], 0)], [], []))), .inr (.inr (.inl (313, 0, [([(14, 1)], 0), ([(15, 1)], 0), ([(10, 1)], 0), ([(11, 1)], 0), ([(16, 1)], 0), ([(17, 1)], 0)], [1], []))), .inr (.inr (.inl (300, 0, [([(6, 1)], 0), ([(7, 1)], 0), ([(15, 1)], 0)], [], []))), .inl (.inr (14, ([(9, (-1)), (8, 1)], 0), ([(9, (-1)), (8, 1)], 0)))]) := by
  intro g0 r gi g hok hh hars hfr hG
  have b0 : 0 ≤ r 0 ∧ r 0 ≤ 1 := hok.1 0 (0, 1) rfl
  have b6 : (-600) ≤ r 6 ∧ r 6 ≤ 600 := hok.1 6 ((-600), 600) rfl
  have b7 : (-600) ≤ r 7 ∧ r 7 ≤ 600 := hok.1 7 ((-600), 600) rfl
  have b8 : (-1000000) ≤ r 8 ∧ r 8 ≤ 999999 := hok.1 8 ((-1000000), 999999) rfl
  have b9 : (-1000000) ≤ r 9 ∧ r 9 ≤ 999999 := hok.1 9 ((-1000000), 999999) rfl
  have b12 : 0 ≤ r 12 ∧ r 12 ≤ 40 := hok.1 12 (0, 40) rfl
  have b14 : 0 ≤ r 14 ∧ r 14 ≤ 4000000000000 := hok.1 14 (0, 4000000000000) rfl
  have b15 : 0 ≤ r 15 ∧ r 15 ≤ 720000 := hok.1 15 (0, 720000) rfl
  have b16 : (-9223372036854775808) ≤ r 16 ∧ r 16 ≤ 9223372036854775807 := hok.1 16 ((-9223372036854775808), 9223372036854775807) rfl
  have b17 : (-9223372036854775808) ≤ r 17 ∧ r 17 ≤ 9223372036854775807 := hok.1 17 ((-9223372036854775808), 9223372036854775807) rfl
  have b18 : 1 ≤ r 18 ∧ r 18 ≤ 4611686018427387904 := hok.1 18 (1, 4611686018427387904) rfl
  have b19 : 1 ≤ r 19 ∧ r 19 ≤ 1200 := hok.1 19 (1, 1200) rfl
  have b20 : (-1200) ≤ r 20 ∧ r 20 ≤ 0 := hok.1 20 ((-1200), 0) rfl
  have b21 : 1 ≤ r 21 ∧ r 21 ≤ 1200 := hok.1 21 (1, 1200) rfl
  have b22 : (-2000000) ≤ r 22 ∧ r 22 ≤ 0 := hok.1 22 ((-2000000), 0) rfl
  have f0 : 0 ≤ (((-1) * r 9 + ((-1) * r 8 + (1 * r 22 + 0))) + 0) := hok.2 _ (List.mem_of_getElem? (i := 0) rfl)
  have f1 : 0 ≤ (((-1) * r 8 + ((-1) * r 9 + 0)) + (-1)) := hok.2 _ (List.mem_of_getElem? (i := 1) rfl)
  have f2 : 0 ≤ (((-1) * r 21 + (2 * r 7 + 0)) + 0) := hok.2 _ (List.mem_of_getElem? (i := 2) rfl)
  have f3 : 0 ≤ (((-1) * r 19 + (2 * r 7 + 0)) + 0) := hok.2 _ (List.mem_of_getElem? (i := 3) rfl)
  have f4 : 0 ≤ (((-2) * r 6 + (1 * r 20 + 0)) + 0) := hok.2 _ (List.mem_of_getElem? (i := 4) rfl)
  have f5 : 0 ≤ (((-2) * r 6 + 0) + (-1)) := hok.2 _ (List.mem_of_getElem? (i := 5) rfl)
  obtain ⟨hG, hgi⟩ := hG
  have hG : True := hG
  obtain ⟨h0, hh, e0, k0⟩ := hh
  have k0 : ∀ j, j ∉ [] → g j = h0 j := k0
  have e0 : ((1 * r 22 + 0) + 0) = (((1 * r 9 + (1 * r 8 + 0)) + 0)).tdiv (((1 * r 19 + 0) + 0)) := e0
  obtain ⟨h1, hh, e1, k1⟩ := hh
  have k1 : ∀ j, j ∉ [] → h0 j = h1 j := k1
  have e1 : ((1 * r 21 + 0) + 0) = (((2 * r 7 + 0) + 0)).tdiv (((1 * r 19 + 0) + 0)) := e1
  obtain ⟨h2, hh, e2, k2⟩ := hh
  have k2 : ∀ j, j ∉ [] → h1 j = h2 j := k2
  have e2 : ((1 * r 20 + 0) + 0) = (((2 * r 6 + 0) + 0)).tdiv (((1 * r 19 + 0) + 0)) := e2
  obtain ⟨h3, hh, e3, k3⟩ := hh
  have k3 : ∀ j, j ∉ [] → h2 j = h3 j := k3
  have e3 : ((1 * r 19 + 0) + 0) = ye_q ((1 * r 18 + 0) + 0) ((1 * r 9 + (1 * r 8 + 0)) + 0) := e3
  obtain ⟨h4, hh, e4, k4⟩ := hh
  have k4 : ∀ j, j ∉ [] → h3 j = h4 j := k4
  have e4 : ((1 * r 18 + 0) + 0) = ye_q ((2 * r 6 + 0) + 0) ((2 * r 7 + 0) + 0) := e4
  obtain ⟨h5, hh, e5, k5⟩ := hh
  have k5 : ∀ j, j ∉ [] → h4 j = h5 j := k5
  have e5 : 0 ≤ ((1 * r 15 + 0) + 0) → ((1 * ((1 * r 16 + 0) + 0) + 0) + 0) = (((1 * r 14 + 0) + 0)).tdiv (ye_q ((1 * r 14 + 0) + 0) ((1 * r 15 + 0) + 0)) ∧ ((1 * ((1 * r 17 + 0) + 0) + 0) + 0) = (((1 * r 15 + 0) + 0)).tdiv (ye_q ((1 * r 14 + 0) + 0) ((1 * r 15 + 0) + 0)) := e5
  obtain ⟨h6, hh, e6, k6⟩ := hh
  have k6 : ∀ j, j ∉ [] → h5 j = h6 j := k6
  have e6 : ((1 * r 15 + 0) + 0) = ((1 * r 6 + 0) + 0) * ((1 * r 6 + 0) + 0) + ((1 * r 7 + 0) + 0) * ((1 * r 7 + 0) + 0) := e6
  obtain ⟨g7, hh, q7, e7⟩ := hh
  subst q7
  have e7 : r 14 = (((-1) * r 9 + (1 * r 8 + 0)) + 0) * (((-1) * r 9 + (1 * r 8 + 0)) + 0) := e7
  try simp only [Int.one_mul, Int.zero_add, Int.add_zero] at e7
  have hh : h6 = gi := hh
  subst hh
  refine yt_dcut (by decide) rfl ?_ ?_
  · rw [show xk_86.2.1.2.1.1.length = 14 from rfl]
    refine yx_fks _ _ ?_
    refine ⟨?_, ?_, trivial⟩
    · show 0 ≤ ((1 * ((0 : Int) + 0) + 0) + 0)
      omega
    · show 0 ≤ (((-1) * ((0 : Int) + 0) + (1 * ((0 : Int) + 0) + 0)) + 0)
      omega
  · rw [show xk_86.2.1.2.1.1.length = 14 from rfl]
    show ((1 * ((1 * r 16 + 0) + 0) + 0) + 0) = ye_wd (g0 3) (g0 4) (((1 * ((1 * r 12 + 0) + 0) + 0) + 0)).toNat ((1 * ((1 * r 6 + 0) + 0) + 0) + 0) ((1 * ((1 * r 7 + 0) + 0) + 0) + 0) ((1 * ((1 * r 8 + 0) + 0) + 0) + 0) ((1 * ((1 * r 9 + 0) + 0) + 0) + 0) 0 ∧ ((1 * ((1 * r 17 + 0) + 0) + 0) + 0) = ye_wd (g0 3) (g0 4) (((1 * ((1 * r 12 + 0) + 0) + 0) + 0)).toNat ((1 * ((1 * r 6 + 0) + 0) + 0) + 0) ((1 * ((1 * r 7 + 0) + 0) + 0) + 0) ((1 * ((1 * r 8 + 0) + 0) + 0) + 0) ((1 * ((1 * r 9 + 0) + 0) + 0) + 0) 1 ∧ ((1 * ((1 * r 20 + 0) + 0) + 0) + 0) = ye_wd (g0 3) (g0 4) (((1 * ((1 * r 12 + 0) + 0) + 0) + 0)).toNat ((1 * ((1 * r 6 + 0) + 0) + 0) + 0) ((1 * ((1 * r 7 + 0) + 0) + 0) + 0) ((1 * ((1 * r 8 + 0) + 0) + 0) + 0) ((1 * ((1 * r 9 + 0) + 0) + 0) + 0) 2 ∧ ((1 * ((1 * r 21 + 0) + 0) + 0) + 0) = ye_wd (g0 3) (g0 4) (((1 * ((1 * r 12 + 0) + 0) + 0) + 0)).toNat ((1 * ((1 * r 6 + 0) + 0) + 0) + 0) ((1 * ((1 * r 7 + 0) + 0) + 0) + 0) ((1 * ((1 * r 8 + 0) + 0) + 0) + 0) ((1 * ((1 * r 9 + 0) + 0) + 0) + 0) 3 ∧ ((1 * ((1 * r 22 + 0) + 0) + 0) + 0) = ye_wd (g0 3) (g0 4) (((1 * ((1 * r 12 + 0) + 0) + 0) + 0)).toNat ((1 * ((1 * r 6 + 0) + 0) + 0) + 0) ((1 * ((1 * r 7 + 0) + 0) + 0) + 0) ((1 * ((1 * r 8 + 0) + 0) + 0) + 0) ((1 * ((1 * r 9 + 0) + 0) + 0) + 0) 4 ∧ ((1 * ((0 : Int) + 0) + 0) + 0) = ye_sc (g0 3) (g0 4) ((1 * ((1 * r 6 + 0) + 0) + 0) + 0) ((1 * ((1 * r 7 + 0) + 0) + 0) + 0) ((1 * ((1 * r 8 + 0) + 0) + 0) + 0) ((1 * ((1 * r 9 + 0) + 0) + 0) + 0) (((1 * ((0 : Int) + 0) + 0) + 0)).toNat ∧ ((1 * ((0 : Int) + 0) + 0) + 0) ≤ ((1 * ((1 * r 12 + 0) + 0) + 0) + 0)
    try simp only [Int.one_mul, Int.zero_add, Int.add_zero]
    try simp only [Int.one_mul, Int.zero_add, Int.add_zero] at e5
    try simp only [Int.one_mul, Int.zero_add, Int.add_zero] at e6
    try simp only [Int.one_mul, Int.zero_add, Int.add_zero] at e7
    try simp only [Int.one_mul, Int.zero_add, Int.add_zero] at e3
    try simp only [Int.one_mul, Int.zero_add, Int.add_zero] at e4
    try simp only [Int.one_mul, Int.zero_add, Int.add_zero] at e0
    try simp only [Int.one_mul, Int.zero_add, Int.add_zero] at e1
    try simp only [Int.one_mul, Int.zero_add, Int.add_zero] at e2
    rw [show -1 * r 9 + r 8 = r 8 - r 9 by omega] at e7
    rw [e6, e7] at e5
    obtain ⟨q0, q1⟩ := e5 (ye_ss (r 6) (r 7))
    rw [e4, show r 9 + r 8 = r 8 + r 9 by omega] at e3
    rw [e3] at e2 e1 e0
    rw [show r 9 + r 8 = r 8 + r 9 by omega] at e0
    refine ⟨?_, ?_, ?_, ?_, ?_, ?_, ?_⟩
    · unfold ye_wd
      rw [if_pos rfl]
      exact q0
    · unfold ye_wd
      rw [if_neg (by decide), if_pos rfl]
      exact q1
    · unfold ye_wd
      rw [if_neg (by decide), if_neg (by decide), if_pos rfl]
      exact e2
    · unfold ye_wd
      rw [if_neg (by decide), if_neg (by decide), if_neg (by decide), if_pos rfl]
      exact e1
    · unfold ye_wd
      rw [if_neg (by decide), if_neg (by decide), if_neg (by decide), if_neg (by decide), if_pos rfl]
      exact e0
    · rfl
    · omega
theorem xw_86_0_24 : yt_hold xT_86 xk_86 xq_86.2.2.1 xG_86 xP_86 xU_86 14 xk_86.2.1.2.2.2 (fun g0 r g => xR_86 r g0 ∧ g = g0) (0, ([(0, 1), ((-9223372036854775808), 9223372036854775807), ((-9223372036854775808), 9223372036854775807), ((-9223372036854775808), 9223372036854775807), (0, 40), ((-2147483648), 2147483647), ((-600), 600), ((-600), 600), ((-1000000), 1000000), ((-1000000), 1000000), ((-9223372036854775808), 9223372036854775807), ((-9223372036854775808), 9223372036854775807), (0, 40), ((-2147483648), 2147483647), (0, 4000000000000), (0, 720000), ((-9223372036854775808), 9223372036854775807), ((-9223372036854775808), 9223372036854775807), (1, 4611686018427387904), (1, 4611686018427387904), ((-1200), 0), ((-1200), 0), (0, 0)], [([(19, 1), (8, (-1)), (9, (-1))], (-1)), ([(9, 1), (8, 1)], 0), ([(7, (-2)), (21, 1)], 0), ([(7, (-2))], (-1)), ([(6, (-2)), (20, 1)], 0), ([(6, (-2))], (-1))]), [([], 0), ([(20, 1)], 0), ([(21, 1)], 0), ([], 0), ([], 0), ([(16, 1)], 0), ([(17, 1)], 0)], [], [.inr (.inr (.inl (998, 1, [([(9, 1), (8, 1)], 0), ([(19, 1)], 0), ([], 0)], [], []))), .inr (.inr (.inl (998, 1, [([(7, 2)], 0), ([(19, 1)], 0), ([(21, 1)], 0)], [], []))), .inr (.inr (.inl (998, 1, [([(6, 2)], 0), ([(19, 1)], 0), ([(20, 1)], 0)], [], []))), .inr (.inr (.inl (312, 0, [([(18, 1)], 0), ([(9, 1), (8, 1)], 0), ([(19, 1)], 0)], [], []))), .inr (.inr (.inl (312, 0, [([(6, 2)], 0), ([(7, 2)], 0), ([(18, 1)], 0)], [], []))), .inr (.inr (.inl (313, 0, [([(14, 1)], 0), ([(15, 1)], 0), ([(10, 1)], 0), ([(11, 1)], 0), ([(16, 1)], 0), ([(17, 1)], 0)], [1], []))), .inr (.inr (.inl (300, 0, [([(6, 1)], 0), ([(7, 1)], 0), ([(15, 1)], 0)], [], []))), .inl (.inr (14, ([(9, (-1)), (8, 1)], 0), ([(9, (-1)), (8, 1)], 0)))]) := by
  intro g0 r gi g hok hh hars hfr hG
  have b0 : 0 ≤ r 0 ∧ r 0 ≤ 1 := hok.1 0 (0, 1) rfl
  have b6 : (-600) ≤ r 6 ∧ r 6 ≤ 600 := hok.1 6 ((-600), 600) rfl
  have b7 : (-600) ≤ r 7 ∧ r 7 ≤ 600 := hok.1 7 ((-600), 600) rfl
  have b8 : (-1000000) ≤ r 8 ∧ r 8 ≤ 1000000 := hok.1 8 ((-1000000), 1000000) rfl
  have b9 : (-1000000) ≤ r 9 ∧ r 9 ≤ 1000000 := hok.1 9 ((-1000000), 1000000) rfl
  have b12 : 0 ≤ r 12 ∧ r 12 ≤ 40 := hok.1 12 (0, 40) rfl
  have b14 : 0 ≤ r 14 ∧ r 14 ≤ 4000000000000 := hok.1 14 (0, 4000000000000) rfl
  have b15 : 0 ≤ r 15 ∧ r 15 ≤ 720000 := hok.1 15 (0, 720000) rfl
  have b16 : (-9223372036854775808) ≤ r 16 ∧ r 16 ≤ 9223372036854775807 := hok.1 16 ((-9223372036854775808), 9223372036854775807) rfl
  have b17 : (-9223372036854775808) ≤ r 17 ∧ r 17 ≤ 9223372036854775807 := hok.1 17 ((-9223372036854775808), 9223372036854775807) rfl
  have b18 : 1 ≤ r 18 ∧ r 18 ≤ 4611686018427387904 := hok.1 18 (1, 4611686018427387904) rfl
  have b19 : 1 ≤ r 19 ∧ r 19 ≤ 4611686018427387904 := hok.1 19 (1, 4611686018427387904) rfl
  have b20 : (-1200) ≤ r 20 ∧ r 20 ≤ 0 := hok.1 20 ((-1200), 0) rfl
  have b21 : (-1200) ≤ r 21 ∧ r 21 ≤ 0 := hok.1 21 ((-1200), 0) rfl
  have b22 : 0 ≤ r 22 ∧ r 22 ≤ 0 := hok.1 22 (0, 0) rfl
  have f0 : 0 ≤ ((1 * r 19 + ((-1) * r 8 + ((-1) * r 9 + 0))) + (-1)) := hok.2 _ (List.mem_of_getElem? (i := 0) rfl)
  have f1 : 0 ≤ ((1 * r 9 + (1 * r 8 + 0)) + 0) := hok.2 _ (List.mem_of_getElem? (i := 1) rfl)
  have f2 : 0 ≤ (((-2) * r 7 + (1 * r 21 + 0)) + 0) := hok.2 _ (List.mem_of_getElem? (i := 2) rfl)
  have f3 : 0 ≤ (((-2) * r 7 + 0) + (-1)) := hok.2 _ (List.mem_of_getElem? (i := 3) rfl)
  have f4 : 0 ≤ (((-2) * r 6 + (1 * r 20 + 0)) + 0) := hok.2 _ (List.mem_of_getElem? (i := 4) rfl)
  have f5 : 0 ≤ (((-2) * r 6 + 0) + (-1)) := hok.2 _ (List.mem_of_getElem? (i := 5) rfl)
  obtain ⟨hG, hgi⟩ := hG
  have hG : True := hG
  obtain ⟨h0, hh, e0, k0⟩ := hh
  have k0 : ∀ j, j ∉ [] → g j = h0 j := k0
  have e0 : ((0 : Int) + 0) = (((1 * r 9 + (1 * r 8 + 0)) + 0)).tdiv (((1 * r 19 + 0) + 0)) := e0
  obtain ⟨h1, hh, e1, k1⟩ := hh
  have k1 : ∀ j, j ∉ [] → h0 j = h1 j := k1
  have e1 : ((1 * r 21 + 0) + 0) = (((2 * r 7 + 0) + 0)).tdiv (((1 * r 19 + 0) + 0)) := e1
  obtain ⟨h2, hh, e2, k2⟩ := hh
  have k2 : ∀ j, j ∉ [] → h1 j = h2 j := k2
  have e2 : ((1 * r 20 + 0) + 0) = (((2 * r 6 + 0) + 0)).tdiv (((1 * r 19 + 0) + 0)) := e2
  obtain ⟨h3, hh, e3, k3⟩ := hh
  have k3 : ∀ j, j ∉ [] → h2 j = h3 j := k3
  have e3 : ((1 * r 19 + 0) + 0) = ye_q ((1 * r 18 + 0) + 0) ((1 * r 9 + (1 * r 8 + 0)) + 0) := e3
  obtain ⟨h4, hh, e4, k4⟩ := hh
  have k4 : ∀ j, j ∉ [] → h3 j = h4 j := k4
  have e4 : ((1 * r 18 + 0) + 0) = ye_q ((2 * r 6 + 0) + 0) ((2 * r 7 + 0) + 0) := e4
  obtain ⟨h5, hh, e5, k5⟩ := hh
  have k5 : ∀ j, j ∉ [] → h4 j = h5 j := k5
  have e5 : 0 ≤ ((1 * r 15 + 0) + 0) → ((1 * ((1 * r 16 + 0) + 0) + 0) + 0) = (((1 * r 14 + 0) + 0)).tdiv (ye_q ((1 * r 14 + 0) + 0) ((1 * r 15 + 0) + 0)) ∧ ((1 * ((1 * r 17 + 0) + 0) + 0) + 0) = (((1 * r 15 + 0) + 0)).tdiv (ye_q ((1 * r 14 + 0) + 0) ((1 * r 15 + 0) + 0)) := e5
  obtain ⟨h6, hh, e6, k6⟩ := hh
  have k6 : ∀ j, j ∉ [] → h5 j = h6 j := k6
  have e6 : ((1 * r 15 + 0) + 0) = ((1 * r 6 + 0) + 0) * ((1 * r 6 + 0) + 0) + ((1 * r 7 + 0) + 0) * ((1 * r 7 + 0) + 0) := e6
  obtain ⟨g7, hh, q7, e7⟩ := hh
  subst q7
  have e7 : r 14 = (((-1) * r 9 + (1 * r 8 + 0)) + 0) * (((-1) * r 9 + (1 * r 8 + 0)) + 0) := e7
  try simp only [Int.one_mul, Int.zero_add, Int.add_zero] at e7
  have hh : h6 = gi := hh
  subst hh
  refine yt_dcut (by decide) rfl ?_ ?_
  · rw [show xk_86.2.1.2.1.1.length = 14 from rfl]
    refine yx_fks _ _ ?_
    refine ⟨?_, ?_, trivial⟩
    · show 0 ≤ ((1 * ((0 : Int) + 0) + 0) + 0)
      omega
    · show 0 ≤ (((-1) * ((0 : Int) + 0) + (1 * ((0 : Int) + 0) + 0)) + 0)
      omega
  · rw [show xk_86.2.1.2.1.1.length = 14 from rfl]
    show ((1 * ((1 * r 16 + 0) + 0) + 0) + 0) = ye_wd (g0 3) (g0 4) (((1 * ((1 * r 12 + 0) + 0) + 0) + 0)).toNat ((1 * ((1 * r 6 + 0) + 0) + 0) + 0) ((1 * ((1 * r 7 + 0) + 0) + 0) + 0) ((1 * ((1 * r 8 + 0) + 0) + 0) + 0) ((1 * ((1 * r 9 + 0) + 0) + 0) + 0) 0 ∧ ((1 * ((1 * r 17 + 0) + 0) + 0) + 0) = ye_wd (g0 3) (g0 4) (((1 * ((1 * r 12 + 0) + 0) + 0) + 0)).toNat ((1 * ((1 * r 6 + 0) + 0) + 0) + 0) ((1 * ((1 * r 7 + 0) + 0) + 0) + 0) ((1 * ((1 * r 8 + 0) + 0) + 0) + 0) ((1 * ((1 * r 9 + 0) + 0) + 0) + 0) 1 ∧ ((1 * ((1 * r 20 + 0) + 0) + 0) + 0) = ye_wd (g0 3) (g0 4) (((1 * ((1 * r 12 + 0) + 0) + 0) + 0)).toNat ((1 * ((1 * r 6 + 0) + 0) + 0) + 0) ((1 * ((1 * r 7 + 0) + 0) + 0) + 0) ((1 * ((1 * r 8 + 0) + 0) + 0) + 0) ((1 * ((1 * r 9 + 0) + 0) + 0) + 0) 2 ∧ ((1 * ((1 * r 21 + 0) + 0) + 0) + 0) = ye_wd (g0 3) (g0 4) (((1 * ((1 * r 12 + 0) + 0) + 0) + 0)).toNat ((1 * ((1 * r 6 + 0) + 0) + 0) + 0) ((1 * ((1 * r 7 + 0) + 0) + 0) + 0) ((1 * ((1 * r 8 + 0) + 0) + 0) + 0) ((1 * ((1 * r 9 + 0) + 0) + 0) + 0) 3 ∧ ((1 * ((0 : Int) + 0) + 0) + 0) = ye_wd (g0 3) (g0 4) (((1 * ((1 * r 12 + 0) + 0) + 0) + 0)).toNat ((1 * ((1 * r 6 + 0) + 0) + 0) + 0) ((1 * ((1 * r 7 + 0) + 0) + 0) + 0) ((1 * ((1 * r 8 + 0) + 0) + 0) + 0) ((1 * ((1 * r 9 + 0) + 0) + 0) + 0) 4 ∧ ((1 * ((0 : Int) + 0) + 0) + 0) = ye_sc (g0 3) (g0 4) ((1 * ((1 * r 6 + 0) + 0) + 0) + 0) ((1 * ((1 * r 7 + 0) + 0) + 0) + 0) ((1 * ((1 * r 8 + 0) + 0) + 0) + 0) ((1 * ((1 * r 9 + 0) + 0) + 0) + 0) (((1 * ((0 : Int) + 0) + 0) + 0)).toNat ∧ ((1 * ((0 : Int) + 0) + 0) + 0) ≤ ((1 * ((1 * r 12 + 0) + 0) + 0) + 0)
    try simp only [Int.one_mul, Int.zero_add, Int.add_zero]
    try simp only [Int.one_mul, Int.zero_add, Int.add_zero] at e5
    try simp only [Int.one_mul, Int.zero_add, Int.add_zero] at e6
    try simp only [Int.one_mul, Int.zero_add, Int.add_zero] at e7
    try simp only [Int.one_mul, Int.zero_add, Int.add_zero] at e3
    try simp only [Int.one_mul, Int.zero_add, Int.add_zero] at e4
    try simp only [Int.one_mul, Int.zero_add, Int.add_zero] at e0
    try simp only [Int.one_mul, Int.zero_add, Int.add_zero] at e1
    try simp only [Int.one_mul, Int.zero_add, Int.add_zero] at e2
    rw [show -1 * r 9 + r 8 = r 8 - r 9 by omega] at e7
    rw [e6, e7] at e5
    obtain ⟨q0, q1⟩ := e5 (ye_ss (r 6) (r 7))
    rw [e4, show r 9 + r 8 = r 8 + r 9 by omega] at e3
    rw [e3] at e2 e1 e0
    rw [show r 9 + r 8 = r 8 + r 9 by omega] at e0
    refine ⟨?_, ?_, ?_, ?_, ?_, ?_, ?_⟩
    · unfold ye_wd
      rw [if_pos rfl]
      exact q0
    · unfold ye_wd
      rw [if_neg (by decide), if_pos rfl]
      exact q1
    · unfold ye_wd
      rw [if_neg (by decide), if_neg (by decide), if_pos rfl]
      exact e2
    · unfold ye_wd
      rw [if_neg (by decide), if_neg (by decide), if_neg (by decide), if_pos rfl]
      exact e1
    · unfold ye_wd
      rw [if_neg (by decide), if_neg (by decide), if_neg (by decide), if_neg (by decide), if_pos rfl]
      exact e0
    · rfl
    · omega
theorem xw_86_0_25 : yt_hold xT_86 xk_86 xq_86.2.2.1 xG_86 xP_86 xU_86 14 xk_86.2.1.2.2.2 (fun g0 r g => xR_86 r g0 ∧ g = g0) (0, ([(0, 1), ((-9223372036854775808), 9223372036854775807), ((-9223372036854775808), 9223372036854775807), ((-9223372036854775808), 9223372036854775807), (0, 40), ((-2147483648), 2147483647), ((-600), 600), ((-600), 600), ((-999999), 1000000), ((-999999), 1000000), ((-9223372036854775808), 9223372036854775807), ((-9223372036854775808), 9223372036854775807), (0, 40), ((-2147483648), 2147483647), (0, 4000000000000), (0, 720000), ((-9223372036854775808), 9223372036854775807), ((-9223372036854775808), 9223372036854775807), (1, 4611686018427387904), (1, 2000000), ((-1200), 0), ((-1200), 0), (1, 2000000)], [([(22, (-1)), (8, 1), (9, 1)], 0), ([(19, (-1)), (8, 1), (9, 1)], 0), ([(7, (-2)), (21, 1)], 0), ([(7, (-2))], (-1)), ([(6, (-2)), (20, 1)], 0), ([(6, (-2))], (-1))]), [([], 0), ([(20, 1)], 0), ([(21, 1)], 0), ([(22, 1)], 0), ([], 0), ([(16, 1)], 0), ([(17, 1)], 0)], [], [.inr (.inr (.inl (998, 1, [([(9, 1), (8, 1)], 0), ([(19, 1)], 0), ([(22, 1)], 0)], [], []))), .inr (.inr (.inl (998, 1, [([(7, 2)], 0), ([(19, 1)], 0), ([(21, 1)], 0)], [], []))), .inr (.inr (.inl (998, 1, [([(6, 2)], 0), ([(19, 1)], 0), ([(20, 1)], 0)], [], []))), .inr (.inr (.inl (312, 0, [([(18, 1)], 0), ([(9, 1), (8, 1)], 0), ([(19, 1)], 0)], [], []))), .inr (.inr (.inl (312, 0, [([(6, 2)], 0), ([(7, 2)], 0), ([(18, 1)], 0)], [], []))), .inr (.inr (.inl (313, 0, [([(14, 1)], 0), ([(15, 1)], 0), ([(10, 1)], 0), ([(11, 1)], 0), ([(16, 1)], 0), ([(17, 1)], 0)], [1], []))), .inr (.inr (.inl (300, 0, [([(6, 1)], 0), ([(7, 1)], 0), ([(15, 1)], 0)], [], []))), .inl (.inr (14, ([(9, (-1)), (8, 1)], 0), ([(9, (-1)), (8, 1)], 0)))]) := by
  intro g0 r gi g hok hh hars hfr hG
  have b0 : 0 ≤ r 0 ∧ r 0 ≤ 1 := hok.1 0 (0, 1) rfl
  have b6 : (-600) ≤ r 6 ∧ r 6 ≤ 600 := hok.1 6 ((-600), 600) rfl
  have b7 : (-600) ≤ r 7 ∧ r 7 ≤ 600 := hok.1 7 ((-600), 600) rfl
  have b8 : (-999999) ≤ r 8 ∧ r 8 ≤ 1000000 := hok.1 8 ((-999999), 1000000) rfl
  have b9 : (-999999) ≤ r 9 ∧ r 9 ≤ 1000000 := hok.1 9 ((-999999), 1000000) rfl
  have b12 : 0 ≤ r 12 ∧ r 12 ≤ 40 := hok.1 12 (0, 40) rfl
  have b14 : 0 ≤ r 14 ∧ r 14 ≤ 4000000000000 := hok.1 14 (0, 4000000000000) rfl
  have b15 : 0 ≤ r 15 ∧ r 15 ≤ 720000 := hok.1 15 (0, 720000) rfl
  have b16 : (-9223372036854775808) ≤ r 16 ∧ r 16 ≤ 9223372036854775807 := hok.1 16 ((-9223372036854775808), 9223372036854775807) rfl
  have b17 : (-9223372036854775808) ≤ r 17 ∧ r 17 ≤ 9223372036854775807 := hok.1 17 ((-9223372036854775808), 9223372036854775807) rfl
  have b18 : 1 ≤ r 18 ∧ r 18 ≤ 4611686018427387904 := hok.1 18 (1, 4611686018427387904) rfl
  have b19 : 1 ≤ r 19 ∧ r 19 ≤ 2000000 := hok.1 19 (1, 2000000) rfl
  have b20 : (-1200) ≤ r 20 ∧ r 20 ≤ 0 := hok.1 20 ((-1200), 0) rfl
  have b21 : (-1200) ≤ r 21 ∧ r 21 ≤ 0 := hok.1 21 ((-1200), 0) rfl
  have b22 : 1 ≤ r 22 ∧ r 22 ≤ 2000000 := hok.1 22 (1, 2000000) rfl
  have f0 : 0 ≤ (((-1) * r 22 + (1 * r 8 + (1 * r 9 + 0))) + 0) := hok.2 _ (List.mem_of_getElem? (i := 0) rfl)
  have f1 : 0 ≤ (((-1) * r 19 + (1 * r 8 + (1 * r 9 + 0))) + 0) := hok.2 _ (List.mem_of_getElem? (i := 1) rfl)
  have f2 : 0 ≤ (((-2) * r 7 + (1 * r 21 + 0)) + 0) := hok.2 _ (List.mem_of_getElem? (i := 2) rfl)
  have f3 : 0 ≤ (((-2) * r 7 + 0) + (-1)) := hok.2 _ (List.mem_of_getElem? (i := 3) rfl)
  have f4 : 0 ≤ (((-2) * r 6 + (1 * r 20 + 0)) + 0) := hok.2 _ (List.mem_of_getElem? (i := 4) rfl)
  have f5 : 0 ≤ (((-2) * r 6 + 0) + (-1)) := hok.2 _ (List.mem_of_getElem? (i := 5) rfl)
  obtain ⟨hG, hgi⟩ := hG
  have hG : True := hG
  obtain ⟨h0, hh, e0, k0⟩ := hh
  have k0 : ∀ j, j ∉ [] → g j = h0 j := k0
  have e0 : ((1 * r 22 + 0) + 0) = (((1 * r 9 + (1 * r 8 + 0)) + 0)).tdiv (((1 * r 19 + 0) + 0)) := e0
  obtain ⟨h1, hh, e1, k1⟩ := hh
  have k1 : ∀ j, j ∉ [] → h0 j = h1 j := k1
  have e1 : ((1 * r 21 + 0) + 0) = (((2 * r 7 + 0) + 0)).tdiv (((1 * r 19 + 0) + 0)) := e1
  obtain ⟨h2, hh, e2, k2⟩ := hh
  have k2 : ∀ j, j ∉ [] → h1 j = h2 j := k2
  have e2 : ((1 * r 20 + 0) + 0) = (((2 * r 6 + 0) + 0)).tdiv (((1 * r 19 + 0) + 0)) := e2
  obtain ⟨h3, hh, e3, k3⟩ := hh
  have k3 : ∀ j, j ∉ [] → h2 j = h3 j := k3
  have e3 : ((1 * r 19 + 0) + 0) = ye_q ((1 * r 18 + 0) + 0) ((1 * r 9 + (1 * r 8 + 0)) + 0) := e3
  obtain ⟨h4, hh, e4, k4⟩ := hh
  have k4 : ∀ j, j ∉ [] → h3 j = h4 j := k4
  have e4 : ((1 * r 18 + 0) + 0) = ye_q ((2 * r 6 + 0) + 0) ((2 * r 7 + 0) + 0) := e4
  obtain ⟨h5, hh, e5, k5⟩ := hh
  have k5 : ∀ j, j ∉ [] → h4 j = h5 j := k5
  have e5 : 0 ≤ ((1 * r 15 + 0) + 0) → ((1 * ((1 * r 16 + 0) + 0) + 0) + 0) = (((1 * r 14 + 0) + 0)).tdiv (ye_q ((1 * r 14 + 0) + 0) ((1 * r 15 + 0) + 0)) ∧ ((1 * ((1 * r 17 + 0) + 0) + 0) + 0) = (((1 * r 15 + 0) + 0)).tdiv (ye_q ((1 * r 14 + 0) + 0) ((1 * r 15 + 0) + 0)) := e5
  obtain ⟨h6, hh, e6, k6⟩ := hh
  have k6 : ∀ j, j ∉ [] → h5 j = h6 j := k6
  have e6 : ((1 * r 15 + 0) + 0) = ((1 * r 6 + 0) + 0) * ((1 * r 6 + 0) + 0) + ((1 * r 7 + 0) + 0) * ((1 * r 7 + 0) + 0) := e6
  obtain ⟨g7, hh, q7, e7⟩ := hh
  subst q7
  have e7 : r 14 = (((-1) * r 9 + (1 * r 8 + 0)) + 0) * (((-1) * r 9 + (1 * r 8 + 0)) + 0) := e7
  try simp only [Int.one_mul, Int.zero_add, Int.add_zero] at e7
  have hh : h6 = gi := hh
  subst hh
  refine yt_dcut (by decide) rfl ?_ ?_
  · rw [show xk_86.2.1.2.1.1.length = 14 from rfl]
    refine yx_fks _ _ ?_
    refine ⟨?_, ?_, trivial⟩
    · show 0 ≤ ((1 * ((0 : Int) + 0) + 0) + 0)
      omega
    · show 0 ≤ (((-1) * ((0 : Int) + 0) + (1 * ((0 : Int) + 0) + 0)) + 0)
      omega
  · rw [show xk_86.2.1.2.1.1.length = 14 from rfl]
    show ((1 * ((1 * r 16 + 0) + 0) + 0) + 0) = ye_wd (g0 3) (g0 4) (((1 * ((1 * r 12 + 0) + 0) + 0) + 0)).toNat ((1 * ((1 * r 6 + 0) + 0) + 0) + 0) ((1 * ((1 * r 7 + 0) + 0) + 0) + 0) ((1 * ((1 * r 8 + 0) + 0) + 0) + 0) ((1 * ((1 * r 9 + 0) + 0) + 0) + 0) 0 ∧ ((1 * ((1 * r 17 + 0) + 0) + 0) + 0) = ye_wd (g0 3) (g0 4) (((1 * ((1 * r 12 + 0) + 0) + 0) + 0)).toNat ((1 * ((1 * r 6 + 0) + 0) + 0) + 0) ((1 * ((1 * r 7 + 0) + 0) + 0) + 0) ((1 * ((1 * r 8 + 0) + 0) + 0) + 0) ((1 * ((1 * r 9 + 0) + 0) + 0) + 0) 1 ∧ ((1 * ((1 * r 20 + 0) + 0) + 0) + 0) = ye_wd (g0 3) (g0 4) (((1 * ((1 * r 12 + 0) + 0) + 0) + 0)).toNat ((1 * ((1 * r 6 + 0) + 0) + 0) + 0) ((1 * ((1 * r 7 + 0) + 0) + 0) + 0) ((1 * ((1 * r 8 + 0) + 0) + 0) + 0) ((1 * ((1 * r 9 + 0) + 0) + 0) + 0) 2 ∧ ((1 * ((1 * r 21 + 0) + 0) + 0) + 0) = ye_wd (g0 3) (g0 4) (((1 * ((1 * r 12 + 0) + 0) + 0) + 0)).toNat ((1 * ((1 * r 6 + 0) + 0) + 0) + 0) ((1 * ((1 * r 7 + 0) + 0) + 0) + 0) ((1 * ((1 * r 8 + 0) + 0) + 0) + 0) ((1 * ((1 * r 9 + 0) + 0) + 0) + 0) 3 ∧ ((1 * ((1 * r 22 + 0) + 0) + 0) + 0) = ye_wd (g0 3) (g0 4) (((1 * ((1 * r 12 + 0) + 0) + 0) + 0)).toNat ((1 * ((1 * r 6 + 0) + 0) + 0) + 0) ((1 * ((1 * r 7 + 0) + 0) + 0) + 0) ((1 * ((1 * r 8 + 0) + 0) + 0) + 0) ((1 * ((1 * r 9 + 0) + 0) + 0) + 0) 4 ∧ ((1 * ((0 : Int) + 0) + 0) + 0) = ye_sc (g0 3) (g0 4) ((1 * ((1 * r 6 + 0) + 0) + 0) + 0) ((1 * ((1 * r 7 + 0) + 0) + 0) + 0) ((1 * ((1 * r 8 + 0) + 0) + 0) + 0) ((1 * ((1 * r 9 + 0) + 0) + 0) + 0) (((1 * ((0 : Int) + 0) + 0) + 0)).toNat ∧ ((1 * ((0 : Int) + 0) + 0) + 0) ≤ ((1 * ((1 * r 12 + 0) + 0) + 0) + 0)
    try simp only [Int.one_mul, Int.zero_add, Int.add_zero]
    try simp only [Int.one_mul, Int.zero_add, Int.add_zero] at e5
    try simp only [Int.one_mul, Int.zero_add, Int.add_zero] at e6
    try simp only [Int.one_mul, Int.zero_add, Int.add_zero] at e7
    try simp only [Int.one_mul, Int.zero_add, Int.add_zero] at e3
    try simp only [Int.one_mul, Int.zero_add, Int.add_zero] at e4
    try simp only [Int.one_mul, Int.zero_add, Int.add_zero] at e0
    try simp only [Int.one_mul, Int.zero_add, Int.add_zero] at e1
    try simp only [Int.one_mul, Int.zero_add, Int.add_zero] at e2
    rw [show -1 * r 9 + r 8 = r 8 - r 9 by omega] at e7
    rw [e6, e7] at e5
    obtain ⟨q0, q1⟩ := e5 (ye_ss (r 6) (r 7))
    rw [e4, show r 9 + r 8 = r 8 + r 9 by omega] at e3
    rw [e3] at e2 e1 e0
    rw [show r 9 + r 8 = r 8 + r 9 by omega] at e0
    refine ⟨?_, ?_, ?_, ?_, ?_, ?_, ?_⟩
    · unfold ye_wd
      rw [if_pos rfl]
      exact q0
    · unfold ye_wd
      rw [if_neg (by decide), if_pos rfl]
      exact q1
    · unfold ye_wd
      rw [if_neg (by decide), if_neg (by decide), if_pos rfl]
      exact e2
    · unfold ye_wd
      rw [if_neg (by decide), if_neg (by decide), if_neg (by decide), if_pos rfl]
      exact e1
    · unfold ye_wd
      rw [if_neg (by decide), if_neg (by decide), if_neg (by decide), if_neg (by decide), if_pos rfl]
      exact e0
    · rfl
    · omega
theorem xw_86_0_26 : yt_hold xT_86 xk_86 xq_86.2.2.1 xG_86 xP_86 xU_86 14 xk_86.2.1.2.2.2 (fun g0 r g => xR_86 r g0 ∧ g = g0) (0, ([(0, 1), ((-9223372036854775808), 9223372036854775807), ((-9223372036854775808), 9223372036854775807), ((-9223372036854775808), 9223372036854775807), (0, 40), ((-2147483648), 2147483647), ((-600), 600), ((-600), 600), ((-1000000), 999999), ((-1000000), 999999), ((-9223372036854775808), 9223372036854775807), ((-9223372036854775808), 9223372036854775807), (0, 40), ((-2147483648), 2147483647), (0, 4000000000000), (0, 720000), ((-9223372036854775808), 9223372036854775807), ((-9223372036854775808), 9223372036854775807), (1, 4611686018427387904), (1, 4611686018427387904), ((-1200), 0), ((-1200), 0), ((-2000000), 0)], [([(9, (-1)), (8, (-1)), (22, 1)], 0), ([(8, (-1)), (9, (-1))], (-1)), ([(7, (-2)), (21, 1)], 0), ([(7, (-2))], (-1)), ([(6, (-2)), (20, 1)], 0), ([(6, (-2))], (-1))]), [([], 0), ([(20, 1)], 0), ([(21, 1)], 0), ([(22, 1)], 0), ([], 0), ([(16, 1)], 0), ([(17, 1)], 0)], [], [.inr (.inr (.inl (998, 1, [([(9, 1), (8, 1)], 0), ([(19, 1)], 0), ([(22, 1)], 0)], [], []))), .inr (.inr (.inl (998, 1, [([(7, 2)], 0), ([(19, 1)], 0), ([(21, 1)], 0)], [], []))), .inr (.inr (.inl (998, 1, [([(6, 2)], 0), ([(19, 1)], 0), ([(20, 1)], 0)], [], []))), .inr (.inr (.inl (312, 0, [([(18, 1)], 0), ([(9, 1), (8, 1)], 0), ([(19, 1)], 0)], [], []))), .inr (.inr (.inl (312, 0, [([(6, 2)], 0), ([(7, 2)], 0), ([(18, 1)], 0)], [], []))), .inr (.inr (.inl (313, 0, [([(14, 1)], 0), ([(15, 1)], 0), ([(10, 1)], 0), ([(11, 1)], 0), ([(16, 1)], 0), ([(17, 1)], 0)], [1], []))), .inr (.inr (.inl (300, 0, [([(6, 1)], 0), ([(7, 1)], 0), ([(15, 1)], 0)], [], []))), .inl (.inr (14, ([(9, (-1)), (8, 1)], 0), ([(9, (-1)), (8, 1)], 0)))]) := by
  intro g0 r gi g hok hh hars hfr hG
  have b0 : 0 ≤ r 0 ∧ r 0 ≤ 1 := hok.1 0 (0, 1) rfl
  have b6 : (-600) ≤ r 6 ∧ r 6 ≤ 600 := hok.1 6 ((-600), 600) rfl
  have b7 : (-600) ≤ r 7 ∧ r 7 ≤ 600 := hok.1 7 ((-600), 600) rfl
  have b8 : (-1000000) ≤ r 8 ∧ r 8 ≤ 999999 := hok.1 8 ((-1000000), 999999) rfl
  have b9 : (-1000000) ≤ r 9 ∧ r 9 ≤ 999999 := hok.1 9 ((-1000000), 999999) rfl
  have b12 : 0 ≤ r 12 ∧ r 12 ≤ 40 := hok.1 12 (0, 40) rfl
  have b14 : 0 ≤ r 14 ∧ r 14 ≤ 4000000000000 := hok.1 14 (0, 4000000000000) rfl
  have b15 : 0 ≤ r 15 ∧ r 15 ≤ 720000 := hok.1 15 (0, 720000) rfl
  have b16 : (-9223372036854775808) ≤ r 16 ∧ r 16 ≤ 9223372036854775807 := hok.1 16 ((-9223372036854775808), 9223372036854775807) rfl
  have b17 : (-9223372036854775808) ≤ r 17 ∧ r 17 ≤ 9223372036854775807 := hok.1 17 ((-9223372036854775808), 9223372036854775807) rfl
  have b18 : 1 ≤ r 18 ∧ r 18 ≤ 4611686018427387904 := hok.1 18 (1, 4611686018427387904) rfl
  have b19 : 1 ≤ r 19 ∧ r 19 ≤ 4611686018427387904 := hok.1 19 (1, 4611686018427387904) rfl
  have b20 : (-1200) ≤ r 20 ∧ r 20 ≤ 0 := hok.1 20 ((-1200), 0) rfl
  have b21 : (-1200) ≤ r 21 ∧ r 21 ≤ 0 := hok.1 21 ((-1200), 0) rfl
  have b22 : (-2000000) ≤ r 22 ∧ r 22 ≤ 0 := hok.1 22 ((-2000000), 0) rfl
  have f0 : 0 ≤ (((-1) * r 9 + ((-1) * r 8 + (1 * r 22 + 0))) + 0) := hok.2 _ (List.mem_of_getElem? (i := 0) rfl)
  have f1 : 0 ≤ (((-1) * r 8 + ((-1) * r 9 + 0)) + (-1)) := hok.2 _ (List.mem_of_getElem? (i := 1) rfl)
  have f2 : 0 ≤ (((-2) * r 7 + (1 * r 21 + 0)) + 0) := hok.2 _ (List.mem_of_getElem? (i := 2) rfl)
  have f3 : 0 ≤ (((-2) * r 7 + 0) + (-1)) := hok.2 _ (List.mem_of_getElem? (i := 3) rfl)
  have f4 : 0 ≤ (((-2) * r 6 + (1 * r 20 + 0)) + 0) := hok.2 _ (List.mem_of_getElem? (i := 4) rfl)
  have f5 : 0 ≤ (((-2) * r 6 + 0) + (-1)) := hok.2 _ (List.mem_of_getElem? (i := 5) rfl)
  obtain ⟨hG, hgi⟩ := hG
  have hG : True := hG
  obtain ⟨h0, hh, e0, k0⟩ := hh
  have k0 : ∀ j, j ∉ [] → g j = h0 j := k0
  have e0 : ((1 * r 22 + 0) + 0) = (((1 * r 9 + (1 * r 8 + 0)) + 0)).tdiv (((1 * r 19 + 0) + 0)) := e0
  obtain ⟨h1, hh, e1, k1⟩ := hh
  have k1 : ∀ j, j ∉ [] → h0 j = h1 j := k1
  have e1 : ((1 * r 21 + 0) + 0) = (((2 * r 7 + 0) + 0)).tdiv (((1 * r 19 + 0) + 0)) := e1
  obtain ⟨h2, hh, e2, k2⟩ := hh
  have k2 : ∀ j, j ∉ [] → h1 j = h2 j := k2
  have e2 : ((1 * r 20 + 0) + 0) = (((2 * r 6 + 0) + 0)).tdiv (((1 * r 19 + 0) + 0)) := e2
  obtain ⟨h3, hh, e3, k3⟩ := hh
  have k3 : ∀ j, j ∉ [] → h2 j = h3 j := k3
  have e3 : ((1 * r 19 + 0) + 0) = ye_q ((1 * r 18 + 0) + 0) ((1 * r 9 + (1 * r 8 + 0)) + 0) := e3
  obtain ⟨h4, hh, e4, k4⟩ := hh
  have k4 : ∀ j, j ∉ [] → h3 j = h4 j := k4
  have e4 : ((1 * r 18 + 0) + 0) = ye_q ((2 * r 6 + 0) + 0) ((2 * r 7 + 0) + 0) := e4
  obtain ⟨h5, hh, e5, k5⟩ := hh
  have k5 : ∀ j, j ∉ [] → h4 j = h5 j := k5
  have e5 : 0 ≤ ((1 * r 15 + 0) + 0) → ((1 * ((1 * r 16 + 0) + 0) + 0) + 0) = (((1 * r 14 + 0) + 0)).tdiv (ye_q ((1 * r 14 + 0) + 0) ((1 * r 15 + 0) + 0)) ∧ ((1 * ((1 * r 17 + 0) + 0) + 0) + 0) = (((1 * r 15 + 0) + 0)).tdiv (ye_q ((1 * r 14 + 0) + 0) ((1 * r 15 + 0) + 0)) := e5
  obtain ⟨h6, hh, e6, k6⟩ := hh
  have k6 : ∀ j, j ∉ [] → h5 j = h6 j := k6
  have e6 : ((1 * r 15 + 0) + 0) = ((1 * r 6 + 0) + 0) * ((1 * r 6 + 0) + 0) + ((1 * r 7 + 0) + 0) * ((1 * r 7 + 0) + 0) := e6
  obtain ⟨g7, hh, q7, e7⟩ := hh
  subst q7
  have e7 : r 14 = (((-1) * r 9 + (1 * r 8 + 0)) + 0) * (((-1) * r 9 + (1 * r 8 + 0)) + 0) := e7
  try simp only [Int.one_mul, Int.zero_add, Int.add_zero] at e7
  have hh : h6 = gi := hh
  subst hh
  refine yt_dcut (by decide) rfl ?_ ?_
  · rw [show xk_86.2.1.2.1.1.length = 14 from rfl]
    refine yx_fks _ _ ?_
    refine ⟨?_, ?_, trivial⟩
    · show 0 ≤ ((1 * ((0 : Int) + 0) + 0) + 0)
      omega
    · show 0 ≤ (((-1) * ((0 : Int) + 0) + (1 * ((0 : Int) + 0) + 0)) + 0)
      omega
  · rw [show xk_86.2.1.2.1.1.length = 14 from rfl]
    show ((1 * ((1 * r 16 + 0) + 0) + 0) + 0) = ye_wd (g0 3) (g0 4) (((1 * ((1 * r 12 + 0) + 0) + 0) + 0)).toNat ((1 * ((1 * r 6 + 0) + 0) + 0) + 0) ((1 * ((1 * r 7 + 0) + 0) + 0) + 0) ((1 * ((1 * r 8 + 0) + 0) + 0) + 0) ((1 * ((1 * r 9 + 0) + 0) + 0) + 0) 0 ∧ ((1 * ((1 * r 17 + 0) + 0) + 0) + 0) = ye_wd (g0 3) (g0 4) (((1 * ((1 * r 12 + 0) + 0) + 0) + 0)).toNat ((1 * ((1 * r 6 + 0) + 0) + 0) + 0) ((1 * ((1 * r 7 + 0) + 0) + 0) + 0) ((1 * ((1 * r 8 + 0) + 0) + 0) + 0) ((1 * ((1 * r 9 + 0) + 0) + 0) + 0) 1 ∧ ((1 * ((1 * r 20 + 0) + 0) + 0) + 0) = ye_wd (g0 3) (g0 4) (((1 * ((1 * r 12 + 0) + 0) + 0) + 0)).toNat ((1 * ((1 * r 6 + 0) + 0) + 0) + 0) ((1 * ((1 * r 7 + 0) + 0) + 0) + 0) ((1 * ((1 * r 8 + 0) + 0) + 0) + 0) ((1 * ((1 * r 9 + 0) + 0) + 0) + 0) 2 ∧ ((1 * ((1 * r 21 + 0) + 0) + 0) + 0) = ye_wd (g0 3) (g0 4) (((1 * ((1 * r 12 + 0) + 0) + 0) + 0)).toNat ((1 * ((1 * r 6 + 0) + 0) + 0) + 0) ((1 * ((1 * r 7 + 0) + 0) + 0) + 0) ((1 * ((1 * r 8 + 0) + 0) + 0) + 0) ((1 * ((1 * r 9 + 0) + 0) + 0) + 0) 3 ∧ ((1 * ((1 * r 22 + 0) + 0) + 0) + 0) = ye_wd (g0 3) (g0 4) (((1 * ((1 * r 12 + 0) + 0) + 0) + 0)).toNat ((1 * ((1 * r 6 + 0) + 0) + 0) + 0) ((1 * ((1 * r 7 + 0) + 0) + 0) + 0) ((1 * ((1 * r 8 + 0) + 0) + 0) + 0) ((1 * ((1 * r 9 + 0) + 0) + 0) + 0) 4 ∧ ((1 * ((0 : Int) + 0) + 0) + 0) = ye_sc (g0 3) (g0 4) ((1 * ((1 * r 6 + 0) + 0) + 0) + 0) ((1 * ((1 * r 7 + 0) + 0) + 0) + 0) ((1 * ((1 * r 8 + 0) + 0) + 0) + 0) ((1 * ((1 * r 9 + 0) + 0) + 0) + 0) (((1 * ((0 : Int) + 0) + 0) + 0)).toNat ∧ ((1 * ((0 : Int) + 0) + 0) + 0) ≤ ((1 * ((1 * r 12 + 0) + 0) + 0) + 0)
    try simp only [Int.one_mul, Int.zero_add, Int.add_zero]
    try simp only [Int.one_mul, Int.zero_add, Int.add_zero] at e5
    try simp only [Int.one_mul, Int.zero_add, Int.add_zero] at e6
    try simp only [Int.one_mul, Int.zero_add, Int.add_zero] at e7
    try simp only [Int.one_mul, Int.zero_add, Int.add_zero] at e3
    try simp only [Int.one_mul, Int.zero_add, Int.add_zero] at e4
    try simp only [Int.one_mul, Int.zero_add, Int.add_zero] at e0
    try simp only [Int.one_mul, Int.zero_add, Int.add_zero] at e1
    try simp only [Int.one_mul, Int.zero_add, Int.add_zero] at e2
    rw [show -1 * r 9 + r 8 = r 8 - r 9 by omega] at e7
    rw [e6, e7] at e5
    obtain ⟨q0, q1⟩ := e5 (ye_ss (r 6) (r 7))
    rw [e4, show r 9 + r 8 = r 8 + r 9 by omega] at e3
    rw [e3] at e2 e1 e0
    rw [show r 9 + r 8 = r 8 + r 9 by omega] at e0
    refine ⟨?_, ?_, ?_, ?_, ?_, ?_, ?_⟩
    · unfold ye_wd
      rw [if_pos rfl]
      exact q0
    · unfold ye_wd
      rw [if_neg (by decide), if_pos rfl]
      exact q1
    · unfold ye_wd
      rw [if_neg (by decide), if_neg (by decide), if_pos rfl]
      exact e2
    · unfold ye_wd
      rw [if_neg (by decide), if_neg (by decide), if_neg (by decide), if_pos rfl]
      exact e1
    · unfold ye_wd
      rw [if_neg (by decide), if_neg (by decide), if_neg (by decide), if_neg (by decide), if_pos rfl]
      exact e0
    · rfl
    · omega
theorem xw_86_1_0 : yt_hold xT_86 xk_86 xq_86.2.2.1 xG_86 xP_86 xU_86 21 ((xq_86.2.2.1.getD 0 (0, ([], [], ([], []), [], [], ([], 0)), [], false)).2.1.2.2.1.2) (xG_86 0) (1000, ([(0, 1), ((-9223372036854775808), 9223372036854775807), ((-9223372036854775808), 9223372036854775807), ((-9223372036854775808), 9223372036854775807), (0, 40), ((-2147483648), 2147483647), ((-600), 600), ((-600), 600), ((-1000000), 1000000), ((-1000000), 1000000), ((-9223372036854775808), 9223372036854775807), ((-9223372036854775808), 9223372036854775807), (0, 40), ((-2147483648), 2147483647), (0, 40), ((-1200), 4000), ((-1200), 1200), ((-2000000), 2000000), (0, 40), ((-9223372036854775808), 9223372036854775807), ((-9223372036854775808), 9223372036854775807)], [([(12, (-1)), (14, 1)], 0), ([(18, (-1)), (14, 1)], 0)]), [([(15, 1)], 0), ([(16, 1)], 0), ([(17, 1)], 0), ([(18, 1)], 0), ([(19, 1)], 0), ([(20, 1)], 0)], [], []) := by
  intro g0 r gi g hok hh hars hfr hG
  have b0 : 0 ≤ r 0 ∧ r 0 ≤ 1 := hok.1 0 (0, 1) rfl
  have b6 : (-600) ≤ r 6 ∧ r 6 ≤ 600 := hok.1 6 ((-600), 600) rfl
  have b7 : (-600) ≤ r 7 ∧ r 7 ≤ 600 := hok.1 7 ((-600), 600) rfl
  have b8 : (-1000000) ≤ r 8 ∧ r 8 ≤ 1000000 := hok.1 8 ((-1000000), 1000000) rfl
  have b9 : (-1000000) ≤ r 9 ∧ r 9 ≤ 1000000 := hok.1 9 ((-1000000), 1000000) rfl
  have b12 : 0 ≤ r 12 ∧ r 12 ≤ 40 := hok.1 12 (0, 40) rfl
  have b14 : 0 ≤ r 14 ∧ r 14 ≤ 40 := hok.1 14 (0, 40) rfl
  have b15 : (-1200) ≤ r 15 ∧ r 15 ≤ 4000 := hok.1 15 ((-1200), 4000) rfl
  have b16 : (-1200) ≤ r 16 ∧ r 16 ≤ 1200 := hok.1 16 ((-1200), 1200) rfl
  have b17 : (-2000000) ≤ r 17 ∧ r 17 ≤ 2000000 := hok.1 17 ((-2000000), 2000000) rfl
  have b18 : 0 ≤ r 18 ∧ r 18 ≤ 40 := hok.1 18 (0, 40) rfl
  have b19 : (-9223372036854775808) ≤ r 19 ∧ r 19 ≤ 9223372036854775807 := hok.1 19 ((-9223372036854775808), 9223372036854775807) rfl
  have b20 : (-9223372036854775808) ≤ r 20 ∧ r 20 ≤ 9223372036854775807 := hok.1 20 ((-9223372036854775808), 9223372036854775807) rfl
  have f0 : 0 ≤ (((-1) * r 12 + (1 * r 14 + 0)) + 0) := hok.2 _ (List.mem_of_getElem? (i := 0) rfl)
  have f1 : 0 ≤ (((-1) * r 18 + (1 * r 14 + 0)) + 0) := hok.2 _ (List.mem_of_getElem? (i := 1) rfl)
  have hG : ((1 * (r 19) + 0) + 0) = ye_wd (g0 3) (g0 4) (((1 * (r 12) + 0) + 0)).toNat ((1 * (r 6) + 0) + 0) ((1 * (r 7) + 0) + 0) ((1 * (r 8) + 0) + 0) ((1 * (r 9) + 0) + 0) 0 ∧ ((1 * (r 20) + 0) + 0) = ye_wd (g0 3) (g0 4) (((1 * (r 12) + 0) + 0)).toNat ((1 * (r 6) + 0) + 0) ((1 * (r 7) + 0) + 0) ((1 * (r 8) + 0) + 0) ((1 * (r 9) + 0) + 0) 1 ∧ ((1 * (r 15) + 0) + 0) = ye_wd (g0 3) (g0 4) (((1 * (r 12) + 0) + 0)).toNat ((1 * (r 6) + 0) + 0) ((1 * (r 7) + 0) + 0) ((1 * (r 8) + 0) + 0) ((1 * (r 9) + 0) + 0) 2 ∧ ((1 * (r 16) + 0) + 0) = ye_wd (g0 3) (g0 4) (((1 * (r 12) + 0) + 0)).toNat ((1 * (r 6) + 0) + 0) ((1 * (r 7) + 0) + 0) ((1 * (r 8) + 0) + 0) ((1 * (r 9) + 0) + 0) 3 ∧ ((1 * (r 17) + 0) + 0) = ye_wd (g0 3) (g0 4) (((1 * (r 12) + 0) + 0)).toNat ((1 * (r 6) + 0) + 0) ((1 * (r 7) + 0) + 0) ((1 * (r 8) + 0) + 0) ((1 * (r 9) + 0) + 0) 4 ∧ ((1 * (r 18) + 0) + 0) = ye_sc (g0 3) (g0 4) ((1 * (r 6) + 0) + 0) ((1 * (r 7) + 0) + 0) ((1 * (r 8) + 0) + 0) ((1 * (r 9) + 0) + 0) (((1 * (r 14) + 0) + 0)).toNat ∧ ((1 * (r 14) + 0) + 0) ≤ ((1 * (r 12) + 0) + 0) := hG
  have hh : g = gi := hh
  subst hh
  have hG : ((1 * (r 19) + 0) + 0) = ye_wd (g0 3) (g0 4) (((1 * (r 12) + 0) + 0)).toNat ((1 * (r 6) + 0) + 0) ((1 * (r 7) + 0) + 0) ((1 * (r 8) + 0) + 0) ((1 * (r 9) + 0) + 0) 0 ∧ ((1 * (r 20) + 0) + 0) = ye_wd (g0 3) (g0 4) (((1 * (r 12) + 0) + 0)).toNat ((1 * (r 6) + 0) + 0) ((1 * (r 7) + 0) + 0) ((1 * (r 8) + 0) + 0) ((1 * (r 9) + 0) + 0) 1 ∧ ((1 * (r 15) + 0) + 0) = ye_wd (g0 3) (g0 4) (((1 * (r 12) + 0) + 0)).toNat ((1 * (r 6) + 0) + 0) ((1 * (r 7) + 0) + 0) ((1 * (r 8) + 0) + 0) ((1 * (r 9) + 0) + 0) 2 ∧ ((1 * (r 16) + 0) + 0) = ye_wd (g0 3) (g0 4) (((1 * (r 12) + 0) + 0)).toNat ((1 * (r 6) + 0) + 0) ((1 * (r 7) + 0) + 0) ((1 * (r 8) + 0) + 0) ((1 * (r 9) + 0) + 0) 3 ∧ ((1 * (r 17) + 0) + 0) = ye_wd (g0 3) (g0 4) (((1 * (r 12) + 0) + 0)).toNat ((1 * (r 6) + 0) + 0) ((1 * (r 7) + 0) + 0) ((1 * (r 8) + 0) + 0) ((1 * (r 9) + 0) + 0) 4 ∧ ((1 * (r 18) + 0) + 0) = ye_sc (g0 3) (g0 4) ((1 * (r 6) + 0) + 0) ((1 * (r 7) + 0) + 0) ((1 * (r 8) + 0) + 0) ((1 * (r 9) + 0) + 0) (((1 * (r 14) + 0) + 0)).toNat ∧ ((1 * (r 14) + 0) + 0) ≤ ((1 * (r 12) + 0) + 0) := hG
  refine yt_dalt (by decide) (by decide) ?_
  rw [show xk_86.2.1.2.1.1.length = 14 from rfl]
  show ((1 * ((1 * r 19 + 0) + 0) + 0) + 0) = ye_wd (g0 3) (g0 4) (((1 * ((1 * r 12 + 0) + 0) + 0) + 0)).toNat ((1 * ((1 * r 6 + 0) + 0) + 0) + 0) ((1 * ((1 * r 7 + 0) + 0) + 0) + 0) ((1 * ((1 * r 8 + 0) + 0) + 0) + 0) ((1 * ((1 * r 9 + 0) + 0) + 0) + 0) 0 ∧ ((1 * ((1 * r 20 + 0) + 0) + 0) + 0) = ye_wd (g0 3) (g0 4) (((1 * ((1 * r 12 + 0) + 0) + 0) + 0)).toNat ((1 * ((1 * r 6 + 0) + 0) + 0) + 0) ((1 * ((1 * r 7 + 0) + 0) + 0) + 0) ((1 * ((1 * r 8 + 0) + 0) + 0) + 0) ((1 * ((1 * r 9 + 0) + 0) + 0) + 0) 1 ∧ ((1 * ((1 * r 15 + 0) + 0) + 0) + 0) = ye_wd (g0 3) (g0 4) (((1 * ((1 * r 12 + 0) + 0) + 0) + 0)).toNat ((1 * ((1 * r 6 + 0) + 0) + 0) + 0) ((1 * ((1 * r 7 + 0) + 0) + 0) + 0) ((1 * ((1 * r 8 + 0) + 0) + 0) + 0) ((1 * ((1 * r 9 + 0) + 0) + 0) + 0) 2 ∧ ((1 * ((1 * r 16 + 0) + 0) + 0) + 0) = ye_wd (g0 3) (g0 4) (((1 * ((1 * r 12 + 0) + 0) + 0) + 0)).toNat ((1 * ((1 * r 6 + 0) + 0) + 0) + 0) ((1 * ((1 * r 7 + 0) + 0) + 0) + 0) ((1 * ((1 * r 8 + 0) + 0) + 0) + 0) ((1 * ((1 * r 9 + 0) + 0) + 0) + 0) 3 ∧ ((1 * ((1 * r 17 + 0) + 0) + 0) + 0) = ye_wd (g0 3) (g0 4) (((1 * ((1 * r 12 + 0) + 0) + 0) + 0)).toNat ((1 * ((1 * r 6 + 0) + 0) + 0) + 0) ((1 * ((1 * r 7 + 0) + 0) + 0) + 0) ((1 * ((1 * r 8 + 0) + 0) + 0) + 0) ((1 * ((1 * r 9 + 0) + 0) + 0) + 0) 4 ∧ ((1 * ((1 * r 18 + 0) + 0) + 0) + 0) = ye_wd (g0 3) (g0 4) (((1 * ((1 * r 12 + 0) + 0) + 0) + 0)).toNat ((1 * ((1 * r 6 + 0) + 0) + 0) + 0) ((1 * ((1 * r 7 + 0) + 0) + 0) + 0) ((1 * ((1 * r 8 + 0) + 0) + 0) + 0) ((1 * ((1 * r 9 + 0) + 0) + 0) + 0) 5
  try simp only [Int.one_mul, Int.zero_add, Int.add_zero]
  try simp only [Int.one_mul, Int.zero_add, Int.add_zero] at hG
  obtain ⟨q0, q1, q2, q3, q4, q5, q6⟩ := hG
  rw [show r 14 = r 12 by omega] at q5
  exact ⟨q0, q1, q2, q3, q4, by
    unfold ye_wd
    rw [if_neg (by decide), if_neg (by decide), if_neg (by decide), if_neg (by decide), if_neg (by decide)]
    exact q5⟩
theorem xw_86_1_1 : yt_hold xT_86 xk_86 xq_86.2.2.1 xG_86 xP_86 xU_86 21 ((xq_86.2.2.1.getD 0 (0, ([], [], ([], []), [], [], ([], 0)), [], false)).2.1.2.2.1.2) (xG_86 0) (0, ([(0, 1), ((-9223372036854775808), 9223372036854775807), ((-9223372036854775808), 9223372036854775807), ((-9223372036854775808), 9223372036854775807), (0, 40), ((-2147483648), 2147483647), ((-600), 600), ((-600), 600), ((-1000000), 1000000), ((-1000000), 1000000), ((-9223372036854775808), 9223372036854775807), ((-9223372036854775808), 9223372036854775807), (1, 40), ((-2147483648), 2147483647), (0, 39), ((-1200), 4000), ((-1200), 1200), ((-2000000), 2000000), (0, 40), ((-9223372036854775808), 9223372036854775807), ((-9223372036854775808), 9223372036854775807)], [([(12, 1), (14, (-1))], (-1)), ([(18, (-1)), (14, 1)], 0)]), [([(14, 1)], 1), ([(15, 1)], 0), ([(16, 1)], 0), ([(17, 1)], 0), ([(18, 1)], 0), ([(19, 1)], 0), ([(20, 1)], 0)], [], [.inr (.inr (.inl (314, 0, [([(14, 1)], 0), ([(0, 1)], 0), ([(15, 1)], 0), ([(16, 1)], 0), ([(17, 1)], 0), ([(18, 1)], 0), ([(5, 1)], 0), ([(6, 1)], 0), ([(7, 1)], 0), ([(8, 1)], 0), ([(9, 1)], 0), ([(12, 1)], 0), ([(13, 1)], 0)], [0, 2, 3, 4, 1, 5, 6], [])))]) := by
  intro g0 r gi g hok hh hars hfr hG
  have b0 : 0 ≤ r 0 ∧ r 0 ≤ 1 := hok.1 0 (0, 1) rfl
  have b6 : (-600) ≤ r 6 ∧ r 6 ≤ 600 := hok.1 6 ((-600), 600) rfl
  have b7 : (-600) ≤ r 7 ∧ r 7 ≤ 600 := hok.1 7 ((-600), 600) rfl
  have b8 : (-1000000) ≤ r 8 ∧ r 8 ≤ 1000000 := hok.1 8 ((-1000000), 1000000) rfl
  have b9 : (-1000000) ≤ r 9 ∧ r 9 ≤ 1000000 := hok.1 9 ((-1000000), 1000000) rfl
  have b12 : 1 ≤ r 12 ∧ r 12 ≤ 40 := hok.1 12 (1, 40) rfl
  have b14 : 0 ≤ r 14 ∧ r 14 ≤ 39 := hok.1 14 (0, 39) rfl
  have b15 : (-1200) ≤ r 15 ∧ r 15 ≤ 4000 := hok.1 15 ((-1200), 4000) rfl
  have b16 : (-1200) ≤ r 16 ∧ r 16 ≤ 1200 := hok.1 16 ((-1200), 1200) rfl
  have b17 : (-2000000) ≤ r 17 ∧ r 17 ≤ 2000000 := hok.1 17 ((-2000000), 2000000) rfl
  have b18 : 0 ≤ r 18 ∧ r 18 ≤ 40 := hok.1 18 (0, 40) rfl
  have b19 : (-9223372036854775808) ≤ r 19 ∧ r 19 ≤ 9223372036854775807 := hok.1 19 ((-9223372036854775808), 9223372036854775807) rfl
  have b20 : (-9223372036854775808) ≤ r 20 ∧ r 20 ≤ 9223372036854775807 := hok.1 20 ((-9223372036854775808), 9223372036854775807) rfl
  have f0 : 0 ≤ ((1 * r 12 + ((-1) * r 14 + 0)) + (-1)) := hok.2 _ (List.mem_of_getElem? (i := 0) rfl)
  have f1 : 0 ≤ (((-1) * r 18 + (1 * r 14 + 0)) + 0) := hok.2 _ (List.mem_of_getElem? (i := 1) rfl)
  have hG : ((1 * (r 19) + 0) + 0) = ye_wd (g0 3) (g0 4) (((1 * (r 12) + 0) + 0)).toNat ((1 * (r 6) + 0) + 0) ((1 * (r 7) + 0) + 0) ((1 * (r 8) + 0) + 0) ((1 * (r 9) + 0) + 0) 0 ∧ ((1 * (r 20) + 0) + 0) = ye_wd (g0 3) (g0 4) (((1 * (r 12) + 0) + 0)).toNat ((1 * (r 6) + 0) + 0) ((1 * (r 7) + 0) + 0) ((1 * (r 8) + 0) + 0) ((1 * (r 9) + 0) + 0) 1 ∧ ((1 * (r 15) + 0) + 0) = ye_wd (g0 3) (g0 4) (((1 * (r 12) + 0) + 0)).toNat ((1 * (r 6) + 0) + 0) ((1 * (r 7) + 0) + 0) ((1 * (r 8) + 0) + 0) ((1 * (r 9) + 0) + 0) 2 ∧ ((1 * (r 16) + 0) + 0) = ye_wd (g0 3) (g0 4) (((1 * (r 12) + 0) + 0)).toNat ((1 * (r 6) + 0) + 0) ((1 * (r 7) + 0) + 0) ((1 * (r 8) + 0) + 0) ((1 * (r 9) + 0) + 0) 3 ∧ ((1 * (r 17) + 0) + 0) = ye_wd (g0 3) (g0 4) (((1 * (r 12) + 0) + 0)).toNat ((1 * (r 6) + 0) + 0) ((1 * (r 7) + 0) + 0) ((1 * (r 8) + 0) + 0) ((1 * (r 9) + 0) + 0) 4 ∧ ((1 * (r 18) + 0) + 0) = ye_sc (g0 3) (g0 4) ((1 * (r 6) + 0) + 0) ((1 * (r 7) + 0) + 0) ((1 * (r 8) + 0) + 0) ((1 * (r 9) + 0) + 0) (((1 * (r 14) + 0) + 0)).toNat ∧ ((1 * (r 14) + 0) + 0) ≤ ((1 * (r 12) + 0) + 0) := hG
  obtain ⟨h0, hh, e0, k0⟩ := hh
  have k0 : ∀ j, j ∉ [] → g j = h0 j := k0
  have e0 : ¬ (ye_d (h0 3) (h0 4) ((1 * ((1 * r 6 + 0) + 0) + 0) + 0) ((1 * ((1 * r 7 + 0) + 0) + 0) + 0) (((1 * r 14 + 0) + 0)).toNat = ((1 * ((1 * r 8 + 0) + 0) + 0) + 0) ∨ ye_d (h0 3) (h0 4) ((1 * ((1 * r 6 + 0) + 0) + 0) + 0) ((1 * ((1 * r 7 + 0) + 0) + 0) + 0) (((1 * r 14 + 0) + 0)).toNat = ((1 * ((1 * r 9 + 0) + 0) + 0) + 0)) := e0
  have hh : h0 = gi := hh
  subst hh
  have hG : ((1 * (r 19) + 0) + 0) = ye_wd (g0 3) (g0 4) (((1 * (r 12) + 0) + 0)).toNat ((1 * (r 6) + 0) + 0) ((1 * (r 7) + 0) + 0) ((1 * (r 8) + 0) + 0) ((1 * (r 9) + 0) + 0) 0 ∧ ((1 * (r 20) + 0) + 0) = ye_wd (g0 3) (g0 4) (((1 * (r 12) + 0) + 0)).toNat ((1 * (r 6) + 0) + 0) ((1 * (r 7) + 0) + 0) ((1 * (r 8) + 0) + 0) ((1 * (r 9) + 0) + 0) 1 ∧ ((1 * (r 15) + 0) + 0) = ye_wd (g0 3) (g0 4) (((1 * (r 12) + 0) + 0)).toNat ((1 * (r 6) + 0) + 0) ((1 * (r 7) + 0) + 0) ((1 * (r 8) + 0) + 0) ((1 * (r 9) + 0) + 0) 2 ∧ ((1 * (r 16) + 0) + 0) = ye_wd (g0 3) (g0 4) (((1 * (r 12) + 0) + 0)).toNat ((1 * (r 6) + 0) + 0) ((1 * (r 7) + 0) + 0) ((1 * (r 8) + 0) + 0) ((1 * (r 9) + 0) + 0) 3 ∧ ((1 * (r 17) + 0) + 0) = ye_wd (g0 3) (g0 4) (((1 * (r 12) + 0) + 0)).toNat ((1 * (r 6) + 0) + 0) ((1 * (r 7) + 0) + 0) ((1 * (r 8) + 0) + 0) ((1 * (r 9) + 0) + 0) 4 ∧ ((1 * (r 18) + 0) + 0) = ye_sc (g0 3) (g0 4) ((1 * (r 6) + 0) + 0) ((1 * (r 7) + 0) + 0) ((1 * (r 8) + 0) + 0) ((1 * (r 9) + 0) + 0) (((1 * (r 14) + 0) + 0)).toNat ∧ ((1 * (r 14) + 0) + 0) ≤ ((1 * (r 12) + 0) + 0) := hG
  refine yt_dcut (by decide) rfl ?_ ?_
  · rw [show xk_86.2.1.2.1.1.length = 14 from rfl]
    refine yx_fks _ _ ?_
    refine ⟨?_, ?_, trivial⟩
    · show 0 ≤ ((1 * ((1 * r 18 + 0) + 0) + 0) + 0)
      try simp only [Int.one_mul, Int.zero_add, Int.add_zero] at hG
      obtain ⟨q0, q1, q2, q3, q4, q5, q6⟩ := hG
      have k := ye_sc_b (x := g0 3) (y := g0 4) (a := r 6) (b := r 7) (l := r 8) (h := r 9) (r 14).toNat
      omega
    · show 0 ≤ (((-1) * ((1 * r 18 + 0) + 0) + (1 * ((1 * r 14 + 0) + 1) + 0)) + 0)
      try simp only [Int.one_mul, Int.zero_add, Int.add_zero] at hG
      obtain ⟨q0, q1, q2, q3, q4, q5, q6⟩ := hG
      have k := ye_sc_b (x := g0 3) (y := g0 4) (a := r 6) (b := r 7) (l := r 8) (h := r 9) (r 14).toNat
      omega
  · rw [show xk_86.2.1.2.1.1.length = 14 from rfl]
    show ((1 * ((1 * r 19 + 0) + 0) + 0) + 0) = ye_wd (g0 3) (g0 4) (((1 * ((1 * r 12 + 0) + 0) + 0) + 0)).toNat ((1 * ((1 * r 6 + 0) + 0) + 0) + 0) ((1 * ((1 * r 7 + 0) + 0) + 0) + 0) ((1 * ((1 * r 8 + 0) + 0) + 0) + 0) ((1 * ((1 * r 9 + 0) + 0) + 0) + 0) 0 ∧ ((1 * ((1 * r 20 + 0) + 0) + 0) + 0) = ye_wd (g0 3) (g0 4) (((1 * ((1 * r 12 + 0) + 0) + 0) + 0)).toNat ((1 * ((1 * r 6 + 0) + 0) + 0) + 0) ((1 * ((1 * r 7 + 0) + 0) + 0) + 0) ((1 * ((1 * r 8 + 0) + 0) + 0) + 0) ((1 * ((1 * r 9 + 0) + 0) + 0) + 0) 1 ∧ ((1 * ((1 * r 15 + 0) + 0) + 0) + 0) = ye_wd (g0 3) (g0 4) (((1 * ((1 * r 12 + 0) + 0) + 0) + 0)).toNat ((1 * ((1 * r 6 + 0) + 0) + 0) + 0) ((1 * ((1 * r 7 + 0) + 0) + 0) + 0) ((1 * ((1 * r 8 + 0) + 0) + 0) + 0) ((1 * ((1 * r 9 + 0) + 0) + 0) + 0) 2 ∧ ((1 * ((1 * r 16 + 0) + 0) + 0) + 0) = ye_wd (g0 3) (g0 4) (((1 * ((1 * r 12 + 0) + 0) + 0) + 0)).toNat ((1 * ((1 * r 6 + 0) + 0) + 0) + 0) ((1 * ((1 * r 7 + 0) + 0) + 0) + 0) ((1 * ((1 * r 8 + 0) + 0) + 0) + 0) ((1 * ((1 * r 9 + 0) + 0) + 0) + 0) 3 ∧ ((1 * ((1 * r 17 + 0) + 0) + 0) + 0) = ye_wd (g0 3) (g0 4) (((1 * ((1 * r 12 + 0) + 0) + 0) + 0)).toNat ((1 * ((1 * r 6 + 0) + 0) + 0) + 0) ((1 * ((1 * r 7 + 0) + 0) + 0) + 0) ((1 * ((1 * r 8 + 0) + 0) + 0) + 0) ((1 * ((1 * r 9 + 0) + 0) + 0) + 0) 4 ∧ ((1 * ((1 * r 18 + 0) + 0) + 0) + 0) = ye_sc (g0 3) (g0 4) ((1 * ((1 * r 6 + 0) + 0) + 0) + 0) ((1 * ((1 * r 7 + 0) + 0) + 0) + 0) ((1 * ((1 * r 8 + 0) + 0) + 0) + 0) ((1 * ((1 * r 9 + 0) + 0) + 0) + 0) (((1 * ((1 * r 14 + 0) + 1) + 0) + 0)).toNat ∧ ((1 * ((1 * r 14 + 0) + 1) + 0) + 0) ≤ ((1 * ((1 * r 12 + 0) + 0) + 0) + 0)
    try simp only [Int.one_mul, Int.zero_add, Int.add_zero]
    try simp only [Int.one_mul, Int.zero_add, Int.add_zero] at hG
    obtain ⟨q0, q1, q2, q3, q4, q5, q6⟩ := hG
    try simp only [Int.one_mul, Int.zero_add, Int.add_zero] at e0
    rw [hfr 3 (by decide), hfr 4 (by decide)] at e0
    rw [ye_sc_s (j := r 14) (by omega) (by omega), ← q5, if_neg e0]
    exact ⟨q0, q1, q2, q3, q4, by omega, by omega⟩
theorem xw_86_1_2 : yt_hold xT_86 xk_86 xq_86.2.2.1 xG_86 xP_86 xU_86 21 ((xq_86.2.2.1.getD 0 (0, ([], [], ([], []), [], [], ([], 0)), [], false)).2.1.2.2.1.2) (xG_86 0) (0, ([(0, 1), ((-9223372036854775808), 9223372036854775807), ((-9223372036854775808), 9223372036854775807), ((-9223372036854775808), 9223372036854775807), (0, 40), ((-2147483648), 2147483647), ((-600), 600), ((-600), 600), ((-1000000), 1000000), ((-1000000), 1000000), ((-9223372036854775808), 9223372036854775807), ((-9223372036854775808), 9223372036854775807), (1, 40), ((-2147483648), 2147483647), (0, 39), ((-1200), 4000), ((-1200), 1200), ((-2000000), 2000000), (0, 40), ((-9223372036854775808), 9223372036854775807), ((-9223372036854775808), 9223372036854775807)], [([(12, 1), (14, (-1))], (-1)), ([(18, (-1)), (14, 1)], 0)]), [([(14, 1)], 1), ([(15, 1)], 0), ([(16, 1)], 0), ([(17, 1)], 0), ([(18, 1)], 1), ([(19, 1)], 0), ([(20, 1)], 0)], [], [.inr (.inr (.inl (314, 1, [([(14, 1)], 0), ([(0, 1)], 0), ([(15, 1)], 0), ([(16, 1)], 0), ([(17, 1)], 0), ([(18, 1)], 0), ([(5, 1)], 0), ([(6, 1)], 0), ([(7, 1)], 0), ([(8, 1)], 0), ([(9, 1)], 0), ([(12, 1)], 0), ([(13, 1)], 0)], [0, 2, 3, 4, 1, 5, 6], [])))]) := by
  intro g0 r gi g hok hh hars hfr hG
  have b0 : 0 ≤ r 0 ∧ r 0 ≤ 1 := hok.1 0 (0, 1) rfl
  have b6 : (-600) ≤ r 6 ∧ r 6 ≤ 600 := hok.1 6 ((-600), 600) rfl
  have b7 : (-600) ≤ r 7 ∧ r 7 ≤ 600 := hok.1 7 ((-600), 600) rfl
  have b8 : (-1000000) ≤ r 8 ∧ r 8 ≤ 1000000 := hok.1 8 ((-1000000), 1000000) rfl
  have b9 : (-1000000) ≤ r 9 ∧ r 9 ≤ 1000000 := hok.1 9 ((-1000000), 1000000) rfl
  have b12 : 1 ≤ r 12 ∧ r 12 ≤ 40 := hok.1 12 (1, 40) rfl
  have b14 : 0 ≤ r 14 ∧ r 14 ≤ 39 := hok.1 14 (0, 39) rfl
  have b15 : (-1200) ≤ r 15 ∧ r 15 ≤ 4000 := hok.1 15 ((-1200), 4000) rfl
  have b16 : (-1200) ≤ r 16 ∧ r 16 ≤ 1200 := hok.1 16 ((-1200), 1200) rfl
  have b17 : (-2000000) ≤ r 17 ∧ r 17 ≤ 2000000 := hok.1 17 ((-2000000), 2000000) rfl
  have b18 : 0 ≤ r 18 ∧ r 18 ≤ 40 := hok.1 18 (0, 40) rfl
  have b19 : (-9223372036854775808) ≤ r 19 ∧ r 19 ≤ 9223372036854775807 := hok.1 19 ((-9223372036854775808), 9223372036854775807) rfl
  have b20 : (-9223372036854775808) ≤ r 20 ∧ r 20 ≤ 9223372036854775807 := hok.1 20 ((-9223372036854775808), 9223372036854775807) rfl
  have f0 : 0 ≤ ((1 * r 12 + ((-1) * r 14 + 0)) + (-1)) := hok.2 _ (List.mem_of_getElem? (i := 0) rfl)
  have f1 : 0 ≤ (((-1) * r 18 + (1 * r 14 + 0)) + 0) := hok.2 _ (List.mem_of_getElem? (i := 1) rfl)
  have hG : ((1 * (r 19) + 0) + 0) = ye_wd (g0 3) (g0 4) (((1 * (r 12) + 0) + 0)).toNat ((1 * (r 6) + 0) + 0) ((1 * (r 7) + 0) + 0) ((1 * (r 8) + 0) + 0) ((1 * (r 9) + 0) + 0) 0 ∧ ((1 * (r 20) + 0) + 0) = ye_wd (g0 3) (g0 4) (((1 * (r 12) + 0) + 0)).toNat ((1 * (r 6) + 0) + 0) ((1 * (r 7) + 0) + 0) ((1 * (r 8) + 0) + 0) ((1 * (r 9) + 0) + 0) 1 ∧ ((1 * (r 15) + 0) + 0) = ye_wd (g0 3) (g0 4) (((1 * (r 12) + 0) + 0)).toNat ((1 * (r 6) + 0) + 0) ((1 * (r 7) + 0) + 0) ((1 * (r 8) + 0) + 0) ((1 * (r 9) + 0) + 0) 2 ∧ ((1 * (r 16) + 0) + 0) = ye_wd (g0 3) (g0 4) (((1 * (r 12) + 0) + 0)).toNat ((1 * (r 6) + 0) + 0) ((1 * (r 7) + 0) + 0) ((1 * (r 8) + 0) + 0) ((1 * (r 9) + 0) + 0) 3 ∧ ((1 * (r 17) + 0) + 0) = ye_wd (g0 3) (g0 4) (((1 * (r 12) + 0) + 0)).toNat ((1 * (r 6) + 0) + 0) ((1 * (r 7) + 0) + 0) ((1 * (r 8) + 0) + 0) ((1 * (r 9) + 0) + 0) 4 ∧ ((1 * (r 18) + 0) + 0) = ye_sc (g0 3) (g0 4) ((1 * (r 6) + 0) + 0) ((1 * (r 7) + 0) + 0) ((1 * (r 8) + 0) + 0) ((1 * (r 9) + 0) + 0) (((1 * (r 14) + 0) + 0)).toNat ∧ ((1 * (r 14) + 0) + 0) ≤ ((1 * (r 12) + 0) + 0) := hG
  obtain ⟨h0, hh, e0, k0⟩ := hh
  have k0 : ∀ j, j ∉ [] → g j = h0 j := k0
  have e0 : (ye_d (h0 3) (h0 4) ((1 * ((1 * r 6 + 0) + 0) + 0) + 0) ((1 * ((1 * r 7 + 0) + 0) + 0) + 0) (((1 * r 14 + 0) + 0)).toNat = ((1 * ((1 * r 8 + 0) + 0) + 0) + 0) ∨ ye_d (h0 3) (h0 4) ((1 * ((1 * r 6 + 0) + 0) + 0) + 0) ((1 * ((1 * r 7 + 0) + 0) + 0) + 0) (((1 * r 14 + 0) + 0)).toNat = ((1 * ((1 * r 9 + 0) + 0) + 0) + 0)) := e0
  have hh : h0 = gi := hh
  subst hh
  have hG : ((1 * (r 19) + 0) + 0) = ye_wd (g0 3) (g0 4) (((1 * (r 12) + 0) + 0)).toNat ((1 * (r 6) + 0) + 0) ((1 * (r 7) + 0) + 0) ((1 * (r 8) + 0) + 0) ((1 * (r 9) + 0) + 0) 0 ∧ ((1 * (r 20) + 0) + 0) = ye_wd (g0 3) (g0 4) (((1 * (r 12) + 0) + 0)).toNat ((1 * (r 6) + 0) + 0) ((1 * (r 7) + 0) + 0) ((1 * (r 8) + 0) + 0) ((1 * (r 9) + 0) + 0) 1 ∧ ((1 * (r 15) + 0) + 0) = ye_wd (g0 3) (g0 4) (((1 * (r 12) + 0) + 0)).toNat ((1 * (r 6) + 0) + 0) ((1 * (r 7) + 0) + 0) ((1 * (r 8) + 0) + 0) ((1 * (r 9) + 0) + 0) 2 ∧ ((1 * (r 16) + 0) + 0) = ye_wd (g0 3) (g0 4) (((1 * (r 12) + 0) + 0)).toNat ((1 * (r 6) + 0) + 0) ((1 * (r 7) + 0) + 0) ((1 * (r 8) + 0) + 0) ((1 * (r 9) + 0) + 0) 3 ∧ ((1 * (r 17) + 0) + 0) = ye_wd (g0 3) (g0 4) (((1 * (r 12) + 0) + 0)).toNat ((1 * (r 6) + 0) + 0) ((1 * (r 7) + 0) + 0) ((1 * (r 8) + 0) + 0) ((1 * (r 9) + 0) + 0) 4 ∧ ((1 * (r 18) + 0) + 0) = ye_sc (g0 3) (g0 4) ((1 * (r 6) + 0) + 0) ((1 * (r 7) + 0) + 0) ((1 * (r 8) + 0) + 0) ((1 * (r 9) + 0) + 0) (((1 * (r 14) + 0) + 0)).toNat ∧ ((1 * (r 14) + 0) + 0) ≤ ((1 * (r 12) + 0) + 0) := hG
  refine yt_dcut (by decide) rfl ?_ ?_
  · rw [show xk_86.2.1.2.1.1.length = 14 from rfl]
    refine yx_fks _ _ ?_
    refine ⟨?_, ?_, trivial⟩
    · show 0 ≤ ((1 * ((1 * r 18 + 0) + 1) + 0) + 0)
      try simp only [Int.one_mul, Int.zero_add, Int.add_zero] at hG
      obtain ⟨q0, q1, q2, q3, q4, q5, q6⟩ := hG
      have k := ye_sc_b (x := g0 3) (y := g0 4) (a := r 6) (b := r 7) (l := r 8) (h := r 9) (r 14).toNat
      omega
    · show 0 ≤ (((-1) * ((1 * r 18 + 0) + 1) + (1 * ((1 * r 14 + 0) + 1) + 0)) + 0)
      try simp only [Int.one_mul, Int.zero_add, Int.add_zero] at hG
      obtain ⟨q0, q1, q2, q3, q4, q5, q6⟩ := hG
      have k := ye_sc_b (x := g0 3) (y := g0 4) (a := r 6) (b := r 7) (l := r 8) (h := r 9) (r 14).toNat
      omega
  · rw [show xk_86.2.1.2.1.1.length = 14 from rfl]
    show ((1 * ((1 * r 19 + 0) + 0) + 0) + 0) = ye_wd (g0 3) (g0 4) (((1 * ((1 * r 12 + 0) + 0) + 0) + 0)).toNat ((1 * ((1 * r 6 + 0) + 0) + 0) + 0) ((1 * ((1 * r 7 + 0) + 0) + 0) + 0) ((1 * ((1 * r 8 + 0) + 0) + 0) + 0) ((1 * ((1 * r 9 + 0) + 0) + 0) + 0) 0 ∧ ((1 * ((1 * r 20 + 0) + 0) + 0) + 0) = ye_wd (g0 3) (g0 4) (((1 * ((1 * r 12 + 0) + 0) + 0) + 0)).toNat ((1 * ((1 * r 6 + 0) + 0) + 0) + 0) ((1 * ((1 * r 7 + 0) + 0) + 0) + 0) ((1 * ((1 * r 8 + 0) + 0) + 0) + 0) ((1 * ((1 * r 9 + 0) + 0) + 0) + 0) 1 ∧ ((1 * ((1 * r 15 + 0) + 0) + 0) + 0) = ye_wd (g0 3) (g0 4) (((1 * ((1 * r 12 + 0) + 0) + 0) + 0)).toNat ((1 * ((1 * r 6 + 0) + 0) + 0) + 0) ((1 * ((1 * r 7 + 0) + 0) + 0) + 0) ((1 * ((1 * r 8 + 0) + 0) + 0) + 0) ((1 * ((1 * r 9 + 0) + 0) + 0) + 0) 2 ∧ ((1 * ((1 * r 16 + 0) + 0) + 0) + 0) = ye_wd (g0 3) (g0 4) (((1 * ((1 * r 12 + 0) + 0) + 0) + 0)).toNat ((1 * ((1 * r 6 + 0) + 0) + 0) + 0) ((1 * ((1 * r 7 + 0) + 0) + 0) + 0) ((1 * ((1 * r 8 + 0) + 0) + 0) + 0) ((1 * ((1 * r 9 + 0) + 0) + 0) + 0) 3 ∧ ((1 * ((1 * r 17 + 0) + 0) + 0) + 0) = ye_wd (g0 3) (g0 4) (((1 * ((1 * r 12 + 0) + 0) + 0) + 0)).toNat ((1 * ((1 * r 6 + 0) + 0) + 0) + 0) ((1 * ((1 * r 7 + 0) + 0) + 0) + 0) ((1 * ((1 * r 8 + 0) + 0) + 0) + 0) ((1 * ((1 * r 9 + 0) + 0) + 0) + 0) 4 ∧ ((1 * ((1 * r 18 + 0) + 1) + 0) + 0) = ye_sc (g0 3) (g0 4) ((1 * ((1 * r 6 + 0) + 0) + 0) + 0) ((1 * ((1 * r 7 + 0) + 0) + 0) + 0) ((1 * ((1 * r 8 + 0) + 0) + 0) + 0) ((1 * ((1 * r 9 + 0) + 0) + 0) + 0) (((1 * ((1 * r 14 + 0) + 1) + 0) + 0)).toNat ∧ ((1 * ((1 * r 14 + 0) + 1) + 0) + 0) ≤ ((1 * ((1 * r 12 + 0) + 0) + 0) + 0)
    try simp only [Int.one_mul, Int.zero_add, Int.add_zero]
    try simp only [Int.one_mul, Int.zero_add, Int.add_zero] at hG
    obtain ⟨q0, q1, q2, q3, q4, q5, q6⟩ := hG
    try simp only [Int.one_mul, Int.zero_add, Int.add_zero] at e0
    rw [hfr 3 (by decide), hfr 4 (by decide)] at e0
    rw [ye_sc_s (j := r 14) (by omega) (by omega), ← q5, if_pos e0]
    exact ⟨q0, q1, q2, q3, q4, by omega, by omega⟩
theorem xn_86 : ∀ (j : Nat) (q : Nat × yt_T), xq_86.2.2.1[j]? = some q → q.2.2.2 = false → ∀ g0 r g, xG_86 j g0 r g
  | 0, q, hq, hf => by cases hq; cases hf
  | n + 1, q, hq, _ => by cases hq
theorem xs_86 : ∀ j, xq_86.2.2.2.getD j false = false → ∀ r g g', xP_86 j r g g'
  | 0, hf => by cases hf
  | n + 1, _ => fun _ _ _ => trivial
theorem xc_86 {l : Launch} {D : va_G} {cT : Nat → ClassId} {tys : List (ClassId × FieldType)} (hty : yx_Ty tys cT) : yt_Con l D vwCl cT tys yG yw_s52 xk_86 xR_86 xP_86 := yx_sem (calls := xa_86) (Z := xq_86) (tb := xT_86) (pt := xU_86) (Ga := xG_86) (vs := xv_86) (fun _ _ _ h => h) 300 (by decide +kernel) yz_X10_finish_ok hty (yl_lkX10 _) (yl_cqkX10 _) (List.forall_mem_cons.mpr ⟨⟨xc_82 hty, yg_CLs yl_wX10_103 yd_yX10_squareSum, fun _ _ _ => trivial⟩, List.forall_mem_cons.mpr ⟨⟨xc_84 hty, yg_CLv rfl rfl rfl yl_wX10_107 yd_yX1_become, fun _ _ _ => trivial⟩, List.forall_mem_cons.mpr ⟨⟨xc_83 hty, yg_CLs yl_wX10_113 yd_yX1_common, fun _ _ _ => trivial⟩, List.forall_mem_cons.mpr ⟨⟨xc_85 hty, yg_CLv rfl rfl rfl yl_wX10_116 yd_yX10_isAtSide, fun _ _ _ => trivial⟩, fun _ h => absurd h List.not_mem_nil⟩⟩⟩⟩) (xn_86) (xs_86) (by decide +kernel) (List.forall_mem_cons.mpr ⟨xw_86_0_0, List.forall_mem_cons.mpr ⟨xw_86_0_1, List.forall_mem_cons.mpr ⟨xw_86_0_2, List.forall_mem_cons.mpr ⟨xw_86_0_3, List.forall_mem_cons.mpr ⟨xw_86_0_4, List.forall_mem_cons.mpr ⟨xw_86_0_5, List.forall_mem_cons.mpr ⟨xw_86_0_6, List.forall_mem_cons.mpr ⟨xw_86_0_7, List.forall_mem_cons.mpr ⟨xw_86_0_8, List.forall_mem_cons.mpr ⟨xw_86_0_9, List.forall_mem_cons.mpr ⟨xw_86_0_10, List.forall_mem_cons.mpr ⟨xw_86_0_11, List.forall_mem_cons.mpr ⟨xw_86_0_12, List.forall_mem_cons.mpr ⟨xw_86_0_13, List.forall_mem_cons.mpr ⟨xw_86_0_14, List.forall_mem_cons.mpr ⟨xw_86_0_15, List.forall_mem_cons.mpr ⟨xw_86_0_16, List.forall_mem_cons.mpr ⟨xw_86_0_17, List.forall_mem_cons.mpr ⟨xw_86_0_18, List.forall_mem_cons.mpr ⟨xw_86_0_19, List.forall_mem_cons.mpr ⟨xw_86_0_20, List.forall_mem_cons.mpr ⟨xw_86_0_21, List.forall_mem_cons.mpr ⟨xw_86_0_22, List.forall_mem_cons.mpr ⟨xw_86_0_23, List.forall_mem_cons.mpr ⟨xw_86_0_24, List.forall_mem_cons.mpr ⟨xw_86_0_25, List.forall_mem_cons.mpr ⟨xw_86_0_26, fun _ h => absurd h List.not_mem_nil⟩⟩⟩⟩⟩⟩⟩⟩⟩⟩⟩⟩⟩⟩⟩⟩⟩⟩⟩⟩⟩⟩⟩⟩⟩⟩⟩) (⟨List.forall_mem_cons.mpr ⟨xw_86_1_0, List.forall_mem_cons.mpr ⟨xw_86_1_1, List.forall_mem_cons.mpr ⟨xw_86_1_2, fun _ h => absurd h List.not_mem_nil⟩⟩⟩, trivial⟩)
noncomputable def yw_s53 : List ys_C := [.inl 10]
noncomputable def yw_f53 (n : Nat) : List (List ys_V) := [[.inr (some 1), .inl (.inl ([(n + 0, 1)], 0)), .inl (.inr ([(n + 1, 1)], 0)), .inl (.inr ([(n + 2, 1)], 0)), .inl (.inr ([(n + 3, 1)], 0)), .inl (.inl ([(n + 4, 1)], 0)), .inl (.inl ([(n + 5, 1)], 0)), .inl (.inl ([(n + 6, 1)], 0)), .inl (.inl ([(n + 7, 1)], 0)), .inl (.inl ([(n + 8, 1)], 0)), .inl (.inl ([(n + 9, 1)], 0))]]
noncomputable def yw_e53 : ys_E := [(0, 1), ((-9223372036854775808), 9223372036854775807), ((-9223372036854775808), 9223372036854775807), ((-9223372036854775808), 9223372036854775807), (0, 40), ((-2147483648), 2147483647), ((-600), 600), ((-600), 600), ((-1000000), 1000000), ((-1000000), 1000000)]
noncomputable def yw_r53 : List ys_R := [((0, 0), [])]
noncomputable def xf_87 : ys_F := (yw_f53 3, yw_r53)
noncomputable def xk_87 : ys_K := (((yX10_isWider, cX10_isWider, 7, (some .boolean)), (1, 23)), ([.inr (some 0), .inl (.inr ([(0, 1)], 0)), .inl (.inl ([(1, 1)], 0)), .inl (.inl ([(2, 1)], 0))], ([((-2000000), 2000000), ((-600), 600), ((-600), 600)] ++ yw_e53, []), xf_87), ([([], [], (xf_87.1, xf_87.2), some (.inl (.inl ([], 0)))), ([], [], (xf_87.1, xf_87.2), some (.inl (.inl ([], 1))))], []))
noncomputable def xq_87 : yt_Q := (yz_X10_isWider, (yl_flX10, yl_ciX10, yl_cjX10, yl_cpX10, yl_cqX10), [], [true, true])
noncomputable def xa_87 : List yt_CE := [(((103, true), (300, false, [])), (yw_s2, xk_82))]
noncomputable def xv_87 : List (List yt_VC) := [[(1000, ([((-2000000), 2000000), ((-600), 600), ((-600), 600), (0, 1), ((-9223372036854775808), 9223372036854775807), ((-9223372036854775808), 9223372036854775807), ((-9223372036854775808), 9223372036854775807), (0, 40), ((-2147483648), 2147483647), ((-600), 600), ((-600), 600), ((-1000000), 1000000), ((-1000000), 1000000), (0, 4000000000000), (0, 720000), (0, 2880000000000000000), (0, 4000000000000), (0, 720000), (0, 2880000000000000000)], [([(15, (-1)), (18, 1)], 0)]), [], [], [.inl (.inr (18, ([(16, 1)], 0), ([(17, 1)], 0))), .inr (.inr (.inl (300, 0, [([(1, 1)], 0), ([(2, 1)], 0), ([(17, 1)], 0)], [], []))), .inl (.inr (16, ([(12, (-1)), (11, 1)], 0), ([(12, (-1)), (11, 1)], 0))), .inl (.inr (15, ([(13, 1)], 0), ([(14, 1)], 0))), .inr (.inr (.inl (300, 0, [([(9, 1)], 0), ([(10, 1)], 0), ([(14, 1)], 0)], [], []))), .inl (.inr (13, ([(0, 1)], 0), ([(0, 1)], 0)))]),
   (1001, ([((-2000000), 2000000), ((-600), 600), ((-600), 600), (0, 1), ((-9223372036854775808), 9223372036854775807), ((-9223372036854775808), 9223372036854775807), ((-9223372036854775808), 9223372036854775807), (0, 40), ((-2147483648), 2147483647), ((-600), 600), ((-600), 600), ((-1000000), 1000000), ((-1000000), 1000000), (0, 4000000000000), (0, 720000), (1, 2880000000000000000), (0, 4000000000000), (0, 720000), (0, 2879999999999999999)], [([(15, 1), (18, (-1))], (-1))]), [], [], [.inl (.inr (18, ([(16, 1)], 0), ([(17, 1)], 0))), .inr (.inr (.inl (300, 0, [([(1, 1)], 0), ([(2, 1)], 0), ([(17, 1)], 0)], [], []))), .inl (.inr (16, ([(12, (-1)), (11, 1)], 0), ([(12, (-1)), (11, 1)], 0))), .inl (.inr (15, ([(13, 1)], 0), ([(14, 1)], 0))), .inr (.inr (.inl (300, 0, [([(9, 1)], 0), ([(10, 1)], 0), ([(14, 1)], 0)], [], []))), .inl (.inr (13, ([(0, 1)], 0), ([(0, 1)], 0)))])]]
noncomputable def xG_87 : Nat → yt_G → (Nat → Int) → yt_G → Prop
  | _, _, _, _ => True
noncomputable def xP_87 : yt_Ph
  | 0, r, g0, g => ¬ ((((1 * (r 11) + 0) + 0) - ((1 * (r 12) + 0) + 0)) * (((1 * (r 11) + 0) + 0) - ((1 * (r 12) + 0) + 0)) * ((r 1) * (r 1) + (r 2) * (r 2)) < (r 0) * (r 0) * (((1 * (r 9) + 0) + 0) * ((1 * (r 9) + 0) + 0) + ((1 * (r 10) + 0) + 0) * ((1 * (r 10) + 0) + 0)))
  | 1, r, g0, g => (((1 * (r 11) + 0) + 0) - ((1 * (r 12) + 0) + 0)) * (((1 * (r 11) + 0) + 0) - ((1 * (r 12) + 0) + 0)) * ((r 1) * (r 1) + (r 2) * (r 2)) < (r 0) * (r 0) * (((1 * (r 9) + 0) + 0) * ((1 * (r 9) + 0) + 0) + ((1 * (r 10) + 0) + 0) * ((1 * (r 10) + 0) + 0))
  | _, _, _, _ => True
noncomputable def xR_87 : yt_Ps := fun r g0 => True
noncomputable def xT_87 : yt_Tb := fun d => match d with
  | 300 => xP_82
  | _ => fun _ _ _ _ => True
noncomputable def xU_87 : Nat → yt_Ps := fun d => match d with
  | 300 => xR_82
  | _ => fun _ _ => True
theorem xw_87_0_0 : yt_hold xT_87 xk_87 xq_87.2.2.1 xG_87 xP_87 xU_87 13 xk_87.2.1.2.2.2 (fun g0 r g => xR_87 r g0 ∧ g = g0) (1000, ([((-2000000), 2000000), ((-600), 600), ((-600), 600), (0, 1), ((-9223372036854775808), 9223372036854775807), ((-9223372036854775808), 9223372036854775807), ((-9223372036854775808), 9223372036854775807), (0, 40), ((-2147483648), 2147483647), ((-600), 600), ((-600), 600), ((-1000000), 1000000), ((-1000000), 1000000), (0, 4000000000000), (0, 720000), (0, 2880000000000000000), (0, 4000000000000), (0, 720000), (0, 2880000000000000000)], [([(15, (-1)), (18, 1)], 0)]), [], [], [.inl (.inr (18, ([(16, 1)], 0), ([(17, 1)], 0))), .inr (.inr (.inl (300, 0, [([(1, 1)], 0), ([(2, 1)], 0), ([(17, 1)], 0)], [], []))), .inl (.inr (16, ([(12, (-1)), (11, 1)], 0), ([(12, (-1)), (11, 1)], 0))), .inl (.inr (15, ([(13, 1)], 0), ([(14, 1)], 0))), .inr (.inr (.inl (300, 0, [([(9, 1)], 0), ([(10, 1)], 0), ([(14, 1)], 0)], [], []))), .inl (.inr (13, ([(0, 1)], 0), ([(0, 1)], 0)))]) := by
  intro g0 r gi g hok hh hars hfr hG
  have b0 : (-2000000) ≤ r 0 ∧ r 0 ≤ 2000000 := hok.1 0 ((-2000000), 2000000) rfl
  have b1 : (-600) ≤ r 1 ∧ r 1 ≤ 600 := hok.1 1 ((-600), 600) rfl
  have b2 : (-600) ≤ r 2 ∧ r 2 ≤ 600 := hok.1 2 ((-600), 600) rfl
  have b3 : 0 ≤ r 3 ∧ r 3 ≤ 1 := hok.1 3 (0, 1) rfl
  have b9 : (-600) ≤ r 9 ∧ r 9 ≤ 600 := hok.1 9 ((-600), 600) rfl
  have b10 : (-600) ≤ r 10 ∧ r 10 ≤ 600 := hok.1 10 ((-600), 600) rfl
  have b11 : (-1000000) ≤ r 11 ∧ r 11 ≤ 1000000 := hok.1 11 ((-1000000), 1000000) rfl
  have b12 : (-1000000) ≤ r 12 ∧ r 12 ≤ 1000000 := hok.1 12 ((-1000000), 1000000) rfl
  have b13 : 0 ≤ r 13 ∧ r 13 ≤ 4000000000000 := hok.1 13 (0, 4000000000000) rfl
  have b14 : 0 ≤ r 14 ∧ r 14 ≤ 720000 := hok.1 14 (0, 720000) rfl
  have b15 : 0 ≤ r 15 ∧ r 15 ≤ 2880000000000000000 := hok.1 15 (0, 2880000000000000000) rfl
  have b16 : 0 ≤ r 16 ∧ r 16 ≤ 4000000000000 := hok.1 16 (0, 4000000000000) rfl
  have b17 : 0 ≤ r 17 ∧ r 17 ≤ 720000 := hok.1 17 (0, 720000) rfl
  have b18 : 0 ≤ r 18 ∧ r 18 ≤ 2880000000000000000 := hok.1 18 (0, 2880000000000000000) rfl
  have f0 : 0 ≤ (((-1) * r 15 + (1 * r 18 + 0)) + 0) := hok.2 _ (List.mem_of_getElem? (i := 0) rfl)
  obtain ⟨hG, hgi⟩ := hG
  have hG : True := hG
  obtain ⟨g0, hh, q0, e0⟩ := hh
  subst q0
  have e0 : r 18 = ((1 * r 16 + 0) + 0) * ((1 * r 17 + 0) + 0) := e0
  try simp only [Int.one_mul, Int.zero_add, Int.add_zero] at e0
  obtain ⟨h1, hh, e1, k1⟩ := hh
  have k1 : ∀ j, j ∉ [] → g j = h1 j := k1
  have e1 : ((1 * r 17 + 0) + 0) = ((1 * r 1 + 0) + 0) * ((1 * r 1 + 0) + 0) + ((1 * r 2 + 0) + 0) * ((1 * r 2 + 0) + 0) := e1
  obtain ⟨g2, hh, q2, e2⟩ := hh
  subst q2
  have e2 : r 16 = (((-1) * r 12 + (1 * r 11 + 0)) + 0) * (((-1) * r 12 + (1 * r 11 + 0)) + 0) := e2
  try simp only [Int.one_mul, Int.zero_add, Int.add_zero] at e2
  obtain ⟨g3, hh, q3, e3⟩ := hh
  subst q3
  have e3 : r 15 = ((1 * r 13 + 0) + 0) * ((1 * r 14 + 0) + 0) := e3
  try simp only [Int.one_mul, Int.zero_add, Int.add_zero] at e3
  obtain ⟨h4, hh, e4, k4⟩ := hh
  have k4 : ∀ j, j ∉ [] → h1 j = h4 j := k4
  have e4 : ((1 * r 14 + 0) + 0) = ((1 * r 9 + 0) + 0) * ((1 * r 9 + 0) + 0) + ((1 * r 10 + 0) + 0) * ((1 * r 10 + 0) + 0) := e4
  obtain ⟨g5, hh, q5, e5⟩ := hh
  subst q5
  have e5 : r 13 = ((1 * r 0 + 0) + 0) * ((1 * r 0 + 0) + 0) := e5
  try simp only [Int.one_mul, Int.zero_add, Int.add_zero] at e5
  have hh : h4 = gi := hh
  subst hh
  refine yt_dalt (by decide) (by decide) ?_
  rw [show xk_87.2.1.2.1.1.length = 13 from rfl]
  show ¬ ((((1 * ((1 * r 11 + 0) + 0) + 0) + 0) - ((1 * ((1 * r 12 + 0) + 0) + 0) + 0)) * (((1 * ((1 * r 11 + 0) + 0) + 0) + 0) - ((1 * ((1 * r 12 + 0) + 0) + 0) + 0)) * (((1 * r 1 + 0) + 0) * ((1 * r 1 + 0) + 0) + ((1 * r 2 + 0) + 0) * ((1 * r 2 + 0) + 0)) < ((1 * r 0 + 0) + 0) * ((1 * r 0 + 0) + 0) * (((1 * ((1 * r 9 + 0) + 0) + 0) + 0) * ((1 * ((1 * r 9 + 0) + 0) + 0) + 0) + ((1 * ((1 * r 10 + 0) + 0) + 0) + 0) * ((1 * ((1 * r 10 + 0) + 0) + 0) + 0)))
  try simp only [Int.one_mul, Int.zero_add, Int.add_zero]
  try simp only [Int.one_mul, Int.zero_add, Int.add_zero] at e0
  try simp only [Int.one_mul, Int.zero_add, Int.add_zero] at e2
  try simp only [Int.one_mul, Int.zero_add, Int.add_zero] at e3
  try simp only [Int.one_mul, Int.zero_add, Int.add_zero] at e5
  try simp only [Int.one_mul, Int.zero_add, Int.add_zero] at e1
  try simp only [Int.one_mul, Int.zero_add, Int.add_zero] at e4
  rw [show -1 * r 12 + r 11 = r 11 - r 12 by omega] at e2
  rw [← e2, ← e1, ← e0, ← e5, ← e4, ← e3]
  omega
theorem xw_87_0_1 : yt_hold xT_87 xk_87 xq_87.2.2.1 xG_87 xP_87 xU_87 13 xk_87.2.1.2.2.2 (fun g0 r g => xR_87 r g0 ∧ g = g0) (1001, ([((-2000000), 2000000), ((-600), 600), ((-600), 600), (0, 1), ((-9223372036854775808), 9223372036854775807), ((-9223372036854775808), 9223372036854775807), ((-9223372036854775808), 9223372036854775807), (0, 40), ((-2147483648), 2147483647), ((-600), 600), ((-600), 600), ((-1000000), 1000000), ((-1000000), 1000000), (0, 4000000000000), (0, 720000), (1, 2880000000000000000), (0, 4000000000000), (0, 720000), (0, 2879999999999999999)], [([(15, 1), (18, (-1))], (-1))]), [], [], [.inl (.inr (18, ([(16, 1)], 0), ([(17, 1)], 0))), .inr (.inr (.inl (300, 0, [([(1, 1)], 0), ([(2, 1)], 0), ([(17, 1)], 0)], [], []))), .inl (.inr (16, ([(12, (-1)), (11, 1)], 0), ([(12, (-1)), (11, 1)], 0))), .inl (.inr (15, ([(13, 1)], 0), ([(14, 1)], 0))), .inr (.inr (.inl (300, 0, [([(9, 1)], 0), ([(10, 1)], 0), ([(14, 1)], 0)], [], []))), .inl (.inr (13, ([(0, 1)], 0), ([(0, 1)], 0)))]) := by
  intro g0 r gi g hok hh hars hfr hG
  have b0 : (-2000000) ≤ r 0 ∧ r 0 ≤ 2000000 := hok.1 0 ((-2000000), 2000000) rfl
  have b1 : (-600) ≤ r 1 ∧ r 1 ≤ 600 := hok.1 1 ((-600), 600) rfl
  have b2 : (-600) ≤ r 2 ∧ r 2 ≤ 600 := hok.1 2 ((-600), 600) rfl
  have b3 : 0 ≤ r 3 ∧ r 3 ≤ 1 := hok.1 3 (0, 1) rfl
  have b9 : (-600) ≤ r 9 ∧ r 9 ≤ 600 := hok.1 9 ((-600), 600) rfl
  have b10 : (-600) ≤ r 10 ∧ r 10 ≤ 600 := hok.1 10 ((-600), 600) rfl
  have b11 : (-1000000) ≤ r 11 ∧ r 11 ≤ 1000000 := hok.1 11 ((-1000000), 1000000) rfl
  have b12 : (-1000000) ≤ r 12 ∧ r 12 ≤ 1000000 := hok.1 12 ((-1000000), 1000000) rfl
  have b13 : 0 ≤ r 13 ∧ r 13 ≤ 4000000000000 := hok.1 13 (0, 4000000000000) rfl
  have b14 : 0 ≤ r 14 ∧ r 14 ≤ 720000 := hok.1 14 (0, 720000) rfl
  have b15 : 1 ≤ r 15 ∧ r 15 ≤ 2880000000000000000 := hok.1 15 (1, 2880000000000000000) rfl
  have b16 : 0 ≤ r 16 ∧ r 16 ≤ 4000000000000 := hok.1 16 (0, 4000000000000) rfl
  have b17 : 0 ≤ r 17 ∧ r 17 ≤ 720000 := hok.1 17 (0, 720000) rfl
  have b18 : 0 ≤ r 18 ∧ r 18 ≤ 2879999999999999999 := hok.1 18 (0, 2879999999999999999) rfl
  have f0 : 0 ≤ ((1 * r 15 + ((-1) * r 18 + 0)) + (-1)) := hok.2 _ (List.mem_of_getElem? (i := 0) rfl)
  obtain ⟨hG, hgi⟩ := hG
  have hG : True := hG
  obtain ⟨g0, hh, q0, e0⟩ := hh
  subst q0
  have e0 : r 18 = ((1 * r 16 + 0) + 0) * ((1 * r 17 + 0) + 0) := e0
  try simp only [Int.one_mul, Int.zero_add, Int.add_zero] at e0
  obtain ⟨h1, hh, e1, k1⟩ := hh
  have k1 : ∀ j, j ∉ [] → g j = h1 j := k1
  have e1 : ((1 * r 17 + 0) + 0) = ((1 * r 1 + 0) + 0) * ((1 * r 1 + 0) + 0) + ((1 * r 2 + 0) + 0) * ((1 * r 2 + 0) + 0) := e1
  obtain ⟨g2, hh, q2, e2⟩ := hh
  subst q2
  have e2 : r 16 = (((-1) * r 12 + (1 * r 11 + 0)) + 0) * (((-1) * r 12 + (1 * r 11 + 0)) + 0) := e2
  try simp only [Int.one_mul, Int.zero_add, Int.add_zero] at e2
  obtain ⟨g3, hh, q3, e3⟩ := hh
  subst q3
  have e3 : r 15 = ((1 * r 13 + 0) + 0) * ((1 * r 14 + 0) + 0) := e3
  try simp only [Int.one_mul, Int.zero_add, Int.add_zero] at e3
  obtain ⟨h4, hh, e4, k4⟩ := hh
  have k4 : ∀ j, j ∉ [] → h1 j = h4 j := k4
  have e4 : ((1 * r 14 + 0) + 0) = ((1 * r 9 + 0) + 0) * ((1 * r 9 + 0) + 0) + ((1 * r 10 + 0) + 0) * ((1 * r 10 + 0) + 0) := e4
  obtain ⟨g5, hh, q5, e5⟩ := hh
  subst q5
  have e5 : r 13 = ((1 * r 0 + 0) + 0) * ((1 * r 0 + 0) + 0) := e5
  try simp only [Int.one_mul, Int.zero_add, Int.add_zero] at e5
  have hh : h4 = gi := hh
  subst hh
  refine yt_dalt (by decide) (by decide) ?_
  rw [show xk_87.2.1.2.1.1.length = 13 from rfl]
  show (((1 * ((1 * r 11 + 0) + 0) + 0) + 0) - ((1 * ((1 * r 12 + 0) + 0) + 0) + 0)) * (((1 * ((1 * r 11 + 0) + 0) + 0) + 0) - ((1 * ((1 * r 12 + 0) + 0) + 0) + 0)) * (((1 * r 1 + 0) + 0) * ((1 * r 1 + 0) + 0) + ((1 * r 2 + 0) + 0) * ((1 * r 2 + 0) + 0)) < ((1 * r 0 + 0) + 0) * ((1 * r 0 + 0) + 0) * (((1 * ((1 * r 9 + 0) + 0) + 0) + 0) * ((1 * ((1 * r 9 + 0) + 0) + 0) + 0) + ((1 * ((1 * r 10 + 0) + 0) + 0) + 0) * ((1 * ((1 * r 10 + 0) + 0) + 0) + 0))
  try simp only [Int.one_mul, Int.zero_add, Int.add_zero]
  try simp only [Int.one_mul, Int.zero_add, Int.add_zero] at e0
  try simp only [Int.one_mul, Int.zero_add, Int.add_zero] at e2
  try simp only [Int.one_mul, Int.zero_add, Int.add_zero] at e3
  try simp only [Int.one_mul, Int.zero_add, Int.add_zero] at e5
  try simp only [Int.one_mul, Int.zero_add, Int.add_zero] at e1
  try simp only [Int.one_mul, Int.zero_add, Int.add_zero] at e4
  rw [show -1 * r 12 + r 11 = r 11 - r 12 by omega] at e2
  rw [← e2, ← e1, ← e0, ← e5, ← e4, ← e3]
  omega
theorem xn_87 : ∀ (j : Nat) (q : Nat × yt_T), xq_87.2.2.1[j]? = some q → q.2.2.2 = false → ∀ g0 r g, xG_87 j g0 r g
  | n + 0, q, hq, _ => by cases hq
theorem xs_87 : ∀ j, xq_87.2.2.2.getD j false = false → ∀ r g g', xP_87 j r g g'
  | 0, hf => by cases hf
  | 1, hf => by cases hf
  | n + 2, _ => fun _ _ _ => trivial
theorem xc_87 {l : Launch} {D : va_G} {cT : Nat → ClassId} {tys : List (ClassId × FieldType)} (hty : yx_Ty tys cT) : yt_Con l D vwCl cT tys yG yw_s53 xk_87 xR_87 xP_87 := yx_sem (calls := xa_87) (Z := xq_87) (tb := xT_87) (pt := xU_87) (Ga := xG_87) (vs := xv_87) (fun _ _ _ _ => trivial) 300 (by decide +kernel) yz_X10_isWider_ok hty (yl_lkX10 _) (yl_cqkX10 _) (List.forall_mem_cons.mpr ⟨⟨xc_82 hty, yg_CLs yl_wX10_103 yd_yX10_squareSum, fun _ _ _ => trivial⟩, fun _ h => absurd h List.not_mem_nil⟩) (xn_87) (xs_87) (by decide +kernel) (List.forall_mem_cons.mpr ⟨xw_87_0_0, List.forall_mem_cons.mpr ⟨xw_87_0_1, fun _ h => absurd h List.not_mem_nil⟩⟩) (trivial)
noncomputable def yw_s54 : List ys_C := [.inl 10, .inl 6, .inr (0, 40, []), .inr (0, 40, []), .inr (0, 40, [])]
noncomputable def yw_f54 (n : Nat) : List (List ys_V) := [[.inr (some 5), .inl (.inl ([(n + 0, 1)], 0)), .inl (.inr ([(n + 1, 1)], 0)), .inl (.inr ([(n + 2, 1)], 0)), .inl (.inr ([(n + 3, 1)], 0)), .inl (.inl ([(n + 4, 1)], 0)), .inl (.inl ([(n + 5, 1)], 0)), .inl (.inl ([(n + 6, 1)], 0)), .inl (.inl ([(n + 7, 1)], 0)), .inl (.inl ([(n + 8, 1)], 0)), .inl (.inl ([(n + 9, 1)], 0))], [.inr (some 2), .inr (some 3), .inr (some 4), .inr (some 6), .inl (.inl ([(n + 10, 1)], 0)), .inl (.inl ([(n + 11, 1)], 0))], [], [], []]
noncomputable def yw_e54 : ys_E := [(0, 1), ((-9223372036854775808), 9223372036854775807), ((-9223372036854775808), 9223372036854775807), ((-9223372036854775808), 9223372036854775807), (0, 40), ((-2147483648), 2147483647), ((-600), 600), ((-600), 600), ((-1000000), 1000000), ((-1000000), 1000000), (0, 40), ((-2147483648), 2147483647)]
noncomputable def yw_r54 : List ys_R := [((0, 0), []), ((0, 0), []), (((-300), 300), []), (((-300), 300), []), ((0, 1), [])]
noncomputable def xf_88 : ys_F := (yw_f54 2, yw_r54)
noncomputable def xk_88 : ys_K := (((yX10_tryAcross, cX10_tryAcross, 8, none), (2, 49)), ([.inr (some 0), .inr (some 1), .inl (.inl ([(0, 1)], 0)), .inl (.inl ([(1, 1)], 0))], ([((-600), 600), ((-600), 600)] ++ yw_e54, []), xf_88), ([([(0, 1), ((-600), 600), ((-600), 600), ((-1000000), 1000000), ((-1000000), 1000000)], [], ((ys_fs xf_88.1 [(0, 1, .inl (.inl ([(14, 1)], 0))), (0, 7, .inl (.inl ([(15, 1)], 0))), (0, 8, .inl (.inl ([(16, 1)], 0))), (0, 9, .inl (.inl ([(17, 1)], 0))), (0, 10, .inl (.inl ([(18, 1)], 0)))]), xf_88.2), none)], []))
noncomputable def xq_88 : yt_Q := (yz_X10_tryAcross, (yl_flX10, yl_ciX10, yl_cjX10, yl_cpX10, yl_cqX10), [(11, ([((-360000), 1000000), ((-1000000), 360000), (0, 40)], [], (xf_88.1, xf_88.2), [(0, .inr (some 0)), (1, .inr (some 1)), (2, .inl (.inl ([(0, 1)], 0))), (3, .inl (.inl ([(1, 1)], 0))), (4, .inl (.inl ([(14, 1)], 0))), (5, .inl (.inl ([(15, 1)], 0))), (6, .inl (.inl ([(16, 1)], 0)))], [], ([(16, (-1))], 40)), [], true)], [true])
noncomputable def xa_88 : List yt_CE := [(((99, false), (301, false, [0, 5])), (yw_s53, xk_87))]
noncomputable def xv_88 : List (List yt_VC) := [[(0, ([((-600), 600), ((-600), 600), (0, 1), ((-9223372036854775808), 9223372036854775807), ((-9223372036854775808), 9223372036854775807), ((-9223372036854775808), 9223372036854775807), (0, 40), ((-2147483648), 2147483647), ((-600), 600), ((-600), 600), ((-1000000), 1000000), ((-1000000), 1000000), (0, 40), ((-2147483648), 2147483647)], []), [([], 1000000), ([], (-1000000)), ([], 0)], [], [])],
  [(1000, ([((-600), 600), ((-600), 600), (0, 0), ((-9223372036854775808), 9223372036854775807), ((-9223372036854775808), 9223372036854775807), ((-9223372036854775808), 9223372036854775807), (0, 40), ((-2147483648), 2147483647), ((-600), 600), ((-600), 600), ((-1000000), 1000000), ((-1000000), 1000000), (0, 40), ((-2147483648), 2147483647), ((-360000), 1000000), ((-1000000), 360000), (0, 40)], [([(12, (-1)), (16, 1)], 0)]), [([], 1), ([(0, 1)], 0), ([(1, 1)], 0), ([(14, 1)], 0), ([(15, 1)], 0)], [], []),
   (1000, ([((-600), 600), ((-600), 600), (1, 1), ((-9223372036854775808), 9223372036854775807), ((-9223372036854775808), 9223372036854775807), ((-9223372036854775808), 9223372036854775807), (0, 40), ((-2147483648), 2147483647), ((-600), 600), ((-600), 600), ((-1000000), 1000000), ((-1000000), 1000000), (0, 40), ((-2147483648), 2147483647), ((-360000), 1000000), ((-1000000), 360000), (0, 40)], [([(12, (-1)), (16, 1)], 0)]), [([(2, 1)], 0), ([(8, 1)], 0), ([(9, 1)], 0), ([(10, 1)], 0), ([(11, 1)], 0)], [], [.inr (.inr (.inl (301, 0, [([(15, (-1)), (14, 1)], 0), ([(0, 1)], 0), ([(1, 1)], 0), ([(2, 1)], 0), ([(3, 1)], 0), ([(4, 1)], 0), ([(5, 1)], 0), ([(6, 1)], 0), ([(7, 1)], 0), ([(8, 1)], 0), ([(9, 1)], 0), ([(10, 1)], 0), ([(11, 1)], 0)], [0, 5], [])))]),
   (1000, ([((-600), 600), ((-600), 600), (1, 1), ((-9223372036854775808), 9223372036854775807), ((-9223372036854775808), 9223372036854775807), ((-9223372036854775808), 9223372036854775807), (0, 40), ((-2147483648), 2147483647), ((-600), 600), ((-600), 600), ((-1000000), 1000000), ((-1000000), 1000000), (0, 40), ((-2147483648), 2147483647), ((-360000), 1000000), ((-1000000), 360000), (0, 40)], [([(12, (-1)), (16, 1)], 0)]), [([], 1), ([(0, 1)], 0), ([(1, 1)], 0), ([(14, 1)], 0), ([(15, 1)], 0)], [], [.inr (.inr (.inl (301, 1, [([(15, (-1)), (14, 1)], 0), ([(0, 1)], 0), ([(1, 1)], 0), ([(2, 1)], 0), ([(3, 1)], 0), ([(4, 1)], 0), ([(5, 1)], 0), ([(6, 1)], 0), ([(7, 1)], 0), ([(8, 1)], 0), ([(9, 1)], 0), ([(10, 1)], 0), ([(11, 1)], 0)], [0, 5], [])))]),
   (0, ([((-600), 600), ((-600), 600), (0, 1), ((-9223372036854775808), 9223372036854775807), ((-9223372036854775808), 9223372036854775807), ((-9223372036854775808), 9223372036854775807), (0, 40), ((-2147483648), 2147483647), ((-600), 600), ((-600), 600), ((-1000000), 1000000), ((-1000000), 1000000), (1, 40), ((-2147483648), 2147483647), ((-359999), 1000000), ((-1000000), 359999), (0, 39), ((-300), 300), ((-180000), 180000), ((-300), 300), ((-180000), 180000), (0, 0)], [([(14, 1), (18, (-1)), (20, (-1))], (-1)), ([(20, 1), (18, 1), (15, (-1))], (-1)), ([(12, 1), (16, (-1))], (-1))]), [([(14, 1)], 0), ([(20, 1), (18, 1)], 0), ([(16, 1)], 1)], [], [.inl (.inl (4, ([(16, 1)], 0), 21)), .inl (.inr (20, ([(1, 1)], 0), ([(19, 1)], 0))), .inl (.inl (3, ([(16, 1)], 0), 19)), .inl (.inr (18, ([(0, 1)], 0), ([(17, 1)], 0))), .inl (.inl (2, ([(16, 1)], 0), 17))]),
   (1000, ([((-600), 600), ((-600), 600), (0, 1), ((-9223372036854775808), 9223372036854775807), ((-9223372036854775808), 9223372036854775807), ((-9223372036854775808), 9223372036854775807), (0, 40), ((-2147483648), 2147483647), ((-600), 600), ((-600), 600), ((-1000000), 1000000), ((-1000000), 1000000), (1, 40), ((-2147483648), 2147483647), ((-360000), 360000), ((-1000000), 359999), (0, 39), ((-300), 300), ((-180000), 180000), ((-300), 300), ((-180000), 180000), (0, 0)], [([(14, (-1)), (18, 1), (20, 1)], 0), ([(20, 1), (18, 1), (15, (-1))], (-1)), ([(12, 1), (16, (-1))], (-1))]), [([(2, 1)], 0), ([(8, 1)], 0), ([(9, 1)], 0), ([(10, 1)], 0), ([(11, 1)], 0)], [], [.inl (.inl (4, ([(16, 1)], 0), 21)), .inl (.inr (20, ([(1, 1)], 0), ([(19, 1)], 0))), .inl (.inl (3, ([(16, 1)], 0), 19)), .inl (.inr (18, ([(0, 1)], 0), ([(17, 1)], 0))), .inl (.inl (2, ([(16, 1)], 0), 17))]),
   (0, ([((-600), 600), ((-600), 600), (0, 1), ((-9223372036854775808), 9223372036854775807), ((-9223372036854775808), 9223372036854775807), ((-9223372036854775808), 9223372036854775807), (0, 40), ((-2147483648), 2147483647), ((-600), 600), ((-600), 600), ((-1000000), 1000000), ((-1000000), 1000000), (1, 40), ((-2147483648), 2147483647), ((-359999), 1000000), ((-360000), 360000), (0, 39), ((-300), 300), ((-180000), 180000), ((-300), 300), ((-180000), 180000), (0, 0)], [([(14, 1), (15, (-1))], (-1)), ([(20, (-1)), (18, (-1)), (15, 1)], 0), ([(12, 1), (16, (-1))], (-1))]), [([(14, 1)], 0), ([(15, 1)], 0), ([(16, 1)], 1)], [], [.inl (.inl (4, ([(16, 1)], 0), 21)), .inl (.inr (20, ([(1, 1)], 0), ([(19, 1)], 0))), .inl (.inl (3, ([(16, 1)], 0), 19)), .inl (.inr (18, ([(0, 1)], 0), ([(17, 1)], 0))), .inl (.inl (2, ([(16, 1)], 0), 17))]),
   (1000, ([((-600), 600), ((-600), 600), (0, 1), ((-9223372036854775808), 9223372036854775807), ((-9223372036854775808), 9223372036854775807), ((-9223372036854775808), 9223372036854775807), (0, 40), ((-2147483648), 2147483647), ((-600), 600), ((-600), 600), ((-1000000), 1000000), ((-1000000), 1000000), (1, 40), ((-2147483648), 2147483647), ((-360000), 360000), ((-360000), 360000), (0, 39), ((-300), 300), ((-180000), 180000), ((-300), 300), ((-180000), 180000), (0, 0)], [([(14, (-1)), (15, 1)], 0), ([(20, (-1)), (18, (-1)), (15, 1)], 0), ([(12, 1), (16, (-1))], (-1))]), [([(2, 1)], 0), ([(8, 1)], 0), ([(9, 1)], 0), ([(10, 1)], 0), ([(11, 1)], 0)], [], [.inl (.inl (4, ([(16, 1)], 0), 21)), .inl (.inr (20, ([(1, 1)], 0), ([(19, 1)], 0))), .inl (.inl (3, ([(16, 1)], 0), 19)), .inl (.inr (18, ([(0, 1)], 0), ([(17, 1)], 0))), .inl (.inl (2, ([(16, 1)], 0), 17))]),
   (0, ([((-600), 600), ((-600), 600), (0, 1), ((-9223372036854775808), 9223372036854775807), ((-9223372036854775808), 9223372036854775807), ((-9223372036854775808), 9223372036854775807), (0, 40), ((-2147483648), 2147483647), ((-600), 600), ((-600), 600), ((-1000000), 1000000), ((-1000000), 1000000), (1, 40), ((-2147483648), 2147483647), ((-359999), 1000000), ((-1000000), 359999), (0, 39), ((-300), 300), ((-180000), 180000), ((-300), 300), ((-180000), 180000), (1, 1)], [([(20, 1), (18, 1), (15, (-1))], (-1)), ([(14, 1), (18, (-1)), (20, (-1))], (-1)), ([(12, 1), (16, (-1))], (-1))]), [([(20, 1), (18, 1)], 0), ([(15, 1)], 0), ([(16, 1)], 1)], [], [.inl (.inl (4, ([(16, 1)], 0), 21)), .inl (.inr (20, ([(1, 1)], 0), ([(19, 1)], 0))), .inl (.inl (3, ([(16, 1)], 0), 19)), .inl (.inr (18, ([(0, 1)], 0), ([(17, 1)], 0))), .inl (.inl (2, ([(16, 1)], 0), 17))]),
   (1000, ([((-600), 600), ((-600), 600), (0, 1), ((-9223372036854775808), 9223372036854775807), ((-9223372036854775808), 9223372036854775807), ((-9223372036854775808), 9223372036854775807), (0, 40), ((-2147483648), 2147483647), ((-600), 600), ((-600), 600), ((-1000000), 1000000), ((-1000000), 1000000), (1, 40), ((-2147483648), 2147483647), ((-359999), 1000000), ((-360000), 360000), (0, 39), ((-300), 300), ((-180000), 180000), ((-300), 300), ((-180000), 180000), (1, 1)], [([(20, (-1)), (18, (-1)), (15, 1)], 0), ([(14, 1), (18, (-1)), (20, (-1))], (-1)), ([(12, 1), (16, (-1))], (-1))]), [([(2, 1)], 0), ([(8, 1)], 0), ([(9, 1)], 0), ([(10, 1)], 0), ([(11, 1)], 0)], [], [.inl (.inl (4, ([(16, 1)], 0), 21)), .inl (.inr (20, ([(1, 1)], 0), ([(19, 1)], 0))), .inl (.inl (3, ([(16, 1)], 0), 19)), .inl (.inr (18, ([(0, 1)], 0), ([(17, 1)], 0))), .inl (.inl (2, ([(16, 1)], 0), 17))]),
   (0, ([((-600), 600), ((-600), 600), (0, 1), ((-9223372036854775808), 9223372036854775807), ((-9223372036854775808), 9223372036854775807), ((-9223372036854775808), 9223372036854775807), (0, 40), ((-2147483648), 2147483647), ((-600), 600), ((-600), 600), ((-1000000), 1000000), ((-1000000), 1000000), (1, 40), ((-2147483648), 2147483647), ((-360000), 360000), ((-1000000), 359999), (0, 39), ((-300), 300), ((-180000), 180000), ((-300), 300), ((-180000), 180000), (1, 1)], [([(14, 1), (15, (-1))], (-1)), ([(14, (-1)), (18, 1), (20, 1)], 0), ([(12, 1), (16, (-1))], (-1))]), [([(14, 1)], 0), ([(15, 1)], 0), ([(16, 1)], 1)], [], [.inl (.inl (4, ([(16, 1)], 0), 21)), .inl (.inr (20, ([(1, 1)], 0), ([(19, 1)], 0))), .inl (.inl (3, ([(16, 1)], 0), 19)), .inl (.inr (18, ([(0, 1)], 0), ([(17, 1)], 0))), .inl (.inl (2, ([(16, 1)], 0), 17))]),
   (1000, ([((-600), 600), ((-600), 600), (0, 1), ((-9223372036854775808), 9223372036854775807), ((-9223372036854775808), 9223372036854775807), ((-9223372036854775808), 9223372036854775807), (0, 40), ((-2147483648), 2147483647), ((-600), 600), ((-600), 600), ((-1000000), 1000000), ((-1000000), 1000000), (1, 40), ((-2147483648), 2147483647), ((-360000), 360000), ((-360000), 360000), (0, 39), ((-300), 300), ((-180000), 180000), ((-300), 300), ((-180000), 180000), (1, 1)], [([(14, (-1)), (15, 1)], 0), ([(14, (-1)), (18, 1), (20, 1)], 0), ([(12, 1), (16, (-1))], (-1))]), [([(2, 1)], 0), ([(8, 1)], 0), ([(9, 1)], 0), ([(10, 1)], 0), ([(11, 1)], 0)], [], [.inl (.inl (4, ([(16, 1)], 0), 21)), .inl (.inr (20, ([(1, 1)], 0), ([(19, 1)], 0))), .inl (.inl (3, ([(16, 1)], 0), 19)), .inl (.inr (18, ([(0, 1)], 0), ([(17, 1)], 0))), .inl (.inl (2, ([(16, 1)], 0), 17))])]]
noncomputable def xG_88 : Nat → yt_G → (Nat → Int) → yt_G → Prop
  | 0, g0, r, g => ((1 * (r 14) + 0) + 0) = ye_lo (g0 2) (g0 3) (g0 4) (r 0) (r 1) 1000000 (((1 * (r 16) + 0) + 0)).toNat ∧ ((1 * (r 15) + 0) + 0) = ye_hi (g0 2) (g0 3) (g0 4) (r 0) (r 1) (-1000000) (((1 * (r 16) + 0) + 0)).toNat ∧ ((1 * (r 16) + 0) + 0) ≤ ((1 * (r 12) + 0) + 0) ∧ ((1 * (r 15) + 0) + 0) < ((1 * (r 14) + 0) + 0)
  | _, _, _, _ => True
noncomputable def xP_88 : yt_Ph
  | 0, r, g0, g => (((1 * (r 14) + 0) + 0), ((1 * (r 15) + 0) + 0), ((1 * (r 16) + 0) + 0), ((1 * (r 17) + 0) + 0), ((1 * (r 18) + 0) + 0)) = ye_try (g0 2) (g0 3) (g0 4) (((1 * (r 12) + 0) + 0)).toNat (r 0) (r 1) (((1 * (r 2) + 0) + 0), ((1 * (r 8) + 0) + 0), ((1 * (r 9) + 0) + 0), ((1 * (r 10) + 0) + 0), ((1 * (r 11) + 0) + 0))
  | _, _, _, _ => True
noncomputable def xR_88 : yt_Ps := fun r g0 => True
noncomputable def xT_88 : yt_Tb := fun d => match d with
  | 301 => xP_87
  | _ => fun _ _ _ _ => True
noncomputable def xU_88 : Nat → yt_Ps := fun d => match d with
  | 301 => xR_87
  | _ => fun _ _ => True
theorem xw_88_0_0 : yt_hold xT_88 xk_88 xq_88.2.2.1 xG_88 xP_88 xU_88 14 xk_88.2.1.2.2.2 (fun g0 r g => xR_88 r g0 ∧ g = g0) (0, ([((-600), 600), ((-600), 600), (0, 1), ((-9223372036854775808), 9223372036854775807), ((-9223372036854775808), 9223372036854775807), ((-9223372036854775808), 9223372036854775807), (0, 40), ((-2147483648), 2147483647), ((-600), 600), ((-600), 600), ((-1000000), 1000000), ((-1000000), 1000000), (0, 40), ((-2147483648), 2147483647)], []), [([], 1000000), ([], (-1000000)), ([], 0)], [], []) := by
  intro g0 r gi g hok hh hars hfr hG
  have b0 : (-600) ≤ r 0 ∧ r 0 ≤ 600 := hok.1 0 ((-600), 600) rfl
  have b1 : (-600) ≤ r 1 ∧ r 1 ≤ 600 := hok.1 1 ((-600), 600) rfl
  have b2 : 0 ≤ r 2 ∧ r 2 ≤ 1 := hok.1 2 (0, 1) rfl
  have b8 : (-600) ≤ r 8 ∧ r 8 ≤ 600 := hok.1 8 ((-600), 600) rfl
  have b9 : (-600) ≤ r 9 ∧ r 9 ≤ 600 := hok.1 9 ((-600), 600) rfl
  have b10 : (-1000000) ≤ r 10 ∧ r 10 ≤ 1000000 := hok.1 10 ((-1000000), 1000000) rfl
  have b11 : (-1000000) ≤ r 11 ∧ r 11 ≤ 1000000 := hok.1 11 ((-1000000), 1000000) rfl
  have b12 : 0 ≤ r 12 ∧ r 12 ≤ 40 := hok.1 12 (0, 40) rfl
  obtain ⟨hG, hgi⟩ := hG
  have hG : True := hG
  have hh : g = gi := hh
  subst hh
  refine yt_dcut (by decide) rfl ?_ ?_
  · exact fun f hf => absurd hf List.not_mem_nil
  · rw [show xk_88.2.1.2.1.1.length = 14 from rfl]
    show ((1 * ((0 : Int) + 1000000) + 0) + 0) = ye_lo (g0 2) (g0 3) (g0 4) ((1 * r 0 + 0) + 0) ((1 * r 1 + 0) + 0) 1000000 (((1 * ((0 : Int) + 0) + 0) + 0)).toNat ∧ ((1 * ((0 : Int) + (-1000000)) + 0) + 0) = ye_hi (g0 2) (g0 3) (g0 4) ((1 * r 0 + 0) + 0) ((1 * r 1 + 0) + 0) (-1000000) (((1 * ((0 : Int) + 0) + 0) + 0)).toNat ∧ ((1 * ((0 : Int) + 0) + 0) + 0) ≤ ((1 * ((1 * r 12 + 0) + 0) + 0) + 0) ∧ ((1 * ((0 : Int) + (-1000000)) + 0) + 0) < ((1 * ((0 : Int) + 1000000) + 0) + 0)
    try simp only [Int.one_mul, Int.zero_add, Int.add_zero]
    exact ⟨rfl, rfl, by omega, by omega⟩
theorem xw_88_1_0 : yt_hold xT_88 xk_88 xq_88.2.2.1 xG_88 xP_88 xU_88 17 ((xq_88.2.2.1.getD 0 (0, ([], [], ([], []), [], [], ([], 0)), [], false)).2.1.2.2.1.2) (xG_88 0) (1000, ([((-600), 600), ((-600), 600), (0, 0), ((-9223372036854775808), 9223372036854775807), ((-9223372036854775808), 9223372036854775807), ((-9223372036854775808), 9223372036854775807), (0, 40), ((-2147483648), 2147483647), ((-600), 600), ((-600), 600), ((-1000000), 1000000), ((-1000000), 1000000), (0, 40), ((-2147483648), 2147483647), ((-360000), 1000000), ((-1000000), 360000), (0, 40)], [([(12, (-1)), (16, 1)], 0)]), [([], 1), ([(0, 1)], 0), ([(1, 1)], 0), ([(14, 1)], 0), ([(15, 1)], 0)], [], []) := by
  intro g0 r gi g hok hh hars hfr hG
  have b0 : (-600) ≤ r 0 ∧ r 0 ≤ 600 := hok.1 0 ((-600), 600) rfl
  have b1 : (-600) ≤ r 1 ∧ r 1 ≤ 600 := hok.1 1 ((-600), 600) rfl
  have b2 : 0 ≤ r 2 ∧ r 2 ≤ 0 := hok.1 2 (0, 0) rfl
  have b8 : (-600) ≤ r 8 ∧ r 8 ≤ 600 := hok.1 8 ((-600), 600) rfl
  have b9 : (-600) ≤ r 9 ∧ r 9 ≤ 600 := hok.1 9 ((-600), 600) rfl
  have b10 : (-1000000) ≤ r 10 ∧ r 10 ≤ 1000000 := hok.1 10 ((-1000000), 1000000) rfl
  have b11 : (-1000000) ≤ r 11 ∧ r 11 ≤ 1000000 := hok.1 11 ((-1000000), 1000000) rfl
  have b12 : 0 ≤ r 12 ∧ r 12 ≤ 40 := hok.1 12 (0, 40) rfl
  have b14 : (-360000) ≤ r 14 ∧ r 14 ≤ 1000000 := hok.1 14 ((-360000), 1000000) rfl
  have b15 : (-1000000) ≤ r 15 ∧ r 15 ≤ 360000 := hok.1 15 ((-1000000), 360000) rfl
  have b16 : 0 ≤ r 16 ∧ r 16 ≤ 40 := hok.1 16 (0, 40) rfl
  have f0 : 0 ≤ (((-1) * r 12 + (1 * r 16 + 0)) + 0) := hok.2 _ (List.mem_of_getElem? (i := 0) rfl)
  have hG : ((1 * (r 14) + 0) + 0) = ye_lo (g0 2) (g0 3) (g0 4) (r 0) (r 1) 1000000 (((1 * (r 16) + 0) + 0)).toNat ∧ ((1 * (r 15) + 0) + 0) = ye_hi (g0 2) (g0 3) (g0 4) (r 0) (r 1) (-1000000) (((1 * (r 16) + 0) + 0)).toNat ∧ ((1 * (r 16) + 0) + 0) ≤ ((1 * (r 12) + 0) + 0) ∧ ((1 * (r 15) + 0) + 0) < ((1 * (r 14) + 0) + 0) := hG
  have hh : g = gi := hh
  subst hh
  have hG : ((1 * (r 14) + 0) + 0) = ye_lo (g0 2) (g0 3) (g0 4) (r 0) (r 1) 1000000 (((1 * (r 16) + 0) + 0)).toNat ∧ ((1 * (r 15) + 0) + 0) = ye_hi (g0 2) (g0 3) (g0 4) (r 0) (r 1) (-1000000) (((1 * (r 16) + 0) + 0)).toNat ∧ ((1 * (r 16) + 0) + 0) ≤ ((1 * (r 12) + 0) + 0) ∧ ((1 * (r 15) + 0) + 0) < ((1 * (r 14) + 0) + 0) := hG
  refine yt_dalt (by decide) (by decide) ?_
  rw [show xk_88.2.1.2.1.1.length = 14 from rfl]
  show (((1 * ((0 : Int) + 1) + 0) + 0), ((1 * ((1 * r 0 + 0) + 0) + 0) + 0), ((1 * ((1 * r 1 + 0) + 0) + 0) + 0), ((1 * ((1 * r 14 + 0) + 0) + 0) + 0), ((1 * ((1 * r 15 + 0) + 0) + 0) + 0)) = ye_try (g0 2) (g0 3) (g0 4) (((1 * ((1 * r 12 + 0) + 0) + 0) + 0)).toNat ((1 * r 0 + 0) + 0) ((1 * r 1 + 0) + 0) (((1 * ((1 * r 2 + 0) + 0) + 0) + 0), ((1 * ((1 * r 8 + 0) + 0) + 0) + 0), ((1 * ((1 * r 9 + 0) + 0) + 0) + 0), ((1 * ((1 * r 10 + 0) + 0) + 0) + 0), ((1 * ((1 * r 11 + 0) + 0) + 0) + 0))
  try simp only [Int.one_mul, Int.zero_add, Int.add_zero]
  try simp only [Int.one_mul, Int.zero_add, Int.add_zero] at hG
  obtain ⟨h1, h2, h3, h4⟩ := hG
  rw [show r 16 = r 12 by omega] at h1 h2
  unfold ye_try ye_L ye_U
  rw [← h1, ← h2]
  rw [if_pos ⟨h4, Or.inl (show r 2 = 0 by omega)⟩]
theorem xw_88_1_1 : yt_hold xT_88 xk_88 xq_88.2.2.1 xG_88 xP_88 xU_88 17 ((xq_88.2.2.1.getD 0 (0, ([], [], ([], []), [], [], ([], 0)), [], false)).2.1.2.2.1.2) (xG_88 0) (1000, ([((-600), 600), ((-600), 600), (1, 1), ((-9223372036854775808), 9223372036854775807), ((-9223372036854775808), 9223372036854775807), ((-9223372036854775808), 9223372036854775807), (0, 40), ((-2147483648), 2147483647), ((-600), 600), ((-600), 600), ((-1000000), 1000000), ((-1000000), 1000000), (0, 40), ((-2147483648), 2147483647), ((-360000), 1000000), ((-1000000), 360000), (0, 40)], [([(12, (-1)), (16, 1)], 0)]), [([(2, 1)], 0), ([(8, 1)], 0), ([(9, 1)], 0), ([(10, 1)], 0), ([(11, 1)], 0)], [], [.inr (.inr (.inl (301, 0, [([(15, (-1)), (14, 1)], 0), ([(0, 1)], 0), ([(1, 1)], 0), ([(2, 1)], 0), ([(3, 1)], 0), ([(4, 1)], 0), ([(5, 1)], 0), ([(6, 1)], 0), ([(7, 1)], 0), ([(8, 1)], 0), ([(9, 1)], 0), ([(10, 1)], 0), ([(11, 1)], 0)], [0, 5], [])))]) := by
  intro g0 r gi g hok hh hars hfr hG
  have b0 : (-600) ≤ r 0 ∧ r 0 ≤ 600 := hok.1 0 ((-600), 600) rfl
  have b1 : (-600) ≤ r 1 ∧ r 1 ≤ 600 := hok.1 1 ((-600), 600) rfl
  have b2 : 1 ≤ r 2 ∧ r 2 ≤ 1 := hok.1 2 (1, 1) rfl
  have b8 : (-600) ≤ r 8 ∧ r 8 ≤ 600 := hok.1 8 ((-600), 600) rfl
  have b9 : (-600) ≤ r 9 ∧ r 9 ≤ 600 := hok.1 9 ((-600), 600) rfl
  have b10 : (-1000000) ≤ r 10 ∧ r 10 ≤ 1000000 := hok.1 10 ((-1000000), 1000000) rfl
  have b11 : (-1000000) ≤ r 11 ∧ r 11 ≤ 1000000 := hok.1 11 ((-1000000), 1000000) rfl
  have b12 : 0 ≤ r 12 ∧ r 12 ≤ 40 := hok.1 12 (0, 40) rfl
  have b14 : (-360000) ≤ r 14 ∧ r 14 ≤ 1000000 := hok.1 14 ((-360000), 1000000) rfl
  have b15 : (-1000000) ≤ r 15 ∧ r 15 ≤ 360000 := hok.1 15 ((-1000000), 360000) rfl
  have b16 : 0 ≤ r 16 ∧ r 16 ≤ 40 := hok.1 16 (0, 40) rfl
  have f0 : 0 ≤ (((-1) * r 12 + (1 * r 16 + 0)) + 0) := hok.2 _ (List.mem_of_getElem? (i := 0) rfl)
  have hG : ((1 * (r 14) + 0) + 0) = ye_lo (g0 2) (g0 3) (g0 4) (r 0) (r 1) 1000000 (((1 * (r 16) + 0) + 0)).toNat ∧ ((1 * (r 15) + 0) + 0) = ye_hi (g0 2) (g0 3) (g0 4) (r 0) (r 1) (-1000000) (((1 * (r 16) + 0) + 0)).toNat ∧ ((1 * (r 16) + 0) + 0) ≤ ((1 * (r 12) + 0) + 0) ∧ ((1 * (r 15) + 0) + 0) < ((1 * (r 14) + 0) + 0) := hG
  obtain ⟨h0, hh, e0, k0⟩ := hh
  have k0 : ∀ j, j ∉ [] → g j = h0 j := k0
  have e0 : ¬ ((((1 * ((1 * r 10 + 0) + 0) + 0) + 0) - ((1 * ((1 * r 11 + 0) + 0) + 0) + 0)) * (((1 * ((1 * r 10 + 0) + 0) + 0) + 0) - ((1 * ((1 * r 11 + 0) + 0) + 0) + 0)) * (((1 * r 0 + 0) + 0) * ((1 * r 0 + 0) + 0) + ((1 * r 1 + 0) + 0) * ((1 * r 1 + 0) + 0)) < (((-1) * r 15 + (1 * r 14 + 0)) + 0) * (((-1) * r 15 + (1 * r 14 + 0)) + 0) * (((1 * ((1 * r 8 + 0) + 0) + 0) + 0) * ((1 * ((1 * r 8 + 0) + 0) + 0) + 0) + ((1 * ((1 * r 9 + 0) + 0) + 0) + 0) * ((1 * ((1 * r 9 + 0) + 0) + 0) + 0))) := e0
  have hh : h0 = gi := hh
  subst hh
  have hG : ((1 * (r 14) + 0) + 0) = ye_lo (g0 2) (g0 3) (g0 4) (r 0) (r 1) 1000000 (((1 * (r 16) + 0) + 0)).toNat ∧ ((1 * (r 15) + 0) + 0) = ye_hi (g0 2) (g0 3) (g0 4) (r 0) (r 1) (-1000000) (((1 * (r 16) + 0) + 0)).toNat ∧ ((1 * (r 16) + 0) + 0) ≤ ((1 * (r 12) + 0) + 0) ∧ ((1 * (r 15) + 0) + 0) < ((1 * (r 14) + 0) + 0) := hG
  refine yt_dalt (by decide) (by decide) ?_
  rw [show xk_88.2.1.2.1.1.length = 14 from rfl]
  show (((1 * ((1 * r 2 + 0) + 0) + 0) + 0), ((1 * ((1 * r 8 + 0) + 0) + 0) + 0), ((1 * ((1 * r 9 + 0) + 0) + 0) + 0), ((1 * ((1 * r 10 + 0) + 0) + 0) + 0), ((1 * ((1 * r 11 + 0) + 0) + 0) + 0)) = ye_try (g0 2) (g0 3) (g0 4) (((1 * ((1 * r 12 + 0) + 0) + 0) + 0)).toNat ((1 * r 0 + 0) + 0) ((1 * r 1 + 0) + 0) (((1 * ((1 * r 2 + 0) + 0) + 0) + 0), ((1 * ((1 * r 8 + 0) + 0) + 0) + 0), ((1 * ((1 * r 9 + 0) + 0) + 0) + 0), ((1 * ((1 * r 10 + 0) + 0) + 0) + 0), ((1 * ((1 * r 11 + 0) + 0) + 0) + 0))
  try simp only [Int.one_mul, Int.zero_add, Int.add_zero]
  try simp only [Int.one_mul, Int.zero_add, Int.add_zero] at hG
  obtain ⟨h1, h2, h3, h4⟩ := hG
  rw [show r 16 = r 12 by omega] at h1 h2
  unfold ye_try ye_L ye_U
  rw [← h1, ← h2]
  try simp only [Int.one_mul, Int.zero_add, Int.add_zero] at e0
  rw [show -1 * r 15 + r 14 = r 14 - r 15 by omega] at e0
  rw [if_neg (fun z => z.2.elim (fun q => absurd (show r 2 = 0 from q) (by omega)) (fun q => e0 q))]
theorem xw_88_1_2 : yt_hold xT_88 xk_88 xq_88.2.2.1 xG_88 xP_88 xU_88 17 ((xq_88.2.2.1.getD 0 (0, ([], [], ([], []), [], [], ([], 0)), [], false)).2.1.2.2.1.2) (xG_88 0) (1000, ([((-600), 600), ((-600), 600), (1, 1), ((-9223372036854775808), 9223372036854775807), ((-9223372036854775808), 9223372036854775807), ((-9223372036854775808), 9223372036854775807), (0, 40), ((-2147483648), 2147483647), ((-600), 600), ((-600), 600), ((-1000000), 1000000), ((-1000000), 1000000), (0, 40), ((-2147483648), 2147483647), ((-360000), 1000000), ((-1000000), 360000), (0, 40)], [([(12, (-1)), (16, 1)], 0)]), [([], 1), ([(0, 1)], 0), ([(1, 1)], 0), ([(14, 1)], 0), ([(15, 1)], 0)], [], [.inr (.inr (.inl (301, 1, [([(15, (-1)), (14, 1)], 0), ([(0, 1)], 0), ([(1, 1)], 0), ([(2, 1)], 0), ([(3, 1)], 0), ([(4, 1)], 0), ([(5, 1)], 0), ([(6, 1)], 0), ([(7, 1)], 0), ([(8, 1)], 0), ([(9, 1)], 0), ([(10, 1)], 0), ([(11, 1)], 0)], [0, 5], [])))]) := by
  intro g0 r gi g hok hh hars hfr hG
  have b0 : (-600) ≤ r 0 ∧ r 0 ≤ 600 := hok.1 0 ((-600), 600) rfl
  have b1 : (-600) ≤ r 1 ∧ r 1 ≤ 600 := hok.1 1 ((-600), 600) rfl
  have b2 : 1 ≤ r 2 ∧ r 2 ≤ 1 := hok.1 2 (1, 1) rfl
  have b8 : (-600) ≤ r 8 ∧ r 8 ≤ 600 := hok.1 8 ((-600), 600) rfl
  have b9 : (-600) ≤ r 9 ∧ r 9 ≤ 600 := hok.1 9 ((-600), 600) rfl
  have b10 : (-1000000) ≤ r 10 ∧ r 10 ≤ 1000000 := hok.1 10 ((-1000000), 1000000) rfl
  have b11 : (-1000000) ≤ r 11 ∧ r 11 ≤ 1000000 := hok.1 11 ((-1000000), 1000000) rfl
  have b12 : 0 ≤ r 12 ∧ r 12 ≤ 40 := hok.1 12 (0, 40) rfl
  have b14 : (-360000) ≤ r 14 ∧ r 14 ≤ 1000000 := hok.1 14 ((-360000), 1000000) rfl
  have b15 : (-1000000) ≤ r 15 ∧ r 15 ≤ 360000 := hok.1 15 ((-1000000), 360000) rfl
  have b16 : 0 ≤ r 16 ∧ r 16 ≤ 40 := hok.1 16 (0, 40) rfl
  have f0 : 0 ≤ (((-1) * r 12 + (1 * r 16 + 0)) + 0) := hok.2 _ (List.mem_of_getElem? (i := 0) rfl)
  have hG : ((1 * (r 14) + 0) + 0) = ye_lo (g0 2) (g0 3) (g0 4) (r 0) (r 1) 1000000 (((1 * (r 16) + 0) + 0)).toNat ∧ ((1 * (r 15) + 0) + 0) = ye_hi (g0 2) (g0 3) (g0 4) (r 0) (r 1) (-1000000) (((1 * (r 16) + 0) + 0)).toNat ∧ ((1 * (r 16) + 0) + 0) ≤ ((1 * (r 12) + 0) + 0) ∧ ((1 * (r 15) + 0) + 0) < ((1 * (r 14) + 0) + 0) := hG
  obtain ⟨h0, hh, e0, k0⟩ := hh
  have k0 : ∀ j, j ∉ [] → g j = h0 j := k0
  have e0 : (((1 * ((1 * r 10 + 0) + 0) + 0) + 0) - ((1 * ((1 * r 11 + 0) + 0) + 0) + 0)) * (((1 * ((1 * r 10 + 0) + 0) + 0) + 0) - ((1 * ((1 * r 11 + 0) + 0) + 0) + 0)) * (((1 * r 0 + 0) + 0) * ((1 * r 0 + 0) + 0) + ((1 * r 1 + 0) + 0) * ((1 * r 1 + 0) + 0)) < (((-1) * r 15 + (1 * r 14 + 0)) + 0) * (((-1) * r 15 + (1 * r 14 + 0)) + 0) * (((1 * ((1 * r 8 + 0) + 0) + 0) + 0) * ((1 * ((1 * r 8 + 0) + 0) + 0) + 0) + ((1 * ((1 * r 9 + 0) + 0) + 0) + 0) * ((1 * ((1 * r 9 + 0) + 0) + 0) + 0)) := e0
  have hh : h0 = gi := hh
  subst hh
  have hG : ((1 * (r 14) + 0) + 0) = ye_lo (g0 2) (g0 3) (g0 4) (r 0) (r 1) 1000000 (((1 * (r 16) + 0) + 0)).toNat ∧ ((1 * (r 15) + 0) + 0) = ye_hi (g0 2) (g0 3) (g0 4) (r 0) (r 1) (-1000000) (((1 * (r 16) + 0) + 0)).toNat ∧ ((1 * (r 16) + 0) + 0) ≤ ((1 * (r 12) + 0) + 0) ∧ ((1 * (r 15) + 0) + 0) < ((1 * (r 14) + 0) + 0) := hG
  refine yt_dalt (by decide) (by decide) ?_
  rw [show xk_88.2.1.2.1.1.length = 14 from rfl]
  show (((1 * ((0 : Int) + 1) + 0) + 0), ((1 * ((1 * r 0 + 0) + 0) + 0) + 0), ((1 * ((1 * r 1 + 0) + 0) + 0) + 0), ((1 * ((1 * r 14 + 0) + 0) + 0) + 0), ((1 * ((1 * r 15 + 0) + 0) + 0) + 0)) = ye_try (g0 2) (g0 3) (g0 4) (((1 * ((1 * r 12 + 0) + 0) + 0) + 0)).toNat ((1 * r 0 + 0) + 0) ((1 * r 1 + 0) + 0) (((1 * ((1 * r 2 + 0) + 0) + 0) + 0), ((1 * ((1 * r 8 + 0) + 0) + 0) + 0), ((1 * ((1 * r 9 + 0) + 0) + 0) + 0), ((1 * ((1 * r 10 + 0) + 0) + 0) + 0), ((1 * ((1 * r 11 + 0) + 0) + 0) + 0))
  try simp only [Int.one_mul, Int.zero_add, Int.add_zero]
  try simp only [Int.one_mul, Int.zero_add, Int.add_zero] at hG
  obtain ⟨h1, h2, h3, h4⟩ := hG
  rw [show r 16 = r 12 by omega] at h1 h2
  unfold ye_try ye_L ye_U
  rw [← h1, ← h2]
  try simp only [Int.one_mul, Int.zero_add, Int.add_zero] at e0
  rw [show -1 * r 15 + r 14 = r 14 - r 15 by omega] at e0
  rw [if_pos ⟨h4, Or.inr e0⟩]
theorem xw_88_1_3 : yt_hold xT_88 xk_88 xq_88.2.2.1 xG_88 xP_88 xU_88 17 ((xq_88.2.2.1.getD 0 (0, ([], [], ([], []), [], [], ([], 0)), [], false)).2.1.2.2.1.2) (xG_88 0) (0, ([((-600), 600), ((-600), 600), (0, 1), ((-9223372036854775808), 9223372036854775807), ((-9223372036854775808), 9223372036854775807), ((-9223372036854775808), 9223372036854775807), (0, 40), ((-2147483648), 2147483647), ((-600), 600), ((-600), 600), ((-1000000), 1000000), ((-1000000), 1000000), (1, 40), ((-2147483648), 2147483647), ((-359999), 1000000), ((-1000000), 359999), (0, 39), ((-300), 300), ((-180000), 180000), ((-300), 300), ((-180000), 180000), (0, 0)], [([(14, 1), (18, (-1)), (20, (-1))], (-1)), ([(20, 1), (18, 1), (15, (-1))], (-1)), ([(12, 1), (16, (-1))], (-1))]), [([(14, 1)], 0), ([(20, 1), (18, 1)], 0), ([(16, 1)], 1)], [], [.inl (.inl (4, ([(16, 1)], 0), 21)), .inl (.inr (20, ([(1, 1)], 0), ([(19, 1)], 0))), .inl (.inl (3, ([(16, 1)], 0), 19)), .inl (.inr (18, ([(0, 1)], 0), ([(17, 1)], 0))), .inl (.inl (2, ([(16, 1)], 0), 17))]) := by
  intro g0 r gi g hok hh hars hfr hG
  have b0 : (-600) ≤ r 0 ∧ r 0 ≤ 600 := hok.1 0 ((-600), 600) rfl
  have b1 : (-600) ≤ r 1 ∧ r 1 ≤ 600 := hok.1 1 ((-600), 600) rfl
  have b2 : 0 ≤ r 2 ∧ r 2 ≤ 1 := hok.1 2 (0, 1) rfl
  have b8 : (-600) ≤ r 8 ∧ r 8 ≤ 600 := hok.1 8 ((-600), 600) rfl
  have b9 : (-600) ≤ r 9 ∧ r 9 ≤ 600 := hok.1 9 ((-600), 600) rfl
  have b10 : (-1000000) ≤ r 10 ∧ r 10 ≤ 1000000 := hok.1 10 ((-1000000), 1000000) rfl
  have b11 : (-1000000) ≤ r 11 ∧ r 11 ≤ 1000000 := hok.1 11 ((-1000000), 1000000) rfl
  have b12 : 1 ≤ r 12 ∧ r 12 ≤ 40 := hok.1 12 (1, 40) rfl
  have b14 : (-359999) ≤ r 14 ∧ r 14 ≤ 1000000 := hok.1 14 ((-359999), 1000000) rfl
  have b15 : (-1000000) ≤ r 15 ∧ r 15 ≤ 359999 := hok.1 15 ((-1000000), 359999) rfl
  have b16 : 0 ≤ r 16 ∧ r 16 ≤ 39 := hok.1 16 (0, 39) rfl
  have b17 : (-300) ≤ r 17 ∧ r 17 ≤ 300 := hok.1 17 ((-300), 300) rfl
  have b18 : (-180000) ≤ r 18 ∧ r 18 ≤ 180000 := hok.1 18 ((-180000), 180000) rfl
  have b19 : (-300) ≤ r 19 ∧ r 19 ≤ 300 := hok.1 19 ((-300), 300) rfl
  have b20 : (-180000) ≤ r 20 ∧ r 20 ≤ 180000 := hok.1 20 ((-180000), 180000) rfl
  have b21 : 0 ≤ r 21 ∧ r 21 ≤ 0 := hok.1 21 (0, 0) rfl
  have f0 : 0 ≤ ((1 * r 14 + ((-1) * r 18 + ((-1) * r 20 + 0))) + (-1)) := hok.2 _ (List.mem_of_getElem? (i := 0) rfl)
  have f1 : 0 ≤ ((1 * r 20 + (1 * r 18 + ((-1) * r 15 + 0))) + (-1)) := hok.2 _ (List.mem_of_getElem? (i := 1) rfl)
  have f2 : 0 ≤ ((1 * r 12 + ((-1) * r 16 + 0)) + (-1)) := hok.2 _ (List.mem_of_getElem? (i := 2) rfl)
  have hG : ((1 * (r 14) + 0) + 0) = ye_lo (g0 2) (g0 3) (g0 4) (r 0) (r 1) 1000000 (((1 * (r 16) + 0) + 0)).toNat ∧ ((1 * (r 15) + 0) + 0) = ye_hi (g0 2) (g0 3) (g0 4) (r 0) (r 1) (-1000000) (((1 * (r 16) + 0) + 0)).toNat ∧ ((1 * (r 16) + 0) + 0) ≤ ((1 * (r 12) + 0) + 0) ∧ ((1 * (r 15) + 0) + 0) < ((1 * (r 14) + 0) + 0) := hG
  obtain ⟨g0, hh, q0, e0⟩ := hh
  subst q0
  have e0 : r 21 = g 4 (((1 * r 16 + 0) + 0)).toNat := e0
  rw [show (((1 * r 16 + 0) + 0)).toNat = (r 16).toNat by omega] at e0
  obtain ⟨g1, hh, q1, e1⟩ := hh
  subst q1
  have e1 : r 20 = ((1 * r 1 + 0) + 0) * ((1 * r 19 + 0) + 0) := e1
  try simp only [Int.one_mul, Int.zero_add, Int.add_zero] at e1
  obtain ⟨g2, hh, q2, e2⟩ := hh
  subst q2
  have e2 : r 19 = g 3 (((1 * r 16 + 0) + 0)).toNat := e2
  rw [show (((1 * r 16 + 0) + 0)).toNat = (r 16).toNat by omega] at e2
  obtain ⟨g3, hh, q3, e3⟩ := hh
  subst q3
  have e3 : r 18 = ((1 * r 0 + 0) + 0) * ((1 * r 17 + 0) + 0) := e3
  try simp only [Int.one_mul, Int.zero_add, Int.add_zero] at e3
  obtain ⟨g4, hh, q4, e4⟩ := hh
  subst q4
  have e4 : r 17 = g 2 (((1 * r 16 + 0) + 0)).toNat := e4
  rw [show (((1 * r 16 + 0) + 0)).toNat = (r 16).toNat by omega] at e4
  have hh : g = gi := hh
  subst hh
  have hG : ((1 * (r 14) + 0) + 0) = ye_lo (g0 2) (g0 3) (g0 4) (r 0) (r 1) 1000000 (((1 * (r 16) + 0) + 0)).toNat ∧ ((1 * (r 15) + 0) + 0) = ye_hi (g0 2) (g0 3) (g0 4) (r 0) (r 1) (-1000000) (((1 * (r 16) + 0) + 0)).toNat ∧ ((1 * (r 16) + 0) + 0) ≤ ((1 * (r 12) + 0) + 0) ∧ ((1 * (r 15) + 0) + 0) < ((1 * (r 14) + 0) + 0) := hG
  refine yt_dcut (by decide) rfl ?_ ?_
  · exact fun f hf => absurd hf List.not_mem_nil
  · rw [show xk_88.2.1.2.1.1.length = 14 from rfl]
    show ((1 * ((1 * r 14 + 0) + 0) + 0) + 0) = ye_lo (g0 2) (g0 3) (g0 4) ((1 * r 0 + 0) + 0) ((1 * r 1 + 0) + 0) 1000000 (((1 * ((1 * r 16 + 0) + 1) + 0) + 0)).toNat ∧ ((1 * ((1 * r 20 + (1 * r 18 + 0)) + 0) + 0) + 0) = ye_hi (g0 2) (g0 3) (g0 4) ((1 * r 0 + 0) + 0) ((1 * r 1 + 0) + 0) (-1000000) (((1 * ((1 * r 16 + 0) + 1) + 0) + 0)).toNat ∧ ((1 * ((1 * r 16 + 0) + 1) + 0) + 0) ≤ ((1 * ((1 * r 12 + 0) + 0) + 0) + 0) ∧ ((1 * ((1 * r 20 + (1 * r 18 + 0)) + 0) + 0) + 0) < ((1 * ((1 * r 14 + 0) + 0) + 0) + 0)
    try simp only [Int.one_mul, Int.zero_add, Int.add_zero]
    try simp only [Int.one_mul, Int.zero_add, Int.add_zero] at hG
    obtain ⟨h1, h2, h3, h4⟩ := hG
    rw [hfr 2 (by decide)] at e4
    rw [hfr 3 (by decide)] at e2
    rw [hfr 4 (by decide)] at e0
    try simp only [Int.one_mul, Int.zero_add, Int.add_zero] at e3 e1
    have hd : ye_d (g0 2) (g0 3) (r 0) (r 1) (r 16).toNat = r 20 + r 18 := by
      unfold ye_d
      rw [← e4, ← e2, ← e3, ← e1]
      omega
    rw [ye_lo_s (j := r 16) (by omega) (by omega), ye_hi_s (j := r 16) (by omega) (by omega), hd, ← h1, ← h2, ← e0]
    refine ⟨?_, ?_, by omega, by omega⟩
    · repeat' split
      all_goals omega
    · repeat' split
      all_goals omega
theorem xw_88_1_4 : yt_hold xT_88 xk_88 xq_88.2.2.1 xG_88 xP_88 xU_88 17 ((xq_88.2.2.1.getD 0 (0, ([], [], ([], []), [], [], ([], 0)), [], false)).2.1.2.2.1.2) (xG_88 0) (1000, ([((-600), 600), ((-600), 600), (0, 1), ((-9223372036854775808), 9223372036854775807), ((-9223372036854775808), 9223372036854775807), ((-9223372036854775808), 9223372036854775807), (0, 40), ((-2147483648), 2147483647), ((-600), 600), ((-600), 600), ((-1000000), 1000000), ((-1000000), 1000000), (1, 40), ((-2147483648), 2147483647), ((-360000), 360000), ((-1000000), 359999), (0, 39), ((-300), 300), ((-180000), 180000), ((-300), 300), ((-180000), 180000), (0, 0)], [([(14, (-1)), (18, 1), (20, 1)], 0), ([(20, 1), (18, 1), (15, (-1))], (-1)), ([(12, 1), (16, (-1))], (-1))]), [([(2, 1)], 0), ([(8, 1)], 0), ([(9, 1)], 0), ([(10, 1)], 0), ([(11, 1)], 0)], [], [.inl (.inl (4, ([(16, 1)], 0), 21)), .inl (.inr (20, ([(1, 1)], 0), ([(19, 1)], 0))), .inl (.inl (3, ([(16, 1)], 0), 19)), .inl (.inr (18, ([(0, 1)], 0), ([(17, 1)], 0))), .inl (.inl (2, ([(16, 1)], 0), 17))]) := by
  intro g0 r gi g hok hh hars hfr hG
  have b0 : (-600) ≤ r 0 ∧ r 0 ≤ 600 := hok.1 0 ((-600), 600) rfl
  have b1 : (-600) ≤ r 1 ∧ r 1 ≤ 600 := hok.1 1 ((-600), 600) rfl
  have b2 : 0 ≤ r 2 ∧ r 2 ≤ 1 := hok.1 2 (0, 1) rfl
  have b8 : (-600) ≤ r 8 ∧ r 8 ≤ 600 := hok.1 8 ((-600), 600) rfl
  have b9 : (-600) ≤ r 9 ∧ r 9 ≤ 600 := hok.1 9 ((-600), 600) rfl
  have b10 : (-1000000) ≤ r 10 ∧ r 10 ≤ 1000000 := hok.1 10 ((-1000000), 1000000) rfl
  have b11 : (-1000000) ≤ r 11 ∧ r 11 ≤ 1000000 := hok.1 11 ((-1000000), 1000000) rfl
  have b12 : 1 ≤ r 12 ∧ r 12 ≤ 40 := hok.1 12 (1, 40) rfl
  have b14 : (-360000) ≤ r 14 ∧ r 14 ≤ 360000 := hok.1 14 ((-360000), 360000) rfl
  have b15 : (-1000000) ≤ r 15 ∧ r 15 ≤ 359999 := hok.1 15 ((-1000000), 359999) rfl
  have b16 : 0 ≤ r 16 ∧ r 16 ≤ 39 := hok.1 16 (0, 39) rfl
  have b17 : (-300) ≤ r 17 ∧ r 17 ≤ 300 := hok.1 17 ((-300), 300) rfl
  have b18 : (-180000) ≤ r 18 ∧ r 18 ≤ 180000 := hok.1 18 ((-180000), 180000) rfl
  have b19 : (-300) ≤ r 19 ∧ r 19 ≤ 300 := hok.1 19 ((-300), 300) rfl
  have b20 : (-180000) ≤ r 20 ∧ r 20 ≤ 180000 := hok.1 20 ((-180000), 180000) rfl
  have b21 : 0 ≤ r 21 ∧ r 21 ≤ 0 := hok.1 21 (0, 0) rfl
  have f0 : 0 ≤ (((-1) * r 14 + (1 * r 18 + (1 * r 20 + 0))) + 0) := hok.2 _ (List.mem_of_getElem? (i := 0) rfl)
  have f1 : 0 ≤ ((1 * r 20 + (1 * r 18 + ((-1) * r 15 + 0))) + (-1)) := hok.2 _ (List.mem_of_getElem? (i := 1) rfl)
  have f2 : 0 ≤ ((1 * r 12 + ((-1) * r 16 + 0)) + (-1)) := hok.2 _ (List.mem_of_getElem? (i := 2) rfl)
  have hG : ((1 * (r 14) + 0) + 0) = ye_lo (g0 2) (g0 3) (g0 4) (r 0) (r 1) 1000000 (((1 * (r 16) + 0) + 0)).toNat ∧ ((1 * (r 15) + 0) + 0) = ye_hi (g0 2) (g0 3) (g0 4) (r 0) (r 1) (-1000000) (((1 * (r 16) + 0) + 0)).toNat ∧ ((1 * (r 16) + 0) + 0) ≤ ((1 * (r 12) + 0) + 0) ∧ ((1 * (r 15) + 0) + 0) < ((1 * (r 14) + 0) + 0) := hG
  obtain ⟨g0, hh, q0, e0⟩ := hh
  subst q0
  have e0 : r 21 = g 4 (((1 * r 16 + 0) + 0)).toNat := e0
  rw [show (((1 * r 16 + 0) + 0)).toNat = (r 16).toNat by omega] at e0
  obtain ⟨g1, hh, q1, e1⟩ := hh
  subst q1
  have e1 : r 20 = ((1 * r 1 + 0) + 0) * ((1 * r 19 + 0) + 0) := e1
  try simp only [Int.one_mul, Int.zero_add, Int.add_zero] at e1
  obtain ⟨g2, hh, q2, e2⟩ := hh
  subst q2
  have e2 : r 19 = g 3 (((1 * r 16 + 0) + 0)).toNat := e2
  rw [show (((1 * r 16 + 0) + 0)).toNat = (r 16).toNat by omega] at e2
  obtain ⟨g3, hh, q3, e3⟩ := hh
  subst q3
  have e3 : r 18 = ((1 * r 0 + 0) + 0) * ((1 * r 17 + 0) + 0) := e3
  try simp only [Int.one_mul, Int.zero_add, Int.add_zero] at e3
  obtain ⟨g4, hh, q4, e4⟩ := hh
  subst q4
  have e4 : r 17 = g 2 (((1 * r 16 + 0) + 0)).toNat := e4
  rw [show (((1 * r 16 + 0) + 0)).toNat = (r 16).toNat by omega] at e4
  have hh : g = gi := hh
  subst hh
  have hG : ((1 * (r 14) + 0) + 0) = ye_lo (g0 2) (g0 3) (g0 4) (r 0) (r 1) 1000000 (((1 * (r 16) + 0) + 0)).toNat ∧ ((1 * (r 15) + 0) + 0) = ye_hi (g0 2) (g0 3) (g0 4) (r 0) (r 1) (-1000000) (((1 * (r 16) + 0) + 0)).toNat ∧ ((1 * (r 16) + 0) + 0) ≤ ((1 * (r 12) + 0) + 0) ∧ ((1 * (r 15) + 0) + 0) < ((1 * (r 14) + 0) + 0) := hG
  refine yt_dalt (by decide) (by decide) ?_
  rw [show xk_88.2.1.2.1.1.length = 14 from rfl]
  show (((1 * ((1 * r 2 + 0) + 0) + 0) + 0), ((1 * ((1 * r 8 + 0) + 0) + 0) + 0), ((1 * ((1 * r 9 + 0) + 0) + 0) + 0), ((1 * ((1 * r 10 + 0) + 0) + 0) + 0), ((1 * ((1 * r 11 + 0) + 0) + 0) + 0)) = ye_try (g0 2) (g0 3) (g0 4) (((1 * ((1 * r 12 + 0) + 0) + 0) + 0)).toNat ((1 * r 0 + 0) + 0) ((1 * r 1 + 0) + 0) (((1 * ((1 * r 2 + 0) + 0) + 0) + 0), ((1 * ((1 * r 8 + 0) + 0) + 0) + 0), ((1 * ((1 * r 9 + 0) + 0) + 0) + 0), ((1 * ((1 * r 10 + 0) + 0) + 0) + 0), ((1 * ((1 * r 11 + 0) + 0) + 0) + 0))
  try simp only [Int.one_mul, Int.zero_add, Int.add_zero]
  try simp only [Int.one_mul, Int.zero_add, Int.add_zero] at hG
  obtain ⟨h1, h2, h3, h4⟩ := hG
  rw [hfr 2 (by decide)] at e4
  rw [hfr 3 (by decide)] at e2
  rw [hfr 4 (by decide)] at e0
  try simp only [Int.one_mul, Int.zero_add, Int.add_zero] at e3 e1
  have hd : ye_d (g0 2) (g0 3) (r 0) (r 1) (r 16).toNat = r 20 + r 18 := by
    unfold ye_d
    rw [← e4, ← e2, ← e3, ← e1]
    omega
  exact (ye_try_no (i := (r 16 + 1).toNat) (by omega) (by
    rw [ye_lo_s (j := r 16) (by omega) (by omega), ye_hi_s (j := r 16) (by omega) (by omega), hd, ← h1, ← h2, ← e0]
    repeat' split
    all_goals omega)).symm
theorem xw_88_1_5 : yt_hold xT_88 xk_88 xq_88.2.2.1 xG_88 xP_88 xU_88 17 ((xq_88.2.2.1.getD 0 (0, ([], [], ([], []), [], [], ([], 0)), [], false)).2.1.2.2.1.2) (xG_88 0) (0, ([((-600), 600), ((-600), 600), (0, 1), ((-9223372036854775808), 9223372036854775807), ((-9223372036854775808), 9223372036854775807), ((-9223372036854775808), 9223372036854775807), (0, 40), ((-2147483648), 2147483647), ((-600), 600), ((-600), 600), ((-1000000), 1000000), ((-1000000), 1000000), (1, 40), ((-2147483648), 2147483647), ((-359999), 1000000), ((-360000), 360000), (0, 39), ((-300), 300), ((-180000), 180000), ((-300), 300), ((-180000), 180000), (0, 0)], [([(14, 1), (15, (-1))], (-1)), ([(20, (-1)), (18, (-1)), (15, 1)], 0), ([(12, 1), (16, (-1))], (-1))]), [([(14, 1)], 0), ([(15, 1)], 0), ([(16, 1)], 1)], [], [.inl (.inl (4, ([(16, 1)], 0), 21)), .inl (.inr (20, ([(1, 1)], 0), ([(19, 1)], 0))), .inl (.inl (3, ([(16, 1)], 0), 19)), .inl (.inr (18, ([(0, 1)], 0), ([(17, 1)], 0))), .inl (.inl (2, ([(16, 1)], 0), 17))]) := by
  intro g0 r gi g hok hh hars hfr hG
  have b0 : (-600) ≤ r 0 ∧ r 0 ≤ 600 := hok.1 0 ((-600), 600) rfl
  have b1 : (-600) ≤ r 1 ∧ r 1 ≤ 600 := hok.1 1 ((-600), 600) rfl
  have b2 : 0 ≤ r 2 ∧ r 2 ≤ 1 := hok.1 2 (0, 1) rfl
  have b8 : (-600) ≤ r 8 ∧ r 8 ≤ 600 := hok.1 8 ((-600), 600) rfl
  have b9 : (-600) ≤ r 9 ∧ r 9 ≤ 600 := hok.1 9 ((-600), 600) rfl
  have b10 : (-1000000) ≤ r 10 ∧ r 10 ≤ 1000000 := hok.1 10 ((-1000000), 1000000) rfl
  have b11 : (-1000000) ≤ r 11 ∧ r 11 ≤ 1000000 := hok.1 11 ((-1000000), 1000000) rfl
  have b12 : 1 ≤ r 12 ∧ r 12 ≤ 40 := hok.1 12 (1, 40) rfl
  have b14 : (-359999) ≤ r 14 ∧ r 14 ≤ 1000000 := hok.1 14 ((-359999), 1000000) rfl
  have b15 : (-360000) ≤ r 15 ∧ r 15 ≤ 360000 := hok.1 15 ((-360000), 360000) rfl
  have b16 : 0 ≤ r 16 ∧ r 16 ≤ 39 := hok.1 16 (0, 39) rfl
  have b17 : (-300) ≤ r 17 ∧ r 17 ≤ 300 := hok.1 17 ((-300), 300) rfl
  have b18 : (-180000) ≤ r 18 ∧ r 18 ≤ 180000 := hok.1 18 ((-180000), 180000) rfl
  have b19 : (-300) ≤ r 19 ∧ r 19 ≤ 300 := hok.1 19 ((-300), 300) rfl
  have b20 : (-180000) ≤ r 20 ∧ r 20 ≤ 180000 := hok.1 20 ((-180000), 180000) rfl
  have b21 : 0 ≤ r 21 ∧ r 21 ≤ 0 := hok.1 21 (0, 0) rfl
  have f0 : 0 ≤ ((1 * r 14 + ((-1) * r 15 + 0)) + (-1)) := hok.2 _ (List.mem_of_getElem? (i := 0) rfl)
  have f1 : 0 ≤ (((-1) * r 20 + ((-1) * r 18 + (1 * r 15 + 0))) + 0) := hok.2 _ (List.mem_of_getElem? (i := 1) rfl)
  have f2 : 0 ≤ ((1 * r 12 + ((-1) * r 16 + 0)) + (-1)) := hok.2 _ (List.mem_of_getElem? (i := 2) rfl)
  have hG : ((1 * (r 14) + 0) + 0) = ye_lo (g0 2) (g0 3) (g0 4) (r 0) (r 1) 1000000 (((1 * (r 16) + 0) + 0)).toNat ∧ ((1 * (r 15) + 0) + 0) = ye_hi (g0 2) (g0 3) (g0 4) (r 0) (r 1) (-1000000) (((1 * (r 16) + 0) + 0)).toNat ∧ ((1 * (r 16) + 0) + 0) ≤ ((1 * (r 12) + 0) + 0) ∧ ((1 * (r 15) + 0) + 0) < ((1 * (r 14) + 0) + 0) := hG
  obtain ⟨g0, hh, q0, e0⟩ := hh
  subst q0
  have e0 : r 21 = g 4 (((1 * r 16 + 0) + 0)).toNat := e0
  rw [show (((1 * r 16 + 0) + 0)).toNat = (r 16).toNat by omega] at e0
  obtain ⟨g1, hh, q1, e1⟩ := hh
  subst q1
  have e1 : r 20 = ((1 * r 1 + 0) + 0) * ((1 * r 19 + 0) + 0) := e1
  try simp only [Int.one_mul, Int.zero_add, Int.add_zero] at e1
  obtain ⟨g2, hh, q2, e2⟩ := hh
  subst q2
  have e2 : r 19 = g 3 (((1 * r 16 + 0) + 0)).toNat := e2
  rw [show (((1 * r 16 + 0) + 0)).toNat = (r 16).toNat by omega] at e2
  obtain ⟨g3, hh, q3, e3⟩ := hh
  subst q3
  have e3 : r 18 = ((1 * r 0 + 0) + 0) * ((1 * r 17 + 0) + 0) := e3
  try simp only [Int.one_mul, Int.zero_add, Int.add_zero] at e3
  obtain ⟨g4, hh, q4, e4⟩ := hh
  subst q4
  have e4 : r 17 = g 2 (((1 * r 16 + 0) + 0)).toNat := e4
  rw [show (((1 * r 16 + 0) + 0)).toNat = (r 16).toNat by omega] at e4
  have hh : g = gi := hh
  subst hh
  have hG : ((1 * (r 14) + 0) + 0) = ye_lo (g0 2) (g0 3) (g0 4) (r 0) (r 1) 1000000 (((1 * (r 16) + 0) + 0)).toNat ∧ ((1 * (r 15) + 0) + 0) = ye_hi (g0 2) (g0 3) (g0 4) (r 0) (r 1) (-1000000) (((1 * (r 16) + 0) + 0)).toNat ∧ ((1 * (r 16) + 0) + 0) ≤ ((1 * (r 12) + 0) + 0) ∧ ((1 * (r 15) + 0) + 0) < ((1 * (r 14) + 0) + 0) := hG
  refine yt_dcut (by decide) rfl ?_ ?_
  · exact fun f hf => absurd hf List.not_mem_nil
  · rw [show xk_88.2.1.2.1.1.length = 14 from rfl]
    show ((1 * ((1 * r 14 + 0) + 0) + 0) + 0) = ye_lo (g0 2) (g0 3) (g0 4) ((1 * r 0 + 0) + 0) ((1 * r 1 + 0) + 0) 1000000 (((1 * ((1 * r 16 + 0) + 1) + 0) + 0)).toNat ∧ ((1 * ((1 * r 15 + 0) + 0) + 0) + 0) = ye_hi (g0 2) (g0 3) (g0 4) ((1 * r 0 + 0) + 0) ((1 * r 1 + 0) + 0) (-1000000) (((1 * ((1 * r 16 + 0) + 1) + 0) + 0)).toNat ∧ ((1 * ((1 * r 16 + 0) + 1) + 0) + 0) ≤ ((1 * ((1 * r 12 + 0) + 0) + 0) + 0) ∧ ((1 * ((1 * r 15 + 0) + 0) + 0) + 0) < ((1 * ((1 * r 14 + 0) + 0) + 0) + 0)
    try simp only [Int.one_mul, Int.zero_add, Int.add_zero]
    try simp only [Int.one_mul, Int.zero_add, Int.add_zero] at hG
    obtain ⟨h1, h2, h3, h4⟩ := hG
    rw [hfr 2 (by decide)] at e4
    rw [hfr 3 (by decide)] at e2
    rw [hfr 4 (by decide)] at e0
    try simp only [Int.one_mul, Int.zero_add, Int.add_zero] at e3 e1
    have hd : ye_d (g0 2) (g0 3) (r 0) (r 1) (r 16).toNat = r 20 + r 18 := by
      unfold ye_d
      rw [← e4, ← e2, ← e3, ← e1]
      omega
    rw [ye_lo_s (j := r 16) (by omega) (by omega), ye_hi_s (j := r 16) (by omega) (by omega), hd, ← h1, ← h2, ← e0]
    refine ⟨?_, ?_, by omega, by omega⟩
    · repeat' split
      all_goals omega
    · repeat' split
      all_goals omega
theorem xw_88_1_6 : yt_hold xT_88 xk_88 xq_88.2.2.1 xG_88 xP_88 xU_88 17 ((xq_88.2.2.1.getD 0 (0, ([], [], ([], []), [], [], ([], 0)), [], false)).2.1.2.2.1.2) (xG_88 0) (1000, ([((-600), 600), ((-600), 600), (0, 1), ((-9223372036854775808), 9223372036854775807), ((-9223372036854775808), 9223372036854775807), ((-9223372036854775808), 9223372036854775807), (0, 40), ((-2147483648), 2147483647), ((-600), 600), ((-600), 600), ((-1000000), 1000000), ((-1000000), 1000000), (1, 40), ((-2147483648), 2147483647), ((-360000), 360000), ((-360000), 360000), (0, 39), ((-300), 300), ((-180000), 180000), ((-300), 300), ((-180000), 180000), (0, 0)], [([(14, (-1)), (15, 1)], 0), ([(20, (-1)), (18, (-1)), (15, 1)], 0), ([(12, 1), (16, (-1))], (-1))]), [([(2, 1)], 0), ([(8, 1)], 0), ([(9, 1)], 0), ([(10, 1)], 0), ([(11, 1)], 0)], [], [.inl (.inl (4, ([(16, 1)], 0), 21)), .inl (.inr (20, ([(1, 1)], 0), ([(19, 1)], 0))), .inl (.inl (3, ([(16, 1)], 0), 19)), .inl (.inr (18, ([(0, 1)], 0), ([(17, 1)], 0))), .inl (.inl (2, ([(16, 1)], 0), 17))]) := by
  intro g0 r gi g hok hh hars hfr hG
  have b0 : (-600) ≤ r 0 ∧ r 0 ≤ 600 := hok.1 0 ((-600), 600) rfl
  have b1 : (-600) ≤ r 1 ∧ r 1 ≤ 600 := hok.1 1 ((-600), 600) rfl
  have b2 : 0 ≤ r 2 ∧ r 2 ≤ 1 := hok.1 2 (0, 1) rfl
  have b8 : (-600) ≤ r 8 ∧ r 8 ≤ 600 := hok.1 8 ((-600), 600) rfl
  have b9 : (-600) ≤ r 9 ∧ r 9 ≤ 600 := hok.1 9 ((-600), 600) rfl
  have b10 : (-1000000) ≤ r 10 ∧ r 10 ≤ 1000000 := hok.1 10 ((-1000000), 1000000) rfl
  have b11 : (-1000000) ≤ r 11 ∧ r 11 ≤ 1000000 := hok.1 11 ((-1000000), 1000000) rfl
  have b12 : 1 ≤ r 12 ∧ r 12 ≤ 40 := hok.1 12 (1, 40) rfl
  have b14 : (-360000) ≤ r 14 ∧ r 14 ≤ 360000 := hok.1 14 ((-360000), 360000) rfl
  have b15 : (-360000) ≤ r 15 ∧ r 15 ≤ 360000 := hok.1 15 ((-360000), 360000) rfl
  have b16 : 0 ≤ r 16 ∧ r 16 ≤ 39 := hok.1 16 (0, 39) rfl
  have b17 : (-300) ≤ r 17 ∧ r 17 ≤ 300 := hok.1 17 ((-300), 300) rfl
  have b18 : (-180000) ≤ r 18 ∧ r 18 ≤ 180000 := hok.1 18 ((-180000), 180000) rfl
  have b19 : (-300) ≤ r 19 ∧ r 19 ≤ 300 := hok.1 19 ((-300), 300) rfl
  have b20 : (-180000) ≤ r 20 ∧ r 20 ≤ 180000 := hok.1 20 ((-180000), 180000) rfl
  have b21 : 0 ≤ r 21 ∧ r 21 ≤ 0 := hok.1 21 (0, 0) rfl
  have f0 : 0 ≤ (((-1) * r 14 + (1 * r 15 + 0)) + 0) := hok.2 _ (List.mem_of_getElem? (i := 0) rfl)
  have f1 : 0 ≤ (((-1) * r 20 + ((-1) * r 18 + (1 * r 15 + 0))) + 0) := hok.2 _ (List.mem_of_getElem? (i := 1) rfl)
  have f2 : 0 ≤ ((1 * r 12 + ((-1) * r 16 + 0)) + (-1)) := hok.2 _ (List.mem_of_getElem? (i := 2) rfl)
  have hG : ((1 * (r 14) + 0) + 0) = ye_lo (g0 2) (g0 3) (g0 4) (r 0) (r 1) 1000000 (((1 * (r 16) + 0) + 0)).toNat ∧ ((1 * (r 15) + 0) + 0) = ye_hi (g0 2) (g0 3) (g0 4) (r 0) (r 1) (-1000000) (((1 * (r 16) + 0) + 0)).toNat ∧ ((1 * (r 16) + 0) + 0) ≤ ((1 * (r 12) + 0) + 0) ∧ ((1 * (r 15) + 0) + 0) < ((1 * (r 14) + 0) + 0) := hG
  obtain ⟨g0, hh, q0, e0⟩ := hh
  subst q0
  have e0 : r 21 = g 4 (((1 * r 16 + 0) + 0)).toNat := e0
  rw [show (((1 * r 16 + 0) + 0)).toNat = (r 16).toNat by omega] at e0
  obtain ⟨g1, hh, q1, e1⟩ := hh
  subst q1
  have e1 : r 20 = ((1 * r 1 + 0) + 0) * ((1 * r 19 + 0) + 0) := e1
  try simp only [Int.one_mul, Int.zero_add, Int.add_zero] at e1
  obtain ⟨g2, hh, q2, e2⟩ := hh
  subst q2
  have e2 : r 19 = g 3 (((1 * r 16 + 0) + 0)).toNat := e2
  rw [show (((1 * r 16 + 0) + 0)).toNat = (r 16).toNat by omega] at e2
  obtain ⟨g3, hh, q3, e3⟩ := hh
  subst q3
  have e3 : r 18 = ((1 * r 0 + 0) + 0) * ((1 * r 17 + 0) + 0) := e3
  try simp only [Int.one_mul, Int.zero_add, Int.add_zero] at e3
  obtain ⟨g4, hh, q4, e4⟩ := hh
  subst q4
  have e4 : r 17 = g 2 (((1 * r 16 + 0) + 0)).toNat := e4
  rw [show (((1 * r 16 + 0) + 0)).toNat = (r 16).toNat by omega] at e4
  have hh : g = gi := hh
  subst hh
  have hG : ((1 * (r 14) + 0) + 0) = ye_lo (g0 2) (g0 3) (g0 4) (r 0) (r 1) 1000000 (((1 * (r 16) + 0) + 0)).toNat ∧ ((1 * (r 15) + 0) + 0) = ye_hi (g0 2) (g0 3) (g0 4) (r 0) (r 1) (-1000000) (((1 * (r 16) + 0) + 0)).toNat ∧ ((1 * (r 16) + 0) + 0) ≤ ((1 * (r 12) + 0) + 0) ∧ ((1 * (r 15) + 0) + 0) < ((1 * (r 14) + 0) + 0) := hG
  refine yt_dalt (by decide) (by decide) ?_
  rw [show xk_88.2.1.2.1.1.length = 14 from rfl]
  show (((1 * ((1 * r 2 + 0) + 0) + 0) + 0), ((1 * ((1 * r 8 + 0) + 0) + 0) + 0), ((1 * ((1 * r 9 + 0) + 0) + 0) + 0), ((1 * ((1 * r 10 + 0) + 0) + 0) + 0), ((1 * ((1 * r 11 + 0) + 0) + 0) + 0)) = ye_try (g0 2) (g0 3) (g0 4) (((1 * ((1 * r 12 + 0) + 0) + 0) + 0)).toNat ((1 * r 0 + 0) + 0) ((1 * r 1 + 0) + 0) (((1 * ((1 * r 2 + 0) + 0) + 0) + 0), ((1 * ((1 * r 8 + 0) + 0) + 0) + 0), ((1 * ((1 * r 9 + 0) + 0) + 0) + 0), ((1 * ((1 * r 10 + 0) + 0) + 0) + 0), ((1 * ((1 * r 11 + 0) + 0) + 0) + 0))
  try simp only [Int.one_mul, Int.zero_add, Int.add_zero]
  try simp only [Int.one_mul, Int.zero_add, Int.add_zero] at hG
  obtain ⟨h1, h2, h3, h4⟩ := hG
  rw [hfr 2 (by decide)] at e4
  rw [hfr 3 (by decide)] at e2
  rw [hfr 4 (by decide)] at e0
  try simp only [Int.one_mul, Int.zero_add, Int.add_zero] at e3 e1
  have hd : ye_d (g0 2) (g0 3) (r 0) (r 1) (r 16).toNat = r 20 + r 18 := by
    unfold ye_d
    rw [← e4, ← e2, ← e3, ← e1]
    omega
  exact (ye_try_no (i := (r 16 + 1).toNat) (by omega) (by
    rw [ye_lo_s (j := r 16) (by omega) (by omega), ye_hi_s (j := r 16) (by omega) (by omega), hd, ← h1, ← h2, ← e0]
    repeat' split
    all_goals omega)).symm
theorem xw_88_1_7 : yt_hold xT_88 xk_88 xq_88.2.2.1 xG_88 xP_88 xU_88 17 ((xq_88.2.2.1.getD 0 (0, ([], [], ([], []), [], [], ([], 0)), [], false)).2.1.2.2.1.2) (xG_88 0) (0, ([((-600), 600), ((-600), 600), (0, 1), ((-9223372036854775808), 9223372036854775807), ((-9223372036854775808), 9223372036854775807), ((-9223372036854775808), 9223372036854775807), (0, 40), ((-2147483648), 2147483647), ((-600), 600), ((-600), 600), ((-1000000), 1000000), ((-1000000), 1000000), (1, 40), ((-2147483648), 2147483647), ((-359999), 1000000), ((-1000000), 359999), (0, 39), ((-300), 300), ((-180000), 180000), ((-300), 300), ((-180000), 180000), (1, 1)], [([(20, 1), (18, 1), (15, (-1))], (-1)), ([(14, 1), (18, (-1)), (20, (-1))], (-1)), ([(12, 1), (16, (-1))], (-1))]), [([(20, 1), (18, 1)], 0), ([(15, 1)], 0), ([(16, 1)], 1)], [], [.inl (.inl (4, ([(16, 1)], 0), 21)), .inl (.inr (20, ([(1, 1)], 0), ([(19, 1)], 0))), .inl (.inl (3, ([(16, 1)], 0), 19)), .inl (.inr (18, ([(0, 1)], 0), ([(17, 1)], 0))), .inl (.inl (2, ([(16, 1)], 0), 17))]) := by
  intro g0 r gi g hok hh hars hfr hG
  have b0 : (-600) ≤ r 0 ∧ r 0 ≤ 600 := hok.1 0 ((-600), 600) rfl
  have b1 : (-600) ≤ r 1 ∧ r 1 ≤ 600 := hok.1 1 ((-600), 600) rfl
  have b2 : 0 ≤ r 2 ∧ r 2 ≤ 1 := hok.1 2 (0, 1) rfl
  have b8 : (-600) ≤ r 8 ∧ r 8 ≤ 600 := hok.1 8 ((-600), 600) rfl
  have b9 : (-600) ≤ r 9 ∧ r 9 ≤ 600 := hok.1 9 ((-600), 600) rfl
  have b10 : (-1000000) ≤ r 10 ∧ r 10 ≤ 1000000 := hok.1 10 ((-1000000), 1000000) rfl
  have b11 : (-1000000) ≤ r 11 ∧ r 11 ≤ 1000000 := hok.1 11 ((-1000000), 1000000) rfl
  have b12 : 1 ≤ r 12 ∧ r 12 ≤ 40 := hok.1 12 (1, 40) rfl
  have b14 : (-359999) ≤ r 14 ∧ r 14 ≤ 1000000 := hok.1 14 ((-359999), 1000000) rfl
  have b15 : (-1000000) ≤ r 15 ∧ r 15 ≤ 359999 := hok.1 15 ((-1000000), 359999) rfl
  have b16 : 0 ≤ r 16 ∧ r 16 ≤ 39 := hok.1 16 (0, 39) rfl
  have b17 : (-300) ≤ r 17 ∧ r 17 ≤ 300 := hok.1 17 ((-300), 300) rfl
  have b18 : (-180000) ≤ r 18 ∧ r 18 ≤ 180000 := hok.1 18 ((-180000), 180000) rfl
  have b19 : (-300) ≤ r 19 ∧ r 19 ≤ 300 := hok.1 19 ((-300), 300) rfl
  have b20 : (-180000) ≤ r 20 ∧ r 20 ≤ 180000 := hok.1 20 ((-180000), 180000) rfl
  have b21 : 1 ≤ r 21 ∧ r 21 ≤ 1 := hok.1 21 (1, 1) rfl
  have f0 : 0 ≤ ((1 * r 20 + (1 * r 18 + ((-1) * r 15 + 0))) + (-1)) := hok.2 _ (List.mem_of_getElem? (i := 0) rfl)
  have f1 : 0 ≤ ((1 * r 14 + ((-1) * r 18 + ((-1) * r 20 + 0))) + (-1)) := hok.2 _ (List.mem_of_getElem? (i := 1) rfl)
  have f2 : 0 ≤ ((1 * r 12 + ((-1) * r 16 + 0)) + (-1)) := hok.2 _ (List.mem_of_getElem? (i := 2) rfl)
  have hG : ((1 * (r 14) + 0) + 0) = ye_lo (g0 2) (g0 3) (g0 4) (r 0) (r 1) 1000000 (((1 * (r 16) + 0) + 0)).toNat ∧ ((1 * (r 15) + 0) + 0) = ye_hi (g0 2) (g0 3) (g0 4) (r 0) (r 1) (-1000000) (((1 * (r 16) + 0) + 0)).toNat ∧ ((1 * (r 16) + 0) + 0) ≤ ((1 * (r 12) + 0) + 0) ∧ ((1 * (r 15) + 0) + 0) < ((1 * (r 14) + 0) + 0) := hG
  obtain ⟨g0, hh, q0, e0⟩ := hh
  subst q0
  have e0 : r 21 = g 4 (((1 * r 16 + 0) + 0)).toNat := e0
  rw [show (((1 * r 16 + 0) + 0)).toNat = (r 16).toNat by omega] at e0
  obtain ⟨g1, hh, q1, e1⟩ := hh
  subst q1
  have e1 : r 20 = ((1 * r 1 + 0) + 0) * ((1 * r 19 + 0) + 0) := e1
  try simp only [Int.one_mul, Int.zero_add, Int.add_zero] at e1
  obtain ⟨g2, hh, q2, e2⟩ := hh
  subst q2
  have e2 : r 19 = g 3 (((1 * r 16 + 0) + 0)).toNat := e2
  rw [show (((1 * r 16 + 0) + 0)).toNat = (r 16).toNat by omega] at e2
  obtain ⟨g3, hh, q3, e3⟩ := hh
  subst q3
  have e3 : r 18 = ((1 * r 0 + 0) + 0) * ((1 * r 17 + 0) + 0) := e3
  try simp only [Int.one_mul, Int.zero_add, Int.add_zero] at e3
  obtain ⟨g4, hh, q4, e4⟩ := hh
  subst q4
  have e4 : r 17 = g 2 (((1 * r 16 + 0) + 0)).toNat := e4
  rw [show (((1 * r 16 + 0) + 0)).toNat = (r 16).toNat by omega] at e4
  have hh : g = gi := hh
  subst hh
  have hG : ((1 * (r 14) + 0) + 0) = ye_lo (g0 2) (g0 3) (g0 4) (r 0) (r 1) 1000000 (((1 * (r 16) + 0) + 0)).toNat ∧ ((1 * (r 15) + 0) + 0) = ye_hi (g0 2) (g0 3) (g0 4) (r 0) (r 1) (-1000000) (((1 * (r 16) + 0) + 0)).toNat ∧ ((1 * (r 16) + 0) + 0) ≤ ((1 * (r 12) + 0) + 0) ∧ ((1 * (r 15) + 0) + 0) < ((1 * (r 14) + 0) + 0) := hG
  refine yt_dcut (by decide) rfl ?_ ?_
  · exact fun f hf => absurd hf List.not_mem_nil
  · rw [show xk_88.2.1.2.1.1.length = 14 from rfl]
    show ((1 * ((1 * r 20 + (1 * r 18 + 0)) + 0) + 0) + 0) = ye_lo (g0 2) (g0 3) (g0 4) ((1 * r 0 + 0) + 0) ((1 * r 1 + 0) + 0) 1000000 (((1 * ((1 * r 16 + 0) + 1) + 0) + 0)).toNat ∧ ((1 * ((1 * r 15 + 0) + 0) + 0) + 0) = ye_hi (g0 2) (g0 3) (g0 4) ((1 * r 0 + 0) + 0) ((1 * r 1 + 0) + 0) (-1000000) (((1 * ((1 * r 16 + 0) + 1) + 0) + 0)).toNat ∧ ((1 * ((1 * r 16 + 0) + 1) + 0) + 0) ≤ ((1 * ((1 * r 12 + 0) + 0) + 0) + 0) ∧ ((1 * ((1 * r 15 + 0) + 0) + 0) + 0) < ((1 * ((1 * r 20 + (1 * r 18 + 0)) + 0) + 0) + 0)
    try simp only [Int.one_mul, Int.zero_add, Int.add_zero]
    try simp only [Int.one_mul, Int.zero_add, Int.add_zero] at hG
    obtain ⟨h1, h2, h3, h4⟩ := hG
    rw [hfr 2 (by decide)] at e4
    rw [hfr 3 (by decide)] at e2
    rw [hfr 4 (by decide)] at e0
    try simp only [Int.one_mul, Int.zero_add, Int.add_zero] at e3 e1
    have hd : ye_d (g0 2) (g0 3) (r 0) (r 1) (r 16).toNat = r 20 + r 18 := by
      unfold ye_d
      rw [← e4, ← e2, ← e3, ← e1]
      omega
    rw [ye_lo_s (j := r 16) (by omega) (by omega), ye_hi_s (j := r 16) (by omega) (by omega), hd, ← h1, ← h2, ← e0]
    refine ⟨?_, ?_, by omega, by omega⟩
    · repeat' split
      all_goals omega
    · repeat' split
      all_goals omega
theorem xw_88_1_8 : yt_hold xT_88 xk_88 xq_88.2.2.1 xG_88 xP_88 xU_88 17 ((xq_88.2.2.1.getD 0 (0, ([], [], ([], []), [], [], ([], 0)), [], false)).2.1.2.2.1.2) (xG_88 0) (1000, ([((-600), 600), ((-600), 600), (0, 1), ((-9223372036854775808), 9223372036854775807), ((-9223372036854775808), 9223372036854775807), ((-9223372036854775808), 9223372036854775807), (0, 40), ((-2147483648), 2147483647), ((-600), 600), ((-600), 600), ((-1000000), 1000000), ((-1000000), 1000000), (1, 40), ((-2147483648), 2147483647), ((-359999), 1000000), ((-360000), 360000), (0, 39), ((-300), 300), ((-180000), 180000), ((-300), 300), ((-180000), 180000), (1, 1)], [([(20, (-1)), (18, (-1)), (15, 1)], 0), ([(14, 1), (18, (-1)), (20, (-1))], (-1)), ([(12, 1), (16, (-1))], (-1))]), [([(2, 1)], 0), ([(8, 1)], 0), ([(9, 1)], 0), ([(10, 1)], 0), ([(11, 1)], 0)], [], [.inl (.inl (4, ([(16, 1)], 0), 21)), .inl (.inr (20, ([(1, 1)], 0), ([(19, 1)], 0))), .inl (.inl (3, ([(16, 1)], 0), 19)), .inl (.inr (18, ([(0, 1)], 0), ([(17, 1)], 0))), .inl (.inl (2, ([(16, 1)], 0), 17))]) := by
  intro g0 r gi g hok hh hars hfr hG
  have b0 : (-600) ≤ r 0 ∧ r 0 ≤ 600 := hok.1 0 ((-600), 600) rfl
  have b1 : (-600) ≤ r 1 ∧ r 1 ≤ 600 := hok.1 1 ((-600), 600) rfl
  have b2 : 0 ≤ r 2 ∧ r 2 ≤ 1 := hok.1 2 (0, 1) rfl
  have b8 : (-600) ≤ r 8 ∧ r 8 ≤ 600 := hok.1 8 ((-600), 600) rfl
  have b9 : (-600) ≤ r 9 ∧ r 9 ≤ 600 := hok.1 9 ((-600), 600) rfl
  have b10 : (-1000000) ≤ r 10 ∧ r 10 ≤ 1000000 := hok.1 10 ((-1000000), 1000000) rfl
  have b11 : (-1000000) ≤ r 11 ∧ r 11 ≤ 1000000 := hok.1 11 ((-1000000), 1000000) rfl
  have b12 : 1 ≤ r 12 ∧ r 12 ≤ 40 := hok.1 12 (1, 40) rfl
  have b14 : (-359999) ≤ r 14 ∧ r 14 ≤ 1000000 := hok.1 14 ((-359999), 1000000) rfl
  have b15 : (-360000) ≤ r 15 ∧ r 15 ≤ 360000 := hok.1 15 ((-360000), 360000) rfl
  have b16 : 0 ≤ r 16 ∧ r 16 ≤ 39 := hok.1 16 (0, 39) rfl
  have b17 : (-300) ≤ r 17 ∧ r 17 ≤ 300 := hok.1 17 ((-300), 300) rfl
  have b18 : (-180000) ≤ r 18 ∧ r 18 ≤ 180000 := hok.1 18 ((-180000), 180000) rfl
  have b19 : (-300) ≤ r 19 ∧ r 19 ≤ 300 := hok.1 19 ((-300), 300) rfl
  have b20 : (-180000) ≤ r 20 ∧ r 20 ≤ 180000 := hok.1 20 ((-180000), 180000) rfl
  have b21 : 1 ≤ r 21 ∧ r 21 ≤ 1 := hok.1 21 (1, 1) rfl
  have f0 : 0 ≤ (((-1) * r 20 + ((-1) * r 18 + (1 * r 15 + 0))) + 0) := hok.2 _ (List.mem_of_getElem? (i := 0) rfl)
  have f1 : 0 ≤ ((1 * r 14 + ((-1) * r 18 + ((-1) * r 20 + 0))) + (-1)) := hok.2 _ (List.mem_of_getElem? (i := 1) rfl)
  have f2 : 0 ≤ ((1 * r 12 + ((-1) * r 16 + 0)) + (-1)) := hok.2 _ (List.mem_of_getElem? (i := 2) rfl)
  have hG : ((1 * (r 14) + 0) + 0) = ye_lo (g0 2) (g0 3) (g0 4) (r 0) (r 1) 1000000 (((1 * (r 16) + 0) + 0)).toNat ∧ ((1 * (r 15) + 0) + 0) = ye_hi (g0 2) (g0 3) (g0 4) (r 0) (r 1) (-1000000) (((1 * (r 16) + 0) + 0)).toNat ∧ ((1 * (r 16) + 0) + 0) ≤ ((1 * (r 12) + 0) + 0) ∧ ((1 * (r 15) + 0) + 0) < ((1 * (r 14) + 0) + 0) := hG
  obtain ⟨g0, hh, q0, e0⟩ := hh
  subst q0
  have e0 : r 21 = g 4 (((1 * r 16 + 0) + 0)).toNat := e0
  rw [show (((1 * r 16 + 0) + 0)).toNat = (r 16).toNat by omega] at e0
  obtain ⟨g1, hh, q1, e1⟩ := hh
  subst q1
  have e1 : r 20 = ((1 * r 1 + 0) + 0) * ((1 * r 19 + 0) + 0) := e1
  try simp only [Int.one_mul, Int.zero_add, Int.add_zero] at e1
  obtain ⟨g2, hh, q2, e2⟩ := hh
  subst q2
  have e2 : r 19 = g 3 (((1 * r 16 + 0) + 0)).toNat := e2
  rw [show (((1 * r 16 + 0) + 0)).toNat = (r 16).toNat by omega] at e2
  obtain ⟨g3, hh, q3, e3⟩ := hh
  subst q3
  have e3 : r 18 = ((1 * r 0 + 0) + 0) * ((1 * r 17 + 0) + 0) := e3
  try simp only [Int.one_mul, Int.zero_add, Int.add_zero] at e3
  obtain ⟨g4, hh, q4, e4⟩ := hh
  subst q4
  have e4 : r 17 = g 2 (((1 * r 16 + 0) + 0)).toNat := e4
  rw [show (((1 * r 16 + 0) + 0)).toNat = (r 16).toNat by omega] at e4
  have hh : g = gi := hh
  subst hh
  have hG : ((1 * (r 14) + 0) + 0) = ye_lo (g0 2) (g0 3) (g0 4) (r 0) (r 1) 1000000 (((1 * (r 16) + 0) + 0)).toNat ∧ ((1 * (r 15) + 0) + 0) = ye_hi (g0 2) (g0 3) (g0 4) (r 0) (r 1) (-1000000) (((1 * (r 16) + 0) + 0)).toNat ∧ ((1 * (r 16) + 0) + 0) ≤ ((1 * (r 12) + 0) + 0) ∧ ((1 * (r 15) + 0) + 0) < ((1 * (r 14) + 0) + 0) := hG
  refine yt_dalt (by decide) (by decide) ?_
  rw [show xk_88.2.1.2.1.1.length = 14 from rfl]
  show (((1 * ((1 * r 2 + 0) + 0) + 0) + 0), ((1 * ((1 * r 8 + 0) + 0) + 0) + 0), ((1 * ((1 * r 9 + 0) + 0) + 0) + 0), ((1 * ((1 * r 10 + 0) + 0) + 0) + 0), ((1 * ((1 * r 11 + 0) + 0) + 0) + 0)) = ye_try (g0 2) (g0 3) (g0 4) (((1 * ((1 * r 12 + 0) + 0) + 0) + 0)).toNat ((1 * r 0 + 0) + 0) ((1 * r 1 + 0) + 0) (((1 * ((1 * r 2 + 0) + 0) + 0) + 0), ((1 * ((1 * r 8 + 0) + 0) + 0) + 0), ((1 * ((1 * r 9 + 0) + 0) + 0) + 0), ((1 * ((1 * r 10 + 0) + 0) + 0) + 0), ((1 * ((1 * r 11 + 0) + 0) + 0) + 0))
  try simp only [Int.one_mul, Int.zero_add, Int.add_zero]
  try simp only [Int.one_mul, Int.zero_add, Int.add_zero] at hG
  obtain ⟨h1, h2, h3, h4⟩ := hG
  rw [hfr 2 (by decide)] at e4
  rw [hfr 3 (by decide)] at e2
  rw [hfr 4 (by decide)] at e0
  try simp only [Int.one_mul, Int.zero_add, Int.add_zero] at e3 e1
  have hd : ye_d (g0 2) (g0 3) (r 0) (r 1) (r 16).toNat = r 20 + r 18 := by
    unfold ye_d
    rw [← e4, ← e2, ← e3, ← e1]
    omega
  exact (ye_try_no (i := (r 16 + 1).toNat) (by omega) (by
    rw [ye_lo_s (j := r 16) (by omega) (by omega), ye_hi_s (j := r 16) (by omega) (by omega), hd, ← h1, ← h2, ← e0]
    repeat' split
    all_goals omega)).symm
theorem xw_88_1_9 : yt_hold xT_88 xk_88 xq_88.2.2.1 xG_88 xP_88 xU_88 17 ((xq_88.2.2.1.getD 0 (0, ([], [], ([], []), [], [], ([], 0)), [], false)).2.1.2.2.1.2) (xG_88 0) (0, ([((-600), 600), ((-600), 600), (0, 1), ((-9223372036854775808), 9223372036854775807), ((-9223372036854775808), 9223372036854775807), ((-9223372036854775808), 9223372036854775807), (0, 40), ((-2147483648), 2147483647), ((-600), 600), ((-600), 600), ((-1000000), 1000000), ((-1000000), 1000000), (1, 40), ((-2147483648), 2147483647), ((-360000), 360000), ((-1000000), 359999), (0, 39), ((-300), 300), ((-180000), 180000), ((-300), 300), ((-180000), 180000), (1, 1)], [([(14, 1), (15, (-1))], (-1)), ([(14, (-1)), (18, 1), (20, 1)], 0), ([(12, 1), (16, (-1))], (-1))]), [([(14, 1)], 0), ([(15, 1)], 0), ([(16, 1)], 1)], [], [.inl (.inl (4, ([(16, 1)], 0), 21)), .inl (.inr (20, ([(1, 1)], 0), ([(19, 1)], 0))), .inl (.inl (3, ([(16, 1)], 0), 19)), .inl (.inr (18, ([(0, 1)], 0), ([(17, 1)], 0))), .inl (.inl (2, ([(16, 1)], 0), 17))]) := by
  intro g0 r gi g hok hh hars hfr hG
  have b0 : (-600) ≤ r 0 ∧ r 0 ≤ 600 := hok.1 0 ((-600), 600) rfl
  have b1 : (-600) ≤ r 1 ∧ r 1 ≤ 600 := hok.1 1 ((-600), 600) rfl
  have b2 : 0 ≤ r 2 ∧ r 2 ≤ 1 := hok.1 2 (0, 1) rfl
  have b8 : (-600) ≤ r 8 ∧ r 8 ≤ 600 := hok.1 8 ((-600), 600) rfl
  have b9 : (-600) ≤ r 9 ∧ r 9 ≤ 600 := hok.1 9 ((-600), 600) rfl
  have b10 : (-1000000) ≤ r 10 ∧ r 10 ≤ 1000000 := hok.1 10 ((-1000000), 1000000) rfl
  have b11 : (-1000000) ≤ r 11 ∧ r 11 ≤ 1000000 := hok.1 11 ((-1000000), 1000000) rfl
  have b12 : 1 ≤ r 12 ∧ r 12 ≤ 40 := hok.1 12 (1, 40) rfl
  have b14 : (-360000) ≤ r 14 ∧ r 14 ≤ 360000 := hok.1 14 ((-360000), 360000) rfl
  have b15 : (-1000000) ≤ r 15 ∧ r 15 ≤ 359999 := hok.1 15 ((-1000000), 359999) rfl
  have b16 : 0 ≤ r 16 ∧ r 16 ≤ 39 := hok.1 16 (0, 39) rfl
  have b17 : (-300) ≤ r 17 ∧ r 17 ≤ 300 := hok.1 17 ((-300), 300) rfl
  have b18 : (-180000) ≤ r 18 ∧ r 18 ≤ 180000 := hok.1 18 ((-180000), 180000) rfl
  have b19 : (-300) ≤ r 19 ∧ r 19 ≤ 300 := hok.1 19 ((-300), 300) rfl
  have b20 : (-180000) ≤ r 20 ∧ r 20 ≤ 180000 := hok.1 20 ((-180000), 180000) rfl
  have b21 : 1 ≤ r 21 ∧ r 21 ≤ 1 := hok.1 21 (1, 1) rfl
  have f0 : 0 ≤ ((1 * r 14 + ((-1) * r 15 + 0)) + (-1)) := hok.2 _ (List.mem_of_getElem? (i := 0) rfl)
  have f1 : 0 ≤ (((-1) * r 14 + (1 * r 18 + (1 * r 20 + 0))) + 0) := hok.2 _ (List.mem_of_getElem? (i := 1) rfl)
  have f2 : 0 ≤ ((1 * r 12 + ((-1) * r 16 + 0)) + (-1)) := hok.2 _ (List.mem_of_getElem? (i := 2) rfl)
  have hG : ((1 * (r 14) + 0) + 0) = ye_lo (g0 2) (g0 3) (g0 4) (r 0) (r 1) 1000000 (((1 * (r 16) + 0) + 0)).toNat ∧ ((1 * (r 15) + 0) + 0) = ye_hi (g0 2) (g0 3) (g0 4) (r 0) (r 1) (-1000000) (((1 * (r 16) + 0) + 0)).toNat ∧ ((1 * (r 16) + 0) + 0) ≤ ((1 * (r 12) + 0) + 0) ∧ ((1 * (r 15) + 0) + 0) < ((1 * (r 14) + 0) + 0) := hG
  obtain ⟨g0, hh, q0, e0⟩ := hh
  subst q0
  have e0 : r 21 = g 4 (((1 * r 16 + 0) + 0)).toNat := e0
  rw [show (((1 * r 16 + 0) + 0)).toNat = (r 16).toNat by omega] at e0
  obtain ⟨g1, hh, q1, e1⟩ := hh
  subst q1
  have e1 : r 20 = ((1 * r 1 + 0) + 0) * ((1 * r 19 + 0) + 0) := e1
  try simp only [Int.one_mul, Int.zero_add, Int.add_zero] at e1
  obtain ⟨g2, hh, q2, e2⟩ := hh
  subst q2
  have e2 : r 19 = g 3 (((1 * r 16 + 0) + 0)).toNat := e2
  rw [show (((1 * r 16 + 0) + 0)).toNat = (r 16).toNat by omega] at e2
  obtain ⟨g3, hh, q3, e3⟩ := hh
  subst q3
  have e3 : r 18 = ((1 * r 0 + 0) + 0) * ((1 * r 17 + 0) + 0) := e3
  try simp only [Int.one_mul, Int.zero_add, Int.add_zero] at e3
  obtain ⟨g4, hh, q4, e4⟩ := hh
  subst q4
  have e4 : r 17 = g 2 (((1 * r 16 + 0) + 0)).toNat := e4
  rw [show (((1 * r 16 + 0) + 0)).toNat = (r 16).toNat by omega] at e4
  have hh : g = gi := hh
  subst hh
  have hG : ((1 * (r 14) + 0) + 0) = ye_lo (g0 2) (g0 3) (g0 4) (r 0) (r 1) 1000000 (((1 * (r 16) + 0) + 0)).toNat ∧ ((1 * (r 15) + 0) + 0) = ye_hi (g0 2) (g0 3) (g0 4) (r 0) (r 1) (-1000000) (((1 * (r 16) + 0) + 0)).toNat ∧ ((1 * (r 16) + 0) + 0) ≤ ((1 * (r 12) + 0) + 0) ∧ ((1 * (r 15) + 0) + 0) < ((1 * (r 14) + 0) + 0) := hG
  refine yt_dcut (by decide) rfl ?_ ?_
  · exact fun f hf => absurd hf List.not_mem_nil
  · rw [show xk_88.2.1.2.1.1.length = 14 from rfl]
    show ((1 * ((1 * r 14 + 0) + 0) + 0) + 0) = ye_lo (g0 2) (g0 3) (g0 4) ((1 * r 0 + 0) + 0) ((1 * r 1 + 0) + 0) 1000000 (((1 * ((1 * r 16 + 0) + 1) + 0) + 0)).toNat ∧ ((1 * ((1 * r 15 + 0) + 0) + 0) + 0) = ye_hi (g0 2) (g0 3) (g0 4) ((1 * r 0 + 0) + 0) ((1 * r 1 + 0) + 0) (-1000000) (((1 * ((1 * r 16 + 0) + 1) + 0) + 0)).toNat ∧ ((1 * ((1 * r 16 + 0) + 1) + 0) + 0) ≤ ((1 * ((1 * r 12 + 0) + 0) + 0) + 0) ∧ ((1 * ((1 * r 15 + 0) + 0) + 0) + 0) < ((1 * ((1 * r 14 + 0) + 0) + 0) + 0)
    try simp only [Int.one_mul, Int.zero_add, Int.add_zero]
    try simp only [Int.one_mul, Int.zero_add, Int.add_zero] at hG
    obtain ⟨h1, h2, h3, h4⟩ := hG
    rw [hfr 2 (by decide)] at e4
    rw [hfr 3 (by decide)] at e2
    rw [hfr 4 (by decide)] at e0
    try simp only [Int.one_mul, Int.zero_add, Int.add_zero] at e3 e1
    have hd : ye_d (g0 2) (g0 3) (r 0) (r 1) (r 16).toNat = r 20 + r 18 := by
      unfold ye_d
      rw [← e4, ← e2, ← e3, ← e1]
      omega
    rw [ye_lo_s (j := r 16) (by omega) (by omega), ye_hi_s (j := r 16) (by omega) (by omega), hd, ← h1, ← h2, ← e0]
    refine ⟨?_, ?_, by omega, by omega⟩
    · repeat' split
      all_goals omega
    · repeat' split
      all_goals omega
theorem xw_88_1_10 : yt_hold xT_88 xk_88 xq_88.2.2.1 xG_88 xP_88 xU_88 17 ((xq_88.2.2.1.getD 0 (0, ([], [], ([], []), [], [], ([], 0)), [], false)).2.1.2.2.1.2) (xG_88 0) (1000, ([((-600), 600), ((-600), 600), (0, 1), ((-9223372036854775808), 9223372036854775807), ((-9223372036854775808), 9223372036854775807), ((-9223372036854775808), 9223372036854775807), (0, 40), ((-2147483648), 2147483647), ((-600), 600), ((-600), 600), ((-1000000), 1000000), ((-1000000), 1000000), (1, 40), ((-2147483648), 2147483647), ((-360000), 360000), ((-360000), 360000), (0, 39), ((-300), 300), ((-180000), 180000), ((-300), 300), ((-180000), 180000), (1, 1)], [([(14, (-1)), (15, 1)], 0), ([(14, (-1)), (18, 1), (20, 1)], 0), ([(12, 1), (16, (-1))], (-1))]), [([(2, 1)], 0), ([(8, 1)], 0), ([(9, 1)], 0), ([(10, 1)], 0), ([(11, 1)], 0)], [], [.inl (.inl (4, ([(16, 1)], 0), 21)), .inl (.inr (20, ([(1, 1)], 0), ([(19, 1)], 0))), .inl (.inl (3, ([(16, 1)], 0), 19)), .inl (.inr (18, ([(0, 1)], 0), ([(17, 1)], 0))), .inl (.inl (2, ([(16, 1)], 0), 17))]) := by
  intro g0 r gi g hok hh hars hfr hG
  have b0 : (-600) ≤ r 0 ∧ r 0 ≤ 600 := hok.1 0 ((-600), 600) rfl
  have b1 : (-600) ≤ r 1 ∧ r 1 ≤ 600 := hok.1 1 ((-600), 600) rfl
  have b2 : 0 ≤ r 2 ∧ r 2 ≤ 1 := hok.1 2 (0, 1) rfl
  have b8 : (-600) ≤ r 8 ∧ r 8 ≤ 600 := hok.1 8 ((-600), 600) rfl
  have b9 : (-600) ≤ r 9 ∧ r 9 ≤ 600 := hok.1 9 ((-600), 600) rfl
  have b10 : (-1000000) ≤ r 10 ∧ r 10 ≤ 1000000 := hok.1 10 ((-1000000), 1000000) rfl
  have b11 : (-1000000) ≤ r 11 ∧ r 11 ≤ 1000000 := hok.1 11 ((-1000000), 1000000) rfl
  have b12 : 1 ≤ r 12 ∧ r 12 ≤ 40 := hok.1 12 (1, 40) rfl
  have b14 : (-360000) ≤ r 14 ∧ r 14 ≤ 360000 := hok.1 14 ((-360000), 360000) rfl
  have b15 : (-360000) ≤ r 15 ∧ r 15 ≤ 360000 := hok.1 15 ((-360000), 360000) rfl
  have b16 : 0 ≤ r 16 ∧ r 16 ≤ 39 := hok.1 16 (0, 39) rfl
  have b17 : (-300) ≤ r 17 ∧ r 17 ≤ 300 := hok.1 17 ((-300), 300) rfl
  have b18 : (-180000) ≤ r 18 ∧ r 18 ≤ 180000 := hok.1 18 ((-180000), 180000) rfl
  have b19 : (-300) ≤ r 19 ∧ r 19 ≤ 300 := hok.1 19 ((-300), 300) rfl
  have b20 : (-180000) ≤ r 20 ∧ r 20 ≤ 180000 := hok.1 20 ((-180000), 180000) rfl
  have b21 : 1 ≤ r 21 ∧ r 21 ≤ 1 := hok.1 21 (1, 1) rfl
  have f0 : 0 ≤ (((-1) * r 14 + (1 * r 15 + 0)) + 0) := hok.2 _ (List.mem_of_getElem? (i := 0) rfl)
  have f1 : 0 ≤ (((-1) * r 14 + (1 * r 18 + (1 * r 20 + 0))) + 0) := hok.2 _ (List.mem_of_getElem? (i := 1) rfl)
  have f2 : 0 ≤ ((1 * r 12 + ((-1) * r 16 + 0)) + (-1)) := hok.2 _ (List.mem_of_getElem? (i := 2) rfl)
  have hG : ((1 * (r 14) + 0) + 0) = ye_lo (g0 2) (g0 3) (g0 4) (r 0) (r 1) 1000000 (((1 * (r 16) + 0) + 0)).toNat ∧ ((1 * (r 15) + 0) + 0) = ye_hi (g0 2) (g0 3) (g0 4) (r 0) (r 1) (-1000000) (((1 * (r 16) + 0) + 0)).toNat ∧ ((1 * (r 16) + 0) + 0) ≤ ((1 * (r 12) + 0) + 0) ∧ ((1 * (r 15) + 0) + 0) < ((1 * (r 14) + 0) + 0) := hG
  obtain ⟨g0, hh, q0, e0⟩ := hh
  subst q0
  have e0 : r 21 = g 4 (((1 * r 16 + 0) + 0)).toNat := e0
  rw [show (((1 * r 16 + 0) + 0)).toNat = (r 16).toNat by omega] at e0
  obtain ⟨g1, hh, q1, e1⟩ := hh
  subst q1
  have e1 : r 20 = ((1 * r 1 + 0) + 0) * ((1 * r 19 + 0) + 0) := e1
  try simp only [Int.one_mul, Int.zero_add, Int.add_zero] at e1
  obtain ⟨g2, hh, q2, e2⟩ := hh
  subst q2
  have e2 : r 19 = g 3 (((1 * r 16 + 0) + 0)).toNat := e2
  rw [show (((1 * r 16 + 0) + 0)).toNat = (r 16).toNat by omega] at e2
  obtain ⟨g3, hh, q3, e3⟩ := hh
  subst q3
  have e3 : r 18 = ((1 * r 0 + 0) + 0) * ((1 * r 17 + 0) + 0) := e3
  try simp only [Int.one_mul, Int.zero_add, Int.add_zero] at e3
  obtain ⟨g4, hh, q4, e4⟩ := hh
  subst q4
  have e4 : r 17 = g 2 (((1 * r 16 + 0) + 0)).toNat := e4
  rw [show (((1 * r 16 + 0) + 0)).toNat = (r 16).toNat by omega] at e4
  have hh : g = gi := hh
  subst hh
  have hG : ((1 * (r 14) + 0) + 0) = ye_lo (g0 2) (g0 3) (g0 4) (r 0) (r 1) 1000000 (((1 * (r 16) + 0) + 0)).toNat ∧ ((1 * (r 15) + 0) + 0) = ye_hi (g0 2) (g0 3) (g0 4) (r 0) (r 1) (-1000000) (((1 * (r 16) + 0) + 0)).toNat ∧ ((1 * (r 16) + 0) + 0) ≤ ((1 * (r 12) + 0) + 0) ∧ ((1 * (r 15) + 0) + 0) < ((1 * (r 14) + 0) + 0) := hG
  refine yt_dalt (by decide) (by decide) ?_
  rw [show xk_88.2.1.2.1.1.length = 14 from rfl]
  show (((1 * ((1 * r 2 + 0) + 0) + 0) + 0), ((1 * ((1 * r 8 + 0) + 0) + 0) + 0), ((1 * ((1 * r 9 + 0) + 0) + 0) + 0), ((1 * ((1 * r 10 + 0) + 0) + 0) + 0), ((1 * ((1 * r 11 + 0) + 0) + 0) + 0)) = ye_try (g0 2) (g0 3) (g0 4) (((1 * ((1 * r 12 + 0) + 0) + 0) + 0)).toNat ((1 * r 0 + 0) + 0) ((1 * r 1 + 0) + 0) (((1 * ((1 * r 2 + 0) + 0) + 0) + 0), ((1 * ((1 * r 8 + 0) + 0) + 0) + 0), ((1 * ((1 * r 9 + 0) + 0) + 0) + 0), ((1 * ((1 * r 10 + 0) + 0) + 0) + 0), ((1 * ((1 * r 11 + 0) + 0) + 0) + 0))
  try simp only [Int.one_mul, Int.zero_add, Int.add_zero]
  try simp only [Int.one_mul, Int.zero_add, Int.add_zero] at hG
  obtain ⟨h1, h2, h3, h4⟩ := hG
  rw [hfr 2 (by decide)] at e4
  rw [hfr 3 (by decide)] at e2
  rw [hfr 4 (by decide)] at e0
  try simp only [Int.one_mul, Int.zero_add, Int.add_zero] at e3 e1
  have hd : ye_d (g0 2) (g0 3) (r 0) (r 1) (r 16).toNat = r 20 + r 18 := by
    unfold ye_d
    rw [← e4, ← e2, ← e3, ← e1]
    omega
  exact (ye_try_no (i := (r 16 + 1).toNat) (by omega) (by
    rw [ye_lo_s (j := r 16) (by omega) (by omega), ye_hi_s (j := r 16) (by omega) (by omega), hd, ← h1, ← h2, ← e0]
    repeat' split
    all_goals omega)).symm
theorem xn_88 : ∀ (j : Nat) (q : Nat × yt_T), xq_88.2.2.1[j]? = some q → q.2.2.2 = false → ∀ g0 r g, xG_88 j g0 r g
  | 0, q, hq, hf => by cases hq; cases hf
  | n + 1, q, hq, _ => by cases hq
theorem xs_88 : ∀ j, xq_88.2.2.2.getD j false = false → ∀ r g g', xP_88 j r g g'
  | 0, hf => by cases hf
  | n + 1, _ => fun _ _ _ => trivial
theorem xc_88 {l : Launch} {D : va_G} {cT : Nat → ClassId} {tys : List (ClassId × FieldType)} (hty : yx_Ty tys cT) : yt_Con l D vwCl cT tys yG yw_s54 xk_88 xR_88 xP_88 := yx_sem (calls := xa_88) (Z := xq_88) (tb := xT_88) (pt := xU_88) (Ga := xG_88) (vs := xv_88) (fun _ _ _ _ => trivial) 300 (by decide +kernel) yz_X10_tryAcross_ok hty (yl_lkX10 _) (yl_cqkX10 _) (List.forall_mem_cons.mpr ⟨⟨xc_87 hty, yg_CLv rfl rfl rfl yl_wX10_99 yd_yX10_isWider, fun _ _ _ => trivial⟩, fun _ h => absurd h List.not_mem_nil⟩) (xn_88) (xs_88) (by decide +kernel) (List.forall_mem_cons.mpr ⟨xw_88_0_0, fun _ h => absurd h List.not_mem_nil⟩) (⟨List.forall_mem_cons.mpr ⟨xw_88_1_0, List.forall_mem_cons.mpr ⟨xw_88_1_1, List.forall_mem_cons.mpr ⟨xw_88_1_2, List.forall_mem_cons.mpr ⟨xw_88_1_3, List.forall_mem_cons.mpr ⟨xw_88_1_4, List.forall_mem_cons.mpr ⟨xw_88_1_5, List.forall_mem_cons.mpr ⟨xw_88_1_6, List.forall_mem_cons.mpr ⟨xw_88_1_7, List.forall_mem_cons.mpr ⟨xw_88_1_8, List.forall_mem_cons.mpr ⟨xw_88_1_9, List.forall_mem_cons.mpr ⟨xw_88_1_10, fun _ h => absurd h List.not_mem_nil⟩⟩⟩⟩⟩⟩⟩⟩⟩⟩⟩, trivial⟩)
noncomputable def xf_89 : ys_F := (yw_f54 2, yw_r54)
noncomputable def xk_89 : ys_K := (((yX10_tryPair, cX10_tryPair, 6, none), (3, 76)), ([.inr (some 0), .inr (some 1), .inl (.inl ([(0, 1)], 0)), .inl (.inl ([(1, 1)], 0))], ([(0, 39), (0, 39)] ++ yw_e54, []), xf_89), ([([(0, 1), ((-600), 600), ((-600), 600), ((-1000000), 1000000), ((-1000000), 1000000)], [], ((ys_fs xf_89.1 [(0, 1, .inl (.inl ([(14, 1)], 0))), (0, 7, .inl (.inl ([(15, 1)], 0))), (0, 8, .inl (.inl ([(16, 1)], 0))), (0, 9, .inl (.inl ([(17, 1)], 0))), (0, 10, .inl (.inl ([(18, 1)], 0)))]), xf_89.2), none)], []))
noncomputable def xq_89 : yt_Q := (yz_X10_tryPair, (yl_flX10, yl_ciX10, yl_cjX10, yl_cpX10, yl_cqX10), [], [true])
noncomputable def xa_89 : List yt_CE := [(((78, false), (180, false, [1, 2, 3, 4, 6])), (yw_s11, xk_12)), (((85, false), (302, false, [0, 1, 2, 3, 4, 5, 6])), (yw_s54, xk_88))]
noncomputable def xv_89 : List (List yt_VC) := [[(1000, ([(0, 39), (0, 39), (0, 1), ((-9223372036854775808), 9223372036854775807), ((-9223372036854775808), 9223372036854775807), ((-9223372036854775808), 9223372036854775807), (0, 40), ((-2147483648), 2147483647), ((-600), 600), ((-600), 600), ((-1000000), 1000000), ((-1000000), 1000000), (0, 40), ((-2147483648), 2147483647), ((-300), 300), ((-300), 300), ((-300), 300), ((-300), 300), (1, 1), (0, 0), (0, 1), ((-600), 600), ((-600), 600), ((-1000000), 1000000), ((-1000000), 1000000)], [([(18, 1), (19, (-1))], (-1))]), [([(20, 1)], 0), ([(21, 1)], 0), ([(22, 1)], 0), ([(23, 1)], 0), ([(24, 1)], 0)], [], [.inr (.inr (.inl (302, 0, [([(15, 1), (14, (-1))], 0), ([(17, 1), (16, (-1))], 0), ([(2, 1)], 0), ([(3, 1)], 0), ([(4, 1)], 0), ([(5, 1)], 0), ([(6, 1)], 0), ([(7, 1)], 0), ([(8, 1)], 0), ([(9, 1)], 0), ([(10, 1)], 0), ([(11, 1)], 0), ([(12, 1)], 0), ([(13, 1)], 0), ([(20, 1)], 0), ([(21, 1)], 0), ([(22, 1)], 0), ([(23, 1)], 0), ([(24, 1)], 0)], [0, 1, 2, 3, 4, 5, 6], []))), .inl (.inl (4, ([(1, 1)], 0), 19)), .inl (.inl (4, ([(0, 1)], 0), 18)), .inl (.inl (3, ([(0, 1)], 0), 17)), .inl (.inl (3, ([(1, 1)], 0), 16)), .inl (.inl (2, ([(0, 1)], 0), 15)), .inl (.inl (2, ([(1, 1)], 0), 14)), .inr (.inr (.inl (180, 0, [([(0, 1)], 0), ([(1, 1)], 0), ([(12, 1)], 0), ([(13, 1)], 0)], [1, 2, 3, 4, 6], [])))]),
   (1000, ([(0, 39), (0, 39), (0, 1), ((-9223372036854775808), 9223372036854775807), ((-9223372036854775808), 9223372036854775807), ((-9223372036854775808), 9223372036854775807), (0, 40), ((-2147483648), 2147483647), ((-600), 600), ((-600), 600), ((-1000000), 1000000), ((-1000000), 1000000), (0, 40), ((-2147483648), 2147483647), ((-300), 300), ((-300), 300), ((-300), 300), ((-300), 300), (0, 0), (1, 1), (0, 1), ((-600), 600), ((-600), 600), ((-1000000), 1000000), ((-1000000), 1000000)], [([(19, 1), (18, (-1))], (-1))]), [([(20, 1)], 0), ([(21, 1)], 0), ([(22, 1)], 0), ([(23, 1)], 0), ([(24, 1)], 0)], [], [.inr (.inr (.inl (302, 0, [([(15, (-1)), (14, 1)], 0), ([(17, (-1)), (16, 1)], 0), ([(2, 1)], 0), ([(3, 1)], 0), ([(4, 1)], 0), ([(5, 1)], 0), ([(6, 1)], 0), ([(7, 1)], 0), ([(8, 1)], 0), ([(9, 1)], 0), ([(10, 1)], 0), ([(11, 1)], 0), ([(12, 1)], 0), ([(13, 1)], 0), ([(20, 1)], 0), ([(21, 1)], 0), ([(22, 1)], 0), ([(23, 1)], 0), ([(24, 1)], 0)], [0, 1, 2, 3, 4, 5, 6], []))), .inl (.inl (4, ([(1, 1)], 0), 19)), .inl (.inl (4, ([(0, 1)], 0), 18)), .inl (.inl (3, ([(0, 1)], 0), 17)), .inl (.inl (3, ([(1, 1)], 0), 16)), .inl (.inl (2, ([(0, 1)], 0), 15)), .inl (.inl (2, ([(1, 1)], 0), 14)), .inr (.inr (.inl (180, 0, [([(0, 1)], 0), ([(1, 1)], 0), ([(12, 1)], 0), ([(13, 1)], 0)], [1, 2, 3, 4, 6], [])))]),
   (1000, ([(0, 39), (0, 39), (0, 1), ((-9223372036854775808), 9223372036854775807), ((-9223372036854775808), 9223372036854775807), ((-9223372036854775808), 9223372036854775807), (0, 40), ((-2147483648), 2147483647), ((-600), 600), ((-600), 600), ((-1000000), 1000000), ((-1000000), 1000000), (0, 40), ((-2147483648), 2147483647), ((-300), 300), ((-300), 300), ((-300), 300), ((-300), 300), (0, 1), (0, 1), (0, 1), ((-600), 600), ((-600), 600), ((-1000000), 1000000), ((-1000000), 1000000), (0, 1), ((-600), 600), ((-600), 600), ((-1000000), 1000000), ((-1000000), 1000000)], [([(18, (-1)), (19, 1)], 0), ([(19, (-1)), (18, 1)], 0)]), [([(25, 1)], 0), ([(26, 1)], 0), ([(27, 1)], 0), ([(28, 1)], 0), ([(29, 1)], 0)], [], [.inr (.inr (.inl (302, 0, [([(17, (-1)), (16, 1)], 0), ([(15, 1), (14, (-1))], 0), ([(20, 1)], 0), ([(3, 1)], 0), ([(4, 1)], 0), ([(5, 1)], 0), ([(6, 1)], 0), ([(7, 1)], 0), ([(21, 1)], 0), ([(22, 1)], 0), ([(23, 1)], 0), ([(24, 1)], 0), ([(12, 1)], 0), ([(13, 1)], 0), ([(25, 1)], 0), ([(26, 1)], 0), ([(27, 1)], 0), ([(28, 1)], 0), ([(29, 1)], 0)], [0, 1, 2, 3, 4, 5, 6], []))), .inr (.inr (.inl (302, 0, [([(17, 1), (16, (-1))], 0), ([(15, (-1)), (14, 1)], 0), ([(2, 1)], 0), ([(3, 1)], 0), ([(4, 1)], 0), ([(5, 1)], 0), ([(6, 1)], 0), ([(7, 1)], 0), ([(8, 1)], 0), ([(9, 1)], 0), ([(10, 1)], 0), ([(11, 1)], 0), ([(12, 1)], 0), ([(13, 1)], 0), ([(20, 1)], 0), ([(21, 1)], 0), ([(22, 1)], 0), ([(23, 1)], 0), ([(24, 1)], 0)], [0, 1, 2, 3, 4, 5, 6], []))), .inl (.inl (4, ([(1, 1)], 0), 19)), .inl (.inl (4, ([(0, 1)], 0), 18)), .inl (.inl (3, ([(0, 1)], 0), 17)), .inl (.inl (3, ([(1, 1)], 0), 16)), .inl (.inl (2, ([(0, 1)], 0), 15)), .inl (.inl (2, ([(1, 1)], 0), 14)), .inr (.inr (.inl (180, 0, [([(0, 1)], 0), ([(1, 1)], 0), ([(12, 1)], 0), ([(13, 1)], 0)], [1, 2, 3, 4, 6], [])))]),
   (1000, ([(0, 39), (0, 39), (0, 1), ((-9223372036854775808), 9223372036854775807), ((-9223372036854775808), 9223372036854775807), ((-9223372036854775808), 9223372036854775807), (0, 40), ((-2147483648), 2147483647), ((-600), 600), ((-600), 600), ((-1000000), 1000000), ((-1000000), 1000000), (0, 40), ((-2147483648), 2147483647)], []), [([(2, 1)], 0), ([(8, 1)], 0), ([(9, 1)], 0), ([(10, 1)], 0), ([(11, 1)], 0)], [], [.inr (.inr (.inl (180, 1, [([(0, 1)], 0), ([(1, 1)], 0), ([(12, 1)], 0), ([(13, 1)], 0)], [1, 2, 3, 4, 6], [])))])]]
noncomputable def xG_89 : Nat → yt_G → (Nat → Int) → yt_G → Prop
  | _, _, _, _ => True
noncomputable def xP_89 : yt_Ph
  | 0, r, g0, g => (((1 * (r 14) + 0) + 0), ((1 * (r 15) + 0) + 0), ((1 * (r 16) + 0) + 0), ((1 * (r 17) + 0) + 0), ((1 * (r 18) + 0) + 0)) = ye_pair (g0 2) (g0 3) (g0 4) (((1 * (r 12) + 0) + 0)).toNat ((r 0)).toNat ((r 1)).toNat (((1 * (r 2) + 0) + 0), ((1 * (r 8) + 0) + 0), ((1 * (r 9) + 0) + 0), ((1 * (r 10) + 0) + 0), ((1 * (r 11) + 0) + 0))
  | _, _, _, _ => True
noncomputable def xR_89 : yt_Ps := fun r g0 => True
noncomputable def xT_89 : yt_Tb := fun d => match d with
  | 180 => xP_12
  | 302 => xP_88
  | _ => fun _ _ _ _ => True
noncomputable def xU_89 : Nat → yt_Ps := fun d => match d with
  | 180 => xR_12
  | 302 => xR_88
  | _ => fun _ _ => True
theorem xw_89_0_0 : yt_hold xT_89 xk_89 xq_89.2.2.1 xG_89 xP_89 xU_89 14 xk_89.2.1.2.2.2 (fun g0 r g => xR_89 r g0 ∧ g = g0) (1000, ([(0, 39), (0, 39), (0, 1), ((-9223372036854775808), 9223372036854775807), ((-9223372036854775808), 9223372036854775807), ((-9223372036854775808), 9223372036854775807), (0, 40), ((-2147483648), 2147483647), ((-600), 600), ((-600), 600), ((-1000000), 1000000), ((-1000000), 1000000), (0, 40), ((-2147483648), 2147483647), ((-300), 300), ((-300), 300), ((-300), 300), ((-300), 300), (1, 1), (0, 0), (0, 1), ((-600), 600), ((-600), 600), ((-1000000), 1000000), ((-1000000), 1000000)], [([(18, 1), (19, (-1))], (-1))]), [([(20, 1)], 0), ([(21, 1)], 0), ([(22, 1)], 0), ([(23, 1)], 0), ([(24, 1)], 0)], [], [.inr (.inr (.inl (302, 0, [([(15, 1), (14, (-1))], 0), ([(17, 1), (16, (-1))], 0), ([(2, 1)], 0), ([(3, 1)], 0), ([(4, 1)], 0), ([(5, 1)], 0), ([(6, 1)], 0), ([(7, 1)], 0), ([(8, 1)], 0), ([(9, 1)], 0), ([(10, 1)], 0), ([(11, 1)], 0), ([(12, 1)], 0), ([(13, 1)], 0), ([(20, 1)], 0), ([(21, 1)], 0), ([(22, 1)], 0), ([(23, 1)], 0), ([(24, 1)], 0)], [0, 1, 2, 3, 4, 5, 6], []))), .inl (.inl (4, ([(1, 1)], 0), 19)), .inl (.inl (4, ([(0, 1)], 0), 18)), .inl (.inl (3, ([(0, 1)], 0), 17)), .inl (.inl (3, ([(1, 1)], 0), 16)), .inl (.inl (2, ([(0, 1)], 0), 15)), .inl (.inl (2, ([(1, 1)], 0), 14)), .inr (.inr (.inl (180, 0, [([(0, 1)], 0), ([(1, 1)], 0), ([(12, 1)], 0), ([(13, 1)], 0)], [1, 2, 3, 4, 6], [])))]) := by
  intro g0 r gi g hok hh hars hfr hG
  have b0 : 0 ≤ r 0 ∧ r 0 ≤ 39 := hok.1 0 (0, 39) rfl
  have b1 : 0 ≤ r 1 ∧ r 1 ≤ 39 := hok.1 1 (0, 39) rfl
  have b14 : (-300) ≤ r 14 ∧ r 14 ≤ 300 := hok.1 14 ((-300), 300) rfl
  have b15 : (-300) ≤ r 15 ∧ r 15 ≤ 300 := hok.1 15 ((-300), 300) rfl
  have b16 : (-300) ≤ r 16 ∧ r 16 ≤ 300 := hok.1 16 ((-300), 300) rfl
  have b17 : (-300) ≤ r 17 ∧ r 17 ≤ 300 := hok.1 17 ((-300), 300) rfl
  have b18 : 1 ≤ r 18 ∧ r 18 ≤ 1 := hok.1 18 (1, 1) rfl
  have b19 : 0 ≤ r 19 ∧ r 19 ≤ 0 := hok.1 19 (0, 0) rfl
  have b20 : 0 ≤ r 20 ∧ r 20 ≤ 1 := hok.1 20 (0, 1) rfl
  have b21 : (-600) ≤ r 21 ∧ r 21 ≤ 600 := hok.1 21 ((-600), 600) rfl
  have b22 : (-600) ≤ r 22 ∧ r 22 ≤ 600 := hok.1 22 ((-600), 600) rfl
  have b23 : (-1000000) ≤ r 23 ∧ r 23 ≤ 1000000 := hok.1 23 ((-1000000), 1000000) rfl
  have b24 : (-1000000) ≤ r 24 ∧ r 24 ≤ 1000000 := hok.1 24 ((-1000000), 1000000) rfl
  have f0 : 0 ≤ ((1 * r 18 + ((-1) * r 19 + 0)) + (-1)) := hok.2 _ (List.mem_of_getElem? (i := 0) rfl)
  obtain ⟨hG, hgi⟩ := hG
  have hG : True := hG
  obtain ⟨h0, hh, e0, k0⟩ := hh
  have k0 : ∀ j, j ∉ [] → g j = h0 j := k0
  have e0 : (((1 * ((1 * r 20 + 0) + 0) + 0) + 0), ((1 * ((1 * r 21 + 0) + 0) + 0) + 0), ((1 * ((1 * r 22 + 0) + 0) + 0) + 0), ((1 * ((1 * r 23 + 0) + 0) + 0) + 0), ((1 * ((1 * r 24 + 0) + 0) + 0) + 0)) = ye_try (h0 2) (h0 3) (h0 4) (((1 * ((1 * r 12 + 0) + 0) + 0) + 0)).toNat ((1 * r 15 + ((-1) * r 14 + 0)) + 0) ((1 * r 17 + ((-1) * r 16 + 0)) + 0) (((1 * ((1 * r 2 + 0) + 0) + 0) + 0), ((1 * ((1 * r 8 + 0) + 0) + 0) + 0), ((1 * ((1 * r 9 + 0) + 0) + 0) + 0), ((1 * ((1 * r 10 + 0) + 0) + 0) + 0), ((1 * ((1 * r 11 + 0) + 0) + 0) + 0)) := e0
  obtain ⟨g1, hh, q1, e1⟩ := hh
  subst q1
  have e1 : r 19 = h0 4 (((1 * r 1 + 0) + 0)).toNat := e1
  rw [show (((1 * r 1 + 0) + 0)).toNat = (r 1).toNat by omega] at e1
  obtain ⟨g2, hh, q2, e2⟩ := hh
  subst q2
  have e2 : r 18 = h0 4 (((1 * r 0 + 0) + 0)).toNat := e2
  rw [show (((1 * r 0 + 0) + 0)).toNat = (r 0).toNat by omega] at e2
  obtain ⟨g3, hh, q3, e3⟩ := hh
  subst q3
  have e3 : r 17 = h0 3 (((1 * r 0 + 0) + 0)).toNat := e3
  rw [show (((1 * r 0 + 0) + 0)).toNat = (r 0).toNat by omega] at e3
  obtain ⟨g4, hh, q4, e4⟩ := hh
  subst q4
  have e4 : r 16 = h0 3 (((1 * r 1 + 0) + 0)).toNat := e4
  rw [show (((1 * r 1 + 0) + 0)).toNat = (r 1).toNat by omega] at e4
  obtain ⟨g5, hh, q5, e5⟩ := hh
  subst q5
  have e5 : r 15 = h0 2 (((1 * r 0 + 0) + 0)).toNat := e5
  rw [show (((1 * r 0 + 0) + 0)).toNat = (r 0).toNat by omega] at e5
  obtain ⟨g6, hh, q6, e6⟩ := hh
  subst q6
  have e6 : r 14 = h0 2 (((1 * r 1 + 0) + 0)).toNat := e6
  rw [show (((1 * r 1 + 0) + 0)).toNat = (r 1).toNat by omega] at e6
  obtain ⟨h7, hh, e7, k7⟩ := hh
  have k7 : ∀ j, j ∉ [] → h0 j = h7 j := k7
  have e7 : ¬ ((h7 2) (((1 * r 0 + 0) + 0)).toNat = (h7 2) (((1 * r 1 + 0) + 0)).toNat ∧ (h7 3) (((1 * r 0 + 0) + 0)).toNat = (h7 3) (((1 * r 1 + 0) + 0)).toNat) := e7
  have hh : h7 = gi := hh
  subst hh
  refine yt_dalt (by decide) (by decide) ?_
  rw [show xk_89.2.1.2.1.1.length = 14 from rfl]
  show (((1 * ((1 * r 20 + 0) + 0) + 0) + 0), ((1 * ((1 * r 21 + 0) + 0) + 0) + 0), ((1 * ((1 * r 22 + 0) + 0) + 0) + 0), ((1 * ((1 * r 23 + 0) + 0) + 0) + 0), ((1 * ((1 * r 24 + 0) + 0) + 0) + 0)) = ye_pair (g0 2) (g0 3) (g0 4) (((1 * ((1 * r 12 + 0) + 0) + 0) + 0)).toNat (((1 * r 0 + 0) + 0)).toNat (((1 * r 1 + 0) + 0)).toNat (((1 * ((1 * r 2 + 0) + 0) + 0) + 0), ((1 * ((1 * r 8 + 0) + 0) + 0) + 0), ((1 * ((1 * r 9 + 0) + 0) + 0) + 0), ((1 * ((1 * r 10 + 0) + 0) + 0) + 0), ((1 * ((1 * r 11 + 0) + 0) + 0) + 0))
  try simp only [Int.one_mul, Int.zero_add, Int.add_zero]
  try simp only [Int.one_mul, Int.zero_add, Int.add_zero] at e7
  rw [hgi] at e7
  rw [k7 4 (by decide)] at e1
  rw [hgi] at e1
  rw [k7 4 (by decide)] at e2
  rw [hgi] at e2
  rw [k7 3 (by decide)] at e3
  rw [hgi] at e3
  rw [k7 3 (by decide)] at e4
  rw [hgi] at e4
  rw [k7 2 (by decide)] at e5
  rw [hgi] at e5
  rw [k7 2 (by decide)] at e6
  rw [hgi] at e6
  try simp only [Int.one_mul, Int.zero_add, Int.add_zero] at e0
  rw [k7 2 (by decide), k7 3 (by decide), k7 4 (by decide), hgi] at e0
  rw [show r 15 + -1 * r 14 = -(r 14 - r 15) by omega, show r 17 + -1 * r 16 = -(r 16 - r 17) by omega] at e0
  unfold ye_pair
  rw [if_neg e7, ← e5, ← e6, ← e3, ← e4, ← e2, ← e1, if_neg (show ¬ r 18 = r 19 by omega), if_neg (show ¬ r 19 = 1 by omega)]
  exact e0
theorem xw_89_0_1 : yt_hold xT_89 xk_89 xq_89.2.2.1 xG_89 xP_89 xU_89 14 xk_89.2.1.2.2.2 (fun g0 r g => xR_89 r g0 ∧ g = g0) (1000, ([(0, 39), (0, 39), (0, 1), ((-9223372036854775808), 9223372036854775807), ((-9223372036854775808), 9223372036854775807), ((-9223372036854775808), 9223372036854775807), (0, 40), ((-2147483648), 2147483647), ((-600), 600), ((-600), 600), ((-1000000), 1000000), ((-1000000), 1000000), (0, 40), ((-2147483648), 2147483647), ((-300), 300), ((-300), 300), ((-300), 300), ((-300), 300), (0, 0), (1, 1), (0, 1), ((-600), 600), ((-600), 600), ((-1000000), 1000000), ((-1000000), 1000000)], [([(19, 1), (18, (-1))], (-1))]), [([(20, 1)], 0), ([(21, 1)], 0), ([(22, 1)], 0), ([(23, 1)], 0), ([(24, 1)], 0)], [], [.inr (.inr (.inl (302, 0, [([(15, (-1)), (14, 1)], 0), ([(17, (-1)), (16, 1)], 0), ([(2, 1)], 0), ([(3, 1)], 0), ([(4, 1)], 0), ([(5, 1)], 0), ([(6, 1)], 0), ([(7, 1)], 0), ([(8, 1)], 0), ([(9, 1)], 0), ([(10, 1)], 0), ([(11, 1)], 0), ([(12, 1)], 0), ([(13, 1)], 0), ([(20, 1)], 0), ([(21, 1)], 0), ([(22, 1)], 0), ([(23, 1)], 0), ([(24, 1)], 0)], [0, 1, 2, 3, 4, 5, 6], []))), .inl (.inl (4, ([(1, 1)], 0), 19)), .inl (.inl (4, ([(0, 1)], 0), 18)), .inl (.inl (3, ([(0, 1)], 0), 17)), .inl (.inl (3, ([(1, 1)], 0), 16)), .inl (.inl (2, ([(0, 1)], 0), 15)), .inl (.inl (2, ([(1, 1)], 0), 14)), .inr (.inr (.inl (180, 0, [([(0, 1)], 0), ([(1, 1)], 0), ([(12, 1)], 0), ([(13, 1)], 0)], [1, 2, 3, 4, 6], [])))]) := by
  intro g0 r gi g hok hh hars hfr hG
  have b0 : 0 ≤ r 0 ∧ r 0 ≤ 39 := hok.1 0 (0, 39) rfl
  have b1 : 0 ≤ r 1 ∧ r 1 ≤ 39 := hok.1 1 (0, 39) rfl
  have b14 : (-300) ≤ r 14 ∧ r 14 ≤ 300 := hok.1 14 ((-300), 300) rfl
  have b15 : (-300) ≤ r 15 ∧ r 15 ≤ 300 := hok.1 15 ((-300), 300) rfl
  have b16 : (-300) ≤ r 16 ∧ r 16 ≤ 300 := hok.1 16 ((-300), 300) rfl
  have b17 : (-300) ≤ r 17 ∧ r 17 ≤ 300 := hok.1 17 ((-300), 300) rfl
  have b18 : 0 ≤ r 18 ∧ r 18 ≤ 0 := hok.1 18 (0, 0) rfl
  have b19 : 1 ≤ r 19 ∧ r 19 ≤ 1 := hok.1 19 (1, 1) rfl
  have b20 : 0 ≤ r 20 ∧ r 20 ≤ 1 := hok.1 20 (0, 1) rfl
  have b21 : (-600) ≤ r 21 ∧ r 21 ≤ 600 := hok.1 21 ((-600), 600) rfl
  have b22 : (-600) ≤ r 22 ∧ r 22 ≤ 600 := hok.1 22 ((-600), 600) rfl
  have b23 : (-1000000) ≤ r 23 ∧ r 23 ≤ 1000000 := hok.1 23 ((-1000000), 1000000) rfl
  have b24 : (-1000000) ≤ r 24 ∧ r 24 ≤ 1000000 := hok.1 24 ((-1000000), 1000000) rfl
  have f0 : 0 ≤ ((1 * r 19 + ((-1) * r 18 + 0)) + (-1)) := hok.2 _ (List.mem_of_getElem? (i := 0) rfl)
  obtain ⟨hG, hgi⟩ := hG
  have hG : True := hG
  obtain ⟨h0, hh, e0, k0⟩ := hh
  have k0 : ∀ j, j ∉ [] → g j = h0 j := k0
  have e0 : (((1 * ((1 * r 20 + 0) + 0) + 0) + 0), ((1 * ((1 * r 21 + 0) + 0) + 0) + 0), ((1 * ((1 * r 22 + 0) + 0) + 0) + 0), ((1 * ((1 * r 23 + 0) + 0) + 0) + 0), ((1 * ((1 * r 24 + 0) + 0) + 0) + 0)) = ye_try (h0 2) (h0 3) (h0 4) (((1 * ((1 * r 12 + 0) + 0) + 0) + 0)).toNat (((-1) * r 15 + (1 * r 14 + 0)) + 0) (((-1) * r 17 + (1 * r 16 + 0)) + 0) (((1 * ((1 * r 2 + 0) + 0) + 0) + 0), ((1 * ((1 * r 8 + 0) + 0) + 0) + 0), ((1 * ((1 * r 9 + 0) + 0) + 0) + 0), ((1 * ((1 * r 10 + 0) + 0) + 0) + 0), ((1 * ((1 * r 11 + 0) + 0) + 0) + 0)) := e0
  obtain ⟨g1, hh, q1, e1⟩ := hh
  subst q1
  have e1 : r 19 = h0 4 (((1 * r 1 + 0) + 0)).toNat := e1
  rw [show (((1 * r 1 + 0) + 0)).toNat = (r 1).toNat by omega] at e1
  obtain ⟨g2, hh, q2, e2⟩ := hh
  subst q2
  have e2 : r 18 = h0 4 (((1 * r 0 + 0) + 0)).toNat := e2
  rw [show (((1 * r 0 + 0) + 0)).toNat = (r 0).toNat by omega] at e2
  obtain ⟨g3, hh, q3, e3⟩ := hh
  subst q3
  have e3 : r 17 = h0 3 (((1 * r 0 + 0) + 0)).toNat := e3
  rw [show (((1 * r 0 + 0) + 0)).toNat = (r 0).toNat by omega] at e3
  obtain ⟨g4, hh, q4, e4⟩ := hh
  subst q4
  have e4 : r 16 = h0 3 (((1 * r 1 + 0) + 0)).toNat := e4
  rw [show (((1 * r 1 + 0) + 0)).toNat = (r 1).toNat by omega] at e4
  obtain ⟨g5, hh, q5, e5⟩ := hh
  subst q5
  have e5 : r 15 = h0 2 (((1 * r 0 + 0) + 0)).toNat := e5
  rw [show (((1 * r 0 + 0) + 0)).toNat = (r 0).toNat by omega] at e5
  obtain ⟨g6, hh, q6, e6⟩ := hh
  subst q6
  have e6 : r 14 = h0 2 (((1 * r 1 + 0) + 0)).toNat := e6
  rw [show (((1 * r 1 + 0) + 0)).toNat = (r 1).toNat by omega] at e6
  obtain ⟨h7, hh, e7, k7⟩ := hh
  have k7 : ∀ j, j ∉ [] → h0 j = h7 j := k7
  have e7 : ¬ ((h7 2) (((1 * r 0 + 0) + 0)).toNat = (h7 2) (((1 * r 1 + 0) + 0)).toNat ∧ (h7 3) (((1 * r 0 + 0) + 0)).toNat = (h7 3) (((1 * r 1 + 0) + 0)).toNat) := e7
  have hh : h7 = gi := hh
  subst hh
  refine yt_dalt (by decide) (by decide) ?_
  rw [show xk_89.2.1.2.1.1.length = 14 from rfl]
  show (((1 * ((1 * r 20 + 0) + 0) + 0) + 0), ((1 * ((1 * r 21 + 0) + 0) + 0) + 0), ((1 * ((1 * r 22 + 0) + 0) + 0) + 0), ((1 * ((1 * r 23 + 0) + 0) + 0) + 0), ((1 * ((1 * r 24 + 0) + 0) + 0) + 0)) = ye_pair (g0 2) (g0 3) (g0 4) (((1 * ((1 * r 12 + 0) + 0) + 0) + 0)).toNat (((1 * r 0 + 0) + 0)).toNat (((1 * r 1 + 0) + 0)).toNat (((1 * ((1 * r 2 + 0) + 0) + 0) + 0), ((1 * ((1 * r 8 + 0) + 0) + 0) + 0), ((1 * ((1 * r 9 + 0) + 0) + 0) + 0), ((1 * ((1 * r 10 + 0) + 0) + 0) + 0), ((1 * ((1 * r 11 + 0) + 0) + 0) + 0))
  try simp only [Int.one_mul, Int.zero_add, Int.add_zero]
  try simp only [Int.one_mul, Int.zero_add, Int.add_zero] at e7
  rw [hgi] at e7
  rw [k7 4 (by decide)] at e1
  rw [hgi] at e1
  rw [k7 4 (by decide)] at e2
  rw [hgi] at e2
  rw [k7 3 (by decide)] at e3
  rw [hgi] at e3
  rw [k7 3 (by decide)] at e4
  rw [hgi] at e4
  rw [k7 2 (by decide)] at e5
  rw [hgi] at e5
  rw [k7 2 (by decide)] at e6
  rw [hgi] at e6
  try simp only [Int.one_mul, Int.zero_add, Int.add_zero] at e0
  rw [k7 2 (by decide), k7 3 (by decide), k7 4 (by decide), hgi] at e0
  rw [show -1 * r 15 + r 14 = r 14 - r 15 by omega, show -1 * r 17 + r 16 = r 16 - r 17 by omega] at e0
  unfold ye_pair
  rw [if_neg e7, ← e5, ← e6, ← e3, ← e4, ← e2, ← e1, if_neg (show ¬ r 18 = r 19 by omega), if_pos (show r 19 = 1 by omega)]
  exact e0
theorem xw_89_0_2 : yt_hold xT_89 xk_89 xq_89.2.2.1 xG_89 xP_89 xU_89 14 xk_89.2.1.2.2.2 (fun g0 r g => xR_89 r g0 ∧ g = g0) (1000, ([(0, 39), (0, 39), (0, 1), ((-9223372036854775808), 9223372036854775807), ((-9223372036854775808), 9223372036854775807), ((-9223372036854775808), 9223372036854775807), (0, 40), ((-2147483648), 2147483647), ((-600), 600), ((-600), 600), ((-1000000), 1000000), ((-1000000), 1000000), (0, 40), ((-2147483648), 2147483647), ((-300), 300), ((-300), 300), ((-300), 300), ((-300), 300), (0, 1), (0, 1), (0, 1), ((-600), 600), ((-600), 600), ((-1000000), 1000000), ((-1000000), 1000000), (0, 1), ((-600), 600), ((-600), 600), ((-1000000), 1000000), ((-1000000), 1000000)], [([(18, (-1)), (19, 1)], 0), ([(19, (-1)), (18, 1)], 0)]), [([(25, 1)], 0), ([(26, 1)], 0), ([(27, 1)], 0), ([(28, 1)], 0), ([(29, 1)], 0)], [], [.inr (.inr (.inl (302, 0, [([(17, (-1)), (16, 1)], 0), ([(15, 1), (14, (-1))], 0), ([(20, 1)], 0), ([(3, 1)], 0), ([(4, 1)], 0), ([(5, 1)], 0), ([(6, 1)], 0), ([(7, 1)], 0), ([(21, 1)], 0), ([(22, 1)], 0), ([(23, 1)], 0), ([(24, 1)], 0), ([(12, 1)], 0), ([(13, 1)], 0), ([(25, 1)], 0), ([(26, 1)], 0), ([(27, 1)], 0), ([(28, 1)], 0), ([(29, 1)], 0)], [0, 1, 2, 3, 4, 5, 6], []))), .inr (.inr (.inl (302, 0, [([(17, 1), (16, (-1))], 0), ([(15, (-1)), (14, 1)], 0), ([(2, 1)], 0), ([(3, 1)], 0), ([(4, 1)], 0), ([(5, 1)], 0), ([(6, 1)], 0), ([(7, 1)], 0), ([(8, 1)], 0), ([(9, 1)], 0), ([(10, 1)], 0), ([(11, 1)], 0), ([(12, 1)], 0), ([(13, 1)], 0), ([(20, 1)], 0), ([(21, 1)], 0), ([(22, 1)], 0), ([(23, 1)], 0), ([(24, 1)], 0)], [0, 1, 2, 3, 4, 5, 6], []))), .inl (.inl (4, ([(1, 1)], 0), 19)), .inl (.inl (4, ([(0, 1)], 0), 18)), .inl (.inl (3, ([(0, 1)], 0), 17)), .inl (.inl (3, ([(1, 1)], 0), 16)), .inl (.inl (2, ([(0, 1)], 0), 15)), .inl (.inl (2, ([(1, 1)], 0), 14)), .inr (.inr (.inl (180, 0, [([(0, 1)], 0), ([(1, 1)], 0), ([(12, 1)], 0), ([(13, 1)], 0)], [1, 2, 3, 4, 6], [])))]) := by
  intro g0 r gi g hok hh hars hfr hG
  have b0 : 0 ≤ r 0 ∧ r 0 ≤ 39 := hok.1 0 (0, 39) rfl
  have b1 : 0 ≤ r 1 ∧ r 1 ≤ 39 := hok.1 1 (0, 39) rfl
  have b14 : (-300) ≤ r 14 ∧ r 14 ≤ 300 := hok.1 14 ((-300), 300) rfl
  have b15 : (-300) ≤ r 15 ∧ r 15 ≤ 300 := hok.1 15 ((-300), 300) rfl
  have b16 : (-300) ≤ r 16 ∧ r 16 ≤ 300 := hok.1 16 ((-300), 300) rfl
  have b17 : (-300) ≤ r 17 ∧ r 17 ≤ 300 := hok.1 17 ((-300), 300) rfl
  have b18 : 0 ≤ r 18 ∧ r 18 ≤ 1 := hok.1 18 (0, 1) rfl
  have b19 : 0 ≤ r 19 ∧ r 19 ≤ 1 := hok.1 19 (0, 1) rfl
  have b20 : 0 ≤ r 20 ∧ r 20 ≤ 1 := hok.1 20 (0, 1) rfl
  have b21 : (-600) ≤ r 21 ∧ r 21 ≤ 600 := hok.1 21 ((-600), 600) rfl
  have b22 : (-600) ≤ r 22 ∧ r 22 ≤ 600 := hok.1 22 ((-600), 600) rfl
  have b23 : (-1000000) ≤ r 23 ∧ r 23 ≤ 1000000 := hok.1 23 ((-1000000), 1000000) rfl
  have b24 : (-1000000) ≤ r 24 ∧ r 24 ≤ 1000000 := hok.1 24 ((-1000000), 1000000) rfl
  have b25 : 0 ≤ r 25 ∧ r 25 ≤ 1 := hok.1 25 (0, 1) rfl
  have b26 : (-600) ≤ r 26 ∧ r 26 ≤ 600 := hok.1 26 ((-600), 600) rfl
  have b27 : (-600) ≤ r 27 ∧ r 27 ≤ 600 := hok.1 27 ((-600), 600) rfl
  have b28 : (-1000000) ≤ r 28 ∧ r 28 ≤ 1000000 := hok.1 28 ((-1000000), 1000000) rfl
  have b29 : (-1000000) ≤ r 29 ∧ r 29 ≤ 1000000 := hok.1 29 ((-1000000), 1000000) rfl
  have f0 : 0 ≤ (((-1) * r 18 + (1 * r 19 + 0)) + 0) := hok.2 _ (List.mem_of_getElem? (i := 0) rfl)
  have f1 : 0 ≤ (((-1) * r 19 + (1 * r 18 + 0)) + 0) := hok.2 _ (List.mem_of_getElem? (i := 1) rfl)
  obtain ⟨hG, hgi⟩ := hG
  have hG : True := hG
  obtain ⟨h0, hh, e0, k0⟩ := hh
  have k0 : ∀ j, j ∉ [] → g j = h0 j := k0
  have e0 : (((1 * ((1 * r 25 + 0) + 0) + 0) + 0), ((1 * ((1 * r 26 + 0) + 0) + 0) + 0), ((1 * ((1 * r 27 + 0) + 0) + 0) + 0), ((1 * ((1 * r 28 + 0) + 0) + 0) + 0), ((1 * ((1 * r 29 + 0) + 0) + 0) + 0)) = ye_try (h0 2) (h0 3) (h0 4) (((1 * ((1 * r 12 + 0) + 0) + 0) + 0)).toNat (((-1) * r 17 + (1 * r 16 + 0)) + 0) ((1 * r 15 + ((-1) * r 14 + 0)) + 0) (((1 * ((1 * r 20 + 0) + 0) + 0) + 0), ((1 * ((1 * r 21 + 0) + 0) + 0) + 0), ((1 * ((1 * r 22 + 0) + 0) + 0) + 0), ((1 * ((1 * r 23 + 0) + 0) + 0) + 0), ((1 * ((1 * r 24 + 0) + 0) + 0) + 0)) := e0
  obtain ⟨h1, hh, e1, k1⟩ := hh
  have k1 : ∀ j, j ∉ [] → h0 j = h1 j := k1
  have e1 : (((1 * ((1 * r 20 + 0) + 0) + 0) + 0), ((1 * ((1 * r 21 + 0) + 0) + 0) + 0), ((1 * ((1 * r 22 + 0) + 0) + 0) + 0), ((1 * ((1 * r 23 + 0) + 0) + 0) + 0), ((1 * ((1 * r 24 + 0) + 0) + 0) + 0)) = ye_try (h1 2) (h1 3) (h1 4) (((1 * ((1 * r 12 + 0) + 0) + 0) + 0)).toNat ((1 * r 17 + ((-1) * r 16 + 0)) + 0) (((-1) * r 15 + (1 * r 14 + 0)) + 0) (((1 * ((1 * r 2 + 0) + 0) + 0) + 0), ((1 * ((1 * r 8 + 0) + 0) + 0) + 0), ((1 * ((1 * r 9 + 0) + 0) + 0) + 0), ((1 * ((1 * r 10 + 0) + 0) + 0) + 0), ((1 * ((1 * r 11 + 0) + 0) + 0) + 0)) := e1
  obtain ⟨g2, hh, q2, e2⟩ := hh
  subst q2
  have e2 : r 19 = h1 4 (((1 * r 1 + 0) + 0)).toNat := e2
  rw [show (((1 * r 1 + 0) + 0)).toNat = (r 1).toNat by omega] at e2
  obtain ⟨g3, hh, q3, e3⟩ := hh
  subst q3
  have e3 : r 18 = h1 4 (((1 * r 0 + 0) + 0)).toNat := e3
  rw [show (((1 * r 0 + 0) + 0)).toNat = (r 0).toNat by omega] at e3
  obtain ⟨g4, hh, q4, e4⟩ := hh
  subst q4
  have e4 : r 17 = h1 3 (((1 * r 0 + 0) + 0)).toNat := e4
  rw [show (((1 * r 0 + 0) + 0)).toNat = (r 0).toNat by omega] at e4
  obtain ⟨g5, hh, q5, e5⟩ := hh
  subst q5
  have e5 : r 16 = h1 3 (((1 * r 1 + 0) + 0)).toNat := e5
  rw [show (((1 * r 1 + 0) + 0)).toNat = (r 1).toNat by omega] at e5
  obtain ⟨g6, hh, q6, e6⟩ := hh
  subst q6
  have e6 : r 15 = h1 2 (((1 * r 0 + 0) + 0)).toNat := e6
  rw [show (((1 * r 0 + 0) + 0)).toNat = (r 0).toNat by omega] at e6
  obtain ⟨g7, hh, q7, e7⟩ := hh
  subst q7
  have e7 : r 14 = h1 2 (((1 * r 1 + 0) + 0)).toNat := e7
  rw [show (((1 * r 1 + 0) + 0)).toNat = (r 1).toNat by omega] at e7
  obtain ⟨h8, hh, e8, k8⟩ := hh
  have k8 : ∀ j, j ∉ [] → h1 j = h8 j := k8
  have e8 : ¬ ((h8 2) (((1 * r 0 + 0) + 0)).toNat = (h8 2) (((1 * r 1 + 0) + 0)).toNat ∧ (h8 3) (((1 * r 0 + 0) + 0)).toNat = (h8 3) (((1 * r 1 + 0) + 0)).toNat) := e8
  have hh : h8 = gi := hh
  subst hh
  refine yt_dalt (by decide) (by decide) ?_
  rw [show xk_89.2.1.2.1.1.length = 14 from rfl]
  show (((1 * ((1 * r 25 + 0) + 0) + 0) + 0), ((1 * ((1 * r 26 + 0) + 0) + 0) + 0), ((1 * ((1 * r 27 + 0) + 0) + 0) + 0), ((1 * ((1 * r 28 + 0) + 0) + 0) + 0), ((1 * ((1 * r 29 + 0) + 0) + 0) + 0)) = ye_pair (g0 2) (g0 3) (g0 4) (((1 * ((1 * r 12 + 0) + 0) + 0) + 0)).toNat (((1 * r 0 + 0) + 0)).toNat (((1 * r 1 + 0) + 0)).toNat (((1 * ((1 * r 2 + 0) + 0) + 0) + 0), ((1 * ((1 * r 8 + 0) + 0) + 0) + 0), ((1 * ((1 * r 9 + 0) + 0) + 0) + 0), ((1 * ((1 * r 10 + 0) + 0) + 0) + 0), ((1 * ((1 * r 11 + 0) + 0) + 0) + 0))
  try simp only [Int.one_mul, Int.zero_add, Int.add_zero]
  try simp only [Int.one_mul, Int.zero_add, Int.add_zero] at e8
  rw [hgi] at e8
  rw [k8 4 (by decide)] at e2
  rw [hgi] at e2
  rw [k8 4 (by decide)] at e3
  rw [hgi] at e3
  rw [k8 3 (by decide)] at e4
  rw [hgi] at e4
  rw [k8 3 (by decide)] at e5
  rw [hgi] at e5
  rw [k8 2 (by decide)] at e6
  rw [hgi] at e6
  rw [k8 2 (by decide)] at e7
  rw [hgi] at e7
  try simp only [Int.one_mul, Int.zero_add, Int.add_zero] at e1
  rw [k8 2 (by decide), k8 3 (by decide), k8 4 (by decide), hgi] at e1
  rw [show r 17 + -1 * r 16 = -(r 16 - r 17) by omega, show -1 * r 15 + r 14 = r 14 - r 15 by omega] at e1
  try simp only [Int.one_mul, Int.zero_add, Int.add_zero] at e0
  rw [k1 2 (by decide), k1 3 (by decide), k1 4 (by decide), k8 2 (by decide), k8 3 (by decide), k8 4 (by decide), hgi] at e0
  rw [show -1 * r 17 + r 16 = r 16 - r 17 by omega, show r 15 + -1 * r 14 = -(r 14 - r 15) by omega] at e0
  unfold ye_pair
  rw [if_neg e8, ← e6, ← e7, ← e4, ← e5, ← e3, ← e2, if_pos (show r 18 = r 19 by omega), ← e1]
  exact e0
theorem xw_89_0_3 : yt_hold xT_89 xk_89 xq_89.2.2.1 xG_89 xP_89 xU_89 14 xk_89.2.1.2.2.2 (fun g0 r g => xR_89 r g0 ∧ g = g0) (1000, ([(0, 39), (0, 39), (0, 1), ((-9223372036854775808), 9223372036854775807), ((-9223372036854775808), 9223372036854775807), ((-9223372036854775808), 9223372036854775807), (0, 40), ((-2147483648), 2147483647), ((-600), 600), ((-600), 600), ((-1000000), 1000000), ((-1000000), 1000000), (0, 40), ((-2147483648), 2147483647)], []), [([(2, 1)], 0), ([(8, 1)], 0), ([(9, 1)], 0), ([(10, 1)], 0), ([(11, 1)], 0)], [], [.inr (.inr (.inl (180, 1, [([(0, 1)], 0), ([(1, 1)], 0), ([(12, 1)], 0), ([(13, 1)], 0)], [1, 2, 3, 4, 6], [])))]) := by
  intro g0 r gi g hok hh hars hfr hG
  have b0 : 0 ≤ r 0 ∧ r 0 ≤ 39 := hok.1 0 (0, 39) rfl
  have b1 : 0 ≤ r 1 ∧ r 1 ≤ 39 := hok.1 1 (0, 39) rfl
  obtain ⟨hG, hgi⟩ := hG
  have hG : True := hG
  obtain ⟨h0, hh, e0, k0⟩ := hh
  have k0 : ∀ j, j ∉ [] → g j = h0 j := k0
  have e0 : ((h0 2) (((1 * r 0 + 0) + 0)).toNat = (h0 2) (((1 * r 1 + 0) + 0)).toNat ∧ (h0 3) (((1 * r 0 + 0) + 0)).toNat = (h0 3) (((1 * r 1 + 0) + 0)).toNat) := e0
  have hh : h0 = gi := hh
  subst hh
  refine yt_dalt (by decide) (by decide) ?_
  rw [show xk_89.2.1.2.1.1.length = 14 from rfl]
  show (((1 * ((1 * r 2 + 0) + 0) + 0) + 0), ((1 * ((1 * r 8 + 0) + 0) + 0) + 0), ((1 * ((1 * r 9 + 0) + 0) + 0) + 0), ((1 * ((1 * r 10 + 0) + 0) + 0) + 0), ((1 * ((1 * r 11 + 0) + 0) + 0) + 0)) = ye_pair (g0 2) (g0 3) (g0 4) (((1 * ((1 * r 12 + 0) + 0) + 0) + 0)).toNat (((1 * r 0 + 0) + 0)).toNat (((1 * r 1 + 0) + 0)).toNat (((1 * ((1 * r 2 + 0) + 0) + 0) + 0), ((1 * ((1 * r 8 + 0) + 0) + 0) + 0), ((1 * ((1 * r 9 + 0) + 0) + 0) + 0), ((1 * ((1 * r 10 + 0) + 0) + 0) + 0), ((1 * ((1 * r 11 + 0) + 0) + 0) + 0))
  try simp only [Int.one_mul, Int.zero_add, Int.add_zero]
  try simp only [Int.one_mul, Int.zero_add, Int.add_zero] at e0
  rw [hgi] at e0
  unfold ye_pair
  rw [if_pos e0]
theorem xn_89 : ∀ (j : Nat) (q : Nat × yt_T), xq_89.2.2.1[j]? = some q → q.2.2.2 = false → ∀ g0 r g, xG_89 j g0 r g
  | n + 0, q, hq, _ => by cases hq
theorem xs_89 : ∀ j, xq_89.2.2.2.getD j false = false → ∀ r g g', xP_89 j r g g'
  | 0, hf => by cases hf
  | n + 1, _ => fun _ _ _ => trivial
theorem xc_89 {l : Launch} {D : va_G} {cT : Nat → ClassId} {tys : List (ClassId × FieldType)} (hty : yx_Ty tys cT) : yt_Con l D vwCl cT tys yG yw_s54 xk_89 xR_89 xP_89 := yx_sem (calls := xa_89) (Z := xq_89) (tb := xT_89) (pt := xU_89) (Ga := xG_89) (vs := xv_89) (fun _ _ _ _ => trivial) 300 (by decide +kernel) yz_X10_tryPair_ok hty (yl_lkX10 _) (yl_cqkX10 _) (List.forall_mem_cons.mpr ⟨⟨xc_12 hty, yg_CLv rfl rfl rfl yl_wX10_78 yd_yX6_samePlace, fun _ _ _ => trivial⟩, List.forall_mem_cons.mpr ⟨⟨xc_88 hty, yg_CLv rfl rfl rfl yl_wX10_85 yd_yX10_tryAcross, fun _ _ _ => trivial⟩, fun _ h => absurd h List.not_mem_nil⟩⟩) (xn_89) (xs_89) (by decide +kernel) (List.forall_mem_cons.mpr ⟨xw_89_0_0, List.forall_mem_cons.mpr ⟨xw_89_0_1, List.forall_mem_cons.mpr ⟨xw_89_0_2, List.forall_mem_cons.mpr ⟨xw_89_0_3, fun _ h => absurd h List.not_mem_nil⟩⟩⟩⟩) (trivial)
noncomputable def yw_s55 : List ys_C := [.inl 10, .inl 1, .inl 6, .inr (0, 40, []), .inr (0, 40, []), .inr (0, 40, [])]
noncomputable def yw_f55 (n : Nat) : List (List ys_V) := [[.inr (some 1), .inl (.inl ([(n + 0, 1)], 0)), .inl (.inr ([(n + 1, 1)], 0)), .inl (.inr ([(n + 2, 1)], 0)), .inl (.inr ([(n + 3, 1)], 0)), .inl (.inl ([(n + 4, 1)], 0)), .inl (.inl ([(n + 5, 1)], 0)), .inl (.inl ([(n + 6, 1)], 0)), .inl (.inl ([(n + 7, 1)], 0)), .inl (.inl ([(n + 8, 1)], 0)), .inl (.inl ([(n + 9, 1)], 0))], [.inl (.inr ([(n + 10, 1)], 0)), .inl (.inr ([(n + 11, 1)], 0))], [.inr (some 3), .inr (some 4), .inr (some 5), .inr (some 6), .inl (.inl ([(n + 12, 1)], 0)), .inl (.inl ([(n + 13, 1)], 0))], [], [], []]
noncomputable def yw_e55 : ys_E := [(0, 1), ((-9223372036854775808), 9223372036854775807), ((-9223372036854775808), 9223372036854775807), ((-9223372036854775808), 9223372036854775807), (0, 40), ((-2147483648), 2147483647), ((-600), 600), ((-600), 600), ((-1000000), 1000000), ((-1000000), 1000000), ((-9223372036854775808), 9223372036854775807), ((-9223372036854775808), 9223372036854775807), (0, 40), ((-2147483648), 2147483647)]
noncomputable def yw_r55 : List ys_R := [((0, 0), []), ((0, 0), []), ((0, 0), []), (((-300), 300), []), (((-300), 300), []), ((0, 1), [])]
noncomputable def xf_90 : ys_F := (yw_f55 0, yw_r55)
noncomputable def xk_90 : ys_K := (((yX10_find, cX10_find, 4, none), (4, 101)), ([.inr (some 0), .inr (some 2)], ([] ++ yw_e55, []), xf_90), ([([(0, 1), ((-9223372036854775808), 9223372036854775807), ((-9223372036854775808), 9223372036854775807), ((-9223372036854775808), 9223372036854775807), (0, 40), ((-2147483648), 2147483647), ((-600), 600), ((-600), 600), ((-1000000), 1000000), ((-1000000), 1000000), ((-9223372036854775808), 9223372036854775807), ((-9223372036854775808), 9223372036854775807)], [], ((ys_fs xf_90.1 [(0, 1, .inl (.inl ([(14, 1)], 0))), (0, 2, .inl (.inr ([(15, 1)], 0))), (0, 3, .inl (.inr ([(16, 1)], 0))), (0, 4, .inl (.inr ([(17, 1)], 0))), (0, 5, .inl (.inl ([(18, 1)], 0))), (0, 6, .inl (.inl ([(19, 1)], 0))), (0, 7, .inl (.inl ([(20, 1)], 0))), (0, 8, .inl (.inl ([(21, 1)], 0))), (0, 9, .inl (.inl ([(22, 1)], 0))), (0, 10, .inl (.inl ([(23, 1)], 0))), (1, 0, .inl (.inr ([(24, 1)], 0))), (1, 1, .inl (.inr ([(25, 1)], 0)))]), xf_90.2), none)], []))
noncomputable def xq_90 : yt_Q := (yz_X10_find, (yl_flX10, yl_ciX10, yl_cjX10, yl_cpX10, yl_cqX10), [(35, ([(0, 40), (0, 1), ((-600), 600), ((-600), 600), ((-1000000), 1000000), ((-1000000), 1000000)], [([(12, 1)], (-2))], ((ys_fs xf_90.1 [(0, 1, .inl (.inl ([(15, 1)], 0))), (0, 6, .inl (.inl ([(13, 1)], 0))), (0, 7, .inl (.inl ([(16, 1)], 0))), (0, 8, .inl (.inl ([(17, 1)], 0))), (0, 9, .inl (.inl ([(18, 1)], 0))), (0, 10, .inl (.inl ([(19, 1)], 0)))]), xf_90.2), [(0, .inr (some 0)), (1, .inr (some 2)), (2, .inl (.inl ([(14, 1)], 0)))], [], ([(14, (-42))], 1721)), [], true), (47, ([(0, 39), (1, 40), (0, 1), ((-600), 600), ((-600), 600), ((-1000000), 1000000), ((-1000000), 1000000)], [([(12, 1)], (-2))], ((ys_fs xf_90.1 [(0, 1, .inl (.inl ([(16, 1)], 0))), (0, 6, .inl (.inl ([(13, 1)], 0))), (0, 7, .inl (.inl ([(17, 1)], 0))), (0, 8, .inl (.inl ([(18, 1)], 0))), (0, 9, .inl (.inl ([(19, 1)], 0))), (0, 10, .inl (.inl ([(20, 1)], 0)))]), xf_90.2), [(0, .inr (some 0)), (1, .inr (some 2)), (2, .inl (.inl ([(14, 1)], 0))), (3, .inl (.inl ([(15, 1)], 0)))], [], ([(14, (-42)), (15, (-1))], 1720)), [], true)], [true])
noncomputable def xa_90 : List yt_CE := [(((56, false), (304, false, [2, 5, 3, 4, 6])), (yw_s16, xk_81)), (((67, false), (315, false, [0, 1, 2, 3, 4, 5, 6])), (yw_s52, xk_86)), (((63, false), (303, false, [0, 2, 3, 4, 5, 1, 6])), (yw_s54, xk_89))]
noncomputable def xv_90 : List (List yt_VC) := [[(1000, ([(0, 1), ((-9223372036854775808), 9223372036854775807), ((-9223372036854775808), 9223372036854775807), ((-9223372036854775808), 9223372036854775807), (0, 40), ((-2147483647), 2147483647), ((-600), 600), ((-600), 600), ((-1000000), 1000000), ((-1000000), 1000000), ((-9223372036854775808), 9223372036854775807), ((-9223372036854775808), 9223372036854775807), (0, 40), ((-2147483648), 2147483646)], [([(5, 1), (13, (-1))], (-1))]), [([], 0), ([(1, 1)], 0), ([(2, 1)], 0), ([(3, 1)], 0), ([(4, 1)], 0), ([(13, 1)], 0), ([(6, 1)], 0), ([(7, 1)], 0), ([(8, 1)], 0), ([(9, 1)], 0), ([(10, 1)], 0), ([(11, 1)], 0)], [], [.inr (.inr (.inl (304, 0, [([(12, 1)], 0), ([(13, 1)], 0)], [2, 5, 3, 4, 6], [])))]),
   (0, ([(0, 1), ((-9223372036854775808), 9223372036854775807), ((-9223372036854775808), 9223372036854775807), ((-9223372036854775808), 9223372036854775807), (0, 40), ((-2147483647), 2147483647), ((-600), 600), ((-600), 600), ((-1000000), 1000000), ((-1000000), 1000000), ((-9223372036854775808), 9223372036854775807), ((-9223372036854775808), 9223372036854775807), (2, 40), ((-2147483648), 2147483646)], [([(5, 1), (13, (-1))], (-1))]), [([], 0), ([], 0), ([(6, 1)], 0), ([(7, 1)], 0), ([(8, 1)], 0), ([(9, 1)], 0)], [], [.inr (.inr (.inl (304, 1, [([(12, 1)], 0), ([(13, 1)], 0)], [2, 5, 3, 4, 6], [])))]),
   (1000, ([(0, 1), ((-9223372036854775808), 9223372036854775807), ((-9223372036854775808), 9223372036854775807), ((-9223372036854775808), 9223372036854775807), (0, 40), ((-2147483648), 2147483646), ((-600), 600), ((-600), 600), ((-1000000), 1000000), ((-1000000), 1000000), ((-9223372036854775808), 9223372036854775807), ((-9223372036854775808), 9223372036854775807), (0, 40), ((-2147483647), 2147483647)], [([(13, 1), (5, (-1))], (-1))]), [([], 0), ([(1, 1)], 0), ([(2, 1)], 0), ([(3, 1)], 0), ([(4, 1)], 0), ([(13, 1)], 0), ([(6, 1)], 0), ([(7, 1)], 0), ([(8, 1)], 0), ([(9, 1)], 0), ([(10, 1)], 0), ([(11, 1)], 0)], [], [.inr (.inr (.inl (304, 0, [([(12, 1)], 0), ([(13, 1)], 0)], [2, 5, 3, 4, 6], [])))]),
   (0, ([(0, 1), ((-9223372036854775808), 9223372036854775807), ((-9223372036854775808), 9223372036854775807), ((-9223372036854775808), 9223372036854775807), (0, 40), ((-2147483648), 2147483646), ((-600), 600), ((-600), 600), ((-1000000), 1000000), ((-1000000), 1000000), ((-9223372036854775808), 9223372036854775807), ((-9223372036854775808), 9223372036854775807), (2, 40), ((-2147483647), 2147483647)], [([(13, 1), (5, (-1))], (-1))]), [([], 0), ([], 0), ([(6, 1)], 0), ([(7, 1)], 0), ([(8, 1)], 0), ([(9, 1)], 0)], [], [.inr (.inr (.inl (304, 1, [([(12, 1)], 0), ([(13, 1)], 0)], [2, 5, 3, 4, 6], [])))]),
   (1000, ([(0, 1), ((-9223372036854775808), 9223372036854775807), ((-9223372036854775808), 9223372036854775807), ((-9223372036854775808), 9223372036854775807), (0, 40), ((-2147483648), 2147483647), ((-600), 600), ((-600), 600), ((-1000000), 1000000), ((-1000000), 1000000), ((-9223372036854775808), 9223372036854775807), ((-9223372036854775808), 9223372036854775807), (0, 40), ((-2147483648), 2147483647)], [([(5, (-1)), (13, 1)], 0), ([(13, (-1)), (5, 1)], 0)]), [([(0, 1)], 0), ([(1, 1)], 0), ([(2, 1)], 0), ([(3, 1)], 0), ([(4, 1)], 0), ([(5, 1)], 0), ([(6, 1)], 0), ([(7, 1)], 0), ([(8, 1)], 0), ([(9, 1)], 0), ([(10, 1)], 0), ([(11, 1)], 0)], [], [])],
  [(1000, ([(0, 1), ((-9223372036854775808), 9223372036854775807), ((-9223372036854775808), 9223372036854775807), ((-9223372036854775808), 9223372036854775807), (0, 40), ((-2147483648), 2147483647), ((-600), 600), ((-600), 600), ((-1000000), 1000000), ((-1000000), 1000000), ((-9223372036854775808), 9223372036854775807), ((-9223372036854775808), 9223372036854775807), (2, 40), ((-2147483648), 2147483647), (2, 40), (0, 0), ((-600), 600), ((-600), 600), ((-1000000), 1000000), ((-1000000), 1000000)], [([(12, (-1)), (14, 1)], 0), ([(12, 1)], (-2))]), [([(15, 1)], 0), ([(1, 1)], 0), ([(2, 1)], 0), ([(3, 1)], 0), ([(4, 1)], 0), ([(13, 1)], 0), ([(16, 1)], 0), ([(17, 1)], 0), ([(18, 1)], 0), ([(19, 1)], 0), ([(10, 1)], 0), ([(11, 1)], 0)], [], []),
   (1000, ([(0, 1), ((-9223372036854775808), 9223372036854775807), ((-9223372036854775808), 9223372036854775807), ((-9223372036854775808), 9223372036854775807), (0, 40), ((-2147483648), 2147483647), ((-600), 600), ((-600), 600), ((-1000000), 1000000), ((-1000000), 1000000), ((-9223372036854775808), 9223372036854775807), ((-9223372036854775808), 9223372036854775807), (2, 40), ((-2147483648), 2147483647), (2, 40), (1, 1), ((-600), 600), ((-600), 600), ((-1000000), 1000000), ((-1000000), 1000000), ((-1200), 4000), ((-1200), 1200), ((-2000000), 2000000), (0, 40), ((-9223372036854775808), 9223372036854775807), ((-9223372036854775808), 9223372036854775807)], [([(12, (-1)), (14, 1)], 0), ([(12, 1)], (-2))]), [([(15, 1)], 0), ([(20, 1)], 0), ([(21, 1)], 0), ([(22, 1)], 0), ([(23, 1)], 0), ([(13, 1)], 0), ([(16, 1)], 0), ([(17, 1)], 0), ([(18, 1)], 0), ([(19, 1)], 0), ([(24, 1)], 0), ([(25, 1)], 0)], [], [.inr (.inr (.inl (315, 0, [([(15, 1)], 0), ([(1, 1)], 0), ([(2, 1)], 0), ([(3, 1)], 0), ([(4, 1)], 0), ([(13, 1)], 0), ([(16, 1)], 0), ([(17, 1)], 0), ([(18, 1)], 0), ([(19, 1)], 0), ([(10, 1)], 0), ([(11, 1)], 0), ([(12, 1)], 0), ([(13, 1)], 0), ([(20, 1)], 0), ([(21, 1)], 0), ([(22, 1)], 0), ([(23, 1)], 0), ([(24, 1)], 0), ([(25, 1)], 0)], [0, 1, 2, 3, 4, 5, 6], [])))]),
   (1, ([(0, 1), ((-9223372036854775808), 9223372036854775807), ((-9223372036854775808), 9223372036854775807), ((-9223372036854775808), 9223372036854775807), (0, 40), ((-2147483648), 2147483647), ((-600), 600), ((-600), 600), ((-1000000), 1000000), ((-1000000), 1000000), ((-9223372036854775808), 9223372036854775807), ((-9223372036854775808), 9223372036854775807), (2, 40), ((-2147483648), 2147483647), (0, 39), (0, 1), ((-600), 600), ((-600), 600), ((-1000000), 1000000), ((-1000000), 1000000)], [([(12, 1), (14, (-1))], (-1)), ([(12, 1)], (-2))]), [([(14, 1)], 0), ([(14, 1)], 1), ([(15, 1)], 0), ([(16, 1)], 0), ([(17, 1)], 0), ([(18, 1)], 0), ([(19, 1)], 0)], [], [])],
  [(0, ([(0, 1), ((-9223372036854775808), 9223372036854775807), ((-9223372036854775808), 9223372036854775807), ((-9223372036854775808), 9223372036854775807), (0, 40), ((-2147483648), 2147483647), ((-600), 600), ((-600), 600), ((-1000000), 1000000), ((-1000000), 1000000), ((-9223372036854775808), 9223372036854775807), ((-9223372036854775808), 9223372036854775807), (2, 40), ((-2147483648), 2147483647), (0, 39), (2, 40), (0, 1), ((-600), 600), ((-600), 600), ((-1000000), 1000000), ((-1000000), 1000000)], [([(12, (-1)), (15, 1)], 0), ([(12, 1)], (-2))]), [([(14, 1)], 1), ([(16, 1)], 0), ([(17, 1)], 0), ([(18, 1)], 0), ([(19, 1)], 0), ([(20, 1)], 0)], [], []),
   (1, ([(0, 1), ((-9223372036854775808), 9223372036854775807), ((-9223372036854775808), 9223372036854775807), ((-9223372036854775808), 9223372036854775807), (0, 40), ((-2147483648), 2147483647), ((-600), 600), ((-600), 600), ((-1000000), 1000000), ((-1000000), 1000000), ((-9223372036854775808), 9223372036854775807), ((-9223372036854775808), 9223372036854775807), (2, 40), ((-2147483648), 2147483647), (0, 39), (1, 39), (0, 1), ((-600), 600), ((-600), 600), ((-1000000), 1000000), ((-1000000), 1000000), (0, 1), ((-600), 600), ((-600), 600), ((-1000000), 1000000), ((-1000000), 1000000)], [([(12, 1), (15, (-1))], (-1)), ([(12, 1)], (-2))]), [([(14, 1)], 0), ([(15, 1)], 1), ([(21, 1)], 0), ([(22, 1)], 0), ([(23, 1)], 0), ([(24, 1)], 0), ([(25, 1)], 0)], [], [.inr (.inr (.inl (303, 0, [([(14, 1)], 0), ([(15, 1)], 0), ([(16, 1)], 0), ([(1, 1)], 0), ([(2, 1)], 0), ([(3, 1)], 0), ([(4, 1)], 0), ([(13, 1)], 0), ([(17, 1)], 0), ([(18, 1)], 0), ([(19, 1)], 0), ([(20, 1)], 0), ([(12, 1)], 0), ([(13, 1)], 0), ([(21, 1)], 0), ([(22, 1)], 0), ([(23, 1)], 0), ([(24, 1)], 0), ([(25, 1)], 0)], [0, 2, 3, 4, 5, 1, 6], [])))])]]
noncomputable def xG_90 : Nat → yt_G → (Nat → Int) → yt_G → Prop
  | 0, g0, r, g => ((1 * (r 5) + 0) + 0) ≠ ((1 * (r 13) + 0) + 0) ∧ ye_bo (g0 5) (((1 * (r 12) + 0) + 0)).toNat ∧ ye_I (g0 3) (g0 4) (g0 5) (((1 * (r 12) + 0) + 0)).toNat (((1 * (r 14) + 0) + 0)).toNat 0 (((1 * (r 15) + 0) + 0), ((1 * (r 16) + 0) + 0), ((1 * (r 17) + 0) + 0), ((1 * (r 18) + 0) + 0), ((1 * (r 19) + 0) + 0)) ∧ ((1 * (r 14) + 0) + 0) ≤ ((1 * (r 12) + 0) + 0)
  | 1, g0, r, g => ((1 * (r 5) + 0) + 0) ≠ ((1 * (r 13) + 0) + 0) ∧ ye_bo (g0 5) (((1 * (r 12) + 0) + 0)).toNat ∧ ye_I (g0 3) (g0 4) (g0 5) (((1 * (r 12) + 0) + 0)).toNat (((1 * (r 14) + 0) + 0)).toNat (((1 * (r 15) + 0) + 0)).toNat (((1 * (r 16) + 0) + 0), ((1 * (r 17) + 0) + 0), ((1 * (r 18) + 0) + 0), ((1 * (r 19) + 0) + 0), ((1 * (r 20) + 0) + 0)) ∧ ((1 * (r 14) + 0) + 0) + 1 ≤ ((1 * (r 15) + 0) + 0) ∧ ((1 * (r 15) + 0) + 0) ≤ ((1 * (r 12) + 0) + 0)
  | _, _, _, _ => True
noncomputable def xP_90 : yt_Ph
  | 0, r, g0, g => (ye_fd (g0 3) (g0 4) (g0 5) (((1 * (r 12) + 0) + 0)).toNat ((1 * (r 13) + 0) + 0) ((1 * (r 5) + 0) + 0) (((1 * (r 0) + 0) + 0), ((1 * (r 6) + 0) + 0), ((1 * (r 7) + 0) + 0), ((1 * (r 8) + 0) + 0), ((1 * (r 9) + 0) + 0)) ((1 * (r 19) + 0) + 0) (((1 * (r 14) + 0) + 0), ((1 * (r 20) + 0) + 0), ((1 * (r 21) + 0) + 0), ((1 * (r 22) + 0) + 0), ((1 * (r 23) + 0) + 0)) ∧ ye_fo (g0 3) (g0 4) (((1 * (r 12) + 0) + 0)).toNat ((1 * (r 13) + 0) + 0) ((1 * (r 5) + 0) + 0) (((1 * (r 10) + 0) + 0), ((1 * (r 11) + 0) + 0), ((1 * (r 1) + 0) + 0), ((1 * (r 2) + 0) + 0), ((1 * (r 3) + 0) + 0), ((1 * (r 4) + 0) + 0)) (((1 * (r 14) + 0) + 0), ((1 * (r 20) + 0) + 0), ((1 * (r 21) + 0) + 0), ((1 * (r 22) + 0) + 0), ((1 * (r 23) + 0) + 0)) (((1 * (r 24) + 0) + 0), ((1 * (r 25) + 0) + 0), ((1 * (r 15) + 0) + 0), ((1 * (r 16) + 0) + 0), ((1 * (r 17) + 0) + 0), ((1 * (r 18) + 0) + 0)))
  | _, _, _, _ => True
noncomputable def xR_90 : yt_Ps := fun r g0 => True
noncomputable def xT_90 : yt_Tb := fun d => match d with
  | 303 => xP_89
  | 304 => xP_81
  | 315 => xP_86
  | _ => fun _ _ _ _ => True
noncomputable def xU_90 : Nat → yt_Ps := fun d => match d with
  | 303 => xR_89
  | 304 => xR_81
  | 315 => xR_86
  | _ => fun _ _ => True
theorem xw_90_0_0 : yt_hold xT_90 xk_90 xq_90.2.2.1 xG_90 xP_90 xU_90 14 xk_90.2.1.2.2.2 (fun g0 r g => xR_90 r g0 ∧ g = g0) (1000, ([(0, 1), ((-9223372036854775808), 9223372036854775807), ((-9223372036854775808), 9223372036854775807), ((-9223372036854775808), 9223372036854775807), (0, 40), ((-2147483647), 2147483647), ((-600), 600), ((-600), 600), ((-1000000), 1000000), ((-1000000), 1000000), ((-9223372036854775808), 9223372036854775807), ((-9223372036854775808), 9223372036854775807), (0, 40), ((-2147483648), 2147483646)], [([(5, 1), (13, (-1))], (-1))]), [([], 0), ([(1, 1)], 0), ([(2, 1)], 0), ([(3, 1)], 0), ([(4, 1)], 0), ([(13, 1)], 0), ([(6, 1)], 0), ([(7, 1)], 0), ([(8, 1)], 0), ([(9, 1)], 0), ([(10, 1)], 0), ([(11, 1)], 0)], [], [.inr (.inr (.inl (304, 0, [([(12, 1)], 0), ([(13, 1)], 0)], [2, 5, 3, 4, 6], [])))]) := by
  intro g0 r gi g hok hh hars hfr hG
  have b0 : 0 ≤ r 0 ∧ r 0 ≤ 1 := hok.1 0 (0, 1) rfl
  have b5 : (-2147483647) ≤ r 5 ∧ r 5 ≤ 2147483647 := hok.1 5 ((-2147483647), 2147483647) rfl
  have b6 : (-600) ≤ r 6 ∧ r 6 ≤ 600 := hok.1 6 ((-600), 600) rfl
  have b7 : (-600) ≤ r 7 ∧ r 7 ≤ 600 := hok.1 7 ((-600), 600) rfl
  have b8 : (-1000000) ≤ r 8 ∧ r 8 ≤ 1000000 := hok.1 8 ((-1000000), 1000000) rfl
  have b9 : (-1000000) ≤ r 9 ∧ r 9 ≤ 1000000 := hok.1 9 ((-1000000), 1000000) rfl
  have b12 : 0 ≤ r 12 ∧ r 12 ≤ 40 := hok.1 12 (0, 40) rfl
  have b13 : (-2147483648) ≤ r 13 ∧ r 13 ≤ 2147483646 := hok.1 13 ((-2147483648), 2147483646) rfl
  have f0 : 0 ≤ ((1 * r 5 + ((-1) * r 13 + 0)) + (-1)) := hok.2 _ (List.mem_of_getElem? (i := 0) rfl)
  obtain ⟨hG, hgi⟩ := hG
  have hG : True := hG
  obtain ⟨h0, hh, e0, k0⟩ := hh
  have k0 : ∀ j, j ∉ [] → g j = h0 j := k0
  have e0 : ¬ ye_bo (h0 5) (((1 * r 12 + 0) + 0)).toNat := e0
  have hh : h0 = gi := hh
  subst hh
  refine yt_dalt (by decide) (by decide) ?_
  rw [show xk_90.2.1.2.1.1.length = 14 from rfl]
  show (ye_fd (g0 3) (g0 4) (g0 5) (((1 * ((1 * r 12 + 0) + 0) + 0) + 0)).toNat ((1 * ((1 * r 13 + 0) + 0) + 0) + 0) ((1 * ((1 * r 5 + 0) + 0) + 0) + 0) (((1 * ((1 * r 0 + 0) + 0) + 0) + 0), ((1 * ((1 * r 6 + 0) + 0) + 0) + 0), ((1 * ((1 * r 7 + 0) + 0) + 0) + 0), ((1 * ((1 * r 8 + 0) + 0) + 0) + 0), ((1 * ((1 * r 9 + 0) + 0) + 0) + 0)) ((1 * ((1 * r 13 + 0) + 0) + 0) + 0) (((1 * ((0 : Int) + 0) + 0) + 0), ((1 * ((1 * r 6 + 0) + 0) + 0) + 0), ((1 * ((1 * r 7 + 0) + 0) + 0) + 0), ((1 * ((1 * r 8 + 0) + 0) + 0) + 0), ((1 * ((1 * r 9 + 0) + 0) + 0) + 0)) ∧ ye_fo (g0 3) (g0 4) (((1 * ((1 * r 12 + 0) + 0) + 0) + 0)).toNat ((1 * ((1 * r 13 + 0) + 0) + 0) + 0) ((1 * ((1 * r 5 + 0) + 0) + 0) + 0) (((1 * ((1 * r 10 + 0) + 0) + 0) + 0), ((1 * ((1 * r 11 + 0) + 0) + 0) + 0), ((1 * ((1 * r 1 + 0) + 0) + 0) + 0), ((1 * ((1 * r 2 + 0) + 0) + 0) + 0), ((1 * ((1 * r 3 + 0) + 0) + 0) + 0), ((1 * ((1 * r 4 + 0) + 0) + 0) + 0)) (((1 * ((0 : Int) + 0) + 0) + 0), ((1 * ((1 * r 6 + 0) + 0) + 0) + 0), ((1 * ((1 * r 7 + 0) + 0) + 0) + 0), ((1 * ((1 * r 8 + 0) + 0) + 0) + 0), ((1 * ((1 * r 9 + 0) + 0) + 0) + 0)) (((1 * ((1 * r 10 + 0) + 0) + 0) + 0), ((1 * ((1 * r 11 + 0) + 0) + 0) + 0), ((1 * ((1 * r 1 + 0) + 0) + 0) + 0), ((1 * ((1 * r 2 + 0) + 0) + 0) + 0), ((1 * ((1 * r 3 + 0) + 0) + 0) + 0), ((1 * ((1 * r 4 + 0) + 0) + 0) + 0)))
  try simp only [Int.one_mul, Int.zero_add, Int.add_zero]
  refine ⟨?_, ?_⟩
  · try simp only [Int.one_mul, Int.zero_add, Int.add_zero] at e0
    rw [hgi] at e0
    exact Or.inr ⟨by omega, rfl, fun _ => rfl, fun b => absurd b e0⟩
  · exact Or.inr ⟨by omega, fun z => absurd (show (0 : Int) = 1 from z) (by decide)⟩
theorem xw_90_0_1 : yt_hold xT_90 xk_90 xq_90.2.2.1 xG_90 xP_90 xU_90 14 xk_90.2.1.2.2.2 (fun g0 r g => xR_90 r g0 ∧ g = g0) (0, ([(0, 1), ((-9223372036854775808), 9223372036854775807), ((-9223372036854775808), 9223372036854775807), ((-9223372036854775808), 9223372036854775807), (0, 40), ((-2147483647), 2147483647), ((-600), 600), ((-600), 600), ((-1000000), 1000000), ((-1000000), 1000000), ((-9223372036854775808), 9223372036854775807), ((-9223372036854775808), 9223372036854775807), (2, 40), ((-2147483648), 2147483646)], [([(5, 1), (13, (-1))], (-1))]), [([], 0), ([], 0), ([(6, 1)], 0), ([(7, 1)], 0), ([(8, 1)], 0), ([(9, 1)], 0)], [], [.inr (.inr (.inl (304, 1, [([(12, 1)], 0), ([(13, 1)], 0)], [2, 5, 3, 4, 6], [])))]) := by
  intro g0 r gi g hok hh hars hfr hG
  have b0 : 0 ≤ r 0 ∧ r 0 ≤ 1 := hok.1 0 (0, 1) rfl
  have b5 : (-2147483647) ≤ r 5 ∧ r 5 ≤ 2147483647 := hok.1 5 ((-2147483647), 2147483647) rfl
  have b6 : (-600) ≤ r 6 ∧ r 6 ≤ 600 := hok.1 6 ((-600), 600) rfl
  have b7 : (-600) ≤ r 7 ∧ r 7 ≤ 600 := hok.1 7 ((-600), 600) rfl
  have b8 : (-1000000) ≤ r 8 ∧ r 8 ≤ 1000000 := hok.1 8 ((-1000000), 1000000) rfl
  have b9 : (-1000000) ≤ r 9 ∧ r 9 ≤ 1000000 := hok.1 9 ((-1000000), 1000000) rfl
  have b12 : 2 ≤ r 12 ∧ r 12 ≤ 40 := hok.1 12 (2, 40) rfl
  have b13 : (-2147483648) ≤ r 13 ∧ r 13 ≤ 2147483646 := hok.1 13 ((-2147483648), 2147483646) rfl
  have f0 : 0 ≤ ((1 * r 5 + ((-1) * r 13 + 0)) + (-1)) := hok.2 _ (List.mem_of_getElem? (i := 0) rfl)
  obtain ⟨hG, hgi⟩ := hG
  have hG : True := hG
  obtain ⟨h0, hh, e0, k0⟩ := hh
  have k0 : ∀ j, j ∉ [] → g j = h0 j := k0
  have e0 : ye_bo (h0 5) (((1 * r 12 + 0) + 0)).toNat := e0
  have hh : h0 = gi := hh
  subst hh
  refine yt_dcut (by decide) rfl ?_ ?_
  · exact fun f hf => absurd hf List.not_mem_nil
  · rw [show xk_90.2.1.2.1.1.length = 14 from rfl]
    show ((1 * ((1 * r 5 + 0) + 0) + 0) + 0) ≠ ((1 * ((1 * r 13 + 0) + 0) + 0) + 0) ∧ ye_bo (g0 5) (((1 * ((1 * r 12 + 0) + 0) + 0) + 0)).toNat ∧ ye_I (g0 3) (g0 4) (g0 5) (((1 * ((1 * r 12 + 0) + 0) + 0) + 0)).toNat (((1 * ((0 : Int) + 0) + 0) + 0)).toNat 0 (((1 * ((0 : Int) + 0) + 0) + 0), ((1 * ((1 * r 6 + 0) + 0) + 0) + 0), ((1 * ((1 * r 7 + 0) + 0) + 0) + 0), ((1 * ((1 * r 8 + 0) + 0) + 0) + 0), ((1 * ((1 * r 9 + 0) + 0) + 0) + 0)) ∧ ((1 * ((0 : Int) + 0) + 0) + 0) ≤ ((1 * ((1 * r 12 + 0) + 0) + 0) + 0)
    try simp only [Int.one_mul, Int.zero_add, Int.add_zero]
    try simp only [Int.one_mul, Int.zero_add, Int.add_zero] at e0
    rw [hgi] at e0
    exact ⟨by omega, e0, ye_I_0 rfl, by omega⟩
theorem xw_90_0_2 : yt_hold xT_90 xk_90 xq_90.2.2.1 xG_90 xP_90 xU_90 14 xk_90.2.1.2.2.2 (fun g0 r g => xR_90 r g0 ∧ g = g0) (1000, ([(0, 1), ((-9223372036854775808), 9223372036854775807), ((-9223372036854775808), 9223372036854775807), ((-9223372036854775808), 9223372036854775807), (0, 40), ((-2147483648), 2147483646), ((-600), 600), ((-600), 600), ((-1000000), 1000000), ((-1000000), 1000000), ((-9223372036854775808), 9223372036854775807), ((-9223372036854775808), 9223372036854775807), (0, 40), ((-2147483647), 2147483647)], [([(13, 1), (5, (-1))], (-1))]), [([], 0), ([(1, 1)], 0), ([(2, 1)], 0), ([(3, 1)], 0), ([(4, 1)], 0), ([(13, 1)], 0), ([(6, 1)], 0), ([(7, 1)], 0), ([(8, 1)], 0), ([(9, 1)], 0), ([(10, 1)], 0), ([(11, 1)], 0)], [], [.inr (.inr (.inl (304, 0, [([(12, 1)], 0), ([(13, 1)], 0)], [2, 5, 3, 4, 6], [])))]) := by
  intro g0 r gi g hok hh hars hfr hG
  have b0 : 0 ≤ r 0 ∧ r 0 ≤ 1 := hok.1 0 (0, 1) rfl
  have b5 : (-2147483648) ≤ r 5 ∧ r 5 ≤ 2147483646 := hok.1 5 ((-2147483648), 2147483646) rfl
  have b6 : (-600) ≤ r 6 ∧ r 6 ≤ 600 := hok.1 6 ((-600), 600) rfl
  have b7 : (-600) ≤ r 7 ∧ r 7 ≤ 600 := hok.1 7 ((-600), 600) rfl
  have b8 : (-1000000) ≤ r 8 ∧ r 8 ≤ 1000000 := hok.1 8 ((-1000000), 1000000) rfl
  have b9 : (-1000000) ≤ r 9 ∧ r 9 ≤ 1000000 := hok.1 9 ((-1000000), 1000000) rfl
  have b12 : 0 ≤ r 12 ∧ r 12 ≤ 40 := hok.1 12 (0, 40) rfl
  have b13 : (-2147483647) ≤ r 13 ∧ r 13 ≤ 2147483647 := hok.1 13 ((-2147483647), 2147483647) rfl
  have f0 : 0 ≤ ((1 * r 13 + ((-1) * r 5 + 0)) + (-1)) := hok.2 _ (List.mem_of_getElem? (i := 0) rfl)
  obtain ⟨hG, hgi⟩ := hG
  have hG : True := hG
  obtain ⟨h0, hh, e0, k0⟩ := hh
  have k0 : ∀ j, j ∉ [] → g j = h0 j := k0
  have e0 : ¬ ye_bo (h0 5) (((1 * r 12 + 0) + 0)).toNat := e0
  have hh : h0 = gi := hh
  subst hh
  refine yt_dalt (by decide) (by decide) ?_
  rw [show xk_90.2.1.2.1.1.length = 14 from rfl]
  show (ye_fd (g0 3) (g0 4) (g0 5) (((1 * ((1 * r 12 + 0) + 0) + 0) + 0)).toNat ((1 * ((1 * r 13 + 0) + 0) + 0) + 0) ((1 * ((1 * r 5 + 0) + 0) + 0) + 0) (((1 * ((1 * r 0 + 0) + 0) + 0) + 0), ((1 * ((1 * r 6 + 0) + 0) + 0) + 0), ((1 * ((1 * r 7 + 0) + 0) + 0) + 0), ((1 * ((1 * r 8 + 0) + 0) + 0) + 0), ((1 * ((1 * r 9 + 0) + 0) + 0) + 0)) ((1 * ((1 * r 13 + 0) + 0) + 0) + 0) (((1 * ((0 : Int) + 0) + 0) + 0), ((1 * ((1 * r 6 + 0) + 0) + 0) + 0), ((1 * ((1 * r 7 + 0) + 0) + 0) + 0), ((1 * ((1 * r 8 + 0) + 0) + 0) + 0), ((1 * ((1 * r 9 + 0) + 0) + 0) + 0)) ∧ ye_fo (g0 3) (g0 4) (((1 * ((1 * r 12 + 0) + 0) + 0) + 0)).toNat ((1 * ((1 * r 13 + 0) + 0) + 0) + 0) ((1 * ((1 * r 5 + 0) + 0) + 0) + 0) (((1 * ((1 * r 10 + 0) + 0) + 0) + 0), ((1 * ((1 * r 11 + 0) + 0) + 0) + 0), ((1 * ((1 * r 1 + 0) + 0) + 0) + 0), ((1 * ((1 * r 2 + 0) + 0) + 0) + 0), ((1 * ((1 * r 3 + 0) + 0) + 0) + 0), ((1 * ((1 * r 4 + 0) + 0) + 0) + 0)) (((1 * ((0 : Int) + 0) + 0) + 0), ((1 * ((1 * r 6 + 0) + 0) + 0) + 0), ((1 * ((1 * r 7 + 0) + 0) + 0) + 0), ((1 * ((1 * r 8 + 0) + 0) + 0) + 0), ((1 * ((1 * r 9 + 0) + 0) + 0) + 0)) (((1 * ((1 * r 10 + 0) + 0) + 0) + 0), ((1 * ((1 * r 11 + 0) + 0) + 0) + 0), ((1 * ((1 * r 1 + 0) + 0) + 0) + 0), ((1 * ((1 * r 2 + 0) + 0) + 0) + 0), ((1 * ((1 * r 3 + 0) + 0) + 0) + 0), ((1 * ((1 * r 4 + 0) + 0) + 0) + 0)))
  try simp only [Int.one_mul, Int.zero_add, Int.add_zero]
  refine ⟨?_, ?_⟩
  · try simp only [Int.one_mul, Int.zero_add, Int.add_zero] at e0
    rw [hgi] at e0
    exact Or.inr ⟨by omega, rfl, fun _ => rfl, fun b => absurd b e0⟩
  · exact Or.inr ⟨by omega, fun z => absurd (show (0 : Int) = 1 from z) (by decide)⟩
theorem xw_90_0_3 : yt_hold xT_90 xk_90 xq_90.2.2.1 xG_90 xP_90 xU_90 14 xk_90.2.1.2.2.2 (fun g0 r g => xR_90 r g0 ∧ g = g0) (0, ([(0, 1), ((-9223372036854775808), 9223372036854775807), ((-9223372036854775808), 9223372036854775807), ((-9223372036854775808), 9223372036854775807), (0, 40), ((-2147483648), 2147483646), ((-600), 600), ((-600), 600), ((-1000000), 1000000), ((-1000000), 1000000), ((-9223372036854775808), 9223372036854775807), ((-9223372036854775808), 9223372036854775807), (2, 40), ((-2147483647), 2147483647)], [([(13, 1), (5, (-1))], (-1))]), [([], 0), ([], 0), ([(6, 1)], 0), ([(7, 1)], 0), ([(8, 1)], 0), ([(9, 1)], 0)], [], [.inr (.inr (.inl (304, 1, [([(12, 1)], 0), ([(13, 1)], 0)], [2, 5, 3, 4, 6], [])))]) := by
  intro g0 r gi g hok hh hars hfr hG
  have b0 : 0 ≤ r 0 ∧ r 0 ≤ 1 := hok.1 0 (0, 1) rfl
  have b5 : (-2147483648) ≤ r 5 ∧ r 5 ≤ 2147483646 := hok.1 5 ((-2147483648), 2147483646) rfl
  have b6 : (-600) ≤ r 6 ∧ r 6 ≤ 600 := hok.1 6 ((-600), 600) rfl
  have b7 : (-600) ≤ r 7 ∧ r 7 ≤ 600 := hok.1 7 ((-600), 600) rfl
  have b8 : (-1000000) ≤ r 8 ∧ r 8 ≤ 1000000 := hok.1 8 ((-1000000), 1000000) rfl
  have b9 : (-1000000) ≤ r 9 ∧ r 9 ≤ 1000000 := hok.1 9 ((-1000000), 1000000) rfl
  have b12 : 2 ≤ r 12 ∧ r 12 ≤ 40 := hok.1 12 (2, 40) rfl
  have b13 : (-2147483647) ≤ r 13 ∧ r 13 ≤ 2147483647 := hok.1 13 ((-2147483647), 2147483647) rfl
  have f0 : 0 ≤ ((1 * r 13 + ((-1) * r 5 + 0)) + (-1)) := hok.2 _ (List.mem_of_getElem? (i := 0) rfl)
  obtain ⟨hG, hgi⟩ := hG
  have hG : True := hG
  obtain ⟨h0, hh, e0, k0⟩ := hh
  have k0 : ∀ j, j ∉ [] → g j = h0 j := k0
  have e0 : ye_bo (h0 5) (((1 * r 12 + 0) + 0)).toNat := e0
  have hh : h0 = gi := hh
  subst hh
  refine yt_dcut (by decide) rfl ?_ ?_
  · exact fun f hf => absurd hf List.not_mem_nil
  · rw [show xk_90.2.1.2.1.1.length = 14 from rfl]
    show ((1 * ((1 * r 5 + 0) + 0) + 0) + 0) ≠ ((1 * ((1 * r 13 + 0) + 0) + 0) + 0) ∧ ye_bo (g0 5) (((1 * ((1 * r 12 + 0) + 0) + 0) + 0)).toNat ∧ ye_I (g0 3) (g0 4) (g0 5) (((1 * ((1 * r 12 + 0) + 0) + 0) + 0)).toNat (((1 * ((0 : Int) + 0) + 0) + 0)).toNat 0 (((1 * ((0 : Int) + 0) + 0) + 0), ((1 * ((1 * r 6 + 0) + 0) + 0) + 0), ((1 * ((1 * r 7 + 0) + 0) + 0) + 0), ((1 * ((1 * r 8 + 0) + 0) + 0) + 0), ((1 * ((1 * r 9 + 0) + 0) + 0) + 0)) ∧ ((1 * ((0 : Int) + 0) + 0) + 0) ≤ ((1 * ((1 * r 12 + 0) + 0) + 0) + 0)
    try simp only [Int.one_mul, Int.zero_add, Int.add_zero]
    try simp only [Int.one_mul, Int.zero_add, Int.add_zero] at e0
    rw [hgi] at e0
    exact ⟨by omega, e0, ye_I_0 rfl, by omega⟩
theorem xw_90_0_4 : yt_hold xT_90 xk_90 xq_90.2.2.1 xG_90 xP_90 xU_90 14 xk_90.2.1.2.2.2 (fun g0 r g => xR_90 r g0 ∧ g = g0) (1000, ([(0, 1), ((-9223372036854775808), 9223372036854775807), ((-9223372036854775808), 9223372036854775807), ((-9223372036854775808), 9223372036854775807), (0, 40), ((-2147483648), 2147483647), ((-600), 600), ((-600), 600), ((-1000000), 1000000), ((-1000000), 1000000), ((-9223372036854775808), 9223372036854775807), ((-9223372036854775808), 9223372036854775807), (0, 40), ((-2147483648), 2147483647)], [([(5, (-1)), (13, 1)], 0), ([(13, (-1)), (5, 1)], 0)]), [([(0, 1)], 0), ([(1, 1)], 0), ([(2, 1)], 0), ([(3, 1)], 0), ([(4, 1)], 0), ([(5, 1)], 0), ([(6, 1)], 0), ([(7, 1)], 0), ([(8, 1)], 0), ([(9, 1)], 0), ([(10, 1)], 0), ([(11, 1)], 0)], [], []) := by
  intro g0 r gi g hok hh hars hfr hG
  have b0 : 0 ≤ r 0 ∧ r 0 ≤ 1 := hok.1 0 (0, 1) rfl
  have b5 : (-2147483648) ≤ r 5 ∧ r 5 ≤ 2147483647 := hok.1 5 ((-2147483648), 2147483647) rfl
  have b6 : (-600) ≤ r 6 ∧ r 6 ≤ 600 := hok.1 6 ((-600), 600) rfl
  have b7 : (-600) ≤ r 7 ∧ r 7 ≤ 600 := hok.1 7 ((-600), 600) rfl
  have b8 : (-1000000) ≤ r 8 ∧ r 8 ≤ 1000000 := hok.1 8 ((-1000000), 1000000) rfl
  have b9 : (-1000000) ≤ r 9 ∧ r 9 ≤ 1000000 := hok.1 9 ((-1000000), 1000000) rfl
  have b12 : 0 ≤ r 12 ∧ r 12 ≤ 40 := hok.1 12 (0, 40) rfl
  have b13 : (-2147483648) ≤ r 13 ∧ r 13 ≤ 2147483647 := hok.1 13 ((-2147483648), 2147483647) rfl
  have f0 : 0 ≤ (((-1) * r 5 + (1 * r 13 + 0)) + 0) := hok.2 _ (List.mem_of_getElem? (i := 0) rfl)
  have f1 : 0 ≤ (((-1) * r 13 + (1 * r 5 + 0)) + 0) := hok.2 _ (List.mem_of_getElem? (i := 1) rfl)
  obtain ⟨hG, hgi⟩ := hG
  have hG : True := hG
  have hh : g = gi := hh
  subst hh
  refine yt_dalt (by decide) (by decide) ?_
  rw [show xk_90.2.1.2.1.1.length = 14 from rfl]
  show (ye_fd (g0 3) (g0 4) (g0 5) (((1 * ((1 * r 12 + 0) + 0) + 0) + 0)).toNat ((1 * ((1 * r 13 + 0) + 0) + 0) + 0) ((1 * ((1 * r 5 + 0) + 0) + 0) + 0) (((1 * ((1 * r 0 + 0) + 0) + 0) + 0), ((1 * ((1 * r 6 + 0) + 0) + 0) + 0), ((1 * ((1 * r 7 + 0) + 0) + 0) + 0), ((1 * ((1 * r 8 + 0) + 0) + 0) + 0), ((1 * ((1 * r 9 + 0) + 0) + 0) + 0)) ((1 * ((1 * r 5 + 0) + 0) + 0) + 0) (((1 * ((1 * r 0 + 0) + 0) + 0) + 0), ((1 * ((1 * r 6 + 0) + 0) + 0) + 0), ((1 * ((1 * r 7 + 0) + 0) + 0) + 0), ((1 * ((1 * r 8 + 0) + 0) + 0) + 0), ((1 * ((1 * r 9 + 0) + 0) + 0) + 0)) ∧ ye_fo (g0 3) (g0 4) (((1 * ((1 * r 12 + 0) + 0) + 0) + 0)).toNat ((1 * ((1 * r 13 + 0) + 0) + 0) + 0) ((1 * ((1 * r 5 + 0) + 0) + 0) + 0) (((1 * ((1 * r 10 + 0) + 0) + 0) + 0), ((1 * ((1 * r 11 + 0) + 0) + 0) + 0), ((1 * ((1 * r 1 + 0) + 0) + 0) + 0), ((1 * ((1 * r 2 + 0) + 0) + 0) + 0), ((1 * ((1 * r 3 + 0) + 0) + 0) + 0), ((1 * ((1 * r 4 + 0) + 0) + 0) + 0)) (((1 * ((1 * r 0 + 0) + 0) + 0) + 0), ((1 * ((1 * r 6 + 0) + 0) + 0) + 0), ((1 * ((1 * r 7 + 0) + 0) + 0) + 0), ((1 * ((1 * r 8 + 0) + 0) + 0) + 0), ((1 * ((1 * r 9 + 0) + 0) + 0) + 0)) (((1 * ((1 * r 10 + 0) + 0) + 0) + 0), ((1 * ((1 * r 11 + 0) + 0) + 0) + 0), ((1 * ((1 * r 1 + 0) + 0) + 0) + 0), ((1 * ((1 * r 2 + 0) + 0) + 0) + 0), ((1 * ((1 * r 3 + 0) + 0) + 0) + 0), ((1 * ((1 * r 4 + 0) + 0) + 0) + 0)))
  try simp only [Int.one_mul, Int.zero_add, Int.add_zero]
  refine ⟨?_, ?_⟩
  · exact Or.inl ⟨by omega, rfl, rfl⟩
  · exact Or.inl ⟨by omega, by first | rfl | trivial⟩
theorem xw_90_1_0 : yt_hold xT_90 xk_90 xq_90.2.2.1 xG_90 xP_90 xU_90 20 ((xq_90.2.2.1.getD 0 (0, ([], [], ([], []), [], [], ([], 0)), [], false)).2.1.2.2.1.2) (xG_90 0) (1000, ([(0, 1), ((-9223372036854775808), 9223372036854775807), ((-9223372036854775808), 9223372036854775807), ((-9223372036854775808), 9223372036854775807), (0, 40), ((-2147483648), 2147483647), ((-600), 600), ((-600), 600), ((-1000000), 1000000), ((-1000000), 1000000), ((-9223372036854775808), 9223372036854775807), ((-9223372036854775808), 9223372036854775807), (2, 40), ((-2147483648), 2147483647), (2, 40), (0, 0), ((-600), 600), ((-600), 600), ((-1000000), 1000000), ((-1000000), 1000000)], [([(12, (-1)), (14, 1)], 0), ([(12, 1)], (-2))]), [([(15, 1)], 0), ([(1, 1)], 0), ([(2, 1)], 0), ([(3, 1)], 0), ([(4, 1)], 0), ([(13, 1)], 0), ([(16, 1)], 0), ([(17, 1)], 0), ([(18, 1)], 0), ([(19, 1)], 0), ([(10, 1)], 0), ([(11, 1)], 0)], [], []) := by
  intro g0 r gi g hok hh hars hfr hG
  have b0 : 0 ≤ r 0 ∧ r 0 ≤ 1 := hok.1 0 (0, 1) rfl
  have b5 : (-2147483648) ≤ r 5 ∧ r 5 ≤ 2147483647 := hok.1 5 ((-2147483648), 2147483647) rfl
  have b6 : (-600) ≤ r 6 ∧ r 6 ≤ 600 := hok.1 6 ((-600), 600) rfl
  have b7 : (-600) ≤ r 7 ∧ r 7 ≤ 600 := hok.1 7 ((-600), 600) rfl
  have b8 : (-1000000) ≤ r 8 ∧ r 8 ≤ 1000000 := hok.1 8 ((-1000000), 1000000) rfl
  have b9 : (-1000000) ≤ r 9 ∧ r 9 ≤ 1000000 := hok.1 9 ((-1000000), 1000000) rfl
  have b12 : 2 ≤ r 12 ∧ r 12 ≤ 40 := hok.1 12 (2, 40) rfl
  have b13 : (-2147483648) ≤ r 13 ∧ r 13 ≤ 2147483647 := hok.1 13 ((-2147483648), 2147483647) rfl
  have b14 : 2 ≤ r 14 ∧ r 14 ≤ 40 := hok.1 14 (2, 40) rfl
  have b15 : 0 ≤ r 15 ∧ r 15 ≤ 0 := hok.1 15 (0, 0) rfl
  have b16 : (-600) ≤ r 16 ∧ r 16 ≤ 600 := hok.1 16 ((-600), 600) rfl
  have b17 : (-600) ≤ r 17 ∧ r 17 ≤ 600 := hok.1 17 ((-600), 600) rfl
  have b18 : (-1000000) ≤ r 18 ∧ r 18 ≤ 1000000 := hok.1 18 ((-1000000), 1000000) rfl
  have b19 : (-1000000) ≤ r 19 ∧ r 19 ≤ 1000000 := hok.1 19 ((-1000000), 1000000) rfl
  have f0 : 0 ≤ (((-1) * r 12 + (1 * r 14 + 0)) + 0) := hok.2 _ (List.mem_of_getElem? (i := 0) rfl)
  have f1 : 0 ≤ ((1 * r 12 + 0) + (-2)) := hok.2 _ (List.mem_of_getElem? (i := 1) rfl)
  have hG : ((1 * (r 5) + 0) + 0) ≠ ((1 * (r 13) + 0) + 0) ∧ ye_bo (g0 5) (((1 * (r 12) + 0) + 0)).toNat ∧ ye_I (g0 3) (g0 4) (g0 5) (((1 * (r 12) + 0) + 0)).toNat (((1 * (r 14) + 0) + 0)).toNat 0 (((1 * (r 15) + 0) + 0), ((1 * (r 16) + 0) + 0), ((1 * (r 17) + 0) + 0), ((1 * (r 18) + 0) + 0), ((1 * (r 19) + 0) + 0)) ∧ ((1 * (r 14) + 0) + 0) ≤ ((1 * (r 12) + 0) + 0) := hG
  have hh : g = gi := hh
  subst hh
  have hG : ((1 * (r 5) + 0) + 0) ≠ ((1 * (r 13) + 0) + 0) ∧ ye_bo (g0 5) (((1 * (r 12) + 0) + 0)).toNat ∧ ye_I (g0 3) (g0 4) (g0 5) (((1 * (r 12) + 0) + 0)).toNat (((1 * (r 14) + 0) + 0)).toNat 0 (((1 * (r 15) + 0) + 0), ((1 * (r 16) + 0) + 0), ((1 * (r 17) + 0) + 0), ((1 * (r 18) + 0) + 0), ((1 * (r 19) + 0) + 0)) ∧ ((1 * (r 14) + 0) + 0) ≤ ((1 * (r 12) + 0) + 0) := hG
  refine yt_dalt (by decide) (by decide) ?_
  rw [show xk_90.2.1.2.1.1.length = 14 from rfl]
  show (ye_fd (g0 3) (g0 4) (g0 5) (((1 * ((1 * r 12 + 0) + 0) + 0) + 0)).toNat ((1 * ((1 * r 13 + 0) + 0) + 0) + 0) ((1 * ((1 * r 5 + 0) + 0) + 0) + 0) (((1 * ((1 * r 0 + 0) + 0) + 0) + 0), ((1 * ((1 * r 6 + 0) + 0) + 0) + 0), ((1 * ((1 * r 7 + 0) + 0) + 0) + 0), ((1 * ((1 * r 8 + 0) + 0) + 0) + 0), ((1 * ((1 * r 9 + 0) + 0) + 0) + 0)) ((1 * ((1 * r 13 + 0) + 0) + 0) + 0) (((1 * ((1 * r 15 + 0) + 0) + 0) + 0), ((1 * ((1 * r 16 + 0) + 0) + 0) + 0), ((1 * ((1 * r 17 + 0) + 0) + 0) + 0), ((1 * ((1 * r 18 + 0) + 0) + 0) + 0), ((1 * ((1 * r 19 + 0) + 0) + 0) + 0)) ∧ ye_fo (g0 3) (g0 4) (((1 * ((1 * r 12 + 0) + 0) + 0) + 0)).toNat ((1 * ((1 * r 13 + 0) + 0) + 0) + 0) ((1 * ((1 * r 5 + 0) + 0) + 0) + 0) (((1 * ((1 * r 10 + 0) + 0) + 0) + 0), ((1 * ((1 * r 11 + 0) + 0) + 0) + 0), ((1 * ((1 * r 1 + 0) + 0) + 0) + 0), ((1 * ((1 * r 2 + 0) + 0) + 0) + 0), ((1 * ((1 * r 3 + 0) + 0) + 0) + 0), ((1 * ((1 * r 4 + 0) + 0) + 0) + 0)) (((1 * ((1 * r 15 + 0) + 0) + 0) + 0), ((1 * ((1 * r 16 + 0) + 0) + 0) + 0), ((1 * ((1 * r 17 + 0) + 0) + 0) + 0), ((1 * ((1 * r 18 + 0) + 0) + 0) + 0), ((1 * ((1 * r 19 + 0) + 0) + 0) + 0)) (((1 * ((1 * r 10 + 0) + 0) + 0) + 0), ((1 * ((1 * r 11 + 0) + 0) + 0) + 0), ((1 * ((1 * r 1 + 0) + 0) + 0) + 0), ((1 * ((1 * r 2 + 0) + 0) + 0) + 0), ((1 * ((1 * r 3 + 0) + 0) + 0) + 0), ((1 * ((1 * r 4 + 0) + 0) + 0) + 0)))
  try simp only [Int.one_mul, Int.zero_add, Int.add_zero]
  refine ⟨?_, ?_⟩
  · try simp only [Int.one_mul, Int.zero_add, Int.add_zero] at hG
    obtain ⟨h1, h2, h3, h4⟩ := hG
    exact Or.inr ⟨h1, rfl, fun b => absurd h2 b, fun _ => ye_I_m h3 (fun p q _ _ _ => Or.inl (by omega))⟩
  · have h1 := hG.1
    try simp only [Int.one_mul, Int.zero_add, Int.add_zero] at h1
    exact Or.inr ⟨h1, fun z => absurd z (by dsimp only; omega)⟩
theorem xw_90_1_1 : yt_hold xT_90 xk_90 xq_90.2.2.1 xG_90 xP_90 xU_90 20 ((xq_90.2.2.1.getD 0 (0, ([], [], ([], []), [], [], ([], 0)), [], false)).2.1.2.2.1.2) (xG_90 0) (1000, ([(0, 1), ((-9223372036854775808), 9223372036854775807), ((-9223372036854775808), 9223372036854775807), ((-9223372036854775808), 9223372036854775807), (0, 40), ((-2147483648), 2147483647), ((-600), 600), ((-600), 600), ((-1000000), 1000000), ((-1000000), 1000000), ((-9223372036854775808), 9223372036854775807), ((-9223372036854775808), 9223372036854775807), (2, 40), ((-2147483648), 2147483647), (2, 40), (1, 1), ((-600), 600), ((-600), 600), ((-1000000), 1000000), ((-1000000), 1000000), ((-1200), 4000), ((-1200), 1200), ((-2000000), 2000000), (0, 40), ((-9223372036854775808), 9223372036854775807), ((-9223372036854775808), 9223372036854775807)], [([(12, (-1)), (14, 1)], 0), ([(12, 1)], (-2))]), [([(15, 1)], 0), ([(20, 1)], 0), ([(21, 1)], 0), ([(22, 1)], 0), ([(23, 1)], 0), ([(13, 1)], 0), ([(16, 1)], 0), ([(17, 1)], 0), ([(18, 1)], 0), ([(19, 1)], 0), ([(24, 1)], 0), ([(25, 1)], 0)], [], [.inr (.inr (.inl (315, 0, [([(15, 1)], 0), ([(1, 1)], 0), ([(2, 1)], 0), ([(3, 1)], 0), ([(4, 1)], 0), ([(13, 1)], 0), ([(16, 1)], 0), ([(17, 1)], 0), ([(18, 1)], 0), ([(19, 1)], 0), ([(10, 1)], 0), ([(11, 1)], 0), ([(12, 1)], 0), ([(13, 1)], 0), ([(20, 1)], 0), ([(21, 1)], 0), ([(22, 1)], 0), ([(23, 1)], 0), ([(24, 1)], 0), ([(25, 1)], 0)], [0, 1, 2, 3, 4, 5, 6], [])))]) := by
  intro g0 r gi g hok hh hars hfr hG
  have b0 : 0 ≤ r 0 ∧ r 0 ≤ 1 := hok.1 0 (0, 1) rfl
  have b5 : (-2147483648) ≤ r 5 ∧ r 5 ≤ 2147483647 := hok.1 5 ((-2147483648), 2147483647) rfl
  have b6 : (-600) ≤ r 6 ∧ r 6 ≤ 600 := hok.1 6 ((-600), 600) rfl
  have b7 : (-600) ≤ r 7 ∧ r 7 ≤ 600 := hok.1 7 ((-600), 600) rfl
  have b8 : (-1000000) ≤ r 8 ∧ r 8 ≤ 1000000 := hok.1 8 ((-1000000), 1000000) rfl
  have b9 : (-1000000) ≤ r 9 ∧ r 9 ≤ 1000000 := hok.1 9 ((-1000000), 1000000) rfl
  have b12 : 2 ≤ r 12 ∧ r 12 ≤ 40 := hok.1 12 (2, 40) rfl
  have b13 : (-2147483648) ≤ r 13 ∧ r 13 ≤ 2147483647 := hok.1 13 ((-2147483648), 2147483647) rfl
  have b14 : 2 ≤ r 14 ∧ r 14 ≤ 40 := hok.1 14 (2, 40) rfl
  have b15 : 1 ≤ r 15 ∧ r 15 ≤ 1 := hok.1 15 (1, 1) rfl
  have b16 : (-600) ≤ r 16 ∧ r 16 ≤ 600 := hok.1 16 ((-600), 600) rfl
  have b17 : (-600) ≤ r 17 ∧ r 17 ≤ 600 := hok.1 17 ((-600), 600) rfl
  have b18 : (-1000000) ≤ r 18 ∧ r 18 ≤ 1000000 := hok.1 18 ((-1000000), 1000000) rfl
  have b19 : (-1000000) ≤ r 19 ∧ r 19 ≤ 1000000 := hok.1 19 ((-1000000), 1000000) rfl
  have b20 : (-1200) ≤ r 20 ∧ r 20 ≤ 4000 := hok.1 20 ((-1200), 4000) rfl
  have b21 : (-1200) ≤ r 21 ∧ r 21 ≤ 1200 := hok.1 21 ((-1200), 1200) rfl
  have b22 : (-2000000) ≤ r 22 ∧ r 22 ≤ 2000000 := hok.1 22 ((-2000000), 2000000) rfl
  have b23 : 0 ≤ r 23 ∧ r 23 ≤ 40 := hok.1 23 (0, 40) rfl
  have b24 : (-9223372036854775808) ≤ r 24 ∧ r 24 ≤ 9223372036854775807 := hok.1 24 ((-9223372036854775808), 9223372036854775807) rfl
  have b25 : (-9223372036854775808) ≤ r 25 ∧ r 25 ≤ 9223372036854775807 := hok.1 25 ((-9223372036854775808), 9223372036854775807) rfl
  have f0 : 0 ≤ (((-1) * r 12 + (1 * r 14 + 0)) + 0) := hok.2 _ (List.mem_of_getElem? (i := 0) rfl)
  have f1 : 0 ≤ ((1 * r 12 + 0) + (-2)) := hok.2 _ (List.mem_of_getElem? (i := 1) rfl)
  have hG : ((1 * (r 5) + 0) + 0) ≠ ((1 * (r 13) + 0) + 0) ∧ ye_bo (g0 5) (((1 * (r 12) + 0) + 0)).toNat ∧ ye_I (g0 3) (g0 4) (g0 5) (((1 * (r 12) + 0) + 0)).toNat (((1 * (r 14) + 0) + 0)).toNat 0 (((1 * (r 15) + 0) + 0), ((1 * (r 16) + 0) + 0), ((1 * (r 17) + 0) + 0), ((1 * (r 18) + 0) + 0), ((1 * (r 19) + 0) + 0)) ∧ ((1 * (r 14) + 0) + 0) ≤ ((1 * (r 12) + 0) + 0) := hG
  obtain ⟨h0, hh, e0, k0⟩ := hh
  have k0 : ∀ j, j ∉ [] → g j = h0 j := k0
  have e0 : ((1 * ((1 * r 24 + 0) + 0) + 0) + 0) = ye_wd (h0 3) (h0 4) (((1 * ((1 * r 12 + 0) + 0) + 0) + 0)).toNat ((1 * ((1 * r 16 + 0) + 0) + 0) + 0) ((1 * ((1 * r 17 + 0) + 0) + 0) + 0) ((1 * ((1 * r 18 + 0) + 0) + 0) + 0) ((1 * ((1 * r 19 + 0) + 0) + 0) + 0) 0 ∧ ((1 * ((1 * r 25 + 0) + 0) + 0) + 0) = ye_wd (h0 3) (h0 4) (((1 * ((1 * r 12 + 0) + 0) + 0) + 0)).toNat ((1 * ((1 * r 16 + 0) + 0) + 0) + 0) ((1 * ((1 * r 17 + 0) + 0) + 0) + 0) ((1 * ((1 * r 18 + 0) + 0) + 0) + 0) ((1 * ((1 * r 19 + 0) + 0) + 0) + 0) 1 ∧ ((1 * ((1 * r 20 + 0) + 0) + 0) + 0) = ye_wd (h0 3) (h0 4) (((1 * ((1 * r 12 + 0) + 0) + 0) + 0)).toNat ((1 * ((1 * r 16 + 0) + 0) + 0) + 0) ((1 * ((1 * r 17 + 0) + 0) + 0) + 0) ((1 * ((1 * r 18 + 0) + 0) + 0) + 0) ((1 * ((1 * r 19 + 0) + 0) + 0) + 0) 2 ∧ ((1 * ((1 * r 21 + 0) + 0) + 0) + 0) = ye_wd (h0 3) (h0 4) (((1 * ((1 * r 12 + 0) + 0) + 0) + 0)).toNat ((1 * ((1 * r 16 + 0) + 0) + 0) + 0) ((1 * ((1 * r 17 + 0) + 0) + 0) + 0) ((1 * ((1 * r 18 + 0) + 0) + 0) + 0) ((1 * ((1 * r 19 + 0) + 0) + 0) + 0) 3 ∧ ((1 * ((1 * r 22 + 0) + 0) + 0) + 0) = ye_wd (h0 3) (h0 4) (((1 * ((1 * r 12 + 0) + 0) + 0) + 0)).toNat ((1 * ((1 * r 16 + 0) + 0) + 0) + 0) ((1 * ((1 * r 17 + 0) + 0) + 0) + 0) ((1 * ((1 * r 18 + 0) + 0) + 0) + 0) ((1 * ((1 * r 19 + 0) + 0) + 0) + 0) 4 ∧ ((1 * ((1 * r 23 + 0) + 0) + 0) + 0) = ye_wd (h0 3) (h0 4) (((1 * ((1 * r 12 + 0) + 0) + 0) + 0)).toNat ((1 * ((1 * r 16 + 0) + 0) + 0) + 0) ((1 * ((1 * r 17 + 0) + 0) + 0) + 0) ((1 * ((1 * r 18 + 0) + 0) + 0) + 0) ((1 * ((1 * r 19 + 0) + 0) + 0) + 0) 5 := e0
  have hh : h0 = gi := hh
  subst hh
  have hG : ((1 * (r 5) + 0) + 0) ≠ ((1 * (r 13) + 0) + 0) ∧ ye_bo (g0 5) (((1 * (r 12) + 0) + 0)).toNat ∧ ye_I (g0 3) (g0 4) (g0 5) (((1 * (r 12) + 0) + 0)).toNat (((1 * (r 14) + 0) + 0)).toNat 0 (((1 * (r 15) + 0) + 0), ((1 * (r 16) + 0) + 0), ((1 * (r 17) + 0) + 0), ((1 * (r 18) + 0) + 0), ((1 * (r 19) + 0) + 0)) ∧ ((1 * (r 14) + 0) + 0) ≤ ((1 * (r 12) + 0) + 0) := hG
  refine yt_dalt (by decide) (by decide) ?_
  rw [show xk_90.2.1.2.1.1.length = 14 from rfl]
  show (ye_fd (g0 3) (g0 4) (g0 5) (((1 * ((1 * r 12 + 0) + 0) + 0) + 0)).toNat ((1 * ((1 * r 13 + 0) + 0) + 0) + 0) ((1 * ((1 * r 5 + 0) + 0) + 0) + 0) (((1 * ((1 * r 0 + 0) + 0) + 0) + 0), ((1 * ((1 * r 6 + 0) + 0) + 0) + 0), ((1 * ((1 * r 7 + 0) + 0) + 0) + 0), ((1 * ((1 * r 8 + 0) + 0) + 0) + 0), ((1 * ((1 * r 9 + 0) + 0) + 0) + 0)) ((1 * ((1 * r 13 + 0) + 0) + 0) + 0) (((1 * ((1 * r 15 + 0) + 0) + 0) + 0), ((1 * ((1 * r 16 + 0) + 0) + 0) + 0), ((1 * ((1 * r 17 + 0) + 0) + 0) + 0), ((1 * ((1 * r 18 + 0) + 0) + 0) + 0), ((1 * ((1 * r 19 + 0) + 0) + 0) + 0)) ∧ ye_fo (g0 3) (g0 4) (((1 * ((1 * r 12 + 0) + 0) + 0) + 0)).toNat ((1 * ((1 * r 13 + 0) + 0) + 0) + 0) ((1 * ((1 * r 5 + 0) + 0) + 0) + 0) (((1 * ((1 * r 10 + 0) + 0) + 0) + 0), ((1 * ((1 * r 11 + 0) + 0) + 0) + 0), ((1 * ((1 * r 1 + 0) + 0) + 0) + 0), ((1 * ((1 * r 2 + 0) + 0) + 0) + 0), ((1 * ((1 * r 3 + 0) + 0) + 0) + 0), ((1 * ((1 * r 4 + 0) + 0) + 0) + 0)) (((1 * ((1 * r 15 + 0) + 0) + 0) + 0), ((1 * ((1 * r 16 + 0) + 0) + 0) + 0), ((1 * ((1 * r 17 + 0) + 0) + 0) + 0), ((1 * ((1 * r 18 + 0) + 0) + 0) + 0), ((1 * ((1 * r 19 + 0) + 0) + 0) + 0)) (((1 * ((1 * r 24 + 0) + 0) + 0) + 0), ((1 * ((1 * r 25 + 0) + 0) + 0) + 0), ((1 * ((1 * r 20 + 0) + 0) + 0) + 0), ((1 * ((1 * r 21 + 0) + 0) + 0) + 0), ((1 * ((1 * r 22 + 0) + 0) + 0) + 0), ((1 * ((1 * r 23 + 0) + 0) + 0) + 0)))
  try simp only [Int.one_mul, Int.zero_add, Int.add_zero]
  refine ⟨?_, ?_⟩
  · try simp only [Int.one_mul, Int.zero_add, Int.add_zero] at hG
    obtain ⟨h1, h2, h3, h4⟩ := hG
    exact Or.inr ⟨h1, rfl, fun b => absurd h2 b, fun _ => ye_I_m h3 (fun p q _ _ _ => Or.inl (by omega))⟩
  · have h1 := hG.1
    try simp only [Int.one_mul, Int.zero_add, Int.add_zero] at h1
    try simp only [Int.one_mul, Int.zero_add, Int.add_zero] at e0
    rw [hfr 3 (by decide), hfr 4 (by decide)] at e0
    obtain ⟨q0, q1, q2, q3, q4, q5⟩ := e0
    exact Or.inr ⟨h1, fun _ => ⟨q0, q1, q2, q3, q4, q5⟩⟩
theorem xw_90_1_2 : yt_hold xT_90 xk_90 xq_90.2.2.1 xG_90 xP_90 xU_90 20 ((xq_90.2.2.1.getD 0 (0, ([], [], ([], []), [], [], ([], 0)), [], false)).2.1.2.2.1.2) (xG_90 0) (1, ([(0, 1), ((-9223372036854775808), 9223372036854775807), ((-9223372036854775808), 9223372036854775807), ((-9223372036854775808), 9223372036854775807), (0, 40), ((-2147483648), 2147483647), ((-600), 600), ((-600), 600), ((-1000000), 1000000), ((-1000000), 1000000), ((-9223372036854775808), 9223372036854775807), ((-9223372036854775808), 9223372036854775807), (2, 40), ((-2147483648), 2147483647), (0, 39), (0, 1), ((-600), 600), ((-600), 600), ((-1000000), 1000000), ((-1000000), 1000000)], [([(12, 1), (14, (-1))], (-1)), ([(12, 1)], (-2))]), [([(14, 1)], 0), ([(14, 1)], 1), ([(15, 1)], 0), ([(16, 1)], 0), ([(17, 1)], 0), ([(18, 1)], 0), ([(19, 1)], 0)], [], []) := by
  intro g0 r gi g hok hh hars hfr hG
  have b0 : 0 ≤ r 0 ∧ r 0 ≤ 1 := hok.1 0 (0, 1) rfl
  have b5 : (-2147483648) ≤ r 5 ∧ r 5 ≤ 2147483647 := hok.1 5 ((-2147483648), 2147483647) rfl
  have b6 : (-600) ≤ r 6 ∧ r 6 ≤ 600 := hok.1 6 ((-600), 600) rfl
  have b7 : (-600) ≤ r 7 ∧ r 7 ≤ 600 := hok.1 7 ((-600), 600) rfl
  have b8 : (-1000000) ≤ r 8 ∧ r 8 ≤ 1000000 := hok.1 8 ((-1000000), 1000000) rfl
  have b9 : (-1000000) ≤ r 9 ∧ r 9 ≤ 1000000 := hok.1 9 ((-1000000), 1000000) rfl
  have b12 : 2 ≤ r 12 ∧ r 12 ≤ 40 := hok.1 12 (2, 40) rfl
  have b13 : (-2147483648) ≤ r 13 ∧ r 13 ≤ 2147483647 := hok.1 13 ((-2147483648), 2147483647) rfl
  have b14 : 0 ≤ r 14 ∧ r 14 ≤ 39 := hok.1 14 (0, 39) rfl
  have b15 : 0 ≤ r 15 ∧ r 15 ≤ 1 := hok.1 15 (0, 1) rfl
  have b16 : (-600) ≤ r 16 ∧ r 16 ≤ 600 := hok.1 16 ((-600), 600) rfl
  have b17 : (-600) ≤ r 17 ∧ r 17 ≤ 600 := hok.1 17 ((-600), 600) rfl
  have b18 : (-1000000) ≤ r 18 ∧ r 18 ≤ 1000000 := hok.1 18 ((-1000000), 1000000) rfl
  have b19 : (-1000000) ≤ r 19 ∧ r 19 ≤ 1000000 := hok.1 19 ((-1000000), 1000000) rfl
  have f0 : 0 ≤ ((1 * r 12 + ((-1) * r 14 + 0)) + (-1)) := hok.2 _ (List.mem_of_getElem? (i := 0) rfl)
  have f1 : 0 ≤ ((1 * r 12 + 0) + (-2)) := hok.2 _ (List.mem_of_getElem? (i := 1) rfl)
  have hG : ((1 * (r 5) + 0) + 0) ≠ ((1 * (r 13) + 0) + 0) ∧ ye_bo (g0 5) (((1 * (r 12) + 0) + 0)).toNat ∧ ye_I (g0 3) (g0 4) (g0 5) (((1 * (r 12) + 0) + 0)).toNat (((1 * (r 14) + 0) + 0)).toNat 0 (((1 * (r 15) + 0) + 0), ((1 * (r 16) + 0) + 0), ((1 * (r 17) + 0) + 0), ((1 * (r 18) + 0) + 0), ((1 * (r 19) + 0) + 0)) ∧ ((1 * (r 14) + 0) + 0) ≤ ((1 * (r 12) + 0) + 0) := hG
  have hh : g = gi := hh
  subst hh
  have hG : ((1 * (r 5) + 0) + 0) ≠ ((1 * (r 13) + 0) + 0) ∧ ye_bo (g0 5) (((1 * (r 12) + 0) + 0)).toNat ∧ ye_I (g0 3) (g0 4) (g0 5) (((1 * (r 12) + 0) + 0)).toNat (((1 * (r 14) + 0) + 0)).toNat 0 (((1 * (r 15) + 0) + 0), ((1 * (r 16) + 0) + 0), ((1 * (r 17) + 0) + 0), ((1 * (r 18) + 0) + 0), ((1 * (r 19) + 0) + 0)) ∧ ((1 * (r 14) + 0) + 0) ≤ ((1 * (r 12) + 0) + 0) := hG
  refine yt_dcut (by decide) rfl ?_ ?_
  · exact fun f hf => absurd hf List.not_mem_nil
  · rw [show xk_90.2.1.2.1.1.length = 14 from rfl]
    show ((1 * ((1 * r 5 + 0) + 0) + 0) + 0) ≠ ((1 * ((1 * r 13 + 0) + 0) + 0) + 0) ∧ ye_bo (g0 5) (((1 * ((1 * r 12 + 0) + 0) + 0) + 0)).toNat ∧ ye_I (g0 3) (g0 4) (g0 5) (((1 * ((1 * r 12 + 0) + 0) + 0) + 0)).toNat (((1 * ((1 * r 14 + 0) + 0) + 0) + 0)).toNat (((1 * ((1 * r 14 + 0) + 1) + 0) + 0)).toNat (((1 * ((1 * r 15 + 0) + 0) + 0) + 0), ((1 * ((1 * r 16 + 0) + 0) + 0) + 0), ((1 * ((1 * r 17 + 0) + 0) + 0) + 0), ((1 * ((1 * r 18 + 0) + 0) + 0) + 0), ((1 * ((1 * r 19 + 0) + 0) + 0) + 0)) ∧ ((1 * ((1 * r 14 + 0) + 0) + 0) + 0) + 1 ≤ ((1 * ((1 * r 14 + 0) + 1) + 0) + 0) ∧ ((1 * ((1 * r 14 + 0) + 1) + 0) + 0) ≤ ((1 * ((1 * r 12 + 0) + 0) + 0) + 0)
    try simp only [Int.one_mul, Int.zero_add, Int.add_zero]
    try simp only [Int.one_mul, Int.zero_add, Int.add_zero] at hG
    obtain ⟨h1, h2, h3, h4⟩ := hG
    exact ⟨h1, h2, ye_I_m h3 (fun p q _ _ _ => by omega), by omega, by omega⟩
theorem xw_90_2_0 : yt_hold xT_90 xk_90 xq_90.2.2.1 xG_90 xP_90 xU_90 21 ((xq_90.2.2.1.getD 1 (0, ([], [], ([], []), [], [], ([], 0)), [], false)).2.1.2.2.1.2) (xG_90 1) (0, ([(0, 1), ((-9223372036854775808), 9223372036854775807), ((-9223372036854775808), 9223372036854775807), ((-9223372036854775808), 9223372036854775807), (0, 40), ((-2147483648), 2147483647), ((-600), 600), ((-600), 600), ((-1000000), 1000000), ((-1000000), 1000000), ((-9223372036854775808), 9223372036854775807), ((-9223372036854775808), 9223372036854775807), (2, 40), ((-2147483648), 2147483647), (0, 39), (2, 40), (0, 1), ((-600), 600), ((-600), 600), ((-1000000), 1000000), ((-1000000), 1000000)], [([(12, (-1)), (15, 1)], 0), ([(12, 1)], (-2))]), [([(14, 1)], 1), ([(16, 1)], 0), ([(17, 1)], 0), ([(18, 1)], 0), ([(19, 1)], 0), ([(20, 1)], 0)], [], []) := by
  intro g0 r gi g hok hh hars hfr hG
  have b0 : 0 ≤ r 0 ∧ r 0 ≤ 1 := hok.1 0 (0, 1) rfl
  have b5 : (-2147483648) ≤ r 5 ∧ r 5 ≤ 2147483647 := hok.1 5 ((-2147483648), 2147483647) rfl
  have b6 : (-600) ≤ r 6 ∧ r 6 ≤ 600 := hok.1 6 ((-600), 600) rfl
  have b7 : (-600) ≤ r 7 ∧ r 7 ≤ 600 := hok.1 7 ((-600), 600) rfl
  have b8 : (-1000000) ≤ r 8 ∧ r 8 ≤ 1000000 := hok.1 8 ((-1000000), 1000000) rfl
  have b9 : (-1000000) ≤ r 9 ∧ r 9 ≤ 1000000 := hok.1 9 ((-1000000), 1000000) rfl
  have b12 : 2 ≤ r 12 ∧ r 12 ≤ 40 := hok.1 12 (2, 40) rfl
  have b13 : (-2147483648) ≤ r 13 ∧ r 13 ≤ 2147483647 := hok.1 13 ((-2147483648), 2147483647) rfl
  have b14 : 0 ≤ r 14 ∧ r 14 ≤ 39 := hok.1 14 (0, 39) rfl
  have b15 : 2 ≤ r 15 ∧ r 15 ≤ 40 := hok.1 15 (2, 40) rfl
  have b16 : 0 ≤ r 16 ∧ r 16 ≤ 1 := hok.1 16 (0, 1) rfl
  have b17 : (-600) ≤ r 17 ∧ r 17 ≤ 600 := hok.1 17 ((-600), 600) rfl
  have b18 : (-600) ≤ r 18 ∧ r 18 ≤ 600 := hok.1 18 ((-600), 600) rfl
  have b19 : (-1000000) ≤ r 19 ∧ r 19 ≤ 1000000 := hok.1 19 ((-1000000), 1000000) rfl
  have b20 : (-1000000) ≤ r 20 ∧ r 20 ≤ 1000000 := hok.1 20 ((-1000000), 1000000) rfl
  have f0 : 0 ≤ (((-1) * r 12 + (1 * r 15 + 0)) + 0) := hok.2 _ (List.mem_of_getElem? (i := 0) rfl)
  have f1 : 0 ≤ ((1 * r 12 + 0) + (-2)) := hok.2 _ (List.mem_of_getElem? (i := 1) rfl)
  have hG : ((1 * (r 5) + 0) + 0) ≠ ((1 * (r 13) + 0) + 0) ∧ ye_bo (g0 5) (((1 * (r 12) + 0) + 0)).toNat ∧ ye_I (g0 3) (g0 4) (g0 5) (((1 * (r 12) + 0) + 0)).toNat (((1 * (r 14) + 0) + 0)).toNat (((1 * (r 15) + 0) + 0)).toNat (((1 * (r 16) + 0) + 0), ((1 * (r 17) + 0) + 0), ((1 * (r 18) + 0) + 0), ((1 * (r 19) + 0) + 0), ((1 * (r 20) + 0) + 0)) ∧ ((1 * (r 14) + 0) + 0) + 1 ≤ ((1 * (r 15) + 0) + 0) ∧ ((1 * (r 15) + 0) + 0) ≤ ((1 * (r 12) + 0) + 0) := hG
  have hh : g = gi := hh
  subst hh
  have hG : ((1 * (r 5) + 0) + 0) ≠ ((1 * (r 13) + 0) + 0) ∧ ye_bo (g0 5) (((1 * (r 12) + 0) + 0)).toNat ∧ ye_I (g0 3) (g0 4) (g0 5) (((1 * (r 12) + 0) + 0)).toNat (((1 * (r 14) + 0) + 0)).toNat (((1 * (r 15) + 0) + 0)).toNat (((1 * (r 16) + 0) + 0), ((1 * (r 17) + 0) + 0), ((1 * (r 18) + 0) + 0), ((1 * (r 19) + 0) + 0), ((1 * (r 20) + 0) + 0)) ∧ ((1 * (r 14) + 0) + 0) + 1 ≤ ((1 * (r 15) + 0) + 0) ∧ ((1 * (r 15) + 0) + 0) ≤ ((1 * (r 12) + 0) + 0) := hG
  refine yt_dcut (by decide) rfl ?_ ?_
  · exact fun f hf => absurd hf List.not_mem_nil
  · rw [show xk_90.2.1.2.1.1.length = 14 from rfl]
    show ((1 * ((1 * r 5 + 0) + 0) + 0) + 0) ≠ ((1 * ((1 * r 13 + 0) + 0) + 0) + 0) ∧ ye_bo (g0 5) (((1 * ((1 * r 12 + 0) + 0) + 0) + 0)).toNat ∧ ye_I (g0 3) (g0 4) (g0 5) (((1 * ((1 * r 12 + 0) + 0) + 0) + 0)).toNat (((1 * ((1 * r 14 + 0) + 1) + 0) + 0)).toNat 0 (((1 * ((1 * r 16 + 0) + 0) + 0) + 0), ((1 * ((1 * r 17 + 0) + 0) + 0) + 0), ((1 * ((1 * r 18 + 0) + 0) + 0) + 0), ((1 * ((1 * r 19 + 0) + 0) + 0) + 0), ((1 * ((1 * r 20 + 0) + 0) + 0) + 0)) ∧ ((1 * ((1 * r 14 + 0) + 1) + 0) + 0) ≤ ((1 * ((1 * r 12 + 0) + 0) + 0) + 0)
    try simp only [Int.one_mul, Int.zero_add, Int.add_zero]
    try simp only [Int.one_mul, Int.zero_add, Int.add_zero] at hG
    obtain ⟨h1, h2, h3, h4, h5⟩ := hG
    exact ⟨h1, h2, ye_I_m h3 (fun p q _ _ _ => by omega), by omega⟩
theorem xw_90_2_1 : yt_hold xT_90 xk_90 xq_90.2.2.1 xG_90 xP_90 xU_90 21 ((xq_90.2.2.1.getD 1 (0, ([], [], ([], []), [], [], ([], 0)), [], false)).2.1.2.2.1.2) (xG_90 1) (1, ([(0, 1), ((-9223372036854775808), 9223372036854775807), ((-9223372036854775808), 9223372036854775807), ((-9223372036854775808), 9223372036854775807), (0, 40), ((-2147483648), 2147483647), ((-600), 600), ((-600), 600), ((-1000000), 1000000), ((-1000000), 1000000), ((-9223372036854775808), 9223372036854775807), ((-9223372036854775808), 9223372036854775807), (2, 40), ((-2147483648), 2147483647), (0, 39), (1, 39), (0, 1), ((-600), 600), ((-600), 600), ((-1000000), 1000000), ((-1000000), 1000000), (0, 1), ((-600), 600), ((-600), 600), ((-1000000), 1000000), ((-1000000), 1000000)], [([(12, 1), (15, (-1))], (-1)), ([(12, 1)], (-2))]), [([(14, 1)], 0), ([(15, 1)], 1), ([(21, 1)], 0), ([(22, 1)], 0), ([(23, 1)], 0), ([(24, 1)], 0), ([(25, 1)], 0)], [], [.inr (.inr (.inl (303, 0, [([(14, 1)], 0), ([(15, 1)], 0), ([(16, 1)], 0), ([(1, 1)], 0), ([(2, 1)], 0), ([(3, 1)], 0), ([(4, 1)], 0), ([(13, 1)], 0), ([(17, 1)], 0), ([(18, 1)], 0), ([(19, 1)], 0), ([(20, 1)], 0), ([(12, 1)], 0), ([(13, 1)], 0), ([(21, 1)], 0), ([(22, 1)], 0), ([(23, 1)], 0), ([(24, 1)], 0), ([(25, 1)], 0)], [0, 2, 3, 4, 5, 1, 6], [])))]) := by
  intro g0 r gi g hok hh hars hfr hG
  have b0 : 0 ≤ r 0 ∧ r 0 ≤ 1 := hok.1 0 (0, 1) rfl
  have b5 : (-2147483648) ≤ r 5 ∧ r 5 ≤ 2147483647 := hok.1 5 ((-2147483648), 2147483647) rfl
  have b6 : (-600) ≤ r 6 ∧ r 6 ≤ 600 := hok.1 6 ((-600), 600) rfl
  have b7 : (-600) ≤ r 7 ∧ r 7 ≤ 600 := hok.1 7 ((-600), 600) rfl
  have b8 : (-1000000) ≤ r 8 ∧ r 8 ≤ 1000000 := hok.1 8 ((-1000000), 1000000) rfl
  have b9 : (-1000000) ≤ r 9 ∧ r 9 ≤ 1000000 := hok.1 9 ((-1000000), 1000000) rfl
  have b12 : 2 ≤ r 12 ∧ r 12 ≤ 40 := hok.1 12 (2, 40) rfl
  have b13 : (-2147483648) ≤ r 13 ∧ r 13 ≤ 2147483647 := hok.1 13 ((-2147483648), 2147483647) rfl
  have b14 : 0 ≤ r 14 ∧ r 14 ≤ 39 := hok.1 14 (0, 39) rfl
  have b15 : 1 ≤ r 15 ∧ r 15 ≤ 39 := hok.1 15 (1, 39) rfl
  have b16 : 0 ≤ r 16 ∧ r 16 ≤ 1 := hok.1 16 (0, 1) rfl
  have b17 : (-600) ≤ r 17 ∧ r 17 ≤ 600 := hok.1 17 ((-600), 600) rfl
  have b18 : (-600) ≤ r 18 ∧ r 18 ≤ 600 := hok.1 18 ((-600), 600) rfl
  have b19 : (-1000000) ≤ r 19 ∧ r 19 ≤ 1000000 := hok.1 19 ((-1000000), 1000000) rfl
  have b20 : (-1000000) ≤ r 20 ∧ r 20 ≤ 1000000 := hok.1 20 ((-1000000), 1000000) rfl
  have b21 : 0 ≤ r 21 ∧ r 21 ≤ 1 := hok.1 21 (0, 1) rfl
  have b22 : (-600) ≤ r 22 ∧ r 22 ≤ 600 := hok.1 22 ((-600), 600) rfl
  have b23 : (-600) ≤ r 23 ∧ r 23 ≤ 600 := hok.1 23 ((-600), 600) rfl
  have b24 : (-1000000) ≤ r 24 ∧ r 24 ≤ 1000000 := hok.1 24 ((-1000000), 1000000) rfl
  have b25 : (-1000000) ≤ r 25 ∧ r 25 ≤ 1000000 := hok.1 25 ((-1000000), 1000000) rfl
  have f0 : 0 ≤ ((1 * r 12 + ((-1) * r 15 + 0)) + (-1)) := hok.2 _ (List.mem_of_getElem? (i := 0) rfl)
  have f1 : 0 ≤ ((1 * r 12 + 0) + (-2)) := hok.2 _ (List.mem_of_getElem? (i := 1) rfl)
  have hG : ((1 * (r 5) + 0) + 0) ≠ ((1 * (r 13) + 0) + 0) ∧ ye_bo (g0 5) (((1 * (r 12) + 0) + 0)).toNat ∧ ye_I (g0 3) (g0 4) (g0 5) (((1 * (r 12) + 0) + 0)).toNat (((1 * (r 14) + 0) + 0)).toNat (((1 * (r 15) + 0) + 0)).toNat (((1 * (r 16) + 0) + 0), ((1 * (r 17) + 0) + 0), ((1 * (r 18) + 0) + 0), ((1 * (r 19) + 0) + 0), ((1 * (r 20) + 0) + 0)) ∧ ((1 * (r 14) + 0) + 0) + 1 ≤ ((1 * (r 15) + 0) + 0) ∧ ((1 * (r 15) + 0) + 0) ≤ ((1 * (r 12) + 0) + 0) := hG
  obtain ⟨h0, hh, e0, k0⟩ := hh
  have k0 : ∀ j, j ∉ [] → g j = h0 j := k0
  have e0 : (((1 * ((1 * r 21 + 0) + 0) + 0) + 0), ((1 * ((1 * r 22 + 0) + 0) + 0) + 0), ((1 * ((1 * r 23 + 0) + 0) + 0) + 0), ((1 * ((1 * r 24 + 0) + 0) + 0) + 0), ((1 * ((1 * r 25 + 0) + 0) + 0) + 0)) = ye_pair (h0 3) (h0 4) (h0 5) (((1 * ((1 * r 12 + 0) + 0) + 0) + 0)).toNat (((1 * r 14 + 0) + 0)).toNat (((1 * r 15 + 0) + 0)).toNat (((1 * ((1 * r 16 + 0) + 0) + 0) + 0), ((1 * ((1 * r 17 + 0) + 0) + 0) + 0), ((1 * ((1 * r 18 + 0) + 0) + 0) + 0), ((1 * ((1 * r 19 + 0) + 0) + 0) + 0), ((1 * ((1 * r 20 + 0) + 0) + 0) + 0)) := e0
  have hh : h0 = gi := hh
  subst hh
  have hG : ((1 * (r 5) + 0) + 0) ≠ ((1 * (r 13) + 0) + 0) ∧ ye_bo (g0 5) (((1 * (r 12) + 0) + 0)).toNat ∧ ye_I (g0 3) (g0 4) (g0 5) (((1 * (r 12) + 0) + 0)).toNat (((1 * (r 14) + 0) + 0)).toNat (((1 * (r 15) + 0) + 0)).toNat (((1 * (r 16) + 0) + 0), ((1 * (r 17) + 0) + 0), ((1 * (r 18) + 0) + 0), ((1 * (r 19) + 0) + 0), ((1 * (r 20) + 0) + 0)) ∧ ((1 * (r 14) + 0) + 0) + 1 ≤ ((1 * (r 15) + 0) + 0) ∧ ((1 * (r 15) + 0) + 0) ≤ ((1 * (r 12) + 0) + 0) := hG
  refine yt_dcut (by decide) rfl ?_ ?_
  · exact fun f hf => absurd hf List.not_mem_nil
  · rw [show xk_90.2.1.2.1.1.length = 14 from rfl]
    show ((1 * ((1 * r 5 + 0) + 0) + 0) + 0) ≠ ((1 * ((1 * r 13 + 0) + 0) + 0) + 0) ∧ ye_bo (g0 5) (((1 * ((1 * r 12 + 0) + 0) + 0) + 0)).toNat ∧ ye_I (g0 3) (g0 4) (g0 5) (((1 * ((1 * r 12 + 0) + 0) + 0) + 0)).toNat (((1 * ((1 * r 14 + 0) + 0) + 0) + 0)).toNat (((1 * ((1 * r 15 + 0) + 1) + 0) + 0)).toNat (((1 * ((1 * r 21 + 0) + 0) + 0) + 0), ((1 * ((1 * r 22 + 0) + 0) + 0) + 0), ((1 * ((1 * r 23 + 0) + 0) + 0) + 0), ((1 * ((1 * r 24 + 0) + 0) + 0) + 0), ((1 * ((1 * r 25 + 0) + 0) + 0) + 0)) ∧ ((1 * ((1 * r 14 + 0) + 0) + 0) + 0) + 1 ≤ ((1 * ((1 * r 15 + 0) + 1) + 0) + 0) ∧ ((1 * ((1 * r 15 + 0) + 1) + 0) + 0) ≤ ((1 * ((1 * r 12 + 0) + 0) + 0) + 0)
    try simp only [Int.one_mul, Int.zero_add, Int.add_zero]
    try simp only [Int.one_mul, Int.zero_add, Int.add_zero] at hG
    obtain ⟨h1, h2, h3, h4, h5⟩ := hG
    try simp only [Int.one_mul, Int.zero_add, Int.add_zero] at e0
    rw [hfr 3 (by decide), hfr 4 (by decide), hfr 5 (by decide)] at e0
    rw [e0, show (r 15 + 1).toNat = (r 15).toNat + 1 by omega]
    exact ⟨h1, h2, ye_I_s h3, by omega, by omega⟩
theorem xn_90 : ∀ (j : Nat) (q : Nat × yt_T), xq_90.2.2.1[j]? = some q → q.2.2.2 = false → ∀ g0 r g, xG_90 j g0 r g
  | 0, q, hq, hf => by cases hq; cases hf
  | 1, q, hq, hf => by cases hq; cases hf
  | n + 2, q, hq, _ => by cases hq
theorem xs_90 : ∀ j, xq_90.2.2.2.getD j false = false → ∀ r g g', xP_90 j r g g'
  | 0, hf => by cases hf
  | n + 1, _ => fun _ _ _ => trivial
theorem xc_90 {l : Launch} {D : va_G} {cT : Nat → ClassId} {tys : List (ClassId × FieldType)} (hty : yx_Ty tys cT) : yt_Con l D vwCl cT tys yG yw_s55 xk_90 xR_90 xP_90 := yx_sem (calls := xa_90) (Z := xq_90) (tb := xT_90) (pt := xU_90) (Ga := xG_90) (vs := xv_90) (fun _ _ _ _ => trivial) 300 (by decide +kernel) yz_X10_find_ok hty (yl_lkX10 _) (yl_cqkX10 _) (List.forall_mem_cons.mpr ⟨⟨xc_81 hty, yg_CLv rfl rfl rfl yl_wX10_56 yd_yX6_hasBothColours, fun _ _ _ => trivial⟩, List.forall_mem_cons.mpr ⟨⟨xc_86 hty, yg_CLv rfl rfl rfl yl_wX10_67 yd_yX10_finish, fun _ _ _ => trivial⟩, List.forall_mem_cons.mpr ⟨⟨xc_89 hty, yg_CLv rfl rfl rfl yl_wX10_63 yd_yX10_tryPair, fun _ _ _ => trivial⟩, fun _ h => absurd h List.not_mem_nil⟩⟩⟩) (xn_90) (xs_90) (by decide +kernel) (List.forall_mem_cons.mpr ⟨xw_90_0_0, List.forall_mem_cons.mpr ⟨xw_90_0_1, List.forall_mem_cons.mpr ⟨xw_90_0_2, List.forall_mem_cons.mpr ⟨xw_90_0_3, List.forall_mem_cons.mpr ⟨xw_90_0_4, fun _ h => absurd h List.not_mem_nil⟩⟩⟩⟩⟩) (⟨List.forall_mem_cons.mpr ⟨xw_90_1_0, List.forall_mem_cons.mpr ⟨xw_90_1_1, List.forall_mem_cons.mpr ⟨xw_90_1_2, fun _ h => absurd h List.not_mem_nil⟩⟩⟩, ⟨List.forall_mem_cons.mpr ⟨xw_90_2_0, List.forall_mem_cons.mpr ⟨xw_90_2_1, fun _ h => absurd h List.not_mem_nil⟩⟩, trivial⟩⟩)
noncomputable def yw_s56 : List ys_C := [.inl 11, .inl 6, .inr (0, 40, []), .inr (0, 40, []), .inr (0, 40, []), .inl 10, .inl 1]
noncomputable def yw_f56 (n : Nat) : List (List ys_V) := [[.inr (some 1), .inr (some 8), .inr (some 9), .inr (some 10), .inr (some 11), .inr (some 12), .inr (some 13), .inr (some 14), .inr (some 5), .inr (some 15), .inr (some 16), .inr (some 17), .inr (some 18), .inr (some 19), .inl (.inl ([(n + 0, 1)], 0))], [.inr (some 2), .inr (some 3), .inr (some 4), .inr (some 7), .inl (.inl ([(n + 1, 1)], 0)), .inl (.inl ([(n + 2, 1)], 0))], [], [], [], [.inr (some 6), .inl (.inl ([(n + 3, 1)], 0)), .inl (.inr ([(n + 4, 1)], 0)), .inl (.inr ([(n + 5, 1)], 0)), .inl (.inr ([(n + 6, 1)], 0)), .inl (.inl ([(n + 7, 1)], 0)), .inl (.inl ([(n + 8, 1)], 0)), .inl (.inl ([(n + 9, 1)], 0)), .inl (.inl ([(n + 10, 1)], 0)), .inl (.inl ([(n + 11, 1)], 0)), .inl (.inl ([(n + 12, 1)], 0))], [.inl (.inr ([(n + 13, 1)], 0)), .inl (.inr ([(n + 14, 1)], 0))]]
noncomputable def yw_e56 : ys_E := [((-2147483648), 2147483647), (0, 40), ((-2147483648), 2147483647), (0, 1), ((-9223372036854775808), 9223372036854775807), ((-9223372036854775808), 9223372036854775807), ((-9223372036854775808), 9223372036854775807), (0, 40), ((-2147483648), 2147483647), ((-600), 600), ((-600), 600), ((-1000000), 1000000), ((-1000000), 1000000), ((-9223372036854775808), 9223372036854775807), ((-9223372036854775808), 9223372036854775807)]
noncomputable def yw_r56 : List ys_R := [((0, 0), []), ((0, 0), []), (((-300), 300), []), (((-300), 300), []), ((0, 1), []), ((0, 0), []), ((0, 0), [])]
noncomputable def xf_91 : ys_F := (yw_f56 0, yw_r56)
noncomputable def xk_91 : ys_K := (((yX11_areParted, cX11_areParted, 1, (some .boolean)), (5, 124)), ([.inr (some 0)], ([] ++ yw_e56, []), xf_91), ([([], [], (xf_91.1, xf_91.2), some (.inl (.inl ([], 1)))), ([(0, 1), (0, 1), ((-9223372036854775808), 9223372036854775807), ((-9223372036854775808), 9223372036854775807), ((-9223372036854775808), 9223372036854775807), (0, 40), ((-2147483648), 2147483647), ((-600), 600), ((-600), 600), ((-1000000), 1000000), ((-1000000), 1000000), ((-9223372036854775808), 9223372036854775807), ((-9223372036854775808), 9223372036854775807)], [([(1, 1)], (-2))], ((ys_fs xf_91.1 [(5, 1, .inl (.inl ([(16, 1)], 0))), (5, 2, .inl (.inr ([(17, 1)], 0))), (5, 3, .inl (.inr ([(18, 1)], 0))), (5, 4, .inl (.inr ([(19, 1)], 0))), (5, 5, .inl (.inl ([(20, 1)], 0))), (5, 6, .inl (.inl ([(21, 1)], 0))), (5, 7, .inl (.inl ([(22, 1)], 0))), (5, 8, .inl (.inl ([(23, 1)], 0))), (5, 9, .inl (.inl ([(24, 1)], 0))), (5, 10, .inl (.inl ([(25, 1)], 0))), (6, 0, .inl (.inr ([(26, 1)], 0))), (6, 1, .inl (.inr ([(27, 1)], 0)))]), xf_91.2), some (.inl (.inl ([(15, 1)], 0))))], []))
noncomputable def xq_91 : yt_Q := (yz_X11_areParted, (yl_flX11, yl_ciX11, yl_cjX11, yl_cpX11, yl_cqX11), [], [true, true])
noncomputable def xa_91 : List yt_CE := [(((395, false), (304, false, [1, 4, 2, 3, 7])), (yw_s16, xk_81)), (((190, false), (305, false, [5, 6, 1, 2, 3, 4, 7])), (yw_s55, xk_90))]
noncomputable def xv_91 : List (List yt_VC) := [[(1000, ([((-2147483648), 2147483647), (0, 40), ((-2147483648), 2147483647), (0, 1), ((-9223372036854775808), 9223372036854775807), ((-9223372036854775808), 9223372036854775807), ((-9223372036854775808), 9223372036854775807), (0, 40), ((-2147483648), 2147483647), ((-600), 600), ((-600), 600), ((-1000000), 1000000), ((-1000000), 1000000), ((-9223372036854775808), 9223372036854775807), ((-9223372036854775808), 9223372036854775807)], []), [], [], [.inr (.inr (.inl (304, 0, [([(1, 1)], 0), ([(2, 1)], 0)], [1, 4, 2, 3, 7], [])))]),
   (1001, ([((-2147483648), 2147483647), (2, 40), ((-2147483648), 2147483647), (0, 1), ((-9223372036854775808), 9223372036854775807), ((-9223372036854775808), 9223372036854775807), ((-9223372036854775808), 9223372036854775807), (0, 40), ((-2147483648), 2147483647), ((-600), 600), ((-600), 600), ((-1000000), 1000000), ((-1000000), 1000000), ((-9223372036854775808), 9223372036854775807), ((-9223372036854775808), 9223372036854775807), (0, 1), ((-9223372036854775808), 9223372036854775807), ((-9223372036854775808), 9223372036854775807), ((-9223372036854775808), 9223372036854775807), (0, 40), ((-2147483648), 2147483647), ((-600), 600), ((-600), 600), ((-1000000), 1000000), ((-1000000), 1000000), ((-9223372036854775808), 9223372036854775807), ((-9223372036854775808), 9223372036854775807)], []), [([(15, 1)], 0), ([(15, 1)], 0), ([(16, 1)], 0), ([(17, 1)], 0), ([(18, 1)], 0), ([(19, 1)], 0), ([(20, 1)], 0), ([(21, 1)], 0), ([(22, 1)], 0), ([(23, 1)], 0), ([(24, 1)], 0), ([(25, 1)], 0), ([(26, 1)], 0)], [], [.inr (.inr (.inl (305, 0, [([(3, 1)], 0), ([(4, 1)], 0), ([(5, 1)], 0), ([(6, 1)], 0), ([(7, 1)], 0), ([(8, 1)], 0), ([(9, 1)], 0), ([(10, 1)], 0), ([(11, 1)], 0), ([(12, 1)], 0), ([(13, 1)], 0), ([(14, 1)], 0), ([(1, 1)], 0), ([(2, 1)], 0), ([(15, 1)], 0), ([(16, 1)], 0), ([(17, 1)], 0), ([(18, 1)], 0), ([(19, 1)], 0), ([(20, 1)], 0), ([(21, 1)], 0), ([(22, 1)], 0), ([(23, 1)], 0), ([(24, 1)], 0), ([(25, 1)], 0), ([(26, 1)], 0)], [5, 6, 1, 2, 3, 4, 7], []))), .inr (.inr (.inl (304, 1, [([(1, 1)], 0), ([(2, 1)], 0)], [1, 4, 2, 3, 7], [])))])]]
noncomputable def xG_91 : Nat → yt_G → (Nat → Int) → yt_G → Prop
  | _, _, _, _ => True
noncomputable def xP_91 : yt_Ph
  | 0, r, g0, g => ¬ ye_bo (g0 4) (((1 * (r 1) + 0) + 0)).toNat
  | 1, r, g0, g => ye_bo (g0 4) (((1 * (r 1) + 0) + 0)).toNat ∧ (ye_fd (g0 2) (g0 3) (g0 4) (((1 * (r 1) + 0) + 0)).toNat ((1 * (r 2) + 0) + 0) ((1 * (r 8) + 0) + 0) (((1 * (r 3) + 0) + 0), ((1 * (r 9) + 0) + 0), ((1 * (r 10) + 0) + 0), ((1 * (r 11) + 0) + 0), ((1 * (r 12) + 0) + 0)) ((1 * (r 21) + 0) + 0) (((1 * (r 16) + 0) + 0), ((1 * (r 22) + 0) + 0), ((1 * (r 23) + 0) + 0), ((1 * (r 24) + 0) + 0), ((1 * (r 25) + 0) + 0)) ∧ ye_fo (g0 2) (g0 3) (((1 * (r 1) + 0) + 0)).toNat ((1 * (r 2) + 0) + 0) ((1 * (r 8) + 0) + 0) (((1 * (r 13) + 0) + 0), ((1 * (r 14) + 0) + 0), ((1 * (r 4) + 0) + 0), ((1 * (r 5) + 0) + 0), ((1 * (r 6) + 0) + 0), ((1 * (r 7) + 0) + 0)) (((1 * (r 16) + 0) + 0), ((1 * (r 22) + 0) + 0), ((1 * (r 23) + 0) + 0), ((1 * (r 24) + 0) + 0), ((1 * (r 25) + 0) + 0)) (((1 * (r 26) + 0) + 0), ((1 * (r 27) + 0) + 0), ((1 * (r 17) + 0) + 0), ((1 * (r 18) + 0) + 0), ((1 * (r 19) + 0) + 0), ((1 * (r 20) + 0) + 0))) ∧ (r 15) = ((1 * (r 16) + 0) + 0)
  | _, _, _, _ => True
noncomputable def xR_91 : yt_Ps := fun r g0 => True
noncomputable def xT_91 : yt_Tb := fun d => match d with
  | 304 => xP_81
  | 305 => xP_90
  | _ => fun _ _ _ _ => True
noncomputable def xU_91 : Nat → yt_Ps := fun d => match d with
  | 304 => xR_81
  | 305 => xR_90
  | _ => fun _ _ => True
theorem xw_91_0_0 : yt_hold xT_91 xk_91 xq_91.2.2.1 xG_91 xP_91 xU_91 15 xk_91.2.1.2.2.2 (fun g0 r g => xR_91 r g0 ∧ g = g0) (1000, ([((-2147483648), 2147483647), (0, 40), ((-2147483648), 2147483647), (0, 1), ((-9223372036854775808), 9223372036854775807), ((-9223372036854775808), 9223372036854775807), ((-9223372036854775808), 9223372036854775807), (0, 40), ((-2147483648), 2147483647), ((-600), 600), ((-600), 600), ((-1000000), 1000000), ((-1000000), 1000000), ((-9223372036854775808), 9223372036854775807), ((-9223372036854775808), 9223372036854775807)], []), [], [], [.inr (.inr (.inl (304, 0, [([(1, 1)], 0), ([(2, 1)], 0)], [1, 4, 2, 3, 7], [])))]) := by
  intro g0 r gi g hok hh hars hfr hG
  have b1 : 0 ≤ r 1 ∧ r 1 ≤ 40 := hok.1 1 (0, 40) rfl
  obtain ⟨hG, hgi⟩ := hG
  have hG : True := hG
  obtain ⟨h0, hh, e0, k0⟩ := hh
  have k0 : ∀ j, j ∉ [] → g j = h0 j := k0
  have e0 : ¬ ye_bo (h0 4) (((1 * r 1 + 0) + 0)).toNat := e0
  have hh : h0 = gi := hh
  subst hh
  refine yt_dalt (by decide) (by decide) ?_
  rw [show xk_91.2.1.2.1.1.length = 15 from rfl]
  show ¬ ye_bo (g0 4) (((1 * ((1 * r 1 + 0) + 0) + 0) + 0)).toNat
  try simp only [Int.one_mul, Int.zero_add, Int.add_zero]
  try simp only [Int.one_mul, Int.zero_add, Int.add_zero] at e0
  rw [hgi] at e0
  exact e0
theorem xw_91_0_1 : yt_hold xT_91 xk_91 xq_91.2.2.1 xG_91 xP_91 xU_91 15 xk_91.2.1.2.2.2 (fun g0 r g => xR_91 r g0 ∧ g = g0) (1001, ([((-2147483648), 2147483647), (2, 40), ((-2147483648), 2147483647), (0, 1), ((-9223372036854775808), 9223372036854775807), ((-9223372036854775808), 9223372036854775807), ((-9223372036854775808), 9223372036854775807), (0, 40), ((-2147483648), 2147483647), ((-600), 600), ((-600), 600), ((-1000000), 1000000), ((-1000000), 1000000), ((-9223372036854775808), 9223372036854775807), ((-9223372036854775808), 9223372036854775807), (0, 1), ((-9223372036854775808), 9223372036854775807), ((-9223372036854775808), 9223372036854775807), ((-9223372036854775808), 9223372036854775807), (0, 40), ((-2147483648), 2147483647), ((-600), 600), ((-600), 600), ((-1000000), 1000000), ((-1000000), 1000000), ((-9223372036854775808), 9223372036854775807), ((-9223372036854775808), 9223372036854775807)], []), [([(15, 1)], 0), ([(15, 1)], 0), ([(16, 1)], 0), ([(17, 1)], 0), ([(18, 1)], 0), ([(19, 1)], 0), ([(20, 1)], 0), ([(21, 1)], 0), ([(22, 1)], 0), ([(23, 1)], 0), ([(24, 1)], 0), ([(25, 1)], 0), ([(26, 1)], 0)], [], [.inr (.inr (.inl (305, 0, [([(3, 1)], 0), ([(4, 1)], 0), ([(5, 1)], 0), ([(6, 1)], 0), ([(7, 1)], 0), ([(8, 1)], 0), ([(9, 1)], 0), ([(10, 1)], 0), ([(11, 1)], 0), ([(12, 1)], 0), ([(13, 1)], 0), ([(14, 1)], 0), ([(1, 1)], 0), ([(2, 1)], 0), ([(15, 1)], 0), ([(16, 1)], 0), ([(17, 1)], 0), ([(18, 1)], 0), ([(19, 1)], 0), ([(20, 1)], 0), ([(21, 1)], 0), ([(22, 1)], 0), ([(23, 1)], 0), ([(24, 1)], 0), ([(25, 1)], 0), ([(26, 1)], 0)], [5, 6, 1, 2, 3, 4, 7], []))), .inr (.inr (.inl (304, 1, [([(1, 1)], 0), ([(2, 1)], 0)], [1, 4, 2, 3, 7], [])))]) := by
  intro g0 r gi g hok hh hars hfr hG
  have b1 : 2 ≤ r 1 ∧ r 1 ≤ 40 := hok.1 1 (2, 40) rfl
  have b15 : 0 ≤ r 15 ∧ r 15 ≤ 1 := hok.1 15 (0, 1) rfl
  have b16 : (-9223372036854775808) ≤ r 16 ∧ r 16 ≤ 9223372036854775807 := hok.1 16 ((-9223372036854775808), 9223372036854775807) rfl
  have b17 : (-9223372036854775808) ≤ r 17 ∧ r 17 ≤ 9223372036854775807 := hok.1 17 ((-9223372036854775808), 9223372036854775807) rfl
  have b18 : (-9223372036854775808) ≤ r 18 ∧ r 18 ≤ 9223372036854775807 := hok.1 18 ((-9223372036854775808), 9223372036854775807) rfl
  have b19 : 0 ≤ r 19 ∧ r 19 ≤ 40 := hok.1 19 (0, 40) rfl
  have b20 : (-2147483648) ≤ r 20 ∧ r 20 ≤ 2147483647 := hok.1 20 ((-2147483648), 2147483647) rfl
  have b21 : (-600) ≤ r 21 ∧ r 21 ≤ 600 := hok.1 21 ((-600), 600) rfl
  have b22 : (-600) ≤ r 22 ∧ r 22 ≤ 600 := hok.1 22 ((-600), 600) rfl
  have b23 : (-1000000) ≤ r 23 ∧ r 23 ≤ 1000000 := hok.1 23 ((-1000000), 1000000) rfl
  have b24 : (-1000000) ≤ r 24 ∧ r 24 ≤ 1000000 := hok.1 24 ((-1000000), 1000000) rfl
  have b25 : (-9223372036854775808) ≤ r 25 ∧ r 25 ≤ 9223372036854775807 := hok.1 25 ((-9223372036854775808), 9223372036854775807) rfl
  have b26 : (-9223372036854775808) ≤ r 26 ∧ r 26 ≤ 9223372036854775807 := hok.1 26 ((-9223372036854775808), 9223372036854775807) rfl
  obtain ⟨hG, hgi⟩ := hG
  have hG : True := hG
  obtain ⟨h0, hh, e0, k0⟩ := hh
  have k0 : ∀ j, j ∉ [] → g j = h0 j := k0
  have e0 : (ye_fd (h0 2) (h0 3) (h0 4) (((1 * ((1 * r 1 + 0) + 0) + 0) + 0)).toNat ((1 * ((1 * r 2 + 0) + 0) + 0) + 0) ((1 * ((1 * r 8 + 0) + 0) + 0) + 0) (((1 * ((1 * r 3 + 0) + 0) + 0) + 0), ((1 * ((1 * r 9 + 0) + 0) + 0) + 0), ((1 * ((1 * r 10 + 0) + 0) + 0) + 0), ((1 * ((1 * r 11 + 0) + 0) + 0) + 0), ((1 * ((1 * r 12 + 0) + 0) + 0) + 0)) ((1 * ((1 * r 20 + 0) + 0) + 0) + 0) (((1 * ((1 * r 15 + 0) + 0) + 0) + 0), ((1 * ((1 * r 21 + 0) + 0) + 0) + 0), ((1 * ((1 * r 22 + 0) + 0) + 0) + 0), ((1 * ((1 * r 23 + 0) + 0) + 0) + 0), ((1 * ((1 * r 24 + 0) + 0) + 0) + 0)) ∧ ye_fo (h0 2) (h0 3) (((1 * ((1 * r 1 + 0) + 0) + 0) + 0)).toNat ((1 * ((1 * r 2 + 0) + 0) + 0) + 0) ((1 * ((1 * r 8 + 0) + 0) + 0) + 0) (((1 * ((1 * r 13 + 0) + 0) + 0) + 0), ((1 * ((1 * r 14 + 0) + 0) + 0) + 0), ((1 * ((1 * r 4 + 0) + 0) + 0) + 0), ((1 * ((1 * r 5 + 0) + 0) + 0) + 0), ((1 * ((1 * r 6 + 0) + 0) + 0) + 0), ((1 * ((1 * r 7 + 0) + 0) + 0) + 0)) (((1 * ((1 * r 15 + 0) + 0) + 0) + 0), ((1 * ((1 * r 21 + 0) + 0) + 0) + 0), ((1 * ((1 * r 22 + 0) + 0) + 0) + 0), ((1 * ((1 * r 23 + 0) + 0) + 0) + 0), ((1 * ((1 * r 24 + 0) + 0) + 0) + 0)) (((1 * ((1 * r 25 + 0) + 0) + 0) + 0), ((1 * ((1 * r 26 + 0) + 0) + 0) + 0), ((1 * ((1 * r 16 + 0) + 0) + 0) + 0), ((1 * ((1 * r 17 + 0) + 0) + 0) + 0), ((1 * ((1 * r 18 + 0) + 0) + 0) + 0), ((1 * ((1 * r 19 + 0) + 0) + 0) + 0))) := e0
  obtain ⟨h1, hh, e1, k1⟩ := hh
  have k1 : ∀ j, j ∉ [] → h0 j = h1 j := k1
  have e1 : ye_bo (h1 4) (((1 * r 1 + 0) + 0)).toNat := e1
  have hh : h1 = gi := hh
  subst hh
  refine yt_dalt (by decide) (by decide) ?_
  rw [show xk_91.2.1.2.1.1.length = 15 from rfl]
  show ye_bo (g0 4) (((1 * ((1 * r 1 + 0) + 0) + 0) + 0)).toNat ∧ (ye_fd (g0 2) (g0 3) (g0 4) (((1 * ((1 * r 1 + 0) + 0) + 0) + 0)).toNat ((1 * ((1 * r 2 + 0) + 0) + 0) + 0) ((1 * ((1 * r 8 + 0) + 0) + 0) + 0) (((1 * ((1 * r 3 + 0) + 0) + 0) + 0), ((1 * ((1 * r 9 + 0) + 0) + 0) + 0), ((1 * ((1 * r 10 + 0) + 0) + 0) + 0), ((1 * ((1 * r 11 + 0) + 0) + 0) + 0), ((1 * ((1 * r 12 + 0) + 0) + 0) + 0)) ((1 * ((1 * r 20 + 0) + 0) + 0) + 0) (((1 * ((1 * r 15 + 0) + 0) + 0) + 0), ((1 * ((1 * r 21 + 0) + 0) + 0) + 0), ((1 * ((1 * r 22 + 0) + 0) + 0) + 0), ((1 * ((1 * r 23 + 0) + 0) + 0) + 0), ((1 * ((1 * r 24 + 0) + 0) + 0) + 0)) ∧ ye_fo (g0 2) (g0 3) (((1 * ((1 * r 1 + 0) + 0) + 0) + 0)).toNat ((1 * ((1 * r 2 + 0) + 0) + 0) + 0) ((1 * ((1 * r 8 + 0) + 0) + 0) + 0) (((1 * ((1 * r 13 + 0) + 0) + 0) + 0), ((1 * ((1 * r 14 + 0) + 0) + 0) + 0), ((1 * ((1 * r 4 + 0) + 0) + 0) + 0), ((1 * ((1 * r 5 + 0) + 0) + 0) + 0), ((1 * ((1 * r 6 + 0) + 0) + 0) + 0), ((1 * ((1 * r 7 + 0) + 0) + 0) + 0)) (((1 * ((1 * r 15 + 0) + 0) + 0) + 0), ((1 * ((1 * r 21 + 0) + 0) + 0) + 0), ((1 * ((1 * r 22 + 0) + 0) + 0) + 0), ((1 * ((1 * r 23 + 0) + 0) + 0) + 0), ((1 * ((1 * r 24 + 0) + 0) + 0) + 0)) (((1 * ((1 * r 25 + 0) + 0) + 0) + 0), ((1 * ((1 * r 26 + 0) + 0) + 0) + 0), ((1 * ((1 * r 16 + 0) + 0) + 0) + 0), ((1 * ((1 * r 17 + 0) + 0) + 0) + 0), ((1 * ((1 * r 18 + 0) + 0) + 0) + 0), ((1 * ((1 * r 19 + 0) + 0) + 0) + 0))) ∧ ((1 * r 15 + 0) + 0) = ((1 * ((1 * r 15 + 0) + 0) + 0) + 0)
  try simp only [Int.one_mul, Int.zero_add, Int.add_zero]
  try simp only [Int.one_mul, Int.zero_add, Int.add_zero] at e1
  rw [hgi] at e1
  try simp only [Int.one_mul, Int.zero_add, Int.add_zero] at e0
  rw [k1 2 (by decide), k1 3 (by decide), k1 4 (by decide), hgi] at e0
  exact ⟨e1, e0, by first | rfl | trivial⟩
theorem xn_91 : ∀ (j : Nat) (q : Nat × yt_T), xq_91.2.2.1[j]? = some q → q.2.2.2 = false → ∀ g0 r g, xG_91 j g0 r g
  | n + 0, q, hq, _ => by cases hq
theorem xs_91 : ∀ j, xq_91.2.2.2.getD j false = false → ∀ r g g', xP_91 j r g g'
  | 0, hf => by cases hf
  | 1, hf => by cases hf
  | n + 2, _ => fun _ _ _ => trivial
theorem xc_91 {l : Launch} {D : va_G} {cT : Nat → ClassId} {tys : List (ClassId × FieldType)} (hty : yx_Ty tys cT) : yt_Con l D vwCl cT tys yG yw_s56 xk_91 xR_91 xP_91 := yx_sem (calls := xa_91) (Z := xq_91) (tb := xT_91) (pt := xU_91) (Ga := xG_91) (vs := xv_91) (fun _ _ _ _ => trivial) 300 (by decide +kernel) yz_X11_areParted_ok hty (yl_lkX11 _) (yl_cqkX11 _) (List.forall_mem_cons.mpr ⟨⟨xc_81 hty, yg_CLv rfl rfl rfl yl_wX11_395 yd_yX6_hasBothColours, fun _ _ _ => trivial⟩, List.forall_mem_cons.mpr ⟨⟨xc_90 hty, yg_CLv rfl rfl rfl yl_wX11_190 yd_yX10_find, fun _ _ _ => trivial⟩, fun _ h => absurd h List.not_mem_nil⟩⟩) (xn_91) (xs_91) (by decide +kernel) (List.forall_mem_cons.mpr ⟨xw_91_0_0, List.forall_mem_cons.mpr ⟨xw_91_0_1, fun _ h => absurd h List.not_mem_nil⟩⟩) (trivial)
noncomputable def yw_s57 : List ys_C := [.inl 4, .inr (0, 40, []), .inr (0, 40, []), .inl 6, .inr (0, 40, [])]
noncomputable def yw_f57 (n : Nat) : List (List ys_V) := [[.inr (some 5), .inr (some 6), .inl (.inl ([(n + 0, 1)], 0)), .inl (.inl ([(n + 1, 1)], 0)), .inr (some 7), .inr (some 8), .inr (some 1), .inr (some 2), .inl (.inl ([(n + 2, 1)], 0)), .inl (.inl ([(n + 3, 1)], 0)), .inl (.inl ([(n + 4, 1)], 0))], [], [], [.inr (some 9), .inr (some 10), .inr (some 4), .inr (some 11), .inl (.inl ([(n + 5, 1)], 0)), .inl (.inl ([(n + 6, 1)], 0))], []]
noncomputable def yw_e57 : ys_E := [((-2147483648), 2147483647), (0, 4), (0, 40), (0, 40), ((-2147483648), 2147483647), (0, 40), ((-2147483648), 2147483647)]
noncomputable def yw_r57 : List ys_R := [((0, 0), []), ((0, 39), []), ((0, 39), []), ((0, 0), []), ((0, 1), [])]
noncomputable def xf_92 : ys_F := (yw_f57 0, yw_r57)
noncomputable def xk_92 : ys_K := (((yX4_gather, cX4_gather, 3, none), (0, 0)), ([.inr (some 0), .inr (some 3)], ([] ++ yw_e57, []), xf_92), ([([(0, 40), (0, 40)], [], ((ys_fs xf_92.1 [(0, 8, .inl (.inl ([(7, 1)], 0))), (0, 9, .inl (.inl ([(8, 1)], 0)))]), xf_92.2), none)], [1, 2]))
noncomputable def xq_92 : yt_Q := (yz_X4_gather, (yl_flX4, yl_ciX4, yl_cjX4, yl_cpX4, yl_cqX4), [(12, ([(0, 40), (0, 99), (0, 40)], [([(8, (-1)), (7, 1)], 0), ([(9, (-1)), (7, 1)], 0)], ((ys_fs xf_92.1 [(0, 8, .inl (.inl ([(8, 1)], 0))), (0, 9, .inl (.inl ([(9, 1)], 0)))]), xf_92.2), [(0, .inr (some 0)), (1, .inr (some 3)), (2, .inl (.inl ([(7, 1)], 0)))], [], ([(7, (-1))], 40)), [], false)], [])
noncomputable def xa_92 : List yt_CE := []
theorem xc_92 {l : Launch} {D : va_G} {cT : Nat → ClassId} {tys : List (ClassId × FieldType)} (hty : yx_Ty tys cT) : yx_C l D cT tys yw_s57 xk_92 := yx_method (calls := xa_92) (Z := xq_92) 300 (by decide +kernel) yz_X4_gather_ok hty (yl_lkX4 _) (yl_cqkX4 _) (fun _ h => absurd h List.not_mem_nil) (by decide +kernel)
noncomputable def yw_s58 : List ys_C := [.inl 4, .inr (0, 4, [])]
noncomputable def yw_f58 (n : Nat) : List (List ys_V) := [[.inr (some 2), .inr (some 3), .inl (.inl ([(n + 0, 1)], 0)), .inl (.inl ([(n + 1, 1)], 0)), .inr (some 1), .inr (some 4), .inr (some 5), .inr (some 6), .inl (.inl ([(n + 2, 1)], 0)), .inl (.inl ([(n + 3, 1)], 0)), .inl (.inl ([(n + 4, 1)], 0))], []]
noncomputable def yw_e58 : ys_E := [((-2147483648), 2147483647), (0, 4), (0, 40), (0, 40), ((-2147483648), 2147483647)]
noncomputable def yw_r58 : List ys_R := [((0, 0), []), ((0, 39), [])]
noncomputable def xf_93 : ys_F := (yw_f58 6, yw_r58)
noncomputable def xk_93 : ys_K := (((yX4_hold, cX4_hold, 7, (some .boolean)), (0, 0)), ([.inr (some 0), .inl (.inl ([(0, 1)], 0)), .inl (.inl ([(1, 1)], 0)), .inl (.inl ([(2, 1)], 0)), .inl (.inl ([(3, 1)], 0)), .inl (.inl ([(4, 1)], 0)), .inl (.inl ([(5, 1)], 0))], ([(0, 1), (0, 2), (0, 39), (0, 39), (0, 1), (0, 1)] ++ yw_e58, []), xf_93), ([([], [], ((ys_fs xf_93.1 [(0, 2, .inl (.inl ([(0, 1)], 0))), (0, 3, .inl (.inl ([(1, 1)], 0)))]), xf_93.2), some (.inl (.inl ([], 1))))], [1]))
noncomputable def xq_93 : yt_Q := (yz_X4_hold, (yl_flX4, yl_ciX4, yl_cjX4, yl_cpX4, yl_cqX4), [], [])
noncomputable def xa_93 : List yt_CE := []
theorem xc_93 {l : Launch} {D : va_G} {cT : Nat → ClassId} {tys : List (ClassId × FieldType)} (hty : yx_Ty tys cT) : yx_C l D cT tys yw_s58 xk_93 := yx_method (calls := xa_93) (Z := xq_93) 300 (by decide +kernel) yz_X4_hold_ok hty (yl_lkX4 _) (yl_cqkX4 _) (fun _ h => absurd h List.not_mem_nil) (by decide +kernel)
noncomputable def yw_s59 : List ys_C := [.inl 4, .inr (0, 4, []), .inr (0, 40, []), .inr (0, 40, []), .inl 6, .inr (0, 40, []), .inr (0, 40, [])]
noncomputable def yw_f59 (n : Nat) : List (List ys_V) := [[.inr (some 7), .inr (some 8), .inl (.inl ([(n + 0, 1)], 0)), .inl (.inl ([(n + 1, 1)], 0)), .inr (some 1), .inr (some 9), .inr (some 2), .inr (some 3), .inl (.inl ([(n + 2, 1)], 0)), .inl (.inl ([(n + 3, 1)], 0)), .inl (.inl ([(n + 4, 1)], 0))], [], [], [], [.inr (some 5), .inr (some 6), .inr (some 10), .inr (some 11), .inl (.inl ([(n + 5, 1)], 0)), .inl (.inl ([(n + 6, 1)], 0))], [], []]
noncomputable def yw_e59 : ys_E := [((-2147483648), 2147483647), (0, 4), (0, 40), (0, 40), ((-2147483648), 2147483647), (0, 40), ((-2147483648), 2147483647)]
noncomputable def yw_r59 : List ys_R := [((0, 0), []), ((0, 39), []), ((0, 39), []), ((0, 39), []), ((0, 0), []), (((-300), 300), []), (((-300), 300), [])]
noncomputable def xf_94 : ys_F := (yw_f59 0, yw_r59)
noncomputable def xk_94 : ys_K := (((yX4_findOnePlace, cX4_findOnePlace, 4, (some .boolean)), (1, 26)), ([.inr (some 0), .inr (some 4)], ([] ++ yw_e59, []), xf_94), ([([], [], (xf_94.1, xf_94.2), some (.inl (.inl ([], 0)))), ([], [([(2, 1)], (-1)), ([(3, 1)], (-1))], ((ys_fs xf_94.1 [(0, 2, .inl (.inl ([], 1))), (0, 3, .inl (.inl ([], 2)))]), xf_94.2), some (.inl (.inl ([], 1))))], [1]))
noncomputable def xq_94 : yt_Q := (yz_X4_findOnePlace, (yl_flX4, yl_ciX4, yl_cjX4, yl_cpX4, yl_cqX4), [(12, ([(0, 39), (0, 40)], [([(2, 1)], (-1))], (xf_94.1, xf_94.2), [(0, .inr (some 0)), (1, .inr (some 4)), (2, .inl (.inl ([(7, 1)], 0))), (3, .inl (.inl ([(8, 1)], 0)))], [], ([(7, (-43)), (8, (-1))], 1760)), [], false), (2, ([(0, 40)], [], (xf_94.1, xf_94.2), [(0, .inr (some 0)), (1, .inr (some 4)), (2, .inl (.inl ([(7, 1)], 0)))], [], ([(7, (-43))], 1762)), [], false)], [])
noncomputable def xa_94 : List yt_CE := [(((106, false), (180, false, [4, 5, 6, 10, 11])), (yw_s11, xk_12)), (((110, false), (0, false, [0, 1, 7, 8, 9, 2, 3])), (yw_s58, xk_93))]
noncomputable def xT_94 : yt_Tb := fun d => match d with
  | 180 => xP_12
  | _ => fun _ _ _ _ => True
theorem xc_94 {l : Launch} {D : va_G} {cT : Nat → ClassId} {tys : List (ClassId × FieldType)} (hty : yx_Ty tys cT) : yx_C l D cT tys yw_s59 xk_94 := yx_methodT (tb := xT_94) (fun _ _ _ _ => trivial) (calls := xa_94) (Z := xq_94) 300 (by decide +kernel) yz_X4_findOnePlace_ok hty (yl_lkX4 _) (yl_cqkX4 _) (List.forall_mem_cons.mpr ⟨⟨xc_12 hty, yg_CLv rfl rfl rfl yl_wX4_106 yd_yX6_samePlace⟩, List.forall_mem_cons.mpr ⟨⟨xc_93 hty, yg_CLv rfl rfl rfl yl_wX4_110 yd_yX4_hold⟩, fun _ h => absurd h List.not_mem_nil⟩⟩) (by decide +kernel)
noncomputable def yw_s60 : List ys_C := [.inl 4, .inl 1, .inl 1, .inr (0, 4, []), .inr (8, 4, [5, 6, 10, 11]), .inl 1, .inl 1, .inl 6, .inr (0, 40, []), .inr (0, 40, [])]
noncomputable def yw_f60 (n : Nat) : List (List ys_V) := [[.inr (some 1), .inr (some 2), .inl (.inl ([(n + 0, 1)], 0)), .inl (.inl ([(n + 1, 1)], 0)), .inr (some 3), .inr (some 4), .inr (some 12), .inr (some 13), .inl (.inl ([(n + 2, 1)], 0)), .inl (.inl ([(n + 3, 1)], 0)), .inl (.inl ([(n + 4, 1)], 0))], [.inl (.inr ([(n + 5, 1)], 0)), .inl (.inr ([(n + 6, 1)], 0))], [.inl (.inr ([(n + 7, 1)], 0)), .inl (.inr ([(n + 8, 1)], 0))], [], [], [.inl (.inr ([(n + 9, 1)], 0)), .inl (.inr ([(n + 10, 1)], 0))], [.inl (.inr ([(n + 11, 1)], 0)), .inl (.inr ([(n + 12, 1)], 0))], [.inr (some 8), .inr (some 9), .inr (some 14), .inr (some 15), .inl (.inl ([(n + 13, 1)], 0)), .inl (.inl ([(n + 14, 1)], 0))], [], []]
noncomputable def yw_e60 : ys_E := [((-2147483648), 2147483647), (0, 4), (0, 40), (0, 40), ((-2147483648), 2147483647), ((-9223372036854775808), 9223372036854775807), ((-9223372036854775808), 9223372036854775807), ((-9223372036854775808), 9223372036854775807), ((-9223372036854775808), 9223372036854775807), ((-9223372036854775808), 9223372036854775807), ((-9223372036854775808), 9223372036854775807), ((-9223372036854775808), 9223372036854775807), ((-9223372036854775808), 9223372036854775807), (0, 40), ((-2147483648), 2147483647)]
noncomputable def yw_r60 : List ys_R := [((0, 0), []), ((0, 0), []), ((0, 0), []), ((0, 39), []), ((0, 0), []), ((0, 0), []), ((0, 0), []), ((0, 0), []), (((-300), 300), []), (((-300), 300), [])]
noncomputable def xf_95 : ys_F := (yw_f60 1, yw_r60)
noncomputable def xk_95 : ys_K := (((yX4_shareAlone, cX4_shareAlone, 3, none), (3, 71)), ([.inr (some 0), .inr (some 7), .inl (.inl ([(0, 1)], 0))], ([(0, 1)] ++ yw_e60, []), xf_95), ([([((-9223372036854775808), 9223372036854775807), ((-9223372036854775808), 9223372036854775807), ((-9223372036854775808), 9223372036854775807), ((-9223372036854775808), 9223372036854775807), ((-9223372036854775808), 9223372036854775807), ((-9223372036854775808), 9223372036854775807), ((-9223372036854775808), 9223372036854775807), ((-9223372036854775808), 9223372036854775807)], [], ((ys_fs xf_95.1 [(1, 0, .inl (.inr ([(16, 1)], 0))), (1, 1, .inl (.inr ([(17, 1)], 0))), (2, 0, .inl (.inr ([(18, 1)], 0))), (2, 1, .inl (.inr ([(19, 1)], 0))), (5, 0, .inl (.inr ([(20, 1)], 0))), (5, 1, .inl (.inr ([(21, 1)], 0))), (6, 0, .inl (.inr ([(22, 1)], 0))), (6, 1, .inl (.inr ([(23, 1)], 0)))]), xf_95.2), none)], []))
noncomputable def xq_95 : yt_Q := (yz_X4_shareAlone, (yl_flX4, yl_ciX4, yl_cjX4, yl_cpX4, yl_cqX4), [], [])
noncomputable def xa_95 : List yt_CE := [(((138, false), (313, false, [6])), (yw_s50, xk_84)), (((138, false), (313, false, [1])), (yw_s50, xk_84)), (((138, false), (313, false, [2])), (yw_s50, xk_84)), (((138, false), (313, false, [5])), (yw_s50, xk_84))]
noncomputable def xT_95 : yt_Tb := fun d => match d with
  | 313 => xP_84
  | _ => fun _ _ _ _ => True
theorem xc_95 {l : Launch} {D : va_G} {cT : Nat → ClassId} {tys : List (ClassId × FieldType)} (hty : yx_Ty tys cT) : yx_C l D cT tys yw_s60 xk_95 := yx_methodT (tb := xT_95) (fun _ _ _ _ => trivial) (calls := xa_95) (Z := xq_95) 300 (by decide +kernel) yz_X4_shareAlone_ok hty (yl_lkX4 _) (yl_cqkX4 _) (List.forall_mem_cons.mpr ⟨⟨xc_84 hty, yg_CLv rfl rfl rfl yl_wX4_138 yd_yX1_become⟩, List.forall_mem_cons.mpr ⟨⟨xc_84 hty, yg_CLv rfl rfl rfl yl_wX4_138 yd_yX1_become⟩, List.forall_mem_cons.mpr ⟨⟨xc_84 hty, yg_CLv rfl rfl rfl yl_wX4_138 yd_yX1_become⟩, List.forall_mem_cons.mpr ⟨⟨xc_84 hty, yg_CLv rfl rfl rfl yl_wX4_138 yd_yX1_become⟩, fun _ h => absurd h List.not_mem_nil⟩⟩⟩⟩) (by decide +kernel)
noncomputable def xf_96 : ys_F := (yw_f11 3, yw_r11)
noncomputable def xk_96 : ys_K := (((yX4_isBetween, cX4_isBetween, 4, (some .boolean)), (1, 23)), ([.inr (some 0), .inl (.inl ([(0, 1)], 0)), .inl (.inl ([(1, 1)], 0)), .inl (.inl ([(2, 1)], 0))], ([(0, 39), (0, 39), (0, 39)] ++ yw_e11, []), xf_96), ([([], [], (xf_96.1, xf_96.2), some (.inl (.inl ([], 0)))), ([], [], (xf_96.1, xf_96.2), some (.inl (.inl ([], 1))))], []))
noncomputable def xq_96 : yt_Q := (yz_X4_isBetween, (yl_flX4, yl_ciX4, yl_cjX4, yl_cpX4, yl_cqX4), [], [])
noncomputable def xa_96 : List yt_CE := [(((122, false), (181, false, [0, 1, 2, 3, 4])), (yw_s11, xk_13)), (((135, false), (196, false, [0, 1, 2, 3, 4])), (yw_s11, xk_14))]
noncomputable def xT_96 : yt_Tb := fun d => match d with
  | 181 => xP_13
  | 196 => xP_14
  | _ => fun _ _ _ _ => True
theorem xc_96 {l : Launch} {D : va_G} {cT : Nat → ClassId} {tys : List (ClassId × FieldType)} (hty : yx_Ty tys cT) : yx_C l D cT tys yw_s11 xk_96 := yx_methodT (tb := xT_96) (fun _ _ _ _ => trivial) (calls := xa_96) (Z := xq_96) 300 (by decide +kernel) yz_X4_isBetween_ok hty (yl_lkX4 _) (yl_cqkX4 _) (List.forall_mem_cons.mpr ⟨⟨xc_13 hty, yg_CLv rfl rfl rfl yl_wX4_122 yd_yX6_turn⟩, List.forall_mem_cons.mpr ⟨⟨xc_14 hty, yg_CLv rfl rfl rfl yl_wX4_135 yd_yX6_reach⟩, fun _ h => absurd h List.not_mem_nil⟩⟩) (by decide +kernel)
noncomputable def xf_97 : ys_F := (yw_f58 6, yw_r58)
noncomputable def xk_97 : ys_K := (((yX4_hold, cX4_hold, 7, (some .boolean)), (0, 0)), ([.inr (some 0), .inl (.inl ([(0, 1)], 0)), .inl (.inl ([(1, 1)], 0)), .inl (.inl ([(2, 1)], 0)), .inl (.inl ([(3, 1)], 0)), .inl (.inl ([(4, 1)], 0)), .inl (.inl ([(5, 1)], 0))], ([(0, 2), (0, 3), (0, 39), (0, 39), (0, 39), (0, 1)] ++ yw_e58, []), xf_97), ([([], [], ((ys_fs xf_97.1 [(0, 2, .inl (.inl ([(0, 1)], 0))), (0, 3, .inl (.inl ([(1, 1)], 0)))]), xf_97.2), some (.inl (.inl ([], 1))))], [1]))
noncomputable def xq_97 : yt_Q := (yz_X4_hold, (yl_flX4, yl_ciX4, yl_cjX4, yl_cpX4, yl_cqX4), [], [])
noncomputable def xa_97 : List yt_CE := []
theorem xc_97 {l : Launch} {D : va_G} {cT : Nat → ClassId} {tys : List (ClassId × FieldType)} (hty : yx_Ty tys cT) : yx_C l D cT tys yw_s58 xk_97 := yx_method (calls := xa_97) (Z := xq_97) 300 (by decide +kernel) yz_X4_hold_ok hty (yl_lkX4 _) (yl_cqkX4 _) (fun _ h => absurd h List.not_mem_nil) (by decide +kernel)
noncomputable def xf_98 : ys_F := (yw_f59 0, yw_r59)
noncomputable def xk_98 : ys_K := (((yX4_findYesBetween, cX4_findYesBetween, 5, (some .boolean)), (2, 46)), ([.inr (some 0), .inr (some 4)], ([] ++ yw_e59, []), xf_98), ([([], [], (xf_98.1, xf_98.2), some (.inl (.inl ([], 0)))), ([], [([(2, 1)], (-1)), ([(3, 1)], (-2)), ([(3, 1)], (-1))], ((ys_fs xf_98.1 [(0, 2, .inl (.inl ([], 2))), (0, 3, .inl (.inl ([], 3)))]), xf_98.2), some (.inl (.inl ([], 1))))], [1]))
noncomputable def xq_98 : yt_Q := (yz_X4_findYesBetween, (yl_flX4, yl_ciX4, yl_cjX4, yl_cpX4, yl_cqX4), [(12, ([(0, 39), (0, 40)], [([(2, 1)], (-1))], (xf_98.1, xf_98.2), [(0, .inr (some 0)), (1, .inr (some 4)), (2, .inl (.inl ([(7, 1)], 0))), (3, .inl (.inl ([(8, 1)], 0)))], [], ([(7, (-1765)), (8, (-42))], 72321)), [], false), (2, ([(0, 40)], [], (xf_98.1, xf_98.2), [(0, .inr (some 0)), (1, .inr (some 4)), (2, .inl (.inl ([(7, 1)], 0)))], [], ([(7, (-1765))], 72364)), [], false), (25, ([(0, 39), (0, 39), (1, 40)], [([(2, 1)], (-1)), ([(3, 1)], (-1))], (xf_98.1, xf_98.2), [(0, .inr (some 0)), (1, .inr (some 4)), (2, .inl (.inl ([(7, 1)], 0))), (3, .inl (.inl ([(8, 1)], 0))), (4, .inl (.inl ([(9, 1)], 0)))], [], ([(7, (-1765)), (9, (-1)), (8, (-42))], 72320)), [], false)], [])
noncomputable def xa_98 : List yt_CE := [(((114, true), (0, false, [4, 5, 6, 10, 11])), (yw_s11, xk_96)), (((110, false), (0, false, [0, 1, 7, 8, 9, 2, 3])), (yw_s58, xk_97))]
theorem xc_98 {l : Launch} {D : va_G} {cT : Nat → ClassId} {tys : List (ClassId × FieldType)} (hty : yx_Ty tys cT) : yx_C l D cT tys yw_s59 xk_98 := yx_method (calls := xa_98) (Z := xq_98) 300 (by decide +kernel) yz_X4_findYesBetween_ok hty (yl_lkX4 _) (yl_cqkX4 _) (List.forall_mem_cons.mpr ⟨⟨xc_96 hty, yg_CLs yl_wX4_114 yd_yX4_isBetween⟩, List.forall_mem_cons.mpr ⟨⟨xc_97 hty, yg_CLv rfl rfl rfl yl_wX4_110 yd_yX4_hold⟩, fun _ h => absurd h List.not_mem_nil⟩⟩) (by decide +kernel)
noncomputable def yw_s61 : List ys_C := [.inl 4, .inr (0, 4, []), .inr (8, 4, [3, 4, 5, 11]), .inl 1, .inl 1, .inl 1, .inl 6, .inr (0, 40, []), .inr (0, 40, [])]
noncomputable def yw_f61 (n : Nat) : List (List ys_V) := [[.inr (some 9), .inr (some 10), .inl (.inl ([(n + 0, 1)], 0)), .inl (.inl ([(n + 1, 1)], 0)), .inr (some 1), .inr (some 2), .inr (some 12), .inr (some 13), .inl (.inl ([(n + 2, 1)], 0)), .inl (.inl ([(n + 3, 1)], 0)), .inl (.inl ([(n + 4, 1)], 0))], [], [], [.inl (.inr ([(n + 5, 1)], 0)), .inl (.inr ([(n + 6, 1)], 0))], [.inl (.inr ([(n + 7, 1)], 0)), .inl (.inr ([(n + 8, 1)], 0))], [.inl (.inr ([(n + 9, 1)], 0)), .inl (.inr ([(n + 10, 1)], 0))], [.inr (some 7), .inr (some 8), .inr (some 14), .inr (some 15), .inl (.inl ([(n + 11, 1)], 0)), .inl (.inl ([(n + 12, 1)], 0))], [], []]
noncomputable def yw_e61 : ys_E := [((-2147483648), 2147483647), (0, 4), (0, 40), (0, 40), ((-2147483648), 2147483647), ((-9223372036854775808), 9223372036854775807), ((-9223372036854775808), 9223372036854775807), ((-9223372036854775808), 9223372036854775807), ((-9223372036854775808), 9223372036854775807), ((-9223372036854775808), 9223372036854775807), ((-9223372036854775808), 9223372036854775807), (0, 40), ((-2147483648), 2147483647)]
noncomputable def yw_r61 : List ys_R := [((0, 0), []), ((0, 39), []), ((0, 0), []), ((0, 0), []), ((0, 0), []), ((0, 0), []), ((0, 0), []), (((-300), 300), []), (((-300), 300), [])]
noncomputable def xf_99 : ys_F := (yw_f61 2, yw_r61)
noncomputable def xk_99 : ys_K := (((yX4_shareBetween, cX4_shareBetween, 8, none), (3, 71)), ([.inr (some 0), .inr (some 6), .inl (.inl ([(0, 1)], 0)), .inl (.inl ([(1, 1)], 0))], ([(0, 1), (0, 1)] ++ yw_e61, []), xf_99), ([([((-9223372036854775808), 9223372036854775807), ((-9223372036854775808), 9223372036854775807), ((-9223372036854775808), 9223372036854775807), ((-9223372036854775808), 9223372036854775807), ((-9223372036854775808), 9223372036854775807), ((-9223372036854775808), 9223372036854775807)], [], ((ys_fs xf_99.1 [(3, 0, .inl (.inr ([(15, 1)], 0))), (3, 1, .inl (.inr ([(16, 1)], 0))), (4, 0, .inl (.inr ([(17, 1)], 0))), (4, 1, .inl (.inr ([(18, 1)], 0))), (5, 0, .inl (.inr ([(19, 1)], 0))), (5, 1, .inl (.inr ([(20, 1)], 0)))]), xf_99.2), none)], []))
noncomputable def xq_99 : yt_Q := (yz_X4_shareBetween, (yl_flX4, yl_ciX4, yl_cjX4, yl_cpX4, yl_cqX4), [], [])
noncomputable def xa_99 : List yt_CE := [(((135, false), (196, false, [6, 7, 8, 14, 15])), (yw_s11, xk_14)), (((138, false), (313, false, [4])), (yw_s50, xk_84)), (((138, false), (313, false, [5])), (yw_s50, xk_84)), (((138, false), (313, false, [3])), (yw_s50, xk_84))]
noncomputable def xT_99 : yt_Tb := fun d => match d with
  | 196 => xP_14
  | 313 => xP_84
  | _ => fun _ _ _ _ => True
theorem xc_99 {l : Launch} {D : va_G} {cT : Nat → ClassId} {tys : List (ClassId × FieldType)} (hty : yx_Ty tys cT) : yx_C l D cT tys yw_s61 xk_99 := yx_methodT (tb := xT_99) (fun _ _ _ _ => trivial) (calls := xa_99) (Z := xq_99) 300 (by decide +kernel) yz_X4_shareBetween_ok hty (yl_lkX4 _) (yl_cqkX4 _) (List.forall_mem_cons.mpr ⟨⟨xc_14 hty, yg_CLv rfl rfl rfl yl_wX4_135 yd_yX6_reach⟩, List.forall_mem_cons.mpr ⟨⟨xc_84 hty, yg_CLv rfl rfl rfl yl_wX4_138 yd_yX1_become⟩, List.forall_mem_cons.mpr ⟨⟨xc_84 hty, yg_CLv rfl rfl rfl yl_wX4_138 yd_yX1_become⟩, List.forall_mem_cons.mpr ⟨⟨xc_84 hty, yg_CLv rfl rfl rfl yl_wX4_138 yd_yX1_become⟩, fun _ h => absurd h List.not_mem_nil⟩⟩⟩⟩) (by decide +kernel)
noncomputable def xf_100 : ys_F := (yw_f59 0, yw_r59)
noncomputable def xk_100 : ys_K := (((yX4_findNoBetween, cX4_findNoBetween, 5, (some .boolean)), (2, 46)), ([.inr (some 0), .inr (some 4)], ([] ++ yw_e59, []), xf_100), ([([], [], (xf_100.1, xf_100.2), some (.inl (.inl ([], 0)))), ([], [([(2, 1)], (-2)), ([(3, 1)], (-1))], ((ys_fs xf_100.1 [(0, 2, .inl (.inl ([], 2))), (0, 3, .inl (.inl ([], 3)))]), xf_100.2), some (.inl (.inl ([], 1))))], [1]))
noncomputable def xq_100 : yt_Q := (yz_X4_findNoBetween, (yl_flX4, yl_ciX4, yl_cjX4, yl_cpX4, yl_cqX4), [(14, ([(0, 39), (1, 40)], [([(2, 1)], (-1))], (xf_100.1, xf_100.2), [(0, .inr (some 0)), (1, .inr (some 4)), (2, .inl (.inl ([(7, 1)], 0))), (3, .inl (.inl ([(8, 1)], 0)))], [], ([(7, (-1764)), (8, (-43))], 72322)), [], false), (2, ([(0, 40)], [], (xf_100.1, xf_100.2), [(0, .inr (some 0)), (1, .inr (some 4)), (2, .inl (.inl ([(7, 1)], 0)))], [], ([(7, (-1764))], 72323)), [], false), (25, ([(0, 39), (1, 39), (0, 40)], [([(2, 1)], (-2))], (xf_100.1, xf_100.2), [(0, .inr (some 0)), (1, .inr (some 4)), (2, .inl (.inl ([(7, 1)], 0))), (3, .inl (.inl ([(8, 1)], 0))), (4, .inl (.inl ([(9, 1)], 0)))], [], ([(7, (-1764)), (9, (-1)), (8, (-43))], 72320)), [], false)], [])
noncomputable def xa_100 : List yt_CE := [(((114, true), (0, false, [4, 5, 6, 10, 11])), (yw_s11, xk_96)), (((110, false), (0, false, [0, 1, 7, 8, 9, 2, 3])), (yw_s58, xk_97))]
theorem xc_100 {l : Launch} {D : va_G} {cT : Nat → ClassId} {tys : List (ClassId × FieldType)} (hty : yx_Ty tys cT) : yx_C l D cT tys yw_s59 xk_100 := yx_method (calls := xa_100) (Z := xq_100) 300 (by decide +kernel) yz_X4_findNoBetween_ok hty (yl_lkX4 _) (yl_cqkX4 _) (List.forall_mem_cons.mpr ⟨⟨xc_96 hty, yg_CLs yl_wX4_114 yd_yX4_isBetween⟩, List.forall_mem_cons.mpr ⟨⟨xc_97 hty, yg_CLv rfl rfl rfl yl_wX4_110 yd_yX4_hold⟩, fun _ h => absurd h List.not_mem_nil⟩⟩) (by decide +kernel)
noncomputable def yw_s62 : List ys_C := [.inl 4, .inl 1, .inl 1, .inr (0, 4, []), .inr (8, 4, [5, 6, 7, 11]), .inl 1, .inl 1, .inl 1, .inl 6, .inr (0, 40, []), .inr (0, 40, [])]
noncomputable def yw_f62 (n : Nat) : List (List ys_V) := [[.inr (some 1), .inr (some 2), .inl (.inl ([(n + 0, 1)], 0)), .inl (.inl ([(n + 1, 1)], 0)), .inr (some 3), .inr (some 4), .inr (some 12), .inr (some 13), .inl (.inl ([(n + 2, 1)], 0)), .inl (.inl ([(n + 3, 1)], 0)), .inl (.inl ([(n + 4, 1)], 0))], [.inl (.inr ([(n + 5, 1)], 0)), .inl (.inr ([(n + 6, 1)], 0))], [.inl (.inr ([(n + 7, 1)], 0)), .inl (.inr ([(n + 8, 1)], 0))], [], [], [.inl (.inr ([(n + 9, 1)], 0)), .inl (.inr ([(n + 10, 1)], 0))], [.inl (.inr ([(n + 11, 1)], 0)), .inl (.inr ([(n + 12, 1)], 0))], [.inl (.inr ([(n + 13, 1)], 0)), .inl (.inr ([(n + 14, 1)], 0))], [.inr (some 9), .inr (some 10), .inr (some 14), .inr (some 15), .inl (.inl ([(n + 15, 1)], 0)), .inl (.inl ([(n + 16, 1)], 0))], [], []]
noncomputable def yw_e62 : ys_E := [((-2147483648), 2147483647), (0, 4), (0, 40), (0, 40), ((-2147483648), 2147483647), ((-9223372036854775808), 9223372036854775807), ((-9223372036854775808), 9223372036854775807), ((-9223372036854775808), 9223372036854775807), ((-9223372036854775808), 9223372036854775807), ((-9223372036854775808), 9223372036854775807), ((-9223372036854775808), 9223372036854775807), ((-9223372036854775808), 9223372036854775807), ((-9223372036854775808), 9223372036854775807), ((-9223372036854775808), 9223372036854775807), ((-9223372036854775808), 9223372036854775807), (0, 40), ((-2147483648), 2147483647)]
noncomputable def yw_r62 : List ys_R := [((0, 0), []), ((0, 0), []), ((0, 0), []), ((0, 39), []), ((0, 0), []), ((0, 0), []), ((0, 0), []), ((0, 0), []), ((0, 0), []), (((-300), 300), []), (((-300), 300), [])]
noncomputable def xf_101 : ys_F := (yw_f62 1, yw_r62)
noncomputable def xk_101 : ys_K := (((yX4_shareAlone, cX4_shareAlone, 3, none), (3, 71)), ([.inr (some 0), .inr (some 8), .inl (.inl ([(0, 1)], 0))], ([(0, 2)] ++ yw_e62, []), xf_101), ([([((-9223372036854775808), 9223372036854775807), ((-9223372036854775808), 9223372036854775807), ((-9223372036854775808), 9223372036854775807), ((-9223372036854775808), 9223372036854775807), ((-9223372036854775808), 9223372036854775807), ((-9223372036854775808), 9223372036854775807), ((-9223372036854775808), 9223372036854775807), ((-9223372036854775808), 9223372036854775807), ((-9223372036854775808), 9223372036854775807), ((-9223372036854775808), 9223372036854775807)], [], ((ys_fs xf_101.1 [(1, 0, .inl (.inr ([(18, 1)], 0))), (1, 1, .inl (.inr ([(19, 1)], 0))), (2, 0, .inl (.inr ([(20, 1)], 0))), (2, 1, .inl (.inr ([(21, 1)], 0))), (5, 0, .inl (.inr ([(22, 1)], 0))), (5, 1, .inl (.inr ([(23, 1)], 0))), (6, 0, .inl (.inr ([(24, 1)], 0))), (6, 1, .inl (.inr ([(25, 1)], 0))), (7, 0, .inl (.inr ([(26, 1)], 0))), (7, 1, .inl (.inr ([(27, 1)], 0)))]), xf_101.2), none)], []))
noncomputable def xq_101 : yt_Q := (yz_X4_shareAlone, (yl_flX4, yl_ciX4, yl_cjX4, yl_cpX4, yl_cqX4), [], [])
noncomputable def xa_101 : List yt_CE := [(((138, false), (313, false, [7])), (yw_s50, xk_84)), (((138, false), (313, false, [1])), (yw_s50, xk_84)), (((138, false), (313, false, [2])), (yw_s50, xk_84)), (((138, false), (313, false, [6])), (yw_s50, xk_84)), (((138, false), (313, false, [5])), (yw_s50, xk_84))]
noncomputable def xT_101 : yt_Tb := fun d => match d with
  | 313 => xP_84
  | _ => fun _ _ _ _ => True
theorem xc_101 {l : Launch} {D : va_G} {cT : Nat → ClassId} {tys : List (ClassId × FieldType)} (hty : yx_Ty tys cT) : yx_C l D cT tys yw_s62 xk_101 := yx_methodT (tb := xT_101) (fun _ _ _ _ => trivial) (calls := xa_101) (Z := xq_101) 300 (by decide +kernel) yz_X4_shareAlone_ok hty (yl_lkX4 _) (yl_cqkX4 _) (List.forall_mem_cons.mpr ⟨⟨xc_84 hty, yg_CLv rfl rfl rfl yl_wX4_138 yd_yX1_become⟩, List.forall_mem_cons.mpr ⟨⟨xc_84 hty, yg_CLv rfl rfl rfl yl_wX4_138 yd_yX1_become⟩, List.forall_mem_cons.mpr ⟨⟨xc_84 hty, yg_CLv rfl rfl rfl yl_wX4_138 yd_yX1_become⟩, List.forall_mem_cons.mpr ⟨⟨xc_84 hty, yg_CLv rfl rfl rfl yl_wX4_138 yd_yX1_become⟩, List.forall_mem_cons.mpr ⟨⟨xc_84 hty, yg_CLv rfl rfl rfl yl_wX4_138 yd_yX1_become⟩, fun _ h => absurd h List.not_mem_nil⟩⟩⟩⟩⟩) (by decide +kernel)
noncomputable def xf_102 : ys_F := (yw_f61 2, yw_r61)
noncomputable def xk_102 : ys_K := (((yX4_shareBetween, cX4_shareBetween, 8, none), (3, 71)), ([.inr (some 0), .inr (some 6), .inl (.inl ([(0, 1)], 0)), .inl (.inl ([(1, 1)], 0))], ([(0, 2), (0, 1)] ++ yw_e61, []), xf_102), ([([((-9223372036854775808), 9223372036854775807), ((-9223372036854775808), 9223372036854775807), ((-9223372036854775808), 9223372036854775807), ((-9223372036854775808), 9223372036854775807), ((-9223372036854775808), 9223372036854775807), ((-9223372036854775808), 9223372036854775807)], [], ((ys_fs xf_102.1 [(3, 0, .inl (.inr ([(15, 1)], 0))), (3, 1, .inl (.inr ([(16, 1)], 0))), (4, 0, .inl (.inr ([(17, 1)], 0))), (4, 1, .inl (.inr ([(18, 1)], 0))), (5, 0, .inl (.inr ([(19, 1)], 0))), (5, 1, .inl (.inr ([(20, 1)], 0)))]), xf_102.2), none)], []))
noncomputable def xq_102 : yt_Q := (yz_X4_shareBetween, (yl_flX4, yl_ciX4, yl_cjX4, yl_cpX4, yl_cqX4), [], [])
noncomputable def xa_102 : List yt_CE := [(((135, false), (196, false, [6, 7, 8, 14, 15])), (yw_s11, xk_14)), (((138, false), (313, false, [4])), (yw_s50, xk_84)), (((138, false), (313, false, [5])), (yw_s50, xk_84)), (((138, false), (313, false, [3])), (yw_s50, xk_84))]
noncomputable def xT_102 : yt_Tb := fun d => match d with
  | 196 => xP_14
  | 313 => xP_84
  | _ => fun _ _ _ _ => True
theorem xc_102 {l : Launch} {D : va_G} {cT : Nat → ClassId} {tys : List (ClassId × FieldType)} (hty : yx_Ty tys cT) : yx_C l D cT tys yw_s61 xk_102 := yx_methodT (tb := xT_102) (fun _ _ _ _ => trivial) (calls := xa_102) (Z := xq_102) 300 (by decide +kernel) yz_X4_shareBetween_ok hty (yl_lkX4 _) (yl_cqkX4 _) (List.forall_mem_cons.mpr ⟨⟨xc_14 hty, yg_CLv rfl rfl rfl yl_wX4_135 yd_yX6_reach⟩, List.forall_mem_cons.mpr ⟨⟨xc_84 hty, yg_CLv rfl rfl rfl yl_wX4_138 yd_yX1_become⟩, List.forall_mem_cons.mpr ⟨⟨xc_84 hty, yg_CLv rfl rfl rfl yl_wX4_138 yd_yX1_become⟩, List.forall_mem_cons.mpr ⟨⟨xc_84 hty, yg_CLv rfl rfl rfl yl_wX4_138 yd_yX1_become⟩, fun _ h => absurd h List.not_mem_nil⟩⟩⟩⟩) (by decide +kernel)
noncomputable def xf_103 : ys_F := (yw_f2 2, yw_r2)
noncomputable def xk_103 : ys_K := (((yX4_isSameSide, cX4_isSameSide, 2, (some .boolean)), (0, 0)), ([.inl (.inl ([(0, 1)], 0)), .inl (.inl ([(1, 1)], 0))], ([((-2147483648), 2147483647), ((-2147483648), 2147483647)] ++ yw_e2, []), xf_103), ([([], [], (xf_103.1, xf_103.2), some (.inl (.inl ([], 0)))), ([], [], (xf_103.1, xf_103.2), some (.inl (.inl ([], 1))))], []))
noncomputable def xq_103 : yt_Q := (yz_X4_isSameSide, (yl_flX4, yl_ciX4, yl_cjX4, yl_cpX4, yl_cqX4), [], [])
noncomputable def xa_103 : List yt_CE := []
theorem xc_103 {l : Launch} {D : va_G} {cT : Nat → ClassId} {tys : List (ClassId × FieldType)} (hty : yx_Ty tys cT) : yx_C l D cT tys yw_s2 xk_103 := yx_method (calls := xa_103) (Z := xq_103) 300 (by decide +kernel) yz_X4_isSameSide_ok hty (yl_lkX4 _) (yl_cqkX4 _) (fun _ h => absurd h List.not_mem_nil) (by decide +kernel)
noncomputable def yw_s63 : List ys_C := [.inl 4, .inr (0, 40, []), .inr (0, 40, []), .inl 6, .inr (0, 40, []), .inr (0, 40, [])]
noncomputable def yw_f63 (n : Nat) : List (List ys_V) := [[.inr (some 6), .inr (some 7), .inl (.inl ([(n + 0, 1)], 0)), .inl (.inl ([(n + 1, 1)], 0)), .inr (some 8), .inr (some 9), .inr (some 1), .inr (some 2), .inl (.inl ([(n + 2, 1)], 0)), .inl (.inl ([(n + 3, 1)], 0)), .inl (.inl ([(n + 4, 1)], 0))], [], [], [.inr (some 4), .inr (some 5), .inr (some 10), .inr (some 11), .inl (.inl ([(n + 5, 1)], 0)), .inl (.inl ([(n + 6, 1)], 0))], [], []]
noncomputable def yw_e63 : ys_E := [((-2147483648), 2147483647), (0, 4), (0, 40), (0, 40), ((-2147483648), 2147483647), (0, 40), ((-2147483648), 2147483647)]
noncomputable def yw_r63 : List ys_R := [((0, 0), []), ((0, 39), []), ((0, 39), []), ((0, 0), []), (((-300), 300), []), (((-300), 300), [])]
noncomputable def xf_104 : ys_F := (yw_f63 3, yw_r63)
noncomputable def xk_104 : ys_K := (((yX4_thirdAround, cX4_thirdAround, 7, (some .int)), (1, 23)), ([.inr (some 0), .inr (some 3), .inl (.inl ([(0, 1)], 0)), .inl (.inl ([(1, 1)], 0)), .inl (.inl ([(2, 1)], 0))], ([(0, 39), (0, 39), (0, 39)] ++ yw_e63, []), xf_104), ([([((-1), 39)], [], (xf_104.1, xf_104.2), some (.inl (.inl ([(10, 1)], 0))))], []))
noncomputable def xq_104 : yt_Q := (yz_X4_thirdAround, (yl_flX4, yl_ciX4, yl_cjX4, yl_cpX4, yl_cqX4), [(38, ([((-720000), 720000), (1, 40)], [], (xf_104.1, xf_104.2), [(0, .inr (some 0)), (1, .inr (some 3)), (2, .inl (.inl ([(0, 1)], 0))), (3, .inl (.inl ([(1, 1)], 0))), (4, .inl (.inl ([(2, 1)], 0))), (5, .inl (.inl ([(10, 1)], 0))), (6, .inl (.inl ([(11, 1)], 0)))], [], ([(11, (-1))], 40)), [], false)], [])
noncomputable def xa_104 : List yt_CE := [(((122, false), (181, false, [3, 4, 5, 10, 11])), (yw_s11, xk_13)), (((126, true), (0, false, [])), (yw_s2, xk_103))]
noncomputable def xT_104 : yt_Tb := fun d => match d with
  | 181 => xP_13
  | _ => fun _ _ _ _ => True
theorem xc_104 {l : Launch} {D : va_G} {cT : Nat → ClassId} {tys : List (ClassId × FieldType)} (hty : yx_Ty tys cT) : yx_C l D cT tys yw_s63 xk_104 := yx_methodT (tb := xT_104) (fun _ _ _ _ => trivial) (calls := xa_104) (Z := xq_104) 300 (by decide +kernel) yz_X4_thirdAround_ok hty (yl_lkX4 _) (yl_cqkX4 _) (List.forall_mem_cons.mpr ⟨⟨xc_13 hty, yg_CLv rfl rfl rfl yl_wX4_122 yd_yX6_turn⟩, List.forall_mem_cons.mpr ⟨⟨xc_103 hty, yg_CLs yl_wX4_126 yd_yX4_isSameSide⟩, fun _ h => absurd h List.not_mem_nil⟩⟩) (by decide +kernel)
