noncomputable def yw_s45 : List ys_C := [.inl 11, .inl 6, .inr (0, 40, []), .inr (0, 40, []), .inl 5, .inr (1, 64, [])]
noncomputable def yw_f45 (n : Nat) : List (List ys_V) := [[.inr (some 1), .inr (some 8), .inr (some 9), .inr (some 10), .inr (some 11), .inr (some 12), .inr (some 13), .inr (some 14), .inr (some 15), .inr (some 16), .inr (some 4), .inr (some 17), .inr (some 18), .inr (some 19), .inl (.inl ([(n + 0, 1)], 0))], [.inr (some 2), .inr (some 3), .inr (some 6), .inr (some 7), .inl (.inl ([(n + 1, 1)], 0)), .inl (.inl ([(n + 2, 1)], 0))], [], [], [.inl (.inl ([(n + 3, 1)], 0)), .inl (.inl ([(n + 4, 1)], 0)), .inr (some 5), .inl (.inl ([(n + 5, 1)], 0))], []]
noncomputable def yw_e45 : ys_E := [((-2147483648), 2147483647), (0, 40), ((-2147483648), 2147483647), ((-2147483648), 2147483647), ((-2147483648), 2147483647), (0, 4095)]
noncomputable def yw_r45 : List ys_R := [((0, 0), []), ((0, 0), []), (((-300), 300), []), (((-300), 300), []), ((0, 0), []), (((-9223372036854775808), 9223372036854775807), [])]
noncomputable def xf_70 : ys_F := (yw_f45 2, yw_r45)
noncomputable def xk_70 : ys_K := (((yX11_isWay, cX11_isWay, 3, (some .int)), (4, 95)), ([.inr (some 0), .inl (.inl ([(0, 1)], 0)), .inl (.inl ([(1, 1)], 0))], ([((-2147483648), 2147483647), ((-2147483648), 2147483647)] ++ yw_e45, []), xf_70), ([([((-1), 1), (0, 4095)], [], ((ys_fs xf_70.1 [(4, 3, .inl (.inl ([(9, 1)], 0)))]), xf_70.2), some (.inl (.inl ([(8, 1)], 0))))], [5]))
noncomputable def xq_70 : yt_Q := (yz_X11_isWay, (yl_flX11, yl_ciX11, yl_cjX11, yl_cpX11, yl_cqX11), [], [])
noncomputable def xa_70 : List yt_CE := [(((254, false), (0, false, [0, 1, 2, 3, 6, 7, 8, 9, 10, 11, 12, 13, 14, 15, 16, 4, 17, 18, 19])), (yw_s8, xk_8)), (((264, true), (0, false, [])), (yw_s2, xk_69)), (((257, false), (0, false, [4, 5, 1, 2, 3, 6, 7])), (yw_s12, xk_16)), (((267, false), (0, false, [4, 5])), (yw_s10, xk_17))]
theorem xc_70 {l : Launch} {D : va_G} {cT : Nat → ClassId} {tys : List (ClassId × FieldType)} (hty : yx_Ty tys cT) : yx_C l D cT tys yw_s45 xk_70 := yx_method (calls := xa_70) (Z := xq_70) 300 (by decide +kernel) yz_X11_isWay_ok hty (yl_lkX11 _) (yl_cqkX11 _) (List.forall_mem_cons.mpr ⟨⟨xc_8 hty, yg_CLv rfl rfl rfl yl_wX11_254 yd_yX11_canPartFirst⟩, List.forall_mem_cons.mpr ⟨⟨xc_69 hty, yg_CLs yl_wX11_264 yd_yX5_fits⟩, List.forall_mem_cons.mpr ⟨⟨xc_16 hty, yg_CLv rfl rfl rfl yl_wX11_257 yd_yX5_find⟩, List.forall_mem_cons.mpr ⟨⟨xc_17 hty, yg_CLv rfl rfl rfl yl_wX11_267 yd_yX5_isMarked⟩, fun _ h => absurd h List.not_mem_nil⟩⟩⟩⟩) (by decide +kernel)
noncomputable def xf_71 : ys_F := (yw_f40 3, yw_r40)
noncomputable def xk_71 : ys_K := (((yX2_add, cX2_add, 4, none), (0, 0)), ([.inr (some 0), .inl (.inl ([(0, 1)], 0)), .inl (.inl ([(1, 1)], 0)), .inl (.inl ([(2, 1)], 0))], ([((-2147483648), 2147483647), ((-2147483648), 2147483647), ((-2147483648), 2147483647)] ++ yw_e40, []), xf_71), ([([], [([(3, (-1))], 11)], ((ys_fs xf_71.1 [(0, 0, .inl (.inl ([(3, 1)], 1)))]), xf_71.2), none), ([], [([(3, 1)], (-12))], (xf_71.1, xf_71.2), none)], [1, 2, 3]))
noncomputable def xq_71 : yt_Q := (yz_X2_add, (yl_flX2, yl_ciX2, yl_cjX2, yl_cpX2, yl_cqX2), [], [])
noncomputable def xa_71 : List yt_CE := []
theorem xc_71 {l : Launch} {D : va_G} {cT : Nat → ClassId} {tys : List (ClassId × FieldType)} (hty : yx_Ty tys cT) : yx_C l D cT tys yw_s40 xk_71 := yx_method (calls := xa_71) (Z := xq_71) 300 (by decide +kernel) yz_X2_add_ok hty (yl_lkX2 _) (yl_cqkX2 _) (fun _ h => absurd h List.not_mem_nil) (by decide +kernel)
noncomputable def yw_s46 : List ys_C := [.inl 11, .inl 2, .inr (0, 12, []), .inr (0, 12, []), .inr (0, 12, [])]
noncomputable def yw_f46 (n : Nat) : List (List ys_V) := [[.inr (some 5), .inr (some 1), .inr (some 6), .inr (some 7), .inr (some 8), .inr (some 9), .inr (some 10), .inr (some 11), .inr (some 12), .inr (some 13), .inr (some 14), .inr (some 15), .inr (some 16), .inr (some 17), .inl (.inl ([(n + 0, 1)], 0))], [.inl (.inl ([(n + 1, 1)], 0)), .inl (.inl ([(n + 2, 1)], 0)), .inr (some 2), .inr (some 3), .inr (some 4)], [], [], []]
noncomputable def yw_e46 : ys_E := [((-2147483648), 2147483647), (0, 12), ((-2147483648), 2147483647)]
noncomputable def yw_r46 : List ys_R := [((0, 0), []), ((0, 0), []), (((-2147483648), 2147483647), []), (((-2147483648), 2147483647), []), (((-2147483648), 2147483647), [])]
noncomputable def xf_72 : ys_F := (yw_f46 3, yw_r46)
noncomputable def xk_72 : ys_K := (((yX11_judge, cX11_judge, 4, (some .int)), (2, 42)), ([.inr (some 0), .inl (.inl ([(0, 1)], 0)), .inl (.inl ([(1, 1)], 0)), .inl (.inl ([(2, 1)], 0))], ([((-2147483648), 2147483647), ((-2147483648), 2147483647), ((-2147483648), 2147483647)] ++ yw_e46, []), xf_72), ([([((-5), 12), ((-2147483648), 0), (0, 12)], [], ((ys_fs xf_72.1 [(0, 14, .inl (.inl ([(7, 1)], 0))), (1, 0, .inl (.inl ([(8, 1)], 0)))]), xf_72.2), some (.inl (.inl ([(6, 1)], 0))))], [2, 3, 4]))
noncomputable def xq_72 : yt_Q := (yz_X11_judge, (yl_flX11, yl_ciX11, yl_cjX11, yl_cpX11, yl_cqX11), [], [true])
noncomputable def xa_72 : List yt_CE := [(((246, true), (72, false, [])), (yw_s2, xk_32)), (((107, false), (0, false, [0, 5, 1, 6, 7, 8, 9, 10, 11, 12, 13, 14, 15, 16, 17])), (yw_s3, xk_3)), (((311, false), (0, false, [1, 2, 3, 4])), (yw_s40, xk_71))]
noncomputable def xv_72 : List (List yt_VC) := [[(1000, ([((-2147483648), 2147483647), ((-2147483648), 2147483647), ((-2147483648), 2147483647), ((-2147483648), 2147483647), (0, 12), ((-2147483648), 2147483647), ((-2147483648), 0)], []), [([], (-1)), ([(6, 1)], 0), ([(4, 1)], 0)], [], [.inr (.inr (.inl (72, 0, [([(0, 1)], 0), ([(1, 1)], 0), ([(2, 1)], 0)], [], [])))]),
   (1000, ([((-2147483648), 2147483647), ((-2147483648), 2147483647), ((-1000000), 1000000), ((-2147483648), 2147483647), (0, 11), ((-2147483648), 2147483647), ((-2147483648), 0)], []), [([(4, 1)], 1), ([(6, 1)], 0), ([(4, 1)], 1)], [], [.inr (.inr (.inl (0, 0, [([(0, 1)], 0), ([(1, 1)], 0), ([(2, 1)], 0), ([(4, 1)], 0), ([(5, 1)], 0)], [1, 2, 3, 4], [2, 3, 4]))), .inr (.inr (.inl (72, 1, [([(0, 1)], 0), ([(1, 1)], 0), ([(2, 1)], 0)], [], [])))]),
   (1000, ([((-2147483648), 2147483647), ((-2147483648), 2147483647), ((-1000000), 1000000), ((-2147483648), 2147483647), (12, 12), ((-2147483648), 2147483647), ((-2147483648), 0)], []), [([], (-5)), ([(6, 1)], 0), ([(4, 1)], 0)], [], [.inr (.inr (.inl (72, 1, [([(0, 1)], 0), ([(1, 1)], 0), ([(2, 1)], 0)], [], [])))])]]
noncomputable def xG_72 : Nat → yt_G → (Nat → Int) → yt_G → Prop
  | _, _, _, _ => True
noncomputable def xP_72 : yt_Ph
  | 0, r, g0, g => (r 6) = yq_jr (r 0) (r 1) (r 2) ((1 * (r 4) + 0) + 0) ∧ ((1 * (r 8) + 0) + 0) = yq_jm (r 0) (r 1) (r 2) ((1 * (r 4) + 0) + 0)
  | _, _, _, _ => True
noncomputable def xR_72 : yt_Ps := fun r g0 => True
noncomputable def xT_72 : yt_Tb := fun d => match d with
  | 72 => xP_32
  | _ => fun _ _ _ _ => True
noncomputable def xU_72 : Nat → yt_Ps := fun d => match d with
  | 72 => xR_32
  | _ => fun _ _ => True
theorem xw_72_0_0 : yt_hold xT_72 xk_72 xq_72.2.2.1 xG_72 xP_72 xU_72 6 xk_72.2.1.2.2.2 (fun g0 r g => xR_72 r g0 ∧ g = g0) (1000, ([((-2147483648), 2147483647), ((-2147483648), 2147483647), ((-2147483648), 2147483647), ((-2147483648), 2147483647), (0, 12), ((-2147483648), 2147483647), ((-2147483648), 0)], []), [([], (-1)), ([(6, 1)], 0), ([(4, 1)], 0)], [], [.inr (.inr (.inl (72, 0, [([(0, 1)], 0), ([(1, 1)], 0), ([(2, 1)], 0)], [], [])))]) := by
  intro g0 r gi g hok hh hars hfr hG
  have b0 : (-2147483648) ≤ r 0 ∧ r 0 ≤ 2147483647 := hok.1 0 ((-2147483648), 2147483647) rfl
  have b1 : (-2147483648) ≤ r 1 ∧ r 1 ≤ 2147483647 := hok.1 1 ((-2147483648), 2147483647) rfl
  have b2 : (-2147483648) ≤ r 2 ∧ r 2 ≤ 2147483647 := hok.1 2 ((-2147483648), 2147483647) rfl
  have b4 : 0 ≤ r 4 ∧ r 4 ≤ 12 := hok.1 4 (0, 12) rfl
  have b6 : (-2147483648) ≤ r 6 ∧ r 6 ≤ 0 := hok.1 6 ((-2147483648), 0) rfl
  obtain ⟨hG, hgi⟩ := hG
  have hG : True := hG
  obtain ⟨h0, hh, e0, k0⟩ := hh
  have k0 : ∀ j, j ∉ [] → g j = h0 j := k0
  have e0 : ¬ ((-1000000 ≤ ((1 * r 0 + 0) + 0) ∧ ((1 * r 0 + 0) + 0) ≤ 1000000 ∧ -1000000 ≤ ((1 * r 1 + 0) + 0) ∧ ((1 * r 1 + 0) + 0) ≤ 1000000 ∧ -1000000 ≤ ((1 * r 2 + 0) + 0) ∧ ((1 * r 2 + 0) + 0) ≤ 1000000) ∧ (((1 * r 0 + 0) + 0) ≠ 0 ∨ ((1 * r 1 + 0) + 0) ≠ 0)) := e0
  have hh : h0 = gi := hh
  subst hh
  refine yt_dalt (by decide) (by decide) ?_
  rw [show xk_72.2.1.2.1.1.length = 6 from rfl]
  show ((0 : Int) + (-1)) = yq_jr ((1 * r 0 + 0) + 0) ((1 * r 1 + 0) + 0) ((1 * r 2 + 0) + 0) ((1 * ((1 * r 4 + 0) + 0) + 0) + 0) ∧ ((1 * ((1 * r 4 + 0) + 0) + 0) + 0) = yq_jm ((1 * r 0 + 0) + 0) ((1 * r 1 + 0) + 0) ((1 * r 2 + 0) + 0) ((1 * ((1 * r 4 + 0) + 0) + 0) + 0)
  try simp only [Int.one_mul, Int.zero_add, Int.add_zero]
  try simp only [Int.one_mul, Int.zero_add, Int.add_zero] at e0
  refine ⟨?_, ?_⟩
  · unfold yq_jr
    repeat' split
    all_goals omega
  · unfold yq_jm
    repeat' split
    all_goals omega
theorem xw_72_0_1 : yt_hold xT_72 xk_72 xq_72.2.2.1 xG_72 xP_72 xU_72 6 xk_72.2.1.2.2.2 (fun g0 r g => xR_72 r g0 ∧ g = g0) (1000, ([((-2147483648), 2147483647), ((-2147483648), 2147483647), ((-1000000), 1000000), ((-2147483648), 2147483647), (0, 11), ((-2147483648), 2147483647), ((-2147483648), 0)], []), [([(4, 1)], 1), ([(6, 1)], 0), ([(4, 1)], 1)], [], [.inr (.inr (.inl (0, 0, [([(0, 1)], 0), ([(1, 1)], 0), ([(2, 1)], 0), ([(4, 1)], 0), ([(5, 1)], 0)], [1, 2, 3, 4], [2, 3, 4]))), .inr (.inr (.inl (72, 1, [([(0, 1)], 0), ([(1, 1)], 0), ([(2, 1)], 0)], [], [])))]) := by
  intro g0 r gi g hok hh hars hfr hG
  have b0 : (-2147483648) ≤ r 0 ∧ r 0 ≤ 2147483647 := hok.1 0 ((-2147483648), 2147483647) rfl
  have b1 : (-2147483648) ≤ r 1 ∧ r 1 ≤ 2147483647 := hok.1 1 ((-2147483648), 2147483647) rfl
  have b2 : (-1000000) ≤ r 2 ∧ r 2 ≤ 1000000 := hok.1 2 ((-1000000), 1000000) rfl
  have b4 : 0 ≤ r 4 ∧ r 4 ≤ 11 := hok.1 4 (0, 11) rfl
  have b6 : (-2147483648) ≤ r 6 ∧ r 6 ≤ 0 := hok.1 6 ((-2147483648), 0) rfl
  obtain ⟨hG, hgi⟩ := hG
  have hG : True := hG
  obtain ⟨h0, hh, e0, k0⟩ := hh
  have k0 : ∀ j, j ∉ [2, 3, 4] → g j = h0 j := k0
  obtain ⟨h1, hh, e1, k1⟩ := hh
  have k1 : ∀ j, j ∉ [] → h0 j = h1 j := k1
  have e1 : (-1000000 ≤ ((1 * r 0 + 0) + 0) ∧ ((1 * r 0 + 0) + 0) ≤ 1000000 ∧ -1000000 ≤ ((1 * r 1 + 0) + 0) ∧ ((1 * r 1 + 0) + 0) ≤ 1000000 ∧ -1000000 ≤ ((1 * r 2 + 0) + 0) ∧ ((1 * r 2 + 0) + 0) ≤ 1000000) ∧ (((1 * r 0 + 0) + 0) ≠ 0 ∨ ((1 * r 1 + 0) + 0) ≠ 0) := e1
  have hh : h1 = gi := hh
  subst hh
  refine yt_dalt (by decide) (by decide) ?_
  rw [show xk_72.2.1.2.1.1.length = 6 from rfl]
  show ((1 * r 4 + 0) + 1) = yq_jr ((1 * r 0 + 0) + 0) ((1 * r 1 + 0) + 0) ((1 * r 2 + 0) + 0) ((1 * ((1 * r 4 + 0) + 0) + 0) + 0) ∧ ((1 * ((1 * r 4 + 0) + 1) + 0) + 0) = yq_jm ((1 * r 0 + 0) + 0) ((1 * r 1 + 0) + 0) ((1 * r 2 + 0) + 0) ((1 * ((1 * r 4 + 0) + 0) + 0) + 0)
  try simp only [Int.one_mul, Int.zero_add, Int.add_zero]
  try simp only [Int.one_mul, Int.zero_add, Int.add_zero] at e1
  refine ⟨?_, ?_⟩
  · unfold yq_jr
    repeat' split
    all_goals omega
  · unfold yq_jm
    repeat' split
    all_goals omega
theorem xw_72_0_2 : yt_hold xT_72 xk_72 xq_72.2.2.1 xG_72 xP_72 xU_72 6 xk_72.2.1.2.2.2 (fun g0 r g => xR_72 r g0 ∧ g = g0) (1000, ([((-2147483648), 2147483647), ((-2147483648), 2147483647), ((-1000000), 1000000), ((-2147483648), 2147483647), (12, 12), ((-2147483648), 2147483647), ((-2147483648), 0)], []), [([], (-5)), ([(6, 1)], 0), ([(4, 1)], 0)], [], [.inr (.inr (.inl (72, 1, [([(0, 1)], 0), ([(1, 1)], 0), ([(2, 1)], 0)], [], [])))]) := by
  intro g0 r gi g hok hh hars hfr hG
  have b0 : (-2147483648) ≤ r 0 ∧ r 0 ≤ 2147483647 := hok.1 0 ((-2147483648), 2147483647) rfl
  have b1 : (-2147483648) ≤ r 1 ∧ r 1 ≤ 2147483647 := hok.1 1 ((-2147483648), 2147483647) rfl
  have b2 : (-1000000) ≤ r 2 ∧ r 2 ≤ 1000000 := hok.1 2 ((-1000000), 1000000) rfl
  have b4 : 12 ≤ r 4 ∧ r 4 ≤ 12 := hok.1 4 (12, 12) rfl
  have b6 : (-2147483648) ≤ r 6 ∧ r 6 ≤ 0 := hok.1 6 ((-2147483648), 0) rfl
  obtain ⟨hG, hgi⟩ := hG
  have hG : True := hG
  obtain ⟨h0, hh, e0, k0⟩ := hh
  have k0 : ∀ j, j ∉ [] → g j = h0 j := k0
  have e0 : (-1000000 ≤ ((1 * r 0 + 0) + 0) ∧ ((1 * r 0 + 0) + 0) ≤ 1000000 ∧ -1000000 ≤ ((1 * r 1 + 0) + 0) ∧ ((1 * r 1 + 0) + 0) ≤ 1000000 ∧ -1000000 ≤ ((1 * r 2 + 0) + 0) ∧ ((1 * r 2 + 0) + 0) ≤ 1000000) ∧ (((1 * r 0 + 0) + 0) ≠ 0 ∨ ((1 * r 1 + 0) + 0) ≠ 0) := e0
  have hh : h0 = gi := hh
  subst hh
  refine yt_dalt (by decide) (by decide) ?_
  rw [show xk_72.2.1.2.1.1.length = 6 from rfl]
  show ((0 : Int) + (-5)) = yq_jr ((1 * r 0 + 0) + 0) ((1 * r 1 + 0) + 0) ((1 * r 2 + 0) + 0) ((1 * ((1 * r 4 + 0) + 0) + 0) + 0) ∧ ((1 * ((1 * r 4 + 0) + 0) + 0) + 0) = yq_jm ((1 * r 0 + 0) + 0) ((1 * r 1 + 0) + 0) ((1 * r 2 + 0) + 0) ((1 * ((1 * r 4 + 0) + 0) + 0) + 0)
  try simp only [Int.one_mul, Int.zero_add, Int.add_zero]
  try simp only [Int.one_mul, Int.zero_add, Int.add_zero] at e0
  refine ⟨?_, ?_⟩
  · unfold yq_jr
    repeat' split
    all_goals omega
  · unfold yq_jm
    repeat' split
    all_goals omega
theorem xn_72 : ∀ (j : Nat) (q : Nat × yt_T), xq_72.2.2.1[j]? = some q → q.2.2.2 = false → ∀ g0 r g, xG_72 j g0 r g
  | n + 0, q, hq, _ => by cases hq
theorem xs_72 : ∀ j, xq_72.2.2.2.getD j false = false → ∀ r g g', xP_72 j r g g'
  | 0, hf => by cases hf
  | n + 1, _ => fun _ _ _ => trivial
theorem xc_72 {l : Launch} {D : va_G} {cT : Nat → ClassId} {tys : List (ClassId × FieldType)} (hty : yx_Ty tys cT) : yt_Con l D vwCl cT tys yG yw_s46 xk_72 xR_72 xP_72 := yx_sem (calls := xa_72) (Z := xq_72) (tb := xT_72) (pt := xU_72) (Ga := xG_72) (vs := xv_72) (fun _ _ _ _ => trivial) 300 (by decide +kernel) yz_X11_judge_ok hty (yl_lkX11 _) (yl_cqkX11 _) (List.forall_mem_cons.mpr ⟨⟨xc_32 hty, yg_CLs yl_wX11_246 yd_yX2_isLine, fun _ _ _ => trivial⟩, List.forall_mem_cons.mpr ⟨⟨xc_3 hty, yg_CLv rfl rfl rfl yl_wX11_107 yd_yX11_told, fun _ _ _ => trivial⟩, List.forall_mem_cons.mpr ⟨⟨xc_71 hty, yg_CLv rfl rfl rfl yl_wX11_311 yd_yX2_add, fun _ _ _ => trivial⟩, fun _ h => absurd h List.not_mem_nil⟩⟩⟩) (xn_72) (xs_72) (by decide +kernel) (List.forall_mem_cons.mpr ⟨xw_72_0_0, List.forall_mem_cons.mpr ⟨xw_72_0_1, List.forall_mem_cons.mpr ⟨xw_72_0_2, fun _ h => absurd h List.not_mem_nil⟩⟩⟩) (trivial)
noncomputable def xf_73 : ys_F := (yw_f0 3, yw_r0)
noncomputable def xk_73 : ys_K := (((yX3_mend, cX3_mend, 4, none), (0, 0)), ([.inr (some 0), .inl (.inl ([(0, 1)], 0)), .inl (.inl ([(1, 1)], 0)), .inl (.inl ([(2, 1)], 0))], ([((-2147483648), 2147483647), ((-2147483648), 2147483647), ((-2147483648), 2147483647)] ++ yw_e0, []), xf_73), ([([((-9223372036854775808), 9223372036854775807), ((-9223372036854775808), 9223372036854775807), ((-9223372036854775808), 9223372036854775807)], [], ((ys_fs xf_73.1 [(0, 0, .inl (.inr ([(8, 1)], 0))), (0, 1, .inl (.inr ([(9, 1)], 0))), (0, 2, .inl (.inr ([(10, 1)], 0)))]), xf_73.2), none)], []))
noncomputable def xq_73 : yt_Q := (yz_X3_mend, (yl_flX3, yl_ciX3, yl_cjX3, yl_cpX3, yl_cqX3), [], [])
noncomputable def xa_73 : List yt_CE := []
theorem xc_73 {l : Launch} {D : va_G} {cT : Nat → ClassId} {tys : List (ClassId × FieldType)} (hty : yx_Ty tys cT) : yx_C l D cT tys yw_s0 xk_73 := yx_method (calls := xa_73) (Z := xq_73) 300 (by decide +kernel) yz_X3_mend_ok hty (yl_lkX3 _) (yl_cqkX3 _) (fun _ h => absurd h List.not_mem_nil) (by decide +kernel)
noncomputable def yw_s47 : List ys_C := [.inl 3, .inl 6, .inr (0, 40, []), .inr (0, 40, []), .inr (0, 40, [])]
noncomputable def yw_f47 (n : Nat) : List (List ys_V) := [[.inl (.inr ([(n + 0, 1)], 0)), .inl (.inr ([(n + 1, 1)], 0)), .inl (.inr ([(n + 2, 1)], 0)), .inl (.inr ([(n + 3, 1)], 0)), .inl (.inr ([(n + 4, 1)], 0))], [.inr (some 2), .inr (some 3), .inr (some 4), .inr (some 5), .inl (.inl ([(n + 5, 1)], 0)), .inl (.inl ([(n + 6, 1)], 0))], [], [], []]
noncomputable def yw_e47 : ys_E := [((-9223372036854775808), 9223372036854775807), ((-9223372036854775808), 9223372036854775807), ((-9223372036854775808), 9223372036854775807), ((-9223372036854775808), 9223372036854775807), ((-9223372036854775808), 9223372036854775807), (0, 40), ((-2147483648), 2147483647)]
noncomputable def yw_r47 : List ys_R := [((0, 0), []), ((0, 0), []), (((-300), 300), []), (((-300), 300), []), ((0, 1), [])]
noncomputable def xf_74 : ys_F := (yw_f47 0, yw_r47)
noncomputable def xk_74 : ys_K := (((yX3_goRound, cX3_goRound, 6, (some .int)), (1, 23)), ([.inr (some 0), .inr (some 1)], ([] ++ yw_e47, []), xf_74), ([([((-2147483648), 2147483647), ((-9223372036854775808), 9223372036854775807), ((-9223372036854775808), 9223372036854775807), ((-9223372036854775808), 9223372036854775807)], [], ((ys_fs xf_74.1 [(0, 0, .inl (.inr ([(8, 1)], 0))), (0, 1, .inl (.inr ([(9, 1)], 0))), (0, 2, .inl (.inr ([(10, 1)], 0)))]), xf_74.2), some (.inl (.inl ([(7, 1)], 0))))], []))
noncomputable def xq_74 : yt_Q := (yz_X3_goRound, (yl_flX3, yl_ciX3, yl_cjX3, yl_cpX3, yl_cqX3), [(4, ([((-2147483648), 2147483647), (0, 40), ((-9223372036854775808), 9223372036854775807), ((-9223372036854775808), 9223372036854775807), ((-9223372036854775808), 9223372036854775807)], [], ((ys_fs xf_74.1 [(0, 0, .inl (.inr ([(9, 1)], 0))), (0, 1, .inl (.inr ([(10, 1)], 0))), (0, 2, .inl (.inr ([(11, 1)], 0)))]), xf_74.2), [(0, .inr (some 0)), (1, .inr (some 1)), (2, .inl (.inl ([(7, 1)], 0))), (3, .inl (.inl ([(8, 1)], 0)))], [], ([(8, (-1))], 40)), [], false)], [])
noncomputable def xa_74 : List yt_CE := [(((47, false), (0, false, [0])), (yw_s0, xk_73))]
theorem xc_74 {l : Launch} {D : va_G} {cT : Nat → ClassId} {tys : List (ClassId × FieldType)} (hty : yx_Ty tys cT) : yx_C l D cT tys yw_s47 xk_74 := yx_method (calls := xa_74) (Z := xq_74) 300 (by decide +kernel) yz_X3_goRound_ok hty (yl_lkX3 _) (yl_cqkX3 _) (List.forall_mem_cons.mpr ⟨⟨xc_73 hty, yg_CLv rfl rfl rfl yl_wX3_47 yd_yX3_mend⟩, fun _ h => absurd h List.not_mem_nil⟩) (by decide +kernel)
noncomputable def xf_75 : ys_F := (yw_f47 1, yw_r47)
noncomputable def xk_75 : ys_K := (((yX3_train, cX3_train, 6, (some .int)), (2, 48)), ([.inr (some 0), .inr (some 1), .inl (.inl ([(0, 1)], 0))], ([(0, 4096)] ++ yw_e47, []), xf_75), ([([((-2147483648), 2147483647), ((-9223372036854775808), 9223372036854775807), ((-9223372036854775808), 9223372036854775807), ((-9223372036854775808), 9223372036854775807), ((-9223372036854775808), 9223372036854775807), ((-9223372036854775808), 9223372036854775807)], [], ((ys_fs xf_75.1 [(0, 0, .inl (.inr ([(9, 1)], 0))), (0, 1, .inl (.inr ([(10, 1)], 0))), (0, 2, .inl (.inr ([(11, 1)], 0))), (0, 3, .inl (.inr ([(12, 1)], 0))), (0, 4, .inl (.inr ([(13, 1)], 0)))]), xf_75.2), some (.inl (.inl ([(8, 1)], 0))))], []))
noncomputable def xq_75 : yt_Q := (yz_X3_train, (yl_flX3, yl_ciX3, yl_cjX3, yl_cpX3, yl_cqX3), [(5, ([((-2147483648), 2147483647), (0, 4096), ((-9223372036854775808), 9223372036854775807), ((-9223372036854775808), 9223372036854775807), ((-9223372036854775808), 9223372036854775807), ((-9223372036854775808), 9223372036854775807)], [], ((ys_fs xf_75.1 [(0, 0, .inl (.inr ([(10, 1)], 0))), (0, 1, .inl (.inr ([(11, 1)], 0))), (0, 2, .inl (.inr ([(12, 1)], 0))), (0, 4, .inl (.inr ([(13, 1)], 0)))]), xf_75.2), [(0, .inr (some 0)), (1, .inr (some 1)), (2, .inl (.inl ([(0, 1)], 0))), (3, .inl (.inl ([(8, 1)], 0))), (4, .inl (.inl ([(9, 1)], 0)))], [], ([(9, (-1))], 4096)), [], false)], [])
noncomputable def xa_75 : List yt_CE := [(((27, false), (0, false, [0, 1, 2, 3, 4, 5])), (yw_s47, xk_74))]
theorem xc_75 {l : Launch} {D : va_G} {cT : Nat → ClassId} {tys : List (ClassId × FieldType)} (hty : yx_Ty tys cT) : yx_C l D cT tys yw_s47 xk_75 := yx_method (calls := xa_75) (Z := xq_75) 300 (by decide +kernel) yz_X3_train_ok hty (yl_lkX3 _) (yl_cqkX3 _) (List.forall_mem_cons.mpr ⟨⟨xc_74 hty, yg_CLv rfl rfl rfl yl_wX3_27 yd_yX3_goRound⟩, fun _ h => absurd h List.not_mem_nil⟩) (by decide +kernel)
noncomputable def yw_s48 : List ys_C := [.inl 11, .inl 6, .inr (0, 40, []), .inr (0, 40, []), .inr (0, 40, []), .inl 3]
noncomputable def yw_f48 (n : Nat) : List (List ys_V) := [[.inr (some 1), .inr (some 7), .inr (some 5), .inr (some 8), .inr (some 9), .inr (some 10), .inr (some 11), .inr (some 12), .inr (some 13), .inr (some 14), .inr (some 15), .inr (some 16), .inr (some 17), .inr (some 18), .inl (.inl ([(n + 0, 1)], 0))], [.inr (some 2), .inr (some 3), .inr (some 4), .inr (some 6), .inl (.inl ([(n + 1, 1)], 0)), .inl (.inl ([(n + 2, 1)], 0))], [], [], [], [.inl (.inr ([(n + 3, 1)], 0)), .inl (.inr ([(n + 4, 1)], 0)), .inl (.inr ([(n + 5, 1)], 0)), .inl (.inr ([(n + 6, 1)], 0)), .inl (.inr ([(n + 7, 1)], 0))]]
noncomputable def yw_e48 : ys_E := [((-2147483648), 2147483647), (0, 40), ((-2147483648), 2147483647), ((-9223372036854775808), 9223372036854775807), ((-9223372036854775808), 9223372036854775807), ((-9223372036854775808), 9223372036854775807), ((-9223372036854775808), 9223372036854775807), ((-9223372036854775808), 9223372036854775807)]
noncomputable def yw_r48 : List ys_R := [((0, 0), []), ((0, 0), []), (((-300), 300), []), (((-300), 300), []), ((0, 1), []), ((0, 0), [])]
noncomputable def xf_76 : ys_F := (yw_f48 1, yw_r48)
noncomputable def xk_76 : ys_K := (((yX11_learn, cX11_learn, 2, (some .int)), (3, 73)), ([.inr (some 0), .inl (.inl ([(0, 1)], 0))], ([((-2147483648), 2147483647)] ++ yw_e48, []), xf_76), ([([((-2147483648), 2147483647), ((-2147483648), 0), ((-9223372036854775808), 9223372036854775807), ((-9223372036854775808), 9223372036854775807), ((-9223372036854775808), 9223372036854775807), ((-9223372036854775808), 9223372036854775807), ((-9223372036854775808), 9223372036854775807)], [], ((ys_fs xf_76.1 [(0, 14, .inl (.inl ([(10, 1)], 0))), (5, 0, .inl (.inr ([(11, 1)], 0))), (5, 1, .inl (.inr ([(12, 1)], 0))), (5, 2, .inl (.inr ([(13, 1)], 0))), (5, 3, .inl (.inr ([(14, 1)], 0))), (5, 4, .inl (.inr ([(15, 1)], 0)))]), xf_76.2), some (.inl (.inl ([(9, 1)], 0))))], []))
noncomputable def xq_76 : yt_Q := (yz_X11_learn, (yl_flX11, yl_ciX11, yl_cjX11, yl_cpX11, yl_cqX11), [], [])
noncomputable def xa_76 : List yt_CE := [(((107, false), (0, false, [0, 1, 7, 5, 8, 9, 10, 11, 12, 13, 14, 15, 16, 17, 18])), (yw_s3, xk_3)), (((288, false), (0, false, [5, 1, 2, 3, 4, 6])), (yw_s47, xk_75))]
theorem xc_76 {l : Launch} {D : va_G} {cT : Nat → ClassId} {tys : List (ClassId × FieldType)} (hty : yx_Ty tys cT) : yx_C l D cT tys yw_s48 xk_76 := yx_method (calls := xa_76) (Z := xq_76) 300 (by decide +kernel) yz_X11_learn_ok hty (yl_lkX11 _) (yl_cqkX11 _) (List.forall_mem_cons.mpr ⟨⟨xc_3 hty, yg_CLv rfl rfl rfl yl_wX11_107 yd_yX11_told⟩, List.forall_mem_cons.mpr ⟨⟨xc_75 hty, yg_CLv rfl rfl rfl yl_wX11_288 yd_yX3_train⟩, fun _ h => absurd h List.not_mem_nil⟩⟩) (by decide +kernel)
noncomputable def xf_77 : ys_F := (yw_f1 1, yw_r1)
noncomputable def xk_77 : ys_K := (((yX11_learnt, cX11_learnt, 2, (some .long)), (0, 0)), ([.inr (some 0), .inl (.inl ([(0, 1)], 0))], ([((-2147483648), 2147483647)] ++ yw_e1, []), xf_77), ([([((-9223372036854775808), 9223372036854775807)], [], (xf_77.1, xf_77.2), some (.inl (.inr ([(7, 1)], 0))))], []))
noncomputable def xq_77 : yt_Q := (yz_X11_learnt, (yl_flX11, yl_ciX11, yl_cjX11, yl_cpX11, yl_cqX11), [], [])
noncomputable def xa_77 : List yt_CE := []
theorem xc_77 {l : Launch} {D : va_G} {cT : Nat → ClassId} {tys : List (ClassId × FieldType)} (hty : yx_Ty tys cT) : yx_C l D cT tys yw_s1 xk_77 := yx_method (calls := xa_77) (Z := xq_77) 300 (by decide +kernel) yz_X11_learnt_ok hty (yl_lkX11 _) (yl_cqkX11 _) (fun _ h => absurd h List.not_mem_nil) (by decide +kernel)
noncomputable def xf_78 : ys_F := (yw_f35 0, yw_r35)
noncomputable def xk_78 : ys_K := (((yX11_left, cX11_left, 1, (some .int)), (0, 0)), ([.inr (some 0)], ([] ++ yw_e35, []), xf_78), ([([], [], (xf_78.1, xf_78.2), some (.inl (.inl ([(2, 1)], 0))))], []))
noncomputable def xq_78 : yt_Q := (yz_X11_left, (yl_flX11, yl_ciX11, yl_cjX11, yl_cpX11, yl_cqX11), [], [])
noncomputable def xa_78 : List yt_CE := []
theorem xc_78 {l : Launch} {D : va_G} {cT : Nat → ClassId} {tys : List (ClassId × FieldType)} (hty : yx_Ty tys cT) : yx_C l D cT tys yw_s35 xk_78 := yx_method (calls := xa_78) (Z := xq_78) 300 (by decide +kernel) yz_X11_left_ok hty (yl_lkX11 _) (yl_cqkX11 _) (fun _ h => absurd h List.not_mem_nil) (by decide +kernel)
noncomputable def yw_s49 : List ys_C := [.inl 11, .inl 9, .inr (1, 40, [])]
noncomputable def yw_f49 (n : Nat) : List (List ys_V) := [[.inr (some 3), .inr (some 4), .inr (some 5), .inr (some 6), .inr (some 7), .inr (some 8), .inr (some 9), .inr (some 10), .inr (some 11), .inr (some 12), .inr (some 13), .inr (some 1), .inr (some 22), .inr (some 23), .inl (.inl ([(n + 0, 1)], 0))], [.inr (some 14), .inr (some 15), .inr (some 16), .inr (some 17), .inr (some 18), .inr (some 2), .inl (.inl ([(n + 1, 1)], 0)), .inl (.inl ([(n + 2, 1)], 0)), .inl (.inl ([(n + 3, 1)], 0)), .inr (some 19), .inr (some 20), .inr (some 21), .inl (.inl ([(n + 4, 1)], 0)), .inl (.inl ([(n + 5, 1)], 0)), .inl (.inl ([(n + 6, 1)], 0)), .inl (.inr ([(n + 7, 1)], 0)), .inl (.inr ([(n + 8, 1)], 0))], []]
noncomputable def yw_e49 : ys_E := [((-2147483648), 2147483647), (0, 40), (0, 12), ((-2147483648), 2147483647), ((-2147483648), 2147483647), ((-2147483648), 2147483647), ((-2147483648), 2147483647), ((-9223372036854775808), 9223372036854775807), ((-9223372036854775808), 9223372036854775807)]
noncomputable def yw_r49 : List ys_R := [((0, 0), []), ((0, 0), []), (((-9223372036854775808), 9223372036854775807), [])]
noncomputable def xf_79 : ys_F := (yw_f49 1, yw_r49)
noncomputable def xk_79 : ys_K := (((yX11_mass, cX11_mass, 2, (some .long)), (1, 21)), ([.inr (some 0), .inl (.inl ([(0, 1)], 0))], ([((-2147483648), 2147483647)] ++ yw_e49, []), xf_79), ([([((-9223372036854775808), 9223372036854775807), ((-2147483648), 0)], [], ((ys_fs xf_79.1 [(0, 14, .inl (.inl ([(11, 1)], 0)))]), xf_79.2), some (.inl (.inr ([(10, 1)], 0))))], []))
noncomputable def xq_79 : yt_Q := (yz_X11_mass, (yl_flX11, yl_ciX11, yl_cjX11, yl_cpX11, yl_cqX11), [], [true])
noncomputable def xa_79 : List yt_CE := [(((107, false), (0, false, [0, 3, 4, 5, 6, 7, 8, 9, 10, 11, 12, 13, 1, 22, 23])), (yw_s3, xk_3))]
noncomputable def xv_79 : List (List yt_VC) := [[(1000, ([((-2147483648), (-1)), ((-2147483648), 2147483647), (0, 40), (0, 12), ((-2147483648), 2147483647), ((-2147483648), 2147483647), ((-2147483648), 2147483647), ((-2147483648), 2147483647), ((-9223372036854775808), 9223372036854775807), ((-9223372036854775808), 9223372036854775807), ((-2147483648), 0)], []), [([], (-1)), ([(10, 1)], 0)], [], []),
   (1000, ([(0, 39), ((-2147483648), 2147483647), (1, 40), (0, 12), ((-2147483648), 2147483647), ((-2147483648), 2147483647), ((-2147483648), 2147483647), ((-2147483648), 2147483647), ((-9223372036854775808), 9223372036854775807), ((-9223372036854775808), 9223372036854775807), ((-2147483648), 0), ((-9223372036854775808), 9223372036854775807)], [([(2, 1), (0, (-1))], (-1))]), [([(11, 1)], 0), ([(10, 1)], 0)], [], [.inl (.inl (2, ([(0, 1)], 0), 11))]),
   (1000, ([(0, 2147483647), ((-2147483648), 2147483647), (0, 40), (0, 12), ((-2147483648), 2147483647), ((-2147483648), 2147483647), ((-2147483648), 2147483647), ((-2147483648), 2147483647), ((-9223372036854775808), 9223372036854775807), ((-9223372036854775808), 9223372036854775807), ((-2147483648), 0)], [([(2, (-1)), (0, 1)], 0)]), [([], (-1)), ([(10, 1)], 0)], [], [])]]
noncomputable def xG_79 : Nat → yt_G → (Nat → Int) → yt_G → Prop
  | _, _, _, _ => True
noncomputable def xP_79 : yt_Ph
  | 0, r, g0, g => (r 10) = yy_ma (r 0) ((1 * (r 2) + 0) + 0) (g0 2)
  | _, _, _, _ => True
noncomputable def xR_79 : yt_Ps := fun r g0 => True
noncomputable def xT_79 : yt_Tb := fun d => match d with
  | _ => fun _ _ _ _ => True
noncomputable def xU_79 : Nat → yt_Ps := fun d => match d with
  | _ => fun _ _ => True
theorem xw_79_0_0 : yt_hold xT_79 xk_79 xq_79.2.2.1 xG_79 xP_79 xU_79 10 xk_79.2.1.2.2.2 (fun g0 r g => xR_79 r g0 ∧ g = g0) (1000, ([((-2147483648), (-1)), ((-2147483648), 2147483647), (0, 40), (0, 12), ((-2147483648), 2147483647), ((-2147483648), 2147483647), ((-2147483648), 2147483647), ((-2147483648), 2147483647), ((-9223372036854775808), 9223372036854775807), ((-9223372036854775808), 9223372036854775807), ((-2147483648), 0)], []), [([], (-1)), ([(10, 1)], 0)], [], []) := by
  intro g0 r gi g hok hh hars hfr hG
  have b0 : (-2147483648) ≤ r 0 ∧ r 0 ≤ (-1) := hok.1 0 ((-2147483648), (-1)) rfl
  have b2 : 0 ≤ r 2 ∧ r 2 ≤ 40 := hok.1 2 (0, 40) rfl
  have b10 : (-2147483648) ≤ r 10 ∧ r 10 ≤ 0 := hok.1 10 ((-2147483648), 0) rfl
  obtain ⟨hG, hgi⟩ := hG
  have hG : True := hG
  have hh : g = gi := hh
  subst hh
  refine yt_dalt (by decide) (by decide) ?_
  rw [show xk_79.2.1.2.1.1.length = 10 from rfl]
  show ((0 : Int) + (-1)) = yy_ma ((1 * r 0 + 0) + 0) ((1 * ((1 * r 2 + 0) + 0) + 0) + 0) (g0 2)
  try simp only [Int.one_mul, Int.zero_add, Int.add_zero]
  unfold yy_ma
  rw [if_neg (by omega)]
theorem xw_79_0_1 : yt_hold xT_79 xk_79 xq_79.2.2.1 xG_79 xP_79 xU_79 10 xk_79.2.1.2.2.2 (fun g0 r g => xR_79 r g0 ∧ g = g0) (1000, ([(0, 39), ((-2147483648), 2147483647), (1, 40), (0, 12), ((-2147483648), 2147483647), ((-2147483648), 2147483647), ((-2147483648), 2147483647), ((-2147483648), 2147483647), ((-9223372036854775808), 9223372036854775807), ((-9223372036854775808), 9223372036854775807), ((-2147483648), 0), ((-9223372036854775808), 9223372036854775807)], [([(2, 1), (0, (-1))], (-1))]), [([(11, 1)], 0), ([(10, 1)], 0)], [], [.inl (.inl (2, ([(0, 1)], 0), 11))]) := by
  intro g0 r gi g hok hh hars hfr hG
  have b0 : 0 ≤ r 0 ∧ r 0 ≤ 39 := hok.1 0 (0, 39) rfl
  have b2 : 1 ≤ r 2 ∧ r 2 ≤ 40 := hok.1 2 (1, 40) rfl
  have b10 : (-2147483648) ≤ r 10 ∧ r 10 ≤ 0 := hok.1 10 ((-2147483648), 0) rfl
  have b11 : (-9223372036854775808) ≤ r 11 ∧ r 11 ≤ 9223372036854775807 := hok.1 11 ((-9223372036854775808), 9223372036854775807) rfl
  have f0 : 0 ≤ ((1 * r 2 + ((-1) * r 0 + 0)) + (-1)) := hok.2 _ (List.mem_of_getElem? (i := 0) rfl)
  obtain ⟨hG, hgi⟩ := hG
  have hG : True := hG
  obtain ⟨g0, hh, q0, e0⟩ := hh
  subst q0
  have e0 : r 11 = g 2 (((1 * r 0 + 0) + 0)).toNat := e0
  rw [show (((1 * r 0 + 0) + 0)).toNat = (r 0).toNat by omega] at e0
  have hh : g = gi := hh
  subst hh
  refine yt_dalt (by decide) (by decide) ?_
  rw [show xk_79.2.1.2.1.1.length = 10 from rfl]
  show ((1 * r 11 + 0) + 0) = yy_ma ((1 * r 0 + 0) + 0) ((1 * ((1 * r 2 + 0) + 0) + 0) + 0) (g0 2)
  try simp only [Int.one_mul, Int.zero_add, Int.add_zero]
  rw [hgi] at e0
  unfold yy_ma
  rw [if_pos (by omega), ← e0]
theorem xw_79_0_2 : yt_hold xT_79 xk_79 xq_79.2.2.1 xG_79 xP_79 xU_79 10 xk_79.2.1.2.2.2 (fun g0 r g => xR_79 r g0 ∧ g = g0) (1000, ([(0, 2147483647), ((-2147483648), 2147483647), (0, 40), (0, 12), ((-2147483648), 2147483647), ((-2147483648), 2147483647), ((-2147483648), 2147483647), ((-2147483648), 2147483647), ((-9223372036854775808), 9223372036854775807), ((-9223372036854775808), 9223372036854775807), ((-2147483648), 0)], [([(2, (-1)), (0, 1)], 0)]), [([], (-1)), ([(10, 1)], 0)], [], []) := by
  intro g0 r gi g hok hh hars hfr hG
  have b0 : 0 ≤ r 0 ∧ r 0 ≤ 2147483647 := hok.1 0 (0, 2147483647) rfl
  have b2 : 0 ≤ r 2 ∧ r 2 ≤ 40 := hok.1 2 (0, 40) rfl
  have b10 : (-2147483648) ≤ r 10 ∧ r 10 ≤ 0 := hok.1 10 ((-2147483648), 0) rfl
  have f0 : 0 ≤ (((-1) * r 2 + (1 * r 0 + 0)) + 0) := hok.2 _ (List.mem_of_getElem? (i := 0) rfl)
  obtain ⟨hG, hgi⟩ := hG
  have hG : True := hG
  have hh : g = gi := hh
  subst hh
  refine yt_dalt (by decide) (by decide) ?_
  rw [show xk_79.2.1.2.1.1.length = 10 from rfl]
  show ((0 : Int) + (-1)) = yy_ma ((1 * r 0 + 0) + 0) ((1 * ((1 * r 2 + 0) + 0) + 0) + 0) (g0 2)
  try simp only [Int.one_mul, Int.zero_add, Int.add_zero]
  unfold yy_ma
  rw [if_neg (by omega)]
theorem xn_79 : ∀ (j : Nat) (q : Nat × yt_T), xq_79.2.2.1[j]? = some q → q.2.2.2 = false → ∀ g0 r g, xG_79 j g0 r g
  | n + 0, q, hq, _ => by cases hq
theorem xs_79 : ∀ j, xq_79.2.2.2.getD j false = false → ∀ r g g', xP_79 j r g g'
  | 0, hf => by cases hf
  | n + 1, _ => fun _ _ _ => trivial
theorem xc_79 {l : Launch} {D : va_G} {cT : Nat → ClassId} {tys : List (ClassId × FieldType)} (hty : yx_Ty tys cT) : yt_Con l D vwCl cT tys yG yw_s49 xk_79 xR_79 xP_79 := yx_sem (calls := xa_79) (Z := xq_79) (tb := xT_79) (pt := xU_79) (Ga := xG_79) (vs := xv_79) (fun _ _ _ _ => trivial) 300 (by decide +kernel) yz_X11_mass_ok hty (yl_lkX11 _) (yl_cqkX11 _) (List.forall_mem_cons.mpr ⟨⟨xc_3 hty, yg_CLv rfl rfl rfl yl_wX11_107 yd_yX11_told, fun _ _ _ => trivial⟩, fun _ h => absurd h List.not_mem_nil⟩) (xn_79) (xs_79) (by decide +kernel) (List.forall_mem_cons.mpr ⟨xw_79_0_0, List.forall_mem_cons.mpr ⟨xw_79_0_1, List.forall_mem_cons.mpr ⟨xw_79_0_2, fun _ h => absurd h List.not_mem_nil⟩⟩⟩) (trivial)
noncomputable def xf_80 : ys_F := (yw_f2 1, yw_r2)
noncomputable def xk_80 : ys_K := (((yX4_canTell, cX4_canTell, 1, (some .boolean)), (0, 0)), ([.inl (.inl ([(0, 1)], 0))], ([((-2147483648), 2147483647)] ++ yw_e2, []), xf_80), ([([], [], (xf_80.1, xf_80.2), some (.inl (.inl ([], 0)))), ([], [], (xf_80.1, xf_80.2), some (.inl (.inl ([], 1))))], []))
noncomputable def xq_80 : yt_Q := (yz_X4_canTell, (yl_flX4, yl_ciX4, yl_cjX4, yl_cpX4, yl_cqX4), [], [])
noncomputable def xa_80 : List yt_CE := []
theorem xc_80 {l : Launch} {D : va_G} {cT : Nat → ClassId} {tys : List (ClassId × FieldType)} (hty : yx_Ty tys cT) : yx_C l D cT tys yw_s2 xk_80 := yx_method (calls := xa_80) (Z := xq_80) 300 (by decide +kernel) yz_X4_canTell_ok hty (yl_lkX4 _) (yl_cqkX4 _) (fun _ h => absurd h List.not_mem_nil) (by decide +kernel)
noncomputable def xf_81 : ys_F := (yw_f16 0, yw_r16)
noncomputable def xk_81 : ys_K := (((yX6_hasBothColours, cX6_hasBothColours, 2, (some .boolean)), (1, 23)), ([.inr (some 0)], ([] ++ yw_e16, []), xf_81), ([([], [], (xf_81.1, xf_81.2), some (.inl (.inl ([], 0)))), ([], [([(0, 1)], (-2))], (xf_81.1, xf_81.2), some (.inl (.inl ([], 1))))], []))
noncomputable def xq_81 : yt_Q := (yz_X6_hasBothColours, (yl_flX6, yl_ciX6, yl_cjX6, yl_cpX6, yl_cqX6), [], [])
noncomputable def xa_81 : List yt_CE := [(((45, false), (150, false, [0, 1, 2, 3, 4])), (yw_s16, xk_21))]
noncomputable def xT_81 : yt_Tb := fun d => match d with
  | 150 => xP_21
  | _ => fun _ _ _ _ => True
theorem xc_81 {l : Launch} {D : va_G} {cT : Nat → ClassId} {tys : List (ClassId × FieldType)} (hty : yx_Ty tys cT) : yx_C l D cT tys yw_s16 xk_81 := yx_methodT (tb := xT_81) (fun _ _ _ _ => trivial) (calls := xa_81) (Z := xq_81) 300 (by decide +kernel) yz_X6_hasBothColours_ok hty (yl_lkX6 _) (yl_cqkX6 _) (List.forall_mem_cons.mpr ⟨⟨xc_21 hty, yg_CLv rfl rfl rfl yl_wX6_45 yd_yX6_tally⟩, fun _ h => absurd h List.not_mem_nil⟩) (by decide +kernel)
noncomputable def xf_82 : ys_F := (yw_f2 2, yw_r2)
noncomputable def xk_82 : ys_K := (((yX10_squareSum, cX10_squareSum, 4, (some .long)), (0, 0)), ([.inl (.inr ([(0, 1)], 0)), .inl (.inr ([(1, 1)], 0))], ([((-9223372036854775808), 9223372036854775807), ((-9223372036854775808), 9223372036854775807)] ++ yw_e2, []), xf_82), ([([((-9223372036854775808), 9223372036854775807)], [], (xf_82.1, xf_82.2), some (.inl (.inr ([(2, 1)], 0))))], []))
noncomputable def xq_82 : yt_Q := (yz_X10_squareSum, (yl_flX10, yl_ciX10, yl_cjX10, yl_cpX10, yl_cqX10), [], [])
noncomputable def xa_82 : List yt_CE := []
theorem xc_82 {l : Launch} {D : va_G} {cT : Nat → ClassId} {tys : List (ClassId × FieldType)} (hty : yx_Ty tys cT) : yx_C l D cT tys yw_s2 xk_82 := yx_method (calls := xa_82) (Z := xq_82) 300 (by decide +kernel) yz_X10_squareSum_ok hty (yl_lkX10 _) (yl_cqkX10 _) (fun _ h => absurd h List.not_mem_nil) (by decide +kernel)
noncomputable def xf_83 : ys_F := (yw_f2 2, yw_r2)
noncomputable def xk_83 : ys_K := (((yX1_common, cX1_common, 11, (some .long)), (1, 15)), ([.inl (.inr ([(0, 1)], 0)), .inl (.inr ([(1, 1)], 0))], ([((-9223372036854775808), 9223372036854775807), ((-9223372036854775808), 9223372036854775807)] ++ yw_e2, []), xf_83), ([([(1, 9223372036854775807)], [], (xf_83.1, xf_83.2), some (.inl (.inr ([(2, 1)], 0))))], []))
noncomputable def xq_83 : yt_Q := (yz_X1_common, (yl_flX1, yl_ciX1, yl_cjX1, yl_cpX1, yl_cqX1), [(15, ([((-9223372036854775808), 9223372036854775807), ((-9223372036854775808), 9223372036854775807), (0, 128)], [], (xf_83.1, xf_83.2), [(4, .inl (.inr ([(2, 1)], 0))), (6, .inl (.inr ([(3, 1)], 0))), (8, .inl (.inl ([(4, 1)], 0)))], [], ([(4, (-1))], 128)), [], true)], [true])
noncomputable def xa_83 : List yt_CE := []
noncomputable def xv_83 : List (List yt_VC) := [[(0, ([(0, 9223372036854775807), (0, 9223372036854775807), (0, 0), (0, 0)], []), [([(0, 1)], 0), ([(1, 1)], 0), ([], 0)], [], []),
   (0, ([(0, 9223372036854775807), ((-9223372036854775807), (-1)), (0, 0), (0, 0)], []), [([(0, 1)], 0), ([(1, (-1))], 0), ([], 0)], [], []),
   (0, ([(0, 9223372036854775807), ((-9223372036854775808), (-9223372036854775808)), (0, 0), (0, 0)], []), [([(0, 1)], 0), ([], (-9223372036854775808)), ([], 0)], [], []),
   (0, ([((-9223372036854775807), (-1)), (0, 9223372036854775807), (0, 0), (0, 0)], []), [([(0, (-1))], 0), ([(1, 1)], 0), ([], 0)], [], []),
   (0, ([((-9223372036854775807), (-1)), ((-9223372036854775807), (-1)), (0, 0), (0, 0)], []), [([(0, (-1))], 0), ([(1, (-1))], 0), ([], 0)], [], []),
   (0, ([((-9223372036854775807), (-1)), ((-9223372036854775808), (-9223372036854775808)), (0, 0), (0, 0)], []), [([(0, (-1))], 0), ([], (-9223372036854775808)), ([], 0)], [], []),
   (0, ([((-9223372036854775808), (-9223372036854775808)), (0, 9223372036854775807), (0, 0), (0, 0)], []), [([], (-9223372036854775808)), ([(1, 1)], 0), ([], 0)], [], []),
   (0, ([((-9223372036854775808), (-9223372036854775808)), ((-9223372036854775807), (-1)), (0, 0), (0, 0)], []), [([], (-9223372036854775808)), ([(1, (-1))], 0), ([], 0)], [], []),
   (0, ([((-9223372036854775808), (-9223372036854775808)), ((-9223372036854775808), (-9223372036854775808)), (0, 0), (0, 0)], []), [([], (-9223372036854775808)), ([], (-9223372036854775808)), ([], 0)], [], [])],
  [(1000, ([((-9223372036854775808), 9223372036854775807), ((-9223372036854775808), 9223372036854775807), ((-9223372036854775808), 0), ((-9223372036854775808), 9223372036854775807), (128, 128), (0, 0)], []), [([], 1)], [], []),
   (1000, ([((-9223372036854775808), 9223372036854775807), ((-9223372036854775808), 9223372036854775807), (1, 9223372036854775807), ((-9223372036854775808), 9223372036854775807), (128, 128), (0, 0)], []), [([(2, 1)], 0)], [], []),
   (1000, ([((-9223372036854775808), 9223372036854775807), ((-9223372036854775808), 9223372036854775807), ((-9223372036854775808), 0), (0, 0), (0, 127), (0, 0)], []), [([], 1)], [], []),
   (1000, ([((-9223372036854775808), 9223372036854775807), ((-9223372036854775808), 9223372036854775807), (1, 9223372036854775807), (0, 0), (0, 127), (0, 0)], []), [([(2, 1)], 0)], [], []),
   (0, ([((-9223372036854775808), 9223372036854775807), ((-9223372036854775808), 9223372036854775807), (0, 9223372036854775806), (1, 9223372036854775807), (0, 127), (0, 0)], [([(3, 1), (2, (-1))], (-1))]), [([(3, 1)], 0), ([(2, 1)], 0), ([(4, 1)], 1)], [], [.inr (.inr (.inl (998, 16, [([(2, 1)], 0), ([(3, 1)], 0), ([(2, 1)], 0)], [], [])))]),
   (0, ([((-9223372036854775808), 9223372036854775807), ((-9223372036854775808), 9223372036854775807), (1, 9223372036854775807), (1, 9223372036854775807), (0, 127), (0, 9223372036854775806)], [([(5, (-1)), (2, 1), (3, (-1))], 0), ([(3, 1), (5, (-1))], (-1)), ([(3, (-1)), (2, 1)], 0)]), [([(3, 1)], 0), ([(5, 1)], 0), ([(4, 1)], 1)], [], [.inr (.inr (.inl (998, 16, [([(2, 1)], 0), ([(3, 1)], 0), ([(5, 1)], 0)], [], [])))]),
   (0, ([((-9223372036854775808), 9223372036854775807), ((-9223372036854775808), 9223372036854775807), ((-9223372036854775808), (-1)), (1, 9223372036854775807), (0, 127), ((-9223372036854775806), 0)], [([(2, (-1)), (5, 1)], 0), ([(5, 1), (3, 1)], (-1))]), [([(3, 1)], 0), ([(5, 1)], 0), ([(4, 1)], 1)], [], [.inr (.inr (.inl (998, 16, [([(2, 1)], 0), ([(3, 1)], 0), ([(5, 1)], 0)], [], [])))]),
   (0, ([((-9223372036854775808), 9223372036854775807), ((-9223372036854775808), 9223372036854775807), (0, 9223372036854775807), ((-9223372036854775808), (-1)), (0, 127), (0, 9223372036854775807)], [([(5, (-1)), (2, 1)], 0), ([(3, (-1)), (5, (-1))], (-1))]), [([(3, 1)], 0), ([(5, 1)], 0), ([(4, 1)], 1)], [], [.inr (.inr (.inl (998, 16, [([(2, 1)], 0), ([(3, 1)], 0), ([(5, 1)], 0)], [], [])))]),
   (0, ([((-9223372036854775808), 9223372036854775807), ((-9223372036854775808), 9223372036854775807), ((-9223372036854775808), (-1)), ((-9223372036854775808), (-1)), (0, 127), ((-9223372036854775807), 0)], [([(2, (-1)), (5, 1)], 0), ([(5, 1), (3, (-1))], (-1))]), [([(3, 1)], 0), ([(5, 1)], 0), ([(4, 1)], 1)], [], [.inr (.inr (.inl (998, 16, [([(2, 1)], 0), ([(3, 1)], 0), ([(5, 1)], 0)], [], [])))])]]
noncomputable def xG_83 : Nat → yt_G → (Nat → Int) → yt_G → Prop
  | 0, g0, r, g => 0 ≤ (r 0) → 0 ≤ (r 1) → (0 ≤ ((1 * (r 2) + 0) + 0) ∧ 0 ≤ ((1 * (r 3) + 0) + 0) ∧ Nat.gcd (((1 * (r 2) + 0) + 0)).toNat (((1 * (r 3) + 0) + 0)).toNat = Nat.gcd ((r 0)).toNat ((r 1)).toNat ∧ (((1 * (r 4) + 0) + 0) = 0 ∨ (((1 * (r 3) + 0) + 0) < ((1 * (r 2) + 0) + 0) ∧ (((1 * (r 2) + 0) + 0)).toNat * (((1 * (r 3) + 0) + 0)).toNat * 2 ^ (((1 * (r 4) + 0) + 0) - 1).toNat < 2 ^ 126)))
  | _, _, _, _ => True
noncomputable def xP_83 : yt_Ph
  | 0, r, g0, g => 0 ≤ (r 0) → 0 ≤ (r 1) → (r 2) = yy_mx (Nat.gcd ((r 0)).toNat ((r 1)).toNat)
  | _, _, _, _ => True
noncomputable def xR_83 : yt_Ps := fun r g0 => True
noncomputable def xT_83 : yt_Tb := fun d => match d with
  | 998 => fun i r _ _ => yt_hwp i r
  | _ => fun _ _ _ _ => True
noncomputable def xU_83 : Nat → yt_Ps := fun d => match d with
  | _ => fun _ _ => True
theorem xw_83_0_0 : yt_hold xT_83 xk_83 xq_83.2.2.1 xG_83 xP_83 xU_83 2 xk_83.2.1.2.2.2 (fun g0 r g => xR_83 r g0 ∧ g = g0) (0, ([(0, 9223372036854775807), (0, 9223372036854775807), (0, 0), (0, 0)], []), [([(0, 1)], 0), ([(1, 1)], 0), ([], 0)], [], []) := by
  intro g0 r gi g hok hh hars hfr hG
  have b0 : 0 ≤ r 0 ∧ r 0 ≤ 9223372036854775807 := hok.1 0 (0, 9223372036854775807) rfl
  have b1 : 0 ≤ r 1 ∧ r 1 ≤ 9223372036854775807 := hok.1 1 (0, 9223372036854775807) rfl
  have b2 : 0 ≤ r 2 ∧ r 2 ≤ 0 := hok.1 2 (0, 0) rfl
  have b3 : 0 ≤ r 3 ∧ r 3 ≤ 0 := hok.1 3 (0, 0) rfl
  obtain ⟨hG, hgi⟩ := hG
  have hG : True := hG
  have hh : g = gi := hh
  subst hh
  refine yt_dcut (by decide) rfl ?_ ?_
  · exact fun f hf => absurd hf List.not_mem_nil
  · rw [show xk_83.2.1.2.1.1.length = 2 from rfl]
    show 0 ≤ ((1 * r 0 + 0) + 0) → 0 ≤ ((1 * r 1 + 0) + 0) → (0 ≤ ((1 * ((1 * r 0 + 0) + 0) + 0) + 0) ∧ 0 ≤ ((1 * ((1 * r 1 + 0) + 0) + 0) + 0) ∧ Nat.gcd (((1 * ((1 * r 0 + 0) + 0) + 0) + 0)).toNat (((1 * ((1 * r 1 + 0) + 0) + 0) + 0)).toNat = Nat.gcd (((1 * r 0 + 0) + 0)).toNat (((1 * r 1 + 0) + 0)).toNat ∧ (((1 * ((0 : Int) + 0) + 0) + 0) = 0 ∨ (((1 * ((1 * r 1 + 0) + 0) + 0) + 0) < ((1 * ((1 * r 0 + 0) + 0) + 0) + 0) ∧ (((1 * ((1 * r 0 + 0) + 0) + 0) + 0)).toNat * (((1 * ((1 * r 1 + 0) + 0) + 0) + 0)).toNat * 2 ^ (((1 * ((0 : Int) + 0) + 0) + 0) - 1).toNat < 2 ^ 126)))
    try simp only [Int.one_mul, Int.zero_add, Int.add_zero]
    intro p0 p1
    first
      | (exfalso; omega)
      | exact ⟨by omega, by omega, by first | rfl | trivial, Or.inl (by first | rfl | trivial)⟩
theorem xw_83_0_1 : yt_hold xT_83 xk_83 xq_83.2.2.1 xG_83 xP_83 xU_83 2 xk_83.2.1.2.2.2 (fun g0 r g => xR_83 r g0 ∧ g = g0) (0, ([(0, 9223372036854775807), ((-9223372036854775807), (-1)), (0, 0), (0, 0)], []), [([(0, 1)], 0), ([(1, (-1))], 0), ([], 0)], [], []) := by
  intro g0 r gi g hok hh hars hfr hG
  have b0 : 0 ≤ r 0 ∧ r 0 ≤ 9223372036854775807 := hok.1 0 (0, 9223372036854775807) rfl
  have b1 : (-9223372036854775807) ≤ r 1 ∧ r 1 ≤ (-1) := hok.1 1 ((-9223372036854775807), (-1)) rfl
  have b2 : 0 ≤ r 2 ∧ r 2 ≤ 0 := hok.1 2 (0, 0) rfl
  have b3 : 0 ≤ r 3 ∧ r 3 ≤ 0 := hok.1 3 (0, 0) rfl
  obtain ⟨hG, hgi⟩ := hG
  have hG : True := hG
  have hh : g = gi := hh
  subst hh
  refine yt_dcut (by decide) rfl ?_ ?_
  · exact fun f hf => absurd hf List.not_mem_nil
  · rw [show xk_83.2.1.2.1.1.length = 2 from rfl]
    show 0 ≤ ((1 * r 0 + 0) + 0) → 0 ≤ ((1 * r 1 + 0) + 0) → (0 ≤ ((1 * ((1 * r 0 + 0) + 0) + 0) + 0) ∧ 0 ≤ ((1 * (((-1) * r 1 + 0) + 0) + 0) + 0) ∧ Nat.gcd (((1 * ((1 * r 0 + 0) + 0) + 0) + 0)).toNat (((1 * (((-1) * r 1 + 0) + 0) + 0) + 0)).toNat = Nat.gcd (((1 * r 0 + 0) + 0)).toNat (((1 * r 1 + 0) + 0)).toNat ∧ (((1 * ((0 : Int) + 0) + 0) + 0) = 0 ∨ (((1 * (((-1) * r 1 + 0) + 0) + 0) + 0) < ((1 * ((1 * r 0 + 0) + 0) + 0) + 0) ∧ (((1 * ((1 * r 0 + 0) + 0) + 0) + 0)).toNat * (((1 * (((-1) * r 1 + 0) + 0) + 0) + 0)).toNat * 2 ^ (((1 * ((0 : Int) + 0) + 0) + 0) - 1).toNat < 2 ^ 126)))
    try simp only [Int.one_mul, Int.zero_add, Int.add_zero]
    intro p0 p1
    first
      | (exfalso; omega)
      | exact ⟨by omega, by omega, by first | rfl | trivial, Or.inl (by first | rfl | trivial)⟩
theorem xw_83_0_2 : yt_hold xT_83 xk_83 xq_83.2.2.1 xG_83 xP_83 xU_83 2 xk_83.2.1.2.2.2 (fun g0 r g => xR_83 r g0 ∧ g = g0) (0, ([(0, 9223372036854775807), ((-9223372036854775808), (-9223372036854775808)), (0, 0), (0, 0)], []), [([(0, 1)], 0), ([], (-9223372036854775808)), ([], 0)], [], []) := by
  intro g0 r gi g hok hh hars hfr hG
  have b0 : 0 ≤ r 0 ∧ r 0 ≤ 9223372036854775807 := hok.1 0 (0, 9223372036854775807) rfl
  have b1 : (-9223372036854775808) ≤ r 1 ∧ r 1 ≤ (-9223372036854775808) := hok.1 1 ((-9223372036854775808), (-9223372036854775808)) rfl
  have b2 : 0 ≤ r 2 ∧ r 2 ≤ 0 := hok.1 2 (0, 0) rfl
  have b3 : 0 ≤ r 3 ∧ r 3 ≤ 0 := hok.1 3 (0, 0) rfl
  obtain ⟨hG, hgi⟩ := hG
  have hG : True := hG
  have hh : g = gi := hh
  subst hh
  refine yt_dcut (by decide) rfl ?_ ?_
  · exact fun f hf => absurd hf List.not_mem_nil
  · rw [show xk_83.2.1.2.1.1.length = 2 from rfl]
    show 0 ≤ ((1 * r 0 + 0) + 0) → 0 ≤ ((1 * r 1 + 0) + 0) → (0 ≤ ((1 * ((1 * r 0 + 0) + 0) + 0) + 0) ∧ 0 ≤ ((1 * ((0 : Int) + (-9223372036854775808)) + 0) + 0) ∧ Nat.gcd (((1 * ((1 * r 0 + 0) + 0) + 0) + 0)).toNat (((1 * ((0 : Int) + (-9223372036854775808)) + 0) + 0)).toNat = Nat.gcd (((1 * r 0 + 0) + 0)).toNat (((1 * r 1 + 0) + 0)).toNat ∧ (((1 * ((0 : Int) + 0) + 0) + 0) = 0 ∨ (((1 * ((0 : Int) + (-9223372036854775808)) + 0) + 0) < ((1 * ((1 * r 0 + 0) + 0) + 0) + 0) ∧ (((1 * ((1 * r 0 + 0) + 0) + 0) + 0)).toNat * (((1 * ((0 : Int) + (-9223372036854775808)) + 0) + 0)).toNat * 2 ^ (((1 * ((0 : Int) + 0) + 0) + 0) - 1).toNat < 2 ^ 126)))
    try simp only [Int.one_mul, Int.zero_add, Int.add_zero]
    intro p0 p1
    first
      | (exfalso; omega)
      | exact ⟨by omega, by omega, by first | rfl | trivial, Or.inl (by first | rfl | trivial)⟩
theorem xw_83_0_3 : yt_hold xT_83 xk_83 xq_83.2.2.1 xG_83 xP_83 xU_83 2 xk_83.2.1.2.2.2 (fun g0 r g => xR_83 r g0 ∧ g = g0) (0, ([((-9223372036854775807), (-1)), (0, 9223372036854775807), (0, 0), (0, 0)], []), [([(0, (-1))], 0), ([(1, 1)], 0), ([], 0)], [], []) := by
  intro g0 r gi g hok hh hars hfr hG
  have b0 : (-9223372036854775807) ≤ r 0 ∧ r 0 ≤ (-1) := hok.1 0 ((-9223372036854775807), (-1)) rfl
  have b1 : 0 ≤ r 1 ∧ r 1 ≤ 9223372036854775807 := hok.1 1 (0, 9223372036854775807) rfl
  have b2 : 0 ≤ r 2 ∧ r 2 ≤ 0 := hok.1 2 (0, 0) rfl
  have b3 : 0 ≤ r 3 ∧ r 3 ≤ 0 := hok.1 3 (0, 0) rfl
  obtain ⟨hG, hgi⟩ := hG
  have hG : True := hG
  have hh : g = gi := hh
  subst hh
  refine yt_dcut (by decide) rfl ?_ ?_
  · exact fun f hf => absurd hf List.not_mem_nil
  · rw [show xk_83.2.1.2.1.1.length = 2 from rfl]
    show 0 ≤ ((1 * r 0 + 0) + 0) → 0 ≤ ((1 * r 1 + 0) + 0) → (0 ≤ ((1 * (((-1) * r 0 + 0) + 0) + 0) + 0) ∧ 0 ≤ ((1 * ((1 * r 1 + 0) + 0) + 0) + 0) ∧ Nat.gcd (((1 * (((-1) * r 0 + 0) + 0) + 0) + 0)).toNat (((1 * ((1 * r 1 + 0) + 0) + 0) + 0)).toNat = Nat.gcd (((1 * r 0 + 0) + 0)).toNat (((1 * r 1 + 0) + 0)).toNat ∧ (((1 * ((0 : Int) + 0) + 0) + 0) = 0 ∨ (((1 * ((1 * r 1 + 0) + 0) + 0) + 0) < ((1 * (((-1) * r 0 + 0) + 0) + 0) + 0) ∧ (((1 * (((-1) * r 0 + 0) + 0) + 0) + 0)).toNat * (((1 * ((1 * r 1 + 0) + 0) + 0) + 0)).toNat * 2 ^ (((1 * ((0 : Int) + 0) + 0) + 0) - 1).toNat < 2 ^ 126)))
    try simp only [Int.one_mul, Int.zero_add, Int.add_zero]
    intro p0 p1
    first
      | (exfalso; omega)
      | exact ⟨by omega, by omega, by first | rfl | trivial, Or.inl (by first | rfl | trivial)⟩
theorem xw_83_0_4 : yt_hold xT_83 xk_83 xq_83.2.2.1 xG_83 xP_83 xU_83 2 xk_83.2.1.2.2.2 (fun g0 r g => xR_83 r g0 ∧ g = g0) (0, ([((-9223372036854775807), (-1)), ((-9223372036854775807), (-1)), (0, 0), (0, 0)], []), [([(0, (-1))], 0), ([(1, (-1))], 0), ([], 0)], [], []) := by
  intro g0 r gi g hok hh hars hfr hG
  have b0 : (-9223372036854775807) ≤ r 0 ∧ r 0 ≤ (-1) := hok.1 0 ((-9223372036854775807), (-1)) rfl
  have b1 : (-9223372036854775807) ≤ r 1 ∧ r 1 ≤ (-1) := hok.1 1 ((-9223372036854775807), (-1)) rfl
  have b2 : 0 ≤ r 2 ∧ r 2 ≤ 0 := hok.1 2 (0, 0) rfl
  have b3 : 0 ≤ r 3 ∧ r 3 ≤ 0 := hok.1 3 (0, 0) rfl
  obtain ⟨hG, hgi⟩ := hG
  have hG : True := hG
  have hh : g = gi := hh
  subst hh
  refine yt_dcut (by decide) rfl ?_ ?_
  · exact fun f hf => absurd hf List.not_mem_nil
  · rw [show xk_83.2.1.2.1.1.length = 2 from rfl]
    show 0 ≤ ((1 * r 0 + 0) + 0) → 0 ≤ ((1 * r 1 + 0) + 0) → (0 ≤ ((1 * (((-1) * r 0 + 0) + 0) + 0) + 0) ∧ 0 ≤ ((1 * (((-1) * r 1 + 0) + 0) + 0) + 0) ∧ Nat.gcd (((1 * (((-1) * r 0 + 0) + 0) + 0) + 0)).toNat (((1 * (((-1) * r 1 + 0) + 0) + 0) + 0)).toNat = Nat.gcd (((1 * r 0 + 0) + 0)).toNat (((1 * r 1 + 0) + 0)).toNat ∧ (((1 * ((0 : Int) + 0) + 0) + 0) = 0 ∨ (((1 * (((-1) * r 1 + 0) + 0) + 0) + 0) < ((1 * (((-1) * r 0 + 0) + 0) + 0) + 0) ∧ (((1 * (((-1) * r 0 + 0) + 0) + 0) + 0)).toNat * (((1 * (((-1) * r 1 + 0) + 0) + 0) + 0)).toNat * 2 ^ (((1 * ((0 : Int) + 0) + 0) + 0) - 1).toNat < 2 ^ 126)))
    try simp only [Int.one_mul, Int.zero_add, Int.add_zero]
    intro p0 p1
    first
      | (exfalso; omega)
      | exact ⟨by omega, by omega, by first | rfl | trivial, Or.inl (by first | rfl | trivial)⟩
theorem xw_83_0_5 : yt_hold xT_83 xk_83 xq_83.2.2.1 xG_83 xP_83 xU_83 2 xk_83.2.1.2.2.2 (fun g0 r g => xR_83 r g0 ∧ g = g0) (0, ([((-9223372036854775807), (-1)), ((-9223372036854775808), (-9223372036854775808)), (0, 0), (0, 0)], []), [([(0, (-1))], 0), ([], (-9223372036854775808)), ([], 0)], [], []) := by
  intro g0 r gi g hok hh hars hfr hG
  have b0 : (-9223372036854775807) ≤ r 0 ∧ r 0 ≤ (-1) := hok.1 0 ((-9223372036854775807), (-1)) rfl
  have b1 : (-9223372036854775808) ≤ r 1 ∧ r 1 ≤ (-9223372036854775808) := hok.1 1 ((-9223372036854775808), (-9223372036854775808)) rfl
  have b2 : 0 ≤ r 2 ∧ r 2 ≤ 0 := hok.1 2 (0, 0) rfl
  have b3 : 0 ≤ r 3 ∧ r 3 ≤ 0 := hok.1 3 (0, 0) rfl
  obtain ⟨hG, hgi⟩ := hG
  have hG : True := hG
  have hh : g = gi := hh
  subst hh
  refine yt_dcut (by decide) rfl ?_ ?_
  · exact fun f hf => absurd hf List.not_mem_nil
  · rw [show xk_83.2.1.2.1.1.length = 2 from rfl]
    show 0 ≤ ((1 * r 0 + 0) + 0) → 0 ≤ ((1 * r 1 + 0) + 0) → (0 ≤ ((1 * (((-1) * r 0 + 0) + 0) + 0) + 0) ∧ 0 ≤ ((1 * ((0 : Int) + (-9223372036854775808)) + 0) + 0) ∧ Nat.gcd (((1 * (((-1) * r 0 + 0) + 0) + 0) + 0)).toNat (((1 * ((0 : Int) + (-9223372036854775808)) + 0) + 0)).toNat = Nat.gcd (((1 * r 0 + 0) + 0)).toNat (((1 * r 1 + 0) + 0)).toNat ∧ (((1 * ((0 : Int) + 0) + 0) + 0) = 0 ∨ (((1 * ((0 : Int) + (-9223372036854775808)) + 0) + 0) < ((1 * (((-1) * r 0 + 0) + 0) + 0) + 0) ∧ (((1 * (((-1) * r 0 + 0) + 0) + 0) + 0)).toNat * (((1 * ((0 : Int) + (-9223372036854775808)) + 0) + 0)).toNat * 2 ^ (((1 * ((0 : Int) + 0) + 0) + 0) - 1).toNat < 2 ^ 126)))
    try simp only [Int.one_mul, Int.zero_add, Int.add_zero]
    intro p0 p1
    first
      | (exfalso; omega)
      | exact ⟨by omega, by omega, by first | rfl | trivial, Or.inl (by first | rfl | trivial)⟩
theorem xw_83_0_6 : yt_hold xT_83 xk_83 xq_83.2.2.1 xG_83 xP_83 xU_83 2 xk_83.2.1.2.2.2 (fun g0 r g => xR_83 r g0 ∧ g = g0) (0, ([((-9223372036854775808), (-9223372036854775808)), (0, 9223372036854775807), (0, 0), (0, 0)], []), [([], (-9223372036854775808)), ([(1, 1)], 0), ([], 0)], [], []) := by
  intro g0 r gi g hok hh hars hfr hG
  have b0 : (-9223372036854775808) ≤ r 0 ∧ r 0 ≤ (-9223372036854775808) := hok.1 0 ((-9223372036854775808), (-9223372036854775808)) rfl
  have b1 : 0 ≤ r 1 ∧ r 1 ≤ 9223372036854775807 := hok.1 1 (0, 9223372036854775807) rfl
  have b2 : 0 ≤ r 2 ∧ r 2 ≤ 0 := hok.1 2 (0, 0) rfl
  have b3 : 0 ≤ r 3 ∧ r 3 ≤ 0 := hok.1 3 (0, 0) rfl
  obtain ⟨hG, hgi⟩ := hG
  have hG : True := hG
  have hh : g = gi := hh
  subst hh
  refine yt_dcut (by decide) rfl ?_ ?_
  · exact fun f hf => absurd hf List.not_mem_nil
  · rw [show xk_83.2.1.2.1.1.length = 2 from rfl]
    show 0 ≤ ((1 * r 0 + 0) + 0) → 0 ≤ ((1 * r 1 + 0) + 0) → (0 ≤ ((1 * ((0 : Int) + (-9223372036854775808)) + 0) + 0) ∧ 0 ≤ ((1 * ((1 * r 1 + 0) + 0) + 0) + 0) ∧ Nat.gcd (((1 * ((0 : Int) + (-9223372036854775808)) + 0) + 0)).toNat (((1 * ((1 * r 1 + 0) + 0) + 0) + 0)).toNat = Nat.gcd (((1 * r 0 + 0) + 0)).toNat (((1 * r 1 + 0) + 0)).toNat ∧ (((1 * ((0 : Int) + 0) + 0) + 0) = 0 ∨ (((1 * ((1 * r 1 + 0) + 0) + 0) + 0) < ((1 * ((0 : Int) + (-9223372036854775808)) + 0) + 0) ∧ (((1 * ((0 : Int) + (-9223372036854775808)) + 0) + 0)).toNat * (((1 * ((1 * r 1 + 0) + 0) + 0) + 0)).toNat * 2 ^ (((1 * ((0 : Int) + 0) + 0) + 0) - 1).toNat < 2 ^ 126)))
    try simp only [Int.one_mul, Int.zero_add, Int.add_zero]
    intro p0 p1
    first
      | (exfalso; omega)
      | exact ⟨by omega, by omega, by first | rfl | trivial, Or.inl (by first | rfl | trivial)⟩
theorem xw_83_0_7 : yt_hold xT_83 xk_83 xq_83.2.2.1 xG_83 xP_83 xU_83 2 xk_83.2.1.2.2.2 (fun g0 r g => xR_83 r g0 ∧ g = g0) (0, ([((-9223372036854775808), (-9223372036854775808)), ((-9223372036854775807), (-1)), (0, 0), (0, 0)], []), [([], (-9223372036854775808)), ([(1, (-1))], 0), ([], 0)], [], []) := by
  intro g0 r gi g hok hh hars hfr hG
  have b0 : (-9223372036854775808) ≤ r 0 ∧ r 0 ≤ (-9223372036854775808) := hok.1 0 ((-9223372036854775808), (-9223372036854775808)) rfl
  have b1 : (-9223372036854775807) ≤ r 1 ∧ r 1 ≤ (-1) := hok.1 1 ((-9223372036854775807), (-1)) rfl
  have b2 : 0 ≤ r 2 ∧ r 2 ≤ 0 := hok.1 2 (0, 0) rfl
  have b3 : 0 ≤ r 3 ∧ r 3 ≤ 0 := hok.1 3 (0, 0) rfl
  obtain ⟨hG, hgi⟩ := hG
  have hG : True := hG
  have hh : g = gi := hh
  subst hh
  refine yt_dcut (by decide) rfl ?_ ?_
  · exact fun f hf => absurd hf List.not_mem_nil
  · rw [show xk_83.2.1.2.1.1.length = 2 from rfl]
    show 0 ≤ ((1 * r 0 + 0) + 0) → 0 ≤ ((1 * r 1 + 0) + 0) → (0 ≤ ((1 * ((0 : Int) + (-9223372036854775808)) + 0) + 0) ∧ 0 ≤ ((1 * (((-1) * r 1 + 0) + 0) + 0) + 0) ∧ Nat.gcd (((1 * ((0 : Int) + (-9223372036854775808)) + 0) + 0)).toNat (((1 * (((-1) * r 1 + 0) + 0) + 0) + 0)).toNat = Nat.gcd (((1 * r 0 + 0) + 0)).toNat (((1 * r 1 + 0) + 0)).toNat ∧ (((1 * ((0 : Int) + 0) + 0) + 0) = 0 ∨ (((1 * (((-1) * r 1 + 0) + 0) + 0) + 0) < ((1 * ((0 : Int) + (-9223372036854775808)) + 0) + 0) ∧ (((1 * ((0 : Int) + (-9223372036854775808)) + 0) + 0)).toNat * (((1 * (((-1) * r 1 + 0) + 0) + 0) + 0)).toNat * 2 ^ (((1 * ((0 : Int) + 0) + 0) + 0) - 1).toNat < 2 ^ 126)))
    try simp only [Int.one_mul, Int.zero_add, Int.add_zero]
    intro p0 p1
    first
      | (exfalso; omega)
      | exact ⟨by omega, by omega, by first | rfl | trivial, Or.inl (by first | rfl | trivial)⟩
theorem xw_83_0_8 : yt_hold xT_83 xk_83 xq_83.2.2.1 xG_83 xP_83 xU_83 2 xk_83.2.1.2.2.2 (fun g0 r g => xR_83 r g0 ∧ g = g0) (0, ([((-9223372036854775808), (-9223372036854775808)), ((-9223372036854775808), (-9223372036854775808)), (0, 0), (0, 0)], []), [([], (-9223372036854775808)), ([], (-9223372036854775808)), ([], 0)], [], []) := by
  intro g0 r gi g hok hh hars hfr hG
  have b0 : (-9223372036854775808) ≤ r 0 ∧ r 0 ≤ (-9223372036854775808) := hok.1 0 ((-9223372036854775808), (-9223372036854775808)) rfl
  have b1 : (-9223372036854775808) ≤ r 1 ∧ r 1 ≤ (-9223372036854775808) := hok.1 1 ((-9223372036854775808), (-9223372036854775808)) rfl
  have b2 : 0 ≤ r 2 ∧ r 2 ≤ 0 := hok.1 2 (0, 0) rfl
  have b3 : 0 ≤ r 3 ∧ r 3 ≤ 0 := hok.1 3 (0, 0) rfl
  obtain ⟨hG, hgi⟩ := hG
  have hG : True := hG
  have hh : g = gi := hh
  subst hh
  refine yt_dcut (by decide) rfl ?_ ?_
  · exact fun f hf => absurd hf List.not_mem_nil
  · rw [show xk_83.2.1.2.1.1.length = 2 from rfl]
    show 0 ≤ ((1 * r 0 + 0) + 0) → 0 ≤ ((1 * r 1 + 0) + 0) → (0 ≤ ((1 * ((0 : Int) + (-9223372036854775808)) + 0) + 0) ∧ 0 ≤ ((1 * ((0 : Int) + (-9223372036854775808)) + 0) + 0) ∧ Nat.gcd (((1 * ((0 : Int) + (-9223372036854775808)) + 0) + 0)).toNat (((1 * ((0 : Int) + (-9223372036854775808)) + 0) + 0)).toNat = Nat.gcd (((1 * r 0 + 0) + 0)).toNat (((1 * r 1 + 0) + 0)).toNat ∧ (((1 * ((0 : Int) + 0) + 0) + 0) = 0 ∨ (((1 * ((0 : Int) + (-9223372036854775808)) + 0) + 0) < ((1 * ((0 : Int) + (-9223372036854775808)) + 0) + 0) ∧ (((1 * ((0 : Int) + (-9223372036854775808)) + 0) + 0)).toNat * (((1 * ((0 : Int) + (-9223372036854775808)) + 0) + 0)).toNat * 2 ^ (((1 * ((0 : Int) + 0) + 0) + 0) - 1).toNat < 2 ^ 126)))
    try simp only [Int.one_mul, Int.zero_add, Int.add_zero]
    intro p0 p1
    first
      | (exfalso; omega)
      | exact ⟨by omega, by omega, by first | rfl | trivial, Or.inl (by first | rfl | trivial)⟩
theorem xw_83_1_0 : yt_hold xT_83 xk_83 xq_83.2.2.1 xG_83 xP_83 xU_83 5 ((xq_83.2.2.1.getD 0 (0, ([], [], ([], []), [], [], ([], 0)), [], false)).2.1.2.2.1.2) (xG_83 0) (1000, ([((-9223372036854775808), 9223372036854775807), ((-9223372036854775808), 9223372036854775807), ((-9223372036854775808), 0), ((-9223372036854775808), 9223372036854775807), (128, 128), (0, 0)], []), [([], 1)], [], []) := by
  intro g0 r gi g hok hh hars hfr hG
  have b0 : (-9223372036854775808) ≤ r 0 ∧ r 0 ≤ 9223372036854775807 := hok.1 0 ((-9223372036854775808), 9223372036854775807) rfl
  have b1 : (-9223372036854775808) ≤ r 1 ∧ r 1 ≤ 9223372036854775807 := hok.1 1 ((-9223372036854775808), 9223372036854775807) rfl
  have b2 : (-9223372036854775808) ≤ r 2 ∧ r 2 ≤ 0 := hok.1 2 ((-9223372036854775808), 0) rfl
  have b3 : (-9223372036854775808) ≤ r 3 ∧ r 3 ≤ 9223372036854775807 := hok.1 3 ((-9223372036854775808), 9223372036854775807) rfl
  have b4 : 128 ≤ r 4 ∧ r 4 ≤ 128 := hok.1 4 (128, 128) rfl
  have b5 : 0 ≤ r 5 ∧ r 5 ≤ 0 := hok.1 5 (0, 0) rfl
  have hG : 0 ≤ (r 0) → 0 ≤ (r 1) → (0 ≤ ((1 * (r 2) + 0) + 0) ∧ 0 ≤ ((1 * (r 3) + 0) + 0) ∧ Nat.gcd (((1 * (r 2) + 0) + 0)).toNat (((1 * (r 3) + 0) + 0)).toNat = Nat.gcd ((r 0)).toNat ((r 1)).toNat ∧ (((1 * (r 4) + 0) + 0) = 0 ∨ (((1 * (r 3) + 0) + 0) < ((1 * (r 2) + 0) + 0) ∧ (((1 * (r 2) + 0) + 0)).toNat * (((1 * (r 3) + 0) + 0)).toNat * 2 ^ (((1 * (r 4) + 0) + 0) - 1).toNat < 2 ^ 126))) := hG
  have hh : g = gi := hh
  subst hh
  have hG : 0 ≤ (r 0) → 0 ≤ (r 1) → (0 ≤ ((1 * (r 2) + 0) + 0) ∧ 0 ≤ ((1 * (r 3) + 0) + 0) ∧ Nat.gcd (((1 * (r 2) + 0) + 0)).toNat (((1 * (r 3) + 0) + 0)).toNat = Nat.gcd ((r 0)).toNat ((r 1)).toNat ∧ (((1 * (r 4) + 0) + 0) = 0 ∨ (((1 * (r 3) + 0) + 0) < ((1 * (r 2) + 0) + 0) ∧ (((1 * (r 2) + 0) + 0)).toNat * (((1 * (r 3) + 0) + 0)).toNat * 2 ^ (((1 * (r 4) + 0) + 0) - 1).toNat < 2 ^ 126))) := hG
  refine yt_dalt (by decide) (by decide) ?_
  rw [show xk_83.2.1.2.1.1.length = 2 from rfl]
  show 0 ≤ ((1 * r 0 + 0) + 0) → 0 ≤ ((1 * r 1 + 0) + 0) → ((0 : Int) + 1) = yy_mx (Nat.gcd (((1 * r 0 + 0) + 0)).toNat (((1 * r 1 + 0) + 0)).toNat)
  try simp only [Int.one_mul, Int.zero_add, Int.add_zero]
  try simp only [Int.one_mul, Int.zero_add, Int.add_zero] at hG
  intro p0 p1
  obtain ⟨a1, a2, a3, a4⟩ := hG p0 p1
  have hb : r 3 = 0 := by
    first
      | omega
      | (have h8 : r 4 = 128 := by omega
         rcases a4 with q | ⟨q1, q2⟩
         · exfalso; omega
         · rw [show (r 4 - 1).toNat = 127 by omega] at q2
           have q3 := yy_e127 (by omega) q2
           omega)
  rw [hb, show (0 : Int).toNat = 0 from rfl, Nat.gcd_zero_right] at a3
  rw [← a3]
  unfold yy_mx
  split <;> omega
theorem xw_83_1_1 : yt_hold xT_83 xk_83 xq_83.2.2.1 xG_83 xP_83 xU_83 5 ((xq_83.2.2.1.getD 0 (0, ([], [], ([], []), [], [], ([], 0)), [], false)).2.1.2.2.1.2) (xG_83 0) (1000, ([((-9223372036854775808), 9223372036854775807), ((-9223372036854775808), 9223372036854775807), (1, 9223372036854775807), ((-9223372036854775808), 9223372036854775807), (128, 128), (0, 0)], []), [([(2, 1)], 0)], [], []) := by
  intro g0 r gi g hok hh hars hfr hG
  have b0 : (-9223372036854775808) ≤ r 0 ∧ r 0 ≤ 9223372036854775807 := hok.1 0 ((-9223372036854775808), 9223372036854775807) rfl
  have b1 : (-9223372036854775808) ≤ r 1 ∧ r 1 ≤ 9223372036854775807 := hok.1 1 ((-9223372036854775808), 9223372036854775807) rfl
  have b2 : 1 ≤ r 2 ∧ r 2 ≤ 9223372036854775807 := hok.1 2 (1, 9223372036854775807) rfl
  have b3 : (-9223372036854775808) ≤ r 3 ∧ r 3 ≤ 9223372036854775807 := hok.1 3 ((-9223372036854775808), 9223372036854775807) rfl
  have b4 : 128 ≤ r 4 ∧ r 4 ≤ 128 := hok.1 4 (128, 128) rfl
  have b5 : 0 ≤ r 5 ∧ r 5 ≤ 0 := hok.1 5 (0, 0) rfl
  have hG : 0 ≤ (r 0) → 0 ≤ (r 1) → (0 ≤ ((1 * (r 2) + 0) + 0) ∧ 0 ≤ ((1 * (r 3) + 0) + 0) ∧ Nat.gcd (((1 * (r 2) + 0) + 0)).toNat (((1 * (r 3) + 0) + 0)).toNat = Nat.gcd ((r 0)).toNat ((r 1)).toNat ∧ (((1 * (r 4) + 0) + 0) = 0 ∨ (((1 * (r 3) + 0) + 0) < ((1 * (r 2) + 0) + 0) ∧ (((1 * (r 2) + 0) + 0)).toNat * (((1 * (r 3) + 0) + 0)).toNat * 2 ^ (((1 * (r 4) + 0) + 0) - 1).toNat < 2 ^ 126))) := hG
  have hh : g = gi := hh
  subst hh
  have hG : 0 ≤ (r 0) → 0 ≤ (r 1) → (0 ≤ ((1 * (r 2) + 0) + 0) ∧ 0 ≤ ((1 * (r 3) + 0) + 0) ∧ Nat.gcd (((1 * (r 2) + 0) + 0)).toNat (((1 * (r 3) + 0) + 0)).toNat = Nat.gcd ((r 0)).toNat ((r 1)).toNat ∧ (((1 * (r 4) + 0) + 0) = 0 ∨ (((1 * (r 3) + 0) + 0) < ((1 * (r 2) + 0) + 0) ∧ (((1 * (r 2) + 0) + 0)).toNat * (((1 * (r 3) + 0) + 0)).toNat * 2 ^ (((1 * (r 4) + 0) + 0) - 1).toNat < 2 ^ 126))) := hG
  refine yt_dalt (by decide) (by decide) ?_
  rw [show xk_83.2.1.2.1.1.length = 2 from rfl]
  show 0 ≤ ((1 * r 0 + 0) + 0) → 0 ≤ ((1 * r 1 + 0) + 0) → ((1 * r 2 + 0) + 0) = yy_mx (Nat.gcd (((1 * r 0 + 0) + 0)).toNat (((1 * r 1 + 0) + 0)).toNat)
  try simp only [Int.one_mul, Int.zero_add, Int.add_zero]
  try simp only [Int.one_mul, Int.zero_add, Int.add_zero] at hG
  intro p0 p1
  obtain ⟨a1, a2, a3, a4⟩ := hG p0 p1
  have hb : r 3 = 0 := by
    first
      | omega
      | (have h8 : r 4 = 128 := by omega
         rcases a4 with q | ⟨q1, q2⟩
         · exfalso; omega
         · rw [show (r 4 - 1).toNat = 127 by omega] at q2
           have q3 := yy_e127 (by omega) q2
           omega)
  rw [hb, show (0 : Int).toNat = 0 from rfl, Nat.gcd_zero_right] at a3
  rw [← a3]
  unfold yy_mx
  split <;> omega
theorem xw_83_1_2 : yt_hold xT_83 xk_83 xq_83.2.2.1 xG_83 xP_83 xU_83 5 ((xq_83.2.2.1.getD 0 (0, ([], [], ([], []), [], [], ([], 0)), [], false)).2.1.2.2.1.2) (xG_83 0) (1000, ([((-9223372036854775808), 9223372036854775807), ((-9223372036854775808), 9223372036854775807), ((-9223372036854775808), 0), (0, 0), (0, 127), (0, 0)], []), [([], 1)], [], []) := by
  intro g0 r gi g hok hh hars hfr hG
  have b0 : (-9223372036854775808) ≤ r 0 ∧ r 0 ≤ 9223372036854775807 := hok.1 0 ((-9223372036854775808), 9223372036854775807) rfl
  have b1 : (-9223372036854775808) ≤ r 1 ∧ r 1 ≤ 9223372036854775807 := hok.1 1 ((-9223372036854775808), 9223372036854775807) rfl
  have b2 : (-9223372036854775808) ≤ r 2 ∧ r 2 ≤ 0 := hok.1 2 ((-9223372036854775808), 0) rfl
  have b3 : 0 ≤ r 3 ∧ r 3 ≤ 0 := hok.1 3 (0, 0) rfl
  have b4 : 0 ≤ r 4 ∧ r 4 ≤ 127 := hok.1 4 (0, 127) rfl
  have b5 : 0 ≤ r 5 ∧ r 5 ≤ 0 := hok.1 5 (0, 0) rfl
  have hG : 0 ≤ (r 0) → 0 ≤ (r 1) → (0 ≤ ((1 * (r 2) + 0) + 0) ∧ 0 ≤ ((1 * (r 3) + 0) + 0) ∧ Nat.gcd (((1 * (r 2) + 0) + 0)).toNat (((1 * (r 3) + 0) + 0)).toNat = Nat.gcd ((r 0)).toNat ((r 1)).toNat ∧ (((1 * (r 4) + 0) + 0) = 0 ∨ (((1 * (r 3) + 0) + 0) < ((1 * (r 2) + 0) + 0) ∧ (((1 * (r 2) + 0) + 0)).toNat * (((1 * (r 3) + 0) + 0)).toNat * 2 ^ (((1 * (r 4) + 0) + 0) - 1).toNat < 2 ^ 126))) := hG
  have hh : g = gi := hh
  subst hh
  have hG : 0 ≤ (r 0) → 0 ≤ (r 1) → (0 ≤ ((1 * (r 2) + 0) + 0) ∧ 0 ≤ ((1 * (r 3) + 0) + 0) ∧ Nat.gcd (((1 * (r 2) + 0) + 0)).toNat (((1 * (r 3) + 0) + 0)).toNat = Nat.gcd ((r 0)).toNat ((r 1)).toNat ∧ (((1 * (r 4) + 0) + 0) = 0 ∨ (((1 * (r 3) + 0) + 0) < ((1 * (r 2) + 0) + 0) ∧ (((1 * (r 2) + 0) + 0)).toNat * (((1 * (r 3) + 0) + 0)).toNat * 2 ^ (((1 * (r 4) + 0) + 0) - 1).toNat < 2 ^ 126))) := hG
  refine yt_dalt (by decide) (by decide) ?_
  rw [show xk_83.2.1.2.1.1.length = 2 from rfl]
  show 0 ≤ ((1 * r 0 + 0) + 0) → 0 ≤ ((1 * r 1 + 0) + 0) → ((0 : Int) + 1) = yy_mx (Nat.gcd (((1 * r 0 + 0) + 0)).toNat (((1 * r 1 + 0) + 0)).toNat)
  try simp only [Int.one_mul, Int.zero_add, Int.add_zero]
  try simp only [Int.one_mul, Int.zero_add, Int.add_zero] at hG
  intro p0 p1
  obtain ⟨a1, a2, a3, a4⟩ := hG p0 p1
  have hb : r 3 = 0 := by
    first
      | omega
      | (have h8 : r 4 = 128 := by omega
         rcases a4 with q | ⟨q1, q2⟩
         · exfalso; omega
         · rw [show (r 4 - 1).toNat = 127 by omega] at q2
           have q3 := yy_e127 (by omega) q2
           omega)
  rw [hb, show (0 : Int).toNat = 0 from rfl, Nat.gcd_zero_right] at a3
  rw [← a3]
  unfold yy_mx
  split <;> omega
theorem xw_83_1_3 : yt_hold xT_83 xk_83 xq_83.2.2.1 xG_83 xP_83 xU_83 5 ((xq_83.2.2.1.getD 0 (0, ([], [], ([], []), [], [], ([], 0)), [], false)).2.1.2.2.1.2) (xG_83 0) (1000, ([((-9223372036854775808), 9223372036854775807), ((-9223372036854775808), 9223372036854775807), (1, 9223372036854775807), (0, 0), (0, 127), (0, 0)], []), [([(2, 1)], 0)], [], []) := by
  intro g0 r gi g hok hh hars hfr hG
  have b0 : (-9223372036854775808) ≤ r 0 ∧ r 0 ≤ 9223372036854775807 := hok.1 0 ((-9223372036854775808), 9223372036854775807) rfl
  have b1 : (-9223372036854775808) ≤ r 1 ∧ r 1 ≤ 9223372036854775807 := hok.1 1 ((-9223372036854775808), 9223372036854775807) rfl
  have b2 : 1 ≤ r 2 ∧ r 2 ≤ 9223372036854775807 := hok.1 2 (1, 9223372036854775807) rfl
  have b3 : 0 ≤ r 3 ∧ r 3 ≤ 0 := hok.1 3 (0, 0) rfl
  have b4 : 0 ≤ r 4 ∧ r 4 ≤ 127 := hok.1 4 (0, 127) rfl
  have b5 : 0 ≤ r 5 ∧ r 5 ≤ 0 := hok.1 5 (0, 0) rfl
  have hG : 0 ≤ (r 0) → 0 ≤ (r 1) → (0 ≤ ((1 * (r 2) + 0) + 0) ∧ 0 ≤ ((1 * (r 3) + 0) + 0) ∧ Nat.gcd (((1 * (r 2) + 0) + 0)).toNat (((1 * (r 3) + 0) + 0)).toNat = Nat.gcd ((r 0)).toNat ((r 1)).toNat ∧ (((1 * (r 4) + 0) + 0) = 0 ∨ (((1 * (r 3) + 0) + 0) < ((1 * (r 2) + 0) + 0) ∧ (((1 * (r 2) + 0) + 0)).toNat * (((1 * (r 3) + 0) + 0)).toNat * 2 ^ (((1 * (r 4) + 0) + 0) - 1).toNat < 2 ^ 126))) := hG
  have hh : g = gi := hh
  subst hh
  have hG : 0 ≤ (r 0) → 0 ≤ (r 1) → (0 ≤ ((1 * (r 2) + 0) + 0) ∧ 0 ≤ ((1 * (r 3) + 0) + 0) ∧ Nat.gcd (((1 * (r 2) + 0) + 0)).toNat (((1 * (r 3) + 0) + 0)).toNat = Nat.gcd ((r 0)).toNat ((r 1)).toNat ∧ (((1 * (r 4) + 0) + 0) = 0 ∨ (((1 * (r 3) + 0) + 0) < ((1 * (r 2) + 0) + 0) ∧ (((1 * (r 2) + 0) + 0)).toNat * (((1 * (r 3) + 0) + 0)).toNat * 2 ^ (((1 * (r 4) + 0) + 0) - 1).toNat < 2 ^ 126))) := hG
  refine yt_dalt (by decide) (by decide) ?_
  rw [show xk_83.2.1.2.1.1.length = 2 from rfl]
  show 0 ≤ ((1 * r 0 + 0) + 0) → 0 ≤ ((1 * r 1 + 0) + 0) → ((1 * r 2 + 0) + 0) = yy_mx (Nat.gcd (((1 * r 0 + 0) + 0)).toNat (((1 * r 1 + 0) + 0)).toNat)
  try simp only [Int.one_mul, Int.zero_add, Int.add_zero]
  try simp only [Int.one_mul, Int.zero_add, Int.add_zero] at hG
  intro p0 p1
  obtain ⟨a1, a2, a3, a4⟩ := hG p0 p1
  have hb : r 3 = 0 := by
    first
      | omega
      | (have h8 : r 4 = 128 := by omega
         rcases a4 with q | ⟨q1, q2⟩
         · exfalso; omega
         · rw [show (r 4 - 1).toNat = 127 by omega] at q2
           have q3 := yy_e127 (by omega) q2
           omega)
  rw [hb, show (0 : Int).toNat = 0 from rfl, Nat.gcd_zero_right] at a3
  rw [← a3]
  unfold yy_mx
  split <;> omega
theorem xw_83_1_4 : yt_hold xT_83 xk_83 xq_83.2.2.1 xG_83 xP_83 xU_83 5 ((xq_83.2.2.1.getD 0 (0, ([], [], ([], []), [], [], ([], 0)), [], false)).2.1.2.2.1.2) (xG_83 0) (0, ([((-9223372036854775808), 9223372036854775807), ((-9223372036854775808), 9223372036854775807), (0, 9223372036854775806), (1, 9223372036854775807), (0, 127), (0, 0)], [([(3, 1), (2, (-1))], (-1))]), [([(3, 1)], 0), ([(2, 1)], 0), ([(4, 1)], 1)], [], [.inr (.inr (.inl (998, 16, [([(2, 1)], 0), ([(3, 1)], 0), ([(2, 1)], 0)], [], [])))]) := by
  intro g0 r gi g hok hh hars hfr hG
  have b0 : (-9223372036854775808) ≤ r 0 ∧ r 0 ≤ 9223372036854775807 := hok.1 0 ((-9223372036854775808), 9223372036854775807) rfl
  have b1 : (-9223372036854775808) ≤ r 1 ∧ r 1 ≤ 9223372036854775807 := hok.1 1 ((-9223372036854775808), 9223372036854775807) rfl
  have b2 : 0 ≤ r 2 ∧ r 2 ≤ 9223372036854775806 := hok.1 2 (0, 9223372036854775806) rfl
  have b3 : 1 ≤ r 3 ∧ r 3 ≤ 9223372036854775807 := hok.1 3 (1, 9223372036854775807) rfl
  have b4 : 0 ≤ r 4 ∧ r 4 ≤ 127 := hok.1 4 (0, 127) rfl
  have b5 : 0 ≤ r 5 ∧ r 5 ≤ 0 := hok.1 5 (0, 0) rfl
  have f0 : 0 ≤ ((1 * r 3 + ((-1) * r 2 + 0)) + (-1)) := hok.2 _ (List.mem_of_getElem? (i := 0) rfl)
  have hG : 0 ≤ (r 0) → 0 ≤ (r 1) → (0 ≤ ((1 * (r 2) + 0) + 0) ∧ 0 ≤ ((1 * (r 3) + 0) + 0) ∧ Nat.gcd (((1 * (r 2) + 0) + 0)).toNat (((1 * (r 3) + 0) + 0)).toNat = Nat.gcd ((r 0)).toNat ((r 1)).toNat ∧ (((1 * (r 4) + 0) + 0) = 0 ∨ (((1 * (r 3) + 0) + 0) < ((1 * (r 2) + 0) + 0) ∧ (((1 * (r 2) + 0) + 0)).toNat * (((1 * (r 3) + 0) + 0)).toNat * 2 ^ (((1 * (r 4) + 0) + 0) - 1).toNat < 2 ^ 126))) := hG
  obtain ⟨h0, hh, e0, k0⟩ := hh
  have k0 : ∀ j, j ∉ [] → g j = h0 j := k0
  have e0 : ((1 * r 2 + 0) + 0) = (((1 * r 2 + 0) + 0)).tmod (((1 * r 3 + 0) + 0)) := e0
  have hh : h0 = gi := hh
  subst hh
  have hG : 0 ≤ (r 0) → 0 ≤ (r 1) → (0 ≤ ((1 * (r 2) + 0) + 0) ∧ 0 ≤ ((1 * (r 3) + 0) + 0) ∧ Nat.gcd (((1 * (r 2) + 0) + 0)).toNat (((1 * (r 3) + 0) + 0)).toNat = Nat.gcd ((r 0)).toNat ((r 1)).toNat ∧ (((1 * (r 4) + 0) + 0) = 0 ∨ (((1 * (r 3) + 0) + 0) < ((1 * (r 2) + 0) + 0) ∧ (((1 * (r 2) + 0) + 0)).toNat * (((1 * (r 3) + 0) + 0)).toNat * 2 ^ (((1 * (r 4) + 0) + 0) - 1).toNat < 2 ^ 126))) := hG
  refine yt_dcut (by decide) rfl ?_ ?_
  · exact fun f hf => absurd hf List.not_mem_nil
  · rw [show xk_83.2.1.2.1.1.length = 2 from rfl]
    show 0 ≤ ((1 * r 0 + 0) + 0) → 0 ≤ ((1 * r 1 + 0) + 0) → (0 ≤ ((1 * ((1 * r 3 + 0) + 0) + 0) + 0) ∧ 0 ≤ ((1 * ((1 * r 2 + 0) + 0) + 0) + 0) ∧ Nat.gcd (((1 * ((1 * r 3 + 0) + 0) + 0) + 0)).toNat (((1 * ((1 * r 2 + 0) + 0) + 0) + 0)).toNat = Nat.gcd (((1 * r 0 + 0) + 0)).toNat (((1 * r 1 + 0) + 0)).toNat ∧ (((1 * ((1 * r 4 + 0) + 1) + 0) + 0) = 0 ∨ (((1 * ((1 * r 2 + 0) + 0) + 0) + 0) < ((1 * ((1 * r 3 + 0) + 0) + 0) + 0) ∧ (((1 * ((1 * r 3 + 0) + 0) + 0) + 0)).toNat * (((1 * ((1 * r 2 + 0) + 0) + 0) + 0)).toNat * 2 ^ (((1 * ((1 * r 4 + 0) + 1) + 0) + 0) - 1).toNat < 2 ^ 126)))
    try simp only [Int.one_mul, Int.zero_add, Int.add_zero]
    try simp only [Int.one_mul, Int.zero_add, Int.add_zero] at hG
    intro p0 p1
    obtain ⟨a1, a2, a3, a4⟩ := hG p0 p1
    try simp only [Int.one_mul, Int.zero_add, Int.add_zero] at e0
    first
      | (exfalso; omega)
      | (have em : r 2 = (((r 2).toNat % (r 3).toNat : Nat) : Int) := e0.trans (yy_tm a1 a2)
         have em2 : (r 2).toNat = (r 2).toNat % (r 3).toNat := by omega
         have hl : (r 2).toNat % (r 3).toNat < (r 3).toNat := Nat.mod_lt _ (by omega)
         refine ⟨a2, by omega, ?_, Or.inr ⟨by omega, ?_⟩⟩
         · rw [em2, yy_gs]
           exact a3
         · rw [em2]
           by_cases qn : r 4 = 0
           · rw [show (r 4 + 1 - 1).toNat = 0 by omega]
             exact yy_e0 (by omega) (by omega)
           · rcases a4 with q | ⟨q1, q2⟩
             · exact absurd q qn
             · rw [show (r 4 + 1 - 1).toNat = (r 4 - 1).toNat + 1 by omega]
               exact yy_eu (by omega) (by omega) q2)
theorem xw_83_1_5 : yt_hold xT_83 xk_83 xq_83.2.2.1 xG_83 xP_83 xU_83 5 ((xq_83.2.2.1.getD 0 (0, ([], [], ([], []), [], [], ([], 0)), [], false)).2.1.2.2.1.2) (xG_83 0) (0, ([((-9223372036854775808), 9223372036854775807), ((-9223372036854775808), 9223372036854775807), (1, 9223372036854775807), (1, 9223372036854775807), (0, 127), (0, 9223372036854775806)], [([(5, (-1)), (2, 1), (3, (-1))], 0), ([(3, 1), (5, (-1))], (-1)), ([(3, (-1)), (2, 1)], 0)]), [([(3, 1)], 0), ([(5, 1)], 0), ([(4, 1)], 1)], [], [.inr (.inr (.inl (998, 16, [([(2, 1)], 0), ([(3, 1)], 0), ([(5, 1)], 0)], [], [])))]) := by
  intro g0 r gi g hok hh hars hfr hG
  have b0 : (-9223372036854775808) ≤ r 0 ∧ r 0 ≤ 9223372036854775807 := hok.1 0 ((-9223372036854775808), 9223372036854775807) rfl
  have b1 : (-9223372036854775808) ≤ r 1 ∧ r 1 ≤ 9223372036854775807 := hok.1 1 ((-9223372036854775808), 9223372036854775807) rfl
  have b2 : 1 ≤ r 2 ∧ r 2 ≤ 9223372036854775807 := hok.1 2 (1, 9223372036854775807) rfl
  have b3 : 1 ≤ r 3 ∧ r 3 ≤ 9223372036854775807 := hok.1 3 (1, 9223372036854775807) rfl
  have b4 : 0 ≤ r 4 ∧ r 4 ≤ 127 := hok.1 4 (0, 127) rfl
  have b5 : 0 ≤ r 5 ∧ r 5 ≤ 9223372036854775806 := hok.1 5 (0, 9223372036854775806) rfl
  have f0 : 0 ≤ (((-1) * r 5 + (1 * r 2 + ((-1) * r 3 + 0))) + 0) := hok.2 _ (List.mem_of_getElem? (i := 0) rfl)
  have f1 : 0 ≤ ((1 * r 3 + ((-1) * r 5 + 0)) + (-1)) := hok.2 _ (List.mem_of_getElem? (i := 1) rfl)
  have f2 : 0 ≤ (((-1) * r 3 + (1 * r 2 + 0)) + 0) := hok.2 _ (List.mem_of_getElem? (i := 2) rfl)
  have hG : 0 ≤ (r 0) → 0 ≤ (r 1) → (0 ≤ ((1 * (r 2) + 0) + 0) ∧ 0 ≤ ((1 * (r 3) + 0) + 0) ∧ Nat.gcd (((1 * (r 2) + 0) + 0)).toNat (((1 * (r 3) + 0) + 0)).toNat = Nat.gcd ((r 0)).toNat ((r 1)).toNat ∧ (((1 * (r 4) + 0) + 0) = 0 ∨ (((1 * (r 3) + 0) + 0) < ((1 * (r 2) + 0) + 0) ∧ (((1 * (r 2) + 0) + 0)).toNat * (((1 * (r 3) + 0) + 0)).toNat * 2 ^ (((1 * (r 4) + 0) + 0) - 1).toNat < 2 ^ 126))) := hG
  obtain ⟨h0, hh, e0, k0⟩ := hh
  have k0 : ∀ j, j ∉ [] → g j = h0 j := k0
  have e0 : ((1 * r 5 + 0) + 0) = (((1 * r 2 + 0) + 0)).tmod (((1 * r 3 + 0) + 0)) := e0
  have hh : h0 = gi := hh
  subst hh
  have hG : 0 ≤ (r 0) → 0 ≤ (r 1) → (0 ≤ ((1 * (r 2) + 0) + 0) ∧ 0 ≤ ((1 * (r 3) + 0) + 0) ∧ Nat.gcd (((1 * (r 2) + 0) + 0)).toNat (((1 * (r 3) + 0) + 0)).toNat = Nat.gcd ((r 0)).toNat ((r 1)).toNat ∧ (((1 * (r 4) + 0) + 0) = 0 ∨ (((1 * (r 3) + 0) + 0) < ((1 * (r 2) + 0) + 0) ∧ (((1 * (r 2) + 0) + 0)).toNat * (((1 * (r 3) + 0) + 0)).toNat * 2 ^ (((1 * (r 4) + 0) + 0) - 1).toNat < 2 ^ 126))) := hG
  refine yt_dcut (by decide) rfl ?_ ?_
  · exact fun f hf => absurd hf List.not_mem_nil
  · rw [show xk_83.2.1.2.1.1.length = 2 from rfl]
    show 0 ≤ ((1 * r 0 + 0) + 0) → 0 ≤ ((1 * r 1 + 0) + 0) → (0 ≤ ((1 * ((1 * r 3 + 0) + 0) + 0) + 0) ∧ 0 ≤ ((1 * ((1 * r 5 + 0) + 0) + 0) + 0) ∧ Nat.gcd (((1 * ((1 * r 3 + 0) + 0) + 0) + 0)).toNat (((1 * ((1 * r 5 + 0) + 0) + 0) + 0)).toNat = Nat.gcd (((1 * r 0 + 0) + 0)).toNat (((1 * r 1 + 0) + 0)).toNat ∧ (((1 * ((1 * r 4 + 0) + 1) + 0) + 0) = 0 ∨ (((1 * ((1 * r 5 + 0) + 0) + 0) + 0) < ((1 * ((1 * r 3 + 0) + 0) + 0) + 0) ∧ (((1 * ((1 * r 3 + 0) + 0) + 0) + 0)).toNat * (((1 * ((1 * r 5 + 0) + 0) + 0) + 0)).toNat * 2 ^ (((1 * ((1 * r 4 + 0) + 1) + 0) + 0) - 1).toNat < 2 ^ 126)))
    try simp only [Int.one_mul, Int.zero_add, Int.add_zero]
    try simp only [Int.one_mul, Int.zero_add, Int.add_zero] at hG
    intro p0 p1
    obtain ⟨a1, a2, a3, a4⟩ := hG p0 p1
    try simp only [Int.one_mul, Int.zero_add, Int.add_zero] at e0
    first
      | (exfalso; omega)
      | (have em : r 5 = (((r 2).toNat % (r 3).toNat : Nat) : Int) := e0.trans (yy_tm a1 a2)
         have em2 : (r 5).toNat = (r 2).toNat % (r 3).toNat := by omega
         have hl : (r 2).toNat % (r 3).toNat < (r 3).toNat := Nat.mod_lt _ (by omega)
         refine ⟨a2, by omega, ?_, Or.inr ⟨by omega, ?_⟩⟩
         · rw [em2, yy_gs]
           exact a3
         · rw [em2]
           by_cases qn : r 4 = 0
           · rw [show (r 4 + 1 - 1).toNat = 0 by omega]
             exact yy_e0 (by omega) (by omega)
           · rcases a4 with q | ⟨q1, q2⟩
             · exact absurd q qn
             · rw [show (r 4 + 1 - 1).toNat = (r 4 - 1).toNat + 1 by omega]
               exact yy_eu (by omega) (by omega) q2)
theorem xw_83_1_6 : yt_hold xT_83 xk_83 xq_83.2.2.1 xG_83 xP_83 xU_83 5 ((xq_83.2.2.1.getD 0 (0, ([], [], ([], []), [], [], ([], 0)), [], false)).2.1.2.2.1.2) (xG_83 0) (0, ([((-9223372036854775808), 9223372036854775807), ((-9223372036854775808), 9223372036854775807), ((-9223372036854775808), (-1)), (1, 9223372036854775807), (0, 127), ((-9223372036854775806), 0)], [([(2, (-1)), (5, 1)], 0), ([(5, 1), (3, 1)], (-1))]), [([(3, 1)], 0), ([(5, 1)], 0), ([(4, 1)], 1)], [], [.inr (.inr (.inl (998, 16, [([(2, 1)], 0), ([(3, 1)], 0), ([(5, 1)], 0)], [], [])))]) := by
  intro g0 r gi g hok hh hars hfr hG
  have b0 : (-9223372036854775808) ≤ r 0 ∧ r 0 ≤ 9223372036854775807 := hok.1 0 ((-9223372036854775808), 9223372036854775807) rfl
  have b1 : (-9223372036854775808) ≤ r 1 ∧ r 1 ≤ 9223372036854775807 := hok.1 1 ((-9223372036854775808), 9223372036854775807) rfl
  have b2 : (-9223372036854775808) ≤ r 2 ∧ r 2 ≤ (-1) := hok.1 2 ((-9223372036854775808), (-1)) rfl
  have b3 : 1 ≤ r 3 ∧ r 3 ≤ 9223372036854775807 := hok.1 3 (1, 9223372036854775807) rfl
  have b4 : 0 ≤ r 4 ∧ r 4 ≤ 127 := hok.1 4 (0, 127) rfl
  have b5 : (-9223372036854775806) ≤ r 5 ∧ r 5 ≤ 0 := hok.1 5 ((-9223372036854775806), 0) rfl
  have f0 : 0 ≤ (((-1) * r 2 + (1 * r 5 + 0)) + 0) := hok.2 _ (List.mem_of_getElem? (i := 0) rfl)
  have f1 : 0 ≤ ((1 * r 5 + (1 * r 3 + 0)) + (-1)) := hok.2 _ (List.mem_of_getElem? (i := 1) rfl)
  have hG : 0 ≤ (r 0) → 0 ≤ (r 1) → (0 ≤ ((1 * (r 2) + 0) + 0) ∧ 0 ≤ ((1 * (r 3) + 0) + 0) ∧ Nat.gcd (((1 * (r 2) + 0) + 0)).toNat (((1 * (r 3) + 0) + 0)).toNat = Nat.gcd ((r 0)).toNat ((r 1)).toNat ∧ (((1 * (r 4) + 0) + 0) = 0 ∨ (((1 * (r 3) + 0) + 0) < ((1 * (r 2) + 0) + 0) ∧ (((1 * (r 2) + 0) + 0)).toNat * (((1 * (r 3) + 0) + 0)).toNat * 2 ^ (((1 * (r 4) + 0) + 0) - 1).toNat < 2 ^ 126))) := hG
  obtain ⟨h0, hh, e0, k0⟩ := hh
  have k0 : ∀ j, j ∉ [] → g j = h0 j := k0
  have e0 : ((1 * r 5 + 0) + 0) = (((1 * r 2 + 0) + 0)).tmod (((1 * r 3 + 0) + 0)) := e0
  have hh : h0 = gi := hh
  subst hh
  have hG : 0 ≤ (r 0) → 0 ≤ (r 1) → (0 ≤ ((1 * (r 2) + 0) + 0) ∧ 0 ≤ ((1 * (r 3) + 0) + 0) ∧ Nat.gcd (((1 * (r 2) + 0) + 0)).toNat (((1 * (r 3) + 0) + 0)).toNat = Nat.gcd ((r 0)).toNat ((r 1)).toNat ∧ (((1 * (r 4) + 0) + 0) = 0 ∨ (((1 * (r 3) + 0) + 0) < ((1 * (r 2) + 0) + 0) ∧ (((1 * (r 2) + 0) + 0)).toNat * (((1 * (r 3) + 0) + 0)).toNat * 2 ^ (((1 * (r 4) + 0) + 0) - 1).toNat < 2 ^ 126))) := hG
  refine yt_dcut (by decide) rfl ?_ ?_
  · exact fun f hf => absurd hf List.not_mem_nil
  · rw [show xk_83.2.1.2.1.1.length = 2 from rfl]
    show 0 ≤ ((1 * r 0 + 0) + 0) → 0 ≤ ((1 * r 1 + 0) + 0) → (0 ≤ ((1 * ((1 * r 3 + 0) + 0) + 0) + 0) ∧ 0 ≤ ((1 * ((1 * r 5 + 0) + 0) + 0) + 0) ∧ Nat.gcd (((1 * ((1 * r 3 + 0) + 0) + 0) + 0)).toNat (((1 * ((1 * r 5 + 0) + 0) + 0) + 0)).toNat = Nat.gcd (((1 * r 0 + 0) + 0)).toNat (((1 * r 1 + 0) + 0)).toNat ∧ (((1 * ((1 * r 4 + 0) + 1) + 0) + 0) = 0 ∨ (((1 * ((1 * r 5 + 0) + 0) + 0) + 0) < ((1 * ((1 * r 3 + 0) + 0) + 0) + 0) ∧ (((1 * ((1 * r 3 + 0) + 0) + 0) + 0)).toNat * (((1 * ((1 * r 5 + 0) + 0) + 0) + 0)).toNat * 2 ^ (((1 * ((1 * r 4 + 0) + 1) + 0) + 0) - 1).toNat < 2 ^ 126)))
    try simp only [Int.one_mul, Int.zero_add, Int.add_zero]
    try simp only [Int.one_mul, Int.zero_add, Int.add_zero] at hG
    intro p0 p1
    obtain ⟨a1, a2, a3, a4⟩ := hG p0 p1
    try simp only [Int.one_mul, Int.zero_add, Int.add_zero] at e0
    first
      | (exfalso; omega)
      | (have em : r 5 = (((r 2).toNat % (r 3).toNat : Nat) : Int) := e0.trans (yy_tm a1 a2)
         have em2 : (r 5).toNat = (r 2).toNat % (r 3).toNat := by omega
         have hl : (r 2).toNat % (r 3).toNat < (r 3).toNat := Nat.mod_lt _ (by omega)
         refine ⟨a2, by omega, ?_, Or.inr ⟨by omega, ?_⟩⟩
         · rw [em2, yy_gs]
           exact a3
         · rw [em2]
           by_cases qn : r 4 = 0
           · rw [show (r 4 + 1 - 1).toNat = 0 by omega]
             exact yy_e0 (by omega) (by omega)
           · rcases a4 with q | ⟨q1, q2⟩
             · exact absurd q qn
             · rw [show (r 4 + 1 - 1).toNat = (r 4 - 1).toNat + 1 by omega]
               exact yy_eu (by omega) (by omega) q2)
theorem xw_83_1_7 : yt_hold xT_83 xk_83 xq_83.2.2.1 xG_83 xP_83 xU_83 5 ((xq_83.2.2.1.getD 0 (0, ([], [], ([], []), [], [], ([], 0)), [], false)).2.1.2.2.1.2) (xG_83 0) (0, ([((-9223372036854775808), 9223372036854775807), ((-9223372036854775808), 9223372036854775807), (0, 9223372036854775807), ((-9223372036854775808), (-1)), (0, 127), (0, 9223372036854775807)], [([(5, (-1)), (2, 1)], 0), ([(3, (-1)), (5, (-1))], (-1))]), [([(3, 1)], 0), ([(5, 1)], 0), ([(4, 1)], 1)], [], [.inr (.inr (.inl (998, 16, [([(2, 1)], 0), ([(3, 1)], 0), ([(5, 1)], 0)], [], [])))]) := by
  intro g0 r gi g hok hh hars hfr hG
  have b0 : (-9223372036854775808) ≤ r 0 ∧ r 0 ≤ 9223372036854775807 := hok.1 0 ((-9223372036854775808), 9223372036854775807) rfl
  have b1 : (-9223372036854775808) ≤ r 1 ∧ r 1 ≤ 9223372036854775807 := hok.1 1 ((-9223372036854775808), 9223372036854775807) rfl
  have b2 : 0 ≤ r 2 ∧ r 2 ≤ 9223372036854775807 := hok.1 2 (0, 9223372036854775807) rfl
  have b3 : (-9223372036854775808) ≤ r 3 ∧ r 3 ≤ (-1) := hok.1 3 ((-9223372036854775808), (-1)) rfl
  have b4 : 0 ≤ r 4 ∧ r 4 ≤ 127 := hok.1 4 (0, 127) rfl
  have b5 : 0 ≤ r 5 ∧ r 5 ≤ 9223372036854775807 := hok.1 5 (0, 9223372036854775807) rfl
  have f0 : 0 ≤ (((-1) * r 5 + (1 * r 2 + 0)) + 0) := hok.2 _ (List.mem_of_getElem? (i := 0) rfl)
  have f1 : 0 ≤ (((-1) * r 3 + ((-1) * r 5 + 0)) + (-1)) := hok.2 _ (List.mem_of_getElem? (i := 1) rfl)
  have hG : 0 ≤ (r 0) → 0 ≤ (r 1) → (0 ≤ ((1 * (r 2) + 0) + 0) ∧ 0 ≤ ((1 * (r 3) + 0) + 0) ∧ Nat.gcd (((1 * (r 2) + 0) + 0)).toNat (((1 * (r 3) + 0) + 0)).toNat = Nat.gcd ((r 0)).toNat ((r 1)).toNat ∧ (((1 * (r 4) + 0) + 0) = 0 ∨ (((1 * (r 3) + 0) + 0) < ((1 * (r 2) + 0) + 0) ∧ (((1 * (r 2) + 0) + 0)).toNat * (((1 * (r 3) + 0) + 0)).toNat * 2 ^ (((1 * (r 4) + 0) + 0) - 1).toNat < 2 ^ 126))) := hG
  obtain ⟨h0, hh, e0, k0⟩ := hh
  have k0 : ∀ j, j ∉ [] → g j = h0 j := k0
  have e0 : ((1 * r 5 + 0) + 0) = (((1 * r 2 + 0) + 0)).tmod (((1 * r 3 + 0) + 0)) := e0
  have hh : h0 = gi := hh
  subst hh
  have hG : 0 ≤ (r 0) → 0 ≤ (r 1) → (0 ≤ ((1 * (r 2) + 0) + 0) ∧ 0 ≤ ((1 * (r 3) + 0) + 0) ∧ Nat.gcd (((1 * (r 2) + 0) + 0)).toNat (((1 * (r 3) + 0) + 0)).toNat = Nat.gcd ((r 0)).toNat ((r 1)).toNat ∧ (((1 * (r 4) + 0) + 0) = 0 ∨ (((1 * (r 3) + 0) + 0) < ((1 * (r 2) + 0) + 0) ∧ (((1 * (r 2) + 0) + 0)).toNat * (((1 * (r 3) + 0) + 0)).toNat * 2 ^ (((1 * (r 4) + 0) + 0) - 1).toNat < 2 ^ 126))) := hG
  refine yt_dcut (by decide) rfl ?_ ?_
  · exact fun f hf => absurd hf List.not_mem_nil
  · rw [show xk_83.2.1.2.1.1.length = 2 from rfl]
    show 0 ≤ ((1 * r 0 + 0) + 0) → 0 ≤ ((1 * r 1 + 0) + 0) → (0 ≤ ((1 * ((1 * r 3 + 0) + 0) + 0) + 0) ∧ 0 ≤ ((1 * ((1 * r 5 + 0) + 0) + 0) + 0) ∧ Nat.gcd (((1 * ((1 * r 3 + 0) + 0) + 0) + 0)).toNat (((1 * ((1 * r 5 + 0) + 0) + 0) + 0)).toNat = Nat.gcd (((1 * r 0 + 0) + 0)).toNat (((1 * r 1 + 0) + 0)).toNat ∧ (((1 * ((1 * r 4 + 0) + 1) + 0) + 0) = 0 ∨ (((1 * ((1 * r 5 + 0) + 0) + 0) + 0) < ((1 * ((1 * r 3 + 0) + 0) + 0) + 0) ∧ (((1 * ((1 * r 3 + 0) + 0) + 0) + 0)).toNat * (((1 * ((1 * r 5 + 0) + 0) + 0) + 0)).toNat * 2 ^ (((1 * ((1 * r 4 + 0) + 1) + 0) + 0) - 1).toNat < 2 ^ 126)))
    try simp only [Int.one_mul, Int.zero_add, Int.add_zero]
    try simp only [Int.one_mul, Int.zero_add, Int.add_zero] at hG
    intro p0 p1
    obtain ⟨a1, a2, a3, a4⟩ := hG p0 p1
    try simp only [Int.one_mul, Int.zero_add, Int.add_zero] at e0
    first
      | (exfalso; omega)
      | (have em : r 5 = (((r 2).toNat % (r 3).toNat : Nat) : Int) := e0.trans (yy_tm a1 a2)
         have em2 : (r 5).toNat = (r 2).toNat % (r 3).toNat := by omega
         have hl : (r 2).toNat % (r 3).toNat < (r 3).toNat := Nat.mod_lt _ (by omega)
         refine ⟨a2, by omega, ?_, Or.inr ⟨by omega, ?_⟩⟩
         · rw [em2, yy_gs]
           exact a3
         · rw [em2]
           by_cases qn : r 4 = 0
           · rw [show (r 4 + 1 - 1).toNat = 0 by omega]
             exact yy_e0 (by omega) (by omega)
           · rcases a4 with q | ⟨q1, q2⟩
             · exact absurd q qn
             · rw [show (r 4 + 1 - 1).toNat = (r 4 - 1).toNat + 1 by omega]
               exact yy_eu (by omega) (by omega) q2)
theorem xw_83_1_8 : yt_hold xT_83 xk_83 xq_83.2.2.1 xG_83 xP_83 xU_83 5 ((xq_83.2.2.1.getD 0 (0, ([], [], ([], []), [], [], ([], 0)), [], false)).2.1.2.2.1.2) (xG_83 0) (0, ([((-9223372036854775808), 9223372036854775807), ((-9223372036854775808), 9223372036854775807), ((-9223372036854775808), (-1)), ((-9223372036854775808), (-1)), (0, 127), ((-9223372036854775807), 0)], [([(2, (-1)), (5, 1)], 0), ([(5, 1), (3, (-1))], (-1))]), [([(3, 1)], 0), ([(5, 1)], 0), ([(4, 1)], 1)], [], [.inr (.inr (.inl (998, 16, [([(2, 1)], 0), ([(3, 1)], 0), ([(5, 1)], 0)], [], [])))]) := by
  intro g0 r gi g hok hh hars hfr hG
  have b0 : (-9223372036854775808) ≤ r 0 ∧ r 0 ≤ 9223372036854775807 := hok.1 0 ((-9223372036854775808), 9223372036854775807) rfl
  have b1 : (-9223372036854775808) ≤ r 1 ∧ r 1 ≤ 9223372036854775807 := hok.1 1 ((-9223372036854775808), 9223372036854775807) rfl
  have b2 : (-9223372036854775808) ≤ r 2 ∧ r 2 ≤ (-1) := hok.1 2 ((-9223372036854775808), (-1)) rfl
  have b3 : (-9223372036854775808) ≤ r 3 ∧ r 3 ≤ (-1) := hok.1 3 ((-9223372036854775808), (-1)) rfl
  have b4 : 0 ≤ r 4 ∧ r 4 ≤ 127 := hok.1 4 (0, 127) rfl
  have b5 : (-9223372036854775807) ≤ r 5 ∧ r 5 ≤ 0 := hok.1 5 ((-9223372036854775807), 0) rfl
  have f0 : 0 ≤ (((-1) * r 2 + (1 * r 5 + 0)) + 0) := hok.2 _ (List.mem_of_getElem? (i := 0) rfl)
  have f1 : 0 ≤ ((1 * r 5 + ((-1) * r 3 + 0)) + (-1)) := hok.2 _ (List.mem_of_getElem? (i := 1) rfl)
  have hG : 0 ≤ (r 0) → 0 ≤ (r 1) → (0 ≤ ((1 * (r 2) + 0) + 0) ∧ 0 ≤ ((1 * (r 3) + 0) + 0) ∧ Nat.gcd (((1 * (r 2) + 0) + 0)).toNat (((1 * (r 3) + 0) + 0)).toNat = Nat.gcd ((r 0)).toNat ((r 1)).toNat ∧ (((1 * (r 4) + 0) + 0) = 0 ∨ (((1 * (r 3) + 0) + 0) < ((1 * (r 2) + 0) + 0) ∧ (((1 * (r 2) + 0) + 0)).toNat * (((1 * (r 3) + 0) + 0)).toNat * 2 ^ (((1 * (r 4) + 0) + 0) - 1).toNat < 2 ^ 126))) := hG
  obtain ⟨h0, hh, e0, k0⟩ := hh
  have k0 : ∀ j, j ∉ [] → g j = h0 j := k0
  have e0 : ((1 * r 5 + 0) + 0) = (((1 * r 2 + 0) + 0)).tmod (((1 * r 3 + 0) + 0)) := e0
  have hh : h0 = gi := hh
  subst hh
  have hG : 0 ≤ (r 0) → 0 ≤ (r 1) → (0 ≤ ((1 * (r 2) + 0) + 0) ∧ 0 ≤ ((1 * (r 3) + 0) + 0) ∧ Nat.gcd (((1 * (r 2) + 0) + 0)).toNat (((1 * (r 3) + 0) + 0)).toNat = Nat.gcd ((r 0)).toNat ((r 1)).toNat ∧ (((1 * (r 4) + 0) + 0) = 0 ∨ (((1 * (r 3) + 0) + 0) < ((1 * (r 2) + 0) + 0) ∧ (((1 * (r 2) + 0) + 0)).toNat * (((1 * (r 3) + 0) + 0)).toNat * 2 ^ (((1 * (r 4) + 0) + 0) - 1).toNat < 2 ^ 126))) := hG
  refine yt_dcut (by decide) rfl ?_ ?_
  · exact fun f hf => absurd hf List.not_mem_nil
  · rw [show xk_83.2.1.2.1.1.length = 2 from rfl]
    show 0 ≤ ((1 * r 0 + 0) + 0) → 0 ≤ ((1 * r 1 + 0) + 0) → (0 ≤ ((1 * ((1 * r 3 + 0) + 0) + 0) + 0) ∧ 0 ≤ ((1 * ((1 * r 5 + 0) + 0) + 0) + 0) ∧ Nat.gcd (((1 * ((1 * r 3 + 0) + 0) + 0) + 0)).toNat (((1 * ((1 * r 5 + 0) + 0) + 0) + 0)).toNat = Nat.gcd (((1 * r 0 + 0) + 0)).toNat (((1 * r 1 + 0) + 0)).toNat ∧ (((1 * ((1 * r 4 + 0) + 1) + 0) + 0) = 0 ∨ (((1 * ((1 * r 5 + 0) + 0) + 0) + 0) < ((1 * ((1 * r 3 + 0) + 0) + 0) + 0) ∧ (((1 * ((1 * r 3 + 0) + 0) + 0) + 0)).toNat * (((1 * ((1 * r 5 + 0) + 0) + 0) + 0)).toNat * 2 ^ (((1 * ((1 * r 4 + 0) + 1) + 0) + 0) - 1).toNat < 2 ^ 126)))
    try simp only [Int.one_mul, Int.zero_add, Int.add_zero]
    try simp only [Int.one_mul, Int.zero_add, Int.add_zero] at hG
    intro p0 p1
    obtain ⟨a1, a2, a3, a4⟩ := hG p0 p1
    try simp only [Int.one_mul, Int.zero_add, Int.add_zero] at e0
    first
      | (exfalso; omega)
      | (have em : r 5 = (((r 2).toNat % (r 3).toNat : Nat) : Int) := e0.trans (yy_tm a1 a2)
         have em2 : (r 5).toNat = (r 2).toNat % (r 3).toNat := by omega
         have hl : (r 2).toNat % (r 3).toNat < (r 3).toNat := Nat.mod_lt _ (by omega)
         refine ⟨a2, by omega, ?_, Or.inr ⟨by omega, ?_⟩⟩
         · rw [em2, yy_gs]
           exact a3
         · rw [em2]
           by_cases qn : r 4 = 0
           · rw [show (r 4 + 1 - 1).toNat = 0 by omega]
             exact yy_e0 (by omega) (by omega)
           · rcases a4 with q | ⟨q1, q2⟩
             · exact absurd q qn
             · rw [show (r 4 + 1 - 1).toNat = (r 4 - 1).toNat + 1 by omega]
               exact yy_eu (by omega) (by omega) q2)
theorem xn_83 : ∀ (j : Nat) (q : Nat × yt_T), xq_83.2.2.1[j]? = some q → q.2.2.2 = false → ∀ g0 r g, xG_83 j g0 r g
  | 0, q, hq, hf => by cases hq; cases hf
  | n + 1, q, hq, _ => by cases hq
theorem xs_83 : ∀ j, xq_83.2.2.2.getD j false = false → ∀ r g g', xP_83 j r g g'
  | 0, hf => by cases hf
  | n + 1, _ => fun _ _ _ => trivial
theorem xc_83 {l : Launch} {D : va_G} {cT : Nat → ClassId} {tys : List (ClassId × FieldType)} (hty : yx_Ty tys cT) : yt_Con l D vwCl cT tys yG yw_s2 xk_83 xR_83 xP_83 := yx_sem (calls := xa_83) (Z := xq_83) (tb := xT_83) (pt := xU_83) (Ga := xG_83) (vs := xv_83) (fun _ _ _ h => h) 300 (by decide +kernel) yz_X1_common_ok hty (yl_lkX1 _) (yl_cqkX1 _) (fun _ h => absurd h List.not_mem_nil) (xn_83) (xs_83) (by decide +kernel) (List.forall_mem_cons.mpr ⟨xw_83_0_0, List.forall_mem_cons.mpr ⟨xw_83_0_1, List.forall_mem_cons.mpr ⟨xw_83_0_2, List.forall_mem_cons.mpr ⟨xw_83_0_3, List.forall_mem_cons.mpr ⟨xw_83_0_4, List.forall_mem_cons.mpr ⟨xw_83_0_5, List.forall_mem_cons.mpr ⟨xw_83_0_6, List.forall_mem_cons.mpr ⟨xw_83_0_7, List.forall_mem_cons.mpr ⟨xw_83_0_8, fun _ h => absurd h List.not_mem_nil⟩⟩⟩⟩⟩⟩⟩⟩⟩) (⟨List.forall_mem_cons.mpr ⟨xw_83_1_0, List.forall_mem_cons.mpr ⟨xw_83_1_1, List.forall_mem_cons.mpr ⟨xw_83_1_2, List.forall_mem_cons.mpr ⟨xw_83_1_3, List.forall_mem_cons.mpr ⟨xw_83_1_4, List.forall_mem_cons.mpr ⟨xw_83_1_5, List.forall_mem_cons.mpr ⟨xw_83_1_6, List.forall_mem_cons.mpr ⟨xw_83_1_7, List.forall_mem_cons.mpr ⟨xw_83_1_8, fun _ h => absurd h List.not_mem_nil⟩⟩⟩⟩⟩⟩⟩⟩⟩, trivial⟩)
noncomputable def yw_s50 : List ys_C := [.inl 1]
noncomputable def yw_f50 (n : Nat) : List (List ys_V) := [[.inl (.inr ([(n + 0, 1)], 0)), .inl (.inr ([(n + 1, 1)], 0))]]
noncomputable def yw_e50 : ys_E := [((-9223372036854775808), 9223372036854775807), ((-9223372036854775808), 9223372036854775807)]
noncomputable def yw_r50 : List ys_R := [((0, 0), [])]
noncomputable def xf_84 : ys_F := (yw_f50 2, yw_r50)
noncomputable def xk_84 : ys_K := (((yX1_become, cX1_become, 7, none), (2, 45)), ([.inr (some 0), .inl (.inr ([(0, 1)], 0)), .inl (.inr ([(1, 1)], 0))], ([((-9223372036854775808), 9223372036854775807), ((-9223372036854775808), 9223372036854775807)] ++ yw_e50, []), xf_84), ([([((-9223372036854775808), 9223372036854775807), ((-9223372036854775808), 9223372036854775807)], [], ((ys_fs xf_84.1 [(0, 0, .inl (.inr ([(4, 1)], 0))), (0, 1, .inl (.inr ([(5, 1)], 0)))]), xf_84.2), none)], []))
noncomputable def xq_84 : yt_Q := (yz_X1_become, (yl_flX1, yl_ciX1, yl_cjX1, yl_cpX1, yl_cqX1), [], [])
noncomputable def xa_84 : List yt_CE := [(((16, true), (228, false, [])), (yw_s2, xk_83))]
noncomputable def xT_84 : yt_Tb := fun d => match d with
  | 228 => xP_83
  | _ => fun _ _ _ _ => True
theorem xc_84 {l : Launch} {D : va_G} {cT : Nat → ClassId} {tys : List (ClassId × FieldType)} (hty : yx_Ty tys cT) : yx_C l D cT tys yw_s50 xk_84 := yx_methodT (tb := xT_84) (fun _ _ _ _ => trivial) (calls := xa_84) (Z := xq_84) 300 (by decide +kernel) yz_X1_become_ok hty (yl_lkX1 _) (yl_cqkX1 _) (List.forall_mem_cons.mpr ⟨⟨xc_83 hty, yg_CLs yl_wX1_16 yd_yX1_common⟩, fun _ h => absurd h List.not_mem_nil⟩) (by decide +kernel)
noncomputable def yw_s51 : List ys_C := [.inl 10, .inl 6, .inr (0, 40, []), .inr (0, 40, [])]
noncomputable def yw_f51 (n : Nat) : List (List ys_V) := [[.inr (some 4), .inl (.inl ([(n + 0, 1)], 0)), .inl (.inr ([(n + 1, 1)], 0)), .inl (.inr ([(n + 2, 1)], 0)), .inl (.inr ([(n + 3, 1)], 0)), .inl (.inl ([(n + 4, 1)], 0)), .inl (.inl ([(n + 5, 1)], 0)), .inl (.inl ([(n + 6, 1)], 0)), .inl (.inl ([(n + 7, 1)], 0)), .inl (.inl ([(n + 8, 1)], 0)), .inl (.inl ([(n + 9, 1)], 0))], [.inr (some 2), .inr (some 3), .inr (some 5), .inr (some 6), .inl (.inl ([(n + 10, 1)], 0)), .inl (.inl ([(n + 11, 1)], 0))], [], []]
noncomputable def yw_e51 : ys_E := [(0, 1), ((-9223372036854775808), 9223372036854775807), ((-9223372036854775808), 9223372036854775807), ((-9223372036854775808), 9223372036854775807), ((-2147483648), 2147483647), ((-2147483648), 2147483647), ((-2147483648), 2147483647), ((-2147483648), 2147483647), ((-2147483648), 2147483647), ((-2147483648), 2147483647), (0, 40), ((-2147483648), 2147483647)]
noncomputable def yw_r51 : List ys_R := [((0, 0), []), ((0, 0), []), (((-300), 300), []), (((-300), 300), [])]
noncomputable def xf_85 : ys_F := (yw_f51 1, yw_r51)
noncomputable def xk_85 : ys_K := (((yX10_isAtSide, cX10_isAtSide, 4, (some .boolean)), (0, 0)), ([.inr (some 0), .inr (some 1), .inl (.inl ([(0, 1)], 0))], ([(0, 39)] ++ yw_e51, []), xf_85), ([([], [], (xf_85.1, xf_85.2), some (.inl (.inl ([], 0)))), ([], [], (xf_85.1, xf_85.2), some (.inl (.inl ([], 1))))], []))
noncomputable def xq_85 : yt_Q := (yz_X10_isAtSide, (yl_flX10, yl_ciX10, yl_cjX10, yl_cpX10, yl_cqX10), [], [])
noncomputable def xa_85 : List yt_CE := []
theorem xc_85 {l : Launch} {D : va_G} {cT : Nat → ClassId} {tys : List (ClassId × FieldType)} (hty : yx_Ty tys cT) : yx_C l D cT tys yw_s51 xk_85 := yx_method (calls := xa_85) (Z := xq_85) 300 (by decide +kernel) yz_X10_isAtSide_ok hty (yl_lkX10 _) (yl_cqkX10 _) (fun _ h => absurd h List.not_mem_nil) (by decide +kernel)
noncomputable def yw_s52 : List ys_C := [.inl 10, .inl 1, .inl 6, .inr (0, 40, []), .inr (0, 40, [])]
noncomputable def yw_f52 (n : Nat) : List (List ys_V) := [[.inr (some 1), .inl (.inl ([(n + 0, 1)], 0)), .inl (.inr ([(n + 1, 1)], 0)), .inl (.inr ([(n + 2, 1)], 0)), .inl (.inr ([(n + 3, 1)], 0)), .inl (.inl ([(n + 4, 1)], 0)), .inl (.inl ([(n + 5, 1)], 0)), .inl (.inl ([(n + 6, 1)], 0)), .inl (.inl ([(n + 7, 1)], 0)), .inl (.inl ([(n + 8, 1)], 0)), .inl (.inl ([(n + 9, 1)], 0))], [.inl (.inr ([(n + 10, 1)], 0)), .inl (.inr ([(n + 11, 1)], 0))], [.inr (some 3), .inr (some 4), .inr (some 5), .inr (some 6), .inl (.inl ([(n + 12, 1)], 0)), .inl (.inl ([(n + 13, 1)], 0))], [], []]
noncomputable def yw_e52 : ys_E := [(0, 1), ((-9223372036854775808), 9223372036854775807), ((-9223372036854775808), 9223372036854775807), ((-9223372036854775808), 9223372036854775807), ((-2147483648), 2147483647), ((-2147483648), 2147483647), ((-2147483648), 2147483647), ((-2147483648), 2147483647), ((-2147483648), 2147483647), ((-2147483648), 2147483647), ((-9223372036854775808), 9223372036854775807), ((-9223372036854775808), 9223372036854775807), (0, 40), ((-2147483648), 2147483647)]
noncomputable def yw_r52 : List ys_R := [((0, 0), []), ((0, 0), []), ((0, 0), []), (((-300), 300), []), (((-300), 300), [])]
noncomputable def xf_86 : ys_F := (yw_f52 0, yw_r52)
noncomputable def xk_86 : ys_K := (((yX10_finish, cX10_finish, 9, none), (3, 71)), ([.inr (some 0), .inr (some 2)], ([] ++ yw_e52, []), xf_86), ([([((-4294967296), 9223372036854775807), ((-4294967296), 4294967294), ((-2147483648), 2147483647), ((-2147483648), 2147483647), ((-9223372036854775808), 9223372036854775807), ((-9223372036854775808), 9223372036854775807)], [], ((ys_fs xf_86.1 [(0, 2, .inl (.inr ([(14, 1)], 0))), (0, 3, .inl (.inr ([(15, 1)], 0))), (0, 4, .inl (.inr ([(16, 1)], 0))), (0, 5, .inl (.inl ([(17, 1)], 0))), (1, 0, .inl (.inr ([(18, 1)], 0))), (1, 1, .inl (.inr ([(19, 1)], 0)))]), xf_86.2), none)], []))
noncomputable def xq_86 : yt_Q := (yz_X10_finish, (yl_flX10, yl_ciX10, yl_cjX10, yl_cpX10, yl_cqX10), [(123, ([(0, 40), ((-4294967296), 9223372036854775807), ((-4294967296), 4294967294), ((-2147483648), 2147483647), ((-2147483648), 2147483647), ((-9223372036854775808), 9223372036854775807), ((-9223372036854775808), 9223372036854775807)], [], ((ys_fs xf_86.1 [(0, 2, .inl (.inr ([(15, 1)], 0))), (0, 3, .inl (.inr ([(16, 1)], 0))), (0, 4, .inl (.inr ([(17, 1)], 0))), (0, 5, .inl (.inl ([(18, 1)], 0))), (1, 0, .inl (.inr ([(19, 1)], 0))), (1, 1, .inl (.inr ([(20, 1)], 0)))]), xf_86.2), [(0, .inr (some 0)), (1, .inr (some 2)), (8, .inl (.inl ([(14, 1)], 0)))], [], ([(14, (-1))], 40)), [], false)], [])
noncomputable def xa_86 : List yt_CE := [(((103, true), (0, false, [])), (yw_s2, xk_82)), (((107, false), (0, false, [1])), (yw_s50, xk_84)), (((113, true), (228, false, [])), (yw_s2, xk_83)), (((116, false), (0, false, [0, 2, 3, 4, 1, 5, 6])), (yw_s51, xk_85))]
noncomputable def xT_86 : yt_Tb := fun d => match d with
  | 228 => xP_83
  | _ => fun _ _ _ _ => True
theorem xc_86 {l : Launch} {D : va_G} {cT : Nat → ClassId} {tys : List (ClassId × FieldType)} (hty : yx_Ty tys cT) : yx_C l D cT tys yw_s52 xk_86 := yx_methodT (tb := xT_86) (fun _ _ _ _ => trivial) (calls := xa_86) (Z := xq_86) 300 (by decide +kernel) yz_X10_finish_ok hty (yl_lkX10 _) (yl_cqkX10 _) (List.forall_mem_cons.mpr ⟨⟨xc_82 hty, yg_CLs yl_wX10_103 yd_yX10_squareSum⟩, List.forall_mem_cons.mpr ⟨⟨xc_84 hty, yg_CLv rfl rfl rfl yl_wX10_107 yd_yX1_become⟩, List.forall_mem_cons.mpr ⟨⟨xc_83 hty, yg_CLs yl_wX10_113 yd_yX1_common⟩, List.forall_mem_cons.mpr ⟨⟨xc_85 hty, yg_CLv rfl rfl rfl yl_wX10_116 yd_yX10_isAtSide⟩, fun _ h => absurd h List.not_mem_nil⟩⟩⟩⟩) (by decide +kernel)
noncomputable def yw_s53 : List ys_C := [.inl 10]
noncomputable def yw_f53 (n : Nat) : List (List ys_V) := [[.inr (some 1), .inl (.inl ([(n + 0, 1)], 0)), .inl (.inr ([(n + 1, 1)], 0)), .inl (.inr ([(n + 2, 1)], 0)), .inl (.inr ([(n + 3, 1)], 0)), .inl (.inl ([(n + 4, 1)], 0)), .inl (.inl ([(n + 5, 1)], 0)), .inl (.inl ([(n + 6, 1)], 0)), .inl (.inl ([(n + 7, 1)], 0)), .inl (.inl ([(n + 8, 1)], 0)), .inl (.inl ([(n + 9, 1)], 0))]]
noncomputable def yw_e53 : ys_E := [(0, 1), ((-9223372036854775808), 9223372036854775807), ((-9223372036854775808), 9223372036854775807), ((-9223372036854775808), 9223372036854775807), ((-2147483648), 2147483647), ((-2147483648), 2147483647), ((-2147483648), 2147483647), ((-2147483648), 2147483647), ((-2147483648), 2147483647), ((-2147483648), 2147483647)]
noncomputable def yw_r53 : List ys_R := [((0, 0), [])]
noncomputable def xf_87 : ys_F := (yw_f53 3, yw_r53)
noncomputable def xk_87 : ys_K := (((yX10_isWider, cX10_isWider, 7, (some .boolean)), (1, 23)), ([.inr (some 0), .inl (.inr ([(0, 1)], 0)), .inl (.inl ([(1, 1)], 0)), .inl (.inl ([(2, 1)], 0))], ([((-9223372036854775808), 9223372036854775807), ((-2147483648), 2147483647), ((-2147483648), 2147483647)] ++ yw_e53, []), xf_87), ([([], [], (xf_87.1, xf_87.2), some (.inl (.inl ([], 0)))), ([], [], (xf_87.1, xf_87.2), some (.inl (.inl ([], 1))))], []))
noncomputable def xq_87 : yt_Q := (yz_X10_isWider, (yl_flX10, yl_ciX10, yl_cjX10, yl_cpX10, yl_cqX10), [], [])
noncomputable def xa_87 : List yt_CE := [(((103, true), (0, false, [])), (yw_s2, xk_82))]
theorem xc_87 {l : Launch} {D : va_G} {cT : Nat → ClassId} {tys : List (ClassId × FieldType)} (hty : yx_Ty tys cT) : yx_C l D cT tys yw_s53 xk_87 := yx_method (calls := xa_87) (Z := xq_87) 300 (by decide +kernel) yz_X10_isWider_ok hty (yl_lkX10 _) (yl_cqkX10 _) (List.forall_mem_cons.mpr ⟨⟨xc_82 hty, yg_CLs yl_wX10_103 yd_yX10_squareSum⟩, fun _ h => absurd h List.not_mem_nil⟩) (by decide +kernel)
noncomputable def yw_s54 : List ys_C := [.inl 10, .inl 6, .inr (0, 40, []), .inr (0, 40, []), .inr (0, 40, [])]
noncomputable def yw_f54 (n : Nat) : List (List ys_V) := [[.inr (some 5), .inl (.inl ([(n + 0, 1)], 0)), .inl (.inr ([(n + 1, 1)], 0)), .inl (.inr ([(n + 2, 1)], 0)), .inl (.inr ([(n + 3, 1)], 0)), .inl (.inl ([(n + 4, 1)], 0)), .inl (.inl ([(n + 5, 1)], 0)), .inl (.inl ([(n + 6, 1)], 0)), .inl (.inl ([(n + 7, 1)], 0)), .inl (.inl ([(n + 8, 1)], 0)), .inl (.inl ([(n + 9, 1)], 0))], [.inr (some 2), .inr (some 3), .inr (some 4), .inr (some 6), .inl (.inl ([(n + 10, 1)], 0)), .inl (.inl ([(n + 11, 1)], 0))], [], [], []]
noncomputable def yw_e54 : ys_E := [(0, 1), ((-9223372036854775808), 9223372036854775807), ((-9223372036854775808), 9223372036854775807), ((-9223372036854775808), 9223372036854775807), ((-2147483648), 2147483647), ((-2147483648), 2147483647), ((-2147483648), 2147483647), ((-2147483648), 2147483647), ((-2147483648), 2147483647), ((-2147483648), 2147483647), (0, 40), ((-2147483648), 2147483647)]
noncomputable def yw_r54 : List ys_R := [((0, 0), []), ((0, 0), []), (((-300), 300), []), (((-300), 300), []), ((0, 1), [])]
noncomputable def xf_88 : ys_F := (yw_f54 2, yw_r54)
noncomputable def xk_88 : ys_K := (((yX10_tryAcross, cX10_tryAcross, 8, none), (2, 49)), ([.inr (some 0), .inr (some 1), .inl (.inl ([(0, 1)], 0)), .inl (.inl ([(1, 1)], 0))], ([((-2147483648), 2147483647), ((-2147483648), 2147483647)] ++ yw_e54, []), xf_88), ([([(0, 1), ((-2147483648), 2147483647), ((-2147483648), 2147483647), ((-2147483648), 2147483647), ((-2147483648), 2147483647)], [], ((ys_fs xf_88.1 [(0, 1, .inl (.inl ([(14, 1)], 0))), (0, 7, .inl (.inl ([(15, 1)], 0))), (0, 8, .inl (.inl ([(16, 1)], 0))), (0, 9, .inl (.inl ([(17, 1)], 0))), (0, 10, .inl (.inl ([(18, 1)], 0)))]), xf_88.2), none)], []))
noncomputable def xq_88 : yt_Q := (yz_X10_tryAcross, (yl_flX10, yl_ciX10, yl_cjX10, yl_cpX10, yl_cqX10), [(11, ([((-999999), 1000000), ((-1000000), 999999), (0, 40)], [], (xf_88.1, xf_88.2), [(0, .inr (some 0)), (1, .inr (some 1)), (2, .inl (.inl ([(0, 1)], 0))), (3, .inl (.inl ([(1, 1)], 0))), (4, .inl (.inl ([(14, 1)], 0))), (5, .inl (.inl ([(15, 1)], 0))), (6, .inl (.inl ([(16, 1)], 0)))], [], ([(16, (-1))], 40)), [], false)], [])
noncomputable def xa_88 : List yt_CE := [(((99, false), (0, false, [0, 5])), (yw_s53, xk_87))]
theorem xc_88 {l : Launch} {D : va_G} {cT : Nat → ClassId} {tys : List (ClassId × FieldType)} (hty : yx_Ty tys cT) : yx_C l D cT tys yw_s54 xk_88 := yx_method (calls := xa_88) (Z := xq_88) 300 (by decide +kernel) yz_X10_tryAcross_ok hty (yl_lkX10 _) (yl_cqkX10 _) (List.forall_mem_cons.mpr ⟨⟨xc_87 hty, yg_CLv rfl rfl rfl yl_wX10_99 yd_yX10_isWider⟩, fun _ h => absurd h List.not_mem_nil⟩) (by decide +kernel)
noncomputable def xf_89 : ys_F := (yw_f54 2, yw_r54)
noncomputable def xk_89 : ys_K := (((yX10_tryPair, cX10_tryPair, 6, none), (3, 76)), ([.inr (some 0), .inr (some 1), .inl (.inl ([(0, 1)], 0)), .inl (.inl ([(1, 1)], 0))], ([(0, 39), (0, 39)] ++ yw_e54, []), xf_89), ([([(0, 1), ((-2147483648), 2147483647), ((-2147483648), 2147483647), ((-2147483648), 2147483647), ((-2147483648), 2147483647)], [], ((ys_fs xf_89.1 [(0, 1, .inl (.inl ([(14, 1)], 0))), (0, 7, .inl (.inl ([(15, 1)], 0))), (0, 8, .inl (.inl ([(16, 1)], 0))), (0, 9, .inl (.inl ([(17, 1)], 0))), (0, 10, .inl (.inl ([(18, 1)], 0)))]), xf_89.2), none)], []))
noncomputable def xq_89 : yt_Q := (yz_X10_tryPair, (yl_flX10, yl_ciX10, yl_cjX10, yl_cpX10, yl_cqX10), [], [])
noncomputable def xa_89 : List yt_CE := [(((78, false), (180, false, [1, 2, 3, 4, 6])), (yw_s11, xk_12)), (((85, false), (0, false, [0, 1, 2, 3, 4, 5, 6])), (yw_s54, xk_88))]
noncomputable def xT_89 : yt_Tb := fun d => match d with
  | 180 => xP_12
  | _ => fun _ _ _ _ => True
theorem xc_89 {l : Launch} {D : va_G} {cT : Nat → ClassId} {tys : List (ClassId × FieldType)} (hty : yx_Ty tys cT) : yx_C l D cT tys yw_s54 xk_89 := yx_methodT (tb := xT_89) (fun _ _ _ _ => trivial) (calls := xa_89) (Z := xq_89) 300 (by decide +kernel) yz_X10_tryPair_ok hty (yl_lkX10 _) (yl_cqkX10 _) (List.forall_mem_cons.mpr ⟨⟨xc_12 hty, yg_CLv rfl rfl rfl yl_wX10_78 yd_yX6_samePlace⟩, List.forall_mem_cons.mpr ⟨⟨xc_88 hty, yg_CLv rfl rfl rfl yl_wX10_85 yd_yX10_tryAcross⟩, fun _ h => absurd h List.not_mem_nil⟩⟩) (by decide +kernel)
noncomputable def yw_s55 : List ys_C := [.inl 10, .inl 1, .inl 6, .inr (0, 40, []), .inr (0, 40, []), .inr (0, 40, [])]
noncomputable def yw_f55 (n : Nat) : List (List ys_V) := [[.inr (some 1), .inl (.inl ([(n + 0, 1)], 0)), .inl (.inr ([(n + 1, 1)], 0)), .inl (.inr ([(n + 2, 1)], 0)), .inl (.inr ([(n + 3, 1)], 0)), .inl (.inl ([(n + 4, 1)], 0)), .inl (.inl ([(n + 5, 1)], 0)), .inl (.inl ([(n + 6, 1)], 0)), .inl (.inl ([(n + 7, 1)], 0)), .inl (.inl ([(n + 8, 1)], 0)), .inl (.inl ([(n + 9, 1)], 0))], [.inl (.inr ([(n + 10, 1)], 0)), .inl (.inr ([(n + 11, 1)], 0))], [.inr (some 3), .inr (some 4), .inr (some 5), .inr (some 6), .inl (.inl ([(n + 12, 1)], 0)), .inl (.inl ([(n + 13, 1)], 0))], [], [], []]
noncomputable def yw_e55 : ys_E := [(0, 1), ((-9223372036854775808), 9223372036854775807), ((-9223372036854775808), 9223372036854775807), ((-9223372036854775808), 9223372036854775807), ((-2147483648), 2147483647), ((-2147483648), 2147483647), ((-2147483648), 2147483647), ((-2147483648), 2147483647), ((-2147483648), 2147483647), ((-2147483648), 2147483647), ((-9223372036854775808), 9223372036854775807), ((-9223372036854775808), 9223372036854775807), (0, 40), ((-2147483648), 2147483647)]
noncomputable def yw_r55 : List ys_R := [((0, 0), []), ((0, 0), []), ((0, 0), []), (((-300), 300), []), (((-300), 300), []), ((0, 1), [])]
noncomputable def xf_90 : ys_F := (yw_f55 0, yw_r55)
noncomputable def xk_90 : ys_K := (((yX10_find, cX10_find, 4, none), (4, 101)), ([.inr (some 0), .inr (some 2)], ([] ++ yw_e55, []), xf_90), ([([(0, 1), ((-9223372036854775808), 9223372036854775807), ((-9223372036854775808), 9223372036854775807), ((-9223372036854775808), 9223372036854775807), ((-2147483648), 2147483647), ((-2147483648), 2147483647), ((-2147483648), 2147483647), ((-2147483648), 2147483647), ((-2147483648), 2147483647), ((-2147483648), 2147483647), ((-9223372036854775808), 9223372036854775807), ((-9223372036854775808), 9223372036854775807)], [], ((ys_fs xf_90.1 [(0, 1, .inl (.inl ([(14, 1)], 0))), (0, 2, .inl (.inr ([(15, 1)], 0))), (0, 3, .inl (.inr ([(16, 1)], 0))), (0, 4, .inl (.inr ([(17, 1)], 0))), (0, 5, .inl (.inl ([(18, 1)], 0))), (0, 6, .inl (.inl ([(19, 1)], 0))), (0, 7, .inl (.inl ([(20, 1)], 0))), (0, 8, .inl (.inl ([(21, 1)], 0))), (0, 9, .inl (.inl ([(22, 1)], 0))), (0, 10, .inl (.inl ([(23, 1)], 0))), (1, 0, .inl (.inr ([(24, 1)], 0))), (1, 1, .inl (.inr ([(25, 1)], 0)))]), xf_90.2), none)], []))
noncomputable def xq_90 : yt_Q := (yz_X10_find, (yl_flX10, yl_ciX10, yl_cjX10, yl_cpX10, yl_cqX10), [(35, ([(0, 40), (0, 1), ((-2147483648), 2147483647), ((-2147483648), 2147483647), ((-2147483648), 2147483647), ((-2147483648), 2147483647)], [([(12, 1)], (-2))], ((ys_fs xf_90.1 [(0, 1, .inl (.inl ([(15, 1)], 0))), (0, 6, .inl (.inl ([(13, 1)], 0))), (0, 7, .inl (.inl ([(16, 1)], 0))), (0, 8, .inl (.inl ([(17, 1)], 0))), (0, 9, .inl (.inl ([(18, 1)], 0))), (0, 10, .inl (.inl ([(19, 1)], 0)))]), xf_90.2), [(0, .inr (some 0)), (1, .inr (some 2)), (2, .inl (.inl ([(14, 1)], 0)))], [], ([(14, (-42))], 1721)), [], false), (47, ([(0, 39), (1, 40), (0, 1), ((-2147483648), 2147483647), ((-2147483648), 2147483647), ((-2147483648), 2147483647), ((-2147483648), 2147483647)], [([(12, 1)], (-2))], ((ys_fs xf_90.1 [(0, 1, .inl (.inl ([(16, 1)], 0))), (0, 6, .inl (.inl ([(13, 1)], 0))), (0, 7, .inl (.inl ([(17, 1)], 0))), (0, 8, .inl (.inl ([(18, 1)], 0))), (0, 9, .inl (.inl ([(19, 1)], 0))), (0, 10, .inl (.inl ([(20, 1)], 0)))]), xf_90.2), [(0, .inr (some 0)), (1, .inr (some 2)), (2, .inl (.inl ([(14, 1)], 0))), (3, .inl (.inl ([(15, 1)], 0)))], [], ([(14, (-42)), (15, (-1))], 1720)), [], false)], [])
noncomputable def xa_90 : List yt_CE := [(((56, false), (0, false, [2, 5, 3, 4, 6])), (yw_s16, xk_81)), (((67, false), (0, false, [0, 1, 2, 3, 4, 5, 6])), (yw_s52, xk_86)), (((63, false), (0, false, [0, 2, 3, 4, 5, 1, 6])), (yw_s54, xk_89))]
theorem xc_90 {l : Launch} {D : va_G} {cT : Nat → ClassId} {tys : List (ClassId × FieldType)} (hty : yx_Ty tys cT) : yx_C l D cT tys yw_s55 xk_90 := yx_method (calls := xa_90) (Z := xq_90) 300 (by decide +kernel) yz_X10_find_ok hty (yl_lkX10 _) (yl_cqkX10 _) (List.forall_mem_cons.mpr ⟨⟨xc_81 hty, yg_CLv rfl rfl rfl yl_wX10_56 yd_yX6_hasBothColours⟩, List.forall_mem_cons.mpr ⟨⟨xc_86 hty, yg_CLv rfl rfl rfl yl_wX10_67 yd_yX10_finish⟩, List.forall_mem_cons.mpr ⟨⟨xc_89 hty, yg_CLv rfl rfl rfl yl_wX10_63 yd_yX10_tryPair⟩, fun _ h => absurd h List.not_mem_nil⟩⟩⟩) (by decide +kernel)
noncomputable def yw_s56 : List ys_C := [.inl 11, .inl 6, .inr (0, 40, []), .inr (0, 40, []), .inr (0, 40, []), .inl 10, .inl 1]
noncomputable def yw_f56 (n : Nat) : List (List ys_V) := [[.inr (some 1), .inr (some 8), .inr (some 9), .inr (some 10), .inr (some 11), .inr (some 12), .inr (some 13), .inr (some 14), .inr (some 5), .inr (some 15), .inr (some 16), .inr (some 17), .inr (some 18), .inr (some 19), .inl (.inl ([(n + 0, 1)], 0))], [.inr (some 2), .inr (some 3), .inr (some 4), .inr (some 7), .inl (.inl ([(n + 1, 1)], 0)), .inl (.inl ([(n + 2, 1)], 0))], [], [], [], [.inr (some 6), .inl (.inl ([(n + 3, 1)], 0)), .inl (.inr ([(n + 4, 1)], 0)), .inl (.inr ([(n + 5, 1)], 0)), .inl (.inr ([(n + 6, 1)], 0)), .inl (.inl ([(n + 7, 1)], 0)), .inl (.inl ([(n + 8, 1)], 0)), .inl (.inl ([(n + 9, 1)], 0)), .inl (.inl ([(n + 10, 1)], 0)), .inl (.inl ([(n + 11, 1)], 0)), .inl (.inl ([(n + 12, 1)], 0))], [.inl (.inr ([(n + 13, 1)], 0)), .inl (.inr ([(n + 14, 1)], 0))]]
noncomputable def yw_e56 : ys_E := [((-2147483648), 2147483647), (0, 40), ((-2147483648), 2147483647), (0, 1), ((-9223372036854775808), 9223372036854775807), ((-9223372036854775808), 9223372036854775807), ((-9223372036854775808), 9223372036854775807), ((-2147483648), 2147483647), ((-2147483648), 2147483647), ((-2147483648), 2147483647), ((-2147483648), 2147483647), ((-2147483648), 2147483647), ((-2147483648), 2147483647), ((-9223372036854775808), 9223372036854775807), ((-9223372036854775808), 9223372036854775807)]
noncomputable def yw_r56 : List ys_R := [((0, 0), []), ((0, 0), []), (((-300), 300), []), (((-300), 300), []), ((0, 1), []), ((0, 0), []), ((0, 0), [])]
noncomputable def xf_91 : ys_F := (yw_f56 0, yw_r56)
noncomputable def xk_91 : ys_K := (((yX11_areParted, cX11_areParted, 1, (some .boolean)), (5, 124)), ([.inr (some 0)], ([] ++ yw_e56, []), xf_91), ([([], [], (xf_91.1, xf_91.2), some (.inl (.inl ([], 1)))), ([(0, 1), (0, 1), ((-9223372036854775808), 9223372036854775807), ((-9223372036854775808), 9223372036854775807), ((-9223372036854775808), 9223372036854775807), ((-2147483648), 2147483647), ((-2147483648), 2147483647), ((-2147483648), 2147483647), ((-2147483648), 2147483647), ((-2147483648), 2147483647), ((-2147483648), 2147483647), ((-9223372036854775808), 9223372036854775807), ((-9223372036854775808), 9223372036854775807)], [([(1, 1)], (-2))], ((ys_fs xf_91.1 [(5, 1, .inl (.inl ([(16, 1)], 0))), (5, 2, .inl (.inr ([(17, 1)], 0))), (5, 3, .inl (.inr ([(18, 1)], 0))), (5, 4, .inl (.inr ([(19, 1)], 0))), (5, 5, .inl (.inl ([(20, 1)], 0))), (5, 6, .inl (.inl ([(21, 1)], 0))), (5, 7, .inl (.inl ([(22, 1)], 0))), (5, 8, .inl (.inl ([(23, 1)], 0))), (5, 9, .inl (.inl ([(24, 1)], 0))), (5, 10, .inl (.inl ([(25, 1)], 0))), (6, 0, .inl (.inr ([(26, 1)], 0))), (6, 1, .inl (.inr ([(27, 1)], 0)))]), xf_91.2), some (.inl (.inl ([(15, 1)], 0))))], []))
noncomputable def xq_91 : yt_Q := (yz_X11_areParted, (yl_flX11, yl_ciX11, yl_cjX11, yl_cpX11, yl_cqX11), [], [])
noncomputable def xa_91 : List yt_CE := [(((395, false), (0, false, [1, 4, 2, 3, 7])), (yw_s16, xk_81)), (((190, false), (0, false, [5, 6, 1, 2, 3, 4, 7])), (yw_s55, xk_90))]
theorem xc_91 {l : Launch} {D : va_G} {cT : Nat → ClassId} {tys : List (ClassId × FieldType)} (hty : yx_Ty tys cT) : yx_C l D cT tys yw_s56 xk_91 := yx_method (calls := xa_91) (Z := xq_91) 300 (by decide +kernel) yz_X11_areParted_ok hty (yl_lkX11 _) (yl_cqkX11 _) (List.forall_mem_cons.mpr ⟨⟨xc_81 hty, yg_CLv rfl rfl rfl yl_wX11_395 yd_yX6_hasBothColours⟩, List.forall_mem_cons.mpr ⟨⟨xc_90 hty, yg_CLv rfl rfl rfl yl_wX11_190 yd_yX10_find⟩, fun _ h => absurd h List.not_mem_nil⟩⟩) (by decide +kernel)
noncomputable def yw_s57 : List ys_C := [.inl 4, .inr (0, 40, []), .inr (0, 40, []), .inl 6, .inr (0, 40, [])]
noncomputable def yw_f57 (n : Nat) : List (List ys_V) := [[.inr (some 5), .inr (some 6), .inl (.inl ([(n + 0, 1)], 0)), .inl (.inl ([(n + 1, 1)], 0)), .inr (some 7), .inr (some 8), .inr (some 1), .inr (some 2), .inl (.inl ([(n + 2, 1)], 0)), .inl (.inl ([(n + 3, 1)], 0)), .inl (.inl ([(n + 4, 1)], 0))], [], [], [.inr (some 9), .inr (some 10), .inr (some 4), .inr (some 11), .inl (.inl ([(n + 5, 1)], 0)), .inl (.inl ([(n + 6, 1)], 0))], []]
noncomputable def yw_e57 : ys_E := [((-2147483648), 2147483647), (0, 4), (0, 40), (0, 40), ((-2147483648), 2147483647), (0, 40), ((-2147483648), 2147483647)]
noncomputable def yw_r57 : List ys_R := [((0, 0), []), ((0, 39), []), ((0, 39), []), ((0, 0), []), ((0, 1), [])]
noncomputable def xf_92 : ys_F := (yw_f57 0, yw_r57)
noncomputable def xk_92 : ys_K := (((yX4_gather, cX4_gather, 3, none), (0, 0)), ([.inr (some 0), .inr (some 3)], ([] ++ yw_e57, []), xf_92), ([([(0, 40), (0, 40)], [], ((ys_fs xf_92.1 [(0, 8, .inl (.inl ([(7, 1)], 0))), (0, 9, .inl (.inl ([(8, 1)], 0)))]), xf_92.2), none)], [1, 2]))
noncomputable def xq_92 : yt_Q := (yz_X4_gather, (yl_flX4, yl_ciX4, yl_cjX4, yl_cpX4, yl_cqX4), [(12, ([(0, 40), (0, 99), (0, 40)], [([(8, (-1)), (7, 1)], 0), ([(9, (-1)), (7, 1)], 0)], ((ys_fs xf_92.1 [(0, 8, .inl (.inl ([(8, 1)], 0))), (0, 9, .inl (.inl ([(9, 1)], 0)))]), xf_92.2), [(0, .inr (some 0)), (1, .inr (some 3)), (2, .inl (.inl ([(7, 1)], 0)))], [], ([(7, (-1))], 40)), [], false)], [])
noncomputable def xa_92 : List yt_CE := []
theorem xc_92 {l : Launch} {D : va_G} {cT : Nat → ClassId} {tys : List (ClassId × FieldType)} (hty : yx_Ty tys cT) : yx_C l D cT tys yw_s57 xk_92 := yx_method (calls := xa_92) (Z := xq_92) 300 (by decide +kernel) yz_X4_gather_ok hty (yl_lkX4 _) (yl_cqkX4 _) (fun _ h => absurd h List.not_mem_nil) (by decide +kernel)
noncomputable def yw_s58 : List ys_C := [.inl 4, .inr (0, 4, [])]
noncomputable def yw_f58 (n : Nat) : List (List ys_V) := [[.inr (some 2), .inr (some 3), .inl (.inl ([(n + 0, 1)], 0)), .inl (.inl ([(n + 1, 1)], 0)), .inr (some 1), .inr (some 4), .inr (some 5), .inr (some 6), .inl (.inl ([(n + 2, 1)], 0)), .inl (.inl ([(n + 3, 1)], 0)), .inl (.inl ([(n + 4, 1)], 0))], []]
noncomputable def yw_e58 : ys_E := [((-2147483648), 2147483647), (0, 4), (0, 40), (0, 40), ((-2147483648), 2147483647)]
noncomputable def yw_r58 : List ys_R := [((0, 0), []), ((0, 39), [])]
noncomputable def xf_93 : ys_F := (yw_f58 6, yw_r58)
noncomputable def xk_93 : ys_K := (((yX4_hold, cX4_hold, 7, (some .boolean)), (0, 0)), ([.inr (some 0), .inl (.inl ([(0, 1)], 0)), .inl (.inl ([(1, 1)], 0)), .inl (.inl ([(2, 1)], 0)), .inl (.inl ([(3, 1)], 0)), .inl (.inl ([(4, 1)], 0)), .inl (.inl ([(5, 1)], 0))], ([(0, 1), (0, 2), (0, 39), (0, 39), (0, 1), (0, 1)] ++ yw_e58, []), xf_93), ([([], [], ((ys_fs xf_93.1 [(0, 2, .inl (.inl ([(0, 1)], 0))), (0, 3, .inl (.inl ([(1, 1)], 0)))]), xf_93.2), some (.inl (.inl ([], 1))))], [1]))
noncomputable def xq_93 : yt_Q := (yz_X4_hold, (yl_flX4, yl_ciX4, yl_cjX4, yl_cpX4, yl_cqX4), [], [])
noncomputable def xa_93 : List yt_CE := []
theorem xc_93 {l : Launch} {D : va_G} {cT : Nat → ClassId} {tys : List (ClassId × FieldType)} (hty : yx_Ty tys cT) : yx_C l D cT tys yw_s58 xk_93 := yx_method (calls := xa_93) (Z := xq_93) 300 (by decide +kernel) yz_X4_hold_ok hty (yl_lkX4 _) (yl_cqkX4 _) (fun _ h => absurd h List.not_mem_nil) (by decide +kernel)
noncomputable def yw_s59 : List ys_C := [.inl 4, .inr (0, 4, []), .inr (0, 40, []), .inr (0, 40, []), .inl 6, .inr (0, 40, []), .inr (0, 40, [])]
noncomputable def yw_f59 (n : Nat) : List (List ys_V) := [[.inr (some 7), .inr (some 8), .inl (.inl ([(n + 0, 1)], 0)), .inl (.inl ([(n + 1, 1)], 0)), .inr (some 1), .inr (some 9), .inr (some 2), .inr (some 3), .inl (.inl ([(n + 2, 1)], 0)), .inl (.inl ([(n + 3, 1)], 0)), .inl (.inl ([(n + 4, 1)], 0))], [], [], [], [.inr (some 5), .inr (some 6), .inr (some 10), .inr (some 11), .inl (.inl ([(n + 5, 1)], 0)), .inl (.inl ([(n + 6, 1)], 0))], [], []]
noncomputable def yw_e59 : ys_E := [((-2147483648), 2147483647), (0, 4), (0, 40), (0, 40), ((-2147483648), 2147483647), (0, 40), ((-2147483648), 2147483647)]
noncomputable def yw_r59 : List ys_R := [((0, 0), []), ((0, 39), []), ((0, 39), []), ((0, 39), []), ((0, 0), []), (((-300), 300), []), (((-300), 300), [])]
noncomputable def xf_94 : ys_F := (yw_f59 0, yw_r59)
noncomputable def xk_94 : ys_K := (((yX4_findOnePlace, cX4_findOnePlace, 4, (some .boolean)), (1, 26)), ([.inr (some 0), .inr (some 4)], ([] ++ yw_e59, []), xf_94), ([([], [], (xf_94.1, xf_94.2), some (.inl (.inl ([], 0)))), ([], [([(2, 1)], (-1)), ([(3, 1)], (-1))], ((ys_fs xf_94.1 [(0, 2, .inl (.inl ([], 1))), (0, 3, .inl (.inl ([], 2)))]), xf_94.2), some (.inl (.inl ([], 1))))], [1]))
noncomputable def xq_94 : yt_Q := (yz_X4_findOnePlace, (yl_flX4, yl_ciX4, yl_cjX4, yl_cpX4, yl_cqX4), [(12, ([(0, 39), (0, 40)], [([(2, 1)], (-1))], (xf_94.1, xf_94.2), [(0, .inr (some 0)), (1, .inr (some 4)), (2, .inl (.inl ([(7, 1)], 0))), (3, .inl (.inl ([(8, 1)], 0)))], [], ([(7, (-43)), (8, (-1))], 1760)), [], false), (2, ([(0, 40)], [], (xf_94.1, xf_94.2), [(0, .inr (some 0)), (1, .inr (some 4)), (2, .inl (.inl ([(7, 1)], 0)))], [], ([(7, (-43))], 1762)), [], false)], [])
noncomputable def xa_94 : List yt_CE := [(((106, false), (180, false, [4, 5, 6, 10, 11])), (yw_s11, xk_12)), (((110, false), (0, false, [0, 1, 7, 8, 9, 2, 3])), (yw_s58, xk_93))]
noncomputable def xT_94 : yt_Tb := fun d => match d with
  | 180 => xP_12
  | _ => fun _ _ _ _ => True
theorem xc_94 {l : Launch} {D : va_G} {cT : Nat → ClassId} {tys : List (ClassId × FieldType)} (hty : yx_Ty tys cT) : yx_C l D cT tys yw_s59 xk_94 := yx_methodT (tb := xT_94) (fun _ _ _ _ => trivial) (calls := xa_94) (Z := xq_94) 300 (by decide +kernel) yz_X4_findOnePlace_ok hty (yl_lkX4 _) (yl_cqkX4 _) (List.forall_mem_cons.mpr ⟨⟨xc_12 hty, yg_CLv rfl rfl rfl yl_wX4_106 yd_yX6_samePlace⟩, List.forall_mem_cons.mpr ⟨⟨xc_93 hty, yg_CLv rfl rfl rfl yl_wX4_110 yd_yX4_hold⟩, fun _ h => absurd h List.not_mem_nil⟩⟩) (by decide +kernel)
noncomputable def yw_s60 : List ys_C := [.inl 4, .inl 1, .inl 1, .inr (0, 4, []), .inr (8, 4, [5, 6, 10, 11]), .inl 1, .inl 1, .inl 6, .inr (0, 40, []), .inr (0, 40, [])]
noncomputable def yw_f60 (n : Nat) : List (List ys_V) := [[.inr (some 1), .inr (some 2), .inl (.inl ([(n + 0, 1)], 0)), .inl (.inl ([(n + 1, 1)], 0)), .inr (some 3), .inr (some 4), .inr (some 12), .inr (some 13), .inl (.inl ([(n + 2, 1)], 0)), .inl (.inl ([(n + 3, 1)], 0)), .inl (.inl ([(n + 4, 1)], 0))], [.inl (.inr ([(n + 5, 1)], 0)), .inl (.inr ([(n + 6, 1)], 0))], [.inl (.inr ([(n + 7, 1)], 0)), .inl (.inr ([(n + 8, 1)], 0))], [], [], [.inl (.inr ([(n + 9, 1)], 0)), .inl (.inr ([(n + 10, 1)], 0))], [.inl (.inr ([(n + 11, 1)], 0)), .inl (.inr ([(n + 12, 1)], 0))], [.inr (some 8), .inr (some 9), .inr (some 14), .inr (some 15), .inl (.inl ([(n + 13, 1)], 0)), .inl (.inl ([(n + 14, 1)], 0))], [], []]
noncomputable def yw_e60 : ys_E := [((-2147483648), 2147483647), (0, 4), (0, 40), (0, 40), ((-2147483648), 2147483647), ((-9223372036854775808), 9223372036854775807), ((-9223372036854775808), 9223372036854775807), ((-9223372036854775808), 9223372036854775807), ((-9223372036854775808), 9223372036854775807), ((-9223372036854775808), 9223372036854775807), ((-9223372036854775808), 9223372036854775807), ((-9223372036854775808), 9223372036854775807), ((-9223372036854775808), 9223372036854775807), (0, 40), ((-2147483648), 2147483647)]
noncomputable def yw_r60 : List ys_R := [((0, 0), []), ((0, 0), []), ((0, 0), []), ((0, 39), []), ((0, 0), []), ((0, 0), []), ((0, 0), []), ((0, 0), []), (((-300), 300), []), (((-300), 300), [])]
noncomputable def xf_95 : ys_F := (yw_f60 1, yw_r60)
noncomputable def xk_95 : ys_K := (((yX4_shareAlone, cX4_shareAlone, 3, none), (3, 71)), ([.inr (some 0), .inr (some 7), .inl (.inl ([(0, 1)], 0))], ([(0, 1)] ++ yw_e60, []), xf_95), ([([((-9223372036854775808), 9223372036854775807), ((-9223372036854775808), 9223372036854775807), ((-9223372036854775808), 9223372036854775807), ((-9223372036854775808), 9223372036854775807), ((-9223372036854775808), 9223372036854775807), ((-9223372036854775808), 9223372036854775807), ((-9223372036854775808), 9223372036854775807), ((-9223372036854775808), 9223372036854775807)], [], ((ys_fs xf_95.1 [(1, 0, .inl (.inr ([(16, 1)], 0))), (1, 1, .inl (.inr ([(17, 1)], 0))), (2, 0, .inl (.inr ([(18, 1)], 0))), (2, 1, .inl (.inr ([(19, 1)], 0))), (5, 0, .inl (.inr ([(20, 1)], 0))), (5, 1, .inl (.inr ([(21, 1)], 0))), (6, 0, .inl (.inr ([(22, 1)], 0))), (6, 1, .inl (.inr ([(23, 1)], 0)))]), xf_95.2), none)], []))
noncomputable def xq_95 : yt_Q := (yz_X4_shareAlone, (yl_flX4, yl_ciX4, yl_cjX4, yl_cpX4, yl_cqX4), [], [])
noncomputable def xa_95 : List yt_CE := [(((138, false), (0, false, [6])), (yw_s50, xk_84)), (((138, false), (0, false, [1])), (yw_s50, xk_84)), (((138, false), (0, false, [2])), (yw_s50, xk_84)), (((138, false), (0, false, [5])), (yw_s50, xk_84))]
theorem xc_95 {l : Launch} {D : va_G} {cT : Nat → ClassId} {tys : List (ClassId × FieldType)} (hty : yx_Ty tys cT) : yx_C l D cT tys yw_s60 xk_95 := yx_method (calls := xa_95) (Z := xq_95) 300 (by decide +kernel) yz_X4_shareAlone_ok hty (yl_lkX4 _) (yl_cqkX4 _) (List.forall_mem_cons.mpr ⟨⟨xc_84 hty, yg_CLv rfl rfl rfl yl_wX4_138 yd_yX1_become⟩, List.forall_mem_cons.mpr ⟨⟨xc_84 hty, yg_CLv rfl rfl rfl yl_wX4_138 yd_yX1_become⟩, List.forall_mem_cons.mpr ⟨⟨xc_84 hty, yg_CLv rfl rfl rfl yl_wX4_138 yd_yX1_become⟩, List.forall_mem_cons.mpr ⟨⟨xc_84 hty, yg_CLv rfl rfl rfl yl_wX4_138 yd_yX1_become⟩, fun _ h => absurd h List.not_mem_nil⟩⟩⟩⟩) (by decide +kernel)
noncomputable def xf_96 : ys_F := (yw_f11 3, yw_r11)
noncomputable def xk_96 : ys_K := (((yX4_isBetween, cX4_isBetween, 4, (some .boolean)), (1, 23)), ([.inr (some 0), .inl (.inl ([(0, 1)], 0)), .inl (.inl ([(1, 1)], 0)), .inl (.inl ([(2, 1)], 0))], ([(0, 39), (0, 39), (0, 39)] ++ yw_e11, []), xf_96), ([([], [], (xf_96.1, xf_96.2), some (.inl (.inl ([], 0)))), ([], [], (xf_96.1, xf_96.2), some (.inl (.inl ([], 1))))], []))
noncomputable def xq_96 : yt_Q := (yz_X4_isBetween, (yl_flX4, yl_ciX4, yl_cjX4, yl_cpX4, yl_cqX4), [], [])
noncomputable def xa_96 : List yt_CE := [(((122, false), (181, false, [0, 1, 2, 3, 4])), (yw_s11, xk_13)), (((135, false), (196, false, [0, 1, 2, 3, 4])), (yw_s11, xk_14))]
noncomputable def xT_96 : yt_Tb := fun d => match d with
  | 181 => xP_13
  | 196 => xP_14
  | _ => fun _ _ _ _ => True
theorem xc_96 {l : Launch} {D : va_G} {cT : Nat → ClassId} {tys : List (ClassId × FieldType)} (hty : yx_Ty tys cT) : yx_C l D cT tys yw_s11 xk_96 := yx_methodT (tb := xT_96) (fun _ _ _ _ => trivial) (calls := xa_96) (Z := xq_96) 300 (by decide +kernel) yz_X4_isBetween_ok hty (yl_lkX4 _) (yl_cqkX4 _) (List.forall_mem_cons.mpr ⟨⟨xc_13 hty, yg_CLv rfl rfl rfl yl_wX4_122 yd_yX6_turn⟩, List.forall_mem_cons.mpr ⟨⟨xc_14 hty, yg_CLv rfl rfl rfl yl_wX4_135 yd_yX6_reach⟩, fun _ h => absurd h List.not_mem_nil⟩⟩) (by decide +kernel)
noncomputable def xf_97 : ys_F := (yw_f58 6, yw_r58)
noncomputable def xk_97 : ys_K := (((yX4_hold, cX4_hold, 7, (some .boolean)), (0, 0)), ([.inr (some 0), .inl (.inl ([(0, 1)], 0)), .inl (.inl ([(1, 1)], 0)), .inl (.inl ([(2, 1)], 0)), .inl (.inl ([(3, 1)], 0)), .inl (.inl ([(4, 1)], 0)), .inl (.inl ([(5, 1)], 0))], ([(0, 2), (0, 3), (0, 39), (0, 39), (0, 39), (0, 1)] ++ yw_e58, []), xf_97), ([([], [], ((ys_fs xf_97.1 [(0, 2, .inl (.inl ([(0, 1)], 0))), (0, 3, .inl (.inl ([(1, 1)], 0)))]), xf_97.2), some (.inl (.inl ([], 1))))], [1]))
noncomputable def xq_97 : yt_Q := (yz_X4_hold, (yl_flX4, yl_ciX4, yl_cjX4, yl_cpX4, yl_cqX4), [], [])
noncomputable def xa_97 : List yt_CE := []
theorem xc_97 {l : Launch} {D : va_G} {cT : Nat → ClassId} {tys : List (ClassId × FieldType)} (hty : yx_Ty tys cT) : yx_C l D cT tys yw_s58 xk_97 := yx_method (calls := xa_97) (Z := xq_97) 300 (by decide +kernel) yz_X4_hold_ok hty (yl_lkX4 _) (yl_cqkX4 _) (fun _ h => absurd h List.not_mem_nil) (by decide +kernel)
noncomputable def xf_98 : ys_F := (yw_f59 0, yw_r59)
noncomputable def xk_98 : ys_K := (((yX4_findYesBetween, cX4_findYesBetween, 5, (some .boolean)), (2, 46)), ([.inr (some 0), .inr (some 4)], ([] ++ yw_e59, []), xf_98), ([([], [], (xf_98.1, xf_98.2), some (.inl (.inl ([], 0)))), ([], [([(2, 1)], (-1)), ([(3, 1)], (-2)), ([(3, 1)], (-1))], ((ys_fs xf_98.1 [(0, 2, .inl (.inl ([], 2))), (0, 3, .inl (.inl ([], 3)))]), xf_98.2), some (.inl (.inl ([], 1))))], [1]))
noncomputable def xq_98 : yt_Q := (yz_X4_findYesBetween, (yl_flX4, yl_ciX4, yl_cjX4, yl_cpX4, yl_cqX4), [(12, ([(0, 39), (0, 40)], [([(2, 1)], (-1))], (xf_98.1, xf_98.2), [(0, .inr (some 0)), (1, .inr (some 4)), (2, .inl (.inl ([(7, 1)], 0))), (3, .inl (.inl ([(8, 1)], 0)))], [], ([(7, (-1765)), (8, (-42))], 72321)), [], false), (2, ([(0, 40)], [], (xf_98.1, xf_98.2), [(0, .inr (some 0)), (1, .inr (some 4)), (2, .inl (.inl ([(7, 1)], 0)))], [], ([(7, (-1765))], 72364)), [], false), (25, ([(0, 39), (0, 39), (1, 40)], [([(2, 1)], (-1)), ([(3, 1)], (-1))], (xf_98.1, xf_98.2), [(0, .inr (some 0)), (1, .inr (some 4)), (2, .inl (.inl ([(7, 1)], 0))), (3, .inl (.inl ([(8, 1)], 0))), (4, .inl (.inl ([(9, 1)], 0)))], [], ([(7, (-1765)), (9, (-1)), (8, (-42))], 72320)), [], false)], [])
noncomputable def xa_98 : List yt_CE := [(((114, true), (0, false, [4, 5, 6, 10, 11])), (yw_s11, xk_96)), (((110, false), (0, false, [0, 1, 7, 8, 9, 2, 3])), (yw_s58, xk_97))]
theorem xc_98 {l : Launch} {D : va_G} {cT : Nat → ClassId} {tys : List (ClassId × FieldType)} (hty : yx_Ty tys cT) : yx_C l D cT tys yw_s59 xk_98 := yx_method (calls := xa_98) (Z := xq_98) 300 (by decide +kernel) yz_X4_findYesBetween_ok hty (yl_lkX4 _) (yl_cqkX4 _) (List.forall_mem_cons.mpr ⟨⟨xc_96 hty, yg_CLs yl_wX4_114 yd_yX4_isBetween⟩, List.forall_mem_cons.mpr ⟨⟨xc_97 hty, yg_CLv rfl rfl rfl yl_wX4_110 yd_yX4_hold⟩, fun _ h => absurd h List.not_mem_nil⟩⟩) (by decide +kernel)
noncomputable def yw_s61 : List ys_C := [.inl 4, .inr (0, 4, []), .inr (8, 4, [3, 4, 5, 11]), .inl 1, .inl 1, .inl 1, .inl 6, .inr (0, 40, []), .inr (0, 40, [])]
noncomputable def yw_f61 (n : Nat) : List (List ys_V) := [[.inr (some 9), .inr (some 10), .inl (.inl ([(n + 0, 1)], 0)), .inl (.inl ([(n + 1, 1)], 0)), .inr (some 1), .inr (some 2), .inr (some 12), .inr (some 13), .inl (.inl ([(n + 2, 1)], 0)), .inl (.inl ([(n + 3, 1)], 0)), .inl (.inl ([(n + 4, 1)], 0))], [], [], [.inl (.inr ([(n + 5, 1)], 0)), .inl (.inr ([(n + 6, 1)], 0))], [.inl (.inr ([(n + 7, 1)], 0)), .inl (.inr ([(n + 8, 1)], 0))], [.inl (.inr ([(n + 9, 1)], 0)), .inl (.inr ([(n + 10, 1)], 0))], [.inr (some 7), .inr (some 8), .inr (some 14), .inr (some 15), .inl (.inl ([(n + 11, 1)], 0)), .inl (.inl ([(n + 12, 1)], 0))], [], []]
noncomputable def yw_e61 : ys_E := [((-2147483648), 2147483647), (0, 4), (0, 40), (0, 40), ((-2147483648), 2147483647), ((-9223372036854775808), 9223372036854775807), ((-9223372036854775808), 9223372036854775807), ((-9223372036854775808), 9223372036854775807), ((-9223372036854775808), 9223372036854775807), ((-9223372036854775808), 9223372036854775807), ((-9223372036854775808), 9223372036854775807), (0, 40), ((-2147483648), 2147483647)]
noncomputable def yw_r61 : List ys_R := [((0, 0), []), ((0, 39), []), ((0, 0), []), ((0, 0), []), ((0, 0), []), ((0, 0), []), ((0, 0), []), (((-300), 300), []), (((-300), 300), [])]
noncomputable def xf_99 : ys_F := (yw_f61 2, yw_r61)
noncomputable def xk_99 : ys_K := (((yX4_shareBetween, cX4_shareBetween, 8, none), (3, 71)), ([.inr (some 0), .inr (some 6), .inl (.inl ([(0, 1)], 0)), .inl (.inl ([(1, 1)], 0))], ([(0, 1), (0, 1)] ++ yw_e61, []), xf_99), ([([((-9223372036854775808), 9223372036854775807), ((-9223372036854775808), 9223372036854775807), ((-9223372036854775808), 9223372036854775807), ((-9223372036854775808), 9223372036854775807), ((-9223372036854775808), 9223372036854775807), ((-9223372036854775808), 9223372036854775807)], [], ((ys_fs xf_99.1 [(3, 0, .inl (.inr ([(15, 1)], 0))), (3, 1, .inl (.inr ([(16, 1)], 0))), (4, 0, .inl (.inr ([(17, 1)], 0))), (4, 1, .inl (.inr ([(18, 1)], 0))), (5, 0, .inl (.inr ([(19, 1)], 0))), (5, 1, .inl (.inr ([(20, 1)], 0)))]), xf_99.2), none)], []))
noncomputable def xq_99 : yt_Q := (yz_X4_shareBetween, (yl_flX4, yl_ciX4, yl_cjX4, yl_cpX4, yl_cqX4), [], [])
noncomputable def xa_99 : List yt_CE := [(((135, false), (196, false, [6, 7, 8, 14, 15])), (yw_s11, xk_14)), (((138, false), (0, false, [4])), (yw_s50, xk_84)), (((138, false), (0, false, [5])), (yw_s50, xk_84)), (((138, false), (0, false, [3])), (yw_s50, xk_84))]
noncomputable def xT_99 : yt_Tb := fun d => match d with
  | 196 => xP_14
  | _ => fun _ _ _ _ => True
theorem xc_99 {l : Launch} {D : va_G} {cT : Nat → ClassId} {tys : List (ClassId × FieldType)} (hty : yx_Ty tys cT) : yx_C l D cT tys yw_s61 xk_99 := yx_methodT (tb := xT_99) (fun _ _ _ _ => trivial) (calls := xa_99) (Z := xq_99) 300 (by decide +kernel) yz_X4_shareBetween_ok hty (yl_lkX4 _) (yl_cqkX4 _) (List.forall_mem_cons.mpr ⟨⟨xc_14 hty, yg_CLv rfl rfl rfl yl_wX4_135 yd_yX6_reach⟩, List.forall_mem_cons.mpr ⟨⟨xc_84 hty, yg_CLv rfl rfl rfl yl_wX4_138 yd_yX1_become⟩, List.forall_mem_cons.mpr ⟨⟨xc_84 hty, yg_CLv rfl rfl rfl yl_wX4_138 yd_yX1_become⟩, List.forall_mem_cons.mpr ⟨⟨xc_84 hty, yg_CLv rfl rfl rfl yl_wX4_138 yd_yX1_become⟩, fun _ h => absurd h List.not_mem_nil⟩⟩⟩⟩) (by decide +kernel)
noncomputable def xf_100 : ys_F := (yw_f59 0, yw_r59)
noncomputable def xk_100 : ys_K := (((yX4_findNoBetween, cX4_findNoBetween, 5, (some .boolean)), (2, 46)), ([.inr (some 0), .inr (some 4)], ([] ++ yw_e59, []), xf_100), ([([], [], (xf_100.1, xf_100.2), some (.inl (.inl ([], 0)))), ([], [([(2, 1)], (-2)), ([(3, 1)], (-1))], ((ys_fs xf_100.1 [(0, 2, .inl (.inl ([], 2))), (0, 3, .inl (.inl ([], 3)))]), xf_100.2), some (.inl (.inl ([], 1))))], [1]))
noncomputable def xq_100 : yt_Q := (yz_X4_findNoBetween, (yl_flX4, yl_ciX4, yl_cjX4, yl_cpX4, yl_cqX4), [(14, ([(0, 39), (1, 40)], [([(2, 1)], (-1))], (xf_100.1, xf_100.2), [(0, .inr (some 0)), (1, .inr (some 4)), (2, .inl (.inl ([(7, 1)], 0))), (3, .inl (.inl ([(8, 1)], 0)))], [], ([(7, (-1764)), (8, (-43))], 72322)), [], false), (2, ([(0, 40)], [], (xf_100.1, xf_100.2), [(0, .inr (some 0)), (1, .inr (some 4)), (2, .inl (.inl ([(7, 1)], 0)))], [], ([(7, (-1764))], 72323)), [], false), (25, ([(0, 39), (1, 39), (0, 40)], [([(2, 1)], (-2))], (xf_100.1, xf_100.2), [(0, .inr (some 0)), (1, .inr (some 4)), (2, .inl (.inl ([(7, 1)], 0))), (3, .inl (.inl ([(8, 1)], 0))), (4, .inl (.inl ([(9, 1)], 0)))], [], ([(7, (-1764)), (9, (-1)), (8, (-43))], 72320)), [], false)], [])
noncomputable def xa_100 : List yt_CE := [(((114, true), (0, false, [4, 5, 6, 10, 11])), (yw_s11, xk_96)), (((110, false), (0, false, [0, 1, 7, 8, 9, 2, 3])), (yw_s58, xk_97))]
theorem xc_100 {l : Launch} {D : va_G} {cT : Nat → ClassId} {tys : List (ClassId × FieldType)} (hty : yx_Ty tys cT) : yx_C l D cT tys yw_s59 xk_100 := yx_method (calls := xa_100) (Z := xq_100) 300 (by decide +kernel) yz_X4_findNoBetween_ok hty (yl_lkX4 _) (yl_cqkX4 _) (List.forall_mem_cons.mpr ⟨⟨xc_96 hty, yg_CLs yl_wX4_114 yd_yX4_isBetween⟩, List.forall_mem_cons.mpr ⟨⟨xc_97 hty, yg_CLv rfl rfl rfl yl_wX4_110 yd_yX4_hold⟩, fun _ h => absurd h List.not_mem_nil⟩⟩) (by decide +kernel)
noncomputable def yw_s62 : List ys_C := [.inl 4, .inl 1, .inl 1, .inr (0, 4, []), .inr (8, 4, [5, 6, 7, 11]), .inl 1, .inl 1, .inl 1, .inl 6, .inr (0, 40, []), .inr (0, 40, [])]
noncomputable def yw_f62 (n : Nat) : List (List ys_V) := [[.inr (some 1), .inr (some 2), .inl (.inl ([(n + 0, 1)], 0)), .inl (.inl ([(n + 1, 1)], 0)), .inr (some 3), .inr (some 4), .inr (some 12), .inr (some 13), .inl (.inl ([(n + 2, 1)], 0)), .inl (.inl ([(n + 3, 1)], 0)), .inl (.inl ([(n + 4, 1)], 0))], [.inl (.inr ([(n + 5, 1)], 0)), .inl (.inr ([(n + 6, 1)], 0))], [.inl (.inr ([(n + 7, 1)], 0)), .inl (.inr ([(n + 8, 1)], 0))], [], [], [.inl (.inr ([(n + 9, 1)], 0)), .inl (.inr ([(n + 10, 1)], 0))], [.inl (.inr ([(n + 11, 1)], 0)), .inl (.inr ([(n + 12, 1)], 0))], [.inl (.inr ([(n + 13, 1)], 0)), .inl (.inr ([(n + 14, 1)], 0))], [.inr (some 9), .inr (some 10), .inr (some 14), .inr (some 15), .inl (.inl ([(n + 15, 1)], 0)), .inl (.inl ([(n + 16, 1)], 0))], [], []]
noncomputable def yw_e62 : ys_E := [((-2147483648), 2147483647), (0, 4), (0, 40), (0, 40), ((-2147483648), 2147483647), ((-9223372036854775808), 9223372036854775807), ((-9223372036854775808), 9223372036854775807), ((-9223372036854775808), 9223372036854775807), ((-9223372036854775808), 9223372036854775807), ((-9223372036854775808), 9223372036854775807), ((-9223372036854775808), 9223372036854775807), ((-9223372036854775808), 9223372036854775807), ((-9223372036854775808), 9223372036854775807), ((-9223372036854775808), 9223372036854775807), ((-9223372036854775808), 9223372036854775807), (0, 40), ((-2147483648), 2147483647)]
noncomputable def yw_r62 : List ys_R := [((0, 0), []), ((0, 0), []), ((0, 0), []), ((0, 39), []), ((0, 0), []), ((0, 0), []), ((0, 0), []), ((0, 0), []), ((0, 0), []), (((-300), 300), []), (((-300), 300), [])]
noncomputable def xf_101 : ys_F := (yw_f62 1, yw_r62)
noncomputable def xk_101 : ys_K := (((yX4_shareAlone, cX4_shareAlone, 3, none), (3, 71)), ([.inr (some 0), .inr (some 8), .inl (.inl ([(0, 1)], 0))], ([(0, 2)] ++ yw_e62, []), xf_101), ([([((-9223372036854775808), 9223372036854775807), ((-9223372036854775808), 9223372036854775807), ((-9223372036854775808), 9223372036854775807), ((-9223372036854775808), 9223372036854775807), ((-9223372036854775808), 9223372036854775807), ((-9223372036854775808), 9223372036854775807), ((-9223372036854775808), 9223372036854775807), ((-9223372036854775808), 9223372036854775807), ((-9223372036854775808), 9223372036854775807), ((-9223372036854775808), 9223372036854775807)], [], ((ys_fs xf_101.1 [(1, 0, .inl (.inr ([(18, 1)], 0))), (1, 1, .inl (.inr ([(19, 1)], 0))), (2, 0, .inl (.inr ([(20, 1)], 0))), (2, 1, .inl (.inr ([(21, 1)], 0))), (5, 0, .inl (.inr ([(22, 1)], 0))), (5, 1, .inl (.inr ([(23, 1)], 0))), (6, 0, .inl (.inr ([(24, 1)], 0))), (6, 1, .inl (.inr ([(25, 1)], 0))), (7, 0, .inl (.inr ([(26, 1)], 0))), (7, 1, .inl (.inr ([(27, 1)], 0)))]), xf_101.2), none)], []))
noncomputable def xq_101 : yt_Q := (yz_X4_shareAlone, (yl_flX4, yl_ciX4, yl_cjX4, yl_cpX4, yl_cqX4), [], [])
noncomputable def xa_101 : List yt_CE := [(((138, false), (0, false, [7])), (yw_s50, xk_84)), (((138, false), (0, false, [1])), (yw_s50, xk_84)), (((138, false), (0, false, [2])), (yw_s50, xk_84)), (((138, false), (0, false, [6])), (yw_s50, xk_84)), (((138, false), (0, false, [5])), (yw_s50, xk_84))]
theorem xc_101 {l : Launch} {D : va_G} {cT : Nat → ClassId} {tys : List (ClassId × FieldType)} (hty : yx_Ty tys cT) : yx_C l D cT tys yw_s62 xk_101 := yx_method (calls := xa_101) (Z := xq_101) 300 (by decide +kernel) yz_X4_shareAlone_ok hty (yl_lkX4 _) (yl_cqkX4 _) (List.forall_mem_cons.mpr ⟨⟨xc_84 hty, yg_CLv rfl rfl rfl yl_wX4_138 yd_yX1_become⟩, List.forall_mem_cons.mpr ⟨⟨xc_84 hty, yg_CLv rfl rfl rfl yl_wX4_138 yd_yX1_become⟩, List.forall_mem_cons.mpr ⟨⟨xc_84 hty, yg_CLv rfl rfl rfl yl_wX4_138 yd_yX1_become⟩, List.forall_mem_cons.mpr ⟨⟨xc_84 hty, yg_CLv rfl rfl rfl yl_wX4_138 yd_yX1_become⟩, List.forall_mem_cons.mpr ⟨⟨xc_84 hty, yg_CLv rfl rfl rfl yl_wX4_138 yd_yX1_become⟩, fun _ h => absurd h List.not_mem_nil⟩⟩⟩⟩⟩) (by decide +kernel)
noncomputable def xf_102 : ys_F := (yw_f61 2, yw_r61)
noncomputable def xk_102 : ys_K := (((yX4_shareBetween, cX4_shareBetween, 8, none), (3, 71)), ([.inr (some 0), .inr (some 6), .inl (.inl ([(0, 1)], 0)), .inl (.inl ([(1, 1)], 0))], ([(0, 2), (0, 1)] ++ yw_e61, []), xf_102), ([([((-9223372036854775808), 9223372036854775807), ((-9223372036854775808), 9223372036854775807), ((-9223372036854775808), 9223372036854775807), ((-9223372036854775808), 9223372036854775807), ((-9223372036854775808), 9223372036854775807), ((-9223372036854775808), 9223372036854775807)], [], ((ys_fs xf_102.1 [(3, 0, .inl (.inr ([(15, 1)], 0))), (3, 1, .inl (.inr ([(16, 1)], 0))), (4, 0, .inl (.inr ([(17, 1)], 0))), (4, 1, .inl (.inr ([(18, 1)], 0))), (5, 0, .inl (.inr ([(19, 1)], 0))), (5, 1, .inl (.inr ([(20, 1)], 0)))]), xf_102.2), none)], []))
noncomputable def xq_102 : yt_Q := (yz_X4_shareBetween, (yl_flX4, yl_ciX4, yl_cjX4, yl_cpX4, yl_cqX4), [], [])
noncomputable def xa_102 : List yt_CE := [(((135, false), (196, false, [6, 7, 8, 14, 15])), (yw_s11, xk_14)), (((138, false), (0, false, [4])), (yw_s50, xk_84)), (((138, false), (0, false, [5])), (yw_s50, xk_84)), (((138, false), (0, false, [3])), (yw_s50, xk_84))]
noncomputable def xT_102 : yt_Tb := fun d => match d with
  | 196 => xP_14
  | _ => fun _ _ _ _ => True
theorem xc_102 {l : Launch} {D : va_G} {cT : Nat → ClassId} {tys : List (ClassId × FieldType)} (hty : yx_Ty tys cT) : yx_C l D cT tys yw_s61 xk_102 := yx_methodT (tb := xT_102) (fun _ _ _ _ => trivial) (calls := xa_102) (Z := xq_102) 300 (by decide +kernel) yz_X4_shareBetween_ok hty (yl_lkX4 _) (yl_cqkX4 _) (List.forall_mem_cons.mpr ⟨⟨xc_14 hty, yg_CLv rfl rfl rfl yl_wX4_135 yd_yX6_reach⟩, List.forall_mem_cons.mpr ⟨⟨xc_84 hty, yg_CLv rfl rfl rfl yl_wX4_138 yd_yX1_become⟩, List.forall_mem_cons.mpr ⟨⟨xc_84 hty, yg_CLv rfl rfl rfl yl_wX4_138 yd_yX1_become⟩, List.forall_mem_cons.mpr ⟨⟨xc_84 hty, yg_CLv rfl rfl rfl yl_wX4_138 yd_yX1_become⟩, fun _ h => absurd h List.not_mem_nil⟩⟩⟩⟩) (by decide +kernel)
noncomputable def xf_103 : ys_F := (yw_f2 2, yw_r2)
noncomputable def xk_103 : ys_K := (((yX4_isSameSide, cX4_isSameSide, 2, (some .boolean)), (0, 0)), ([.inl (.inl ([(0, 1)], 0)), .inl (.inl ([(1, 1)], 0))], ([((-2147483648), 2147483647), ((-2147483648), 2147483647)] ++ yw_e2, []), xf_103), ([([], [], (xf_103.1, xf_103.2), some (.inl (.inl ([], 0)))), ([], [], (xf_103.1, xf_103.2), some (.inl (.inl ([], 1))))], []))
noncomputable def xq_103 : yt_Q := (yz_X4_isSameSide, (yl_flX4, yl_ciX4, yl_cjX4, yl_cpX4, yl_cqX4), [], [])
noncomputable def xa_103 : List yt_CE := []
theorem xc_103 {l : Launch} {D : va_G} {cT : Nat → ClassId} {tys : List (ClassId × FieldType)} (hty : yx_Ty tys cT) : yx_C l D cT tys yw_s2 xk_103 := yx_method (calls := xa_103) (Z := xq_103) 300 (by decide +kernel) yz_X4_isSameSide_ok hty (yl_lkX4 _) (yl_cqkX4 _) (fun _ h => absurd h List.not_mem_nil) (by decide +kernel)
noncomputable def yw_s63 : List ys_C := [.inl 4, .inr (0, 40, []), .inr (0, 40, []), .inl 6, .inr (0, 40, []), .inr (0, 40, [])]
noncomputable def yw_f63 (n : Nat) : List (List ys_V) := [[.inr (some 6), .inr (some 7), .inl (.inl ([(n + 0, 1)], 0)), .inl (.inl ([(n + 1, 1)], 0)), .inr (some 8), .inr (some 9), .inr (some 1), .inr (some 2), .inl (.inl ([(n + 2, 1)], 0)), .inl (.inl ([(n + 3, 1)], 0)), .inl (.inl ([(n + 4, 1)], 0))], [], [], [.inr (some 4), .inr (some 5), .inr (some 10), .inr (some 11), .inl (.inl ([(n + 5, 1)], 0)), .inl (.inl ([(n + 6, 1)], 0))], [], []]
noncomputable def yw_e63 : ys_E := [((-2147483648), 2147483647), (0, 4), (0, 40), (0, 40), ((-2147483648), 2147483647), (0, 40), ((-2147483648), 2147483647)]
noncomputable def yw_r63 : List ys_R := [((0, 0), []), ((0, 39), []), ((0, 39), []), ((0, 0), []), (((-300), 300), []), (((-300), 300), [])]
noncomputable def xf_104 : ys_F := (yw_f63 3, yw_r63)
noncomputable def xk_104 : ys_K := (((yX4_thirdAround, cX4_thirdAround, 7, (some .int)), (1, 23)), ([.inr (some 0), .inr (some 3), .inl (.inl ([(0, 1)], 0)), .inl (.inl ([(1, 1)], 0)), .inl (.inl ([(2, 1)], 0))], ([(0, 39), (0, 39), (0, 39)] ++ yw_e63, []), xf_104), ([([((-1), 39)], [], (xf_104.1, xf_104.2), some (.inl (.inl ([(10, 1)], 0))))], []))
noncomputable def xq_104 : yt_Q := (yz_X4_thirdAround, (yl_flX4, yl_ciX4, yl_cjX4, yl_cpX4, yl_cqX4), [(38, ([((-720000), 720000), (1, 40)], [], (xf_104.1, xf_104.2), [(0, .inr (some 0)), (1, .inr (some 3)), (2, .inl (.inl ([(0, 1)], 0))), (3, .inl (.inl ([(1, 1)], 0))), (4, .inl (.inl ([(2, 1)], 0))), (5, .inl (.inl ([(10, 1)], 0))), (6, .inl (.inl ([(11, 1)], 0)))], [], ([(11, (-1))], 40)), [], false)], [])
noncomputable def xa_104 : List yt_CE := [(((122, false), (181, false, [3, 4, 5, 10, 11])), (yw_s11, xk_13)), (((126, true), (0, false, [])), (yw_s2, xk_103))]
noncomputable def xT_104 : yt_Tb := fun d => match d with
  | 181 => xP_13
  | _ => fun _ _ _ _ => True
theorem xc_104 {l : Launch} {D : va_G} {cT : Nat → ClassId} {tys : List (ClassId × FieldType)} (hty : yx_Ty tys cT) : yx_C l D cT tys yw_s63 xk_104 := yx_methodT (tb := xT_104) (fun _ _ _ _ => trivial) (calls := xa_104) (Z := xq_104) 300 (by decide +kernel) yz_X4_thirdAround_ok hty (yl_lkX4 _) (yl_cqkX4 _) (List.forall_mem_cons.mpr ⟨⟨xc_13 hty, yg_CLv rfl rfl rfl yl_wX4_122 yd_yX6_turn⟩, List.forall_mem_cons.mpr ⟨⟨xc_103 hty, yg_CLs yl_wX4_126 yd_yX4_isSameSide⟩, fun _ h => absurd h List.not_mem_nil⟩⟩) (by decide +kernel)
