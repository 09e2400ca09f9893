noncomputable def xf_35 : ys_F := (yw_f2 1, yw_r2)
noncomputable def xk_35 : ys_K := (((yX11_isSheet, cX11_isSheet, 1, (some .boolean)), (0, 0)), ([.inl (.inl ([(0, 1)], 0))], ([((-2147483648), 2147483647)] ++ yw_e2, []), xf_35), ([([], [([(0, (-1))], (-1))], (xf_35.1, xf_35.2), some (.inl (.inl ([], 0)))), ([], [([(0, 1)], (-4))], (xf_35.1, xf_35.2), some (.inl (.inl ([], 0)))), ([], [([(0, 1)], 0), ([(0, (-1))], 3)], (xf_35.1, xf_35.2), some (.inl (.inl ([], 1))))], []))
noncomputable def xq_35 : yt_Q := (yz_X11_isSheet, (yl_flX11, yl_ciX11, yl_cjX11, yl_cpX11, yl_cqX11), [], [])
noncomputable def xa_35 : List yt_CE := []
theorem xc_35 {l : Launch} {D : va_G} {cT : Nat → ClassId} {tys : List (ClassId × FieldType)} (hty : yx_Ty tys cT) : yx_C l D cT tys yw_s2 xk_35 := yx_method (calls := xa_35) (Z := xq_35) 300 (by decide +kernel) yz_X11_isSheet_ok hty (yl_lkX11 _) (yl_cqkX11 _) (fun _ h => absurd h List.not_mem_nil) (by decide +kernel)
noncomputable def yw_s27 : List ys_C := [.inl 8]
noncomputable def yw_f27 (n : Nat) : List (List ys_V) := [[.inr (some 1), .inl (.inl ([(n + 0, 1)], 0)), .inl (.inl ([(n + 1, 1)], 0)), .inl (.inl ([(n + 2, 1)], 0))]]
noncomputable def yw_e27 : ys_E := [(0, 1), ((-2147483648), 2147483647), (0, 100)]
noncomputable def yw_r27 : List ys_R := [((0, 0), [])]
noncomputable def xf_36 : ys_F := (yw_f27 2, yw_r27)
noncomputable def xk_36 : ys_K := (((yX8_hasAll, cX8_hasAll, 3, (some .boolean)), (0, 0)), ([.inr (some 0), .inl (.inl ([(0, 1)], 0)), .inl (.inl ([(1, 1)], 0))], ([((-2147483648), 2147483647), ((-2147483648), 2147483647)] ++ yw_e27, []), xf_36), ([([], [([(0, (-1))], (-1))], (xf_36.1, xf_36.2), some (.inl (.inl ([], 0)))), ([], [([(0, 1)], 0), ([(1, (-1))], (-1))], (xf_36.1, xf_36.2), some (.inl (.inl ([], 0)))), ([], [([(0, 1)], 0), ([(1, 1)], 0), ([(0, 1), (4, (-1)), (1, 1)], (-1))], (xf_36.1, xf_36.2), some (.inl (.inl ([], 0)))), ([], [([(0, 1)], 0), ([(0, (-1))], 100), ([(1, 1)], 0), ([(1, (-1))], 100), ([(0, (-1)), (4, 1), (1, (-1))], 0)], (xf_36.1, xf_36.2), some (.inl (.inl ([], 1))))], []))
noncomputable def xq_36 : yt_Q := (yz_X8_hasAll, (yl_flX8, yl_ciX8, yl_cjX8, yl_cpX8, yl_cqX8), [], [])
noncomputable def xa_36 : List yt_CE := []
theorem xc_36 {l : Launch} {D : va_G} {cT : Nat → ClassId} {tys : List (ClassId × FieldType)} (hty : yx_Ty tys cT) : yx_C l D cT tys yw_s27 xk_36 := yx_method (calls := xa_36) (Z := xq_36) 300 (by decide +kernel) yz_X8_hasAll_ok hty (yl_lkX8 _) (yl_cqkX8 _) (fun _ h => absurd h List.not_mem_nil) (by decide +kernel)
noncomputable def xf_37 : ys_F := (yw_f27 1, yw_r27)
noncomputable def xk_37 : ys_K := (((yX8_cut, cX8_cut, 3, (some .long)), (0, 0)), ([.inr (some 0), .inl (.inr ([(0, 1)], 0))], ([((-9223372036854775808), 9223372036854775807)] ++ yw_e27, []), xf_37), ([([((-9223372036854775808), 9223372036854775807)], [], (xf_37.1, xf_37.2), some (.inl (.inr ([(4, 1)], 0))))], []))
noncomputable def xq_37 : yt_Q := (yz_X8_cut, (yl_flX8, yl_ciX8, yl_cjX8, yl_cpX8, yl_cqX8), [], [true])
noncomputable def xa_37 : List yt_CE := []
noncomputable def xv_37 : List (List yt_VC) := [[(1000, ([((-9223372036854775808), 9223372036854775807), (0, 1), ((-2147483648), (-1)), (0, 100)], []), [([(0, 1)], 0)], [], []),
   (1000, ([((-9223372036854775808), 9223372036854775807), (0, 1), (3, 2147483647), (0, 100)], []), [([(0, 1)], 0)], [], []),
   (1000, ([((-9223372036854775808), 9223372036854775807), (0, 1), (0, 0), (0, 100), ((-2147483648), 2147483647), ((-128), 127)], []), [([(5, 1)], 0)], [], [.inr (.inr (.inl (998, 3, [([(4, 1)], 0), ([(5, 1)], 0)], [], []))), .inr (.inr (.inl (998, 2, [([(0, 1)], 0), ([(4, 1)], 0)], [], [])))]),
   (1000, ([((-9223372036854775808), 9223372036854775807), (0, 1), (1, 1), (0, 100), ((-2147483648), 2147483647), ((-32768), 32767)], []), [([(5, 1)], 0)], [], [.inr (.inr (.inl (998, 4, [([(4, 1)], 0), ([(5, 1)], 0)], [], []))), .inr (.inr (.inl (998, 2, [([(0, 1)], 0), ([(4, 1)], 0)], [], [])))]),
   (1000, ([((-9223372036854775808), 9223372036854775807), (0, 1), (2, 2), (0, 100), ((-2147483648), 2147483647)], []), [([(4, 1)], 0)], [], [.inr (.inr (.inl (998, 2, [([(0, 1)], 0), ([(4, 1)], 0)], [], [])))])]]
noncomputable def xG_37 : Nat → yt_G → (Nat → Int) → yt_G → Prop
  | _, _, _, _ => True
noncomputable def xP_37 : yt_Ph
  | 0, r, g0, g => (r 4) = yq_cut (r 2) (r 0)
  | _, _, _, _ => True
noncomputable def xR_37 : yt_Ps := fun r g0 => True
noncomputable def xT_37 : yt_Tb := fun d => match d with
  | 998 => fun i r _ _ => yt_hwp i r
  | _ => fun _ _ _ _ => True
noncomputable def xU_37 : Nat → yt_Ps := fun d => match d with
  | _ => fun _ _ => True
theorem xw_37_0_0 : yt_hold xT_37 xk_37 xq_37.2.2.1 xG_37 xP_37 xU_37 4 xk_37.2.1.2.2.2 (fun g0 r g => xR_37 r g0 ∧ g = g0) (1000, ([((-9223372036854775808), 9223372036854775807), (0, 1), ((-2147483648), (-1)), (0, 100)], []), [([(0, 1)], 0)], [], []) := by
  intro g0 r gi g hok hh hars hfr hG
  have b0 : (-9223372036854775808) ≤ r 0 ∧ r 0 ≤ 9223372036854775807 := hok.1 0 ((-9223372036854775808), 9223372036854775807) rfl
  have b2 : (-2147483648) ≤ r 2 ∧ r 2 ≤ (-1) := hok.1 2 ((-2147483648), (-1)) rfl
  obtain ⟨hG, hgi⟩ := hG
  have hG : True := hG
  have hh : g = gi := hh
  subst hh
  refine yt_dalt (by decide) (by decide) ?_
  rw [show xk_37.2.1.2.1.1.length = 4 from rfl]
  show ((1 * r 0 + 0) + 0) = yq_cut ((1 * r 2 + 0) + 0) ((1 * r 0 + 0) + 0)
  try simp only [Int.one_mul, Int.zero_add, Int.add_zero]
  unfold yq_cut
  rw [if_neg (by omega), if_neg (by omega), if_neg (by omega)]
theorem xw_37_0_1 : yt_hold xT_37 xk_37 xq_37.2.2.1 xG_37 xP_37 xU_37 4 xk_37.2.1.2.2.2 (fun g0 r g => xR_37 r g0 ∧ g = g0) (1000, ([((-9223372036854775808), 9223372036854775807), (0, 1), (3, 2147483647), (0, 100)], []), [([(0, 1)], 0)], [], []) := by
  intro g0 r gi g hok hh hars hfr hG
  have b0 : (-9223372036854775808) ≤ r 0 ∧ r 0 ≤ 9223372036854775807 := hok.1 0 ((-9223372036854775808), 9223372036854775807) rfl
  have b2 : 3 ≤ r 2 ∧ r 2 ≤ 2147483647 := hok.1 2 (3, 2147483647) rfl
  obtain ⟨hG, hgi⟩ := hG
  have hG : True := hG
  have hh : g = gi := hh
  subst hh
  refine yt_dalt (by decide) (by decide) ?_
  rw [show xk_37.2.1.2.1.1.length = 4 from rfl]
  show ((1 * r 0 + 0) + 0) = yq_cut ((1 * r 2 + 0) + 0) ((1 * r 0 + 0) + 0)
  try simp only [Int.one_mul, Int.zero_add, Int.add_zero]
  unfold yq_cut
  rw [if_neg (by omega), if_neg (by omega), if_neg (by omega)]
theorem xw_37_0_2 : yt_hold xT_37 xk_37 xq_37.2.2.1 xG_37 xP_37 xU_37 4 xk_37.2.1.2.2.2 (fun g0 r g => xR_37 r g0 ∧ g = g0) (1000, ([((-9223372036854775808), 9223372036854775807), (0, 1), (0, 0), (0, 100), ((-2147483648), 2147483647), ((-128), 127)], []), [([(5, 1)], 0)], [], [.inr (.inr (.inl (998, 3, [([(4, 1)], 0), ([(5, 1)], 0)], [], []))), .inr (.inr (.inl (998, 2, [([(0, 1)], 0), ([(4, 1)], 0)], [], [])))]) := by
  intro g0 r gi g hok hh hars hfr hG
  have b0 : (-9223372036854775808) ≤ r 0 ∧ r 0 ≤ 9223372036854775807 := hok.1 0 ((-9223372036854775808), 9223372036854775807) rfl
  have b2 : 0 ≤ r 2 ∧ r 2 ≤ 0 := hok.1 2 (0, 0) rfl
  have b4 : (-2147483648) ≤ r 4 ∧ r 4 ≤ 2147483647 := hok.1 4 ((-2147483648), 2147483647) rfl
  have b5 : (-128) ≤ r 5 ∧ r 5 ≤ 127 := hok.1 5 ((-128), 127) rfl
  obtain ⟨hG, hgi⟩ := hG
  have hG : True := hG
  obtain ⟨h0, hh, e0, k0⟩ := hh
  have k0 : ∀ j, j ∉ [] → g j = h0 j := k0
  have e0 : ((1 * r 5 + 0) + 0) = (Int32.ofInt (((1 * r 4 + 0) + 0))).toInt8.toInt := e0
  obtain ⟨h1, hh, e1, k1⟩ := hh
  have k1 : ∀ j, j ∉ [] → h0 j = h1 j := k1
  have e1 : ((1 * r 4 + 0) + 0) = (Int32.ofInt (((1 * r 0 + 0) + 0))).toInt := e1
  have hh : h1 = gi := hh
  subst hh
  refine yt_dalt (by decide) (by decide) ?_
  rw [show xk_37.2.1.2.1.1.length = 4 from rfl]
  show ((1 * r 5 + 0) + 0) = yq_cut ((1 * r 2 + 0) + 0) ((1 * r 0 + 0) + 0)
  try simp only [Int.one_mul, Int.zero_add, Int.add_zero]
  try simp only [Int.one_mul, Int.zero_add, Int.add_zero] at e0
  try simp only [Int.one_mul, Int.zero_add, Int.add_zero] at e1
  unfold yq_cut
  rw [if_pos (by omega), ← e1]
  exact e0
theorem xw_37_0_3 : yt_hold xT_37 xk_37 xq_37.2.2.1 xG_37 xP_37 xU_37 4 xk_37.2.1.2.2.2 (fun g0 r g => xR_37 r g0 ∧ g = g0) (1000, ([((-9223372036854775808), 9223372036854775807), (0, 1), (1, 1), (0, 100), ((-2147483648), 2147483647), ((-32768), 32767)], []), [([(5, 1)], 0)], [], [.inr (.inr (.inl (998, 4, [([(4, 1)], 0), ([(5, 1)], 0)], [], []))), .inr (.inr (.inl (998, 2, [([(0, 1)], 0), ([(4, 1)], 0)], [], [])))]) := by
  intro g0 r gi g hok hh hars hfr hG
  have b0 : (-9223372036854775808) ≤ r 0 ∧ r 0 ≤ 9223372036854775807 := hok.1 0 ((-9223372036854775808), 9223372036854775807) rfl
  have b2 : 1 ≤ r 2 ∧ r 2 ≤ 1 := hok.1 2 (1, 1) rfl
  have b4 : (-2147483648) ≤ r 4 ∧ r 4 ≤ 2147483647 := hok.1 4 ((-2147483648), 2147483647) rfl
  have b5 : (-32768) ≤ r 5 ∧ r 5 ≤ 32767 := hok.1 5 ((-32768), 32767) rfl
  obtain ⟨hG, hgi⟩ := hG
  have hG : True := hG
  obtain ⟨h0, hh, e0, k0⟩ := hh
  have k0 : ∀ j, j ∉ [] → g j = h0 j := k0
  have e0 : ((1 * r 5 + 0) + 0) = (Int32.ofInt (((1 * r 4 + 0) + 0))).toInt16.toInt := e0
  obtain ⟨h1, hh, e1, k1⟩ := hh
  have k1 : ∀ j, j ∉ [] → h0 j = h1 j := k1
  have e1 : ((1 * r 4 + 0) + 0) = (Int32.ofInt (((1 * r 0 + 0) + 0))).toInt := e1
  have hh : h1 = gi := hh
  subst hh
  refine yt_dalt (by decide) (by decide) ?_
  rw [show xk_37.2.1.2.1.1.length = 4 from rfl]
  show ((1 * r 5 + 0) + 0) = yq_cut ((1 * r 2 + 0) + 0) ((1 * r 0 + 0) + 0)
  try simp only [Int.one_mul, Int.zero_add, Int.add_zero]
  try simp only [Int.one_mul, Int.zero_add, Int.add_zero] at e0
  try simp only [Int.one_mul, Int.zero_add, Int.add_zero] at e1
  unfold yq_cut
  rw [if_neg (by omega), if_pos (by omega), ← e1]
  exact e0
theorem xw_37_0_4 : yt_hold xT_37 xk_37 xq_37.2.2.1 xG_37 xP_37 xU_37 4 xk_37.2.1.2.2.2 (fun g0 r g => xR_37 r g0 ∧ g = g0) (1000, ([((-9223372036854775808), 9223372036854775807), (0, 1), (2, 2), (0, 100), ((-2147483648), 2147483647)], []), [([(4, 1)], 0)], [], [.inr (.inr (.inl (998, 2, [([(0, 1)], 0), ([(4, 1)], 0)], [], [])))]) := by
  intro g0 r gi g hok hh hars hfr hG
  have b0 : (-9223372036854775808) ≤ r 0 ∧ r 0 ≤ 9223372036854775807 := hok.1 0 ((-9223372036854775808), 9223372036854775807) rfl
  have b2 : 2 ≤ r 2 ∧ r 2 ≤ 2 := hok.1 2 (2, 2) rfl
  have b4 : (-2147483648) ≤ r 4 ∧ r 4 ≤ 2147483647 := hok.1 4 ((-2147483648), 2147483647) rfl
  obtain ⟨hG, hgi⟩ := hG
  have hG : True := hG
  obtain ⟨h0, hh, e0, k0⟩ := hh
  have k0 : ∀ j, j ∉ [] → g j = h0 j := k0
  have e0 : ((1 * r 4 + 0) + 0) = (Int32.ofInt (((1 * r 0 + 0) + 0))).toInt := e0
  have hh : h0 = gi := hh
  subst hh
  refine yt_dalt (by decide) (by decide) ?_
  rw [show xk_37.2.1.2.1.1.length = 4 from rfl]
  show ((1 * r 4 + 0) + 0) = yq_cut ((1 * r 2 + 0) + 0) ((1 * r 0 + 0) + 0)
  try simp only [Int.one_mul, Int.zero_add, Int.add_zero]
  try simp only [Int.one_mul, Int.zero_add, Int.add_zero] at e0
  unfold yq_cut
  rw [if_neg (by omega), if_neg (by omega), if_pos (by omega)]
  exact e0
theorem xn_37 : ∀ (j : Nat) (q : Nat × yt_T), xq_37.2.2.1[j]? = some q → q.2.2.2 = false → ∀ g0 r g, xG_37 j g0 r g
  | n + 0, q, hq, _ => by cases hq
theorem xs_37 : ∀ j, xq_37.2.2.2.getD j false = false → ∀ r g g', xP_37 j r g g'
  | 0, hf => by cases hf
  | n + 1, _ => fun _ _ _ => trivial
theorem xc_37 {l : Launch} {D : va_G} {cT : Nat → ClassId} {tys : List (ClassId × FieldType)} (hty : yx_Ty tys cT) : yt_Con l D vwCl cT tys yG yw_s27 xk_37 xR_37 xP_37 := yx_sem (calls := xa_37) (Z := xq_37) (tb := xT_37) (pt := xU_37) (Ga := xG_37) (vs := xv_37) (fun _ _ _ h => h) 300 (by decide +kernel) yz_X8_cut_ok hty (yl_lkX8 _) (yl_cqkX8 _) (fun _ h => absurd h List.not_mem_nil) (xn_37) (xs_37) (by decide +kernel) (List.forall_mem_cons.mpr ⟨xw_37_0_0, List.forall_mem_cons.mpr ⟨xw_37_0_1, List.forall_mem_cons.mpr ⟨xw_37_0_2, List.forall_mem_cons.mpr ⟨xw_37_0_3, List.forall_mem_cons.mpr ⟨xw_37_0_4, fun _ h => absurd h List.not_mem_nil⟩⟩⟩⟩⟩) (trivial)
noncomputable def yw_s28 : List ys_C := [.inl 8, .inr (1, 100, [])]
noncomputable def yw_f28 (n : Nat) : List (List ys_V) := [[.inr (some 1), .inl (.inl ([(n + 0, 1)], 0)), .inl (.inl ([(n + 1, 1)], 0)), .inl (.inl ([(n + 2, 1)], 0))], []]
noncomputable def yw_e28 : ys_E := [(0, 1), ((-2147483648), 2147483647), (0, 100)]
noncomputable def yw_r28 : List ys_R := [((0, 0), []), (((-9223372036854775808), 9223372036854775807), [])]
noncomputable def xf_38 : ys_F := (yw_f28 3, yw_r28)
noncomputable def xk_38 : ys_K := (((yX8_putAll, cX8_putAll, 6, none), (1, 22)), ([.inr (some 0), .inl (.inl ([(0, 1)], 0)), .inr (some 0), .inl (.inl ([(1, 1)], 0)), .inl (.inl ([(2, 1)], 0))], ([(0, 100), (0, 100), (0, 100)] ++ yw_e28, [([(2, (-1)), (0, (-1))], 100), ([(2, (-1)), (1, (-1))], 100)]), xf_38), ([([], [([(2, (-1)), (0, (-1))], 101)], (xf_38.1, xf_38.2), none)], [1]))
noncomputable def xq_38 : yt_Q := (yz_X8_putAll, (yl_flX8, yl_ciX8, yl_cjX8, yl_cpX8, yl_cqX8), [(18, ([(0, 101)], [], (xf_38.1, xf_38.2), [(0, .inr (some 0)), (1, .inl (.inl ([(0, 1)], 0))), (4, .inl (.inl ([(2, 1)], 0))), (5, .inl (.inl ([(6, 1)], 0)))], [], ([(6, (-1))], 101)), [], true)], [true])
noncomputable def xa_38 : List yt_CE := [(((32, false), (95, false, [0, 1])), (yw_s27, xk_37))]
noncomputable def xv_38 : List (List yt_VC) := [[(0, ([(0, 100), (0, 100), (0, 100), (0, 1), ((-2147483648), 2147483647), (0, 100)], [([(2, (-1)), (0, (-1))], 100), ([(2, (-1)), (1, (-1))], 100)]), [([(0, 1)], 0)], [], [.inr (.inr (.inr (1, 1, ([(1, 1)], 0), ([(0, 1)], 0), ([(2, 1)], 0))))])],
  [(1000, ([(0, 100), (0, 100), (0, 100), (0, 1), ((-2147483648), 2147483647), (0, 100), (0, 101)], [([(2, (-1)), (0, (-1)), (6, 1)], 0), ([(2, (-1)), (0, (-1))], 100), ([(2, (-1)), (1, (-1))], 100)]), [], [], []),
   (0, ([(0, 100), (0, 100), (0, 100), (0, 1), ((-2147483648), 2147483647), (0, 100), (0, 101), ((-9223372036854775808), 9223372036854775807), ((-9223372036854775808), 9223372036854775807)], [([(2, 1), (0, 1), (6, (-1))], (-1)), ([(2, (-1)), (0, (-1))], 100), ([(2, (-1)), (1, (-1))], 100)]), [([(6, 1)], 1)], [], [.inr (.inl (1, ([(6, 1)], 0), ([(8, 1)], 0))), .inr (.inr (.inl (95, 0, [([(7, 1)], 0), ([(3, 1)], 0), ([(4, 1)], 0), ([(5, 1)], 0), ([(8, 1)], 0)], [0, 1], []))), .inl (.inl (1, ([(6, 1)], 0), 7))])]]
noncomputable def xG_38 : Nat → yt_G → (Nat → Int) → yt_G → Prop
  | 0, g0, r, g => (g 1) = yq_pb (r 0) (r 1) (r 2) ((1 * (r 6) + 0) + 0) (r 4) (g0 1) (g0 1) ∧ (r 0) ≤ ((1 * (r 6) + 0) + 0) ∧ ((1 * (r 6) + 0) + 0) ≤ (r 0) + (r 2)
  | _, _, _, _ => True
noncomputable def xP_38 : yt_Ph
  | 0, r, g0, g => (g 1) = yq_pa (r 0) (r 1) (r 2) (r 4) (g0 1) (g0 1)
  | _, _, _, _ => True
noncomputable def xR_38 : yt_Ps := fun r g0 => True
noncomputable def xT_38 : yt_Tb := fun d => match d with
  | 95 => xP_37
  | _ => fun _ _ _ _ => True
noncomputable def xU_38 : Nat → yt_Ps := fun d => match d with
  | 95 => xR_37
  | _ => fun _ _ => True
theorem xw_38_0_0 : yt_hold xT_38 xk_38 xq_38.2.2.1 xG_38 xP_38 xU_38 6 xk_38.2.1.2.2.2 (fun g0 r g => xR_38 r g0 ∧ g = g0) (0, ([(0, 100), (0, 100), (0, 100), (0, 1), ((-2147483648), 2147483647), (0, 100)], [([(2, (-1)), (0, (-1))], 100), ([(2, (-1)), (1, (-1))], 100)]), [([(0, 1)], 0)], [], [.inr (.inr (.inr (1, 1, ([(1, 1)], 0), ([(0, 1)], 0), ([(2, 1)], 0))))]) := by
  intro g0 r gi g hok hh hars hfr hG
  have b0 : 0 ≤ r 0 ∧ r 0 ≤ 100 := hok.1 0 (0, 100) rfl
  have b1 : 0 ≤ r 1 ∧ r 1 ≤ 100 := hok.1 1 (0, 100) rfl
  have b2 : 0 ≤ r 2 ∧ r 2 ≤ 100 := hok.1 2 (0, 100) rfl
  have b4 : (-2147483648) ≤ r 4 ∧ r 4 ≤ 2147483647 := hok.1 4 ((-2147483648), 2147483647) rfl
  have f0 : 0 ≤ (((-1) * r 2 + ((-1) * r 0 + 0)) + 100) := hok.2 _ (List.mem_of_getElem? (i := 0) rfl)
  have f1 : 0 ≤ (((-1) * r 2 + ((-1) * r 1 + 0)) + 100) := hok.2 _ (List.mem_of_getElem? (i := 1) rfl)
  obtain ⟨hG, hgi⟩ := hG
  have hG : True := hG
  obtain ⟨h0, hh, e0⟩ := hh
  have e0 : g = ys_gcp h0 1 1 (((1 * r 1 + 0) + 0)).toNat (((1 * r 0 + 0) + 0)).toNat (((1 * r 2 + 0) + 0)).toNat := e0
  have hh : h0 = gi := hh
  subst hh
  refine yt_dcut (by decide) rfl ?_ ?_
  · exact fun f hf => absurd hf List.not_mem_nil
  · rw [show xk_38.2.1.2.1.1.length = 6 from rfl]
    show (g 1) = yq_pb ((1 * r 0 + 0) + 0) ((1 * r 1 + 0) + 0) ((1 * r 2 + 0) + 0) ((1 * ((1 * r 0 + 0) + 0) + 0) + 0) ((1 * r 4 + 0) + 0) (g0 1) (g0 1) ∧ ((1 * r 0 + 0) + 0) ≤ ((1 * ((1 * r 0 + 0) + 0) + 0) + 0) ∧ ((1 * ((1 * r 0 + 0) + 0) + 0) + 0) ≤ ((1 * r 0 + 0) + 0) + ((1 * r 2 + 0) + 0)
    try simp only [Int.one_mul, Int.zero_add, Int.add_zero]
    try simp only [Int.one_mul, Int.zero_add, Int.add_zero] at e0
    refine ⟨?_, by omega, by omega⟩
    rw [e0, hgi]
    show (if 1 = 1 then _ else _) = _
    rw [if_pos rfl]
    exact yq_pb_0 (by omega) (by omega) (by omega)
theorem xw_38_1_0 : yt_hold xT_38 xk_38 xq_38.2.2.1 xG_38 xP_38 xU_38 7 ((xq_38.2.2.1.getD 0 (0, ([], [], ([], []), [], [], ([], 0)), [], false)).2.1.2.2.1.2) (xG_38 0) (1000, ([(0, 100), (0, 100), (0, 100), (0, 1), ((-2147483648), 2147483647), (0, 100), (0, 101)], [([(2, (-1)), (0, (-1)), (6, 1)], 0), ([(2, (-1)), (0, (-1))], 100), ([(2, (-1)), (1, (-1))], 100)]), [], [], []) := by
  intro g0 r gi g hok hh hars hfr hG
  have b0 : 0 ≤ r 0 ∧ r 0 ≤ 100 := hok.1 0 (0, 100) rfl
  have b1 : 0 ≤ r 1 ∧ r 1 ≤ 100 := hok.1 1 (0, 100) rfl
  have b2 : 0 ≤ r 2 ∧ r 2 ≤ 100 := hok.1 2 (0, 100) rfl
  have b4 : (-2147483648) ≤ r 4 ∧ r 4 ≤ 2147483647 := hok.1 4 ((-2147483648), 2147483647) rfl
  have b6 : 0 ≤ r 6 ∧ r 6 ≤ 101 := hok.1 6 (0, 101) rfl
  have f0 : 0 ≤ (((-1) * r 2 + ((-1) * r 0 + (1 * r 6 + 0))) + 0) := hok.2 _ (List.mem_of_getElem? (i := 0) rfl)
  have f1 : 0 ≤ (((-1) * r 2 + ((-1) * r 0 + 0)) + 100) := hok.2 _ (List.mem_of_getElem? (i := 1) rfl)
  have f2 : 0 ≤ (((-1) * r 2 + ((-1) * r 1 + 0)) + 100) := hok.2 _ (List.mem_of_getElem? (i := 2) rfl)
  have hG : (gi 1) = yq_pb (r 0) (r 1) (r 2) ((1 * (r 6) + 0) + 0) (r 4) (g0 1) (g0 1) ∧ (r 0) ≤ ((1 * (r 6) + 0) + 0) ∧ ((1 * (r 6) + 0) + 0) ≤ (r 0) + (r 2) := hG
  have hh : g = gi := hh
  subst hh
  refine yt_dalt (by decide) (by decide) ?_
  rw [show xk_38.2.1.2.1.1.length = 6 from rfl]
  show (g 1) = yq_pa ((1 * r 0 + 0) + 0) ((1 * r 1 + 0) + 0) ((1 * r 2 + 0) + 0) ((1 * r 4 + 0) + 0) (g0 1) (g0 1)
  try simp only [Int.one_mul, Int.zero_add, Int.add_zero]
  try simp only [Int.one_mul, Int.zero_add, Int.add_zero] at hG
  obtain ⟨a1, a2, a3⟩ := hG
  rw [a1]
  exact yq_pb_e (by omega)
theorem xw_38_1_1 : yt_hold xT_38 xk_38 xq_38.2.2.1 xG_38 xP_38 xU_38 7 ((xq_38.2.2.1.getD 0 (0, ([], [], ([], []), [], [], ([], 0)), [], false)).2.1.2.2.1.2) (xG_38 0) (0, ([(0, 100), (0, 100), (0, 100), (0, 1), ((-2147483648), 2147483647), (0, 100), (0, 101), ((-9223372036854775808), 9223372036854775807), ((-9223372036854775808), 9223372036854775807)], [([(2, 1), (0, 1), (6, (-1))], (-1)), ([(2, (-1)), (0, (-1))], 100), ([(2, (-1)), (1, (-1))], 100)]), [([(6, 1)], 1)], [], [.inr (.inl (1, ([(6, 1)], 0), ([(8, 1)], 0))), .inr (.inr (.inl (95, 0, [([(7, 1)], 0), ([(3, 1)], 0), ([(4, 1)], 0), ([(5, 1)], 0), ([(8, 1)], 0)], [0, 1], []))), .inl (.inl (1, ([(6, 1)], 0), 7))]) := by
  intro g0 r gi g hok hh hars hfr hG
  have b0 : 0 ≤ r 0 ∧ r 0 ≤ 100 := hok.1 0 (0, 100) rfl
  have b1 : 0 ≤ r 1 ∧ r 1 ≤ 100 := hok.1 1 (0, 100) rfl
  have b2 : 0 ≤ r 2 ∧ r 2 ≤ 100 := hok.1 2 (0, 100) rfl
  have b4 : (-2147483648) ≤ r 4 ∧ r 4 ≤ 2147483647 := hok.1 4 ((-2147483648), 2147483647) rfl
  have b6 : 0 ≤ r 6 ∧ r 6 ≤ 101 := hok.1 6 (0, 101) rfl
  have b7 : (-9223372036854775808) ≤ r 7 ∧ r 7 ≤ 9223372036854775807 := hok.1 7 ((-9223372036854775808), 9223372036854775807) rfl
  have b8 : (-9223372036854775808) ≤ r 8 ∧ r 8 ≤ 9223372036854775807 := hok.1 8 ((-9223372036854775808), 9223372036854775807) rfl
  have f0 : 0 ≤ ((1 * r 2 + (1 * r 0 + ((-1) * r 6 + 0))) + (-1)) := hok.2 _ (List.mem_of_getElem? (i := 0) rfl)
  have f1 : 0 ≤ (((-1) * r 2 + ((-1) * r 0 + 0)) + 100) := hok.2 _ (List.mem_of_getElem? (i := 1) rfl)
  have f2 : 0 ≤ (((-1) * r 2 + ((-1) * r 1 + 0)) + 100) := hok.2 _ (List.mem_of_getElem? (i := 2) rfl)
  have hG : (gi 1) = yq_pb (r 0) (r 1) (r 2) ((1 * (r 6) + 0) + 0) (r 4) (g0 1) (g0 1) ∧ (r 0) ≤ ((1 * (r 6) + 0) + 0) ∧ ((1 * (r 6) + 0) + 0) ≤ (r 0) + (r 2) := hG
  obtain ⟨h0, hh, e0⟩ := hh
  have e0 : g = ys_gup h0 1 (((1 * r 6 + 0) + 0)).toNat ((1 * r 8 + 0) + 0) := e0
  obtain ⟨h1, hh, e1, k1⟩ := hh
  have k1 : ∀ j, j ∉ [] → h0 j = h1 j := k1
  have e1 : ((1 * r 8 + 0) + 0) = yq_cut ((1 * r 4 + 0) + 0) ((1 * r 7 + 0) + 0) := e1
  obtain ⟨g2, hh, q2, e2⟩ := hh
  subst q2
  have e2 : r 7 = h1 1 (((1 * r 6 + 0) + 0)).toNat := e2
  rw [show (((1 * r 6 + 0) + 0)).toNat = (r 6).toNat by omega] at e2
  have hh : h1 = gi := hh
  subst hh
  refine yt_dcut (by decide) rfl ?_ ?_
  · exact fun f hf => absurd hf List.not_mem_nil
  · rw [show xk_38.2.1.2.1.1.length = 6 from rfl]
    show (g 1) = yq_pb ((1 * r 0 + 0) + 0) ((1 * r 1 + 0) + 0) ((1 * r 2 + 0) + 0) ((1 * ((1 * r 6 + 0) + 1) + 0) + 0) ((1 * r 4 + 0) + 0) (g0 1) (g0 1) ∧ ((1 * r 0 + 0) + 0) ≤ ((1 * ((1 * r 6 + 0) + 1) + 0) + 0) ∧ ((1 * ((1 * r 6 + 0) + 1) + 0) + 0) ≤ ((1 * r 0 + 0) + 0) + ((1 * r 2 + 0) + 0)
    try simp only [Int.one_mul, Int.zero_add, Int.add_zero]
    try simp only [Int.one_mul, Int.zero_add, Int.add_zero] at e0
    try simp only [Int.one_mul, Int.zero_add, Int.add_zero] at e1 hG
    obtain ⟨a1, a2, a3⟩ := hG
    refine ⟨?_, by omega, by omega⟩
    rw [e0, yq_gup_self, k1 1 (by decide), e1, e2, a1]
    exact yq_pb_s (by omega) (by omega) (by omega) (by omega)
theorem xn_38 : ∀ (j : Nat) (q : Nat × yt_T), xq_38.2.2.1[j]? = some q → q.2.2.2 = false → ∀ g0 r g, xG_38 j g0 r g
  | 0, q, hq, hf => by cases hq; cases hf
  | n + 1, q, hq, _ => by cases hq
theorem xs_38 : ∀ j, xq_38.2.2.2.getD j false = false → ∀ r g g', xP_38 j r g g'
  | 0, hf => by cases hf
  | n + 1, _ => fun _ _ _ => trivial
theorem xc_38 {l : Launch} {D : va_G} {cT : Nat → ClassId} {tys : List (ClassId × FieldType)} (hty : yx_Ty tys cT) : yt_Con l D vwCl cT tys yG yw_s28 xk_38 xR_38 xP_38 := yx_sem (calls := xa_38) (Z := xq_38) (tb := xT_38) (pt := xU_38) (Ga := xG_38) (vs := xv_38) (fun _ _ _ _ => trivial) 300 (by decide +kernel) yz_X8_putAll_ok hty (yl_lkX8 _) (yl_cqkX8 _) (List.forall_mem_cons.mpr ⟨⟨xc_37 hty, yg_CLv rfl rfl rfl yl_wX8_32 yd_yX8_cut, fun _ _ _ => trivial⟩, fun _ h => absurd h List.not_mem_nil⟩) (xn_38) (xs_38) (by decide +kernel) (List.forall_mem_cons.mpr ⟨xw_38_0_0, fun _ h => absurd h List.not_mem_nil⟩) (⟨List.forall_mem_cons.mpr ⟨xw_38_1_0, List.forall_mem_cons.mpr ⟨xw_38_1_1, fun _ h => absurd h List.not_mem_nil⟩⟩, trivial⟩)
noncomputable def yw_s29 : List ys_C := [.inl 8, .inr (1, 100, []), .inl 8, .inr (1, 100, [])]
noncomputable def yw_f29 (n : Nat) : List (List ys_V) := [[.inr (some 1), .inl (.inl ([(n + 0, 1)], 0)), .inl (.inl ([(n + 1, 1)], 0)), .inl (.inl ([(n + 2, 1)], 0))], [], [.inr (some 3), .inl (.inl ([(n + 3, 1)], 0)), .inl (.inl ([(n + 4, 1)], 0)), .inl (.inl ([(n + 5, 1)], 0))], []]
noncomputable def yw_e29 : ys_E := [(0, 1), ((-2147483648), 2147483647), (0, 100), (0, 1), ((-2147483648), 2147483647), (0, 100)]
noncomputable def yw_r29 : List ys_R := [((0, 0), []), (((-9223372036854775808), 9223372036854775807), []), ((0, 0), []), (((-9223372036854775808), 9223372036854775807), [])]
noncomputable def xf_39 : ys_F := (yw_f29 3, yw_r29)
noncomputable def xk_39 : ys_K := (((yX8_putAll, cX8_putAll, 6, none), (1, 22)), ([.inr (some 0), .inl (.inl ([(0, 1)], 0)), .inr (some 2), .inl (.inl ([(1, 1)], 0)), .inl (.inl ([(2, 1)], 0))], ([(0, 100), (0, 100), (0, 100)] ++ yw_e29, [([(2, (-1)), (0, (-1))], 100), ([(2, (-1)), (1, (-1))], 100)]), xf_39), ([([], [([(2, (-1)), (0, (-1))], 101)], (xf_39.1, xf_39.2), none)], [1]))
noncomputable def xq_39 : yt_Q := (yz_X8_putAll, (yl_flX8, yl_ciX8, yl_cjX8, yl_cpX8, yl_cqX8), [(18, ([(0, 101)], [], (xf_39.1, xf_39.2), [(0, .inr (some 0)), (1, .inl (.inl ([(0, 1)], 0))), (4, .inl (.inl ([(2, 1)], 0))), (5, .inl (.inl ([(9, 1)], 0)))], [], ([(9, (-1))], 101)), [], true)], [true])
noncomputable def xa_39 : List yt_CE := [(((32, false), (95, false, [0, 1])), (yw_s27, xk_37))]
noncomputable def xv_39 : List (List yt_VC) := [[(0, ([(0, 100), (0, 100), (0, 100), (0, 1), ((-2147483648), 2147483647), (0, 100), (0, 1), ((-2147483648), 2147483647), (0, 100)], [([(2, (-1)), (0, (-1))], 100), ([(2, (-1)), (1, (-1))], 100)]), [([(0, 1)], 0)], [], [.inr (.inr (.inr (3, 1, ([(1, 1)], 0), ([(0, 1)], 0), ([(2, 1)], 0))))])],
  [(1000, ([(0, 100), (0, 100), (0, 100), (0, 1), ((-2147483648), 2147483647), (0, 100), (0, 1), ((-2147483648), 2147483647), (0, 100), (0, 101)], [([(2, (-1)), (0, (-1)), (9, 1)], 0), ([(2, (-1)), (0, (-1))], 100), ([(2, (-1)), (1, (-1))], 100)]), [], [], []),
   (0, ([(0, 100), (0, 100), (0, 100), (0, 1), ((-2147483648), 2147483647), (0, 100), (0, 1), ((-2147483648), 2147483647), (0, 100), (0, 101), ((-9223372036854775808), 9223372036854775807), ((-9223372036854775808), 9223372036854775807)], [([(2, 1), (0, 1), (9, (-1))], (-1)), ([(2, (-1)), (0, (-1))], 100), ([(2, (-1)), (1, (-1))], 100)]), [([(9, 1)], 1)], [], [.inr (.inl (1, ([(9, 1)], 0), ([(11, 1)], 0))), .inr (.inr (.inl (95, 0, [([(10, 1)], 0), ([(3, 1)], 0), ([(4, 1)], 0), ([(5, 1)], 0), ([(11, 1)], 0)], [0, 1], []))), .inl (.inl (1, ([(9, 1)], 0), 10))])]]
noncomputable def xG_39 : Nat → yt_G → (Nat → Int) → yt_G → Prop
  | 0, g0, r, g => (g 1) = yq_pb (r 0) (r 1) (r 2) ((1 * (r 9) + 0) + 0) (r 4) (g0 3) (g0 1) ∧ (r 0) ≤ ((1 * (r 9) + 0) + 0) ∧ ((1 * (r 9) + 0) + 0) ≤ (r 0) + (r 2)
  | _, _, _, _ => True
noncomputable def xP_39 : yt_Ph
  | 0, r, g0, g => (g 1) = yq_pa (r 0) (r 1) (r 2) (r 4) (g0 3) (g0 1)
  | _, _, _, _ => True
noncomputable def xR_39 : yt_Ps := fun r g0 => True
noncomputable def xT_39 : yt_Tb := fun d => match d with
  | 95 => xP_37
  | _ => fun _ _ _ _ => True
noncomputable def xU_39 : Nat → yt_Ps := fun d => match d with
  | 95 => xR_37
  | _ => fun _ _ => True
theorem xw_39_0_0 : yt_hold xT_39 xk_39 xq_39.2.2.1 xG_39 xP_39 xU_39 9 xk_39.2.1.2.2.2 (fun g0 r g => xR_39 r g0 ∧ g = g0) (0, ([(0, 100), (0, 100), (0, 100), (0, 1), ((-2147483648), 2147483647), (0, 100), (0, 1), ((-2147483648), 2147483647), (0, 100)], [([(2, (-1)), (0, (-1))], 100), ([(2, (-1)), (1, (-1))], 100)]), [([(0, 1)], 0)], [], [.inr (.inr (.inr (3, 1, ([(1, 1)], 0), ([(0, 1)], 0), ([(2, 1)], 0))))]) := by
  intro g0 r gi g hok hh hars hfr hG
  have b0 : 0 ≤ r 0 ∧ r 0 ≤ 100 := hok.1 0 (0, 100) rfl
  have b1 : 0 ≤ r 1 ∧ r 1 ≤ 100 := hok.1 1 (0, 100) rfl
  have b2 : 0 ≤ r 2 ∧ r 2 ≤ 100 := hok.1 2 (0, 100) rfl
  have b4 : (-2147483648) ≤ r 4 ∧ r 4 ≤ 2147483647 := hok.1 4 ((-2147483648), 2147483647) rfl
  have f0 : 0 ≤ (((-1) * r 2 + ((-1) * r 0 + 0)) + 100) := hok.2 _ (List.mem_of_getElem? (i := 0) rfl)
  have f1 : 0 ≤ (((-1) * r 2 + ((-1) * r 1 + 0)) + 100) := hok.2 _ (List.mem_of_getElem? (i := 1) rfl)
  obtain ⟨hG, hgi⟩ := hG
  have hG : True := hG
  obtain ⟨h0, hh, e0⟩ := hh
  have e0 : g = ys_gcp h0 3 1 (((1 * r 1 + 0) + 0)).toNat (((1 * r 0 + 0) + 0)).toNat (((1 * r 2 + 0) + 0)).toNat := e0
  have hh : h0 = gi := hh
  subst hh
  refine yt_dcut (by decide) rfl ?_ ?_
  · exact fun f hf => absurd hf List.not_mem_nil
  · rw [show xk_39.2.1.2.1.1.length = 9 from rfl]
    show (g 1) = yq_pb ((1 * r 0 + 0) + 0) ((1 * r 1 + 0) + 0) ((1 * r 2 + 0) + 0) ((1 * ((1 * r 0 + 0) + 0) + 0) + 0) ((1 * r 4 + 0) + 0) (g0 3) (g0 1) ∧ ((1 * r 0 + 0) + 0) ≤ ((1 * ((1 * r 0 + 0) + 0) + 0) + 0) ∧ ((1 * ((1 * r 0 + 0) + 0) + 0) + 0) ≤ ((1 * r 0 + 0) + 0) + ((1 * r 2 + 0) + 0)
    try simp only [Int.one_mul, Int.zero_add, Int.add_zero]
    try simp only [Int.one_mul, Int.zero_add, Int.add_zero] at e0
    refine ⟨?_, by omega, by omega⟩
    rw [e0, hgi]
    show (if 1 = 1 then _ else _) = _
    rw [if_pos rfl]
    exact yq_pb_0 (by omega) (by omega) (by omega)
theorem xw_39_1_0 : yt_hold xT_39 xk_39 xq_39.2.2.1 xG_39 xP_39 xU_39 10 ((xq_39.2.2.1.getD 0 (0, ([], [], ([], []), [], [], ([], 0)), [], false)).2.1.2.2.1.2) (xG_39 0) (1000, ([(0, 100), (0, 100), (0, 100), (0, 1), ((-2147483648), 2147483647), (0, 100), (0, 1), ((-2147483648), 2147483647), (0, 100), (0, 101)], [([(2, (-1)), (0, (-1)), (9, 1)], 0), ([(2, (-1)), (0, (-1))], 100), ([(2, (-1)), (1, (-1))], 100)]), [], [], []) := by
  intro g0 r gi g hok hh hars hfr hG
  have b0 : 0 ≤ r 0 ∧ r 0 ≤ 100 := hok.1 0 (0, 100) rfl
  have b1 : 0 ≤ r 1 ∧ r 1 ≤ 100 := hok.1 1 (0, 100) rfl
  have b2 : 0 ≤ r 2 ∧ r 2 ≤ 100 := hok.1 2 (0, 100) rfl
  have b4 : (-2147483648) ≤ r 4 ∧ r 4 ≤ 2147483647 := hok.1 4 ((-2147483648), 2147483647) rfl
  have b9 : 0 ≤ r 9 ∧ r 9 ≤ 101 := hok.1 9 (0, 101) rfl
  have f0 : 0 ≤ (((-1) * r 2 + ((-1) * r 0 + (1 * r 9 + 0))) + 0) := hok.2 _ (List.mem_of_getElem? (i := 0) rfl)
  have f1 : 0 ≤ (((-1) * r 2 + ((-1) * r 0 + 0)) + 100) := hok.2 _ (List.mem_of_getElem? (i := 1) rfl)
  have f2 : 0 ≤ (((-1) * r 2 + ((-1) * r 1 + 0)) + 100) := hok.2 _ (List.mem_of_getElem? (i := 2) rfl)
  have hG : (gi 1) = yq_pb (r 0) (r 1) (r 2) ((1 * (r 9) + 0) + 0) (r 4) (g0 3) (g0 1) ∧ (r 0) ≤ ((1 * (r 9) + 0) + 0) ∧ ((1 * (r 9) + 0) + 0) ≤ (r 0) + (r 2) := hG
  have hh : g = gi := hh
  subst hh
  refine yt_dalt (by decide) (by decide) ?_
  rw [show xk_39.2.1.2.1.1.length = 9 from rfl]
  show (g 1) = yq_pa ((1 * r 0 + 0) + 0) ((1 * r 1 + 0) + 0) ((1 * r 2 + 0) + 0) ((1 * r 4 + 0) + 0) (g0 3) (g0 1)
  try simp only [Int.one_mul, Int.zero_add, Int.add_zero]
  try simp only [Int.one_mul, Int.zero_add, Int.add_zero] at hG
  obtain ⟨a1, a2, a3⟩ := hG
  rw [a1]
  exact yq_pb_e (by omega)
theorem xw_39_1_1 : yt_hold xT_39 xk_39 xq_39.2.2.1 xG_39 xP_39 xU_39 10 ((xq_39.2.2.1.getD 0 (0, ([], [], ([], []), [], [], ([], 0)), [], false)).2.1.2.2.1.2) (xG_39 0) (0, ([(0, 100), (0, 100), (0, 100), (0, 1), ((-2147483648), 2147483647), (0, 100), (0, 1), ((-2147483648), 2147483647), (0, 100), (0, 101), ((-9223372036854775808), 9223372036854775807), ((-9223372036854775808), 9223372036854775807)], [([(2, 1), (0, 1), (9, (-1))], (-1)), ([(2, (-1)), (0, (-1))], 100), ([(2, (-1)), (1, (-1))], 100)]), [([(9, 1)], 1)], [], [.inr (.inl (1, ([(9, 1)], 0), ([(11, 1)], 0))), .inr (.inr (.inl (95, 0, [([(10, 1)], 0), ([(3, 1)], 0), ([(4, 1)], 0), ([(5, 1)], 0), ([(11, 1)], 0)], [0, 1], []))), .inl (.inl (1, ([(9, 1)], 0), 10))]) := by
  intro g0 r gi g hok hh hars hfr hG
  have b0 : 0 ≤ r 0 ∧ r 0 ≤ 100 := hok.1 0 (0, 100) rfl
  have b1 : 0 ≤ r 1 ∧ r 1 ≤ 100 := hok.1 1 (0, 100) rfl
  have b2 : 0 ≤ r 2 ∧ r 2 ≤ 100 := hok.1 2 (0, 100) rfl
  have b4 : (-2147483648) ≤ r 4 ∧ r 4 ≤ 2147483647 := hok.1 4 ((-2147483648), 2147483647) rfl
  have b9 : 0 ≤ r 9 ∧ r 9 ≤ 101 := hok.1 9 (0, 101) rfl
  have b10 : (-9223372036854775808) ≤ r 10 ∧ r 10 ≤ 9223372036854775807 := hok.1 10 ((-9223372036854775808), 9223372036854775807) rfl
  have b11 : (-9223372036854775808) ≤ r 11 ∧ r 11 ≤ 9223372036854775807 := hok.1 11 ((-9223372036854775808), 9223372036854775807) rfl
  have f0 : 0 ≤ ((1 * r 2 + (1 * r 0 + ((-1) * r 9 + 0))) + (-1)) := hok.2 _ (List.mem_of_getElem? (i := 0) rfl)
  have f1 : 0 ≤ (((-1) * r 2 + ((-1) * r 0 + 0)) + 100) := hok.2 _ (List.mem_of_getElem? (i := 1) rfl)
  have f2 : 0 ≤ (((-1) * r 2 + ((-1) * r 1 + 0)) + 100) := hok.2 _ (List.mem_of_getElem? (i := 2) rfl)
  have hG : (gi 1) = yq_pb (r 0) (r 1) (r 2) ((1 * (r 9) + 0) + 0) (r 4) (g0 3) (g0 1) ∧ (r 0) ≤ ((1 * (r 9) + 0) + 0) ∧ ((1 * (r 9) + 0) + 0) ≤ (r 0) + (r 2) := hG
  obtain ⟨h0, hh, e0⟩ := hh
  have e0 : g = ys_gup h0 1 (((1 * r 9 + 0) + 0)).toNat ((1 * r 11 + 0) + 0) := e0
  obtain ⟨h1, hh, e1, k1⟩ := hh
  have k1 : ∀ j, j ∉ [] → h0 j = h1 j := k1
  have e1 : ((1 * r 11 + 0) + 0) = yq_cut ((1 * r 4 + 0) + 0) ((1 * r 10 + 0) + 0) := e1
  obtain ⟨g2, hh, q2, e2⟩ := hh
  subst q2
  have e2 : r 10 = h1 1 (((1 * r 9 + 0) + 0)).toNat := e2
  rw [show (((1 * r 9 + 0) + 0)).toNat = (r 9).toNat by omega] at e2
  have hh : h1 = gi := hh
  subst hh
  refine yt_dcut (by decide) rfl ?_ ?_
  · exact fun f hf => absurd hf List.not_mem_nil
  · rw [show xk_39.2.1.2.1.1.length = 9 from rfl]
    show (g 1) = yq_pb ((1 * r 0 + 0) + 0) ((1 * r 1 + 0) + 0) ((1 * r 2 + 0) + 0) ((1 * ((1 * r 9 + 0) + 1) + 0) + 0) ((1 * r 4 + 0) + 0) (g0 3) (g0 1) ∧ ((1 * r 0 + 0) + 0) ≤ ((1 * ((1 * r 9 + 0) + 1) + 0) + 0) ∧ ((1 * ((1 * r 9 + 0) + 1) + 0) + 0) ≤ ((1 * r 0 + 0) + 0) + ((1 * r 2 + 0) + 0)
    try simp only [Int.one_mul, Int.zero_add, Int.add_zero]
    try simp only [Int.one_mul, Int.zero_add, Int.add_zero] at e0
    try simp only [Int.one_mul, Int.zero_add, Int.add_zero] at e1 hG
    obtain ⟨a1, a2, a3⟩ := hG
    refine ⟨?_, by omega, by omega⟩
    rw [e0, yq_gup_self, k1 1 (by decide), e1, e2, a1]
    exact yq_pb_s (by omega) (by omega) (by omega) (by omega)
theorem xn_39 : ∀ (j : Nat) (q : Nat × yt_T), xq_39.2.2.1[j]? = some q → q.2.2.2 = false → ∀ g0 r g, xG_39 j g0 r g
  | 0, q, hq, hf => by cases hq; cases hf
  | n + 1, q, hq, _ => by cases hq
theorem xs_39 : ∀ j, xq_39.2.2.2.getD j false = false → ∀ r g g', xP_39 j r g g'
  | 0, hf => by cases hf
  | n + 1, _ => fun _ _ _ => trivial
theorem xc_39 {l : Launch} {D : va_G} {cT : Nat → ClassId} {tys : List (ClassId × FieldType)} (hty : yx_Ty tys cT) : yt_Con l D vwCl cT tys yG yw_s29 xk_39 xR_39 xP_39 := yx_sem (calls := xa_39) (Z := xq_39) (tb := xT_39) (pt := xU_39) (Ga := xG_39) (vs := xv_39) (fun _ _ _ _ => trivial) 300 (by decide +kernel) yz_X8_putAll_ok hty (yl_lkX8 _) (yl_cqkX8 _) (List.forall_mem_cons.mpr ⟨⟨xc_37 hty, yg_CLv rfl rfl rfl yl_wX8_32 yd_yX8_cut, fun _ _ _ => trivial⟩, fun _ h => absurd h List.not_mem_nil⟩) (xn_39) (xs_39) (by decide +kernel) (List.forall_mem_cons.mpr ⟨xw_39_0_0, fun _ h => absurd h List.not_mem_nil⟩) (⟨List.forall_mem_cons.mpr ⟨xw_39_1_0, List.forall_mem_cons.mpr ⟨xw_39_1_1, fun _ h => absurd h List.not_mem_nil⟩⟩, trivial⟩)
noncomputable def yw_s30 : List ys_C := [.inl 11, .inr (4, 4, [2, 4, 6, 8]), .inl 8, .inr (1, 100, []), .inl 8, .inr (1, 100, []), .inl 8, .inr (1, 100, []), .inl 8, .inr (1, 100, [])]
noncomputable def yw_f30 (n : Nat) : List (List ys_V) := [[.inr (some 10), .inr (some 11), .inr (some 12), .inr (some 1), .inr (some 13), .inr (some 14), .inr (some 15), .inr (some 16), .inr (some 17), .inr (some 18), .inr (some 19), .inr (some 20), .inr (some 21), .inr (some 22), .inl (.inl ([(n + 0, 1)], 0))], [], [.inr (some 3), .inl (.inl ([(n + 1, 1)], 0)), .inl (.inl ([(n + 2, 1)], 0)), .inl (.inl ([(n + 3, 1)], 0))], [], [.inr (some 5), .inl (.inl ([(n + 4, 1)], 0)), .inl (.inl ([(n + 5, 1)], 0)), .inl (.inl ([(n + 6, 1)], 0))], [], [.inr (some 7), .inl (.inl ([(n + 7, 1)], 0)), .inl (.inl ([(n + 8, 1)], 0)), .inl (.inl ([(n + 9, 1)], 0))], [], [.inr (some 9), .inl (.inl ([(n + 10, 1)], 0)), .inl (.inl ([(n + 11, 1)], 0)), .inl (.inl ([(n + 12, 1)], 0))], []]
noncomputable def yw_e30 : ys_E := [((-2147483648), 2147483647), (0, 1), ((-2147483648), 2147483647), (0, 100), (0, 1), ((-2147483648), 2147483647), (0, 100), (0, 1), ((-2147483648), 2147483647), (0, 100), (0, 1), ((-2147483648), 2147483647), (0, 100)]
noncomputable def yw_r30 : List ys_R := [((0, 0), []), ((0, 0), []), ((0, 0), []), (((-9223372036854775808), 9223372036854775807), []), ((0, 0), []), (((-9223372036854775808), 9223372036854775807), []), ((0, 0), []), (((-9223372036854775808), 9223372036854775807), []), ((0, 0), []), (((-9223372036854775808), 9223372036854775807), [])]
noncomputable def xf_40 : ys_F := (yw_f30 5, yw_r30)
noncomputable def xk_40 : ys_K := (((yX11_copy, cX11_copy, 6, (some .int)), (2, 47)), ([.inr (some 0), .inl (.inl ([(0, 1)], 0)), .inl (.inl ([(1, 1)], 0)), .inl (.inl ([(2, 1)], 0)), .inl (.inl ([(3, 1)], 0)), .inl (.inl ([(4, 1)], 0))], ([((-2147483648), 2147483647), ((-2147483648), 2147483647), ((-2147483648), 2147483647), ((-2147483648), 2147483647), ((-2147483648), 2147483647)] ++ yw_e30, []), xf_40), ([([((-3), 100), ((-2147483648), 0)], [], ((ys_fs xf_40.1 [(0, 14, .inl (.inl ([(19, 1)], 0)))]), xf_40.2), some (.inl (.inl ([(18, 1)], 0))))], [3, 5, 7, 9]))
noncomputable def xq_40 : yt_Q := (yz_X11_copy, (yl_flX11, yl_ciX11, yl_cjX11, yl_cpX11, yl_cqX11), [], [true])
noncomputable def xa_40 : List yt_CE := [(((141, true), (0, false, [])), (yw_s2, xk_35)), (((107, false), (0, false, [0, 10, 11, 12, 1, 13, 14, 15, 16, 17, 18, 19, 20, 21, 22])), (yw_s3, xk_3)), (((166, false), (0, false, [8, 9])), (yw_s27, xk_36)), (((170, false), (99, false, [8, 9])), (yw_s28, xk_38)), (((166, false), (0, false, [6, 7])), (yw_s27, xk_36)), (((170, false), (98, false, [6, 7, 8, 9])), (yw_s29, xk_39)), (((166, false), (0, false, [4, 5])), (yw_s27, xk_36)), (((170, false), (98, false, [4, 5, 8, 9])), (yw_s29, xk_39)), (((166, false), (0, false, [2, 3])), (yw_s27, xk_36)), (((170, false), (98, false, [2, 3, 8, 9])), (yw_s29, xk_39)), (((170, false), (98, false, [8, 9, 6, 7])), (yw_s29, xk_39)), (((170, false), (99, false, [6, 7])), (yw_s28, xk_38)), (((170, false), (98, false, [4, 5, 6, 7])), (yw_s29, xk_39)), (((170, false), (98, false, [2, 3, 6, 7])), (yw_s29, xk_39)), (((170, false), (98, false, [8, 9, 4, 5])), (yw_s29, xk_39)), (((170, false), (98, false, [6, 7, 4, 5])), (yw_s29, xk_39)), (((170, false), (99, false, [4, 5])), (yw_s28, xk_38)), (((170, false), (98, false, [2, 3, 4, 5])), (yw_s29, xk_39)), (((170, false), (98, false, [8, 9, 2, 3])), (yw_s29, xk_39)), (((170, false), (98, false, [6, 7, 2, 3])), (yw_s29, xk_39)), (((170, false), (98, false, [4, 5, 2, 3])), (yw_s29, xk_39)), (((170, false), (99, false, [2, 3])), (yw_s28, xk_38))]
noncomputable def xe_40_0_0 : yt_VC := (1000, ([((-2147483648), (-1)), ((-2147483648), 2147483647), ((-2147483648), 2147483647), ((-2147483648), 2147483647), ((-2147483648), 2147483647), ((-2147483648), 2147483647), (0, 1), ((-2147483648), 2147483647), (0, 100), (0, 1), ((-2147483648), 2147483647), (0, 100), (0, 1), ((-2147483648), 2147483647), (0, 100), (0, 1), ((-2147483648), 2147483647), (0, 100), ((-2147483648), 0)], []), [([], (-1)), ([(18, 1)], 0)], [], [])
noncomputable def xe_40_0_1 : yt_VC := (1000, ([(4, 2147483647), ((-2147483648), 2147483647), ((-2147483648), 2147483647), ((-2147483648), 2147483647), ((-2147483648), 2147483647), ((-2147483648), 2147483647), (0, 1), ((-2147483648), 2147483647), (0, 100), (0, 1), ((-2147483648), 2147483647), (0, 100), (0, 1), ((-2147483648), 2147483647), (0, 100), (0, 1), ((-2147483648), 2147483647), (0, 100), ((-2147483648), 0)], []), [([], (-1)), ([(18, 1)], 0)], [], [])
noncomputable def xe_40_0_2 : yt_VC := (1000, ([(0, 3), ((-2147483648), 2147483647), ((-2147483648), (-1)), ((-2147483648), 2147483647), ((-2147483648), 2147483647), ((-2147483648), 2147483647), (0, 1), ((-2147483648), 2147483647), (0, 100), (0, 1), ((-2147483648), 2147483647), (0, 100), (0, 1), ((-2147483648), 2147483647), (0, 100), (0, 1), ((-2147483648), 2147483647), (0, 100), ((-2147483648), 0)], []), [([], (-1)), ([(18, 1)], 0)], [], [])
noncomputable def xe_40_0_3 : yt_VC := (1000, ([(0, 3), ((-2147483648), 2147483647), (4, 2147483647), ((-2147483648), 2147483647), ((-2147483648), 2147483647), ((-2147483648), 2147483647), (0, 1), ((-2147483648), 2147483647), (0, 100), (0, 1), ((-2147483648), 2147483647), (0, 100), (0, 1), ((-2147483648), 2147483647), (0, 100), (0, 1), ((-2147483648), 2147483647), (0, 100), ((-2147483648), 0)], []), [([], (-1)), ([(18, 1)], 0)], [], [])
noncomputable def xe_40_0_4 : yt_VC := (1000, ([(0, 0), ((-2147483648), 2147483647), (0, 3), ((-2147483648), 2147483647), (0, 2147483647), ((-2147483648), 2147483647), (0, 0), ((-2147483648), 2147483647), (0, 100), (0, 1), ((-2147483648), 2147483647), (0, 100), (0, 1), ((-2147483648), 2147483647), (0, 100), (0, 1), ((-2147483648), 2147483647), (0, 100), ((-2147483648), 0)], []), [([], (-2)), ([(18, 1)], 0)], [], [])
noncomputable def xe_40_0_5 : yt_VC := (1000, ([(0, 0), ((-2147483648), (-1)), (0, 0), ((-2147483648), 2147483647), (0, 2147483647), ((-2147483648), 2147483647), (1, 1), ((-2147483648), 2147483647), (0, 100), (0, 1), ((-2147483648), 2147483647), (0, 100), (0, 1), ((-2147483648), 2147483647), (0, 100), (0, 1), ((-2147483648), 2147483647), (0, 100), ((-2147483648), 0)], []), [([], (-3)), ([(18, 1)], 0)], [], [])
noncomputable def xe_40_0_6 : yt_VC := (1000, ([(0, 0), (0, 2147483647), (0, 0), ((-2147483648), 2147483647), (0, 2147483647), ((-2147483648), 2147483647), (1, 1), ((-2147483648), 2147483647), (0, 100), (0, 1), ((-2147483648), 2147483647), (0, 100), (0, 1), ((-2147483648), 2147483647), (0, 100), (0, 1), ((-2147483648), 2147483647), (0, 100), ((-2147483648), 0)], [([(1, 1), (8, (-1)), (4, 1)], (-1))]), [([], (-3)), ([(18, 1)], 0)], [], [])
noncomputable def xe_40_0_7 : yt_VC := (1000, ([(0, 0), (0, 100), (0, 0), ((-2147483648), (-1)), (0, 100), ((-2147483648), 2147483647), (1, 1), ((-2147483648), 2147483647), (0, 100), (0, 1), ((-2147483648), 2147483647), (0, 100), (0, 1), ((-2147483648), 2147483647), (0, 100), (0, 1), ((-2147483648), 2147483647), (0, 100), ((-2147483648), 0)], [([(1, (-1)), (8, 1), (4, (-1))], 0)]), [([], (-3)), ([(18, 1)], 0)], [], [])
noncomputable def xe_40_0_8 : yt_VC := (1000, ([(0, 0), (0, 100), (0, 0), (0, 2147483647), (0, 100), ((-2147483648), 2147483647), (1, 1), ((-2147483648), 2147483647), (0, 100), (0, 1), ((-2147483648), 2147483647), (0, 100), (0, 1), ((-2147483648), 2147483647), (0, 100), (0, 1), ((-2147483648), 2147483647), (0, 100), ((-2147483648), 0)], [([(3, 1), (8, (-1)), (4, 1)], (-1)), ([(1, (-1)), (8, 1), (4, (-1))], 0)]), [([], (-3)), ([(18, 1)], 0)], [], [])
noncomputable def xe_40_0_9 : yt_VC := (1000, ([(0, 0), (0, 100), (0, 0), (0, 100), (0, 100), ((-2147483648), 2147483647), (1, 1), ((-2147483648), 2147483647), (0, 100), (0, 1), ((-2147483648), 2147483647), (0, 100), (0, 1), ((-2147483648), 2147483647), (0, 100), (0, 1), ((-2147483648), 2147483647), (0, 100), ((-2147483648), 0)], [([(4, (-1)), (3, (-1))], 101), ([(3, (-1)), (8, 1), (4, (-1))], 0), ([(1, (-1)), (8, 1), (4, (-1))], 0)]), [([(4, 1)], 0), ([(18, 1)], 0)], [], [.inr (.inr (.inl (99, 0, [([(3, 1)], 0), ([(1, 1)], 0), ([(4, 1)], 0), ([(6, 1)], 0), ([(7, 1)], 0), ([(8, 1)], 0)], [2, 3], [3])))])
noncomputable def xe_40_0_10 : yt_VC := (1000, ([(0, 0), ((-2147483648), (-1)), (1, 1), ((-2147483648), 2147483647), (0, 2147483647), ((-2147483648), 2147483647), (1, 1), ((-2147483648), 2147483647), (0, 100), (1, 1), ((-2147483648), 2147483647), (0, 100), (0, 1), ((-2147483648), 2147483647), (0, 100), (0, 1), ((-2147483648), 2147483647), (0, 100), ((-2147483648), 0)], []), [([], (-3)), ([(18, 1)], 0)], [], [])
noncomputable def xe_40_0_11 : yt_VC := (1000, ([(0, 0), (0, 2147483647), (1, 1), ((-2147483648), 2147483647), (0, 2147483647), ((-2147483648), 2147483647), (1, 1), ((-2147483648), 2147483647), (0, 100), (1, 1), ((-2147483648), 2147483647), (0, 100), (0, 1), ((-2147483648), 2147483647), (0, 100), (0, 1), ((-2147483648), 2147483647), (0, 100), ((-2147483648), 0)], [([(1, 1), (8, (-1)), (4, 1)], (-1))]), [([], (-3)), ([(18, 1)], 0)], [], [])
noncomputable def xe_40_0_12 : yt_VC := (1000, ([(0, 0), (0, 100), (1, 1), ((-2147483648), (-1)), (0, 100), ((-2147483648), 2147483647), (1, 1), ((-2147483648), 2147483647), (0, 100), (1, 1), ((-2147483648), 2147483647), (0, 100), (0, 1), ((-2147483648), 2147483647), (0, 100), (0, 1), ((-2147483648), 2147483647), (0, 100), ((-2147483648), 0)], [([(1, (-1)), (8, 1), (4, (-1))], 0)]), [([], (-3)), ([(18, 1)], 0)], [], [])
noncomputable def xe_40_0_13 : yt_VC := (1000, ([(0, 0), (0, 100), (1, 1), (0, 2147483647), (0, 100), ((-2147483648), 2147483647), (1, 1), ((-2147483648), 2147483647), (0, 100), (1, 1), ((-2147483648), 2147483647), (0, 100), (0, 1), ((-2147483648), 2147483647), (0, 100), (0, 1), ((-2147483648), 2147483647), (0, 100), ((-2147483648), 0)], [([(3, 1), (11, (-1)), (4, 1)], (-1)), ([(1, (-1)), (8, 1), (4, (-1))], 0)]), [([], (-3)), ([(18, 1)], 0)], [], [])
noncomputable def xe_40_0_14 : yt_VC := (1000, ([(0, 0), (0, 100), (1, 1), (0, 100), (0, 100), ((-2147483648), 2147483647), (1, 1), ((-2147483648), 2147483647), (0, 100), (1, 1), ((-2147483648), 2147483647), (0, 100), (0, 1), ((-2147483648), 2147483647), (0, 100), (0, 1), ((-2147483648), 2147483647), (0, 100), ((-2147483648), 0)], [([(4, (-1)), (3, (-1))], 101), ([(3, (-1)), (11, 1), (4, (-1))], 0), ([(1, (-1)), (8, 1), (4, (-1))], 0)]), [([(4, 1)], 0), ([(18, 1)], 0)], [], [.inr (.inr (.inl (98, 0, [([(3, 1)], 0), ([(1, 1)], 0), ([(4, 1)], 0), ([(9, 1)], 0), ([(10, 1)], 0), ([(11, 1)], 0), ([(6, 1)], 0), ([(7, 1)], 0), ([(8, 1)], 0)], [4, 5, 2, 3], [5])))])
noncomputable def xe_40_0_15 : yt_VC := (1000, ([(0, 0), ((-2147483648), 2147483647), (1, 1), ((-2147483648), 2147483647), (0, 2147483647), ((-2147483648), 2147483647), (1, 1), ((-2147483648), 2147483647), (0, 100), (0, 0), ((-2147483648), 2147483647), (0, 100), (0, 1), ((-2147483648), 2147483647), (0, 100), (0, 1), ((-2147483648), 2147483647), (0, 100), ((-2147483648), 0)], []), [([], (-2)), ([(18, 1)], 0)], [], [])
noncomputable def xe_40_0_16 : yt_VC := (1000, ([(0, 0), ((-2147483648), (-1)), (2, 2), ((-2147483648), 2147483647), (0, 2147483647), ((-2147483648), 2147483647), (1, 1), ((-2147483648), 2147483647), (0, 100), (0, 1), ((-2147483648), 2147483647), (0, 100), (1, 1), ((-2147483648), 2147483647), (0, 100), (0, 1), ((-2147483648), 2147483647), (0, 100), ((-2147483648), 0)], []), [([], (-3)), ([(18, 1)], 0)], [], [])
noncomputable def xe_40_0_17 : yt_VC := (1000, ([(0, 0), (0, 2147483647), (2, 2), ((-2147483648), 2147483647), (0, 2147483647), ((-2147483648), 2147483647), (1, 1), ((-2147483648), 2147483647), (0, 100), (0, 1), ((-2147483648), 2147483647), (0, 100), (1, 1), ((-2147483648), 2147483647), (0, 100), (0, 1), ((-2147483648), 2147483647), (0, 100), ((-2147483648), 0)], [([(1, 1), (8, (-1)), (4, 1)], (-1))]), [([], (-3)), ([(18, 1)], 0)], [], [])
noncomputable def xe_40_0_18 : yt_VC := (1000, ([(0, 0), (0, 100), (2, 2), ((-2147483648), (-1)), (0, 100), ((-2147483648), 2147483647), (1, 1), ((-2147483648), 2147483647), (0, 100), (0, 1), ((-2147483648), 2147483647), (0, 100), (1, 1), ((-2147483648), 2147483647), (0, 100), (0, 1), ((-2147483648), 2147483647), (0, 100), ((-2147483648), 0)], [([(1, (-1)), (8, 1), (4, (-1))], 0)]), [([], (-3)), ([(18, 1)], 0)], [], [])
noncomputable def xe_40_0_19 : yt_VC := (1000, ([(0, 0), (0, 100), (2, 2), (0, 2147483647), (0, 100), ((-2147483648), 2147483647), (1, 1), ((-2147483648), 2147483647), (0, 100), (0, 1), ((-2147483648), 2147483647), (0, 100), (1, 1), ((-2147483648), 2147483647), (0, 100), (0, 1), ((-2147483648), 2147483647), (0, 100), ((-2147483648), 0)], [([(3, 1), (14, (-1)), (4, 1)], (-1)), ([(1, (-1)), (8, 1), (4, (-1))], 0)]), [([], (-3)), ([(18, 1)], 0)], [], [])
noncomputable def xe_40_0_20 : yt_VC := (1000, ([(0, 0), (0, 100), (2, 2), (0, 100), (0, 100), ((-2147483648), 2147483647), (1, 1), ((-2147483648), 2147483647), (0, 100), (0, 1), ((-2147483648), 2147483647), (0, 100), (1, 1), ((-2147483648), 2147483647), (0, 100), (0, 1), ((-2147483648), 2147483647), (0, 100), ((-2147483648), 0)], [([(4, (-1)), (3, (-1))], 101), ([(3, (-1)), (14, 1), (4, (-1))], 0), ([(1, (-1)), (8, 1), (4, (-1))], 0)]), [([(4, 1)], 0), ([(18, 1)], 0)], [], [.inr (.inr (.inl (98, 0, [([(3, 1)], 0), ([(1, 1)], 0), ([(4, 1)], 0), ([(12, 1)], 0), ([(13, 1)], 0), ([(14, 1)], 0), ([(6, 1)], 0), ([(7, 1)], 0), ([(8, 1)], 0)], [6, 7, 2, 3], [7])))])
noncomputable def xe_40_0_21 : yt_VC := (1000, ([(0, 0), ((-2147483648), 2147483647), (2, 2), ((-2147483648), 2147483647), (0, 2147483647), ((-2147483648), 2147483647), (1, 1), ((-2147483648), 2147483647), (0, 100), (0, 1), ((-2147483648), 2147483647), (0, 100), (0, 0), ((-2147483648), 2147483647), (0, 100), (0, 1), ((-2147483648), 2147483647), (0, 100), ((-2147483648), 0)], []), [([], (-2)), ([(18, 1)], 0)], [], [])
noncomputable def xe_40_0_22 : yt_VC := (1000, ([(0, 0), ((-2147483648), (-1)), (3, 3), ((-2147483648), 2147483647), (0, 2147483647), ((-2147483648), 2147483647), (1, 1), ((-2147483648), 2147483647), (0, 100), (0, 1), ((-2147483648), 2147483647), (0, 100), (0, 1), ((-2147483648), 2147483647), (0, 100), (1, 1), ((-2147483648), 2147483647), (0, 100), ((-2147483648), 0)], []), [([], (-3)), ([(18, 1)], 0)], [], [])
noncomputable def xe_40_0_23 : yt_VC := (1000, ([(0, 0), (0, 2147483647), (3, 3), ((-2147483648), 2147483647), (0, 2147483647), ((-2147483648), 2147483647), (1, 1), ((-2147483648), 2147483647), (0, 100), (0, 1), ((-2147483648), 2147483647), (0, 100), (0, 1), ((-2147483648), 2147483647), (0, 100), (1, 1), ((-2147483648), 2147483647), (0, 100), ((-2147483648), 0)], [([(1, 1), (8, (-1)), (4, 1)], (-1))]), [([], (-3)), ([(18, 1)], 0)], [], [])
noncomputable def xe_40_0_24 : yt_VC := (1000, ([(0, 0), (0, 100), (3, 3), ((-2147483648), (-1)), (0, 100), ((-2147483648), 2147483647), (1, 1), ((-2147483648), 2147483647), (0, 100), (0, 1), ((-2147483648), 2147483647), (0, 100), (0, 1), ((-2147483648), 2147483647), (0, 100), (1, 1), ((-2147483648), 2147483647), (0, 100), ((-2147483648), 0)], [([(1, (-1)), (8, 1), (4, (-1))], 0)]), [([], (-3)), ([(18, 1)], 0)], [], [])
noncomputable def xe_40_0_25 : yt_VC := (1000, ([(0, 0), (0, 100), (3, 3), (0, 2147483647), (0, 100), ((-2147483648), 2147483647), (1, 1), ((-2147483648), 2147483647), (0, 100), (0, 1), ((-2147483648), 2147483647), (0, 100), (0, 1), ((-2147483648), 2147483647), (0, 100), (1, 1), ((-2147483648), 2147483647), (0, 100), ((-2147483648), 0)], [([(3, 1), (17, (-1)), (4, 1)], (-1)), ([(1, (-1)), (8, 1), (4, (-1))], 0)]), [([], (-3)), ([(18, 1)], 0)], [], [])
noncomputable def xe_40_0_26 : yt_VC := (1000, ([(0, 0), (0, 100), (3, 3), (0, 100), (0, 100), ((-2147483648), 2147483647), (1, 1), ((-2147483648), 2147483647), (0, 100), (0, 1), ((-2147483648), 2147483647), (0, 100), (0, 1), ((-2147483648), 2147483647), (0, 100), (1, 1), ((-2147483648), 2147483647), (0, 100), ((-2147483648), 0)], [([(4, (-1)), (3, (-1))], 101), ([(3, (-1)), (17, 1), (4, (-1))], 0), ([(1, (-1)), (8, 1), (4, (-1))], 0)]), [([(4, 1)], 0), ([(18, 1)], 0)], [], [.inr (.inr (.inl (98, 0, [([(3, 1)], 0), ([(1, 1)], 0), ([(4, 1)], 0), ([(15, 1)], 0), ([(16, 1)], 0), ([(17, 1)], 0), ([(6, 1)], 0), ([(7, 1)], 0), ([(8, 1)], 0)], [8, 9, 2, 3], [9])))])
noncomputable def xe_40_0_27 : yt_VC := (1000, ([(0, 0), ((-2147483648), 2147483647), (3, 3), ((-2147483648), 2147483647), (0, 2147483647), ((-2147483648), 2147483647), (1, 1), ((-2147483648), 2147483647), (0, 100), (0, 1), ((-2147483648), 2147483647), (0, 100), (0, 1), ((-2147483648), 2147483647), (0, 100), (0, 0), ((-2147483648), 2147483647), (0, 100), ((-2147483648), 0)], []), [([], (-2)), ([(18, 1)], 0)], [], [])
noncomputable def xe_40_0_28 : yt_VC := (1000, ([(1, 1), ((-2147483648), 2147483647), (0, 3), ((-2147483648), 2147483647), (0, 2147483647), ((-2147483648), 2147483647), (0, 1), ((-2147483648), 2147483647), (0, 100), (0, 0), ((-2147483648), 2147483647), (0, 100), (0, 1), ((-2147483648), 2147483647), (0, 100), (0, 1), ((-2147483648), 2147483647), (0, 100), ((-2147483648), 0)], []), [([], (-2)), ([(18, 1)], 0)], [], [])
noncomputable def xe_40_0_29 : yt_VC := (1000, ([(1, 1), ((-2147483648), (-1)), (0, 0), ((-2147483648), 2147483647), (0, 2147483647), ((-2147483648), 2147483647), (1, 1), ((-2147483648), 2147483647), (0, 100), (1, 1), ((-2147483648), 2147483647), (0, 100), (0, 1), ((-2147483648), 2147483647), (0, 100), (0, 1), ((-2147483648), 2147483647), (0, 100), ((-2147483648), 0)], []), [([], (-3)), ([(18, 1)], 0)], [], [])
noncomputable def xe_40_0_30 : yt_VC := (1000, ([(1, 1), (0, 2147483647), (0, 0), ((-2147483648), 2147483647), (0, 2147483647), ((-2147483648), 2147483647), (1, 1), ((-2147483648), 2147483647), (0, 100), (1, 1), ((-2147483648), 2147483647), (0, 100), (0, 1), ((-2147483648), 2147483647), (0, 100), (0, 1), ((-2147483648), 2147483647), (0, 100), ((-2147483648), 0)], [([(1, 1), (11, (-1)), (4, 1)], (-1))]), [([], (-3)), ([(18, 1)], 0)], [], [])
noncomputable def xe_40_0_31 : yt_VC := (1000, ([(1, 1), (0, 100), (0, 0), ((-2147483648), (-1)), (0, 100), ((-2147483648), 2147483647), (1, 1), ((-2147483648), 2147483647), (0, 100), (1, 1), ((-2147483648), 2147483647), (0, 100), (0, 1), ((-2147483648), 2147483647), (0, 100), (0, 1), ((-2147483648), 2147483647), (0, 100), ((-2147483648), 0)], [([(1, (-1)), (11, 1), (4, (-1))], 0)]), [([], (-3)), ([(18, 1)], 0)], [], [])
noncomputable def xe_40_0_32 : yt_VC := (1000, ([(1, 1), (0, 100), (0, 0), (0, 2147483647), (0, 100), ((-2147483648), 2147483647), (1, 1), ((-2147483648), 2147483647), (0, 100), (1, 1), ((-2147483648), 2147483647), (0, 100), (0, 1), ((-2147483648), 2147483647), (0, 100), (0, 1), ((-2147483648), 2147483647), (0, 100), ((-2147483648), 0)], [([(3, 1), (8, (-1)), (4, 1)], (-1)), ([(1, (-1)), (11, 1), (4, (-1))], 0)]), [([], (-3)), ([(18, 1)], 0)], [], [])
noncomputable def xe_40_0_33 : yt_VC := (1000, ([(1, 1), (0, 100), (0, 0), (0, 100), (0, 100), ((-2147483648), 2147483647), (1, 1), ((-2147483648), 2147483647), (0, 100), (1, 1), ((-2147483648), 2147483647), (0, 100), (0, 1), ((-2147483648), 2147483647), (0, 100), (0, 1), ((-2147483648), 2147483647), (0, 100), ((-2147483648), 0)], [([(4, (-1)), (3, (-1))], 101), ([(3, (-1)), (8, 1), (4, (-1))], 0), ([(1, (-1)), (11, 1), (4, (-1))], 0)]), [([(4, 1)], 0), ([(18, 1)], 0)], [], [.inr (.inr (.inl (98, 0, [([(3, 1)], 0), ([(1, 1)], 0), ([(4, 1)], 0), ([(6, 1)], 0), ([(7, 1)], 0), ([(8, 1)], 0), ([(9, 1)], 0), ([(10, 1)], 0), ([(11, 1)], 0)], [2, 3, 4, 5], [3])))])
noncomputable def xe_40_0_34 : yt_VC := (1000, ([(1, 1), ((-2147483648), 2147483647), (0, 0), ((-2147483648), 2147483647), (0, 2147483647), ((-2147483648), 2147483647), (0, 0), ((-2147483648), 2147483647), (0, 100), (1, 1), ((-2147483648), 2147483647), (0, 100), (0, 1), ((-2147483648), 2147483647), (0, 100), (0, 1), ((-2147483648), 2147483647), (0, 100), ((-2147483648), 0)], []), [([], (-2)), ([(18, 1)], 0)], [], [])
noncomputable def xe_40_0_35 : yt_VC := (1000, ([(1, 1), ((-2147483648), (-1)), (1, 1), ((-2147483648), 2147483647), (0, 2147483647), ((-2147483648), 2147483647), (0, 1), ((-2147483648), 2147483647), (0, 100), (1, 1), ((-2147483648), 2147483647), (0, 100), (0, 1), ((-2147483648), 2147483647), (0, 100), (0, 1), ((-2147483648), 2147483647), (0, 100), ((-2147483648), 0)], []), [([], (-3)), ([(18, 1)], 0)], [], [])
noncomputable def xe_40_0_36 : yt_VC := (1000, ([(1, 1), (0, 2147483647), (1, 1), ((-2147483648), 2147483647), (0, 2147483647), ((-2147483648), 2147483647), (0, 1), ((-2147483648), 2147483647), (0, 100), (1, 1), ((-2147483648), 2147483647), (0, 100), (0, 1), ((-2147483648), 2147483647), (0, 100), (0, 1), ((-2147483648), 2147483647), (0, 100), ((-2147483648), 0)], [([(1, 1), (11, (-1)), (4, 1)], (-1))]), [([], (-3)), ([(18, 1)], 0)], [], [])
noncomputable def xe_40_0_37 : yt_VC := (1000, ([(1, 1), (0, 100), (1, 1), ((-2147483648), (-1)), (0, 100), ((-2147483648), 2147483647), (0, 1), ((-2147483648), 2147483647), (0, 100), (1, 1), ((-2147483648), 2147483647), (0, 100), (0, 1), ((-2147483648), 2147483647), (0, 100), (0, 1), ((-2147483648), 2147483647), (0, 100), ((-2147483648), 0)], [([(1, (-1)), (11, 1), (4, (-1))], 0)]), [([], (-3)), ([(18, 1)], 0)], [], [])
noncomputable def xe_40_0_38 : yt_VC := (1000, ([(1, 1), (0, 100), (1, 1), (0, 2147483647), (0, 100), ((-2147483648), 2147483647), (0, 1), ((-2147483648), 2147483647), (0, 100), (1, 1), ((-2147483648), 2147483647), (0, 100), (0, 1), ((-2147483648), 2147483647), (0, 100), (0, 1), ((-2147483648), 2147483647), (0, 100), ((-2147483648), 0)], [([(3, 1), (11, (-1)), (4, 1)], (-1)), ([(1, (-1)), (11, 1), (4, (-1))], 0)]), [([], (-3)), ([(18, 1)], 0)], [], [])
noncomputable def xe_40_0_39 : yt_VC := (1000, ([(1, 1), (0, 100), (1, 1), (0, 100), (0, 100), ((-2147483648), 2147483647), (0, 1), ((-2147483648), 2147483647), (0, 100), (1, 1), ((-2147483648), 2147483647), (0, 100), (0, 1), ((-2147483648), 2147483647), (0, 100), (0, 1), ((-2147483648), 2147483647), (0, 100), ((-2147483648), 0)], [([(4, (-1)), (3, (-1))], 101), ([(3, (-1)), (11, 1), (4, (-1))], 0), ([(1, (-1)), (11, 1), (4, (-1))], 0)]), [([(4, 1)], 0), ([(18, 1)], 0)], [], [.inr (.inr (.inl (99, 0, [([(3, 1)], 0), ([(1, 1)], 0), ([(4, 1)], 0), ([(9, 1)], 0), ([(10, 1)], 0), ([(11, 1)], 0)], [4, 5], [5])))])
noncomputable def xe_40_0_40 : yt_VC := (1000, ([(1, 1), ((-2147483648), (-1)), (2, 2), ((-2147483648), 2147483647), (0, 2147483647), ((-2147483648), 2147483647), (0, 1), ((-2147483648), 2147483647), (0, 100), (1, 1), ((-2147483648), 2147483647), (0, 100), (1, 1), ((-2147483648), 2147483647), (0, 100), (0, 1), ((-2147483648), 2147483647), (0, 100), ((-2147483648), 0)], []), [([], (-3)), ([(18, 1)], 0)], [], [])
noncomputable def xe_40_0_41 : yt_VC := (1000, ([(1, 1), (0, 2147483647), (2, 2), ((-2147483648), 2147483647), (0, 2147483647), ((-2147483648), 2147483647), (0, 1), ((-2147483648), 2147483647), (0, 100), (1, 1), ((-2147483648), 2147483647), (0, 100), (1, 1), ((-2147483648), 2147483647), (0, 100), (0, 1), ((-2147483648), 2147483647), (0, 100), ((-2147483648), 0)], [([(1, 1), (11, (-1)), (4, 1)], (-1))]), [([], (-3)), ([(18, 1)], 0)], [], [])
noncomputable def xe_40_0_42 : yt_VC := (1000, ([(1, 1), (0, 100), (2, 2), ((-2147483648), (-1)), (0, 100), ((-2147483648), 2147483647), (0, 1), ((-2147483648), 2147483647), (0, 100), (1, 1), ((-2147483648), 2147483647), (0, 100), (1, 1), ((-2147483648), 2147483647), (0, 100), (0, 1), ((-2147483648), 2147483647), (0, 100), ((-2147483648), 0)], [([(1, (-1)), (11, 1), (4, (-1))], 0)]), [([], (-3)), ([(18, 1)], 0)], [], [])
noncomputable def xe_40_0_43 : yt_VC := (1000, ([(1, 1), (0, 100), (2, 2), (0, 2147483647), (0, 100), ((-2147483648), 2147483647), (0, 1), ((-2147483648), 2147483647), (0, 100), (1, 1), ((-2147483648), 2147483647), (0, 100), (1, 1), ((-2147483648), 2147483647), (0, 100), (0, 1), ((-2147483648), 2147483647), (0, 100), ((-2147483648), 0)], [([(3, 1), (14, (-1)), (4, 1)], (-1)), ([(1, (-1)), (11, 1), (4, (-1))], 0)]), [([], (-3)), ([(18, 1)], 0)], [], [])
noncomputable def xe_40_0_44 : yt_VC := (1000, ([(1, 1), (0, 100), (2, 2), (0, 100), (0, 100), ((-2147483648), 2147483647), (0, 1), ((-2147483648), 2147483647), (0, 100), (1, 1), ((-2147483648), 2147483647), (0, 100), (1, 1), ((-2147483648), 2147483647), (0, 100), (0, 1), ((-2147483648), 2147483647), (0, 100), ((-2147483648), 0)], [([(4, (-1)), (3, (-1))], 101), ([(3, (-1)), (14, 1), (4, (-1))], 0), ([(1, (-1)), (11, 1), (4, (-1))], 0)]), [([(4, 1)], 0), ([(18, 1)], 0)], [], [.inr (.inr (.inl (98, 0, [([(3, 1)], 0), ([(1, 1)], 0), ([(4, 1)], 0), ([(12, 1)], 0), ([(13, 1)], 0), ([(14, 1)], 0), ([(9, 1)], 0), ([(10, 1)], 0), ([(11, 1)], 0)], [6, 7, 4, 5], [7])))])
noncomputable def xe_40_0_45 : yt_VC := (1000, ([(1, 1), ((-2147483648), 2147483647), (2, 2), ((-2147483648), 2147483647), (0, 2147483647), ((-2147483648), 2147483647), (0, 1), ((-2147483648), 2147483647), (0, 100), (1, 1), ((-2147483648), 2147483647), (0, 100), (0, 0), ((-2147483648), 2147483647), (0, 100), (0, 1), ((-2147483648), 2147483647), (0, 100), ((-2147483648), 0)], []), [([], (-2)), ([(18, 1)], 0)], [], [])
noncomputable def xe_40_0_46 : yt_VC := (1000, ([(1, 1), ((-2147483648), (-1)), (3, 3), ((-2147483648), 2147483647), (0, 2147483647), ((-2147483648), 2147483647), (0, 1), ((-2147483648), 2147483647), (0, 100), (1, 1), ((-2147483648), 2147483647), (0, 100), (0, 1), ((-2147483648), 2147483647), (0, 100), (1, 1), ((-2147483648), 2147483647), (0, 100), ((-2147483648), 0)], []), [([], (-3)), ([(18, 1)], 0)], [], [])
noncomputable def xe_40_0_47 : yt_VC := (1000, ([(1, 1), (0, 2147483647), (3, 3), ((-2147483648), 2147483647), (0, 2147483647), ((-2147483648), 2147483647), (0, 1), ((-2147483648), 2147483647), (0, 100), (1, 1), ((-2147483648), 2147483647), (0, 100), (0, 1), ((-2147483648), 2147483647), (0, 100), (1, 1), ((-2147483648), 2147483647), (0, 100), ((-2147483648), 0)], [([(1, 1), (11, (-1)), (4, 1)], (-1))]), [([], (-3)), ([(18, 1)], 0)], [], [])
noncomputable def xe_40_0_48 : yt_VC := (1000, ([(1, 1), (0, 100), (3, 3), ((-2147483648), (-1)), (0, 100), ((-2147483648), 2147483647), (0, 1), ((-2147483648), 2147483647), (0, 100), (1, 1), ((-2147483648), 2147483647), (0, 100), (0, 1), ((-2147483648), 2147483647), (0, 100), (1, 1), ((-2147483648), 2147483647), (0, 100), ((-2147483648), 0)], [([(1, (-1)), (11, 1), (4, (-1))], 0)]), [([], (-3)), ([(18, 1)], 0)], [], [])
noncomputable def xe_40_0_49 : yt_VC := (1000, ([(1, 1), (0, 100), (3, 3), (0, 2147483647), (0, 100), ((-2147483648), 2147483647), (0, 1), ((-2147483648), 2147483647), (0, 100), (1, 1), ((-2147483648), 2147483647), (0, 100), (0, 1), ((-2147483648), 2147483647), (0, 100), (1, 1), ((-2147483648), 2147483647), (0, 100), ((-2147483648), 0)], [([(3, 1), (17, (-1)), (4, 1)], (-1)), ([(1, (-1)), (11, 1), (4, (-1))], 0)]), [([], (-3)), ([(18, 1)], 0)], [], [])
noncomputable def xe_40_0_50 : yt_VC := (1000, ([(1, 1), (0, 100), (3, 3), (0, 100), (0, 100), ((-2147483648), 2147483647), (0, 1), ((-2147483648), 2147483647), (0, 100), (1, 1), ((-2147483648), 2147483647), (0, 100), (0, 1), ((-2147483648), 2147483647), (0, 100), (1, 1), ((-2147483648), 2147483647), (0, 100), ((-2147483648), 0)], [([(4, (-1)), (3, (-1))], 101), ([(3, (-1)), (17, 1), (4, (-1))], 0), ([(1, (-1)), (11, 1), (4, (-1))], 0)]), [([(4, 1)], 0), ([(18, 1)], 0)], [], [.inr (.inr (.inl (98, 0, [([(3, 1)], 0), ([(1, 1)], 0), ([(4, 1)], 0), ([(15, 1)], 0), ([(16, 1)], 0), ([(17, 1)], 0), ([(9, 1)], 0), ([(10, 1)], 0), ([(11, 1)], 0)], [8, 9, 4, 5], [9])))])
noncomputable def xe_40_0_51 : yt_VC := (1000, ([(1, 1), ((-2147483648), 2147483647), (3, 3), ((-2147483648), 2147483647), (0, 2147483647), ((-2147483648), 2147483647), (0, 1), ((-2147483648), 2147483647), (0, 100), (1, 1), ((-2147483648), 2147483647), (0, 100), (0, 1), ((-2147483648), 2147483647), (0, 100), (0, 0), ((-2147483648), 2147483647), (0, 100), ((-2147483648), 0)], []), [([], (-2)), ([(18, 1)], 0)], [], [])
noncomputable def xe_40_0_52 : yt_VC := (1000, ([(2, 2), ((-2147483648), 2147483647), (0, 3), ((-2147483648), 2147483647), (0, 2147483647), ((-2147483648), 2147483647), (0, 1), ((-2147483648), 2147483647), (0, 100), (0, 1), ((-2147483648), 2147483647), (0, 100), (0, 0), ((-2147483648), 2147483647), (0, 100), (0, 1), ((-2147483648), 2147483647), (0, 100), ((-2147483648), 0)], []), [([], (-2)), ([(18, 1)], 0)], [], [])
noncomputable def xe_40_0_53 : yt_VC := (1000, ([(2, 2), ((-2147483648), (-1)), (0, 0), ((-2147483648), 2147483647), (0, 2147483647), ((-2147483648), 2147483647), (1, 1), ((-2147483648), 2147483647), (0, 100), (0, 1), ((-2147483648), 2147483647), (0, 100), (1, 1), ((-2147483648), 2147483647), (0, 100), (0, 1), ((-2147483648), 2147483647), (0, 100), ((-2147483648), 0)], []), [([], (-3)), ([(18, 1)], 0)], [], [])
noncomputable def xe_40_0_54 : yt_VC := (1000, ([(2, 2), (0, 2147483647), (0, 0), ((-2147483648), 2147483647), (0, 2147483647), ((-2147483648), 2147483647), (1, 1), ((-2147483648), 2147483647), (0, 100), (0, 1), ((-2147483648), 2147483647), (0, 100), (1, 1), ((-2147483648), 2147483647), (0, 100), (0, 1), ((-2147483648), 2147483647), (0, 100), ((-2147483648), 0)], [([(1, 1), (14, (-1)), (4, 1)], (-1))]), [([], (-3)), ([(18, 1)], 0)], [], [])
noncomputable def xe_40_0_55 : yt_VC := (1000, ([(2, 2), (0, 100), (0, 0), ((-2147483648), (-1)), (0, 100), ((-2147483648), 2147483647), (1, 1), ((-2147483648), 2147483647), (0, 100), (0, 1), ((-2147483648), 2147483647), (0, 100), (1, 1), ((-2147483648), 2147483647), (0, 100), (0, 1), ((-2147483648), 2147483647), (0, 100), ((-2147483648), 0)], [([(1, (-1)), (14, 1), (4, (-1))], 0)]), [([], (-3)), ([(18, 1)], 0)], [], [])
noncomputable def xe_40_0_56 : yt_VC := (1000, ([(2, 2), (0, 100), (0, 0), (0, 2147483647), (0, 100), ((-2147483648), 2147483647), (1, 1), ((-2147483648), 2147483647), (0, 100), (0, 1), ((-2147483648), 2147483647), (0, 100), (1, 1), ((-2147483648), 2147483647), (0, 100), (0, 1), ((-2147483648), 2147483647), (0, 100), ((-2147483648), 0)], [([(3, 1), (8, (-1)), (4, 1)], (-1)), ([(1, (-1)), (14, 1), (4, (-1))], 0)]), [([], (-3)), ([(18, 1)], 0)], [], [])
noncomputable def xe_40_0_57 : yt_VC := (1000, ([(2, 2), (0, 100), (0, 0), (0, 100), (0, 100), ((-2147483648), 2147483647), (1, 1), ((-2147483648), 2147483647), (0, 100), (0, 1), ((-2147483648), 2147483647), (0, 100), (1, 1), ((-2147483648), 2147483647), (0, 100), (0, 1), ((-2147483648), 2147483647), (0, 100), ((-2147483648), 0)], [([(4, (-1)), (3, (-1))], 101), ([(3, (-1)), (8, 1), (4, (-1))], 0), ([(1, (-1)), (14, 1), (4, (-1))], 0)]), [([(4, 1)], 0), ([(18, 1)], 0)], [], [.inr (.inr (.inl (98, 0, [([(3, 1)], 0), ([(1, 1)], 0), ([(4, 1)], 0), ([(6, 1)], 0), ([(7, 1)], 0), ([(8, 1)], 0), ([(12, 1)], 0), ([(13, 1)], 0), ([(14, 1)], 0)], [2, 3, 6, 7], [3])))])
noncomputable def xe_40_0_58 : yt_VC := (1000, ([(2, 2), ((-2147483648), 2147483647), (0, 0), ((-2147483648), 2147483647), (0, 2147483647), ((-2147483648), 2147483647), (0, 0), ((-2147483648), 2147483647), (0, 100), (0, 1), ((-2147483648), 2147483647), (0, 100), (1, 1), ((-2147483648), 2147483647), (0, 100), (0, 1), ((-2147483648), 2147483647), (0, 100), ((-2147483648), 0)], []), [([], (-2)), ([(18, 1)], 0)], [], [])
noncomputable def xe_40_0_59 : yt_VC := (1000, ([(2, 2), ((-2147483648), (-1)), (1, 1), ((-2147483648), 2147483647), (0, 2147483647), ((-2147483648), 2147483647), (0, 1), ((-2147483648), 2147483647), (0, 100), (1, 1), ((-2147483648), 2147483647), (0, 100), (1, 1), ((-2147483648), 2147483647), (0, 100), (0, 1), ((-2147483648), 2147483647), (0, 100), ((-2147483648), 0)], []), [([], (-3)), ([(18, 1)], 0)], [], [])
noncomputable def xe_40_0_60 : yt_VC := (1000, ([(2, 2), (0, 2147483647), (1, 1), ((-2147483648), 2147483647), (0, 2147483647), ((-2147483648), 2147483647), (0, 1), ((-2147483648), 2147483647), (0, 100), (1, 1), ((-2147483648), 2147483647), (0, 100), (1, 1), ((-2147483648), 2147483647), (0, 100), (0, 1), ((-2147483648), 2147483647), (0, 100), ((-2147483648), 0)], [([(1, 1), (14, (-1)), (4, 1)], (-1))]), [([], (-3)), ([(18, 1)], 0)], [], [])
noncomputable def xe_40_0_61 : yt_VC := (1000, ([(2, 2), (0, 100), (1, 1), ((-2147483648), (-1)), (0, 100), ((-2147483648), 2147483647), (0, 1), ((-2147483648), 2147483647), (0, 100), (1, 1), ((-2147483648), 2147483647), (0, 100), (1, 1), ((-2147483648), 2147483647), (0, 100), (0, 1), ((-2147483648), 2147483647), (0, 100), ((-2147483648), 0)], [([(1, (-1)), (14, 1), (4, (-1))], 0)]), [([], (-3)), ([(18, 1)], 0)], [], [])
noncomputable def xe_40_0_62 : yt_VC := (1000, ([(2, 2), (0, 100), (1, 1), (0, 2147483647), (0, 100), ((-2147483648), 2147483647), (0, 1), ((-2147483648), 2147483647), (0, 100), (1, 1), ((-2147483648), 2147483647), (0, 100), (1, 1), ((-2147483648), 2147483647), (0, 100), (0, 1), ((-2147483648), 2147483647), (0, 100), ((-2147483648), 0)], [([(3, 1), (11, (-1)), (4, 1)], (-1)), ([(1, (-1)), (14, 1), (4, (-1))], 0)]), [([], (-3)), ([(18, 1)], 0)], [], [])
noncomputable def xe_40_0_63 : yt_VC := (1000, ([(2, 2), (0, 100), (1, 1), (0, 100), (0, 100), ((-2147483648), 2147483647), (0, 1), ((-2147483648), 2147483647), (0, 100), (1, 1), ((-2147483648), 2147483647), (0, 100), (1, 1), ((-2147483648), 2147483647), (0, 100), (0, 1), ((-2147483648), 2147483647), (0, 100), ((-2147483648), 0)], [([(4, (-1)), (3, (-1))], 101), ([(3, (-1)), (11, 1), (4, (-1))], 0), ([(1, (-1)), (14, 1), (4, (-1))], 0)]), [([(4, 1)], 0), ([(18, 1)], 0)], [], [.inr (.inr (.inl (98, 0, [([(3, 1)], 0), ([(1, 1)], 0), ([(4, 1)], 0), ([(9, 1)], 0), ([(10, 1)], 0), ([(11, 1)], 0), ([(12, 1)], 0), ([(13, 1)], 0), ([(14, 1)], 0)], [4, 5, 6, 7], [5])))])
noncomputable def xe_40_0_64 : yt_VC := (1000, ([(2, 2), ((-2147483648), 2147483647), (1, 1), ((-2147483648), 2147483647), (0, 2147483647), ((-2147483648), 2147483647), (0, 1), ((-2147483648), 2147483647), (0, 100), (0, 0), ((-2147483648), 2147483647), (0, 100), (1, 1), ((-2147483648), 2147483647), (0, 100), (0, 1), ((-2147483648), 2147483647), (0, 100), ((-2147483648), 0)], []), [([], (-2)), ([(18, 1)], 0)], [], [])
noncomputable def xe_40_0_65 : yt_VC := (1000, ([(2, 2), ((-2147483648), (-1)), (2, 2), ((-2147483648), 2147483647), (0, 2147483647), ((-2147483648), 2147483647), (0, 1), ((-2147483648), 2147483647), (0, 100), (0, 1), ((-2147483648), 2147483647), (0, 100), (1, 1), ((-2147483648), 2147483647), (0, 100), (0, 1), ((-2147483648), 2147483647), (0, 100), ((-2147483648), 0)], []), [([], (-3)), ([(18, 1)], 0)], [], [])
noncomputable def xe_40_0_66 : yt_VC := (1000, ([(2, 2), (0, 2147483647), (2, 2), ((-2147483648), 2147483647), (0, 2147483647), ((-2147483648), 2147483647), (0, 1), ((-2147483648), 2147483647), (0, 100), (0, 1), ((-2147483648), 2147483647), (0, 100), (1, 1), ((-2147483648), 2147483647), (0, 100), (0, 1), ((-2147483648), 2147483647), (0, 100), ((-2147483648), 0)], [([(1, 1), (14, (-1)), (4, 1)], (-1))]), [([], (-3)), ([(18, 1)], 0)], [], [])
noncomputable def xe_40_0_67 : yt_VC := (1000, ([(2, 2), (0, 100), (2, 2), ((-2147483648), (-1)), (0, 100), ((-2147483648), 2147483647), (0, 1), ((-2147483648), 2147483647), (0, 100), (0, 1), ((-2147483648), 2147483647), (0, 100), (1, 1), ((-2147483648), 2147483647), (0, 100), (0, 1), ((-2147483648), 2147483647), (0, 100), ((-2147483648), 0)], [([(1, (-1)), (14, 1), (4, (-1))], 0)]), [([], (-3)), ([(18, 1)], 0)], [], [])
noncomputable def xe_40_0_68 : yt_VC := (1000, ([(2, 2), (0, 100), (2, 2), (0, 2147483647), (0, 100), ((-2147483648), 2147483647), (0, 1), ((-2147483648), 2147483647), (0, 100), (0, 1), ((-2147483648), 2147483647), (0, 100), (1, 1), ((-2147483648), 2147483647), (0, 100), (0, 1), ((-2147483648), 2147483647), (0, 100), ((-2147483648), 0)], [([(3, 1), (14, (-1)), (4, 1)], (-1)), ([(1, (-1)), (14, 1), (4, (-1))], 0)]), [([], (-3)), ([(18, 1)], 0)], [], [])
noncomputable def xe_40_0_69 : yt_VC := (1000, ([(2, 2), (0, 100), (2, 2), (0, 100), (0, 100), ((-2147483648), 2147483647), (0, 1), ((-2147483648), 2147483647), (0, 100), (0, 1), ((-2147483648), 2147483647), (0, 100), (1, 1), ((-2147483648), 2147483647), (0, 100), (0, 1), ((-2147483648), 2147483647), (0, 100), ((-2147483648), 0)], [([(4, (-1)), (3, (-1))], 101), ([(3, (-1)), (14, 1), (4, (-1))], 0), ([(1, (-1)), (14, 1), (4, (-1))], 0)]), [([(4, 1)], 0), ([(18, 1)], 0)], [], [.inr (.inr (.inl (99, 0, [([(3, 1)], 0), ([(1, 1)], 0), ([(4, 1)], 0), ([(12, 1)], 0), ([(13, 1)], 0), ([(14, 1)], 0)], [6, 7], [7])))])
noncomputable def xe_40_0_70 : yt_VC := (1000, ([(2, 2), ((-2147483648), (-1)), (3, 3), ((-2147483648), 2147483647), (0, 2147483647), ((-2147483648), 2147483647), (0, 1), ((-2147483648), 2147483647), (0, 100), (0, 1), ((-2147483648), 2147483647), (0, 100), (1, 1), ((-2147483648), 2147483647), (0, 100), (1, 1), ((-2147483648), 2147483647), (0, 100), ((-2147483648), 0)], []), [([], (-3)), ([(18, 1)], 0)], [], [])
noncomputable def xe_40_0_71 : yt_VC := (1000, ([(2, 2), (0, 2147483647), (3, 3), ((-2147483648), 2147483647), (0, 2147483647), ((-2147483648), 2147483647), (0, 1), ((-2147483648), 2147483647), (0, 100), (0, 1), ((-2147483648), 2147483647), (0, 100), (1, 1), ((-2147483648), 2147483647), (0, 100), (1, 1), ((-2147483648), 2147483647), (0, 100), ((-2147483648), 0)], [([(1, 1), (14, (-1)), (4, 1)], (-1))]), [([], (-3)), ([(18, 1)], 0)], [], [])
noncomputable def xe_40_0_72 : yt_VC := (1000, ([(2, 2), (0, 100), (3, 3), ((-2147483648), (-1)), (0, 100), ((-2147483648), 2147483647), (0, 1), ((-2147483648), 2147483647), (0, 100), (0, 1), ((-2147483648), 2147483647), (0, 100), (1, 1), ((-2147483648), 2147483647), (0, 100), (1, 1), ((-2147483648), 2147483647), (0, 100), ((-2147483648), 0)], [([(1, (-1)), (14, 1), (4, (-1))], 0)]), [([], (-3)), ([(18, 1)], 0)], [], [])
noncomputable def xe_40_0_73 : yt_VC := (1000, ([(2, 2), (0, 100), (3, 3), (0, 2147483647), (0, 100), ((-2147483648), 2147483647), (0, 1), ((-2147483648), 2147483647), (0, 100), (0, 1), ((-2147483648), 2147483647), (0, 100), (1, 1), ((-2147483648), 2147483647), (0, 100), (1, 1), ((-2147483648), 2147483647), (0, 100), ((-2147483648), 0)], [([(3, 1), (17, (-1)), (4, 1)], (-1)), ([(1, (-1)), (14, 1), (4, (-1))], 0)]), [([], (-3)), ([(18, 1)], 0)], [], [])
noncomputable def xe_40_0_74 : yt_VC := (1000, ([(2, 2), (0, 100), (3, 3), (0, 100), (0, 100), ((-2147483648), 2147483647), (0, 1), ((-2147483648), 2147483647), (0, 100), (0, 1), ((-2147483648), 2147483647), (0, 100), (1, 1), ((-2147483648), 2147483647), (0, 100), (1, 1), ((-2147483648), 2147483647), (0, 100), ((-2147483648), 0)], [([(4, (-1)), (3, (-1))], 101), ([(3, (-1)), (17, 1), (4, (-1))], 0), ([(1, (-1)), (14, 1), (4, (-1))], 0)]), [([(4, 1)], 0), ([(18, 1)], 0)], [], [.inr (.inr (.inl (98, 0, [([(3, 1)], 0), ([(1, 1)], 0), ([(4, 1)], 0), ([(15, 1)], 0), ([(16, 1)], 0), ([(17, 1)], 0), ([(12, 1)], 0), ([(13, 1)], 0), ([(14, 1)], 0)], [8, 9, 6, 7], [9])))])
noncomputable def xe_40_0_75 : yt_VC := (1000, ([(2, 2), ((-2147483648), 2147483647), (3, 3), ((-2147483648), 2147483647), (0, 2147483647), ((-2147483648), 2147483647), (0, 1), ((-2147483648), 2147483647), (0, 100), (0, 1), ((-2147483648), 2147483647), (0, 100), (1, 1), ((-2147483648), 2147483647), (0, 100), (0, 0), ((-2147483648), 2147483647), (0, 100), ((-2147483648), 0)], []), [([], (-2)), ([(18, 1)], 0)], [], [])
noncomputable def xe_40_0_76 : yt_VC := (1000, ([(3, 3), ((-2147483648), 2147483647), (0, 3), ((-2147483648), 2147483647), (0, 2147483647), ((-2147483648), 2147483647), (0, 1), ((-2147483648), 2147483647), (0, 100), (0, 1), ((-2147483648), 2147483647), (0, 100), (0, 1), ((-2147483648), 2147483647), (0, 100), (0, 0), ((-2147483648), 2147483647), (0, 100), ((-2147483648), 0)], []), [([], (-2)), ([(18, 1)], 0)], [], [])
noncomputable def xe_40_0_77 : yt_VC := (1000, ([(3, 3), ((-2147483648), (-1)), (0, 0), ((-2147483648), 2147483647), (0, 2147483647), ((-2147483648), 2147483647), (1, 1), ((-2147483648), 2147483647), (0, 100), (0, 1), ((-2147483648), 2147483647), (0, 100), (0, 1), ((-2147483648), 2147483647), (0, 100), (1, 1), ((-2147483648), 2147483647), (0, 100), ((-2147483648), 0)], []), [([], (-3)), ([(18, 1)], 0)], [], [])
noncomputable def xe_40_0_78 : yt_VC := (1000, ([(3, 3), (0, 2147483647), (0, 0), ((-2147483648), 2147483647), (0, 2147483647), ((-2147483648), 2147483647), (1, 1), ((-2147483648), 2147483647), (0, 100), (0, 1), ((-2147483648), 2147483647), (0, 100), (0, 1), ((-2147483648), 2147483647), (0, 100), (1, 1), ((-2147483648), 2147483647), (0, 100), ((-2147483648), 0)], [([(1, 1), (17, (-1)), (4, 1)], (-1))]), [([], (-3)), ([(18, 1)], 0)], [], [])
noncomputable def xe_40_0_79 : yt_VC := (1000, ([(3, 3), (0, 100), (0, 0), ((-2147483648), (-1)), (0, 100), ((-2147483648), 2147483647), (1, 1), ((-2147483648), 2147483647), (0, 100), (0, 1), ((-2147483648), 2147483647), (0, 100), (0, 1), ((-2147483648), 2147483647), (0, 100), (1, 1), ((-2147483648), 2147483647), (0, 100), ((-2147483648), 0)], [([(1, (-1)), (17, 1), (4, (-1))], 0)]), [([], (-3)), ([(18, 1)], 0)], [], [])
noncomputable def xe_40_0_80 : yt_VC := (1000, ([(3, 3), (0, 100), (0, 0), (0, 2147483647), (0, 100), ((-2147483648), 2147483647), (1, 1), ((-2147483648), 2147483647), (0, 100), (0, 1), ((-2147483648), 2147483647), (0, 100), (0, 1), ((-2147483648), 2147483647), (0, 100), (1, 1), ((-2147483648), 2147483647), (0, 100), ((-2147483648), 0)], [([(3, 1), (8, (-1)), (4, 1)], (-1)), ([(1, (-1)), (17, 1), (4, (-1))], 0)]), [([], (-3)), ([(18, 1)], 0)], [], [])
noncomputable def xe_40_0_81 : yt_VC := (1000, ([(3, 3), (0, 100), (0, 0), (0, 100), (0, 100), ((-2147483648), 2147483647), (1, 1), ((-2147483648), 2147483647), (0, 100), (0, 1), ((-2147483648), 2147483647), (0, 100), (0, 1), ((-2147483648), 2147483647), (0, 100), (1, 1), ((-2147483648), 2147483647), (0, 100), ((-2147483648), 0)], [([(4, (-1)), (3, (-1))], 101), ([(3, (-1)), (8, 1), (4, (-1))], 0), ([(1, (-1)), (17, 1), (4, (-1))], 0)]), [([(4, 1)], 0), ([(18, 1)], 0)], [], [.inr (.inr (.inl (98, 0, [([(3, 1)], 0), ([(1, 1)], 0), ([(4, 1)], 0), ([(6, 1)], 0), ([(7, 1)], 0), ([(8, 1)], 0), ([(15, 1)], 0), ([(16, 1)], 0), ([(17, 1)], 0)], [2, 3, 8, 9], [3])))])
noncomputable def xe_40_0_82 : yt_VC := (1000, ([(3, 3), ((-2147483648), 2147483647), (0, 0), ((-2147483648), 2147483647), (0, 2147483647), ((-2147483648), 2147483647), (0, 0), ((-2147483648), 2147483647), (0, 100), (0, 1), ((-2147483648), 2147483647), (0, 100), (0, 1), ((-2147483648), 2147483647), (0, 100), (1, 1), ((-2147483648), 2147483647), (0, 100), ((-2147483648), 0)], []), [([], (-2)), ([(18, 1)], 0)], [], [])
noncomputable def xe_40_0_83 : yt_VC := (1000, ([(3, 3), ((-2147483648), (-1)), (1, 1), ((-2147483648), 2147483647), (0, 2147483647), ((-2147483648), 2147483647), (0, 1), ((-2147483648), 2147483647), (0, 100), (1, 1), ((-2147483648), 2147483647), (0, 100), (0, 1), ((-2147483648), 2147483647), (0, 100), (1, 1), ((-2147483648), 2147483647), (0, 100), ((-2147483648), 0)], []), [([], (-3)), ([(18, 1)], 0)], [], [])
noncomputable def xe_40_0_84 : yt_VC := (1000, ([(3, 3), (0, 2147483647), (1, 1), ((-2147483648), 2147483647), (0, 2147483647), ((-2147483648), 2147483647), (0, 1), ((-2147483648), 2147483647), (0, 100), (1, 1), ((-2147483648), 2147483647), (0, 100), (0, 1), ((-2147483648), 2147483647), (0, 100), (1, 1), ((-2147483648), 2147483647), (0, 100), ((-2147483648), 0)], [([(1, 1), (17, (-1)), (4, 1)], (-1))]), [([], (-3)), ([(18, 1)], 0)], [], [])
noncomputable def xe_40_0_85 : yt_VC := (1000, ([(3, 3), (0, 100), (1, 1), ((-2147483648), (-1)), (0, 100), ((-2147483648), 2147483647), (0, 1), ((-2147483648), 2147483647), (0, 100), (1, 1), ((-2147483648), 2147483647), (0, 100), (0, 1), ((-2147483648), 2147483647), (0, 100), (1, 1), ((-2147483648), 2147483647), (0, 100), ((-2147483648), 0)], [([(1, (-1)), (17, 1), (4, (-1))], 0)]), [([], (-3)), ([(18, 1)], 0)], [], [])
noncomputable def xe_40_0_86 : yt_VC := (1000, ([(3, 3), (0, 100), (1, 1), (0, 2147483647), (0, 100), ((-2147483648), 2147483647), (0, 1), ((-2147483648), 2147483647), (0, 100), (1, 1), ((-2147483648), 2147483647), (0, 100), (0, 1), ((-2147483648), 2147483647), (0, 100), (1, 1), ((-2147483648), 2147483647), (0, 100), ((-2147483648), 0)], [([(3, 1), (11, (-1)), (4, 1)], (-1)), ([(1, (-1)), (17, 1), (4, (-1))], 0)]), [([], (-3)), ([(18, 1)], 0)], [], [])
noncomputable def xe_40_0_87 : yt_VC := (1000, ([(3, 3), (0, 100), (1, 1), (0, 100), (0, 100), ((-2147483648), 2147483647), (0, 1), ((-2147483648), 2147483647), (0, 100), (1, 1), ((-2147483648), 2147483647), (0, 100), (0, 1), ((-2147483648), 2147483647), (0, 100), (1, 1), ((-2147483648), 2147483647), (0, 100), ((-2147483648), 0)], [([(4, (-1)), (3, (-1))], 101), ([(3, (-1)), (11, 1), (4, (-1))], 0), ([(1, (-1)), (17, 1), (4, (-1))], 0)]), [([(4, 1)], 0), ([(18, 1)], 0)], [], [.inr (.inr (.inl (98, 0, [([(3, 1)], 0), ([(1, 1)], 0), ([(4, 1)], 0), ([(9, 1)], 0), ([(10, 1)], 0), ([(11, 1)], 0), ([(15, 1)], 0), ([(16, 1)], 0), ([(17, 1)], 0)], [4, 5, 8, 9], [5])))])
noncomputable def xe_40_0_88 : yt_VC := (1000, ([(3, 3), ((-2147483648), 2147483647), (1, 1), ((-2147483648), 2147483647), (0, 2147483647), ((-2147483648), 2147483647), (0, 1), ((-2147483648), 2147483647), (0, 100), (0, 0), ((-2147483648), 2147483647), (0, 100), (0, 1), ((-2147483648), 2147483647), (0, 100), (1, 1), ((-2147483648), 2147483647), (0, 100), ((-2147483648), 0)], []), [([], (-2)), ([(18, 1)], 0)], [], [])
noncomputable def xe_40_0_89 : yt_VC := (1000, ([(3, 3), ((-2147483648), (-1)), (2, 2), ((-2147483648), 2147483647), (0, 2147483647), ((-2147483648), 2147483647), (0, 1), ((-2147483648), 2147483647), (0, 100), (0, 1), ((-2147483648), 2147483647), (0, 100), (1, 1), ((-2147483648), 2147483647), (0, 100), (1, 1), ((-2147483648), 2147483647), (0, 100), ((-2147483648), 0)], []), [([], (-3)), ([(18, 1)], 0)], [], [])
noncomputable def xe_40_0_90 : yt_VC := (1000, ([(3, 3), (0, 2147483647), (2, 2), ((-2147483648), 2147483647), (0, 2147483647), ((-2147483648), 2147483647), (0, 1), ((-2147483648), 2147483647), (0, 100), (0, 1), ((-2147483648), 2147483647), (0, 100), (1, 1), ((-2147483648), 2147483647), (0, 100), (1, 1), ((-2147483648), 2147483647), (0, 100), ((-2147483648), 0)], [([(1, 1), (17, (-1)), (4, 1)], (-1))]), [([], (-3)), ([(18, 1)], 0)], [], [])
noncomputable def xe_40_0_91 : yt_VC := (1000, ([(3, 3), (0, 100), (2, 2), ((-2147483648), (-1)), (0, 100), ((-2147483648), 2147483647), (0, 1), ((-2147483648), 2147483647), (0, 100), (0, 1), ((-2147483648), 2147483647), (0, 100), (1, 1), ((-2147483648), 2147483647), (0, 100), (1, 1), ((-2147483648), 2147483647), (0, 100), ((-2147483648), 0)], [([(1, (-1)), (17, 1), (4, (-1))], 0)]), [([], (-3)), ([(18, 1)], 0)], [], [])
noncomputable def xe_40_0_92 : yt_VC := (1000, ([(3, 3), (0, 100), (2, 2), (0, 2147483647), (0, 100), ((-2147483648), 2147483647), (0, 1), ((-2147483648), 2147483647), (0, 100), (0, 1), ((-2147483648), 2147483647), (0, 100), (1, 1), ((-2147483648), 2147483647), (0, 100), (1, 1), ((-2147483648), 2147483647), (0, 100), ((-2147483648), 0)], [([(3, 1), (14, (-1)), (4, 1)], (-1)), ([(1, (-1)), (17, 1), (4, (-1))], 0)]), [([], (-3)), ([(18, 1)], 0)], [], [])
noncomputable def xe_40_0_93 : yt_VC := (1000, ([(3, 3), (0, 100), (2, 2), (0, 100), (0, 100), ((-2147483648), 2147483647), (0, 1), ((-2147483648), 2147483647), (0, 100), (0, 1), ((-2147483648), 2147483647), (0, 100), (1, 1), ((-2147483648), 2147483647), (0, 100), (1, 1), ((-2147483648), 2147483647), (0, 100), ((-2147483648), 0)], [([(4, (-1)), (3, (-1))], 101), ([(3, (-1)), (14, 1), (4, (-1))], 0), ([(1, (-1)), (17, 1), (4, (-1))], 0)]), [([(4, 1)], 0), ([(18, 1)], 0)], [], [.inr (.inr (.inl (98, 0, [([(3, 1)], 0), ([(1, 1)], 0), ([(4, 1)], 0), ([(12, 1)], 0), ([(13, 1)], 0), ([(14, 1)], 0), ([(15, 1)], 0), ([(16, 1)], 0), ([(17, 1)], 0)], [6, 7, 8, 9], [7])))])
noncomputable def xe_40_0_94 : yt_VC := (1000, ([(3, 3), ((-2147483648), 2147483647), (2, 2), ((-2147483648), 2147483647), (0, 2147483647), ((-2147483648), 2147483647), (0, 1), ((-2147483648), 2147483647), (0, 100), (0, 1), ((-2147483648), 2147483647), (0, 100), (0, 0), ((-2147483648), 2147483647), (0, 100), (1, 1), ((-2147483648), 2147483647), (0, 100), ((-2147483648), 0)], []), [([], (-2)), ([(18, 1)], 0)], [], [])
noncomputable def xe_40_0_95 : yt_VC := (1000, ([(3, 3), ((-2147483648), (-1)), (3, 3), ((-2147483648), 2147483647), (0, 2147483647), ((-2147483648), 2147483647), (0, 1), ((-2147483648), 2147483647), (0, 100), (0, 1), ((-2147483648), 2147483647), (0, 100), (0, 1), ((-2147483648), 2147483647), (0, 100), (1, 1), ((-2147483648), 2147483647), (0, 100), ((-2147483648), 0)], []), [([], (-3)), ([(18, 1)], 0)], [], [])
noncomputable def xe_40_0_96 : yt_VC := (1000, ([(3, 3), (0, 2147483647), (3, 3), ((-2147483648), 2147483647), (0, 2147483647), ((-2147483648), 2147483647), (0, 1), ((-2147483648), 2147483647), (0, 100), (0, 1), ((-2147483648), 2147483647), (0, 100), (0, 1), ((-2147483648), 2147483647), (0, 100), (1, 1), ((-2147483648), 2147483647), (0, 100), ((-2147483648), 0)], [([(1, 1), (17, (-1)), (4, 1)], (-1))]), [([], (-3)), ([(18, 1)], 0)], [], [])
noncomputable def xe_40_0_97 : yt_VC := (1000, ([(3, 3), (0, 100), (3, 3), ((-2147483648), (-1)), (0, 100), ((-2147483648), 2147483647), (0, 1), ((-2147483648), 2147483647), (0, 100), (0, 1), ((-2147483648), 2147483647), (0, 100), (0, 1), ((-2147483648), 2147483647), (0, 100), (1, 1), ((-2147483648), 2147483647), (0, 100), ((-2147483648), 0)], [([(1, (-1)), (17, 1), (4, (-1))], 0)]), [([], (-3)), ([(18, 1)], 0)], [], [])
noncomputable def xe_40_0_98 : yt_VC := (1000, ([(3, 3), (0, 100), (3, 3), (0, 2147483647), (0, 100), ((-2147483648), 2147483647), (0, 1), ((-2147483648), 2147483647), (0, 100), (0, 1), ((-2147483648), 2147483647), (0, 100), (0, 1), ((-2147483648), 2147483647), (0, 100), (1, 1), ((-2147483648), 2147483647), (0, 100), ((-2147483648), 0)], [([(3, 1), (17, (-1)), (4, 1)], (-1)), ([(1, (-1)), (17, 1), (4, (-1))], 0)]), [([], (-3)), ([(18, 1)], 0)], [], [])
noncomputable def xe_40_0_99 : yt_VC := (1000, ([(3, 3), (0, 100), (3, 3), (0, 100), (0, 100), ((-2147483648), 2147483647), (0, 1), ((-2147483648), 2147483647), (0, 100), (0, 1), ((-2147483648), 2147483647), (0, 100), (0, 1), ((-2147483648), 2147483647), (0, 100), (1, 1), ((-2147483648), 2147483647), (0, 100), ((-2147483648), 0)], [([(4, (-1)), (3, (-1))], 101), ([(3, (-1)), (17, 1), (4, (-1))], 0), ([(1, (-1)), (17, 1), (4, (-1))], 0)]), [([(4, 1)], 0), ([(18, 1)], 0)], [], [.inr (.inr (.inl (99, 0, [([(3, 1)], 0), ([(1, 1)], 0), ([(4, 1)], 0), ([(15, 1)], 0), ([(16, 1)], 0), ([(17, 1)], 0)], [8, 9], [9])))])
noncomputable def xe_40_0_100 : yt_VC := (1000, ([(0, 3), ((-2147483648), 2147483647), (0, 3), ((-2147483648), 2147483647), ((-2147483648), (-1)), ((-2147483648), 2147483647), (0, 1), ((-2147483648), 2147483647), (0, 100), (0, 1), ((-2147483648), 2147483647), (0, 100), (0, 1), ((-2147483648), 2147483647), (0, 100), (0, 1), ((-2147483648), 2147483647), (0, 100), ((-2147483648), 0)], []), [([], (-1)), ([(18, 1)], 0)], [], [])
noncomputable def xl_40_0_90 : List yt_VC := xe_40_0_90 :: xe_40_0_91 :: xe_40_0_92 :: xe_40_0_93 :: xe_40_0_94 :: xe_40_0_95 :: xe_40_0_96 :: xe_40_0_97 :: xe_40_0_98 :: xe_40_0_99 :: xe_40_0_100 :: []
noncomputable def xl_40_0_60 : List yt_VC := xe_40_0_60 :: xe_40_0_61 :: xe_40_0_62 :: xe_40_0_63 :: xe_40_0_64 :: xe_40_0_65 :: xe_40_0_66 :: xe_40_0_67 :: xe_40_0_68 :: xe_40_0_69 :: xe_40_0_70 :: xe_40_0_71 :: xe_40_0_72 :: xe_40_0_73 :: xe_40_0_74 :: xe_40_0_75 :: xe_40_0_76 :: xe_40_0_77 :: xe_40_0_78 :: xe_40_0_79 :: xe_40_0_80 :: xe_40_0_81 :: xe_40_0_82 :: xe_40_0_83 :: xe_40_0_84 :: xe_40_0_85 :: xe_40_0_86 :: xe_40_0_87 :: xe_40_0_88 :: xe_40_0_89 :: xl_40_0_90
noncomputable def xl_40_0_30 : List yt_VC := xe_40_0_30 :: xe_40_0_31 :: xe_40_0_32 :: xe_40_0_33 :: xe_40_0_34 :: xe_40_0_35 :: xe_40_0_36 :: xe_40_0_37 :: xe_40_0_38 :: xe_40_0_39 :: xe_40_0_40 :: xe_40_0_41 :: xe_40_0_42 :: xe_40_0_43 :: xe_40_0_44 :: xe_40_0_45 :: xe_40_0_46 :: xe_40_0_47 :: xe_40_0_48 :: xe_40_0_49 :: xe_40_0_50 :: xe_40_0_51 :: xe_40_0_52 :: xe_40_0_53 :: xe_40_0_54 :: xe_40_0_55 :: xe_40_0_56 :: xe_40_0_57 :: xe_40_0_58 :: xe_40_0_59 :: xl_40_0_60
noncomputable def xl_40_0_0 : List yt_VC := xe_40_0_0 :: xe_40_0_1 :: xe_40_0_2 :: xe_40_0_3 :: xe_40_0_4 :: xe_40_0_5 :: xe_40_0_6 :: xe_40_0_7 :: xe_40_0_8 :: xe_40_0_9 :: xe_40_0_10 :: xe_40_0_11 :: xe_40_0_12 :: xe_40_0_13 :: xe_40_0_14 :: xe_40_0_15 :: xe_40_0_16 :: xe_40_0_17 :: xe_40_0_18 :: xe_40_0_19 :: xe_40_0_20 :: xe_40_0_21 :: xe_40_0_22 :: xe_40_0_23 :: xe_40_0_24 :: xe_40_0_25 :: xe_40_0_26 :: xe_40_0_27 :: xe_40_0_28 :: xe_40_0_29 :: xl_40_0_30
noncomputable def xv_40 : List (List yt_VC) := [xl_40_0_0]
noncomputable def xG_40 : Nat → yt_G → (Nat → Int) → yt_G → Prop
  | _, _, _, _ => True
noncomputable def xP_40 : yt_Ph
  | 0, r, g0, g => (r 18) = yq_cr (r 0) (r 1) (r 2) (r 3) (r 4) (yq_at (r 0) ((1 * (r 6) + 0) + 0) ((1 * (r 9) + 0) + 0) ((1 * (r 12) + 0) + 0) ((1 * (r 15) + 0) + 0)) (yq_at (r 2) ((1 * (r 6) + 0) + 0) ((1 * (r 9) + 0) + 0) ((1 * (r 12) + 0) + 0) ((1 * (r 15) + 0) + 0)) (yq_at (r 0) ((1 * (r 8) + 0) + 0) ((1 * (r 11) + 0) + 0) ((1 * (r 14) + 0) + 0) ((1 * (r 17) + 0) + 0)) (yq_at (r 2) ((1 * (r 8) + 0) + 0) ((1 * (r 11) + 0) + 0) ((1 * (r 14) + 0) + 0) ((1 * (r 17) + 0) + 0)) ∧ (g 3) = yq_xc (r 0) (r 1) (r 2) (r 3) (r 4) 0 (yq_at (r 0) ((1 * (r 6) + 0) + 0) ((1 * (r 9) + 0) + 0) ((1 * (r 12) + 0) + 0) ((1 * (r 15) + 0) + 0)) ((1 * (r 6) + 0) + 0) (yq_at (r 0) ((1 * (r 8) + 0) + 0) ((1 * (r 11) + 0) + 0) ((1 * (r 14) + 0) + 0) ((1 * (r 17) + 0) + 0)) ((1 * (r 8) + 0) + 0) ((1 * (r 7) + 0) + 0) (yq_fat (r 0) (g0 3) (g0 5) (g0 7) (g0 9)) (g0 3) ∧ (g 5) = yq_xc (r 0) (r 1) (r 2) (r 3) (r 4) 1 (yq_at (r 0) ((1 * (r 6) + 0) + 0) ((1 * (r 9) + 0) + 0) ((1 * (r 12) + 0) + 0) ((1 * (r 15) + 0) + 0)) ((1 * (r 9) + 0) + 0) (yq_at (r 0) ((1 * (r 8) + 0) + 0) ((1 * (r 11) + 0) + 0) ((1 * (r 14) + 0) + 0) ((1 * (r 17) + 0) + 0)) ((1 * (r 11) + 0) + 0) ((1 * (r 10) + 0) + 0) (yq_fat (r 0) (g0 3) (g0 5) (g0 7) (g0 9)) (g0 5) ∧ (g 7) = yq_xc (r 0) (r 1) (r 2) (r 3) (r 4) 2 (yq_at (r 0) ((1 * (r 6) + 0) + 0) ((1 * (r 9) + 0) + 0) ((1 * (r 12) + 0) + 0) ((1 * (r 15) + 0) + 0)) ((1 * (r 12) + 0) + 0) (yq_at (r 0) ((1 * (r 8) + 0) + 0) ((1 * (r 11) + 0) + 0) ((1 * (r 14) + 0) + 0) ((1 * (r 17) + 0) + 0)) ((1 * (r 14) + 0) + 0) ((1 * (r 13) + 0) + 0) (yq_fat (r 0) (g0 3) (g0 5) (g0 7) (g0 9)) (g0 7) ∧ (g 9) = yq_xc (r 0) (r 1) (r 2) (r 3) (r 4) 3 (yq_at (r 0) ((1 * (r 6) + 0) + 0) ((1 * (r 9) + 0) + 0) ((1 * (r 12) + 0) + 0) ((1 * (r 15) + 0) + 0)) ((1 * (r 15) + 0) + 0) (yq_at (r 0) ((1 * (r 8) + 0) + 0) ((1 * (r 11) + 0) + 0) ((1 * (r 14) + 0) + 0) ((1 * (r 17) + 0) + 0)) ((1 * (r 17) + 0) + 0) ((1 * (r 16) + 0) + 0) (yq_fat (r 0) (g0 3) (g0 5) (g0 7) (g0 9)) (g0 9)
  | _, _, _, _ => True
noncomputable def xR_40 : yt_Ps := fun r g0 => True
noncomputable def xT_40 : yt_Tb := fun d => match d with
  | 98 => xP_39
  | 99 => xP_38
  | _ => fun _ _ _ _ => True
noncomputable def xU_40 : Nat → yt_Ps := fun d => match d with
  | 98 => xR_39
  | 99 => xR_38
  | _ => fun _ _ => True
theorem xw_40_0_0 : yt_hold xT_40 xk_40 xq_40.2.2.1 xG_40 xP_40 xU_40 18 xk_40.2.1.2.2.2 (fun g0 r g => xR_40 r g0 ∧ g = g0) (1000, ([((-2147483648), (-1)), ((-2147483648), 2147483647), ((-2147483648), 2147483647), ((-2147483648), 2147483647), ((-2147483648), 2147483647), ((-2147483648), 2147483647), (0, 1), ((-2147483648), 2147483647), (0, 100), (0, 1), ((-2147483648), 2147483647), (0, 100), (0, 1), ((-2147483648), 2147483647), (0, 100), (0, 1), ((-2147483648), 2147483647), (0, 100), ((-2147483648), 0)], []), [([], (-1)), ([(18, 1)], 0)], [], []) := by
  intro g0 r gi g hok hh hars hfr hG
  have b0 : (-2147483648) ≤ r 0 ∧ r 0 ≤ (-1) := hok.1 0 ((-2147483648), (-1)) rfl
  have b1 : (-2147483648) ≤ r 1 ∧ r 1 ≤ 2147483647 := hok.1 1 ((-2147483648), 2147483647) rfl
  have b2 : (-2147483648) ≤ r 2 ∧ r 2 ≤ 2147483647 := hok.1 2 ((-2147483648), 2147483647) rfl
  have b3 : (-2147483648) ≤ r 3 ∧ r 3 ≤ 2147483647 := hok.1 3 ((-2147483648), 2147483647) rfl
  have b4 : (-2147483648) ≤ r 4 ∧ r 4 ≤ 2147483647 := hok.1 4 ((-2147483648), 2147483647) rfl
  have b5 : (-2147483648) ≤ r 5 ∧ r 5 ≤ 2147483647 := hok.1 5 ((-2147483648), 2147483647) rfl
  have b6 : 0 ≤ r 6 ∧ r 6 ≤ 1 := hok.1 6 (0, 1) rfl
  have b7 : (-2147483648) ≤ r 7 ∧ r 7 ≤ 2147483647 := hok.1 7 ((-2147483648), 2147483647) rfl
  have b8 : 0 ≤ r 8 ∧ r 8 ≤ 100 := hok.1 8 (0, 100) rfl
  have b9 : 0 ≤ r 9 ∧ r 9 ≤ 1 := hok.1 9 (0, 1) rfl
  have b10 : (-2147483648) ≤ r 10 ∧ r 10 ≤ 2147483647 := hok.1 10 ((-2147483648), 2147483647) rfl
  have b11 : 0 ≤ r 11 ∧ r 11 ≤ 100 := hok.1 11 (0, 100) rfl
  have b12 : 0 ≤ r 12 ∧ r 12 ≤ 1 := hok.1 12 (0, 1) rfl
  have b13 : (-2147483648) ≤ r 13 ∧ r 13 ≤ 2147483647 := hok.1 13 ((-2147483648), 2147483647) rfl
  have b14 : 0 ≤ r 14 ∧ r 14 ≤ 100 := hok.1 14 (0, 100) rfl
  have b15 : 0 ≤ r 15 ∧ r 15 ≤ 1 := hok.1 15 (0, 1) rfl
  have b16 : (-2147483648) ≤ r 16 ∧ r 16 ≤ 2147483647 := hok.1 16 ((-2147483648), 2147483647) rfl
  have b17 : 0 ≤ r 17 ∧ r 17 ≤ 100 := hok.1 17 (0, 100) rfl
  have b18 : (-2147483648) ≤ r 18 ∧ r 18 ≤ 0 := hok.1 18 ((-2147483648), 0) rfl
  obtain ⟨hG, hgi⟩ := hG
  have hG : True := hG
  have hh : g = gi := hh
  subst hh
  refine yt_dalt (by decide) (by decide) ?_
  rw [show xk_40.2.1.2.1.1.length = 18 from rfl]
  show ((0 : Int) + (-1)) = yq_cr ((1 * r 0 + 0) + 0) ((1 * r 1 + 0) + 0) ((1 * r 2 + 0) + 0) ((1 * r 3 + 0) + 0) ((1 * r 4 + 0) + 0) (yq_at ((1 * r 0 + 0) + 0) ((1 * ((1 * r 6 + 0) + 0) + 0) + 0) ((1 * ((1 * r 9 + 0) + 0) + 0) + 0) ((1 * ((1 * r 12 + 0) + 0) + 0) + 0) ((1 * ((1 * r 15 + 0) + 0) + 0) + 0)) (yq_at ((1 * r 2 + 0) + 0) ((1 * ((1 * r 6 + 0) + 0) + 0) + 0) ((1 * ((1 * r 9 + 0) + 0) + 0) + 0) ((1 * ((1 * r 12 + 0) + 0) + 0) + 0) ((1 * ((1 * r 15 + 0) + 0) + 0) + 0)) (yq_at ((1 * r 0 + 0) + 0) ((1 * ((1 * r 8 + 0) + 0) + 0) + 0) ((1 * ((1 * r 11 + 0) + 0) + 0) + 0) ((1 * ((1 * r 14 + 0) + 0) + 0) + 0) ((1 * ((1 * r 17 + 0) + 0) + 0) + 0)) (yq_at ((1 * r 2 + 0) + 0) ((1 * ((1 * r 8 + 0) + 0) + 0) + 0) ((1 * ((1 * r 11 + 0) + 0) + 0) + 0) ((1 * ((1 * r 14 + 0) + 0) + 0) + 0) ((1 * ((1 * r 17 + 0) + 0) + 0) + 0)) ∧ (g 3) = yq_xc ((1 * r 0 + 0) + 0) ((1 * r 1 + 0) + 0) ((1 * r 2 + 0) + 0) ((1 * r 3 + 0) + 0) ((1 * r 4 + 0) + 0) 0 (yq_at ((1 * r 0 + 0) + 0) ((1 * ((1 * r 6 + 0) + 0) + 0) + 0) ((1 * ((1 * r 9 + 0) + 0) + 0) + 0) ((1 * ((1 * r 12 + 0) + 0) + 0) + 0) ((1 * ((1 * r 15 + 0) + 0) + 0) + 0)) ((1 * ((1 * r 6 + 0) + 0) + 0) + 0) (yq_at ((1 * r 0 + 0) + 0) ((1 * ((1 * r 8 + 0) + 0) + 0) + 0) ((1 * ((1 * r 11 + 0) + 0) + 0) + 0) ((1 * ((1 * r 14 + 0) + 0) + 0) + 0) ((1 * ((1 * r 17 + 0) + 0) + 0) + 0)) ((1 * ((1 * r 8 + 0) + 0) + 0) + 0) ((1 * ((1 * r 7 + 0) + 0) + 0) + 0) (yq_fat ((1 * r 0 + 0) + 0) (g0 3) (g0 5) (g0 7) (g0 9)) (g0 3) ∧ (g 5) = yq_xc ((1 * r 0 + 0) + 0) ((1 * r 1 + 0) + 0) ((1 * r 2 + 0) + 0) ((1 * r 3 + 0) + 0) ((1 * r 4 + 0) + 0) 1 (yq_at ((1 * r 0 + 0) + 0) ((1 * ((1 * r 6 + 0) + 0) + 0) + 0) ((1 * ((1 * r 9 + 0) + 0) + 0) + 0) ((1 * ((1 * r 12 + 0) + 0) + 0) + 0) ((1 * ((1 * r 15 + 0) + 0) + 0) + 0)) ((1 * ((1 * r 9 + 0) + 0) + 0) + 0) (yq_at ((1 * r 0 + 0) + 0) ((1 * ((1 * r 8 + 0) + 0) + 0) + 0) ((1 * ((1 * r 11 + 0) + 0) + 0) + 0) ((1 * ((1 * r 14 + 0) + 0) + 0) + 0) ((1 * ((1 * r 17 + 0) + 0) + 0) + 0)) ((1 * ((1 * r 11 + 0) + 0) + 0) + 0) ((1 * ((1 * r 10 + 0) + 0) + 0) + 0) (yq_fat ((1 * r 0 + 0) + 0) (g0 3) (g0 5) (g0 7) (g0 9)) (g0 5) ∧ (g 7) = yq_xc ((1 * r 0 + 0) + 0) ((1 * r 1 + 0) + 0) ((1 * r 2 + 0) + 0) ((1 * r 3 + 0) + 0) ((1 * r 4 + 0) + 0) 2 (yq_at ((1 * r 0 + 0) + 0) ((1 * ((1 * r 6 + 0) + 0) + 0) + 0) ((1 * ((1 * r 9 + 0) + 0) + 0) + 0) ((1 * ((1 * r 12 + 0) + 0) + 0) + 0) ((1 * ((1 * r 15 + 0) + 0) + 0) + 0)) ((1 * ((1 * r 12 + 0) + 0) + 0) + 0) (yq_at ((1 * r 0 + 0) + 0) ((1 * ((1 * r 8 + 0) + 0) + 0) + 0) ((1 * ((1 * r 11 + 0) + 0) + 0) + 0) ((1 * ((1 * r 14 + 0) + 0) + 0) + 0) ((1 * ((1 * r 17 + 0) + 0) + 0) + 0)) ((1 * ((1 * r 14 + 0) + 0) + 0) + 0) ((1 * ((1 * r 13 + 0) + 0) + 0) + 0) (yq_fat ((1 * r 0 + 0) + 0) (g0 3) (g0 5) (g0 7) (g0 9)) (g0 7) ∧ (g 9) = yq_xc ((1 * r 0 + 0) + 0) ((1 * r 1 + 0) + 0) ((1 * r 2 + 0) + 0) ((1 * r 3 + 0) + 0) ((1 * r 4 + 0) + 0) 3 (yq_at ((1 * r 0 + 0) + 0) ((1 * ((1 * r 6 + 0) + 0) + 0) + 0) ((1 * ((1 * r 9 + 0) + 0) + 0) + 0) ((1 * ((1 * r 12 + 0) + 0) + 0) + 0) ((1 * ((1 * r 15 + 0) + 0) + 0) + 0)) ((1 * ((1 * r 15 + 0) + 0) + 0) + 0) (yq_at ((1 * r 0 + 0) + 0) ((1 * ((1 * r 8 + 0) + 0) + 0) + 0) ((1 * ((1 * r 11 + 0) + 0) + 0) + 0) ((1 * ((1 * r 14 + 0) + 0) + 0) + 0) ((1 * ((1 * r 17 + 0) + 0) + 0) + 0)) ((1 * ((1 * r 17 + 0) + 0) + 0) + 0) ((1 * ((1 * r 16 + 0) + 0) + 0) + 0) (yq_fat ((1 * r 0 + 0) + 0) (g0 3) (g0 5) (g0 7) (g0 9)) (g0 9)
  try simp only [Int.one_mul, Int.zero_add, Int.add_zero]
  refine ⟨?_, ?_, ?_, ?_, ?_⟩
  · unfold yq_cr
    rw [if_neg (by omega)] <;> omega
  · unfold yq_xc
    rw [if_neg (by omega)]
    rw [hgi]
  · unfold yq_xc
    rw [if_neg (by omega)]
    rw [hgi]
  · unfold yq_xc
    rw [if_neg (by omega)]
    rw [hgi]
  · unfold yq_xc
    rw [if_neg (by omega)]
    rw [hgi]
theorem xw_40_0_1 : yt_hold xT_40 xk_40 xq_40.2.2.1 xG_40 xP_40 xU_40 18 xk_40.2.1.2.2.2 (fun g0 r g => xR_40 r g0 ∧ g = g0) (1000, ([(4, 2147483647), ((-2147483648), 2147483647), ((-2147483648), 2147483647), ((-2147483648), 2147483647), ((-2147483648), 2147483647), ((-2147483648), 2147483647), (0, 1), ((-2147483648), 2147483647), (0, 100), (0, 1), ((-2147483648), 2147483647), (0, 100), (0, 1), ((-2147483648), 2147483647), (0, 100), (0, 1), ((-2147483648), 2147483647), (0, 100), ((-2147483648), 0)], []), [([], (-1)), ([(18, 1)], 0)], [], []) := by
  intro g0 r gi g hok hh hars hfr hG
  have b0 : 4 ≤ r 0 ∧ r 0 ≤ 2147483647 := hok.1 0 (4, 2147483647) rfl
  have b1 : (-2147483648) ≤ r 1 ∧ r 1 ≤ 2147483647 := hok.1 1 ((-2147483648), 2147483647) rfl
  have b2 : (-2147483648) ≤ r 2 ∧ r 2 ≤ 2147483647 := hok.1 2 ((-2147483648), 2147483647) rfl
  have b3 : (-2147483648) ≤ r 3 ∧ r 3 ≤ 2147483647 := hok.1 3 ((-2147483648), 2147483647) rfl
  have b4 : (-2147483648) ≤ r 4 ∧ r 4 ≤ 2147483647 := hok.1 4 ((-2147483648), 2147483647) rfl
  have b5 : (-2147483648) ≤ r 5 ∧ r 5 ≤ 2147483647 := hok.1 5 ((-2147483648), 2147483647) rfl
  have b6 : 0 ≤ r 6 ∧ r 6 ≤ 1 := hok.1 6 (0, 1) rfl
  have b7 : (-2147483648) ≤ r 7 ∧ r 7 ≤ 2147483647 := hok.1 7 ((-2147483648), 2147483647) rfl
  have b8 : 0 ≤ r 8 ∧ r 8 ≤ 100 := hok.1 8 (0, 100) rfl
  have b9 : 0 ≤ r 9 ∧ r 9 ≤ 1 := hok.1 9 (0, 1) rfl
  have b10 : (-2147483648) ≤ r 10 ∧ r 10 ≤ 2147483647 := hok.1 10 ((-2147483648), 2147483647) rfl
  have b11 : 0 ≤ r 11 ∧ r 11 ≤ 100 := hok.1 11 (0, 100) rfl
  have b12 : 0 ≤ r 12 ∧ r 12 ≤ 1 := hok.1 12 (0, 1) rfl
  have b13 : (-2147483648) ≤ r 13 ∧ r 13 ≤ 2147483647 := hok.1 13 ((-2147483648), 2147483647) rfl
  have b14 : 0 ≤ r 14 ∧ r 14 ≤ 100 := hok.1 14 (0, 100) rfl
  have b15 : 0 ≤ r 15 ∧ r 15 ≤ 1 := hok.1 15 (0, 1) rfl
  have b16 : (-2147483648) ≤ r 16 ∧ r 16 ≤ 2147483647 := hok.1 16 ((-2147483648), 2147483647) rfl
  have b17 : 0 ≤ r 17 ∧ r 17 ≤ 100 := hok.1 17 (0, 100) rfl
  have b18 : (-2147483648) ≤ r 18 ∧ r 18 ≤ 0 := hok.1 18 ((-2147483648), 0) rfl
  obtain ⟨hG, hgi⟩ := hG
  have hG : True := hG
  have hh : g = gi := hh
  subst hh
  refine yt_dalt (by decide) (by decide) ?_
  rw [show xk_40.2.1.2.1.1.length = 18 from rfl]
  show ((0 : Int) + (-1)) = yq_cr ((1 * r 0 + 0) + 0) ((1 * r 1 + 0) + 0) ((1 * r 2 + 0) + 0) ((1 * r 3 + 0) + 0) ((1 * r 4 + 0) + 0) (yq_at ((1 * r 0 + 0) + 0) ((1 * ((1 * r 6 + 0) + 0) + 0) + 0) ((1 * ((1 * r 9 + 0) + 0) + 0) + 0) ((1 * ((1 * r 12 + 0) + 0) + 0) + 0) ((1 * ((1 * r 15 + 0) + 0) + 0) + 0)) (yq_at ((1 * r 2 + 0) + 0) ((1 * ((1 * r 6 + 0) + 0) + 0) + 0) ((1 * ((1 * r 9 + 0) + 0) + 0) + 0) ((1 * ((1 * r 12 + 0) + 0) + 0) + 0) ((1 * ((1 * r 15 + 0) + 0) + 0) + 0)) (yq_at ((1 * r 0 + 0) + 0) ((1 * ((1 * r 8 + 0) + 0) + 0) + 0) ((1 * ((1 * r 11 + 0) + 0) + 0) + 0) ((1 * ((1 * r 14 + 0) + 0) + 0) + 0) ((1 * ((1 * r 17 + 0) + 0) + 0) + 0)) (yq_at ((1 * r 2 + 0) + 0) ((1 * ((1 * r 8 + 0) + 0) + 0) + 0) ((1 * ((1 * r 11 + 0) + 0) + 0) + 0) ((1 * ((1 * r 14 + 0) + 0) + 0) + 0) ((1 * ((1 * r 17 + 0) + 0) + 0) + 0)) ∧ (g 3) = yq_xc ((1 * r 0 + 0) + 0) ((1 * r 1 + 0) + 0) ((1 * r 2 + 0) + 0) ((1 * r 3 + 0) + 0) ((1 * r 4 + 0) + 0) 0 (yq_at ((1 * r 0 + 0) + 0) ((1 * ((1 * r 6 + 0) + 0) + 0) + 0) ((1 * ((1 * r 9 + 0) + 0) + 0) + 0) ((1 * ((1 * r 12 + 0) + 0) + 0) + 0) ((1 * ((1 * r 15 + 0) + 0) + 0) + 0)) ((1 * ((1 * r 6 + 0) + 0) + 0) + 0) (yq_at ((1 * r 0 + 0) + 0) ((1 * ((1 * r 8 + 0) + 0) + 0) + 0) ((1 * ((1 * r 11 + 0) + 0) + 0) + 0) ((1 * ((1 * r 14 + 0) + 0) + 0) + 0) ((1 * ((1 * r 17 + 0) + 0) + 0) + 0)) ((1 * ((1 * r 8 + 0) + 0) + 0) + 0) ((1 * ((1 * r 7 + 0) + 0) + 0) + 0) (yq_fat ((1 * r 0 + 0) + 0) (g0 3) (g0 5) (g0 7) (g0 9)) (g0 3) ∧ (g 5) = yq_xc ((1 * r 0 + 0) + 0) ((1 * r 1 + 0) + 0) ((1 * r 2 + 0) + 0) ((1 * r 3 + 0) + 0) ((1 * r 4 + 0) + 0) 1 (yq_at ((1 * r 0 + 0) + 0) ((1 * ((1 * r 6 + 0) + 0) + 0) + 0) ((1 * ((1 * r 9 + 0) + 0) + 0) + 0) ((1 * ((1 * r 12 + 0) + 0) + 0) + 0) ((1 * ((1 * r 15 + 0) + 0) + 0) + 0)) ((1 * ((1 * r 9 + 0) + 0) + 0) + 0) (yq_at ((1 * r 0 + 0) + 0) ((1 * ((1 * r 8 + 0) + 0) + 0) + 0) ((1 * ((1 * r 11 + 0) + 0) + 0) + 0) ((1 * ((1 * r 14 + 0) + 0) + 0) + 0) ((1 * ((1 * r 17 + 0) + 0) + 0) + 0)) ((1 * ((1 * r 11 + 0) + 0) + 0) + 0) ((1 * ((1 * r 10 + 0) + 0) + 0) + 0) (yq_fat ((1 * r 0 + 0) + 0) (g0 3) (g0 5) (g0 7) (g0 9)) (g0 5) ∧ (g 7) = yq_xc ((1 * r 0 + 0) + 0) ((1 * r 1 + 0) + 0) ((1 * r 2 + 0) + 0) ((1 * r 3 + 0) + 0) ((1 * r 4 + 0) + 0) 2 (yq_at ((1 * r 0 + 0) + 0) ((1 * ((1 * r 6 + 0) + 0) + 0) + 0) ((1 * ((1 * r 9 + 0) + 0) + 0) + 0) ((1 * ((1 * r 12 + 0) + 0) + 0) + 0) ((1 * ((1 * r 15 + 0) + 0) + 0) + 0)) ((1 * ((1 * r 12 + 0) + 0) + 0) + 0) (yq_at ((1 * r 0 + 0) + 0) ((1 * ((1 * r 8 + 0) + 0) + 0) + 0) ((1 * ((1 * r 11 + 0) + 0) + 0) + 0) ((1 * ((1 * r 14 + 0) + 0) + 0) + 0) ((1 * ((1 * r 17 + 0) + 0) + 0) + 0)) ((1 * ((1 * r 14 + 0) + 0) + 0) + 0) ((1 * ((1 * r 13 + 0) + 0) + 0) + 0) (yq_fat ((1 * r 0 + 0) + 0) (g0 3) (g0 5) (g0 7) (g0 9)) (g0 7) ∧ (g 9) = yq_xc ((1 * r 0 + 0) + 0) ((1 * r 1 + 0) + 0) ((1 * r 2 + 0) + 0) ((1 * r 3 + 0) + 0) ((1 * r 4 + 0) + 0) 3 (yq_at ((1 * r 0 + 0) + 0) ((1 * ((1 * r 6 + 0) + 0) + 0) + 0) ((1 * ((1 * r 9 + 0) + 0) + 0) + 0) ((1 * ((1 * r 12 + 0) + 0) + 0) + 0) ((1 * ((1 * r 15 + 0) + 0) + 0) + 0)) ((1 * ((1 * r 15 + 0) + 0) + 0) + 0) (yq_at ((1 * r 0 + 0) + 0) ((1 * ((1 * r 8 + 0) + 0) + 0) + 0) ((1 * ((1 * r 11 + 0) + 0) + 0) + 0) ((1 * ((1 * r 14 + 0) + 0) + 0) + 0) ((1 * ((1 * r 17 + 0) + 0) + 0) + 0)) ((1 * ((1 * r 17 + 0) + 0) + 0) + 0) ((1 * ((1 * r 16 + 0) + 0) + 0) + 0) (yq_fat ((1 * r 0 + 0) + 0) (g0 3) (g0 5) (g0 7) (g0 9)) (g0 9)
  try simp only [Int.one_mul, Int.zero_add, Int.add_zero]
  refine ⟨?_, ?_, ?_, ?_, ?_⟩
  · unfold yq_cr
    rw [if_neg (by omega)] <;> omega
  · unfold yq_xc
    rw [if_neg (by omega)]
    rw [hgi]
  · unfold yq_xc
    rw [if_neg (by omega)]
    rw [hgi]
  · unfold yq_xc
    rw [if_neg (by omega)]
    rw [hgi]
  · unfold yq_xc
    rw [if_neg (by omega)]
    rw [hgi]
theorem xw_40_0_2 : yt_hold xT_40 xk_40 xq_40.2.2.1 xG_40 xP_40 xU_40 18 xk_40.2.1.2.2.2 (fun g0 r g => xR_40 r g0 ∧ g = g0) (1000, ([(0, 3), ((-2147483648), 2147483647), ((-2147483648), (-1)), ((-2147483648), 2147483647), ((-2147483648), 2147483647), ((-2147483648), 2147483647), (0, 1), ((-2147483648), 2147483647), (0, 100), (0, 1), ((-2147483648), 2147483647), (0, 100), (0, 1), ((-2147483648), 2147483647), (0, 100), (0, 1), ((-2147483648), 2147483647), (0, 100), ((-2147483648), 0)], []), [([], (-1)), ([(18, 1)], 0)], [], []) := by
  intro g0 r gi g hok hh hars hfr hG
  have b0 : 0 ≤ r 0 ∧ r 0 ≤ 3 := hok.1 0 (0, 3) rfl
  have b1 : (-2147483648) ≤ r 1 ∧ r 1 ≤ 2147483647 := hok.1 1 ((-2147483648), 2147483647) rfl
  have b2 : (-2147483648) ≤ r 2 ∧ r 2 ≤ (-1) := hok.1 2 ((-2147483648), (-1)) rfl
  have b3 : (-2147483648) ≤ r 3 ∧ r 3 ≤ 2147483647 := hok.1 3 ((-2147483648), 2147483647) rfl
  have b4 : (-2147483648) ≤ r 4 ∧ r 4 ≤ 2147483647 := hok.1 4 ((-2147483648), 2147483647) rfl
  have b5 : (-2147483648) ≤ r 5 ∧ r 5 ≤ 2147483647 := hok.1 5 ((-2147483648), 2147483647) rfl
  have b6 : 0 ≤ r 6 ∧ r 6 ≤ 1 := hok.1 6 (0, 1) rfl
  have b7 : (-2147483648) ≤ r 7 ∧ r 7 ≤ 2147483647 := hok.1 7 ((-2147483648), 2147483647) rfl
  have b8 : 0 ≤ r 8 ∧ r 8 ≤ 100 := hok.1 8 (0, 100) rfl
  have b9 : 0 ≤ r 9 ∧ r 9 ≤ 1 := hok.1 9 (0, 1) rfl
  have b10 : (-2147483648) ≤ r 10 ∧ r 10 ≤ 2147483647 := hok.1 10 ((-2147483648), 2147483647) rfl
  have b11 : 0 ≤ r 11 ∧ r 11 ≤ 100 := hok.1 11 (0, 100) rfl
  have b12 : 0 ≤ r 12 ∧ r 12 ≤ 1 := hok.1 12 (0, 1) rfl
  have b13 : (-2147483648) ≤ r 13 ∧ r 13 ≤ 2147483647 := hok.1 13 ((-2147483648), 2147483647) rfl
  have b14 : 0 ≤ r 14 ∧ r 14 ≤ 100 := hok.1 14 (0, 100) rfl
  have b15 : 0 ≤ r 15 ∧ r 15 ≤ 1 := hok.1 15 (0, 1) rfl
  have b16 : (-2147483648) ≤ r 16 ∧ r 16 ≤ 2147483647 := hok.1 16 ((-2147483648), 2147483647) rfl
  have b17 : 0 ≤ r 17 ∧ r 17 ≤ 100 := hok.1 17 (0, 100) rfl
  have b18 : (-2147483648) ≤ r 18 ∧ r 18 ≤ 0 := hok.1 18 ((-2147483648), 0) rfl
  obtain ⟨hG, hgi⟩ := hG
  have hG : True := hG
  have hh : g = gi := hh
  subst hh
  refine yt_dalt (by decide) (by decide) ?_
  rw [show xk_40.2.1.2.1.1.length = 18 from rfl]
  show ((0 : Int) + (-1)) = yq_cr ((1 * r 0 + 0) + 0) ((1 * r 1 + 0) + 0) ((1 * r 2 + 0) + 0) ((1 * r 3 + 0) + 0) ((1 * r 4 + 0) + 0) (yq_at ((1 * r 0 + 0) + 0) ((1 * ((1 * r 6 + 0) + 0) + 0) + 0) ((1 * ((1 * r 9 + 0) + 0) + 0) + 0) ((1 * ((1 * r 12 + 0) + 0) + 0) + 0) ((1 * ((1 * r 15 + 0) + 0) + 0) + 0)) (yq_at ((1 * r 2 + 0) + 0) ((1 * ((1 * r 6 + 0) + 0) + 0) + 0) ((1 * ((1 * r 9 + 0) + 0) + 0) + 0) ((1 * ((1 * r 12 + 0) + 0) + 0) + 0) ((1 * ((1 * r 15 + 0) + 0) + 0) + 0)) (yq_at ((1 * r 0 + 0) + 0) ((1 * ((1 * r 8 + 0) + 0) + 0) + 0) ((1 * ((1 * r 11 + 0) + 0) + 0) + 0) ((1 * ((1 * r 14 + 0) + 0) + 0) + 0) ((1 * ((1 * r 17 + 0) + 0) + 0) + 0)) (yq_at ((1 * r 2 + 0) + 0) ((1 * ((1 * r 8 + 0) + 0) + 0) + 0) ((1 * ((1 * r 11 + 0) + 0) + 0) + 0) ((1 * ((1 * r 14 + 0) + 0) + 0) + 0) ((1 * ((1 * r 17 + 0) + 0) + 0) + 0)) ∧ (g 3) = yq_xc ((1 * r 0 + 0) + 0) ((1 * r 1 + 0) + 0) ((1 * r 2 + 0) + 0) ((1 * r 3 + 0) + 0) ((1 * r 4 + 0) + 0) 0 (yq_at ((1 * r 0 + 0) + 0) ((1 * ((1 * r 6 + 0) + 0) + 0) + 0) ((1 * ((1 * r 9 + 0) + 0) + 0) + 0) ((1 * ((1 * r 12 + 0) + 0) + 0) + 0) ((1 * ((1 * r 15 + 0) + 0) + 0) + 0)) ((1 * ((1 * r 6 + 0) + 0) + 0) + 0) (yq_at ((1 * r 0 + 0) + 0) ((1 * ((1 * r 8 + 0) + 0) + 0) + 0) ((1 * ((1 * r 11 + 0) + 0) + 0) + 0) ((1 * ((1 * r 14 + 0) + 0) + 0) + 0) ((1 * ((1 * r 17 + 0) + 0) + 0) + 0)) ((1 * ((1 * r 8 + 0) + 0) + 0) + 0) ((1 * ((1 * r 7 + 0) + 0) + 0) + 0) (yq_fat ((1 * r 0 + 0) + 0) (g0 3) (g0 5) (g0 7) (g0 9)) (g0 3) ∧ (g 5) = yq_xc ((1 * r 0 + 0) + 0) ((1 * r 1 + 0) + 0) ((1 * r 2 + 0) + 0) ((1 * r 3 + 0) + 0) ((1 * r 4 + 0) + 0) 1 (yq_at ((1 * r 0 + 0) + 0) ((1 * ((1 * r 6 + 0) + 0) + 0) + 0) ((1 * ((1 * r 9 + 0) + 0) + 0) + 0) ((1 * ((1 * r 12 + 0) + 0) + 0) + 0) ((1 * ((1 * r 15 + 0) + 0) + 0) + 0)) ((1 * ((1 * r 9 + 0) + 0) + 0) + 0) (yq_at ((1 * r 0 + 0) + 0) ((1 * ((1 * r 8 + 0) + 0) + 0) + 0) ((1 * ((1 * r 11 + 0) + 0) + 0) + 0) ((1 * ((1 * r 14 + 0) + 0) + 0) + 0) ((1 * ((1 * r 17 + 0) + 0) + 0) + 0)) ((1 * ((1 * r 11 + 0) + 0) + 0) + 0) ((1 * ((1 * r 10 + 0) + 0) + 0) + 0) (yq_fat ((1 * r 0 + 0) + 0) (g0 3) (g0 5) (g0 7) (g0 9)) (g0 5) ∧ (g 7) = yq_xc ((1 * r 0 + 0) + 0) ((1 * r 1 + 0) + 0) ((1 * r 2 + 0) + 0) ((1 * r 3 + 0) + 0) ((1 * r 4 + 0) + 0) 2 (yq_at ((1 * r 0 + 0) + 0) ((1 * ((1 * r 6 + 0) + 0) + 0) + 0) ((1 * ((1 * r 9 + 0) + 0) + 0) + 0) ((1 * ((1 * r 12 + 0) + 0) + 0) + 0) ((1 * ((1 * r 15 + 0) + 0) + 0) + 0)) ((1 * ((1 * r 12 + 0) + 0) + 0) + 0) (yq_at ((1 * r 0 + 0) + 0) ((1 * ((1 * r 8 + 0) + 0) + 0) + 0) ((1 * ((1 * r 11 + 0) + 0) + 0) + 0) ((1 * ((1 * r 14 + 0) + 0) + 0) + 0) ((1 * ((1 * r 17 + 0) + 0) + 0) + 0)) ((1 * ((1 * r 14 + 0) + 0) + 0) + 0) ((1 * ((1 * r 13 + 0) + 0) + 0) + 0) (yq_fat ((1 * r 0 + 0) + 0) (g0 3) (g0 5) (g0 7) (g0 9)) (g0 7) ∧ (g 9) = yq_xc ((1 * r 0 + 0) + 0) ((1 * r 1 + 0) + 0) ((1 * r 2 + 0) + 0) ((1 * r 3 + 0) + 0) ((1 * r 4 + 0) + 0) 3 (yq_at ((1 * r 0 + 0) + 0) ((1 * ((1 * r 6 + 0) + 0) + 0) + 0) ((1 * ((1 * r 9 + 0) + 0) + 0) + 0) ((1 * ((1 * r 12 + 0) + 0) + 0) + 0) ((1 * ((1 * r 15 + 0) + 0) + 0) + 0)) ((1 * ((1 * r 15 + 0) + 0) + 0) + 0) (yq_at ((1 * r 0 + 0) + 0) ((1 * ((1 * r 8 + 0) + 0) + 0) + 0) ((1 * ((1 * r 11 + 0) + 0) + 0) + 0) ((1 * ((1 * r 14 + 0) + 0) + 0) + 0) ((1 * ((1 * r 17 + 0) + 0) + 0) + 0)) ((1 * ((1 * r 17 + 0) + 0) + 0) + 0) ((1 * ((1 * r 16 + 0) + 0) + 0) + 0) (yq_fat ((1 * r 0 + 0) + 0) (g0 3) (g0 5) (g0 7) (g0 9)) (g0 9)
  try simp only [Int.one_mul, Int.zero_add, Int.add_zero]
  refine ⟨?_, ?_, ?_, ?_, ?_⟩
  · unfold yq_cr
    rw [if_neg (by omega)] <;> omega
  · unfold yq_xc
    rw [if_neg (by omega)]
    rw [hgi]
  · unfold yq_xc
    rw [if_neg (by omega)]
    rw [hgi]
  · unfold yq_xc
    rw [if_neg (by omega)]
    rw [hgi]
  · unfold yq_xc
    rw [if_neg (by omega)]
    rw [hgi]
theorem xw_40_0_3 : yt_hold xT_40 xk_40 xq_40.2.2.1 xG_40 xP_40 xU_40 18 xk_40.2.1.2.2.2 (fun g0 r g => xR_40 r g0 ∧ g = g0) (1000, ([(0, 3), ((-2147483648), 2147483647), (4, 2147483647), ((-2147483648), 2147483647), ((-2147483648), 2147483647), ((-2147483648), 2147483647), (0, 1), ((-2147483648), 2147483647), (0, 100), (0, 1), ((-2147483648), 2147483647), (0, 100), (0, 1), ((-2147483648), 2147483647), (0, 100), (0, 1), ((-2147483648), 2147483647), (0, 100), ((-2147483648), 0)], []), [([], (-1)), ([(18, 1)], 0)], [], []) := by
  intro g0 r gi g hok hh hars hfr hG
  have b0 : 0 ≤ r 0 ∧ r 0 ≤ 3 := hok.1 0 (0, 3) rfl
  have b1 : (-2147483648) ≤ r 1 ∧ r 1 ≤ 2147483647 := hok.1 1 ((-2147483648), 2147483647) rfl
  have b2 : 4 ≤ r 2 ∧ r 2 ≤ 2147483647 := hok.1 2 (4, 2147483647) rfl
  have b3 : (-2147483648) ≤ r 3 ∧ r 3 ≤ 2147483647 := hok.1 3 ((-2147483648), 2147483647) rfl
  have b4 : (-2147483648) ≤ r 4 ∧ r 4 ≤ 2147483647 := hok.1 4 ((-2147483648), 2147483647) rfl
  have b5 : (-2147483648) ≤ r 5 ∧ r 5 ≤ 2147483647 := hok.1 5 ((-2147483648), 2147483647) rfl
  have b6 : 0 ≤ r 6 ∧ r 6 ≤ 1 := hok.1 6 (0, 1) rfl
  have b7 : (-2147483648) ≤ r 7 ∧ r 7 ≤ 2147483647 := hok.1 7 ((-2147483648), 2147483647) rfl
  have b8 : 0 ≤ r 8 ∧ r 8 ≤ 100 := hok.1 8 (0, 100) rfl
  have b9 : 0 ≤ r 9 ∧ r 9 ≤ 1 := hok.1 9 (0, 1) rfl
  have b10 : (-2147483648) ≤ r 10 ∧ r 10 ≤ 2147483647 := hok.1 10 ((-2147483648), 2147483647) rfl
  have b11 : 0 ≤ r 11 ∧ r 11 ≤ 100 := hok.1 11 (0, 100) rfl
  have b12 : 0 ≤ r 12 ∧ r 12 ≤ 1 := hok.1 12 (0, 1) rfl
  have b13 : (-2147483648) ≤ r 13 ∧ r 13 ≤ 2147483647 := hok.1 13 ((-2147483648), 2147483647) rfl
  have b14 : 0 ≤ r 14 ∧ r 14 ≤ 100 := hok.1 14 (0, 100) rfl
  have b15 : 0 ≤ r 15 ∧ r 15 ≤ 1 := hok.1 15 (0, 1) rfl
  have b16 : (-2147483648) ≤ r 16 ∧ r 16 ≤ 2147483647 := hok.1 16 ((-2147483648), 2147483647) rfl
  have b17 : 0 ≤ r 17 ∧ r 17 ≤ 100 := hok.1 17 (0, 100) rfl
  have b18 : (-2147483648) ≤ r 18 ∧ r 18 ≤ 0 := hok.1 18 ((-2147483648), 0) rfl
  obtain ⟨hG, hgi⟩ := hG
  have hG : True := hG
  have hh : g = gi := hh
  subst hh
  refine yt_dalt (by decide) (by decide) ?_
  rw [show xk_40.2.1.2.1.1.length = 18 from rfl]
  show ((0 : Int) + (-1)) = yq_cr ((1 * r 0 + 0) + 0) ((1 * r 1 + 0) + 0) ((1 * r 2 + 0) + 0) ((1 * r 3 + 0) + 0) ((1 * r 4 + 0) + 0) (yq_at ((1 * r 0 + 0) + 0) ((1 * ((1 * r 6 + 0) + 0) + 0) + 0) ((1 * ((1 * r 9 + 0) + 0) + 0) + 0) ((1 * ((1 * r 12 + 0) + 0) + 0) + 0) ((1 * ((1 * r 15 + 0) + 0) + 0) + 0)) (yq_at ((1 * r 2 + 0) + 0) ((1 * ((1 * r 6 + 0) + 0) + 0) + 0) ((1 * ((1 * r 9 + 0) + 0) + 0) + 0) ((1 * ((1 * r 12 + 0) + 0) + 0) + 0) ((1 * ((1 * r 15 + 0) + 0) + 0) + 0)) (yq_at ((1 * r 0 + 0) + 0) ((1 * ((1 * r 8 + 0) + 0) + 0) + 0) ((1 * ((1 * r 11 + 0) + 0) + 0) + 0) ((1 * ((1 * r 14 + 0) + 0) + 0) + 0) ((1 * ((1 * r 17 + 0) + 0) + 0) + 0)) (yq_at ((1 * r 2 + 0) + 0) ((1 * ((1 * r 8 + 0) + 0) + 0) + 0) ((1 * ((1 * r 11 + 0) + 0) + 0) + 0) ((1 * ((1 * r 14 + 0) + 0) + 0) + 0) ((1 * ((1 * r 17 + 0) + 0) + 0) + 0)) ∧ (g 3) = yq_xc ((1 * r 0 + 0) + 0) ((1 * r 1 + 0) + 0) ((1 * r 2 + 0) + 0) ((1 * r 3 + 0) + 0) ((1 * r 4 + 0) + 0) 0 (yq_at ((1 * r 0 + 0) + 0) ((1 * ((1 * r 6 + 0) + 0) + 0) + 0) ((1 * ((1 * r 9 + 0) + 0) + 0) + 0) ((1 * ((1 * r 12 + 0) + 0) + 0) + 0) ((1 * ((1 * r 15 + 0) + 0) + 0) + 0)) ((1 * ((1 * r 6 + 0) + 0) + 0) + 0) (yq_at ((1 * r 0 + 0) + 0) ((1 * ((1 * r 8 + 0) + 0) + 0) + 0) ((1 * ((1 * r 11 + 0) + 0) + 0) + 0) ((1 * ((1 * r 14 + 0) + 0) + 0) + 0) ((1 * ((1 * r 17 + 0) + 0) + 0) + 0)) ((1 * ((1 * r 8 + 0) + 0) + 0) + 0) ((1 * ((1 * r 7 + 0) + 0) + 0) + 0) (yq_fat ((1 * r 0 + 0) + 0) (g0 3) (g0 5) (g0 7) (g0 9)) (g0 3) ∧ (g 5) = yq_xc ((1 * r 0 + 0) + 0) ((1 * r 1 + 0) + 0) ((1 * r 2 + 0) + 0) ((1 * r 3 + 0) + 0) ((1 * r 4 + 0) + 0) 1 (yq_at ((1 * r 0 + 0) + 0) ((1 * ((1 * r 6 + 0) + 0) + 0) + 0) ((1 * ((1 * r 9 + 0) + 0) + 0) + 0) ((1 * ((1 * r 12 + 0) + 0) + 0) + 0) ((1 * ((1 * r 15 + 0) + 0) + 0) + 0)) ((1 * ((1 * r 9 + 0) + 0) + 0) + 0) (yq_at ((1 * r 0 + 0) + 0) ((1 * ((1 * r 8 + 0) + 0) + 0) + 0) ((1 * ((1 * r 11 + 0) + 0) + 0) + 0) ((1 * ((1 * r 14 + 0) + 0) + 0) + 0) ((1 * ((1 * r 17 + 0) + 0) + 0) + 0)) ((1 * ((1 * r 11 + 0) + 0) + 0) + 0) ((1 * ((1 * r 10 + 0) + 0) + 0) + 0) (yq_fat ((1 * r 0 + 0) + 0) (g0 3) (g0 5) (g0 7) (g0 9)) (g0 5) ∧ (g 7) = yq_xc ((1 * r 0 + 0) + 0) ((1 * r 1 + 0) + 0) ((1 * r 2 + 0) + 0) ((1 * r 3 + 0) + 0) ((1 * r 4 + 0) + 0) 2 (yq_at ((1 * r 0 + 0) + 0) ((1 * ((1 * r 6 + 0) + 0) + 0) + 0) ((1 * ((1 * r 9 + 0) + 0) + 0) + 0) ((1 * ((1 * r 12 + 0) + 0) + 0) + 0) ((1 * ((1 * r 15 + 0) + 0) + 0) + 0)) ((1 * ((1 * r 12 + 0) + 0) + 0) + 0) (yq_at ((1 * r 0 + 0) + 0) ((1 * ((1 * r 8 + 0) + 0) + 0) + 0) ((1 * ((1 * r 11 + 0) + 0) + 0) + 0) ((1 * ((1 * r 14 + 0) + 0) + 0) + 0) ((1 * ((1 * r 17 + 0) + 0) + 0) + 0)) ((1 * ((1 * r 14 + 0) + 0) + 0) + 0) ((1 * ((1 * r 13 + 0) + 0) + 0) + 0) (yq_fat ((1 * r 0 + 0) + 0) (g0 3) (g0 5) (g0 7) (g0 9)) (g0 7) ∧ (g 9) = yq_xc ((1 * r 0 + 0) + 0) ((1 * r 1 + 0) + 0) ((1 * r 2 + 0) + 0) ((1 * r 3 + 0) + 0) ((1 * r 4 + 0) + 0) 3 (yq_at ((1 * r 0 + 0) + 0) ((1 * ((1 * r 6 + 0) + 0) + 0) + 0) ((1 * ((1 * r 9 + 0) + 0) + 0) + 0) ((1 * ((1 * r 12 + 0) + 0) + 0) + 0) ((1 * ((1 * r 15 + 0) + 0) + 0) + 0)) ((1 * ((1 * r 15 + 0) + 0) + 0) + 0) (yq_at ((1 * r 0 + 0) + 0) ((1 * ((1 * r 8 + 0) + 0) + 0) + 0) ((1 * ((1 * r 11 + 0) + 0) + 0) + 0) ((1 * ((1 * r 14 + 0) + 0) + 0) + 0) ((1 * ((1 * r 17 + 0) + 0) + 0) + 0)) ((1 * ((1 * r 17 + 0) + 0) + 0) + 0) ((1 * ((1 * r 16 + 0) + 0) + 0) + 0) (yq_fat ((1 * r 0 + 0) + 0) (g0 3) (g0 5) (g0 7) (g0 9)) (g0 9)
  try simp only [Int.one_mul, Int.zero_add, Int.add_zero]
  refine ⟨?_, ?_, ?_, ?_, ?_⟩
  · unfold yq_cr
    rw [if_neg (by omega)] <;> omega
  · unfold yq_xc
    rw [if_neg (by omega)]
    rw [hgi]
  · unfold yq_xc
    rw [if_neg (by omega)]
    rw [hgi]
  · unfold yq_xc
    rw [if_neg (by omega)]
    rw [hgi]
  · unfold yq_xc
    rw [if_neg (by omega)]
    rw [hgi]
theorem xw_40_0_4 : yt_hold xT_40 xk_40 xq_40.2.2.1 xG_40 xP_40 xU_40 18 xk_40.2.1.2.2.2 (fun g0 r g => xR_40 r g0 ∧ g = g0) (1000, ([(0, 0), ((-2147483648), 2147483647), (0, 3), ((-2147483648), 2147483647), (0, 2147483647), ((-2147483648), 2147483647), (0, 0), ((-2147483648), 2147483647), (0, 100), (0, 1), ((-2147483648), 2147483647), (0, 100), (0, 1), ((-2147483648), 2147483647), (0, 100), (0, 1), ((-2147483648), 2147483647), (0, 100), ((-2147483648), 0)], []), [([], (-2)), ([(18, 1)], 0)], [], []) := by
  intro g0 r gi g hok hh hars hfr hG
  have b0 : 0 ≤ r 0 ∧ r 0 ≤ 0 := hok.1 0 (0, 0) rfl
  have b1 : (-2147483648) ≤ r 1 ∧ r 1 ≤ 2147483647 := hok.1 1 ((-2147483648), 2147483647) rfl
  have b2 : 0 ≤ r 2 ∧ r 2 ≤ 3 := hok.1 2 (0, 3) rfl
  have b3 : (-2147483648) ≤ r 3 ∧ r 3 ≤ 2147483647 := hok.1 3 ((-2147483648), 2147483647) rfl
  have b4 : 0 ≤ r 4 ∧ r 4 ≤ 2147483647 := hok.1 4 (0, 2147483647) rfl
  have b5 : (-2147483648) ≤ r 5 ∧ r 5 ≤ 2147483647 := hok.1 5 ((-2147483648), 2147483647) rfl
  have b6 : 0 ≤ r 6 ∧ r 6 ≤ 0 := hok.1 6 (0, 0) rfl
  have b7 : (-2147483648) ≤ r 7 ∧ r 7 ≤ 2147483647 := hok.1 7 ((-2147483648), 2147483647) rfl
  have b8 : 0 ≤ r 8 ∧ r 8 ≤ 100 := hok.1 8 (0, 100) rfl
  have b9 : 0 ≤ r 9 ∧ r 9 ≤ 1 := hok.1 9 (0, 1) rfl
  have b10 : (-2147483648) ≤ r 10 ∧ r 10 ≤ 2147483647 := hok.1 10 ((-2147483648), 2147483647) rfl
  have b11 : 0 ≤ r 11 ∧ r 11 ≤ 100 := hok.1 11 (0, 100) rfl
  have b12 : 0 ≤ r 12 ∧ r 12 ≤ 1 := hok.1 12 (0, 1) rfl
  have b13 : (-2147483648) ≤ r 13 ∧ r 13 ≤ 2147483647 := hok.1 13 ((-2147483648), 2147483647) rfl
  have b14 : 0 ≤ r 14 ∧ r 14 ≤ 100 := hok.1 14 (0, 100) rfl
  have b15 : 0 ≤ r 15 ∧ r 15 ≤ 1 := hok.1 15 (0, 1) rfl
  have b16 : (-2147483648) ≤ r 16 ∧ r 16 ≤ 2147483647 := hok.1 16 ((-2147483648), 2147483647) rfl
  have b17 : 0 ≤ r 17 ∧ r 17 ≤ 100 := hok.1 17 (0, 100) rfl
  have b18 : (-2147483648) ≤ r 18 ∧ r 18 ≤ 0 := hok.1 18 ((-2147483648), 0) rfl
  obtain ⟨hG, hgi⟩ := hG
  have hG : True := hG
  have hh : g = gi := hh
  subst hh
  refine yt_dalt (by decide) (by decide) ?_
  rw [show xk_40.2.1.2.1.1.length = 18 from rfl]
  show ((0 : Int) + (-2)) = yq_cr ((1 * r 0 + 0) + 0) ((1 * r 1 + 0) + 0) ((1 * r 2 + 0) + 0) ((1 * r 3 + 0) + 0) ((1 * r 4 + 0) + 0) (yq_at ((1 * r 0 + 0) + 0) ((1 * ((1 * r 6 + 0) + 0) + 0) + 0) ((1 * ((1 * r 9 + 0) + 0) + 0) + 0) ((1 * ((1 * r 12 + 0) + 0) + 0) + 0) ((1 * ((1 * r 15 + 0) + 0) + 0) + 0)) (yq_at ((1 * r 2 + 0) + 0) ((1 * ((1 * r 6 + 0) + 0) + 0) + 0) ((1 * ((1 * r 9 + 0) + 0) + 0) + 0) ((1 * ((1 * r 12 + 0) + 0) + 0) + 0) ((1 * ((1 * r 15 + 0) + 0) + 0) + 0)) (yq_at ((1 * r 0 + 0) + 0) ((1 * ((1 * r 8 + 0) + 0) + 0) + 0) ((1 * ((1 * r 11 + 0) + 0) + 0) + 0) ((1 * ((1 * r 14 + 0) + 0) + 0) + 0) ((1 * ((1 * r 17 + 0) + 0) + 0) + 0)) (yq_at ((1 * r 2 + 0) + 0) ((1 * ((1 * r 8 + 0) + 0) + 0) + 0) ((1 * ((1 * r 11 + 0) + 0) + 0) + 0) ((1 * ((1 * r 14 + 0) + 0) + 0) + 0) ((1 * ((1 * r 17 + 0) + 0) + 0) + 0)) ∧ (g 3) = yq_xc ((1 * r 0 + 0) + 0) ((1 * r 1 + 0) + 0) ((1 * r 2 + 0) + 0) ((1 * r 3 + 0) + 0) ((1 * r 4 + 0) + 0) 0 (yq_at ((1 * r 0 + 0) + 0) ((1 * ((1 * r 6 + 0) + 0) + 0) + 0) ((1 * ((1 * r 9 + 0) + 0) + 0) + 0) ((1 * ((1 * r 12 + 0) + 0) + 0) + 0) ((1 * ((1 * r 15 + 0) + 0) + 0) + 0)) ((1 * ((1 * r 6 + 0) + 0) + 0) + 0) (yq_at ((1 * r 0 + 0) + 0) ((1 * ((1 * r 8 + 0) + 0) + 0) + 0) ((1 * ((1 * r 11 + 0) + 0) + 0) + 0) ((1 * ((1 * r 14 + 0) + 0) + 0) + 0) ((1 * ((1 * r 17 + 0) + 0) + 0) + 0)) ((1 * ((1 * r 8 + 0) + 0) + 0) + 0) ((1 * ((1 * r 7 + 0) + 0) + 0) + 0) (yq_fat ((1 * r 0 + 0) + 0) (g0 3) (g0 5) (g0 7) (g0 9)) (g0 3) ∧ (g 5) = yq_xc ((1 * r 0 + 0) + 0) ((1 * r 1 + 0) + 0) ((1 * r 2 + 0) + 0) ((1 * r 3 + 0) + 0) ((1 * r 4 + 0) + 0) 1 (yq_at ((1 * r 0 + 0) + 0) ((1 * ((1 * r 6 + 0) + 0) + 0) + 0) ((1 * ((1 * r 9 + 0) + 0) + 0) + 0) ((1 * ((1 * r 12 + 0) + 0) + 0) + 0) ((1 * ((1 * r 15 + 0) + 0) + 0) + 0)) ((1 * ((1 * r 9 + 0) + 0) + 0) + 0) (yq_at ((1 * r 0 + 0) + 0) ((1 * ((1 * r 8 + 0) + 0) + 0) + 0) ((1 * ((1 * r 11 + 0) + 0) + 0) + 0) ((1 * ((1 * r 14 + 0) + 0) + 0) + 0) ((1 * ((1 * r 17 + 0) + 0) + 0) + 0)) ((1 * ((1 * r 11 + 0) + 0) + 0) + 0) ((1 * ((1 * r 10 + 0) + 0) + 0) + 0) (yq_fat ((1 * r 0 + 0) + 0) (g0 3) (g0 5) (g0 7) (g0 9)) (g0 5) ∧ (g 7) = yq_xc ((1 * r 0 + 0) + 0) ((1 * r 1 + 0) + 0) ((1 * r 2 + 0) + 0) ((1 * r 3 + 0) + 0) ((1 * r 4 + 0) + 0) 2 (yq_at ((1 * r 0 + 0) + 0) ((1 * ((1 * r 6 + 0) + 0) + 0) + 0) ((1 * ((1 * r 9 + 0) + 0) + 0) + 0) ((1 * ((1 * r 12 + 0) + 0) + 0) + 0) ((1 * ((1 * r 15 + 0) + 0) + 0) + 0)) ((1 * ((1 * r 12 + 0) + 0) + 0) + 0) (yq_at ((1 * r 0 + 0) + 0) ((1 * ((1 * r 8 + 0) + 0) + 0) + 0) ((1 * ((1 * r 11 + 0) + 0) + 0) + 0) ((1 * ((1 * r 14 + 0) + 0) + 0) + 0) ((1 * ((1 * r 17 + 0) + 0) + 0) + 0)) ((1 * ((1 * r 14 + 0) + 0) + 0) + 0) ((1 * ((1 * r 13 + 0) + 0) + 0) + 0) (yq_fat ((1 * r 0 + 0) + 0) (g0 3) (g0 5) (g0 7) (g0 9)) (g0 7) ∧ (g 9) = yq_xc ((1 * r 0 + 0) + 0) ((1 * r 1 + 0) + 0) ((1 * r 2 + 0) + 0) ((1 * r 3 + 0) + 0) ((1 * r 4 + 0) + 0) 3 (yq_at ((1 * r 0 + 0) + 0) ((1 * ((1 * r 6 + 0) + 0) + 0) + 0) ((1 * ((1 * r 9 + 0) + 0) + 0) + 0) ((1 * ((1 * r 12 + 0) + 0) + 0) + 0) ((1 * ((1 * r 15 + 0) + 0) + 0) + 0)) ((1 * ((1 * r 15 + 0) + 0) + 0) + 0) (yq_at ((1 * r 0 + 0) + 0) ((1 * ((1 * r 8 + 0) + 0) + 0) + 0) ((1 * ((1 * r 11 + 0) + 0) + 0) + 0) ((1 * ((1 * r 14 + 0) + 0) + 0) + 0) ((1 * ((1 * r 17 + 0) + 0) + 0) + 0)) ((1 * ((1 * r 17 + 0) + 0) + 0) + 0) ((1 * ((1 * r 16 + 0) + 0) + 0) + 0) (yq_fat ((1 * r 0 + 0) + 0) (g0 3) (g0 5) (g0 7) (g0 9)) (g0 9)
  try simp only [Int.one_mul, Int.zero_add, Int.add_zero]
  refine ⟨?_, ?_, ?_, ?_, ?_⟩
  · rw [show r 0 = 0 by omega]
    simp only [yq_at0]
    unfold yq_cr
    rw [if_pos (by omega), if_pos (Or.inl (by omega))] <;> omega
  · rw [show r 0 = 0 by omega]
    simp only [yq_at0, yq_fat0]
    unfold yq_xc
    rw [if_neg (by omega)]
    rw [hgi]
  · rw [show r 0 = 0 by omega]
    simp only [yq_at0, yq_fat0]
    unfold yq_xc
    rw [if_neg (by omega)]
    rw [hgi]
  · rw [show r 0 = 0 by omega]
    simp only [yq_at0, yq_fat0]
    unfold yq_xc
    rw [if_neg (by omega)]
    rw [hgi]
  · rw [show r 0 = 0 by omega]
    simp only [yq_at0, yq_fat0]
    unfold yq_xc
    rw [if_neg (by omega)]
    rw [hgi]
theorem xw_40_0_5 : yt_hold xT_40 xk_40 xq_40.2.2.1 xG_40 xP_40 xU_40 18 xk_40.2.1.2.2.2 (fun g0 r g => xR_40 r g0 ∧ g = g0) (1000, ([(0, 0), ((-2147483648), (-1)), (0, 0), ((-2147483648), 2147483647), (0, 2147483647), ((-2147483648), 2147483647), (1, 1), ((-2147483648), 2147483647), (0, 100), (0, 1), ((-2147483648), 2147483647), (0, 100), (0, 1), ((-2147483648), 2147483647), (0, 100), (0, 1), ((-2147483648), 2147483647), (0, 100), ((-2147483648), 0)], []), [([], (-3)), ([(18, 1)], 0)], [], []) := by
  intro g0 r gi g hok hh hars hfr hG
  have b0 : 0 ≤ r 0 ∧ r 0 ≤ 0 := hok.1 0 (0, 0) rfl
  have b1 : (-2147483648) ≤ r 1 ∧ r 1 ≤ (-1) := hok.1 1 ((-2147483648), (-1)) rfl
  have b2 : 0 ≤ r 2 ∧ r 2 ≤ 0 := hok.1 2 (0, 0) rfl
  have b3 : (-2147483648) ≤ r 3 ∧ r 3 ≤ 2147483647 := hok.1 3 ((-2147483648), 2147483647) rfl
  have b4 : 0 ≤ r 4 ∧ r 4 ≤ 2147483647 := hok.1 4 (0, 2147483647) rfl
  have b5 : (-2147483648) ≤ r 5 ∧ r 5 ≤ 2147483647 := hok.1 5 ((-2147483648), 2147483647) rfl
  have b6 : 1 ≤ r 6 ∧ r 6 ≤ 1 := hok.1 6 (1, 1) rfl
  have b7 : (-2147483648) ≤ r 7 ∧ r 7 ≤ 2147483647 := hok.1 7 ((-2147483648), 2147483647) rfl
  have b8 : 0 ≤ r 8 ∧ r 8 ≤ 100 := hok.1 8 (0, 100) rfl
  have b9 : 0 ≤ r 9 ∧ r 9 ≤ 1 := hok.1 9 (0, 1) rfl
  have b10 : (-2147483648) ≤ r 10 ∧ r 10 ≤ 2147483647 := hok.1 10 ((-2147483648), 2147483647) rfl
  have b11 : 0 ≤ r 11 ∧ r 11 ≤ 100 := hok.1 11 (0, 100) rfl
  have b12 : 0 ≤ r 12 ∧ r 12 ≤ 1 := hok.1 12 (0, 1) rfl
  have b13 : (-2147483648) ≤ r 13 ∧ r 13 ≤ 2147483647 := hok.1 13 ((-2147483648), 2147483647) rfl
  have b14 : 0 ≤ r 14 ∧ r 14 ≤ 100 := hok.1 14 (0, 100) rfl
  have b15 : 0 ≤ r 15 ∧ r 15 ≤ 1 := hok.1 15 (0, 1) rfl
  have b16 : (-2147483648) ≤ r 16 ∧ r 16 ≤ 2147483647 := hok.1 16 ((-2147483648), 2147483647) rfl
  have b17 : 0 ≤ r 17 ∧ r 17 ≤ 100 := hok.1 17 (0, 100) rfl
  have b18 : (-2147483648) ≤ r 18 ∧ r 18 ≤ 0 := hok.1 18 ((-2147483648), 0) rfl
  obtain ⟨hG, hgi⟩ := hG
  have hG : True := hG
  have hh : g = gi := hh
  subst hh
  refine yt_dalt (by decide) (by decide) ?_
  rw [show xk_40.2.1.2.1.1.length = 18 from rfl]
  show ((0 : Int) + (-3)) = yq_cr ((1 * r 0 + 0) + 0) ((1 * r 1 + 0) + 0) ((1 * r 2 + 0) + 0) ((1 * r 3 + 0) + 0) ((1 * r 4 + 0) + 0) (yq_at ((1 * r 0 + 0) + 0) ((1 * ((1 * r 6 + 0) + 0) + 0) + 0) ((1 * ((1 * r 9 + 0) + 0) + 0) + 0) ((1 * ((1 * r 12 + 0) + 0) + 0) + 0) ((1 * ((1 * r 15 + 0) + 0) + 0) + 0)) (yq_at ((1 * r 2 + 0) + 0) ((1 * ((1 * r 6 + 0) + 0) + 0) + 0) ((1 * ((1 * r 9 + 0) + 0) + 0) + 0) ((1 * ((1 * r 12 + 0) + 0) + 0) + 0) ((1 * ((1 * r 15 + 0) + 0) + 0) + 0)) (yq_at ((1 * r 0 + 0) + 0) ((1 * ((1 * r 8 + 0) + 0) + 0) + 0) ((1 * ((1 * r 11 + 0) + 0) + 0) + 0) ((1 * ((1 * r 14 + 0) + 0) + 0) + 0) ((1 * ((1 * r 17 + 0) + 0) + 0) + 0)) (yq_at ((1 * r 2 + 0) + 0) ((1 * ((1 * r 8 + 0) + 0) + 0) + 0) ((1 * ((1 * r 11 + 0) + 0) + 0) + 0) ((1 * ((1 * r 14 + 0) + 0) + 0) + 0) ((1 * ((1 * r 17 + 0) + 0) + 0) + 0)) ∧ (g 3) = yq_xc ((1 * r 0 + 0) + 0) ((1 * r 1 + 0) + 0) ((1 * r 2 + 0) + 0) ((1 * r 3 + 0) + 0) ((1 * r 4 + 0) + 0) 0 (yq_at ((1 * r 0 + 0) + 0) ((1 * ((1 * r 6 + 0) + 0) + 0) + 0) ((1 * ((1 * r 9 + 0) + 0) + 0) + 0) ((1 * ((1 * r 12 + 0) + 0) + 0) + 0) ((1 * ((1 * r 15 + 0) + 0) + 0) + 0)) ((1 * ((1 * r 6 + 0) + 0) + 0) + 0) (yq_at ((1 * r 0 + 0) + 0) ((1 * ((1 * r 8 + 0) + 0) + 0) + 0) ((1 * ((1 * r 11 + 0) + 0) + 0) + 0) ((1 * ((1 * r 14 + 0) + 0) + 0) + 0) ((1 * ((1 * r 17 + 0) + 0) + 0) + 0)) ((1 * ((1 * r 8 + 0) + 0) + 0) + 0) ((1 * ((1 * r 7 + 0) + 0) + 0) + 0) (yq_fat ((1 * r 0 + 0) + 0) (g0 3) (g0 5) (g0 7) (g0 9)) (g0 3) ∧ (g 5) = yq_xc ((1 * r 0 + 0) + 0) ((1 * r 1 + 0) + 0) ((1 * r 2 + 0) + 0) ((1 * r 3 + 0) + 0) ((1 * r 4 + 0) + 0) 1 (yq_at ((1 * r 0 + 0) + 0) ((1 * ((1 * r 6 + 0) + 0) + 0) + 0) ((1 * ((1 * r 9 + 0) + 0) + 0) + 0) ((1 * ((1 * r 12 + 0) + 0) + 0) + 0) ((1 * ((1 * r 15 + 0) + 0) + 0) + 0)) ((1 * ((1 * r 9 + 0) + 0) + 0) + 0) (yq_at ((1 * r 0 + 0) + 0) ((1 * ((1 * r 8 + 0) + 0) + 0) + 0) ((1 * ((1 * r 11 + 0) + 0) + 0) + 0) ((1 * ((1 * r 14 + 0) + 0) + 0) + 0) ((1 * ((1 * r 17 + 0) + 0) + 0) + 0)) ((1 * ((1 * r 11 + 0) + 0) + 0) + 0) ((1 * ((1 * r 10 + 0) + 0) + 0) + 0) (yq_fat ((1 * r 0 + 0) + 0) (g0 3) (g0 5) (g0 7) (g0 9)) (g0 5) ∧ (g 7) = yq_xc ((1 * r 0 + 0) + 0) ((1 * r 1 + 0) + 0) ((1 * r 2 + 0) + 0) ((1 * r 3 + 0) + 0) ((1 * r 4 + 0) + 0) 2 (yq_at ((1 * r 0 + 0) + 0) ((1 * ((1 * r 6 + 0) + 0) + 0) + 0) ((1 * ((1 * r 9 + 0) + 0) + 0) + 0) ((1 * ((1 * r 12 + 0) + 0) + 0) + 0) ((1 * ((1 * r 15 + 0) + 0) + 0) + 0)) ((1 * ((1 * r 12 + 0) + 0) + 0) + 0) (yq_at ((1 * r 0 + 0) + 0) ((1 * ((1 * r 8 + 0) + 0) + 0) + 0) ((1 * ((1 * r 11 + 0) + 0) + 0) + 0) ((1 * ((1 * r 14 + 0) + 0) + 0) + 0) ((1 * ((1 * r 17 + 0) + 0) + 0) + 0)) ((1 * ((1 * r 14 + 0) + 0) + 0) + 0) ((1 * ((1 * r 13 + 0) + 0) + 0) + 0) (yq_fat ((1 * r 0 + 0) + 0) (g0 3) (g0 5) (g0 7) (g0 9)) (g0 7) ∧ (g 9) = yq_xc ((1 * r 0 + 0) + 0) ((1 * r 1 + 0) + 0) ((1 * r 2 + 0) + 0) ((1 * r 3 + 0) + 0) ((1 * r 4 + 0) + 0) 3 (yq_at ((1 * r 0 + 0) + 0) ((1 * ((1 * r 6 + 0) + 0) + 0) + 0) ((1 * ((1 * r 9 + 0) + 0) + 0) + 0) ((1 * ((1 * r 12 + 0) + 0) + 0) + 0) ((1 * ((1 * r 15 + 0) + 0) + 0) + 0)) ((1 * ((1 * r 15 + 0) + 0) + 0) + 0) (yq_at ((1 * r 0 + 0) + 0) ((1 * ((1 * r 8 + 0) + 0) + 0) + 0) ((1 * ((1 * r 11 + 0) + 0) + 0) + 0) ((1 * ((1 * r 14 + 0) + 0) + 0) + 0) ((1 * ((1 * r 17 + 0) + 0) + 0) + 0)) ((1 * ((1 * r 17 + 0) + 0) + 0) + 0) ((1 * ((1 * r 16 + 0) + 0) + 0) + 0) (yq_fat ((1 * r 0 + 0) + 0) (g0 3) (g0 5) (g0 7) (g0 9)) (g0 9)
  try simp only [Int.one_mul, Int.zero_add, Int.add_zero]
  refine ⟨?_, ?_, ?_, ?_, ?_⟩
  · rw [show r 0 = 0 by omega]
    rw [show r 2 = 0 by omega]
    simp only [yq_at0]
    unfold yq_cr
    repeat' split
    all_goals omega
  · rw [show r 0 = 0 by omega]
    simp only [yq_at0, yq_fat0]
    unfold yq_xc
    rw [if_neg (by omega)]
    rw [hgi]
  · rw [show r 0 = 0 by omega]
    simp only [yq_at0, yq_fat0]
    unfold yq_xc
    rw [if_neg (by omega)]
    rw [hgi]
  · rw [show r 0 = 0 by omega]
    simp only [yq_at0, yq_fat0]
    unfold yq_xc
    rw [if_neg (by omega)]
    rw [hgi]
  · rw [show r 0 = 0 by omega]
    simp only [yq_at0, yq_fat0]
    unfold yq_xc
    rw [if_neg (by omega)]
    rw [hgi]
theorem xw_40_0_6 : yt_hold xT_40 xk_40 xq_40.2.2.1 xG_40 xP_40 xU_40 18 xk_40.2.1.2.2.2 (fun g0 r g => xR_40 r g0 ∧ g = g0) (1000, ([(0, 0), (0, 2147483647), (0, 0), ((-2147483648), 2147483647), (0, 2147483647), ((-2147483648), 2147483647), (1, 1), ((-2147483648), 2147483647), (0, 100), (0, 1), ((-2147483648), 2147483647), (0, 100), (0, 1), ((-2147483648), 2147483647), (0, 100), (0, 1), ((-2147483648), 2147483647), (0, 100), ((-2147483648), 0)], [([(1, 1), (8, (-1)), (4, 1)], (-1))]), [([], (-3)), ([(18, 1)], 0)], [], []) := by
  intro g0 r gi g hok hh hars hfr hG
  have b0 : 0 ≤ r 0 ∧ r 0 ≤ 0 := hok.1 0 (0, 0) rfl
  have b1 : 0 ≤ r 1 ∧ r 1 ≤ 2147483647 := hok.1 1 (0, 2147483647) rfl
  have b2 : 0 ≤ r 2 ∧ r 2 ≤ 0 := hok.1 2 (0, 0) rfl
  have b3 : (-2147483648) ≤ r 3 ∧ r 3 ≤ 2147483647 := hok.1 3 ((-2147483648), 2147483647) rfl
  have b4 : 0 ≤ r 4 ∧ r 4 ≤ 2147483647 := hok.1 4 (0, 2147483647) rfl
  have b5 : (-2147483648) ≤ r 5 ∧ r 5 ≤ 2147483647 := hok.1 5 ((-2147483648), 2147483647) rfl
  have b6 : 1 ≤ r 6 ∧ r 6 ≤ 1 := hok.1 6 (1, 1) rfl
  have b7 : (-2147483648) ≤ r 7 ∧ r 7 ≤ 2147483647 := hok.1 7 ((-2147483648), 2147483647) rfl
  have b8 : 0 ≤ r 8 ∧ r 8 ≤ 100 := hok.1 8 (0, 100) rfl
  have b9 : 0 ≤ r 9 ∧ r 9 ≤ 1 := hok.1 9 (0, 1) rfl
  have b10 : (-2147483648) ≤ r 10 ∧ r 10 ≤ 2147483647 := hok.1 10 ((-2147483648), 2147483647) rfl
  have b11 : 0 ≤ r 11 ∧ r 11 ≤ 100 := hok.1 11 (0, 100) rfl
  have b12 : 0 ≤ r 12 ∧ r 12 ≤ 1 := hok.1 12 (0, 1) rfl
  have b13 : (-2147483648) ≤ r 13 ∧ r 13 ≤ 2147483647 := hok.1 13 ((-2147483648), 2147483647) rfl
  have b14 : 0 ≤ r 14 ∧ r 14 ≤ 100 := hok.1 14 (0, 100) rfl
  have b15 : 0 ≤ r 15 ∧ r 15 ≤ 1 := hok.1 15 (0, 1) rfl
  have b16 : (-2147483648) ≤ r 16 ∧ r 16 ≤ 2147483647 := hok.1 16 ((-2147483648), 2147483647) rfl
  have b17 : 0 ≤ r 17 ∧ r 17 ≤ 100 := hok.1 17 (0, 100) rfl
  have b18 : (-2147483648) ≤ r 18 ∧ r 18 ≤ 0 := hok.1 18 ((-2147483648), 0) rfl
  have f0 : 0 ≤ ((1 * r 1 + ((-1) * r 8 + (1 * r 4 + 0))) + (-1)) := hok.2 _ (List.mem_of_getElem? (i := 0) rfl)
  obtain ⟨hG, hgi⟩ := hG
  have hG : True := hG
  have hh : g = gi := hh
  subst hh
  refine yt_dalt (by decide) (by decide) ?_
  rw [show xk_40.2.1.2.1.1.length = 18 from rfl]
  show ((0 : Int) + (-3)) = yq_cr ((1 * r 0 + 0) + 0) ((1 * r 1 + 0) + 0) ((1 * r 2 + 0) + 0) ((1 * r 3 + 0) + 0) ((1 * r 4 + 0) + 0) (yq_at ((1 * r 0 + 0) + 0) ((1 * ((1 * r 6 + 0) + 0) + 0) + 0) ((1 * ((1 * r 9 + 0) + 0) + 0) + 0) ((1 * ((1 * r 12 + 0) + 0) + 0) + 0) ((1 * ((1 * r 15 + 0) + 0) + 0) + 0)) (yq_at ((1 * r 2 + 0) + 0) ((1 * ((1 * r 6 + 0) + 0) + 0) + 0) ((1 * ((1 * r 9 + 0) + 0) + 0) + 0) ((1 * ((1 * r 12 + 0) + 0) + 0) + 0) ((1 * ((1 * r 15 + 0) + 0) + 0) + 0)) (yq_at ((1 * r 0 + 0) + 0) ((1 * ((1 * r 8 + 0) + 0) + 0) + 0) ((1 * ((1 * r 11 + 0) + 0) + 0) + 0) ((1 * ((1 * r 14 + 0) + 0) + 0) + 0) ((1 * ((1 * r 17 + 0) + 0) + 0) + 0)) (yq_at ((1 * r 2 + 0) + 0) ((1 * ((1 * r 8 + 0) + 0) + 0) + 0) ((1 * ((1 * r 11 + 0) + 0) + 0) + 0) ((1 * ((1 * r 14 + 0) + 0) + 0) + 0) ((1 * ((1 * r 17 + 0) + 0) + 0) + 0)) ∧ (g 3) = yq_xc ((1 * r 0 + 0) + 0) ((1 * r 1 + 0) + 0) ((1 * r 2 + 0) + 0) ((1 * r 3 + 0) + 0) ((1 * r 4 + 0) + 0) 0 (yq_at ((1 * r 0 + 0) + 0) ((1 * ((1 * r 6 + 0) + 0) + 0) + 0) ((1 * ((1 * r 9 + 0) + 0) + 0) + 0) ((1 * ((1 * r 12 + 0) + 0) + 0) + 0) ((1 * ((1 * r 15 + 0) + 0) + 0) + 0)) ((1 * ((1 * r 6 + 0) + 0) + 0) + 0) (yq_at ((1 * r 0 + 0) + 0) ((1 * ((1 * r 8 + 0) + 0) + 0) + 0) ((1 * ((1 * r 11 + 0) + 0) + 0) + 0) ((1 * ((1 * r 14 + 0) + 0) + 0) + 0) ((1 * ((1 * r 17 + 0) + 0) + 0) + 0)) ((1 * ((1 * r 8 + 0) + 0) + 0) + 0) ((1 * ((1 * r 7 + 0) + 0) + 0) + 0) (yq_fat ((1 * r 0 + 0) + 0) (g0 3) (g0 5) (g0 7) (g0 9)) (g0 3) ∧ (g 5) = yq_xc ((1 * r 0 + 0) + 0) ((1 * r 1 + 0) + 0) ((1 * r 2 + 0) + 0) ((1 * r 3 + 0) + 0) ((1 * r 4 + 0) + 0) 1 (yq_at ((1 * r 0 + 0) + 0) ((1 * ((1 * r 6 + 0) + 0) + 0) + 0) ((1 * ((1 * r 9 + 0) + 0) + 0) + 0) ((1 * ((1 * r 12 + 0) + 0) + 0) + 0) ((1 * ((1 * r 15 + 0) + 0) + 0) + 0)) ((1 * ((1 * r 9 + 0) + 0) + 0) + 0) (yq_at ((1 * r 0 + 0) + 0) ((1 * ((1 * r 8 + 0) + 0) + 0) + 0) ((1 * ((1 * r 11 + 0) + 0) + 0) + 0) ((1 * ((1 * r 14 + 0) + 0) + 0) + 0) ((1 * ((1 * r 17 + 0) + 0) + 0) + 0)) ((1 * ((1 * r 11 + 0) + 0) + 0) + 0) ((1 * ((1 * r 10 + 0) + 0) + 0) + 0) (yq_fat ((1 * r 0 + 0) + 0) (g0 3) (g0 5) (g0 7) (g0 9)) (g0 5) ∧ (g 7) = yq_xc ((1 * r 0 + 0) + 0) ((1 * r 1 + 0) + 0) ((1 * r 2 + 0) + 0) ((1 * r 3 + 0) + 0) ((1 * r 4 + 0) + 0) 2 (yq_at ((1 * r 0 + 0) + 0) ((1 * ((1 * r 6 + 0) + 0) + 0) + 0) ((1 * ((1 * r 9 + 0) + 0) + 0) + 0) ((1 * ((1 * r 12 + 0) + 0) + 0) + 0) ((1 * ((1 * r 15 + 0) + 0) + 0) + 0)) ((1 * ((1 * r 12 + 0) + 0) + 0) + 0) (yq_at ((1 * r 0 + 0) + 0) ((1 * ((1 * r 8 + 0) + 0) + 0) + 0) ((1 * ((1 * r 11 + 0) + 0) + 0) + 0) ((1 * ((1 * r 14 + 0) + 0) + 0) + 0) ((1 * ((1 * r 17 + 0) + 0) + 0) + 0)) ((1 * ((1 * r 14 + 0) + 0) + 0) + 0) ((1 * ((1 * r 13 + 0) + 0) + 0) + 0) (yq_fat ((1 * r 0 + 0) + 0) (g0 3) (g0 5) (g0 7) (g0 9)) (g0 7) ∧ (g 9) = yq_xc ((1 * r 0 + 0) + 0) ((1 * r 1 + 0) + 0) ((1 * r 2 + 0) + 0) ((1 * r 3 + 0) + 0) ((1 * r 4 + 0) + 0) 3 (yq_at ((1 * r 0 + 0) + 0) ((1 * ((1 * r 6 + 0) + 0) + 0) + 0) ((1 * ((1 * r 9 + 0) + 0) + 0) + 0) ((1 * ((1 * r 12 + 0) + 0) + 0) + 0) ((1 * ((1 * r 15 + 0) + 0) + 0) + 0)) ((1 * ((1 * r 15 + 0) + 0) + 0) + 0) (yq_at ((1 * r 0 + 0) + 0) ((1 * ((1 * r 8 + 0) + 0) + 0) + 0) ((1 * ((1 * r 11 + 0) + 0) + 0) + 0) ((1 * ((1 * r 14 + 0) + 0) + 0) + 0) ((1 * ((1 * r 17 + 0) + 0) + 0) + 0)) ((1 * ((1 * r 17 + 0) + 0) + 0) + 0) ((1 * ((1 * r 16 + 0) + 0) + 0) + 0) (yq_fat ((1 * r 0 + 0) + 0) (g0 3) (g0 5) (g0 7) (g0 9)) (g0 9)
  try simp only [Int.one_mul, Int.zero_add, Int.add_zero]
  refine ⟨?_, ?_, ?_, ?_, ?_⟩
  · rw [show r 0 = 0 by omega]
    rw [show r 2 = 0 by omega]
    simp only [yq_at0]
    unfold yq_cr
    repeat' split
    all_goals omega
  · rw [show r 0 = 0 by omega]
    simp only [yq_at0, yq_fat0]
    unfold yq_xc
    rw [if_neg (by omega)]
    rw [hgi]
  · rw [show r 0 = 0 by omega]
    simp only [yq_at0, yq_fat0]
    unfold yq_xc
    rw [if_neg (by omega)]
    rw [hgi]
  · rw [show r 0 = 0 by omega]
    simp only [yq_at0, yq_fat0]
    unfold yq_xc
    rw [if_neg (by omega)]
    rw [hgi]
  · rw [show r 0 = 0 by omega]
    simp only [yq_at0, yq_fat0]
    unfold yq_xc
    rw [if_neg (by omega)]
    rw [hgi]
theorem xw_40_0_7 : yt_hold xT_40 xk_40 xq_40.2.2.1 xG_40 xP_40 xU_40 18 xk_40.2.1.2.2.2 (fun g0 r g => xR_40 r g0 ∧ g = g0) (1000, ([(0, 0), (0, 100), (0, 0), ((-2147483648), (-1)), (0, 100), ((-2147483648), 2147483647), (1, 1), ((-2147483648), 2147483647), (0, 100), (0, 1), ((-2147483648), 2147483647), (0, 100), (0, 1), ((-2147483648), 2147483647), (0, 100), (0, 1), ((-2147483648), 2147483647), (0, 100), ((-2147483648), 0)], [([(1, (-1)), (8, 1), (4, (-1))], 0)]), [([], (-3)), ([(18, 1)], 0)], [], []) := by
  intro g0 r gi g hok hh hars hfr hG
  have b0 : 0 ≤ r 0 ∧ r 0 ≤ 0 := hok.1 0 (0, 0) rfl
  have b1 : 0 ≤ r 1 ∧ r 1 ≤ 100 := hok.1 1 (0, 100) rfl
  have b2 : 0 ≤ r 2 ∧ r 2 ≤ 0 := hok.1 2 (0, 0) rfl
  have b3 : (-2147483648) ≤ r 3 ∧ r 3 ≤ (-1) := hok.1 3 ((-2147483648), (-1)) rfl
  have b4 : 0 ≤ r 4 ∧ r 4 ≤ 100 := hok.1 4 (0, 100) rfl
  have b5 : (-2147483648) ≤ r 5 ∧ r 5 ≤ 2147483647 := hok.1 5 ((-2147483648), 2147483647) rfl
  have b6 : 1 ≤ r 6 ∧ r 6 ≤ 1 := hok.1 6 (1, 1) rfl
  have b7 : (-2147483648) ≤ r 7 ∧ r 7 ≤ 2147483647 := hok.1 7 ((-2147483648), 2147483647) rfl
  have b8 : 0 ≤ r 8 ∧ r 8 ≤ 100 := hok.1 8 (0, 100) rfl
  have b9 : 0 ≤ r 9 ∧ r 9 ≤ 1 := hok.1 9 (0, 1) rfl
  have b10 : (-2147483648) ≤ r 10 ∧ r 10 ≤ 2147483647 := hok.1 10 ((-2147483648), 2147483647) rfl
  have b11 : 0 ≤ r 11 ∧ r 11 ≤ 100 := hok.1 11 (0, 100) rfl
  have b12 : 0 ≤ r 12 ∧ r 12 ≤ 1 := hok.1 12 (0, 1) rfl
  have b13 : (-2147483648) ≤ r 13 ∧ r 13 ≤ 2147483647 := hok.1 13 ((-2147483648), 2147483647) rfl
  have b14 : 0 ≤ r 14 ∧ r 14 ≤ 100 := hok.1 14 (0, 100) rfl
  have b15 : 0 ≤ r 15 ∧ r 15 ≤ 1 := hok.1 15 (0, 1) rfl
  have b16 : (-2147483648) ≤ r 16 ∧ r 16 ≤ 2147483647 := hok.1 16 ((-2147483648), 2147483647) rfl
  have b17 : 0 ≤ r 17 ∧ r 17 ≤ 100 := hok.1 17 (0, 100) rfl
  have b18 : (-2147483648) ≤ r 18 ∧ r 18 ≤ 0 := hok.1 18 ((-2147483648), 0) rfl
  have f0 : 0 ≤ (((-1) * r 1 + (1 * r 8 + ((-1) * r 4 + 0))) + 0) := hok.2 _ (List.mem_of_getElem? (i := 0) rfl)
  obtain ⟨hG, hgi⟩ := hG
  have hG : True := hG
  have hh : g = gi := hh
  subst hh
  refine yt_dalt (by decide) (by decide) ?_
  rw [show xk_40.2.1.2.1.1.length = 18 from rfl]
  show ((0 : Int) + (-3)) = yq_cr ((1 * r 0 + 0) + 0) ((1 * r 1 + 0) + 0) ((1 * r 2 + 0) + 0) ((1 * r 3 + 0) + 0) ((1 * r 4 + 0) + 0) (yq_at ((1 * r 0 + 0) + 0) ((1 * ((1 * r 6 + 0) + 0) + 0) + 0) ((1 * ((1 * r 9 + 0) + 0) + 0) + 0) ((1 * ((1 * r 12 + 0) + 0) + 0) + 0) ((1 * ((1 * r 15 + 0) + 0) + 0) + 0)) (yq_at ((1 * r 2 + 0) + 0) ((1 * ((1 * r 6 + 0) + 0) + 0) + 0) ((1 * ((1 * r 9 + 0) + 0) + 0) + 0) ((1 * ((1 * r 12 + 0) + 0) + 0) + 0) ((1 * ((1 * r 15 + 0) + 0) + 0) + 0)) (yq_at ((1 * r 0 + 0) + 0) ((1 * ((1 * r 8 + 0) + 0) + 0) + 0) ((1 * ((1 * r 11 + 0) + 0) + 0) + 0) ((1 * ((1 * r 14 + 0) + 0) + 0) + 0) ((1 * ((1 * r 17 + 0) + 0) + 0) + 0)) (yq_at ((1 * r 2 + 0) + 0) ((1 * ((1 * r 8 + 0) + 0) + 0) + 0) ((1 * ((1 * r 11 + 0) + 0) + 0) + 0) ((1 * ((1 * r 14 + 0) + 0) + 0) + 0) ((1 * ((1 * r 17 + 0) + 0) + 0) + 0)) ∧ (g 3) = yq_xc ((1 * r 0 + 0) + 0) ((1 * r 1 + 0) + 0) ((1 * r 2 + 0) + 0) ((1 * r 3 + 0) + 0) ((1 * r 4 + 0) + 0) 0 (yq_at ((1 * r 0 + 0) + 0) ((1 * ((1 * r 6 + 0) + 0) + 0) + 0) ((1 * ((1 * r 9 + 0) + 0) + 0) + 0) ((1 * ((1 * r 12 + 0) + 0) + 0) + 0) ((1 * ((1 * r 15 + 0) + 0) + 0) + 0)) ((1 * ((1 * r 6 + 0) + 0) + 0) + 0) (yq_at ((1 * r 0 + 0) + 0) ((1 * ((1 * r 8 + 0) + 0) + 0) + 0) ((1 * ((1 * r 11 + 0) + 0) + 0) + 0) ((1 * ((1 * r 14 + 0) + 0) + 0) + 0) ((1 * ((1 * r 17 + 0) + 0) + 0) + 0)) ((1 * ((1 * r 8 + 0) + 0) + 0) + 0) ((1 * ((1 * r 7 + 0) + 0) + 0) + 0) (yq_fat ((1 * r 0 + 0) + 0) (g0 3) (g0 5) (g0 7) (g0 9)) (g0 3) ∧ (g 5) = yq_xc ((1 * r 0 + 0) + 0) ((1 * r 1 + 0) + 0) ((1 * r 2 + 0) + 0) ((1 * r 3 + 0) + 0) ((1 * r 4 + 0) + 0) 1 (yq_at ((1 * r 0 + 0) + 0) ((1 * ((1 * r 6 + 0) + 0) + 0) + 0) ((1 * ((1 * r 9 + 0) + 0) + 0) + 0) ((1 * ((1 * r 12 + 0) + 0) + 0) + 0) ((1 * ((1 * r 15 + 0) + 0) + 0) + 0)) ((1 * ((1 * r 9 + 0) + 0) + 0) + 0) (yq_at ((1 * r 0 + 0) + 0) ((1 * ((1 * r 8 + 0) + 0) + 0) + 0) ((1 * ((1 * r 11 + 0) + 0) + 0) + 0) ((1 * ((1 * r 14 + 0) + 0) + 0) + 0) ((1 * ((1 * r 17 + 0) + 0) + 0) + 0)) ((1 * ((1 * r 11 + 0) + 0) + 0) + 0) ((1 * ((1 * r 10 + 0) + 0) + 0) + 0) (yq_fat ((1 * r 0 + 0) + 0) (g0 3) (g0 5) (g0 7) (g0 9)) (g0 5) ∧ (g 7) = yq_xc ((1 * r 0 + 0) + 0) ((1 * r 1 + 0) + 0) ((1 * r 2 + 0) + 0) ((1 * r 3 + 0) + 0) ((1 * r 4 + 0) + 0) 2 (yq_at ((1 * r 0 + 0) + 0) ((1 * ((1 * r 6 + 0) + 0) + 0) + 0) ((1 * ((1 * r 9 + 0) + 0) + 0) + 0) ((1 * ((1 * r 12 + 0) + 0) + 0) + 0) ((1 * ((1 * r 15 + 0) + 0) + 0) + 0)) ((1 * ((1 * r 12 + 0) + 0) + 0) + 0) (yq_at ((1 * r 0 + 0) + 0) ((1 * ((1 * r 8 + 0) + 0) + 0) + 0) ((1 * ((1 * r 11 + 0) + 0) + 0) + 0) ((1 * ((1 * r 14 + 0) + 0) + 0) + 0) ((1 * ((1 * r 17 + 0) + 0) + 0) + 0)) ((1 * ((1 * r 14 + 0) + 0) + 0) + 0) ((1 * ((1 * r 13 + 0) + 0) + 0) + 0) (yq_fat ((1 * r 0 + 0) + 0) (g0 3) (g0 5) (g0 7) (g0 9)) (g0 7) ∧ (g 9) = yq_xc ((1 * r 0 + 0) + 0) ((1 * r 1 + 0) + 0) ((1 * r 2 + 0) + 0) ((1 * r 3 + 0) + 0) ((1 * r 4 + 0) + 0) 3 (yq_at ((1 * r 0 + 0) + 0) ((1 * ((1 * r 6 + 0) + 0) + 0) + 0) ((1 * ((1 * r 9 + 0) + 0) + 0) + 0) ((1 * ((1 * r 12 + 0) + 0) + 0) + 0) ((1 * ((1 * r 15 + 0) + 0) + 0) + 0)) ((1 * ((1 * r 15 + 0) + 0) + 0) + 0) (yq_at ((1 * r 0 + 0) + 0) ((1 * ((1 * r 8 + 0) + 0) + 0) + 0) ((1 * ((1 * r 11 + 0) + 0) + 0) + 0) ((1 * ((1 * r 14 + 0) + 0) + 0) + 0) ((1 * ((1 * r 17 + 0) + 0) + 0) + 0)) ((1 * ((1 * r 17 + 0) + 0) + 0) + 0) ((1 * ((1 * r 16 + 0) + 0) + 0) + 0) (yq_fat ((1 * r 0 + 0) + 0) (g0 3) (g0 5) (g0 7) (g0 9)) (g0 9)
  try simp only [Int.one_mul, Int.zero_add, Int.add_zero]
  refine ⟨?_, ?_, ?_, ?_, ?_⟩
  · rw [show r 0 = 0 by omega]
    rw [show r 2 = 0 by omega]
    simp only [yq_at0]
    unfold yq_cr
    repeat' split
    all_goals omega
  · rw [show r 0 = 0 by omega]
    simp only [yq_at0, yq_fat0]
    unfold yq_xc
    rw [if_neg (by omega)]
    rw [hgi]
  · rw [show r 0 = 0 by omega]
    simp only [yq_at0, yq_fat0]
    unfold yq_xc
    rw [if_neg (by omega)]
    rw [hgi]
  · rw [show r 0 = 0 by omega]
    simp only [yq_at0, yq_fat0]
    unfold yq_xc
    rw [if_neg (by omega)]
    rw [hgi]
  · rw [show r 0 = 0 by omega]
    simp only [yq_at0, yq_fat0]
    unfold yq_xc
    rw [if_neg (by omega)]
    rw [hgi]
theorem xw_40_0_8 : yt_hold xT_40 xk_40 xq_40.2.2.1 xG_40 xP_40 xU_40 18 xk_40.2.1.2.2.2 (fun g0 r g => xR_40 r g0 ∧ g = g0) (1000, ([(0, 0), (0, 100), (0, 0), (0, 2147483647), (0, 100), ((-2147483648), 2147483647), (1, 1), ((-2147483648), 2147483647), (0, 100), (0, 1), ((-2147483648), 2147483647), (0, 100), (0, 1), ((-2147483648), 2147483647), (0, 100), (0, 1), ((-2147483648), 2147483647), (0, 100), ((-2147483648), 0)], [([(3, 1), (8, (-1)), (4, 1)], (-1)), ([(1, (-1)), (8, 1), (4, (-1))], 0)]), [([], (-3)), ([(18, 1)], 0)], [], []) := by
  intro g0 r gi g hok hh hars hfr hG
  have b0 : 0 ≤ r 0 ∧ r 0 ≤ 0 := hok.1 0 (0, 0) rfl
  have b1 : 0 ≤ r 1 ∧ r 1 ≤ 100 := hok.1 1 (0, 100) rfl
  have b2 : 0 ≤ r 2 ∧ r 2 ≤ 0 := hok.1 2 (0, 0) rfl
  have b3 : 0 ≤ r 3 ∧ r 3 ≤ 2147483647 := hok.1 3 (0, 2147483647) rfl
  have b4 : 0 ≤ r 4 ∧ r 4 ≤ 100 := hok.1 4 (0, 100) rfl
  have b5 : (-2147483648) ≤ r 5 ∧ r 5 ≤ 2147483647 := hok.1 5 ((-2147483648), 2147483647) rfl
  have b6 : 1 ≤ r 6 ∧ r 6 ≤ 1 := hok.1 6 (1, 1) rfl
  have b7 : (-2147483648) ≤ r 7 ∧ r 7 ≤ 2147483647 := hok.1 7 ((-2147483648), 2147483647) rfl
  have b8 : 0 ≤ r 8 ∧ r 8 ≤ 100 := hok.1 8 (0, 100) rfl
  have b9 : 0 ≤ r 9 ∧ r 9 ≤ 1 := hok.1 9 (0, 1) rfl
  have b10 : (-2147483648) ≤ r 10 ∧ r 10 ≤ 2147483647 := hok.1 10 ((-2147483648), 2147483647) rfl
  have b11 : 0 ≤ r 11 ∧ r 11 ≤ 100 := hok.1 11 (0, 100) rfl
  have b12 : 0 ≤ r 12 ∧ r 12 ≤ 1 := hok.1 12 (0, 1) rfl
  have b13 : (-2147483648) ≤ r 13 ∧ r 13 ≤ 2147483647 := hok.1 13 ((-2147483648), 2147483647) rfl
  have b14 : 0 ≤ r 14 ∧ r 14 ≤ 100 := hok.1 14 (0, 100) rfl
  have b15 : 0 ≤ r 15 ∧ r 15 ≤ 1 := hok.1 15 (0, 1) rfl
  have b16 : (-2147483648) ≤ r 16 ∧ r 16 ≤ 2147483647 := hok.1 16 ((-2147483648), 2147483647) rfl
  have b17 : 0 ≤ r 17 ∧ r 17 ≤ 100 := hok.1 17 (0, 100) rfl
  have b18 : (-2147483648) ≤ r 18 ∧ r 18 ≤ 0 := hok.1 18 ((-2147483648), 0) rfl
  have f0 : 0 ≤ ((1 * r 3 + ((-1) * r 8 + (1 * r 4 + 0))) + (-1)) := hok.2 _ (List.mem_of_getElem? (i := 0) rfl)
  have f1 : 0 ≤ (((-1) * r 1 + (1 * r 8 + ((-1) * r 4 + 0))) + 0) := hok.2 _ (List.mem_of_getElem? (i := 1) rfl)
  obtain ⟨hG, hgi⟩ := hG
  have hG : True := hG
  have hh : g = gi := hh
  subst hh
  refine yt_dalt (by decide) (by decide) ?_
  rw [show xk_40.2.1.2.1.1.length = 18 from rfl]
  show ((0 : Int) + (-3)) = yq_cr ((1 * r 0 + 0) + 0) ((1 * r 1 + 0) + 0) ((1 * r 2 + 0) + 0) ((1 * r 3 + 0) + 0) ((1 * r 4 + 0) + 0) (yq_at ((1 * r 0 + 0) + 0) ((1 * ((1 * r 6 + 0) + 0) + 0) + 0) ((1 * ((1 * r 9 + 0) + 0) + 0) + 0) ((1 * ((1 * r 12 + 0) + 0) + 0) + 0) ((1 * ((1 * r 15 + 0) + 0) + 0) + 0)) (yq_at ((1 * r 2 + 0) + 0) ((1 * ((1 * r 6 + 0) + 0) + 0) + 0) ((1 * ((1 * r 9 + 0) + 0) + 0) + 0) ((1 * ((1 * r 12 + 0) + 0) + 0) + 0) ((1 * ((1 * r 15 + 0) + 0) + 0) + 0)) (yq_at ((1 * r 0 + 0) + 0) ((1 * ((1 * r 8 + 0) + 0) + 0) + 0) ((1 * ((1 * r 11 + 0) + 0) + 0) + 0) ((1 * ((1 * r 14 + 0) + 0) + 0) + 0) ((1 * ((1 * r 17 + 0) + 0) + 0) + 0)) (yq_at ((1 * r 2 + 0) + 0) ((1 * ((1 * r 8 + 0) + 0) + 0) + 0) ((1 * ((1 * r 11 + 0) + 0) + 0) + 0) ((1 * ((1 * r 14 + 0) + 0) + 0) + 0) ((1 * ((1 * r 17 + 0) + 0) + 0) + 0)) ∧ (g 3) = yq_xc ((1 * r 0 + 0) + 0) ((1 * r 1 + 0) + 0) ((1 * r 2 + 0) + 0) ((1 * r 3 + 0) + 0) ((1 * r 4 + 0) + 0) 0 (yq_at ((1 * r 0 + 0) + 0) ((1 * ((1 * r 6 + 0) + 0) + 0) + 0) ((1 * ((1 * r 9 + 0) + 0) + 0) + 0) ((1 * ((1 * r 12 + 0) + 0) + 0) + 0) ((1 * ((1 * r 15 + 0) + 0) + 0) + 0)) ((1 * ((1 * r 6 + 0) + 0) + 0) + 0) (yq_at ((1 * r 0 + 0) + 0) ((1 * ((1 * r 8 + 0) + 0) + 0) + 0) ((1 * ((1 * r 11 + 0) + 0) + 0) + 0) ((1 * ((1 * r 14 + 0) + 0) + 0) + 0) ((1 * ((1 * r 17 + 0) + 0) + 0) + 0)) ((1 * ((1 * r 8 + 0) + 0) + 0) + 0) ((1 * ((1 * r 7 + 0) + 0) + 0) + 0) (yq_fat ((1 * r 0 + 0) + 0) (g0 3) (g0 5) (g0 7) (g0 9)) (g0 3) ∧ (g 5) = yq_xc ((1 * r 0 + 0) + 0) ((1 * r 1 + 0) + 0) ((1 * r 2 + 0) + 0) ((1 * r 3 + 0) + 0) ((1 * r 4 + 0) + 0) 1 (yq_at ((1 * r 0 + 0) + 0) ((1 * ((1 * r 6 + 0) + 0) + 0) + 0) ((1 * ((1 * r 9 + 0) + 0) + 0) + 0) ((1 * ((1 * r 12 + 0) + 0) + 0) + 0) ((1 * ((1 * r 15 + 0) + 0) + 0) + 0)) ((1 * ((1 * r 9 + 0) + 0) + 0) + 0) (yq_at ((1 * r 0 + 0) + 0) ((1 * ((1 * r 8 + 0) + 0) + 0) + 0) ((1 * ((1 * r 11 + 0) + 0) + 0) + 0) ((1 * ((1 * r 14 + 0) + 0) + 0) + 0) ((1 * ((1 * r 17 + 0) + 0) + 0) + 0)) ((1 * ((1 * r 11 + 0) + 0) + 0) + 0) ((1 * ((1 * r 10 + 0) + 0) + 0) + 0) (yq_fat ((1 * r 0 + 0) + 0) (g0 3) (g0 5) (g0 7) (g0 9)) (g0 5) ∧ (g 7) = yq_xc ((1 * r 0 + 0) + 0) ((1 * r 1 + 0) + 0) ((1 * r 2 + 0) + 0) ((1 * r 3 + 0) + 0) ((1 * r 4 + 0) + 0) 2 (yq_at ((1 * r 0 + 0) + 0) ((1 * ((1 * r 6 + 0) + 0) + 0) + 0) ((1 * ((1 * r 9 + 0) + 0) + 0) + 0) ((1 * ((1 * r 12 + 0) + 0) + 0) + 0) ((1 * ((1 * r 15 + 0) + 0) + 0) + 0)) ((1 * ((1 * r 12 + 0) + 0) + 0) + 0) (yq_at ((1 * r 0 + 0) + 0) ((1 * ((1 * r 8 + 0) + 0) + 0) + 0) ((1 * ((1 * r 11 + 0) + 0) + 0) + 0) ((1 * ((1 * r 14 + 0) + 0) + 0) + 0) ((1 * ((1 * r 17 + 0) + 0) + 0) + 0)) ((1 * ((1 * r 14 + 0) + 0) + 0) + 0) ((1 * ((1 * r 13 + 0) + 0) + 0) + 0) (yq_fat ((1 * r 0 + 0) + 0) (g0 3) (g0 5) (g0 7) (g0 9)) (g0 7) ∧ (g 9) = yq_xc ((1 * r 0 + 0) + 0) ((1 * r 1 + 0) + 0) ((1 * r 2 + 0) + 0) ((1 * r 3 + 0) + 0) ((1 * r 4 + 0) + 0) 3 (yq_at ((1 * r 0 + 0) + 0) ((1 * ((1 * r 6 + 0) + 0) + 0) + 0) ((1 * ((1 * r 9 + 0) + 0) + 0) + 0) ((1 * ((1 * r 12 + 0) + 0) + 0) + 0) ((1 * ((1 * r 15 + 0) + 0) + 0) + 0)) ((1 * ((1 * r 15 + 0) + 0) + 0) + 0) (yq_at ((1 * r 0 + 0) + 0) ((1 * ((1 * r 8 + 0) + 0) + 0) + 0) ((1 * ((1 * r 11 + 0) + 0) + 0) + 0) ((1 * ((1 * r 14 + 0) + 0) + 0) + 0) ((1 * ((1 * r 17 + 0) + 0) + 0) + 0)) ((1 * ((1 * r 17 + 0) + 0) + 0) + 0) ((1 * ((1 * r 16 + 0) + 0) + 0) + 0) (yq_fat ((1 * r 0 + 0) + 0) (g0 3) (g0 5) (g0 7) (g0 9)) (g0 9)
  try simp only [Int.one_mul, Int.zero_add, Int.add_zero]
  refine ⟨?_, ?_, ?_, ?_, ?_⟩
  · rw [show r 0 = 0 by omega]
    rw [show r 2 = 0 by omega]
    simp only [yq_at0]
    unfold yq_cr
    repeat' split
    all_goals omega
  · rw [show r 0 = 0 by omega]
    simp only [yq_at0, yq_fat0]
    unfold yq_xc
    rw [if_neg (by omega)]
    rw [hgi]
  · rw [show r 0 = 0 by omega]
    simp only [yq_at0, yq_fat0]
    unfold yq_xc
    rw [if_neg (by omega)]
    rw [hgi]
  · rw [show r 0 = 0 by omega]
    simp only [yq_at0, yq_fat0]
    unfold yq_xc
    rw [if_neg (by omega)]
    rw [hgi]
  · rw [show r 0 = 0 by omega]
    simp only [yq_at0, yq_fat0]
    unfold yq_xc
    rw [if_neg (by omega)]
    rw [hgi]
theorem xw_40_0_9 : yt_hold xT_40 xk_40 xq_40.2.2.1 xG_40 xP_40 xU_40 18 xk_40.2.1.2.2.2 (fun g0 r g => xR_40 r g0 ∧ g = g0) (1000, ([(0, 0), (0, 100), (0, 0), (0, 100), (0, 100), ((-2147483648), 2147483647), (1, 1), ((-2147483648), 2147483647), (0, 100), (0, 1), ((-2147483648), 2147483647), (0, 100), (0, 1), ((-2147483648), 2147483647), (0, 100), (0, 1), ((-2147483648), 2147483647), (0, 100), ((-2147483648), 0)], [([(4, (-1)), (3, (-1))], 101), ([(3, (-1)), (8, 1), (4, (-1))], 0), ([(1, (-1)), (8, 1), (4, (-1))], 0)]), [([(4, 1)], 0), ([(18, 1)], 0)], [], [.inr (.inr (.inl (99, 0, [([(3, 1)], 0), ([(1, 1)], 0), ([(4, 1)], 0), ([(6, 1)], 0), ([(7, 1)], 0), ([(8, 1)], 0)], [2, 3], [3])))]) := by
  intro g0 r gi g hok hh hars hfr hG
  have b0 : 0 ≤ r 0 ∧ r 0 ≤ 0 := hok.1 0 (0, 0) rfl
  have b1 : 0 ≤ r 1 ∧ r 1 ≤ 100 := hok.1 1 (0, 100) rfl
  have b2 : 0 ≤ r 2 ∧ r 2 ≤ 0 := hok.1 2 (0, 0) rfl
  have b3 : 0 ≤ r 3 ∧ r 3 ≤ 100 := hok.1 3 (0, 100) rfl
  have b4 : 0 ≤ r 4 ∧ r 4 ≤ 100 := hok.1 4 (0, 100) rfl
  have b5 : (-2147483648) ≤ r 5 ∧ r 5 ≤ 2147483647 := hok.1 5 ((-2147483648), 2147483647) rfl
  have b6 : 1 ≤ r 6 ∧ r 6 ≤ 1 := hok.1 6 (1, 1) rfl
  have b7 : (-2147483648) ≤ r 7 ∧ r 7 ≤ 2147483647 := hok.1 7 ((-2147483648), 2147483647) rfl
  have b8 : 0 ≤ r 8 ∧ r 8 ≤ 100 := hok.1 8 (0, 100) rfl
  have b9 : 0 ≤ r 9 ∧ r 9 ≤ 1 := hok.1 9 (0, 1) rfl
  have b10 : (-2147483648) ≤ r 10 ∧ r 10 ≤ 2147483647 := hok.1 10 ((-2147483648), 2147483647) rfl
  have b11 : 0 ≤ r 11 ∧ r 11 ≤ 100 := hok.1 11 (0, 100) rfl
  have b12 : 0 ≤ r 12 ∧ r 12 ≤ 1 := hok.1 12 (0, 1) rfl
  have b13 : (-2147483648) ≤ r 13 ∧ r 13 ≤ 2147483647 := hok.1 13 ((-2147483648), 2147483647) rfl
  have b14 : 0 ≤ r 14 ∧ r 14 ≤ 100 := hok.1 14 (0, 100) rfl
  have b15 : 0 ≤ r 15 ∧ r 15 ≤ 1 := hok.1 15 (0, 1) rfl
  have b16 : (-2147483648) ≤ r 16 ∧ r 16 ≤ 2147483647 := hok.1 16 ((-2147483648), 2147483647) rfl
  have b17 : 0 ≤ r 17 ∧ r 17 ≤ 100 := hok.1 17 (0, 100) rfl
  have b18 : (-2147483648) ≤ r 18 ∧ r 18 ≤ 0 := hok.1 18 ((-2147483648), 0) rfl
  have f0 : 0 ≤ (((-1) * r 4 + ((-1) * r 3 + 0)) + 101) := hok.2 _ (List.mem_of_getElem? (i := 0) rfl)
  have f1 : 0 ≤ (((-1) * r 3 + (1 * r 8 + ((-1) * r 4 + 0))) + 0) := hok.2 _ (List.mem_of_getElem? (i := 1) rfl)
  have f2 : 0 ≤ (((-1) * r 1 + (1 * r 8 + ((-1) * r 4 + 0))) + 0) := hok.2 _ (List.mem_of_getElem? (i := 2) rfl)
  obtain ⟨hG, hgi⟩ := hG
  have hG : True := hG
  obtain ⟨h0, hh, e0, k0⟩ := hh
  have k0 : ∀ j, j ∉ [3] → g j = h0 j := k0
  have e0 : (g 3) = yq_pa ((1 * r 3 + 0) + 0) ((1 * r 1 + 0) + 0) ((1 * r 4 + 0) + 0) ((1 * r 7 + 0) + 0) (h0 3) (h0 3) := e0
  have hh : h0 = gi := hh
  subst hh
  refine yt_dalt (by decide) (by decide) ?_
  rw [show xk_40.2.1.2.1.1.length = 18 from rfl]
  show ((1 * r 4 + 0) + 0) = yq_cr ((1 * r 0 + 0) + 0) ((1 * r 1 + 0) + 0) ((1 * r 2 + 0) + 0) ((1 * r 3 + 0) + 0) ((1 * r 4 + 0) + 0) (yq_at ((1 * r 0 + 0) + 0) ((1 * ((1 * r 6 + 0) + 0) + 0) + 0) ((1 * ((1 * r 9 + 0) + 0) + 0) + 0) ((1 * ((1 * r 12 + 0) + 0) + 0) + 0) ((1 * ((1 * r 15 + 0) + 0) + 0) + 0)) (yq_at ((1 * r 2 + 0) + 0) ((1 * ((1 * r 6 + 0) + 0) + 0) + 0) ((1 * ((1 * r 9 + 0) + 0) + 0) + 0) ((1 * ((1 * r 12 + 0) + 0) + 0) + 0) ((1 * ((1 * r 15 + 0) + 0) + 0) + 0)) (yq_at ((1 * r 0 + 0) + 0) ((1 * ((1 * r 8 + 0) + 0) + 0) + 0) ((1 * ((1 * r 11 + 0) + 0) + 0) + 0) ((1 * ((1 * r 14 + 0) + 0) + 0) + 0) ((1 * ((1 * r 17 + 0) + 0) + 0) + 0)) (yq_at ((1 * r 2 + 0) + 0) ((1 * ((1 * r 8 + 0) + 0) + 0) + 0) ((1 * ((1 * r 11 + 0) + 0) + 0) + 0) ((1 * ((1 * r 14 + 0) + 0) + 0) + 0) ((1 * ((1 * r 17 + 0) + 0) + 0) + 0)) ∧ (g 3) = yq_xc ((1 * r 0 + 0) + 0) ((1 * r 1 + 0) + 0) ((1 * r 2 + 0) + 0) ((1 * r 3 + 0) + 0) ((1 * r 4 + 0) + 0) 0 (yq_at ((1 * r 0 + 0) + 0) ((1 * ((1 * r 6 + 0) + 0) + 0) + 0) ((1 * ((1 * r 9 + 0) + 0) + 0) + 0) ((1 * ((1 * r 12 + 0) + 0) + 0) + 0) ((1 * ((1 * r 15 + 0) + 0) + 0) + 0)) ((1 * ((1 * r 6 + 0) + 0) + 0) + 0) (yq_at ((1 * r 0 + 0) + 0) ((1 * ((1 * r 8 + 0) + 0) + 0) + 0) ((1 * ((1 * r 11 + 0) + 0) + 0) + 0) ((1 * ((1 * r 14 + 0) + 0) + 0) + 0) ((1 * ((1 * r 17 + 0) + 0) + 0) + 0)) ((1 * ((1 * r 8 + 0) + 0) + 0) + 0) ((1 * ((1 * r 7 + 0) + 0) + 0) + 0) (yq_fat ((1 * r 0 + 0) + 0) (g0 3) (g0 5) (g0 7) (g0 9)) (g0 3) ∧ (g 5) = yq_xc ((1 * r 0 + 0) + 0) ((1 * r 1 + 0) + 0) ((1 * r 2 + 0) + 0) ((1 * r 3 + 0) + 0) ((1 * r 4 + 0) + 0) 1 (yq_at ((1 * r 0 + 0) + 0) ((1 * ((1 * r 6 + 0) + 0) + 0) + 0) ((1 * ((1 * r 9 + 0) + 0) + 0) + 0) ((1 * ((1 * r 12 + 0) + 0) + 0) + 0) ((1 * ((1 * r 15 + 0) + 0) + 0) + 0)) ((1 * ((1 * r 9 + 0) + 0) + 0) + 0) (yq_at ((1 * r 0 + 0) + 0) ((1 * ((1 * r 8 + 0) + 0) + 0) + 0) ((1 * ((1 * r 11 + 0) + 0) + 0) + 0) ((1 * ((1 * r 14 + 0) + 0) + 0) + 0) ((1 * ((1 * r 17 + 0) + 0) + 0) + 0)) ((1 * ((1 * r 11 + 0) + 0) + 0) + 0) ((1 * ((1 * r 10 + 0) + 0) + 0) + 0) (yq_fat ((1 * r 0 + 0) + 0) (g0 3) (g0 5) (g0 7) (g0 9)) (g0 5) ∧ (g 7) = yq_xc ((1 * r 0 + 0) + 0) ((1 * r 1 + 0) + 0) ((1 * r 2 + 0) + 0) ((1 * r 3 + 0) + 0) ((1 * r 4 + 0) + 0) 2 (yq_at ((1 * r 0 + 0) + 0) ((1 * ((1 * r 6 + 0) + 0) + 0) + 0) ((1 * ((1 * r 9 + 0) + 0) + 0) + 0) ((1 * ((1 * r 12 + 0) + 0) + 0) + 0) ((1 * ((1 * r 15 + 0) + 0) + 0) + 0)) ((1 * ((1 * r 12 + 0) + 0) + 0) + 0) (yq_at ((1 * r 0 + 0) + 0) ((1 * ((1 * r 8 + 0) + 0) + 0) + 0) ((1 * ((1 * r 11 + 0) + 0) + 0) + 0) ((1 * ((1 * r 14 + 0) + 0) + 0) + 0) ((1 * ((1 * r 17 + 0) + 0) + 0) + 0)) ((1 * ((1 * r 14 + 0) + 0) + 0) + 0) ((1 * ((1 * r 13 + 0) + 0) + 0) + 0) (yq_fat ((1 * r 0 + 0) + 0) (g0 3) (g0 5) (g0 7) (g0 9)) (g0 7) ∧ (g 9) = yq_xc ((1 * r 0 + 0) + 0) ((1 * r 1 + 0) + 0) ((1 * r 2 + 0) + 0) ((1 * r 3 + 0) + 0) ((1 * r 4 + 0) + 0) 3 (yq_at ((1 * r 0 + 0) + 0) ((1 * ((1 * r 6 + 0) + 0) + 0) + 0) ((1 * ((1 * r 9 + 0) + 0) + 0) + 0) ((1 * ((1 * r 12 + 0) + 0) + 0) + 0) ((1 * ((1 * r 15 + 0) + 0) + 0) + 0)) ((1 * ((1 * r 15 + 0) + 0) + 0) + 0) (yq_at ((1 * r 0 + 0) + 0) ((1 * ((1 * r 8 + 0) + 0) + 0) + 0) ((1 * ((1 * r 11 + 0) + 0) + 0) + 0) ((1 * ((1 * r 14 + 0) + 0) + 0) + 0) ((1 * ((1 * r 17 + 0) + 0) + 0) + 0)) ((1 * ((1 * r 17 + 0) + 0) + 0) + 0) ((1 * ((1 * r 16 + 0) + 0) + 0) + 0) (yq_fat ((1 * r 0 + 0) + 0) (g0 3) (g0 5) (g0 7) (g0 9)) (g0 9)
  try simp only [Int.one_mul, Int.zero_add, Int.add_zero]
  try simp only [Int.one_mul, Int.zero_add, Int.add_zero] at e0
  refine ⟨?_, ?_, ?_, ?_, ?_⟩
  · rw [show r 0 = 0 by omega]
    rw [show r 2 = 0 by omega]
    simp only [yq_at0]
    unfold yq_cr
    repeat' split
    all_goals omega
  · rw [show r 0 = 0 by omega]
    simp only [yq_at0, yq_fat0]
    unfold yq_xc
    rw [if_pos (by omega), e0, hgi]
  · rw [show r 0 = 0 by omega]
    simp only [yq_at0, yq_fat0]
    unfold yq_xc
    rw [if_neg (by omega)]
    rw [k0 5 (by decide), hgi]
  · rw [show r 0 = 0 by omega]
    simp only [yq_at0, yq_fat0]
    unfold yq_xc
    rw [if_neg (by omega)]
    rw [k0 7 (by decide), hgi]
  · rw [show r 0 = 0 by omega]
    simp only [yq_at0, yq_fat0]
    unfold yq_xc
    rw [if_neg (by omega)]
    rw [k0 9 (by decide), hgi]
theorem xw_40_0_10 : yt_hold xT_40 xk_40 xq_40.2.2.1 xG_40 xP_40 xU_40 18 xk_40.2.1.2.2.2 (fun g0 r g => xR_40 r g0 ∧ g = g0) (1000, ([(0, 0), ((-2147483648), (-1)), (1, 1), ((-2147483648), 2147483647), (0, 2147483647), ((-2147483648), 2147483647), (1, 1), ((-2147483648), 2147483647), (0, 100), (1, 1), ((-2147483648), 2147483647), (0, 100), (0, 1), ((-2147483648), 2147483647), (0, 100), (0, 1), ((-2147483648), 2147483647), (0, 100), ((-2147483648), 0)], []), [([], (-3)), ([(18, 1)], 0)], [], []) := by
  intro g0 r gi g hok hh hars hfr hG
  have b0 : 0 ≤ r 0 ∧ r 0 ≤ 0 := hok.1 0 (0, 0) rfl
  have b1 : (-2147483648) ≤ r 1 ∧ r 1 ≤ (-1) := hok.1 1 ((-2147483648), (-1)) rfl
  have b2 : 1 ≤ r 2 ∧ r 2 ≤ 1 := hok.1 2 (1, 1) rfl
  have b3 : (-2147483648) ≤ r 3 ∧ r 3 ≤ 2147483647 := hok.1 3 ((-2147483648), 2147483647) rfl
  have b4 : 0 ≤ r 4 ∧ r 4 ≤ 2147483647 := hok.1 4 (0, 2147483647) rfl
  have b5 : (-2147483648) ≤ r 5 ∧ r 5 ≤ 2147483647 := hok.1 5 ((-2147483648), 2147483647) rfl
  have b6 : 1 ≤ r 6 ∧ r 6 ≤ 1 := hok.1 6 (1, 1) rfl
  have b7 : (-2147483648) ≤ r 7 ∧ r 7 ≤ 2147483647 := hok.1 7 ((-2147483648), 2147483647) rfl
  have b8 : 0 ≤ r 8 ∧ r 8 ≤ 100 := hok.1 8 (0, 100) rfl
  have b9 : 1 ≤ r 9 ∧ r 9 ≤ 1 := hok.1 9 (1, 1) rfl
  have b10 : (-2147483648) ≤ r 10 ∧ r 10 ≤ 2147483647 := hok.1 10 ((-2147483648), 2147483647) rfl
  have b11 : 0 ≤ r 11 ∧ r 11 ≤ 100 := hok.1 11 (0, 100) rfl
  have b12 : 0 ≤ r 12 ∧ r 12 ≤ 1 := hok.1 12 (0, 1) rfl
  have b13 : (-2147483648) ≤ r 13 ∧ r 13 ≤ 2147483647 := hok.1 13 ((-2147483648), 2147483647) rfl
  have b14 : 0 ≤ r 14 ∧ r 14 ≤ 100 := hok.1 14 (0, 100) rfl
  have b15 : 0 ≤ r 15 ∧ r 15 ≤ 1 := hok.1 15 (0, 1) rfl
  have b16 : (-2147483648) ≤ r 16 ∧ r 16 ≤ 2147483647 := hok.1 16 ((-2147483648), 2147483647) rfl
  have b17 : 0 ≤ r 17 ∧ r 17 ≤ 100 := hok.1 17 (0, 100) rfl
  have b18 : (-2147483648) ≤ r 18 ∧ r 18 ≤ 0 := hok.1 18 ((-2147483648), 0) rfl
  obtain ⟨hG, hgi⟩ := hG
  have hG : True := hG
  have hh : g = gi := hh
  subst hh
  refine yt_dalt (by decide) (by decide) ?_
  rw [show xk_40.2.1.2.1.1.length = 18 from rfl]
  show ((0 : Int) + (-3)) = yq_cr ((1 * r 0 + 0) + 0) ((1 * r 1 + 0) + 0) ((1 * r 2 + 0) + 0) ((1 * r 3 + 0) + 0) ((1 * r 4 + 0) + 0) (yq_at ((1 * r 0 + 0) + 0) ((1 * ((1 * r 6 + 0) + 0) + 0) + 0) ((1 * ((1 * r 9 + 0) + 0) + 0) + 0) ((1 * ((1 * r 12 + 0) + 0) + 0) + 0) ((1 * ((1 * r 15 + 0) + 0) + 0) + 0)) (yq_at ((1 * r 2 + 0) + 0) ((1 * ((1 * r 6 + 0) + 0) + 0) + 0) ((1 * ((1 * r 9 + 0) + 0) + 0) + 0) ((1 * ((1 * r 12 + 0) + 0) + 0) + 0) ((1 * ((1 * r 15 + 0) + 0) + 0) + 0)) (yq_at ((1 * r 0 + 0) + 0) ((1 * ((1 * r 8 + 0) + 0) + 0) + 0) ((1 * ((1 * r 11 + 0) + 0) + 0) + 0) ((1 * ((1 * r 14 + 0) + 0) + 0) + 0) ((1 * ((1 * r 17 + 0) + 0) + 0) + 0)) (yq_at ((1 * r 2 + 0) + 0) ((1 * ((1 * r 8 + 0) + 0) + 0) + 0) ((1 * ((1 * r 11 + 0) + 0) + 0) + 0) ((1 * ((1 * r 14 + 0) + 0) + 0) + 0) ((1 * ((1 * r 17 + 0) + 0) + 0) + 0)) ∧ (g 3) = yq_xc ((1 * r 0 + 0) + 0) ((1 * r 1 + 0) + 0) ((1 * r 2 + 0) + 0) ((1 * r 3 + 0) + 0) ((1 * r 4 + 0) + 0) 0 (yq_at ((1 * r 0 + 0) + 0) ((1 * ((1 * r 6 + 0) + 0) + 0) + 0) ((1 * ((1 * r 9 + 0) + 0) + 0) + 0) ((1 * ((1 * r 12 + 0) + 0) + 0) + 0) ((1 * ((1 * r 15 + 0) + 0) + 0) + 0)) ((1 * ((1 * r 6 + 0) + 0) + 0) + 0) (yq_at ((1 * r 0 + 0) + 0) ((1 * ((1 * r 8 + 0) + 0) + 0) + 0) ((1 * ((1 * r 11 + 0) + 0) + 0) + 0) ((1 * ((1 * r 14 + 0) + 0) + 0) + 0) ((1 * ((1 * r 17 + 0) + 0) + 0) + 0)) ((1 * ((1 * r 8 + 0) + 0) + 0) + 0) ((1 * ((1 * r 7 + 0) + 0) + 0) + 0) (yq_fat ((1 * r 0 + 0) + 0) (g0 3) (g0 5) (g0 7) (g0 9)) (g0 3) ∧ (g 5) = yq_xc ((1 * r 0 + 0) + 0) ((1 * r 1 + 0) + 0) ((1 * r 2 + 0) + 0) ((1 * r 3 + 0) + 0) ((1 * r 4 + 0) + 0) 1 (yq_at ((1 * r 0 + 0) + 0) ((1 * ((1 * r 6 + 0) + 0) + 0) + 0) ((1 * ((1 * r 9 + 0) + 0) + 0) + 0) ((1 * ((1 * r 12 + 0) + 0) + 0) + 0) ((1 * ((1 * r 15 + 0) + 0) + 0) + 0)) ((1 * ((1 * r 9 + 0) + 0) + 0) + 0) (yq_at ((1 * r 0 + 0) + 0) ((1 * ((1 * r 8 + 0) + 0) + 0) + 0) ((1 * ((1 * r 11 + 0) + 0) + 0) + 0) ((1 * ((1 * r 14 + 0) + 0) + 0) + 0) ((1 * ((1 * r 17 + 0) + 0) + 0) + 0)) ((1 * ((1 * r 11 + 0) + 0) + 0) + 0) ((1 * ((1 * r 10 + 0) + 0) + 0) + 0) (yq_fat ((1 * r 0 + 0) + 0) (g0 3) (g0 5) (g0 7) (g0 9)) (g0 5) ∧ (g 7) = yq_xc ((1 * r 0 + 0) + 0) ((1 * r 1 + 0) + 0) ((1 * r 2 + 0) + 0) ((1 * r 3 + 0) + 0) ((1 * r 4 + 0) + 0) 2 (yq_at ((1 * r 0 + 0) + 0) ((1 * ((1 * r 6 + 0) + 0) + 0) + 0) ((1 * ((1 * r 9 + 0) + 0) + 0) + 0) ((1 * ((1 * r 12 + 0) + 0) + 0) + 0) ((1 * ((1 * r 15 + 0) + 0) + 0) + 0)) ((1 * ((1 * r 12 + 0) + 0) + 0) + 0) (yq_at ((1 * r 0 + 0) + 0) ((1 * ((1 * r 8 + 0) + 0) + 0) + 0) ((1 * ((1 * r 11 + 0) + 0) + 0) + 0) ((1 * ((1 * r 14 + 0) + 0) + 0) + 0) ((1 * ((1 * r 17 + 0) + 0) + 0) + 0)) ((1 * ((1 * r 14 + 0) + 0) + 0) + 0) ((1 * ((1 * r 13 + 0) + 0) + 0) + 0) (yq_fat ((1 * r 0 + 0) + 0) (g0 3) (g0 5) (g0 7) (g0 9)) (g0 7) ∧ (g 9) = yq_xc ((1 * r 0 + 0) + 0) ((1 * r 1 + 0) + 0) ((1 * r 2 + 0) + 0) ((1 * r 3 + 0) + 0) ((1 * r 4 + 0) + 0) 3 (yq_at ((1 * r 0 + 0) + 0) ((1 * ((1 * r 6 + 0) + 0) + 0) + 0) ((1 * ((1 * r 9 + 0) + 0) + 0) + 0) ((1 * ((1 * r 12 + 0) + 0) + 0) + 0) ((1 * ((1 * r 15 + 0) + 0) + 0) + 0)) ((1 * ((1 * r 15 + 0) + 0) + 0) + 0) (yq_at ((1 * r 0 + 0) + 0) ((1 * ((1 * r 8 + 0) + 0) + 0) + 0) ((1 * ((1 * r 11 + 0) + 0) + 0) + 0) ((1 * ((1 * r 14 + 0) + 0) + 0) + 0) ((1 * ((1 * r 17 + 0) + 0) + 0) + 0)) ((1 * ((1 * r 17 + 0) + 0) + 0) + 0) ((1 * ((1 * r 16 + 0) + 0) + 0) + 0) (yq_fat ((1 * r 0 + 0) + 0) (g0 3) (g0 5) (g0 7) (g0 9)) (g0 9)
  try simp only [Int.one_mul, Int.zero_add, Int.add_zero]
  refine ⟨?_, ?_, ?_, ?_, ?_⟩
  · rw [show r 0 = 0 by omega]
    rw [show r 2 = 1 by omega]
    simp only [yq_at0, yq_at1]
    unfold yq_cr
    repeat' split
    all_goals omega
  · rw [show r 0 = 0 by omega]
    simp only [yq_at0, yq_fat0]
    unfold yq_xc
    rw [if_neg (by omega)]
    rw [hgi]
  · rw [show r 0 = 0 by omega]
    simp only [yq_at0, yq_fat0]
    unfold yq_xc
    rw [if_neg (by omega)]
    rw [hgi]
  · rw [show r 0 = 0 by omega]
    simp only [yq_at0, yq_fat0]
    unfold yq_xc
    rw [if_neg (by omega)]
    rw [hgi]
  · rw [show r 0 = 0 by omega]
    simp only [yq_at0, yq_fat0]
    unfold yq_xc
    rw [if_neg (by omega)]
    rw [hgi]
theorem xw_40_0_11 : yt_hold xT_40 xk_40 xq_40.2.2.1 xG_40 xP_40 xU_40 18 xk_40.2.1.2.2.2 (fun g0 r g => xR_40 r g0 ∧ g = g0) (1000, ([(0, 0), (0, 2147483647), (1, 1), ((-2147483648), 2147483647), (0, 2147483647), ((-2147483648), 2147483647), (1, 1), ((-2147483648), 2147483647), (0, 100), (1, 1), ((-2147483648), 2147483647), (0, 100), (0, 1), ((-2147483648), 2147483647), (0, 100), (0, 1), ((-2147483648), 2147483647), (0, 100), ((-2147483648), 0)], [([(1, 1), (8, (-1)), (4, 1)], (-1))]), [([], (-3)), ([(18, 1)], 0)], [], []) := by
  intro g0 r gi g hok hh hars hfr hG
  have b0 : 0 ≤ r 0 ∧ r 0 ≤ 0 := hok.1 0 (0, 0) rfl
  have b1 : 0 ≤ r 1 ∧ r 1 ≤ 2147483647 := hok.1 1 (0, 2147483647) rfl
  have b2 : 1 ≤ r 2 ∧ r 2 ≤ 1 := hok.1 2 (1, 1) rfl
  have b3 : (-2147483648) ≤ r 3 ∧ r 3 ≤ 2147483647 := hok.1 3 ((-2147483648), 2147483647) rfl
  have b4 : 0 ≤ r 4 ∧ r 4 ≤ 2147483647 := hok.1 4 (0, 2147483647) rfl
  have b5 : (-2147483648) ≤ r 5 ∧ r 5 ≤ 2147483647 := hok.1 5 ((-2147483648), 2147483647) rfl
  have b6 : 1 ≤ r 6 ∧ r 6 ≤ 1 := hok.1 6 (1, 1) rfl
  have b7 : (-2147483648) ≤ r 7 ∧ r 7 ≤ 2147483647 := hok.1 7 ((-2147483648), 2147483647) rfl
  have b8 : 0 ≤ r 8 ∧ r 8 ≤ 100 := hok.1 8 (0, 100) rfl
  have b9 : 1 ≤ r 9 ∧ r 9 ≤ 1 := hok.1 9 (1, 1) rfl
  have b10 : (-2147483648) ≤ r 10 ∧ r 10 ≤ 2147483647 := hok.1 10 ((-2147483648), 2147483647) rfl
  have b11 : 0 ≤ r 11 ∧ r 11 ≤ 100 := hok.1 11 (0, 100) rfl
  have b12 : 0 ≤ r 12 ∧ r 12 ≤ 1 := hok.1 12 (0, 1) rfl
  have b13 : (-2147483648) ≤ r 13 ∧ r 13 ≤ 2147483647 := hok.1 13 ((-2147483648), 2147483647) rfl
  have b14 : 0 ≤ r 14 ∧ r 14 ≤ 100 := hok.1 14 (0, 100) rfl
  have b15 : 0 ≤ r 15 ∧ r 15 ≤ 1 := hok.1 15 (0, 1) rfl
  have b16 : (-2147483648) ≤ r 16 ∧ r 16 ≤ 2147483647 := hok.1 16 ((-2147483648), 2147483647) rfl
  have b17 : 0 ≤ r 17 ∧ r 17 ≤ 100 := hok.1 17 (0, 100) rfl
  have b18 : (-2147483648) ≤ r 18 ∧ r 18 ≤ 0 := hok.1 18 ((-2147483648), 0) rfl
  have f0 : 0 ≤ ((1 * r 1 + ((-1) * r 8 + (1 * r 4 + 0))) + (-1)) := hok.2 _ (List.mem_of_getElem? (i := 0) rfl)
  obtain ⟨hG, hgi⟩ := hG
  have hG : True := hG
  have hh : g = gi := hh
  subst hh
  refine yt_dalt (by decide) (by decide) ?_
  rw [show xk_40.2.1.2.1.1.length = 18 from rfl]
  show ((0 : Int) + (-3)) = yq_cr ((1 * r 0 + 0) + 0) ((1 * r 1 + 0) + 0) ((1 * r 2 + 0) + 0) ((1 * r 3 + 0) + 0) ((1 * r 4 + 0) + 0) (yq_at ((1 * r 0 + 0) + 0) ((1 * ((1 * r 6 + 0) + 0) + 0) + 0) ((1 * ((1 * r 9 + 0) + 0) + 0) + 0) ((1 * ((1 * r 12 + 0) + 0) + 0) + 0) ((1 * ((1 * r 15 + 0) + 0) + 0) + 0)) (yq_at ((1 * r 2 + 0) + 0) ((1 * ((1 * r 6 + 0) + 0) + 0) + 0) ((1 * ((1 * r 9 + 0) + 0) + 0) + 0) ((1 * ((1 * r 12 + 0) + 0) + 0) + 0) ((1 * ((1 * r 15 + 0) + 0) + 0) + 0)) (yq_at ((1 * r 0 + 0) + 0) ((1 * ((1 * r 8 + 0) + 0) + 0) + 0) ((1 * ((1 * r 11 + 0) + 0) + 0) + 0) ((1 * ((1 * r 14 + 0) + 0) + 0) + 0) ((1 * ((1 * r 17 + 0) + 0) + 0) + 0)) (yq_at ((1 * r 2 + 0) + 0) ((1 * ((1 * r 8 + 0) + 0) + 0) + 0) ((1 * ((1 * r 11 + 0) + 0) + 0) + 0) ((1 * ((1 * r 14 + 0) + 0) + 0) + 0) ((1 * ((1 * r 17 + 0) + 0) + 0) + 0)) ∧ (g 3) = yq_xc ((1 * r 0 + 0) + 0) ((1 * r 1 + 0) + 0) ((1 * r 2 + 0) + 0) ((1 * r 3 + 0) + 0) ((1 * r 4 + 0) + 0) 0 (yq_at ((1 * r 0 + 0) + 0) ((1 * ((1 * r 6 + 0) + 0) + 0) + 0) ((1 * ((1 * r 9 + 0) + 0) + 0) + 0) ((1 * ((1 * r 12 + 0) + 0) + 0) + 0) ((1 * ((1 * r 15 + 0) + 0) + 0) + 0)) ((1 * ((1 * r 6 + 0) + 0) + 0) + 0) (yq_at ((1 * r 0 + 0) + 0) ((1 * ((1 * r 8 + 0) + 0) + 0) + 0) ((1 * ((1 * r 11 + 0) + 0) + 0) + 0) ((1 * ((1 * r 14 + 0) + 0) + 0) + 0) ((1 * ((1 * r 17 + 0) + 0) + 0) + 0)) ((1 * ((1 * r 8 + 0) + 0) + 0) + 0) ((1 * ((1 * r 7 + 0) + 0) + 0) + 0) (yq_fat ((1 * r 0 + 0) + 0) (g0 3) (g0 5) (g0 7) (g0 9)) (g0 3) ∧ (g 5) = yq_xc ((1 * r 0 + 0) + 0) ((1 * r 1 + 0) + 0) ((1 * r 2 + 0) + 0) ((1 * r 3 + 0) + 0) ((1 * r 4 + 0) + 0) 1 (yq_at ((1 * r 0 + 0) + 0) ((1 * ((1 * r 6 + 0) + 0) + 0) + 0) ((1 * ((1 * r 9 + 0) + 0) + 0) + 0) ((1 * ((1 * r 12 + 0) + 0) + 0) + 0) ((1 * ((1 * r 15 + 0) + 0) + 0) + 0)) ((1 * ((1 * r 9 + 0) + 0) + 0) + 0) (yq_at ((1 * r 0 + 0) + 0) ((1 * ((1 * r 8 + 0) + 0) + 0) + 0) ((1 * ((1 * r 11 + 0) + 0) + 0) + 0) ((1 * ((1 * r 14 + 0) + 0) + 0) + 0) ((1 * ((1 * r 17 + 0) + 0) + 0) + 0)) ((1 * ((1 * r 11 + 0) + 0) + 0) + 0) ((1 * ((1 * r 10 + 0) + 0) + 0) + 0) (yq_fat ((1 * r 0 + 0) + 0) (g0 3) (g0 5) (g0 7) (g0 9)) (g0 5) ∧ (g 7) = yq_xc ((1 * r 0 + 0) + 0) ((1 * r 1 + 0) + 0) ((1 * r 2 + 0) + 0) ((1 * r 3 + 0) + 0) ((1 * r 4 + 0) + 0) 2 (yq_at ((1 * r 0 + 0) + 0) ((1 * ((1 * r 6 + 0) + 0) + 0) + 0) ((1 * ((1 * r 9 + 0) + 0) + 0) + 0) ((1 * ((1 * r 12 + 0) + 0) + 0) + 0) ((1 * ((1 * r 15 + 0) + 0) + 0) + 0)) ((1 * ((1 * r 12 + 0) + 0) + 0) + 0) (yq_at ((1 * r 0 + 0) + 0) ((1 * ((1 * r 8 + 0) + 0) + 0) + 0) ((1 * ((1 * r 11 + 0) + 0) + 0) + 0) ((1 * ((1 * r 14 + 0) + 0) + 0) + 0) ((1 * ((1 * r 17 + 0) + 0) + 0) + 0)) ((1 * ((1 * r 14 + 0) + 0) + 0) + 0) ((1 * ((1 * r 13 + 0) + 0) + 0) + 0) (yq_fat ((1 * r 0 + 0) + 0) (g0 3) (g0 5) (g0 7) (g0 9)) (g0 7) ∧ (g 9) = yq_xc ((1 * r 0 + 0) + 0) ((1 * r 1 + 0) + 0) ((1 * r 2 + 0) + 0) ((1 * r 3 + 0) + 0) ((1 * r 4 + 0) + 0) 3 (yq_at ((1 * r 0 + 0) + 0) ((1 * ((1 * r 6 + 0) + 0) + 0) + 0) ((1 * ((1 * r 9 + 0) + 0) + 0) + 0) ((1 * ((1 * r 12 + 0) + 0) + 0) + 0) ((1 * ((1 * r 15 + 0) + 0) + 0) + 0)) ((1 * ((1 * r 15 + 0) + 0) + 0) + 0) (yq_at ((1 * r 0 + 0) + 0) ((1 * ((1 * r 8 + 0) + 0) + 0) + 0) ((1 * ((1 * r 11 + 0) + 0) + 0) + 0) ((1 * ((1 * r 14 + 0) + 0) + 0) + 0) ((1 * ((1 * r 17 + 0) + 0) + 0) + 0)) ((1 * ((1 * r 17 + 0) + 0) + 0) + 0) ((1 * ((1 * r 16 + 0) + 0) + 0) + 0) (yq_fat ((1 * r 0 + 0) + 0) (g0 3) (g0 5) (g0 7) (g0 9)) (g0 9)
  try simp only [Int.one_mul, Int.zero_add, Int.add_zero]
  refine ⟨?_, ?_, ?_, ?_, ?_⟩
  · rw [show r 0 = 0 by omega]
    rw [show r 2 = 1 by omega]
    simp only [yq_at0, yq_at1]
    unfold yq_cr
    repeat' split
    all_goals omega
  · rw [show r 0 = 0 by omega]
    simp only [yq_at0, yq_fat0]
    unfold yq_xc
    rw [if_neg (by omega)]
    rw [hgi]
  · rw [show r 0 = 0 by omega]
    simp only [yq_at0, yq_fat0]
    unfold yq_xc
    rw [if_neg (by omega)]
    rw [hgi]
  · rw [show r 0 = 0 by omega]
    simp only [yq_at0, yq_fat0]
    unfold yq_xc
    rw [if_neg (by omega)]
    rw [hgi]
  · rw [show r 0 = 0 by omega]
    simp only [yq_at0, yq_fat0]
    unfold yq_xc
    rw [if_neg (by omega)]
    rw [hgi]
theorem xw_40_0_12 : yt_hold xT_40 xk_40 xq_40.2.2.1 xG_40 xP_40 xU_40 18 xk_40.2.1.2.2.2 (fun g0 r g => xR_40 r g0 ∧ g = g0) (1000, ([(0, 0), (0, 100), (1, 1), ((-2147483648), (-1)), (0, 100), ((-2147483648), 2147483647), (1, 1), ((-2147483648), 2147483647), (0, 100), (1, 1), ((-2147483648), 2147483647), (0, 100), (0, 1), ((-2147483648), 2147483647), (0, 100), (0, 1), ((-2147483648), 2147483647), (0, 100), ((-2147483648), 0)], [([(1, (-1)), (8, 1), (4, (-1))], 0)]), [([], (-3)), ([(18, 1)], 0)], [], []) := by
  intro g0 r gi g hok hh hars hfr hG
  have b0 : 0 ≤ r 0 ∧ r 0 ≤ 0 := hok.1 0 (0, 0) rfl
  have b1 : 0 ≤ r 1 ∧ r 1 ≤ 100 := hok.1 1 (0, 100) rfl
  have b2 : 1 ≤ r 2 ∧ r 2 ≤ 1 := hok.1 2 (1, 1) rfl
  have b3 : (-2147483648) ≤ r 3 ∧ r 3 ≤ (-1) := hok.1 3 ((-2147483648), (-1)) rfl
  have b4 : 0 ≤ r 4 ∧ r 4 ≤ 100 := hok.1 4 (0, 100) rfl
  have b5 : (-2147483648) ≤ r 5 ∧ r 5 ≤ 2147483647 := hok.1 5 ((-2147483648), 2147483647) rfl
  have b6 : 1 ≤ r 6 ∧ r 6 ≤ 1 := hok.1 6 (1, 1) rfl
  have b7 : (-2147483648) ≤ r 7 ∧ r 7 ≤ 2147483647 := hok.1 7 ((-2147483648), 2147483647) rfl
  have b8 : 0 ≤ r 8 ∧ r 8 ≤ 100 := hok.1 8 (0, 100) rfl
  have b9 : 1 ≤ r 9 ∧ r 9 ≤ 1 := hok.1 9 (1, 1) rfl
  have b10 : (-2147483648) ≤ r 10 ∧ r 10 ≤ 2147483647 := hok.1 10 ((-2147483648), 2147483647) rfl
  have b11 : 0 ≤ r 11 ∧ r 11 ≤ 100 := hok.1 11 (0, 100) rfl
  have b12 : 0 ≤ r 12 ∧ r 12 ≤ 1 := hok.1 12 (0, 1) rfl
  have b13 : (-2147483648) ≤ r 13 ∧ r 13 ≤ 2147483647 := hok.1 13 ((-2147483648), 2147483647) rfl
  have b14 : 0 ≤ r 14 ∧ r 14 ≤ 100 := hok.1 14 (0, 100) rfl
  have b15 : 0 ≤ r 15 ∧ r 15 ≤ 1 := hok.1 15 (0, 1) rfl
  have b16 : (-2147483648) ≤ r 16 ∧ r 16 ≤ 2147483647 := hok.1 16 ((-2147483648), 2147483647) rfl
  have b17 : 0 ≤ r 17 ∧ r 17 ≤ 100 := hok.1 17 (0, 100) rfl
  have b18 : (-2147483648) ≤ r 18 ∧ r 18 ≤ 0 := hok.1 18 ((-2147483648), 0) rfl
  have f0 : 0 ≤ (((-1) * r 1 + (1 * r 8 + ((-1) * r 4 + 0))) + 0) := hok.2 _ (List.mem_of_getElem? (i := 0) rfl)
  obtain ⟨hG, hgi⟩ := hG
  have hG : True := hG
  have hh : g = gi := hh
  subst hh
  refine yt_dalt (by decide) (by decide) ?_
  rw [show xk_40.2.1.2.1.1.length = 18 from rfl]
  show ((0 : Int) + (-3)) = yq_cr ((1 * r 0 + 0) + 0) ((1 * r 1 + 0) + 0) ((1 * r 2 + 0) + 0) ((1 * r 3 + 0) + 0) ((1 * r 4 + 0) + 0) (yq_at ((1 * r 0 + 0) + 0) ((1 * ((1 * r 6 + 0) + 0) + 0) + 0) ((1 * ((1 * r 9 + 0) + 0) + 0) + 0) ((1 * ((1 * r 12 + 0) + 0) + 0) + 0) ((1 * ((1 * r 15 + 0) + 0) + 0) + 0)) (yq_at ((1 * r 2 + 0) + 0) ((1 * ((1 * r 6 + 0) + 0) + 0) + 0) ((1 * ((1 * r 9 + 0) + 0) + 0) + 0) ((1 * ((1 * r 12 + 0) + 0) + 0) + 0) ((1 * ((1 * r 15 + 0) + 0) + 0) + 0)) (yq_at ((1 * r 0 + 0) + 0) ((1 * ((1 * r 8 + 0) + 0) + 0) + 0) ((1 * ((1 * r 11 + 0) + 0) + 0) + 0) ((1 * ((1 * r 14 + 0) + 0) + 0) + 0) ((1 * ((1 * r 17 + 0) + 0) + 0) + 0)) (yq_at ((1 * r 2 + 0) + 0) ((1 * ((1 * r 8 + 0) + 0) + 0) + 0) ((1 * ((1 * r 11 + 0) + 0) + 0) + 0) ((1 * ((1 * r 14 + 0) + 0) + 0) + 0) ((1 * ((1 * r 17 + 0) + 0) + 0) + 0)) ∧ (g 3) = yq_xc ((1 * r 0 + 0) + 0) ((1 * r 1 + 0) + 0) ((1 * r 2 + 0) + 0) ((1 * r 3 + 0) + 0) ((1 * r 4 + 0) + 0) 0 (yq_at ((1 * r 0 + 0) + 0) ((1 * ((1 * r 6 + 0) + 0) + 0) + 0) ((1 * ((1 * r 9 + 0) + 0) + 0) + 0) ((1 * ((1 * r 12 + 0) + 0) + 0) + 0) ((1 * ((1 * r 15 + 0) + 0) + 0) + 0)) ((1 * ((1 * r 6 + 0) + 0) + 0) + 0) (yq_at ((1 * r 0 + 0) + 0) ((1 * ((1 * r 8 + 0) + 0) + 0) + 0) ((1 * ((1 * r 11 + 0) + 0) + 0) + 0) ((1 * ((1 * r 14 + 0) + 0) + 0) + 0) ((1 * ((1 * r 17 + 0) + 0) + 0) + 0)) ((1 * ((1 * r 8 + 0) + 0) + 0) + 0) ((1 * ((1 * r 7 + 0) + 0) + 0) + 0) (yq_fat ((1 * r 0 + 0) + 0) (g0 3) (g0 5) (g0 7) (g0 9)) (g0 3) ∧ (g 5) = yq_xc ((1 * r 0 + 0) + 0) ((1 * r 1 + 0) + 0) ((1 * r 2 + 0) + 0) ((1 * r 3 + 0) + 0) ((1 * r 4 + 0) + 0) 1 (yq_at ((1 * r 0 + 0) + 0) ((1 * ((1 * r 6 + 0) + 0) + 0) + 0) ((1 * ((1 * r 9 + 0) + 0) + 0) + 0) ((1 * ((1 * r 12 + 0) + 0) + 0) + 0) ((1 * ((1 * r 15 + 0) + 0) + 0) + 0)) ((1 * ((1 * r 9 + 0) + 0) + 0) + 0) (yq_at ((1 * r 0 + 0) + 0) ((1 * ((1 * r 8 + 0) + 0) + 0) + 0) ((1 * ((1 * r 11 + 0) + 0) + 0) + 0) ((1 * ((1 * r 14 + 0) + 0) + 0) + 0) ((1 * ((1 * r 17 + 0) + 0) + 0) + 0)) ((1 * ((1 * r 11 + 0) + 0) + 0) + 0) ((1 * ((1 * r 10 + 0) + 0) + 0) + 0) (yq_fat ((1 * r 0 + 0) + 0) (g0 3) (g0 5) (g0 7) (g0 9)) (g0 5) ∧ (g 7) = yq_xc ((1 * r 0 + 0) + 0) ((1 * r 1 + 0) + 0) ((1 * r 2 + 0) + 0) ((1 * r 3 + 0) + 0) ((1 * r 4 + 0) + 0) 2 (yq_at ((1 * r 0 + 0) + 0) ((1 * ((1 * r 6 + 0) + 0) + 0) + 0) ((1 * ((1 * r 9 + 0) + 0) + 0) + 0) ((1 * ((1 * r 12 + 0) + 0) + 0) + 0) ((1 * ((1 * r 15 + 0) + 0) + 0) + 0)) ((1 * ((1 * r 12 + 0) + 0) + 0) + 0) (yq_at ((1 * r 0 + 0) + 0) ((1 * ((1 * r 8 + 0) + 0) + 0) + 0) ((1 * ((1 * r 11 + 0) + 0) + 0) + 0) ((1 * ((1 * r 14 + 0) + 0) + 0) + 0) ((1 * ((1 * r 17 + 0) + 0) + 0) + 0)) ((1 * ((1 * r 14 + 0) + 0) + 0) + 0) ((1 * ((1 * r 13 + 0) + 0) + 0) + 0) (yq_fat ((1 * r 0 + 0) + 0) (g0 3) (g0 5) (g0 7) (g0 9)) (g0 7) ∧ (g 9) = yq_xc ((1 * r 0 + 0) + 0) ((1 * r 1 + 0) + 0) ((1 * r 2 + 0) + 0) ((1 * r 3 + 0) + 0) ((1 * r 4 + 0) + 0) 3 (yq_at ((1 * r 0 + 0) + 0) ((1 * ((1 * r 6 + 0) + 0) + 0) + 0) ((1 * ((1 * r 9 + 0) + 0) + 0) + 0) ((1 * ((1 * r 12 + 0) + 0) + 0) + 0) ((1 * ((1 * r 15 + 0) + 0) + 0) + 0)) ((1 * ((1 * r 15 + 0) + 0) + 0) + 0) (yq_at ((1 * r 0 + 0) + 0) ((1 * ((1 * r 8 + 0) + 0) + 0) + 0) ((1 * ((1 * r 11 + 0) + 0) + 0) + 0) ((1 * ((1 * r 14 + 0) + 0) + 0) + 0) ((1 * ((1 * r 17 + 0) + 0) + 0) + 0)) ((1 * ((1 * r 17 + 0) + 0) + 0) + 0) ((1 * ((1 * r 16 + 0) + 0) + 0) + 0) (yq_fat ((1 * r 0 + 0) + 0) (g0 3) (g0 5) (g0 7) (g0 9)) (g0 9)
  try simp only [Int.one_mul, Int.zero_add, Int.add_zero]
  refine ⟨?_, ?_, ?_, ?_, ?_⟩
  · rw [show r 0 = 0 by omega]
    rw [show r 2 = 1 by omega]
    simp only [yq_at0, yq_at1]
    unfold yq_cr
    repeat' split
    all_goals omega
  · rw [show r 0 = 0 by omega]
    simp only [yq_at0, yq_fat0]
    unfold yq_xc
    rw [if_neg (by omega)]
    rw [hgi]
  · rw [show r 0 = 0 by omega]
    simp only [yq_at0, yq_fat0]
    unfold yq_xc
    rw [if_neg (by omega)]
    rw [hgi]
  · rw [show r 0 = 0 by omega]
    simp only [yq_at0, yq_fat0]
    unfold yq_xc
    rw [if_neg (by omega)]
    rw [hgi]
  · rw [show r 0 = 0 by omega]
    simp only [yq_at0, yq_fat0]
    unfold yq_xc
    rw [if_neg (by omega)]
    rw [hgi]
theorem xw_40_0_13 : yt_hold xT_40 xk_40 xq_40.2.2.1 xG_40 xP_40 xU_40 18 xk_40.2.1.2.2.2 (fun g0 r g => xR_40 r g0 ∧ g = g0) (1000, ([(0, 0), (0, 100), (1, 1), (0, 2147483647), (0, 100), ((-2147483648), 2147483647), (1, 1), ((-2147483648), 2147483647), (0, 100), (1, 1), ((-2147483648), 2147483647), (0, 100), (0, 1), ((-2147483648), 2147483647), (0, 100), (0, 1), ((-2147483648), 2147483647), (0, 100), ((-2147483648), 0)], [([(3, 1), (11, (-1)), (4, 1)], (-1)), ([(1, (-1)), (8, 1), (4, (-1))], 0)]), [([], (-3)), ([(18, 1)], 0)], [], []) := by
  intro g0 r gi g hok hh hars hfr hG
  have b0 : 0 ≤ r 0 ∧ r 0 ≤ 0 := hok.1 0 (0, 0) rfl
  have b1 : 0 ≤ r 1 ∧ r 1 ≤ 100 := hok.1 1 (0, 100) rfl
  have b2 : 1 ≤ r 2 ∧ r 2 ≤ 1 := hok.1 2 (1, 1) rfl
  have b3 : 0 ≤ r 3 ∧ r 3 ≤ 2147483647 := hok.1 3 (0, 2147483647) rfl
  have b4 : 0 ≤ r 4 ∧ r 4 ≤ 100 := hok.1 4 (0, 100) rfl
  have b5 : (-2147483648) ≤ r 5 ∧ r 5 ≤ 2147483647 := hok.1 5 ((-2147483648), 2147483647) rfl
  have b6 : 1 ≤ r 6 ∧ r 6 ≤ 1 := hok.1 6 (1, 1) rfl
  have b7 : (-2147483648) ≤ r 7 ∧ r 7 ≤ 2147483647 := hok.1 7 ((-2147483648), 2147483647) rfl
  have b8 : 0 ≤ r 8 ∧ r 8 ≤ 100 := hok.1 8 (0, 100) rfl
  have b9 : 1 ≤ r 9 ∧ r 9 ≤ 1 := hok.1 9 (1, 1) rfl
  have b10 : (-2147483648) ≤ r 10 ∧ r 10 ≤ 2147483647 := hok.1 10 ((-2147483648), 2147483647) rfl
  have b11 : 0 ≤ r 11 ∧ r 11 ≤ 100 := hok.1 11 (0, 100) rfl
  have b12 : 0 ≤ r 12 ∧ r 12 ≤ 1 := hok.1 12 (0, 1) rfl
  have b13 : (-2147483648) ≤ r 13 ∧ r 13 ≤ 2147483647 := hok.1 13 ((-2147483648), 2147483647) rfl
  have b14 : 0 ≤ r 14 ∧ r 14 ≤ 100 := hok.1 14 (0, 100) rfl
  have b15 : 0 ≤ r 15 ∧ r 15 ≤ 1 := hok.1 15 (0, 1) rfl
  have b16 : (-2147483648) ≤ r 16 ∧ r 16 ≤ 2147483647 := hok.1 16 ((-2147483648), 2147483647) rfl
  have b17 : 0 ≤ r 17 ∧ r 17 ≤ 100 := hok.1 17 (0, 100) rfl
  have b18 : (-2147483648) ≤ r 18 ∧ r 18 ≤ 0 := hok.1 18 ((-2147483648), 0) rfl
  have f0 : 0 ≤ ((1 * r 3 + ((-1) * r 11 + (1 * r 4 + 0))) + (-1)) := hok.2 _ (List.mem_of_getElem? (i := 0) rfl)
  have f1 : 0 ≤ (((-1) * r 1 + (1 * r 8 + ((-1) * r 4 + 0))) + 0) := hok.2 _ (List.mem_of_getElem? (i := 1) rfl)
  obtain ⟨hG, hgi⟩ := hG
  have hG : True := hG
  have hh : g = gi := hh
  subst hh
  refine yt_dalt (by decide) (by decide) ?_
  rw [show xk_40.2.1.2.1.1.length = 18 from rfl]
  show ((0 : Int) + (-3)) = yq_cr ((1 * r 0 + 0) + 0) ((1 * r 1 + 0) + 0) ((1 * r 2 + 0) + 0) ((1 * r 3 + 0) + 0) ((1 * r 4 + 0) + 0) (yq_at ((1 * r 0 + 0) + 0) ((1 * ((1 * r 6 + 0) + 0) + 0) + 0) ((1 * ((1 * r 9 + 0) + 0) + 0) + 0) ((1 * ((1 * r 12 + 0) + 0) + 0) + 0) ((1 * ((1 * r 15 + 0) + 0) + 0) + 0)) (yq_at ((1 * r 2 + 0) + 0) ((1 * ((1 * r 6 + 0) + 0) + 0) + 0) ((1 * ((1 * r 9 + 0) + 0) + 0) + 0) ((1 * ((1 * r 12 + 0) + 0) + 0) + 0) ((1 * ((1 * r 15 + 0) + 0) + 0) + 0)) (yq_at ((1 * r 0 + 0) + 0) ((1 * ((1 * r 8 + 0) + 0) + 0) + 0) ((1 * ((1 * r 11 + 0) + 0) + 0) + 0) ((1 * ((1 * r 14 + 0) + 0) + 0) + 0) ((1 * ((1 * r 17 + 0) + 0) + 0) + 0)) (yq_at ((1 * r 2 + 0) + 0) ((1 * ((1 * r 8 + 0) + 0) + 0) + 0) ((1 * ((1 * r 11 + 0) + 0) + 0) + 0) ((1 * ((1 * r 14 + 0) + 0) + 0) + 0) ((1 * ((1 * r 17 + 0) + 0) + 0) + 0)) ∧ (g 3) = yq_xc ((1 * r 0 + 0) + 0) ((1 * r 1 + 0) + 0) ((1 * r 2 + 0) + 0) ((1 * r 3 + 0) + 0) ((1 * r 4 + 0) + 0) 0 (yq_at ((1 * r 0 + 0) + 0) ((1 * ((1 * r 6 + 0) + 0) + 0) + 0) ((1 * ((1 * r 9 + 0) + 0) + 0) + 0) ((1 * ((1 * r 12 + 0) + 0) + 0) + 0) ((1 * ((1 * r 15 + 0) + 0) + 0) + 0)) ((1 * ((1 * r 6 + 0) + 0) + 0) + 0) (yq_at ((1 * r 0 + 0) + 0) ((1 * ((1 * r 8 + 0) + 0) + 0) + 0) ((1 * ((1 * r 11 + 0) + 0) + 0) + 0) ((1 * ((1 * r 14 + 0) + 0) + 0) + 0) ((1 * ((1 * r 17 + 0) + 0) + 0) + 0)) ((1 * ((1 * r 8 + 0) + 0) + 0) + 0) ((1 * ((1 * r 7 + 0) + 0) + 0) + 0) (yq_fat ((1 * r 0 + 0) + 0) (g0 3) (g0 5) (g0 7) (g0 9)) (g0 3) ∧ (g 5) = yq_xc ((1 * r 0 + 0) + 0) ((1 * r 1 + 0) + 0) ((1 * r 2 + 0) + 0) ((1 * r 3 + 0) + 0) ((1 * r 4 + 0) + 0) 1 (yq_at ((1 * r 0 + 0) + 0) ((1 * ((1 * r 6 + 0) + 0) + 0) + 0) ((1 * ((1 * r 9 + 0) + 0) + 0) + 0) ((1 * ((1 * r 12 + 0) + 0) + 0) + 0) ((1 * ((1 * r 15 + 0) + 0) + 0) + 0)) ((1 * ((1 * r 9 + 0) + 0) + 0) + 0) (yq_at ((1 * r 0 + 0) + 0) ((1 * ((1 * r 8 + 0) + 0) + 0) + 0) ((1 * ((1 * r 11 + 0) + 0) + 0) + 0) ((1 * ((1 * r 14 + 0) + 0) + 0) + 0) ((1 * ((1 * r 17 + 0) + 0) + 0) + 0)) ((1 * ((1 * r 11 + 0) + 0) + 0) + 0) ((1 * ((1 * r 10 + 0) + 0) + 0) + 0) (yq_fat ((1 * r 0 + 0) + 0) (g0 3) (g0 5) (g0 7) (g0 9)) (g0 5) ∧ (g 7) = yq_xc ((1 * r 0 + 0) + 0) ((1 * r 1 + 0) + 0) ((1 * r 2 + 0) + 0) ((1 * r 3 + 0) + 0) ((1 * r 4 + 0) + 0) 2 (yq_at ((1 * r 0 + 0) + 0) ((1 * ((1 * r 6 + 0) + 0) + 0) + 0) ((1 * ((1 * r 9 + 0) + 0) + 0) + 0) ((1 * ((1 * r 12 + 0) + 0) + 0) + 0) ((1 * ((1 * r 15 + 0) + 0) + 0) + 0)) ((1 * ((1 * r 12 + 0) + 0) + 0) + 0) (yq_at ((1 * r 0 + 0) + 0) ((1 * ((1 * r 8 + 0) + 0) + 0) + 0) ((1 * ((1 * r 11 + 0) + 0) + 0) + 0) ((1 * ((1 * r 14 + 0) + 0) + 0) + 0) ((1 * ((1 * r 17 + 0) + 0) + 0) + 0)) ((1 * ((1 * r 14 + 0) + 0) + 0) + 0) ((1 * ((1 * r 13 + 0) + 0) + 0) + 0) (yq_fat ((1 * r 0 + 0) + 0) (g0 3) (g0 5) (g0 7) (g0 9)) (g0 7) ∧ (g 9) = yq_xc ((1 * r 0 + 0) + 0) ((1 * r 1 + 0) + 0) ((1 * r 2 + 0) + 0) ((1 * r 3 + 0) + 0) ((1 * r 4 + 0) + 0) 3 (yq_at ((1 * r 0 + 0) + 0) ((1 * ((1 * r 6 + 0) + 0) + 0) + 0) ((1 * ((1 * r 9 + 0) + 0) + 0) + 0) ((1 * ((1 * r 12 + 0) + 0) + 0) + 0) ((1 * ((1 * r 15 + 0) + 0) + 0) + 0)) ((1 * ((1 * r 15 + 0) + 0) + 0) + 0) (yq_at ((1 * r 0 + 0) + 0) ((1 * ((1 * r 8 + 0) + 0) + 0) + 0) ((1 * ((1 * r 11 + 0) + 0) + 0) + 0) ((1 * ((1 * r 14 + 0) + 0) + 0) + 0) ((1 * ((1 * r 17 + 0) + 0) + 0) + 0)) ((1 * ((1 * r 17 + 0) + 0) + 0) + 0) ((1 * ((1 * r 16 + 0) + 0) + 0) + 0) (yq_fat ((1 * r 0 + 0) + 0) (g0 3) (g0 5) (g0 7) (g0 9)) (g0 9)
  try simp only [Int.one_mul, Int.zero_add, Int.add_zero]
  refine ⟨?_, ?_, ?_, ?_, ?_⟩
  · rw [show r 0 = 0 by omega]
    rw [show r 2 = 1 by omega]
    simp only [yq_at0, yq_at1]
    unfold yq_cr
    repeat' split
    all_goals omega
  · rw [show r 0 = 0 by omega]
    simp only [yq_at0, yq_fat0]
    unfold yq_xc
    rw [if_neg (by omega)]
    rw [hgi]
  · rw [show r 0 = 0 by omega]
    simp only [yq_at0, yq_fat0]
    unfold yq_xc
    rw [if_neg (by omega)]
    rw [hgi]
  · rw [show r 0 = 0 by omega]
    simp only [yq_at0, yq_fat0]
    unfold yq_xc
    rw [if_neg (by omega)]
    rw [hgi]
  · rw [show r 0 = 0 by omega]
    simp only [yq_at0, yq_fat0]
    unfold yq_xc
    rw [if_neg (by omega)]
    rw [hgi]
theorem xw_40_0_14 : yt_hold xT_40 xk_40 xq_40.2.2.1 xG_40 xP_40 xU_40 18 xk_40.2.1.2.2.2 (fun g0 r g => xR_40 r g0 ∧ g = g0) (1000, ([(0, 0), (0, 100), (1, 1), (0, 100), (0, 100), ((-2147483648), 2147483647), (1, 1), ((-2147483648), 2147483647), (0, 100), (1, 1), ((-2147483648), 2147483647), (0, 100), (0, 1), ((-2147483648), 2147483647), (0, 100), (0, 1), ((-2147483648), 2147483647), (0, 100), ((-2147483648), 0)], [([(4, (-1)), (3, (-1))], 101), ([(3, (-1)), (11, 1), (4, (-1))], 0), ([(1, (-1)), (8, 1), (4, (-1))], 0)]), [([(4, 1)], 0), ([(18, 1)], 0)], [], [.inr (.inr (.inl (98, 0, [([(3, 1)], 0), ([(1, 1)], 0), ([(4, 1)], 0), ([(9, 1)], 0), ([(10, 1)], 0), ([(11, 1)], 0), ([(6, 1)], 0), ([(7, 1)], 0), ([(8, 1)], 0)], [4, 5, 2, 3], [5])))]) := by
  intro g0 r gi g hok hh hars hfr hG
  have b0 : 0 ≤ r 0 ∧ r 0 ≤ 0 := hok.1 0 (0, 0) rfl
  have b1 : 0 ≤ r 1 ∧ r 1 ≤ 100 := hok.1 1 (0, 100) rfl
  have b2 : 1 ≤ r 2 ∧ r 2 ≤ 1 := hok.1 2 (1, 1) rfl
  have b3 : 0 ≤ r 3 ∧ r 3 ≤ 100 := hok.1 3 (0, 100) rfl
  have b4 : 0 ≤ r 4 ∧ r 4 ≤ 100 := hok.1 4 (0, 100) rfl
  have b5 : (-2147483648) ≤ r 5 ∧ r 5 ≤ 2147483647 := hok.1 5 ((-2147483648), 2147483647) rfl
  have b6 : 1 ≤ r 6 ∧ r 6 ≤ 1 := hok.1 6 (1, 1) rfl
  have b7 : (-2147483648) ≤ r 7 ∧ r 7 ≤ 2147483647 := hok.1 7 ((-2147483648), 2147483647) rfl
  have b8 : 0 ≤ r 8 ∧ r 8 ≤ 100 := hok.1 8 (0, 100) rfl
  have b9 : 1 ≤ r 9 ∧ r 9 ≤ 1 := hok.1 9 (1, 1) rfl
  have b10 : (-2147483648) ≤ r 10 ∧ r 10 ≤ 2147483647 := hok.1 10 ((-2147483648), 2147483647) rfl
  have b11 : 0 ≤ r 11 ∧ r 11 ≤ 100 := hok.1 11 (0, 100) rfl
  have b12 : 0 ≤ r 12 ∧ r 12 ≤ 1 := hok.1 12 (0, 1) rfl
  have b13 : (-2147483648) ≤ r 13 ∧ r 13 ≤ 2147483647 := hok.1 13 ((-2147483648), 2147483647) rfl
  have b14 : 0 ≤ r 14 ∧ r 14 ≤ 100 := hok.1 14 (0, 100) rfl
  have b15 : 0 ≤ r 15 ∧ r 15 ≤ 1 := hok.1 15 (0, 1) rfl
  have b16 : (-2147483648) ≤ r 16 ∧ r 16 ≤ 2147483647 := hok.1 16 ((-2147483648), 2147483647) rfl
  have b17 : 0 ≤ r 17 ∧ r 17 ≤ 100 := hok.1 17 (0, 100) rfl
  have b18 : (-2147483648) ≤ r 18 ∧ r 18 ≤ 0 := hok.1 18 ((-2147483648), 0) rfl
  have f0 : 0 ≤ (((-1) * r 4 + ((-1) * r 3 + 0)) + 101) := hok.2 _ (List.mem_of_getElem? (i := 0) rfl)
  have f1 : 0 ≤ (((-1) * r 3 + (1 * r 11 + ((-1) * r 4 + 0))) + 0) := hok.2 _ (List.mem_of_getElem? (i := 1) rfl)
  have f2 : 0 ≤ (((-1) * r 1 + (1 * r 8 + ((-1) * r 4 + 0))) + 0) := hok.2 _ (List.mem_of_getElem? (i := 2) rfl)
  obtain ⟨hG, hgi⟩ := hG
  have hG : True := hG
  obtain ⟨h0, hh, e0, k0⟩ := hh
  have k0 : ∀ j, j ∉ [5] → g j = h0 j := k0
  have e0 : (g 5) = yq_pa ((1 * r 3 + 0) + 0) ((1 * r 1 + 0) + 0) ((1 * r 4 + 0) + 0) ((1 * r 10 + 0) + 0) (h0 3) (h0 5) := e0
  have hh : h0 = gi := hh
  subst hh
  refine yt_dalt (by decide) (by decide) ?_
  rw [show xk_40.2.1.2.1.1.length = 18 from rfl]
  show ((1 * r 4 + 0) + 0) = yq_cr ((1 * r 0 + 0) + 0) ((1 * r 1 + 0) + 0) ((1 * r 2 + 0) + 0) ((1 * r 3 + 0) + 0) ((1 * r 4 + 0) + 0) (yq_at ((1 * r 0 + 0) + 0) ((1 * ((1 * r 6 + 0) + 0) + 0) + 0) ((1 * ((1 * r 9 + 0) + 0) + 0) + 0) ((1 * ((1 * r 12 + 0) + 0) + 0) + 0) ((1 * ((1 * r 15 + 0) + 0) + 0) + 0)) (yq_at ((1 * r 2 + 0) + 0) ((1 * ((1 * r 6 + 0) + 0) + 0) + 0) ((1 * ((1 * r 9 + 0) + 0) + 0) + 0) ((1 * ((1 * r 12 + 0) + 0) + 0) + 0) ((1 * ((1 * r 15 + 0) + 0) + 0) + 0)) (yq_at ((1 * r 0 + 0) + 0) ((1 * ((1 * r 8 + 0) + 0) + 0) + 0) ((1 * ((1 * r 11 + 0) + 0) + 0) + 0) ((1 * ((1 * r 14 + 0) + 0) + 0) + 0) ((1 * ((1 * r 17 + 0) + 0) + 0) + 0)) (yq_at ((1 * r 2 + 0) + 0) ((1 * ((1 * r 8 + 0) + 0) + 0) + 0) ((1 * ((1 * r 11 + 0) + 0) + 0) + 0) ((1 * ((1 * r 14 + 0) + 0) + 0) + 0) ((1 * ((1 * r 17 + 0) + 0) + 0) + 0)) ∧ (g 3) = yq_xc ((1 * r 0 + 0) + 0) ((1 * r 1 + 0) + 0) ((1 * r 2 + 0) + 0) ((1 * r 3 + 0) + 0) ((1 * r 4 + 0) + 0) 0 (yq_at ((1 * r 0 + 0) + 0) ((1 * ((1 * r 6 + 0) + 0) + 0) + 0) ((1 * ((1 * r 9 + 0) + 0) + 0) + 0) ((1 * ((1 * r 12 + 0) + 0) + 0) + 0) ((1 * ((1 * r 15 + 0) + 0) + 0) + 0)) ((1 * ((1 * r 6 + 0) + 0) + 0) + 0) (yq_at ((1 * r 0 + 0) + 0) ((1 * ((1 * r 8 + 0) + 0) + 0) + 0) ((1 * ((1 * r 11 + 0) + 0) + 0) + 0) ((1 * ((1 * r 14 + 0) + 0) + 0) + 0) ((1 * ((1 * r 17 + 0) + 0) + 0) + 0)) ((1 * ((1 * r 8 + 0) + 0) + 0) + 0) ((1 * ((1 * r 7 + 0) + 0) + 0) + 0) (yq_fat ((1 * r 0 + 0) + 0) (g0 3) (g0 5) (g0 7) (g0 9)) (g0 3) ∧ (g 5) = yq_xc ((1 * r 0 + 0) + 0) ((1 * r 1 + 0) + 0) ((1 * r 2 + 0) + 0) ((1 * r 3 + 0) + 0) ((1 * r 4 + 0) + 0) 1 (yq_at ((1 * r 0 + 0) + 0) ((1 * ((1 * r 6 + 0) + 0) + 0) + 0) ((1 * ((1 * r 9 + 0) + 0) + 0) + 0) ((1 * ((1 * r 12 + 0) + 0) + 0) + 0) ((1 * ((1 * r 15 + 0) + 0) + 0) + 0)) ((1 * ((1 * r 9 + 0) + 0) + 0) + 0) (yq_at ((1 * r 0 + 0) + 0) ((1 * ((1 * r 8 + 0) + 0) + 0) + 0) ((1 * ((1 * r 11 + 0) + 0) + 0) + 0) ((1 * ((1 * r 14 + 0) + 0) + 0) + 0) ((1 * ((1 * r 17 + 0) + 0) + 0) + 0)) ((1 * ((1 * r 11 + 0) + 0) + 0) + 0) ((1 * ((1 * r 10 + 0) + 0) + 0) + 0) (yq_fat ((1 * r 0 + 0) + 0) (g0 3) (g0 5) (g0 7) (g0 9)) (g0 5) ∧ (g 7) = yq_xc ((1 * r 0 + 0) + 0) ((1 * r 1 + 0) + 0) ((1 * r 2 + 0) + 0) ((1 * r 3 + 0) + 0) ((1 * r 4 + 0) + 0) 2 (yq_at ((1 * r 0 + 0) + 0) ((1 * ((1 * r 6 + 0) + 0) + 0) + 0) ((1 * ((1 * r 9 + 0) + 0) + 0) + 0) ((1 * ((1 * r 12 + 0) + 0) + 0) + 0) ((1 * ((1 * r 15 + 0) + 0) + 0) + 0)) ((1 * ((1 * r 12 + 0) + 0) + 0) + 0) (yq_at ((1 * r 0 + 0) + 0) ((1 * ((1 * r 8 + 0) + 0) + 0) + 0) ((1 * ((1 * r 11 + 0) + 0) + 0) + 0) ((1 * ((1 * r 14 + 0) + 0) + 0) + 0) ((1 * ((1 * r 17 + 0) + 0) + 0) + 0)) ((1 * ((1 * r 14 + 0) + 0) + 0) + 0) ((1 * ((1 * r 13 + 0) + 0) + 0) + 0) (yq_fat ((1 * r 0 + 0) + 0) (g0 3) (g0 5) (g0 7) (g0 9)) (g0 7) ∧ (g 9) = yq_xc ((1 * r 0 + 0) + 0) ((1 * r 1 + 0) + 0) ((1 * r 2 + 0) + 0) ((1 * r 3 + 0) + 0) ((1 * r 4 + 0) + 0) 3 (yq_at ((1 * r 0 + 0) + 0) ((1 * ((1 * r 6 + 0) + 0) + 0) + 0) ((1 * ((1 * r 9 + 0) + 0) + 0) + 0) ((1 * ((1 * r 12 + 0) + 0) + 0) + 0) ((1 * ((1 * r 15 + 0) + 0) + 0) + 0)) ((1 * ((1 * r 15 + 0) + 0) + 0) + 0) (yq_at ((1 * r 0 + 0) + 0) ((1 * ((1 * r 8 + 0) + 0) + 0) + 0) ((1 * ((1 * r 11 + 0) + 0) + 0) + 0) ((1 * ((1 * r 14 + 0) + 0) + 0) + 0) ((1 * ((1 * r 17 + 0) + 0) + 0) + 0)) ((1 * ((1 * r 17 + 0) + 0) + 0) + 0) ((1 * ((1 * r 16 + 0) + 0) + 0) + 0) (yq_fat ((1 * r 0 + 0) + 0) (g0 3) (g0 5) (g0 7) (g0 9)) (g0 9)
  try simp only [Int.one_mul, Int.zero_add, Int.add_zero]
  try simp only [Int.one_mul, Int.zero_add, Int.add_zero] at e0
  refine ⟨?_, ?_, ?_, ?_, ?_⟩
  · rw [show r 0 = 0 by omega]
    rw [show r 2 = 1 by omega]
    simp only [yq_at0, yq_at1]
    unfold yq_cr
    repeat' split
    all_goals omega
  · rw [show r 0 = 0 by omega]
    simp only [yq_at0, yq_fat0]
    unfold yq_xc
    rw [if_neg (by omega)]
    rw [k0 3 (by decide), hgi]
  · rw [show r 0 = 0 by omega]
    simp only [yq_at0, yq_fat0]
    unfold yq_xc
    rw [if_pos (by omega), e0, hgi]
  · rw [show r 0 = 0 by omega]
    simp only [yq_at0, yq_fat0]
    unfold yq_xc
    rw [if_neg (by omega)]
    rw [k0 7 (by decide), hgi]
  · rw [show r 0 = 0 by omega]
    simp only [yq_at0, yq_fat0]
    unfold yq_xc
    rw [if_neg (by omega)]
    rw [k0 9 (by decide), hgi]
theorem xw_40_0_15 : yt_hold xT_40 xk_40 xq_40.2.2.1 xG_40 xP_40 xU_40 18 xk_40.2.1.2.2.2 (fun g0 r g => xR_40 r g0 ∧ g = g0) (1000, ([(0, 0), ((-2147483648), 2147483647), (1, 1), ((-2147483648), 2147483647), (0, 2147483647), ((-2147483648), 2147483647), (1, 1), ((-2147483648), 2147483647), (0, 100), (0, 0), ((-2147483648), 2147483647), (0, 100), (0, 1), ((-2147483648), 2147483647), (0, 100), (0, 1), ((-2147483648), 2147483647), (0, 100), ((-2147483648), 0)], []), [([], (-2)), ([(18, 1)], 0)], [], []) := by
  intro g0 r gi g hok hh hars hfr hG
  have b0 : 0 ≤ r 0 ∧ r 0 ≤ 0 := hok.1 0 (0, 0) rfl
  have b1 : (-2147483648) ≤ r 1 ∧ r 1 ≤ 2147483647 := hok.1 1 ((-2147483648), 2147483647) rfl
  have b2 : 1 ≤ r 2 ∧ r 2 ≤ 1 := hok.1 2 (1, 1) rfl
  have b3 : (-2147483648) ≤ r 3 ∧ r 3 ≤ 2147483647 := hok.1 3 ((-2147483648), 2147483647) rfl
  have b4 : 0 ≤ r 4 ∧ r 4 ≤ 2147483647 := hok.1 4 (0, 2147483647) rfl
  have b5 : (-2147483648) ≤ r 5 ∧ r 5 ≤ 2147483647 := hok.1 5 ((-2147483648), 2147483647) rfl
  have b6 : 1 ≤ r 6 ∧ r 6 ≤ 1 := hok.1 6 (1, 1) rfl
  have b7 : (-2147483648) ≤ r 7 ∧ r 7 ≤ 2147483647 := hok.1 7 ((-2147483648), 2147483647) rfl
  have b8 : 0 ≤ r 8 ∧ r 8 ≤ 100 := hok.1 8 (0, 100) rfl
  have b9 : 0 ≤ r 9 ∧ r 9 ≤ 0 := hok.1 9 (0, 0) rfl
  have b10 : (-2147483648) ≤ r 10 ∧ r 10 ≤ 2147483647 := hok.1 10 ((-2147483648), 2147483647) rfl
  have b11 : 0 ≤ r 11 ∧ r 11 ≤ 100 := hok.1 11 (0, 100) rfl
  have b12 : 0 ≤ r 12 ∧ r 12 ≤ 1 := hok.1 12 (0, 1) rfl
  have b13 : (-2147483648) ≤ r 13 ∧ r 13 ≤ 2147483647 := hok.1 13 ((-2147483648), 2147483647) rfl
  have b14 : 0 ≤ r 14 ∧ r 14 ≤ 100 := hok.1 14 (0, 100) rfl
  have b15 : 0 ≤ r 15 ∧ r 15 ≤ 1 := hok.1 15 (0, 1) rfl
  have b16 : (-2147483648) ≤ r 16 ∧ r 16 ≤ 2147483647 := hok.1 16 ((-2147483648), 2147483647) rfl
  have b17 : 0 ≤ r 17 ∧ r 17 ≤ 100 := hok.1 17 (0, 100) rfl
  have b18 : (-2147483648) ≤ r 18 ∧ r 18 ≤ 0 := hok.1 18 ((-2147483648), 0) rfl
  obtain ⟨hG, hgi⟩ := hG
  have hG : True := hG
  have hh : g = gi := hh
  subst hh
  refine yt_dalt (by decide) (by decide) ?_
  rw [show xk_40.2.1.2.1.1.length = 18 from rfl]
  show ((0 : Int) + (-2)) = yq_cr ((1 * r 0 + 0) + 0) ((1 * r 1 + 0) + 0) ((1 * r 2 + 0) + 0) ((1 * r 3 + 0) + 0) ((1 * r 4 + 0) + 0) (yq_at ((1 * r 0 + 0) + 0) ((1 * ((1 * r 6 + 0) + 0) + 0) + 0) ((1 * ((1 * r 9 + 0) + 0) + 0) + 0) ((1 * ((1 * r 12 + 0) + 0) + 0) + 0) ((1 * ((1 * r 15 + 0) + 0) + 0) + 0)) (yq_at ((1 * r 2 + 0) + 0) ((1 * ((1 * r 6 + 0) + 0) + 0) + 0) ((1 * ((1 * r 9 + 0) + 0) + 0) + 0) ((1 * ((1 * r 12 + 0) + 0) + 0) + 0) ((1 * ((1 * r 15 + 0) + 0) + 0) + 0)) (yq_at ((1 * r 0 + 0) + 0) ((1 * ((1 * r 8 + 0) + 0) + 0) + 0) ((1 * ((1 * r 11 + 0) + 0) + 0) + 0) ((1 * ((1 * r 14 + 0) + 0) + 0) + 0) ((1 * ((1 * r 17 + 0) + 0) + 0) + 0)) (yq_at ((1 * r 2 + 0) + 0) ((1 * ((1 * r 8 + 0) + 0) + 0) + 0) ((1 * ((1 * r 11 + 0) + 0) + 0) + 0) ((1 * ((1 * r 14 + 0) + 0) + 0) + 0) ((1 * ((1 * r 17 + 0) + 0) + 0) + 0)) ∧ (g 3) = yq_xc ((1 * r 0 + 0) + 0) ((1 * r 1 + 0) + 0) ((1 * r 2 + 0) + 0) ((1 * r 3 + 0) + 0) ((1 * r 4 + 0) + 0) 0 (yq_at ((1 * r 0 + 0) + 0) ((1 * ((1 * r 6 + 0) + 0) + 0) + 0) ((1 * ((1 * r 9 + 0) + 0) + 0) + 0) ((1 * ((1 * r 12 + 0) + 0) + 0) + 0) ((1 * ((1 * r 15 + 0) + 0) + 0) + 0)) ((1 * ((1 * r 6 + 0) + 0) + 0) + 0) (yq_at ((1 * r 0 + 0) + 0) ((1 * ((1 * r 8 + 0) + 0) + 0) + 0) ((1 * ((1 * r 11 + 0) + 0) + 0) + 0) ((1 * ((1 * r 14 + 0) + 0) + 0) + 0) ((1 * ((1 * r 17 + 0) + 0) + 0) + 0)) ((1 * ((1 * r 8 + 0) + 0) + 0) + 0) ((1 * ((1 * r 7 + 0) + 0) + 0) + 0) (yq_fat ((1 * r 0 + 0) + 0) (g0 3) (g0 5) (g0 7) (g0 9)) (g0 3) ∧ (g 5) = yq_xc ((1 * r 0 + 0) + 0) ((1 * r 1 + 0) + 0) ((1 * r 2 + 0) + 0) ((1 * r 3 + 0) + 0) ((1 * r 4 + 0) + 0) 1 (yq_at ((1 * r 0 + 0) + 0) ((1 * ((1 * r 6 + 0) + 0) + 0) + 0) ((1 * ((1 * r 9 + 0) + 0) + 0) + 0) ((1 * ((1 * r 12 + 0) + 0) + 0) + 0) ((1 * ((1 * r 15 + 0) + 0) + 0) + 0)) ((1 * ((1 * r 9 + 0) + 0) + 0) + 0) (yq_at ((1 * r 0 + 0) + 0) ((1 * ((1 * r 8 + 0) + 0) + 0) + 0) ((1 * ((1 * r 11 + 0) + 0) + 0) + 0) ((1 * ((1 * r 14 + 0) + 0) + 0) + 0) ((1 * ((1 * r 17 + 0) + 0) + 0) + 0)) ((1 * ((1 * r 11 + 0) + 0) + 0) + 0) ((1 * ((1 * r 10 + 0) + 0) + 0) + 0) (yq_fat ((1 * r 0 + 0) + 0) (g0 3) (g0 5) (g0 7) (g0 9)) (g0 5) ∧ (g 7) = yq_xc ((1 * r 0 + 0) + 0) ((1 * r 1 + 0) + 0) ((1 * r 2 + 0) + 0) ((1 * r 3 + 0) + 0) ((1 * r 4 + 0) + 0) 2 (yq_at ((1 * r 0 + 0) + 0) ((1 * ((1 * r 6 + 0) + 0) + 0) + 0) ((1 * ((1 * r 9 + 0) + 0) + 0) + 0) ((1 * ((1 * r 12 + 0) + 0) + 0) + 0) ((1 * ((1 * r 15 + 0) + 0) + 0) + 0)) ((1 * ((1 * r 12 + 0) + 0) + 0) + 0) (yq_at ((1 * r 0 + 0) + 0) ((1 * ((1 * r 8 + 0) + 0) + 0) + 0) ((1 * ((1 * r 11 + 0) + 0) + 0) + 0) ((1 * ((1 * r 14 + 0) + 0) + 0) + 0) ((1 * ((1 * r 17 + 0) + 0) + 0) + 0)) ((1 * ((1 * r 14 + 0) + 0) + 0) + 0) ((1 * ((1 * r 13 + 0) + 0) + 0) + 0) (yq_fat ((1 * r 0 + 0) + 0) (g0 3) (g0 5) (g0 7) (g0 9)) (g0 7) ∧ (g 9) = yq_xc ((1 * r 0 + 0) + 0) ((1 * r 1 + 0) + 0) ((1 * r 2 + 0) + 0) ((1 * r 3 + 0) + 0) ((1 * r 4 + 0) + 0) 3 (yq_at ((1 * r 0 + 0) + 0) ((1 * ((1 * r 6 + 0) + 0) + 0) + 0) ((1 * ((1 * r 9 + 0) + 0) + 0) + 0) ((1 * ((1 * r 12 + 0) + 0) + 0) + 0) ((1 * ((1 * r 15 + 0) + 0) + 0) + 0)) ((1 * ((1 * r 15 + 0) + 0) + 0) + 0) (yq_at ((1 * r 0 + 0) + 0) ((1 * ((1 * r 8 + 0) + 0) + 0) + 0) ((1 * ((1 * r 11 + 0) + 0) + 0) + 0) ((1 * ((1 * r 14 + 0) + 0) + 0) + 0) ((1 * ((1 * r 17 + 0) + 0) + 0) + 0)) ((1 * ((1 * r 17 + 0) + 0) + 0) + 0) ((1 * ((1 * r 16 + 0) + 0) + 0) + 0) (yq_fat ((1 * r 0 + 0) + 0) (g0 3) (g0 5) (g0 7) (g0 9)) (g0 9)
  try simp only [Int.one_mul, Int.zero_add, Int.add_zero]
  refine ⟨?_, ?_, ?_, ?_, ?_⟩
  · rw [show r 0 = 0 by omega]
    rw [show r 2 = 1 by omega]
    simp only [yq_at0, yq_at1]
    unfold yq_cr
    repeat' split
    all_goals omega
  · rw [show r 0 = 0 by omega]
    simp only [yq_at0, yq_fat0]
    unfold yq_xc
    rw [if_neg (by omega)]
    rw [hgi]
  · rw [show r 0 = 0 by omega]
    simp only [yq_at0, yq_fat0]
    unfold yq_xc
    rw [if_neg (by omega)]
    rw [hgi]
  · rw [show r 0 = 0 by omega]
    simp only [yq_at0, yq_fat0]
    unfold yq_xc
    rw [if_neg (by omega)]
    rw [hgi]
  · rw [show r 0 = 0 by omega]
    simp only [yq_at0, yq_fat0]
    unfold yq_xc
    rw [if_neg (by omega)]
    rw [hgi]
theorem xw_40_0_16 : yt_hold xT_40 xk_40 xq_40.2.2.1 xG_40 xP_40 xU_40 18 xk_40.2.1.2.2.2 (fun g0 r g => xR_40 r g0 ∧ g = g0) (1000, ([(0, 0), ((-2147483648), (-1)), (2, 2), ((-2147483648), 2147483647), (0, 2147483647), ((-2147483648), 2147483647), (1, 1), ((-2147483648), 2147483647), (0, 100), (0, 1), ((-2147483648), 2147483647), (0, 100), (1, 1), ((-2147483648), 2147483647), (0, 100), (0, 1), ((-2147483648), 2147483647), (0, 100), ((-2147483648), 0)], []), [([], (-3)), ([(18, 1)], 0)], [], []) := by
  intro g0 r gi g hok hh hars hfr hG
  have b0 : 0 ≤ r 0 ∧ r 0 ≤ 0 := hok.1 0 (0, 0) rfl
  have b1 : (-2147483648) ≤ r 1 ∧ r 1 ≤ (-1) := hok.1 1 ((-2147483648), (-1)) rfl
  have b2 : 2 ≤ r 2 ∧ r 2 ≤ 2 := hok.1 2 (2, 2) rfl
  have b3 : (-2147483648) ≤ r 3 ∧ r 3 ≤ 2147483647 := hok.1 3 ((-2147483648), 2147483647) rfl
  have b4 : 0 ≤ r 4 ∧ r 4 ≤ 2147483647 := hok.1 4 (0, 2147483647) rfl
  have b5 : (-2147483648) ≤ r 5 ∧ r 5 ≤ 2147483647 := hok.1 5 ((-2147483648), 2147483647) rfl
  have b6 : 1 ≤ r 6 ∧ r 6 ≤ 1 := hok.1 6 (1, 1) rfl
  have b7 : (-2147483648) ≤ r 7 ∧ r 7 ≤ 2147483647 := hok.1 7 ((-2147483648), 2147483647) rfl
  have b8 : 0 ≤ r 8 ∧ r 8 ≤ 100 := hok.1 8 (0, 100) rfl
  have b9 : 0 ≤ r 9 ∧ r 9 ≤ 1 := hok.1 9 (0, 1) rfl
  have b10 : (-2147483648) ≤ r 10 ∧ r 10 ≤ 2147483647 := hok.1 10 ((-2147483648), 2147483647) rfl
  have b11 : 0 ≤ r 11 ∧ r 11 ≤ 100 := hok.1 11 (0, 100) rfl
  have b12 : 1 ≤ r 12 ∧ r 12 ≤ 1 := hok.1 12 (1, 1) rfl
  have b13 : (-2147483648) ≤ r 13 ∧ r 13 ≤ 2147483647 := hok.1 13 ((-2147483648), 2147483647) rfl
  have b14 : 0 ≤ r 14 ∧ r 14 ≤ 100 := hok.1 14 (0, 100) rfl
  have b15 : 0 ≤ r 15 ∧ r 15 ≤ 1 := hok.1 15 (0, 1) rfl
  have b16 : (-2147483648) ≤ r 16 ∧ r 16 ≤ 2147483647 := hok.1 16 ((-2147483648), 2147483647) rfl
  have b17 : 0 ≤ r 17 ∧ r 17 ≤ 100 := hok.1 17 (0, 100) rfl
  have b18 : (-2147483648) ≤ r 18 ∧ r 18 ≤ 0 := hok.1 18 ((-2147483648), 0) rfl
  obtain ⟨hG, hgi⟩ := hG
  have hG : True := hG
  have hh : g = gi := hh
  subst hh
  refine yt_dalt (by decide) (by decide) ?_
  rw [show xk_40.2.1.2.1.1.length = 18 from rfl]
  show ((0 : Int) + (-3)) = yq_cr ((1 * r 0 + 0) + 0) ((1 * r 1 + 0) + 0) ((1 * r 2 + 0) + 0) ((1 * r 3 + 0) + 0) ((1 * r 4 + 0) + 0) (yq_at ((1 * r 0 + 0) + 0) ((1 * ((1 * r 6 + 0) + 0) + 0) + 0) ((1 * ((1 * r 9 + 0) + 0) + 0) + 0) ((1 * ((1 * r 12 + 0) + 0) + 0) + 0) ((1 * ((1 * r 15 + 0) + 0) + 0) + 0)) (yq_at ((1 * r 2 + 0) + 0) ((1 * ((1 * r 6 + 0) + 0) + 0) + 0) ((1 * ((1 * r 9 + 0) + 0) + 0) + 0) ((1 * ((1 * r 12 + 0) + 0) + 0) + 0) ((1 * ((1 * r 15 + 0) + 0) + 0) + 0)) (yq_at ((1 * r 0 + 0) + 0) ((1 * ((1 * r 8 + 0) + 0) + 0) + 0) ((1 * ((1 * r 11 + 0) + 0) + 0) + 0) ((1 * ((1 * r 14 + 0) + 0) + 0) + 0) ((1 * ((1 * r 17 + 0) + 0) + 0) + 0)) (yq_at ((1 * r 2 + 0) + 0) ((1 * ((1 * r 8 + 0) + 0) + 0) + 0) ((1 * ((1 * r 11 + 0) + 0) + 0) + 0) ((1 * ((1 * r 14 + 0) + 0) + 0) + 0) ((1 * ((1 * r 17 + 0) + 0) + 0) + 0)) ∧ (g 3) = yq_xc ((1 * r 0 + 0) + 0) ((1 * r 1 + 0) + 0) ((1 * r 2 + 0) + 0) ((1 * r 3 + 0) + 0) ((1 * r 4 + 0) + 0) 0 (yq_at ((1 * r 0 + 0) + 0) ((1 * ((1 * r 6 + 0) + 0) + 0) + 0) ((1 * ((1 * r 9 + 0) + 0) + 0) + 0) ((1 * ((1 * r 12 + 0) + 0) + 0) + 0) ((1 * ((1 * r 15 + 0) + 0) + 0) + 0)) ((1 * ((1 * r 6 + 0) + 0) + 0) + 0) (yq_at ((1 * r 0 + 0) + 0) ((1 * ((1 * r 8 + 0) + 0) + 0) + 0) ((1 * ((1 * r 11 + 0) + 0) + 0) + 0) ((1 * ((1 * r 14 + 0) + 0) + 0) + 0) ((1 * ((1 * r 17 + 0) + 0) + 0) + 0)) ((1 * ((1 * r 8 + 0) + 0) + 0) + 0) ((1 * ((1 * r 7 + 0) + 0) + 0) + 0) (yq_fat ((1 * r 0 + 0) + 0) (g0 3) (g0 5) (g0 7) (g0 9)) (g0 3) ∧ (g 5) = yq_xc ((1 * r 0 + 0) + 0) ((1 * r 1 + 0) + 0) ((1 * r 2 + 0) + 0) ((1 * r 3 + 0) + 0) ((1 * r 4 + 0) + 0) 1 (yq_at ((1 * r 0 + 0) + 0) ((1 * ((1 * r 6 + 0) + 0) + 0) + 0) ((1 * ((1 * r 9 + 0) + 0) + 0) + 0) ((1 * ((1 * r 12 + 0) + 0) + 0) + 0) ((1 * ((1 * r 15 + 0) + 0) + 0) + 0)) ((1 * ((1 * r 9 + 0) + 0) + 0) + 0) (yq_at ((1 * r 0 + 0) + 0) ((1 * ((1 * r 8 + 0) + 0) + 0) + 0) ((1 * ((1 * r 11 + 0) + 0) + 0) + 0) ((1 * ((1 * r 14 + 0) + 0) + 0) + 0) ((1 * ((1 * r 17 + 0) + 0) + 0) + 0)) ((1 * ((1 * r 11 + 0) + 0) + 0) + 0) ((1 * ((1 * r 10 + 0) + 0) + 0) + 0) (yq_fat ((1 * r 0 + 0) + 0) (g0 3) (g0 5) (g0 7) (g0 9)) (g0 5) ∧ (g 7) = yq_xc ((1 * r 0 + 0) + 0) ((1 * r 1 + 0) + 0) ((1 * r 2 + 0) + 0) ((1 * r 3 + 0) + 0) ((1 * r 4 + 0) + 0) 2 (yq_at ((1 * r 0 + 0) + 0) ((1 * ((1 * r 6 + 0) + 0) + 0) + 0) ((1 * ((1 * r 9 + 0) + 0) + 0) + 0) ((1 * ((1 * r 12 + 0) + 0) + 0) + 0) ((1 * ((1 * r 15 + 0) + 0) + 0) + 0)) ((1 * ((1 * r 12 + 0) + 0) + 0) + 0) (yq_at ((1 * r 0 + 0) + 0) ((1 * ((1 * r 8 + 0) + 0) + 0) + 0) ((1 * ((1 * r 11 + 0) + 0) + 0) + 0) ((1 * ((1 * r 14 + 0) + 0) + 0) + 0) ((1 * ((1 * r 17 + 0) + 0) + 0) + 0)) ((1 * ((1 * r 14 + 0) + 0) + 0) + 0) ((1 * ((1 * r 13 + 0) + 0) + 0) + 0) (yq_fat ((1 * r 0 + 0) + 0) (g0 3) (g0 5) (g0 7) (g0 9)) (g0 7) ∧ (g 9) = yq_xc ((1 * r 0 + 0) + 0) ((1 * r 1 + 0) + 0) ((1 * r 2 + 0) + 0) ((1 * r 3 + 0) + 0) ((1 * r 4 + 0) + 0) 3 (yq_at ((1 * r 0 + 0) + 0) ((1 * ((1 * r 6 + 0) + 0) + 0) + 0) ((1 * ((1 * r 9 + 0) + 0) + 0) + 0) ((1 * ((1 * r 12 + 0) + 0) + 0) + 0) ((1 * ((1 * r 15 + 0) + 0) + 0) + 0)) ((1 * ((1 * r 15 + 0) + 0) + 0) + 0) (yq_at ((1 * r 0 + 0) + 0) ((1 * ((1 * r 8 + 0) + 0) + 0) + 0) ((1 * ((1 * r 11 + 0) + 0) + 0) + 0) ((1 * ((1 * r 14 + 0) + 0) + 0) + 0) ((1 * ((1 * r 17 + 0) + 0) + 0) + 0)) ((1 * ((1 * r 17 + 0) + 0) + 0) + 0) ((1 * ((1 * r 16 + 0) + 0) + 0) + 0) (yq_fat ((1 * r 0 + 0) + 0) (g0 3) (g0 5) (g0 7) (g0 9)) (g0 9)
  try simp only [Int.one_mul, Int.zero_add, Int.add_zero]
  refine ⟨?_, ?_, ?_, ?_, ?_⟩
  · rw [show r 0 = 0 by omega]
    rw [show r 2 = 2 by omega]
    simp only [yq_at0, yq_at2]
    unfold yq_cr
    repeat' split
    all_goals omega
  · rw [show r 0 = 0 by omega]
    simp only [yq_at0, yq_fat0]
    unfold yq_xc
    rw [if_neg (by omega)]
    rw [hgi]
  · rw [show r 0 = 0 by omega]
    simp only [yq_at0, yq_fat0]
    unfold yq_xc
    rw [if_neg (by omega)]
    rw [hgi]
  · rw [show r 0 = 0 by omega]
    simp only [yq_at0, yq_fat0]
    unfold yq_xc
    rw [if_neg (by omega)]
    rw [hgi]
  · rw [show r 0 = 0 by omega]
    simp only [yq_at0, yq_fat0]
    unfold yq_xc
    rw [if_neg (by omega)]
    rw [hgi]
theorem xw_40_0_17 : yt_hold xT_40 xk_40 xq_40.2.2.1 xG_40 xP_40 xU_40 18 xk_40.2.1.2.2.2 (fun g0 r g => xR_40 r g0 ∧ g = g0) (1000, ([(0, 0), (0, 2147483647), (2, 2), ((-2147483648), 2147483647), (0, 2147483647), ((-2147483648), 2147483647), (1, 1), ((-2147483648), 2147483647), (0, 100), (0, 1), ((-2147483648), 2147483647), (0, 100), (1, 1), ((-2147483648), 2147483647), (0, 100), (0, 1), ((-2147483648), 2147483647), (0, 100), ((-2147483648), 0)], [([(1, 1), (8, (-1)), (4, 1)], (-1))]), [([], (-3)), ([(18, 1)], 0)], [], []) := by
  intro g0 r gi g hok hh hars hfr hG
  have b0 : 0 ≤ r 0 ∧ r 0 ≤ 0 := hok.1 0 (0, 0) rfl
  have b1 : 0 ≤ r 1 ∧ r 1 ≤ 2147483647 := hok.1 1 (0, 2147483647) rfl
  have b2 : 2 ≤ r 2 ∧ r 2 ≤ 2 := hok.1 2 (2, 2) rfl
  have b3 : (-2147483648) ≤ r 3 ∧ r 3 ≤ 2147483647 := hok.1 3 ((-2147483648), 2147483647) rfl
  have b4 : 0 ≤ r 4 ∧ r 4 ≤ 2147483647 := hok.1 4 (0, 2147483647) rfl
  have b5 : (-2147483648) ≤ r 5 ∧ r 5 ≤ 2147483647 := hok.1 5 ((-2147483648), 2147483647) rfl
  have b6 : 1 ≤ r 6 ∧ r 6 ≤ 1 := hok.1 6 (1, 1) rfl
  have b7 : (-2147483648) ≤ r 7 ∧ r 7 ≤ 2147483647 := hok.1 7 ((-2147483648), 2147483647) rfl
  have b8 : 0 ≤ r 8 ∧ r 8 ≤ 100 := hok.1 8 (0, 100) rfl
  have b9 : 0 ≤ r 9 ∧ r 9 ≤ 1 := hok.1 9 (0, 1) rfl
  have b10 : (-2147483648) ≤ r 10 ∧ r 10 ≤ 2147483647 := hok.1 10 ((-2147483648), 2147483647) rfl
  have b11 : 0 ≤ r 11 ∧ r 11 ≤ 100 := hok.1 11 (0, 100) rfl
  have b12 : 1 ≤ r 12 ∧ r 12 ≤ 1 := hok.1 12 (1, 1) rfl
  have b13 : (-2147483648) ≤ r 13 ∧ r 13 ≤ 2147483647 := hok.1 13 ((-2147483648), 2147483647) rfl
  have b14 : 0 ≤ r 14 ∧ r 14 ≤ 100 := hok.1 14 (0, 100) rfl
  have b15 : 0 ≤ r 15 ∧ r 15 ≤ 1 := hok.1 15 (0, 1) rfl
  have b16 : (-2147483648) ≤ r 16 ∧ r 16 ≤ 2147483647 := hok.1 16 ((-2147483648), 2147483647) rfl
  have b17 : 0 ≤ r 17 ∧ r 17 ≤ 100 := hok.1 17 (0, 100) rfl
  have b18 : (-2147483648) ≤ r 18 ∧ r 18 ≤ 0 := hok.1 18 ((-2147483648), 0) rfl
  have f0 : 0 ≤ ((1 * r 1 + ((-1) * r 8 + (1 * r 4 + 0))) + (-1)) := hok.2 _ (List.mem_of_getElem? (i := 0) rfl)
  obtain ⟨hG, hgi⟩ := hG
  have hG : True := hG
  have hh : g = gi := hh
  subst hh
  refine yt_dalt (by decide) (by decide) ?_
  rw [show xk_40.2.1.2.1.1.length = 18 from rfl]
  show ((0 : Int) + (-3)) = yq_cr ((1 * r 0 + 0) + 0) ((1 * r 1 + 0) + 0) ((1 * r 2 + 0) + 0) ((1 * r 3 + 0) + 0) ((1 * r 4 + 0) + 0) (yq_at ((1 * r 0 + 0) + 0) ((1 * ((1 * r 6 + 0) + 0) + 0) + 0) ((1 * ((1 * r 9 + 0) + 0) + 0) + 0) ((1 * ((1 * r 12 + 0) + 0) + 0) + 0) ((1 * ((1 * r 15 + 0) + 0) + 0) + 0)) (yq_at ((1 * r 2 + 0) + 0) ((1 * ((1 * r 6 + 0) + 0) + 0) + 0) ((1 * ((1 * r 9 + 0) + 0) + 0) + 0) ((1 * ((1 * r 12 + 0) + 0) + 0) + 0) ((1 * ((1 * r 15 + 0) + 0) + 0) + 0)) (yq_at ((1 * r 0 + 0) + 0) ((1 * ((1 * r 8 + 0) + 0) + 0) + 0) ((1 * ((1 * r 11 + 0) + 0) + 0) + 0) ((1 * ((1 * r 14 + 0) + 0) + 0) + 0) ((1 * ((1 * r 17 + 0) + 0) + 0) + 0)) (yq_at ((1 * r 2 + 0) + 0) ((1 * ((1 * r 8 + 0) + 0) + 0) + 0) ((1 * ((1 * r 11 + 0) + 0) + 0) + 0) ((1 * ((1 * r 14 + 0) + 0) + 0) + 0) ((1 * ((1 * r 17 + 0) + 0) + 0) + 0)) ∧ (g 3) = yq_xc ((1 * r 0 + 0) + 0) ((1 * r 1 + 0) + 0) ((1 * r 2 + 0) + 0) ((1 * r 3 + 0) + 0) ((1 * r 4 + 0) + 0) 0 (yq_at ((1 * r 0 + 0) + 0) ((1 * ((1 * r 6 + 0) + 0) + 0) + 0) ((1 * ((1 * r 9 + 0) + 0) + 0) + 0) ((1 * ((1 * r 12 + 0) + 0) + 0) + 0) ((1 * ((1 * r 15 + 0) + 0) + 0) + 0)) ((1 * ((1 * r 6 + 0) + 0) + 0) + 0) (yq_at ((1 * r 0 + 0) + 0) ((1 * ((1 * r 8 + 0) + 0) + 0) + 0) ((1 * ((1 * r 11 + 0) + 0) + 0) + 0) ((1 * ((1 * r 14 + 0) + 0) + 0) + 0) ((1 * ((1 * r 17 + 0) + 0) + 0) + 0)) ((1 * ((1 * r 8 + 0) + 0) + 0) + 0) ((1 * ((1 * r 7 + 0) + 0) + 0) + 0) (yq_fat ((1 * r 0 + 0) + 0) (g0 3) (g0 5) (g0 7) (g0 9)) (g0 3) ∧ (g 5) = yq_xc ((1 * r 0 + 0) + 0) ((1 * r 1 + 0) + 0) ((1 * r 2 + 0) + 0) ((1 * r 3 + 0) + 0) ((1 * r 4 + 0) + 0) 1 (yq_at ((1 * r 0 + 0) + 0) ((1 * ((1 * r 6 + 0) + 0) + 0) + 0) ((1 * ((1 * r 9 + 0) + 0) + 0) + 0) ((1 * ((1 * r 12 + 0) + 0) + 0) + 0) ((1 * ((1 * r 15 + 0) + 0) + 0) + 0)) ((1 * ((1 * r 9 + 0) + 0) + 0) + 0) (yq_at ((1 * r 0 + 0) + 0) ((1 * ((1 * r 8 + 0) + 0) + 0) + 0) ((1 * ((1 * r 11 + 0) + 0) + 0) + 0) ((1 * ((1 * r 14 + 0) + 0) + 0) + 0) ((1 * ((1 * r 17 + 0) + 0) + 0) + 0)) ((1 * ((1 * r 11 + 0) + 0) + 0) + 0) ((1 * ((1 * r 10 + 0) + 0) + 0) + 0) (yq_fat ((1 * r 0 + 0) + 0) (g0 3) (g0 5) (g0 7) (g0 9)) (g0 5) ∧ (g 7) = yq_xc ((1 * r 0 + 0) + 0) ((1 * r 1 + 0) + 0) ((1 * r 2 + 0) + 0) ((1 * r 3 + 0) + 0) ((1 * r 4 + 0) + 0) 2 (yq_at ((1 * r 0 + 0) + 0) ((1 * ((1 * r 6 + 0) + 0) + 0) + 0) ((1 * ((1 * r 9 + 0) + 0) + 0) + 0) ((1 * ((1 * r 12 + 0) + 0) + 0) + 0) ((1 * ((1 * r 15 + 0) + 0) + 0) + 0)) ((1 * ((1 * r 12 + 0) + 0) + 0) + 0) (yq_at ((1 * r 0 + 0) + 0) ((1 * ((1 * r 8 + 0) + 0) + 0) + 0) ((1 * ((1 * r 11 + 0) + 0) + 0) + 0) ((1 * ((1 * r 14 + 0) + 0) + 0) + 0) ((1 * ((1 * r 17 + 0) + 0) + 0) + 0)) ((1 * ((1 * r 14 + 0) + 0) + 0) + 0) ((1 * ((1 * r 13 + 0) + 0) + 0) + 0) (yq_fat ((1 * r 0 + 0) + 0) (g0 3) (g0 5) (g0 7) (g0 9)) (g0 7) ∧ (g 9) = yq_xc ((1 * r 0 + 0) + 0) ((1 * r 1 + 0) + 0) ((1 * r 2 + 0) + 0) ((1 * r 3 + 0) + 0) ((1 * r 4 + 0) + 0) 3 (yq_at ((1 * r 0 + 0) + 0) ((1 * ((1 * r 6 + 0) + 0) + 0) + 0) ((1 * ((1 * r 9 + 0) + 0) + 0) + 0) ((1 * ((1 * r 12 + 0) + 0) + 0) + 0) ((1 * ((1 * r 15 + 0) + 0) + 0) + 0)) ((1 * ((1 * r 15 + 0) + 0) + 0) + 0) (yq_at ((1 * r 0 + 0) + 0) ((1 * ((1 * r 8 + 0) + 0) + 0) + 0) ((1 * ((1 * r 11 + 0) + 0) + 0) + 0) ((1 * ((1 * r 14 + 0) + 0) + 0) + 0) ((1 * ((1 * r 17 + 0) + 0) + 0) + 0)) ((1 * ((1 * r 17 + 0) + 0) + 0) + 0) ((1 * ((1 * r 16 + 0) + 0) + 0) + 0) (yq_fat ((1 * r 0 + 0) + 0) (g0 3) (g0 5) (g0 7) (g0 9)) (g0 9)
  try simp only [Int.one_mul, Int.zero_add, Int.add_zero]
  refine ⟨?_, ?_, ?_, ?_, ?_⟩
  · rw [show r 0 = 0 by omega]
    rw [show r 2 = 2 by omega]
    simp only [yq_at0, yq_at2]
    unfold yq_cr
    repeat' split
    all_goals omega
  · rw [show r 0 = 0 by omega]
    simp only [yq_at0, yq_fat0]
    unfold yq_xc
    rw [if_neg (by omega)]
    rw [hgi]
  · rw [show r 0 = 0 by omega]
    simp only [yq_at0, yq_fat0]
    unfold yq_xc
    rw [if_neg (by omega)]
    rw [hgi]
  · rw [show r 0 = 0 by omega]
    simp only [yq_at0, yq_fat0]
    unfold yq_xc
    rw [if_neg (by omega)]
    rw [hgi]
  · rw [show r 0 = 0 by omega]
    simp only [yq_at0, yq_fat0]
    unfold yq_xc
    rw [if_neg (by omega)]
    rw [hgi]
theorem xw_40_0_18 : yt_hold xT_40 xk_40 xq_40.2.2.1 xG_40 xP_40 xU_40 18 xk_40.2.1.2.2.2 (fun g0 r g => xR_40 r g0 ∧ g = g0) (1000, ([(0, 0), (0, 100), (2, 2), ((-2147483648), (-1)), (0, 100), ((-2147483648), 2147483647), (1, 1), ((-2147483648), 2147483647), (0, 100), (0, 1), ((-2147483648), 2147483647), (0, 100), (1, 1), ((-2147483648), 2147483647), (0, 100), (0, 1), ((-2147483648), 2147483647), (0, 100), ((-2147483648), 0)], [([(1, (-1)), (8, 1), (4, (-1))], 0)]), [([], (-3)), ([(18, 1)], 0)], [], []) := by
  intro g0 r gi g hok hh hars hfr hG
  have b0 : 0 ≤ r 0 ∧ r 0 ≤ 0 := hok.1 0 (0, 0) rfl
  have b1 : 0 ≤ r 1 ∧ r 1 ≤ 100 := hok.1 1 (0, 100) rfl
  have b2 : 2 ≤ r 2 ∧ r 2 ≤ 2 := hok.1 2 (2, 2) rfl
  have b3 : (-2147483648) ≤ r 3 ∧ r 3 ≤ (-1) := hok.1 3 ((-2147483648), (-1)) rfl
  have b4 : 0 ≤ r 4 ∧ r 4 ≤ 100 := hok.1 4 (0, 100) rfl
  have b5 : (-2147483648) ≤ r 5 ∧ r 5 ≤ 2147483647 := hok.1 5 ((-2147483648), 2147483647) rfl
  have b6 : 1 ≤ r 6 ∧ r 6 ≤ 1 := hok.1 6 (1, 1) rfl
  have b7 : (-2147483648) ≤ r 7 ∧ r 7 ≤ 2147483647 := hok.1 7 ((-2147483648), 2147483647) rfl
  have b8 : 0 ≤ r 8 ∧ r 8 ≤ 100 := hok.1 8 (0, 100) rfl
  have b9 : 0 ≤ r 9 ∧ r 9 ≤ 1 := hok.1 9 (0, 1) rfl
  have b10 : (-2147483648) ≤ r 10 ∧ r 10 ≤ 2147483647 := hok.1 10 ((-2147483648), 2147483647) rfl
  have b11 : 0 ≤ r 11 ∧ r 11 ≤ 100 := hok.1 11 (0, 100) rfl
  have b12 : 1 ≤ r 12 ∧ r 12 ≤ 1 := hok.1 12 (1, 1) rfl
  have b13 : (-2147483648) ≤ r 13 ∧ r 13 ≤ 2147483647 := hok.1 13 ((-2147483648), 2147483647) rfl
  have b14 : 0 ≤ r 14 ∧ r 14 ≤ 100 := hok.1 14 (0, 100) rfl
  have b15 : 0 ≤ r 15 ∧ r 15 ≤ 1 := hok.1 15 (0, 1) rfl
  have b16 : (-2147483648) ≤ r 16 ∧ r 16 ≤ 2147483647 := hok.1 16 ((-2147483648), 2147483647) rfl
  have b17 : 0 ≤ r 17 ∧ r 17 ≤ 100 := hok.1 17 (0, 100) rfl
  have b18 : (-2147483648) ≤ r 18 ∧ r 18 ≤ 0 := hok.1 18 ((-2147483648), 0) rfl
  have f0 : 0 ≤ (((-1) * r 1 + (1 * r 8 + ((-1) * r 4 + 0))) + 0) := hok.2 _ (List.mem_of_getElem? (i := 0) rfl)
  obtain ⟨hG, hgi⟩ := hG
  have hG : True := hG
  have hh : g = gi := hh
  subst hh
  refine yt_dalt (by decide) (by decide) ?_
  rw [show xk_40.2.1.2.1.1.length = 18 from rfl]
  show ((0 : Int) + (-3)) = yq_cr ((1 * r 0 + 0) + 0) ((1 * r 1 + 0) + 0) ((1 * r 2 + 0) + 0) ((1 * r 3 + 0) + 0) ((1 * r 4 + 0) + 0) (yq_at ((1 * r 0 + 0) + 0) ((1 * ((1 * r 6 + 0) + 0) + 0) + 0) ((1 * ((1 * r 9 + 0) + 0) + 0) + 0) ((1 * ((1 * r 12 + 0) + 0) + 0) + 0) ((1 * ((1 * r 15 + 0) + 0) + 0) + 0)) (yq_at ((1 * r 2 + 0) + 0) ((1 * ((1 * r 6 + 0) + 0) + 0) + 0) ((1 * ((1 * r 9 + 0) + 0) + 0) + 0) ((1 * ((1 * r 12 + 0) + 0) + 0) + 0) ((1 * ((1 * r 15 + 0) + 0) + 0) + 0)) (yq_at ((1 * r 0 + 0) + 0) ((1 * ((1 * r 8 + 0) + 0) + 0) + 0) ((1 * ((1 * r 11 + 0) + 0) + 0) + 0) ((1 * ((1 * r 14 + 0) + 0) + 0) + 0) ((1 * ((1 * r 17 + 0) + 0) + 0) + 0)) (yq_at ((1 * r 2 + 0) + 0) ((1 * ((1 * r 8 + 0) + 0) + 0) + 0) ((1 * ((1 * r 11 + 0) + 0) + 0) + 0) ((1 * ((1 * r 14 + 0) + 0) + 0) + 0) ((1 * ((1 * r 17 + 0) + 0) + 0) + 0)) ∧ (g 3) = yq_xc ((1 * r 0 + 0) + 0) ((1 * r 1 + 0) + 0) ((1 * r 2 + 0) + 0) ((1 * r 3 + 0) + 0) ((1 * r 4 + 0) + 0) 0 (yq_at ((1 * r 0 + 0) + 0) ((1 * ((1 * r 6 + 0) + 0) + 0) + 0) ((1 * ((1 * r 9 + 0) + 0) + 0) + 0) ((1 * ((1 * r 12 + 0) + 0) + 0) + 0) ((1 * ((1 * r 15 + 0) + 0) + 0) + 0)) ((1 * ((1 * r 6 + 0) + 0) + 0) + 0) (yq_at ((1 * r 0 + 0) + 0) ((1 * ((1 * r 8 + 0) + 0) + 0) + 0) ((1 * ((1 * r 11 + 0) + 0) + 0) + 0) ((1 * ((1 * r 14 + 0) + 0) + 0) + 0) ((1 * ((1 * r 17 + 0) + 0) + 0) + 0)) ((1 * ((1 * r 8 + 0) + 0) + 0) + 0) ((1 * ((1 * r 7 + 0) + 0) + 0) + 0) (yq_fat ((1 * r 0 + 0) + 0) (g0 3) (g0 5) (g0 7) (g0 9)) (g0 3) ∧ (g 5) = yq_xc ((1 * r 0 + 0) + 0) ((1 * r 1 + 0) + 0) ((1 * r 2 + 0) + 0) ((1 * r 3 + 0) + 0) ((1 * r 4 + 0) + 0) 1 (yq_at ((1 * r 0 + 0) + 0) ((1 * ((1 * r 6 + 0) + 0) + 0) + 0) ((1 * ((1 * r 9 + 0) + 0) + 0) + 0) ((1 * ((1 * r 12 + 0) + 0) + 0) + 0) ((1 * ((1 * r 15 + 0) + 0) + 0) + 0)) ((1 * ((1 * r 9 + 0) + 0) + 0) + 0) (yq_at ((1 * r 0 + 0) + 0) ((1 * ((1 * r 8 + 0) + 0) + 0) + 0) ((1 * ((1 * r 11 + 0) + 0) + 0) + 0) ((1 * ((1 * r 14 + 0) + 0) + 0) + 0) ((1 * ((1 * r 17 + 0) + 0) + 0) + 0)) ((1 * ((1 * r 11 + 0) + 0) + 0) + 0) ((1 * ((1 * r 10 + 0) + 0) + 0) + 0) (yq_fat ((1 * r 0 + 0) + 0) (g0 3) (g0 5) (g0 7) (g0 9)) (g0 5) ∧ (g 7) = yq_xc ((1 * r 0 + 0) + 0) ((1 * r 1 + 0) + 0) ((1 * r 2 + 0) + 0) ((1 * r 3 + 0) + 0) ((1 * r 4 + 0) + 0) 2 (yq_at ((1 * r 0 + 0) + 0) ((1 * ((1 * r 6 + 0) + 0) + 0) + 0) ((1 * ((1 * r 9 + 0) + 0) + 0) + 0) ((1 * ((1 * r 12 + 0) + 0) + 0) + 0) ((1 * ((1 * r 15 + 0) + 0) + 0) + 0)) ((1 * ((1 * r 12 + 0) + 0) + 0) + 0) (yq_at ((1 * r 0 + 0) + 0) ((1 * ((1 * r 8 + 0) + 0) + 0) + 0) ((1 * ((1 * r 11 + 0) + 0) + 0) + 0) ((1 * ((1 * r 14 + 0) + 0) + 0) + 0) ((1 * ((1 * r 17 + 0) + 0) + 0) + 0)) ((1 * ((1 * r 14 + 0) + 0) + 0) + 0) ((1 * ((1 * r 13 + 0) + 0) + 0) + 0) (yq_fat ((1 * r 0 + 0) + 0) (g0 3) (g0 5) (g0 7) (g0 9)) (g0 7) ∧ (g 9) = yq_xc ((1 * r 0 + 0) + 0) ((1 * r 1 + 0) + 0) ((1 * r 2 + 0) + 0) ((1 * r 3 + 0) + 0) ((1 * r 4 + 0) + 0) 3 (yq_at ((1 * r 0 + 0) + 0) ((1 * ((1 * r 6 + 0) + 0) + 0) + 0) ((1 * ((1 * r 9 + 0) + 0) + 0) + 0) ((1 * ((1 * r 12 + 0) + 0) + 0) + 0) ((1 * ((1 * r 15 + 0) + 0) + 0) + 0)) ((1 * ((1 * r 15 + 0) + 0) + 0) + 0) (yq_at ((1 * r 0 + 0) + 0) ((1 * ((1 * r 8 + 0) + 0) + 0) + 0) ((1 * ((1 * r 11 + 0) + 0) + 0) + 0) ((1 * ((1 * r 14 + 0) + 0) + 0) + 0) ((1 * ((1 * r 17 + 0) + 0) + 0) + 0)) ((1 * ((1 * r 17 + 0) + 0) + 0) + 0) ((1 * ((1 * r 16 + 0) + 0) + 0) + 0) (yq_fat ((1 * r 0 + 0) + 0) (g0 3) (g0 5) (g0 7) (g0 9)) (g0 9)
  try simp only [Int.one_mul, Int.zero_add, Int.add_zero]
  refine ⟨?_, ?_, ?_, ?_, ?_⟩
  · rw [show r 0 = 0 by omega]
    rw [show r 2 = 2 by omega]
    simp only [yq_at0, yq_at2]
    unfold yq_cr
    repeat' split
    all_goals omega
  · rw [show r 0 = 0 by omega]
    simp only [yq_at0, yq_fat0]
    unfold yq_xc
    rw [if_neg (by omega)]
    rw [hgi]
  · rw [show r 0 = 0 by omega]
    simp only [yq_at0, yq_fat0]
    unfold yq_xc
    rw [if_neg (by omega)]
    rw [hgi]
  · rw [show r 0 = 0 by omega]
    simp only [yq_at0, yq_fat0]
    unfold yq_xc
    rw [if_neg (by omega)]
    rw [hgi]
  · rw [show r 0 = 0 by omega]
    simp only [yq_at0, yq_fat0]
    unfold yq_xc
    rw [if_neg (by omega)]
    rw [hgi]
theorem xw_40_0_19 : yt_hold xT_40 xk_40 xq_40.2.2.1 xG_40 xP_40 xU_40 18 xk_40.2.1.2.2.2 (fun g0 r g => xR_40 r g0 ∧ g = g0) (1000, ([(0, 0), (0, 100), (2, 2), (0, 2147483647), (0, 100), ((-2147483648), 2147483647), (1, 1), ((-2147483648), 2147483647), (0, 100), (0, 1), ((-2147483648), 2147483647), (0, 100), (1, 1), ((-2147483648), 2147483647), (0, 100), (0, 1), ((-2147483648), 2147483647), (0, 100), ((-2147483648), 0)], [([(3, 1), (14, (-1)), (4, 1)], (-1)), ([(1, (-1)), (8, 1), (4, (-1))], 0)]), [([], (-3)), ([(18, 1)], 0)], [], []) := by
  intro g0 r gi g hok hh hars hfr hG
  have b0 : 0 ≤ r 0 ∧ r 0 ≤ 0 := hok.1 0 (0, 0) rfl
  have b1 : 0 ≤ r 1 ∧ r 1 ≤ 100 := hok.1 1 (0, 100) rfl
  have b2 : 2 ≤ r 2 ∧ r 2 ≤ 2 := hok.1 2 (2, 2) rfl
  have b3 : 0 ≤ r 3 ∧ r 3 ≤ 2147483647 := hok.1 3 (0, 2147483647) rfl
  have b4 : 0 ≤ r 4 ∧ r 4 ≤ 100 := hok.1 4 (0, 100) rfl
  have b5 : (-2147483648) ≤ r 5 ∧ r 5 ≤ 2147483647 := hok.1 5 ((-2147483648), 2147483647) rfl
  have b6 : 1 ≤ r 6 ∧ r 6 ≤ 1 := hok.1 6 (1, 1) rfl
  have b7 : (-2147483648) ≤ r 7 ∧ r 7 ≤ 2147483647 := hok.1 7 ((-2147483648), 2147483647) rfl
  have b8 : 0 ≤ r 8 ∧ r 8 ≤ 100 := hok.1 8 (0, 100) rfl
  have b9 : 0 ≤ r 9 ∧ r 9 ≤ 1 := hok.1 9 (0, 1) rfl
  have b10 : (-2147483648) ≤ r 10 ∧ r 10 ≤ 2147483647 := hok.1 10 ((-2147483648), 2147483647) rfl
  have b11 : 0 ≤ r 11 ∧ r 11 ≤ 100 := hok.1 11 (0, 100) rfl
  have b12 : 1 ≤ r 12 ∧ r 12 ≤ 1 := hok.1 12 (1, 1) rfl
  have b13 : (-2147483648) ≤ r 13 ∧ r 13 ≤ 2147483647 := hok.1 13 ((-2147483648), 2147483647) rfl
  have b14 : 0 ≤ r 14 ∧ r 14 ≤ 100 := hok.1 14 (0, 100) rfl
  have b15 : 0 ≤ r 15 ∧ r 15 ≤ 1 := hok.1 15 (0, 1) rfl
  have b16 : (-2147483648) ≤ r 16 ∧ r 16 ≤ 2147483647 := hok.1 16 ((-2147483648), 2147483647) rfl
  have b17 : 0 ≤ r 17 ∧ r 17 ≤ 100 := hok.1 17 (0, 100) rfl
  have b18 : (-2147483648) ≤ r 18 ∧ r 18 ≤ 0 := hok.1 18 ((-2147483648), 0) rfl
  have f0 : 0 ≤ ((1 * r 3 + ((-1) * r 14 + (1 * r 4 + 0))) + (-1)) := hok.2 _ (List.mem_of_getElem? (i := 0) rfl)
  have f1 : 0 ≤ (((-1) * r 1 + (1 * r 8 + ((-1) * r 4 + 0))) + 0) := hok.2 _ (List.mem_of_getElem? (i := 1) rfl)
  obtain ⟨hG, hgi⟩ := hG
  have hG : True := hG
  have hh : g = gi := hh
  subst hh
  refine yt_dalt (by decide) (by decide) ?_
  rw [show xk_40.2.1.2.1.1.length = 18 from rfl]
  show ((0 : Int) + (-3)) = yq_cr ((1 * r 0 + 0) + 0) ((1 * r 1 + 0) + 0) ((1 * r 2 + 0) + 0) ((1 * r 3 + 0) + 0) ((1 * r 4 + 0) + 0) (yq_at ((1 * r 0 + 0) + 0) ((1 * ((1 * r 6 + 0) + 0) + 0) + 0) ((1 * ((1 * r 9 + 0) + 0) + 0) + 0) ((1 * ((1 * r 12 + 0) + 0) + 0) + 0) ((1 * ((1 * r 15 + 0) + 0) + 0) + 0)) (yq_at ((1 * r 2 + 0) + 0) ((1 * ((1 * r 6 + 0) + 0) + 0) + 0) ((1 * ((1 * r 9 + 0) + 0) + 0) + 0) ((1 * ((1 * r 12 + 0) + 0) + 0) + 0) ((1 * ((1 * r 15 + 0) + 0) + 0) + 0)) (yq_at ((1 * r 0 + 0) + 0) ((1 * ((1 * r 8 + 0) + 0) + 0) + 0) ((1 * ((1 * r 11 + 0) + 0) + 0) + 0) ((1 * ((1 * r 14 + 0) + 0) + 0) + 0) ((1 * ((1 * r 17 + 0) + 0) + 0) + 0)) (yq_at ((1 * r 2 + 0) + 0) ((1 * ((1 * r 8 + 0) + 0) + 0) + 0) ((1 * ((1 * r 11 + 0) + 0) + 0) + 0) ((1 * ((1 * r 14 + 0) + 0) + 0) + 0) ((1 * ((1 * r 17 + 0) + 0) + 0) + 0)) ∧ (g 3) = yq_xc ((1 * r 0 + 0) + 0) ((1 * r 1 + 0) + 0) ((1 * r 2 + 0) + 0) ((1 * r 3 + 0) + 0) ((1 * r 4 + 0) + 0) 0 (yq_at ((1 * r 0 + 0) + 0) ((1 * ((1 * r 6 + 0) + 0) + 0) + 0) ((1 * ((1 * r 9 + 0) + 0) + 0) + 0) ((1 * ((1 * r 12 + 0) + 0) + 0) + 0) ((1 * ((1 * r 15 + 0) + 0) + 0) + 0)) ((1 * ((1 * r 6 + 0) + 0) + 0) + 0) (yq_at ((1 * r 0 + 0) + 0) ((1 * ((1 * r 8 + 0) + 0) + 0) + 0) ((1 * ((1 * r 11 + 0) + 0) + 0) + 0) ((1 * ((1 * r 14 + 0) + 0) + 0) + 0) ((1 * ((1 * r 17 + 0) + 0) + 0) + 0)) ((1 * ((1 * r 8 + 0) + 0) + 0) + 0) ((1 * ((1 * r 7 + 0) + 0) + 0) + 0) (yq_fat ((1 * r 0 + 0) + 0) (g0 3) (g0 5) (g0 7) (g0 9)) (g0 3) ∧ (g 5) = yq_xc ((1 * r 0 + 0) + 0) ((1 * r 1 + 0) + 0) ((1 * r 2 + 0) + 0) ((1 * r 3 + 0) + 0) ((1 * r 4 + 0) + 0) 1 (yq_at ((1 * r 0 + 0) + 0) ((1 * ((1 * r 6 + 0) + 0) + 0) + 0) ((1 * ((1 * r 9 + 0) + 0) + 0) + 0) ((1 * ((1 * r 12 + 0) + 0) + 0) + 0) ((1 * ((1 * r 15 + 0) + 0) + 0) + 0)) ((1 * ((1 * r 9 + 0) + 0) + 0) + 0) (yq_at ((1 * r 0 + 0) + 0) ((1 * ((1 * r 8 + 0) + 0) + 0) + 0) ((1 * ((1 * r 11 + 0) + 0) + 0) + 0) ((1 * ((1 * r 14 + 0) + 0) + 0) + 0) ((1 * ((1 * r 17 + 0) + 0) + 0) + 0)) ((1 * ((1 * r 11 + 0) + 0) + 0) + 0) ((1 * ((1 * r 10 + 0) + 0) + 0) + 0) (yq_fat ((1 * r 0 + 0) + 0) (g0 3) (g0 5) (g0 7) (g0 9)) (g0 5) ∧ (g 7) = yq_xc ((1 * r 0 + 0) + 0) ((1 * r 1 + 0) + 0) ((1 * r 2 + 0) + 0) ((1 * r 3 + 0) + 0) ((1 * r 4 + 0) + 0) 2 (yq_at ((1 * r 0 + 0) + 0) ((1 * ((1 * r 6 + 0) + 0) + 0) + 0) ((1 * ((1 * r 9 + 0) + 0) + 0) + 0) ((1 * ((1 * r 12 + 0) + 0) + 0) + 0) ((1 * ((1 * r 15 + 0) + 0) + 0) + 0)) ((1 * ((1 * r 12 + 0) + 0) + 0) + 0) (yq_at ((1 * r 0 + 0) + 0) ((1 * ((1 * r 8 + 0) + 0) + 0) + 0) ((1 * ((1 * r 11 + 0) + 0) + 0) + 0) ((1 * ((1 * r 14 + 0) + 0) + 0) + 0) ((1 * ((1 * r 17 + 0) + 0) + 0) + 0)) ((1 * ((1 * r 14 + 0) + 0) + 0) + 0) ((1 * ((1 * r 13 + 0) + 0) + 0) + 0) (yq_fat ((1 * r 0 + 0) + 0) (g0 3) (g0 5) (g0 7) (g0 9)) (g0 7) ∧ (g 9) = yq_xc ((1 * r 0 + 0) + 0) ((1 * r 1 + 0) + 0) ((1 * r 2 + 0) + 0) ((1 * r 3 + 0) + 0) ((1 * r 4 + 0) + 0) 3 (yq_at ((1 * r 0 + 0) + 0) ((1 * ((1 * r 6 + 0) + 0) + 0) + 0) ((1 * ((1 * r 9 + 0) + 0) + 0) + 0) ((1 * ((1 * r 12 + 0) + 0) + 0) + 0) ((1 * ((1 * r 15 + 0) + 0) + 0) + 0)) ((1 * ((1 * r 15 + 0) + 0) + 0) + 0) (yq_at ((1 * r 0 + 0) + 0) ((1 * ((1 * r 8 + 0) + 0) + 0) + 0) ((1 * ((1 * r 11 + 0) + 0) + 0) + 0) ((1 * ((1 * r 14 + 0) + 0) + 0) + 0) ((1 * ((1 * r 17 + 0) + 0) + 0) + 0)) ((1 * ((1 * r 17 + 0) + 0) + 0) + 0) ((1 * ((1 * r 16 + 0) + 0) + 0) + 0) (yq_fat ((1 * r 0 + 0) + 0) (g0 3) (g0 5) (g0 7) (g0 9)) (g0 9)
  try simp only [Int.one_mul, Int.zero_add, Int.add_zero]
  refine ⟨?_, ?_, ?_, ?_, ?_⟩
  · rw [show r 0 = 0 by omega]
    rw [show r 2 = 2 by omega]
    simp only [yq_at0, yq_at2]
    unfold yq_cr
    repeat' split
    all_goals omega
  · rw [show r 0 = 0 by omega]
    simp only [yq_at0, yq_fat0]
    unfold yq_xc
    rw [if_neg (by omega)]
    rw [hgi]
  · rw [show r 0 = 0 by omega]
    simp only [yq_at0, yq_fat0]
    unfold yq_xc
    rw [if_neg (by omega)]
    rw [hgi]
  · rw [show r 0 = 0 by omega]
    simp only [yq_at0, yq_fat0]
    unfold yq_xc
    rw [if_neg (by omega)]
    rw [hgi]
  · rw [show r 0 = 0 by omega]
    simp only [yq_at0, yq_fat0]
    unfold yq_xc
    rw [if_neg (by omega)]
    rw [hgi]
theorem xw_40_0_20 : yt_hold xT_40 xk_40 xq_40.2.2.1 xG_40 xP_40 xU_40 18 xk_40.2.1.2.2.2 (fun g0 r g => xR_40 r g0 ∧ g = g0) (1000, ([(0, 0), (0, 100), (2, 2), (0, 100), (0, 100), ((-2147483648), 2147483647), (1, 1), ((-2147483648), 2147483647), (0, 100), (0, 1), ((-2147483648), 2147483647), (0, 100), (1, 1), ((-2147483648), 2147483647), (0, 100), (0, 1), ((-2147483648), 2147483647), (0, 100), ((-2147483648), 0)], [([(4, (-1)), (3, (-1))], 101), ([(3, (-1)), (14, 1), (4, (-1))], 0), ([(1, (-1)), (8, 1), (4, (-1))], 0)]), [([(4, 1)], 0), ([(18, 1)], 0)], [], [.inr (.inr (.inl (98, 0, [([(3, 1)], 0), ([(1, 1)], 0), ([(4, 1)], 0), ([(12, 1)], 0), ([(13, 1)], 0), ([(14, 1)], 0), ([(6, 1)], 0), ([(7, 1)], 0), ([(8, 1)], 0)], [6, 7, 2, 3], [7])))]) := by
  intro g0 r gi g hok hh hars hfr hG
  have b0 : 0 ≤ r 0 ∧ r 0 ≤ 0 := hok.1 0 (0, 0) rfl
  have b1 : 0 ≤ r 1 ∧ r 1 ≤ 100 := hok.1 1 (0, 100) rfl
  have b2 : 2 ≤ r 2 ∧ r 2 ≤ 2 := hok.1 2 (2, 2) rfl
  have b3 : 0 ≤ r 3 ∧ r 3 ≤ 100 := hok.1 3 (0, 100) rfl
  have b4 : 0 ≤ r 4 ∧ r 4 ≤ 100 := hok.1 4 (0, 100) rfl
  have b5 : (-2147483648) ≤ r 5 ∧ r 5 ≤ 2147483647 := hok.1 5 ((-2147483648), 2147483647) rfl
  have b6 : 1 ≤ r 6 ∧ r 6 ≤ 1 := hok.1 6 (1, 1) rfl
  have b7 : (-2147483648) ≤ r 7 ∧ r 7 ≤ 2147483647 := hok.1 7 ((-2147483648), 2147483647) rfl
  have b8 : 0 ≤ r 8 ∧ r 8 ≤ 100 := hok.1 8 (0, 100) rfl
  have b9 : 0 ≤ r 9 ∧ r 9 ≤ 1 := hok.1 9 (0, 1) rfl
  have b10 : (-2147483648) ≤ r 10 ∧ r 10 ≤ 2147483647 := hok.1 10 ((-2147483648), 2147483647) rfl
  have b11 : 0 ≤ r 11 ∧ r 11 ≤ 100 := hok.1 11 (0, 100) rfl
  have b12 : 1 ≤ r 12 ∧ r 12 ≤ 1 := hok.1 12 (1, 1) rfl
  have b13 : (-2147483648) ≤ r 13 ∧ r 13 ≤ 2147483647 := hok.1 13 ((-2147483648), 2147483647) rfl
  have b14 : 0 ≤ r 14 ∧ r 14 ≤ 100 := hok.1 14 (0, 100) rfl
  have b15 : 0 ≤ r 15 ∧ r 15 ≤ 1 := hok.1 15 (0, 1) rfl
  have b16 : (-2147483648) ≤ r 16 ∧ r 16 ≤ 2147483647 := hok.1 16 ((-2147483648), 2147483647) rfl
  have b17 : 0 ≤ r 17 ∧ r 17 ≤ 100 := hok.1 17 (0, 100) rfl
  have b18 : (-2147483648) ≤ r 18 ∧ r 18 ≤ 0 := hok.1 18 ((-2147483648), 0) rfl
  have f0 : 0 ≤ (((-1) * r 4 + ((-1) * r 3 + 0)) + 101) := hok.2 _ (List.mem_of_getElem? (i := 0) rfl)
  have f1 : 0 ≤ (((-1) * r 3 + (1 * r 14 + ((-1) * r 4 + 0))) + 0) := hok.2 _ (List.mem_of_getElem? (i := 1) rfl)
  have f2 : 0 ≤ (((-1) * r 1 + (1 * r 8 + ((-1) * r 4 + 0))) + 0) := hok.2 _ (List.mem_of_getElem? (i := 2) rfl)
  obtain ⟨hG, hgi⟩ := hG
  have hG : True := hG
  obtain ⟨h0, hh, e0, k0⟩ := hh
  have k0 : ∀ j, j ∉ [7] → g j = h0 j := k0
  have e0 : (g 7) = yq_pa ((1 * r 3 + 0) + 0) ((1 * r 1 + 0) + 0) ((1 * r 4 + 0) + 0) ((1 * r 13 + 0) + 0) (h0 3) (h0 7) := e0
  have hh : h0 = gi := hh
  subst hh
  refine yt_dalt (by decide) (by decide) ?_
  rw [show xk_40.2.1.2.1.1.length = 18 from rfl]
  show ((1 * r 4 + 0) + 0) = yq_cr ((1 * r 0 + 0) + 0) ((1 * r 1 + 0) + 0) ((1 * r 2 + 0) + 0) ((1 * r 3 + 0) + 0) ((1 * r 4 + 0) + 0) (yq_at ((1 * r 0 + 0) + 0) ((1 * ((1 * r 6 + 0) + 0) + 0) + 0) ((1 * ((1 * r 9 + 0) + 0) + 0) + 0) ((1 * ((1 * r 12 + 0) + 0) + 0) + 0) ((1 * ((1 * r 15 + 0) + 0) + 0) + 0)) (yq_at ((1 * r 2 + 0) + 0) ((1 * ((1 * r 6 + 0) + 0) + 0) + 0) ((1 * ((1 * r 9 + 0) + 0) + 0) + 0) ((1 * ((1 * r 12 + 0) + 0) + 0) + 0) ((1 * ((1 * r 15 + 0) + 0) + 0) + 0)) (yq_at ((1 * r 0 + 0) + 0) ((1 * ((1 * r 8 + 0) + 0) + 0) + 0) ((1 * ((1 * r 11 + 0) + 0) + 0) + 0) ((1 * ((1 * r 14 + 0) + 0) + 0) + 0) ((1 * ((1 * r 17 + 0) + 0) + 0) + 0)) (yq_at ((1 * r 2 + 0) + 0) ((1 * ((1 * r 8 + 0) + 0) + 0) + 0) ((1 * ((1 * r 11 + 0) + 0) + 0) + 0) ((1 * ((1 * r 14 + 0) + 0) + 0) + 0) ((1 * ((1 * r 17 + 0) + 0) + 0) + 0)) ∧ (g 3) = yq_xc ((1 * r 0 + 0) + 0) ((1 * r 1 + 0) + 0) ((1 * r 2 + 0) + 0) ((1 * r 3 + 0) + 0) ((1 * r 4 + 0) + 0) 0 (yq_at ((1 * r 0 + 0) + 0) ((1 * ((1 * r 6 + 0) + 0) + 0) + 0) ((1 * ((1 * r 9 + 0) + 0) + 0) + 0) ((1 * ((1 * r 12 + 0) + 0) + 0) + 0) ((1 * ((1 * r 15 + 0) + 0) + 0) + 0)) ((1 * ((1 * r 6 + 0) + 0) + 0) + 0) (yq_at ((1 * r 0 + 0) + 0) ((1 * ((1 * r 8 + 0) + 0) + 0) + 0) ((1 * ((1 * r 11 + 0) + 0) + 0) + 0) ((1 * ((1 * r 14 + 0) + 0) + 0) + 0) ((1 * ((1 * r 17 + 0) + 0) + 0) + 0)) ((1 * ((1 * r 8 + 0) + 0) + 0) + 0) ((1 * ((1 * r 7 + 0) + 0) + 0) + 0) (yq_fat ((1 * r 0 + 0) + 0) (g0 3) (g0 5) (g0 7) (g0 9)) (g0 3) ∧ (g 5) = yq_xc ((1 * r 0 + 0) + 0) ((1 * r 1 + 0) + 0) ((1 * r 2 + 0) + 0) ((1 * r 3 + 0) + 0) ((1 * r 4 + 0) + 0) 1 (yq_at ((1 * r 0 + 0) + 0) ((1 * ((1 * r 6 + 0) + 0) + 0) + 0) ((1 * ((1 * r 9 + 0) + 0) + 0) + 0) ((1 * ((1 * r 12 + 0) + 0) + 0) + 0) ((1 * ((1 * r 15 + 0) + 0) + 0) + 0)) ((1 * ((1 * r 9 + 0) + 0) + 0) + 0) (yq_at ((1 * r 0 + 0) + 0) ((1 * ((1 * r 8 + 0) + 0) + 0) + 0) ((1 * ((1 * r 11 + 0) + 0) + 0) + 0) ((1 * ((1 * r 14 + 0) + 0) + 0) + 0) ((1 * ((1 * r 17 + 0) + 0) + 0) + 0)) ((1 * ((1 * r 11 + 0) + 0) + 0) + 0) ((1 * ((1 * r 10 + 0) + 0) + 0) + 0) (yq_fat ((1 * r 0 + 0) + 0) (g0 3) (g0 5) (g0 7) (g0 9)) (g0 5) ∧ (g 7) = yq_xc ((1 * r 0 + 0) + 0) ((1 * r 1 + 0) + 0) ((1 * r 2 + 0) + 0) ((1 * r 3 + 0) + 0) ((1 * r 4 + 0) + 0) 2 (yq_at ((1 * r 0 + 0) + 0) ((1 * ((1 * r 6 + 0) + 0) + 0) + 0) ((1 * ((1 * r 9 + 0) + 0) + 0) + 0) ((1 * ((1 * r 12 + 0) + 0) + 0) + 0) ((1 * ((1 * r 15 + 0) + 0) + 0) + 0)) ((1 * ((1 * r 12 + 0) + 0) + 0) + 0) (yq_at ((1 * r 0 + 0) + 0) ((1 * ((1 * r 8 + 0) + 0) + 0) + 0) ((1 * ((1 * r 11 + 0) + 0) + 0) + 0) ((1 * ((1 * r 14 + 0) + 0) + 0) + 0) ((1 * ((1 * r 17 + 0) + 0) + 0) + 0)) ((1 * ((1 * r 14 + 0) + 0) + 0) + 0) ((1 * ((1 * r 13 + 0) + 0) + 0) + 0) (yq_fat ((1 * r 0 + 0) + 0) (g0 3) (g0 5) (g0 7) (g0 9)) (g0 7) ∧ (g 9) = yq_xc ((1 * r 0 + 0) + 0) ((1 * r 1 + 0) + 0) ((1 * r 2 + 0) + 0) ((1 * r 3 + 0) + 0) ((1 * r 4 + 0) + 0) 3 (yq_at ((1 * r 0 + 0) + 0) ((1 * ((1 * r 6 + 0) + 0) + 0) + 0) ((1 * ((1 * r 9 + 0) + 0) + 0) + 0) ((1 * ((1 * r 12 + 0) + 0) + 0) + 0) ((1 * ((1 * r 15 + 0) + 0) + 0) + 0)) ((1 * ((1 * r 15 + 0) + 0) + 0) + 0) (yq_at ((1 * r 0 + 0) + 0) ((1 * ((1 * r 8 + 0) + 0) + 0) + 0) ((1 * ((1 * r 11 + 0) + 0) + 0) + 0) ((1 * ((1 * r 14 + 0) + 0) + 0) + 0) ((1 * ((1 * r 17 + 0) + 0) + 0) + 0)) ((1 * ((1 * r 17 + 0) + 0) + 0) + 0) ((1 * ((1 * r 16 + 0) + 0) + 0) + 0) (yq_fat ((1 * r 0 + 0) + 0) (g0 3) (g0 5) (g0 7) (g0 9)) (g0 9)
  try simp only [Int.one_mul, Int.zero_add, Int.add_zero]
  try simp only [Int.one_mul, Int.zero_add, Int.add_zero] at e0
  refine ⟨?_, ?_, ?_, ?_, ?_⟩
  · rw [show r 0 = 0 by omega]
    rw [show r 2 = 2 by omega]
    simp only [yq_at0, yq_at2]
    unfold yq_cr
    repeat' split
    all_goals omega
  · rw [show r 0 = 0 by omega]
    simp only [yq_at0, yq_fat0]
    unfold yq_xc
    rw [if_neg (by omega)]
    rw [k0 3 (by decide), hgi]
  · rw [show r 0 = 0 by omega]
    simp only [yq_at0, yq_fat0]
    unfold yq_xc
    rw [if_neg (by omega)]
    rw [k0 5 (by decide), hgi]
  · rw [show r 0 = 0 by omega]
    simp only [yq_at0, yq_fat0]
    unfold yq_xc
    rw [if_pos (by omega), e0, hgi]
  · rw [show r 0 = 0 by omega]
    simp only [yq_at0, yq_fat0]
    unfold yq_xc
    rw [if_neg (by omega)]
    rw [k0 9 (by decide), hgi]
theorem xw_40_0_21 : yt_hold xT_40 xk_40 xq_40.2.2.1 xG_40 xP_40 xU_40 18 xk_40.2.1.2.2.2 (fun g0 r g => xR_40 r g0 ∧ g = g0) (1000, ([(0, 0), ((-2147483648), 2147483647), (2, 2), ((-2147483648), 2147483647), (0, 2147483647), ((-2147483648), 2147483647), (1, 1), ((-2147483648), 2147483647), (0, 100), (0, 1), ((-2147483648), 2147483647), (0, 100), (0, 0), ((-2147483648), 2147483647), (0, 100), (0, 1), ((-2147483648), 2147483647), (0, 100), ((-2147483648), 0)], []), [([], (-2)), ([(18, 1)], 0)], [], []) := by
  intro g0 r gi g hok hh hars hfr hG
  have b0 : 0 ≤ r 0 ∧ r 0 ≤ 0 := hok.1 0 (0, 0) rfl
  have b1 : (-2147483648) ≤ r 1 ∧ r 1 ≤ 2147483647 := hok.1 1 ((-2147483648), 2147483647) rfl
  have b2 : 2 ≤ r 2 ∧ r 2 ≤ 2 := hok.1 2 (2, 2) rfl
  have b3 : (-2147483648) ≤ r 3 ∧ r 3 ≤ 2147483647 := hok.1 3 ((-2147483648), 2147483647) rfl
  have b4 : 0 ≤ r 4 ∧ r 4 ≤ 2147483647 := hok.1 4 (0, 2147483647) rfl
  have b5 : (-2147483648) ≤ r 5 ∧ r 5 ≤ 2147483647 := hok.1 5 ((-2147483648), 2147483647) rfl
  have b6 : 1 ≤ r 6 ∧ r 6 ≤ 1 := hok.1 6 (1, 1) rfl
  have b7 : (-2147483648) ≤ r 7 ∧ r 7 ≤ 2147483647 := hok.1 7 ((-2147483648), 2147483647) rfl
  have b8 : 0 ≤ r 8 ∧ r 8 ≤ 100 := hok.1 8 (0, 100) rfl
  have b9 : 0 ≤ r 9 ∧ r 9 ≤ 1 := hok.1 9 (0, 1) rfl
  have b10 : (-2147483648) ≤ r 10 ∧ r 10 ≤ 2147483647 := hok.1 10 ((-2147483648), 2147483647) rfl
  have b11 : 0 ≤ r 11 ∧ r 11 ≤ 100 := hok.1 11 (0, 100) rfl
  have b12 : 0 ≤ r 12 ∧ r 12 ≤ 0 := hok.1 12 (0, 0) rfl
  have b13 : (-2147483648) ≤ r 13 ∧ r 13 ≤ 2147483647 := hok.1 13 ((-2147483648), 2147483647) rfl
  have b14 : 0 ≤ r 14 ∧ r 14 ≤ 100 := hok.1 14 (0, 100) rfl
  have b15 : 0 ≤ r 15 ∧ r 15 ≤ 1 := hok.1 15 (0, 1) rfl
  have b16 : (-2147483648) ≤ r 16 ∧ r 16 ≤ 2147483647 := hok.1 16 ((-2147483648), 2147483647) rfl
  have b17 : 0 ≤ r 17 ∧ r 17 ≤ 100 := hok.1 17 (0, 100) rfl
  have b18 : (-2147483648) ≤ r 18 ∧ r 18 ≤ 0 := hok.1 18 ((-2147483648), 0) rfl
  obtain ⟨hG, hgi⟩ := hG
  have hG : True := hG
  have hh : g = gi := hh
  subst hh
  refine yt_dalt (by decide) (by decide) ?_
  rw [show xk_40.2.1.2.1.1.length = 18 from rfl]
  show ((0 : Int) + (-2)) = yq_cr ((1 * r 0 + 0) + 0) ((1 * r 1 + 0) + 0) ((1 * r 2 + 0) + 0) ((1 * r 3 + 0) + 0) ((1 * r 4 + 0) + 0) (yq_at ((1 * r 0 + 0) + 0) ((1 * ((1 * r 6 + 0) + 0) + 0) + 0) ((1 * ((1 * r 9 + 0) + 0) + 0) + 0) ((1 * ((1 * r 12 + 0) + 0) + 0) + 0) ((1 * ((1 * r 15 + 0) + 0) + 0) + 0)) (yq_at ((1 * r 2 + 0) + 0) ((1 * ((1 * r 6 + 0) + 0) + 0) + 0) ((1 * ((1 * r 9 + 0) + 0) + 0) + 0) ((1 * ((1 * r 12 + 0) + 0) + 0) + 0) ((1 * ((1 * r 15 + 0) + 0) + 0) + 0)) (yq_at ((1 * r 0 + 0) + 0) ((1 * ((1 * r 8 + 0) + 0) + 0) + 0) ((1 * ((1 * r 11 + 0) + 0) + 0) + 0) ((1 * ((1 * r 14 + 0) + 0) + 0) + 0) ((1 * ((1 * r 17 + 0) + 0) + 0) + 0)) (yq_at ((1 * r 2 + 0) + 0) ((1 * ((1 * r 8 + 0) + 0) + 0) + 0) ((1 * ((1 * r 11 + 0) + 0) + 0) + 0) ((1 * ((1 * r 14 + 0) + 0) + 0) + 0) ((1 * ((1 * r 17 + 0) + 0) + 0) + 0)) ∧ (g 3) = yq_xc ((1 * r 0 + 0) + 0) ((1 * r 1 + 0) + 0) ((1 * r 2 + 0) + 0) ((1 * r 3 + 0) + 0) ((1 * r 4 + 0) + 0) 0 (yq_at ((1 * r 0 + 0) + 0) ((1 * ((1 * r 6 + 0) + 0) + 0) + 0) ((1 * ((1 * r 9 + 0) + 0) + 0) + 0) ((1 * ((1 * r 12 + 0) + 0) + 0) + 0) ((1 * ((1 * r 15 + 0) + 0) + 0) + 0)) ((1 * ((1 * r 6 + 0) + 0) + 0) + 0) (yq_at ((1 * r 0 + 0) + 0) ((1 * ((1 * r 8 + 0) + 0) + 0) + 0) ((1 * ((1 * r 11 + 0) + 0) + 0) + 0) ((1 * ((1 * r 14 + 0) + 0) + 0) + 0) ((1 * ((1 * r 17 + 0) + 0) + 0) + 0)) ((1 * ((1 * r 8 + 0) + 0) + 0) + 0) ((1 * ((1 * r 7 + 0) + 0) + 0) + 0) (yq_fat ((1 * r 0 + 0) + 0) (g0 3) (g0 5) (g0 7) (g0 9)) (g0 3) ∧ (g 5) = yq_xc ((1 * r 0 + 0) + 0) ((1 * r 1 + 0) + 0) ((1 * r 2 + 0) + 0) ((1 * r 3 + 0) + 0) ((1 * r 4 + 0) + 0) 1 (yq_at ((1 * r 0 + 0) + 0) ((1 * ((1 * r 6 + 0) + 0) + 0) + 0) ((1 * ((1 * r 9 + 0) + 0) + 0) + 0) ((1 * ((1 * r 12 + 0) + 0) + 0) + 0) ((1 * ((1 * r 15 + 0) + 0) + 0) + 0)) ((1 * ((1 * r 9 + 0) + 0) + 0) + 0) (yq_at ((1 * r 0 + 0) + 0) ((1 * ((1 * r 8 + 0) + 0) + 0) + 0) ((1 * ((1 * r 11 + 0) + 0) + 0) + 0) ((1 * ((1 * r 14 + 0) + 0) + 0) + 0) ((1 * ((1 * r 17 + 0) + 0) + 0) + 0)) ((1 * ((1 * r 11 + 0) + 0) + 0) + 0) ((1 * ((1 * r 10 + 0) + 0) + 0) + 0) (yq_fat ((1 * r 0 + 0) + 0) (g0 3) (g0 5) (g0 7) (g0 9)) (g0 5) ∧ (g 7) = yq_xc ((1 * r 0 + 0) + 0) ((1 * r 1 + 0) + 0) ((1 * r 2 + 0) + 0) ((1 * r 3 + 0) + 0) ((1 * r 4 + 0) + 0) 2 (yq_at ((1 * r 0 + 0) + 0) ((1 * ((1 * r 6 + 0) + 0) + 0) + 0) ((1 * ((1 * r 9 + 0) + 0) + 0) + 0) ((1 * ((1 * r 12 + 0) + 0) + 0) + 0) ((1 * ((1 * r 15 + 0) + 0) + 0) + 0)) ((1 * ((1 * r 12 + 0) + 0) + 0) + 0) (yq_at ((1 * r 0 + 0) + 0) ((1 * ((1 * r 8 + 0) + 0) + 0) + 0) ((1 * ((1 * r 11 + 0) + 0) + 0) + 0) ((1 * ((1 * r 14 + 0) + 0) + 0) + 0) ((1 * ((1 * r 17 + 0) + 0) + 0) + 0)) ((1 * ((1 * r 14 + 0) + 0) + 0) + 0) ((1 * ((1 * r 13 + 0) + 0) + 0) + 0) (yq_fat ((1 * r 0 + 0) + 0) (g0 3) (g0 5) (g0 7) (g0 9)) (g0 7) ∧ (g 9) = yq_xc ((1 * r 0 + 0) + 0) ((1 * r 1 + 0) + 0) ((1 * r 2 + 0) + 0) ((1 * r 3 + 0) + 0) ((1 * r 4 + 0) + 0) 3 (yq_at ((1 * r 0 + 0) + 0) ((1 * ((1 * r 6 + 0) + 0) + 0) + 0) ((1 * ((1 * r 9 + 0) + 0) + 0) + 0) ((1 * ((1 * r 12 + 0) + 0) + 0) + 0) ((1 * ((1 * r 15 + 0) + 0) + 0) + 0)) ((1 * ((1 * r 15 + 0) + 0) + 0) + 0) (yq_at ((1 * r 0 + 0) + 0) ((1 * ((1 * r 8 + 0) + 0) + 0) + 0) ((1 * ((1 * r 11 + 0) + 0) + 0) + 0) ((1 * ((1 * r 14 + 0) + 0) + 0) + 0) ((1 * ((1 * r 17 + 0) + 0) + 0) + 0)) ((1 * ((1 * r 17 + 0) + 0) + 0) + 0) ((1 * ((1 * r 16 + 0) + 0) + 0) + 0) (yq_fat ((1 * r 0 + 0) + 0) (g0 3) (g0 5) (g0 7) (g0 9)) (g0 9)
  try simp only [Int.one_mul, Int.zero_add, Int.add_zero]
  refine ⟨?_, ?_, ?_, ?_, ?_⟩
  · rw [show r 0 = 0 by omega]
    rw [show r 2 = 2 by omega]
    simp only [yq_at0, yq_at2]
    unfold yq_cr
    repeat' split
    all_goals omega
  · rw [show r 0 = 0 by omega]
    simp only [yq_at0, yq_fat0]
    unfold yq_xc
    rw [if_neg (by omega)]
    rw [hgi]
  · rw [show r 0 = 0 by omega]
    simp only [yq_at0, yq_fat0]
    unfold yq_xc
    rw [if_neg (by omega)]
    rw [hgi]
  · rw [show r 0 = 0 by omega]
    simp only [yq_at0, yq_fat0]
    unfold yq_xc
    rw [if_neg (by omega)]
    rw [hgi]
  · rw [show r 0 = 0 by omega]
    simp only [yq_at0, yq_fat0]
    unfold yq_xc
    rw [if_neg (by omega)]
    rw [hgi]
theorem xw_40_0_22 : yt_hold xT_40 xk_40 xq_40.2.2.1 xG_40 xP_40 xU_40 18 xk_40.2.1.2.2.2 (fun g0 r g => xR_40 r g0 ∧ g = g0) (1000, ([(0, 0), ((-2147483648), (-1)), (3, 3), ((-2147483648), 2147483647), (0, 2147483647), ((-2147483648), 2147483647), (1, 1), ((-2147483648), 2147483647), (0, 100), (0, 1), ((-2147483648), 2147483647), (0, 100), (0, 1), ((-2147483648), 2147483647), (0, 100), (1, 1), ((-2147483648), 2147483647), (0, 100), ((-2147483648), 0)], []), [([], (-3)), ([(18, 1)], 0)], [], []) := by
  intro g0 r gi g hok hh hars hfr hG
  have b0 : 0 ≤ r 0 ∧ r 0 ≤ 0 := hok.1 0 (0, 0) rfl
  have b1 : (-2147483648) ≤ r 1 ∧ r 1 ≤ (-1) := hok.1 1 ((-2147483648), (-1)) rfl
  have b2 : 3 ≤ r 2 ∧ r 2 ≤ 3 := hok.1 2 (3, 3) rfl
  have b3 : (-2147483648) ≤ r 3 ∧ r 3 ≤ 2147483647 := hok.1 3 ((-2147483648), 2147483647) rfl
  have b4 : 0 ≤ r 4 ∧ r 4 ≤ 2147483647 := hok.1 4 (0, 2147483647) rfl
  have b5 : (-2147483648) ≤ r 5 ∧ r 5 ≤ 2147483647 := hok.1 5 ((-2147483648), 2147483647) rfl
  have b6 : 1 ≤ r 6 ∧ r 6 ≤ 1 := hok.1 6 (1, 1) rfl
  have b7 : (-2147483648) ≤ r 7 ∧ r 7 ≤ 2147483647 := hok.1 7 ((-2147483648), 2147483647) rfl
  have b8 : 0 ≤ r 8 ∧ r 8 ≤ 100 := hok.1 8 (0, 100) rfl
  have b9 : 0 ≤ r 9 ∧ r 9 ≤ 1 := hok.1 9 (0, 1) rfl
  have b10 : (-2147483648) ≤ r 10 ∧ r 10 ≤ 2147483647 := hok.1 10 ((-2147483648), 2147483647) rfl
  have b11 : 0 ≤ r 11 ∧ r 11 ≤ 100 := hok.1 11 (0, 100) rfl
  have b12 : 0 ≤ r 12 ∧ r 12 ≤ 1 := hok.1 12 (0, 1) rfl
  have b13 : (-2147483648) ≤ r 13 ∧ r 13 ≤ 2147483647 := hok.1 13 ((-2147483648), 2147483647) rfl
  have b14 : 0 ≤ r 14 ∧ r 14 ≤ 100 := hok.1 14 (0, 100) rfl
  have b15 : 1 ≤ r 15 ∧ r 15 ≤ 1 := hok.1 15 (1, 1) rfl
  have b16 : (-2147483648) ≤ r 16 ∧ r 16 ≤ 2147483647 := hok.1 16 ((-2147483648), 2147483647) rfl
  have b17 : 0 ≤ r 17 ∧ r 17 ≤ 100 := hok.1 17 (0, 100) rfl
  have b18 : (-2147483648) ≤ r 18 ∧ r 18 ≤ 0 := hok.1 18 ((-2147483648), 0) rfl
  obtain ⟨hG, hgi⟩ := hG
  have hG : True := hG
  have hh : g = gi := hh
  subst hh
  refine yt_dalt (by decide) (by decide) ?_
  rw [show xk_40.2.1.2.1.1.length = 18 from rfl]
  show ((0 : Int) + (-3)) = yq_cr ((1 * r 0 + 0) + 0) ((1 * r 1 + 0) + 0) ((1 * r 2 + 0) + 0) ((1 * r 3 + 0) + 0) ((1 * r 4 + 0) + 0) (yq_at ((1 * r 0 + 0) + 0) ((1 * ((1 * r 6 + 0) + 0) + 0) + 0) ((1 * ((1 * r 9 + 0) + 0) + 0) + 0) ((1 * ((1 * r 12 + 0) + 0) + 0) + 0) ((1 * ((1 * r 15 + 0) + 0) + 0) + 0)) (yq_at ((1 * r 2 + 0) + 0) ((1 * ((1 * r 6 + 0) + 0) + 0) + 0) ((1 * ((1 * r 9 + 0) + 0) + 0) + 0) ((1 * ((1 * r 12 + 0) + 0) + 0) + 0) ((1 * ((1 * r 15 + 0) + 0) + 0) + 0)) (yq_at ((1 * r 0 + 0) + 0) ((1 * ((1 * r 8 + 0) + 0) + 0) + 0) ((1 * ((1 * r 11 + 0) + 0) + 0) + 0) ((1 * ((1 * r 14 + 0) + 0) + 0) + 0) ((1 * ((1 * r 17 + 0) + 0) + 0) + 0)) (yq_at ((1 * r 2 + 0) + 0) ((1 * ((1 * r 8 + 0) + 0) + 0) + 0) ((1 * ((1 * r 11 + 0) + 0) + 0) + 0) ((1 * ((1 * r 14 + 0) + 0) + 0) + 0) ((1 * ((1 * r 17 + 0) + 0) + 0) + 0)) ∧ (g 3) = yq_xc ((1 * r 0 + 0) + 0) ((1 * r 1 + 0) + 0) ((1 * r 2 + 0) + 0) ((1 * r 3 + 0) + 0) ((1 * r 4 + 0) + 0) 0 (yq_at ((1 * r 0 + 0) + 0) ((1 * ((1 * r 6 + 0) + 0) + 0) + 0) ((1 * ((1 * r 9 + 0) + 0) + 0) + 0) ((1 * ((1 * r 12 + 0) + 0) + 0) + 0) ((1 * ((1 * r 15 + 0) + 0) + 0) + 0)) ((1 * ((1 * r 6 + 0) + 0) + 0) + 0) (yq_at ((1 * r 0 + 0) + 0) ((1 * ((1 * r 8 + 0) + 0) + 0) + 0) ((1 * ((1 * r 11 + 0) + 0) + 0) + 0) ((1 * ((1 * r 14 + 0) + 0) + 0) + 0) ((1 * ((1 * r 17 + 0) + 0) + 0) + 0)) ((1 * ((1 * r 8 + 0) + 0) + 0) + 0) ((1 * ((1 * r 7 + 0) + 0) + 0) + 0) (yq_fat ((1 * r 0 + 0) + 0) (g0 3) (g0 5) (g0 7) (g0 9)) (g0 3) ∧ (g 5) = yq_xc ((1 * r 0 + 0) + 0) ((1 * r 1 + 0) + 0) ((1 * r 2 + 0) + 0) ((1 * r 3 + 0) + 0) ((1 * r 4 + 0) + 0) 1 (yq_at ((1 * r 0 + 0) + 0) ((1 * ((1 * r 6 + 0) + 0) + 0) + 0) ((1 * ((1 * r 9 + 0) + 0) + 0) + 0) ((1 * ((1 * r 12 + 0) + 0) + 0) + 0) ((1 * ((1 * r 15 + 0) + 0) + 0) + 0)) ((1 * ((1 * r 9 + 0) + 0) + 0) + 0) (yq_at ((1 * r 0 + 0) + 0) ((1 * ((1 * r 8 + 0) + 0) + 0) + 0) ((1 * ((1 * r 11 + 0) + 0) + 0) + 0) ((1 * ((1 * r 14 + 0) + 0) + 0) + 0) ((1 * ((1 * r 17 + 0) + 0) + 0) + 0)) ((1 * ((1 * r 11 + 0) + 0) + 0) + 0) ((1 * ((1 * r 10 + 0) + 0) + 0) + 0) (yq_fat ((1 * r 0 + 0) + 0) (g0 3) (g0 5) (g0 7) (g0 9)) (g0 5) ∧ (g 7) = yq_xc ((1 * r 0 + 0) + 0) ((1 * r 1 + 0) + 0) ((1 * r 2 + 0) + 0) ((1 * r 3 + 0) + 0) ((1 * r 4 + 0) + 0) 2 (yq_at ((1 * r 0 + 0) + 0) ((1 * ((1 * r 6 + 0) + 0) + 0) + 0) ((1 * ((1 * r 9 + 0) + 0) + 0) + 0) ((1 * ((1 * r 12 + 0) + 0) + 0) + 0) ((1 * ((1 * r 15 + 0) + 0) + 0) + 0)) ((1 * ((1 * r 12 + 0) + 0) + 0) + 0) (yq_at ((1 * r 0 + 0) + 0) ((1 * ((1 * r 8 + 0) + 0) + 0) + 0) ((1 * ((1 * r 11 + 0) + 0) + 0) + 0) ((1 * ((1 * r 14 + 0) + 0) + 0) + 0) ((1 * ((1 * r 17 + 0) + 0) + 0) + 0)) ((1 * ((1 * r 14 + 0) + 0) + 0) + 0) ((1 * ((1 * r 13 + 0) + 0) + 0) + 0) (yq_fat ((1 * r 0 + 0) + 0) (g0 3) (g0 5) (g0 7) (g0 9)) (g0 7) ∧ (g 9) = yq_xc ((1 * r 0 + 0) + 0) ((1 * r 1 + 0) + 0) ((1 * r 2 + 0) + 0) ((1 * r 3 + 0) + 0) ((1 * r 4 + 0) + 0) 3 (yq_at ((1 * r 0 + 0) + 0) ((1 * ((1 * r 6 + 0) + 0) + 0) + 0) ((1 * ((1 * r 9 + 0) + 0) + 0) + 0) ((1 * ((1 * r 12 + 0) + 0) + 0) + 0) ((1 * ((1 * r 15 + 0) + 0) + 0) + 0)) ((1 * ((1 * r 15 + 0) + 0) + 0) + 0) (yq_at ((1 * r 0 + 0) + 0) ((1 * ((1 * r 8 + 0) + 0) + 0) + 0) ((1 * ((1 * r 11 + 0) + 0) + 0) + 0) ((1 * ((1 * r 14 + 0) + 0) + 0) + 0) ((1 * ((1 * r 17 + 0) + 0) + 0) + 0)) ((1 * ((1 * r 17 + 0) + 0) + 0) + 0) ((1 * ((1 * r 16 + 0) + 0) + 0) + 0) (yq_fat ((1 * r 0 + 0) + 0) (g0 3) (g0 5) (g0 7) (g0 9)) (g0 9)
  try simp only [Int.one_mul, Int.zero_add, Int.add_zero]
  refine ⟨?_, ?_, ?_, ?_, ?_⟩
  · rw [show r 0 = 0 by omega]
    rw [show r 2 = 3 by omega]
    simp only [yq_at0, yq_at3]
    unfold yq_cr
    repeat' split
    all_goals omega
  · rw [show r 0 = 0 by omega]
    simp only [yq_at0, yq_fat0]
    unfold yq_xc
    rw [if_neg (by omega)]
    rw [hgi]
  · rw [show r 0 = 0 by omega]
    simp only [yq_at0, yq_fat0]
    unfold yq_xc
    rw [if_neg (by omega)]
    rw [hgi]
  · rw [show r 0 = 0 by omega]
    simp only [yq_at0, yq_fat0]
    unfold yq_xc
    rw [if_neg (by omega)]
    rw [hgi]
  · rw [show r 0 = 0 by omega]
    simp only [yq_at0, yq_fat0]
    unfold yq_xc
    rw [if_neg (by omega)]
    rw [hgi]
theorem xw_40_0_23 : yt_hold xT_40 xk_40 xq_40.2.2.1 xG_40 xP_40 xU_40 18 xk_40.2.1.2.2.2 (fun g0 r g => xR_40 r g0 ∧ g = g0) (1000, ([(0, 0), (0, 2147483647), (3, 3), ((-2147483648), 2147483647), (0, 2147483647), ((-2147483648), 2147483647), (1, 1), ((-2147483648), 2147483647), (0, 100), (0, 1), ((-2147483648), 2147483647), (0, 100), (0, 1), ((-2147483648), 2147483647), (0, 100), (1, 1), ((-2147483648), 2147483647), (0, 100), ((-2147483648), 0)], [([(1, 1), (8, (-1)), (4, 1)], (-1))]), [([], (-3)), ([(18, 1)], 0)], [], []) := by
  intro g0 r gi g hok hh hars hfr hG
  have b0 : 0 ≤ r 0 ∧ r 0 ≤ 0 := hok.1 0 (0, 0) rfl
  have b1 : 0 ≤ r 1 ∧ r 1 ≤ 2147483647 := hok.1 1 (0, 2147483647) rfl
  have b2 : 3 ≤ r 2 ∧ r 2 ≤ 3 := hok.1 2 (3, 3) rfl
  have b3 : (-2147483648) ≤ r 3 ∧ r 3 ≤ 2147483647 := hok.1 3 ((-2147483648), 2147483647) rfl
  have b4 : 0 ≤ r 4 ∧ r 4 ≤ 2147483647 := hok.1 4 (0, 2147483647) rfl
  have b5 : (-2147483648) ≤ r 5 ∧ r 5 ≤ 2147483647 := hok.1 5 ((-2147483648), 2147483647) rfl
  have b6 : 1 ≤ r 6 ∧ r 6 ≤ 1 := hok.1 6 (1, 1) rfl
  have b7 : (-2147483648) ≤ r 7 ∧ r 7 ≤ 2147483647 := hok.1 7 ((-2147483648), 2147483647) rfl
  have b8 : 0 ≤ r 8 ∧ r 8 ≤ 100 := hok.1 8 (0, 100) rfl
  have b9 : 0 ≤ r 9 ∧ r 9 ≤ 1 := hok.1 9 (0, 1) rfl
  have b10 : (-2147483648) ≤ r 10 ∧ r 10 ≤ 2147483647 := hok.1 10 ((-2147483648), 2147483647) rfl
  have b11 : 0 ≤ r 11 ∧ r 11 ≤ 100 := hok.1 11 (0, 100) rfl
  have b12 : 0 ≤ r 12 ∧ r 12 ≤ 1 := hok.1 12 (0, 1) rfl
  have b13 : (-2147483648) ≤ r 13 ∧ r 13 ≤ 2147483647 := hok.1 13 ((-2147483648), 2147483647) rfl
  have b14 : 0 ≤ r 14 ∧ r 14 ≤ 100 := hok.1 14 (0, 100) rfl
  have b15 : 1 ≤ r 15 ∧ r 15 ≤ 1 := hok.1 15 (1, 1) rfl
  have b16 : (-2147483648) ≤ r 16 ∧ r 16 ≤ 2147483647 := hok.1 16 ((-2147483648), 2147483647) rfl
  have b17 : 0 ≤ r 17 ∧ r 17 ≤ 100 := hok.1 17 (0, 100) rfl
  have b18 : (-2147483648) ≤ r 18 ∧ r 18 ≤ 0 := hok.1 18 ((-2147483648), 0) rfl
  have f0 : 0 ≤ ((1 * r 1 + ((-1) * r 8 + (1 * r 4 + 0))) + (-1)) := hok.2 _ (List.mem_of_getElem? (i := 0) rfl)
  obtain ⟨hG, hgi⟩ := hG
  have hG : True := hG
  have hh : g = gi := hh
  subst hh
  refine yt_dalt (by decide) (by decide) ?_
  rw [show xk_40.2.1.2.1.1.length = 18 from rfl]
  show ((0 : Int) + (-3)) = yq_cr ((1 * r 0 + 0) + 0) ((1 * r 1 + 0) + 0) ((1 * r 2 + 0) + 0) ((1 * r 3 + 0) + 0) ((1 * r 4 + 0) + 0) (yq_at ((1 * r 0 + 0) + 0) ((1 * ((1 * r 6 + 0) + 0) + 0) + 0) ((1 * ((1 * r 9 + 0) + 0) + 0) + 0) ((1 * ((1 * r 12 + 0) + 0) + 0) + 0) ((1 * ((1 * r 15 + 0) + 0) + 0) + 0)) (yq_at ((1 * r 2 + 0) + 0) ((1 * ((1 * r 6 + 0) + 0) + 0) + 0) ((1 * ((1 * r 9 + 0) + 0) + 0) + 0) ((1 * ((1 * r 12 + 0) + 0) + 0) + 0) ((1 * ((1 * r 15 + 0) + 0) + 0) + 0)) (yq_at ((1 * r 0 + 0) + 0) ((1 * ((1 * r 8 + 0) + 0) + 0) + 0) ((1 * ((1 * r 11 + 0) + 0) + 0) + 0) ((1 * ((1 * r 14 + 0) + 0) + 0) + 0) ((1 * ((1 * r 17 + 0) + 0) + 0) + 0)) (yq_at ((1 * r 2 + 0) + 0) ((1 * ((1 * r 8 + 0) + 0) + 0) + 0) ((1 * ((1 * r 11 + 0) + 0) + 0) + 0) ((1 * ((1 * r 14 + 0) + 0) + 0) + 0) ((1 * ((1 * r 17 + 0) + 0) + 0) + 0)) ∧ (g 3) = yq_xc ((1 * r 0 + 0) + 0) ((1 * r 1 + 0) + 0) ((1 * r 2 + 0) + 0) ((1 * r 3 + 0) + 0) ((1 * r 4 + 0) + 0) 0 (yq_at ((1 * r 0 + 0) + 0) ((1 * ((1 * r 6 + 0) + 0) + 0) + 0) ((1 * ((1 * r 9 + 0) + 0) + 0) + 0) ((1 * ((1 * r 12 + 0) + 0) + 0) + 0) ((1 * ((1 * r 15 + 0) + 0) + 0) + 0)) ((1 * ((1 * r 6 + 0) + 0) + 0) + 0) (yq_at ((1 * r 0 + 0) + 0) ((1 * ((1 * r 8 + 0) + 0) + 0) + 0) ((1 * ((1 * r 11 + 0) + 0) + 0) + 0) ((1 * ((1 * r 14 + 0) + 0) + 0) + 0) ((1 * ((1 * r 17 + 0) + 0) + 0) + 0)) ((1 * ((1 * r 8 + 0) + 0) + 0) + 0) ((1 * ((1 * r 7 + 0) + 0) + 0) + 0) (yq_fat ((1 * r 0 + 0) + 0) (g0 3) (g0 5) (g0 7) (g0 9)) (g0 3) ∧ (g 5) = yq_xc ((1 * r 0 + 0) + 0) ((1 * r 1 + 0) + 0) ((1 * r 2 + 0) + 0) ((1 * r 3 + 0) + 0) ((1 * r 4 + 0) + 0) 1 (yq_at ((1 * r 0 + 0) + 0) ((1 * ((1 * r 6 + 0) + 0) + 0) + 0) ((1 * ((1 * r 9 + 0) + 0) + 0) + 0) ((1 * ((1 * r 12 + 0) + 0) + 0) + 0) ((1 * ((1 * r 15 + 0) + 0) + 0) + 0)) ((1 * ((1 * r 9 + 0) + 0) + 0) + 0) (yq_at ((1 * r 0 + 0) + 0) ((1 * ((1 * r 8 + 0) + 0) + 0) + 0) ((1 * ((1 * r 11 + 0) + 0) + 0) + 0) ((1 * ((1 * r 14 + 0) + 0) + 0) + 0) ((1 * ((1 * r 17 + 0) + 0) + 0) + 0)) ((1 * ((1 * r 11 + 0) + 0) + 0) + 0) ((1 * ((1 * r 10 + 0) + 0) + 0) + 0) (yq_fat ((1 * r 0 + 0) + 0) (g0 3) (g0 5) (g0 7) (g0 9)) (g0 5) ∧ (g 7) = yq_xc ((1 * r 0 + 0) + 0) ((1 * r 1 + 0) + 0) ((1 * r 2 + 0) + 0) ((1 * r 3 + 0) + 0) ((1 * r 4 + 0) + 0) 2 (yq_at ((1 * r 0 + 0) + 0) ((1 * ((1 * r 6 + 0) + 0) + 0) + 0) ((1 * ((1 * r 9 + 0) + 0) + 0) + 0) ((1 * ((1 * r 12 + 0) + 0) + 0) + 0) ((1 * ((1 * r 15 + 0) + 0) + 0) + 0)) ((1 * ((1 * r 12 + 0) + 0) + 0) + 0) (yq_at ((1 * r 0 + 0) + 0) ((1 * ((1 * r 8 + 0) + 0) + 0) + 0) ((1 * ((1 * r 11 + 0) + 0) + 0) + 0) ((1 * ((1 * r 14 + 0) + 0) + 0) + 0) ((1 * ((1 * r 17 + 0) + 0) + 0) + 0)) ((1 * ((1 * r 14 + 0) + 0) + 0) + 0) ((1 * ((1 * r 13 + 0) + 0) + 0) + 0) (yq_fat ((1 * r 0 + 0) + 0) (g0 3) (g0 5) (g0 7) (g0 9)) (g0 7) ∧ (g 9) = yq_xc ((1 * r 0 + 0) + 0) ((1 * r 1 + 0) + 0) ((1 * r 2 + 0) + 0) ((1 * r 3 + 0) + 0) ((1 * r 4 + 0) + 0) 3 (yq_at ((1 * r 0 + 0) + 0) ((1 * ((1 * r 6 + 0) + 0) + 0) + 0) ((1 * ((1 * r 9 + 0) + 0) + 0) + 0) ((1 * ((1 * r 12 + 0) + 0) + 0) + 0) ((1 * ((1 * r 15 + 0) + 0) + 0) + 0)) ((1 * ((1 * r 15 + 0) + 0) + 0) + 0) (yq_at ((1 * r 0 + 0) + 0) ((1 * ((1 * r 8 + 0) + 0) + 0) + 0) ((1 * ((1 * r 11 + 0) + 0) + 0) + 0) ((1 * ((1 * r 14 + 0) + 0) + 0) + 0) ((1 * ((1 * r 17 + 0) + 0) + 0) + 0)) ((1 * ((1 * r 17 + 0) + 0) + 0) + 0) ((1 * ((1 * r 16 + 0) + 0) + 0) + 0) (yq_fat ((1 * r 0 + 0) + 0) (g0 3) (g0 5) (g0 7) (g0 9)) (g0 9)
  try simp only [Int.one_mul, Int.zero_add, Int.add_zero]
  refine ⟨?_, ?_, ?_, ?_, ?_⟩
  · rw [show r 0 = 0 by omega]
    rw [show r 2 = 3 by omega]
    simp only [yq_at0, yq_at3]
    unfold yq_cr
    repeat' split
    all_goals omega
  · rw [show r 0 = 0 by omega]
    simp only [yq_at0, yq_fat0]
    unfold yq_xc
    rw [if_neg (by omega)]
    rw [hgi]
  · rw [show r 0 = 0 by omega]
    simp only [yq_at0, yq_fat0]
    unfold yq_xc
    rw [if_neg (by omega)]
    rw [hgi]
  · rw [show r 0 = 0 by omega]
    simp only [yq_at0, yq_fat0]
    unfold yq_xc
    rw [if_neg (by omega)]
    rw [hgi]
  · rw [show r 0 = 0 by omega]
    simp only [yq_at0, yq_fat0]
    unfold yq_xc
    rw [if_neg (by omega)]
    rw [hgi]
theorem xw_40_0_24 : yt_hold xT_40 xk_40 xq_40.2.2.1 xG_40 xP_40 xU_40 18 xk_40.2.1.2.2.2 (fun g0 r g => xR_40 r g0 ∧ g = g0) (1000, ([(0, 0), (0, 100), (3, 3), ((-2147483648), (-1)), (0, 100), ((-2147483648), 2147483647), (1, 1), ((-2147483648), 2147483647), (0, 100), (0, 1), ((-2147483648), 2147483647), (0, 100), (0, 1), ((-2147483648), 2147483647), (0, 100), (1, 1), ((-2147483648), 2147483647), (0, 100), ((-2147483648), 0)], [([(1, (-1)), (8, 1), (4, (-1))], 0)]), [([], (-3)), ([(18, 1)], 0)], [], []) := by
  intro g0 r gi g hok hh hars hfr hG
  have b0 : 0 ≤ r 0 ∧ r 0 ≤ 0 := hok.1 0 (0, 0) rfl
  have b1 : 0 ≤ r 1 ∧ r 1 ≤ 100 := hok.1 1 (0, 100) rfl
  have b2 : 3 ≤ r 2 ∧ r 2 ≤ 3 := hok.1 2 (3, 3) rfl
  have b3 : (-2147483648) ≤ r 3 ∧ r 3 ≤ (-1) := hok.1 3 ((-2147483648), (-1)) rfl
  have b4 : 0 ≤ r 4 ∧ r 4 ≤ 100 := hok.1 4 (0, 100) rfl
  have b5 : (-2147483648) ≤ r 5 ∧ r 5 ≤ 2147483647 := hok.1 5 ((-2147483648), 2147483647) rfl
  have b6 : 1 ≤ r 6 ∧ r 6 ≤ 1 := hok.1 6 (1, 1) rfl
  have b7 : (-2147483648) ≤ r 7 ∧ r 7 ≤ 2147483647 := hok.1 7 ((-2147483648), 2147483647) rfl
  have b8 : 0 ≤ r 8 ∧ r 8 ≤ 100 := hok.1 8 (0, 100) rfl
  have b9 : 0 ≤ r 9 ∧ r 9 ≤ 1 := hok.1 9 (0, 1) rfl
  have b10 : (-2147483648) ≤ r 10 ∧ r 10 ≤ 2147483647 := hok.1 10 ((-2147483648), 2147483647) rfl
  have b11 : 0 ≤ r 11 ∧ r 11 ≤ 100 := hok.1 11 (0, 100) rfl
  have b12 : 0 ≤ r 12 ∧ r 12 ≤ 1 := hok.1 12 (0, 1) rfl
  have b13 : (-2147483648) ≤ r 13 ∧ r 13 ≤ 2147483647 := hok.1 13 ((-2147483648), 2147483647) rfl
  have b14 : 0 ≤ r 14 ∧ r 14 ≤ 100 := hok.1 14 (0, 100) rfl
  have b15 : 1 ≤ r 15 ∧ r 15 ≤ 1 := hok.1 15 (1, 1) rfl
  have b16 : (-2147483648) ≤ r 16 ∧ r 16 ≤ 2147483647 := hok.1 16 ((-2147483648), 2147483647) rfl
  have b17 : 0 ≤ r 17 ∧ r 17 ≤ 100 := hok.1 17 (0, 100) rfl
  have b18 : (-2147483648) ≤ r 18 ∧ r 18 ≤ 0 := hok.1 18 ((-2147483648), 0) rfl
  have f0 : 0 ≤ (((-1) * r 1 + (1 * r 8 + ((-1) * r 4 + 0))) + 0) := hok.2 _ (List.mem_of_getElem? (i := 0) rfl)
  obtain ⟨hG, hgi⟩ := hG
  have hG : True := hG
  have hh : g = gi := hh
  subst hh
  refine yt_dalt (by decide) (by decide) ?_
  rw [show xk_40.2.1.2.1.1.length = 18 from rfl]
  show ((0 : Int) + (-3)) = yq_cr ((1 * r 0 + 0) + 0) ((1 * r 1 + 0) + 0) ((1 * r 2 + 0) + 0) ((1 * r 3 + 0) + 0) ((1 * r 4 + 0) + 0) (yq_at ((1 * r 0 + 0) + 0) ((1 * ((1 * r 6 + 0) + 0) + 0) + 0) ((1 * ((1 * r 9 + 0) + 0) + 0) + 0) ((1 * ((1 * r 12 + 0) + 0) + 0) + 0) ((1 * ((1 * r 15 + 0) + 0) + 0) + 0)) (yq_at ((1 * r 2 + 0) + 0) ((1 * ((1 * r 6 + 0) + 0) + 0) + 0) ((1 * ((1 * r 9 + 0) + 0) + 0) + 0) ((1 * ((1 * r 12 + 0) + 0) + 0) + 0) ((1 * ((1 * r 15 + 0) + 0) + 0) + 0)) (yq_at ((1 * r 0 + 0) + 0) ((1 * ((1 * r 8 + 0) + 0) + 0) + 0) ((1 * ((1 * r 11 + 0) + 0) + 0) + 0) ((1 * ((1 * r 14 + 0) + 0) + 0) + 0) ((1 * ((1 * r 17 + 0) + 0) + 0) + 0)) (yq_at ((1 * r 2 + 0) + 0) ((1 * ((1 * r 8 + 0) + 0) + 0) + 0) ((1 * ((1 * r 11 + 0) + 0) + 0) + 0) ((1 * ((1 * r 14 + 0) + 0) + 0) + 0) ((1 * ((1 * r 17 + 0) + 0) + 0) + 0)) ∧ (g 3) = yq_xc ((1 * r 0 + 0) + 0) ((1 * r 1 + 0) + 0) ((1 * r 2 + 0) + 0) ((1 * r 3 + 0) + 0) ((1 * r 4 + 0) + 0) 0 (yq_at ((1 * r 0 + 0) + 0) ((1 * ((1 * r 6 + 0) + 0) + 0) + 0) ((1 * ((1 * r 9 + 0) + 0) + 0) + 0) ((1 * ((1 * r 12 + 0) + 0) + 0) + 0) ((1 * ((1 * r 15 + 0) + 0) + 0) + 0)) ((1 * ((1 * r 6 + 0) + 0) + 0) + 0) (yq_at ((1 * r 0 + 0) + 0) ((1 * ((1 * r 8 + 0) + 0) + 0) + 0) ((1 * ((1 * r 11 + 0) + 0) + 0) + 0) ((1 * ((1 * r 14 + 0) + 0) + 0) + 0) ((1 * ((1 * r 17 + 0) + 0) + 0) + 0)) ((1 * ((1 * r 8 + 0) + 0) + 0) + 0) ((1 * ((1 * r 7 + 0) + 0) + 0) + 0) (yq_fat ((1 * r 0 + 0) + 0) (g0 3) (g0 5) (g0 7) (g0 9)) (g0 3) ∧ (g 5) = yq_xc ((1 * r 0 + 0) + 0) ((1 * r 1 + 0) + 0) ((1 * r 2 + 0) + 0) ((1 * r 3 + 0) + 0) ((1 * r 4 + 0) + 0) 1 (yq_at ((1 * r 0 + 0) + 0) ((1 * ((1 * r 6 + 0) + 0) + 0) + 0) ((1 * ((1 * r 9 + 0) + 0) + 0) + 0) ((1 * ((1 * r 12 + 0) + 0) + 0) + 0) ((1 * ((1 * r 15 + 0) + 0) + 0) + 0)) ((1 * ((1 * r 9 + 0) + 0) + 0) + 0) (yq_at ((1 * r 0 + 0) + 0) ((1 * ((1 * r 8 + 0) + 0) + 0) + 0) ((1 * ((1 * r 11 + 0) + 0) + 0) + 0) ((1 * ((1 * r 14 + 0) + 0) + 0) + 0) ((1 * ((1 * r 17 + 0) + 0) + 0) + 0)) ((1 * ((1 * r 11 + 0) + 0) + 0) + 0) ((1 * ((1 * r 10 + 0) + 0) + 0) + 0) (yq_fat ((1 * r 0 + 0) + 0) (g0 3) (g0 5) (g0 7) (g0 9)) (g0 5) ∧ (g 7) = yq_xc ((1 * r 0 + 0) + 0) ((1 * r 1 + 0) + 0) ((1 * r 2 + 0) + 0) ((1 * r 3 + 0) + 0) ((1 * r 4 + 0) + 0) 2 (yq_at ((1 * r 0 + 0) + 0) ((1 * ((1 * r 6 + 0) + 0) + 0) + 0) ((1 * ((1 * r 9 + 0) + 0) + 0) + 0) ((1 * ((1 * r 12 + 0) + 0) + 0) + 0) ((1 * ((1 * r 15 + 0) + 0) + 0) + 0)) ((1 * ((1 * r 12 + 0) + 0) + 0) + 0) (yq_at ((1 * r 0 + 0) + 0) ((1 * ((1 * r 8 + 0) + 0) + 0) + 0) ((1 * ((1 * r 11 + 0) + 0) + 0) + 0) ((1 * ((1 * r 14 + 0) + 0) + 0) + 0) ((1 * ((1 * r 17 + 0) + 0) + 0) + 0)) ((1 * ((1 * r 14 + 0) + 0) + 0) + 0) ((1 * ((1 * r 13 + 0) + 0) + 0) + 0) (yq_fat ((1 * r 0 + 0) + 0) (g0 3) (g0 5) (g0 7) (g0 9)) (g0 7) ∧ (g 9) = yq_xc ((1 * r 0 + 0) + 0) ((1 * r 1 + 0) + 0) ((1 * r 2 + 0) + 0) ((1 * r 3 + 0) + 0) ((1 * r 4 + 0) + 0) 3 (yq_at ((1 * r 0 + 0) + 0) ((1 * ((1 * r 6 + 0) + 0) + 0) + 0) ((1 * ((1 * r 9 + 0) + 0) + 0) + 0) ((1 * ((1 * r 12 + 0) + 0) + 0) + 0) ((1 * ((1 * r 15 + 0) + 0) + 0) + 0)) ((1 * ((1 * r 15 + 0) + 0) + 0) + 0) (yq_at ((1 * r 0 + 0) + 0) ((1 * ((1 * r 8 + 0) + 0) + 0) + 0) ((1 * ((1 * r 11 + 0) + 0) + 0) + 0) ((1 * ((1 * r 14 + 0) + 0) + 0) + 0) ((1 * ((1 * r 17 + 0) + 0) + 0) + 0)) ((1 * ((1 * r 17 + 0) + 0) + 0) + 0) ((1 * ((1 * r 16 + 0) + 0) + 0) + 0) (yq_fat ((1 * r 0 + 0) + 0) (g0 3) (g0 5) (g0 7) (g0 9)) (g0 9)
  try simp only [Int.one_mul, Int.zero_add, Int.add_zero]
  refine ⟨?_, ?_, ?_, ?_, ?_⟩
  · rw [show r 0 = 0 by omega]
    rw [show r 2 = 3 by omega]
    simp only [yq_at0, yq_at3]
    unfold yq_cr
    repeat' split
    all_goals omega
  · rw [show r 0 = 0 by omega]
    simp only [yq_at0, yq_fat0]
    unfold yq_xc
    rw [if_neg (by omega)]
    rw [hgi]
  · rw [show r 0 = 0 by omega]
    simp only [yq_at0, yq_fat0]
    unfold yq_xc
    rw [if_neg (by omega)]
    rw [hgi]
  · rw [show r 0 = 0 by omega]
    simp only [yq_at0, yq_fat0]
    unfold yq_xc
    rw [if_neg (by omega)]
    rw [hgi]
  · rw [show r 0 = 0 by omega]
    simp only [yq_at0, yq_fat0]
    unfold yq_xc
    rw [if_neg (by omega)]
    rw [hgi]
theorem xw_40_0_25 : yt_hold xT_40 xk_40 xq_40.2.2.1 xG_40 xP_40 xU_40 18 xk_40.2.1.2.2.2 (fun g0 r g => xR_40 r g0 ∧ g = g0) (1000, ([(0, 0), (0, 100), (3, 3), (0, 2147483647), (0, 100), ((-2147483648), 2147483647), (1, 1), ((-2147483648), 2147483647), (0, 100), (0, 1), ((-2147483648), 2147483647), (0, 100), (0, 1), ((-2147483648), 2147483647), (0, 100), (1, 1), ((-2147483648), 2147483647), (0, 100), ((-2147483648), 0)], [([(3, 1), (17, (-1)), (4, 1)], (-1)), ([(1, (-1)), (8, 1), (4, (-1))], 0)]), [([], (-3)), ([(18, 1)], 0)], [], []) := by
  intro g0 r gi g hok hh hars hfr hG
  have b0 : 0 ≤ r 0 ∧ r 0 ≤ 0 := hok.1 0 (0, 0) rfl
  have b1 : 0 ≤ r 1 ∧ r 1 ≤ 100 := hok.1 1 (0, 100) rfl
  have b2 : 3 ≤ r 2 ∧ r 2 ≤ 3 := hok.1 2 (3, 3) rfl
  have b3 : 0 ≤ r 3 ∧ r 3 ≤ 2147483647 := hok.1 3 (0, 2147483647) rfl
  have b4 : 0 ≤ r 4 ∧ r 4 ≤ 100 := hok.1 4 (0, 100) rfl
  have b5 : (-2147483648) ≤ r 5 ∧ r 5 ≤ 2147483647 := hok.1 5 ((-2147483648), 2147483647) rfl
  have b6 : 1 ≤ r 6 ∧ r 6 ≤ 1 := hok.1 6 (1, 1) rfl
  have b7 : (-2147483648) ≤ r 7 ∧ r 7 ≤ 2147483647 := hok.1 7 ((-2147483648), 2147483647) rfl
  have b8 : 0 ≤ r 8 ∧ r 8 ≤ 100 := hok.1 8 (0, 100) rfl
  have b9 : 0 ≤ r 9 ∧ r 9 ≤ 1 := hok.1 9 (0, 1) rfl
  have b10 : (-2147483648) ≤ r 10 ∧ r 10 ≤ 2147483647 := hok.1 10 ((-2147483648), 2147483647) rfl
  have b11 : 0 ≤ r 11 ∧ r 11 ≤ 100 := hok.1 11 (0, 100) rfl
  have b12 : 0 ≤ r 12 ∧ r 12 ≤ 1 := hok.1 12 (0, 1) rfl
  have b13 : (-2147483648) ≤ r 13 ∧ r 13 ≤ 2147483647 := hok.1 13 ((-2147483648), 2147483647) rfl
  have b14 : 0 ≤ r 14 ∧ r 14 ≤ 100 := hok.1 14 (0, 100) rfl
  have b15 : 1 ≤ r 15 ∧ r 15 ≤ 1 := hok.1 15 (1, 1) rfl
  have b16 : (-2147483648) ≤ r 16 ∧ r 16 ≤ 2147483647 := hok.1 16 ((-2147483648), 2147483647) rfl
  have b17 : 0 ≤ r 17 ∧ r 17 ≤ 100 := hok.1 17 (0, 100) rfl
  have b18 : (-2147483648) ≤ r 18 ∧ r 18 ≤ 0 := hok.1 18 ((-2147483648), 0) rfl
  have f0 : 0 ≤ ((1 * r 3 + ((-1) * r 17 + (1 * r 4 + 0))) + (-1)) := hok.2 _ (List.mem_of_getElem? (i := 0) rfl)
  have f1 : 0 ≤ (((-1) * r 1 + (1 * r 8 + ((-1) * r 4 + 0))) + 0) := hok.2 _ (List.mem_of_getElem? (i := 1) rfl)
  obtain ⟨hG, hgi⟩ := hG
  have hG : True := hG
  have hh : g = gi := hh
  subst hh
  refine yt_dalt (by decide) (by decide) ?_
  rw [show xk_40.2.1.2.1.1.length = 18 from rfl]
  show ((0 : Int) + (-3)) = yq_cr ((1 * r 0 + 0) + 0) ((1 * r 1 + 0) + 0) ((1 * r 2 + 0) + 0) ((1 * r 3 + 0) + 0) ((1 * r 4 + 0) + 0) (yq_at ((1 * r 0 + 0) + 0) ((1 * ((1 * r 6 + 0) + 0) + 0) + 0) ((1 * ((1 * r 9 + 0) + 0) + 0) + 0) ((1 * ((1 * r 12 + 0) + 0) + 0) + 0) ((1 * ((1 * r 15 + 0) + 0) + 0) + 0)) (yq_at ((1 * r 2 + 0) + 0) ((1 * ((1 * r 6 + 0) + 0) + 0) + 0) ((1 * ((1 * r 9 + 0) + 0) + 0) + 0) ((1 * ((1 * r 12 + 0) + 0) + 0) + 0) ((1 * ((1 * r 15 + 0) + 0) + 0) + 0)) (yq_at ((1 * r 0 + 0) + 0) ((1 * ((1 * r 8 + 0) + 0) + 0) + 0) ((1 * ((1 * r 11 + 0) + 0) + 0) + 0) ((1 * ((1 * r 14 + 0) + 0) + 0) + 0) ((1 * ((1 * r 17 + 0) + 0) + 0) + 0)) (yq_at ((1 * r 2 + 0) + 0) ((1 * ((1 * r 8 + 0) + 0) + 0) + 0) ((1 * ((1 * r 11 + 0) + 0) + 0) + 0) ((1 * ((1 * r 14 + 0) + 0) + 0) + 0) ((1 * ((1 * r 17 + 0) + 0) + 0) + 0)) ∧ (g 3) = yq_xc ((1 * r 0 + 0) + 0) ((1 * r 1 + 0) + 0) ((1 * r 2 + 0) + 0) ((1 * r 3 + 0) + 0) ((1 * r 4 + 0) + 0) 0 (yq_at ((1 * r 0 + 0) + 0) ((1 * ((1 * r 6 + 0) + 0) + 0) + 0) ((1 * ((1 * r 9 + 0) + 0) + 0) + 0) ((1 * ((1 * r 12 + 0) + 0) + 0) + 0) ((1 * ((1 * r 15 + 0) + 0) + 0) + 0)) ((1 * ((1 * r 6 + 0) + 0) + 0) + 0) (yq_at ((1 * r 0 + 0) + 0) ((1 * ((1 * r 8 + 0) + 0) + 0) + 0) ((1 * ((1 * r 11 + 0) + 0) + 0) + 0) ((1 * ((1 * r 14 + 0) + 0) + 0) + 0) ((1 * ((1 * r 17 + 0) + 0) + 0) + 0)) ((1 * ((1 * r 8 + 0) + 0) + 0) + 0) ((1 * ((1 * r 7 + 0) + 0) + 0) + 0) (yq_fat ((1 * r 0 + 0) + 0) (g0 3) (g0 5) (g0 7) (g0 9)) (g0 3) ∧ (g 5) = yq_xc ((1 * r 0 + 0) + 0) ((1 * r 1 + 0) + 0) ((1 * r 2 + 0) + 0) ((1 * r 3 + 0) + 0) ((1 * r 4 + 0) + 0) 1 (yq_at ((1 * r 0 + 0) + 0) ((1 * ((1 * r 6 + 0) + 0) + 0) + 0) ((1 * ((1 * r 9 + 0) + 0) + 0) + 0) ((1 * ((1 * r 12 + 0) + 0) + 0) + 0) ((1 * ((1 * r 15 + 0) + 0) + 0) + 0)) ((1 * ((1 * r 9 + 0) + 0) + 0) + 0) (yq_at ((1 * r 0 + 0) + 0) ((1 * ((1 * r 8 + 0) + 0) + 0) + 0) ((1 * ((1 * r 11 + 0) + 0) + 0) + 0) ((1 * ((1 * r 14 + 0) + 0) + 0) + 0) ((1 * ((1 * r 17 + 0) + 0) + 0) + 0)) ((1 * ((1 * r 11 + 0) + 0) + 0) + 0) ((1 * ((1 * r 10 + 0) + 0) + 0) + 0) (yq_fat ((1 * r 0 + 0) + 0) (g0 3) (g0 5) (g0 7) (g0 9)) (g0 5) ∧ (g 7) = yq_xc ((1 * r 0 + 0) + 0) ((1 * r 1 + 0) + 0) ((1 * r 2 + 0) + 0) ((1 * r 3 + 0) + 0) ((1 * r 4 + 0) + 0) 2 (yq_at ((1 * r 0 + 0) + 0) ((1 * ((1 * r 6 + 0) + 0) + 0) + 0) ((1 * ((1 * r 9 + 0) + 0) + 0) + 0) ((1 * ((1 * r 12 + 0) + 0) + 0) + 0) ((1 * ((1 * r 15 + 0) + 0) + 0) + 0)) ((1 * ((1 * r 12 + 0) + 0) + 0) + 0) (yq_at ((1 * r 0 + 0) + 0) ((1 * ((1 * r 8 + 0) + 0) + 0) + 0) ((1 * ((1 * r 11 + 0) + 0) + 0) + 0) ((1 * ((1 * r 14 + 0) + 0) + 0) + 0) ((1 * ((1 * r 17 + 0) + 0) + 0) + 0)) ((1 * ((1 * r 14 + 0) + 0) + 0) + 0) ((1 * ((1 * r 13 + 0) + 0) + 0) + 0) (yq_fat ((1 * r 0 + 0) + 0) (g0 3) (g0 5) (g0 7) (g0 9)) (g0 7) ∧ (g 9) = yq_xc ((1 * r 0 + 0) + 0) ((1 * r 1 + 0) + 0) ((1 * r 2 + 0) + 0) ((1 * r 3 + 0) + 0) ((1 * r 4 + 0) + 0) 3 (yq_at ((1 * r 0 + 0) + 0) ((1 * ((1 * r 6 + 0) + 0) + 0) + 0) ((1 * ((1 * r 9 + 0) + 0) + 0) + 0) ((1 * ((1 * r 12 + 0) + 0) + 0) + 0) ((1 * ((1 * r 15 + 0) + 0) + 0) + 0)) ((1 * ((1 * r 15 + 0) + 0) + 0) + 0) (yq_at ((1 * r 0 + 0) + 0) ((1 * ((1 * r 8 + 0) + 0) + 0) + 0) ((1 * ((1 * r 11 + 0) + 0) + 0) + 0) ((1 * ((1 * r 14 + 0) + 0) + 0) + 0) ((1 * ((1 * r 17 + 0) + 0) + 0) + 0)) ((1 * ((1 * r 17 + 0) + 0) + 0) + 0) ((1 * ((1 * r 16 + 0) + 0) + 0) + 0) (yq_fat ((1 * r 0 + 0) + 0) (g0 3) (g0 5) (g0 7) (g0 9)) (g0 9)
  try simp only [Int.one_mul, Int.zero_add, Int.add_zero]
  refine ⟨?_, ?_, ?_, ?_, ?_⟩
  · rw [show r 0 = 0 by omega]
    rw [show r 2 = 3 by omega]
    simp only [yq_at0, yq_at3]
    unfold yq_cr
    repeat' split
    all_goals omega
  · rw [show r 0 = 0 by omega]
    simp only [yq_at0, yq_fat0]
    unfold yq_xc
    rw [if_neg (by omega)]
    rw [hgi]
  · rw [show r 0 = 0 by omega]
    simp only [yq_at0, yq_fat0]
    unfold yq_xc
    rw [if_neg (by omega)]
    rw [hgi]
  · rw [show r 0 = 0 by omega]
    simp only [yq_at0, yq_fat0]
    unfold yq_xc
    rw [if_neg (by omega)]
    rw [hgi]
  · rw [show r 0 = 0 by omega]
    simp only [yq_at0, yq_fat0]
    unfold yq_xc
    rw [if_neg (by omega)]
    rw [hgi]
theorem xw_40_0_26 : yt_hold xT_40 xk_40 xq_40.2.2.1 xG_40 xP_40 xU_40 18 xk_40.2.1.2.2.2 (fun g0 r g => xR_40 r g0 ∧ g = g0) (1000, ([(0, 0), (0, 100), (3, 3), (0, 100), (0, 100), ((-2147483648), 2147483647), (1, 1), ((-2147483648), 2147483647), (0, 100), (0, 1), ((-2147483648), 2147483647), (0, 100), (0, 1), ((-2147483648), 2147483647), (0, 100), (1, 1), ((-2147483648), 2147483647), (0, 100), ((-2147483648), 0)], [([(4, (-1)), (3, (-1))], 101), ([(3, (-1)), (17, 1), (4, (-1))], 0), ([(1, (-1)), (8, 1), (4, (-1))], 0)]), [([(4, 1)], 0), ([(18, 1)], 0)], [], [.inr (.inr (.inl (98, 0, [([(3, 1)], 0), ([(1, 1)], 0), ([(4, 1)], 0), ([(15, 1)], 0), ([(16, 1)], 0), ([(17, 1)], 0), ([(6, 1)], 0), ([(7, 1)], 0), ([(8, 1)], 0)], [8, 9, 2, 3], [9])))]) := by
  intro g0 r gi g hok hh hars hfr hG
  have b0 : 0 ≤ r 0 ∧ r 0 ≤ 0 := hok.1 0 (0, 0) rfl
  have b1 : 0 ≤ r 1 ∧ r 1 ≤ 100 := hok.1 1 (0, 100) rfl
  have b2 : 3 ≤ r 2 ∧ r 2 ≤ 3 := hok.1 2 (3, 3) rfl
  have b3 : 0 ≤ r 3 ∧ r 3 ≤ 100 := hok.1 3 (0, 100) rfl
  have b4 : 0 ≤ r 4 ∧ r 4 ≤ 100 := hok.1 4 (0, 100) rfl
  have b5 : (-2147483648) ≤ r 5 ∧ r 5 ≤ 2147483647 := hok.1 5 ((-2147483648), 2147483647) rfl
  have b6 : 1 ≤ r 6 ∧ r 6 ≤ 1 := hok.1 6 (1, 1) rfl
  have b7 : (-2147483648) ≤ r 7 ∧ r 7 ≤ 2147483647 := hok.1 7 ((-2147483648), 2147483647) rfl
  have b8 : 0 ≤ r 8 ∧ r 8 ≤ 100 := hok.1 8 (0, 100) rfl
  have b9 : 0 ≤ r 9 ∧ r 9 ≤ 1 := hok.1 9 (0, 1) rfl
  have b10 : (-2147483648) ≤ r 10 ∧ r 10 ≤ 2147483647 := hok.1 10 ((-2147483648), 2147483647) rfl
  have b11 : 0 ≤ r 11 ∧ r 11 ≤ 100 := hok.1 11 (0, 100) rfl
  have b12 : 0 ≤ r 12 ∧ r 12 ≤ 1 := hok.1 12 (0, 1) rfl
  have b13 : (-2147483648) ≤ r 13 ∧ r 13 ≤ 2147483647 := hok.1 13 ((-2147483648), 2147483647) rfl
  have b14 : 0 ≤ r 14 ∧ r 14 ≤ 100 := hok.1 14 (0, 100) rfl
  have b15 : 1 ≤ r 15 ∧ r 15 ≤ 1 := hok.1 15 (1, 1) rfl
  have b16 : (-2147483648) ≤ r 16 ∧ r 16 ≤ 2147483647 := hok.1 16 ((-2147483648), 2147483647) rfl
  have b17 : 0 ≤ r 17 ∧ r 17 ≤ 100 := hok.1 17 (0, 100) rfl
  have b18 : (-2147483648) ≤ r 18 ∧ r 18 ≤ 0 := hok.1 18 ((-2147483648), 0) rfl
  have f0 : 0 ≤ (((-1) * r 4 + ((-1) * r 3 + 0)) + 101) := hok.2 _ (List.mem_of_getElem? (i := 0) rfl)
  have f1 : 0 ≤ (((-1) * r 3 + (1 * r 17 + ((-1) * r 4 + 0))) + 0) := hok.2 _ (List.mem_of_getElem? (i := 1) rfl)
  have f2 : 0 ≤ (((-1) * r 1 + (1 * r 8 + ((-1) * r 4 + 0))) + 0) := hok.2 _ (List.mem_of_getElem? (i := 2) rfl)
  obtain ⟨hG, hgi⟩ := hG
  have hG : True := hG
  obtain ⟨h0, hh, e0, k0⟩ := hh
  have k0 : ∀ j, j ∉ [9] → g j = h0 j := k0
  have e0 : (g 9) = yq_pa ((1 * r 3 + 0) + 0) ((1 * r 1 + 0) + 0) ((1 * r 4 + 0) + 0) ((1 * r 16 + 0) + 0) (h0 3) (h0 9) := e0
  have hh : h0 = gi := hh
  subst hh
  refine yt_dalt (by decide) (by decide) ?_
  rw [show xk_40.2.1.2.1.1.length = 18 from rfl]
  show ((1 * r 4 + 0) + 0) = yq_cr ((1 * r 0 + 0) + 0) ((1 * r 1 + 0) + 0) ((1 * r 2 + 0) + 0) ((1 * r 3 + 0) + 0) ((1 * r 4 + 0) + 0) (yq_at ((1 * r 0 + 0) + 0) ((1 * ((1 * r 6 + 0) + 0) + 0) + 0) ((1 * ((1 * r 9 + 0) + 0) + 0) + 0) ((1 * ((1 * r 12 + 0) + 0) + 0) + 0) ((1 * ((1 * r 15 + 0) + 0) + 0) + 0)) (yq_at ((1 * r 2 + 0) + 0) ((1 * ((1 * r 6 + 0) + 0) + 0) + 0) ((1 * ((1 * r 9 + 0) + 0) + 0) + 0) ((1 * ((1 * r 12 + 0) + 0) + 0) + 0) ((1 * ((1 * r 15 + 0) + 0) + 0) + 0)) (yq_at ((1 * r 0 + 0) + 0) ((1 * ((1 * r 8 + 0) + 0) + 0) + 0) ((1 * ((1 * r 11 + 0) + 0) + 0) + 0) ((1 * ((1 * r 14 + 0) + 0) + 0) + 0) ((1 * ((1 * r 17 + 0) + 0) + 0) + 0)) (yq_at ((1 * r 2 + 0) + 0) ((1 * ((1 * r 8 + 0) + 0) + 0) + 0) ((1 * ((1 * r 11 + 0) + 0) + 0) + 0) ((1 * ((1 * r 14 + 0) + 0) + 0) + 0) ((1 * ((1 * r 17 + 0) + 0) + 0) + 0)) ∧ (g 3) = yq_xc ((1 * r 0 + 0) + 0) ((1 * r 1 + 0) + 0) ((1 * r 2 + 0) + 0) ((1 * r 3 + 0) + 0) ((1 * r 4 + 0) + 0) 0 (yq_at ((1 * r 0 + 0) + 0) ((1 * ((1 * r 6 + 0) + 0) + 0) + 0) ((1 * ((1 * r 9 + 0) + 0) + 0) + 0) ((1 * ((1 * r 12 + 0) + 0) + 0) + 0) ((1 * ((1 * r 15 + 0) + 0) + 0) + 0)) ((1 * ((1 * r 6 + 0) + 0) + 0) + 0) (yq_at ((1 * r 0 + 0) + 0) ((1 * ((1 * r 8 + 0) + 0) + 0) + 0) ((1 * ((1 * r 11 + 0) + 0) + 0) + 0) ((1 * ((1 * r 14 + 0) + 0) + 0) + 0) ((1 * ((1 * r 17 + 0) + 0) + 0) + 0)) ((1 * ((1 * r 8 + 0) + 0) + 0) + 0) ((1 * ((1 * r 7 + 0) + 0) + 0) + 0) (yq_fat ((1 * r 0 + 0) + 0) (g0 3) (g0 5) (g0 7) (g0 9)) (g0 3) ∧ (g 5) = yq_xc ((1 * r 0 + 0) + 0) ((1 * r 1 + 0) + 0) ((1 * r 2 + 0) + 0) ((1 * r 3 + 0) + 0) ((1 * r 4 + 0) + 0) 1 (yq_at ((1 * r 0 + 0) + 0) ((1 * ((1 * r 6 + 0) + 0) + 0) + 0) ((1 * ((1 * r 9 + 0) + 0) + 0) + 0) ((1 * ((1 * r 12 + 0) + 0) + 0) + 0) ((1 * ((1 * r 15 + 0) + 0) + 0) + 0)) ((1 * ((1 * r 9 + 0) + 0) + 0) + 0) (yq_at ((1 * r 0 + 0) + 0) ((1 * ((1 * r 8 + 0) + 0) + 0) + 0) ((1 * ((1 * r 11 + 0) + 0) + 0) + 0) ((1 * ((1 * r 14 + 0) + 0) + 0) + 0) ((1 * ((1 * r 17 + 0) + 0) + 0) + 0)) ((1 * ((1 * r 11 + 0) + 0) + 0) + 0) ((1 * ((1 * r 10 + 0) + 0) + 0) + 0) (yq_fat ((1 * r 0 + 0) + 0) (g0 3) (g0 5) (g0 7) (g0 9)) (g0 5) ∧ (g 7) = yq_xc ((1 * r 0 + 0) + 0) ((1 * r 1 + 0) + 0) ((1 * r 2 + 0) + 0) ((1 * r 3 + 0) + 0) ((1 * r 4 + 0) + 0) 2 (yq_at ((1 * r 0 + 0) + 0) ((1 * ((1 * r 6 + 0) + 0) + 0) + 0) ((1 * ((1 * r 9 + 0) + 0) + 0) + 0) ((1 * ((1 * r 12 + 0) + 0) + 0) + 0) ((1 * ((1 * r 15 + 0) + 0) + 0) + 0)) ((1 * ((1 * r 12 + 0) + 0) + 0) + 0) (yq_at ((1 * r 0 + 0) + 0) ((1 * ((1 * r 8 + 0) + 0) + 0) + 0) ((1 * ((1 * r 11 + 0) + 0) + 0) + 0) ((1 * ((1 * r 14 + 0) + 0) + 0) + 0) ((1 * ((1 * r 17 + 0) + 0) + 0) + 0)) ((1 * ((1 * r 14 + 0) + 0) + 0) + 0) ((1 * ((1 * r 13 + 0) + 0) + 0) + 0) (yq_fat ((1 * r 0 + 0) + 0) (g0 3) (g0 5) (g0 7) (g0 9)) (g0 7) ∧ (g 9) = yq_xc ((1 * r 0 + 0) + 0) ((1 * r 1 + 0) + 0) ((1 * r 2 + 0) + 0) ((1 * r 3 + 0) + 0) ((1 * r 4 + 0) + 0) 3 (yq_at ((1 * r 0 + 0) + 0) ((1 * ((1 * r 6 + 0) + 0) + 0) + 0) ((1 * ((1 * r 9 + 0) + 0) + 0) + 0) ((1 * ((1 * r 12 + 0) + 0) + 0) + 0) ((1 * ((1 * r 15 + 0) + 0) + 0) + 0)) ((1 * ((1 * r 15 + 0) + 0) + 0) + 0) (yq_at ((1 * r 0 + 0) + 0) ((1 * ((1 * r 8 + 0) + 0) + 0) + 0) ((1 * ((1 * r 11 + 0) + 0) + 0) + 0) ((1 * ((1 * r 14 + 0) + 0) + 0) + 0) ((1 * ((1 * r 17 + 0) + 0) + 0) + 0)) ((1 * ((1 * r 17 + 0) + 0) + 0) + 0) ((1 * ((1 * r 16 + 0) + 0) + 0) + 0) (yq_fat ((1 * r 0 + 0) + 0) (g0 3) (g0 5) (g0 7) (g0 9)) (g0 9)
  try simp only [Int.one_mul, Int.zero_add, Int.add_zero]
  try simp only [Int.one_mul, Int.zero_add, Int.add_zero] at e0
  refine ⟨?_, ?_, ?_, ?_, ?_⟩
  · rw [show r 0 = 0 by omega]
    rw [show r 2 = 3 by omega]
    simp only [yq_at0, yq_at3]
    unfold yq_cr
    repeat' split
    all_goals omega
  · rw [show r 0 = 0 by omega]
    simp only [yq_at0, yq_fat0]
    unfold yq_xc
    rw [if_neg (by omega)]
    rw [k0 3 (by decide), hgi]
  · rw [show r 0 = 0 by omega]
    simp only [yq_at0, yq_fat0]
    unfold yq_xc
    rw [if_neg (by omega)]
    rw [k0 5 (by decide), hgi]
  · rw [show r 0 = 0 by omega]
    simp only [yq_at0, yq_fat0]
    unfold yq_xc
    rw [if_neg (by omega)]
    rw [k0 7 (by decide), hgi]
  · rw [show r 0 = 0 by omega]
    simp only [yq_at0, yq_fat0]
    unfold yq_xc
    rw [if_pos (by omega), e0, hgi]
theorem xw_40_0_27 : yt_hold xT_40 xk_40 xq_40.2.2.1 xG_40 xP_40 xU_40 18 xk_40.2.1.2.2.2 (fun g0 r g => xR_40 r g0 ∧ g = g0) (1000, ([(0, 0), ((-2147483648), 2147483647), (3, 3), ((-2147483648), 2147483647), (0, 2147483647), ((-2147483648), 2147483647), (1, 1), ((-2147483648), 2147483647), (0, 100), (0, 1), ((-2147483648), 2147483647), (0, 100), (0, 1), ((-2147483648), 2147483647), (0, 100), (0, 0), ((-2147483648), 2147483647), (0, 100), ((-2147483648), 0)], []), [([], (-2)), ([(18, 1)], 0)], [], []) := by
  intro g0 r gi g hok hh hars hfr hG
  have b0 : 0 ≤ r 0 ∧ r 0 ≤ 0 := hok.1 0 (0, 0) rfl
  have b1 : (-2147483648) ≤ r 1 ∧ r 1 ≤ 2147483647 := hok.1 1 ((-2147483648), 2147483647) rfl
  have b2 : 3 ≤ r 2 ∧ r 2 ≤ 3 := hok.1 2 (3, 3) rfl
  have b3 : (-2147483648) ≤ r 3 ∧ r 3 ≤ 2147483647 := hok.1 3 ((-2147483648), 2147483647) rfl
  have b4 : 0 ≤ r 4 ∧ r 4 ≤ 2147483647 := hok.1 4 (0, 2147483647) rfl
  have b5 : (-2147483648) ≤ r 5 ∧ r 5 ≤ 2147483647 := hok.1 5 ((-2147483648), 2147483647) rfl
  have b6 : 1 ≤ r 6 ∧ r 6 ≤ 1 := hok.1 6 (1, 1) rfl
  have b7 : (-2147483648) ≤ r 7 ∧ r 7 ≤ 2147483647 := hok.1 7 ((-2147483648), 2147483647) rfl
  have b8 : 0 ≤ r 8 ∧ r 8 ≤ 100 := hok.1 8 (0, 100) rfl
  have b9 : 0 ≤ r 9 ∧ r 9 ≤ 1 := hok.1 9 (0, 1) rfl
  have b10 : (-2147483648) ≤ r 10 ∧ r 10 ≤ 2147483647 := hok.1 10 ((-2147483648), 2147483647) rfl
  have b11 : 0 ≤ r 11 ∧ r 11 ≤ 100 := hok.1 11 (0, 100) rfl
  have b12 : 0 ≤ r 12 ∧ r 12 ≤ 1 := hok.1 12 (0, 1) rfl
  have b13 : (-2147483648) ≤ r 13 ∧ r 13 ≤ 2147483647 := hok.1 13 ((-2147483648), 2147483647) rfl
  have b14 : 0 ≤ r 14 ∧ r 14 ≤ 100 := hok.1 14 (0, 100) rfl
  have b15 : 0 ≤ r 15 ∧ r 15 ≤ 0 := hok.1 15 (0, 0) rfl
  have b16 : (-2147483648) ≤ r 16 ∧ r 16 ≤ 2147483647 := hok.1 16 ((-2147483648), 2147483647) rfl
  have b17 : 0 ≤ r 17 ∧ r 17 ≤ 100 := hok.1 17 (0, 100) rfl
  have b18 : (-2147483648) ≤ r 18 ∧ r 18 ≤ 0 := hok.1 18 ((-2147483648), 0) rfl
  obtain ⟨hG, hgi⟩ := hG
  have hG : True := hG
  have hh : g = gi := hh
  subst hh
  refine yt_dalt (by decide) (by decide) ?_
  rw [show xk_40.2.1.2.1.1.length = 18 from rfl]
  show ((0 : Int) + (-2)) = yq_cr ((1 * r 0 + 0) + 0) ((1 * r 1 + 0) + 0) ((1 * r 2 + 0) + 0) ((1 * r 3 + 0) + 0) ((1 * r 4 + 0) + 0) (yq_at ((1 * r 0 + 0) + 0) ((1 * ((1 * r 6 + 0) + 0) + 0) + 0) ((1 * ((1 * r 9 + 0) + 0) + 0) + 0) ((1 * ((1 * r 12 + 0) + 0) + 0) + 0) ((1 * ((1 * r 15 + 0) + 0) + 0) + 0)) (yq_at ((1 * r 2 + 0) + 0) ((1 * ((1 * r 6 + 0) + 0) + 0) + 0) ((1 * ((1 * r 9 + 0) + 0) + 0) + 0) ((1 * ((1 * r 12 + 0) + 0) + 0) + 0) ((1 * ((1 * r 15 + 0) + 0) + 0) + 0)) (yq_at ((1 * r 0 + 0) + 0) ((1 * ((1 * r 8 + 0) + 0) + 0) + 0) ((1 * ((1 * r 11 + 0) + 0) + 0) + 0) ((1 * ((1 * r 14 + 0) + 0) + 0) + 0) ((1 * ((1 * r 17 + 0) + 0) + 0) + 0)) (yq_at ((1 * r 2 + 0) + 0) ((1 * ((1 * r 8 + 0) + 0) + 0) + 0) ((1 * ((1 * r 11 + 0) + 0) + 0) + 0) ((1 * ((1 * r 14 + 0) + 0) + 0) + 0) ((1 * ((1 * r 17 + 0) + 0) + 0) + 0)) ∧ (g 3) = yq_xc ((1 * r 0 + 0) + 0) ((1 * r 1 + 0) + 0) ((1 * r 2 + 0) + 0) ((1 * r 3 + 0) + 0) ((1 * r 4 + 0) + 0) 0 (yq_at ((1 * r 0 + 0) + 0) ((1 * ((1 * r 6 + 0) + 0) + 0) + 0) ((1 * ((1 * r 9 + 0) + 0) + 0) + 0) ((1 * ((1 * r 12 + 0) + 0) + 0) + 0) ((1 * ((1 * r 15 + 0) + 0) + 0) + 0)) ((1 * ((1 * r 6 + 0) + 0) + 0) + 0) (yq_at ((1 * r 0 + 0) + 0) ((1 * ((1 * r 8 + 0) + 0) + 0) + 0) ((1 * ((1 * r 11 + 0) + 0) + 0) + 0) ((1 * ((1 * r 14 + 0) + 0) + 0) + 0) ((1 * ((1 * r 17 + 0) + 0) + 0) + 0)) ((1 * ((1 * r 8 + 0) + 0) + 0) + 0) ((1 * ((1 * r 7 + 0) + 0) + 0) + 0) (yq_fat ((1 * r 0 + 0) + 0) (g0 3) (g0 5) (g0 7) (g0 9)) (g0 3) ∧ (g 5) = yq_xc ((1 * r 0 + 0) + 0) ((1 * r 1 + 0) + 0) ((1 * r 2 + 0) + 0) ((1 * r 3 + 0) + 0) ((1 * r 4 + 0) + 0) 1 (yq_at ((1 * r 0 + 0) + 0) ((1 * ((1 * r 6 + 0) + 0) + 0) + 0) ((1 * ((1 * r 9 + 0) + 0) + 0) + 0) ((1 * ((1 * r 12 + 0) + 0) + 0) + 0) ((1 * ((1 * r 15 + 0) + 0) + 0) + 0)) ((1 * ((1 * r 9 + 0) + 0) + 0) + 0) (yq_at ((1 * r 0 + 0) + 0) ((1 * ((1 * r 8 + 0) + 0) + 0) + 0) ((1 * ((1 * r 11 + 0) + 0) + 0) + 0) ((1 * ((1 * r 14 + 0) + 0) + 0) + 0) ((1 * ((1 * r 17 + 0) + 0) + 0) + 0)) ((1 * ((1 * r 11 + 0) + 0) + 0) + 0) ((1 * ((1 * r 10 + 0) + 0) + 0) + 0) (yq_fat ((1 * r 0 + 0) + 0) (g0 3) (g0 5) (g0 7) (g0 9)) (g0 5) ∧ (g 7) = yq_xc ((1 * r 0 + 0) + 0) ((1 * r 1 + 0) + 0) ((1 * r 2 + 0) + 0) ((1 * r 3 + 0) + 0) ((1 * r 4 + 0) + 0) 2 (yq_at ((1 * r 0 + 0) + 0) ((1 * ((1 * r 6 + 0) + 0) + 0) + 0) ((1 * ((1 * r 9 + 0) + 0) + 0) + 0) ((1 * ((1 * r 12 + 0) + 0) + 0) + 0) ((1 * ((1 * r 15 + 0) + 0) + 0) + 0)) ((1 * ((1 * r 12 + 0) + 0) + 0) + 0) (yq_at ((1 * r 0 + 0) + 0) ((1 * ((1 * r 8 + 0) + 0) + 0) + 0) ((1 * ((1 * r 11 + 0) + 0) + 0) + 0) ((1 * ((1 * r 14 + 0) + 0) + 0) + 0) ((1 * ((1 * r 17 + 0) + 0) + 0) + 0)) ((1 * ((1 * r 14 + 0) + 0) + 0) + 0) ((1 * ((1 * r 13 + 0) + 0) + 0) + 0) (yq_fat ((1 * r 0 + 0) + 0) (g0 3) (g0 5) (g0 7) (g0 9)) (g0 7) ∧ (g 9) = yq_xc ((1 * r 0 + 0) + 0) ((1 * r 1 + 0) + 0) ((1 * r 2 + 0) + 0) ((1 * r 3 + 0) + 0) ((1 * r 4 + 0) + 0) 3 (yq_at ((1 * r 0 + 0) + 0) ((1 * ((1 * r 6 + 0) + 0) + 0) + 0) ((1 * ((1 * r 9 + 0) + 0) + 0) + 0) ((1 * ((1 * r 12 + 0) + 0) + 0) + 0) ((1 * ((1 * r 15 + 0) + 0) + 0) + 0)) ((1 * ((1 * r 15 + 0) + 0) + 0) + 0) (yq_at ((1 * r 0 + 0) + 0) ((1 * ((1 * r 8 + 0) + 0) + 0) + 0) ((1 * ((1 * r 11 + 0) + 0) + 0) + 0) ((1 * ((1 * r 14 + 0) + 0) + 0) + 0) ((1 * ((1 * r 17 + 0) + 0) + 0) + 0)) ((1 * ((1 * r 17 + 0) + 0) + 0) + 0) ((1 * ((1 * r 16 + 0) + 0) + 0) + 0) (yq_fat ((1 * r 0 + 0) + 0) (g0 3) (g0 5) (g0 7) (g0 9)) (g0 9)
  try simp only [Int.one_mul, Int.zero_add, Int.add_zero]
  refine ⟨?_, ?_, ?_, ?_, ?_⟩
  · rw [show r 0 = 0 by omega]
    rw [show r 2 = 3 by omega]
    simp only [yq_at0, yq_at3]
    unfold yq_cr
    repeat' split
    all_goals omega
  · rw [show r 0 = 0 by omega]
    simp only [yq_at0, yq_fat0]
    unfold yq_xc
    rw [if_neg (by omega)]
    rw [hgi]
  · rw [show r 0 = 0 by omega]
    simp only [yq_at0, yq_fat0]
    unfold yq_xc
    rw [if_neg (by omega)]
    rw [hgi]
  · rw [show r 0 = 0 by omega]
    simp only [yq_at0, yq_fat0]
    unfold yq_xc
    rw [if_neg (by omega)]
    rw [hgi]
  · rw [show r 0 = 0 by omega]
    simp only [yq_at0, yq_fat0]
    unfold yq_xc
    rw [if_neg (by omega)]
    rw [hgi]
theorem xw_40_0_28 : yt_hold xT_40 xk_40 xq_40.2.2.1 xG_40 xP_40 xU_40 18 xk_40.2.1.2.2.2 (fun g0 r g => xR_40 r g0 ∧ g = g0) (1000, ([(1, 1), ((-2147483648), 2147483647), (0, 3), ((-2147483648), 2147483647), (0, 2147483647), ((-2147483648), 2147483647), (0, 1), ((-2147483648), 2147483647), (0, 100), (0, 0), ((-2147483648), 2147483647), (0, 100), (0, 1), ((-2147483648), 2147483647), (0, 100), (0, 1), ((-2147483648), 2147483647), (0, 100), ((-2147483648), 0)], []), [([], (-2)), ([(18, 1)], 0)], [], []) := by
  intro g0 r gi g hok hh hars hfr hG
  have b0 : 1 ≤ r 0 ∧ r 0 ≤ 1 := hok.1 0 (1, 1) rfl
  have b1 : (-2147483648) ≤ r 1 ∧ r 1 ≤ 2147483647 := hok.1 1 ((-2147483648), 2147483647) rfl
  have b2 : 0 ≤ r 2 ∧ r 2 ≤ 3 := hok.1 2 (0, 3) rfl
  have b3 : (-2147483648) ≤ r 3 ∧ r 3 ≤ 2147483647 := hok.1 3 ((-2147483648), 2147483647) rfl
  have b4 : 0 ≤ r 4 ∧ r 4 ≤ 2147483647 := hok.1 4 (0, 2147483647) rfl
  have b5 : (-2147483648) ≤ r 5 ∧ r 5 ≤ 2147483647 := hok.1 5 ((-2147483648), 2147483647) rfl
  have b6 : 0 ≤ r 6 ∧ r 6 ≤ 1 := hok.1 6 (0, 1) rfl
  have b7 : (-2147483648) ≤ r 7 ∧ r 7 ≤ 2147483647 := hok.1 7 ((-2147483648), 2147483647) rfl
  have b8 : 0 ≤ r 8 ∧ r 8 ≤ 100 := hok.1 8 (0, 100) rfl
  have b9 : 0 ≤ r 9 ∧ r 9 ≤ 0 := hok.1 9 (0, 0) rfl
  have b10 : (-2147483648) ≤ r 10 ∧ r 10 ≤ 2147483647 := hok.1 10 ((-2147483648), 2147483647) rfl
  have b11 : 0 ≤ r 11 ∧ r 11 ≤ 100 := hok.1 11 (0, 100) rfl
  have b12 : 0 ≤ r 12 ∧ r 12 ≤ 1 := hok.1 12 (0, 1) rfl
  have b13 : (-2147483648) ≤ r 13 ∧ r 13 ≤ 2147483647 := hok.1 13 ((-2147483648), 2147483647) rfl
  have b14 : 0 ≤ r 14 ∧ r 14 ≤ 100 := hok.1 14 (0, 100) rfl
  have b15 : 0 ≤ r 15 ∧ r 15 ≤ 1 := hok.1 15 (0, 1) rfl
  have b16 : (-2147483648) ≤ r 16 ∧ r 16 ≤ 2147483647 := hok.1 16 ((-2147483648), 2147483647) rfl
  have b17 : 0 ≤ r 17 ∧ r 17 ≤ 100 := hok.1 17 (0, 100) rfl
  have b18 : (-2147483648) ≤ r 18 ∧ r 18 ≤ 0 := hok.1 18 ((-2147483648), 0) rfl
  obtain ⟨hG, hgi⟩ := hG
  have hG : True := hG
  have hh : g = gi := hh
  subst hh
  refine yt_dalt (by decide) (by decide) ?_
  rw [show xk_40.2.1.2.1.1.length = 18 from rfl]
  show ((0 : Int) + (-2)) = yq_cr ((1 * r 0 + 0) + 0) ((1 * r 1 + 0) + 0) ((1 * r 2 + 0) + 0) ((1 * r 3 + 0) + 0) ((1 * r 4 + 0) + 0) (yq_at ((1 * r 0 + 0) + 0) ((1 * ((1 * r 6 + 0) + 0) + 0) + 0) ((1 * ((1 * r 9 + 0) + 0) + 0) + 0) ((1 * ((1 * r 12 + 0) + 0) + 0) + 0) ((1 * ((1 * r 15 + 0) + 0) + 0) + 0)) (yq_at ((1 * r 2 + 0) + 0) ((1 * ((1 * r 6 + 0) + 0) + 0) + 0) ((1 * ((1 * r 9 + 0) + 0) + 0) + 0) ((1 * ((1 * r 12 + 0) + 0) + 0) + 0) ((1 * ((1 * r 15 + 0) + 0) + 0) + 0)) (yq_at ((1 * r 0 + 0) + 0) ((1 * ((1 * r 8 + 0) + 0) + 0) + 0) ((1 * ((1 * r 11 + 0) + 0) + 0) + 0) ((1 * ((1 * r 14 + 0) + 0) + 0) + 0) ((1 * ((1 * r 17 + 0) + 0) + 0) + 0)) (yq_at ((1 * r 2 + 0) + 0) ((1 * ((1 * r 8 + 0) + 0) + 0) + 0) ((1 * ((1 * r 11 + 0) + 0) + 0) + 0) ((1 * ((1 * r 14 + 0) + 0) + 0) + 0) ((1 * ((1 * r 17 + 0) + 0) + 0) + 0)) ∧ (g 3) = yq_xc ((1 * r 0 + 0) + 0) ((1 * r 1 + 0) + 0) ((1 * r 2 + 0) + 0) ((1 * r 3 + 0) + 0) ((1 * r 4 + 0) + 0) 0 (yq_at ((1 * r 0 + 0) + 0) ((1 * ((1 * r 6 + 0) + 0) + 0) + 0) ((1 * ((1 * r 9 + 0) + 0) + 0) + 0) ((1 * ((1 * r 12 + 0) + 0) + 0) + 0) ((1 * ((1 * r 15 + 0) + 0) + 0) + 0)) ((1 * ((1 * r 6 + 0) + 0) + 0) + 0) (yq_at ((1 * r 0 + 0) + 0) ((1 * ((1 * r 8 + 0) + 0) + 0) + 0) ((1 * ((1 * r 11 + 0) + 0) + 0) + 0) ((1 * ((1 * r 14 + 0) + 0) + 0) + 0) ((1 * ((1 * r 17 + 0) + 0) + 0) + 0)) ((1 * ((1 * r 8 + 0) + 0) + 0) + 0) ((1 * ((1 * r 7 + 0) + 0) + 0) + 0) (yq_fat ((1 * r 0 + 0) + 0) (g0 3) (g0 5) (g0 7) (g0 9)) (g0 3) ∧ (g 5) = yq_xc ((1 * r 0 + 0) + 0) ((1 * r 1 + 0) + 0) ((1 * r 2 + 0) + 0) ((1 * r 3 + 0) + 0) ((1 * r 4 + 0) + 0) 1 (yq_at ((1 * r 0 + 0) + 0) ((1 * ((1 * r 6 + 0) + 0) + 0) + 0) ((1 * ((1 * r 9 + 0) + 0) + 0) + 0) ((1 * ((1 * r 12 + 0) + 0) + 0) + 0) ((1 * ((1 * r 15 + 0) + 0) + 0) + 0)) ((1 * ((1 * r 9 + 0) + 0) + 0) + 0) (yq_at ((1 * r 0 + 0) + 0) ((1 * ((1 * r 8 + 0) + 0) + 0) + 0) ((1 * ((1 * r 11 + 0) + 0) + 0) + 0) ((1 * ((1 * r 14 + 0) + 0) + 0) + 0) ((1 * ((1 * r 17 + 0) + 0) + 0) + 0)) ((1 * ((1 * r 11 + 0) + 0) + 0) + 0) ((1 * ((1 * r 10 + 0) + 0) + 0) + 0) (yq_fat ((1 * r 0 + 0) + 0) (g0 3) (g0 5) (g0 7) (g0 9)) (g0 5) ∧ (g 7) = yq_xc ((1 * r 0 + 0) + 0) ((1 * r 1 + 0) + 0) ((1 * r 2 + 0) + 0) ((1 * r 3 + 0) + 0) ((1 * r 4 + 0) + 0) 2 (yq_at ((1 * r 0 + 0) + 0) ((1 * ((1 * r 6 + 0) + 0) + 0) + 0) ((1 * ((1 * r 9 + 0) + 0) + 0) + 0) ((1 * ((1 * r 12 + 0) + 0) + 0) + 0) ((1 * ((1 * r 15 + 0) + 0) + 0) + 0)) ((1 * ((1 * r 12 + 0) + 0) + 0) + 0) (yq_at ((1 * r 0 + 0) + 0) ((1 * ((1 * r 8 + 0) + 0) + 0) + 0) ((1 * ((1 * r 11 + 0) + 0) + 0) + 0) ((1 * ((1 * r 14 + 0) + 0) + 0) + 0) ((1 * ((1 * r 17 + 0) + 0) + 0) + 0)) ((1 * ((1 * r 14 + 0) + 0) + 0) + 0) ((1 * ((1 * r 13 + 0) + 0) + 0) + 0) (yq_fat ((1 * r 0 + 0) + 0) (g0 3) (g0 5) (g0 7) (g0 9)) (g0 7) ∧ (g 9) = yq_xc ((1 * r 0 + 0) + 0) ((1 * r 1 + 0) + 0) ((1 * r 2 + 0) + 0) ((1 * r 3 + 0) + 0) ((1 * r 4 + 0) + 0) 3 (yq_at ((1 * r 0 + 0) + 0) ((1 * ((1 * r 6 + 0) + 0) + 0) + 0) ((1 * ((1 * r 9 + 0) + 0) + 0) + 0) ((1 * ((1 * r 12 + 0) + 0) + 0) + 0) ((1 * ((1 * r 15 + 0) + 0) + 0) + 0)) ((1 * ((1 * r 15 + 0) + 0) + 0) + 0) (yq_at ((1 * r 0 + 0) + 0) ((1 * ((1 * r 8 + 0) + 0) + 0) + 0) ((1 * ((1 * r 11 + 0) + 0) + 0) + 0) ((1 * ((1 * r 14 + 0) + 0) + 0) + 0) ((1 * ((1 * r 17 + 0) + 0) + 0) + 0)) ((1 * ((1 * r 17 + 0) + 0) + 0) + 0) ((1 * ((1 * r 16 + 0) + 0) + 0) + 0) (yq_fat ((1 * r 0 + 0) + 0) (g0 3) (g0 5) (g0 7) (g0 9)) (g0 9)
  try simp only [Int.one_mul, Int.zero_add, Int.add_zero]
  refine ⟨?_, ?_, ?_, ?_, ?_⟩
  · rw [show r 0 = 1 by omega]
    simp only [yq_at1]
    unfold yq_cr
    rw [if_pos (by omega), if_pos (Or.inl (by omega))] <;> omega
  · rw [show r 0 = 1 by omega]
    simp only [yq_at1, yq_fat1]
    unfold yq_xc
    rw [if_neg (by omega)]
    rw [hgi]
  · rw [show r 0 = 1 by omega]
    simp only [yq_at1, yq_fat1]
    unfold yq_xc
    rw [if_neg (by omega)]
    rw [hgi]
  · rw [show r 0 = 1 by omega]
    simp only [yq_at1, yq_fat1]
    unfold yq_xc
    rw [if_neg (by omega)]
    rw [hgi]
  · rw [show r 0 = 1 by omega]
    simp only [yq_at1, yq_fat1]
    unfold yq_xc
    rw [if_neg (by omega)]
    rw [hgi]
theorem xw_40_0_29 : yt_hold xT_40 xk_40 xq_40.2.2.1 xG_40 xP_40 xU_40 18 xk_40.2.1.2.2.2 (fun g0 r g => xR_40 r g0 ∧ g = g0) (1000, ([(1, 1), ((-2147483648), (-1)), (0, 0), ((-2147483648), 2147483647), (0, 2147483647), ((-2147483648), 2147483647), (1, 1), ((-2147483648), 2147483647), (0, 100), (1, 1), ((-2147483648), 2147483647), (0, 100), (0, 1), ((-2147483648), 2147483647), (0, 100), (0, 1), ((-2147483648), 2147483647), (0, 100), ((-2147483648), 0)], []), [([], (-3)), ([(18, 1)], 0)], [], []) := by
  intro g0 r gi g hok hh hars hfr hG
  have b0 : 1 ≤ r 0 ∧ r 0 ≤ 1 := hok.1 0 (1, 1) rfl
  have b1 : (-2147483648) ≤ r 1 ∧ r 1 ≤ (-1) := hok.1 1 ((-2147483648), (-1)) rfl
  have b2 : 0 ≤ r 2 ∧ r 2 ≤ 0 := hok.1 2 (0, 0) rfl
  have b3 : (-2147483648) ≤ r 3 ∧ r 3 ≤ 2147483647 := hok.1 3 ((-2147483648), 2147483647) rfl
  have b4 : 0 ≤ r 4 ∧ r 4 ≤ 2147483647 := hok.1 4 (0, 2147483647) rfl
  have b5 : (-2147483648) ≤ r 5 ∧ r 5 ≤ 2147483647 := hok.1 5 ((-2147483648), 2147483647) rfl
  have b6 : 1 ≤ r 6 ∧ r 6 ≤ 1 := hok.1 6 (1, 1) rfl
  have b7 : (-2147483648) ≤ r 7 ∧ r 7 ≤ 2147483647 := hok.1 7 ((-2147483648), 2147483647) rfl
  have b8 : 0 ≤ r 8 ∧ r 8 ≤ 100 := hok.1 8 (0, 100) rfl
  have b9 : 1 ≤ r 9 ∧ r 9 ≤ 1 := hok.1 9 (1, 1) rfl
  have b10 : (-2147483648) ≤ r 10 ∧ r 10 ≤ 2147483647 := hok.1 10 ((-2147483648), 2147483647) rfl
  have b11 : 0 ≤ r 11 ∧ r 11 ≤ 100 := hok.1 11 (0, 100) rfl
  have b12 : 0 ≤ r 12 ∧ r 12 ≤ 1 := hok.1 12 (0, 1) rfl
  have b13 : (-2147483648) ≤ r 13 ∧ r 13 ≤ 2147483647 := hok.1 13 ((-2147483648), 2147483647) rfl
  have b14 : 0 ≤ r 14 ∧ r 14 ≤ 100 := hok.1 14 (0, 100) rfl
  have b15 : 0 ≤ r 15 ∧ r 15 ≤ 1 := hok.1 15 (0, 1) rfl
  have b16 : (-2147483648) ≤ r 16 ∧ r 16 ≤ 2147483647 := hok.1 16 ((-2147483648), 2147483647) rfl
  have b17 : 0 ≤ r 17 ∧ r 17 ≤ 100 := hok.1 17 (0, 100) rfl
  have b18 : (-2147483648) ≤ r 18 ∧ r 18 ≤ 0 := hok.1 18 ((-2147483648), 0) rfl
  obtain ⟨hG, hgi⟩ := hG
  have hG : True := hG
  have hh : g = gi := hh
  subst hh
  refine yt_dalt (by decide) (by decide) ?_
  rw [show xk_40.2.1.2.1.1.length = 18 from rfl]
  show ((0 : Int) + (-3)) = yq_cr ((1 * r 0 + 0) + 0) ((1 * r 1 + 0) + 0) ((1 * r 2 + 0) + 0) ((1 * r 3 + 0) + 0) ((1 * r 4 + 0) + 0) (yq_at ((1 * r 0 + 0) + 0) ((1 * ((1 * r 6 + 0) + 0) + 0) + 0) ((1 * ((1 * r 9 + 0) + 0) + 0) + 0) ((1 * ((1 * r 12 + 0) + 0) + 0) + 0) ((1 * ((1 * r 15 + 0) + 0) + 0) + 0)) (yq_at ((1 * r 2 + 0) + 0) ((1 * ((1 * r 6 + 0) + 0) + 0) + 0) ((1 * ((1 * r 9 + 0) + 0) + 0) + 0) ((1 * ((1 * r 12 + 0) + 0) + 0) + 0) ((1 * ((1 * r 15 + 0) + 0) + 0) + 0)) (yq_at ((1 * r 0 + 0) + 0) ((1 * ((1 * r 8 + 0) + 0) + 0) + 0) ((1 * ((1 * r 11 + 0) + 0) + 0) + 0) ((1 * ((1 * r 14 + 0) + 0) + 0) + 0) ((1 * ((1 * r 17 + 0) + 0) + 0) + 0)) (yq_at ((1 * r 2 + 0) + 0) ((1 * ((1 * r 8 + 0) + 0) + 0) + 0) ((1 * ((1 * r 11 + 0) + 0) + 0) + 0) ((1 * ((1 * r 14 + 0) + 0) + 0) + 0) ((1 * ((1 * r 17 + 0) + 0) + 0) + 0)) ∧ (g 3) = yq_xc ((1 * r 0 + 0) + 0) ((1 * r 1 + 0) + 0) ((1 * r 2 + 0) + 0) ((1 * r 3 + 0) + 0) ((1 * r 4 + 0) + 0) 0 (yq_at ((1 * r 0 + 0) + 0) ((1 * ((1 * r 6 + 0) + 0) + 0) + 0) ((1 * ((1 * r 9 + 0) + 0) + 0) + 0) ((1 * ((1 * r 12 + 0) + 0) + 0) + 0) ((1 * ((1 * r 15 + 0) + 0) + 0) + 0)) ((1 * ((1 * r 6 + 0) + 0) + 0) + 0) (yq_at ((1 * r 0 + 0) + 0) ((1 * ((1 * r 8 + 0) + 0) + 0) + 0) ((1 * ((1 * r 11 + 0) + 0) + 0) + 0) ((1 * ((1 * r 14 + 0) + 0) + 0) + 0) ((1 * ((1 * r 17 + 0) + 0) + 0) + 0)) ((1 * ((1 * r 8 + 0) + 0) + 0) + 0) ((1 * ((1 * r 7 + 0) + 0) + 0) + 0) (yq_fat ((1 * r 0 + 0) + 0) (g0 3) (g0 5) (g0 7) (g0 9)) (g0 3) ∧ (g 5) = yq_xc ((1 * r 0 + 0) + 0) ((1 * r 1 + 0) + 0) ((1 * r 2 + 0) + 0) ((1 * r 3 + 0) + 0) ((1 * r 4 + 0) + 0) 1 (yq_at ((1 * r 0 + 0) + 0) ((1 * ((1 * r 6 + 0) + 0) + 0) + 0) ((1 * ((1 * r 9 + 0) + 0) + 0) + 0) ((1 * ((1 * r 12 + 0) + 0) + 0) + 0) ((1 * ((1 * r 15 + 0) + 0) + 0) + 0)) ((1 * ((1 * r 9 + 0) + 0) + 0) + 0) (yq_at ((1 * r 0 + 0) + 0) ((1 * ((1 * r 8 + 0) + 0) + 0) + 0) ((1 * ((1 * r 11 + 0) + 0) + 0) + 0) ((1 * ((1 * r 14 + 0) + 0) + 0) + 0) ((1 * ((1 * r 17 + 0) + 0) + 0) + 0)) ((1 * ((1 * r 11 + 0) + 0) + 0) + 0) ((1 * ((1 * r 10 + 0) + 0) + 0) + 0) (yq_fat ((1 * r 0 + 0) + 0) (g0 3) (g0 5) (g0 7) (g0 9)) (g0 5) ∧ (g 7) = yq_xc ((1 * r 0 + 0) + 0) ((1 * r 1 + 0) + 0) ((1 * r 2 + 0) + 0) ((1 * r 3 + 0) + 0) ((1 * r 4 + 0) + 0) 2 (yq_at ((1 * r 0 + 0) + 0) ((1 * ((1 * r 6 + 0) + 0) + 0) + 0) ((1 * ((1 * r 9 + 0) + 0) + 0) + 0) ((1 * ((1 * r 12 + 0) + 0) + 0) + 0) ((1 * ((1 * r 15 + 0) + 0) + 0) + 0)) ((1 * ((1 * r 12 + 0) + 0) + 0) + 0) (yq_at ((1 * r 0 + 0) + 0) ((1 * ((1 * r 8 + 0) + 0) + 0) + 0) ((1 * ((1 * r 11 + 0) + 0) + 0) + 0) ((1 * ((1 * r 14 + 0) + 0) + 0) + 0) ((1 * ((1 * r 17 + 0) + 0) + 0) + 0)) ((1 * ((1 * r 14 + 0) + 0) + 0) + 0) ((1 * ((1 * r 13 + 0) + 0) + 0) + 0) (yq_fat ((1 * r 0 + 0) + 0) (g0 3) (g0 5) (g0 7) (g0 9)) (g0 7) ∧ (g 9) = yq_xc ((1 * r 0 + 0) + 0) ((1 * r 1 + 0) + 0) ((1 * r 2 + 0) + 0) ((1 * r 3 + 0) + 0) ((1 * r 4 + 0) + 0) 3 (yq_at ((1 * r 0 + 0) + 0) ((1 * ((1 * r 6 + 0) + 0) + 0) + 0) ((1 * ((1 * r 9 + 0) + 0) + 0) + 0) ((1 * ((1 * r 12 + 0) + 0) + 0) + 0) ((1 * ((1 * r 15 + 0) + 0) + 0) + 0)) ((1 * ((1 * r 15 + 0) + 0) + 0) + 0) (yq_at ((1 * r 0 + 0) + 0) ((1 * ((1 * r 8 + 0) + 0) + 0) + 0) ((1 * ((1 * r 11 + 0) + 0) + 0) + 0) ((1 * ((1 * r 14 + 0) + 0) + 0) + 0) ((1 * ((1 * r 17 + 0) + 0) + 0) + 0)) ((1 * ((1 * r 17 + 0) + 0) + 0) + 0) ((1 * ((1 * r 16 + 0) + 0) + 0) + 0) (yq_fat ((1 * r 0 + 0) + 0) (g0 3) (g0 5) (g0 7) (g0 9)) (g0 9)
  try simp only [Int.one_mul, Int.zero_add, Int.add_zero]
  refine ⟨?_, ?_, ?_, ?_, ?_⟩
  · rw [show r 0 = 1 by omega]
    rw [show r 2 = 0 by omega]
    simp only [yq_at0, yq_at1]
    unfold yq_cr
    repeat' split
    all_goals omega
  · rw [show r 0 = 1 by omega]
    simp only [yq_at1, yq_fat1]
    unfold yq_xc
    rw [if_neg (by omega)]
    rw [hgi]
  · rw [show r 0 = 1 by omega]
    simp only [yq_at1, yq_fat1]
    unfold yq_xc
    rw [if_neg (by omega)]
    rw [hgi]
  · rw [show r 0 = 1 by omega]
    simp only [yq_at1, yq_fat1]
    unfold yq_xc
    rw [if_neg (by omega)]
    rw [hgi]
  · rw [show r 0 = 1 by omega]
    simp only [yq_at1, yq_fat1]
    unfold yq_xc
    rw [if_neg (by omega)]
    rw [hgi]
theorem xw_40_0_30 : yt_hold xT_40 xk_40 xq_40.2.2.1 xG_40 xP_40 xU_40 18 xk_40.2.1.2.2.2 (fun g0 r g => xR_40 r g0 ∧ g = g0) (1000, ([(1, 1), (0, 2147483647), (0, 0), ((-2147483648), 2147483647), (0, 2147483647), ((-2147483648), 2147483647), (1, 1), ((-2147483648), 2147483647), (0, 100), (1, 1), ((-2147483648), 2147483647), (0, 100), (0, 1), ((-2147483648), 2147483647), (0, 100), (0, 1), ((-2147483648), 2147483647), (0, 100), ((-2147483648), 0)], [([(1, 1), (11, (-1)), (4, 1)], (-1))]), [([], (-3)), ([(18, 1)], 0)], [], []) := by
  intro g0 r gi g hok hh hars hfr hG
  have b0 : 1 ≤ r 0 ∧ r 0 ≤ 1 := hok.1 0 (1, 1) rfl
  have b1 : 0 ≤ r 1 ∧ r 1 ≤ 2147483647 := hok.1 1 (0, 2147483647) rfl
  have b2 : 0 ≤ r 2 ∧ r 2 ≤ 0 := hok.1 2 (0, 0) rfl
  have b3 : (-2147483648) ≤ r 3 ∧ r 3 ≤ 2147483647 := hok.1 3 ((-2147483648), 2147483647) rfl
  have b4 : 0 ≤ r 4 ∧ r 4 ≤ 2147483647 := hok.1 4 (0, 2147483647) rfl
  have b5 : (-2147483648) ≤ r 5 ∧ r 5 ≤ 2147483647 := hok.1 5 ((-2147483648), 2147483647) rfl
  have b6 : 1 ≤ r 6 ∧ r 6 ≤ 1 := hok.1 6 (1, 1) rfl
  have b7 : (-2147483648) ≤ r 7 ∧ r 7 ≤ 2147483647 := hok.1 7 ((-2147483648), 2147483647) rfl
  have b8 : 0 ≤ r 8 ∧ r 8 ≤ 100 := hok.1 8 (0, 100) rfl
  have b9 : 1 ≤ r 9 ∧ r 9 ≤ 1 := hok.1 9 (1, 1) rfl
  have b10 : (-2147483648) ≤ r 10 ∧ r 10 ≤ 2147483647 := hok.1 10 ((-2147483648), 2147483647) rfl
  have b11 : 0 ≤ r 11 ∧ r 11 ≤ 100 := hok.1 11 (0, 100) rfl
  have b12 : 0 ≤ r 12 ∧ r 12 ≤ 1 := hok.1 12 (0, 1) rfl
  have b13 : (-2147483648) ≤ r 13 ∧ r 13 ≤ 2147483647 := hok.1 13 ((-2147483648), 2147483647) rfl
  have b14 : 0 ≤ r 14 ∧ r 14 ≤ 100 := hok.1 14 (0, 100) rfl
  have b15 : 0 ≤ r 15 ∧ r 15 ≤ 1 := hok.1 15 (0, 1) rfl
  have b16 : (-2147483648) ≤ r 16 ∧ r 16 ≤ 2147483647 := hok.1 16 ((-2147483648), 2147483647) rfl
  have b17 : 0 ≤ r 17 ∧ r 17 ≤ 100 := hok.1 17 (0, 100) rfl
  have b18 : (-2147483648) ≤ r 18 ∧ r 18 ≤ 0 := hok.1 18 ((-2147483648), 0) rfl
  have f0 : 0 ≤ ((1 * r 1 + ((-1) * r 11 + (1 * r 4 + 0))) + (-1)) := hok.2 _ (List.mem_of_getElem? (i := 0) rfl)
  obtain ⟨hG, hgi⟩ := hG
  have hG : True := hG
  have hh : g = gi := hh
  subst hh
  refine yt_dalt (by decide) (by decide) ?_
  rw [show xk_40.2.1.2.1.1.length = 18 from rfl]
  show ((0 : Int) + (-3)) = yq_cr ((1 * r 0 + 0) + 0) ((1 * r 1 + 0) + 0) ((1 * r 2 + 0) + 0) ((1 * r 3 + 0) + 0) ((1 * r 4 + 0) + 0) (yq_at ((1 * r 0 + 0) + 0) ((1 * ((1 * r 6 + 0) + 0) + 0) + 0) ((1 * ((1 * r 9 + 0) + 0) + 0) + 0) ((1 * ((1 * r 12 + 0) + 0) + 0) + 0) ((1 * ((1 * r 15 + 0) + 0) + 0) + 0)) (yq_at ((1 * r 2 + 0) + 0) ((1 * ((1 * r 6 + 0) + 0) + 0) + 0) ((1 * ((1 * r 9 + 0) + 0) + 0) + 0) ((1 * ((1 * r 12 + 0) + 0) + 0) + 0) ((1 * ((1 * r 15 + 0) + 0) + 0) + 0)) (yq_at ((1 * r 0 + 0) + 0) ((1 * ((1 * r 8 + 0) + 0) + 0) + 0) ((1 * ((1 * r 11 + 0) + 0) + 0) + 0) ((1 * ((1 * r 14 + 0) + 0) + 0) + 0) ((1 * ((1 * r 17 + 0) + 0) + 0) + 0)) (yq_at ((1 * r 2 + 0) + 0) ((1 * ((1 * r 8 + 0) + 0) + 0) + 0) ((1 * ((1 * r 11 + 0) + 0) + 0) + 0) ((1 * ((1 * r 14 + 0) + 0) + 0) + 0) ((1 * ((1 * r 17 + 0) + 0) + 0) + 0)) ∧ (g 3) = yq_xc ((1 * r 0 + 0) + 0) ((1 * r 1 + 0) + 0) ((1 * r 2 + 0) + 0) ((1 * r 3 + 0) + 0) ((1 * r 4 + 0) + 0) 0 (yq_at ((1 * r 0 + 0) + 0) ((1 * ((1 * r 6 + 0) + 0) + 0) + 0) ((1 * ((1 * r 9 + 0) + 0) + 0) + 0) ((1 * ((1 * r 12 + 0) + 0) + 0) + 0) ((1 * ((1 * r 15 + 0) + 0) + 0) + 0)) ((1 * ((1 * r 6 + 0) + 0) + 0) + 0) (yq_at ((1 * r 0 + 0) + 0) ((1 * ((1 * r 8 + 0) + 0) + 0) + 0) ((1 * ((1 * r 11 + 0) + 0) + 0) + 0) ((1 * ((1 * r 14 + 0) + 0) + 0) + 0) ((1 * ((1 * r 17 + 0) + 0) + 0) + 0)) ((1 * ((1 * r 8 + 0) + 0) + 0) + 0) ((1 * ((1 * r 7 + 0) + 0) + 0) + 0) (yq_fat ((1 * r 0 + 0) + 0) (g0 3) (g0 5) (g0 7) (g0 9)) (g0 3) ∧ (g 5) = yq_xc ((1 * r 0 + 0) + 0) ((1 * r 1 + 0) + 0) ((1 * r 2 + 0) + 0) ((1 * r 3 + 0) + 0) ((1 * r 4 + 0) + 0) 1 (yq_at ((1 * r 0 + 0) + 0) ((1 * ((1 * r 6 + 0) + 0) + 0) + 0) ((1 * ((1 * r 9 + 0) + 0) + 0) + 0) ((1 * ((1 * r 12 + 0) + 0) + 0) + 0) ((1 * ((1 * r 15 + 0) + 0) + 0) + 0)) ((1 * ((1 * r 9 + 0) + 0) + 0) + 0) (yq_at ((1 * r 0 + 0) + 0) ((1 * ((1 * r 8 + 0) + 0) + 0) + 0) ((1 * ((1 * r 11 + 0) + 0) + 0) + 0) ((1 * ((1 * r 14 + 0) + 0) + 0) + 0) ((1 * ((1 * r 17 + 0) + 0) + 0) + 0)) ((1 * ((1 * r 11 + 0) + 0) + 0) + 0) ((1 * ((1 * r 10 + 0) + 0) + 0) + 0) (yq_fat ((1 * r 0 + 0) + 0) (g0 3) (g0 5) (g0 7) (g0 9)) (g0 5) ∧ (g 7) = yq_xc ((1 * r 0 + 0) + 0) ((1 * r 1 + 0) + 0) ((1 * r 2 + 0) + 0) ((1 * r 3 + 0) + 0) ((1 * r 4 + 0) + 0) 2 (yq_at ((1 * r 0 + 0) + 0) ((1 * ((1 * r 6 + 0) + 0) + 0) + 0) ((1 * ((1 * r 9 + 0) + 0) + 0) + 0) ((1 * ((1 * r 12 + 0) + 0) + 0) + 0) ((1 * ((1 * r 15 + 0) + 0) + 0) + 0)) ((1 * ((1 * r 12 + 0) + 0) + 0) + 0) (yq_at ((1 * r 0 + 0) + 0) ((1 * ((1 * r 8 + 0) + 0) + 0) + 0) ((1 * ((1 * r 11 + 0) + 0) + 0) + 0) ((1 * ((1 * r 14 + 0) + 0) + 0) + 0) ((1 * ((1 * r 17 + 0) + 0) + 0) + 0)) ((1 * ((1 * r 14 + 0) + 0) + 0) + 0) ((1 * ((1 * r 13 + 0) + 0) + 0) + 0) (yq_fat ((1 * r 0 + 0) + 0) (g0 3) (g0 5) (g0 7) (g0 9)) (g0 7) ∧ (g 9) = yq_xc ((1 * r 0 + 0) + 0) ((1 * r 1 + 0) + 0) ((1 * r 2 + 0) + 0) ((1 * r 3 + 0) + 0) ((1 * r 4 + 0) + 0) 3 (yq_at ((1 * r 0 + 0) + 0) ((1 * ((1 * r 6 + 0) + 0) + 0) + 0) ((1 * ((1 * r 9 + 0) + 0) + 0) + 0) ((1 * ((1 * r 12 + 0) + 0) + 0) + 0) ((1 * ((1 * r 15 + 0) + 0) + 0) + 0)) ((1 * ((1 * r 15 + 0) + 0) + 0) + 0) (yq_at ((1 * r 0 + 0) + 0) ((1 * ((1 * r 8 + 0) + 0) + 0) + 0) ((1 * ((1 * r 11 + 0) + 0) + 0) + 0) ((1 * ((1 * r 14 + 0) + 0) + 0) + 0) ((1 * ((1 * r 17 + 0) + 0) + 0) + 0)) ((1 * ((1 * r 17 + 0) + 0) + 0) + 0) ((1 * ((1 * r 16 + 0) + 0) + 0) + 0) (yq_fat ((1 * r 0 + 0) + 0) (g0 3) (g0 5) (g0 7) (g0 9)) (g0 9)
  try simp only [Int.one_mul, Int.zero_add, Int.add_zero]
  refine ⟨?_, ?_, ?_, ?_, ?_⟩
  · rw [show r 0 = 1 by omega]
    rw [show r 2 = 0 by omega]
    simp only [yq_at0, yq_at1]
    unfold yq_cr
    repeat' split
    all_goals omega
  · rw [show r 0 = 1 by omega]
    simp only [yq_at1, yq_fat1]
    unfold yq_xc
    rw [if_neg (by omega)]
    rw [hgi]
  · rw [show r 0 = 1 by omega]
    simp only [yq_at1, yq_fat1]
    unfold yq_xc
    rw [if_neg (by omega)]
    rw [hgi]
  · rw [show r 0 = 1 by omega]
    simp only [yq_at1, yq_fat1]
    unfold yq_xc
    rw [if_neg (by omega)]
    rw [hgi]
  · rw [show r 0 = 1 by omega]
    simp only [yq_at1, yq_fat1]
    unfold yq_xc
    rw [if_neg (by omega)]
    rw [hgi]
theorem xw_40_0_31 : yt_hold xT_40 xk_40 xq_40.2.2.1 xG_40 xP_40 xU_40 18 xk_40.2.1.2.2.2 (fun g0 r g => xR_40 r g0 ∧ g = g0) (1000, ([(1, 1), (0, 100), (0, 0), ((-2147483648), (-1)), (0, 100), ((-2147483648), 2147483647), (1, 1), ((-2147483648), 2147483647), (0, 100), (1, 1), ((-2147483648), 2147483647), (0, 100), (0, 1), ((-2147483648), 2147483647), (0, 100), (0, 1), ((-2147483648), 2147483647), (0, 100), ((-2147483648), 0)], [([(1, (-1)), (11, 1), (4, (-1))], 0)]), [([], (-3)), ([(18, 1)], 0)], [], []) := by
  intro g0 r gi g hok hh hars hfr hG
  have b0 : 1 ≤ r 0 ∧ r 0 ≤ 1 := hok.1 0 (1, 1) rfl
  have b1 : 0 ≤ r 1 ∧ r 1 ≤ 100 := hok.1 1 (0, 100) rfl
  have b2 : 0 ≤ r 2 ∧ r 2 ≤ 0 := hok.1 2 (0, 0) rfl
  have b3 : (-2147483648) ≤ r 3 ∧ r 3 ≤ (-1) := hok.1 3 ((-2147483648), (-1)) rfl
  have b4 : 0 ≤ r 4 ∧ r 4 ≤ 100 := hok.1 4 (0, 100) rfl
  have b5 : (-2147483648) ≤ r 5 ∧ r 5 ≤ 2147483647 := hok.1 5 ((-2147483648), 2147483647) rfl
  have b6 : 1 ≤ r 6 ∧ r 6 ≤ 1 := hok.1 6 (1, 1) rfl
  have b7 : (-2147483648) ≤ r 7 ∧ r 7 ≤ 2147483647 := hok.1 7 ((-2147483648), 2147483647) rfl
  have b8 : 0 ≤ r 8 ∧ r 8 ≤ 100 := hok.1 8 (0, 100) rfl
  have b9 : 1 ≤ r 9 ∧ r 9 ≤ 1 := hok.1 9 (1, 1) rfl
  have b10 : (-2147483648) ≤ r 10 ∧ r 10 ≤ 2147483647 := hok.1 10 ((-2147483648), 2147483647) rfl
  have b11 : 0 ≤ r 11 ∧ r 11 ≤ 100 := hok.1 11 (0, 100) rfl
  have b12 : 0 ≤ r 12 ∧ r 12 ≤ 1 := hok.1 12 (0, 1) rfl
  have b13 : (-2147483648) ≤ r 13 ∧ r 13 ≤ 2147483647 := hok.1 13 ((-2147483648), 2147483647) rfl
  have b14 : 0 ≤ r 14 ∧ r 14 ≤ 100 := hok.1 14 (0, 100) rfl
  have b15 : 0 ≤ r 15 ∧ r 15 ≤ 1 := hok.1 15 (0, 1) rfl
  have b16 : (-2147483648) ≤ r 16 ∧ r 16 ≤ 2147483647 := hok.1 16 ((-2147483648), 2147483647) rfl
  have b17 : 0 ≤ r 17 ∧ r 17 ≤ 100 := hok.1 17 (0, 100) rfl
  have b18 : (-2147483648) ≤ r 18 ∧ r 18 ≤ 0 := hok.1 18 ((-2147483648), 0) rfl
  have f0 : 0 ≤ (((-1) * r 1 + (1 * r 11 + ((-1) * r 4 + 0))) + 0) := hok.2 _ (List.mem_of_getElem? (i := 0) rfl)
  obtain ⟨hG, hgi⟩ := hG
  have hG : True := hG
  have hh : g = gi := hh
  subst hh
  refine yt_dalt (by decide) (by decide) ?_
  rw [show xk_40.2.1.2.1.1.length = 18 from rfl]
  show ((0 : Int) + (-3)) = yq_cr ((1 * r 0 + 0) + 0) ((1 * r 1 + 0) + 0) ((1 * r 2 + 0) + 0) ((1 * r 3 + 0) + 0) ((1 * r 4 + 0) + 0) (yq_at ((1 * r 0 + 0) + 0) ((1 * ((1 * r 6 + 0) + 0) + 0) + 0) ((1 * ((1 * r 9 + 0) + 0) + 0) + 0) ((1 * ((1 * r 12 + 0) + 0) + 0) + 0) ((1 * ((1 * r 15 + 0) + 0) + 0) + 0)) (yq_at ((1 * r 2 + 0) + 0) ((1 * ((1 * r 6 + 0) + 0) + 0) + 0) ((1 * ((1 * r 9 + 0) + 0) + 0) + 0) ((1 * ((1 * r 12 + 0) + 0) + 0) + 0) ((1 * ((1 * r 15 + 0) + 0) + 0) + 0)) (yq_at ((1 * r 0 + 0) + 0) ((1 * ((1 * r 8 + 0) + 0) + 0) + 0) ((1 * ((1 * r 11 + 0) + 0) + 0) + 0) ((1 * ((1 * r 14 + 0) + 0) + 0) + 0) ((1 * ((1 * r 17 + 0) + 0) + 0) + 0)) (yq_at ((1 * r 2 + 0) + 0) ((1 * ((1 * r 8 + 0) + 0) + 0) + 0) ((1 * ((1 * r 11 + 0) + 0) + 0) + 0) ((1 * ((1 * r 14 + 0) + 0) + 0) + 0) ((1 * ((1 * r 17 + 0) + 0) + 0) + 0)) ∧ (g 3) = yq_xc ((1 * r 0 + 0) + 0) ((1 * r 1 + 0) + 0) ((1 * r 2 + 0) + 0) ((1 * r 3 + 0) + 0) ((1 * r 4 + 0) + 0) 0 (yq_at ((1 * r 0 + 0) + 0) ((1 * ((1 * r 6 + 0) + 0) + 0) + 0) ((1 * ((1 * r 9 + 0) + 0) + 0) + 0) ((1 * ((1 * r 12 + 0) + 0) + 0) + 0) ((1 * ((1 * r 15 + 0) + 0) + 0) + 0)) ((1 * ((1 * r 6 + 0) + 0) + 0) + 0) (yq_at ((1 * r 0 + 0) + 0) ((1 * ((1 * r 8 + 0) + 0) + 0) + 0) ((1 * ((1 * r 11 + 0) + 0) + 0) + 0) ((1 * ((1 * r 14 + 0) + 0) + 0) + 0) ((1 * ((1 * r 17 + 0) + 0) + 0) + 0)) ((1 * ((1 * r 8 + 0) + 0) + 0) + 0) ((1 * ((1 * r 7 + 0) + 0) + 0) + 0) (yq_fat ((1 * r 0 + 0) + 0) (g0 3) (g0 5) (g0 7) (g0 9)) (g0 3) ∧ (g 5) = yq_xc ((1 * r 0 + 0) + 0) ((1 * r 1 + 0) + 0) ((1 * r 2 + 0) + 0) ((1 * r 3 + 0) + 0) ((1 * r 4 + 0) + 0) 1 (yq_at ((1 * r 0 + 0) + 0) ((1 * ((1 * r 6 + 0) + 0) + 0) + 0) ((1 * ((1 * r 9 + 0) + 0) + 0) + 0) ((1 * ((1 * r 12 + 0) + 0) + 0) + 0) ((1 * ((1 * r 15 + 0) + 0) + 0) + 0)) ((1 * ((1 * r 9 + 0) + 0) + 0) + 0) (yq_at ((1 * r 0 + 0) + 0) ((1 * ((1 * r 8 + 0) + 0) + 0) + 0) ((1 * ((1 * r 11 + 0) + 0) + 0) + 0) ((1 * ((1 * r 14 + 0) + 0) + 0) + 0) ((1 * ((1 * r 17 + 0) + 0) + 0) + 0)) ((1 * ((1 * r 11 + 0) + 0) + 0) + 0) ((1 * ((1 * r 10 + 0) + 0) + 0) + 0) (yq_fat ((1 * r 0 + 0) + 0) (g0 3) (g0 5) (g0 7) (g0 9)) (g0 5) ∧ (g 7) = yq_xc ((1 * r 0 + 0) + 0) ((1 * r 1 + 0) + 0) ((1 * r 2 + 0) + 0) ((1 * r 3 + 0) + 0) ((1 * r 4 + 0) + 0) 2 (yq_at ((1 * r 0 + 0) + 0) ((1 * ((1 * r 6 + 0) + 0) + 0) + 0) ((1 * ((1 * r 9 + 0) + 0) + 0) + 0) ((1 * ((1 * r 12 + 0) + 0) + 0) + 0) ((1 * ((1 * r 15 + 0) + 0) + 0) + 0)) ((1 * ((1 * r 12 + 0) + 0) + 0) + 0) (yq_at ((1 * r 0 + 0) + 0) ((1 * ((1 * r 8 + 0) + 0) + 0) + 0) ((1 * ((1 * r 11 + 0) + 0) + 0) + 0) ((1 * ((1 * r 14 + 0) + 0) + 0) + 0) ((1 * ((1 * r 17 + 0) + 0) + 0) + 0)) ((1 * ((1 * r 14 + 0) + 0) + 0) + 0) ((1 * ((1 * r 13 + 0) + 0) + 0) + 0) (yq_fat ((1 * r 0 + 0) + 0) (g0 3) (g0 5) (g0 7) (g0 9)) (g0 7) ∧ (g 9) = yq_xc ((1 * r 0 + 0) + 0) ((1 * r 1 + 0) + 0) ((1 * r 2 + 0) + 0) ((1 * r 3 + 0) + 0) ((1 * r 4 + 0) + 0) 3 (yq_at ((1 * r 0 + 0) + 0) ((1 * ((1 * r 6 + 0) + 0) + 0) + 0) ((1 * ((1 * r 9 + 0) + 0) + 0) + 0) ((1 * ((1 * r 12 + 0) + 0) + 0) + 0) ((1 * ((1 * r 15 + 0) + 0) + 0) + 0)) ((1 * ((1 * r 15 + 0) + 0) + 0) + 0) (yq_at ((1 * r 0 + 0) + 0) ((1 * ((1 * r 8 + 0) + 0) + 0) + 0) ((1 * ((1 * r 11 + 0) + 0) + 0) + 0) ((1 * ((1 * r 14 + 0) + 0) + 0) + 0) ((1 * ((1 * r 17 + 0) + 0) + 0) + 0)) ((1 * ((1 * r 17 + 0) + 0) + 0) + 0) ((1 * ((1 * r 16 + 0) + 0) + 0) + 0) (yq_fat ((1 * r 0 + 0) + 0) (g0 3) (g0 5) (g0 7) (g0 9)) (g0 9)
  try simp only [Int.one_mul, Int.zero_add, Int.add_zero]
  refine ⟨?_, ?_, ?_, ?_, ?_⟩
  · rw [show r 0 = 1 by omega]
    rw [show r 2 = 0 by omega]
    simp only [yq_at0, yq_at1]
    unfold yq_cr
    repeat' split
    all_goals omega
  · rw [show r 0 = 1 by omega]
    simp only [yq_at1, yq_fat1]
    unfold yq_xc
    rw [if_neg (by omega)]
    rw [hgi]
  · rw [show r 0 = 1 by omega]
    simp only [yq_at1, yq_fat1]
    unfold yq_xc
    rw [if_neg (by omega)]
    rw [hgi]
  · rw [show r 0 = 1 by omega]
    simp only [yq_at1, yq_fat1]
    unfold yq_xc
    rw [if_neg (by omega)]
    rw [hgi]
  · rw [show r 0 = 1 by omega]
    simp only [yq_at1, yq_fat1]
    unfold yq_xc
    rw [if_neg (by omega)]
    rw [hgi]
theorem xw_40_0_32 : yt_hold xT_40 xk_40 xq_40.2.2.1 xG_40 xP_40 xU_40 18 xk_40.2.1.2.2.2 (fun g0 r g => xR_40 r g0 ∧ g = g0) (1000, ([(1, 1), (0, 100), (0, 0), (0, 2147483647), (0, 100), ((-2147483648), 2147483647), (1, 1), ((-2147483648), 2147483647), (0, 100), (1, 1), ((-2147483648), 2147483647), (0, 100), (0, 1), ((-2147483648), 2147483647), (0, 100), (0, 1), ((-2147483648), 2147483647), (0, 100), ((-2147483648), 0)], [([(3, 1), (8, (-1)), (4, 1)], (-1)), ([(1, (-1)), (11, 1), (4, (-1))], 0)]), [([], (-3)), ([(18, 1)], 0)], [], []) := by
  intro g0 r gi g hok hh hars hfr hG
  have b0 : 1 ≤ r 0 ∧ r 0 ≤ 1 := hok.1 0 (1, 1) rfl
  have b1 : 0 ≤ r 1 ∧ r 1 ≤ 100 := hok.1 1 (0, 100) rfl
  have b2 : 0 ≤ r 2 ∧ r 2 ≤ 0 := hok.1 2 (0, 0) rfl
  have b3 : 0 ≤ r 3 ∧ r 3 ≤ 2147483647 := hok.1 3 (0, 2147483647) rfl
  have b4 : 0 ≤ r 4 ∧ r 4 ≤ 100 := hok.1 4 (0, 100) rfl
  have b5 : (-2147483648) ≤ r 5 ∧ r 5 ≤ 2147483647 := hok.1 5 ((-2147483648), 2147483647) rfl
  have b6 : 1 ≤ r 6 ∧ r 6 ≤ 1 := hok.1 6 (1, 1) rfl
  have b7 : (-2147483648) ≤ r 7 ∧ r 7 ≤ 2147483647 := hok.1 7 ((-2147483648), 2147483647) rfl
  have b8 : 0 ≤ r 8 ∧ r 8 ≤ 100 := hok.1 8 (0, 100) rfl
  have b9 : 1 ≤ r 9 ∧ r 9 ≤ 1 := hok.1 9 (1, 1) rfl
  have b10 : (-2147483648) ≤ r 10 ∧ r 10 ≤ 2147483647 := hok.1 10 ((-2147483648), 2147483647) rfl
  have b11 : 0 ≤ r 11 ∧ r 11 ≤ 100 := hok.1 11 (0, 100) rfl
  have b12 : 0 ≤ r 12 ∧ r 12 ≤ 1 := hok.1 12 (0, 1) rfl
  have b13 : (-2147483648) ≤ r 13 ∧ r 13 ≤ 2147483647 := hok.1 13 ((-2147483648), 2147483647) rfl
  have b14 : 0 ≤ r 14 ∧ r 14 ≤ 100 := hok.1 14 (0, 100) rfl
  have b15 : 0 ≤ r 15 ∧ r 15 ≤ 1 := hok.1 15 (0, 1) rfl
  have b16 : (-2147483648) ≤ r 16 ∧ r 16 ≤ 2147483647 := hok.1 16 ((-2147483648), 2147483647) rfl
  have b17 : 0 ≤ r 17 ∧ r 17 ≤ 100 := hok.1 17 (0, 100) rfl
  have b18 : (-2147483648) ≤ r 18 ∧ r 18 ≤ 0 := hok.1 18 ((-2147483648), 0) rfl
  have f0 : 0 ≤ ((1 * r 3 + ((-1) * r 8 + (1 * r 4 + 0))) + (-1)) := hok.2 _ (List.mem_of_getElem? (i := 0) rfl)
  have f1 : 0 ≤ (((-1) * r 1 + (1 * r 11 + ((-1) * r 4 + 0))) + 0) := hok.2 _ (List.mem_of_getElem? (i := 1) rfl)
  obtain ⟨hG, hgi⟩ := hG
  have hG : True := hG
  have hh : g = gi := hh
  subst hh
  refine yt_dalt (by decide) (by decide) ?_
  rw [show xk_40.2.1.2.1.1.length = 18 from rfl]
  show ((0 : Int) + (-3)) = yq_cr ((1 * r 0 + 0) + 0) ((1 * r 1 + 0) + 0) ((1 * r 2 + 0) + 0) ((1 * r 3 + 0) + 0) ((1 * r 4 + 0) + 0) (yq_at ((1 * r 0 + 0) + 0) ((1 * ((1 * r 6 + 0) + 0) + 0) + 0) ((1 * ((1 * r 9 + 0) + 0) + 0) + 0) ((1 * ((1 * r 12 + 0) + 0) + 0) + 0) ((1 * ((1 * r 15 + 0) + 0) + 0) + 0)) (yq_at ((1 * r 2 + 0) + 0) ((1 * ((1 * r 6 + 0) + 0) + 0) + 0) ((1 * ((1 * r 9 + 0) + 0) + 0) + 0) ((1 * ((1 * r 12 + 0) + 0) + 0) + 0) ((1 * ((1 * r 15 + 0) + 0) + 0) + 0)) (yq_at ((1 * r 0 + 0) + 0) ((1 * ((1 * r 8 + 0) + 0) + 0) + 0) ((1 * ((1 * r 11 + 0) + 0) + 0) + 0) ((1 * ((1 * r 14 + 0) + 0) + 0) + 0) ((1 * ((1 * r 17 + 0) + 0) + 0) + 0)) (yq_at ((1 * r 2 + 0) + 0) ((1 * ((1 * r 8 + 0) + 0) + 0) + 0) ((1 * ((1 * r 11 + 0) + 0) + 0) + 0) ((1 * ((1 * r 14 + 0) + 0) + 0) + 0) ((1 * ((1 * r 17 + 0) + 0) + 0) + 0)) ∧ (g 3) = yq_xc ((1 * r 0 + 0) + 0) ((1 * r 1 + 0) + 0) ((1 * r 2 + 0) + 0) ((1 * r 3 + 0) + 0) ((1 * r 4 + 0) + 0) 0 (yq_at ((1 * r 0 + 0) + 0) ((1 * ((1 * r 6 + 0) + 0) + 0) + 0) ((1 * ((1 * r 9 + 0) + 0) + 0) + 0) ((1 * ((1 * r 12 + 0) + 0) + 0) + 0) ((1 * ((1 * r 15 + 0) + 0) + 0) + 0)) ((1 * ((1 * r 6 + 0) + 0) + 0) + 0) (yq_at ((1 * r 0 + 0) + 0) ((1 * ((1 * r 8 + 0) + 0) + 0) + 0) ((1 * ((1 * r 11 + 0) + 0) + 0) + 0) ((1 * ((1 * r 14 + 0) + 0) + 0) + 0) ((1 * ((1 * r 17 + 0) + 0) + 0) + 0)) ((1 * ((1 * r 8 + 0) + 0) + 0) + 0) ((1 * ((1 * r 7 + 0) + 0) + 0) + 0) (yq_fat ((1 * r 0 + 0) + 0) (g0 3) (g0 5) (g0 7) (g0 9)) (g0 3) ∧ (g 5) = yq_xc ((1 * r 0 + 0) + 0) ((1 * r 1 + 0) + 0) ((1 * r 2 + 0) + 0) ((1 * r 3 + 0) + 0) ((1 * r 4 + 0) + 0) 1 (yq_at ((1 * r 0 + 0) + 0) ((1 * ((1 * r 6 + 0) + 0) + 0) + 0) ((1 * ((1 * r 9 + 0) + 0) + 0) + 0) ((1 * ((1 * r 12 + 0) + 0) + 0) + 0) ((1 * ((1 * r 15 + 0) + 0) + 0) + 0)) ((1 * ((1 * r 9 + 0) + 0) + 0) + 0) (yq_at ((1 * r 0 + 0) + 0) ((1 * ((1 * r 8 + 0) + 0) + 0) + 0) ((1 * ((1 * r 11 + 0) + 0) + 0) + 0) ((1 * ((1 * r 14 + 0) + 0) + 0) + 0) ((1 * ((1 * r 17 + 0) + 0) + 0) + 0)) ((1 * ((1 * r 11 + 0) + 0) + 0) + 0) ((1 * ((1 * r 10 + 0) + 0) + 0) + 0) (yq_fat ((1 * r 0 + 0) + 0) (g0 3) (g0 5) (g0 7) (g0 9)) (g0 5) ∧ (g 7) = yq_xc ((1 * r 0 + 0) + 0) ((1 * r 1 + 0) + 0) ((1 * r 2 + 0) + 0) ((1 * r 3 + 0) + 0) ((1 * r 4 + 0) + 0) 2 (yq_at ((1 * r 0 + 0) + 0) ((1 * ((1 * r 6 + 0) + 0) + 0) + 0) ((1 * ((1 * r 9 + 0) + 0) + 0) + 0) ((1 * ((1 * r 12 + 0) + 0) + 0) + 0) ((1 * ((1 * r 15 + 0) + 0) + 0) + 0)) ((1 * ((1 * r 12 + 0) + 0) + 0) + 0) (yq_at ((1 * r 0 + 0) + 0) ((1 * ((1 * r 8 + 0) + 0) + 0) + 0) ((1 * ((1 * r 11 + 0) + 0) + 0) + 0) ((1 * ((1 * r 14 + 0) + 0) + 0) + 0) ((1 * ((1 * r 17 + 0) + 0) + 0) + 0)) ((1 * ((1 * r 14 + 0) + 0) + 0) + 0) ((1 * ((1 * r 13 + 0) + 0) + 0) + 0) (yq_fat ((1 * r 0 + 0) + 0) (g0 3) (g0 5) (g0 7) (g0 9)) (g0 7) ∧ (g 9) = yq_xc ((1 * r 0 + 0) + 0) ((1 * r 1 + 0) + 0) ((1 * r 2 + 0) + 0) ((1 * r 3 + 0) + 0) ((1 * r 4 + 0) + 0) 3 (yq_at ((1 * r 0 + 0) + 0) ((1 * ((1 * r 6 + 0) + 0) + 0) + 0) ((1 * ((1 * r 9 + 0) + 0) + 0) + 0) ((1 * ((1 * r 12 + 0) + 0) + 0) + 0) ((1 * ((1 * r 15 + 0) + 0) + 0) + 0)) ((1 * ((1 * r 15 + 0) + 0) + 0) + 0) (yq_at ((1 * r 0 + 0) + 0) ((1 * ((1 * r 8 + 0) + 0) + 0) + 0) ((1 * ((1 * r 11 + 0) + 0) + 0) + 0) ((1 * ((1 * r 14 + 0) + 0) + 0) + 0) ((1 * ((1 * r 17 + 0) + 0) + 0) + 0)) ((1 * ((1 * r 17 + 0) + 0) + 0) + 0) ((1 * ((1 * r 16 + 0) + 0) + 0) + 0) (yq_fat ((1 * r 0 + 0) + 0) (g0 3) (g0 5) (g0 7) (g0 9)) (g0 9)
  try simp only [Int.one_mul, Int.zero_add, Int.add_zero]
  refine ⟨?_, ?_, ?_, ?_, ?_⟩
  · rw [show r 0 = 1 by omega]
    rw [show r 2 = 0 by omega]
    simp only [yq_at0, yq_at1]
    unfold yq_cr
    repeat' split
    all_goals omega
  · rw [show r 0 = 1 by omega]
    simp only [yq_at1, yq_fat1]
    unfold yq_xc
    rw [if_neg (by omega)]
    rw [hgi]
  · rw [show r 0 = 1 by omega]
    simp only [yq_at1, yq_fat1]
    unfold yq_xc
    rw [if_neg (by omega)]
    rw [hgi]
  · rw [show r 0 = 1 by omega]
    simp only [yq_at1, yq_fat1]
    unfold yq_xc
    rw [if_neg (by omega)]
    rw [hgi]
  · rw [show r 0 = 1 by omega]
    simp only [yq_at1, yq_fat1]
    unfold yq_xc
    rw [if_neg (by omega)]
    rw [hgi]
theorem xw_40_0_33 : yt_hold xT_40 xk_40 xq_40.2.2.1 xG_40 xP_40 xU_40 18 xk_40.2.1.2.2.2 (fun g0 r g => xR_40 r g0 ∧ g = g0) (1000, ([(1, 1), (0, 100), (0, 0), (0, 100), (0, 100), ((-2147483648), 2147483647), (1, 1), ((-2147483648), 2147483647), (0, 100), (1, 1), ((-2147483648), 2147483647), (0, 100), (0, 1), ((-2147483648), 2147483647), (0, 100), (0, 1), ((-2147483648), 2147483647), (0, 100), ((-2147483648), 0)], [([(4, (-1)), (3, (-1))], 101), ([(3, (-1)), (8, 1), (4, (-1))], 0), ([(1, (-1)), (11, 1), (4, (-1))], 0)]), [([(4, 1)], 0), ([(18, 1)], 0)], [], [.inr (.inr (.inl (98, 0, [([(3, 1)], 0), ([(1, 1)], 0), ([(4, 1)], 0), ([(6, 1)], 0), ([(7, 1)], 0), ([(8, 1)], 0), ([(9, 1)], 0), ([(10, 1)], 0), ([(11, 1)], 0)], [2, 3, 4, 5], [3])))]) := by
  intro g0 r gi g hok hh hars hfr hG
  have b0 : 1 ≤ r 0 ∧ r 0 ≤ 1 := hok.1 0 (1, 1) rfl
  have b1 : 0 ≤ r 1 ∧ r 1 ≤ 100 := hok.1 1 (0, 100) rfl
  have b2 : 0 ≤ r 2 ∧ r 2 ≤ 0 := hok.1 2 (0, 0) rfl
  have b3 : 0 ≤ r 3 ∧ r 3 ≤ 100 := hok.1 3 (0, 100) rfl
  have b4 : 0 ≤ r 4 ∧ r 4 ≤ 100 := hok.1 4 (0, 100) rfl
  have b5 : (-2147483648) ≤ r 5 ∧ r 5 ≤ 2147483647 := hok.1 5 ((-2147483648), 2147483647) rfl
  have b6 : 1 ≤ r 6 ∧ r 6 ≤ 1 := hok.1 6 (1, 1) rfl
  have b7 : (-2147483648) ≤ r 7 ∧ r 7 ≤ 2147483647 := hok.1 7 ((-2147483648), 2147483647) rfl
  have b8 : 0 ≤ r 8 ∧ r 8 ≤ 100 := hok.1 8 (0, 100) rfl
  have b9 : 1 ≤ r 9 ∧ r 9 ≤ 1 := hok.1 9 (1, 1) rfl
  have b10 : (-2147483648) ≤ r 10 ∧ r 10 ≤ 2147483647 := hok.1 10 ((-2147483648), 2147483647) rfl
  have b11 : 0 ≤ r 11 ∧ r 11 ≤ 100 := hok.1 11 (0, 100) rfl
  have b12 : 0 ≤ r 12 ∧ r 12 ≤ 1 := hok.1 12 (0, 1) rfl
  have b13 : (-2147483648) ≤ r 13 ∧ r 13 ≤ 2147483647 := hok.1 13 ((-2147483648), 2147483647) rfl
  have b14 : 0 ≤ r 14 ∧ r 14 ≤ 100 := hok.1 14 (0, 100) rfl
  have b15 : 0 ≤ r 15 ∧ r 15 ≤ 1 := hok.1 15 (0, 1) rfl
  have b16 : (-2147483648) ≤ r 16 ∧ r 16 ≤ 2147483647 := hok.1 16 ((-2147483648), 2147483647) rfl
  have b17 : 0 ≤ r 17 ∧ r 17 ≤ 100 := hok.1 17 (0, 100) rfl
  have b18 : (-2147483648) ≤ r 18 ∧ r 18 ≤ 0 := hok.1 18 ((-2147483648), 0) rfl
  have f0 : 0 ≤ (((-1) * r 4 + ((-1) * r 3 + 0)) + 101) := hok.2 _ (List.mem_of_getElem? (i := 0) rfl)
  have f1 : 0 ≤ (((-1) * r 3 + (1 * r 8 + ((-1) * r 4 + 0))) + 0) := hok.2 _ (List.mem_of_getElem? (i := 1) rfl)
  have f2 : 0 ≤ (((-1) * r 1 + (1 * r 11 + ((-1) * r 4 + 0))) + 0) := hok.2 _ (List.mem_of_getElem? (i := 2) rfl)
  obtain ⟨hG, hgi⟩ := hG
  have hG : True := hG
  obtain ⟨h0, hh, e0, k0⟩ := hh
  have k0 : ∀ j, j ∉ [3] → g j = h0 j := k0
  have e0 : (g 3) = yq_pa ((1 * r 3 + 0) + 0) ((1 * r 1 + 0) + 0) ((1 * r 4 + 0) + 0) ((1 * r 7 + 0) + 0) (h0 5) (h0 3) := e0
  have hh : h0 = gi := hh
  subst hh
  refine yt_dalt (by decide) (by decide) ?_
  rw [show xk_40.2.1.2.1.1.length = 18 from rfl]
  show ((1 * r 4 + 0) + 0) = yq_cr ((1 * r 0 + 0) + 0) ((1 * r 1 + 0) + 0) ((1 * r 2 + 0) + 0) ((1 * r 3 + 0) + 0) ((1 * r 4 + 0) + 0) (yq_at ((1 * r 0 + 0) + 0) ((1 * ((1 * r 6 + 0) + 0) + 0) + 0) ((1 * ((1 * r 9 + 0) + 0) + 0) + 0) ((1 * ((1 * r 12 + 0) + 0) + 0) + 0) ((1 * ((1 * r 15 + 0) + 0) + 0) + 0)) (yq_at ((1 * r 2 + 0) + 0) ((1 * ((1 * r 6 + 0) + 0) + 0) + 0) ((1 * ((1 * r 9 + 0) + 0) + 0) + 0) ((1 * ((1 * r 12 + 0) + 0) + 0) + 0) ((1 * ((1 * r 15 + 0) + 0) + 0) + 0)) (yq_at ((1 * r 0 + 0) + 0) ((1 * ((1 * r 8 + 0) + 0) + 0) + 0) ((1 * ((1 * r 11 + 0) + 0) + 0) + 0) ((1 * ((1 * r 14 + 0) + 0) + 0) + 0) ((1 * ((1 * r 17 + 0) + 0) + 0) + 0)) (yq_at ((1 * r 2 + 0) + 0) ((1 * ((1 * r 8 + 0) + 0) + 0) + 0) ((1 * ((1 * r 11 + 0) + 0) + 0) + 0) ((1 * ((1 * r 14 + 0) + 0) + 0) + 0) ((1 * ((1 * r 17 + 0) + 0) + 0) + 0)) ∧ (g 3) = yq_xc ((1 * r 0 + 0) + 0) ((1 * r 1 + 0) + 0) ((1 * r 2 + 0) + 0) ((1 * r 3 + 0) + 0) ((1 * r 4 + 0) + 0) 0 (yq_at ((1 * r 0 + 0) + 0) ((1 * ((1 * r 6 + 0) + 0) + 0) + 0) ((1 * ((1 * r 9 + 0) + 0) + 0) + 0) ((1 * ((1 * r 12 + 0) + 0) + 0) + 0) ((1 * ((1 * r 15 + 0) + 0) + 0) + 0)) ((1 * ((1 * r 6 + 0) + 0) + 0) + 0) (yq_at ((1 * r 0 + 0) + 0) ((1 * ((1 * r 8 + 0) + 0) + 0) + 0) ((1 * ((1 * r 11 + 0) + 0) + 0) + 0) ((1 * ((1 * r 14 + 0) + 0) + 0) + 0) ((1 * ((1 * r 17 + 0) + 0) + 0) + 0)) ((1 * ((1 * r 8 + 0) + 0) + 0) + 0) ((1 * ((1 * r 7 + 0) + 0) + 0) + 0) (yq_fat ((1 * r 0 + 0) + 0) (g0 3) (g0 5) (g0 7) (g0 9)) (g0 3) ∧ (g 5) = yq_xc ((1 * r 0 + 0) + 0) ((1 * r 1 + 0) + 0) ((1 * r 2 + 0) + 0) ((1 * r 3 + 0) + 0) ((1 * r 4 + 0) + 0) 1 (yq_at ((1 * r 0 + 0) + 0) ((1 * ((1 * r 6 + 0) + 0) + 0) + 0) ((1 * ((1 * r 9 + 0) + 0) + 0) + 0) ((1 * ((1 * r 12 + 0) + 0) + 0) + 0) ((1 * ((1 * r 15 + 0) + 0) + 0) + 0)) ((1 * ((1 * r 9 + 0) + 0) + 0) + 0) (yq_at ((1 * r 0 + 0) + 0) ((1 * ((1 * r 8 + 0) + 0) + 0) + 0) ((1 * ((1 * r 11 + 0) + 0) + 0) + 0) ((1 * ((1 * r 14 + 0) + 0) + 0) + 0) ((1 * ((1 * r 17 + 0) + 0) + 0) + 0)) ((1 * ((1 * r 11 + 0) + 0) + 0) + 0) ((1 * ((1 * r 10 + 0) + 0) + 0) + 0) (yq_fat ((1 * r 0 + 0) + 0) (g0 3) (g0 5) (g0 7) (g0 9)) (g0 5) ∧ (g 7) = yq_xc ((1 * r 0 + 0) + 0) ((1 * r 1 + 0) + 0) ((1 * r 2 + 0) + 0) ((1 * r 3 + 0) + 0) ((1 * r 4 + 0) + 0) 2 (yq_at ((1 * r 0 + 0) + 0) ((1 * ((1 * r 6 + 0) + 0) + 0) + 0) ((1 * ((1 * r 9 + 0) + 0) + 0) + 0) ((1 * ((1 * r 12 + 0) + 0) + 0) + 0) ((1 * ((1 * r 15 + 0) + 0) + 0) + 0)) ((1 * ((1 * r 12 + 0) + 0) + 0) + 0) (yq_at ((1 * r 0 + 0) + 0) ((1 * ((1 * r 8 + 0) + 0) + 0) + 0) ((1 * ((1 * r 11 + 0) + 0) + 0) + 0) ((1 * ((1 * r 14 + 0) + 0) + 0) + 0) ((1 * ((1 * r 17 + 0) + 0) + 0) + 0)) ((1 * ((1 * r 14 + 0) + 0) + 0) + 0) ((1 * ((1 * r 13 + 0) + 0) + 0) + 0) (yq_fat ((1 * r 0 + 0) + 0) (g0 3) (g0 5) (g0 7) (g0 9)) (g0 7) ∧ (g 9) = yq_xc ((1 * r 0 + 0) + 0) ((1 * r 1 + 0) + 0) ((1 * r 2 + 0) + 0) ((1 * r 3 + 0) + 0) ((1 * r 4 + 0) + 0) 3 (yq_at ((1 * r 0 + 0) + 0) ((1 * ((1 * r 6 + 0) + 0) + 0) + 0) ((1 * ((1 * r 9 + 0) + 0) + 0) + 0) ((1 * ((1 * r 12 + 0) + 0) + 0) + 0) ((1 * ((1 * r 15 + 0) + 0) + 0) + 0)) ((1 * ((1 * r 15 + 0) + 0) + 0) + 0) (yq_at ((1 * r 0 + 0) + 0) ((1 * ((1 * r 8 + 0) + 0) + 0) + 0) ((1 * ((1 * r 11 + 0) + 0) + 0) + 0) ((1 * ((1 * r 14 + 0) + 0) + 0) + 0) ((1 * ((1 * r 17 + 0) + 0) + 0) + 0)) ((1 * ((1 * r 17 + 0) + 0) + 0) + 0) ((1 * ((1 * r 16 + 0) + 0) + 0) + 0) (yq_fat ((1 * r 0 + 0) + 0) (g0 3) (g0 5) (g0 7) (g0 9)) (g0 9)
  try simp only [Int.one_mul, Int.zero_add, Int.add_zero]
  try simp only [Int.one_mul, Int.zero_add, Int.add_zero] at e0
  refine ⟨?_, ?_, ?_, ?_, ?_⟩
  · rw [show r 0 = 1 by omega]
    rw [show r 2 = 0 by omega]
    simp only [yq_at0, yq_at1]
    unfold yq_cr
    repeat' split
    all_goals omega
  · rw [show r 0 = 1 by omega]
    simp only [yq_at1, yq_fat1]
    unfold yq_xc
    rw [if_pos (by omega), e0, hgi]
  · rw [show r 0 = 1 by omega]
    simp only [yq_at1, yq_fat1]
    unfold yq_xc
    rw [if_neg (by omega)]
    rw [k0 5 (by decide), hgi]
  · rw [show r 0 = 1 by omega]
    simp only [yq_at1, yq_fat1]
    unfold yq_xc
    rw [if_neg (by omega)]
    rw [k0 7 (by decide), hgi]
  · rw [show r 0 = 1 by omega]
    simp only [yq_at1, yq_fat1]
    unfold yq_xc
    rw [if_neg (by omega)]
    rw [k0 9 (by decide), hgi]
theorem xw_40_0_34 : yt_hold xT_40 xk_40 xq_40.2.2.1 xG_40 xP_40 xU_40 18 xk_40.2.1.2.2.2 (fun g0 r g => xR_40 r g0 ∧ g = g0) (1000, ([(1, 1), ((-2147483648), 2147483647), (0, 0), ((-2147483648), 2147483647), (0, 2147483647), ((-2147483648), 2147483647), (0, 0), ((-2147483648), 2147483647), (0, 100), (1, 1), ((-2147483648), 2147483647), (0, 100), (0, 1), ((-2147483648), 2147483647), (0, 100), (0, 1), ((-2147483648), 2147483647), (0, 100), ((-2147483648), 0)], []), [([], (-2)), ([(18, 1)], 0)], [], []) := by
  intro g0 r gi g hok hh hars hfr hG
  have b0 : 1 ≤ r 0 ∧ r 0 ≤ 1 := hok.1 0 (1, 1) rfl
  have b1 : (-2147483648) ≤ r 1 ∧ r 1 ≤ 2147483647 := hok.1 1 ((-2147483648), 2147483647) rfl
  have b2 : 0 ≤ r 2 ∧ r 2 ≤ 0 := hok.1 2 (0, 0) rfl
  have b3 : (-2147483648) ≤ r 3 ∧ r 3 ≤ 2147483647 := hok.1 3 ((-2147483648), 2147483647) rfl
  have b4 : 0 ≤ r 4 ∧ r 4 ≤ 2147483647 := hok.1 4 (0, 2147483647) rfl
  have b5 : (-2147483648) ≤ r 5 ∧ r 5 ≤ 2147483647 := hok.1 5 ((-2147483648), 2147483647) rfl
  have b6 : 0 ≤ r 6 ∧ r 6 ≤ 0 := hok.1 6 (0, 0) rfl
  have b7 : (-2147483648) ≤ r 7 ∧ r 7 ≤ 2147483647 := hok.1 7 ((-2147483648), 2147483647) rfl
  have b8 : 0 ≤ r 8 ∧ r 8 ≤ 100 := hok.1 8 (0, 100) rfl
  have b9 : 1 ≤ r 9 ∧ r 9 ≤ 1 := hok.1 9 (1, 1) rfl
  have b10 : (-2147483648) ≤ r 10 ∧ r 10 ≤ 2147483647 := hok.1 10 ((-2147483648), 2147483647) rfl
  have b11 : 0 ≤ r 11 ∧ r 11 ≤ 100 := hok.1 11 (0, 100) rfl
  have b12 : 0 ≤ r 12 ∧ r 12 ≤ 1 := hok.1 12 (0, 1) rfl
  have b13 : (-2147483648) ≤ r 13 ∧ r 13 ≤ 2147483647 := hok.1 13 ((-2147483648), 2147483647) rfl
  have b14 : 0 ≤ r 14 ∧ r 14 ≤ 100 := hok.1 14 (0, 100) rfl
  have b15 : 0 ≤ r 15 ∧ r 15 ≤ 1 := hok.1 15 (0, 1) rfl
  have b16 : (-2147483648) ≤ r 16 ∧ r 16 ≤ 2147483647 := hok.1 16 ((-2147483648), 2147483647) rfl
  have b17 : 0 ≤ r 17 ∧ r 17 ≤ 100 := hok.1 17 (0, 100) rfl
  have b18 : (-2147483648) ≤ r 18 ∧ r 18 ≤ 0 := hok.1 18 ((-2147483648), 0) rfl
  obtain ⟨hG, hgi⟩ := hG
  have hG : True := hG
  have hh : g = gi := hh
  subst hh
  refine yt_dalt (by decide) (by decide) ?_
  rw [show xk_40.2.1.2.1.1.length = 18 from rfl]
  show ((0 : Int) + (-2)) = yq_cr ((1 * r 0 + 0) + 0) ((1 * r 1 + 0) + 0) ((1 * r 2 + 0) + 0) ((1 * r 3 + 0) + 0) ((1 * r 4 + 0) + 0) (yq_at ((1 * r 0 + 0) + 0) ((1 * ((1 * r 6 + 0) + 0) + 0) + 0) ((1 * ((1 * r 9 + 0) + 0) + 0) + 0) ((1 * ((1 * r 12 + 0) + 0) + 0) + 0) ((1 * ((1 * r 15 + 0) + 0) + 0) + 0)) (yq_at ((1 * r 2 + 0) + 0) ((1 * ((1 * r 6 + 0) + 0) + 0) + 0) ((1 * ((1 * r 9 + 0) + 0) + 0) + 0) ((1 * ((1 * r 12 + 0) + 0) + 0) + 0) ((1 * ((1 * r 15 + 0) + 0) + 0) + 0)) (yq_at ((1 * r 0 + 0) + 0) ((1 * ((1 * r 8 + 0) + 0) + 0) + 0) ((1 * ((1 * r 11 + 0) + 0) + 0) + 0) ((1 * ((1 * r 14 + 0) + 0) + 0) + 0) ((1 * ((1 * r 17 + 0) + 0) + 0) + 0)) (yq_at ((1 * r 2 + 0) + 0) ((1 * ((1 * r 8 + 0) + 0) + 0) + 0) ((1 * ((1 * r 11 + 0) + 0) + 0) + 0) ((1 * ((1 * r 14 + 0) + 0) + 0) + 0) ((1 * ((1 * r 17 + 0) + 0) + 0) + 0)) ∧ (g 3) = yq_xc ((1 * r 0 + 0) + 0) ((1 * r 1 + 0) + 0) ((1 * r 2 + 0) + 0) ((1 * r 3 + 0) + 0) ((1 * r 4 + 0) + 0) 0 (yq_at ((1 * r 0 + 0) + 0) ((1 * ((1 * r 6 + 0) + 0) + 0) + 0) ((1 * ((1 * r 9 + 0) + 0) + 0) + 0) ((1 * ((1 * r 12 + 0) + 0) + 0) + 0) ((1 * ((1 * r 15 + 0) + 0) + 0) + 0)) ((1 * ((1 * r 6 + 0) + 0) + 0) + 0) (yq_at ((1 * r 0 + 0) + 0) ((1 * ((1 * r 8 + 0) + 0) + 0) + 0) ((1 * ((1 * r 11 + 0) + 0) + 0) + 0) ((1 * ((1 * r 14 + 0) + 0) + 0) + 0) ((1 * ((1 * r 17 + 0) + 0) + 0) + 0)) ((1 * ((1 * r 8 + 0) + 0) + 0) + 0) ((1 * ((1 * r 7 + 0) + 0) + 0) + 0) (yq_fat ((1 * r 0 + 0) + 0) (g0 3) (g0 5) (g0 7) (g0 9)) (g0 3) ∧ (g 5) = yq_xc ((1 * r 0 + 0) + 0) ((1 * r 1 + 0) + 0) ((1 * r 2 + 0) + 0) ((1 * r 3 + 0) + 0) ((1 * r 4 + 0) + 0) 1 (yq_at ((1 * r 0 + 0) + 0) ((1 * ((1 * r 6 + 0) + 0) + 0) + 0) ((1 * ((1 * r 9 + 0) + 0) + 0) + 0) ((1 * ((1 * r 12 + 0) + 0) + 0) + 0) ((1 * ((1 * r 15 + 0) + 0) + 0) + 0)) ((1 * ((1 * r 9 + 0) + 0) + 0) + 0) (yq_at ((1 * r 0 + 0) + 0) ((1 * ((1 * r 8 + 0) + 0) + 0) + 0) ((1 * ((1 * r 11 + 0) + 0) + 0) + 0) ((1 * ((1 * r 14 + 0) + 0) + 0) + 0) ((1 * ((1 * r 17 + 0) + 0) + 0) + 0)) ((1 * ((1 * r 11 + 0) + 0) + 0) + 0) ((1 * ((1 * r 10 + 0) + 0) + 0) + 0) (yq_fat ((1 * r 0 + 0) + 0) (g0 3) (g0 5) (g0 7) (g0 9)) (g0 5) ∧ (g 7) = yq_xc ((1 * r 0 + 0) + 0) ((1 * r 1 + 0) + 0) ((1 * r 2 + 0) + 0) ((1 * r 3 + 0) + 0) ((1 * r 4 + 0) + 0) 2 (yq_at ((1 * r 0 + 0) + 0) ((1 * ((1 * r 6 + 0) + 0) + 0) + 0) ((1 * ((1 * r 9 + 0) + 0) + 0) + 0) ((1 * ((1 * r 12 + 0) + 0) + 0) + 0) ((1 * ((1 * r 15 + 0) + 0) + 0) + 0)) ((1 * ((1 * r 12 + 0) + 0) + 0) + 0) (yq_at ((1 * r 0 + 0) + 0) ((1 * ((1 * r 8 + 0) + 0) + 0) + 0) ((1 * ((1 * r 11 + 0) + 0) + 0) + 0) ((1 * ((1 * r 14 + 0) + 0) + 0) + 0) ((1 * ((1 * r 17 + 0) + 0) + 0) + 0)) ((1 * ((1 * r 14 + 0) + 0) + 0) + 0) ((1 * ((1 * r 13 + 0) + 0) + 0) + 0) (yq_fat ((1 * r 0 + 0) + 0) (g0 3) (g0 5) (g0 7) (g0 9)) (g0 7) ∧ (g 9) = yq_xc ((1 * r 0 + 0) + 0) ((1 * r 1 + 0) + 0) ((1 * r 2 + 0) + 0) ((1 * r 3 + 0) + 0) ((1 * r 4 + 0) + 0) 3 (yq_at ((1 * r 0 + 0) + 0) ((1 * ((1 * r 6 + 0) + 0) + 0) + 0) ((1 * ((1 * r 9 + 0) + 0) + 0) + 0) ((1 * ((1 * r 12 + 0) + 0) + 0) + 0) ((1 * ((1 * r 15 + 0) + 0) + 0) + 0)) ((1 * ((1 * r 15 + 0) + 0) + 0) + 0) (yq_at ((1 * r 0 + 0) + 0) ((1 * ((1 * r 8 + 0) + 0) + 0) + 0) ((1 * ((1 * r 11 + 0) + 0) + 0) + 0) ((1 * ((1 * r 14 + 0) + 0) + 0) + 0) ((1 * ((1 * r 17 + 0) + 0) + 0) + 0)) ((1 * ((1 * r 17 + 0) + 0) + 0) + 0) ((1 * ((1 * r 16 + 0) + 0) + 0) + 0) (yq_fat ((1 * r 0 + 0) + 0) (g0 3) (g0 5) (g0 7) (g0 9)) (g0 9)
  try simp only [Int.one_mul, Int.zero_add, Int.add_zero]
  refine ⟨?_, ?_, ?_, ?_, ?_⟩
  · rw [show r 0 = 1 by omega]
    rw [show r 2 = 0 by omega]
    simp only [yq_at0, yq_at1]
    unfold yq_cr
    repeat' split
    all_goals omega
  · rw [show r 0 = 1 by omega]
    simp only [yq_at1, yq_fat1]
    unfold yq_xc
    rw [if_neg (by omega)]
    rw [hgi]
  · rw [show r 0 = 1 by omega]
    simp only [yq_at1, yq_fat1]
    unfold yq_xc
    rw [if_neg (by omega)]
    rw [hgi]
  · rw [show r 0 = 1 by omega]
    simp only [yq_at1, yq_fat1]
    unfold yq_xc
    rw [if_neg (by omega)]
    rw [hgi]
  · rw [show r 0 = 1 by omega]
    simp only [yq_at1, yq_fat1]
    unfold yq_xc
    rw [if_neg (by omega)]
    rw [hgi]
theorem xw_40_0_35 : yt_hold xT_40 xk_40 xq_40.2.2.1 xG_40 xP_40 xU_40 18 xk_40.2.1.2.2.2 (fun g0 r g => xR_40 r g0 ∧ g = g0) (1000, ([(1, 1), ((-2147483648), (-1)), (1, 1), ((-2147483648), 2147483647), (0, 2147483647), ((-2147483648), 2147483647), (0, 1), ((-2147483648), 2147483647), (0, 100), (1, 1), ((-2147483648), 2147483647), (0, 100), (0, 1), ((-2147483648), 2147483647), (0, 100), (0, 1), ((-2147483648), 2147483647), (0, 100), ((-2147483648), 0)], []), [([], (-3)), ([(18, 1)], 0)], [], []) := by
  intro g0 r gi g hok hh hars hfr hG
  have b0 : 1 ≤ r 0 ∧ r 0 ≤ 1 := hok.1 0 (1, 1) rfl
  have b1 : (-2147483648) ≤ r 1 ∧ r 1 ≤ (-1) := hok.1 1 ((-2147483648), (-1)) rfl
  have b2 : 1 ≤ r 2 ∧ r 2 ≤ 1 := hok.1 2 (1, 1) rfl
  have b3 : (-2147483648) ≤ r 3 ∧ r 3 ≤ 2147483647 := hok.1 3 ((-2147483648), 2147483647) rfl
  have b4 : 0 ≤ r 4 ∧ r 4 ≤ 2147483647 := hok.1 4 (0, 2147483647) rfl
  have b5 : (-2147483648) ≤ r 5 ∧ r 5 ≤ 2147483647 := hok.1 5 ((-2147483648), 2147483647) rfl
  have b6 : 0 ≤ r 6 ∧ r 6 ≤ 1 := hok.1 6 (0, 1) rfl
  have b7 : (-2147483648) ≤ r 7 ∧ r 7 ≤ 2147483647 := hok.1 7 ((-2147483648), 2147483647) rfl
  have b8 : 0 ≤ r 8 ∧ r 8 ≤ 100 := hok.1 8 (0, 100) rfl
  have b9 : 1 ≤ r 9 ∧ r 9 ≤ 1 := hok.1 9 (1, 1) rfl
  have b10 : (-2147483648) ≤ r 10 ∧ r 10 ≤ 2147483647 := hok.1 10 ((-2147483648), 2147483647) rfl
  have b11 : 0 ≤ r 11 ∧ r 11 ≤ 100 := hok.1 11 (0, 100) rfl
  have b12 : 0 ≤ r 12 ∧ r 12 ≤ 1 := hok.1 12 (0, 1) rfl
  have b13 : (-2147483648) ≤ r 13 ∧ r 13 ≤ 2147483647 := hok.1 13 ((-2147483648), 2147483647) rfl
  have b14 : 0 ≤ r 14 ∧ r 14 ≤ 100 := hok.1 14 (0, 100) rfl
  have b15 : 0 ≤ r 15 ∧ r 15 ≤ 1 := hok.1 15 (0, 1) rfl
  have b16 : (-2147483648) ≤ r 16 ∧ r 16 ≤ 2147483647 := hok.1 16 ((-2147483648), 2147483647) rfl
  have b17 : 0 ≤ r 17 ∧ r 17 ≤ 100 := hok.1 17 (0, 100) rfl
  have b18 : (-2147483648) ≤ r 18 ∧ r 18 ≤ 0 := hok.1 18 ((-2147483648), 0) rfl
  obtain ⟨hG, hgi⟩ := hG
  have hG : True := hG
  have hh : g = gi := hh
  subst hh
  refine yt_dalt (by decide) (by decide) ?_
  rw [show xk_40.2.1.2.1.1.length = 18 from rfl]
  show ((0 : Int) + (-3)) = yq_cr ((1 * r 0 + 0) + 0) ((1 * r 1 + 0) + 0) ((1 * r 2 + 0) + 0) ((1 * r 3 + 0) + 0) ((1 * r 4 + 0) + 0) (yq_at ((1 * r 0 + 0) + 0) ((1 * ((1 * r 6 + 0) + 0) + 0) + 0) ((1 * ((1 * r 9 + 0) + 0) + 0) + 0) ((1 * ((1 * r 12 + 0) + 0) + 0) + 0) ((1 * ((1 * r 15 + 0) + 0) + 0) + 0)) (yq_at ((1 * r 2 + 0) + 0) ((1 * ((1 * r 6 + 0) + 0) + 0) + 0) ((1 * ((1 * r 9 + 0) + 0) + 0) + 0) ((1 * ((1 * r 12 + 0) + 0) + 0) + 0) ((1 * ((1 * r 15 + 0) + 0) + 0) + 0)) (yq_at ((1 * r 0 + 0) + 0) ((1 * ((1 * r 8 + 0) + 0) + 0) + 0) ((1 * ((1 * r 11 + 0) + 0) + 0) + 0) ((1 * ((1 * r 14 + 0) + 0) + 0) + 0) ((1 * ((1 * r 17 + 0) + 0) + 0) + 0)) (yq_at ((1 * r 2 + 0) + 0) ((1 * ((1 * r 8 + 0) + 0) + 0) + 0) ((1 * ((1 * r 11 + 0) + 0) + 0) + 0) ((1 * ((1 * r 14 + 0) + 0) + 0) + 0) ((1 * ((1 * r 17 + 0) + 0) + 0) + 0)) ∧ (g 3) = yq_xc ((1 * r 0 + 0) + 0) ((1 * r 1 + 0) + 0) ((1 * r 2 + 0) + 0) ((1 * r 3 + 0) + 0) ((1 * r 4 + 0) + 0) 0 (yq_at ((1 * r 0 + 0) + 0) ((1 * ((1 * r 6 + 0) + 0) + 0) + 0) ((1 * ((1 * r 9 + 0) + 0) + 0) + 0) ((1 * ((1 * r 12 + 0) + 0) + 0) + 0) ((1 * ((1 * r 15 + 0) + 0) + 0) + 0)) ((1 * ((1 * r 6 + 0) + 0) + 0) + 0) (yq_at ((1 * r 0 + 0) + 0) ((1 * ((1 * r 8 + 0) + 0) + 0) + 0) ((1 * ((1 * r 11 + 0) + 0) + 0) + 0) ((1 * ((1 * r 14 + 0) + 0) + 0) + 0) ((1 * ((1 * r 17 + 0) + 0) + 0) + 0)) ((1 * ((1 * r 8 + 0) + 0) + 0) + 0) ((1 * ((1 * r 7 + 0) + 0) + 0) + 0) (yq_fat ((1 * r 0 + 0) + 0) (g0 3) (g0 5) (g0 7) (g0 9)) (g0 3) ∧ (g 5) = yq_xc ((1 * r 0 + 0) + 0) ((1 * r 1 + 0) + 0) ((1 * r 2 + 0) + 0) ((1 * r 3 + 0) + 0) ((1 * r 4 + 0) + 0) 1 (yq_at ((1 * r 0 + 0) + 0) ((1 * ((1 * r 6 + 0) + 0) + 0) + 0) ((1 * ((1 * r 9 + 0) + 0) + 0) + 0) ((1 * ((1 * r 12 + 0) + 0) + 0) + 0) ((1 * ((1 * r 15 + 0) + 0) + 0) + 0)) ((1 * ((1 * r 9 + 0) + 0) + 0) + 0) (yq_at ((1 * r 0 + 0) + 0) ((1 * ((1 * r 8 + 0) + 0) + 0) + 0) ((1 * ((1 * r 11 + 0) + 0) + 0) + 0) ((1 * ((1 * r 14 + 0) + 0) + 0) + 0) ((1 * ((1 * r 17 + 0) + 0) + 0) + 0)) ((1 * ((1 * r 11 + 0) + 0) + 0) + 0) ((1 * ((1 * r 10 + 0) + 0) + 0) + 0) (yq_fat ((1 * r 0 + 0) + 0) (g0 3) (g0 5) (g0 7) (g0 9)) (g0 5) ∧ (g 7) = yq_xc ((1 * r 0 + 0) + 0) ((1 * r 1 + 0) + 0) ((1 * r 2 + 0) + 0) ((1 * r 3 + 0) + 0) ((1 * r 4 + 0) + 0) 2 (yq_at ((1 * r 0 + 0) + 0) ((1 * ((1 * r 6 + 0) + 0) + 0) + 0) ((1 * ((1 * r 9 + 0) + 0) + 0) + 0) ((1 * ((1 * r 12 + 0) + 0) + 0) + 0) ((1 * ((1 * r 15 + 0) + 0) + 0) + 0)) ((1 * ((1 * r 12 + 0) + 0) + 0) + 0) (yq_at ((1 * r 0 + 0) + 0) ((1 * ((1 * r 8 + 0) + 0) + 0) + 0) ((1 * ((1 * r 11 + 0) + 0) + 0) + 0) ((1 * ((1 * r 14 + 0) + 0) + 0) + 0) ((1 * ((1 * r 17 + 0) + 0) + 0) + 0)) ((1 * ((1 * r 14 + 0) + 0) + 0) + 0) ((1 * ((1 * r 13 + 0) + 0) + 0) + 0) (yq_fat ((1 * r 0 + 0) + 0) (g0 3) (g0 5) (g0 7) (g0 9)) (g0 7) ∧ (g 9) = yq_xc ((1 * r 0 + 0) + 0) ((1 * r 1 + 0) + 0) ((1 * r 2 + 0) + 0) ((1 * r 3 + 0) + 0) ((1 * r 4 + 0) + 0) 3 (yq_at ((1 * r 0 + 0) + 0) ((1 * ((1 * r 6 + 0) + 0) + 0) + 0) ((1 * ((1 * r 9 + 0) + 0) + 0) + 0) ((1 * ((1 * r 12 + 0) + 0) + 0) + 0) ((1 * ((1 * r 15 + 0) + 0) + 0) + 0)) ((1 * ((1 * r 15 + 0) + 0) + 0) + 0) (yq_at ((1 * r 0 + 0) + 0) ((1 * ((1 * r 8 + 0) + 0) + 0) + 0) ((1 * ((1 * r 11 + 0) + 0) + 0) + 0) ((1 * ((1 * r 14 + 0) + 0) + 0) + 0) ((1 * ((1 * r 17 + 0) + 0) + 0) + 0)) ((1 * ((1 * r 17 + 0) + 0) + 0) + 0) ((1 * ((1 * r 16 + 0) + 0) + 0) + 0) (yq_fat ((1 * r 0 + 0) + 0) (g0 3) (g0 5) (g0 7) (g0 9)) (g0 9)
  try simp only [Int.one_mul, Int.zero_add, Int.add_zero]
  refine ⟨?_, ?_, ?_, ?_, ?_⟩
  · rw [show r 0 = 1 by omega]
    rw [show r 2 = 1 by omega]
    simp only [yq_at1]
    unfold yq_cr
    repeat' split
    all_goals omega
  · rw [show r 0 = 1 by omega]
    simp only [yq_at1, yq_fat1]
    unfold yq_xc
    rw [if_neg (by omega)]
    rw [hgi]
  · rw [show r 0 = 1 by omega]
    simp only [yq_at1, yq_fat1]
    unfold yq_xc
    rw [if_neg (by omega)]
    rw [hgi]
  · rw [show r 0 = 1 by omega]
    simp only [yq_at1, yq_fat1]
    unfold yq_xc
    rw [if_neg (by omega)]
    rw [hgi]
  · rw [show r 0 = 1 by omega]
    simp only [yq_at1, yq_fat1]
    unfold yq_xc
    rw [if_neg (by omega)]
    rw [hgi]
theorem xw_40_0_36 : yt_hold xT_40 xk_40 xq_40.2.2.1 xG_40 xP_40 xU_40 18 xk_40.2.1.2.2.2 (fun g0 r g => xR_40 r g0 ∧ g = g0) (1000, ([(1, 1), (0, 2147483647), (1, 1), ((-2147483648), 2147483647), (0, 2147483647), ((-2147483648), 2147483647), (0, 1), ((-2147483648), 2147483647), (0, 100), (1, 1), ((-2147483648), 2147483647), (0, 100), (0, 1), ((-2147483648), 2147483647), (0, 100), (0, 1), ((-2147483648), 2147483647), (0, 100), ((-2147483648), 0)], [([(1, 1), (11, (-1)), (4, 1)], (-1))]), [([], (-3)), ([(18, 1)], 0)], [], []) := by
  intro g0 r gi g hok hh hars hfr hG
  have b0 : 1 ≤ r 0 ∧ r 0 ≤ 1 := hok.1 0 (1, 1) rfl
  have b1 : 0 ≤ r 1 ∧ r 1 ≤ 2147483647 := hok.1 1 (0, 2147483647) rfl
  have b2 : 1 ≤ r 2 ∧ r 2 ≤ 1 := hok.1 2 (1, 1) rfl
  have b3 : (-2147483648) ≤ r 3 ∧ r 3 ≤ 2147483647 := hok.1 3 ((-2147483648), 2147483647) rfl
  have b4 : 0 ≤ r 4 ∧ r 4 ≤ 2147483647 := hok.1 4 (0, 2147483647) rfl
  have b5 : (-2147483648) ≤ r 5 ∧ r 5 ≤ 2147483647 := hok.1 5 ((-2147483648), 2147483647) rfl
  have b6 : 0 ≤ r 6 ∧ r 6 ≤ 1 := hok.1 6 (0, 1) rfl
  have b7 : (-2147483648) ≤ r 7 ∧ r 7 ≤ 2147483647 := hok.1 7 ((-2147483648), 2147483647) rfl
  have b8 : 0 ≤ r 8 ∧ r 8 ≤ 100 := hok.1 8 (0, 100) rfl
  have b9 : 1 ≤ r 9 ∧ r 9 ≤ 1 := hok.1 9 (1, 1) rfl
  have b10 : (-2147483648) ≤ r 10 ∧ r 10 ≤ 2147483647 := hok.1 10 ((-2147483648), 2147483647) rfl
  have b11 : 0 ≤ r 11 ∧ r 11 ≤ 100 := hok.1 11 (0, 100) rfl
  have b12 : 0 ≤ r 12 ∧ r 12 ≤ 1 := hok.1 12 (0, 1) rfl
  have b13 : (-2147483648) ≤ r 13 ∧ r 13 ≤ 2147483647 := hok.1 13 ((-2147483648), 2147483647) rfl
  have b14 : 0 ≤ r 14 ∧ r 14 ≤ 100 := hok.1 14 (0, 100) rfl
  have b15 : 0 ≤ r 15 ∧ r 15 ≤ 1 := hok.1 15 (0, 1) rfl
  have b16 : (-2147483648) ≤ r 16 ∧ r 16 ≤ 2147483647 := hok.1 16 ((-2147483648), 2147483647) rfl
  have b17 : 0 ≤ r 17 ∧ r 17 ≤ 100 := hok.1 17 (0, 100) rfl
  have b18 : (-2147483648) ≤ r 18 ∧ r 18 ≤ 0 := hok.1 18 ((-2147483648), 0) rfl
  have f0 : 0 ≤ ((1 * r 1 + ((-1) * r 11 + (1 * r 4 + 0))) + (-1)) := hok.2 _ (List.mem_of_getElem? (i := 0) rfl)
  obtain ⟨hG, hgi⟩ := hG
  have hG : True := hG
  have hh : g = gi := hh
  subst hh
  refine yt_dalt (by decide) (by decide) ?_
  rw [show xk_40.2.1.2.1.1.length = 18 from rfl]
  show ((0 : Int) + (-3)) = yq_cr ((1 * r 0 + 0) + 0) ((1 * r 1 + 0) + 0) ((1 * r 2 + 0) + 0) ((1 * r 3 + 0) + 0) ((1 * r 4 + 0) + 0) (yq_at ((1 * r 0 + 0) + 0) ((1 * ((1 * r 6 + 0) + 0) + 0) + 0) ((1 * ((1 * r 9 + 0) + 0) + 0) + 0) ((1 * ((1 * r 12 + 0) + 0) + 0) + 0) ((1 * ((1 * r 15 + 0) + 0) + 0) + 0)) (yq_at ((1 * r 2 + 0) + 0) ((1 * ((1 * r 6 + 0) + 0) + 0) + 0) ((1 * ((1 * r 9 + 0) + 0) + 0) + 0) ((1 * ((1 * r 12 + 0) + 0) + 0) + 0) ((1 * ((1 * r 15 + 0) + 0) + 0) + 0)) (yq_at ((1 * r 0 + 0) + 0) ((1 * ((1 * r 8 + 0) + 0) + 0) + 0) ((1 * ((1 * r 11 + 0) + 0) + 0) + 0) ((1 * ((1 * r 14 + 0) + 0) + 0) + 0) ((1 * ((1 * r 17 + 0) + 0) + 0) + 0)) (yq_at ((1 * r 2 + 0) + 0) ((1 * ((1 * r 8 + 0) + 0) + 0) + 0) ((1 * ((1 * r 11 + 0) + 0) + 0) + 0) ((1 * ((1 * r 14 + 0) + 0) + 0) + 0) ((1 * ((1 * r 17 + 0) + 0) + 0) + 0)) ∧ (g 3) = yq_xc ((1 * r 0 + 0) + 0) ((1 * r 1 + 0) + 0) ((1 * r 2 + 0) + 0) ((1 * r 3 + 0) + 0) ((1 * r 4 + 0) + 0) 0 (yq_at ((1 * r 0 + 0) + 0) ((1 * ((1 * r 6 + 0) + 0) + 0) + 0) ((1 * ((1 * r 9 + 0) + 0) + 0) + 0) ((1 * ((1 * r 12 + 0) + 0) + 0) + 0) ((1 * ((1 * r 15 + 0) + 0) + 0) + 0)) ((1 * ((1 * r 6 + 0) + 0) + 0) + 0) (yq_at ((1 * r 0 + 0) + 0) ((1 * ((1 * r 8 + 0) + 0) + 0) + 0) ((1 * ((1 * r 11 + 0) + 0) + 0) + 0) ((1 * ((1 * r 14 + 0) + 0) + 0) + 0) ((1 * ((1 * r 17 + 0) + 0) + 0) + 0)) ((1 * ((1 * r 8 + 0) + 0) + 0) + 0) ((1 * ((1 * r 7 + 0) + 0) + 0) + 0) (yq_fat ((1 * r 0 + 0) + 0) (g0 3) (g0 5) (g0 7) (g0 9)) (g0 3) ∧ (g 5) = yq_xc ((1 * r 0 + 0) + 0) ((1 * r 1 + 0) + 0) ((1 * r 2 + 0) + 0) ((1 * r 3 + 0) + 0) ((1 * r 4 + 0) + 0) 1 (yq_at ((1 * r 0 + 0) + 0) ((1 * ((1 * r 6 + 0) + 0) + 0) + 0) ((1 * ((1 * r 9 + 0) + 0) + 0) + 0) ((1 * ((1 * r 12 + 0) + 0) + 0) + 0) ((1 * ((1 * r 15 + 0) + 0) + 0) + 0)) ((1 * ((1 * r 9 + 0) + 0) + 0) + 0) (yq_at ((1 * r 0 + 0) + 0) ((1 * ((1 * r 8 + 0) + 0) + 0) + 0) ((1 * ((1 * r 11 + 0) + 0) + 0) + 0) ((1 * ((1 * r 14 + 0) + 0) + 0) + 0) ((1 * ((1 * r 17 + 0) + 0) + 0) + 0)) ((1 * ((1 * r 11 + 0) + 0) + 0) + 0) ((1 * ((1 * r 10 + 0) + 0) + 0) + 0) (yq_fat ((1 * r 0 + 0) + 0) (g0 3) (g0 5) (g0 7) (g0 9)) (g0 5) ∧ (g 7) = yq_xc ((1 * r 0 + 0) + 0) ((1 * r 1 + 0) + 0) ((1 * r 2 + 0) + 0) ((1 * r 3 + 0) + 0) ((1 * r 4 + 0) + 0) 2 (yq_at ((1 * r 0 + 0) + 0) ((1 * ((1 * r 6 + 0) + 0) + 0) + 0) ((1 * ((1 * r 9 + 0) + 0) + 0) + 0) ((1 * ((1 * r 12 + 0) + 0) + 0) + 0) ((1 * ((1 * r 15 + 0) + 0) + 0) + 0)) ((1 * ((1 * r 12 + 0) + 0) + 0) + 0) (yq_at ((1 * r 0 + 0) + 0) ((1 * ((1 * r 8 + 0) + 0) + 0) + 0) ((1 * ((1 * r 11 + 0) + 0) + 0) + 0) ((1 * ((1 * r 14 + 0) + 0) + 0) + 0) ((1 * ((1 * r 17 + 0) + 0) + 0) + 0)) ((1 * ((1 * r 14 + 0) + 0) + 0) + 0) ((1 * ((1 * r 13 + 0) + 0) + 0) + 0) (yq_fat ((1 * r 0 + 0) + 0) (g0 3) (g0 5) (g0 7) (g0 9)) (g0 7) ∧ (g 9) = yq_xc ((1 * r 0 + 0) + 0) ((1 * r 1 + 0) + 0) ((1 * r 2 + 0) + 0) ((1 * r 3 + 0) + 0) ((1 * r 4 + 0) + 0) 3 (yq_at ((1 * r 0 + 0) + 0) ((1 * ((1 * r 6 + 0) + 0) + 0) + 0) ((1 * ((1 * r 9 + 0) + 0) + 0) + 0) ((1 * ((1 * r 12 + 0) + 0) + 0) + 0) ((1 * ((1 * r 15 + 0) + 0) + 0) + 0)) ((1 * ((1 * r 15 + 0) + 0) + 0) + 0) (yq_at ((1 * r 0 + 0) + 0) ((1 * ((1 * r 8 + 0) + 0) + 0) + 0) ((1 * ((1 * r 11 + 0) + 0) + 0) + 0) ((1 * ((1 * r 14 + 0) + 0) + 0) + 0) ((1 * ((1 * r 17 + 0) + 0) + 0) + 0)) ((1 * ((1 * r 17 + 0) + 0) + 0) + 0) ((1 * ((1 * r 16 + 0) + 0) + 0) + 0) (yq_fat ((1 * r 0 + 0) + 0) (g0 3) (g0 5) (g0 7) (g0 9)) (g0 9)
  try simp only [Int.one_mul, Int.zero_add, Int.add_zero]
  refine ⟨?_, ?_, ?_, ?_, ?_⟩
  · rw [show r 0 = 1 by omega]
    rw [show r 2 = 1 by omega]
    simp only [yq_at1]
    unfold yq_cr
    repeat' split
    all_goals omega
  · rw [show r 0 = 1 by omega]
    simp only [yq_at1, yq_fat1]
    unfold yq_xc
    rw [if_neg (by omega)]
    rw [hgi]
  · rw [show r 0 = 1 by omega]
    simp only [yq_at1, yq_fat1]
    unfold yq_xc
    rw [if_neg (by omega)]
    rw [hgi]
  · rw [show r 0 = 1 by omega]
    simp only [yq_at1, yq_fat1]
    unfold yq_xc
    rw [if_neg (by omega)]
    rw [hgi]
  · rw [show r 0 = 1 by omega]
    simp only [yq_at1, yq_fat1]
    unfold yq_xc
    rw [if_neg (by omega)]
    rw [hgi]
theorem xw_40_0_37 : yt_hold xT_40 xk_40 xq_40.2.2.1 xG_40 xP_40 xU_40 18 xk_40.2.1.2.2.2 (fun g0 r g => xR_40 r g0 ∧ g = g0) (1000, ([(1, 1), (0, 100), (1, 1), ((-2147483648), (-1)), (0, 100), ((-2147483648), 2147483647), (0, 1), ((-2147483648), 2147483647), (0, 100), (1, 1), ((-2147483648), 2147483647), (0, 100), (0, 1), ((-2147483648), 2147483647), (0, 100), (0, 1), ((-2147483648), 2147483647), (0, 100), ((-2147483648), 0)], [([(1, (-1)), (11, 1), (4, (-1))], 0)]), [([], (-3)), ([(18, 1)], 0)], [], []) := by
  intro g0 r gi g hok hh hars hfr hG
  have b0 : 1 ≤ r 0 ∧ r 0 ≤ 1 := hok.1 0 (1, 1) rfl
  have b1 : 0 ≤ r 1 ∧ r 1 ≤ 100 := hok.1 1 (0, 100) rfl
  have b2 : 1 ≤ r 2 ∧ r 2 ≤ 1 := hok.1 2 (1, 1) rfl
  have b3 : (-2147483648) ≤ r 3 ∧ r 3 ≤ (-1) := hok.1 3 ((-2147483648), (-1)) rfl
  have b4 : 0 ≤ r 4 ∧ r 4 ≤ 100 := hok.1 4 (0, 100) rfl
  have b5 : (-2147483648) ≤ r 5 ∧ r 5 ≤ 2147483647 := hok.1 5 ((-2147483648), 2147483647) rfl
  have b6 : 0 ≤ r 6 ∧ r 6 ≤ 1 := hok.1 6 (0, 1) rfl
  have b7 : (-2147483648) ≤ r 7 ∧ r 7 ≤ 2147483647 := hok.1 7 ((-2147483648), 2147483647) rfl
  have b8 : 0 ≤ r 8 ∧ r 8 ≤ 100 := hok.1 8 (0, 100) rfl
  have b9 : 1 ≤ r 9 ∧ r 9 ≤ 1 := hok.1 9 (1, 1) rfl
  have b10 : (-2147483648) ≤ r 10 ∧ r 10 ≤ 2147483647 := hok.1 10 ((-2147483648), 2147483647) rfl
  have b11 : 0 ≤ r 11 ∧ r 11 ≤ 100 := hok.1 11 (0, 100) rfl
  have b12 : 0 ≤ r 12 ∧ r 12 ≤ 1 := hok.1 12 (0, 1) rfl
  have b13 : (-2147483648) ≤ r 13 ∧ r 13 ≤ 2147483647 := hok.1 13 ((-2147483648), 2147483647) rfl
  have b14 : 0 ≤ r 14 ∧ r 14 ≤ 100 := hok.1 14 (0, 100) rfl
  have b15 : 0 ≤ r 15 ∧ r 15 ≤ 1 := hok.1 15 (0, 1) rfl
  have b16 : (-2147483648) ≤ r 16 ∧ r 16 ≤ 2147483647 := hok.1 16 ((-2147483648), 2147483647) rfl
  have b17 : 0 ≤ r 17 ∧ r 17 ≤ 100 := hok.1 17 (0, 100) rfl
  have b18 : (-2147483648) ≤ r 18 ∧ r 18 ≤ 0 := hok.1 18 ((-2147483648), 0) rfl
  have f0 : 0 ≤ (((-1) * r 1 + (1 * r 11 + ((-1) * r 4 + 0))) + 0) := hok.2 _ (List.mem_of_getElem? (i := 0) rfl)
  obtain ⟨hG, hgi⟩ := hG
  have hG : True := hG
  have hh : g = gi := hh
  subst hh
  refine yt_dalt (by decide) (by decide) ?_
  rw [show xk_40.2.1.2.1.1.length = 18 from rfl]
  show ((0 : Int) + (-3)) = yq_cr ((1 * r 0 + 0) + 0) ((1 * r 1 + 0) + 0) ((1 * r 2 + 0) + 0) ((1 * r 3 + 0) + 0) ((1 * r 4 + 0) + 0) (yq_at ((1 * r 0 + 0) + 0) ((1 * ((1 * r 6 + 0) + 0) + 0) + 0) ((1 * ((1 * r 9 + 0) + 0) + 0) + 0) ((1 * ((1 * r 12 + 0) + 0) + 0) + 0) ((1 * ((1 * r 15 + 0) + 0) + 0) + 0)) (yq_at ((1 * r 2 + 0) + 0) ((1 * ((1 * r 6 + 0) + 0) + 0) + 0) ((1 * ((1 * r 9 + 0) + 0) + 0) + 0) ((1 * ((1 * r 12 + 0) + 0) + 0) + 0) ((1 * ((1 * r 15 + 0) + 0) + 0) + 0)) (yq_at ((1 * r 0 + 0) + 0) ((1 * ((1 * r 8 + 0) + 0) + 0) + 0) ((1 * ((1 * r 11 + 0) + 0) + 0) + 0) ((1 * ((1 * r 14 + 0) + 0) + 0) + 0) ((1 * ((1 * r 17 + 0) + 0) + 0) + 0)) (yq_at ((1 * r 2 + 0) + 0) ((1 * ((1 * r 8 + 0) + 0) + 0) + 0) ((1 * ((1 * r 11 + 0) + 0) + 0) + 0) ((1 * ((1 * r 14 + 0) + 0) + 0) + 0) ((1 * ((1 * r 17 + 0) + 0) + 0) + 0)) ∧ (g 3) = yq_xc ((1 * r 0 + 0) + 0) ((1 * r 1 + 0) + 0) ((1 * r 2 + 0) + 0) ((1 * r 3 + 0) + 0) ((1 * r 4 + 0) + 0) 0 (yq_at ((1 * r 0 + 0) + 0) ((1 * ((1 * r 6 + 0) + 0) + 0) + 0) ((1 * ((1 * r 9 + 0) + 0) + 0) + 0) ((1 * ((1 * r 12 + 0) + 0) + 0) + 0) ((1 * ((1 * r 15 + 0) + 0) + 0) + 0)) ((1 * ((1 * r 6 + 0) + 0) + 0) + 0) (yq_at ((1 * r 0 + 0) + 0) ((1 * ((1 * r 8 + 0) + 0) + 0) + 0) ((1 * ((1 * r 11 + 0) + 0) + 0) + 0) ((1 * ((1 * r 14 + 0) + 0) + 0) + 0) ((1 * ((1 * r 17 + 0) + 0) + 0) + 0)) ((1 * ((1 * r 8 + 0) + 0) + 0) + 0) ((1 * ((1 * r 7 + 0) + 0) + 0) + 0) (yq_fat ((1 * r 0 + 0) + 0) (g0 3) (g0 5) (g0 7) (g0 9)) (g0 3) ∧ (g 5) = yq_xc ((1 * r 0 + 0) + 0) ((1 * r 1 + 0) + 0) ((1 * r 2 + 0) + 0) ((1 * r 3 + 0) + 0) ((1 * r 4 + 0) + 0) 1 (yq_at ((1 * r 0 + 0) + 0) ((1 * ((1 * r 6 + 0) + 0) + 0) + 0) ((1 * ((1 * r 9 + 0) + 0) + 0) + 0) ((1 * ((1 * r 12 + 0) + 0) + 0) + 0) ((1 * ((1 * r 15 + 0) + 0) + 0) + 0)) ((1 * ((1 * r 9 + 0) + 0) + 0) + 0) (yq_at ((1 * r 0 + 0) + 0) ((1 * ((1 * r 8 + 0) + 0) + 0) + 0) ((1 * ((1 * r 11 + 0) + 0) + 0) + 0) ((1 * ((1 * r 14 + 0) + 0) + 0) + 0) ((1 * ((1 * r 17 + 0) + 0) + 0) + 0)) ((1 * ((1 * r 11 + 0) + 0) + 0) + 0) ((1 * ((1 * r 10 + 0) + 0) + 0) + 0) (yq_fat ((1 * r 0 + 0) + 0) (g0 3) (g0 5) (g0 7) (g0 9)) (g0 5) ∧ (g 7) = yq_xc ((1 * r 0 + 0) + 0) ((1 * r 1 + 0) + 0) ((1 * r 2 + 0) + 0) ((1 * r 3 + 0) + 0) ((1 * r 4 + 0) + 0) 2 (yq_at ((1 * r 0 + 0) + 0) ((1 * ((1 * r 6 + 0) + 0) + 0) + 0) ((1 * ((1 * r 9 + 0) + 0) + 0) + 0) ((1 * ((1 * r 12 + 0) + 0) + 0) + 0) ((1 * ((1 * r 15 + 0) + 0) + 0) + 0)) ((1 * ((1 * r 12 + 0) + 0) + 0) + 0) (yq_at ((1 * r 0 + 0) + 0) ((1 * ((1 * r 8 + 0) + 0) + 0) + 0) ((1 * ((1 * r 11 + 0) + 0) + 0) + 0) ((1 * ((1 * r 14 + 0) + 0) + 0) + 0) ((1 * ((1 * r 17 + 0) + 0) + 0) + 0)) ((1 * ((1 * r 14 + 0) + 0) + 0) + 0) ((1 * ((1 * r 13 + 0) + 0) + 0) + 0) (yq_fat ((1 * r 0 + 0) + 0) (g0 3) (g0 5) (g0 7) (g0 9)) (g0 7) ∧ (g 9) = yq_xc ((1 * r 0 + 0) + 0) ((1 * r 1 + 0) + 0) ((1 * r 2 + 0) + 0) ((1 * r 3 + 0) + 0) ((1 * r 4 + 0) + 0) 3 (yq_at ((1 * r 0 + 0) + 0) ((1 * ((1 * r 6 + 0) + 0) + 0) + 0) ((1 * ((1 * r 9 + 0) + 0) + 0) + 0) ((1 * ((1 * r 12 + 0) + 0) + 0) + 0) ((1 * ((1 * r 15 + 0) + 0) + 0) + 0)) ((1 * ((1 * r 15 + 0) + 0) + 0) + 0) (yq_at ((1 * r 0 + 0) + 0) ((1 * ((1 * r 8 + 0) + 0) + 0) + 0) ((1 * ((1 * r 11 + 0) + 0) + 0) + 0) ((1 * ((1 * r 14 + 0) + 0) + 0) + 0) ((1 * ((1 * r 17 + 0) + 0) + 0) + 0)) ((1 * ((1 * r 17 + 0) + 0) + 0) + 0) ((1 * ((1 * r 16 + 0) + 0) + 0) + 0) (yq_fat ((1 * r 0 + 0) + 0) (g0 3) (g0 5) (g0 7) (g0 9)) (g0 9)
  try simp only [Int.one_mul, Int.zero_add, Int.add_zero]
  refine ⟨?_, ?_, ?_, ?_, ?_⟩
  · rw [show r 0 = 1 by omega]
    rw [show r 2 = 1 by omega]
    simp only [yq_at1]
    unfold yq_cr
    repeat' split
    all_goals omega
  · rw [show r 0 = 1 by omega]
    simp only [yq_at1, yq_fat1]
    unfold yq_xc
    rw [if_neg (by omega)]
    rw [hgi]
  · rw [show r 0 = 1 by omega]
    simp only [yq_at1, yq_fat1]
    unfold yq_xc
    rw [if_neg (by omega)]
    rw [hgi]
  · rw [show r 0 = 1 by omega]
    simp only [yq_at1, yq_fat1]
    unfold yq_xc
    rw [if_neg (by omega)]
    rw [hgi]
  · rw [show r 0 = 1 by omega]
    simp only [yq_at1, yq_fat1]
    unfold yq_xc
    rw [if_neg (by omega)]
    rw [hgi]
theorem xw_40_0_38 : yt_hold xT_40 xk_40 xq_40.2.2.1 xG_40 xP_40 xU_40 18 xk_40.2.1.2.2.2 (fun g0 r g => xR_40 r g0 ∧ g = g0) (1000, ([(1, 1), (0, 100), (1, 1), (0, 2147483647), (0, 100), ((-2147483648), 2147483647), (0, 1), ((-2147483648), 2147483647), (0, 100), (1, 1), ((-2147483648), 2147483647), (0, 100), (0, 1), ((-2147483648), 2147483647), (0, 100), (0, 1), ((-2147483648), 2147483647), (0, 100), ((-2147483648), 0)], [([(3, 1), (11, (-1)), (4, 1)], (-1)), ([(1, (-1)), (11, 1), (4, (-1))], 0)]), [([], (-3)), ([(18, 1)], 0)], [], []) := by
  intro g0 r gi g hok hh hars hfr hG
  have b0 : 1 ≤ r 0 ∧ r 0 ≤ 1 := hok.1 0 (1, 1) rfl
  have b1 : 0 ≤ r 1 ∧ r 1 ≤ 100 := hok.1 1 (0, 100) rfl
  have b2 : 1 ≤ r 2 ∧ r 2 ≤ 1 := hok.1 2 (1, 1) rfl
  have b3 : 0 ≤ r 3 ∧ r 3 ≤ 2147483647 := hok.1 3 (0, 2147483647) rfl
  have b4 : 0 ≤ r 4 ∧ r 4 ≤ 100 := hok.1 4 (0, 100) rfl
  have b5 : (-2147483648) ≤ r 5 ∧ r 5 ≤ 2147483647 := hok.1 5 ((-2147483648), 2147483647) rfl
  have b6 : 0 ≤ r 6 ∧ r 6 ≤ 1 := hok.1 6 (0, 1) rfl
  have b7 : (-2147483648) ≤ r 7 ∧ r 7 ≤ 2147483647 := hok.1 7 ((-2147483648), 2147483647) rfl
  have b8 : 0 ≤ r 8 ∧ r 8 ≤ 100 := hok.1 8 (0, 100) rfl
  have b9 : 1 ≤ r 9 ∧ r 9 ≤ 1 := hok.1 9 (1, 1) rfl
  have b10 : (-2147483648) ≤ r 10 ∧ r 10 ≤ 2147483647 := hok.1 10 ((-2147483648), 2147483647) rfl
  have b11 : 0 ≤ r 11 ∧ r 11 ≤ 100 := hok.1 11 (0, 100) rfl
  have b12 : 0 ≤ r 12 ∧ r 12 ≤ 1 := hok.1 12 (0, 1) rfl
  have b13 : (-2147483648) ≤ r 13 ∧ r 13 ≤ 2147483647 := hok.1 13 ((-2147483648), 2147483647) rfl
  have b14 : 0 ≤ r 14 ∧ r 14 ≤ 100 := hok.1 14 (0, 100) rfl
  have b15 : 0 ≤ r 15 ∧ r 15 ≤ 1 := hok.1 15 (0, 1) rfl
  have b16 : (-2147483648) ≤ r 16 ∧ r 16 ≤ 2147483647 := hok.1 16 ((-2147483648), 2147483647) rfl
  have b17 : 0 ≤ r 17 ∧ r 17 ≤ 100 := hok.1 17 (0, 100) rfl
  have b18 : (-2147483648) ≤ r 18 ∧ r 18 ≤ 0 := hok.1 18 ((-2147483648), 0) rfl
  have f0 : 0 ≤ ((1 * r 3 + ((-1) * r 11 + (1 * r 4 + 0))) + (-1)) := hok.2 _ (List.mem_of_getElem? (i := 0) rfl)
  have f1 : 0 ≤ (((-1) * r 1 + (1 * r 11 + ((-1) * r 4 + 0))) + 0) := hok.2 _ (List.mem_of_getElem? (i := 1) rfl)
  obtain ⟨hG, hgi⟩ := hG
  have hG : True := hG
  have hh : g = gi := hh
  subst hh
  refine yt_dalt (by decide) (by decide) ?_
  rw [show xk_40.2.1.2.1.1.length = 18 from rfl]
  show ((0 : Int) + (-3)) = yq_cr ((1 * r 0 + 0) + 0) ((1 * r 1 + 0) + 0) ((1 * r 2 + 0) + 0) ((1 * r 3 + 0) + 0) ((1 * r 4 + 0) + 0) (yq_at ((1 * r 0 + 0) + 0) ((1 * ((1 * r 6 + 0) + 0) + 0) + 0) ((1 * ((1 * r 9 + 0) + 0) + 0) + 0) ((1 * ((1 * r 12 + 0) + 0) + 0) + 0) ((1 * ((1 * r 15 + 0) + 0) + 0) + 0)) (yq_at ((1 * r 2 + 0) + 0) ((1 * ((1 * r 6 + 0) + 0) + 0) + 0) ((1 * ((1 * r 9 + 0) + 0) + 0) + 0) ((1 * ((1 * r 12 + 0) + 0) + 0) + 0) ((1 * ((1 * r 15 + 0) + 0) + 0) + 0)) (yq_at ((1 * r 0 + 0) + 0) ((1 * ((1 * r 8 + 0) + 0) + 0) + 0) ((1 * ((1 * r 11 + 0) + 0) + 0) + 0) ((1 * ((1 * r 14 + 0) + 0) + 0) + 0) ((1 * ((1 * r 17 + 0) + 0) + 0) + 0)) (yq_at ((1 * r 2 + 0) + 0) ((1 * ((1 * r 8 + 0) + 0) + 0) + 0) ((1 * ((1 * r 11 + 0) + 0) + 0) + 0) ((1 * ((1 * r 14 + 0) + 0) + 0) + 0) ((1 * ((1 * r 17 + 0) + 0) + 0) + 0)) ∧ (g 3) = yq_xc ((1 * r 0 + 0) + 0) ((1 * r 1 + 0) + 0) ((1 * r 2 + 0) + 0) ((1 * r 3 + 0) + 0) ((1 * r 4 + 0) + 0) 0 (yq_at ((1 * r 0 + 0) + 0) ((1 * ((1 * r 6 + 0) + 0) + 0) + 0) ((1 * ((1 * r 9 + 0) + 0) + 0) + 0) ((1 * ((1 * r 12 + 0) + 0) + 0) + 0) ((1 * ((1 * r 15 + 0) + 0) + 0) + 0)) ((1 * ((1 * r 6 + 0) + 0) + 0) + 0) (yq_at ((1 * r 0 + 0) + 0) ((1 * ((1 * r 8 + 0) + 0) + 0) + 0) ((1 * ((1 * r 11 + 0) + 0) + 0) + 0) ((1 * ((1 * r 14 + 0) + 0) + 0) + 0) ((1 * ((1 * r 17 + 0) + 0) + 0) + 0)) ((1 * ((1 * r 8 + 0) + 0) + 0) + 0) ((1 * ((1 * r 7 + 0) + 0) + 0) + 0) (yq_fat ((1 * r 0 + 0) + 0) (g0 3) (g0 5) (g0 7) (g0 9)) (g0 3) ∧ (g 5) = yq_xc ((1 * r 0 + 0) + 0) ((1 * r 1 + 0) + 0) ((1 * r 2 + 0) + 0) ((1 * r 3 + 0) + 0) ((1 * r 4 + 0) + 0) 1 (yq_at ((1 * r 0 + 0) + 0) ((1 * ((1 * r 6 + 0) + 0) + 0) + 0) ((1 * ((1 * r 9 + 0) + 0) + 0) + 0) ((1 * ((1 * r 12 + 0) + 0) + 0) + 0) ((1 * ((1 * r 15 + 0) + 0) + 0) + 0)) ((1 * ((1 * r 9 + 0) + 0) + 0) + 0) (yq_at ((1 * r 0 + 0) + 0) ((1 * ((1 * r 8 + 0) + 0) + 0) + 0) ((1 * ((1 * r 11 + 0) + 0) + 0) + 0) ((1 * ((1 * r 14 + 0) + 0) + 0) + 0) ((1 * ((1 * r 17 + 0) + 0) + 0) + 0)) ((1 * ((1 * r 11 + 0) + 0) + 0) + 0) ((1 * ((1 * r 10 + 0) + 0) + 0) + 0) (yq_fat ((1 * r 0 + 0) + 0) (g0 3) (g0 5) (g0 7) (g0 9)) (g0 5) ∧ (g 7) = yq_xc ((1 * r 0 + 0) + 0) ((1 * r 1 + 0) + 0) ((1 * r 2 + 0) + 0) ((1 * r 3 + 0) + 0) ((1 * r 4 + 0) + 0) 2 (yq_at ((1 * r 0 + 0) + 0) ((1 * ((1 * r 6 + 0) + 0) + 0) + 0) ((1 * ((1 * r 9 + 0) + 0) + 0) + 0) ((1 * ((1 * r 12 + 0) + 0) + 0) + 0) ((1 * ((1 * r 15 + 0) + 0) + 0) + 0)) ((1 * ((1 * r 12 + 0) + 0) + 0) + 0) (yq_at ((1 * r 0 + 0) + 0) ((1 * ((1 * r 8 + 0) + 0) + 0) + 0) ((1 * ((1 * r 11 + 0) + 0) + 0) + 0) ((1 * ((1 * r 14 + 0) + 0) + 0) + 0) ((1 * ((1 * r 17 + 0) + 0) + 0) + 0)) ((1 * ((1 * r 14 + 0) + 0) + 0) + 0) ((1 * ((1 * r 13 + 0) + 0) + 0) + 0) (yq_fat ((1 * r 0 + 0) + 0) (g0 3) (g0 5) (g0 7) (g0 9)) (g0 7) ∧ (g 9) = yq_xc ((1 * r 0 + 0) + 0) ((1 * r 1 + 0) + 0) ((1 * r 2 + 0) + 0) ((1 * r 3 + 0) + 0) ((1 * r 4 + 0) + 0) 3 (yq_at ((1 * r 0 + 0) + 0) ((1 * ((1 * r 6 + 0) + 0) + 0) + 0) ((1 * ((1 * r 9 + 0) + 0) + 0) + 0) ((1 * ((1 * r 12 + 0) + 0) + 0) + 0) ((1 * ((1 * r 15 + 0) + 0) + 0) + 0)) ((1 * ((1 * r 15 + 0) + 0) + 0) + 0) (yq_at ((1 * r 0 + 0) + 0) ((1 * ((1 * r 8 + 0) + 0) + 0) + 0) ((1 * ((1 * r 11 + 0) + 0) + 0) + 0) ((1 * ((1 * r 14 + 0) + 0) + 0) + 0) ((1 * ((1 * r 17 + 0) + 0) + 0) + 0)) ((1 * ((1 * r 17 + 0) + 0) + 0) + 0) ((1 * ((1 * r 16 + 0) + 0) + 0) + 0) (yq_fat ((1 * r 0 + 0) + 0) (g0 3) (g0 5) (g0 7) (g0 9)) (g0 9)
  try simp only [Int.one_mul, Int.zero_add, Int.add_zero]
  refine ⟨?_, ?_, ?_, ?_, ?_⟩
  · rw [show r 0 = 1 by omega]
    rw [show r 2 = 1 by omega]
    simp only [yq_at1]
    unfold yq_cr
    repeat' split
    all_goals omega
  · rw [show r 0 = 1 by omega]
    simp only [yq_at1, yq_fat1]
    unfold yq_xc
    rw [if_neg (by omega)]
    rw [hgi]
  · rw [show r 0 = 1 by omega]
    simp only [yq_at1, yq_fat1]
    unfold yq_xc
    rw [if_neg (by omega)]
    rw [hgi]
  · rw [show r 0 = 1 by omega]
    simp only [yq_at1, yq_fat1]
    unfold yq_xc
    rw [if_neg (by omega)]
    rw [hgi]
  · rw [show r 0 = 1 by omega]
    simp only [yq_at1, yq_fat1]
    unfold yq_xc
    rw [if_neg (by omega)]
    rw [hgi]
theorem xw_40_0_39 : yt_hold xT_40 xk_40 xq_40.2.2.1 xG_40 xP_40 xU_40 18 xk_40.2.1.2.2.2 (fun g0 r g => xR_40 r g0 ∧ g = g0) (1000, ([(1, 1), (0, 100), (1, 1), (0, 100), (0, 100), ((-2147483648), 2147483647), (0, 1), ((-2147483648), 2147483647), (0, 100), (1, 1), ((-2147483648), 2147483647), (0, 100), (0, 1), ((-2147483648), 2147483647), (0, 100), (0, 1), ((-2147483648), 2147483647), (0, 100), ((-2147483648), 0)], [([(4, (-1)), (3, (-1))], 101), ([(3, (-1)), (11, 1), (4, (-1))], 0), ([(1, (-1)), (11, 1), (4, (-1))], 0)]), [([(4, 1)], 0), ([(18, 1)], 0)], [], [.inr (.inr (.inl (99, 0, [([(3, 1)], 0), ([(1, 1)], 0), ([(4, 1)], 0), ([(9, 1)], 0), ([(10, 1)], 0), ([(11, 1)], 0)], [4, 5], [5])))]) := by
  intro g0 r gi g hok hh hars hfr hG
  have b0 : 1 ≤ r 0 ∧ r 0 ≤ 1 := hok.1 0 (1, 1) rfl
  have b1 : 0 ≤ r 1 ∧ r 1 ≤ 100 := hok.1 1 (0, 100) rfl
  have b2 : 1 ≤ r 2 ∧ r 2 ≤ 1 := hok.1 2 (1, 1) rfl
  have b3 : 0 ≤ r 3 ∧ r 3 ≤ 100 := hok.1 3 (0, 100) rfl
  have b4 : 0 ≤ r 4 ∧ r 4 ≤ 100 := hok.1 4 (0, 100) rfl
  have b5 : (-2147483648) ≤ r 5 ∧ r 5 ≤ 2147483647 := hok.1 5 ((-2147483648), 2147483647) rfl
  have b6 : 0 ≤ r 6 ∧ r 6 ≤ 1 := hok.1 6 (0, 1) rfl
  have b7 : (-2147483648) ≤ r 7 ∧ r 7 ≤ 2147483647 := hok.1 7 ((-2147483648), 2147483647) rfl
  have b8 : 0 ≤ r 8 ∧ r 8 ≤ 100 := hok.1 8 (0, 100) rfl
  have b9 : 1 ≤ r 9 ∧ r 9 ≤ 1 := hok.1 9 (1, 1) rfl
  have b10 : (-2147483648) ≤ r 10 ∧ r 10 ≤ 2147483647 := hok.1 10 ((-2147483648), 2147483647) rfl
  have b11 : 0 ≤ r 11 ∧ r 11 ≤ 100 := hok.1 11 (0, 100) rfl
  have b12 : 0 ≤ r 12 ∧ r 12 ≤ 1 := hok.1 12 (0, 1) rfl
  have b13 : (-2147483648) ≤ r 13 ∧ r 13 ≤ 2147483647 := hok.1 13 ((-2147483648), 2147483647) rfl
  have b14 : 0 ≤ r 14 ∧ r 14 ≤ 100 := hok.1 14 (0, 100) rfl
  have b15 : 0 ≤ r 15 ∧ r 15 ≤ 1 := hok.1 15 (0, 1) rfl
  have b16 : (-2147483648) ≤ r 16 ∧ r 16 ≤ 2147483647 := hok.1 16 ((-2147483648), 2147483647) rfl
  have b17 : 0 ≤ r 17 ∧ r 17 ≤ 100 := hok.1 17 (0, 100) rfl
  have b18 : (-2147483648) ≤ r 18 ∧ r 18 ≤ 0 := hok.1 18 ((-2147483648), 0) rfl
  have f0 : 0 ≤ (((-1) * r 4 + ((-1) * r 3 + 0)) + 101) := hok.2 _ (List.mem_of_getElem? (i := 0) rfl)
  have f1 : 0 ≤ (((-1) * r 3 + (1 * r 11 + ((-1) * r 4 + 0))) + 0) := hok.2 _ (List.mem_of_getElem? (i := 1) rfl)
  have f2 : 0 ≤ (((-1) * r 1 + (1 * r 11 + ((-1) * r 4 + 0))) + 0) := hok.2 _ (List.mem_of_getElem? (i := 2) rfl)
  obtain ⟨hG, hgi⟩ := hG
  have hG : True := hG
  obtain ⟨h0, hh, e0, k0⟩ := hh
  have k0 : ∀ j, j ∉ [5] → g j = h0 j := k0
  have e0 : (g 5) = yq_pa ((1 * r 3 + 0) + 0) ((1 * r 1 + 0) + 0) ((1 * r 4 + 0) + 0) ((1 * r 10 + 0) + 0) (h0 5) (h0 5) := e0
  have hh : h0 = gi := hh
  subst hh
  refine yt_dalt (by decide) (by decide) ?_
  rw [show xk_40.2.1.2.1.1.length = 18 from rfl]
  show ((1 * r 4 + 0) + 0) = yq_cr ((1 * r 0 + 0) + 0) ((1 * r 1 + 0) + 0) ((1 * r 2 + 0) + 0) ((1 * r 3 + 0) + 0) ((1 * r 4 + 0) + 0) (yq_at ((1 * r 0 + 0) + 0) ((1 * ((1 * r 6 + 0) + 0) + 0) + 0) ((1 * ((1 * r 9 + 0) + 0) + 0) + 0) ((1 * ((1 * r 12 + 0) + 0) + 0) + 0) ((1 * ((1 * r 15 + 0) + 0) + 0) + 0)) (yq_at ((1 * r 2 + 0) + 0) ((1 * ((1 * r 6 + 0) + 0) + 0) + 0) ((1 * ((1 * r 9 + 0) + 0) + 0) + 0) ((1 * ((1 * r 12 + 0) + 0) + 0) + 0) ((1 * ((1 * r 15 + 0) + 0) + 0) + 0)) (yq_at ((1 * r 0 + 0) + 0) ((1 * ((1 * r 8 + 0) + 0) + 0) + 0) ((1 * ((1 * r 11 + 0) + 0) + 0) + 0) ((1 * ((1 * r 14 + 0) + 0) + 0) + 0) ((1 * ((1 * r 17 + 0) + 0) + 0) + 0)) (yq_at ((1 * r 2 + 0) + 0) ((1 * ((1 * r 8 + 0) + 0) + 0) + 0) ((1 * ((1 * r 11 + 0) + 0) + 0) + 0) ((1 * ((1 * r 14 + 0) + 0) + 0) + 0) ((1 * ((1 * r 17 + 0) + 0) + 0) + 0)) ∧ (g 3) = yq_xc ((1 * r 0 + 0) + 0) ((1 * r 1 + 0) + 0) ((1 * r 2 + 0) + 0) ((1 * r 3 + 0) + 0) ((1 * r 4 + 0) + 0) 0 (yq_at ((1 * r 0 + 0) + 0) ((1 * ((1 * r 6 + 0) + 0) + 0) + 0) ((1 * ((1 * r 9 + 0) + 0) + 0) + 0) ((1 * ((1 * r 12 + 0) + 0) + 0) + 0) ((1 * ((1 * r 15 + 0) + 0) + 0) + 0)) ((1 * ((1 * r 6 + 0) + 0) + 0) + 0) (yq_at ((1 * r 0 + 0) + 0) ((1 * ((1 * r 8 + 0) + 0) + 0) + 0) ((1 * ((1 * r 11 + 0) + 0) + 0) + 0) ((1 * ((1 * r 14 + 0) + 0) + 0) + 0) ((1 * ((1 * r 17 + 0) + 0) + 0) + 0)) ((1 * ((1 * r 8 + 0) + 0) + 0) + 0) ((1 * ((1 * r 7 + 0) + 0) + 0) + 0) (yq_fat ((1 * r 0 + 0) + 0) (g0 3) (g0 5) (g0 7) (g0 9)) (g0 3) ∧ (g 5) = yq_xc ((1 * r 0 + 0) + 0) ((1 * r 1 + 0) + 0) ((1 * r 2 + 0) + 0) ((1 * r 3 + 0) + 0) ((1 * r 4 + 0) + 0) 1 (yq_at ((1 * r 0 + 0) + 0) ((1 * ((1 * r 6 + 0) + 0) + 0) + 0) ((1 * ((1 * r 9 + 0) + 0) + 0) + 0) ((1 * ((1 * r 12 + 0) + 0) + 0) + 0) ((1 * ((1 * r 15 + 0) + 0) + 0) + 0)) ((1 * ((1 * r 9 + 0) + 0) + 0) + 0) (yq_at ((1 * r 0 + 0) + 0) ((1 * ((1 * r 8 + 0) + 0) + 0) + 0) ((1 * ((1 * r 11 + 0) + 0) + 0) + 0) ((1 * ((1 * r 14 + 0) + 0) + 0) + 0) ((1 * ((1 * r 17 + 0) + 0) + 0) + 0)) ((1 * ((1 * r 11 + 0) + 0) + 0) + 0) ((1 * ((1 * r 10 + 0) + 0) + 0) + 0) (yq_fat ((1 * r 0 + 0) + 0) (g0 3) (g0 5) (g0 7) (g0 9)) (g0 5) ∧ (g 7) = yq_xc ((1 * r 0 + 0) + 0) ((1 * r 1 + 0) + 0) ((1 * r 2 + 0) + 0) ((1 * r 3 + 0) + 0) ((1 * r 4 + 0) + 0) 2 (yq_at ((1 * r 0 + 0) + 0) ((1 * ((1 * r 6 + 0) + 0) + 0) + 0) ((1 * ((1 * r 9 + 0) + 0) + 0) + 0) ((1 * ((1 * r 12 + 0) + 0) + 0) + 0) ((1 * ((1 * r 15 + 0) + 0) + 0) + 0)) ((1 * ((1 * r 12 + 0) + 0) + 0) + 0) (yq_at ((1 * r 0 + 0) + 0) ((1 * ((1 * r 8 + 0) + 0) + 0) + 0) ((1 * ((1 * r 11 + 0) + 0) + 0) + 0) ((1 * ((1 * r 14 + 0) + 0) + 0) + 0) ((1 * ((1 * r 17 + 0) + 0) + 0) + 0)) ((1 * ((1 * r 14 + 0) + 0) + 0) + 0) ((1 * ((1 * r 13 + 0) + 0) + 0) + 0) (yq_fat ((1 * r 0 + 0) + 0) (g0 3) (g0 5) (g0 7) (g0 9)) (g0 7) ∧ (g 9) = yq_xc ((1 * r 0 + 0) + 0) ((1 * r 1 + 0) + 0) ((1 * r 2 + 0) + 0) ((1 * r 3 + 0) + 0) ((1 * r 4 + 0) + 0) 3 (yq_at ((1 * r 0 + 0) + 0) ((1 * ((1 * r 6 + 0) + 0) + 0) + 0) ((1 * ((1 * r 9 + 0) + 0) + 0) + 0) ((1 * ((1 * r 12 + 0) + 0) + 0) + 0) ((1 * ((1 * r 15 + 0) + 0) + 0) + 0)) ((1 * ((1 * r 15 + 0) + 0) + 0) + 0) (yq_at ((1 * r 0 + 0) + 0) ((1 * ((1 * r 8 + 0) + 0) + 0) + 0) ((1 * ((1 * r 11 + 0) + 0) + 0) + 0) ((1 * ((1 * r 14 + 0) + 0) + 0) + 0) ((1 * ((1 * r 17 + 0) + 0) + 0) + 0)) ((1 * ((1 * r 17 + 0) + 0) + 0) + 0) ((1 * ((1 * r 16 + 0) + 0) + 0) + 0) (yq_fat ((1 * r 0 + 0) + 0) (g0 3) (g0 5) (g0 7) (g0 9)) (g0 9)
  try simp only [Int.one_mul, Int.zero_add, Int.add_zero]
  try simp only [Int.one_mul, Int.zero_add, Int.add_zero] at e0
  refine ⟨?_, ?_, ?_, ?_, ?_⟩
  · rw [show r 0 = 1 by omega]
    rw [show r 2 = 1 by omega]
    simp only [yq_at1]
    unfold yq_cr
    repeat' split
    all_goals omega
  · rw [show r 0 = 1 by omega]
    simp only [yq_at1, yq_fat1]
    unfold yq_xc
    rw [if_neg (by omega)]
    rw [k0 3 (by decide), hgi]
  · rw [show r 0 = 1 by omega]
    simp only [yq_at1, yq_fat1]
    unfold yq_xc
    rw [if_pos (by omega), e0, hgi]
  · rw [show r 0 = 1 by omega]
    simp only [yq_at1, yq_fat1]
    unfold yq_xc
    rw [if_neg (by omega)]
    rw [k0 7 (by decide), hgi]
  · rw [show r 0 = 1 by omega]
    simp only [yq_at1, yq_fat1]
    unfold yq_xc
    rw [if_neg (by omega)]
    rw [k0 9 (by decide), hgi]
theorem xw_40_0_40 : yt_hold xT_40 xk_40 xq_40.2.2.1 xG_40 xP_40 xU_40 18 xk_40.2.1.2.2.2 (fun g0 r g => xR_40 r g0 ∧ g = g0) (1000, ([(1, 1), ((-2147483648), (-1)), (2, 2), ((-2147483648), 2147483647), (0, 2147483647), ((-2147483648), 2147483647), (0, 1), ((-2147483648), 2147483647), (0, 100), (1, 1), ((-2147483648), 2147483647), (0, 100), (1, 1), ((-2147483648), 2147483647), (0, 100), (0, 1), ((-2147483648), 2147483647), (0, 100), ((-2147483648), 0)], []), [([], (-3)), ([(18, 1)], 0)], [], []) := by
  intro g0 r gi g hok hh hars hfr hG
  have b0 : 1 ≤ r 0 ∧ r 0 ≤ 1 := hok.1 0 (1, 1) rfl
  have b1 : (-2147483648) ≤ r 1 ∧ r 1 ≤ (-1) := hok.1 1 ((-2147483648), (-1)) rfl
  have b2 : 2 ≤ r 2 ∧ r 2 ≤ 2 := hok.1 2 (2, 2) rfl
  have b3 : (-2147483648) ≤ r 3 ∧ r 3 ≤ 2147483647 := hok.1 3 ((-2147483648), 2147483647) rfl
  have b4 : 0 ≤ r 4 ∧ r 4 ≤ 2147483647 := hok.1 4 (0, 2147483647) rfl
  have b5 : (-2147483648) ≤ r 5 ∧ r 5 ≤ 2147483647 := hok.1 5 ((-2147483648), 2147483647) rfl
  have b6 : 0 ≤ r 6 ∧ r 6 ≤ 1 := hok.1 6 (0, 1) rfl
  have b7 : (-2147483648) ≤ r 7 ∧ r 7 ≤ 2147483647 := hok.1 7 ((-2147483648), 2147483647) rfl
  have b8 : 0 ≤ r 8 ∧ r 8 ≤ 100 := hok.1 8 (0, 100) rfl
  have b9 : 1 ≤ r 9 ∧ r 9 ≤ 1 := hok.1 9 (1, 1) rfl
  have b10 : (-2147483648) ≤ r 10 ∧ r 10 ≤ 2147483647 := hok.1 10 ((-2147483648), 2147483647) rfl
  have b11 : 0 ≤ r 11 ∧ r 11 ≤ 100 := hok.1 11 (0, 100) rfl
  have b12 : 1 ≤ r 12 ∧ r 12 ≤ 1 := hok.1 12 (1, 1) rfl
  have b13 : (-2147483648) ≤ r 13 ∧ r 13 ≤ 2147483647 := hok.1 13 ((-2147483648), 2147483647) rfl
  have b14 : 0 ≤ r 14 ∧ r 14 ≤ 100 := hok.1 14 (0, 100) rfl
  have b15 : 0 ≤ r 15 ∧ r 15 ≤ 1 := hok.1 15 (0, 1) rfl
  have b16 : (-2147483648) ≤ r 16 ∧ r 16 ≤ 2147483647 := hok.1 16 ((-2147483648), 2147483647) rfl
  have b17 : 0 ≤ r 17 ∧ r 17 ≤ 100 := hok.1 17 (0, 100) rfl
  have b18 : (-2147483648) ≤ r 18 ∧ r 18 ≤ 0 := hok.1 18 ((-2147483648), 0) rfl
  obtain ⟨hG, hgi⟩ := hG
  have hG : True := hG
  have hh : g = gi := hh
  subst hh
  refine yt_dalt (by decide) (by decide) ?_
  rw [show xk_40.2.1.2.1.1.length = 18 from rfl]
  show ((0 : Int) + (-3)) = yq_cr ((1 * r 0 + 0) + 0) ((1 * r 1 + 0) + 0) ((1 * r 2 + 0) + 0) ((1 * r 3 + 0) + 0) ((1 * r 4 + 0) + 0) (yq_at ((1 * r 0 + 0) + 0) ((1 * ((1 * r 6 + 0) + 0) + 0) + 0) ((1 * ((1 * r 9 + 0) + 0) + 0) + 0) ((1 * ((1 * r 12 + 0) + 0) + 0) + 0) ((1 * ((1 * r 15 + 0) + 0) + 0) + 0)) (yq_at ((1 * r 2 + 0) + 0) ((1 * ((1 * r 6 + 0) + 0) + 0) + 0) ((1 * ((1 * r 9 + 0) + 0) + 0) + 0) ((1 * ((1 * r 12 + 0) + 0) + 0) + 0) ((1 * ((1 * r 15 + 0) + 0) + 0) + 0)) (yq_at ((1 * r 0 + 0) + 0) ((1 * ((1 * r 8 + 0) + 0) + 0) + 0) ((1 * ((1 * r 11 + 0) + 0) + 0) + 0) ((1 * ((1 * r 14 + 0) + 0) + 0) + 0) ((1 * ((1 * r 17 + 0) + 0) + 0) + 0)) (yq_at ((1 * r 2 + 0) + 0) ((1 * ((1 * r 8 + 0) + 0) + 0) + 0) ((1 * ((1 * r 11 + 0) + 0) + 0) + 0) ((1 * ((1 * r 14 + 0) + 0) + 0) + 0) ((1 * ((1 * r 17 + 0) + 0) + 0) + 0)) ∧ (g 3) = yq_xc ((1 * r 0 + 0) + 0) ((1 * r 1 + 0) + 0) ((1 * r 2 + 0) + 0) ((1 * r 3 + 0) + 0) ((1 * r 4 + 0) + 0) 0 (yq_at ((1 * r 0 + 0) + 0) ((1 * ((1 * r 6 + 0) + 0) + 0) + 0) ((1 * ((1 * r 9 + 0) + 0) + 0) + 0) ((1 * ((1 * r 12 + 0) + 0) + 0) + 0) ((1 * ((1 * r 15 + 0) + 0) + 0) + 0)) ((1 * ((1 * r 6 + 0) + 0) + 0) + 0) (yq_at ((1 * r 0 + 0) + 0) ((1 * ((1 * r 8 + 0) + 0) + 0) + 0) ((1 * ((1 * r 11 + 0) + 0) + 0) + 0) ((1 * ((1 * r 14 + 0) + 0) + 0) + 0) ((1 * ((1 * r 17 + 0) + 0) + 0) + 0)) ((1 * ((1 * r 8 + 0) + 0) + 0) + 0) ((1 * ((1 * r 7 + 0) + 0) + 0) + 0) (yq_fat ((1 * r 0 + 0) + 0) (g0 3) (g0 5) (g0 7) (g0 9)) (g0 3) ∧ (g 5) = yq_xc ((1 * r 0 + 0) + 0) ((1 * r 1 + 0) + 0) ((1 * r 2 + 0) + 0) ((1 * r 3 + 0) + 0) ((1 * r 4 + 0) + 0) 1 (yq_at ((1 * r 0 + 0) + 0) ((1 * ((1 * r 6 + 0) + 0) + 0) + 0) ((1 * ((1 * r 9 + 0) + 0) + 0) + 0) ((1 * ((1 * r 12 + 0) + 0) + 0) + 0) ((1 * ((1 * r 15 + 0) + 0) + 0) + 0)) ((1 * ((1 * r 9 + 0) + 0) + 0) + 0) (yq_at ((1 * r 0 + 0) + 0) ((1 * ((1 * r 8 + 0) + 0) + 0) + 0) ((1 * ((1 * r 11 + 0) + 0) + 0) + 0) ((1 * ((1 * r 14 + 0) + 0) + 0) + 0) ((1 * ((1 * r 17 + 0) + 0) + 0) + 0)) ((1 * ((1 * r 11 + 0) + 0) + 0) + 0) ((1 * ((1 * r 10 + 0) + 0) + 0) + 0) (yq_fat ((1 * r 0 + 0) + 0) (g0 3) (g0 5) (g0 7) (g0 9)) (g0 5) ∧ (g 7) = yq_xc ((1 * r 0 + 0) + 0) ((1 * r 1 + 0) + 0) ((1 * r 2 + 0) + 0) ((1 * r 3 + 0) + 0) ((1 * r 4 + 0) + 0) 2 (yq_at ((1 * r 0 + 0) + 0) ((1 * ((1 * r 6 + 0) + 0) + 0) + 0) ((1 * ((1 * r 9 + 0) + 0) + 0) + 0) ((1 * ((1 * r 12 + 0) + 0) + 0) + 0) ((1 * ((1 * r 15 + 0) + 0) + 0) + 0)) ((1 * ((1 * r 12 + 0) + 0) + 0) + 0) (yq_at ((1 * r 0 + 0) + 0) ((1 * ((1 * r 8 + 0) + 0) + 0) + 0) ((1 * ((1 * r 11 + 0) + 0) + 0) + 0) ((1 * ((1 * r 14 + 0) + 0) + 0) + 0) ((1 * ((1 * r 17 + 0) + 0) + 0) + 0)) ((1 * ((1 * r 14 + 0) + 0) + 0) + 0) ((1 * ((1 * r 13 + 0) + 0) + 0) + 0) (yq_fat ((1 * r 0 + 0) + 0) (g0 3) (g0 5) (g0 7) (g0 9)) (g0 7) ∧ (g 9) = yq_xc ((1 * r 0 + 0) + 0) ((1 * r 1 + 0) + 0) ((1 * r 2 + 0) + 0) ((1 * r 3 + 0) + 0) ((1 * r 4 + 0) + 0) 3 (yq_at ((1 * r 0 + 0) + 0) ((1 * ((1 * r 6 + 0) + 0) + 0) + 0) ((1 * ((1 * r 9 + 0) + 0) + 0) + 0) ((1 * ((1 * r 12 + 0) + 0) + 0) + 0) ((1 * ((1 * r 15 + 0) + 0) + 0) + 0)) ((1 * ((1 * r 15 + 0) + 0) + 0) + 0) (yq_at ((1 * r 0 + 0) + 0) ((1 * ((1 * r 8 + 0) + 0) + 0) + 0) ((1 * ((1 * r 11 + 0) + 0) + 0) + 0) ((1 * ((1 * r 14 + 0) + 0) + 0) + 0) ((1 * ((1 * r 17 + 0) + 0) + 0) + 0)) ((1 * ((1 * r 17 + 0) + 0) + 0) + 0) ((1 * ((1 * r 16 + 0) + 0) + 0) + 0) (yq_fat ((1 * r 0 + 0) + 0) (g0 3) (g0 5) (g0 7) (g0 9)) (g0 9)
  try simp only [Int.one_mul, Int.zero_add, Int.add_zero]
  refine ⟨?_, ?_, ?_, ?_, ?_⟩
  · rw [show r 0 = 1 by omega]
    rw [show r 2 = 2 by omega]
    simp only [yq_at1, yq_at2]
    unfold yq_cr
    repeat' split
    all_goals omega
  · rw [show r 0 = 1 by omega]
    simp only [yq_at1, yq_fat1]
    unfold yq_xc
    rw [if_neg (by omega)]
    rw [hgi]
  · rw [show r 0 = 1 by omega]
    simp only [yq_at1, yq_fat1]
    unfold yq_xc
    rw [if_neg (by omega)]
    rw [hgi]
  · rw [show r 0 = 1 by omega]
    simp only [yq_at1, yq_fat1]
    unfold yq_xc
    rw [if_neg (by omega)]
    rw [hgi]
  · rw [show r 0 = 1 by omega]
    simp only [yq_at1, yq_fat1]
    unfold yq_xc
    rw [if_neg (by omega)]
    rw [hgi]
theorem xw_40_0_41 : yt_hold xT_40 xk_40 xq_40.2.2.1 xG_40 xP_40 xU_40 18 xk_40.2.1.2.2.2 (fun g0 r g => xR_40 r g0 ∧ g = g0) (1000, ([(1, 1), (0, 2147483647), (2, 2), ((-2147483648), 2147483647), (0, 2147483647), ((-2147483648), 2147483647), (0, 1), ((-2147483648), 2147483647), (0, 100), (1, 1), ((-2147483648), 2147483647), (0, 100), (1, 1), ((-2147483648), 2147483647), (0, 100), (0, 1), ((-2147483648), 2147483647), (0, 100), ((-2147483648), 0)], [([(1, 1), (11, (-1)), (4, 1)], (-1))]), [([], (-3)), ([(18, 1)], 0)], [], []) := by
  intro g0 r gi g hok hh hars hfr hG
  have b0 : 1 ≤ r 0 ∧ r 0 ≤ 1 := hok.1 0 (1, 1) rfl
  have b1 : 0 ≤ r 1 ∧ r 1 ≤ 2147483647 := hok.1 1 (0, 2147483647) rfl
  have b2 : 2 ≤ r 2 ∧ r 2 ≤ 2 := hok.1 2 (2, 2) rfl
  have b3 : (-2147483648) ≤ r 3 ∧ r 3 ≤ 2147483647 := hok.1 3 ((-2147483648), 2147483647) rfl
  have b4 : 0 ≤ r 4 ∧ r 4 ≤ 2147483647 := hok.1 4 (0, 2147483647) rfl
  have b5 : (-2147483648) ≤ r 5 ∧ r 5 ≤ 2147483647 := hok.1 5 ((-2147483648), 2147483647) rfl
  have b6 : 0 ≤ r 6 ∧ r 6 ≤ 1 := hok.1 6 (0, 1) rfl
  have b7 : (-2147483648) ≤ r 7 ∧ r 7 ≤ 2147483647 := hok.1 7 ((-2147483648), 2147483647) rfl
  have b8 : 0 ≤ r 8 ∧ r 8 ≤ 100 := hok.1 8 (0, 100) rfl
  have b9 : 1 ≤ r 9 ∧ r 9 ≤ 1 := hok.1 9 (1, 1) rfl
  have b10 : (-2147483648) ≤ r 10 ∧ r 10 ≤ 2147483647 := hok.1 10 ((-2147483648), 2147483647) rfl
  have b11 : 0 ≤ r 11 ∧ r 11 ≤ 100 := hok.1 11 (0, 100) rfl
  have b12 : 1 ≤ r 12 ∧ r 12 ≤ 1 := hok.1 12 (1, 1) rfl
  have b13 : (-2147483648) ≤ r 13 ∧ r 13 ≤ 2147483647 := hok.1 13 ((-2147483648), 2147483647) rfl
  have b14 : 0 ≤ r 14 ∧ r 14 ≤ 100 := hok.1 14 (0, 100) rfl
  have b15 : 0 ≤ r 15 ∧ r 15 ≤ 1 := hok.1 15 (0, 1) rfl
  have b16 : (-2147483648) ≤ r 16 ∧ r 16 ≤ 2147483647 := hok.1 16 ((-2147483648), 2147483647) rfl
  have b17 : 0 ≤ r 17 ∧ r 17 ≤ 100 := hok.1 17 (0, 100) rfl
  have b18 : (-2147483648) ≤ r 18 ∧ r 18 ≤ 0 := hok.1 18 ((-2147483648), 0) rfl
  have f0 : 0 ≤ ((1 * r 1 + ((-1) * r 11 + (1 * r 4 + 0))) + (-1)) := hok.2 _ (List.mem_of_getElem? (i := 0) rfl)
  obtain ⟨hG, hgi⟩ := hG
  have hG : True := hG
  have hh : g = gi := hh
  subst hh
  refine yt_dalt (by decide) (by decide) ?_
  rw [show xk_40.2.1.2.1.1.length = 18 from rfl]
  show ((0 : Int) + (-3)) = yq_cr ((1 * r 0 + 0) + 0) ((1 * r 1 + 0) + 0) ((1 * r 2 + 0) + 0) ((1 * r 3 + 0) + 0) ((1 * r 4 + 0) + 0) (yq_at ((1 * r 0 + 0) + 0) ((1 * ((1 * r 6 + 0) + 0) + 0) + 0) ((1 * ((1 * r 9 + 0) + 0) + 0) + 0) ((1 * ((1 * r 12 + 0) + 0) + 0) + 0) ((1 * ((1 * r 15 + 0) + 0) + 0) + 0)) (yq_at ((1 * r 2 + 0) + 0) ((1 * ((1 * r 6 + 0) + 0) + 0) + 0) ((1 * ((1 * r 9 + 0) + 0) + 0) + 0) ((1 * ((1 * r 12 + 0) + 0) + 0) + 0) ((1 * ((1 * r 15 + 0) + 0) + 0) + 0)) (yq_at ((1 * r 0 + 0) + 0) ((1 * ((1 * r 8 + 0) + 0) + 0) + 0) ((1 * ((1 * r 11 + 0) + 0) + 0) + 0) ((1 * ((1 * r 14 + 0) + 0) + 0) + 0) ((1 * ((1 * r 17 + 0) + 0) + 0) + 0)) (yq_at ((1 * r 2 + 0) + 0) ((1 * ((1 * r 8 + 0) + 0) + 0) + 0) ((1 * ((1 * r 11 + 0) + 0) + 0) + 0) ((1 * ((1 * r 14 + 0) + 0) + 0) + 0) ((1 * ((1 * r 17 + 0) + 0) + 0) + 0)) ∧ (g 3) = yq_xc ((1 * r 0 + 0) + 0) ((1 * r 1 + 0) + 0) ((1 * r 2 + 0) + 0) ((1 * r 3 + 0) + 0) ((1 * r 4 + 0) + 0) 0 (yq_at ((1 * r 0 + 0) + 0) ((1 * ((1 * r 6 + 0) + 0) + 0) + 0) ((1 * ((1 * r 9 + 0) + 0) + 0) + 0) ((1 * ((1 * r 12 + 0) + 0) + 0) + 0) ((1 * ((1 * r 15 + 0) + 0) + 0) + 0)) ((1 * ((1 * r 6 + 0) + 0) + 0) + 0) (yq_at ((1 * r 0 + 0) + 0) ((1 * ((1 * r 8 + 0) + 0) + 0) + 0) ((1 * ((1 * r 11 + 0) + 0) + 0) + 0) ((1 * ((1 * r 14 + 0) + 0) + 0) + 0) ((1 * ((1 * r 17 + 0) + 0) + 0) + 0)) ((1 * ((1 * r 8 + 0) + 0) + 0) + 0) ((1 * ((1 * r 7 + 0) + 0) + 0) + 0) (yq_fat ((1 * r 0 + 0) + 0) (g0 3) (g0 5) (g0 7) (g0 9)) (g0 3) ∧ (g 5) = yq_xc ((1 * r 0 + 0) + 0) ((1 * r 1 + 0) + 0) ((1 * r 2 + 0) + 0) ((1 * r 3 + 0) + 0) ((1 * r 4 + 0) + 0) 1 (yq_at ((1 * r 0 + 0) + 0) ((1 * ((1 * r 6 + 0) + 0) + 0) + 0) ((1 * ((1 * r 9 + 0) + 0) + 0) + 0) ((1 * ((1 * r 12 + 0) + 0) + 0) + 0) ((1 * ((1 * r 15 + 0) + 0) + 0) + 0)) ((1 * ((1 * r 9 + 0) + 0) + 0) + 0) (yq_at ((1 * r 0 + 0) + 0) ((1 * ((1 * r 8 + 0) + 0) + 0) + 0) ((1 * ((1 * r 11 + 0) + 0) + 0) + 0) ((1 * ((1 * r 14 + 0) + 0) + 0) + 0) ((1 * ((1 * r 17 + 0) + 0) + 0) + 0)) ((1 * ((1 * r 11 + 0) + 0) + 0) + 0) ((1 * ((1 * r 10 + 0) + 0) + 0) + 0) (yq_fat ((1 * r 0 + 0) + 0) (g0 3) (g0 5) (g0 7) (g0 9)) (g0 5) ∧ (g 7) = yq_xc ((1 * r 0 + 0) + 0) ((1 * r 1 + 0) + 0) ((1 * r 2 + 0) + 0) ((1 * r 3 + 0) + 0) ((1 * r 4 + 0) + 0) 2 (yq_at ((1 * r 0 + 0) + 0) ((1 * ((1 * r 6 + 0) + 0) + 0) + 0) ((1 * ((1 * r 9 + 0) + 0) + 0) + 0) ((1 * ((1 * r 12 + 0) + 0) + 0) + 0) ((1 * ((1 * r 15 + 0) + 0) + 0) + 0)) ((1 * ((1 * r 12 + 0) + 0) + 0) + 0) (yq_at ((1 * r 0 + 0) + 0) ((1 * ((1 * r 8 + 0) + 0) + 0) + 0) ((1 * ((1 * r 11 + 0) + 0) + 0) + 0) ((1 * ((1 * r 14 + 0) + 0) + 0) + 0) ((1 * ((1 * r 17 + 0) + 0) + 0) + 0)) ((1 * ((1 * r 14 + 0) + 0) + 0) + 0) ((1 * ((1 * r 13 + 0) + 0) + 0) + 0) (yq_fat ((1 * r 0 + 0) + 0) (g0 3) (g0 5) (g0 7) (g0 9)) (g0 7) ∧ (g 9) = yq_xc ((1 * r 0 + 0) + 0) ((1 * r 1 + 0) + 0) ((1 * r 2 + 0) + 0) ((1 * r 3 + 0) + 0) ((1 * r 4 + 0) + 0) 3 (yq_at ((1 * r 0 + 0) + 0) ((1 * ((1 * r 6 + 0) + 0) + 0) + 0) ((1 * ((1 * r 9 + 0) + 0) + 0) + 0) ((1 * ((1 * r 12 + 0) + 0) + 0) + 0) ((1 * ((1 * r 15 + 0) + 0) + 0) + 0)) ((1 * ((1 * r 15 + 0) + 0) + 0) + 0) (yq_at ((1 * r 0 + 0) + 0) ((1 * ((1 * r 8 + 0) + 0) + 0) + 0) ((1 * ((1 * r 11 + 0) + 0) + 0) + 0) ((1 * ((1 * r 14 + 0) + 0) + 0) + 0) ((1 * ((1 * r 17 + 0) + 0) + 0) + 0)) ((1 * ((1 * r 17 + 0) + 0) + 0) + 0) ((1 * ((1 * r 16 + 0) + 0) + 0) + 0) (yq_fat ((1 * r 0 + 0) + 0) (g0 3) (g0 5) (g0 7) (g0 9)) (g0 9)
  try simp only [Int.one_mul, Int.zero_add, Int.add_zero]
  refine ⟨?_, ?_, ?_, ?_, ?_⟩
  · rw [show r 0 = 1 by omega]
    rw [show r 2 = 2 by omega]
    simp only [yq_at1, yq_at2]
    unfold yq_cr
    repeat' split
    all_goals omega
  · rw [show r 0 = 1 by omega]
    simp only [yq_at1, yq_fat1]
    unfold yq_xc
    rw [if_neg (by omega)]
    rw [hgi]
  · rw [show r 0 = 1 by omega]
    simp only [yq_at1, yq_fat1]
    unfold yq_xc
    rw [if_neg (by omega)]
    rw [hgi]
  · rw [show r 0 = 1 by omega]
    simp only [yq_at1, yq_fat1]
    unfold yq_xc
    rw [if_neg (by omega)]
    rw [hgi]
  · rw [show r 0 = 1 by omega]
    simp only [yq_at1, yq_fat1]
    unfold yq_xc
    rw [if_neg (by omega)]
    rw [hgi]
theorem xw_40_0_42 : yt_hold xT_40 xk_40 xq_40.2.2.1 xG_40 xP_40 xU_40 18 xk_40.2.1.2.2.2 (fun g0 r g => xR_40 r g0 ∧ g = g0) (1000, ([(1, 1), (0, 100), (2, 2), ((-2147483648), (-1)), (0, 100), ((-2147483648), 2147483647), (0, 1), ((-2147483648), 2147483647), (0, 100), (1, 1), ((-2147483648), 2147483647), (0, 100), (1, 1), ((-2147483648), 2147483647), (0, 100), (0, 1), ((-2147483648), 2147483647), (0, 100), ((-2147483648), 0)], [([(1, (-1)), (11, 1), (4, (-1))], 0)]), [([], (-3)), ([(18, 1)], 0)], [], []) := by
  intro g0 r gi g hok hh hars hfr hG
  have b0 : 1 ≤ r 0 ∧ r 0 ≤ 1 := hok.1 0 (1, 1) rfl
  have b1 : 0 ≤ r 1 ∧ r 1 ≤ 100 := hok.1 1 (0, 100) rfl
  have b2 : 2 ≤ r 2 ∧ r 2 ≤ 2 := hok.1 2 (2, 2) rfl
  have b3 : (-2147483648) ≤ r 3 ∧ r 3 ≤ (-1) := hok.1 3 ((-2147483648), (-1)) rfl
  have b4 : 0 ≤ r 4 ∧ r 4 ≤ 100 := hok.1 4 (0, 100) rfl
  have b5 : (-2147483648) ≤ r 5 ∧ r 5 ≤ 2147483647 := hok.1 5 ((-2147483648), 2147483647) rfl
  have b6 : 0 ≤ r 6 ∧ r 6 ≤ 1 := hok.1 6 (0, 1) rfl
  have b7 : (-2147483648) ≤ r 7 ∧ r 7 ≤ 2147483647 := hok.1 7 ((-2147483648), 2147483647) rfl
  have b8 : 0 ≤ r 8 ∧ r 8 ≤ 100 := hok.1 8 (0, 100) rfl
  have b9 : 1 ≤ r 9 ∧ r 9 ≤ 1 := hok.1 9 (1, 1) rfl
  have b10 : (-2147483648) ≤ r 10 ∧ r 10 ≤ 2147483647 := hok.1 10 ((-2147483648), 2147483647) rfl
  have b11 : 0 ≤ r 11 ∧ r 11 ≤ 100 := hok.1 11 (0, 100) rfl
  have b12 : 1 ≤ r 12 ∧ r 12 ≤ 1 := hok.1 12 (1, 1) rfl
  have b13 : (-2147483648) ≤ r 13 ∧ r 13 ≤ 2147483647 := hok.1 13 ((-2147483648), 2147483647) rfl
  have b14 : 0 ≤ r 14 ∧ r 14 ≤ 100 := hok.1 14 (0, 100) rfl
  have b15 : 0 ≤ r 15 ∧ r 15 ≤ 1 := hok.1 15 (0, 1) rfl
  have b16 : (-2147483648) ≤ r 16 ∧ r 16 ≤ 2147483647 := hok.1 16 ((-2147483648), 2147483647) rfl
  have b17 : 0 ≤ r 17 ∧ r 17 ≤ 100 := hok.1 17 (0, 100) rfl
  have b18 : (-2147483648) ≤ r 18 ∧ r 18 ≤ 0 := hok.1 18 ((-2147483648), 0) rfl
  have f0 : 0 ≤ (((-1) * r 1 + (1 * r 11 + ((-1) * r 4 + 0))) + 0) := hok.2 _ (List.mem_of_getElem? (i := 0) rfl)
  obtain ⟨hG, hgi⟩ := hG
  have hG : True := hG
  have hh : g = gi := hh
  subst hh
  refine yt_dalt (by decide) (by decide) ?_
  rw [show xk_40.2.1.2.1.1.length = 18 from rfl]
  show ((0 : Int) + (-3)) = yq_cr ((1 * r 0 + 0) + 0) ((1 * r 1 + 0) + 0) ((1 * r 2 + 0) + 0) ((1 * r 3 + 0) + 0) ((1 * r 4 + 0) + 0) (yq_at ((1 * r 0 + 0) + 0) ((1 * ((1 * r 6 + 0) + 0) + 0) + 0) ((1 * ((1 * r 9 + 0) + 0) + 0) + 0) ((1 * ((1 * r 12 + 0) + 0) + 0) + 0) ((1 * ((1 * r 15 + 0) + 0) + 0) + 0)) (yq_at ((1 * r 2 + 0) + 0) ((1 * ((1 * r 6 + 0) + 0) + 0) + 0) ((1 * ((1 * r 9 + 0) + 0) + 0) + 0) ((1 * ((1 * r 12 + 0) + 0) + 0) + 0) ((1 * ((1 * r 15 + 0) + 0) + 0) + 0)) (yq_at ((1 * r 0 + 0) + 0) ((1 * ((1 * r 8 + 0) + 0) + 0) + 0) ((1 * ((1 * r 11 + 0) + 0) + 0) + 0) ((1 * ((1 * r 14 + 0) + 0) + 0) + 0) ((1 * ((1 * r 17 + 0) + 0) + 0) + 0)) (yq_at ((1 * r 2 + 0) + 0) ((1 * ((1 * r 8 + 0) + 0) + 0) + 0) ((1 * ((1 * r 11 + 0) + 0) + 0) + 0) ((1 * ((1 * r 14 + 0) + 0) + 0) + 0) ((1 * ((1 * r 17 + 0) + 0) + 0) + 0)) ∧ (g 3) = yq_xc ((1 * r 0 + 0) + 0) ((1 * r 1 + 0) + 0) ((1 * r 2 + 0) + 0) ((1 * r 3 + 0) + 0) ((1 * r 4 + 0) + 0) 0 (yq_at ((1 * r 0 + 0) + 0) ((1 * ((1 * r 6 + 0) + 0) + 0) + 0) ((1 * ((1 * r 9 + 0) + 0) + 0) + 0) ((1 * ((1 * r 12 + 0) + 0) + 0) + 0) ((1 * ((1 * r 15 + 0) + 0) + 0) + 0)) ((1 * ((1 * r 6 + 0) + 0) + 0) + 0) (yq_at ((1 * r 0 + 0) + 0) ((1 * ((1 * r 8 + 0) + 0) + 0) + 0) ((1 * ((1 * r 11 + 0) + 0) + 0) + 0) ((1 * ((1 * r 14 + 0) + 0) + 0) + 0) ((1 * ((1 * r 17 + 0) + 0) + 0) + 0)) ((1 * ((1 * r 8 + 0) + 0) + 0) + 0) ((1 * ((1 * r 7 + 0) + 0) + 0) + 0) (yq_fat ((1 * r 0 + 0) + 0) (g0 3) (g0 5) (g0 7) (g0 9)) (g0 3) ∧ (g 5) = yq_xc ((1 * r 0 + 0) + 0) ((1 * r 1 + 0) + 0) ((1 * r 2 + 0) + 0) ((1 * r 3 + 0) + 0) ((1 * r 4 + 0) + 0) 1 (yq_at ((1 * r 0 + 0) + 0) ((1 * ((1 * r 6 + 0) + 0) + 0) + 0) ((1 * ((1 * r 9 + 0) + 0) + 0) + 0) ((1 * ((1 * r 12 + 0) + 0) + 0) + 0) ((1 * ((1 * r 15 + 0) + 0) + 0) + 0)) ((1 * ((1 * r 9 + 0) + 0) + 0) + 0) (yq_at ((1 * r 0 + 0) + 0) ((1 * ((1 * r 8 + 0) + 0) + 0) + 0) ((1 * ((1 * r 11 + 0) + 0) + 0) + 0) ((1 * ((1 * r 14 + 0) + 0) + 0) + 0) ((1 * ((1 * r 17 + 0) + 0) + 0) + 0)) ((1 * ((1 * r 11 + 0) + 0) + 0) + 0) ((1 * ((1 * r 10 + 0) + 0) + 0) + 0) (yq_fat ((1 * r 0 + 0) + 0) (g0 3) (g0 5) (g0 7) (g0 9)) (g0 5) ∧ (g 7) = yq_xc ((1 * r 0 + 0) + 0) ((1 * r 1 + 0) + 0) ((1 * r 2 + 0) + 0) ((1 * r 3 + 0) + 0) ((1 * r 4 + 0) + 0) 2 (yq_at ((1 * r 0 + 0) + 0) ((1 * ((1 * r 6 + 0) + 0) + 0) + 0) ((1 * ((1 * r 9 + 0) + 0) + 0) + 0) ((1 * ((1 * r 12 + 0) + 0) + 0) + 0) ((1 * ((1 * r 15 + 0) + 0) + 0) + 0)) ((1 * ((1 * r 12 + 0) + 0) + 0) + 0) (yq_at ((1 * r 0 + 0) + 0) ((1 * ((1 * r 8 + 0) + 0) + 0) + 0) ((1 * ((1 * r 11 + 0) + 0) + 0) + 0) ((1 * ((1 * r 14 + 0) + 0) + 0) + 0) ((1 * ((1 * r 17 + 0) + 0) + 0) + 0)) ((1 * ((1 * r 14 + 0) + 0) + 0) + 0) ((1 * ((1 * r 13 + 0) + 0) + 0) + 0) (yq_fat ((1 * r 0 + 0) + 0) (g0 3) (g0 5) (g0 7) (g0 9)) (g0 7) ∧ (g 9) = yq_xc ((1 * r 0 + 0) + 0) ((1 * r 1 + 0) + 0) ((1 * r 2 + 0) + 0) ((1 * r 3 + 0) + 0) ((1 * r 4 + 0) + 0) 3 (yq_at ((1 * r 0 + 0) + 0) ((1 * ((1 * r 6 + 0) + 0) + 0) + 0) ((1 * ((1 * r 9 + 0) + 0) + 0) + 0) ((1 * ((1 * r 12 + 0) + 0) + 0) + 0) ((1 * ((1 * r 15 + 0) + 0) + 0) + 0)) ((1 * ((1 * r 15 + 0) + 0) + 0) + 0) (yq_at ((1 * r 0 + 0) + 0) ((1 * ((1 * r 8 + 0) + 0) + 0) + 0) ((1 * ((1 * r 11 + 0) + 0) + 0) + 0) ((1 * ((1 * r 14 + 0) + 0) + 0) + 0) ((1 * ((1 * r 17 + 0) + 0) + 0) + 0)) ((1 * ((1 * r 17 + 0) + 0) + 0) + 0) ((1 * ((1 * r 16 + 0) + 0) + 0) + 0) (yq_fat ((1 * r 0 + 0) + 0) (g0 3) (g0 5) (g0 7) (g0 9)) (g0 9)
  try simp only [Int.one_mul, Int.zero_add, Int.add_zero]
  refine ⟨?_, ?_, ?_, ?_, ?_⟩
  · rw [show r 0 = 1 by omega]
    rw [show r 2 = 2 by omega]
    simp only [yq_at1, yq_at2]
    unfold yq_cr
    repeat' split
    all_goals omega
  · rw [show r 0 = 1 by omega]
    simp only [yq_at1, yq_fat1]
    unfold yq_xc
    rw [if_neg (by omega)]
    rw [hgi]
  · rw [show r 0 = 1 by omega]
    simp only [yq_at1, yq_fat1]
    unfold yq_xc
    rw [if_neg (by omega)]
    rw [hgi]
  · rw [show r 0 = 1 by omega]
    simp only [yq_at1, yq_fat1]
    unfold yq_xc
    rw [if_neg (by omega)]
    rw [hgi]
  · rw [show r 0 = 1 by omega]
    simp only [yq_at1, yq_fat1]
    unfold yq_xc
    rw [if_neg (by omega)]
    rw [hgi]
theorem xw_40_0_43 : yt_hold xT_40 xk_40 xq_40.2.2.1 xG_40 xP_40 xU_40 18 xk_40.2.1.2.2.2 (fun g0 r g => xR_40 r g0 ∧ g = g0) (1000, ([(1, 1), (0, 100), (2, 2), (0, 2147483647), (0, 100), ((-2147483648), 2147483647), (0, 1), ((-2147483648), 2147483647), (0, 100), (1, 1), ((-2147483648), 2147483647), (0, 100), (1, 1), ((-2147483648), 2147483647), (0, 100), (0, 1), ((-2147483648), 2147483647), (0, 100), ((-2147483648), 0)], [([(3, 1), (14, (-1)), (4, 1)], (-1)), ([(1, (-1)), (11, 1), (4, (-1))], 0)]), [([], (-3)), ([(18, 1)], 0)], [], []) := by
  intro g0 r gi g hok hh hars hfr hG
  have b0 : 1 ≤ r 0 ∧ r 0 ≤ 1 := hok.1 0 (1, 1) rfl
  have b1 : 0 ≤ r 1 ∧ r 1 ≤ 100 := hok.1 1 (0, 100) rfl
  have b2 : 2 ≤ r 2 ∧ r 2 ≤ 2 := hok.1 2 (2, 2) rfl
  have b3 : 0 ≤ r 3 ∧ r 3 ≤ 2147483647 := hok.1 3 (0, 2147483647) rfl
  have b4 : 0 ≤ r 4 ∧ r 4 ≤ 100 := hok.1 4 (0, 100) rfl
  have b5 : (-2147483648) ≤ r 5 ∧ r 5 ≤ 2147483647 := hok.1 5 ((-2147483648), 2147483647) rfl
  have b6 : 0 ≤ r 6 ∧ r 6 ≤ 1 := hok.1 6 (0, 1) rfl
  have b7 : (-2147483648) ≤ r 7 ∧ r 7 ≤ 2147483647 := hok.1 7 ((-2147483648), 2147483647) rfl
  have b8 : 0 ≤ r 8 ∧ r 8 ≤ 100 := hok.1 8 (0, 100) rfl
  have b9 : 1 ≤ r 9 ∧ r 9 ≤ 1 := hok.1 9 (1, 1) rfl
  have b10 : (-2147483648) ≤ r 10 ∧ r 10 ≤ 2147483647 := hok.1 10 ((-2147483648), 2147483647) rfl
  have b11 : 0 ≤ r 11 ∧ r 11 ≤ 100 := hok.1 11 (0, 100) rfl
  have b12 : 1 ≤ r 12 ∧ r 12 ≤ 1 := hok.1 12 (1, 1) rfl
  have b13 : (-2147483648) ≤ r 13 ∧ r 13 ≤ 2147483647 := hok.1 13 ((-2147483648), 2147483647) rfl
  have b14 : 0 ≤ r 14 ∧ r 14 ≤ 100 := hok.1 14 (0, 100) rfl
  have b15 : 0 ≤ r 15 ∧ r 15 ≤ 1 := hok.1 15 (0, 1) rfl
  have b16 : (-2147483648) ≤ r 16 ∧ r 16 ≤ 2147483647 := hok.1 16 ((-2147483648), 2147483647) rfl
  have b17 : 0 ≤ r 17 ∧ r 17 ≤ 100 := hok.1 17 (0, 100) rfl
  have b18 : (-2147483648) ≤ r 18 ∧ r 18 ≤ 0 := hok.1 18 ((-2147483648), 0) rfl
  have f0 : 0 ≤ ((1 * r 3 + ((-1) * r 14 + (1 * r 4 + 0))) + (-1)) := hok.2 _ (List.mem_of_getElem? (i := 0) rfl)
  have f1 : 0 ≤ (((-1) * r 1 + (1 * r 11 + ((-1) * r 4 + 0))) + 0) := hok.2 _ (List.mem_of_getElem? (i := 1) rfl)
  obtain ⟨hG, hgi⟩ := hG
  have hG : True := hG
  have hh : g = gi := hh
  subst hh
  refine yt_dalt (by decide) (by decide) ?_
  rw [show xk_40.2.1.2.1.1.length = 18 from rfl]
  show ((0 : Int) + (-3)) = yq_cr ((1 * r 0 + 0) + 0) ((1 * r 1 + 0) + 0) ((1 * r 2 + 0) + 0) ((1 * r 3 + 0) + 0) ((1 * r 4 + 0) + 0) (yq_at ((1 * r 0 + 0) + 0) ((1 * ((1 * r 6 + 0) + 0) + 0) + 0) ((1 * ((1 * r 9 + 0) + 0) + 0) + 0) ((1 * ((1 * r 12 + 0) + 0) + 0) + 0) ((1 * ((1 * r 15 + 0) + 0) + 0) + 0)) (yq_at ((1 * r 2 + 0) + 0) ((1 * ((1 * r 6 + 0) + 0) + 0) + 0) ((1 * ((1 * r 9 + 0) + 0) + 0) + 0) ((1 * ((1 * r 12 + 0) + 0) + 0) + 0) ((1 * ((1 * r 15 + 0) + 0) + 0) + 0)) (yq_at ((1 * r 0 + 0) + 0) ((1 * ((1 * r 8 + 0) + 0) + 0) + 0) ((1 * ((1 * r 11 + 0) + 0) + 0) + 0) ((1 * ((1 * r 14 + 0) + 0) + 0) + 0) ((1 * ((1 * r 17 + 0) + 0) + 0) + 0)) (yq_at ((1 * r 2 + 0) + 0) ((1 * ((1 * r 8 + 0) + 0) + 0) + 0) ((1 * ((1 * r 11 + 0) + 0) + 0) + 0) ((1 * ((1 * r 14 + 0) + 0) + 0) + 0) ((1 * ((1 * r 17 + 0) + 0) + 0) + 0)) ∧ (g 3) = yq_xc ((1 * r 0 + 0) + 0) ((1 * r 1 + 0) + 0) ((1 * r 2 + 0) + 0) ((1 * r 3 + 0) + 0) ((1 * r 4 + 0) + 0) 0 (yq_at ((1 * r 0 + 0) + 0) ((1 * ((1 * r 6 + 0) + 0) + 0) + 0) ((1 * ((1 * r 9 + 0) + 0) + 0) + 0) ((1 * ((1 * r 12 + 0) + 0) + 0) + 0) ((1 * ((1 * r 15 + 0) + 0) + 0) + 0)) ((1 * ((1 * r 6 + 0) + 0) + 0) + 0) (yq_at ((1 * r 0 + 0) + 0) ((1 * ((1 * r 8 + 0) + 0) + 0) + 0) ((1 * ((1 * r 11 + 0) + 0) + 0) + 0) ((1 * ((1 * r 14 + 0) + 0) + 0) + 0) ((1 * ((1 * r 17 + 0) + 0) + 0) + 0)) ((1 * ((1 * r 8 + 0) + 0) + 0) + 0) ((1 * ((1 * r 7 + 0) + 0) + 0) + 0) (yq_fat ((1 * r 0 + 0) + 0) (g0 3) (g0 5) (g0 7) (g0 9)) (g0 3) ∧ (g 5) = yq_xc ((1 * r 0 + 0) + 0) ((1 * r 1 + 0) + 0) ((1 * r 2 + 0) + 0) ((1 * r 3 + 0) + 0) ((1 * r 4 + 0) + 0) 1 (yq_at ((1 * r 0 + 0) + 0) ((1 * ((1 * r 6 + 0) + 0) + 0) + 0) ((1 * ((1 * r 9 + 0) + 0) + 0) + 0) ((1 * ((1 * r 12 + 0) + 0) + 0) + 0) ((1 * ((1 * r 15 + 0) + 0) + 0) + 0)) ((1 * ((1 * r 9 + 0) + 0) + 0) + 0) (yq_at ((1 * r 0 + 0) + 0) ((1 * ((1 * r 8 + 0) + 0) + 0) + 0) ((1 * ((1 * r 11 + 0) + 0) + 0) + 0) ((1 * ((1 * r 14 + 0) + 0) + 0) + 0) ((1 * ((1 * r 17 + 0) + 0) + 0) + 0)) ((1 * ((1 * r 11 + 0) + 0) + 0) + 0) ((1 * ((1 * r 10 + 0) + 0) + 0) + 0) (yq_fat ((1 * r 0 + 0) + 0) (g0 3) (g0 5) (g0 7) (g0 9)) (g0 5) ∧ (g 7) = yq_xc ((1 * r 0 + 0) + 0) ((1 * r 1 + 0) + 0) ((1 * r 2 + 0) + 0) ((1 * r 3 + 0) + 0) ((1 * r 4 + 0) + 0) 2 (yq_at ((1 * r 0 + 0) + 0) ((1 * ((1 * r 6 + 0) + 0) + 0) + 0) ((1 * ((1 * r 9 + 0) + 0) + 0) + 0) ((1 * ((1 * r 12 + 0) + 0) + 0) + 0) ((1 * ((1 * r 15 + 0) + 0) + 0) + 0)) ((1 * ((1 * r 12 + 0) + 0) + 0) + 0) (yq_at ((1 * r 0 + 0) + 0) ((1 * ((1 * r 8 + 0) + 0) + 0) + 0) ((1 * ((1 * r 11 + 0) + 0) + 0) + 0) ((1 * ((1 * r 14 + 0) + 0) + 0) + 0) ((1 * ((1 * r 17 + 0) + 0) + 0) + 0)) ((1 * ((1 * r 14 + 0) + 0) + 0) + 0) ((1 * ((1 * r 13 + 0) + 0) + 0) + 0) (yq_fat ((1 * r 0 + 0) + 0) (g0 3) (g0 5) (g0 7) (g0 9)) (g0 7) ∧ (g 9) = yq_xc ((1 * r 0 + 0) + 0) ((1 * r 1 + 0) + 0) ((1 * r 2 + 0) + 0) ((1 * r 3 + 0) + 0) ((1 * r 4 + 0) + 0) 3 (yq_at ((1 * r 0 + 0) + 0) ((1 * ((1 * r 6 + 0) + 0) + 0) + 0) ((1 * ((1 * r 9 + 0) + 0) + 0) + 0) ((1 * ((1 * r 12 + 0) + 0) + 0) + 0) ((1 * ((1 * r 15 + 0) + 0) + 0) + 0)) ((1 * ((1 * r 15 + 0) + 0) + 0) + 0) (yq_at ((1 * r 0 + 0) + 0) ((1 * ((1 * r 8 + 0) + 0) + 0) + 0) ((1 * ((1 * r 11 + 0) + 0) + 0) + 0) ((1 * ((1 * r 14 + 0) + 0) + 0) + 0) ((1 * ((1 * r 17 + 0) + 0) + 0) + 0)) ((1 * ((1 * r 17 + 0) + 0) + 0) + 0) ((1 * ((1 * r 16 + 0) + 0) + 0) + 0) (yq_fat ((1 * r 0 + 0) + 0) (g0 3) (g0 5) (g0 7) (g0 9)) (g0 9)
  try simp only [Int.one_mul, Int.zero_add, Int.add_zero]
  refine ⟨?_, ?_, ?_, ?_, ?_⟩
  · rw [show r 0 = 1 by omega]
    rw [show r 2 = 2 by omega]
    simp only [yq_at1, yq_at2]
    unfold yq_cr
    repeat' split
    all_goals omega
  · rw [show r 0 = 1 by omega]
    simp only [yq_at1, yq_fat1]
    unfold yq_xc
    rw [if_neg (by omega)]
    rw [hgi]
  · rw [show r 0 = 1 by omega]
    simp only [yq_at1, yq_fat1]
    unfold yq_xc
    rw [if_neg (by omega)]
    rw [hgi]
  · rw [show r 0 = 1 by omega]
    simp only [yq_at1, yq_fat1]
    unfold yq_xc
    rw [if_neg (by omega)]
    rw [hgi]
  · rw [show r 0 = 1 by omega]
    simp only [yq_at1, yq_fat1]
    unfold yq_xc
    rw [if_neg (by omega)]
    rw [hgi]
theorem xw_40_0_44 : yt_hold xT_40 xk_40 xq_40.2.2.1 xG_40 xP_40 xU_40 18 xk_40.2.1.2.2.2 (fun g0 r g => xR_40 r g0 ∧ g = g0) (1000, ([(1, 1), (0, 100), (2, 2), (0, 100), (0, 100), ((-2147483648), 2147483647), (0, 1), ((-2147483648), 2147483647), (0, 100), (1, 1), ((-2147483648), 2147483647), (0, 100), (1, 1), ((-2147483648), 2147483647), (0, 100), (0, 1), ((-2147483648), 2147483647), (0, 100), ((-2147483648), 0)], [([(4, (-1)), (3, (-1))], 101), ([(3, (-1)), (14, 1), (4, (-1))], 0), ([(1, (-1)), (11, 1), (4, (-1))], 0)]), [([(4, 1)], 0), ([(18, 1)], 0)], [], [.inr (.inr (.inl (98, 0, [([(3, 1)], 0), ([(1, 1)], 0), ([(4, 1)], 0), ([(12, 1)], 0), ([(13, 1)], 0), ([(14, 1)], 0), ([(9, 1)], 0), ([(10, 1)], 0), ([(11, 1)], 0)], [6, 7, 4, 5], [7])))]) := by
  intro g0 r gi g hok hh hars hfr hG
  have b0 : 1 ≤ r 0 ∧ r 0 ≤ 1 := hok.1 0 (1, 1) rfl
  have b1 : 0 ≤ r 1 ∧ r 1 ≤ 100 := hok.1 1 (0, 100) rfl
  have b2 : 2 ≤ r 2 ∧ r 2 ≤ 2 := hok.1 2 (2, 2) rfl
  have b3 : 0 ≤ r 3 ∧ r 3 ≤ 100 := hok.1 3 (0, 100) rfl
  have b4 : 0 ≤ r 4 ∧ r 4 ≤ 100 := hok.1 4 (0, 100) rfl
  have b5 : (-2147483648) ≤ r 5 ∧ r 5 ≤ 2147483647 := hok.1 5 ((-2147483648), 2147483647) rfl
  have b6 : 0 ≤ r 6 ∧ r 6 ≤ 1 := hok.1 6 (0, 1) rfl
  have b7 : (-2147483648) ≤ r 7 ∧ r 7 ≤ 2147483647 := hok.1 7 ((-2147483648), 2147483647) rfl
  have b8 : 0 ≤ r 8 ∧ r 8 ≤ 100 := hok.1 8 (0, 100) rfl
  have b9 : 1 ≤ r 9 ∧ r 9 ≤ 1 := hok.1 9 (1, 1) rfl
  have b10 : (-2147483648) ≤ r 10 ∧ r 10 ≤ 2147483647 := hok.1 10 ((-2147483648), 2147483647) rfl
  have b11 : 0 ≤ r 11 ∧ r 11 ≤ 100 := hok.1 11 (0, 100) rfl
  have b12 : 1 ≤ r 12 ∧ r 12 ≤ 1 := hok.1 12 (1, 1) rfl
  have b13 : (-2147483648) ≤ r 13 ∧ r 13 ≤ 2147483647 := hok.1 13 ((-2147483648), 2147483647) rfl
  have b14 : 0 ≤ r 14 ∧ r 14 ≤ 100 := hok.1 14 (0, 100) rfl
  have b15 : 0 ≤ r 15 ∧ r 15 ≤ 1 := hok.1 15 (0, 1) rfl
  have b16 : (-2147483648) ≤ r 16 ∧ r 16 ≤ 2147483647 := hok.1 16 ((-2147483648), 2147483647) rfl
  have b17 : 0 ≤ r 17 ∧ r 17 ≤ 100 := hok.1 17 (0, 100) rfl
  have b18 : (-2147483648) ≤ r 18 ∧ r 18 ≤ 0 := hok.1 18 ((-2147483648), 0) rfl
  have f0 : 0 ≤ (((-1) * r 4 + ((-1) * r 3 + 0)) + 101) := hok.2 _ (List.mem_of_getElem? (i := 0) rfl)
  have f1 : 0 ≤ (((-1) * r 3 + (1 * r 14 + ((-1) * r 4 + 0))) + 0) := hok.2 _ (List.mem_of_getElem? (i := 1) rfl)
  have f2 : 0 ≤ (((-1) * r 1 + (1 * r 11 + ((-1) * r 4 + 0))) + 0) := hok.2 _ (List.mem_of_getElem? (i := 2) rfl)
  obtain ⟨hG, hgi⟩ := hG
  have hG : True := hG
  obtain ⟨h0, hh, e0, k0⟩ := hh
  have k0 : ∀ j, j ∉ [7] → g j = h0 j := k0
  have e0 : (g 7) = yq_pa ((1 * r 3 + 0) + 0) ((1 * r 1 + 0) + 0) ((1 * r 4 + 0) + 0) ((1 * r 13 + 0) + 0) (h0 5) (h0 7) := e0
  have hh : h0 = gi := hh
  subst hh
  refine yt_dalt (by decide) (by decide) ?_
  rw [show xk_40.2.1.2.1.1.length = 18 from rfl]
  show ((1 * r 4 + 0) + 0) = yq_cr ((1 * r 0 + 0) + 0) ((1 * r 1 + 0) + 0) ((1 * r 2 + 0) + 0) ((1 * r 3 + 0) + 0) ((1 * r 4 + 0) + 0) (yq_at ((1 * r 0 + 0) + 0) ((1 * ((1 * r 6 + 0) + 0) + 0) + 0) ((1 * ((1 * r 9 + 0) + 0) + 0) + 0) ((1 * ((1 * r 12 + 0) + 0) + 0) + 0) ((1 * ((1 * r 15 + 0) + 0) + 0) + 0)) (yq_at ((1 * r 2 + 0) + 0) ((1 * ((1 * r 6 + 0) + 0) + 0) + 0) ((1 * ((1 * r 9 + 0) + 0) + 0) + 0) ((1 * ((1 * r 12 + 0) + 0) + 0) + 0) ((1 * ((1 * r 15 + 0) + 0) + 0) + 0)) (yq_at ((1 * r 0 + 0) + 0) ((1 * ((1 * r 8 + 0) + 0) + 0) + 0) ((1 * ((1 * r 11 + 0) + 0) + 0) + 0) ((1 * ((1 * r 14 + 0) + 0) + 0) + 0) ((1 * ((1 * r 17 + 0) + 0) + 0) + 0)) (yq_at ((1 * r 2 + 0) + 0) ((1 * ((1 * r 8 + 0) + 0) + 0) + 0) ((1 * ((1 * r 11 + 0) + 0) + 0) + 0) ((1 * ((1 * r 14 + 0) + 0) + 0) + 0) ((1 * ((1 * r 17 + 0) + 0) + 0) + 0)) ∧ (g 3) = yq_xc ((1 * r 0 + 0) + 0) ((1 * r 1 + 0) + 0) ((1 * r 2 + 0) + 0) ((1 * r 3 + 0) + 0) ((1 * r 4 + 0) + 0) 0 (yq_at ((1 * r 0 + 0) + 0) ((1 * ((1 * r 6 + 0) + 0) + 0) + 0) ((1 * ((1 * r 9 + 0) + 0) + 0) + 0) ((1 * ((1 * r 12 + 0) + 0) + 0) + 0) ((1 * ((1 * r 15 + 0) + 0) + 0) + 0)) ((1 * ((1 * r 6 + 0) + 0) + 0) + 0) (yq_at ((1 * r 0 + 0) + 0) ((1 * ((1 * r 8 + 0) + 0) + 0) + 0) ((1 * ((1 * r 11 + 0) + 0) + 0) + 0) ((1 * ((1 * r 14 + 0) + 0) + 0) + 0) ((1 * ((1 * r 17 + 0) + 0) + 0) + 0)) ((1 * ((1 * r 8 + 0) + 0) + 0) + 0) ((1 * ((1 * r 7 + 0) + 0) + 0) + 0) (yq_fat ((1 * r 0 + 0) + 0) (g0 3) (g0 5) (g0 7) (g0 9)) (g0 3) ∧ (g 5) = yq_xc ((1 * r 0 + 0) + 0) ((1 * r 1 + 0) + 0) ((1 * r 2 + 0) + 0) ((1 * r 3 + 0) + 0) ((1 * r 4 + 0) + 0) 1 (yq_at ((1 * r 0 + 0) + 0) ((1 * ((1 * r 6 + 0) + 0) + 0) + 0) ((1 * ((1 * r 9 + 0) + 0) + 0) + 0) ((1 * ((1 * r 12 + 0) + 0) + 0) + 0) ((1 * ((1 * r 15 + 0) + 0) + 0) + 0)) ((1 * ((1 * r 9 + 0) + 0) + 0) + 0) (yq_at ((1 * r 0 + 0) + 0) ((1 * ((1 * r 8 + 0) + 0) + 0) + 0) ((1 * ((1 * r 11 + 0) + 0) + 0) + 0) ((1 * ((1 * r 14 + 0) + 0) + 0) + 0) ((1 * ((1 * r 17 + 0) + 0) + 0) + 0)) ((1 * ((1 * r 11 + 0) + 0) + 0) + 0) ((1 * ((1 * r 10 + 0) + 0) + 0) + 0) (yq_fat ((1 * r 0 + 0) + 0) (g0 3) (g0 5) (g0 7) (g0 9)) (g0 5) ∧ (g 7) = yq_xc ((1 * r 0 + 0) + 0) ((1 * r 1 + 0) + 0) ((1 * r 2 + 0) + 0) ((1 * r 3 + 0) + 0) ((1 * r 4 + 0) + 0) 2 (yq_at ((1 * r 0 + 0) + 0) ((1 * ((1 * r 6 + 0) + 0) + 0) + 0) ((1 * ((1 * r 9 + 0) + 0) + 0) + 0) ((1 * ((1 * r 12 + 0) + 0) + 0) + 0) ((1 * ((1 * r 15 + 0) + 0) + 0) + 0)) ((1 * ((1 * r 12 + 0) + 0) + 0) + 0) (yq_at ((1 * r 0 + 0) + 0) ((1 * ((1 * r 8 + 0) + 0) + 0) + 0) ((1 * ((1 * r 11 + 0) + 0) + 0) + 0) ((1 * ((1 * r 14 + 0) + 0) + 0) + 0) ((1 * ((1 * r 17 + 0) + 0) + 0) + 0)) ((1 * ((1 * r 14 + 0) + 0) + 0) + 0) ((1 * ((1 * r 13 + 0) + 0) + 0) + 0) (yq_fat ((1 * r 0 + 0) + 0) (g0 3) (g0 5) (g0 7) (g0 9)) (g0 7) ∧ (g 9) = yq_xc ((1 * r 0 + 0) + 0) ((1 * r 1 + 0) + 0) ((1 * r 2 + 0) + 0) ((1 * r 3 + 0) + 0) ((1 * r 4 + 0) + 0) 3 (yq_at ((1 * r 0 + 0) + 0) ((1 * ((1 * r 6 + 0) + 0) + 0) + 0) ((1 * ((1 * r 9 + 0) + 0) + 0) + 0) ((1 * ((1 * r 12 + 0) + 0) + 0) + 0) ((1 * ((1 * r 15 + 0) + 0) + 0) + 0)) ((1 * ((1 * r 15 + 0) + 0) + 0) + 0) (yq_at ((1 * r 0 + 0) + 0) ((1 * ((1 * r 8 + 0) + 0) + 0) + 0) ((1 * ((1 * r 11 + 0) + 0) + 0) + 0) ((1 * ((1 * r 14 + 0) + 0) + 0) + 0) ((1 * ((1 * r 17 + 0) + 0) + 0) + 0)) ((1 * ((1 * r 17 + 0) + 0) + 0) + 0) ((1 * ((1 * r 16 + 0) + 0) + 0) + 0) (yq_fat ((1 * r 0 + 0) + 0) (g0 3) (g0 5) (g0 7) (g0 9)) (g0 9)
  try simp only [Int.one_mul, Int.zero_add, Int.add_zero]
  try simp only [Int.one_mul, Int.zero_add, Int.add_zero] at e0
  refine ⟨?_, ?_, ?_, ?_, ?_⟩
  · rw [show r 0 = 1 by omega]
    rw [show r 2 = 2 by omega]
    simp only [yq_at1, yq_at2]
    unfold yq_cr
    repeat' split
    all_goals omega
  · rw [show r 0 = 1 by omega]
    simp only [yq_at1, yq_fat1]
    unfold yq_xc
    rw [if_neg (by omega)]
    rw [k0 3 (by decide), hgi]
  · rw [show r 0 = 1 by omega]
    simp only [yq_at1, yq_fat1]
    unfold yq_xc
    rw [if_neg (by omega)]
    rw [k0 5 (by decide), hgi]
  · rw [show r 0 = 1 by omega]
    simp only [yq_at1, yq_fat1]
    unfold yq_xc
    rw [if_pos (by omega), e0, hgi]
  · rw [show r 0 = 1 by omega]
    simp only [yq_at1, yq_fat1]
    unfold yq_xc
    rw [if_neg (by omega)]
    rw [k0 9 (by decide), hgi]
theorem xw_40_0_45 : yt_hold xT_40 xk_40 xq_40.2.2.1 xG_40 xP_40 xU_40 18 xk_40.2.1.2.2.2 (fun g0 r g => xR_40 r g0 ∧ g = g0) (1000, ([(1, 1), ((-2147483648), 2147483647), (2, 2), ((-2147483648), 2147483647), (0, 2147483647), ((-2147483648), 2147483647), (0, 1), ((-2147483648), 2147483647), (0, 100), (1, 1), ((-2147483648), 2147483647), (0, 100), (0, 0), ((-2147483648), 2147483647), (0, 100), (0, 1), ((-2147483648), 2147483647), (0, 100), ((-2147483648), 0)], []), [([], (-2)), ([(18, 1)], 0)], [], []) := by
  intro g0 r gi g hok hh hars hfr hG
  have b0 : 1 ≤ r 0 ∧ r 0 ≤ 1 := hok.1 0 (1, 1) rfl
  have b1 : (-2147483648) ≤ r 1 ∧ r 1 ≤ 2147483647 := hok.1 1 ((-2147483648), 2147483647) rfl
  have b2 : 2 ≤ r 2 ∧ r 2 ≤ 2 := hok.1 2 (2, 2) rfl
  have b3 : (-2147483648) ≤ r 3 ∧ r 3 ≤ 2147483647 := hok.1 3 ((-2147483648), 2147483647) rfl
  have b4 : 0 ≤ r 4 ∧ r 4 ≤ 2147483647 := hok.1 4 (0, 2147483647) rfl
  have b5 : (-2147483648) ≤ r 5 ∧ r 5 ≤ 2147483647 := hok.1 5 ((-2147483648), 2147483647) rfl
  have b6 : 0 ≤ r 6 ∧ r 6 ≤ 1 := hok.1 6 (0, 1) rfl
  have b7 : (-2147483648) ≤ r 7 ∧ r 7 ≤ 2147483647 := hok.1 7 ((-2147483648), 2147483647) rfl
  have b8 : 0 ≤ r 8 ∧ r 8 ≤ 100 := hok.1 8 (0, 100) rfl
  have b9 : 1 ≤ r 9 ∧ r 9 ≤ 1 := hok.1 9 (1, 1) rfl
  have b10 : (-2147483648) ≤ r 10 ∧ r 10 ≤ 2147483647 := hok.1 10 ((-2147483648), 2147483647) rfl
  have b11 : 0 ≤ r 11 ∧ r 11 ≤ 100 := hok.1 11 (0, 100) rfl
  have b12 : 0 ≤ r 12 ∧ r 12 ≤ 0 := hok.1 12 (0, 0) rfl
  have b13 : (-2147483648) ≤ r 13 ∧ r 13 ≤ 2147483647 := hok.1 13 ((-2147483648), 2147483647) rfl
  have b14 : 0 ≤ r 14 ∧ r 14 ≤ 100 := hok.1 14 (0, 100) rfl
  have b15 : 0 ≤ r 15 ∧ r 15 ≤ 1 := hok.1 15 (0, 1) rfl
  have b16 : (-2147483648) ≤ r 16 ∧ r 16 ≤ 2147483647 := hok.1 16 ((-2147483648), 2147483647) rfl
  have b17 : 0 ≤ r 17 ∧ r 17 ≤ 100 := hok.1 17 (0, 100) rfl
  have b18 : (-2147483648) ≤ r 18 ∧ r 18 ≤ 0 := hok.1 18 ((-2147483648), 0) rfl
  obtain ⟨hG, hgi⟩ := hG
  have hG : True := hG
  have hh : g = gi := hh
  subst hh
  refine yt_dalt (by decide) (by decide) ?_
  rw [show xk_40.2.1.2.1.1.length = 18 from rfl]
  show ((0 : Int) + (-2)) = yq_cr ((1 * r 0 + 0) + 0) ((1 * r 1 + 0) + 0) ((1 * r 2 + 0) + 0) ((1 * r 3 + 0) + 0) ((1 * r 4 + 0) + 0) (yq_at ((1 * r 0 + 0) + 0) ((1 * ((1 * r 6 + 0) + 0) + 0) + 0) ((1 * ((1 * r 9 + 0) + 0) + 0) + 0) ((1 * ((1 * r 12 + 0) + 0) + 0) + 0) ((1 * ((1 * r 15 + 0) + 0) + 0) + 0)) (yq_at ((1 * r 2 + 0) + 0) ((1 * ((1 * r 6 + 0) + 0) + 0) + 0) ((1 * ((1 * r 9 + 0) + 0) + 0) + 0) ((1 * ((1 * r 12 + 0) + 0) + 0) + 0) ((1 * ((1 * r 15 + 0) + 0) + 0) + 0)) (yq_at ((1 * r 0 + 0) + 0) ((1 * ((1 * r 8 + 0) + 0) + 0) + 0) ((1 * ((1 * r 11 + 0) + 0) + 0) + 0) ((1 * ((1 * r 14 + 0) + 0) + 0) + 0) ((1 * ((1 * r 17 + 0) + 0) + 0) + 0)) (yq_at ((1 * r 2 + 0) + 0) ((1 * ((1 * r 8 + 0) + 0) + 0) + 0) ((1 * ((1 * r 11 + 0) + 0) + 0) + 0) ((1 * ((1 * r 14 + 0) + 0) + 0) + 0) ((1 * ((1 * r 17 + 0) + 0) + 0) + 0)) ∧ (g 3) = yq_xc ((1 * r 0 + 0) + 0) ((1 * r 1 + 0) + 0) ((1 * r 2 + 0) + 0) ((1 * r 3 + 0) + 0) ((1 * r 4 + 0) + 0) 0 (yq_at ((1 * r 0 + 0) + 0) ((1 * ((1 * r 6 + 0) + 0) + 0) + 0) ((1 * ((1 * r 9 + 0) + 0) + 0) + 0) ((1 * ((1 * r 12 + 0) + 0) + 0) + 0) ((1 * ((1 * r 15 + 0) + 0) + 0) + 0)) ((1 * ((1 * r 6 + 0) + 0) + 0) + 0) (yq_at ((1 * r 0 + 0) + 0) ((1 * ((1 * r 8 + 0) + 0) + 0) + 0) ((1 * ((1 * r 11 + 0) + 0) + 0) + 0) ((1 * ((1 * r 14 + 0) + 0) + 0) + 0) ((1 * ((1 * r 17 + 0) + 0) + 0) + 0)) ((1 * ((1 * r 8 + 0) + 0) + 0) + 0) ((1 * ((1 * r 7 + 0) + 0) + 0) + 0) (yq_fat ((1 * r 0 + 0) + 0) (g0 3) (g0 5) (g0 7) (g0 9)) (g0 3) ∧ (g 5) = yq_xc ((1 * r 0 + 0) + 0) ((1 * r 1 + 0) + 0) ((1 * r 2 + 0) + 0) ((1 * r 3 + 0) + 0) ((1 * r 4 + 0) + 0) 1 (yq_at ((1 * r 0 + 0) + 0) ((1 * ((1 * r 6 + 0) + 0) + 0) + 0) ((1 * ((1 * r 9 + 0) + 0) + 0) + 0) ((1 * ((1 * r 12 + 0) + 0) + 0) + 0) ((1 * ((1 * r 15 + 0) + 0) + 0) + 0)) ((1 * ((1 * r 9 + 0) + 0) + 0) + 0) (yq_at ((1 * r 0 + 0) + 0) ((1 * ((1 * r 8 + 0) + 0) + 0) + 0) ((1 * ((1 * r 11 + 0) + 0) + 0) + 0) ((1 * ((1 * r 14 + 0) + 0) + 0) + 0) ((1 * ((1 * r 17 + 0) + 0) + 0) + 0)) ((1 * ((1 * r 11 + 0) + 0) + 0) + 0) ((1 * ((1 * r 10 + 0) + 0) + 0) + 0) (yq_fat ((1 * r 0 + 0) + 0) (g0 3) (g0 5) (g0 7) (g0 9)) (g0 5) ∧ (g 7) = yq_xc ((1 * r 0 + 0) + 0) ((1 * r 1 + 0) + 0) ((1 * r 2 + 0) + 0) ((1 * r 3 + 0) + 0) ((1 * r 4 + 0) + 0) 2 (yq_at ((1 * r 0 + 0) + 0) ((1 * ((1 * r 6 + 0) + 0) + 0) + 0) ((1 * ((1 * r 9 + 0) + 0) + 0) + 0) ((1 * ((1 * r 12 + 0) + 0) + 0) + 0) ((1 * ((1 * r 15 + 0) + 0) + 0) + 0)) ((1 * ((1 * r 12 + 0) + 0) + 0) + 0) (yq_at ((1 * r 0 + 0) + 0) ((1 * ((1 * r 8 + 0) + 0) + 0) + 0) ((1 * ((1 * r 11 + 0) + 0) + 0) + 0) ((1 * ((1 * r 14 + 0) + 0) + 0) + 0) ((1 * ((1 * r 17 + 0) + 0) + 0) + 0)) ((1 * ((1 * r 14 + 0) + 0) + 0) + 0) ((1 * ((1 * r 13 + 0) + 0) + 0) + 0) (yq_fat ((1 * r 0 + 0) + 0) (g0 3) (g0 5) (g0 7) (g0 9)) (g0 7) ∧ (g 9) = yq_xc ((1 * r 0 + 0) + 0) ((1 * r 1 + 0) + 0) ((1 * r 2 + 0) + 0) ((1 * r 3 + 0) + 0) ((1 * r 4 + 0) + 0) 3 (yq_at ((1 * r 0 + 0) + 0) ((1 * ((1 * r 6 + 0) + 0) + 0) + 0) ((1 * ((1 * r 9 + 0) + 0) + 0) + 0) ((1 * ((1 * r 12 + 0) + 0) + 0) + 0) ((1 * ((1 * r 15 + 0) + 0) + 0) + 0)) ((1 * ((1 * r 15 + 0) + 0) + 0) + 0) (yq_at ((1 * r 0 + 0) + 0) ((1 * ((1 * r 8 + 0) + 0) + 0) + 0) ((1 * ((1 * r 11 + 0) + 0) + 0) + 0) ((1 * ((1 * r 14 + 0) + 0) + 0) + 0) ((1 * ((1 * r 17 + 0) + 0) + 0) + 0)) ((1 * ((1 * r 17 + 0) + 0) + 0) + 0) ((1 * ((1 * r 16 + 0) + 0) + 0) + 0) (yq_fat ((1 * r 0 + 0) + 0) (g0 3) (g0 5) (g0 7) (g0 9)) (g0 9)
  try simp only [Int.one_mul, Int.zero_add, Int.add_zero]
  refine ⟨?_, ?_, ?_, ?_, ?_⟩
  · rw [show r 0 = 1 by omega]
    rw [show r 2 = 2 by omega]
    simp only [yq_at1, yq_at2]
    unfold yq_cr
    repeat' split
    all_goals omega
  · rw [show r 0 = 1 by omega]
    simp only [yq_at1, yq_fat1]
    unfold yq_xc
    rw [if_neg (by omega)]
    rw [hgi]
  · rw [show r 0 = 1 by omega]
    simp only [yq_at1, yq_fat1]
    unfold yq_xc
    rw [if_neg (by omega)]
    rw [hgi]
  · rw [show r 0 = 1 by omega]
    simp only [yq_at1, yq_fat1]
    unfold yq_xc
    rw [if_neg (by omega)]
    rw [hgi]
  · rw [show r 0 = 1 by omega]
    simp only [yq_at1, yq_fat1]
    unfold yq_xc
    rw [if_neg (by omega)]
    rw [hgi]
theorem xw_40_0_46 : yt_hold xT_40 xk_40 xq_40.2.2.1 xG_40 xP_40 xU_40 18 xk_40.2.1.2.2.2 (fun g0 r g => xR_40 r g0 ∧ g = g0) (1000, ([(1, 1), ((-2147483648), (-1)), (3, 3), ((-2147483648), 2147483647), (0, 2147483647), ((-2147483648), 2147483647), (0, 1), ((-2147483648), 2147483647), (0, 100), (1, 1), ((-2147483648), 2147483647), (0, 100), (0, 1), ((-2147483648), 2147483647), (0, 100), (1, 1), ((-2147483648), 2147483647), (0, 100), ((-2147483648), 0)], []), [([], (-3)), ([(18, 1)], 0)], [], []) := by
  intro g0 r gi g hok hh hars hfr hG
  have b0 : 1 ≤ r 0 ∧ r 0 ≤ 1 := hok.1 0 (1, 1) rfl
  have b1 : (-2147483648) ≤ r 1 ∧ r 1 ≤ (-1) := hok.1 1 ((-2147483648), (-1)) rfl
  have b2 : 3 ≤ r 2 ∧ r 2 ≤ 3 := hok.1 2 (3, 3) rfl
  have b3 : (-2147483648) ≤ r 3 ∧ r 3 ≤ 2147483647 := hok.1 3 ((-2147483648), 2147483647) rfl
  have b4 : 0 ≤ r 4 ∧ r 4 ≤ 2147483647 := hok.1 4 (0, 2147483647) rfl
  have b5 : (-2147483648) ≤ r 5 ∧ r 5 ≤ 2147483647 := hok.1 5 ((-2147483648), 2147483647) rfl
  have b6 : 0 ≤ r 6 ∧ r 6 ≤ 1 := hok.1 6 (0, 1) rfl
  have b7 : (-2147483648) ≤ r 7 ∧ r 7 ≤ 2147483647 := hok.1 7 ((-2147483648), 2147483647) rfl
  have b8 : 0 ≤ r 8 ∧ r 8 ≤ 100 := hok.1 8 (0, 100) rfl
  have b9 : 1 ≤ r 9 ∧ r 9 ≤ 1 := hok.1 9 (1, 1) rfl
  have b10 : (-2147483648) ≤ r 10 ∧ r 10 ≤ 2147483647 := hok.1 10 ((-2147483648), 2147483647) rfl
  have b11 : 0 ≤ r 11 ∧ r 11 ≤ 100 := hok.1 11 (0, 100) rfl
  have b12 : 0 ≤ r 12 ∧ r 12 ≤ 1 := hok.1 12 (0, 1) rfl
  have b13 : (-2147483648) ≤ r 13 ∧ r 13 ≤ 2147483647 := hok.1 13 ((-2147483648), 2147483647) rfl
  have b14 : 0 ≤ r 14 ∧ r 14 ≤ 100 := hok.1 14 (0, 100) rfl
  have b15 : 1 ≤ r 15 ∧ r 15 ≤ 1 := hok.1 15 (1, 1) rfl
  have b16 : (-2147483648) ≤ r 16 ∧ r 16 ≤ 2147483647 := hok.1 16 ((-2147483648), 2147483647) rfl
  have b17 : 0 ≤ r 17 ∧ r 17 ≤ 100 := hok.1 17 (0, 100) rfl
  have b18 : (-2147483648) ≤ r 18 ∧ r 18 ≤ 0 := hok.1 18 ((-2147483648), 0) rfl
  obtain ⟨hG, hgi⟩ := hG
  have hG : True := hG
  have hh : g = gi := hh
  subst hh
  refine yt_dalt (by decide) (by decide) ?_
  rw [show xk_40.2.1.2.1.1.length = 18 from rfl]
  show ((0 : Int) + (-3)) = yq_cr ((1 * r 0 + 0) + 0) ((1 * r 1 + 0) + 0) ((1 * r 2 + 0) + 0) ((1 * r 3 + 0) + 0) ((1 * r 4 + 0) + 0) (yq_at ((1 * r 0 + 0) + 0) ((1 * ((1 * r 6 + 0) + 0) + 0) + 0) ((1 * ((1 * r 9 + 0) + 0) + 0) + 0) ((1 * ((1 * r 12 + 0) + 0) + 0) + 0) ((1 * ((1 * r 15 + 0) + 0) + 0) + 0)) (yq_at ((1 * r 2 + 0) + 0) ((1 * ((1 * r 6 + 0) + 0) + 0) + 0) ((1 * ((1 * r 9 + 0) + 0) + 0) + 0) ((1 * ((1 * r 12 + 0) + 0) + 0) + 0) ((1 * ((1 * r 15 + 0) + 0) + 0) + 0)) (yq_at ((1 * r 0 + 0) + 0) ((1 * ((1 * r 8 + 0) + 0) + 0) + 0) ((1 * ((1 * r 11 + 0) + 0) + 0) + 0) ((1 * ((1 * r 14 + 0) + 0) + 0) + 0) ((1 * ((1 * r 17 + 0) + 0) + 0) + 0)) (yq_at ((1 * r 2 + 0) + 0) ((1 * ((1 * r 8 + 0) + 0) + 0) + 0) ((1 * ((1 * r 11 + 0) + 0) + 0) + 0) ((1 * ((1 * r 14 + 0) + 0) + 0) + 0) ((1 * ((1 * r 17 + 0) + 0) + 0) + 0)) ∧ (g 3) = yq_xc ((1 * r 0 + 0) + 0) ((1 * r 1 + 0) + 0) ((1 * r 2 + 0) + 0) ((1 * r 3 + 0) + 0) ((1 * r 4 + 0) + 0) 0 (yq_at ((1 * r 0 + 0) + 0) ((1 * ((1 * r 6 + 0) + 0) + 0) + 0) ((1 * ((1 * r 9 + 0) + 0) + 0) + 0) ((1 * ((1 * r 12 + 0) + 0) + 0) + 0) ((1 * ((1 * r 15 + 0) + 0) + 0) + 0)) ((1 * ((1 * r 6 + 0) + 0) + 0) + 0) (yq_at ((1 * r 0 + 0) + 0) ((1 * ((1 * r 8 + 0) + 0) + 0) + 0) ((1 * ((1 * r 11 + 0) + 0) + 0) + 0) ((1 * ((1 * r 14 + 0) + 0) + 0) + 0) ((1 * ((1 * r 17 + 0) + 0) + 0) + 0)) ((1 * ((1 * r 8 + 0) + 0) + 0) + 0) ((1 * ((1 * r 7 + 0) + 0) + 0) + 0) (yq_fat ((1 * r 0 + 0) + 0) (g0 3) (g0 5) (g0 7) (g0 9)) (g0 3) ∧ (g 5) = yq_xc ((1 * r 0 + 0) + 0) ((1 * r 1 + 0) + 0) ((1 * r 2 + 0) + 0) ((1 * r 3 + 0) + 0) ((1 * r 4 + 0) + 0) 1 (yq_at ((1 * r 0 + 0) + 0) ((1 * ((1 * r 6 + 0) + 0) + 0) + 0) ((1 * ((1 * r 9 + 0) + 0) + 0) + 0) ((1 * ((1 * r 12 + 0) + 0) + 0) + 0) ((1 * ((1 * r 15 + 0) + 0) + 0) + 0)) ((1 * ((1 * r 9 + 0) + 0) + 0) + 0) (yq_at ((1 * r 0 + 0) + 0) ((1 * ((1 * r 8 + 0) + 0) + 0) + 0) ((1 * ((1 * r 11 + 0) + 0) + 0) + 0) ((1 * ((1 * r 14 + 0) + 0) + 0) + 0) ((1 * ((1 * r 17 + 0) + 0) + 0) + 0)) ((1 * ((1 * r 11 + 0) + 0) + 0) + 0) ((1 * ((1 * r 10 + 0) + 0) + 0) + 0) (yq_fat ((1 * r 0 + 0) + 0) (g0 3) (g0 5) (g0 7) (g0 9)) (g0 5) ∧ (g 7) = yq_xc ((1 * r 0 + 0) + 0) ((1 * r 1 + 0) + 0) ((1 * r 2 + 0) + 0) ((1 * r 3 + 0) + 0) ((1 * r 4 + 0) + 0) 2 (yq_at ((1 * r 0 + 0) + 0) ((1 * ((1 * r 6 + 0) + 0) + 0) + 0) ((1 * ((1 * r 9 + 0) + 0) + 0) + 0) ((1 * ((1 * r 12 + 0) + 0) + 0) + 0) ((1 * ((1 * r 15 + 0) + 0) + 0) + 0)) ((1 * ((1 * r 12 + 0) + 0) + 0) + 0) (yq_at ((1 * r 0 + 0) + 0) ((1 * ((1 * r 8 + 0) + 0) + 0) + 0) ((1 * ((1 * r 11 + 0) + 0) + 0) + 0) ((1 * ((1 * r 14 + 0) + 0) + 0) + 0) ((1 * ((1 * r 17 + 0) + 0) + 0) + 0)) ((1 * ((1 * r 14 + 0) + 0) + 0) + 0) ((1 * ((1 * r 13 + 0) + 0) + 0) + 0) (yq_fat ((1 * r 0 + 0) + 0) (g0 3) (g0 5) (g0 7) (g0 9)) (g0 7) ∧ (g 9) = yq_xc ((1 * r 0 + 0) + 0) ((1 * r 1 + 0) + 0) ((1 * r 2 + 0) + 0) ((1 * r 3 + 0) + 0) ((1 * r 4 + 0) + 0) 3 (yq_at ((1 * r 0 + 0) + 0) ((1 * ((1 * r 6 + 0) + 0) + 0) + 0) ((1 * ((1 * r 9 + 0) + 0) + 0) + 0) ((1 * ((1 * r 12 + 0) + 0) + 0) + 0) ((1 * ((1 * r 15 + 0) + 0) + 0) + 0)) ((1 * ((1 * r 15 + 0) + 0) + 0) + 0) (yq_at ((1 * r 0 + 0) + 0) ((1 * ((1 * r 8 + 0) + 0) + 0) + 0) ((1 * ((1 * r 11 + 0) + 0) + 0) + 0) ((1 * ((1 * r 14 + 0) + 0) + 0) + 0) ((1 * ((1 * r 17 + 0) + 0) + 0) + 0)) ((1 * ((1 * r 17 + 0) + 0) + 0) + 0) ((1 * ((1 * r 16 + 0) + 0) + 0) + 0) (yq_fat ((1 * r 0 + 0) + 0) (g0 3) (g0 5) (g0 7) (g0 9)) (g0 9)
  try simp only [Int.one_mul, Int.zero_add, Int.add_zero]
  refine ⟨?_, ?_, ?_, ?_, ?_⟩
  · rw [show r 0 = 1 by omega]
    rw [show r 2 = 3 by omega]
    simp only [yq_at1, yq_at3]
    unfold yq_cr
    repeat' split
    all_goals omega
  · rw [show r 0 = 1 by omega]
    simp only [yq_at1, yq_fat1]
    unfold yq_xc
    rw [if_neg (by omega)]
    rw [hgi]
  · rw [show r 0 = 1 by omega]
    simp only [yq_at1, yq_fat1]
    unfold yq_xc
    rw [if_neg (by omega)]
    rw [hgi]
  · rw [show r 0 = 1 by omega]
    simp only [yq_at1, yq_fat1]
    unfold yq_xc
    rw [if_neg (by omega)]
    rw [hgi]
  · rw [show r 0 = 1 by omega]
    simp only [yq_at1, yq_fat1]
    unfold yq_xc
    rw [if_neg (by omega)]
    rw [hgi]
theorem xw_40_0_47 : yt_hold xT_40 xk_40 xq_40.2.2.1 xG_40 xP_40 xU_40 18 xk_40.2.1.2.2.2 (fun g0 r g => xR_40 r g0 ∧ g = g0) (1000, ([(1, 1), (0, 2147483647), (3, 3), ((-2147483648), 2147483647), (0, 2147483647), ((-2147483648), 2147483647), (0, 1), ((-2147483648), 2147483647), (0, 100), (1, 1), ((-2147483648), 2147483647), (0, 100), (0, 1), ((-2147483648), 2147483647), (0, 100), (1, 1), ((-2147483648), 2147483647), (0, 100), ((-2147483648), 0)], [([(1, 1), (11, (-1)), (4, 1)], (-1))]), [([], (-3)), ([(18, 1)], 0)], [], []) := by
  intro g0 r gi g hok hh hars hfr hG
  have b0 : 1 ≤ r 0 ∧ r 0 ≤ 1 := hok.1 0 (1, 1) rfl
  have b1 : 0 ≤ r 1 ∧ r 1 ≤ 2147483647 := hok.1 1 (0, 2147483647) rfl
  have b2 : 3 ≤ r 2 ∧ r 2 ≤ 3 := hok.1 2 (3, 3) rfl
  have b3 : (-2147483648) ≤ r 3 ∧ r 3 ≤ 2147483647 := hok.1 3 ((-2147483648), 2147483647) rfl
  have b4 : 0 ≤ r 4 ∧ r 4 ≤ 2147483647 := hok.1 4 (0, 2147483647) rfl
  have b5 : (-2147483648) ≤ r 5 ∧ r 5 ≤ 2147483647 := hok.1 5 ((-2147483648), 2147483647) rfl
  have b6 : 0 ≤ r 6 ∧ r 6 ≤ 1 := hok.1 6 (0, 1) rfl
  have b7 : (-2147483648) ≤ r 7 ∧ r 7 ≤ 2147483647 := hok.1 7 ((-2147483648), 2147483647) rfl
  have b8 : 0 ≤ r 8 ∧ r 8 ≤ 100 := hok.1 8 (0, 100) rfl
  have b9 : 1 ≤ r 9 ∧ r 9 ≤ 1 := hok.1 9 (1, 1) rfl
  have b10 : (-2147483648) ≤ r 10 ∧ r 10 ≤ 2147483647 := hok.1 10 ((-2147483648), 2147483647) rfl
  have b11 : 0 ≤ r 11 ∧ r 11 ≤ 100 := hok.1 11 (0, 100) rfl
  have b12 : 0 ≤ r 12 ∧ r 12 ≤ 1 := hok.1 12 (0, 1) rfl
  have b13 : (-2147483648) ≤ r 13 ∧ r 13 ≤ 2147483647 := hok.1 13 ((-2147483648), 2147483647) rfl
  have b14 : 0 ≤ r 14 ∧ r 14 ≤ 100 := hok.1 14 (0, 100) rfl
  have b15 : 1 ≤ r 15 ∧ r 15 ≤ 1 := hok.1 15 (1, 1) rfl
  have b16 : (-2147483648) ≤ r 16 ∧ r 16 ≤ 2147483647 := hok.1 16 ((-2147483648), 2147483647) rfl
  have b17 : 0 ≤ r 17 ∧ r 17 ≤ 100 := hok.1 17 (0, 100) rfl
  have b18 : (-2147483648) ≤ r 18 ∧ r 18 ≤ 0 := hok.1 18 ((-2147483648), 0) rfl
  have f0 : 0 ≤ ((1 * r 1 + ((-1) * r 11 + (1 * r 4 + 0))) + (-1)) := hok.2 _ (List.mem_of_getElem? (i := 0) rfl)
  obtain ⟨hG, hgi⟩ := hG
  have hG : True := hG
  have hh : g = gi := hh
  subst hh
  refine yt_dalt (by decide) (by decide) ?_
  rw [show xk_40.2.1.2.1.1.length = 18 from rfl]
  show ((0 : Int) + (-3)) = yq_cr ((1 * r 0 + 0) + 0) ((1 * r 1 + 0) + 0) ((1 * r 2 + 0) + 0) ((1 * r 3 + 0) + 0) ((1 * r 4 + 0) + 0) (yq_at ((1 * r 0 + 0) + 0) ((1 * ((1 * r 6 + 0) + 0) + 0) + 0) ((1 * ((1 * r 9 + 0) + 0) + 0) + 0) ((1 * ((1 * r 12 + 0) + 0) + 0) + 0) ((1 * ((1 * r 15 + 0) + 0) + 0) + 0)) (yq_at ((1 * r 2 + 0) + 0) ((1 * ((1 * r 6 + 0) + 0) + 0) + 0) ((1 * ((1 * r 9 + 0) + 0) + 0) + 0) ((1 * ((1 * r 12 + 0) + 0) + 0) + 0) ((1 * ((1 * r 15 + 0) + 0) + 0) + 0)) (yq_at ((1 * r 0 + 0) + 0) ((1 * ((1 * r 8 + 0) + 0) + 0) + 0) ((1 * ((1 * r 11 + 0) + 0) + 0) + 0) ((1 * ((1 * r 14 + 0) + 0) + 0) + 0) ((1 * ((1 * r 17 + 0) + 0) + 0) + 0)) (yq_at ((1 * r 2 + 0) + 0) ((1 * ((1 * r 8 + 0) + 0) + 0) + 0) ((1 * ((1 * r 11 + 0) + 0) + 0) + 0) ((1 * ((1 * r 14 + 0) + 0) + 0) + 0) ((1 * ((1 * r 17 + 0) + 0) + 0) + 0)) ∧ (g 3) = yq_xc ((1 * r 0 + 0) + 0) ((1 * r 1 + 0) + 0) ((1 * r 2 + 0) + 0) ((1 * r 3 + 0) + 0) ((1 * r 4 + 0) + 0) 0 (yq_at ((1 * r 0 + 0) + 0) ((1 * ((1 * r 6 + 0) + 0) + 0) + 0) ((1 * ((1 * r 9 + 0) + 0) + 0) + 0) ((1 * ((1 * r 12 + 0) + 0) + 0) + 0) ((1 * ((1 * r 15 + 0) + 0) + 0) + 0)) ((1 * ((1 * r 6 + 0) + 0) + 0) + 0) (yq_at ((1 * r 0 + 0) + 0) ((1 * ((1 * r 8 + 0) + 0) + 0) + 0) ((1 * ((1 * r 11 + 0) + 0) + 0) + 0) ((1 * ((1 * r 14 + 0) + 0) + 0) + 0) ((1 * ((1 * r 17 + 0) + 0) + 0) + 0)) ((1 * ((1 * r 8 + 0) + 0) + 0) + 0) ((1 * ((1 * r 7 + 0) + 0) + 0) + 0) (yq_fat ((1 * r 0 + 0) + 0) (g0 3) (g0 5) (g0 7) (g0 9)) (g0 3) ∧ (g 5) = yq_xc ((1 * r 0 + 0) + 0) ((1 * r 1 + 0) + 0) ((1 * r 2 + 0) + 0) ((1 * r 3 + 0) + 0) ((1 * r 4 + 0) + 0) 1 (yq_at ((1 * r 0 + 0) + 0) ((1 * ((1 * r 6 + 0) + 0) + 0) + 0) ((1 * ((1 * r 9 + 0) + 0) + 0) + 0) ((1 * ((1 * r 12 + 0) + 0) + 0) + 0) ((1 * ((1 * r 15 + 0) + 0) + 0) + 0)) ((1 * ((1 * r 9 + 0) + 0) + 0) + 0) (yq_at ((1 * r 0 + 0) + 0) ((1 * ((1 * r 8 + 0) + 0) + 0) + 0) ((1 * ((1 * r 11 + 0) + 0) + 0) + 0) ((1 * ((1 * r 14 + 0) + 0) + 0) + 0) ((1 * ((1 * r 17 + 0) + 0) + 0) + 0)) ((1 * ((1 * r 11 + 0) + 0) + 0) + 0) ((1 * ((1 * r 10 + 0) + 0) + 0) + 0) (yq_fat ((1 * r 0 + 0) + 0) (g0 3) (g0 5) (g0 7) (g0 9)) (g0 5) ∧ (g 7) = yq_xc ((1 * r 0 + 0) + 0) ((1 * r 1 + 0) + 0) ((1 * r 2 + 0) + 0) ((1 * r 3 + 0) + 0) ((1 * r 4 + 0) + 0) 2 (yq_at ((1 * r 0 + 0) + 0) ((1 * ((1 * r 6 + 0) + 0) + 0) + 0) ((1 * ((1 * r 9 + 0) + 0) + 0) + 0) ((1 * ((1 * r 12 + 0) + 0) + 0) + 0) ((1 * ((1 * r 15 + 0) + 0) + 0) + 0)) ((1 * ((1 * r 12 + 0) + 0) + 0) + 0) (yq_at ((1 * r 0 + 0) + 0) ((1 * ((1 * r 8 + 0) + 0) + 0) + 0) ((1 * ((1 * r 11 + 0) + 0) + 0) + 0) ((1 * ((1 * r 14 + 0) + 0) + 0) + 0) ((1 * ((1 * r 17 + 0) + 0) + 0) + 0)) ((1 * ((1 * r 14 + 0) + 0) + 0) + 0) ((1 * ((1 * r 13 + 0) + 0) + 0) + 0) (yq_fat ((1 * r 0 + 0) + 0) (g0 3) (g0 5) (g0 7) (g0 9)) (g0 7) ∧ (g 9) = yq_xc ((1 * r 0 + 0) + 0) ((1 * r 1 + 0) + 0) ((1 * r 2 + 0) + 0) ((1 * r 3 + 0) + 0) ((1 * r 4 + 0) + 0) 3 (yq_at ((1 * r 0 + 0) + 0) ((1 * ((1 * r 6 + 0) + 0) + 0) + 0) ((1 * ((1 * r 9 + 0) + 0) + 0) + 0) ((1 * ((1 * r 12 + 0) + 0) + 0) + 0) ((1 * ((1 * r 15 + 0) + 0) + 0) + 0)) ((1 * ((1 * r 15 + 0) + 0) + 0) + 0) (yq_at ((1 * r 0 + 0) + 0) ((1 * ((1 * r 8 + 0) + 0) + 0) + 0) ((1 * ((1 * r 11 + 0) + 0) + 0) + 0) ((1 * ((1 * r 14 + 0) + 0) + 0) + 0) ((1 * ((1 * r 17 + 0) + 0) + 0) + 0)) ((1 * ((1 * r 17 + 0) + 0) + 0) + 0) ((1 * ((1 * r 16 + 0) + 0) + 0) + 0) (yq_fat ((1 * r 0 + 0) + 0) (g0 3) (g0 5) (g0 7) (g0 9)) (g0 9)
  try simp only [Int.one_mul, Int.zero_add, Int.add_zero]
  refine ⟨?_, ?_, ?_, ?_, ?_⟩
  · rw [show r 0 = 1 by omega]
    rw [show r 2 = 3 by omega]
    simp only [yq_at1, yq_at3]
    unfold yq_cr
    repeat' split
    all_goals omega
  · rw [show r 0 = 1 by omega]
    simp only [yq_at1, yq_fat1]
    unfold yq_xc
    rw [if_neg (by omega)]
    rw [hgi]
  · rw [show r 0 = 1 by omega]
    simp only [yq_at1, yq_fat1]
    unfold yq_xc
    rw [if_neg (by omega)]
    rw [hgi]
  · rw [show r 0 = 1 by omega]
    simp only [yq_at1, yq_fat1]
    unfold yq_xc
    rw [if_neg (by omega)]
    rw [hgi]
  · rw [show r 0 = 1 by omega]
    simp only [yq_at1, yq_fat1]
    unfold yq_xc
    rw [if_neg (by omega)]
    rw [hgi]
theorem xw_40_0_48 : yt_hold xT_40 xk_40 xq_40.2.2.1 xG_40 xP_40 xU_40 18 xk_40.2.1.2.2.2 (fun g0 r g => xR_40 r g0 ∧ g = g0) (1000, ([(1, 1), (0, 100), (3, 3), ((-2147483648), (-1)), (0, 100), ((-2147483648), 2147483647), (0, 1), ((-2147483648), 2147483647), (0, 100), (1, 1), ((-2147483648), 2147483647), (0, 100), (0, 1), ((-2147483648), 2147483647), (0, 100), (1, 1), ((-2147483648), 2147483647), (0, 100), ((-2147483648), 0)], [([(1, (-1)), (11, 1), (4, (-1))], 0)]), [([], (-3)), ([(18, 1)], 0)], [], []) := by
  intro g0 r gi g hok hh hars hfr hG
  have b0 : 1 ≤ r 0 ∧ r 0 ≤ 1 := hok.1 0 (1, 1) rfl
  have b1 : 0 ≤ r 1 ∧ r 1 ≤ 100 := hok.1 1 (0, 100) rfl
  have b2 : 3 ≤ r 2 ∧ r 2 ≤ 3 := hok.1 2 (3, 3) rfl
  have b3 : (-2147483648) ≤ r 3 ∧ r 3 ≤ (-1) := hok.1 3 ((-2147483648), (-1)) rfl
  have b4 : 0 ≤ r 4 ∧ r 4 ≤ 100 := hok.1 4 (0, 100) rfl
  have b5 : (-2147483648) ≤ r 5 ∧ r 5 ≤ 2147483647 := hok.1 5 ((-2147483648), 2147483647) rfl
  have b6 : 0 ≤ r 6 ∧ r 6 ≤ 1 := hok.1 6 (0, 1) rfl
  have b7 : (-2147483648) ≤ r 7 ∧ r 7 ≤ 2147483647 := hok.1 7 ((-2147483648), 2147483647) rfl
  have b8 : 0 ≤ r 8 ∧ r 8 ≤ 100 := hok.1 8 (0, 100) rfl
  have b9 : 1 ≤ r 9 ∧ r 9 ≤ 1 := hok.1 9 (1, 1) rfl
  have b10 : (-2147483648) ≤ r 10 ∧ r 10 ≤ 2147483647 := hok.1 10 ((-2147483648), 2147483647) rfl
  have b11 : 0 ≤ r 11 ∧ r 11 ≤ 100 := hok.1 11 (0, 100) rfl
  have b12 : 0 ≤ r 12 ∧ r 12 ≤ 1 := hok.1 12 (0, 1) rfl
  have b13 : (-2147483648) ≤ r 13 ∧ r 13 ≤ 2147483647 := hok.1 13 ((-2147483648), 2147483647) rfl
  have b14 : 0 ≤ r 14 ∧ r 14 ≤ 100 := hok.1 14 (0, 100) rfl
  have b15 : 1 ≤ r 15 ∧ r 15 ≤ 1 := hok.1 15 (1, 1) rfl
  have b16 : (-2147483648) ≤ r 16 ∧ r 16 ≤ 2147483647 := hok.1 16 ((-2147483648), 2147483647) rfl
  have b17 : 0 ≤ r 17 ∧ r 17 ≤ 100 := hok.1 17 (0, 100) rfl
  have b18 : (-2147483648) ≤ r 18 ∧ r 18 ≤ 0 := hok.1 18 ((-2147483648), 0) rfl
  have f0 : 0 ≤ (((-1) * r 1 + (1 * r 11 + ((-1) * r 4 + 0))) + 0) := hok.2 _ (List.mem_of_getElem? (i := 0) rfl)
  obtain ⟨hG, hgi⟩ := hG
  have hG : True := hG
  have hh : g = gi := hh
  subst hh
  refine yt_dalt (by decide) (by decide) ?_
  rw [show xk_40.2.1.2.1.1.length = 18 from rfl]
  show ((0 : Int) + (-3)) = yq_cr ((1 * r 0 + 0) + 0) ((1 * r 1 + 0) + 0) ((1 * r 2 + 0) + 0) ((1 * r 3 + 0) + 0) ((1 * r 4 + 0) + 0) (yq_at ((1 * r 0 + 0) + 0) ((1 * ((1 * r 6 + 0) + 0) + 0) + 0) ((1 * ((1 * r 9 + 0) + 0) + 0) + 0) ((1 * ((1 * r 12 + 0) + 0) + 0) + 0) ((1 * ((1 * r 15 + 0) + 0) + 0) + 0)) (yq_at ((1 * r 2 + 0) + 0) ((1 * ((1 * r 6 + 0) + 0) + 0) + 0) ((1 * ((1 * r 9 + 0) + 0) + 0) + 0) ((1 * ((1 * r 12 + 0) + 0) + 0) + 0) ((1 * ((1 * r 15 + 0) + 0) + 0) + 0)) (yq_at ((1 * r 0 + 0) + 0) ((1 * ((1 * r 8 + 0) + 0) + 0) + 0) ((1 * ((1 * r 11 + 0) + 0) + 0) + 0) ((1 * ((1 * r 14 + 0) + 0) + 0) + 0) ((1 * ((1 * r 17 + 0) + 0) + 0) + 0)) (yq_at ((1 * r 2 + 0) + 0) ((1 * ((1 * r 8 + 0) + 0) + 0) + 0) ((1 * ((1 * r 11 + 0) + 0) + 0) + 0) ((1 * ((1 * r 14 + 0) + 0) + 0) + 0) ((1 * ((1 * r 17 + 0) + 0) + 0) + 0)) ∧ (g 3) = yq_xc ((1 * r 0 + 0) + 0) ((1 * r 1 + 0) + 0) ((1 * r 2 + 0) + 0) ((1 * r 3 + 0) + 0) ((1 * r 4 + 0) + 0) 0 (yq_at ((1 * r 0 + 0) + 0) ((1 * ((1 * r 6 + 0) + 0) + 0) + 0) ((1 * ((1 * r 9 + 0) + 0) + 0) + 0) ((1 * ((1 * r 12 + 0) + 0) + 0) + 0) ((1 * ((1 * r 15 + 0) + 0) + 0) + 0)) ((1 * ((1 * r 6 + 0) + 0) + 0) + 0) (yq_at ((1 * r 0 + 0) + 0) ((1 * ((1 * r 8 + 0) + 0) + 0) + 0) ((1 * ((1 * r 11 + 0) + 0) + 0) + 0) ((1 * ((1 * r 14 + 0) + 0) + 0) + 0) ((1 * ((1 * r 17 + 0) + 0) + 0) + 0)) ((1 * ((1 * r 8 + 0) + 0) + 0) + 0) ((1 * ((1 * r 7 + 0) + 0) + 0) + 0) (yq_fat ((1 * r 0 + 0) + 0) (g0 3) (g0 5) (g0 7) (g0 9)) (g0 3) ∧ (g 5) = yq_xc ((1 * r 0 + 0) + 0) ((1 * r 1 + 0) + 0) ((1 * r 2 + 0) + 0) ((1 * r 3 + 0) + 0) ((1 * r 4 + 0) + 0) 1 (yq_at ((1 * r 0 + 0) + 0) ((1 * ((1 * r 6 + 0) + 0) + 0) + 0) ((1 * ((1 * r 9 + 0) + 0) + 0) + 0) ((1 * ((1 * r 12 + 0) + 0) + 0) + 0) ((1 * ((1 * r 15 + 0) + 0) + 0) + 0)) ((1 * ((1 * r 9 + 0) + 0) + 0) + 0) (yq_at ((1 * r 0 + 0) + 0) ((1 * ((1 * r 8 + 0) + 0) + 0) + 0) ((1 * ((1 * r 11 + 0) + 0) + 0) + 0) ((1 * ((1 * r 14 + 0) + 0) + 0) + 0) ((1 * ((1 * r 17 + 0) + 0) + 0) + 0)) ((1 * ((1 * r 11 + 0) + 0) + 0) + 0) ((1 * ((1 * r 10 + 0) + 0) + 0) + 0) (yq_fat ((1 * r 0 + 0) + 0) (g0 3) (g0 5) (g0 7) (g0 9)) (g0 5) ∧ (g 7) = yq_xc ((1 * r 0 + 0) + 0) ((1 * r 1 + 0) + 0) ((1 * r 2 + 0) + 0) ((1 * r 3 + 0) + 0) ((1 * r 4 + 0) + 0) 2 (yq_at ((1 * r 0 + 0) + 0) ((1 * ((1 * r 6 + 0) + 0) + 0) + 0) ((1 * ((1 * r 9 + 0) + 0) + 0) + 0) ((1 * ((1 * r 12 + 0) + 0) + 0) + 0) ((1 * ((1 * r 15 + 0) + 0) + 0) + 0)) ((1 * ((1 * r 12 + 0) + 0) + 0) + 0) (yq_at ((1 * r 0 + 0) + 0) ((1 * ((1 * r 8 + 0) + 0) + 0) + 0) ((1 * ((1 * r 11 + 0) + 0) + 0) + 0) ((1 * ((1 * r 14 + 0) + 0) + 0) + 0) ((1 * ((1 * r 17 + 0) + 0) + 0) + 0)) ((1 * ((1 * r 14 + 0) + 0) + 0) + 0) ((1 * ((1 * r 13 + 0) + 0) + 0) + 0) (yq_fat ((1 * r 0 + 0) + 0) (g0 3) (g0 5) (g0 7) (g0 9)) (g0 7) ∧ (g 9) = yq_xc ((1 * r 0 + 0) + 0) ((1 * r 1 + 0) + 0) ((1 * r 2 + 0) + 0) ((1 * r 3 + 0) + 0) ((1 * r 4 + 0) + 0) 3 (yq_at ((1 * r 0 + 0) + 0) ((1 * ((1 * r 6 + 0) + 0) + 0) + 0) ((1 * ((1 * r 9 + 0) + 0) + 0) + 0) ((1 * ((1 * r 12 + 0) + 0) + 0) + 0) ((1 * ((1 * r 15 + 0) + 0) + 0) + 0)) ((1 * ((1 * r 15 + 0) + 0) + 0) + 0) (yq_at ((1 * r 0 + 0) + 0) ((1 * ((1 * r 8 + 0) + 0) + 0) + 0) ((1 * ((1 * r 11 + 0) + 0) + 0) + 0) ((1 * ((1 * r 14 + 0) + 0) + 0) + 0) ((1 * ((1 * r 17 + 0) + 0) + 0) + 0)) ((1 * ((1 * r 17 + 0) + 0) + 0) + 0) ((1 * ((1 * r 16 + 0) + 0) + 0) + 0) (yq_fat ((1 * r 0 + 0) + 0) (g0 3) (g0 5) (g0 7) (g0 9)) (g0 9)
  try simp only [Int.one_mul, Int.zero_add, Int.add_zero]
  refine ⟨?_, ?_, ?_, ?_, ?_⟩
  · rw [show r 0 = 1 by omega]
    rw [show r 2 = 3 by omega]
    simp only [yq_at1, yq_at3]
    unfold yq_cr
    repeat' split
    all_goals omega
  · rw [show r 0 = 1 by omega]
    simp only [yq_at1, yq_fat1]
    unfold yq_xc
    rw [if_neg (by omega)]
    rw [hgi]
  · rw [show r 0 = 1 by omega]
    simp only [yq_at1, yq_fat1]
    unfold yq_xc
    rw [if_neg (by omega)]
    rw [hgi]
  · rw [show r 0 = 1 by omega]
    simp only [yq_at1, yq_fat1]
    unfold yq_xc
    rw [if_neg (by omega)]
    rw [hgi]
  · rw [show r 0 = 1 by omega]
    simp only [yq_at1, yq_fat1]
    unfold yq_xc
    rw [if_neg (by omega)]
    rw [hgi]
theorem xw_40_0_49 : yt_hold xT_40 xk_40 xq_40.2.2.1 xG_40 xP_40 xU_40 18 xk_40.2.1.2.2.2 (fun g0 r g => xR_40 r g0 ∧ g = g0) (1000, ([(1, 1), (0, 100), (3, 3), (0, 2147483647), (0, 100), ((-2147483648), 2147483647), (0, 1), ((-2147483648), 2147483647), (0, 100), (1, 1), ((-2147483648), 2147483647), (0, 100), (0, 1), ((-2147483648), 2147483647), (0, 100), (1, 1), ((-2147483648), 2147483647), (0, 100), ((-2147483648), 0)], [([(3, 1), (17, (-1)), (4, 1)], (-1)), ([(1, (-1)), (11, 1), (4, (-1))], 0)]), [([], (-3)), ([(18, 1)], 0)], [], []) := by
  intro g0 r gi g hok hh hars hfr hG
  have b0 : 1 ≤ r 0 ∧ r 0 ≤ 1 := hok.1 0 (1, 1) rfl
  have b1 : 0 ≤ r 1 ∧ r 1 ≤ 100 := hok.1 1 (0, 100) rfl
  have b2 : 3 ≤ r 2 ∧ r 2 ≤ 3 := hok.1 2 (3, 3) rfl
  have b3 : 0 ≤ r 3 ∧ r 3 ≤ 2147483647 := hok.1 3 (0, 2147483647) rfl
  have b4 : 0 ≤ r 4 ∧ r 4 ≤ 100 := hok.1 4 (0, 100) rfl
  have b5 : (-2147483648) ≤ r 5 ∧ r 5 ≤ 2147483647 := hok.1 5 ((-2147483648), 2147483647) rfl
  have b6 : 0 ≤ r 6 ∧ r 6 ≤ 1 := hok.1 6 (0, 1) rfl
  have b7 : (-2147483648) ≤ r 7 ∧ r 7 ≤ 2147483647 := hok.1 7 ((-2147483648), 2147483647) rfl
  have b8 : 0 ≤ r 8 ∧ r 8 ≤ 100 := hok.1 8 (0, 100) rfl
  have b9 : 1 ≤ r 9 ∧ r 9 ≤ 1 := hok.1 9 (1, 1) rfl
  have b10 : (-2147483648) ≤ r 10 ∧ r 10 ≤ 2147483647 := hok.1 10 ((-2147483648), 2147483647) rfl
  have b11 : 0 ≤ r 11 ∧ r 11 ≤ 100 := hok.1 11 (0, 100) rfl
  have b12 : 0 ≤ r 12 ∧ r 12 ≤ 1 := hok.1 12 (0, 1) rfl
  have b13 : (-2147483648) ≤ r 13 ∧ r 13 ≤ 2147483647 := hok.1 13 ((-2147483648), 2147483647) rfl
  have b14 : 0 ≤ r 14 ∧ r 14 ≤ 100 := hok.1 14 (0, 100) rfl
  have b15 : 1 ≤ r 15 ∧ r 15 ≤ 1 := hok.1 15 (1, 1) rfl
  have b16 : (-2147483648) ≤ r 16 ∧ r 16 ≤ 2147483647 := hok.1 16 ((-2147483648), 2147483647) rfl
  have b17 : 0 ≤ r 17 ∧ r 17 ≤ 100 := hok.1 17 (0, 100) rfl
  have b18 : (-2147483648) ≤ r 18 ∧ r 18 ≤ 0 := hok.1 18 ((-2147483648), 0) rfl
  have f0 : 0 ≤ ((1 * r 3 + ((-1) * r 17 + (1 * r 4 + 0))) + (-1)) := hok.2 _ (List.mem_of_getElem? (i := 0) rfl)
  have f1 : 0 ≤ (((-1) * r 1 + (1 * r 11 + ((-1) * r 4 + 0))) + 0) := hok.2 _ (List.mem_of_getElem? (i := 1) rfl)
  obtain ⟨hG, hgi⟩ := hG
  have hG : True := hG
  have hh : g = gi := hh
  subst hh
  refine yt_dalt (by decide) (by decide) ?_
  rw [show xk_40.2.1.2.1.1.length = 18 from rfl]
  show ((0 : Int) + (-3)) = yq_cr ((1 * r 0 + 0) + 0) ((1 * r 1 + 0) + 0) ((1 * r 2 + 0) + 0) ((1 * r 3 + 0) + 0) ((1 * r 4 + 0) + 0) (yq_at ((1 * r 0 + 0) + 0) ((1 * ((1 * r 6 + 0) + 0) + 0) + 0) ((1 * ((1 * r 9 + 0) + 0) + 0) + 0) ((1 * ((1 * r 12 + 0) + 0) + 0) + 0) ((1 * ((1 * r 15 + 0) + 0) + 0) + 0)) (yq_at ((1 * r 2 + 0) + 0) ((1 * ((1 * r 6 + 0) + 0) + 0) + 0) ((1 * ((1 * r 9 + 0) + 0) + 0) + 0) ((1 * ((1 * r 12 + 0) + 0) + 0) + 0) ((1 * ((1 * r 15 + 0) + 0) + 0) + 0)) (yq_at ((1 * r 0 + 0) + 0) ((1 * ((1 * r 8 + 0) + 0) + 0) + 0) ((1 * ((1 * r 11 + 0) + 0) + 0) + 0) ((1 * ((1 * r 14 + 0) + 0) + 0) + 0) ((1 * ((1 * r 17 + 0) + 0) + 0) + 0)) (yq_at ((1 * r 2 + 0) + 0) ((1 * ((1 * r 8 + 0) + 0) + 0) + 0) ((1 * ((1 * r 11 + 0) + 0) + 0) + 0) ((1 * ((1 * r 14 + 0) + 0) + 0) + 0) ((1 * ((1 * r 17 + 0) + 0) + 0) + 0)) ∧ (g 3) = yq_xc ((1 * r 0 + 0) + 0) ((1 * r 1 + 0) + 0) ((1 * r 2 + 0) + 0) ((1 * r 3 + 0) + 0) ((1 * r 4 + 0) + 0) 0 (yq_at ((1 * r 0 + 0) + 0) ((1 * ((1 * r 6 + 0) + 0) + 0) + 0) ((1 * ((1 * r 9 + 0) + 0) + 0) + 0) ((1 * ((1 * r 12 + 0) + 0) + 0) + 0) ((1 * ((1 * r 15 + 0) + 0) + 0) + 0)) ((1 * ((1 * r 6 + 0) + 0) + 0) + 0) (yq_at ((1 * r 0 + 0) + 0) ((1 * ((1 * r 8 + 0) + 0) + 0) + 0) ((1 * ((1 * r 11 + 0) + 0) + 0) + 0) ((1 * ((1 * r 14 + 0) + 0) + 0) + 0) ((1 * ((1 * r 17 + 0) + 0) + 0) + 0)) ((1 * ((1 * r 8 + 0) + 0) + 0) + 0) ((1 * ((1 * r 7 + 0) + 0) + 0) + 0) (yq_fat ((1 * r 0 + 0) + 0) (g0 3) (g0 5) (g0 7) (g0 9)) (g0 3) ∧ (g 5) = yq_xc ((1 * r 0 + 0) + 0) ((1 * r 1 + 0) + 0) ((1 * r 2 + 0) + 0) ((1 * r 3 + 0) + 0) ((1 * r 4 + 0) + 0) 1 (yq_at ((1 * r 0 + 0) + 0) ((1 * ((1 * r 6 + 0) + 0) + 0) + 0) ((1 * ((1 * r 9 + 0) + 0) + 0) + 0) ((1 * ((1 * r 12 + 0) + 0) + 0) + 0) ((1 * ((1 * r 15 + 0) + 0) + 0) + 0)) ((1 * ((1 * r 9 + 0) + 0) + 0) + 0) (yq_at ((1 * r 0 + 0) + 0) ((1 * ((1 * r 8 + 0) + 0) + 0) + 0) ((1 * ((1 * r 11 + 0) + 0) + 0) + 0) ((1 * ((1 * r 14 + 0) + 0) + 0) + 0) ((1 * ((1 * r 17 + 0) + 0) + 0) + 0)) ((1 * ((1 * r 11 + 0) + 0) + 0) + 0) ((1 * ((1 * r 10 + 0) + 0) + 0) + 0) (yq_fat ((1 * r 0 + 0) + 0) (g0 3) (g0 5) (g0 7) (g0 9)) (g0 5) ∧ (g 7) = yq_xc ((1 * r 0 + 0) + 0) ((1 * r 1 + 0) + 0) ((1 * r 2 + 0) + 0) ((1 * r 3 + 0) + 0) ((1 * r 4 + 0) + 0) 2 (yq_at ((1 * r 0 + 0) + 0) ((1 * ((1 * r 6 + 0) + 0) + 0) + 0) ((1 * ((1 * r 9 + 0) + 0) + 0) + 0) ((1 * ((1 * r 12 + 0) + 0) + 0) + 0) ((1 * ((1 * r 15 + 0) + 0) + 0) + 0)) ((1 * ((1 * r 12 + 0) + 0) + 0) + 0) (yq_at ((1 * r 0 + 0) + 0) ((1 * ((1 * r 8 + 0) + 0) + 0) + 0) ((1 * ((1 * r 11 + 0) + 0) + 0) + 0) ((1 * ((1 * r 14 + 0) + 0) + 0) + 0) ((1 * ((1 * r 17 + 0) + 0) + 0) + 0)) ((1 * ((1 * r 14 + 0) + 0) + 0) + 0) ((1 * ((1 * r 13 + 0) + 0) + 0) + 0) (yq_fat ((1 * r 0 + 0) + 0) (g0 3) (g0 5) (g0 7) (g0 9)) (g0 7) ∧ (g 9) = yq_xc ((1 * r 0 + 0) + 0) ((1 * r 1 + 0) + 0) ((1 * r 2 + 0) + 0) ((1 * r 3 + 0) + 0) ((1 * r 4 + 0) + 0) 3 (yq_at ((1 * r 0 + 0) + 0) ((1 * ((1 * r 6 + 0) + 0) + 0) + 0) ((1 * ((1 * r 9 + 0) + 0) + 0) + 0) ((1 * ((1 * r 12 + 0) + 0) + 0) + 0) ((1 * ((1 * r 15 + 0) + 0) + 0) + 0)) ((1 * ((1 * r 15 + 0) + 0) + 0) + 0) (yq_at ((1 * r 0 + 0) + 0) ((1 * ((1 * r 8 + 0) + 0) + 0) + 0) ((1 * ((1 * r 11 + 0) + 0) + 0) + 0) ((1 * ((1 * r 14 + 0) + 0) + 0) + 0) ((1 * ((1 * r 17 + 0) + 0) + 0) + 0)) ((1 * ((1 * r 17 + 0) + 0) + 0) + 0) ((1 * ((1 * r 16 + 0) + 0) + 0) + 0) (yq_fat ((1 * r 0 + 0) + 0) (g0 3) (g0 5) (g0 7) (g0 9)) (g0 9)
  try simp only [Int.one_mul, Int.zero_add, Int.add_zero]
  refine ⟨?_, ?_, ?_, ?_, ?_⟩
  · rw [show r 0 = 1 by omega]
    rw [show r 2 = 3 by omega]
    simp only [yq_at1, yq_at3]
    unfold yq_cr
    repeat' split
    all_goals omega
  · rw [show r 0 = 1 by omega]
    simp only [yq_at1, yq_fat1]
    unfold yq_xc
    rw [if_neg (by omega)]
    rw [hgi]
  · rw [show r 0 = 1 by omega]
    simp only [yq_at1, yq_fat1]
    unfold yq_xc
    rw [if_neg (by omega)]
    rw [hgi]
  · rw [show r 0 = 1 by omega]
    simp only [yq_at1, yq_fat1]
    unfold yq_xc
    rw [if_neg (by omega)]
    rw [hgi]
  · rw [show r 0 = 1 by omega]
    simp only [yq_at1, yq_fat1]
    unfold yq_xc
    rw [if_neg (by omega)]
    rw [hgi]
theorem xw_40_0_50 : yt_hold xT_40 xk_40 xq_40.2.2.1 xG_40 xP_40 xU_40 18 xk_40.2.1.2.2.2 (fun g0 r g => xR_40 r g0 ∧ g = g0) (1000, ([(1, 1), (0, 100), (3, 3), (0, 100), (0, 100), ((-2147483648), 2147483647), (0, 1), ((-2147483648), 2147483647), (0, 100), (1, 1), ((-2147483648), 2147483647), (0, 100), (0, 1), ((-2147483648), 2147483647), (0, 100), (1, 1), ((-2147483648), 2147483647), (0, 100), ((-2147483648), 0)], [([(4, (-1)), (3, (-1))], 101), ([(3, (-1)), (17, 1), (4, (-1))], 0), ([(1, (-1)), (11, 1), (4, (-1))], 0)]), [([(4, 1)], 0), ([(18, 1)], 0)], [], [.inr (.inr (.inl (98, 0, [([(3, 1)], 0), ([(1, 1)], 0), ([(4, 1)], 0), ([(15, 1)], 0), ([(16, 1)], 0), ([(17, 1)], 0), ([(9, 1)], 0), ([(10, 1)], 0), ([(11, 1)], 0)], [8, 9, 4, 5], [9])))]) := by
  intro g0 r gi g hok hh hars hfr hG
  have b0 : 1 ≤ r 0 ∧ r 0 ≤ 1 := hok.1 0 (1, 1) rfl
  have b1 : 0 ≤ r 1 ∧ r 1 ≤ 100 := hok.1 1 (0, 100) rfl
  have b2 : 3 ≤ r 2 ∧ r 2 ≤ 3 := hok.1 2 (3, 3) rfl
  have b3 : 0 ≤ r 3 ∧ r 3 ≤ 100 := hok.1 3 (0, 100) rfl
  have b4 : 0 ≤ r 4 ∧ r 4 ≤ 100 := hok.1 4 (0, 100) rfl
  have b5 : (-2147483648) ≤ r 5 ∧ r 5 ≤ 2147483647 := hok.1 5 ((-2147483648), 2147483647) rfl
  have b6 : 0 ≤ r 6 ∧ r 6 ≤ 1 := hok.1 6 (0, 1) rfl
  have b7 : (-2147483648) ≤ r 7 ∧ r 7 ≤ 2147483647 := hok.1 7 ((-2147483648), 2147483647) rfl
  have b8 : 0 ≤ r 8 ∧ r 8 ≤ 100 := hok.1 8 (0, 100) rfl
  have b9 : 1 ≤ r 9 ∧ r 9 ≤ 1 := hok.1 9 (1, 1) rfl
  have b10 : (-2147483648) ≤ r 10 ∧ r 10 ≤ 2147483647 := hok.1 10 ((-2147483648), 2147483647) rfl
  have b11 : 0 ≤ r 11 ∧ r 11 ≤ 100 := hok.1 11 (0, 100) rfl
  have b12 : 0 ≤ r 12 ∧ r 12 ≤ 1 := hok.1 12 (0, 1) rfl
  have b13 : (-2147483648) ≤ r 13 ∧ r 13 ≤ 2147483647 := hok.1 13 ((-2147483648), 2147483647) rfl
  have b14 : 0 ≤ r 14 ∧ r 14 ≤ 100 := hok.1 14 (0, 100) rfl
  have b15 : 1 ≤ r 15 ∧ r 15 ≤ 1 := hok.1 15 (1, 1) rfl
  have b16 : (-2147483648) ≤ r 16 ∧ r 16 ≤ 2147483647 := hok.1 16 ((-2147483648), 2147483647) rfl
  have b17 : 0 ≤ r 17 ∧ r 17 ≤ 100 := hok.1 17 (0, 100) rfl
  have b18 : (-2147483648) ≤ r 18 ∧ r 18 ≤ 0 := hok.1 18 ((-2147483648), 0) rfl
  have f0 : 0 ≤ (((-1) * r 4 + ((-1) * r 3 + 0)) + 101) := hok.2 _ (List.mem_of_getElem? (i := 0) rfl)
  have f1 : 0 ≤ (((-1) * r 3 + (1 * r 17 + ((-1) * r 4 + 0))) + 0) := hok.2 _ (List.mem_of_getElem? (i := 1) rfl)
  have f2 : 0 ≤ (((-1) * r 1 + (1 * r 11 + ((-1) * r 4 + 0))) + 0) := hok.2 _ (List.mem_of_getElem? (i := 2) rfl)
  obtain ⟨hG, hgi⟩ := hG
  have hG : True := hG
  obtain ⟨h0, hh, e0, k0⟩ := hh
  have k0 : ∀ j, j ∉ [9] → g j = h0 j := k0
  have e0 : (g 9) = yq_pa ((1 * r 3 + 0) + 0) ((1 * r 1 + 0) + 0) ((1 * r 4 + 0) + 0) ((1 * r 16 + 0) + 0) (h0 5) (h0 9) := e0
  have hh : h0 = gi := hh
  subst hh
  refine yt_dalt (by decide) (by decide) ?_
  rw [show xk_40.2.1.2.1.1.length = 18 from rfl]
  show ((1 * r 4 + 0) + 0) = yq_cr ((1 * r 0 + 0) + 0) ((1 * r 1 + 0) + 0) ((1 * r 2 + 0) + 0) ((1 * r 3 + 0) + 0) ((1 * r 4 + 0) + 0) (yq_at ((1 * r 0 + 0) + 0) ((1 * ((1 * r 6 + 0) + 0) + 0) + 0) ((1 * ((1 * r 9 + 0) + 0) + 0) + 0) ((1 * ((1 * r 12 + 0) + 0) + 0) + 0) ((1 * ((1 * r 15 + 0) + 0) + 0) + 0)) (yq_at ((1 * r 2 + 0) + 0) ((1 * ((1 * r 6 + 0) + 0) + 0) + 0) ((1 * ((1 * r 9 + 0) + 0) + 0) + 0) ((1 * ((1 * r 12 + 0) + 0) + 0) + 0) ((1 * ((1 * r 15 + 0) + 0) + 0) + 0)) (yq_at ((1 * r 0 + 0) + 0) ((1 * ((1 * r 8 + 0) + 0) + 0) + 0) ((1 * ((1 * r 11 + 0) + 0) + 0) + 0) ((1 * ((1 * r 14 + 0) + 0) + 0) + 0) ((1 * ((1 * r 17 + 0) + 0) + 0) + 0)) (yq_at ((1 * r 2 + 0) + 0) ((1 * ((1 * r 8 + 0) + 0) + 0) + 0) ((1 * ((1 * r 11 + 0) + 0) + 0) + 0) ((1 * ((1 * r 14 + 0) + 0) + 0) + 0) ((1 * ((1 * r 17 + 0) + 0) + 0) + 0)) ∧ (g 3) = yq_xc ((1 * r 0 + 0) + 0) ((1 * r 1 + 0) + 0) ((1 * r 2 + 0) + 0) ((1 * r 3 + 0) + 0) ((1 * r 4 + 0) + 0) 0 (yq_at ((1 * r 0 + 0) + 0) ((1 * ((1 * r 6 + 0) + 0) + 0) + 0) ((1 * ((1 * r 9 + 0) + 0) + 0) + 0) ((1 * ((1 * r 12 + 0) + 0) + 0) + 0) ((1 * ((1 * r 15 + 0) + 0) + 0) + 0)) ((1 * ((1 * r 6 + 0) + 0) + 0) + 0) (yq_at ((1 * r 0 + 0) + 0) ((1 * ((1 * r 8 + 0) + 0) + 0) + 0) ((1 * ((1 * r 11 + 0) + 0) + 0) + 0) ((1 * ((1 * r 14 + 0) + 0) + 0) + 0) ((1 * ((1 * r 17 + 0) + 0) + 0) + 0)) ((1 * ((1 * r 8 + 0) + 0) + 0) + 0) ((1 * ((1 * r 7 + 0) + 0) + 0) + 0) (yq_fat ((1 * r 0 + 0) + 0) (g0 3) (g0 5) (g0 7) (g0 9)) (g0 3) ∧ (g 5) = yq_xc ((1 * r 0 + 0) + 0) ((1 * r 1 + 0) + 0) ((1 * r 2 + 0) + 0) ((1 * r 3 + 0) + 0) ((1 * r 4 + 0) + 0) 1 (yq_at ((1 * r 0 + 0) + 0) ((1 * ((1 * r 6 + 0) + 0) + 0) + 0) ((1 * ((1 * r 9 + 0) + 0) + 0) + 0) ((1 * ((1 * r 12 + 0) + 0) + 0) + 0) ((1 * ((1 * r 15 + 0) + 0) + 0) + 0)) ((1 * ((1 * r 9 + 0) + 0) + 0) + 0) (yq_at ((1 * r 0 + 0) + 0) ((1 * ((1 * r 8 + 0) + 0) + 0) + 0) ((1 * ((1 * r 11 + 0) + 0) + 0) + 0) ((1 * ((1 * r 14 + 0) + 0) + 0) + 0) ((1 * ((1 * r 17 + 0) + 0) + 0) + 0)) ((1 * ((1 * r 11 + 0) + 0) + 0) + 0) ((1 * ((1 * r 10 + 0) + 0) + 0) + 0) (yq_fat ((1 * r 0 + 0) + 0) (g0 3) (g0 5) (g0 7) (g0 9)) (g0 5) ∧ (g 7) = yq_xc ((1 * r 0 + 0) + 0) ((1 * r 1 + 0) + 0) ((1 * r 2 + 0) + 0) ((1 * r 3 + 0) + 0) ((1 * r 4 + 0) + 0) 2 (yq_at ((1 * r 0 + 0) + 0) ((1 * ((1 * r 6 + 0) + 0) + 0) + 0) ((1 * ((1 * r 9 + 0) + 0) + 0) + 0) ((1 * ((1 * r 12 + 0) + 0) + 0) + 0) ((1 * ((1 * r 15 + 0) + 0) + 0) + 0)) ((1 * ((1 * r 12 + 0) + 0) + 0) + 0) (yq_at ((1 * r 0 + 0) + 0) ((1 * ((1 * r 8 + 0) + 0) + 0) + 0) ((1 * ((1 * r 11 + 0) + 0) + 0) + 0) ((1 * ((1 * r 14 + 0) + 0) + 0) + 0) ((1 * ((1 * r 17 + 0) + 0) + 0) + 0)) ((1 * ((1 * r 14 + 0) + 0) + 0) + 0) ((1 * ((1 * r 13 + 0) + 0) + 0) + 0) (yq_fat ((1 * r 0 + 0) + 0) (g0 3) (g0 5) (g0 7) (g0 9)) (g0 7) ∧ (g 9) = yq_xc ((1 * r 0 + 0) + 0) ((1 * r 1 + 0) + 0) ((1 * r 2 + 0) + 0) ((1 * r 3 + 0) + 0) ((1 * r 4 + 0) + 0) 3 (yq_at ((1 * r 0 + 0) + 0) ((1 * ((1 * r 6 + 0) + 0) + 0) + 0) ((1 * ((1 * r 9 + 0) + 0) + 0) + 0) ((1 * ((1 * r 12 + 0) + 0) + 0) + 0) ((1 * ((1 * r 15 + 0) + 0) + 0) + 0)) ((1 * ((1 * r 15 + 0) + 0) + 0) + 0) (yq_at ((1 * r 0 + 0) + 0) ((1 * ((1 * r 8 + 0) + 0) + 0) + 0) ((1 * ((1 * r 11 + 0) + 0) + 0) + 0) ((1 * ((1 * r 14 + 0) + 0) + 0) + 0) ((1 * ((1 * r 17 + 0) + 0) + 0) + 0)) ((1 * ((1 * r 17 + 0) + 0) + 0) + 0) ((1 * ((1 * r 16 + 0) + 0) + 0) + 0) (yq_fat ((1 * r 0 + 0) + 0) (g0 3) (g0 5) (g0 7) (g0 9)) (g0 9)
  try simp only [Int.one_mul, Int.zero_add, Int.add_zero]
  try simp only [Int.one_mul, Int.zero_add, Int.add_zero] at e0
  refine ⟨?_, ?_, ?_, ?_, ?_⟩
  · rw [show r 0 = 1 by omega]
    rw [show r 2 = 3 by omega]
    simp only [yq_at1, yq_at3]
    unfold yq_cr
    repeat' split
    all_goals omega
  · rw [show r 0 = 1 by omega]
    simp only [yq_at1, yq_fat1]
    unfold yq_xc
    rw [if_neg (by omega)]
    rw [k0 3 (by decide), hgi]
  · rw [show r 0 = 1 by omega]
    simp only [yq_at1, yq_fat1]
    unfold yq_xc
    rw [if_neg (by omega)]
    rw [k0 5 (by decide), hgi]
  · rw [show r 0 = 1 by omega]
    simp only [yq_at1, yq_fat1]
    unfold yq_xc
    rw [if_neg (by omega)]
    rw [k0 7 (by decide), hgi]
  · rw [show r 0 = 1 by omega]
    simp only [yq_at1, yq_fat1]
    unfold yq_xc
    rw [if_pos (by omega), e0, hgi]
theorem xw_40_0_51 : yt_hold xT_40 xk_40 xq_40.2.2.1 xG_40 xP_40 xU_40 18 xk_40.2.1.2.2.2 (fun g0 r g => xR_40 r g0 ∧ g = g0) (1000, ([(1, 1), ((-2147483648), 2147483647), (3, 3), ((-2147483648), 2147483647), (0, 2147483647), ((-2147483648), 2147483647), (0, 1), ((-2147483648), 2147483647), (0, 100), (1, 1), ((-2147483648), 2147483647), (0, 100), (0, 1), ((-2147483648), 2147483647), (0, 100), (0, 0), ((-2147483648), 2147483647), (0, 100), ((-2147483648), 0)], []), [([], (-2)), ([(18, 1)], 0)], [], []) := by
  intro g0 r gi g hok hh hars hfr hG
  have b0 : 1 ≤ r 0 ∧ r 0 ≤ 1 := hok.1 0 (1, 1) rfl
  have b1 : (-2147483648) ≤ r 1 ∧ r 1 ≤ 2147483647 := hok.1 1 ((-2147483648), 2147483647) rfl
  have b2 : 3 ≤ r 2 ∧ r 2 ≤ 3 := hok.1 2 (3, 3) rfl
  have b3 : (-2147483648) ≤ r 3 ∧ r 3 ≤ 2147483647 := hok.1 3 ((-2147483648), 2147483647) rfl
  have b4 : 0 ≤ r 4 ∧ r 4 ≤ 2147483647 := hok.1 4 (0, 2147483647) rfl
  have b5 : (-2147483648) ≤ r 5 ∧ r 5 ≤ 2147483647 := hok.1 5 ((-2147483648), 2147483647) rfl
  have b6 : 0 ≤ r 6 ∧ r 6 ≤ 1 := hok.1 6 (0, 1) rfl
  have b7 : (-2147483648) ≤ r 7 ∧ r 7 ≤ 2147483647 := hok.1 7 ((-2147483648), 2147483647) rfl
  have b8 : 0 ≤ r 8 ∧ r 8 ≤ 100 := hok.1 8 (0, 100) rfl
  have b9 : 1 ≤ r 9 ∧ r 9 ≤ 1 := hok.1 9 (1, 1) rfl
  have b10 : (-2147483648) ≤ r 10 ∧ r 10 ≤ 2147483647 := hok.1 10 ((-2147483648), 2147483647) rfl
  have b11 : 0 ≤ r 11 ∧ r 11 ≤ 100 := hok.1 11 (0, 100) rfl
  have b12 : 0 ≤ r 12 ∧ r 12 ≤ 1 := hok.1 12 (0, 1) rfl
  have b13 : (-2147483648) ≤ r 13 ∧ r 13 ≤ 2147483647 := hok.1 13 ((-2147483648), 2147483647) rfl
  have b14 : 0 ≤ r 14 ∧ r 14 ≤ 100 := hok.1 14 (0, 100) rfl
  have b15 : 0 ≤ r 15 ∧ r 15 ≤ 0 := hok.1 15 (0, 0) rfl
  have b16 : (-2147483648) ≤ r 16 ∧ r 16 ≤ 2147483647 := hok.1 16 ((-2147483648), 2147483647) rfl
  have b17 : 0 ≤ r 17 ∧ r 17 ≤ 100 := hok.1 17 (0, 100) rfl
  have b18 : (-2147483648) ≤ r 18 ∧ r 18 ≤ 0 := hok.1 18 ((-2147483648), 0) rfl
  obtain ⟨hG, hgi⟩ := hG
  have hG : True := hG
  have hh : g = gi := hh
  subst hh
  refine yt_dalt (by decide) (by decide) ?_
  rw [show xk_40.2.1.2.1.1.length = 18 from rfl]
  show ((0 : Int) + (-2)) = yq_cr ((1 * r 0 + 0) + 0) ((1 * r 1 + 0) + 0) ((1 * r 2 + 0) + 0) ((1 * r 3 + 0) + 0) ((1 * r 4 + 0) + 0) (yq_at ((1 * r 0 + 0) + 0) ((1 * ((1 * r 6 + 0) + 0) + 0) + 0) ((1 * ((1 * r 9 + 0) + 0) + 0) + 0) ((1 * ((1 * r 12 + 0) + 0) + 0) + 0) ((1 * ((1 * r 15 + 0) + 0) + 0) + 0)) (yq_at ((1 * r 2 + 0) + 0) ((1 * ((1 * r 6 + 0) + 0) + 0) + 0) ((1 * ((1 * r 9 + 0) + 0) + 0) + 0) ((1 * ((1 * r 12 + 0) + 0) + 0) + 0) ((1 * ((1 * r 15 + 0) + 0) + 0) + 0)) (yq_at ((1 * r 0 + 0) + 0) ((1 * ((1 * r 8 + 0) + 0) + 0) + 0) ((1 * ((1 * r 11 + 0) + 0) + 0) + 0) ((1 * ((1 * r 14 + 0) + 0) + 0) + 0) ((1 * ((1 * r 17 + 0) + 0) + 0) + 0)) (yq_at ((1 * r 2 + 0) + 0) ((1 * ((1 * r 8 + 0) + 0) + 0) + 0) ((1 * ((1 * r 11 + 0) + 0) + 0) + 0) ((1 * ((1 * r 14 + 0) + 0) + 0) + 0) ((1 * ((1 * r 17 + 0) + 0) + 0) + 0)) ∧ (g 3) = yq_xc ((1 * r 0 + 0) + 0) ((1 * r 1 + 0) + 0) ((1 * r 2 + 0) + 0) ((1 * r 3 + 0) + 0) ((1 * r 4 + 0) + 0) 0 (yq_at ((1 * r 0 + 0) + 0) ((1 * ((1 * r 6 + 0) + 0) + 0) + 0) ((1 * ((1 * r 9 + 0) + 0) + 0) + 0) ((1 * ((1 * r 12 + 0) + 0) + 0) + 0) ((1 * ((1 * r 15 + 0) + 0) + 0) + 0)) ((1 * ((1 * r 6 + 0) + 0) + 0) + 0) (yq_at ((1 * r 0 + 0) + 0) ((1 * ((1 * r 8 + 0) + 0) + 0) + 0) ((1 * ((1 * r 11 + 0) + 0) + 0) + 0) ((1 * ((1 * r 14 + 0) + 0) + 0) + 0) ((1 * ((1 * r 17 + 0) + 0) + 0) + 0)) ((1 * ((1 * r 8 + 0) + 0) + 0) + 0) ((1 * ((1 * r 7 + 0) + 0) + 0) + 0) (yq_fat ((1 * r 0 + 0) + 0) (g0 3) (g0 5) (g0 7) (g0 9)) (g0 3) ∧ (g 5) = yq_xc ((1 * r 0 + 0) + 0) ((1 * r 1 + 0) + 0) ((1 * r 2 + 0) + 0) ((1 * r 3 + 0) + 0) ((1 * r 4 + 0) + 0) 1 (yq_at ((1 * r 0 + 0) + 0) ((1 * ((1 * r 6 + 0) + 0) + 0) + 0) ((1 * ((1 * r 9 + 0) + 0) + 0) + 0) ((1 * ((1 * r 12 + 0) + 0) + 0) + 0) ((1 * ((1 * r 15 + 0) + 0) + 0) + 0)) ((1 * ((1 * r 9 + 0) + 0) + 0) + 0) (yq_at ((1 * r 0 + 0) + 0) ((1 * ((1 * r 8 + 0) + 0) + 0) + 0) ((1 * ((1 * r 11 + 0) + 0) + 0) + 0) ((1 * ((1 * r 14 + 0) + 0) + 0) + 0) ((1 * ((1 * r 17 + 0) + 0) + 0) + 0)) ((1 * ((1 * r 11 + 0) + 0) + 0) + 0) ((1 * ((1 * r 10 + 0) + 0) + 0) + 0) (yq_fat ((1 * r 0 + 0) + 0) (g0 3) (g0 5) (g0 7) (g0 9)) (g0 5) ∧ (g 7) = yq_xc ((1 * r 0 + 0) + 0) ((1 * r 1 + 0) + 0) ((1 * r 2 + 0) + 0) ((1 * r 3 + 0) + 0) ((1 * r 4 + 0) + 0) 2 (yq_at ((1 * r 0 + 0) + 0) ((1 * ((1 * r 6 + 0) + 0) + 0) + 0) ((1 * ((1 * r 9 + 0) + 0) + 0) + 0) ((1 * ((1 * r 12 + 0) + 0) + 0) + 0) ((1 * ((1 * r 15 + 0) + 0) + 0) + 0)) ((1 * ((1 * r 12 + 0) + 0) + 0) + 0) (yq_at ((1 * r 0 + 0) + 0) ((1 * ((1 * r 8 + 0) + 0) + 0) + 0) ((1 * ((1 * r 11 + 0) + 0) + 0) + 0) ((1 * ((1 * r 14 + 0) + 0) + 0) + 0) ((1 * ((1 * r 17 + 0) + 0) + 0) + 0)) ((1 * ((1 * r 14 + 0) + 0) + 0) + 0) ((1 * ((1 * r 13 + 0) + 0) + 0) + 0) (yq_fat ((1 * r 0 + 0) + 0) (g0 3) (g0 5) (g0 7) (g0 9)) (g0 7) ∧ (g 9) = yq_xc ((1 * r 0 + 0) + 0) ((1 * r 1 + 0) + 0) ((1 * r 2 + 0) + 0) ((1 * r 3 + 0) + 0) ((1 * r 4 + 0) + 0) 3 (yq_at ((1 * r 0 + 0) + 0) ((1 * ((1 * r 6 + 0) + 0) + 0) + 0) ((1 * ((1 * r 9 + 0) + 0) + 0) + 0) ((1 * ((1 * r 12 + 0) + 0) + 0) + 0) ((1 * ((1 * r 15 + 0) + 0) + 0) + 0)) ((1 * ((1 * r 15 + 0) + 0) + 0) + 0) (yq_at ((1 * r 0 + 0) + 0) ((1 * ((1 * r 8 + 0) + 0) + 0) + 0) ((1 * ((1 * r 11 + 0) + 0) + 0) + 0) ((1 * ((1 * r 14 + 0) + 0) + 0) + 0) ((1 * ((1 * r 17 + 0) + 0) + 0) + 0)) ((1 * ((1 * r 17 + 0) + 0) + 0) + 0) ((1 * ((1 * r 16 + 0) + 0) + 0) + 0) (yq_fat ((1 * r 0 + 0) + 0) (g0 3) (g0 5) (g0 7) (g0 9)) (g0 9)
  try simp only [Int.one_mul, Int.zero_add, Int.add_zero]
  refine ⟨?_, ?_, ?_, ?_, ?_⟩
  · rw [show r 0 = 1 by omega]
    rw [show r 2 = 3 by omega]
    simp only [yq_at1, yq_at3]
    unfold yq_cr
    repeat' split
    all_goals omega
  · rw [show r 0 = 1 by omega]
    simp only [yq_at1, yq_fat1]
    unfold yq_xc
    rw [if_neg (by omega)]
    rw [hgi]
  · rw [show r 0 = 1 by omega]
    simp only [yq_at1, yq_fat1]
    unfold yq_xc
    rw [if_neg (by omega)]
    rw [hgi]
  · rw [show r 0 = 1 by omega]
    simp only [yq_at1, yq_fat1]
    unfold yq_xc
    rw [if_neg (by omega)]
    rw [hgi]
  · rw [show r 0 = 1 by omega]
    simp only [yq_at1, yq_fat1]
    unfold yq_xc
    rw [if_neg (by omega)]
    rw [hgi]
theorem xw_40_0_52 : yt_hold xT_40 xk_40 xq_40.2.2.1 xG_40 xP_40 xU_40 18 xk_40.2.1.2.2.2 (fun g0 r g => xR_40 r g0 ∧ g = g0) (1000, ([(2, 2), ((-2147483648), 2147483647), (0, 3), ((-2147483648), 2147483647), (0, 2147483647), ((-2147483648), 2147483647), (0, 1), ((-2147483648), 2147483647), (0, 100), (0, 1), ((-2147483648), 2147483647), (0, 100), (0, 0), ((-2147483648), 2147483647), (0, 100), (0, 1), ((-2147483648), 2147483647), (0, 100), ((-2147483648), 0)], []), [([], (-2)), ([(18, 1)], 0)], [], []) := by
  intro g0 r gi g hok hh hars hfr hG
  have b0 : 2 ≤ r 0 ∧ r 0 ≤ 2 := hok.1 0 (2, 2) rfl
  have b1 : (-2147483648) ≤ r 1 ∧ r 1 ≤ 2147483647 := hok.1 1 ((-2147483648), 2147483647) rfl
  have b2 : 0 ≤ r 2 ∧ r 2 ≤ 3 := hok.1 2 (0, 3) rfl
  have b3 : (-2147483648) ≤ r 3 ∧ r 3 ≤ 2147483647 := hok.1 3 ((-2147483648), 2147483647) rfl
  have b4 : 0 ≤ r 4 ∧ r 4 ≤ 2147483647 := hok.1 4 (0, 2147483647) rfl
  have b5 : (-2147483648) ≤ r 5 ∧ r 5 ≤ 2147483647 := hok.1 5 ((-2147483648), 2147483647) rfl
  have b6 : 0 ≤ r 6 ∧ r 6 ≤ 1 := hok.1 6 (0, 1) rfl
  have b7 : (-2147483648) ≤ r 7 ∧ r 7 ≤ 2147483647 := hok.1 7 ((-2147483648), 2147483647) rfl
  have b8 : 0 ≤ r 8 ∧ r 8 ≤ 100 := hok.1 8 (0, 100) rfl
  have b9 : 0 ≤ r 9 ∧ r 9 ≤ 1 := hok.1 9 (0, 1) rfl
  have b10 : (-2147483648) ≤ r 10 ∧ r 10 ≤ 2147483647 := hok.1 10 ((-2147483648), 2147483647) rfl
  have b11 : 0 ≤ r 11 ∧ r 11 ≤ 100 := hok.1 11 (0, 100) rfl
  have b12 : 0 ≤ r 12 ∧ r 12 ≤ 0 := hok.1 12 (0, 0) rfl
  have b13 : (-2147483648) ≤ r 13 ∧ r 13 ≤ 2147483647 := hok.1 13 ((-2147483648), 2147483647) rfl
  have b14 : 0 ≤ r 14 ∧ r 14 ≤ 100 := hok.1 14 (0, 100) rfl
  have b15 : 0 ≤ r 15 ∧ r 15 ≤ 1 := hok.1 15 (0, 1) rfl
  have b16 : (-2147483648) ≤ r 16 ∧ r 16 ≤ 2147483647 := hok.1 16 ((-2147483648), 2147483647) rfl
  have b17 : 0 ≤ r 17 ∧ r 17 ≤ 100 := hok.1 17 (0, 100) rfl
  have b18 : (-2147483648) ≤ r 18 ∧ r 18 ≤ 0 := hok.1 18 ((-2147483648), 0) rfl
  obtain ⟨hG, hgi⟩ := hG
  have hG : True := hG
  have hh : g = gi := hh
  subst hh
  refine yt_dalt (by decide) (by decide) ?_
  rw [show xk_40.2.1.2.1.1.length = 18 from rfl]
  show ((0 : Int) + (-2)) = yq_cr ((1 * r 0 + 0) + 0) ((1 * r 1 + 0) + 0) ((1 * r 2 + 0) + 0) ((1 * r 3 + 0) + 0) ((1 * r 4 + 0) + 0) (yq_at ((1 * r 0 + 0) + 0) ((1 * ((1 * r 6 + 0) + 0) + 0) + 0) ((1 * ((1 * r 9 + 0) + 0) + 0) + 0) ((1 * ((1 * r 12 + 0) + 0) + 0) + 0) ((1 * ((1 * r 15 + 0) + 0) + 0) + 0)) (yq_at ((1 * r 2 + 0) + 0) ((1 * ((1 * r 6 + 0) + 0) + 0) + 0) ((1 * ((1 * r 9 + 0) + 0) + 0) + 0) ((1 * ((1 * r 12 + 0) + 0) + 0) + 0) ((1 * ((1 * r 15 + 0) + 0) + 0) + 0)) (yq_at ((1 * r 0 + 0) + 0) ((1 * ((1 * r 8 + 0) + 0) + 0) + 0) ((1 * ((1 * r 11 + 0) + 0) + 0) + 0) ((1 * ((1 * r 14 + 0) + 0) + 0) + 0) ((1 * ((1 * r 17 + 0) + 0) + 0) + 0)) (yq_at ((1 * r 2 + 0) + 0) ((1 * ((1 * r 8 + 0) + 0) + 0) + 0) ((1 * ((1 * r 11 + 0) + 0) + 0) + 0) ((1 * ((1 * r 14 + 0) + 0) + 0) + 0) ((1 * ((1 * r 17 + 0) + 0) + 0) + 0)) ∧ (g 3) = yq_xc ((1 * r 0 + 0) + 0) ((1 * r 1 + 0) + 0) ((1 * r 2 + 0) + 0) ((1 * r 3 + 0) + 0) ((1 * r 4 + 0) + 0) 0 (yq_at ((1 * r 0 + 0) + 0) ((1 * ((1 * r 6 + 0) + 0) + 0) + 0) ((1 * ((1 * r 9 + 0) + 0) + 0) + 0) ((1 * ((1 * r 12 + 0) + 0) + 0) + 0) ((1 * ((1 * r 15 + 0) + 0) + 0) + 0)) ((1 * ((1 * r 6 + 0) + 0) + 0) + 0) (yq_at ((1 * r 0 + 0) + 0) ((1 * ((1 * r 8 + 0) + 0) + 0) + 0) ((1 * ((1 * r 11 + 0) + 0) + 0) + 0) ((1 * ((1 * r 14 + 0) + 0) + 0) + 0) ((1 * ((1 * r 17 + 0) + 0) + 0) + 0)) ((1 * ((1 * r 8 + 0) + 0) + 0) + 0) ((1 * ((1 * r 7 + 0) + 0) + 0) + 0) (yq_fat ((1 * r 0 + 0) + 0) (g0 3) (g0 5) (g0 7) (g0 9)) (g0 3) ∧ (g 5) = yq_xc ((1 * r 0 + 0) + 0) ((1 * r 1 + 0) + 0) ((1 * r 2 + 0) + 0) ((1 * r 3 + 0) + 0) ((1 * r 4 + 0) + 0) 1 (yq_at ((1 * r 0 + 0) + 0) ((1 * ((1 * r 6 + 0) + 0) + 0) + 0) ((1 * ((1 * r 9 + 0) + 0) + 0) + 0) ((1 * ((1 * r 12 + 0) + 0) + 0) + 0) ((1 * ((1 * r 15 + 0) + 0) + 0) + 0)) ((1 * ((1 * r 9 + 0) + 0) + 0) + 0) (yq_at ((1 * r 0 + 0) + 0) ((1 * ((1 * r 8 + 0) + 0) + 0) + 0) ((1 * ((1 * r 11 + 0) + 0) + 0) + 0) ((1 * ((1 * r 14 + 0) + 0) + 0) + 0) ((1 * ((1 * r 17 + 0) + 0) + 0) + 0)) ((1 * ((1 * r 11 + 0) + 0) + 0) + 0) ((1 * ((1 * r 10 + 0) + 0) + 0) + 0) (yq_fat ((1 * r 0 + 0) + 0) (g0 3) (g0 5) (g0 7) (g0 9)) (g0 5) ∧ (g 7) = yq_xc ((1 * r 0 + 0) + 0) ((1 * r 1 + 0) + 0) ((1 * r 2 + 0) + 0) ((1 * r 3 + 0) + 0) ((1 * r 4 + 0) + 0) 2 (yq_at ((1 * r 0 + 0) + 0) ((1 * ((1 * r 6 + 0) + 0) + 0) + 0) ((1 * ((1 * r 9 + 0) + 0) + 0) + 0) ((1 * ((1 * r 12 + 0) + 0) + 0) + 0) ((1 * ((1 * r 15 + 0) + 0) + 0) + 0)) ((1 * ((1 * r 12 + 0) + 0) + 0) + 0) (yq_at ((1 * r 0 + 0) + 0) ((1 * ((1 * r 8 + 0) + 0) + 0) + 0) ((1 * ((1 * r 11 + 0) + 0) + 0) + 0) ((1 * ((1 * r 14 + 0) + 0) + 0) + 0) ((1 * ((1 * r 17 + 0) + 0) + 0) + 0)) ((1 * ((1 * r 14 + 0) + 0) + 0) + 0) ((1 * ((1 * r 13 + 0) + 0) + 0) + 0) (yq_fat ((1 * r 0 + 0) + 0) (g0 3) (g0 5) (g0 7) (g0 9)) (g0 7) ∧ (g 9) = yq_xc ((1 * r 0 + 0) + 0) ((1 * r 1 + 0) + 0) ((1 * r 2 + 0) + 0) ((1 * r 3 + 0) + 0) ((1 * r 4 + 0) + 0) 3 (yq_at ((1 * r 0 + 0) + 0) ((1 * ((1 * r 6 + 0) + 0) + 0) + 0) ((1 * ((1 * r 9 + 0) + 0) + 0) + 0) ((1 * ((1 * r 12 + 0) + 0) + 0) + 0) ((1 * ((1 * r 15 + 0) + 0) + 0) + 0)) ((1 * ((1 * r 15 + 0) + 0) + 0) + 0) (yq_at ((1 * r 0 + 0) + 0) ((1 * ((1 * r 8 + 0) + 0) + 0) + 0) ((1 * ((1 * r 11 + 0) + 0) + 0) + 0) ((1 * ((1 * r 14 + 0) + 0) + 0) + 0) ((1 * ((1 * r 17 + 0) + 0) + 0) + 0)) ((1 * ((1 * r 17 + 0) + 0) + 0) + 0) ((1 * ((1 * r 16 + 0) + 0) + 0) + 0) (yq_fat ((1 * r 0 + 0) + 0) (g0 3) (g0 5) (g0 7) (g0 9)) (g0 9)
  try simp only [Int.one_mul, Int.zero_add, Int.add_zero]
  refine ⟨?_, ?_, ?_, ?_, ?_⟩
  · rw [show r 0 = 2 by omega]
    simp only [yq_at2]
    unfold yq_cr
    rw [if_pos (by omega), if_pos (Or.inl (by omega))] <;> omega
  · rw [show r 0 = 2 by omega]
    simp only [yq_at2, yq_fat2]
    unfold yq_xc
    rw [if_neg (by omega)]
    rw [hgi]
  · rw [show r 0 = 2 by omega]
    simp only [yq_at2, yq_fat2]
    unfold yq_xc
    rw [if_neg (by omega)]
    rw [hgi]
  · rw [show r 0 = 2 by omega]
    simp only [yq_at2, yq_fat2]
    unfold yq_xc
    rw [if_neg (by omega)]
    rw [hgi]
  · rw [show r 0 = 2 by omega]
    simp only [yq_at2, yq_fat2]
    unfold yq_xc
    rw [if_neg (by omega)]
    rw [hgi]
theorem xw_40_0_53 : yt_hold xT_40 xk_40 xq_40.2.2.1 xG_40 xP_40 xU_40 18 xk_40.2.1.2.2.2 (fun g0 r g => xR_40 r g0 ∧ g = g0) (1000, ([(2, 2), ((-2147483648), (-1)), (0, 0), ((-2147483648), 2147483647), (0, 2147483647), ((-2147483648), 2147483647), (1, 1), ((-2147483648), 2147483647), (0, 100), (0, 1), ((-2147483648), 2147483647), (0, 100), (1, 1), ((-2147483648), 2147483647), (0, 100), (0, 1), ((-2147483648), 2147483647), (0, 100), ((-2147483648), 0)], []), [([], (-3)), ([(18, 1)], 0)], [], []) := by
  intro g0 r gi g hok hh hars hfr hG
  have b0 : 2 ≤ r 0 ∧ r 0 ≤ 2 := hok.1 0 (2, 2) rfl
  have b1 : (-2147483648) ≤ r 1 ∧ r 1 ≤ (-1) := hok.1 1 ((-2147483648), (-1)) rfl
  have b2 : 0 ≤ r 2 ∧ r 2 ≤ 0 := hok.1 2 (0, 0) rfl
  have b3 : (-2147483648) ≤ r 3 ∧ r 3 ≤ 2147483647 := hok.1 3 ((-2147483648), 2147483647) rfl
  have b4 : 0 ≤ r 4 ∧ r 4 ≤ 2147483647 := hok.1 4 (0, 2147483647) rfl
  have b5 : (-2147483648) ≤ r 5 ∧ r 5 ≤ 2147483647 := hok.1 5 ((-2147483648), 2147483647) rfl
  have b6 : 1 ≤ r 6 ∧ r 6 ≤ 1 := hok.1 6 (1, 1) rfl
  have b7 : (-2147483648) ≤ r 7 ∧ r 7 ≤ 2147483647 := hok.1 7 ((-2147483648), 2147483647) rfl
  have b8 : 0 ≤ r 8 ∧ r 8 ≤ 100 := hok.1 8 (0, 100) rfl
  have b9 : 0 ≤ r 9 ∧ r 9 ≤ 1 := hok.1 9 (0, 1) rfl
  have b10 : (-2147483648) ≤ r 10 ∧ r 10 ≤ 2147483647 := hok.1 10 ((-2147483648), 2147483647) rfl
  have b11 : 0 ≤ r 11 ∧ r 11 ≤ 100 := hok.1 11 (0, 100) rfl
  have b12 : 1 ≤ r 12 ∧ r 12 ≤ 1 := hok.1 12 (1, 1) rfl
  have b13 : (-2147483648) ≤ r 13 ∧ r 13 ≤ 2147483647 := hok.1 13 ((-2147483648), 2147483647) rfl
  have b14 : 0 ≤ r 14 ∧ r 14 ≤ 100 := hok.1 14 (0, 100) rfl
  have b15 : 0 ≤ r 15 ∧ r 15 ≤ 1 := hok.1 15 (0, 1) rfl
  have b16 : (-2147483648) ≤ r 16 ∧ r 16 ≤ 2147483647 := hok.1 16 ((-2147483648), 2147483647) rfl
  have b17 : 0 ≤ r 17 ∧ r 17 ≤ 100 := hok.1 17 (0, 100) rfl
  have b18 : (-2147483648) ≤ r 18 ∧ r 18 ≤ 0 := hok.1 18 ((-2147483648), 0) rfl
  obtain ⟨hG, hgi⟩ := hG
  have hG : True := hG
  have hh : g = gi := hh
  subst hh
  refine yt_dalt (by decide) (by decide) ?_
  rw [show xk_40.2.1.2.1.1.length = 18 from rfl]
  show ((0 : Int) + (-3)) = yq_cr ((1 * r 0 + 0) + 0) ((1 * r 1 + 0) + 0) ((1 * r 2 + 0) + 0) ((1 * r 3 + 0) + 0) ((1 * r 4 + 0) + 0) (yq_at ((1 * r 0 + 0) + 0) ((1 * ((1 * r 6 + 0) + 0) + 0) + 0) ((1 * ((1 * r 9 + 0) + 0) + 0) + 0) ((1 * ((1 * r 12 + 0) + 0) + 0) + 0) ((1 * ((1 * r 15 + 0) + 0) + 0) + 0)) (yq_at ((1 * r 2 + 0) + 0) ((1 * ((1 * r 6 + 0) + 0) + 0) + 0) ((1 * ((1 * r 9 + 0) + 0) + 0) + 0) ((1 * ((1 * r 12 + 0) + 0) + 0) + 0) ((1 * ((1 * r 15 + 0) + 0) + 0) + 0)) (yq_at ((1 * r 0 + 0) + 0) ((1 * ((1 * r 8 + 0) + 0) + 0) + 0) ((1 * ((1 * r 11 + 0) + 0) + 0) + 0) ((1 * ((1 * r 14 + 0) + 0) + 0) + 0) ((1 * ((1 * r 17 + 0) + 0) + 0) + 0)) (yq_at ((1 * r 2 + 0) + 0) ((1 * ((1 * r 8 + 0) + 0) + 0) + 0) ((1 * ((1 * r 11 + 0) + 0) + 0) + 0) ((1 * ((1 * r 14 + 0) + 0) + 0) + 0) ((1 * ((1 * r 17 + 0) + 0) + 0) + 0)) ∧ (g 3) = yq_xc ((1 * r 0 + 0) + 0) ((1 * r 1 + 0) + 0) ((1 * r 2 + 0) + 0) ((1 * r 3 + 0) + 0) ((1 * r 4 + 0) + 0) 0 (yq_at ((1 * r 0 + 0) + 0) ((1 * ((1 * r 6 + 0) + 0) + 0) + 0) ((1 * ((1 * r 9 + 0) + 0) + 0) + 0) ((1 * ((1 * r 12 + 0) + 0) + 0) + 0) ((1 * ((1 * r 15 + 0) + 0) + 0) + 0)) ((1 * ((1 * r 6 + 0) + 0) + 0) + 0) (yq_at ((1 * r 0 + 0) + 0) ((1 * ((1 * r 8 + 0) + 0) + 0) + 0) ((1 * ((1 * r 11 + 0) + 0) + 0) + 0) ((1 * ((1 * r 14 + 0) + 0) + 0) + 0) ((1 * ((1 * r 17 + 0) + 0) + 0) + 0)) ((1 * ((1 * r 8 + 0) + 0) + 0) + 0) ((1 * ((1 * r 7 + 0) + 0) + 0) + 0) (yq_fat ((1 * r 0 + 0) + 0) (g0 3) (g0 5) (g0 7) (g0 9)) (g0 3) ∧ (g 5) = yq_xc ((1 * r 0 + 0) + 0) ((1 * r 1 + 0) + 0) ((1 * r 2 + 0) + 0) ((1 * r 3 + 0) + 0) ((1 * r 4 + 0) + 0) 1 (yq_at ((1 * r 0 + 0) + 0) ((1 * ((1 * r 6 + 0) + 0) + 0) + 0) ((1 * ((1 * r 9 + 0) + 0) + 0) + 0) ((1 * ((1 * r 12 + 0) + 0) + 0) + 0) ((1 * ((1 * r 15 + 0) + 0) + 0) + 0)) ((1 * ((1 * r 9 + 0) + 0) + 0) + 0) (yq_at ((1 * r 0 + 0) + 0) ((1 * ((1 * r 8 + 0) + 0) + 0) + 0) ((1 * ((1 * r 11 + 0) + 0) + 0) + 0) ((1 * ((1 * r 14 + 0) + 0) + 0) + 0) ((1 * ((1 * r 17 + 0) + 0) + 0) + 0)) ((1 * ((1 * r 11 + 0) + 0) + 0) + 0) ((1 * ((1 * r 10 + 0) + 0) + 0) + 0) (yq_fat ((1 * r 0 + 0) + 0) (g0 3) (g0 5) (g0 7) (g0 9)) (g0 5) ∧ (g 7) = yq_xc ((1 * r 0 + 0) + 0) ((1 * r 1 + 0) + 0) ((1 * r 2 + 0) + 0) ((1 * r 3 + 0) + 0) ((1 * r 4 + 0) + 0) 2 (yq_at ((1 * r 0 + 0) + 0) ((1 * ((1 * r 6 + 0) + 0) + 0) + 0) ((1 * ((1 * r 9 + 0) + 0) + 0) + 0) ((1 * ((1 * r 12 + 0) + 0) + 0) + 0) ((1 * ((1 * r 15 + 0) + 0) + 0) + 0)) ((1 * ((1 * r 12 + 0) + 0) + 0) + 0) (yq_at ((1 * r 0 + 0) + 0) ((1 * ((1 * r 8 + 0) + 0) + 0) + 0) ((1 * ((1 * r 11 + 0) + 0) + 0) + 0) ((1 * ((1 * r 14 + 0) + 0) + 0) + 0) ((1 * ((1 * r 17 + 0) + 0) + 0) + 0)) ((1 * ((1 * r 14 + 0) + 0) + 0) + 0) ((1 * ((1 * r 13 + 0) + 0) + 0) + 0) (yq_fat ((1 * r 0 + 0) + 0) (g0 3) (g0 5) (g0 7) (g0 9)) (g0 7) ∧ (g 9) = yq_xc ((1 * r 0 + 0) + 0) ((1 * r 1 + 0) + 0) ((1 * r 2 + 0) + 0) ((1 * r 3 + 0) + 0) ((1 * r 4 + 0) + 0) 3 (yq_at ((1 * r 0 + 0) + 0) ((1 * ((1 * r 6 + 0) + 0) + 0) + 0) ((1 * ((1 * r 9 + 0) + 0) + 0) + 0) ((1 * ((1 * r 12 + 0) + 0) + 0) + 0) ((1 * ((1 * r 15 + 0) + 0) + 0) + 0)) ((1 * ((1 * r 15 + 0) + 0) + 0) + 0) (yq_at ((1 * r 0 + 0) + 0) ((1 * ((1 * r 8 + 0) + 0) + 0) + 0) ((1 * ((1 * r 11 + 0) + 0) + 0) + 0) ((1 * ((1 * r 14 + 0) + 0) + 0) + 0) ((1 * ((1 * r 17 + 0) + 0) + 0) + 0)) ((1 * ((1 * r 17 + 0) + 0) + 0) + 0) ((1 * ((1 * r 16 + 0) + 0) + 0) + 0) (yq_fat ((1 * r 0 + 0) + 0) (g0 3) (g0 5) (g0 7) (g0 9)) (g0 9)
  try simp only [Int.one_mul, Int.zero_add, Int.add_zero]
  refine ⟨?_, ?_, ?_, ?_, ?_⟩
  · rw [show r 0 = 2 by omega]
    rw [show r 2 = 0 by omega]
    simp only [yq_at0, yq_at2]
    unfold yq_cr
    repeat' split
    all_goals omega
  · rw [show r 0 = 2 by omega]
    simp only [yq_at2, yq_fat2]
    unfold yq_xc
    rw [if_neg (by omega)]
    rw [hgi]
  · rw [show r 0 = 2 by omega]
    simp only [yq_at2, yq_fat2]
    unfold yq_xc
    rw [if_neg (by omega)]
    rw [hgi]
  · rw [show r 0 = 2 by omega]
    simp only [yq_at2, yq_fat2]
    unfold yq_xc
    rw [if_neg (by omega)]
    rw [hgi]
  · rw [show r 0 = 2 by omega]
    simp only [yq_at2, yq_fat2]
    unfold yq_xc
    rw [if_neg (by omega)]
    rw [hgi]
theorem xw_40_0_54 : yt_hold xT_40 xk_40 xq_40.2.2.1 xG_40 xP_40 xU_40 18 xk_40.2.1.2.2.2 (fun g0 r g => xR_40 r g0 ∧ g = g0) (1000, ([(2, 2), (0, 2147483647), (0, 0), ((-2147483648), 2147483647), (0, 2147483647), ((-2147483648), 2147483647), (1, 1), ((-2147483648), 2147483647), (0, 100), (0, 1), ((-2147483648), 2147483647), (0, 100), (1, 1), ((-2147483648), 2147483647), (0, 100), (0, 1), ((-2147483648), 2147483647), (0, 100), ((-2147483648), 0)], [([(1, 1), (14, (-1)), (4, 1)], (-1))]), [([], (-3)), ([(18, 1)], 0)], [], []) := by
  intro g0 r gi g hok hh hars hfr hG
  have b0 : 2 ≤ r 0 ∧ r 0 ≤ 2 := hok.1 0 (2, 2) rfl
  have b1 : 0 ≤ r 1 ∧ r 1 ≤ 2147483647 := hok.1 1 (0, 2147483647) rfl
  have b2 : 0 ≤ r 2 ∧ r 2 ≤ 0 := hok.1 2 (0, 0) rfl
  have b3 : (-2147483648) ≤ r 3 ∧ r 3 ≤ 2147483647 := hok.1 3 ((-2147483648), 2147483647) rfl
  have b4 : 0 ≤ r 4 ∧ r 4 ≤ 2147483647 := hok.1 4 (0, 2147483647) rfl
  have b5 : (-2147483648) ≤ r 5 ∧ r 5 ≤ 2147483647 := hok.1 5 ((-2147483648), 2147483647) rfl
  have b6 : 1 ≤ r 6 ∧ r 6 ≤ 1 := hok.1 6 (1, 1) rfl
  have b7 : (-2147483648) ≤ r 7 ∧ r 7 ≤ 2147483647 := hok.1 7 ((-2147483648), 2147483647) rfl
  have b8 : 0 ≤ r 8 ∧ r 8 ≤ 100 := hok.1 8 (0, 100) rfl
  have b9 : 0 ≤ r 9 ∧ r 9 ≤ 1 := hok.1 9 (0, 1) rfl
  have b10 : (-2147483648) ≤ r 10 ∧ r 10 ≤ 2147483647 := hok.1 10 ((-2147483648), 2147483647) rfl
  have b11 : 0 ≤ r 11 ∧ r 11 ≤ 100 := hok.1 11 (0, 100) rfl
  have b12 : 1 ≤ r 12 ∧ r 12 ≤ 1 := hok.1 12 (1, 1) rfl
  have b13 : (-2147483648) ≤ r 13 ∧ r 13 ≤ 2147483647 := hok.1 13 ((-2147483648), 2147483647) rfl
  have b14 : 0 ≤ r 14 ∧ r 14 ≤ 100 := hok.1 14 (0, 100) rfl
  have b15 : 0 ≤ r 15 ∧ r 15 ≤ 1 := hok.1 15 (0, 1) rfl
  have b16 : (-2147483648) ≤ r 16 ∧ r 16 ≤ 2147483647 := hok.1 16 ((-2147483648), 2147483647) rfl
  have b17 : 0 ≤ r 17 ∧ r 17 ≤ 100 := hok.1 17 (0, 100) rfl
  have b18 : (-2147483648) ≤ r 18 ∧ r 18 ≤ 0 := hok.1 18 ((-2147483648), 0) rfl
  have f0 : 0 ≤ ((1 * r 1 + ((-1) * r 14 + (1 * r 4 + 0))) + (-1)) := hok.2 _ (List.mem_of_getElem? (i := 0) rfl)
  obtain ⟨hG, hgi⟩ := hG
  have hG : True := hG
  have hh : g = gi := hh
  subst hh
  refine yt_dalt (by decide) (by decide) ?_
  rw [show xk_40.2.1.2.1.1.length = 18 from rfl]
  show ((0 : Int) + (-3)) = yq_cr ((1 * r 0 + 0) + 0) ((1 * r 1 + 0) + 0) ((1 * r 2 + 0) + 0) ((1 * r 3 + 0) + 0) ((1 * r 4 + 0) + 0) (yq_at ((1 * r 0 + 0) + 0) ((1 * ((1 * r 6 + 0) + 0) + 0) + 0) ((1 * ((1 * r 9 + 0) + 0) + 0) + 0) ((1 * ((1 * r 12 + 0) + 0) + 0) + 0) ((1 * ((1 * r 15 + 0) + 0) + 0) + 0)) (yq_at ((1 * r 2 + 0) + 0) ((1 * ((1 * r 6 + 0) + 0) + 0) + 0) ((1 * ((1 * r 9 + 0) + 0) + 0) + 0) ((1 * ((1 * r 12 + 0) + 0) + 0) + 0) ((1 * ((1 * r 15 + 0) + 0) + 0) + 0)) (yq_at ((1 * r 0 + 0) + 0) ((1 * ((1 * r 8 + 0) + 0) + 0) + 0) ((1 * ((1 * r 11 + 0) + 0) + 0) + 0) ((1 * ((1 * r 14 + 0) + 0) + 0) + 0) ((1 * ((1 * r 17 + 0) + 0) + 0) + 0)) (yq_at ((1 * r 2 + 0) + 0) ((1 * ((1 * r 8 + 0) + 0) + 0) + 0) ((1 * ((1 * r 11 + 0) + 0) + 0) + 0) ((1 * ((1 * r 14 + 0) + 0) + 0) + 0) ((1 * ((1 * r 17 + 0) + 0) + 0) + 0)) ∧ (g 3) = yq_xc ((1 * r 0 + 0) + 0) ((1 * r 1 + 0) + 0) ((1 * r 2 + 0) + 0) ((1 * r 3 + 0) + 0) ((1 * r 4 + 0) + 0) 0 (yq_at ((1 * r 0 + 0) + 0) ((1 * ((1 * r 6 + 0) + 0) + 0) + 0) ((1 * ((1 * r 9 + 0) + 0) + 0) + 0) ((1 * ((1 * r 12 + 0) + 0) + 0) + 0) ((1 * ((1 * r 15 + 0) + 0) + 0) + 0)) ((1 * ((1 * r 6 + 0) + 0) + 0) + 0) (yq_at ((1 * r 0 + 0) + 0) ((1 * ((1 * r 8 + 0) + 0) + 0) + 0) ((1 * ((1 * r 11 + 0) + 0) + 0) + 0) ((1 * ((1 * r 14 + 0) + 0) + 0) + 0) ((1 * ((1 * r 17 + 0) + 0) + 0) + 0)) ((1 * ((1 * r 8 + 0) + 0) + 0) + 0) ((1 * ((1 * r 7 + 0) + 0) + 0) + 0) (yq_fat ((1 * r 0 + 0) + 0) (g0 3) (g0 5) (g0 7) (g0 9)) (g0 3) ∧ (g 5) = yq_xc ((1 * r 0 + 0) + 0) ((1 * r 1 + 0) + 0) ((1 * r 2 + 0) + 0) ((1 * r 3 + 0) + 0) ((1 * r 4 + 0) + 0) 1 (yq_at ((1 * r 0 + 0) + 0) ((1 * ((1 * r 6 + 0) + 0) + 0) + 0) ((1 * ((1 * r 9 + 0) + 0) + 0) + 0) ((1 * ((1 * r 12 + 0) + 0) + 0) + 0) ((1 * ((1 * r 15 + 0) + 0) + 0) + 0)) ((1 * ((1 * r 9 + 0) + 0) + 0) + 0) (yq_at ((1 * r 0 + 0) + 0) ((1 * ((1 * r 8 + 0) + 0) + 0) + 0) ((1 * ((1 * r 11 + 0) + 0) + 0) + 0) ((1 * ((1 * r 14 + 0) + 0) + 0) + 0) ((1 * ((1 * r 17 + 0) + 0) + 0) + 0)) ((1 * ((1 * r 11 + 0) + 0) + 0) + 0) ((1 * ((1 * r 10 + 0) + 0) + 0) + 0) (yq_fat ((1 * r 0 + 0) + 0) (g0 3) (g0 5) (g0 7) (g0 9)) (g0 5) ∧ (g 7) = yq_xc ((1 * r 0 + 0) + 0) ((1 * r 1 + 0) + 0) ((1 * r 2 + 0) + 0) ((1 * r 3 + 0) + 0) ((1 * r 4 + 0) + 0) 2 (yq_at ((1 * r 0 + 0) + 0) ((1 * ((1 * r 6 + 0) + 0) + 0) + 0) ((1 * ((1 * r 9 + 0) + 0) + 0) + 0) ((1 * ((1 * r 12 + 0) + 0) + 0) + 0) ((1 * ((1 * r 15 + 0) + 0) + 0) + 0)) ((1 * ((1 * r 12 + 0) + 0) + 0) + 0) (yq_at ((1 * r 0 + 0) + 0) ((1 * ((1 * r 8 + 0) + 0) + 0) + 0) ((1 * ((1 * r 11 + 0) + 0) + 0) + 0) ((1 * ((1 * r 14 + 0) + 0) + 0) + 0) ((1 * ((1 * r 17 + 0) + 0) + 0) + 0)) ((1 * ((1 * r 14 + 0) + 0) + 0) + 0) ((1 * ((1 * r 13 + 0) + 0) + 0) + 0) (yq_fat ((1 * r 0 + 0) + 0) (g0 3) (g0 5) (g0 7) (g0 9)) (g0 7) ∧ (g 9) = yq_xc ((1 * r 0 + 0) + 0) ((1 * r 1 + 0) + 0) ((1 * r 2 + 0) + 0) ((1 * r 3 + 0) + 0) ((1 * r 4 + 0) + 0) 3 (yq_at ((1 * r 0 + 0) + 0) ((1 * ((1 * r 6 + 0) + 0) + 0) + 0) ((1 * ((1 * r 9 + 0) + 0) + 0) + 0) ((1 * ((1 * r 12 + 0) + 0) + 0) + 0) ((1 * ((1 * r 15 + 0) + 0) + 0) + 0)) ((1 * ((1 * r 15 + 0) + 0) + 0) + 0) (yq_at ((1 * r 0 + 0) + 0) ((1 * ((1 * r 8 + 0) + 0) + 0) + 0) ((1 * ((1 * r 11 + 0) + 0) + 0) + 0) ((1 * ((1 * r 14 + 0) + 0) + 0) + 0) ((1 * ((1 * r 17 + 0) + 0) + 0) + 0)) ((1 * ((1 * r 17 + 0) + 0) + 0) + 0) ((1 * ((1 * r 16 + 0) + 0) + 0) + 0) (yq_fat ((1 * r 0 + 0) + 0) (g0 3) (g0 5) (g0 7) (g0 9)) (g0 9)
  try simp only [Int.one_mul, Int.zero_add, Int.add_zero]
  refine ⟨?_, ?_, ?_, ?_, ?_⟩
  · rw [show r 0 = 2 by omega]
    rw [show r 2 = 0 by omega]
    simp only [yq_at0, yq_at2]
    unfold yq_cr
    repeat' split
    all_goals omega
  · rw [show r 0 = 2 by omega]
    simp only [yq_at2, yq_fat2]
    unfold yq_xc
    rw [if_neg (by omega)]
    rw [hgi]
  · rw [show r 0 = 2 by omega]
    simp only [yq_at2, yq_fat2]
    unfold yq_xc
    rw [if_neg (by omega)]
    rw [hgi]
  · rw [show r 0 = 2 by omega]
    simp only [yq_at2, yq_fat2]
    unfold yq_xc
    rw [if_neg (by omega)]
    rw [hgi]
  · rw [show r 0 = 2 by omega]
    simp only [yq_at2, yq_fat2]
    unfold yq_xc
    rw [if_neg (by omega)]
    rw [hgi]
theorem xw_40_0_55 : yt_hold xT_40 xk_40 xq_40.2.2.1 xG_40 xP_40 xU_40 18 xk_40.2.1.2.2.2 (fun g0 r g => xR_40 r g0 ∧ g = g0) (1000, ([(2, 2), (0, 100), (0, 0), ((-2147483648), (-1)), (0, 100), ((-2147483648), 2147483647), (1, 1), ((-2147483648), 2147483647), (0, 100), (0, 1), ((-2147483648), 2147483647), (0, 100), (1, 1), ((-2147483648), 2147483647), (0, 100), (0, 1), ((-2147483648), 2147483647), (0, 100), ((-2147483648), 0)], [([(1, (-1)), (14, 1), (4, (-1))], 0)]), [([], (-3)), ([(18, 1)], 0)], [], []) := by
  intro g0 r gi g hok hh hars hfr hG
  have b0 : 2 ≤ r 0 ∧ r 0 ≤ 2 := hok.1 0 (2, 2) rfl
  have b1 : 0 ≤ r 1 ∧ r 1 ≤ 100 := hok.1 1 (0, 100) rfl
  have b2 : 0 ≤ r 2 ∧ r 2 ≤ 0 := hok.1 2 (0, 0) rfl
  have b3 : (-2147483648) ≤ r 3 ∧ r 3 ≤ (-1) := hok.1 3 ((-2147483648), (-1)) rfl
  have b4 : 0 ≤ r 4 ∧ r 4 ≤ 100 := hok.1 4 (0, 100) rfl
  have b5 : (-2147483648) ≤ r 5 ∧ r 5 ≤ 2147483647 := hok.1 5 ((-2147483648), 2147483647) rfl
  have b6 : 1 ≤ r 6 ∧ r 6 ≤ 1 := hok.1 6 (1, 1) rfl
  have b7 : (-2147483648) ≤ r 7 ∧ r 7 ≤ 2147483647 := hok.1 7 ((-2147483648), 2147483647) rfl
  have b8 : 0 ≤ r 8 ∧ r 8 ≤ 100 := hok.1 8 (0, 100) rfl
  have b9 : 0 ≤ r 9 ∧ r 9 ≤ 1 := hok.1 9 (0, 1) rfl
  have b10 : (-2147483648) ≤ r 10 ∧ r 10 ≤ 2147483647 := hok.1 10 ((-2147483648), 2147483647) rfl
  have b11 : 0 ≤ r 11 ∧ r 11 ≤ 100 := hok.1 11 (0, 100) rfl
  have b12 : 1 ≤ r 12 ∧ r 12 ≤ 1 := hok.1 12 (1, 1) rfl
  have b13 : (-2147483648) ≤ r 13 ∧ r 13 ≤ 2147483647 := hok.1 13 ((-2147483648), 2147483647) rfl
  have b14 : 0 ≤ r 14 ∧ r 14 ≤ 100 := hok.1 14 (0, 100) rfl
  have b15 : 0 ≤ r 15 ∧ r 15 ≤ 1 := hok.1 15 (0, 1) rfl
  have b16 : (-2147483648) ≤ r 16 ∧ r 16 ≤ 2147483647 := hok.1 16 ((-2147483648), 2147483647) rfl
  have b17 : 0 ≤ r 17 ∧ r 17 ≤ 100 := hok.1 17 (0, 100) rfl
  have b18 : (-2147483648) ≤ r 18 ∧ r 18 ≤ 0 := hok.1 18 ((-2147483648), 0) rfl
  have f0 : 0 ≤ (((-1) * r 1 + (1 * r 14 + ((-1) * r 4 + 0))) + 0) := hok.2 _ (List.mem_of_getElem? (i := 0) rfl)
  obtain ⟨hG, hgi⟩ := hG
  have hG : True := hG
  have hh : g = gi := hh
  subst hh
  refine yt_dalt (by decide) (by decide) ?_
  rw [show xk_40.2.1.2.1.1.length = 18 from rfl]
  show ((0 : Int) + (-3)) = yq_cr ((1 * r 0 + 0) + 0) ((1 * r 1 + 0) + 0) ((1 * r 2 + 0) + 0) ((1 * r 3 + 0) + 0) ((1 * r 4 + 0) + 0) (yq_at ((1 * r 0 + 0) + 0) ((1 * ((1 * r 6 + 0) + 0) + 0) + 0) ((1 * ((1 * r 9 + 0) + 0) + 0) + 0) ((1 * ((1 * r 12 + 0) + 0) + 0) + 0) ((1 * ((1 * r 15 + 0) + 0) + 0) + 0)) (yq_at ((1 * r 2 + 0) + 0) ((1 * ((1 * r 6 + 0) + 0) + 0) + 0) ((1 * ((1 * r 9 + 0) + 0) + 0) + 0) ((1 * ((1 * r 12 + 0) + 0) + 0) + 0) ((1 * ((1 * r 15 + 0) + 0) + 0) + 0)) (yq_at ((1 * r 0 + 0) + 0) ((1 * ((1 * r 8 + 0) + 0) + 0) + 0) ((1 * ((1 * r 11 + 0) + 0) + 0) + 0) ((1 * ((1 * r 14 + 0) + 0) + 0) + 0) ((1 * ((1 * r 17 + 0) + 0) + 0) + 0)) (yq_at ((1 * r 2 + 0) + 0) ((1 * ((1 * r 8 + 0) + 0) + 0) + 0) ((1 * ((1 * r 11 + 0) + 0) + 0) + 0) ((1 * ((1 * r 14 + 0) + 0) + 0) + 0) ((1 * ((1 * r 17 + 0) + 0) + 0) + 0)) ∧ (g 3) = yq_xc ((1 * r 0 + 0) + 0) ((1 * r 1 + 0) + 0) ((1 * r 2 + 0) + 0) ((1 * r 3 + 0) + 0) ((1 * r 4 + 0) + 0) 0 (yq_at ((1 * r 0 + 0) + 0) ((1 * ((1 * r 6 + 0) + 0) + 0) + 0) ((1 * ((1 * r 9 + 0) + 0) + 0) + 0) ((1 * ((1 * r 12 + 0) + 0) + 0) + 0) ((1 * ((1 * r 15 + 0) + 0) + 0) + 0)) ((1 * ((1 * r 6 + 0) + 0) + 0) + 0) (yq_at ((1 * r 0 + 0) + 0) ((1 * ((1 * r 8 + 0) + 0) + 0) + 0) ((1 * ((1 * r 11 + 0) + 0) + 0) + 0) ((1 * ((1 * r 14 + 0) + 0) + 0) + 0) ((1 * ((1 * r 17 + 0) + 0) + 0) + 0)) ((1 * ((1 * r 8 + 0) + 0) + 0) + 0) ((1 * ((1 * r 7 + 0) + 0) + 0) + 0) (yq_fat ((1 * r 0 + 0) + 0) (g0 3) (g0 5) (g0 7) (g0 9)) (g0 3) ∧ (g 5) = yq_xc ((1 * r 0 + 0) + 0) ((1 * r 1 + 0) + 0) ((1 * r 2 + 0) + 0) ((1 * r 3 + 0) + 0) ((1 * r 4 + 0) + 0) 1 (yq_at ((1 * r 0 + 0) + 0) ((1 * ((1 * r 6 + 0) + 0) + 0) + 0) ((1 * ((1 * r 9 + 0) + 0) + 0) + 0) ((1 * ((1 * r 12 + 0) + 0) + 0) + 0) ((1 * ((1 * r 15 + 0) + 0) + 0) + 0)) ((1 * ((1 * r 9 + 0) + 0) + 0) + 0) (yq_at ((1 * r 0 + 0) + 0) ((1 * ((1 * r 8 + 0) + 0) + 0) + 0) ((1 * ((1 * r 11 + 0) + 0) + 0) + 0) ((1 * ((1 * r 14 + 0) + 0) + 0) + 0) ((1 * ((1 * r 17 + 0) + 0) + 0) + 0)) ((1 * ((1 * r 11 + 0) + 0) + 0) + 0) ((1 * ((1 * r 10 + 0) + 0) + 0) + 0) (yq_fat ((1 * r 0 + 0) + 0) (g0 3) (g0 5) (g0 7) (g0 9)) (g0 5) ∧ (g 7) = yq_xc ((1 * r 0 + 0) + 0) ((1 * r 1 + 0) + 0) ((1 * r 2 + 0) + 0) ((1 * r 3 + 0) + 0) ((1 * r 4 + 0) + 0) 2 (yq_at ((1 * r 0 + 0) + 0) ((1 * ((1 * r 6 + 0) + 0) + 0) + 0) ((1 * ((1 * r 9 + 0) + 0) + 0) + 0) ((1 * ((1 * r 12 + 0) + 0) + 0) + 0) ((1 * ((1 * r 15 + 0) + 0) + 0) + 0)) ((1 * ((1 * r 12 + 0) + 0) + 0) + 0) (yq_at ((1 * r 0 + 0) + 0) ((1 * ((1 * r 8 + 0) + 0) + 0) + 0) ((1 * ((1 * r 11 + 0) + 0) + 0) + 0) ((1 * ((1 * r 14 + 0) + 0) + 0) + 0) ((1 * ((1 * r 17 + 0) + 0) + 0) + 0)) ((1 * ((1 * r 14 + 0) + 0) + 0) + 0) ((1 * ((1 * r 13 + 0) + 0) + 0) + 0) (yq_fat ((1 * r 0 + 0) + 0) (g0 3) (g0 5) (g0 7) (g0 9)) (g0 7) ∧ (g 9) = yq_xc ((1 * r 0 + 0) + 0) ((1 * r 1 + 0) + 0) ((1 * r 2 + 0) + 0) ((1 * r 3 + 0) + 0) ((1 * r 4 + 0) + 0) 3 (yq_at ((1 * r 0 + 0) + 0) ((1 * ((1 * r 6 + 0) + 0) + 0) + 0) ((1 * ((1 * r 9 + 0) + 0) + 0) + 0) ((1 * ((1 * r 12 + 0) + 0) + 0) + 0) ((1 * ((1 * r 15 + 0) + 0) + 0) + 0)) ((1 * ((1 * r 15 + 0) + 0) + 0) + 0) (yq_at ((1 * r 0 + 0) + 0) ((1 * ((1 * r 8 + 0) + 0) + 0) + 0) ((1 * ((1 * r 11 + 0) + 0) + 0) + 0) ((1 * ((1 * r 14 + 0) + 0) + 0) + 0) ((1 * ((1 * r 17 + 0) + 0) + 0) + 0)) ((1 * ((1 * r 17 + 0) + 0) + 0) + 0) ((1 * ((1 * r 16 + 0) + 0) + 0) + 0) (yq_fat ((1 * r 0 + 0) + 0) (g0 3) (g0 5) (g0 7) (g0 9)) (g0 9)
  try simp only [Int.one_mul, Int.zero_add, Int.add_zero]
  refine ⟨?_, ?_, ?_, ?_, ?_⟩
  · rw [show r 0 = 2 by omega]
    rw [show r 2 = 0 by omega]
    simp only [yq_at0, yq_at2]
    unfold yq_cr
    repeat' split
    all_goals omega
  · rw [show r 0 = 2 by omega]
    simp only [yq_at2, yq_fat2]
    unfold yq_xc
    rw [if_neg (by omega)]
    rw [hgi]
  · rw [show r 0 = 2 by omega]
    simp only [yq_at2, yq_fat2]
    unfold yq_xc
    rw [if_neg (by omega)]
    rw [hgi]
  · rw [show r 0 = 2 by omega]
    simp only [yq_at2, yq_fat2]
    unfold yq_xc
    rw [if_neg (by omega)]
    rw [hgi]
  · rw [show r 0 = 2 by omega]
    simp only [yq_at2, yq_fat2]
    unfold yq_xc
    rw [if_neg (by omega)]
    rw [hgi]
theorem xw_40_0_56 : yt_hold xT_40 xk_40 xq_40.2.2.1 xG_40 xP_40 xU_40 18 xk_40.2.1.2.2.2 (fun g0 r g => xR_40 r g0 ∧ g = g0) (1000, ([(2, 2), (0, 100), (0, 0), (0, 2147483647), (0, 100), ((-2147483648), 2147483647), (1, 1), ((-2147483648), 2147483647), (0, 100), (0, 1), ((-2147483648), 2147483647), (0, 100), (1, 1), ((-2147483648), 2147483647), (0, 100), (0, 1), ((-2147483648), 2147483647), (0, 100), ((-2147483648), 0)], [([(3, 1), (8, (-1)), (4, 1)], (-1)), ([(1, (-1)), (14, 1), (4, (-1))], 0)]), [([], (-3)), ([(18, 1)], 0)], [], []) := by
  intro g0 r gi g hok hh hars hfr hG
  have b0 : 2 ≤ r 0 ∧ r 0 ≤ 2 := hok.1 0 (2, 2) rfl
  have b1 : 0 ≤ r 1 ∧ r 1 ≤ 100 := hok.1 1 (0, 100) rfl
  have b2 : 0 ≤ r 2 ∧ r 2 ≤ 0 := hok.1 2 (0, 0) rfl
  have b3 : 0 ≤ r 3 ∧ r 3 ≤ 2147483647 := hok.1 3 (0, 2147483647) rfl
  have b4 : 0 ≤ r 4 ∧ r 4 ≤ 100 := hok.1 4 (0, 100) rfl
  have b5 : (-2147483648) ≤ r 5 ∧ r 5 ≤ 2147483647 := hok.1 5 ((-2147483648), 2147483647) rfl
  have b6 : 1 ≤ r 6 ∧ r 6 ≤ 1 := hok.1 6 (1, 1) rfl
  have b7 : (-2147483648) ≤ r 7 ∧ r 7 ≤ 2147483647 := hok.1 7 ((-2147483648), 2147483647) rfl
  have b8 : 0 ≤ r 8 ∧ r 8 ≤ 100 := hok.1 8 (0, 100) rfl
  have b9 : 0 ≤ r 9 ∧ r 9 ≤ 1 := hok.1 9 (0, 1) rfl
  have b10 : (-2147483648) ≤ r 10 ∧ r 10 ≤ 2147483647 := hok.1 10 ((-2147483648), 2147483647) rfl
  have b11 : 0 ≤ r 11 ∧ r 11 ≤ 100 := hok.1 11 (0, 100) rfl
  have b12 : 1 ≤ r 12 ∧ r 12 ≤ 1 := hok.1 12 (1, 1) rfl
  have b13 : (-2147483648) ≤ r 13 ∧ r 13 ≤ 2147483647 := hok.1 13 ((-2147483648), 2147483647) rfl
  have b14 : 0 ≤ r 14 ∧ r 14 ≤ 100 := hok.1 14 (0, 100) rfl
  have b15 : 0 ≤ r 15 ∧ r 15 ≤ 1 := hok.1 15 (0, 1) rfl
  have b16 : (-2147483648) ≤ r 16 ∧ r 16 ≤ 2147483647 := hok.1 16 ((-2147483648), 2147483647) rfl
  have b17 : 0 ≤ r 17 ∧ r 17 ≤ 100 := hok.1 17 (0, 100) rfl
  have b18 : (-2147483648) ≤ r 18 ∧ r 18 ≤ 0 := hok.1 18 ((-2147483648), 0) rfl
  have f0 : 0 ≤ ((1 * r 3 + ((-1) * r 8 + (1 * r 4 + 0))) + (-1)) := hok.2 _ (List.mem_of_getElem? (i := 0) rfl)
  have f1 : 0 ≤ (((-1) * r 1 + (1 * r 14 + ((-1) * r 4 + 0))) + 0) := hok.2 _ (List.mem_of_getElem? (i := 1) rfl)
  obtain ⟨hG, hgi⟩ := hG
  have hG : True := hG
  have hh : g = gi := hh
  subst hh
  refine yt_dalt (by decide) (by decide) ?_
  rw [show xk_40.2.1.2.1.1.length = 18 from rfl]
  show ((0 : Int) + (-3)) = yq_cr ((1 * r 0 + 0) + 0) ((1 * r 1 + 0) + 0) ((1 * r 2 + 0) + 0) ((1 * r 3 + 0) + 0) ((1 * r 4 + 0) + 0) (yq_at ((1 * r 0 + 0) + 0) ((1 * ((1 * r 6 + 0) + 0) + 0) + 0) ((1 * ((1 * r 9 + 0) + 0) + 0) + 0) ((1 * ((1 * r 12 + 0) + 0) + 0) + 0) ((1 * ((1 * r 15 + 0) + 0) + 0) + 0)) (yq_at ((1 * r 2 + 0) + 0) ((1 * ((1 * r 6 + 0) + 0) + 0) + 0) ((1 * ((1 * r 9 + 0) + 0) + 0) + 0) ((1 * ((1 * r 12 + 0) + 0) + 0) + 0) ((1 * ((1 * r 15 + 0) + 0) + 0) + 0)) (yq_at ((1 * r 0 + 0) + 0) ((1 * ((1 * r 8 + 0) + 0) + 0) + 0) ((1 * ((1 * r 11 + 0) + 0) + 0) + 0) ((1 * ((1 * r 14 + 0) + 0) + 0) + 0) ((1 * ((1 * r 17 + 0) + 0) + 0) + 0)) (yq_at ((1 * r 2 + 0) + 0) ((1 * ((1 * r 8 + 0) + 0) + 0) + 0) ((1 * ((1 * r 11 + 0) + 0) + 0) + 0) ((1 * ((1 * r 14 + 0) + 0) + 0) + 0) ((1 * ((1 * r 17 + 0) + 0) + 0) + 0)) ∧ (g 3) = yq_xc ((1 * r 0 + 0) + 0) ((1 * r 1 + 0) + 0) ((1 * r 2 + 0) + 0) ((1 * r 3 + 0) + 0) ((1 * r 4 + 0) + 0) 0 (yq_at ((1 * r 0 + 0) + 0) ((1 * ((1 * r 6 + 0) + 0) + 0) + 0) ((1 * ((1 * r 9 + 0) + 0) + 0) + 0) ((1 * ((1 * r 12 + 0) + 0) + 0) + 0) ((1 * ((1 * r 15 + 0) + 0) + 0) + 0)) ((1 * ((1 * r 6 + 0) + 0) + 0) + 0) (yq_at ((1 * r 0 + 0) + 0) ((1 * ((1 * r 8 + 0) + 0) + 0) + 0) ((1 * ((1 * r 11 + 0) + 0) + 0) + 0) ((1 * ((1 * r 14 + 0) + 0) + 0) + 0) ((1 * ((1 * r 17 + 0) + 0) + 0) + 0)) ((1 * ((1 * r 8 + 0) + 0) + 0) + 0) ((1 * ((1 * r 7 + 0) + 0) + 0) + 0) (yq_fat ((1 * r 0 + 0) + 0) (g0 3) (g0 5) (g0 7) (g0 9)) (g0 3) ∧ (g 5) = yq_xc ((1 * r 0 + 0) + 0) ((1 * r 1 + 0) + 0) ((1 * r 2 + 0) + 0) ((1 * r 3 + 0) + 0) ((1 * r 4 + 0) + 0) 1 (yq_at ((1 * r 0 + 0) + 0) ((1 * ((1 * r 6 + 0) + 0) + 0) + 0) ((1 * ((1 * r 9 + 0) + 0) + 0) + 0) ((1 * ((1 * r 12 + 0) + 0) + 0) + 0) ((1 * ((1 * r 15 + 0) + 0) + 0) + 0)) ((1 * ((1 * r 9 + 0) + 0) + 0) + 0) (yq_at ((1 * r 0 + 0) + 0) ((1 * ((1 * r 8 + 0) + 0) + 0) + 0) ((1 * ((1 * r 11 + 0) + 0) + 0) + 0) ((1 * ((1 * r 14 + 0) + 0) + 0) + 0) ((1 * ((1 * r 17 + 0) + 0) + 0) + 0)) ((1 * ((1 * r 11 + 0) + 0) + 0) + 0) ((1 * ((1 * r 10 + 0) + 0) + 0) + 0) (yq_fat ((1 * r 0 + 0) + 0) (g0 3) (g0 5) (g0 7) (g0 9)) (g0 5) ∧ (g 7) = yq_xc ((1 * r 0 + 0) + 0) ((1 * r 1 + 0) + 0) ((1 * r 2 + 0) + 0) ((1 * r 3 + 0) + 0) ((1 * r 4 + 0) + 0) 2 (yq_at ((1 * r 0 + 0) + 0) ((1 * ((1 * r 6 + 0) + 0) + 0) + 0) ((1 * ((1 * r 9 + 0) + 0) + 0) + 0) ((1 * ((1 * r 12 + 0) + 0) + 0) + 0) ((1 * ((1 * r 15 + 0) + 0) + 0) + 0)) ((1 * ((1 * r 12 + 0) + 0) + 0) + 0) (yq_at ((1 * r 0 + 0) + 0) ((1 * ((1 * r 8 + 0) + 0) + 0) + 0) ((1 * ((1 * r 11 + 0) + 0) + 0) + 0) ((1 * ((1 * r 14 + 0) + 0) + 0) + 0) ((1 * ((1 * r 17 + 0) + 0) + 0) + 0)) ((1 * ((1 * r 14 + 0) + 0) + 0) + 0) ((1 * ((1 * r 13 + 0) + 0) + 0) + 0) (yq_fat ((1 * r 0 + 0) + 0) (g0 3) (g0 5) (g0 7) (g0 9)) (g0 7) ∧ (g 9) = yq_xc ((1 * r 0 + 0) + 0) ((1 * r 1 + 0) + 0) ((1 * r 2 + 0) + 0) ((1 * r 3 + 0) + 0) ((1 * r 4 + 0) + 0) 3 (yq_at ((1 * r 0 + 0) + 0) ((1 * ((1 * r 6 + 0) + 0) + 0) + 0) ((1 * ((1 * r 9 + 0) + 0) + 0) + 0) ((1 * ((1 * r 12 + 0) + 0) + 0) + 0) ((1 * ((1 * r 15 + 0) + 0) + 0) + 0)) ((1 * ((1 * r 15 + 0) + 0) + 0) + 0) (yq_at ((1 * r 0 + 0) + 0) ((1 * ((1 * r 8 + 0) + 0) + 0) + 0) ((1 * ((1 * r 11 + 0) + 0) + 0) + 0) ((1 * ((1 * r 14 + 0) + 0) + 0) + 0) ((1 * ((1 * r 17 + 0) + 0) + 0) + 0)) ((1 * ((1 * r 17 + 0) + 0) + 0) + 0) ((1 * ((1 * r 16 + 0) + 0) + 0) + 0) (yq_fat ((1 * r 0 + 0) + 0) (g0 3) (g0 5) (g0 7) (g0 9)) (g0 9)
  try simp only [Int.one_mul, Int.zero_add, Int.add_zero]
  refine ⟨?_, ?_, ?_, ?_, ?_⟩
  · rw [show r 0 = 2 by omega]
    rw [show r 2 = 0 by omega]
    simp only [yq_at0, yq_at2]
    unfold yq_cr
    repeat' split
    all_goals omega
  · rw [show r 0 = 2 by omega]
    simp only [yq_at2, yq_fat2]
    unfold yq_xc
    rw [if_neg (by omega)]
    rw [hgi]
  · rw [show r 0 = 2 by omega]
    simp only [yq_at2, yq_fat2]
    unfold yq_xc
    rw [if_neg (by omega)]
    rw [hgi]
  · rw [show r 0 = 2 by omega]
    simp only [yq_at2, yq_fat2]
    unfold yq_xc
    rw [if_neg (by omega)]
    rw [hgi]
  · rw [show r 0 = 2 by omega]
    simp only [yq_at2, yq_fat2]
    unfold yq_xc
    rw [if_neg (by omega)]
    rw [hgi]
theorem xw_40_0_57 : yt_hold xT_40 xk_40 xq_40.2.2.1 xG_40 xP_40 xU_40 18 xk_40.2.1.2.2.2 (fun g0 r g => xR_40 r g0 ∧ g = g0) (1000, ([(2, 2), (0, 100), (0, 0), (0, 100), (0, 100), ((-2147483648), 2147483647), (1, 1), ((-2147483648), 2147483647), (0, 100), (0, 1), ((-2147483648), 2147483647), (0, 100), (1, 1), ((-2147483648), 2147483647), (0, 100), (0, 1), ((-2147483648), 2147483647), (0, 100), ((-2147483648), 0)], [([(4, (-1)), (3, (-1))], 101), ([(3, (-1)), (8, 1), (4, (-1))], 0), ([(1, (-1)), (14, 1), (4, (-1))], 0)]), [([(4, 1)], 0), ([(18, 1)], 0)], [], [.inr (.inr (.inl (98, 0, [([(3, 1)], 0), ([(1, 1)], 0), ([(4, 1)], 0), ([(6, 1)], 0), ([(7, 1)], 0), ([(8, 1)], 0), ([(12, 1)], 0), ([(13, 1)], 0), ([(14, 1)], 0)], [2, 3, 6, 7], [3])))]) := by
  intro g0 r gi g hok hh hars hfr hG
  have b0 : 2 ≤ r 0 ∧ r 0 ≤ 2 := hok.1 0 (2, 2) rfl
  have b1 : 0 ≤ r 1 ∧ r 1 ≤ 100 := hok.1 1 (0, 100) rfl
  have b2 : 0 ≤ r 2 ∧ r 2 ≤ 0 := hok.1 2 (0, 0) rfl
  have b3 : 0 ≤ r 3 ∧ r 3 ≤ 100 := hok.1 3 (0, 100) rfl
  have b4 : 0 ≤ r 4 ∧ r 4 ≤ 100 := hok.1 4 (0, 100) rfl
  have b5 : (-2147483648) ≤ r 5 ∧ r 5 ≤ 2147483647 := hok.1 5 ((-2147483648), 2147483647) rfl
  have b6 : 1 ≤ r 6 ∧ r 6 ≤ 1 := hok.1 6 (1, 1) rfl
  have b7 : (-2147483648) ≤ r 7 ∧ r 7 ≤ 2147483647 := hok.1 7 ((-2147483648), 2147483647) rfl
  have b8 : 0 ≤ r 8 ∧ r 8 ≤ 100 := hok.1 8 (0, 100) rfl
  have b9 : 0 ≤ r 9 ∧ r 9 ≤ 1 := hok.1 9 (0, 1) rfl
  have b10 : (-2147483648) ≤ r 10 ∧ r 10 ≤ 2147483647 := hok.1 10 ((-2147483648), 2147483647) rfl
  have b11 : 0 ≤ r 11 ∧ r 11 ≤ 100 := hok.1 11 (0, 100) rfl
  have b12 : 1 ≤ r 12 ∧ r 12 ≤ 1 := hok.1 12 (1, 1) rfl
  have b13 : (-2147483648) ≤ r 13 ∧ r 13 ≤ 2147483647 := hok.1 13 ((-2147483648), 2147483647) rfl
  have b14 : 0 ≤ r 14 ∧ r 14 ≤ 100 := hok.1 14 (0, 100) rfl
  have b15 : 0 ≤ r 15 ∧ r 15 ≤ 1 := hok.1 15 (0, 1) rfl
  have b16 : (-2147483648) ≤ r 16 ∧ r 16 ≤ 2147483647 := hok.1 16 ((-2147483648), 2147483647) rfl
  have b17 : 0 ≤ r 17 ∧ r 17 ≤ 100 := hok.1 17 (0, 100) rfl
  have b18 : (-2147483648) ≤ r 18 ∧ r 18 ≤ 0 := hok.1 18 ((-2147483648), 0) rfl
  have f0 : 0 ≤ (((-1) * r 4 + ((-1) * r 3 + 0)) + 101) := hok.2 _ (List.mem_of_getElem? (i := 0) rfl)
  have f1 : 0 ≤ (((-1) * r 3 + (1 * r 8 + ((-1) * r 4 + 0))) + 0) := hok.2 _ (List.mem_of_getElem? (i := 1) rfl)
  have f2 : 0 ≤ (((-1) * r 1 + (1 * r 14 + ((-1) * r 4 + 0))) + 0) := hok.2 _ (List.mem_of_getElem? (i := 2) rfl)
  obtain ⟨hG, hgi⟩ := hG
  have hG : True := hG
  obtain ⟨h0, hh, e0, k0⟩ := hh
  have k0 : ∀ j, j ∉ [3] → g j = h0 j := k0
  have e0 : (g 3) = yq_pa ((1 * r 3 + 0) + 0) ((1 * r 1 + 0) + 0) ((1 * r 4 + 0) + 0) ((1 * r 7 + 0) + 0) (h0 7) (h0 3) := e0
  have hh : h0 = gi := hh
  subst hh
  refine yt_dalt (by decide) (by decide) ?_
  rw [show xk_40.2.1.2.1.1.length = 18 from rfl]
  show ((1 * r 4 + 0) + 0) = yq_cr ((1 * r 0 + 0) + 0) ((1 * r 1 + 0) + 0) ((1 * r 2 + 0) + 0) ((1 * r 3 + 0) + 0) ((1 * r 4 + 0) + 0) (yq_at ((1 * r 0 + 0) + 0) ((1 * ((1 * r 6 + 0) + 0) + 0) + 0) ((1 * ((1 * r 9 + 0) + 0) + 0) + 0) ((1 * ((1 * r 12 + 0) + 0) + 0) + 0) ((1 * ((1 * r 15 + 0) + 0) + 0) + 0)) (yq_at ((1 * r 2 + 0) + 0) ((1 * ((1 * r 6 + 0) + 0) + 0) + 0) ((1 * ((1 * r 9 + 0) + 0) + 0) + 0) ((1 * ((1 * r 12 + 0) + 0) + 0) + 0) ((1 * ((1 * r 15 + 0) + 0) + 0) + 0)) (yq_at ((1 * r 0 + 0) + 0) ((1 * ((1 * r 8 + 0) + 0) + 0) + 0) ((1 * ((1 * r 11 + 0) + 0) + 0) + 0) ((1 * ((1 * r 14 + 0) + 0) + 0) + 0) ((1 * ((1 * r 17 + 0) + 0) + 0) + 0)) (yq_at ((1 * r 2 + 0) + 0) ((1 * ((1 * r 8 + 0) + 0) + 0) + 0) ((1 * ((1 * r 11 + 0) + 0) + 0) + 0) ((1 * ((1 * r 14 + 0) + 0) + 0) + 0) ((1 * ((1 * r 17 + 0) + 0) + 0) + 0)) ∧ (g 3) = yq_xc ((1 * r 0 + 0) + 0) ((1 * r 1 + 0) + 0) ((1 * r 2 + 0) + 0) ((1 * r 3 + 0) + 0) ((1 * r 4 + 0) + 0) 0 (yq_at ((1 * r 0 + 0) + 0) ((1 * ((1 * r 6 + 0) + 0) + 0) + 0) ((1 * ((1 * r 9 + 0) + 0) + 0) + 0) ((1 * ((1 * r 12 + 0) + 0) + 0) + 0) ((1 * ((1 * r 15 + 0) + 0) + 0) + 0)) ((1 * ((1 * r 6 + 0) + 0) + 0) + 0) (yq_at ((1 * r 0 + 0) + 0) ((1 * ((1 * r 8 + 0) + 0) + 0) + 0) ((1 * ((1 * r 11 + 0) + 0) + 0) + 0) ((1 * ((1 * r 14 + 0) + 0) + 0) + 0) ((1 * ((1 * r 17 + 0) + 0) + 0) + 0)) ((1 * ((1 * r 8 + 0) + 0) + 0) + 0) ((1 * ((1 * r 7 + 0) + 0) + 0) + 0) (yq_fat ((1 * r 0 + 0) + 0) (g0 3) (g0 5) (g0 7) (g0 9)) (g0 3) ∧ (g 5) = yq_xc ((1 * r 0 + 0) + 0) ((1 * r 1 + 0) + 0) ((1 * r 2 + 0) + 0) ((1 * r 3 + 0) + 0) ((1 * r 4 + 0) + 0) 1 (yq_at ((1 * r 0 + 0) + 0) ((1 * ((1 * r 6 + 0) + 0) + 0) + 0) ((1 * ((1 * r 9 + 0) + 0) + 0) + 0) ((1 * ((1 * r 12 + 0) + 0) + 0) + 0) ((1 * ((1 * r 15 + 0) + 0) + 0) + 0)) ((1 * ((1 * r 9 + 0) + 0) + 0) + 0) (yq_at ((1 * r 0 + 0) + 0) ((1 * ((1 * r 8 + 0) + 0) + 0) + 0) ((1 * ((1 * r 11 + 0) + 0) + 0) + 0) ((1 * ((1 * r 14 + 0) + 0) + 0) + 0) ((1 * ((1 * r 17 + 0) + 0) + 0) + 0)) ((1 * ((1 * r 11 + 0) + 0) + 0) + 0) ((1 * ((1 * r 10 + 0) + 0) + 0) + 0) (yq_fat ((1 * r 0 + 0) + 0) (g0 3) (g0 5) (g0 7) (g0 9)) (g0 5) ∧ (g 7) = yq_xc ((1 * r 0 + 0) + 0) ((1 * r 1 + 0) + 0) ((1 * r 2 + 0) + 0) ((1 * r 3 + 0) + 0) ((1 * r 4 + 0) + 0) 2 (yq_at ((1 * r 0 + 0) + 0) ((1 * ((1 * r 6 + 0) + 0) + 0) + 0) ((1 * ((1 * r 9 + 0) + 0) + 0) + 0) ((1 * ((1 * r 12 + 0) + 0) + 0) + 0) ((1 * ((1 * r 15 + 0) + 0) + 0) + 0)) ((1 * ((1 * r 12 + 0) + 0) + 0) + 0) (yq_at ((1 * r 0 + 0) + 0) ((1 * ((1 * r 8 + 0) + 0) + 0) + 0) ((1 * ((1 * r 11 + 0) + 0) + 0) + 0) ((1 * ((1 * r 14 + 0) + 0) + 0) + 0) ((1 * ((1 * r 17 + 0) + 0) + 0) + 0)) ((1 * ((1 * r 14 + 0) + 0) + 0) + 0) ((1 * ((1 * r 13 + 0) + 0) + 0) + 0) (yq_fat ((1 * r 0 + 0) + 0) (g0 3) (g0 5) (g0 7) (g0 9)) (g0 7) ∧ (g 9) = yq_xc ((1 * r 0 + 0) + 0) ((1 * r 1 + 0) + 0) ((1 * r 2 + 0) + 0) ((1 * r 3 + 0) + 0) ((1 * r 4 + 0) + 0) 3 (yq_at ((1 * r 0 + 0) + 0) ((1 * ((1 * r 6 + 0) + 0) + 0) + 0) ((1 * ((1 * r 9 + 0) + 0) + 0) + 0) ((1 * ((1 * r 12 + 0) + 0) + 0) + 0) ((1 * ((1 * r 15 + 0) + 0) + 0) + 0)) ((1 * ((1 * r 15 + 0) + 0) + 0) + 0) (yq_at ((1 * r 0 + 0) + 0) ((1 * ((1 * r 8 + 0) + 0) + 0) + 0) ((1 * ((1 * r 11 + 0) + 0) + 0) + 0) ((1 * ((1 * r 14 + 0) + 0) + 0) + 0) ((1 * ((1 * r 17 + 0) + 0) + 0) + 0)) ((1 * ((1 * r 17 + 0) + 0) + 0) + 0) ((1 * ((1 * r 16 + 0) + 0) + 0) + 0) (yq_fat ((1 * r 0 + 0) + 0) (g0 3) (g0 5) (g0 7) (g0 9)) (g0 9)
  try simp only [Int.one_mul, Int.zero_add, Int.add_zero]
  try simp only [Int.one_mul, Int.zero_add, Int.add_zero] at e0
  refine ⟨?_, ?_, ?_, ?_, ?_⟩
  · rw [show r 0 = 2 by omega]
    rw [show r 2 = 0 by omega]
    simp only [yq_at0, yq_at2]
    unfold yq_cr
    repeat' split
    all_goals omega
  · rw [show r 0 = 2 by omega]
    simp only [yq_at2, yq_fat2]
    unfold yq_xc
    rw [if_pos (by omega), e0, hgi]
  · rw [show r 0 = 2 by omega]
    simp only [yq_at2, yq_fat2]
    unfold yq_xc
    rw [if_neg (by omega)]
    rw [k0 5 (by decide), hgi]
  · rw [show r 0 = 2 by omega]
    simp only [yq_at2, yq_fat2]
    unfold yq_xc
    rw [if_neg (by omega)]
    rw [k0 7 (by decide), hgi]
  · rw [show r 0 = 2 by omega]
    simp only [yq_at2, yq_fat2]
    unfold yq_xc
    rw [if_neg (by omega)]
    rw [k0 9 (by decide), hgi]
theorem xw_40_0_58 : yt_hold xT_40 xk_40 xq_40.2.2.1 xG_40 xP_40 xU_40 18 xk_40.2.1.2.2.2 (fun g0 r g => xR_40 r g0 ∧ g = g0) (1000, ([(2, 2), ((-2147483648), 2147483647), (0, 0), ((-2147483648), 2147483647), (0, 2147483647), ((-2147483648), 2147483647), (0, 0), ((-2147483648), 2147483647), (0, 100), (0, 1), ((-2147483648), 2147483647), (0, 100), (1, 1), ((-2147483648), 2147483647), (0, 100), (0, 1), ((-2147483648), 2147483647), (0, 100), ((-2147483648), 0)], []), [([], (-2)), ([(18, 1)], 0)], [], []) := by
  intro g0 r gi g hok hh hars hfr hG
  have b0 : 2 ≤ r 0 ∧ r 0 ≤ 2 := hok.1 0 (2, 2) rfl
  have b1 : (-2147483648) ≤ r 1 ∧ r 1 ≤ 2147483647 := hok.1 1 ((-2147483648), 2147483647) rfl
  have b2 : 0 ≤ r 2 ∧ r 2 ≤ 0 := hok.1 2 (0, 0) rfl
  have b3 : (-2147483648) ≤ r 3 ∧ r 3 ≤ 2147483647 := hok.1 3 ((-2147483648), 2147483647) rfl
  have b4 : 0 ≤ r 4 ∧ r 4 ≤ 2147483647 := hok.1 4 (0, 2147483647) rfl
  have b5 : (-2147483648) ≤ r 5 ∧ r 5 ≤ 2147483647 := hok.1 5 ((-2147483648), 2147483647) rfl
  have b6 : 0 ≤ r 6 ∧ r 6 ≤ 0 := hok.1 6 (0, 0) rfl
  have b7 : (-2147483648) ≤ r 7 ∧ r 7 ≤ 2147483647 := hok.1 7 ((-2147483648), 2147483647) rfl
  have b8 : 0 ≤ r 8 ∧ r 8 ≤ 100 := hok.1 8 (0, 100) rfl
  have b9 : 0 ≤ r 9 ∧ r 9 ≤ 1 := hok.1 9 (0, 1) rfl
  have b10 : (-2147483648) ≤ r 10 ∧ r 10 ≤ 2147483647 := hok.1 10 ((-2147483648), 2147483647) rfl
  have b11 : 0 ≤ r 11 ∧ r 11 ≤ 100 := hok.1 11 (0, 100) rfl
  have b12 : 1 ≤ r 12 ∧ r 12 ≤ 1 := hok.1 12 (1, 1) rfl
  have b13 : (-2147483648) ≤ r 13 ∧ r 13 ≤ 2147483647 := hok.1 13 ((-2147483648), 2147483647) rfl
  have b14 : 0 ≤ r 14 ∧ r 14 ≤ 100 := hok.1 14 (0, 100) rfl
  have b15 : 0 ≤ r 15 ∧ r 15 ≤ 1 := hok.1 15 (0, 1) rfl
  have b16 : (-2147483648) ≤ r 16 ∧ r 16 ≤ 2147483647 := hok.1 16 ((-2147483648), 2147483647) rfl
  have b17 : 0 ≤ r 17 ∧ r 17 ≤ 100 := hok.1 17 (0, 100) rfl
  have b18 : (-2147483648) ≤ r 18 ∧ r 18 ≤ 0 := hok.1 18 ((-2147483648), 0) rfl
  obtain ⟨hG, hgi⟩ := hG
  have hG : True := hG
  have hh : g = gi := hh
  subst hh
  refine yt_dalt (by decide) (by decide) ?_
  rw [show xk_40.2.1.2.1.1.length = 18 from rfl]
  show ((0 : Int) + (-2)) = yq_cr ((1 * r 0 + 0) + 0) ((1 * r 1 + 0) + 0) ((1 * r 2 + 0) + 0) ((1 * r 3 + 0) + 0) ((1 * r 4 + 0) + 0) (yq_at ((1 * r 0 + 0) + 0) ((1 * ((1 * r 6 + 0) + 0) + 0) + 0) ((1 * ((1 * r 9 + 0) + 0) + 0) + 0) ((1 * ((1 * r 12 + 0) + 0) + 0) + 0) ((1 * ((1 * r 15 + 0) + 0) + 0) + 0)) (yq_at ((1 * r 2 + 0) + 0) ((1 * ((1 * r 6 + 0) + 0) + 0) + 0) ((1 * ((1 * r 9 + 0) + 0) + 0) + 0) ((1 * ((1 * r 12 + 0) + 0) + 0) + 0) ((1 * ((1 * r 15 + 0) + 0) + 0) + 0)) (yq_at ((1 * r 0 + 0) + 0) ((1 * ((1 * r 8 + 0) + 0) + 0) + 0) ((1 * ((1 * r 11 + 0) + 0) + 0) + 0) ((1 * ((1 * r 14 + 0) + 0) + 0) + 0) ((1 * ((1 * r 17 + 0) + 0) + 0) + 0)) (yq_at ((1 * r 2 + 0) + 0) ((1 * ((1 * r 8 + 0) + 0) + 0) + 0) ((1 * ((1 * r 11 + 0) + 0) + 0) + 0) ((1 * ((1 * r 14 + 0) + 0) + 0) + 0) ((1 * ((1 * r 17 + 0) + 0) + 0) + 0)) ∧ (g 3) = yq_xc ((1 * r 0 + 0) + 0) ((1 * r 1 + 0) + 0) ((1 * r 2 + 0) + 0) ((1 * r 3 + 0) + 0) ((1 * r 4 + 0) + 0) 0 (yq_at ((1 * r 0 + 0) + 0) ((1 * ((1 * r 6 + 0) + 0) + 0) + 0) ((1 * ((1 * r 9 + 0) + 0) + 0) + 0) ((1 * ((1 * r 12 + 0) + 0) + 0) + 0) ((1 * ((1 * r 15 + 0) + 0) + 0) + 0)) ((1 * ((1 * r 6 + 0) + 0) + 0) + 0) (yq_at ((1 * r 0 + 0) + 0) ((1 * ((1 * r 8 + 0) + 0) + 0) + 0) ((1 * ((1 * r 11 + 0) + 0) + 0) + 0) ((1 * ((1 * r 14 + 0) + 0) + 0) + 0) ((1 * ((1 * r 17 + 0) + 0) + 0) + 0)) ((1 * ((1 * r 8 + 0) + 0) + 0) + 0) ((1 * ((1 * r 7 + 0) + 0) + 0) + 0) (yq_fat ((1 * r 0 + 0) + 0) (g0 3) (g0 5) (g0 7) (g0 9)) (g0 3) ∧ (g 5) = yq_xc ((1 * r 0 + 0) + 0) ((1 * r 1 + 0) + 0) ((1 * r 2 + 0) + 0) ((1 * r 3 + 0) + 0) ((1 * r 4 + 0) + 0) 1 (yq_at ((1 * r 0 + 0) + 0) ((1 * ((1 * r 6 + 0) + 0) + 0) + 0) ((1 * ((1 * r 9 + 0) + 0) + 0) + 0) ((1 * ((1 * r 12 + 0) + 0) + 0) + 0) ((1 * ((1 * r 15 + 0) + 0) + 0) + 0)) ((1 * ((1 * r 9 + 0) + 0) + 0) + 0) (yq_at ((1 * r 0 + 0) + 0) ((1 * ((1 * r 8 + 0) + 0) + 0) + 0) ((1 * ((1 * r 11 + 0) + 0) + 0) + 0) ((1 * ((1 * r 14 + 0) + 0) + 0) + 0) ((1 * ((1 * r 17 + 0) + 0) + 0) + 0)) ((1 * ((1 * r 11 + 0) + 0) + 0) + 0) ((1 * ((1 * r 10 + 0) + 0) + 0) + 0) (yq_fat ((1 * r 0 + 0) + 0) (g0 3) (g0 5) (g0 7) (g0 9)) (g0 5) ∧ (g 7) = yq_xc ((1 * r 0 + 0) + 0) ((1 * r 1 + 0) + 0) ((1 * r 2 + 0) + 0) ((1 * r 3 + 0) + 0) ((1 * r 4 + 0) + 0) 2 (yq_at ((1 * r 0 + 0) + 0) ((1 * ((1 * r 6 + 0) + 0) + 0) + 0) ((1 * ((1 * r 9 + 0) + 0) + 0) + 0) ((1 * ((1 * r 12 + 0) + 0) + 0) + 0) ((1 * ((1 * r 15 + 0) + 0) + 0) + 0)) ((1 * ((1 * r 12 + 0) + 0) + 0) + 0) (yq_at ((1 * r 0 + 0) + 0) ((1 * ((1 * r 8 + 0) + 0) + 0) + 0) ((1 * ((1 * r 11 + 0) + 0) + 0) + 0) ((1 * ((1 * r 14 + 0) + 0) + 0) + 0) ((1 * ((1 * r 17 + 0) + 0) + 0) + 0)) ((1 * ((1 * r 14 + 0) + 0) + 0) + 0) ((1 * ((1 * r 13 + 0) + 0) + 0) + 0) (yq_fat ((1 * r 0 + 0) + 0) (g0 3) (g0 5) (g0 7) (g0 9)) (g0 7) ∧ (g 9) = yq_xc ((1 * r 0 + 0) + 0) ((1 * r 1 + 0) + 0) ((1 * r 2 + 0) + 0) ((1 * r 3 + 0) + 0) ((1 * r 4 + 0) + 0) 3 (yq_at ((1 * r 0 + 0) + 0) ((1 * ((1 * r 6 + 0) + 0) + 0) + 0) ((1 * ((1 * r 9 + 0) + 0) + 0) + 0) ((1 * ((1 * r 12 + 0) + 0) + 0) + 0) ((1 * ((1 * r 15 + 0) + 0) + 0) + 0)) ((1 * ((1 * r 15 + 0) + 0) + 0) + 0) (yq_at ((1 * r 0 + 0) + 0) ((1 * ((1 * r 8 + 0) + 0) + 0) + 0) ((1 * ((1 * r 11 + 0) + 0) + 0) + 0) ((1 * ((1 * r 14 + 0) + 0) + 0) + 0) ((1 * ((1 * r 17 + 0) + 0) + 0) + 0)) ((1 * ((1 * r 17 + 0) + 0) + 0) + 0) ((1 * ((1 * r 16 + 0) + 0) + 0) + 0) (yq_fat ((1 * r 0 + 0) + 0) (g0 3) (g0 5) (g0 7) (g0 9)) (g0 9)
  try simp only [Int.one_mul, Int.zero_add, Int.add_zero]
  refine ⟨?_, ?_, ?_, ?_, ?_⟩
  · rw [show r 0 = 2 by omega]
    rw [show r 2 = 0 by omega]
    simp only [yq_at0, yq_at2]
    unfold yq_cr
    repeat' split
    all_goals omega
  · rw [show r 0 = 2 by omega]
    simp only [yq_at2, yq_fat2]
    unfold yq_xc
    rw [if_neg (by omega)]
    rw [hgi]
  · rw [show r 0 = 2 by omega]
    simp only [yq_at2, yq_fat2]
    unfold yq_xc
    rw [if_neg (by omega)]
    rw [hgi]
  · rw [show r 0 = 2 by omega]
    simp only [yq_at2, yq_fat2]
    unfold yq_xc
    rw [if_neg (by omega)]
    rw [hgi]
  · rw [show r 0 = 2 by omega]
    simp only [yq_at2, yq_fat2]
    unfold yq_xc
    rw [if_neg (by omega)]
    rw [hgi]
theorem xw_40_0_59 : yt_hold xT_40 xk_40 xq_40.2.2.1 xG_40 xP_40 xU_40 18 xk_40.2.1.2.2.2 (fun g0 r g => xR_40 r g0 ∧ g = g0) (1000, ([(2, 2), ((-2147483648), (-1)), (1, 1), ((-2147483648), 2147483647), (0, 2147483647), ((-2147483648), 2147483647), (0, 1), ((-2147483648), 2147483647), (0, 100), (1, 1), ((-2147483648), 2147483647), (0, 100), (1, 1), ((-2147483648), 2147483647), (0, 100), (0, 1), ((-2147483648), 2147483647), (0, 100), ((-2147483648), 0)], []), [([], (-3)), ([(18, 1)], 0)], [], []) := by
  intro g0 r gi g hok hh hars hfr hG
  have b0 : 2 ≤ r 0 ∧ r 0 ≤ 2 := hok.1 0 (2, 2) rfl
  have b1 : (-2147483648) ≤ r 1 ∧ r 1 ≤ (-1) := hok.1 1 ((-2147483648), (-1)) rfl
  have b2 : 1 ≤ r 2 ∧ r 2 ≤ 1 := hok.1 2 (1, 1) rfl
  have b3 : (-2147483648) ≤ r 3 ∧ r 3 ≤ 2147483647 := hok.1 3 ((-2147483648), 2147483647) rfl
  have b4 : 0 ≤ r 4 ∧ r 4 ≤ 2147483647 := hok.1 4 (0, 2147483647) rfl
  have b5 : (-2147483648) ≤ r 5 ∧ r 5 ≤ 2147483647 := hok.1 5 ((-2147483648), 2147483647) rfl
  have b6 : 0 ≤ r 6 ∧ r 6 ≤ 1 := hok.1 6 (0, 1) rfl
  have b7 : (-2147483648) ≤ r 7 ∧ r 7 ≤ 2147483647 := hok.1 7 ((-2147483648), 2147483647) rfl
  have b8 : 0 ≤ r 8 ∧ r 8 ≤ 100 := hok.1 8 (0, 100) rfl
  have b9 : 1 ≤ r 9 ∧ r 9 ≤ 1 := hok.1 9 (1, 1) rfl
  have b10 : (-2147483648) ≤ r 10 ∧ r 10 ≤ 2147483647 := hok.1 10 ((-2147483648), 2147483647) rfl
  have b11 : 0 ≤ r 11 ∧ r 11 ≤ 100 := hok.1 11 (0, 100) rfl
  have b12 : 1 ≤ r 12 ∧ r 12 ≤ 1 := hok.1 12 (1, 1) rfl
  have b13 : (-2147483648) ≤ r 13 ∧ r 13 ≤ 2147483647 := hok.1 13 ((-2147483648), 2147483647) rfl
  have b14 : 0 ≤ r 14 ∧ r 14 ≤ 100 := hok.1 14 (0, 100) rfl
  have b15 : 0 ≤ r 15 ∧ r 15 ≤ 1 := hok.1 15 (0, 1) rfl
  have b16 : (-2147483648) ≤ r 16 ∧ r 16 ≤ 2147483647 := hok.1 16 ((-2147483648), 2147483647) rfl
  have b17 : 0 ≤ r 17 ∧ r 17 ≤ 100 := hok.1 17 (0, 100) rfl
  have b18 : (-2147483648) ≤ r 18 ∧ r 18 ≤ 0 := hok.1 18 ((-2147483648), 0) rfl
  obtain ⟨hG, hgi⟩ := hG
  have hG : True := hG
  have hh : g = gi := hh
  subst hh
  refine yt_dalt (by decide) (by decide) ?_
  rw [show xk_40.2.1.2.1.1.length = 18 from rfl]
  show ((0 : Int) + (-3)) = yq_cr ((1 * r 0 + 0) + 0) ((1 * r 1 + 0) + 0) ((1 * r 2 + 0) + 0) ((1 * r 3 + 0) + 0) ((1 * r 4 + 0) + 0) (yq_at ((1 * r 0 + 0) + 0) ((1 * ((1 * r 6 + 0) + 0) + 0) + 0) ((1 * ((1 * r 9 + 0) + 0) + 0) + 0) ((1 * ((1 * r 12 + 0) + 0) + 0) + 0) ((1 * ((1 * r 15 + 0) + 0) + 0) + 0)) (yq_at ((1 * r 2 + 0) + 0) ((1 * ((1 * r 6 + 0) + 0) + 0) + 0) ((1 * ((1 * r 9 + 0) + 0) + 0) + 0) ((1 * ((1 * r 12 + 0) + 0) + 0) + 0) ((1 * ((1 * r 15 + 0) + 0) + 0) + 0)) (yq_at ((1 * r 0 + 0) + 0) ((1 * ((1 * r 8 + 0) + 0) + 0) + 0) ((1 * ((1 * r 11 + 0) + 0) + 0) + 0) ((1 * ((1 * r 14 + 0) + 0) + 0) + 0) ((1 * ((1 * r 17 + 0) + 0) + 0) + 0)) (yq_at ((1 * r 2 + 0) + 0) ((1 * ((1 * r 8 + 0) + 0) + 0) + 0) ((1 * ((1 * r 11 + 0) + 0) + 0) + 0) ((1 * ((1 * r 14 + 0) + 0) + 0) + 0) ((1 * ((1 * r 17 + 0) + 0) + 0) + 0)) ∧ (g 3) = yq_xc ((1 * r 0 + 0) + 0) ((1 * r 1 + 0) + 0) ((1 * r 2 + 0) + 0) ((1 * r 3 + 0) + 0) ((1 * r 4 + 0) + 0) 0 (yq_at ((1 * r 0 + 0) + 0) ((1 * ((1 * r 6 + 0) + 0) + 0) + 0) ((1 * ((1 * r 9 + 0) + 0) + 0) + 0) ((1 * ((1 * r 12 + 0) + 0) + 0) + 0) ((1 * ((1 * r 15 + 0) + 0) + 0) + 0)) ((1 * ((1 * r 6 + 0) + 0) + 0) + 0) (yq_at ((1 * r 0 + 0) + 0) ((1 * ((1 * r 8 + 0) + 0) + 0) + 0) ((1 * ((1 * r 11 + 0) + 0) + 0) + 0) ((1 * ((1 * r 14 + 0) + 0) + 0) + 0) ((1 * ((1 * r 17 + 0) + 0) + 0) + 0)) ((1 * ((1 * r 8 + 0) + 0) + 0) + 0) ((1 * ((1 * r 7 + 0) + 0) + 0) + 0) (yq_fat ((1 * r 0 + 0) + 0) (g0 3) (g0 5) (g0 7) (g0 9)) (g0 3) ∧ (g 5) = yq_xc ((1 * r 0 + 0) + 0) ((1 * r 1 + 0) + 0) ((1 * r 2 + 0) + 0) ((1 * r 3 + 0) + 0) ((1 * r 4 + 0) + 0) 1 (yq_at ((1 * r 0 + 0) + 0) ((1 * ((1 * r 6 + 0) + 0) + 0) + 0) ((1 * ((1 * r 9 + 0) + 0) + 0) + 0) ((1 * ((1 * r 12 + 0) + 0) + 0) + 0) ((1 * ((1 * r 15 + 0) + 0) + 0) + 0)) ((1 * ((1 * r 9 + 0) + 0) + 0) + 0) (yq_at ((1 * r 0 + 0) + 0) ((1 * ((1 * r 8 + 0) + 0) + 0) + 0) ((1 * ((1 * r 11 + 0) + 0) + 0) + 0) ((1 * ((1 * r 14 + 0) + 0) + 0) + 0) ((1 * ((1 * r 17 + 0) + 0) + 0) + 0)) ((1 * ((1 * r 11 + 0) + 0) + 0) + 0) ((1 * ((1 * r 10 + 0) + 0) + 0) + 0) (yq_fat ((1 * r 0 + 0) + 0) (g0 3) (g0 5) (g0 7) (g0 9)) (g0 5) ∧ (g 7) = yq_xc ((1 * r 0 + 0) + 0) ((1 * r 1 + 0) + 0) ((1 * r 2 + 0) + 0) ((1 * r 3 + 0) + 0) ((1 * r 4 + 0) + 0) 2 (yq_at ((1 * r 0 + 0) + 0) ((1 * ((1 * r 6 + 0) + 0) + 0) + 0) ((1 * ((1 * r 9 + 0) + 0) + 0) + 0) ((1 * ((1 * r 12 + 0) + 0) + 0) + 0) ((1 * ((1 * r 15 + 0) + 0) + 0) + 0)) ((1 * ((1 * r 12 + 0) + 0) + 0) + 0) (yq_at ((1 * r 0 + 0) + 0) ((1 * ((1 * r 8 + 0) + 0) + 0) + 0) ((1 * ((1 * r 11 + 0) + 0) + 0) + 0) ((1 * ((1 * r 14 + 0) + 0) + 0) + 0) ((1 * ((1 * r 17 + 0) + 0) + 0) + 0)) ((1 * ((1 * r 14 + 0) + 0) + 0) + 0) ((1 * ((1 * r 13 + 0) + 0) + 0) + 0) (yq_fat ((1 * r 0 + 0) + 0) (g0 3) (g0 5) (g0 7) (g0 9)) (g0 7) ∧ (g 9) = yq_xc ((1 * r 0 + 0) + 0) ((1 * r 1 + 0) + 0) ((1 * r 2 + 0) + 0) ((1 * r 3 + 0) + 0) ((1 * r 4 + 0) + 0) 3 (yq_at ((1 * r 0 + 0) + 0) ((1 * ((1 * r 6 + 0) + 0) + 0) + 0) ((1 * ((1 * r 9 + 0) + 0) + 0) + 0) ((1 * ((1 * r 12 + 0) + 0) + 0) + 0) ((1 * ((1 * r 15 + 0) + 0) + 0) + 0)) ((1 * ((1 * r 15 + 0) + 0) + 0) + 0) (yq_at ((1 * r 0 + 0) + 0) ((1 * ((1 * r 8 + 0) + 0) + 0) + 0) ((1 * ((1 * r 11 + 0) + 0) + 0) + 0) ((1 * ((1 * r 14 + 0) + 0) + 0) + 0) ((1 * ((1 * r 17 + 0) + 0) + 0) + 0)) ((1 * ((1 * r 17 + 0) + 0) + 0) + 0) ((1 * ((1 * r 16 + 0) + 0) + 0) + 0) (yq_fat ((1 * r 0 + 0) + 0) (g0 3) (g0 5) (g0 7) (g0 9)) (g0 9)
  try simp only [Int.one_mul, Int.zero_add, Int.add_zero]
  refine ⟨?_, ?_, ?_, ?_, ?_⟩
  · rw [show r 0 = 2 by omega]
    rw [show r 2 = 1 by omega]
    simp only [yq_at1, yq_at2]
    unfold yq_cr
    repeat' split
    all_goals omega
  · rw [show r 0 = 2 by omega]
    simp only [yq_at2, yq_fat2]
    unfold yq_xc
    rw [if_neg (by omega)]
    rw [hgi]
  · rw [show r 0 = 2 by omega]
    simp only [yq_at2, yq_fat2]
    unfold yq_xc
    rw [if_neg (by omega)]
    rw [hgi]
  · rw [show r 0 = 2 by omega]
    simp only [yq_at2, yq_fat2]
    unfold yq_xc
    rw [if_neg (by omega)]
    rw [hgi]
  · rw [show r 0 = 2 by omega]
    simp only [yq_at2, yq_fat2]
    unfold yq_xc
    rw [if_neg (by omega)]
    rw [hgi]
theorem xw_40_0_60 : yt_hold xT_40 xk_40 xq_40.2.2.1 xG_40 xP_40 xU_40 18 xk_40.2.1.2.2.2 (fun g0 r g => xR_40 r g0 ∧ g = g0) (1000, ([(2, 2), (0, 2147483647), (1, 1), ((-2147483648), 2147483647), (0, 2147483647), ((-2147483648), 2147483647), (0, 1), ((-2147483648), 2147483647), (0, 100), (1, 1), ((-2147483648), 2147483647), (0, 100), (1, 1), ((-2147483648), 2147483647), (0, 100), (0, 1), ((-2147483648), 2147483647), (0, 100), ((-2147483648), 0)], [([(1, 1), (14, (-1)), (4, 1)], (-1))]), [([], (-3)), ([(18, 1)], 0)], [], []) := by
  intro g0 r gi g hok hh hars hfr hG
  have b0 : 2 ≤ r 0 ∧ r 0 ≤ 2 := hok.1 0 (2, 2) rfl
  have b1 : 0 ≤ r 1 ∧ r 1 ≤ 2147483647 := hok.1 1 (0, 2147483647) rfl
  have b2 : 1 ≤ r 2 ∧ r 2 ≤ 1 := hok.1 2 (1, 1) rfl
  have b3 : (-2147483648) ≤ r 3 ∧ r 3 ≤ 2147483647 := hok.1 3 ((-2147483648), 2147483647) rfl
  have b4 : 0 ≤ r 4 ∧ r 4 ≤ 2147483647 := hok.1 4 (0, 2147483647) rfl
  have b5 : (-2147483648) ≤ r 5 ∧ r 5 ≤ 2147483647 := hok.1 5 ((-2147483648), 2147483647) rfl
  have b6 : 0 ≤ r 6 ∧ r 6 ≤ 1 := hok.1 6 (0, 1) rfl
  have b7 : (-2147483648) ≤ r 7 ∧ r 7 ≤ 2147483647 := hok.1 7 ((-2147483648), 2147483647) rfl
  have b8 : 0 ≤ r 8 ∧ r 8 ≤ 100 := hok.1 8 (0, 100) rfl
  have b9 : 1 ≤ r 9 ∧ r 9 ≤ 1 := hok.1 9 (1, 1) rfl
  have b10 : (-2147483648) ≤ r 10 ∧ r 10 ≤ 2147483647 := hok.1 10 ((-2147483648), 2147483647) rfl
  have b11 : 0 ≤ r 11 ∧ r 11 ≤ 100 := hok.1 11 (0, 100) rfl
  have b12 : 1 ≤ r 12 ∧ r 12 ≤ 1 := hok.1 12 (1, 1) rfl
  have b13 : (-2147483648) ≤ r 13 ∧ r 13 ≤ 2147483647 := hok.1 13 ((-2147483648), 2147483647) rfl
  have b14 : 0 ≤ r 14 ∧ r 14 ≤ 100 := hok.1 14 (0, 100) rfl
  have b15 : 0 ≤ r 15 ∧ r 15 ≤ 1 := hok.1 15 (0, 1) rfl
  have b16 : (-2147483648) ≤ r 16 ∧ r 16 ≤ 2147483647 := hok.1 16 ((-2147483648), 2147483647) rfl
  have b17 : 0 ≤ r 17 ∧ r 17 ≤ 100 := hok.1 17 (0, 100) rfl
  have b18 : (-2147483648) ≤ r 18 ∧ r 18 ≤ 0 := hok.1 18 ((-2147483648), 0) rfl
  have f0 : 0 ≤ ((1 * r 1 + ((-1) * r 14 + (1 * r 4 + 0))) + (-1)) := hok.2 _ (List.mem_of_getElem? (i := 0) rfl)
  obtain ⟨hG, hgi⟩ := hG
  have hG : True := hG
  have hh : g = gi := hh
  subst hh
  refine yt_dalt (by decide) (by decide) ?_
  rw [show xk_40.2.1.2.1.1.length = 18 from rfl]
  show ((0 : Int) + (-3)) = yq_cr ((1 * r 0 + 0) + 0) ((1 * r 1 + 0) + 0) ((1 * r 2 + 0) + 0) ((1 * r 3 + 0) + 0) ((1 * r 4 + 0) + 0) (yq_at ((1 * r 0 + 0) + 0) ((1 * ((1 * r 6 + 0) + 0) + 0) + 0) ((1 * ((1 * r 9 + 0) + 0) + 0) + 0) ((1 * ((1 * r 12 + 0) + 0) + 0) + 0) ((1 * ((1 * r 15 + 0) + 0) + 0) + 0)) (yq_at ((1 * r 2 + 0) + 0) ((1 * ((1 * r 6 + 0) + 0) + 0) + 0) ((1 * ((1 * r 9 + 0) + 0) + 0) + 0) ((1 * ((1 * r 12 + 0) + 0) + 0) + 0) ((1 * ((1 * r 15 + 0) + 0) + 0) + 0)) (yq_at ((1 * r 0 + 0) + 0) ((1 * ((1 * r 8 + 0) + 0) + 0) + 0) ((1 * ((1 * r 11 + 0) + 0) + 0) + 0) ((1 * ((1 * r 14 + 0) + 0) + 0) + 0) ((1 * ((1 * r 17 + 0) + 0) + 0) + 0)) (yq_at ((1 * r 2 + 0) + 0) ((1 * ((1 * r 8 + 0) + 0) + 0) + 0) ((1 * ((1 * r 11 + 0) + 0) + 0) + 0) ((1 * ((1 * r 14 + 0) + 0) + 0) + 0) ((1 * ((1 * r 17 + 0) + 0) + 0) + 0)) ∧ (g 3) = yq_xc ((1 * r 0 + 0) + 0) ((1 * r 1 + 0) + 0) ((1 * r 2 + 0) + 0) ((1 * r 3 + 0) + 0) ((1 * r 4 + 0) + 0) 0 (yq_at ((1 * r 0 + 0) + 0) ((1 * ((1 * r 6 + 0) + 0) + 0) + 0) ((1 * ((1 * r 9 + 0) + 0) + 0) + 0) ((1 * ((1 * r 12 + 0) + 0) + 0) + 0) ((1 * ((1 * r 15 + 0) + 0) + 0) + 0)) ((1 * ((1 * r 6 + 0) + 0) + 0) + 0) (yq_at ((1 * r 0 + 0) + 0) ((1 * ((1 * r 8 + 0) + 0) + 0) + 0) ((1 * ((1 * r 11 + 0) + 0) + 0) + 0) ((1 * ((1 * r 14 + 0) + 0) + 0) + 0) ((1 * ((1 * r 17 + 0) + 0) + 0) + 0)) ((1 * ((1 * r 8 + 0) + 0) + 0) + 0) ((1 * ((1 * r 7 + 0) + 0) + 0) + 0) (yq_fat ((1 * r 0 + 0) + 0) (g0 3) (g0 5) (g0 7) (g0 9)) (g0 3) ∧ (g 5) = yq_xc ((1 * r 0 + 0) + 0) ((1 * r 1 + 0) + 0) ((1 * r 2 + 0) + 0) ((1 * r 3 + 0) + 0) ((1 * r 4 + 0) + 0) 1 (yq_at ((1 * r 0 + 0) + 0) ((1 * ((1 * r 6 + 0) + 0) + 0) + 0) ((1 * ((1 * r 9 + 0) + 0) + 0) + 0) ((1 * ((1 * r 12 + 0) + 0) + 0) + 0) ((1 * ((1 * r 15 + 0) + 0) + 0) + 0)) ((1 * ((1 * r 9 + 0) + 0) + 0) + 0) (yq_at ((1 * r 0 + 0) + 0) ((1 * ((1 * r 8 + 0) + 0) + 0) + 0) ((1 * ((1 * r 11 + 0) + 0) + 0) + 0) ((1 * ((1 * r 14 + 0) + 0) + 0) + 0) ((1 * ((1 * r 17 + 0) + 0) + 0) + 0)) ((1 * ((1 * r 11 + 0) + 0) + 0) + 0) ((1 * ((1 * r 10 + 0) + 0) + 0) + 0) (yq_fat ((1 * r 0 + 0) + 0) (g0 3) (g0 5) (g0 7) (g0 9)) (g0 5) ∧ (g 7) = yq_xc ((1 * r 0 + 0) + 0) ((1 * r 1 + 0) + 0) ((1 * r 2 + 0) + 0) ((1 * r 3 + 0) + 0) ((1 * r 4 + 0) + 0) 2 (yq_at ((1 * r 0 + 0) + 0) ((1 * ((1 * r 6 + 0) + 0) + 0) + 0) ((1 * ((1 * r 9 + 0) + 0) + 0) + 0) ((1 * ((1 * r 12 + 0) + 0) + 0) + 0) ((1 * ((1 * r 15 + 0) + 0) + 0) + 0)) ((1 * ((1 * r 12 + 0) + 0) + 0) + 0) (yq_at ((1 * r 0 + 0) + 0) ((1 * ((1 * r 8 + 0) + 0) + 0) + 0) ((1 * ((1 * r 11 + 0) + 0) + 0) + 0) ((1 * ((1 * r 14 + 0) + 0) + 0) + 0) ((1 * ((1 * r 17 + 0) + 0) + 0) + 0)) ((1 * ((1 * r 14 + 0) + 0) + 0) + 0) ((1 * ((1 * r 13 + 0) + 0) + 0) + 0) (yq_fat ((1 * r 0 + 0) + 0) (g0 3) (g0 5) (g0 7) (g0 9)) (g0 7) ∧ (g 9) = yq_xc ((1 * r 0 + 0) + 0) ((1 * r 1 + 0) + 0) ((1 * r 2 + 0) + 0) ((1 * r 3 + 0) + 0) ((1 * r 4 + 0) + 0) 3 (yq_at ((1 * r 0 + 0) + 0) ((1 * ((1 * r 6 + 0) + 0) + 0) + 0) ((1 * ((1 * r 9 + 0) + 0) + 0) + 0) ((1 * ((1 * r 12 + 0) + 0) + 0) + 0) ((1 * ((1 * r 15 + 0) + 0) + 0) + 0)) ((1 * ((1 * r 15 + 0) + 0) + 0) + 0) (yq_at ((1 * r 0 + 0) + 0) ((1 * ((1 * r 8 + 0) + 0) + 0) + 0) ((1 * ((1 * r 11 + 0) + 0) + 0) + 0) ((1 * ((1 * r 14 + 0) + 0) + 0) + 0) ((1 * ((1 * r 17 + 0) + 0) + 0) + 0)) ((1 * ((1 * r 17 + 0) + 0) + 0) + 0) ((1 * ((1 * r 16 + 0) + 0) + 0) + 0) (yq_fat ((1 * r 0 + 0) + 0) (g0 3) (g0 5) (g0 7) (g0 9)) (g0 9)
  try simp only [Int.one_mul, Int.zero_add, Int.add_zero]
  refine ⟨?_, ?_, ?_, ?_, ?_⟩
  · rw [show r 0 = 2 by omega]
    rw [show r 2 = 1 by omega]
    simp only [yq_at1, yq_at2]
    unfold yq_cr
    repeat' split
    all_goals omega
  · rw [show r 0 = 2 by omega]
    simp only [yq_at2, yq_fat2]
    unfold yq_xc
    rw [if_neg (by omega)]
    rw [hgi]
  · rw [show r 0 = 2 by omega]
    simp only [yq_at2, yq_fat2]
    unfold yq_xc
    rw [if_neg (by omega)]
    rw [hgi]
  · rw [show r 0 = 2 by omega]
    simp only [yq_at2, yq_fat2]
    unfold yq_xc
    rw [if_neg (by omega)]
    rw [hgi]
  · rw [show r 0 = 2 by omega]
    simp only [yq_at2, yq_fat2]
    unfold yq_xc
    rw [if_neg (by omega)]
    rw [hgi]
theorem xw_40_0_61 : yt_hold xT_40 xk_40 xq_40.2.2.1 xG_40 xP_40 xU_40 18 xk_40.2.1.2.2.2 (fun g0 r g => xR_40 r g0 ∧ g = g0) (1000, ([(2, 2), (0, 100), (1, 1), ((-2147483648), (-1)), (0, 100), ((-2147483648), 2147483647), (0, 1), ((-2147483648), 2147483647), (0, 100), (1, 1), ((-2147483648), 2147483647), (0, 100), (1, 1), ((-2147483648), 2147483647), (0, 100), (0, 1), ((-2147483648), 2147483647), (0, 100), ((-2147483648), 0)], [([(1, (-1)), (14, 1), (4, (-1))], 0)]), [([], (-3)), ([(18, 1)], 0)], [], []) := by
  intro g0 r gi g hok hh hars hfr hG
  have b0 : 2 ≤ r 0 ∧ r 0 ≤ 2 := hok.1 0 (2, 2) rfl
  have b1 : 0 ≤ r 1 ∧ r 1 ≤ 100 := hok.1 1 (0, 100) rfl
  have b2 : 1 ≤ r 2 ∧ r 2 ≤ 1 := hok.1 2 (1, 1) rfl
  have b3 : (-2147483648) ≤ r 3 ∧ r 3 ≤ (-1) := hok.1 3 ((-2147483648), (-1)) rfl
  have b4 : 0 ≤ r 4 ∧ r 4 ≤ 100 := hok.1 4 (0, 100) rfl
  have b5 : (-2147483648) ≤ r 5 ∧ r 5 ≤ 2147483647 := hok.1 5 ((-2147483648), 2147483647) rfl
  have b6 : 0 ≤ r 6 ∧ r 6 ≤ 1 := hok.1 6 (0, 1) rfl
  have b7 : (-2147483648) ≤ r 7 ∧ r 7 ≤ 2147483647 := hok.1 7 ((-2147483648), 2147483647) rfl
  have b8 : 0 ≤ r 8 ∧ r 8 ≤ 100 := hok.1 8 (0, 100) rfl
  have b9 : 1 ≤ r 9 ∧ r 9 ≤ 1 := hok.1 9 (1, 1) rfl
  have b10 : (-2147483648) ≤ r 10 ∧ r 10 ≤ 2147483647 := hok.1 10 ((-2147483648), 2147483647) rfl
  have b11 : 0 ≤ r 11 ∧ r 11 ≤ 100 := hok.1 11 (0, 100) rfl
  have b12 : 1 ≤ r 12 ∧ r 12 ≤ 1 := hok.1 12 (1, 1) rfl
  have b13 : (-2147483648) ≤ r 13 ∧ r 13 ≤ 2147483647 := hok.1 13 ((-2147483648), 2147483647) rfl
  have b14 : 0 ≤ r 14 ∧ r 14 ≤ 100 := hok.1 14 (0, 100) rfl
  have b15 : 0 ≤ r 15 ∧ r 15 ≤ 1 := hok.1 15 (0, 1) rfl
  have b16 : (-2147483648) ≤ r 16 ∧ r 16 ≤ 2147483647 := hok.1 16 ((-2147483648), 2147483647) rfl
  have b17 : 0 ≤ r 17 ∧ r 17 ≤ 100 := hok.1 17 (0, 100) rfl
  have b18 : (-2147483648) ≤ r 18 ∧ r 18 ≤ 0 := hok.1 18 ((-2147483648), 0) rfl
  have f0 : 0 ≤ (((-1) * r 1 + (1 * r 14 + ((-1) * r 4 + 0))) + 0) := hok.2 _ (List.mem_of_getElem? (i := 0) rfl)
  obtain ⟨hG, hgi⟩ := hG
  have hG : True := hG
  have hh : g = gi := hh
  subst hh
  refine yt_dalt (by decide) (by decide) ?_
  rw [show xk_40.2.1.2.1.1.length = 18 from rfl]
  show ((0 : Int) + (-3)) = yq_cr ((1 * r 0 + 0) + 0) ((1 * r 1 + 0) + 0) ((1 * r 2 + 0) + 0) ((1 * r 3 + 0) + 0) ((1 * r 4 + 0) + 0) (yq_at ((1 * r 0 + 0) + 0) ((1 * ((1 * r 6 + 0) + 0) + 0) + 0) ((1 * ((1 * r 9 + 0) + 0) + 0) + 0) ((1 * ((1 * r 12 + 0) + 0) + 0) + 0) ((1 * ((1 * r 15 + 0) + 0) + 0) + 0)) (yq_at ((1 * r 2 + 0) + 0) ((1 * ((1 * r 6 + 0) + 0) + 0) + 0) ((1 * ((1 * r 9 + 0) + 0) + 0) + 0) ((1 * ((1 * r 12 + 0) + 0) + 0) + 0) ((1 * ((1 * r 15 + 0) + 0) + 0) + 0)) (yq_at ((1 * r 0 + 0) + 0) ((1 * ((1 * r 8 + 0) + 0) + 0) + 0) ((1 * ((1 * r 11 + 0) + 0) + 0) + 0) ((1 * ((1 * r 14 + 0) + 0) + 0) + 0) ((1 * ((1 * r 17 + 0) + 0) + 0) + 0)) (yq_at ((1 * r 2 + 0) + 0) ((1 * ((1 * r 8 + 0) + 0) + 0) + 0) ((1 * ((1 * r 11 + 0) + 0) + 0) + 0) ((1 * ((1 * r 14 + 0) + 0) + 0) + 0) ((1 * ((1 * r 17 + 0) + 0) + 0) + 0)) ∧ (g 3) = yq_xc ((1 * r 0 + 0) + 0) ((1 * r 1 + 0) + 0) ((1 * r 2 + 0) + 0) ((1 * r 3 + 0) + 0) ((1 * r 4 + 0) + 0) 0 (yq_at ((1 * r 0 + 0) + 0) ((1 * ((1 * r 6 + 0) + 0) + 0) + 0) ((1 * ((1 * r 9 + 0) + 0) + 0) + 0) ((1 * ((1 * r 12 + 0) + 0) + 0) + 0) ((1 * ((1 * r 15 + 0) + 0) + 0) + 0)) ((1 * ((1 * r 6 + 0) + 0) + 0) + 0) (yq_at ((1 * r 0 + 0) + 0) ((1 * ((1 * r 8 + 0) + 0) + 0) + 0) ((1 * ((1 * r 11 + 0) + 0) + 0) + 0) ((1 * ((1 * r 14 + 0) + 0) + 0) + 0) ((1 * ((1 * r 17 + 0) + 0) + 0) + 0)) ((1 * ((1 * r 8 + 0) + 0) + 0) + 0) ((1 * ((1 * r 7 + 0) + 0) + 0) + 0) (yq_fat ((1 * r 0 + 0) + 0) (g0 3) (g0 5) (g0 7) (g0 9)) (g0 3) ∧ (g 5) = yq_xc ((1 * r 0 + 0) + 0) ((1 * r 1 + 0) + 0) ((1 * r 2 + 0) + 0) ((1 * r 3 + 0) + 0) ((1 * r 4 + 0) + 0) 1 (yq_at ((1 * r 0 + 0) + 0) ((1 * ((1 * r 6 + 0) + 0) + 0) + 0) ((1 * ((1 * r 9 + 0) + 0) + 0) + 0) ((1 * ((1 * r 12 + 0) + 0) + 0) + 0) ((1 * ((1 * r 15 + 0) + 0) + 0) + 0)) ((1 * ((1 * r 9 + 0) + 0) + 0) + 0) (yq_at ((1 * r 0 + 0) + 0) ((1 * ((1 * r 8 + 0) + 0) + 0) + 0) ((1 * ((1 * r 11 + 0) + 0) + 0) + 0) ((1 * ((1 * r 14 + 0) + 0) + 0) + 0) ((1 * ((1 * r 17 + 0) + 0) + 0) + 0)) ((1 * ((1 * r 11 + 0) + 0) + 0) + 0) ((1 * ((1 * r 10 + 0) + 0) + 0) + 0) (yq_fat ((1 * r 0 + 0) + 0) (g0 3) (g0 5) (g0 7) (g0 9)) (g0 5) ∧ (g 7) = yq_xc ((1 * r 0 + 0) + 0) ((1 * r 1 + 0) + 0) ((1 * r 2 + 0) + 0) ((1 * r 3 + 0) + 0) ((1 * r 4 + 0) + 0) 2 (yq_at ((1 * r 0 + 0) + 0) ((1 * ((1 * r 6 + 0) + 0) + 0) + 0) ((1 * ((1 * r 9 + 0) + 0) + 0) + 0) ((1 * ((1 * r 12 + 0) + 0) + 0) + 0) ((1 * ((1 * r 15 + 0) + 0) + 0) + 0)) ((1 * ((1 * r 12 + 0) + 0) + 0) + 0) (yq_at ((1 * r 0 + 0) + 0) ((1 * ((1 * r 8 + 0) + 0) + 0) + 0) ((1 * ((1 * r 11 + 0) + 0) + 0) + 0) ((1 * ((1 * r 14 + 0) + 0) + 0) + 0) ((1 * ((1 * r 17 + 0) + 0) + 0) + 0)) ((1 * ((1 * r 14 + 0) + 0) + 0) + 0) ((1 * ((1 * r 13 + 0) + 0) + 0) + 0) (yq_fat ((1 * r 0 + 0) + 0) (g0 3) (g0 5) (g0 7) (g0 9)) (g0 7) ∧ (g 9) = yq_xc ((1 * r 0 + 0) + 0) ((1 * r 1 + 0) + 0) ((1 * r 2 + 0) + 0) ((1 * r 3 + 0) + 0) ((1 * r 4 + 0) + 0) 3 (yq_at ((1 * r 0 + 0) + 0) ((1 * ((1 * r 6 + 0) + 0) + 0) + 0) ((1 * ((1 * r 9 + 0) + 0) + 0) + 0) ((1 * ((1 * r 12 + 0) + 0) + 0) + 0) ((1 * ((1 * r 15 + 0) + 0) + 0) + 0)) ((1 * ((1 * r 15 + 0) + 0) + 0) + 0) (yq_at ((1 * r 0 + 0) + 0) ((1 * ((1 * r 8 + 0) + 0) + 0) + 0) ((1 * ((1 * r 11 + 0) + 0) + 0) + 0) ((1 * ((1 * r 14 + 0) + 0) + 0) + 0) ((1 * ((1 * r 17 + 0) + 0) + 0) + 0)) ((1 * ((1 * r 17 + 0) + 0) + 0) + 0) ((1 * ((1 * r 16 + 0) + 0) + 0) + 0) (yq_fat ((1 * r 0 + 0) + 0) (g0 3) (g0 5) (g0 7) (g0 9)) (g0 9)
  try simp only [Int.one_mul, Int.zero_add, Int.add_zero]
  refine ⟨?_, ?_, ?_, ?_, ?_⟩
  · rw [show r 0 = 2 by omega]
    rw [show r 2 = 1 by omega]
    simp only [yq_at1, yq_at2]
    unfold yq_cr
    repeat' split
    all_goals omega
  · rw [show r 0 = 2 by omega]
    simp only [yq_at2, yq_fat2]
    unfold yq_xc
    rw [if_neg (by omega)]
    rw [hgi]
  · rw [show r 0 = 2 by omega]
    simp only [yq_at2, yq_fat2]
    unfold yq_xc
    rw [if_neg (by omega)]
    rw [hgi]
  · rw [show r 0 = 2 by omega]
    simp only [yq_at2, yq_fat2]
    unfold yq_xc
    rw [if_neg (by omega)]
    rw [hgi]
  · rw [show r 0 = 2 by omega]
    simp only [yq_at2, yq_fat2]
    unfold yq_xc
    rw [if_neg (by omega)]
    rw [hgi]
theorem xw_40_0_62 : yt_hold xT_40 xk_40 xq_40.2.2.1 xG_40 xP_40 xU_40 18 xk_40.2.1.2.2.2 (fun g0 r g => xR_40 r g0 ∧ g = g0) (1000, ([(2, 2), (0, 100), (1, 1), (0, 2147483647), (0, 100), ((-2147483648), 2147483647), (0, 1), ((-2147483648), 2147483647), (0, 100), (1, 1), ((-2147483648), 2147483647), (0, 100), (1, 1), ((-2147483648), 2147483647), (0, 100), (0, 1), ((-2147483648), 2147483647), (0, 100), ((-2147483648), 0)], [([(3, 1), (11, (-1)), (4, 1)], (-1)), ([(1, (-1)), (14, 1), (4, (-1))], 0)]), [([], (-3)), ([(18, 1)], 0)], [], []) := by
  intro g0 r gi g hok hh hars hfr hG
  have b0 : 2 ≤ r 0 ∧ r 0 ≤ 2 := hok.1 0 (2, 2) rfl
  have b1 : 0 ≤ r 1 ∧ r 1 ≤ 100 := hok.1 1 (0, 100) rfl
  have b2 : 1 ≤ r 2 ∧ r 2 ≤ 1 := hok.1 2 (1, 1) rfl
  have b3 : 0 ≤ r 3 ∧ r 3 ≤ 2147483647 := hok.1 3 (0, 2147483647) rfl
  have b4 : 0 ≤ r 4 ∧ r 4 ≤ 100 := hok.1 4 (0, 100) rfl
  have b5 : (-2147483648) ≤ r 5 ∧ r 5 ≤ 2147483647 := hok.1 5 ((-2147483648), 2147483647) rfl
  have b6 : 0 ≤ r 6 ∧ r 6 ≤ 1 := hok.1 6 (0, 1) rfl
  have b7 : (-2147483648) ≤ r 7 ∧ r 7 ≤ 2147483647 := hok.1 7 ((-2147483648), 2147483647) rfl
  have b8 : 0 ≤ r 8 ∧ r 8 ≤ 100 := hok.1 8 (0, 100) rfl
  have b9 : 1 ≤ r 9 ∧ r 9 ≤ 1 := hok.1 9 (1, 1) rfl
  have b10 : (-2147483648) ≤ r 10 ∧ r 10 ≤ 2147483647 := hok.1 10 ((-2147483648), 2147483647) rfl
  have b11 : 0 ≤ r 11 ∧ r 11 ≤ 100 := hok.1 11 (0, 100) rfl
  have b12 : 1 ≤ r 12 ∧ r 12 ≤ 1 := hok.1 12 (1, 1) rfl
  have b13 : (-2147483648) ≤ r 13 ∧ r 13 ≤ 2147483647 := hok.1 13 ((-2147483648), 2147483647) rfl
  have b14 : 0 ≤ r 14 ∧ r 14 ≤ 100 := hok.1 14 (0, 100) rfl
  have b15 : 0 ≤ r 15 ∧ r 15 ≤ 1 := hok.1 15 (0, 1) rfl
  have b16 : (-2147483648) ≤ r 16 ∧ r 16 ≤ 2147483647 := hok.1 16 ((-2147483648), 2147483647) rfl
  have b17 : 0 ≤ r 17 ∧ r 17 ≤ 100 := hok.1 17 (0, 100) rfl
  have b18 : (-2147483648) ≤ r 18 ∧ r 18 ≤ 0 := hok.1 18 ((-2147483648), 0) rfl
  have f0 : 0 ≤ ((1 * r 3 + ((-1) * r 11 + (1 * r 4 + 0))) + (-1)) := hok.2 _ (List.mem_of_getElem? (i := 0) rfl)
  have f1 : 0 ≤ (((-1) * r 1 + (1 * r 14 + ((-1) * r 4 + 0))) + 0) := hok.2 _ (List.mem_of_getElem? (i := 1) rfl)
  obtain ⟨hG, hgi⟩ := hG
  have hG : True := hG
  have hh : g = gi := hh
  subst hh
  refine yt_dalt (by decide) (by decide) ?_
  rw [show xk_40.2.1.2.1.1.length = 18 from rfl]
  show ((0 : Int) + (-3)) = yq_cr ((1 * r 0 + 0) + 0) ((1 * r 1 + 0) + 0) ((1 * r 2 + 0) + 0) ((1 * r 3 + 0) + 0) ((1 * r 4 + 0) + 0) (yq_at ((1 * r 0 + 0) + 0) ((1 * ((1 * r 6 + 0) + 0) + 0) + 0) ((1 * ((1 * r 9 + 0) + 0) + 0) + 0) ((1 * ((1 * r 12 + 0) + 0) + 0) + 0) ((1 * ((1 * r 15 + 0) + 0) + 0) + 0)) (yq_at ((1 * r 2 + 0) + 0) ((1 * ((1 * r 6 + 0) + 0) + 0) + 0) ((1 * ((1 * r 9 + 0) + 0) + 0) + 0) ((1 * ((1 * r 12 + 0) + 0) + 0) + 0) ((1 * ((1 * r 15 + 0) + 0) + 0) + 0)) (yq_at ((1 * r 0 + 0) + 0) ((1 * ((1 * r 8 + 0) + 0) + 0) + 0) ((1 * ((1 * r 11 + 0) + 0) + 0) + 0) ((1 * ((1 * r 14 + 0) + 0) + 0) + 0) ((1 * ((1 * r 17 + 0) + 0) + 0) + 0)) (yq_at ((1 * r 2 + 0) + 0) ((1 * ((1 * r 8 + 0) + 0) + 0) + 0) ((1 * ((1 * r 11 + 0) + 0) + 0) + 0) ((1 * ((1 * r 14 + 0) + 0) + 0) + 0) ((1 * ((1 * r 17 + 0) + 0) + 0) + 0)) ∧ (g 3) = yq_xc ((1 * r 0 + 0) + 0) ((1 * r 1 + 0) + 0) ((1 * r 2 + 0) + 0) ((1 * r 3 + 0) + 0) ((1 * r 4 + 0) + 0) 0 (yq_at ((1 * r 0 + 0) + 0) ((1 * ((1 * r 6 + 0) + 0) + 0) + 0) ((1 * ((1 * r 9 + 0) + 0) + 0) + 0) ((1 * ((1 * r 12 + 0) + 0) + 0) + 0) ((1 * ((1 * r 15 + 0) + 0) + 0) + 0)) ((1 * ((1 * r 6 + 0) + 0) + 0) + 0) (yq_at ((1 * r 0 + 0) + 0) ((1 * ((1 * r 8 + 0) + 0) + 0) + 0) ((1 * ((1 * r 11 + 0) + 0) + 0) + 0) ((1 * ((1 * r 14 + 0) + 0) + 0) + 0) ((1 * ((1 * r 17 + 0) + 0) + 0) + 0)) ((1 * ((1 * r 8 + 0) + 0) + 0) + 0) ((1 * ((1 * r 7 + 0) + 0) + 0) + 0) (yq_fat ((1 * r 0 + 0) + 0) (g0 3) (g0 5) (g0 7) (g0 9)) (g0 3) ∧ (g 5) = yq_xc ((1 * r 0 + 0) + 0) ((1 * r 1 + 0) + 0) ((1 * r 2 + 0) + 0) ((1 * r 3 + 0) + 0) ((1 * r 4 + 0) + 0) 1 (yq_at ((1 * r 0 + 0) + 0) ((1 * ((1 * r 6 + 0) + 0) + 0) + 0) ((1 * ((1 * r 9 + 0) + 0) + 0) + 0) ((1 * ((1 * r 12 + 0) + 0) + 0) + 0) ((1 * ((1 * r 15 + 0) + 0) + 0) + 0)) ((1 * ((1 * r 9 + 0) + 0) + 0) + 0) (yq_at ((1 * r 0 + 0) + 0) ((1 * ((1 * r 8 + 0) + 0) + 0) + 0) ((1 * ((1 * r 11 + 0) + 0) + 0) + 0) ((1 * ((1 * r 14 + 0) + 0) + 0) + 0) ((1 * ((1 * r 17 + 0) + 0) + 0) + 0)) ((1 * ((1 * r 11 + 0) + 0) + 0) + 0) ((1 * ((1 * r 10 + 0) + 0) + 0) + 0) (yq_fat ((1 * r 0 + 0) + 0) (g0 3) (g0 5) (g0 7) (g0 9)) (g0 5) ∧ (g 7) = yq_xc ((1 * r 0 + 0) + 0) ((1 * r 1 + 0) + 0) ((1 * r 2 + 0) + 0) ((1 * r 3 + 0) + 0) ((1 * r 4 + 0) + 0) 2 (yq_at ((1 * r 0 + 0) + 0) ((1 * ((1 * r 6 + 0) + 0) + 0) + 0) ((1 * ((1 * r 9 + 0) + 0) + 0) + 0) ((1 * ((1 * r 12 + 0) + 0) + 0) + 0) ((1 * ((1 * r 15 + 0) + 0) + 0) + 0)) ((1 * ((1 * r 12 + 0) + 0) + 0) + 0) (yq_at ((1 * r 0 + 0) + 0) ((1 * ((1 * r 8 + 0) + 0) + 0) + 0) ((1 * ((1 * r 11 + 0) + 0) + 0) + 0) ((1 * ((1 * r 14 + 0) + 0) + 0) + 0) ((1 * ((1 * r 17 + 0) + 0) + 0) + 0)) ((1 * ((1 * r 14 + 0) + 0) + 0) + 0) ((1 * ((1 * r 13 + 0) + 0) + 0) + 0) (yq_fat ((1 * r 0 + 0) + 0) (g0 3) (g0 5) (g0 7) (g0 9)) (g0 7) ∧ (g 9) = yq_xc ((1 * r 0 + 0) + 0) ((1 * r 1 + 0) + 0) ((1 * r 2 + 0) + 0) ((1 * r 3 + 0) + 0) ((1 * r 4 + 0) + 0) 3 (yq_at ((1 * r 0 + 0) + 0) ((1 * ((1 * r 6 + 0) + 0) + 0) + 0) ((1 * ((1 * r 9 + 0) + 0) + 0) + 0) ((1 * ((1 * r 12 + 0) + 0) + 0) + 0) ((1 * ((1 * r 15 + 0) + 0) + 0) + 0)) ((1 * ((1 * r 15 + 0) + 0) + 0) + 0) (yq_at ((1 * r 0 + 0) + 0) ((1 * ((1 * r 8 + 0) + 0) + 0) + 0) ((1 * ((1 * r 11 + 0) + 0) + 0) + 0) ((1 * ((1 * r 14 + 0) + 0) + 0) + 0) ((1 * ((1 * r 17 + 0) + 0) + 0) + 0)) ((1 * ((1 * r 17 + 0) + 0) + 0) + 0) ((1 * ((1 * r 16 + 0) + 0) + 0) + 0) (yq_fat ((1 * r 0 + 0) + 0) (g0 3) (g0 5) (g0 7) (g0 9)) (g0 9)
  try simp only [Int.one_mul, Int.zero_add, Int.add_zero]
  refine ⟨?_, ?_, ?_, ?_, ?_⟩
  · rw [show r 0 = 2 by omega]
    rw [show r 2 = 1 by omega]
    simp only [yq_at1, yq_at2]
    unfold yq_cr
    repeat' split
    all_goals omega
  · rw [show r 0 = 2 by omega]
    simp only [yq_at2, yq_fat2]
    unfold yq_xc
    rw [if_neg (by omega)]
    rw [hgi]
  · rw [show r 0 = 2 by omega]
    simp only [yq_at2, yq_fat2]
    unfold yq_xc
    rw [if_neg (by omega)]
    rw [hgi]
  · rw [show r 0 = 2 by omega]
    simp only [yq_at2, yq_fat2]
    unfold yq_xc
    rw [if_neg (by omega)]
    rw [hgi]
  · rw [show r 0 = 2 by omega]
    simp only [yq_at2, yq_fat2]
    unfold yq_xc
    rw [if_neg (by omega)]
    rw [hgi]
theorem xw_40_0_63 : yt_hold xT_40 xk_40 xq_40.2.2.1 xG_40 xP_40 xU_40 18 xk_40.2.1.2.2.2 (fun g0 r g => xR_40 r g0 ∧ g = g0) (1000, ([(2, 2), (0, 100), (1, 1), (0, 100), (0, 100), ((-2147483648), 2147483647), (0, 1), ((-2147483648), 2147483647), (0, 100), (1, 1), ((-2147483648), 2147483647), (0, 100), (1, 1), ((-2147483648), 2147483647), (0, 100), (0, 1), ((-2147483648), 2147483647), (0, 100), ((-2147483648), 0)], [([(4, (-1)), (3, (-1))], 101), ([(3, (-1)), (11, 1), (4, (-1))], 0), ([(1, (-1)), (14, 1), (4, (-1))], 0)]), [([(4, 1)], 0), ([(18, 1)], 0)], [], [.inr (.inr (.inl (98, 0, [([(3, 1)], 0), ([(1, 1)], 0), ([(4, 1)], 0), ([(9, 1)], 0), ([(10, 1)], 0), ([(11, 1)], 0), ([(12, 1)], 0), ([(13, 1)], 0), ([(14, 1)], 0)], [4, 5, 6, 7], [5])))]) := by
  intro g0 r gi g hok hh hars hfr hG
  have b0 : 2 ≤ r 0 ∧ r 0 ≤ 2 := hok.1 0 (2, 2) rfl
  have b1 : 0 ≤ r 1 ∧ r 1 ≤ 100 := hok.1 1 (0, 100) rfl
  have b2 : 1 ≤ r 2 ∧ r 2 ≤ 1 := hok.1 2 (1, 1) rfl
  have b3 : 0 ≤ r 3 ∧ r 3 ≤ 100 := hok.1 3 (0, 100) rfl
  have b4 : 0 ≤ r 4 ∧ r 4 ≤ 100 := hok.1 4 (0, 100) rfl
  have b5 : (-2147483648) ≤ r 5 ∧ r 5 ≤ 2147483647 := hok.1 5 ((-2147483648), 2147483647) rfl
  have b6 : 0 ≤ r 6 ∧ r 6 ≤ 1 := hok.1 6 (0, 1) rfl
  have b7 : (-2147483648) ≤ r 7 ∧ r 7 ≤ 2147483647 := hok.1 7 ((-2147483648), 2147483647) rfl
  have b8 : 0 ≤ r 8 ∧ r 8 ≤ 100 := hok.1 8 (0, 100) rfl
  have b9 : 1 ≤ r 9 ∧ r 9 ≤ 1 := hok.1 9 (1, 1) rfl
  have b10 : (-2147483648) ≤ r 10 ∧ r 10 ≤ 2147483647 := hok.1 10 ((-2147483648), 2147483647) rfl
  have b11 : 0 ≤ r 11 ∧ r 11 ≤ 100 := hok.1 11 (0, 100) rfl
  have b12 : 1 ≤ r 12 ∧ r 12 ≤ 1 := hok.1 12 (1, 1) rfl
  have b13 : (-2147483648) ≤ r 13 ∧ r 13 ≤ 2147483647 := hok.1 13 ((-2147483648), 2147483647) rfl
  have b14 : 0 ≤ r 14 ∧ r 14 ≤ 100 := hok.1 14 (0, 100) rfl
  have b15 : 0 ≤ r 15 ∧ r 15 ≤ 1 := hok.1 15 (0, 1) rfl
  have b16 : (-2147483648) ≤ r 16 ∧ r 16 ≤ 2147483647 := hok.1 16 ((-2147483648), 2147483647) rfl
  have b17 : 0 ≤ r 17 ∧ r 17 ≤ 100 := hok.1 17 (0, 100) rfl
  have b18 : (-2147483648) ≤ r 18 ∧ r 18 ≤ 0 := hok.1 18 ((-2147483648), 0) rfl
  have f0 : 0 ≤ (((-1) * r 4 + ((-1) * r 3 + 0)) + 101) := hok.2 _ (List.mem_of_getElem? (i := 0) rfl)
  have f1 : 0 ≤ (((-1) * r 3 + (1 * r 11 + ((-1) * r 4 + 0))) + 0) := hok.2 _ (List.mem_of_getElem? (i := 1) rfl)
  have f2 : 0 ≤ (((-1) * r 1 + (1 * r 14 + ((-1) * r 4 + 0))) + 0) := hok.2 _ (List.mem_of_getElem? (i := 2) rfl)
  obtain ⟨hG, hgi⟩ := hG
  have hG : True := hG
  obtain ⟨h0, hh, e0, k0⟩ := hh
  have k0 : ∀ j, j ∉ [5] → g j = h0 j := k0
  have e0 : (g 5) = yq_pa ((1 * r 3 + 0) + 0) ((1 * r 1 + 0) + 0) ((1 * r 4 + 0) + 0) ((1 * r 10 + 0) + 0) (h0 7) (h0 5) := e0
  have hh : h0 = gi := hh
  subst hh
  refine yt_dalt (by decide) (by decide) ?_
  rw [show xk_40.2.1.2.1.1.length = 18 from rfl]
  show ((1 * r 4 + 0) + 0) = yq_cr ((1 * r 0 + 0) + 0) ((1 * r 1 + 0) + 0) ((1 * r 2 + 0) + 0) ((1 * r 3 + 0) + 0) ((1 * r 4 + 0) + 0) (yq_at ((1 * r 0 + 0) + 0) ((1 * ((1 * r 6 + 0) + 0) + 0) + 0) ((1 * ((1 * r 9 + 0) + 0) + 0) + 0) ((1 * ((1 * r 12 + 0) + 0) + 0) + 0) ((1 * ((1 * r 15 + 0) + 0) + 0) + 0)) (yq_at ((1 * r 2 + 0) + 0) ((1 * ((1 * r 6 + 0) + 0) + 0) + 0) ((1 * ((1 * r 9 + 0) + 0) + 0) + 0) ((1 * ((1 * r 12 + 0) + 0) + 0) + 0) ((1 * ((1 * r 15 + 0) + 0) + 0) + 0)) (yq_at ((1 * r 0 + 0) + 0) ((1 * ((1 * r 8 + 0) + 0) + 0) + 0) ((1 * ((1 * r 11 + 0) + 0) + 0) + 0) ((1 * ((1 * r 14 + 0) + 0) + 0) + 0) ((1 * ((1 * r 17 + 0) + 0) + 0) + 0)) (yq_at ((1 * r 2 + 0) + 0) ((1 * ((1 * r 8 + 0) + 0) + 0) + 0) ((1 * ((1 * r 11 + 0) + 0) + 0) + 0) ((1 * ((1 * r 14 + 0) + 0) + 0) + 0) ((1 * ((1 * r 17 + 0) + 0) + 0) + 0)) ∧ (g 3) = yq_xc ((1 * r 0 + 0) + 0) ((1 * r 1 + 0) + 0) ((1 * r 2 + 0) + 0) ((1 * r 3 + 0) + 0) ((1 * r 4 + 0) + 0) 0 (yq_at ((1 * r 0 + 0) + 0) ((1 * ((1 * r 6 + 0) + 0) + 0) + 0) ((1 * ((1 * r 9 + 0) + 0) + 0) + 0) ((1 * ((1 * r 12 + 0) + 0) + 0) + 0) ((1 * ((1 * r 15 + 0) + 0) + 0) + 0)) ((1 * ((1 * r 6 + 0) + 0) + 0) + 0) (yq_at ((1 * r 0 + 0) + 0) ((1 * ((1 * r 8 + 0) + 0) + 0) + 0) ((1 * ((1 * r 11 + 0) + 0) + 0) + 0) ((1 * ((1 * r 14 + 0) + 0) + 0) + 0) ((1 * ((1 * r 17 + 0) + 0) + 0) + 0)) ((1 * ((1 * r 8 + 0) + 0) + 0) + 0) ((1 * ((1 * r 7 + 0) + 0) + 0) + 0) (yq_fat ((1 * r 0 + 0) + 0) (g0 3) (g0 5) (g0 7) (g0 9)) (g0 3) ∧ (g 5) = yq_xc ((1 * r 0 + 0) + 0) ((1 * r 1 + 0) + 0) ((1 * r 2 + 0) + 0) ((1 * r 3 + 0) + 0) ((1 * r 4 + 0) + 0) 1 (yq_at ((1 * r 0 + 0) + 0) ((1 * ((1 * r 6 + 0) + 0) + 0) + 0) ((1 * ((1 * r 9 + 0) + 0) + 0) + 0) ((1 * ((1 * r 12 + 0) + 0) + 0) + 0) ((1 * ((1 * r 15 + 0) + 0) + 0) + 0)) ((1 * ((1 * r 9 + 0) + 0) + 0) + 0) (yq_at ((1 * r 0 + 0) + 0) ((1 * ((1 * r 8 + 0) + 0) + 0) + 0) ((1 * ((1 * r 11 + 0) + 0) + 0) + 0) ((1 * ((1 * r 14 + 0) + 0) + 0) + 0) ((1 * ((1 * r 17 + 0) + 0) + 0) + 0)) ((1 * ((1 * r 11 + 0) + 0) + 0) + 0) ((1 * ((1 * r 10 + 0) + 0) + 0) + 0) (yq_fat ((1 * r 0 + 0) + 0) (g0 3) (g0 5) (g0 7) (g0 9)) (g0 5) ∧ (g 7) = yq_xc ((1 * r 0 + 0) + 0) ((1 * r 1 + 0) + 0) ((1 * r 2 + 0) + 0) ((1 * r 3 + 0) + 0) ((1 * r 4 + 0) + 0) 2 (yq_at ((1 * r 0 + 0) + 0) ((1 * ((1 * r 6 + 0) + 0) + 0) + 0) ((1 * ((1 * r 9 + 0) + 0) + 0) + 0) ((1 * ((1 * r 12 + 0) + 0) + 0) + 0) ((1 * ((1 * r 15 + 0) + 0) + 0) + 0)) ((1 * ((1 * r 12 + 0) + 0) + 0) + 0) (yq_at ((1 * r 0 + 0) + 0) ((1 * ((1 * r 8 + 0) + 0) + 0) + 0) ((1 * ((1 * r 11 + 0) + 0) + 0) + 0) ((1 * ((1 * r 14 + 0) + 0) + 0) + 0) ((1 * ((1 * r 17 + 0) + 0) + 0) + 0)) ((1 * ((1 * r 14 + 0) + 0) + 0) + 0) ((1 * ((1 * r 13 + 0) + 0) + 0) + 0) (yq_fat ((1 * r 0 + 0) + 0) (g0 3) (g0 5) (g0 7) (g0 9)) (g0 7) ∧ (g 9) = yq_xc ((1 * r 0 + 0) + 0) ((1 * r 1 + 0) + 0) ((1 * r 2 + 0) + 0) ((1 * r 3 + 0) + 0) ((1 * r 4 + 0) + 0) 3 (yq_at ((1 * r 0 + 0) + 0) ((1 * ((1 * r 6 + 0) + 0) + 0) + 0) ((1 * ((1 * r 9 + 0) + 0) + 0) + 0) ((1 * ((1 * r 12 + 0) + 0) + 0) + 0) ((1 * ((1 * r 15 + 0) + 0) + 0) + 0)) ((1 * ((1 * r 15 + 0) + 0) + 0) + 0) (yq_at ((1 * r 0 + 0) + 0) ((1 * ((1 * r 8 + 0) + 0) + 0) + 0) ((1 * ((1 * r 11 + 0) + 0) + 0) + 0) ((1 * ((1 * r 14 + 0) + 0) + 0) + 0) ((1 * ((1 * r 17 + 0) + 0) + 0) + 0)) ((1 * ((1 * r 17 + 0) + 0) + 0) + 0) ((1 * ((1 * r 16 + 0) + 0) + 0) + 0) (yq_fat ((1 * r 0 + 0) + 0) (g0 3) (g0 5) (g0 7) (g0 9)) (g0 9)
  try simp only [Int.one_mul, Int.zero_add, Int.add_zero]
  try simp only [Int.one_mul, Int.zero_add, Int.add_zero] at e0
  refine ⟨?_, ?_, ?_, ?_, ?_⟩
  · rw [show r 0 = 2 by omega]
    rw [show r 2 = 1 by omega]
    simp only [yq_at1, yq_at2]
    unfold yq_cr
    repeat' split
    all_goals omega
  · rw [show r 0 = 2 by omega]
    simp only [yq_at2, yq_fat2]
    unfold yq_xc
    rw [if_neg (by omega)]
    rw [k0 3 (by decide), hgi]
  · rw [show r 0 = 2 by omega]
    simp only [yq_at2, yq_fat2]
    unfold yq_xc
    rw [if_pos (by omega), e0, hgi]
  · rw [show r 0 = 2 by omega]
    simp only [yq_at2, yq_fat2]
    unfold yq_xc
    rw [if_neg (by omega)]
    rw [k0 7 (by decide), hgi]
  · rw [show r 0 = 2 by omega]
    simp only [yq_at2, yq_fat2]
    unfold yq_xc
    rw [if_neg (by omega)]
    rw [k0 9 (by decide), hgi]
theorem xw_40_0_64 : yt_hold xT_40 xk_40 xq_40.2.2.1 xG_40 xP_40 xU_40 18 xk_40.2.1.2.2.2 (fun g0 r g => xR_40 r g0 ∧ g = g0) (1000, ([(2, 2), ((-2147483648), 2147483647), (1, 1), ((-2147483648), 2147483647), (0, 2147483647), ((-2147483648), 2147483647), (0, 1), ((-2147483648), 2147483647), (0, 100), (0, 0), ((-2147483648), 2147483647), (0, 100), (1, 1), ((-2147483648), 2147483647), (0, 100), (0, 1), ((-2147483648), 2147483647), (0, 100), ((-2147483648), 0)], []), [([], (-2)), ([(18, 1)], 0)], [], []) := by
  intro g0 r gi g hok hh hars hfr hG
  have b0 : 2 ≤ r 0 ∧ r 0 ≤ 2 := hok.1 0 (2, 2) rfl
  have b1 : (-2147483648) ≤ r 1 ∧ r 1 ≤ 2147483647 := hok.1 1 ((-2147483648), 2147483647) rfl
  have b2 : 1 ≤ r 2 ∧ r 2 ≤ 1 := hok.1 2 (1, 1) rfl
  have b3 : (-2147483648) ≤ r 3 ∧ r 3 ≤ 2147483647 := hok.1 3 ((-2147483648), 2147483647) rfl
  have b4 : 0 ≤ r 4 ∧ r 4 ≤ 2147483647 := hok.1 4 (0, 2147483647) rfl
  have b5 : (-2147483648) ≤ r 5 ∧ r 5 ≤ 2147483647 := hok.1 5 ((-2147483648), 2147483647) rfl
  have b6 : 0 ≤ r 6 ∧ r 6 ≤ 1 := hok.1 6 (0, 1) rfl
  have b7 : (-2147483648) ≤ r 7 ∧ r 7 ≤ 2147483647 := hok.1 7 ((-2147483648), 2147483647) rfl
  have b8 : 0 ≤ r 8 ∧ r 8 ≤ 100 := hok.1 8 (0, 100) rfl
  have b9 : 0 ≤ r 9 ∧ r 9 ≤ 0 := hok.1 9 (0, 0) rfl
  have b10 : (-2147483648) ≤ r 10 ∧ r 10 ≤ 2147483647 := hok.1 10 ((-2147483648), 2147483647) rfl
  have b11 : 0 ≤ r 11 ∧ r 11 ≤ 100 := hok.1 11 (0, 100) rfl
  have b12 : 1 ≤ r 12 ∧ r 12 ≤ 1 := hok.1 12 (1, 1) rfl
  have b13 : (-2147483648) ≤ r 13 ∧ r 13 ≤ 2147483647 := hok.1 13 ((-2147483648), 2147483647) rfl
  have b14 : 0 ≤ r 14 ∧ r 14 ≤ 100 := hok.1 14 (0, 100) rfl
  have b15 : 0 ≤ r 15 ∧ r 15 ≤ 1 := hok.1 15 (0, 1) rfl
  have b16 : (-2147483648) ≤ r 16 ∧ r 16 ≤ 2147483647 := hok.1 16 ((-2147483648), 2147483647) rfl
  have b17 : 0 ≤ r 17 ∧ r 17 ≤ 100 := hok.1 17 (0, 100) rfl
  have b18 : (-2147483648) ≤ r 18 ∧ r 18 ≤ 0 := hok.1 18 ((-2147483648), 0) rfl
  obtain ⟨hG, hgi⟩ := hG
  have hG : True := hG
  have hh : g = gi := hh
  subst hh
  refine yt_dalt (by decide) (by decide) ?_
  rw [show xk_40.2.1.2.1.1.length = 18 from rfl]
  show ((0 : Int) + (-2)) = yq_cr ((1 * r 0 + 0) + 0) ((1 * r 1 + 0) + 0) ((1 * r 2 + 0) + 0) ((1 * r 3 + 0) + 0) ((1 * r 4 + 0) + 0) (yq_at ((1 * r 0 + 0) + 0) ((1 * ((1 * r 6 + 0) + 0) + 0) + 0) ((1 * ((1 * r 9 + 0) + 0) + 0) + 0) ((1 * ((1 * r 12 + 0) + 0) + 0) + 0) ((1 * ((1 * r 15 + 0) + 0) + 0) + 0)) (yq_at ((1 * r 2 + 0) + 0) ((1 * ((1 * r 6 + 0) + 0) + 0) + 0) ((1 * ((1 * r 9 + 0) + 0) + 0) + 0) ((1 * ((1 * r 12 + 0) + 0) + 0) + 0) ((1 * ((1 * r 15 + 0) + 0) + 0) + 0)) (yq_at ((1 * r 0 + 0) + 0) ((1 * ((1 * r 8 + 0) + 0) + 0) + 0) ((1 * ((1 * r 11 + 0) + 0) + 0) + 0) ((1 * ((1 * r 14 + 0) + 0) + 0) + 0) ((1 * ((1 * r 17 + 0) + 0) + 0) + 0)) (yq_at ((1 * r 2 + 0) + 0) ((1 * ((1 * r 8 + 0) + 0) + 0) + 0) ((1 * ((1 * r 11 + 0) + 0) + 0) + 0) ((1 * ((1 * r 14 + 0) + 0) + 0) + 0) ((1 * ((1 * r 17 + 0) + 0) + 0) + 0)) ∧ (g 3) = yq_xc ((1 * r 0 + 0) + 0) ((1 * r 1 + 0) + 0) ((1 * r 2 + 0) + 0) ((1 * r 3 + 0) + 0) ((1 * r 4 + 0) + 0) 0 (yq_at ((1 * r 0 + 0) + 0) ((1 * ((1 * r 6 + 0) + 0) + 0) + 0) ((1 * ((1 * r 9 + 0) + 0) + 0) + 0) ((1 * ((1 * r 12 + 0) + 0) + 0) + 0) ((1 * ((1 * r 15 + 0) + 0) + 0) + 0)) ((1 * ((1 * r 6 + 0) + 0) + 0) + 0) (yq_at ((1 * r 0 + 0) + 0) ((1 * ((1 * r 8 + 0) + 0) + 0) + 0) ((1 * ((1 * r 11 + 0) + 0) + 0) + 0) ((1 * ((1 * r 14 + 0) + 0) + 0) + 0) ((1 * ((1 * r 17 + 0) + 0) + 0) + 0)) ((1 * ((1 * r 8 + 0) + 0) + 0) + 0) ((1 * ((1 * r 7 + 0) + 0) + 0) + 0) (yq_fat ((1 * r 0 + 0) + 0) (g0 3) (g0 5) (g0 7) (g0 9)) (g0 3) ∧ (g 5) = yq_xc ((1 * r 0 + 0) + 0) ((1 * r 1 + 0) + 0) ((1 * r 2 + 0) + 0) ((1 * r 3 + 0) + 0) ((1 * r 4 + 0) + 0) 1 (yq_at ((1 * r 0 + 0) + 0) ((1 * ((1 * r 6 + 0) + 0) + 0) + 0) ((1 * ((1 * r 9 + 0) + 0) + 0) + 0) ((1 * ((1 * r 12 + 0) + 0) + 0) + 0) ((1 * ((1 * r 15 + 0) + 0) + 0) + 0)) ((1 * ((1 * r 9 + 0) + 0) + 0) + 0) (yq_at ((1 * r 0 + 0) + 0) ((1 * ((1 * r 8 + 0) + 0) + 0) + 0) ((1 * ((1 * r 11 + 0) + 0) + 0) + 0) ((1 * ((1 * r 14 + 0) + 0) + 0) + 0) ((1 * ((1 * r 17 + 0) + 0) + 0) + 0)) ((1 * ((1 * r 11 + 0) + 0) + 0) + 0) ((1 * ((1 * r 10 + 0) + 0) + 0) + 0) (yq_fat ((1 * r 0 + 0) + 0) (g0 3) (g0 5) (g0 7) (g0 9)) (g0 5) ∧ (g 7) = yq_xc ((1 * r 0 + 0) + 0) ((1 * r 1 + 0) + 0) ((1 * r 2 + 0) + 0) ((1 * r 3 + 0) + 0) ((1 * r 4 + 0) + 0) 2 (yq_at ((1 * r 0 + 0) + 0) ((1 * ((1 * r 6 + 0) + 0) + 0) + 0) ((1 * ((1 * r 9 + 0) + 0) + 0) + 0) ((1 * ((1 * r 12 + 0) + 0) + 0) + 0) ((1 * ((1 * r 15 + 0) + 0) + 0) + 0)) ((1 * ((1 * r 12 + 0) + 0) + 0) + 0) (yq_at ((1 * r 0 + 0) + 0) ((1 * ((1 * r 8 + 0) + 0) + 0) + 0) ((1 * ((1 * r 11 + 0) + 0) + 0) + 0) ((1 * ((1 * r 14 + 0) + 0) + 0) + 0) ((1 * ((1 * r 17 + 0) + 0) + 0) + 0)) ((1 * ((1 * r 14 + 0) + 0) + 0) + 0) ((1 * ((1 * r 13 + 0) + 0) + 0) + 0) (yq_fat ((1 * r 0 + 0) + 0) (g0 3) (g0 5) (g0 7) (g0 9)) (g0 7) ∧ (g 9) = yq_xc ((1 * r 0 + 0) + 0) ((1 * r 1 + 0) + 0) ((1 * r 2 + 0) + 0) ((1 * r 3 + 0) + 0) ((1 * r 4 + 0) + 0) 3 (yq_at ((1 * r 0 + 0) + 0) ((1 * ((1 * r 6 + 0) + 0) + 0) + 0) ((1 * ((1 * r 9 + 0) + 0) + 0) + 0) ((1 * ((1 * r 12 + 0) + 0) + 0) + 0) ((1 * ((1 * r 15 + 0) + 0) + 0) + 0)) ((1 * ((1 * r 15 + 0) + 0) + 0) + 0) (yq_at ((1 * r 0 + 0) + 0) ((1 * ((1 * r 8 + 0) + 0) + 0) + 0) ((1 * ((1 * r 11 + 0) + 0) + 0) + 0) ((1 * ((1 * r 14 + 0) + 0) + 0) + 0) ((1 * ((1 * r 17 + 0) + 0) + 0) + 0)) ((1 * ((1 * r 17 + 0) + 0) + 0) + 0) ((1 * ((1 * r 16 + 0) + 0) + 0) + 0) (yq_fat ((1 * r 0 + 0) + 0) (g0 3) (g0 5) (g0 7) (g0 9)) (g0 9)
  try simp only [Int.one_mul, Int.zero_add, Int.add_zero]
  refine ⟨?_, ?_, ?_, ?_, ?_⟩
  · rw [show r 0 = 2 by omega]
    rw [show r 2 = 1 by omega]
    simp only [yq_at1, yq_at2]
    unfold yq_cr
    repeat' split
    all_goals omega
  · rw [show r 0 = 2 by omega]
    simp only [yq_at2, yq_fat2]
    unfold yq_xc
    rw [if_neg (by omega)]
    rw [hgi]
  · rw [show r 0 = 2 by omega]
    simp only [yq_at2, yq_fat2]
    unfold yq_xc
    rw [if_neg (by omega)]
    rw [hgi]
  · rw [show r 0 = 2 by omega]
    simp only [yq_at2, yq_fat2]
    unfold yq_xc
    rw [if_neg (by omega)]
    rw [hgi]
  · rw [show r 0 = 2 by omega]
    simp only [yq_at2, yq_fat2]
    unfold yq_xc
    rw [if_neg (by omega)]
    rw [hgi]
theorem xw_40_0_65 : yt_hold xT_40 xk_40 xq_40.2.2.1 xG_40 xP_40 xU_40 18 xk_40.2.1.2.2.2 (fun g0 r g => xR_40 r g0 ∧ g = g0) (1000, ([(2, 2), ((-2147483648), (-1)), (2, 2), ((-2147483648), 2147483647), (0, 2147483647), ((-2147483648), 2147483647), (0, 1), ((-2147483648), 2147483647), (0, 100), (0, 1), ((-2147483648), 2147483647), (0, 100), (1, 1), ((-2147483648), 2147483647), (0, 100), (0, 1), ((-2147483648), 2147483647), (0, 100), ((-2147483648), 0)], []), [([], (-3)), ([(18, 1)], 0)], [], []) := by
  intro g0 r gi g hok hh hars hfr hG
  have b0 : 2 ≤ r 0 ∧ r 0 ≤ 2 := hok.1 0 (2, 2) rfl
  have b1 : (-2147483648) ≤ r 1 ∧ r 1 ≤ (-1) := hok.1 1 ((-2147483648), (-1)) rfl
  have b2 : 2 ≤ r 2 ∧ r 2 ≤ 2 := hok.1 2 (2, 2) rfl
  have b3 : (-2147483648) ≤ r 3 ∧ r 3 ≤ 2147483647 := hok.1 3 ((-2147483648), 2147483647) rfl
  have b4 : 0 ≤ r 4 ∧ r 4 ≤ 2147483647 := hok.1 4 (0, 2147483647) rfl
  have b5 : (-2147483648) ≤ r 5 ∧ r 5 ≤ 2147483647 := hok.1 5 ((-2147483648), 2147483647) rfl
  have b6 : 0 ≤ r 6 ∧ r 6 ≤ 1 := hok.1 6 (0, 1) rfl
  have b7 : (-2147483648) ≤ r 7 ∧ r 7 ≤ 2147483647 := hok.1 7 ((-2147483648), 2147483647) rfl
  have b8 : 0 ≤ r 8 ∧ r 8 ≤ 100 := hok.1 8 (0, 100) rfl
  have b9 : 0 ≤ r 9 ∧ r 9 ≤ 1 := hok.1 9 (0, 1) rfl
  have b10 : (-2147483648) ≤ r 10 ∧ r 10 ≤ 2147483647 := hok.1 10 ((-2147483648), 2147483647) rfl
  have b11 : 0 ≤ r 11 ∧ r 11 ≤ 100 := hok.1 11 (0, 100) rfl
  have b12 : 1 ≤ r 12 ∧ r 12 ≤ 1 := hok.1 12 (1, 1) rfl
  have b13 : (-2147483648) ≤ r 13 ∧ r 13 ≤ 2147483647 := hok.1 13 ((-2147483648), 2147483647) rfl
  have b14 : 0 ≤ r 14 ∧ r 14 ≤ 100 := hok.1 14 (0, 100) rfl
  have b15 : 0 ≤ r 15 ∧ r 15 ≤ 1 := hok.1 15 (0, 1) rfl
  have b16 : (-2147483648) ≤ r 16 ∧ r 16 ≤ 2147483647 := hok.1 16 ((-2147483648), 2147483647) rfl
  have b17 : 0 ≤ r 17 ∧ r 17 ≤ 100 := hok.1 17 (0, 100) rfl
  have b18 : (-2147483648) ≤ r 18 ∧ r 18 ≤ 0 := hok.1 18 ((-2147483648), 0) rfl
  obtain ⟨hG, hgi⟩ := hG
  have hG : True := hG
  have hh : g = gi := hh
  subst hh
  refine yt_dalt (by decide) (by decide) ?_
  rw [show xk_40.2.1.2.1.1.length = 18 from rfl]
  show ((0 : Int) + (-3)) = yq_cr ((1 * r 0 + 0) + 0) ((1 * r 1 + 0) + 0) ((1 * r 2 + 0) + 0) ((1 * r 3 + 0) + 0) ((1 * r 4 + 0) + 0) (yq_at ((1 * r 0 + 0) + 0) ((1 * ((1 * r 6 + 0) + 0) + 0) + 0) ((1 * ((1 * r 9 + 0) + 0) + 0) + 0) ((1 * ((1 * r 12 + 0) + 0) + 0) + 0) ((1 * ((1 * r 15 + 0) + 0) + 0) + 0)) (yq_at ((1 * r 2 + 0) + 0) ((1 * ((1 * r 6 + 0) + 0) + 0) + 0) ((1 * ((1 * r 9 + 0) + 0) + 0) + 0) ((1 * ((1 * r 12 + 0) + 0) + 0) + 0) ((1 * ((1 * r 15 + 0) + 0) + 0) + 0)) (yq_at ((1 * r 0 + 0) + 0) ((1 * ((1 * r 8 + 0) + 0) + 0) + 0) ((1 * ((1 * r 11 + 0) + 0) + 0) + 0) ((1 * ((1 * r 14 + 0) + 0) + 0) + 0) ((1 * ((1 * r 17 + 0) + 0) + 0) + 0)) (yq_at ((1 * r 2 + 0) + 0) ((1 * ((1 * r 8 + 0) + 0) + 0) + 0) ((1 * ((1 * r 11 + 0) + 0) + 0) + 0) ((1 * ((1 * r 14 + 0) + 0) + 0) + 0) ((1 * ((1 * r 17 + 0) + 0) + 0) + 0)) ∧ (g 3) = yq_xc ((1 * r 0 + 0) + 0) ((1 * r 1 + 0) + 0) ((1 * r 2 + 0) + 0) ((1 * r 3 + 0) + 0) ((1 * r 4 + 0) + 0) 0 (yq_at ((1 * r 0 + 0) + 0) ((1 * ((1 * r 6 + 0) + 0) + 0) + 0) ((1 * ((1 * r 9 + 0) + 0) + 0) + 0) ((1 * ((1 * r 12 + 0) + 0) + 0) + 0) ((1 * ((1 * r 15 + 0) + 0) + 0) + 0)) ((1 * ((1 * r 6 + 0) + 0) + 0) + 0) (yq_at ((1 * r 0 + 0) + 0) ((1 * ((1 * r 8 + 0) + 0) + 0) + 0) ((1 * ((1 * r 11 + 0) + 0) + 0) + 0) ((1 * ((1 * r 14 + 0) + 0) + 0) + 0) ((1 * ((1 * r 17 + 0) + 0) + 0) + 0)) ((1 * ((1 * r 8 + 0) + 0) + 0) + 0) ((1 * ((1 * r 7 + 0) + 0) + 0) + 0) (yq_fat ((1 * r 0 + 0) + 0) (g0 3) (g0 5) (g0 7) (g0 9)) (g0 3) ∧ (g 5) = yq_xc ((1 * r 0 + 0) + 0) ((1 * r 1 + 0) + 0) ((1 * r 2 + 0) + 0) ((1 * r 3 + 0) + 0) ((1 * r 4 + 0) + 0) 1 (yq_at ((1 * r 0 + 0) + 0) ((1 * ((1 * r 6 + 0) + 0) + 0) + 0) ((1 * ((1 * r 9 + 0) + 0) + 0) + 0) ((1 * ((1 * r 12 + 0) + 0) + 0) + 0) ((1 * ((1 * r 15 + 0) + 0) + 0) + 0)) ((1 * ((1 * r 9 + 0) + 0) + 0) + 0) (yq_at ((1 * r 0 + 0) + 0) ((1 * ((1 * r 8 + 0) + 0) + 0) + 0) ((1 * ((1 * r 11 + 0) + 0) + 0) + 0) ((1 * ((1 * r 14 + 0) + 0) + 0) + 0) ((1 * ((1 * r 17 + 0) + 0) + 0) + 0)) ((1 * ((1 * r 11 + 0) + 0) + 0) + 0) ((1 * ((1 * r 10 + 0) + 0) + 0) + 0) (yq_fat ((1 * r 0 + 0) + 0) (g0 3) (g0 5) (g0 7) (g0 9)) (g0 5) ∧ (g 7) = yq_xc ((1 * r 0 + 0) + 0) ((1 * r 1 + 0) + 0) ((1 * r 2 + 0) + 0) ((1 * r 3 + 0) + 0) ((1 * r 4 + 0) + 0) 2 (yq_at ((1 * r 0 + 0) + 0) ((1 * ((1 * r 6 + 0) + 0) + 0) + 0) ((1 * ((1 * r 9 + 0) + 0) + 0) + 0) ((1 * ((1 * r 12 + 0) + 0) + 0) + 0) ((1 * ((1 * r 15 + 0) + 0) + 0) + 0)) ((1 * ((1 * r 12 + 0) + 0) + 0) + 0) (yq_at ((1 * r 0 + 0) + 0) ((1 * ((1 * r 8 + 0) + 0) + 0) + 0) ((1 * ((1 * r 11 + 0) + 0) + 0) + 0) ((1 * ((1 * r 14 + 0) + 0) + 0) + 0) ((1 * ((1 * r 17 + 0) + 0) + 0) + 0)) ((1 * ((1 * r 14 + 0) + 0) + 0) + 0) ((1 * ((1 * r 13 + 0) + 0) + 0) + 0) (yq_fat ((1 * r 0 + 0) + 0) (g0 3) (g0 5) (g0 7) (g0 9)) (g0 7) ∧ (g 9) = yq_xc ((1 * r 0 + 0) + 0) ((1 * r 1 + 0) + 0) ((1 * r 2 + 0) + 0) ((1 * r 3 + 0) + 0) ((1 * r 4 + 0) + 0) 3 (yq_at ((1 * r 0 + 0) + 0) ((1 * ((1 * r 6 + 0) + 0) + 0) + 0) ((1 * ((1 * r 9 + 0) + 0) + 0) + 0) ((1 * ((1 * r 12 + 0) + 0) + 0) + 0) ((1 * ((1 * r 15 + 0) + 0) + 0) + 0)) ((1 * ((1 * r 15 + 0) + 0) + 0) + 0) (yq_at ((1 * r 0 + 0) + 0) ((1 * ((1 * r 8 + 0) + 0) + 0) + 0) ((1 * ((1 * r 11 + 0) + 0) + 0) + 0) ((1 * ((1 * r 14 + 0) + 0) + 0) + 0) ((1 * ((1 * r 17 + 0) + 0) + 0) + 0)) ((1 * ((1 * r 17 + 0) + 0) + 0) + 0) ((1 * ((1 * r 16 + 0) + 0) + 0) + 0) (yq_fat ((1 * r 0 + 0) + 0) (g0 3) (g0 5) (g0 7) (g0 9)) (g0 9)
  try simp only [Int.one_mul, Int.zero_add, Int.add_zero]
  refine ⟨?_, ?_, ?_, ?_, ?_⟩
  · rw [show r 0 = 2 by omega]
    rw [show r 2 = 2 by omega]
    simp only [yq_at2]
    unfold yq_cr
    repeat' split
    all_goals omega
  · rw [show r 0 = 2 by omega]
    simp only [yq_at2, yq_fat2]
    unfold yq_xc
    rw [if_neg (by omega)]
    rw [hgi]
  · rw [show r 0 = 2 by omega]
    simp only [yq_at2, yq_fat2]
    unfold yq_xc
    rw [if_neg (by omega)]
    rw [hgi]
  · rw [show r 0 = 2 by omega]
    simp only [yq_at2, yq_fat2]
    unfold yq_xc
    rw [if_neg (by omega)]
    rw [hgi]
  · rw [show r 0 = 2 by omega]
    simp only [yq_at2, yq_fat2]
    unfold yq_xc
    rw [if_neg (by omega)]
    rw [hgi]
theorem xw_40_0_66 : yt_hold xT_40 xk_40 xq_40.2.2.1 xG_40 xP_40 xU_40 18 xk_40.2.1.2.2.2 (fun g0 r g => xR_40 r g0 ∧ g = g0) (1000, ([(2, 2), (0, 2147483647), (2, 2), ((-2147483648), 2147483647), (0, 2147483647), ((-2147483648), 2147483647), (0, 1), ((-2147483648), 2147483647), (0, 100), (0, 1), ((-2147483648), 2147483647), (0, 100), (1, 1), ((-2147483648), 2147483647), (0, 100), (0, 1), ((-2147483648), 2147483647), (0, 100), ((-2147483648), 0)], [([(1, 1), (14, (-1)), (4, 1)], (-1))]), [([], (-3)), ([(18, 1)], 0)], [], []) := by
  intro g0 r gi g hok hh hars hfr hG
  have b0 : 2 ≤ r 0 ∧ r 0 ≤ 2 := hok.1 0 (2, 2) rfl
  have b1 : 0 ≤ r 1 ∧ r 1 ≤ 2147483647 := hok.1 1 (0, 2147483647) rfl
  have b2 : 2 ≤ r 2 ∧ r 2 ≤ 2 := hok.1 2 (2, 2) rfl
  have b3 : (-2147483648) ≤ r 3 ∧ r 3 ≤ 2147483647 := hok.1 3 ((-2147483648), 2147483647) rfl
  have b4 : 0 ≤ r 4 ∧ r 4 ≤ 2147483647 := hok.1 4 (0, 2147483647) rfl
  have b5 : (-2147483648) ≤ r 5 ∧ r 5 ≤ 2147483647 := hok.1 5 ((-2147483648), 2147483647) rfl
  have b6 : 0 ≤ r 6 ∧ r 6 ≤ 1 := hok.1 6 (0, 1) rfl
  have b7 : (-2147483648) ≤ r 7 ∧ r 7 ≤ 2147483647 := hok.1 7 ((-2147483648), 2147483647) rfl
  have b8 : 0 ≤ r 8 ∧ r 8 ≤ 100 := hok.1 8 (0, 100) rfl
  have b9 : 0 ≤ r 9 ∧ r 9 ≤ 1 := hok.1 9 (0, 1) rfl
  have b10 : (-2147483648) ≤ r 10 ∧ r 10 ≤ 2147483647 := hok.1 10 ((-2147483648), 2147483647) rfl
  have b11 : 0 ≤ r 11 ∧ r 11 ≤ 100 := hok.1 11 (0, 100) rfl
  have b12 : 1 ≤ r 12 ∧ r 12 ≤ 1 := hok.1 12 (1, 1) rfl
  have b13 : (-2147483648) ≤ r 13 ∧ r 13 ≤ 2147483647 := hok.1 13 ((-2147483648), 2147483647) rfl
  have b14 : 0 ≤ r 14 ∧ r 14 ≤ 100 := hok.1 14 (0, 100) rfl
  have b15 : 0 ≤ r 15 ∧ r 15 ≤ 1 := hok.1 15 (0, 1) rfl
  have b16 : (-2147483648) ≤ r 16 ∧ r 16 ≤ 2147483647 := hok.1 16 ((-2147483648), 2147483647) rfl
  have b17 : 0 ≤ r 17 ∧ r 17 ≤ 100 := hok.1 17 (0, 100) rfl
  have b18 : (-2147483648) ≤ r 18 ∧ r 18 ≤ 0 := hok.1 18 ((-2147483648), 0) rfl
  have f0 : 0 ≤ ((1 * r 1 + ((-1) * r 14 + (1 * r 4 + 0))) + (-1)) := hok.2 _ (List.mem_of_getElem? (i := 0) rfl)
  obtain ⟨hG, hgi⟩ := hG
  have hG : True := hG
  have hh : g = gi := hh
  subst hh
  refine yt_dalt (by decide) (by decide) ?_
  rw [show xk_40.2.1.2.1.1.length = 18 from rfl]
  show ((0 : Int) + (-3)) = yq_cr ((1 * r 0 + 0) + 0) ((1 * r 1 + 0) + 0) ((1 * r 2 + 0) + 0) ((1 * r 3 + 0) + 0) ((1 * r 4 + 0) + 0) (yq_at ((1 * r 0 + 0) + 0) ((1 * ((1 * r 6 + 0) + 0) + 0) + 0) ((1 * ((1 * r 9 + 0) + 0) + 0) + 0) ((1 * ((1 * r 12 + 0) + 0) + 0) + 0) ((1 * ((1 * r 15 + 0) + 0) + 0) + 0)) (yq_at ((1 * r 2 + 0) + 0) ((1 * ((1 * r 6 + 0) + 0) + 0) + 0) ((1 * ((1 * r 9 + 0) + 0) + 0) + 0) ((1 * ((1 * r 12 + 0) + 0) + 0) + 0) ((1 * ((1 * r 15 + 0) + 0) + 0) + 0)) (yq_at ((1 * r 0 + 0) + 0) ((1 * ((1 * r 8 + 0) + 0) + 0) + 0) ((1 * ((1 * r 11 + 0) + 0) + 0) + 0) ((1 * ((1 * r 14 + 0) + 0) + 0) + 0) ((1 * ((1 * r 17 + 0) + 0) + 0) + 0)) (yq_at ((1 * r 2 + 0) + 0) ((1 * ((1 * r 8 + 0) + 0) + 0) + 0) ((1 * ((1 * r 11 + 0) + 0) + 0) + 0) ((1 * ((1 * r 14 + 0) + 0) + 0) + 0) ((1 * ((1 * r 17 + 0) + 0) + 0) + 0)) ∧ (g 3) = yq_xc ((1 * r 0 + 0) + 0) ((1 * r 1 + 0) + 0) ((1 * r 2 + 0) + 0) ((1 * r 3 + 0) + 0) ((1 * r 4 + 0) + 0) 0 (yq_at ((1 * r 0 + 0) + 0) ((1 * ((1 * r 6 + 0) + 0) + 0) + 0) ((1 * ((1 * r 9 + 0) + 0) + 0) + 0) ((1 * ((1 * r 12 + 0) + 0) + 0) + 0) ((1 * ((1 * r 15 + 0) + 0) + 0) + 0)) ((1 * ((1 * r 6 + 0) + 0) + 0) + 0) (yq_at ((1 * r 0 + 0) + 0) ((1 * ((1 * r 8 + 0) + 0) + 0) + 0) ((1 * ((1 * r 11 + 0) + 0) + 0) + 0) ((1 * ((1 * r 14 + 0) + 0) + 0) + 0) ((1 * ((1 * r 17 + 0) + 0) + 0) + 0)) ((1 * ((1 * r 8 + 0) + 0) + 0) + 0) ((1 * ((1 * r 7 + 0) + 0) + 0) + 0) (yq_fat ((1 * r 0 + 0) + 0) (g0 3) (g0 5) (g0 7) (g0 9)) (g0 3) ∧ (g 5) = yq_xc ((1 * r 0 + 0) + 0) ((1 * r 1 + 0) + 0) ((1 * r 2 + 0) + 0) ((1 * r 3 + 0) + 0) ((1 * r 4 + 0) + 0) 1 (yq_at ((1 * r 0 + 0) + 0) ((1 * ((1 * r 6 + 0) + 0) + 0) + 0) ((1 * ((1 * r 9 + 0) + 0) + 0) + 0) ((1 * ((1 * r 12 + 0) + 0) + 0) + 0) ((1 * ((1 * r 15 + 0) + 0) + 0) + 0)) ((1 * ((1 * r 9 + 0) + 0) + 0) + 0) (yq_at ((1 * r 0 + 0) + 0) ((1 * ((1 * r 8 + 0) + 0) + 0) + 0) ((1 * ((1 * r 11 + 0) + 0) + 0) + 0) ((1 * ((1 * r 14 + 0) + 0) + 0) + 0) ((1 * ((1 * r 17 + 0) + 0) + 0) + 0)) ((1 * ((1 * r 11 + 0) + 0) + 0) + 0) ((1 * ((1 * r 10 + 0) + 0) + 0) + 0) (yq_fat ((1 * r 0 + 0) + 0) (g0 3) (g0 5) (g0 7) (g0 9)) (g0 5) ∧ (g 7) = yq_xc ((1 * r 0 + 0) + 0) ((1 * r 1 + 0) + 0) ((1 * r 2 + 0) + 0) ((1 * r 3 + 0) + 0) ((1 * r 4 + 0) + 0) 2 (yq_at ((1 * r 0 + 0) + 0) ((1 * ((1 * r 6 + 0) + 0) + 0) + 0) ((1 * ((1 * r 9 + 0) + 0) + 0) + 0) ((1 * ((1 * r 12 + 0) + 0) + 0) + 0) ((1 * ((1 * r 15 + 0) + 0) + 0) + 0)) ((1 * ((1 * r 12 + 0) + 0) + 0) + 0) (yq_at ((1 * r 0 + 0) + 0) ((1 * ((1 * r 8 + 0) + 0) + 0) + 0) ((1 * ((1 * r 11 + 0) + 0) + 0) + 0) ((1 * ((1 * r 14 + 0) + 0) + 0) + 0) ((1 * ((1 * r 17 + 0) + 0) + 0) + 0)) ((1 * ((1 * r 14 + 0) + 0) + 0) + 0) ((1 * ((1 * r 13 + 0) + 0) + 0) + 0) (yq_fat ((1 * r 0 + 0) + 0) (g0 3) (g0 5) (g0 7) (g0 9)) (g0 7) ∧ (g 9) = yq_xc ((1 * r 0 + 0) + 0) ((1 * r 1 + 0) + 0) ((1 * r 2 + 0) + 0) ((1 * r 3 + 0) + 0) ((1 * r 4 + 0) + 0) 3 (yq_at ((1 * r 0 + 0) + 0) ((1 * ((1 * r 6 + 0) + 0) + 0) + 0) ((1 * ((1 * r 9 + 0) + 0) + 0) + 0) ((1 * ((1 * r 12 + 0) + 0) + 0) + 0) ((1 * ((1 * r 15 + 0) + 0) + 0) + 0)) ((1 * ((1 * r 15 + 0) + 0) + 0) + 0) (yq_at ((1 * r 0 + 0) + 0) ((1 * ((1 * r 8 + 0) + 0) + 0) + 0) ((1 * ((1 * r 11 + 0) + 0) + 0) + 0) ((1 * ((1 * r 14 + 0) + 0) + 0) + 0) ((1 * ((1 * r 17 + 0) + 0) + 0) + 0)) ((1 * ((1 * r 17 + 0) + 0) + 0) + 0) ((1 * ((1 * r 16 + 0) + 0) + 0) + 0) (yq_fat ((1 * r 0 + 0) + 0) (g0 3) (g0 5) (g0 7) (g0 9)) (g0 9)
  try simp only [Int.one_mul, Int.zero_add, Int.add_zero]
  refine ⟨?_, ?_, ?_, ?_, ?_⟩
  · rw [show r 0 = 2 by omega]
    rw [show r 2 = 2 by omega]
    simp only [yq_at2]
    unfold yq_cr
    repeat' split
    all_goals omega
  · rw [show r 0 = 2 by omega]
    simp only [yq_at2, yq_fat2]
    unfold yq_xc
    rw [if_neg (by omega)]
    rw [hgi]
  · rw [show r 0 = 2 by omega]
    simp only [yq_at2, yq_fat2]
    unfold yq_xc
    rw [if_neg (by omega)]
    rw [hgi]
  · rw [show r 0 = 2 by omega]
    simp only [yq_at2, yq_fat2]
    unfold yq_xc
    rw [if_neg (by omega)]
    rw [hgi]
  · rw [show r 0 = 2 by omega]
    simp only [yq_at2, yq_fat2]
    unfold yq_xc
    rw [if_neg (by omega)]
    rw [hgi]
theorem xw_40_0_67 : yt_hold xT_40 xk_40 xq_40.2.2.1 xG_40 xP_40 xU_40 18 xk_40.2.1.2.2.2 (fun g0 r g => xR_40 r g0 ∧ g = g0) (1000, ([(2, 2), (0, 100), (2, 2), ((-2147483648), (-1)), (0, 100), ((-2147483648), 2147483647), (0, 1), ((-2147483648), 2147483647), (0, 100), (0, 1), ((-2147483648), 2147483647), (0, 100), (1, 1), ((-2147483648), 2147483647), (0, 100), (0, 1), ((-2147483648), 2147483647), (0, 100), ((-2147483648), 0)], [([(1, (-1)), (14, 1), (4, (-1))], 0)]), [([], (-3)), ([(18, 1)], 0)], [], []) := by
  intro g0 r gi g hok hh hars hfr hG
  have b0 : 2 ≤ r 0 ∧ r 0 ≤ 2 := hok.1 0 (2, 2) rfl
  have b1 : 0 ≤ r 1 ∧ r 1 ≤ 100 := hok.1 1 (0, 100) rfl
  have b2 : 2 ≤ r 2 ∧ r 2 ≤ 2 := hok.1 2 (2, 2) rfl
  have b3 : (-2147483648) ≤ r 3 ∧ r 3 ≤ (-1) := hok.1 3 ((-2147483648), (-1)) rfl
  have b4 : 0 ≤ r 4 ∧ r 4 ≤ 100 := hok.1 4 (0, 100) rfl
  have b5 : (-2147483648) ≤ r 5 ∧ r 5 ≤ 2147483647 := hok.1 5 ((-2147483648), 2147483647) rfl
  have b6 : 0 ≤ r 6 ∧ r 6 ≤ 1 := hok.1 6 (0, 1) rfl
  have b7 : (-2147483648) ≤ r 7 ∧ r 7 ≤ 2147483647 := hok.1 7 ((-2147483648), 2147483647) rfl
  have b8 : 0 ≤ r 8 ∧ r 8 ≤ 100 := hok.1 8 (0, 100) rfl
  have b9 : 0 ≤ r 9 ∧ r 9 ≤ 1 := hok.1 9 (0, 1) rfl
  have b10 : (-2147483648) ≤ r 10 ∧ r 10 ≤ 2147483647 := hok.1 10 ((-2147483648), 2147483647) rfl
  have b11 : 0 ≤ r 11 ∧ r 11 ≤ 100 := hok.1 11 (0, 100) rfl
  have b12 : 1 ≤ r 12 ∧ r 12 ≤ 1 := hok.1 12 (1, 1) rfl
  have b13 : (-2147483648) ≤ r 13 ∧ r 13 ≤ 2147483647 := hok.1 13 ((-2147483648), 2147483647) rfl
  have b14 : 0 ≤ r 14 ∧ r 14 ≤ 100 := hok.1 14 (0, 100) rfl
  have b15 : 0 ≤ r 15 ∧ r 15 ≤ 1 := hok.1 15 (0, 1) rfl
  have b16 : (-2147483648) ≤ r 16 ∧ r 16 ≤ 2147483647 := hok.1 16 ((-2147483648), 2147483647) rfl
  have b17 : 0 ≤ r 17 ∧ r 17 ≤ 100 := hok.1 17 (0, 100) rfl
  have b18 : (-2147483648) ≤ r 18 ∧ r 18 ≤ 0 := hok.1 18 ((-2147483648), 0) rfl
  have f0 : 0 ≤ (((-1) * r 1 + (1 * r 14 + ((-1) * r 4 + 0))) + 0) := hok.2 _ (List.mem_of_getElem? (i := 0) rfl)
  obtain ⟨hG, hgi⟩ := hG
  have hG : True := hG
  have hh : g = gi := hh
  subst hh
  refine yt_dalt (by decide) (by decide) ?_
  rw [show xk_40.2.1.2.1.1.length = 18 from rfl]
  show ((0 : Int) + (-3)) = yq_cr ((1 * r 0 + 0) + 0) ((1 * r 1 + 0) + 0) ((1 * r 2 + 0) + 0) ((1 * r 3 + 0) + 0) ((1 * r 4 + 0) + 0) (yq_at ((1 * r 0 + 0) + 0) ((1 * ((1 * r 6 + 0) + 0) + 0) + 0) ((1 * ((1 * r 9 + 0) + 0) + 0) + 0) ((1 * ((1 * r 12 + 0) + 0) + 0) + 0) ((1 * ((1 * r 15 + 0) + 0) + 0) + 0)) (yq_at ((1 * r 2 + 0) + 0) ((1 * ((1 * r 6 + 0) + 0) + 0) + 0) ((1 * ((1 * r 9 + 0) + 0) + 0) + 0) ((1 * ((1 * r 12 + 0) + 0) + 0) + 0) ((1 * ((1 * r 15 + 0) + 0) + 0) + 0)) (yq_at ((1 * r 0 + 0) + 0) ((1 * ((1 * r 8 + 0) + 0) + 0) + 0) ((1 * ((1 * r 11 + 0) + 0) + 0) + 0) ((1 * ((1 * r 14 + 0) + 0) + 0) + 0) ((1 * ((1 * r 17 + 0) + 0) + 0) + 0)) (yq_at ((1 * r 2 + 0) + 0) ((1 * ((1 * r 8 + 0) + 0) + 0) + 0) ((1 * ((1 * r 11 + 0) + 0) + 0) + 0) ((1 * ((1 * r 14 + 0) + 0) + 0) + 0) ((1 * ((1 * r 17 + 0) + 0) + 0) + 0)) ∧ (g 3) = yq_xc ((1 * r 0 + 0) + 0) ((1 * r 1 + 0) + 0) ((1 * r 2 + 0) + 0) ((1 * r 3 + 0) + 0) ((1 * r 4 + 0) + 0) 0 (yq_at ((1 * r 0 + 0) + 0) ((1 * ((1 * r 6 + 0) + 0) + 0) + 0) ((1 * ((1 * r 9 + 0) + 0) + 0) + 0) ((1 * ((1 * r 12 + 0) + 0) + 0) + 0) ((1 * ((1 * r 15 + 0) + 0) + 0) + 0)) ((1 * ((1 * r 6 + 0) + 0) + 0) + 0) (yq_at ((1 * r 0 + 0) + 0) ((1 * ((1 * r 8 + 0) + 0) + 0) + 0) ((1 * ((1 * r 11 + 0) + 0) + 0) + 0) ((1 * ((1 * r 14 + 0) + 0) + 0) + 0) ((1 * ((1 * r 17 + 0) + 0) + 0) + 0)) ((1 * ((1 * r 8 + 0) + 0) + 0) + 0) ((1 * ((1 * r 7 + 0) + 0) + 0) + 0) (yq_fat ((1 * r 0 + 0) + 0) (g0 3) (g0 5) (g0 7) (g0 9)) (g0 3) ∧ (g 5) = yq_xc ((1 * r 0 + 0) + 0) ((1 * r 1 + 0) + 0) ((1 * r 2 + 0) + 0) ((1 * r 3 + 0) + 0) ((1 * r 4 + 0) + 0) 1 (yq_at ((1 * r 0 + 0) + 0) ((1 * ((1 * r 6 + 0) + 0) + 0) + 0) ((1 * ((1 * r 9 + 0) + 0) + 0) + 0) ((1 * ((1 * r 12 + 0) + 0) + 0) + 0) ((1 * ((1 * r 15 + 0) + 0) + 0) + 0)) ((1 * ((1 * r 9 + 0) + 0) + 0) + 0) (yq_at ((1 * r 0 + 0) + 0) ((1 * ((1 * r 8 + 0) + 0) + 0) + 0) ((1 * ((1 * r 11 + 0) + 0) + 0) + 0) ((1 * ((1 * r 14 + 0) + 0) + 0) + 0) ((1 * ((1 * r 17 + 0) + 0) + 0) + 0)) ((1 * ((1 * r 11 + 0) + 0) + 0) + 0) ((1 * ((1 * r 10 + 0) + 0) + 0) + 0) (yq_fat ((1 * r 0 + 0) + 0) (g0 3) (g0 5) (g0 7) (g0 9)) (g0 5) ∧ (g 7) = yq_xc ((1 * r 0 + 0) + 0) ((1 * r 1 + 0) + 0) ((1 * r 2 + 0) + 0) ((1 * r 3 + 0) + 0) ((1 * r 4 + 0) + 0) 2 (yq_at ((1 * r 0 + 0) + 0) ((1 * ((1 * r 6 + 0) + 0) + 0) + 0) ((1 * ((1 * r 9 + 0) + 0) + 0) + 0) ((1 * ((1 * r 12 + 0) + 0) + 0) + 0) ((1 * ((1 * r 15 + 0) + 0) + 0) + 0)) ((1 * ((1 * r 12 + 0) + 0) + 0) + 0) (yq_at ((1 * r 0 + 0) + 0) ((1 * ((1 * r 8 + 0) + 0) + 0) + 0) ((1 * ((1 * r 11 + 0) + 0) + 0) + 0) ((1 * ((1 * r 14 + 0) + 0) + 0) + 0) ((1 * ((1 * r 17 + 0) + 0) + 0) + 0)) ((1 * ((1 * r 14 + 0) + 0) + 0) + 0) ((1 * ((1 * r 13 + 0) + 0) + 0) + 0) (yq_fat ((1 * r 0 + 0) + 0) (g0 3) (g0 5) (g0 7) (g0 9)) (g0 7) ∧ (g 9) = yq_xc ((1 * r 0 + 0) + 0) ((1 * r 1 + 0) + 0) ((1 * r 2 + 0) + 0) ((1 * r 3 + 0) + 0) ((1 * r 4 + 0) + 0) 3 (yq_at ((1 * r 0 + 0) + 0) ((1 * ((1 * r 6 + 0) + 0) + 0) + 0) ((1 * ((1 * r 9 + 0) + 0) + 0) + 0) ((1 * ((1 * r 12 + 0) + 0) + 0) + 0) ((1 * ((1 * r 15 + 0) + 0) + 0) + 0)) ((1 * ((1 * r 15 + 0) + 0) + 0) + 0) (yq_at ((1 * r 0 + 0) + 0) ((1 * ((1 * r 8 + 0) + 0) + 0) + 0) ((1 * ((1 * r 11 + 0) + 0) + 0) + 0) ((1 * ((1 * r 14 + 0) + 0) + 0) + 0) ((1 * ((1 * r 17 + 0) + 0) + 0) + 0)) ((1 * ((1 * r 17 + 0) + 0) + 0) + 0) ((1 * ((1 * r 16 + 0) + 0) + 0) + 0) (yq_fat ((1 * r 0 + 0) + 0) (g0 3) (g0 5) (g0 7) (g0 9)) (g0 9)
  try simp only [Int.one_mul, Int.zero_add, Int.add_zero]
  refine ⟨?_, ?_, ?_, ?_, ?_⟩
  · rw [show r 0 = 2 by omega]
    rw [show r 2 = 2 by omega]
    simp only [yq_at2]
    unfold yq_cr
    repeat' split
    all_goals omega
  · rw [show r 0 = 2 by omega]
    simp only [yq_at2, yq_fat2]
    unfold yq_xc
    rw [if_neg (by omega)]
    rw [hgi]
  · rw [show r 0 = 2 by omega]
    simp only [yq_at2, yq_fat2]
    unfold yq_xc
    rw [if_neg (by omega)]
    rw [hgi]
  · rw [show r 0 = 2 by omega]
    simp only [yq_at2, yq_fat2]
    unfold yq_xc
    rw [if_neg (by omega)]
    rw [hgi]
  · rw [show r 0 = 2 by omega]
    simp only [yq_at2, yq_fat2]
    unfold yq_xc
    rw [if_neg (by omega)]
    rw [hgi]
theorem xw_40_0_68 : yt_hold xT_40 xk_40 xq_40.2.2.1 xG_40 xP_40 xU_40 18 xk_40.2.1.2.2.2 (fun g0 r g => xR_40 r g0 ∧ g = g0) (1000, ([(2, 2), (0, 100), (2, 2), (0, 2147483647), (0, 100), ((-2147483648), 2147483647), (0, 1), ((-2147483648), 2147483647), (0, 100), (0, 1), ((-2147483648), 2147483647), (0, 100), (1, 1), ((-2147483648), 2147483647), (0, 100), (0, 1), ((-2147483648), 2147483647), (0, 100), ((-2147483648), 0)], [([(3, 1), (14, (-1)), (4, 1)], (-1)), ([(1, (-1)), (14, 1), (4, (-1))], 0)]), [([], (-3)), ([(18, 1)], 0)], [], []) := by
  intro g0 r gi g hok hh hars hfr hG
  have b0 : 2 ≤ r 0 ∧ r 0 ≤ 2 := hok.1 0 (2, 2) rfl
  have b1 : 0 ≤ r 1 ∧ r 1 ≤ 100 := hok.1 1 (0, 100) rfl
  have b2 : 2 ≤ r 2 ∧ r 2 ≤ 2 := hok.1 2 (2, 2) rfl
  have b3 : 0 ≤ r 3 ∧ r 3 ≤ 2147483647 := hok.1 3 (0, 2147483647) rfl
  have b4 : 0 ≤ r 4 ∧ r 4 ≤ 100 := hok.1 4 (0, 100) rfl
  have b5 : (-2147483648) ≤ r 5 ∧ r 5 ≤ 2147483647 := hok.1 5 ((-2147483648), 2147483647) rfl
  have b6 : 0 ≤ r 6 ∧ r 6 ≤ 1 := hok.1 6 (0, 1) rfl
  have b7 : (-2147483648) ≤ r 7 ∧ r 7 ≤ 2147483647 := hok.1 7 ((-2147483648), 2147483647) rfl
  have b8 : 0 ≤ r 8 ∧ r 8 ≤ 100 := hok.1 8 (0, 100) rfl
  have b9 : 0 ≤ r 9 ∧ r 9 ≤ 1 := hok.1 9 (0, 1) rfl
  have b10 : (-2147483648) ≤ r 10 ∧ r 10 ≤ 2147483647 := hok.1 10 ((-2147483648), 2147483647) rfl
  have b11 : 0 ≤ r 11 ∧ r 11 ≤ 100 := hok.1 11 (0, 100) rfl
  have b12 : 1 ≤ r 12 ∧ r 12 ≤ 1 := hok.1 12 (1, 1) rfl
  have b13 : (-2147483648) ≤ r 13 ∧ r 13 ≤ 2147483647 := hok.1 13 ((-2147483648), 2147483647) rfl
  have b14 : 0 ≤ r 14 ∧ r 14 ≤ 100 := hok.1 14 (0, 100) rfl
  have b15 : 0 ≤ r 15 ∧ r 15 ≤ 1 := hok.1 15 (0, 1) rfl
  have b16 : (-2147483648) ≤ r 16 ∧ r 16 ≤ 2147483647 := hok.1 16 ((-2147483648), 2147483647) rfl
  have b17 : 0 ≤ r 17 ∧ r 17 ≤ 100 := hok.1 17 (0, 100) rfl
  have b18 : (-2147483648) ≤ r 18 ∧ r 18 ≤ 0 := hok.1 18 ((-2147483648), 0) rfl
  have f0 : 0 ≤ ((1 * r 3 + ((-1) * r 14 + (1 * r 4 + 0))) + (-1)) := hok.2 _ (List.mem_of_getElem? (i := 0) rfl)
  have f1 : 0 ≤ (((-1) * r 1 + (1 * r 14 + ((-1) * r 4 + 0))) + 0) := hok.2 _ (List.mem_of_getElem? (i := 1) rfl)
  obtain ⟨hG, hgi⟩ := hG
  have hG : True := hG
  have hh : g = gi := hh
  subst hh
  refine yt_dalt (by decide) (by decide) ?_
  rw [show xk_40.2.1.2.1.1.length = 18 from rfl]
  show ((0 : Int) + (-3)) = yq_cr ((1 * r 0 + 0) + 0) ((1 * r 1 + 0) + 0) ((1 * r 2 + 0) + 0) ((1 * r 3 + 0) + 0) ((1 * r 4 + 0) + 0) (yq_at ((1 * r 0 + 0) + 0) ((1 * ((1 * r 6 + 0) + 0) + 0) + 0) ((1 * ((1 * r 9 + 0) + 0) + 0) + 0) ((1 * ((1 * r 12 + 0) + 0) + 0) + 0) ((1 * ((1 * r 15 + 0) + 0) + 0) + 0)) (yq_at ((1 * r 2 + 0) + 0) ((1 * ((1 * r 6 + 0) + 0) + 0) + 0) ((1 * ((1 * r 9 + 0) + 0) + 0) + 0) ((1 * ((1 * r 12 + 0) + 0) + 0) + 0) ((1 * ((1 * r 15 + 0) + 0) + 0) + 0)) (yq_at ((1 * r 0 + 0) + 0) ((1 * ((1 * r 8 + 0) + 0) + 0) + 0) ((1 * ((1 * r 11 + 0) + 0) + 0) + 0) ((1 * ((1 * r 14 + 0) + 0) + 0) + 0) ((1 * ((1 * r 17 + 0) + 0) + 0) + 0)) (yq_at ((1 * r 2 + 0) + 0) ((1 * ((1 * r 8 + 0) + 0) + 0) + 0) ((1 * ((1 * r 11 + 0) + 0) + 0) + 0) ((1 * ((1 * r 14 + 0) + 0) + 0) + 0) ((1 * ((1 * r 17 + 0) + 0) + 0) + 0)) ∧ (g 3) = yq_xc ((1 * r 0 + 0) + 0) ((1 * r 1 + 0) + 0) ((1 * r 2 + 0) + 0) ((1 * r 3 + 0) + 0) ((1 * r 4 + 0) + 0) 0 (yq_at ((1 * r 0 + 0) + 0) ((1 * ((1 * r 6 + 0) + 0) + 0) + 0) ((1 * ((1 * r 9 + 0) + 0) + 0) + 0) ((1 * ((1 * r 12 + 0) + 0) + 0) + 0) ((1 * ((1 * r 15 + 0) + 0) + 0) + 0)) ((1 * ((1 * r 6 + 0) + 0) + 0) + 0) (yq_at ((1 * r 0 + 0) + 0) ((1 * ((1 * r 8 + 0) + 0) + 0) + 0) ((1 * ((1 * r 11 + 0) + 0) + 0) + 0) ((1 * ((1 * r 14 + 0) + 0) + 0) + 0) ((1 * ((1 * r 17 + 0) + 0) + 0) + 0)) ((1 * ((1 * r 8 + 0) + 0) + 0) + 0) ((1 * ((1 * r 7 + 0) + 0) + 0) + 0) (yq_fat ((1 * r 0 + 0) + 0) (g0 3) (g0 5) (g0 7) (g0 9)) (g0 3) ∧ (g 5) = yq_xc ((1 * r 0 + 0) + 0) ((1 * r 1 + 0) + 0) ((1 * r 2 + 0) + 0) ((1 * r 3 + 0) + 0) ((1 * r 4 + 0) + 0) 1 (yq_at ((1 * r 0 + 0) + 0) ((1 * ((1 * r 6 + 0) + 0) + 0) + 0) ((1 * ((1 * r 9 + 0) + 0) + 0) + 0) ((1 * ((1 * r 12 + 0) + 0) + 0) + 0) ((1 * ((1 * r 15 + 0) + 0) + 0) + 0)) ((1 * ((1 * r 9 + 0) + 0) + 0) + 0) (yq_at ((1 * r 0 + 0) + 0) ((1 * ((1 * r 8 + 0) + 0) + 0) + 0) ((1 * ((1 * r 11 + 0) + 0) + 0) + 0) ((1 * ((1 * r 14 + 0) + 0) + 0) + 0) ((1 * ((1 * r 17 + 0) + 0) + 0) + 0)) ((1 * ((1 * r 11 + 0) + 0) + 0) + 0) ((1 * ((1 * r 10 + 0) + 0) + 0) + 0) (yq_fat ((1 * r 0 + 0) + 0) (g0 3) (g0 5) (g0 7) (g0 9)) (g0 5) ∧ (g 7) = yq_xc ((1 * r 0 + 0) + 0) ((1 * r 1 + 0) + 0) ((1 * r 2 + 0) + 0) ((1 * r 3 + 0) + 0) ((1 * r 4 + 0) + 0) 2 (yq_at ((1 * r 0 + 0) + 0) ((1 * ((1 * r 6 + 0) + 0) + 0) + 0) ((1 * ((1 * r 9 + 0) + 0) + 0) + 0) ((1 * ((1 * r 12 + 0) + 0) + 0) + 0) ((1 * ((1 * r 15 + 0) + 0) + 0) + 0)) ((1 * ((1 * r 12 + 0) + 0) + 0) + 0) (yq_at ((1 * r 0 + 0) + 0) ((1 * ((1 * r 8 + 0) + 0) + 0) + 0) ((1 * ((1 * r 11 + 0) + 0) + 0) + 0) ((1 * ((1 * r 14 + 0) + 0) + 0) + 0) ((1 * ((1 * r 17 + 0) + 0) + 0) + 0)) ((1 * ((1 * r 14 + 0) + 0) + 0) + 0) ((1 * ((1 * r 13 + 0) + 0) + 0) + 0) (yq_fat ((1 * r 0 + 0) + 0) (g0 3) (g0 5) (g0 7) (g0 9)) (g0 7) ∧ (g 9) = yq_xc ((1 * r 0 + 0) + 0) ((1 * r 1 + 0) + 0) ((1 * r 2 + 0) + 0) ((1 * r 3 + 0) + 0) ((1 * r 4 + 0) + 0) 3 (yq_at ((1 * r 0 + 0) + 0) ((1 * ((1 * r 6 + 0) + 0) + 0) + 0) ((1 * ((1 * r 9 + 0) + 0) + 0) + 0) ((1 * ((1 * r 12 + 0) + 0) + 0) + 0) ((1 * ((1 * r 15 + 0) + 0) + 0) + 0)) ((1 * ((1 * r 15 + 0) + 0) + 0) + 0) (yq_at ((1 * r 0 + 0) + 0) ((1 * ((1 * r 8 + 0) + 0) + 0) + 0) ((1 * ((1 * r 11 + 0) + 0) + 0) + 0) ((1 * ((1 * r 14 + 0) + 0) + 0) + 0) ((1 * ((1 * r 17 + 0) + 0) + 0) + 0)) ((1 * ((1 * r 17 + 0) + 0) + 0) + 0) ((1 * ((1 * r 16 + 0) + 0) + 0) + 0) (yq_fat ((1 * r 0 + 0) + 0) (g0 3) (g0 5) (g0 7) (g0 9)) (g0 9)
  try simp only [Int.one_mul, Int.zero_add, Int.add_zero]
  refine ⟨?_, ?_, ?_, ?_, ?_⟩
  · rw [show r 0 = 2 by omega]
    rw [show r 2 = 2 by omega]
    simp only [yq_at2]
    unfold yq_cr
    repeat' split
    all_goals omega
  · rw [show r 0 = 2 by omega]
    simp only [yq_at2, yq_fat2]
    unfold yq_xc
    rw [if_neg (by omega)]
    rw [hgi]
  · rw [show r 0 = 2 by omega]
    simp only [yq_at2, yq_fat2]
    unfold yq_xc
    rw [if_neg (by omega)]
    rw [hgi]
  · rw [show r 0 = 2 by omega]
    simp only [yq_at2, yq_fat2]
    unfold yq_xc
    rw [if_neg (by omega)]
    rw [hgi]
  · rw [show r 0 = 2 by omega]
    simp only [yq_at2, yq_fat2]
    unfold yq_xc
    rw [if_neg (by omega)]
    rw [hgi]
theorem xw_40_0_69 : yt_hold xT_40 xk_40 xq_40.2.2.1 xG_40 xP_40 xU_40 18 xk_40.2.1.2.2.2 (fun g0 r g => xR_40 r g0 ∧ g = g0) (1000, ([(2, 2), (0, 100), (2, 2), (0, 100), (0, 100), ((-2147483648), 2147483647), (0, 1), ((-2147483648), 2147483647), (0, 100), (0, 1), ((-2147483648), 2147483647), (0, 100), (1, 1), ((-2147483648), 2147483647), (0, 100), (0, 1), ((-2147483648), 2147483647), (0, 100), ((-2147483648), 0)], [([(4, (-1)), (3, (-1))], 101), ([(3, (-1)), (14, 1), (4, (-1))], 0), ([(1, (-1)), (14, 1), (4, (-1))], 0)]), [([(4, 1)], 0), ([(18, 1)], 0)], [], [.inr (.inr (.inl (99, 0, [([(3, 1)], 0), ([(1, 1)], 0), ([(4, 1)], 0), ([(12, 1)], 0), ([(13, 1)], 0), ([(14, 1)], 0)], [6, 7], [7])))]) := by
  intro g0 r gi g hok hh hars hfr hG
  have b0 : 2 ≤ r 0 ∧ r 0 ≤ 2 := hok.1 0 (2, 2) rfl
  have b1 : 0 ≤ r 1 ∧ r 1 ≤ 100 := hok.1 1 (0, 100) rfl
  have b2 : 2 ≤ r 2 ∧ r 2 ≤ 2 := hok.1 2 (2, 2) rfl
  have b3 : 0 ≤ r 3 ∧ r 3 ≤ 100 := hok.1 3 (0, 100) rfl
  have b4 : 0 ≤ r 4 ∧ r 4 ≤ 100 := hok.1 4 (0, 100) rfl
  have b5 : (-2147483648) ≤ r 5 ∧ r 5 ≤ 2147483647 := hok.1 5 ((-2147483648), 2147483647) rfl
  have b6 : 0 ≤ r 6 ∧ r 6 ≤ 1 := hok.1 6 (0, 1) rfl
  have b7 : (-2147483648) ≤ r 7 ∧ r 7 ≤ 2147483647 := hok.1 7 ((-2147483648), 2147483647) rfl
  have b8 : 0 ≤ r 8 ∧ r 8 ≤ 100 := hok.1 8 (0, 100) rfl
  have b9 : 0 ≤ r 9 ∧ r 9 ≤ 1 := hok.1 9 (0, 1) rfl
  have b10 : (-2147483648) ≤ r 10 ∧ r 10 ≤ 2147483647 := hok.1 10 ((-2147483648), 2147483647) rfl
  have b11 : 0 ≤ r 11 ∧ r 11 ≤ 100 := hok.1 11 (0, 100) rfl
  have b12 : 1 ≤ r 12 ∧ r 12 ≤ 1 := hok.1 12 (1, 1) rfl
  have b13 : (-2147483648) ≤ r 13 ∧ r 13 ≤ 2147483647 := hok.1 13 ((-2147483648), 2147483647) rfl
  have b14 : 0 ≤ r 14 ∧ r 14 ≤ 100 := hok.1 14 (0, 100) rfl
  have b15 : 0 ≤ r 15 ∧ r 15 ≤ 1 := hok.1 15 (0, 1) rfl
  have b16 : (-2147483648) ≤ r 16 ∧ r 16 ≤ 2147483647 := hok.1 16 ((-2147483648), 2147483647) rfl
  have b17 : 0 ≤ r 17 ∧ r 17 ≤ 100 := hok.1 17 (0, 100) rfl
  have b18 : (-2147483648) ≤ r 18 ∧ r 18 ≤ 0 := hok.1 18 ((-2147483648), 0) rfl
  have f0 : 0 ≤ (((-1) * r 4 + ((-1) * r 3 + 0)) + 101) := hok.2 _ (List.mem_of_getElem? (i := 0) rfl)
  have f1 : 0 ≤ (((-1) * r 3 + (1 * r 14 + ((-1) * r 4 + 0))) + 0) := hok.2 _ (List.mem_of_getElem? (i := 1) rfl)
  have f2 : 0 ≤ (((-1) * r 1 + (1 * r 14 + ((-1) * r 4 + 0))) + 0) := hok.2 _ (List.mem_of_getElem? (i := 2) rfl)
  obtain ⟨hG, hgi⟩ := hG
  have hG : True := hG
  obtain ⟨h0, hh, e0, k0⟩ := hh
  have k0 : ∀ j, j ∉ [7] → g j = h0 j := k0
  have e0 : (g 7) = yq_pa ((1 * r 3 + 0) + 0) ((1 * r 1 + 0) + 0) ((1 * r 4 + 0) + 0) ((1 * r 13 + 0) + 0) (h0 7) (h0 7) := e0
  have hh : h0 = gi := hh
  subst hh
  refine yt_dalt (by decide) (by decide) ?_
  rw [show xk_40.2.1.2.1.1.length = 18 from rfl]
  show ((1 * r 4 + 0) + 0) = yq_cr ((1 * r 0 + 0) + 0) ((1 * r 1 + 0) + 0) ((1 * r 2 + 0) + 0) ((1 * r 3 + 0) + 0) ((1 * r 4 + 0) + 0) (yq_at ((1 * r 0 + 0) + 0) ((1 * ((1 * r 6 + 0) + 0) + 0) + 0) ((1 * ((1 * r 9 + 0) + 0) + 0) + 0) ((1 * ((1 * r 12 + 0) + 0) + 0) + 0) ((1 * ((1 * r 15 + 0) + 0) + 0) + 0)) (yq_at ((1 * r 2 + 0) + 0) ((1 * ((1 * r 6 + 0) + 0) + 0) + 0) ((1 * ((1 * r 9 + 0) + 0) + 0) + 0) ((1 * ((1 * r 12 + 0) + 0) + 0) + 0) ((1 * ((1 * r 15 + 0) + 0) + 0) + 0)) (yq_at ((1 * r 0 + 0) + 0) ((1 * ((1 * r 8 + 0) + 0) + 0) + 0) ((1 * ((1 * r 11 + 0) + 0) + 0) + 0) ((1 * ((1 * r 14 + 0) + 0) + 0) + 0) ((1 * ((1 * r 17 + 0) + 0) + 0) + 0)) (yq_at ((1 * r 2 + 0) + 0) ((1 * ((1 * r 8 + 0) + 0) + 0) + 0) ((1 * ((1 * r 11 + 0) + 0) + 0) + 0) ((1 * ((1 * r 14 + 0) + 0) + 0) + 0) ((1 * ((1 * r 17 + 0) + 0) + 0) + 0)) ∧ (g 3) = yq_xc ((1 * r 0 + 0) + 0) ((1 * r 1 + 0) + 0) ((1 * r 2 + 0) + 0) ((1 * r 3 + 0) + 0) ((1 * r 4 + 0) + 0) 0 (yq_at ((1 * r 0 + 0) + 0) ((1 * ((1 * r 6 + 0) + 0) + 0) + 0) ((1 * ((1 * r 9 + 0) + 0) + 0) + 0) ((1 * ((1 * r 12 + 0) + 0) + 0) + 0) ((1 * ((1 * r 15 + 0) + 0) + 0) + 0)) ((1 * ((1 * r 6 + 0) + 0) + 0) + 0) (yq_at ((1 * r 0 + 0) + 0) ((1 * ((1 * r 8 + 0) + 0) + 0) + 0) ((1 * ((1 * r 11 + 0) + 0) + 0) + 0) ((1 * ((1 * r 14 + 0) + 0) + 0) + 0) ((1 * ((1 * r 17 + 0) + 0) + 0) + 0)) ((1 * ((1 * r 8 + 0) + 0) + 0) + 0) ((1 * ((1 * r 7 + 0) + 0) + 0) + 0) (yq_fat ((1 * r 0 + 0) + 0) (g0 3) (g0 5) (g0 7) (g0 9)) (g0 3) ∧ (g 5) = yq_xc ((1 * r 0 + 0) + 0) ((1 * r 1 + 0) + 0) ((1 * r 2 + 0) + 0) ((1 * r 3 + 0) + 0) ((1 * r 4 + 0) + 0) 1 (yq_at ((1 * r 0 + 0) + 0) ((1 * ((1 * r 6 + 0) + 0) + 0) + 0) ((1 * ((1 * r 9 + 0) + 0) + 0) + 0) ((1 * ((1 * r 12 + 0) + 0) + 0) + 0) ((1 * ((1 * r 15 + 0) + 0) + 0) + 0)) ((1 * ((1 * r 9 + 0) + 0) + 0) + 0) (yq_at ((1 * r 0 + 0) + 0) ((1 * ((1 * r 8 + 0) + 0) + 0) + 0) ((1 * ((1 * r 11 + 0) + 0) + 0) + 0) ((1 * ((1 * r 14 + 0) + 0) + 0) + 0) ((1 * ((1 * r 17 + 0) + 0) + 0) + 0)) ((1 * ((1 * r 11 + 0) + 0) + 0) + 0) ((1 * ((1 * r 10 + 0) + 0) + 0) + 0) (yq_fat ((1 * r 0 + 0) + 0) (g0 3) (g0 5) (g0 7) (g0 9)) (g0 5) ∧ (g 7) = yq_xc ((1 * r 0 + 0) + 0) ((1 * r 1 + 0) + 0) ((1 * r 2 + 0) + 0) ((1 * r 3 + 0) + 0) ((1 * r 4 + 0) + 0) 2 (yq_at ((1 * r 0 + 0) + 0) ((1 * ((1 * r 6 + 0) + 0) + 0) + 0) ((1 * ((1 * r 9 + 0) + 0) + 0) + 0) ((1 * ((1 * r 12 + 0) + 0) + 0) + 0) ((1 * ((1 * r 15 + 0) + 0) + 0) + 0)) ((1 * ((1 * r 12 + 0) + 0) + 0) + 0) (yq_at ((1 * r 0 + 0) + 0) ((1 * ((1 * r 8 + 0) + 0) + 0) + 0) ((1 * ((1 * r 11 + 0) + 0) + 0) + 0) ((1 * ((1 * r 14 + 0) + 0) + 0) + 0) ((1 * ((1 * r 17 + 0) + 0) + 0) + 0)) ((1 * ((1 * r 14 + 0) + 0) + 0) + 0) ((1 * ((1 * r 13 + 0) + 0) + 0) + 0) (yq_fat ((1 * r 0 + 0) + 0) (g0 3) (g0 5) (g0 7) (g0 9)) (g0 7) ∧ (g 9) = yq_xc ((1 * r 0 + 0) + 0) ((1 * r 1 + 0) + 0) ((1 * r 2 + 0) + 0) ((1 * r 3 + 0) + 0) ((1 * r 4 + 0) + 0) 3 (yq_at ((1 * r 0 + 0) + 0) ((1 * ((1 * r 6 + 0) + 0) + 0) + 0) ((1 * ((1 * r 9 + 0) + 0) + 0) + 0) ((1 * ((1 * r 12 + 0) + 0) + 0) + 0) ((1 * ((1 * r 15 + 0) + 0) + 0) + 0)) ((1 * ((1 * r 15 + 0) + 0) + 0) + 0) (yq_at ((1 * r 0 + 0) + 0) ((1 * ((1 * r 8 + 0) + 0) + 0) + 0) ((1 * ((1 * r 11 + 0) + 0) + 0) + 0) ((1 * ((1 * r 14 + 0) + 0) + 0) + 0) ((1 * ((1 * r 17 + 0) + 0) + 0) + 0)) ((1 * ((1 * r 17 + 0) + 0) + 0) + 0) ((1 * ((1 * r 16 + 0) + 0) + 0) + 0) (yq_fat ((1 * r 0 + 0) + 0) (g0 3) (g0 5) (g0 7) (g0 9)) (g0 9)
  try simp only [Int.one_mul, Int.zero_add, Int.add_zero]
  try simp only [Int.one_mul, Int.zero_add, Int.add_zero] at e0
  refine ⟨?_, ?_, ?_, ?_, ?_⟩
  · rw [show r 0 = 2 by omega]
    rw [show r 2 = 2 by omega]
    simp only [yq_at2]
    unfold yq_cr
    repeat' split
    all_goals omega
  · rw [show r 0 = 2 by omega]
    simp only [yq_at2, yq_fat2]
    unfold yq_xc
    rw [if_neg (by omega)]
    rw [k0 3 (by decide), hgi]
  · rw [show r 0 = 2 by omega]
    simp only [yq_at2, yq_fat2]
    unfold yq_xc
    rw [if_neg (by omega)]
    rw [k0 5 (by decide), hgi]
  · rw [show r 0 = 2 by omega]
    simp only [yq_at2, yq_fat2]
    unfold yq_xc
    rw [if_pos (by omega), e0, hgi]
  · rw [show r 0 = 2 by omega]
    simp only [yq_at2, yq_fat2]
    unfold yq_xc
    rw [if_neg (by omega)]
    rw [k0 9 (by decide), hgi]
theorem xw_40_0_70 : yt_hold xT_40 xk_40 xq_40.2.2.1 xG_40 xP_40 xU_40 18 xk_40.2.1.2.2.2 (fun g0 r g => xR_40 r g0 ∧ g = g0) (1000, ([(2, 2), ((-2147483648), (-1)), (3, 3), ((-2147483648), 2147483647), (0, 2147483647), ((-2147483648), 2147483647), (0, 1), ((-2147483648), 2147483647), (0, 100), (0, 1), ((-2147483648), 2147483647), (0, 100), (1, 1), ((-2147483648), 2147483647), (0, 100), (1, 1), ((-2147483648), 2147483647), (0, 100), ((-2147483648), 0)], []), [([], (-3)), ([(18, 1)], 0)], [], []) := by
  intro g0 r gi g hok hh hars hfr hG
  have b0 : 2 ≤ r 0 ∧ r 0 ≤ 2 := hok.1 0 (2, 2) rfl
  have b1 : (-2147483648) ≤ r 1 ∧ r 1 ≤ (-1) := hok.1 1 ((-2147483648), (-1)) rfl
  have b2 : 3 ≤ r 2 ∧ r 2 ≤ 3 := hok.1 2 (3, 3) rfl
  have b3 : (-2147483648) ≤ r 3 ∧ r 3 ≤ 2147483647 := hok.1 3 ((-2147483648), 2147483647) rfl
  have b4 : 0 ≤ r 4 ∧ r 4 ≤ 2147483647 := hok.1 4 (0, 2147483647) rfl
  have b5 : (-2147483648) ≤ r 5 ∧ r 5 ≤ 2147483647 := hok.1 5 ((-2147483648), 2147483647) rfl
  have b6 : 0 ≤ r 6 ∧ r 6 ≤ 1 := hok.1 6 (0, 1) rfl
  have b7 : (-2147483648) ≤ r 7 ∧ r 7 ≤ 2147483647 := hok.1 7 ((-2147483648), 2147483647) rfl
  have b8 : 0 ≤ r 8 ∧ r 8 ≤ 100 := hok.1 8 (0, 100) rfl
  have b9 : 0 ≤ r 9 ∧ r 9 ≤ 1 := hok.1 9 (0, 1) rfl
  have b10 : (-2147483648) ≤ r 10 ∧ r 10 ≤ 2147483647 := hok.1 10 ((-2147483648), 2147483647) rfl
  have b11 : 0 ≤ r 11 ∧ r 11 ≤ 100 := hok.1 11 (0, 100) rfl
  have b12 : 1 ≤ r 12 ∧ r 12 ≤ 1 := hok.1 12 (1, 1) rfl
  have b13 : (-2147483648) ≤ r 13 ∧ r 13 ≤ 2147483647 := hok.1 13 ((-2147483648), 2147483647) rfl
  have b14 : 0 ≤ r 14 ∧ r 14 ≤ 100 := hok.1 14 (0, 100) rfl
  have b15 : 1 ≤ r 15 ∧ r 15 ≤ 1 := hok.1 15 (1, 1) rfl
  have b16 : (-2147483648) ≤ r 16 ∧ r 16 ≤ 2147483647 := hok.1 16 ((-2147483648), 2147483647) rfl
  have b17 : 0 ≤ r 17 ∧ r 17 ≤ 100 := hok.1 17 (0, 100) rfl
  have b18 : (-2147483648) ≤ r 18 ∧ r 18 ≤ 0 := hok.1 18 ((-2147483648), 0) rfl
  obtain ⟨hG, hgi⟩ := hG
  have hG : True := hG
  have hh : g = gi := hh
  subst hh
  refine yt_dalt (by decide) (by decide) ?_
  rw [show xk_40.2.1.2.1.1.length = 18 from rfl]
  show ((0 : Int) + (-3)) = yq_cr ((1 * r 0 + 0) + 0) ((1 * r 1 + 0) + 0) ((1 * r 2 + 0) + 0) ((1 * r 3 + 0) + 0) ((1 * r 4 + 0) + 0) (yq_at ((1 * r 0 + 0) + 0) ((1 * ((1 * r 6 + 0) + 0) + 0) + 0) ((1 * ((1 * r 9 + 0) + 0) + 0) + 0) ((1 * ((1 * r 12 + 0) + 0) + 0) + 0) ((1 * ((1 * r 15 + 0) + 0) + 0) + 0)) (yq_at ((1 * r 2 + 0) + 0) ((1 * ((1 * r 6 + 0) + 0) + 0) + 0) ((1 * ((1 * r 9 + 0) + 0) + 0) + 0) ((1 * ((1 * r 12 + 0) + 0) + 0) + 0) ((1 * ((1 * r 15 + 0) + 0) + 0) + 0)) (yq_at ((1 * r 0 + 0) + 0) ((1 * ((1 * r 8 + 0) + 0) + 0) + 0) ((1 * ((1 * r 11 + 0) + 0) + 0) + 0) ((1 * ((1 * r 14 + 0) + 0) + 0) + 0) ((1 * ((1 * r 17 + 0) + 0) + 0) + 0)) (yq_at ((1 * r 2 + 0) + 0) ((1 * ((1 * r 8 + 0) + 0) + 0) + 0) ((1 * ((1 * r 11 + 0) + 0) + 0) + 0) ((1 * ((1 * r 14 + 0) + 0) + 0) + 0) ((1 * ((1 * r 17 + 0) + 0) + 0) + 0)) ∧ (g 3) = yq_xc ((1 * r 0 + 0) + 0) ((1 * r 1 + 0) + 0) ((1 * r 2 + 0) + 0) ((1 * r 3 + 0) + 0) ((1 * r 4 + 0) + 0) 0 (yq_at ((1 * r 0 + 0) + 0) ((1 * ((1 * r 6 + 0) + 0) + 0) + 0) ((1 * ((1 * r 9 + 0) + 0) + 0) + 0) ((1 * ((1 * r 12 + 0) + 0) + 0) + 0) ((1 * ((1 * r 15 + 0) + 0) + 0) + 0)) ((1 * ((1 * r 6 + 0) + 0) + 0) + 0) (yq_at ((1 * r 0 + 0) + 0) ((1 * ((1 * r 8 + 0) + 0) + 0) + 0) ((1 * ((1 * r 11 + 0) + 0) + 0) + 0) ((1 * ((1 * r 14 + 0) + 0) + 0) + 0) ((1 * ((1 * r 17 + 0) + 0) + 0) + 0)) ((1 * ((1 * r 8 + 0) + 0) + 0) + 0) ((1 * ((1 * r 7 + 0) + 0) + 0) + 0) (yq_fat ((1 * r 0 + 0) + 0) (g0 3) (g0 5) (g0 7) (g0 9)) (g0 3) ∧ (g 5) = yq_xc ((1 * r 0 + 0) + 0) ((1 * r 1 + 0) + 0) ((1 * r 2 + 0) + 0) ((1 * r 3 + 0) + 0) ((1 * r 4 + 0) + 0) 1 (yq_at ((1 * r 0 + 0) + 0) ((1 * ((1 * r 6 + 0) + 0) + 0) + 0) ((1 * ((1 * r 9 + 0) + 0) + 0) + 0) ((1 * ((1 * r 12 + 0) + 0) + 0) + 0) ((1 * ((1 * r 15 + 0) + 0) + 0) + 0)) ((1 * ((1 * r 9 + 0) + 0) + 0) + 0) (yq_at ((1 * r 0 + 0) + 0) ((1 * ((1 * r 8 + 0) + 0) + 0) + 0) ((1 * ((1 * r 11 + 0) + 0) + 0) + 0) ((1 * ((1 * r 14 + 0) + 0) + 0) + 0) ((1 * ((1 * r 17 + 0) + 0) + 0) + 0)) ((1 * ((1 * r 11 + 0) + 0) + 0) + 0) ((1 * ((1 * r 10 + 0) + 0) + 0) + 0) (yq_fat ((1 * r 0 + 0) + 0) (g0 3) (g0 5) (g0 7) (g0 9)) (g0 5) ∧ (g 7) = yq_xc ((1 * r 0 + 0) + 0) ((1 * r 1 + 0) + 0) ((1 * r 2 + 0) + 0) ((1 * r 3 + 0) + 0) ((1 * r 4 + 0) + 0) 2 (yq_at ((1 * r 0 + 0) + 0) ((1 * ((1 * r 6 + 0) + 0) + 0) + 0) ((1 * ((1 * r 9 + 0) + 0) + 0) + 0) ((1 * ((1 * r 12 + 0) + 0) + 0) + 0) ((1 * ((1 * r 15 + 0) + 0) + 0) + 0)) ((1 * ((1 * r 12 + 0) + 0) + 0) + 0) (yq_at ((1 * r 0 + 0) + 0) ((1 * ((1 * r 8 + 0) + 0) + 0) + 0) ((1 * ((1 * r 11 + 0) + 0) + 0) + 0) ((1 * ((1 * r 14 + 0) + 0) + 0) + 0) ((1 * ((1 * r 17 + 0) + 0) + 0) + 0)) ((1 * ((1 * r 14 + 0) + 0) + 0) + 0) ((1 * ((1 * r 13 + 0) + 0) + 0) + 0) (yq_fat ((1 * r 0 + 0) + 0) (g0 3) (g0 5) (g0 7) (g0 9)) (g0 7) ∧ (g 9) = yq_xc ((1 * r 0 + 0) + 0) ((1 * r 1 + 0) + 0) ((1 * r 2 + 0) + 0) ((1 * r 3 + 0) + 0) ((1 * r 4 + 0) + 0) 3 (yq_at ((1 * r 0 + 0) + 0) ((1 * ((1 * r 6 + 0) + 0) + 0) + 0) ((1 * ((1 * r 9 + 0) + 0) + 0) + 0) ((1 * ((1 * r 12 + 0) + 0) + 0) + 0) ((1 * ((1 * r 15 + 0) + 0) + 0) + 0)) ((1 * ((1 * r 15 + 0) + 0) + 0) + 0) (yq_at ((1 * r 0 + 0) + 0) ((1 * ((1 * r 8 + 0) + 0) + 0) + 0) ((1 * ((1 * r 11 + 0) + 0) + 0) + 0) ((1 * ((1 * r 14 + 0) + 0) + 0) + 0) ((1 * ((1 * r 17 + 0) + 0) + 0) + 0)) ((1 * ((1 * r 17 + 0) + 0) + 0) + 0) ((1 * ((1 * r 16 + 0) + 0) + 0) + 0) (yq_fat ((1 * r 0 + 0) + 0) (g0 3) (g0 5) (g0 7) (g0 9)) (g0 9)
  try simp only [Int.one_mul, Int.zero_add, Int.add_zero]
  refine ⟨?_, ?_, ?_, ?_, ?_⟩
  · rw [show r 0 = 2 by omega]
    rw [show r 2 = 3 by omega]
    simp only [yq_at2, yq_at3]
    unfold yq_cr
    repeat' split
    all_goals omega
  · rw [show r 0 = 2 by omega]
    simp only [yq_at2, yq_fat2]
    unfold yq_xc
    rw [if_neg (by omega)]
    rw [hgi]
  · rw [show r 0 = 2 by omega]
    simp only [yq_at2, yq_fat2]
    unfold yq_xc
    rw [if_neg (by omega)]
    rw [hgi]
  · rw [show r 0 = 2 by omega]
    simp only [yq_at2, yq_fat2]
    unfold yq_xc
    rw [if_neg (by omega)]
    rw [hgi]
  · rw [show r 0 = 2 by omega]
    simp only [yq_at2, yq_fat2]
    unfold yq_xc
    rw [if_neg (by omega)]
    rw [hgi]
theorem xw_40_0_71 : yt_hold xT_40 xk_40 xq_40.2.2.1 xG_40 xP_40 xU_40 18 xk_40.2.1.2.2.2 (fun g0 r g => xR_40 r g0 ∧ g = g0) (1000, ([(2, 2), (0, 2147483647), (3, 3), ((-2147483648), 2147483647), (0, 2147483647), ((-2147483648), 2147483647), (0, 1), ((-2147483648), 2147483647), (0, 100), (0, 1), ((-2147483648), 2147483647), (0, 100), (1, 1), ((-2147483648), 2147483647), (0, 100), (1, 1), ((-2147483648), 2147483647), (0, 100), ((-2147483648), 0)], [([(1, 1), (14, (-1)), (4, 1)], (-1))]), [([], (-3)), ([(18, 1)], 0)], [], []) := by
  intro g0 r gi g hok hh hars hfr hG
  have b0 : 2 ≤ r 0 ∧ r 0 ≤ 2 := hok.1 0 (2, 2) rfl
  have b1 : 0 ≤ r 1 ∧ r 1 ≤ 2147483647 := hok.1 1 (0, 2147483647) rfl
  have b2 : 3 ≤ r 2 ∧ r 2 ≤ 3 := hok.1 2 (3, 3) rfl
  have b3 : (-2147483648) ≤ r 3 ∧ r 3 ≤ 2147483647 := hok.1 3 ((-2147483648), 2147483647) rfl
  have b4 : 0 ≤ r 4 ∧ r 4 ≤ 2147483647 := hok.1 4 (0, 2147483647) rfl
  have b5 : (-2147483648) ≤ r 5 ∧ r 5 ≤ 2147483647 := hok.1 5 ((-2147483648), 2147483647) rfl
  have b6 : 0 ≤ r 6 ∧ r 6 ≤ 1 := hok.1 6 (0, 1) rfl
  have b7 : (-2147483648) ≤ r 7 ∧ r 7 ≤ 2147483647 := hok.1 7 ((-2147483648), 2147483647) rfl
  have b8 : 0 ≤ r 8 ∧ r 8 ≤ 100 := hok.1 8 (0, 100) rfl
  have b9 : 0 ≤ r 9 ∧ r 9 ≤ 1 := hok.1 9 (0, 1) rfl
  have b10 : (-2147483648) ≤ r 10 ∧ r 10 ≤ 2147483647 := hok.1 10 ((-2147483648), 2147483647) rfl
  have b11 : 0 ≤ r 11 ∧ r 11 ≤ 100 := hok.1 11 (0, 100) rfl
  have b12 : 1 ≤ r 12 ∧ r 12 ≤ 1 := hok.1 12 (1, 1) rfl
  have b13 : (-2147483648) ≤ r 13 ∧ r 13 ≤ 2147483647 := hok.1 13 ((-2147483648), 2147483647) rfl
  have b14 : 0 ≤ r 14 ∧ r 14 ≤ 100 := hok.1 14 (0, 100) rfl
  have b15 : 1 ≤ r 15 ∧ r 15 ≤ 1 := hok.1 15 (1, 1) rfl
  have b16 : (-2147483648) ≤ r 16 ∧ r 16 ≤ 2147483647 := hok.1 16 ((-2147483648), 2147483647) rfl
  have b17 : 0 ≤ r 17 ∧ r 17 ≤ 100 := hok.1 17 (0, 100) rfl
  have b18 : (-2147483648) ≤ r 18 ∧ r 18 ≤ 0 := hok.1 18 ((-2147483648), 0) rfl
  have f0 : 0 ≤ ((1 * r 1 + ((-1) * r 14 + (1 * r 4 + 0))) + (-1)) := hok.2 _ (List.mem_of_getElem? (i := 0) rfl)
  obtain ⟨hG, hgi⟩ := hG
  have hG : True := hG
  have hh : g = gi := hh
  subst hh
  refine yt_dalt (by decide) (by decide) ?_
  rw [show xk_40.2.1.2.1.1.length = 18 from rfl]
  show ((0 : Int) + (-3)) = yq_cr ((1 * r 0 + 0) + 0) ((1 * r 1 + 0) + 0) ((1 * r 2 + 0) + 0) ((1 * r 3 + 0) + 0) ((1 * r 4 + 0) + 0) (yq_at ((1 * r 0 + 0) + 0) ((1 * ((1 * r 6 + 0) + 0) + 0) + 0) ((1 * ((1 * r 9 + 0) + 0) + 0) + 0) ((1 * ((1 * r 12 + 0) + 0) + 0) + 0) ((1 * ((1 * r 15 + 0) + 0) + 0) + 0)) (yq_at ((1 * r 2 + 0) + 0) ((1 * ((1 * r 6 + 0) + 0) + 0) + 0) ((1 * ((1 * r 9 + 0) + 0) + 0) + 0) ((1 * ((1 * r 12 + 0) + 0) + 0) + 0) ((1 * ((1 * r 15 + 0) + 0) + 0) + 0)) (yq_at ((1 * r 0 + 0) + 0) ((1 * ((1 * r 8 + 0) + 0) + 0) + 0) ((1 * ((1 * r 11 + 0) + 0) + 0) + 0) ((1 * ((1 * r 14 + 0) + 0) + 0) + 0) ((1 * ((1 * r 17 + 0) + 0) + 0) + 0)) (yq_at ((1 * r 2 + 0) + 0) ((1 * ((1 * r 8 + 0) + 0) + 0) + 0) ((1 * ((1 * r 11 + 0) + 0) + 0) + 0) ((1 * ((1 * r 14 + 0) + 0) + 0) + 0) ((1 * ((1 * r 17 + 0) + 0) + 0) + 0)) ∧ (g 3) = yq_xc ((1 * r 0 + 0) + 0) ((1 * r 1 + 0) + 0) ((1 * r 2 + 0) + 0) ((1 * r 3 + 0) + 0) ((1 * r 4 + 0) + 0) 0 (yq_at ((1 * r 0 + 0) + 0) ((1 * ((1 * r 6 + 0) + 0) + 0) + 0) ((1 * ((1 * r 9 + 0) + 0) + 0) + 0) ((1 * ((1 * r 12 + 0) + 0) + 0) + 0) ((1 * ((1 * r 15 + 0) + 0) + 0) + 0)) ((1 * ((1 * r 6 + 0) + 0) + 0) + 0) (yq_at ((1 * r 0 + 0) + 0) ((1 * ((1 * r 8 + 0) + 0) + 0) + 0) ((1 * ((1 * r 11 + 0) + 0) + 0) + 0) ((1 * ((1 * r 14 + 0) + 0) + 0) + 0) ((1 * ((1 * r 17 + 0) + 0) + 0) + 0)) ((1 * ((1 * r 8 + 0) + 0) + 0) + 0) ((1 * ((1 * r 7 + 0) + 0) + 0) + 0) (yq_fat ((1 * r 0 + 0) + 0) (g0 3) (g0 5) (g0 7) (g0 9)) (g0 3) ∧ (g 5) = yq_xc ((1 * r 0 + 0) + 0) ((1 * r 1 + 0) + 0) ((1 * r 2 + 0) + 0) ((1 * r 3 + 0) + 0) ((1 * r 4 + 0) + 0) 1 (yq_at ((1 * r 0 + 0) + 0) ((1 * ((1 * r 6 + 0) + 0) + 0) + 0) ((1 * ((1 * r 9 + 0) + 0) + 0) + 0) ((1 * ((1 * r 12 + 0) + 0) + 0) + 0) ((1 * ((1 * r 15 + 0) + 0) + 0) + 0)) ((1 * ((1 * r 9 + 0) + 0) + 0) + 0) (yq_at ((1 * r 0 + 0) + 0) ((1 * ((1 * r 8 + 0) + 0) + 0) + 0) ((1 * ((1 * r 11 + 0) + 0) + 0) + 0) ((1 * ((1 * r 14 + 0) + 0) + 0) + 0) ((1 * ((1 * r 17 + 0) + 0) + 0) + 0)) ((1 * ((1 * r 11 + 0) + 0) + 0) + 0) ((1 * ((1 * r 10 + 0) + 0) + 0) + 0) (yq_fat ((1 * r 0 + 0) + 0) (g0 3) (g0 5) (g0 7) (g0 9)) (g0 5) ∧ (g 7) = yq_xc ((1 * r 0 + 0) + 0) ((1 * r 1 + 0) + 0) ((1 * r 2 + 0) + 0) ((1 * r 3 + 0) + 0) ((1 * r 4 + 0) + 0) 2 (yq_at ((1 * r 0 + 0) + 0) ((1 * ((1 * r 6 + 0) + 0) + 0) + 0) ((1 * ((1 * r 9 + 0) + 0) + 0) + 0) ((1 * ((1 * r 12 + 0) + 0) + 0) + 0) ((1 * ((1 * r 15 + 0) + 0) + 0) + 0)) ((1 * ((1 * r 12 + 0) + 0) + 0) + 0) (yq_at ((1 * r 0 + 0) + 0) ((1 * ((1 * r 8 + 0) + 0) + 0) + 0) ((1 * ((1 * r 11 + 0) + 0) + 0) + 0) ((1 * ((1 * r 14 + 0) + 0) + 0) + 0) ((1 * ((1 * r 17 + 0) + 0) + 0) + 0)) ((1 * ((1 * r 14 + 0) + 0) + 0) + 0) ((1 * ((1 * r 13 + 0) + 0) + 0) + 0) (yq_fat ((1 * r 0 + 0) + 0) (g0 3) (g0 5) (g0 7) (g0 9)) (g0 7) ∧ (g 9) = yq_xc ((1 * r 0 + 0) + 0) ((1 * r 1 + 0) + 0) ((1 * r 2 + 0) + 0) ((1 * r 3 + 0) + 0) ((1 * r 4 + 0) + 0) 3 (yq_at ((1 * r 0 + 0) + 0) ((1 * ((1 * r 6 + 0) + 0) + 0) + 0) ((1 * ((1 * r 9 + 0) + 0) + 0) + 0) ((1 * ((1 * r 12 + 0) + 0) + 0) + 0) ((1 * ((1 * r 15 + 0) + 0) + 0) + 0)) ((1 * ((1 * r 15 + 0) + 0) + 0) + 0) (yq_at ((1 * r 0 + 0) + 0) ((1 * ((1 * r 8 + 0) + 0) + 0) + 0) ((1 * ((1 * r 11 + 0) + 0) + 0) + 0) ((1 * ((1 * r 14 + 0) + 0) + 0) + 0) ((1 * ((1 * r 17 + 0) + 0) + 0) + 0)) ((1 * ((1 * r 17 + 0) + 0) + 0) + 0) ((1 * ((1 * r 16 + 0) + 0) + 0) + 0) (yq_fat ((1 * r 0 + 0) + 0) (g0 3) (g0 5) (g0 7) (g0 9)) (g0 9)
  try simp only [Int.one_mul, Int.zero_add, Int.add_zero]
  refine ⟨?_, ?_, ?_, ?_, ?_⟩
  · rw [show r 0 = 2 by omega]
    rw [show r 2 = 3 by omega]
    simp only [yq_at2, yq_at3]
    unfold yq_cr
    repeat' split
    all_goals omega
  · rw [show r 0 = 2 by omega]
    simp only [yq_at2, yq_fat2]
    unfold yq_xc
    rw [if_neg (by omega)]
    rw [hgi]
  · rw [show r 0 = 2 by omega]
    simp only [yq_at2, yq_fat2]
    unfold yq_xc
    rw [if_neg (by omega)]
    rw [hgi]
  · rw [show r 0 = 2 by omega]
    simp only [yq_at2, yq_fat2]
    unfold yq_xc
    rw [if_neg (by omega)]
    rw [hgi]
  · rw [show r 0 = 2 by omega]
    simp only [yq_at2, yq_fat2]
    unfold yq_xc
    rw [if_neg (by omega)]
    rw [hgi]
theorem xw_40_0_72 : yt_hold xT_40 xk_40 xq_40.2.2.1 xG_40 xP_40 xU_40 18 xk_40.2.1.2.2.2 (fun g0 r g => xR_40 r g0 ∧ g = g0) (1000, ([(2, 2), (0, 100), (3, 3), ((-2147483648), (-1)), (0, 100), ((-2147483648), 2147483647), (0, 1), ((-2147483648), 2147483647), (0, 100), (0, 1), ((-2147483648), 2147483647), (0, 100), (1, 1), ((-2147483648), 2147483647), (0, 100), (1, 1), ((-2147483648), 2147483647), (0, 100), ((-2147483648), 0)], [([(1, (-1)), (14, 1), (4, (-1))], 0)]), [([], (-3)), ([(18, 1)], 0)], [], []) := by
  intro g0 r gi g hok hh hars hfr hG
  have b0 : 2 ≤ r 0 ∧ r 0 ≤ 2 := hok.1 0 (2, 2) rfl
  have b1 : 0 ≤ r 1 ∧ r 1 ≤ 100 := hok.1 1 (0, 100) rfl
  have b2 : 3 ≤ r 2 ∧ r 2 ≤ 3 := hok.1 2 (3, 3) rfl
  have b3 : (-2147483648) ≤ r 3 ∧ r 3 ≤ (-1) := hok.1 3 ((-2147483648), (-1)) rfl
  have b4 : 0 ≤ r 4 ∧ r 4 ≤ 100 := hok.1 4 (0, 100) rfl
  have b5 : (-2147483648) ≤ r 5 ∧ r 5 ≤ 2147483647 := hok.1 5 ((-2147483648), 2147483647) rfl
  have b6 : 0 ≤ r 6 ∧ r 6 ≤ 1 := hok.1 6 (0, 1) rfl
  have b7 : (-2147483648) ≤ r 7 ∧ r 7 ≤ 2147483647 := hok.1 7 ((-2147483648), 2147483647) rfl
  have b8 : 0 ≤ r 8 ∧ r 8 ≤ 100 := hok.1 8 (0, 100) rfl
  have b9 : 0 ≤ r 9 ∧ r 9 ≤ 1 := hok.1 9 (0, 1) rfl
  have b10 : (-2147483648) ≤ r 10 ∧ r 10 ≤ 2147483647 := hok.1 10 ((-2147483648), 2147483647) rfl
  have b11 : 0 ≤ r 11 ∧ r 11 ≤ 100 := hok.1 11 (0, 100) rfl
  have b12 : 1 ≤ r 12 ∧ r 12 ≤ 1 := hok.1 12 (1, 1) rfl
  have b13 : (-2147483648) ≤ r 13 ∧ r 13 ≤ 2147483647 := hok.1 13 ((-2147483648), 2147483647) rfl
  have b14 : 0 ≤ r 14 ∧ r 14 ≤ 100 := hok.1 14 (0, 100) rfl
  have b15 : 1 ≤ r 15 ∧ r 15 ≤ 1 := hok.1 15 (1, 1) rfl
  have b16 : (-2147483648) ≤ r 16 ∧ r 16 ≤ 2147483647 := hok.1 16 ((-2147483648), 2147483647) rfl
  have b17 : 0 ≤ r 17 ∧ r 17 ≤ 100 := hok.1 17 (0, 100) rfl
  have b18 : (-2147483648) ≤ r 18 ∧ r 18 ≤ 0 := hok.1 18 ((-2147483648), 0) rfl
  have f0 : 0 ≤ (((-1) * r 1 + (1 * r 14 + ((-1) * r 4 + 0))) + 0) := hok.2 _ (List.mem_of_getElem? (i := 0) rfl)
  obtain ⟨hG, hgi⟩ := hG
  have hG : True := hG
  have hh : g = gi := hh
  subst hh
  refine yt_dalt (by decide) (by decide) ?_
  rw [show xk_40.2.1.2.1.1.length = 18 from rfl]
  show ((0 : Int) + (-3)) = yq_cr ((1 * r 0 + 0) + 0) ((1 * r 1 + 0) + 0) ((1 * r 2 + 0) + 0) ((1 * r 3 + 0) + 0) ((1 * r 4 + 0) + 0) (yq_at ((1 * r 0 + 0) + 0) ((1 * ((1 * r 6 + 0) + 0) + 0) + 0) ((1 * ((1 * r 9 + 0) + 0) + 0) + 0) ((1 * ((1 * r 12 + 0) + 0) + 0) + 0) ((1 * ((1 * r 15 + 0) + 0) + 0) + 0)) (yq_at ((1 * r 2 + 0) + 0) ((1 * ((1 * r 6 + 0) + 0) + 0) + 0) ((1 * ((1 * r 9 + 0) + 0) + 0) + 0) ((1 * ((1 * r 12 + 0) + 0) + 0) + 0) ((1 * ((1 * r 15 + 0) + 0) + 0) + 0)) (yq_at ((1 * r 0 + 0) + 0) ((1 * ((1 * r 8 + 0) + 0) + 0) + 0) ((1 * ((1 * r 11 + 0) + 0) + 0) + 0) ((1 * ((1 * r 14 + 0) + 0) + 0) + 0) ((1 * ((1 * r 17 + 0) + 0) + 0) + 0)) (yq_at ((1 * r 2 + 0) + 0) ((1 * ((1 * r 8 + 0) + 0) + 0) + 0) ((1 * ((1 * r 11 + 0) + 0) + 0) + 0) ((1 * ((1 * r 14 + 0) + 0) + 0) + 0) ((1 * ((1 * r 17 + 0) + 0) + 0) + 0)) ∧ (g 3) = yq_xc ((1 * r 0 + 0) + 0) ((1 * r 1 + 0) + 0) ((1 * r 2 + 0) + 0) ((1 * r 3 + 0) + 0) ((1 * r 4 + 0) + 0) 0 (yq_at ((1 * r 0 + 0) + 0) ((1 * ((1 * r 6 + 0) + 0) + 0) + 0) ((1 * ((1 * r 9 + 0) + 0) + 0) + 0) ((1 * ((1 * r 12 + 0) + 0) + 0) + 0) ((1 * ((1 * r 15 + 0) + 0) + 0) + 0)) ((1 * ((1 * r 6 + 0) + 0) + 0) + 0) (yq_at ((1 * r 0 + 0) + 0) ((1 * ((1 * r 8 + 0) + 0) + 0) + 0) ((1 * ((1 * r 11 + 0) + 0) + 0) + 0) ((1 * ((1 * r 14 + 0) + 0) + 0) + 0) ((1 * ((1 * r 17 + 0) + 0) + 0) + 0)) ((1 * ((1 * r 8 + 0) + 0) + 0) + 0) ((1 * ((1 * r 7 + 0) + 0) + 0) + 0) (yq_fat ((1 * r 0 + 0) + 0) (g0 3) (g0 5) (g0 7) (g0 9)) (g0 3) ∧ (g 5) = yq_xc ((1 * r 0 + 0) + 0) ((1 * r 1 + 0) + 0) ((1 * r 2 + 0) + 0) ((1 * r 3 + 0) + 0) ((1 * r 4 + 0) + 0) 1 (yq_at ((1 * r 0 + 0) + 0) ((1 * ((1 * r 6 + 0) + 0) + 0) + 0) ((1 * ((1 * r 9 + 0) + 0) + 0) + 0) ((1 * ((1 * r 12 + 0) + 0) + 0) + 0) ((1 * ((1 * r 15 + 0) + 0) + 0) + 0)) ((1 * ((1 * r 9 + 0) + 0) + 0) + 0) (yq_at ((1 * r 0 + 0) + 0) ((1 * ((1 * r 8 + 0) + 0) + 0) + 0) ((1 * ((1 * r 11 + 0) + 0) + 0) + 0) ((1 * ((1 * r 14 + 0) + 0) + 0) + 0) ((1 * ((1 * r 17 + 0) + 0) + 0) + 0)) ((1 * ((1 * r 11 + 0) + 0) + 0) + 0) ((1 * ((1 * r 10 + 0) + 0) + 0) + 0) (yq_fat ((1 * r 0 + 0) + 0) (g0 3) (g0 5) (g0 7) (g0 9)) (g0 5) ∧ (g 7) = yq_xc ((1 * r 0 + 0) + 0) ((1 * r 1 + 0) + 0) ((1 * r 2 + 0) + 0) ((1 * r 3 + 0) + 0) ((1 * r 4 + 0) + 0) 2 (yq_at ((1 * r 0 + 0) + 0) ((1 * ((1 * r 6 + 0) + 0) + 0) + 0) ((1 * ((1 * r 9 + 0) + 0) + 0) + 0) ((1 * ((1 * r 12 + 0) + 0) + 0) + 0) ((1 * ((1 * r 15 + 0) + 0) + 0) + 0)) ((1 * ((1 * r 12 + 0) + 0) + 0) + 0) (yq_at ((1 * r 0 + 0) + 0) ((1 * ((1 * r 8 + 0) + 0) + 0) + 0) ((1 * ((1 * r 11 + 0) + 0) + 0) + 0) ((1 * ((1 * r 14 + 0) + 0) + 0) + 0) ((1 * ((1 * r 17 + 0) + 0) + 0) + 0)) ((1 * ((1 * r 14 + 0) + 0) + 0) + 0) ((1 * ((1 * r 13 + 0) + 0) + 0) + 0) (yq_fat ((1 * r 0 + 0) + 0) (g0 3) (g0 5) (g0 7) (g0 9)) (g0 7) ∧ (g 9) = yq_xc ((1 * r 0 + 0) + 0) ((1 * r 1 + 0) + 0) ((1 * r 2 + 0) + 0) ((1 * r 3 + 0) + 0) ((1 * r 4 + 0) + 0) 3 (yq_at ((1 * r 0 + 0) + 0) ((1 * ((1 * r 6 + 0) + 0) + 0) + 0) ((1 * ((1 * r 9 + 0) + 0) + 0) + 0) ((1 * ((1 * r 12 + 0) + 0) + 0) + 0) ((1 * ((1 * r 15 + 0) + 0) + 0) + 0)) ((1 * ((1 * r 15 + 0) + 0) + 0) + 0) (yq_at ((1 * r 0 + 0) + 0) ((1 * ((1 * r 8 + 0) + 0) + 0) + 0) ((1 * ((1 * r 11 + 0) + 0) + 0) + 0) ((1 * ((1 * r 14 + 0) + 0) + 0) + 0) ((1 * ((1 * r 17 + 0) + 0) + 0) + 0)) ((1 * ((1 * r 17 + 0) + 0) + 0) + 0) ((1 * ((1 * r 16 + 0) + 0) + 0) + 0) (yq_fat ((1 * r 0 + 0) + 0) (g0 3) (g0 5) (g0 7) (g0 9)) (g0 9)
  try simp only [Int.one_mul, Int.zero_add, Int.add_zero]
  refine ⟨?_, ?_, ?_, ?_, ?_⟩
  · rw [show r 0 = 2 by omega]
    rw [show r 2 = 3 by omega]
    simp only [yq_at2, yq_at3]
    unfold yq_cr
    repeat' split
    all_goals omega
  · rw [show r 0 = 2 by omega]
    simp only [yq_at2, yq_fat2]
    unfold yq_xc
    rw [if_neg (by omega)]
    rw [hgi]
  · rw [show r 0 = 2 by omega]
    simp only [yq_at2, yq_fat2]
    unfold yq_xc
    rw [if_neg (by omega)]
    rw [hgi]
  · rw [show r 0 = 2 by omega]
    simp only [yq_at2, yq_fat2]
    unfold yq_xc
    rw [if_neg (by omega)]
    rw [hgi]
  · rw [show r 0 = 2 by omega]
    simp only [yq_at2, yq_fat2]
    unfold yq_xc
    rw [if_neg (by omega)]
    rw [hgi]
theorem xw_40_0_73 : yt_hold xT_40 xk_40 xq_40.2.2.1 xG_40 xP_40 xU_40 18 xk_40.2.1.2.2.2 (fun g0 r g => xR_40 r g0 ∧ g = g0) (1000, ([(2, 2), (0, 100), (3, 3), (0, 2147483647), (0, 100), ((-2147483648), 2147483647), (0, 1), ((-2147483648), 2147483647), (0, 100), (0, 1), ((-2147483648), 2147483647), (0, 100), (1, 1), ((-2147483648), 2147483647), (0, 100), (1, 1), ((-2147483648), 2147483647), (0, 100), ((-2147483648), 0)], [([(3, 1), (17, (-1)), (4, 1)], (-1)), ([(1, (-1)), (14, 1), (4, (-1))], 0)]), [([], (-3)), ([(18, 1)], 0)], [], []) := by
  intro g0 r gi g hok hh hars hfr hG
  have b0 : 2 ≤ r 0 ∧ r 0 ≤ 2 := hok.1 0 (2, 2) rfl
  have b1 : 0 ≤ r 1 ∧ r 1 ≤ 100 := hok.1 1 (0, 100) rfl
  have b2 : 3 ≤ r 2 ∧ r 2 ≤ 3 := hok.1 2 (3, 3) rfl
  have b3 : 0 ≤ r 3 ∧ r 3 ≤ 2147483647 := hok.1 3 (0, 2147483647) rfl
  have b4 : 0 ≤ r 4 ∧ r 4 ≤ 100 := hok.1 4 (0, 100) rfl
  have b5 : (-2147483648) ≤ r 5 ∧ r 5 ≤ 2147483647 := hok.1 5 ((-2147483648), 2147483647) rfl
  have b6 : 0 ≤ r 6 ∧ r 6 ≤ 1 := hok.1 6 (0, 1) rfl
  have b7 : (-2147483648) ≤ r 7 ∧ r 7 ≤ 2147483647 := hok.1 7 ((-2147483648), 2147483647) rfl
  have b8 : 0 ≤ r 8 ∧ r 8 ≤ 100 := hok.1 8 (0, 100) rfl
  have b9 : 0 ≤ r 9 ∧ r 9 ≤ 1 := hok.1 9 (0, 1) rfl
  have b10 : (-2147483648) ≤ r 10 ∧ r 10 ≤ 2147483647 := hok.1 10 ((-2147483648), 2147483647) rfl
  have b11 : 0 ≤ r 11 ∧ r 11 ≤ 100 := hok.1 11 (0, 100) rfl
  have b12 : 1 ≤ r 12 ∧ r 12 ≤ 1 := hok.1 12 (1, 1) rfl
  have b13 : (-2147483648) ≤ r 13 ∧ r 13 ≤ 2147483647 := hok.1 13 ((-2147483648), 2147483647) rfl
  have b14 : 0 ≤ r 14 ∧ r 14 ≤ 100 := hok.1 14 (0, 100) rfl
  have b15 : 1 ≤ r 15 ∧ r 15 ≤ 1 := hok.1 15 (1, 1) rfl
  have b16 : (-2147483648) ≤ r 16 ∧ r 16 ≤ 2147483647 := hok.1 16 ((-2147483648), 2147483647) rfl
  have b17 : 0 ≤ r 17 ∧ r 17 ≤ 100 := hok.1 17 (0, 100) rfl
  have b18 : (-2147483648) ≤ r 18 ∧ r 18 ≤ 0 := hok.1 18 ((-2147483648), 0) rfl
  have f0 : 0 ≤ ((1 * r 3 + ((-1) * r 17 + (1 * r 4 + 0))) + (-1)) := hok.2 _ (List.mem_of_getElem? (i := 0) rfl)
  have f1 : 0 ≤ (((-1) * r 1 + (1 * r 14 + ((-1) * r 4 + 0))) + 0) := hok.2 _ (List.mem_of_getElem? (i := 1) rfl)
  obtain ⟨hG, hgi⟩ := hG
  have hG : True := hG
  have hh : g = gi := hh
  subst hh
  refine yt_dalt (by decide) (by decide) ?_
  rw [show xk_40.2.1.2.1.1.length = 18 from rfl]
  show ((0 : Int) + (-3)) = yq_cr ((1 * r 0 + 0) + 0) ((1 * r 1 + 0) + 0) ((1 * r 2 + 0) + 0) ((1 * r 3 + 0) + 0) ((1 * r 4 + 0) + 0) (yq_at ((1 * r 0 + 0) + 0) ((1 * ((1 * r 6 + 0) + 0) + 0) + 0) ((1 * ((1 * r 9 + 0) + 0) + 0) + 0) ((1 * ((1 * r 12 + 0) + 0) + 0) + 0) ((1 * ((1 * r 15 + 0) + 0) + 0) + 0)) (yq_at ((1 * r 2 + 0) + 0) ((1 * ((1 * r 6 + 0) + 0) + 0) + 0) ((1 * ((1 * r 9 + 0) + 0) + 0) + 0) ((1 * ((1 * r 12 + 0) + 0) + 0) + 0) ((1 * ((1 * r 15 + 0) + 0) + 0) + 0)) (yq_at ((1 * r 0 + 0) + 0) ((1 * ((1 * r 8 + 0) + 0) + 0) + 0) ((1 * ((1 * r 11 + 0) + 0) + 0) + 0) ((1 * ((1 * r 14 + 0) + 0) + 0) + 0) ((1 * ((1 * r 17 + 0) + 0) + 0) + 0)) (yq_at ((1 * r 2 + 0) + 0) ((1 * ((1 * r 8 + 0) + 0) + 0) + 0) ((1 * ((1 * r 11 + 0) + 0) + 0) + 0) ((1 * ((1 * r 14 + 0) + 0) + 0) + 0) ((1 * ((1 * r 17 + 0) + 0) + 0) + 0)) ∧ (g 3) = yq_xc ((1 * r 0 + 0) + 0) ((1 * r 1 + 0) + 0) ((1 * r 2 + 0) + 0) ((1 * r 3 + 0) + 0) ((1 * r 4 + 0) + 0) 0 (yq_at ((1 * r 0 + 0) + 0) ((1 * ((1 * r 6 + 0) + 0) + 0) + 0) ((1 * ((1 * r 9 + 0) + 0) + 0) + 0) ((1 * ((1 * r 12 + 0) + 0) + 0) + 0) ((1 * ((1 * r 15 + 0) + 0) + 0) + 0)) ((1 * ((1 * r 6 + 0) + 0) + 0) + 0) (yq_at ((1 * r 0 + 0) + 0) ((1 * ((1 * r 8 + 0) + 0) + 0) + 0) ((1 * ((1 * r 11 + 0) + 0) + 0) + 0) ((1 * ((1 * r 14 + 0) + 0) + 0) + 0) ((1 * ((1 * r 17 + 0) + 0) + 0) + 0)) ((1 * ((1 * r 8 + 0) + 0) + 0) + 0) ((1 * ((1 * r 7 + 0) + 0) + 0) + 0) (yq_fat ((1 * r 0 + 0) + 0) (g0 3) (g0 5) (g0 7) (g0 9)) (g0 3) ∧ (g 5) = yq_xc ((1 * r 0 + 0) + 0) ((1 * r 1 + 0) + 0) ((1 * r 2 + 0) + 0) ((1 * r 3 + 0) + 0) ((1 * r 4 + 0) + 0) 1 (yq_at ((1 * r 0 + 0) + 0) ((1 * ((1 * r 6 + 0) + 0) + 0) + 0) ((1 * ((1 * r 9 + 0) + 0) + 0) + 0) ((1 * ((1 * r 12 + 0) + 0) + 0) + 0) ((1 * ((1 * r 15 + 0) + 0) + 0) + 0)) ((1 * ((1 * r 9 + 0) + 0) + 0) + 0) (yq_at ((1 * r 0 + 0) + 0) ((1 * ((1 * r 8 + 0) + 0) + 0) + 0) ((1 * ((1 * r 11 + 0) + 0) + 0) + 0) ((1 * ((1 * r 14 + 0) + 0) + 0) + 0) ((1 * ((1 * r 17 + 0) + 0) + 0) + 0)) ((1 * ((1 * r 11 + 0) + 0) + 0) + 0) ((1 * ((1 * r 10 + 0) + 0) + 0) + 0) (yq_fat ((1 * r 0 + 0) + 0) (g0 3) (g0 5) (g0 7) (g0 9)) (g0 5) ∧ (g 7) = yq_xc ((1 * r 0 + 0) + 0) ((1 * r 1 + 0) + 0) ((1 * r 2 + 0) + 0) ((1 * r 3 + 0) + 0) ((1 * r 4 + 0) + 0) 2 (yq_at ((1 * r 0 + 0) + 0) ((1 * ((1 * r 6 + 0) + 0) + 0) + 0) ((1 * ((1 * r 9 + 0) + 0) + 0) + 0) ((1 * ((1 * r 12 + 0) + 0) + 0) + 0) ((1 * ((1 * r 15 + 0) + 0) + 0) + 0)) ((1 * ((1 * r 12 + 0) + 0) + 0) + 0) (yq_at ((1 * r 0 + 0) + 0) ((1 * ((1 * r 8 + 0) + 0) + 0) + 0) ((1 * ((1 * r 11 + 0) + 0) + 0) + 0) ((1 * ((1 * r 14 + 0) + 0) + 0) + 0) ((1 * ((1 * r 17 + 0) + 0) + 0) + 0)) ((1 * ((1 * r 14 + 0) + 0) + 0) + 0) ((1 * ((1 * r 13 + 0) + 0) + 0) + 0) (yq_fat ((1 * r 0 + 0) + 0) (g0 3) (g0 5) (g0 7) (g0 9)) (g0 7) ∧ (g 9) = yq_xc ((1 * r 0 + 0) + 0) ((1 * r 1 + 0) + 0) ((1 * r 2 + 0) + 0) ((1 * r 3 + 0) + 0) ((1 * r 4 + 0) + 0) 3 (yq_at ((1 * r 0 + 0) + 0) ((1 * ((1 * r 6 + 0) + 0) + 0) + 0) ((1 * ((1 * r 9 + 0) + 0) + 0) + 0) ((1 * ((1 * r 12 + 0) + 0) + 0) + 0) ((1 * ((1 * r 15 + 0) + 0) + 0) + 0)) ((1 * ((1 * r 15 + 0) + 0) + 0) + 0) (yq_at ((1 * r 0 + 0) + 0) ((1 * ((1 * r 8 + 0) + 0) + 0) + 0) ((1 * ((1 * r 11 + 0) + 0) + 0) + 0) ((1 * ((1 * r 14 + 0) + 0) + 0) + 0) ((1 * ((1 * r 17 + 0) + 0) + 0) + 0)) ((1 * ((1 * r 17 + 0) + 0) + 0) + 0) ((1 * ((1 * r 16 + 0) + 0) + 0) + 0) (yq_fat ((1 * r 0 + 0) + 0) (g0 3) (g0 5) (g0 7) (g0 9)) (g0 9)
  try simp only [Int.one_mul, Int.zero_add, Int.add_zero]
  refine ⟨?_, ?_, ?_, ?_, ?_⟩
  · rw [show r 0 = 2 by omega]
    rw [show r 2 = 3 by omega]
    simp only [yq_at2, yq_at3]
    unfold yq_cr
    repeat' split
    all_goals omega
  · rw [show r 0 = 2 by omega]
    simp only [yq_at2, yq_fat2]
    unfold yq_xc
    rw [if_neg (by omega)]
    rw [hgi]
  · rw [show r 0 = 2 by omega]
    simp only [yq_at2, yq_fat2]
    unfold yq_xc
    rw [if_neg (by omega)]
    rw [hgi]
  · rw [show r 0 = 2 by omega]
    simp only [yq_at2, yq_fat2]
    unfold yq_xc
    rw [if_neg (by omega)]
    rw [hgi]
  · rw [show r 0 = 2 by omega]
    simp only [yq_at2, yq_fat2]
    unfold yq_xc
    rw [if_neg (by omega)]
    rw [hgi]
theorem xw_40_0_74 : yt_hold xT_40 xk_40 xq_40.2.2.1 xG_40 xP_40 xU_40 18 xk_40.2.1.2.2.2 (fun g0 r g => xR_40 r g0 ∧ g = g0) (1000, ([(2, 2), (0, 100), (3, 3), (0, 100), (0, 100), ((-2147483648), 2147483647), (0, 1), ((-2147483648), 2147483647), (0, 100), (0, 1), ((-2147483648), 2147483647), (0, 100), (1, 1), ((-2147483648), 2147483647), (0, 100), (1, 1), ((-2147483648), 2147483647), (0, 100), ((-2147483648), 0)], [([(4, (-1)), (3, (-1))], 101), ([(3, (-1)), (17, 1), (4, (-1))], 0), ([(1, (-1)), (14, 1), (4, (-1))], 0)]), [([(4, 1)], 0), ([(18, 1)], 0)], [], [.inr (.inr (.inl (98, 0, [([(3, 1)], 0), ([(1, 1)], 0), ([(4, 1)], 0), ([(15, 1)], 0), ([(16, 1)], 0), ([(17, 1)], 0), ([(12, 1)], 0), ([(13, 1)], 0), ([(14, 1)], 0)], [8, 9, 6, 7], [9])))]) := by
  intro g0 r gi g hok hh hars hfr hG
  have b0 : 2 ≤ r 0 ∧ r 0 ≤ 2 := hok.1 0 (2, 2) rfl
  have b1 : 0 ≤ r 1 ∧ r 1 ≤ 100 := hok.1 1 (0, 100) rfl
  have b2 : 3 ≤ r 2 ∧ r 2 ≤ 3 := hok.1 2 (3, 3) rfl
  have b3 : 0 ≤ r 3 ∧ r 3 ≤ 100 := hok.1 3 (0, 100) rfl
  have b4 : 0 ≤ r 4 ∧ r 4 ≤ 100 := hok.1 4 (0, 100) rfl
  have b5 : (-2147483648) ≤ r 5 ∧ r 5 ≤ 2147483647 := hok.1 5 ((-2147483648), 2147483647) rfl
  have b6 : 0 ≤ r 6 ∧ r 6 ≤ 1 := hok.1 6 (0, 1) rfl
  have b7 : (-2147483648) ≤ r 7 ∧ r 7 ≤ 2147483647 := hok.1 7 ((-2147483648), 2147483647) rfl
  have b8 : 0 ≤ r 8 ∧ r 8 ≤ 100 := hok.1 8 (0, 100) rfl
  have b9 : 0 ≤ r 9 ∧ r 9 ≤ 1 := hok.1 9 (0, 1) rfl
  have b10 : (-2147483648) ≤ r 10 ∧ r 10 ≤ 2147483647 := hok.1 10 ((-2147483648), 2147483647) rfl
  have b11 : 0 ≤ r 11 ∧ r 11 ≤ 100 := hok.1 11 (0, 100) rfl
  have b12 : 1 ≤ r 12 ∧ r 12 ≤ 1 := hok.1 12 (1, 1) rfl
  have b13 : (-2147483648) ≤ r 13 ∧ r 13 ≤ 2147483647 := hok.1 13 ((-2147483648), 2147483647) rfl
  have b14 : 0 ≤ r 14 ∧ r 14 ≤ 100 := hok.1 14 (0, 100) rfl
  have b15 : 1 ≤ r 15 ∧ r 15 ≤ 1 := hok.1 15 (1, 1) rfl
  have b16 : (-2147483648) ≤ r 16 ∧ r 16 ≤ 2147483647 := hok.1 16 ((-2147483648), 2147483647) rfl
  have b17 : 0 ≤ r 17 ∧ r 17 ≤ 100 := hok.1 17 (0, 100) rfl
  have b18 : (-2147483648) ≤ r 18 ∧ r 18 ≤ 0 := hok.1 18 ((-2147483648), 0) rfl
  have f0 : 0 ≤ (((-1) * r 4 + ((-1) * r 3 + 0)) + 101) := hok.2 _ (List.mem_of_getElem? (i := 0) rfl)
  have f1 : 0 ≤ (((-1) * r 3 + (1 * r 17 + ((-1) * r 4 + 0))) + 0) := hok.2 _ (List.mem_of_getElem? (i := 1) rfl)
  have f2 : 0 ≤ (((-1) * r 1 + (1 * r 14 + ((-1) * r 4 + 0))) + 0) := hok.2 _ (List.mem_of_getElem? (i := 2) rfl)
  obtain ⟨hG, hgi⟩ := hG
  have hG : True := hG
  obtain ⟨h0, hh, e0, k0⟩ := hh
  have k0 : ∀ j, j ∉ [9] → g j = h0 j := k0
  have e0 : (g 9) = yq_pa ((1 * r 3 + 0) + 0) ((1 * r 1 + 0) + 0) ((1 * r 4 + 0) + 0) ((1 * r 16 + 0) + 0) (h0 7) (h0 9) := e0
  have hh : h0 = gi := hh
  subst hh
  refine yt_dalt (by decide) (by decide) ?_
  rw [show xk_40.2.1.2.1.1.length = 18 from rfl]
  show ((1 * r 4 + 0) + 0) = yq_cr ((1 * r 0 + 0) + 0) ((1 * r 1 + 0) + 0) ((1 * r 2 + 0) + 0) ((1 * r 3 + 0) + 0) ((1 * r 4 + 0) + 0) (yq_at ((1 * r 0 + 0) + 0) ((1 * ((1 * r 6 + 0) + 0) + 0) + 0) ((1 * ((1 * r 9 + 0) + 0) + 0) + 0) ((1 * ((1 * r 12 + 0) + 0) + 0) + 0) ((1 * ((1 * r 15 + 0) + 0) + 0) + 0)) (yq_at ((1 * r 2 + 0) + 0) ((1 * ((1 * r 6 + 0) + 0) + 0) + 0) ((1 * ((1 * r 9 + 0) + 0) + 0) + 0) ((1 * ((1 * r 12 + 0) + 0) + 0) + 0) ((1 * ((1 * r 15 + 0) + 0) + 0) + 0)) (yq_at ((1 * r 0 + 0) + 0) ((1 * ((1 * r 8 + 0) + 0) + 0) + 0) ((1 * ((1 * r 11 + 0) + 0) + 0) + 0) ((1 * ((1 * r 14 + 0) + 0) + 0) + 0) ((1 * ((1 * r 17 + 0) + 0) + 0) + 0)) (yq_at ((1 * r 2 + 0) + 0) ((1 * ((1 * r 8 + 0) + 0) + 0) + 0) ((1 * ((1 * r 11 + 0) + 0) + 0) + 0) ((1 * ((1 * r 14 + 0) + 0) + 0) + 0) ((1 * ((1 * r 17 + 0) + 0) + 0) + 0)) ∧ (g 3) = yq_xc ((1 * r 0 + 0) + 0) ((1 * r 1 + 0) + 0) ((1 * r 2 + 0) + 0) ((1 * r 3 + 0) + 0) ((1 * r 4 + 0) + 0) 0 (yq_at ((1 * r 0 + 0) + 0) ((1 * ((1 * r 6 + 0) + 0) + 0) + 0) ((1 * ((1 * r 9 + 0) + 0) + 0) + 0) ((1 * ((1 * r 12 + 0) + 0) + 0) + 0) ((1 * ((1 * r 15 + 0) + 0) + 0) + 0)) ((1 * ((1 * r 6 + 0) + 0) + 0) + 0) (yq_at ((1 * r 0 + 0) + 0) ((1 * ((1 * r 8 + 0) + 0) + 0) + 0) ((1 * ((1 * r 11 + 0) + 0) + 0) + 0) ((1 * ((1 * r 14 + 0) + 0) + 0) + 0) ((1 * ((1 * r 17 + 0) + 0) + 0) + 0)) ((1 * ((1 * r 8 + 0) + 0) + 0) + 0) ((1 * ((1 * r 7 + 0) + 0) + 0) + 0) (yq_fat ((1 * r 0 + 0) + 0) (g0 3) (g0 5) (g0 7) (g0 9)) (g0 3) ∧ (g 5) = yq_xc ((1 * r 0 + 0) + 0) ((1 * r 1 + 0) + 0) ((1 * r 2 + 0) + 0) ((1 * r 3 + 0) + 0) ((1 * r 4 + 0) + 0) 1 (yq_at ((1 * r 0 + 0) + 0) ((1 * ((1 * r 6 + 0) + 0) + 0) + 0) ((1 * ((1 * r 9 + 0) + 0) + 0) + 0) ((1 * ((1 * r 12 + 0) + 0) + 0) + 0) ((1 * ((1 * r 15 + 0) + 0) + 0) + 0)) ((1 * ((1 * r 9 + 0) + 0) + 0) + 0) (yq_at ((1 * r 0 + 0) + 0) ((1 * ((1 * r 8 + 0) + 0) + 0) + 0) ((1 * ((1 * r 11 + 0) + 0) + 0) + 0) ((1 * ((1 * r 14 + 0) + 0) + 0) + 0) ((1 * ((1 * r 17 + 0) + 0) + 0) + 0)) ((1 * ((1 * r 11 + 0) + 0) + 0) + 0) ((1 * ((1 * r 10 + 0) + 0) + 0) + 0) (yq_fat ((1 * r 0 + 0) + 0) (g0 3) (g0 5) (g0 7) (g0 9)) (g0 5) ∧ (g 7) = yq_xc ((1 * r 0 + 0) + 0) ((1 * r 1 + 0) + 0) ((1 * r 2 + 0) + 0) ((1 * r 3 + 0) + 0) ((1 * r 4 + 0) + 0) 2 (yq_at ((1 * r 0 + 0) + 0) ((1 * ((1 * r 6 + 0) + 0) + 0) + 0) ((1 * ((1 * r 9 + 0) + 0) + 0) + 0) ((1 * ((1 * r 12 + 0) + 0) + 0) + 0) ((1 * ((1 * r 15 + 0) + 0) + 0) + 0)) ((1 * ((1 * r 12 + 0) + 0) + 0) + 0) (yq_at ((1 * r 0 + 0) + 0) ((1 * ((1 * r 8 + 0) + 0) + 0) + 0) ((1 * ((1 * r 11 + 0) + 0) + 0) + 0) ((1 * ((1 * r 14 + 0) + 0) + 0) + 0) ((1 * ((1 * r 17 + 0) + 0) + 0) + 0)) ((1 * ((1 * r 14 + 0) + 0) + 0) + 0) ((1 * ((1 * r 13 + 0) + 0) + 0) + 0) (yq_fat ((1 * r 0 + 0) + 0) (g0 3) (g0 5) (g0 7) (g0 9)) (g0 7) ∧ (g 9) = yq_xc ((1 * r 0 + 0) + 0) ((1 * r 1 + 0) + 0) ((1 * r 2 + 0) + 0) ((1 * r 3 + 0) + 0) ((1 * r 4 + 0) + 0) 3 (yq_at ((1 * r 0 + 0) + 0) ((1 * ((1 * r 6 + 0) + 0) + 0) + 0) ((1 * ((1 * r 9 + 0) + 0) + 0) + 0) ((1 * ((1 * r 12 + 0) + 0) + 0) + 0) ((1 * ((1 * r 15 + 0) + 0) + 0) + 0)) ((1 * ((1 * r 15 + 0) + 0) + 0) + 0) (yq_at ((1 * r 0 + 0) + 0) ((1 * ((1 * r 8 + 0) + 0) + 0) + 0) ((1 * ((1 * r 11 + 0) + 0) + 0) + 0) ((1 * ((1 * r 14 + 0) + 0) + 0) + 0) ((1 * ((1 * r 17 + 0) + 0) + 0) + 0)) ((1 * ((1 * r 17 + 0) + 0) + 0) + 0) ((1 * ((1 * r 16 + 0) + 0) + 0) + 0) (yq_fat ((1 * r 0 + 0) + 0) (g0 3) (g0 5) (g0 7) (g0 9)) (g0 9)
  try simp only [Int.one_mul, Int.zero_add, Int.add_zero]
  try simp only [Int.one_mul, Int.zero_add, Int.add_zero] at e0
  refine ⟨?_, ?_, ?_, ?_, ?_⟩
  · rw [show r 0 = 2 by omega]
    rw [show r 2 = 3 by omega]
    simp only [yq_at2, yq_at3]
    unfold yq_cr
    repeat' split
    all_goals omega
  · rw [show r 0 = 2 by omega]
    simp only [yq_at2, yq_fat2]
    unfold yq_xc
    rw [if_neg (by omega)]
    rw [k0 3 (by decide), hgi]
  · rw [show r 0 = 2 by omega]
    simp only [yq_at2, yq_fat2]
    unfold yq_xc
    rw [if_neg (by omega)]
    rw [k0 5 (by decide), hgi]
  · rw [show r 0 = 2 by omega]
    simp only [yq_at2, yq_fat2]
    unfold yq_xc
    rw [if_neg (by omega)]
    rw [k0 7 (by decide), hgi]
  · rw [show r 0 = 2 by omega]
    simp only [yq_at2, yq_fat2]
    unfold yq_xc
    rw [if_pos (by omega), e0, hgi]
theorem xw_40_0_75 : yt_hold xT_40 xk_40 xq_40.2.2.1 xG_40 xP_40 xU_40 18 xk_40.2.1.2.2.2 (fun g0 r g => xR_40 r g0 ∧ g = g0) (1000, ([(2, 2), ((-2147483648), 2147483647), (3, 3), ((-2147483648), 2147483647), (0, 2147483647), ((-2147483648), 2147483647), (0, 1), ((-2147483648), 2147483647), (0, 100), (0, 1), ((-2147483648), 2147483647), (0, 100), (1, 1), ((-2147483648), 2147483647), (0, 100), (0, 0), ((-2147483648), 2147483647), (0, 100), ((-2147483648), 0)], []), [([], (-2)), ([(18, 1)], 0)], [], []) := by
  intro g0 r gi g hok hh hars hfr hG
  have b0 : 2 ≤ r 0 ∧ r 0 ≤ 2 := hok.1 0 (2, 2) rfl
  have b1 : (-2147483648) ≤ r 1 ∧ r 1 ≤ 2147483647 := hok.1 1 ((-2147483648), 2147483647) rfl
  have b2 : 3 ≤ r 2 ∧ r 2 ≤ 3 := hok.1 2 (3, 3) rfl
  have b3 : (-2147483648) ≤ r 3 ∧ r 3 ≤ 2147483647 := hok.1 3 ((-2147483648), 2147483647) rfl
  have b4 : 0 ≤ r 4 ∧ r 4 ≤ 2147483647 := hok.1 4 (0, 2147483647) rfl
  have b5 : (-2147483648) ≤ r 5 ∧ r 5 ≤ 2147483647 := hok.1 5 ((-2147483648), 2147483647) rfl
  have b6 : 0 ≤ r 6 ∧ r 6 ≤ 1 := hok.1 6 (0, 1) rfl
  have b7 : (-2147483648) ≤ r 7 ∧ r 7 ≤ 2147483647 := hok.1 7 ((-2147483648), 2147483647) rfl
  have b8 : 0 ≤ r 8 ∧ r 8 ≤ 100 := hok.1 8 (0, 100) rfl
  have b9 : 0 ≤ r 9 ∧ r 9 ≤ 1 := hok.1 9 (0, 1) rfl
  have b10 : (-2147483648) ≤ r 10 ∧ r 10 ≤ 2147483647 := hok.1 10 ((-2147483648), 2147483647) rfl
  have b11 : 0 ≤ r 11 ∧ r 11 ≤ 100 := hok.1 11 (0, 100) rfl
  have b12 : 1 ≤ r 12 ∧ r 12 ≤ 1 := hok.1 12 (1, 1) rfl
  have b13 : (-2147483648) ≤ r 13 ∧ r 13 ≤ 2147483647 := hok.1 13 ((-2147483648), 2147483647) rfl
  have b14 : 0 ≤ r 14 ∧ r 14 ≤ 100 := hok.1 14 (0, 100) rfl
  have b15 : 0 ≤ r 15 ∧ r 15 ≤ 0 := hok.1 15 (0, 0) rfl
  have b16 : (-2147483648) ≤ r 16 ∧ r 16 ≤ 2147483647 := hok.1 16 ((-2147483648), 2147483647) rfl
  have b17 : 0 ≤ r 17 ∧ r 17 ≤ 100 := hok.1 17 (0, 100) rfl
  have b18 : (-2147483648) ≤ r 18 ∧ r 18 ≤ 0 := hok.1 18 ((-2147483648), 0) rfl
  obtain ⟨hG, hgi⟩ := hG
  have hG : True := hG
  have hh : g = gi := hh
  subst hh
  refine yt_dalt (by decide) (by decide) ?_
  rw [show xk_40.2.1.2.1.1.length = 18 from rfl]
  show ((0 : Int) + (-2)) = yq_cr ((1 * r 0 + 0) + 0) ((1 * r 1 + 0) + 0) ((1 * r 2 + 0) + 0) ((1 * r 3 + 0) + 0) ((1 * r 4 + 0) + 0) (yq_at ((1 * r 0 + 0) + 0) ((1 * ((1 * r 6 + 0) + 0) + 0) + 0) ((1 * ((1 * r 9 + 0) + 0) + 0) + 0) ((1 * ((1 * r 12 + 0) + 0) + 0) + 0) ((1 * ((1 * r 15 + 0) + 0) + 0) + 0)) (yq_at ((1 * r 2 + 0) + 0) ((1 * ((1 * r 6 + 0) + 0) + 0) + 0) ((1 * ((1 * r 9 + 0) + 0) + 0) + 0) ((1 * ((1 * r 12 + 0) + 0) + 0) + 0) ((1 * ((1 * r 15 + 0) + 0) + 0) + 0)) (yq_at ((1 * r 0 + 0) + 0) ((1 * ((1 * r 8 + 0) + 0) + 0) + 0) ((1 * ((1 * r 11 + 0) + 0) + 0) + 0) ((1 * ((1 * r 14 + 0) + 0) + 0) + 0) ((1 * ((1 * r 17 + 0) + 0) + 0) + 0)) (yq_at ((1 * r 2 + 0) + 0) ((1 * ((1 * r 8 + 0) + 0) + 0) + 0) ((1 * ((1 * r 11 + 0) + 0) + 0) + 0) ((1 * ((1 * r 14 + 0) + 0) + 0) + 0) ((1 * ((1 * r 17 + 0) + 0) + 0) + 0)) ∧ (g 3) = yq_xc ((1 * r 0 + 0) + 0) ((1 * r 1 + 0) + 0) ((1 * r 2 + 0) + 0) ((1 * r 3 + 0) + 0) ((1 * r 4 + 0) + 0) 0 (yq_at ((1 * r 0 + 0) + 0) ((1 * ((1 * r 6 + 0) + 0) + 0) + 0) ((1 * ((1 * r 9 + 0) + 0) + 0) + 0) ((1 * ((1 * r 12 + 0) + 0) + 0) + 0) ((1 * ((1 * r 15 + 0) + 0) + 0) + 0)) ((1 * ((1 * r 6 + 0) + 0) + 0) + 0) (yq_at ((1 * r 0 + 0) + 0) ((1 * ((1 * r 8 + 0) + 0) + 0) + 0) ((1 * ((1 * r 11 + 0) + 0) + 0) + 0) ((1 * ((1 * r 14 + 0) + 0) + 0) + 0) ((1 * ((1 * r 17 + 0) + 0) + 0) + 0)) ((1 * ((1 * r 8 + 0) + 0) + 0) + 0) ((1 * ((1 * r 7 + 0) + 0) + 0) + 0) (yq_fat ((1 * r 0 + 0) + 0) (g0 3) (g0 5) (g0 7) (g0 9)) (g0 3) ∧ (g 5) = yq_xc ((1 * r 0 + 0) + 0) ((1 * r 1 + 0) + 0) ((1 * r 2 + 0) + 0) ((1 * r 3 + 0) + 0) ((1 * r 4 + 0) + 0) 1 (yq_at ((1 * r 0 + 0) + 0) ((1 * ((1 * r 6 + 0) + 0) + 0) + 0) ((1 * ((1 * r 9 + 0) + 0) + 0) + 0) ((1 * ((1 * r 12 + 0) + 0) + 0) + 0) ((1 * ((1 * r 15 + 0) + 0) + 0) + 0)) ((1 * ((1 * r 9 + 0) + 0) + 0) + 0) (yq_at ((1 * r 0 + 0) + 0) ((1 * ((1 * r 8 + 0) + 0) + 0) + 0) ((1 * ((1 * r 11 + 0) + 0) + 0) + 0) ((1 * ((1 * r 14 + 0) + 0) + 0) + 0) ((1 * ((1 * r 17 + 0) + 0) + 0) + 0)) ((1 * ((1 * r 11 + 0) + 0) + 0) + 0) ((1 * ((1 * r 10 + 0) + 0) + 0) + 0) (yq_fat ((1 * r 0 + 0) + 0) (g0 3) (g0 5) (g0 7) (g0 9)) (g0 5) ∧ (g 7) = yq_xc ((1 * r 0 + 0) + 0) ((1 * r 1 + 0) + 0) ((1 * r 2 + 0) + 0) ((1 * r 3 + 0) + 0) ((1 * r 4 + 0) + 0) 2 (yq_at ((1 * r 0 + 0) + 0) ((1 * ((1 * r 6 + 0) + 0) + 0) + 0) ((1 * ((1 * r 9 + 0) + 0) + 0) + 0) ((1 * ((1 * r 12 + 0) + 0) + 0) + 0) ((1 * ((1 * r 15 + 0) + 0) + 0) + 0)) ((1 * ((1 * r 12 + 0) + 0) + 0) + 0) (yq_at ((1 * r 0 + 0) + 0) ((1 * ((1 * r 8 + 0) + 0) + 0) + 0) ((1 * ((1 * r 11 + 0) + 0) + 0) + 0) ((1 * ((1 * r 14 + 0) + 0) + 0) + 0) ((1 * ((1 * r 17 + 0) + 0) + 0) + 0)) ((1 * ((1 * r 14 + 0) + 0) + 0) + 0) ((1 * ((1 * r 13 + 0) + 0) + 0) + 0) (yq_fat ((1 * r 0 + 0) + 0) (g0 3) (g0 5) (g0 7) (g0 9)) (g0 7) ∧ (g 9) = yq_xc ((1 * r 0 + 0) + 0) ((1 * r 1 + 0) + 0) ((1 * r 2 + 0) + 0) ((1 * r 3 + 0) + 0) ((1 * r 4 + 0) + 0) 3 (yq_at ((1 * r 0 + 0) + 0) ((1 * ((1 * r 6 + 0) + 0) + 0) + 0) ((1 * ((1 * r 9 + 0) + 0) + 0) + 0) ((1 * ((1 * r 12 + 0) + 0) + 0) + 0) ((1 * ((1 * r 15 + 0) + 0) + 0) + 0)) ((1 * ((1 * r 15 + 0) + 0) + 0) + 0) (yq_at ((1 * r 0 + 0) + 0) ((1 * ((1 * r 8 + 0) + 0) + 0) + 0) ((1 * ((1 * r 11 + 0) + 0) + 0) + 0) ((1 * ((1 * r 14 + 0) + 0) + 0) + 0) ((1 * ((1 * r 17 + 0) + 0) + 0) + 0)) ((1 * ((1 * r 17 + 0) + 0) + 0) + 0) ((1 * ((1 * r 16 + 0) + 0) + 0) + 0) (yq_fat ((1 * r 0 + 0) + 0) (g0 3) (g0 5) (g0 7) (g0 9)) (g0 9)
  try simp only [Int.one_mul, Int.zero_add, Int.add_zero]
  refine ⟨?_, ?_, ?_, ?_, ?_⟩
  · rw [show r 0 = 2 by omega]
    rw [show r 2 = 3 by omega]
    simp only [yq_at2, yq_at3]
    unfold yq_cr
    repeat' split
    all_goals omega
  · rw [show r 0 = 2 by omega]
    simp only [yq_at2, yq_fat2]
    unfold yq_xc
    rw [if_neg (by omega)]
    rw [hgi]
  · rw [show r 0 = 2 by omega]
    simp only [yq_at2, yq_fat2]
    unfold yq_xc
    rw [if_neg (by omega)]
    rw [hgi]
  · rw [show r 0 = 2 by omega]
    simp only [yq_at2, yq_fat2]
    unfold yq_xc
    rw [if_neg (by omega)]
    rw [hgi]
  · rw [show r 0 = 2 by omega]
    simp only [yq_at2, yq_fat2]
    unfold yq_xc
    rw [if_neg (by omega)]
    rw [hgi]
theorem xw_40_0_76 : yt_hold xT_40 xk_40 xq_40.2.2.1 xG_40 xP_40 xU_40 18 xk_40.2.1.2.2.2 (fun g0 r g => xR_40 r g0 ∧ g = g0) (1000, ([(3, 3), ((-2147483648), 2147483647), (0, 3), ((-2147483648), 2147483647), (0, 2147483647), ((-2147483648), 2147483647), (0, 1), ((-2147483648), 2147483647), (0, 100), (0, 1), ((-2147483648), 2147483647), (0, 100), (0, 1), ((-2147483648), 2147483647), (0, 100), (0, 0), ((-2147483648), 2147483647), (0, 100), ((-2147483648), 0)], []), [([], (-2)), ([(18, 1)], 0)], [], []) := by
  intro g0 r gi g hok hh hars hfr hG
  have b0 : 3 ≤ r 0 ∧ r 0 ≤ 3 := hok.1 0 (3, 3) rfl
  have b1 : (-2147483648) ≤ r 1 ∧ r 1 ≤ 2147483647 := hok.1 1 ((-2147483648), 2147483647) rfl
  have b2 : 0 ≤ r 2 ∧ r 2 ≤ 3 := hok.1 2 (0, 3) rfl
  have b3 : (-2147483648) ≤ r 3 ∧ r 3 ≤ 2147483647 := hok.1 3 ((-2147483648), 2147483647) rfl
  have b4 : 0 ≤ r 4 ∧ r 4 ≤ 2147483647 := hok.1 4 (0, 2147483647) rfl
  have b5 : (-2147483648) ≤ r 5 ∧ r 5 ≤ 2147483647 := hok.1 5 ((-2147483648), 2147483647) rfl
  have b6 : 0 ≤ r 6 ∧ r 6 ≤ 1 := hok.1 6 (0, 1) rfl
  have b7 : (-2147483648) ≤ r 7 ∧ r 7 ≤ 2147483647 := hok.1 7 ((-2147483648), 2147483647) rfl
  have b8 : 0 ≤ r 8 ∧ r 8 ≤ 100 := hok.1 8 (0, 100) rfl
  have b9 : 0 ≤ r 9 ∧ r 9 ≤ 1 := hok.1 9 (0, 1) rfl
  have b10 : (-2147483648) ≤ r 10 ∧ r 10 ≤ 2147483647 := hok.1 10 ((-2147483648), 2147483647) rfl
  have b11 : 0 ≤ r 11 ∧ r 11 ≤ 100 := hok.1 11 (0, 100) rfl
  have b12 : 0 ≤ r 12 ∧ r 12 ≤ 1 := hok.1 12 (0, 1) rfl
  have b13 : (-2147483648) ≤ r 13 ∧ r 13 ≤ 2147483647 := hok.1 13 ((-2147483648), 2147483647) rfl
  have b14 : 0 ≤ r 14 ∧ r 14 ≤ 100 := hok.1 14 (0, 100) rfl
  have b15 : 0 ≤ r 15 ∧ r 15 ≤ 0 := hok.1 15 (0, 0) rfl
  have b16 : (-2147483648) ≤ r 16 ∧ r 16 ≤ 2147483647 := hok.1 16 ((-2147483648), 2147483647) rfl
  have b17 : 0 ≤ r 17 ∧ r 17 ≤ 100 := hok.1 17 (0, 100) rfl
  have b18 : (-2147483648) ≤ r 18 ∧ r 18 ≤ 0 := hok.1 18 ((-2147483648), 0) rfl
  obtain ⟨hG, hgi⟩ := hG
  have hG : True := hG
  have hh : g = gi := hh
  subst hh
  refine yt_dalt (by decide) (by decide) ?_
  rw [show xk_40.2.1.2.1.1.length = 18 from rfl]
  show ((0 : Int) + (-2)) = yq_cr ((1 * r 0 + 0) + 0) ((1 * r 1 + 0) + 0) ((1 * r 2 + 0) + 0) ((1 * r 3 + 0) + 0) ((1 * r 4 + 0) + 0) (yq_at ((1 * r 0 + 0) + 0) ((1 * ((1 * r 6 + 0) + 0) + 0) + 0) ((1 * ((1 * r 9 + 0) + 0) + 0) + 0) ((1 * ((1 * r 12 + 0) + 0) + 0) + 0) ((1 * ((1 * r 15 + 0) + 0) + 0) + 0)) (yq_at ((1 * r 2 + 0) + 0) ((1 * ((1 * r 6 + 0) + 0) + 0) + 0) ((1 * ((1 * r 9 + 0) + 0) + 0) + 0) ((1 * ((1 * r 12 + 0) + 0) + 0) + 0) ((1 * ((1 * r 15 + 0) + 0) + 0) + 0)) (yq_at ((1 * r 0 + 0) + 0) ((1 * ((1 * r 8 + 0) + 0) + 0) + 0) ((1 * ((1 * r 11 + 0) + 0) + 0) + 0) ((1 * ((1 * r 14 + 0) + 0) + 0) + 0) ((1 * ((1 * r 17 + 0) + 0) + 0) + 0)) (yq_at ((1 * r 2 + 0) + 0) ((1 * ((1 * r 8 + 0) + 0) + 0) + 0) ((1 * ((1 * r 11 + 0) + 0) + 0) + 0) ((1 * ((1 * r 14 + 0) + 0) + 0) + 0) ((1 * ((1 * r 17 + 0) + 0) + 0) + 0)) ∧ (g 3) = yq_xc ((1 * r 0 + 0) + 0) ((1 * r 1 + 0) + 0) ((1 * r 2 + 0) + 0) ((1 * r 3 + 0) + 0) ((1 * r 4 + 0) + 0) 0 (yq_at ((1 * r 0 + 0) + 0) ((1 * ((1 * r 6 + 0) + 0) + 0) + 0) ((1 * ((1 * r 9 + 0) + 0) + 0) + 0) ((1 * ((1 * r 12 + 0) + 0) + 0) + 0) ((1 * ((1 * r 15 + 0) + 0) + 0) + 0)) ((1 * ((1 * r 6 + 0) + 0) + 0) + 0) (yq_at ((1 * r 0 + 0) + 0) ((1 * ((1 * r 8 + 0) + 0) + 0) + 0) ((1 * ((1 * r 11 + 0) + 0) + 0) + 0) ((1 * ((1 * r 14 + 0) + 0) + 0) + 0) ((1 * ((1 * r 17 + 0) + 0) + 0) + 0)) ((1 * ((1 * r 8 + 0) + 0) + 0) + 0) ((1 * ((1 * r 7 + 0) + 0) + 0) + 0) (yq_fat ((1 * r 0 + 0) + 0) (g0 3) (g0 5) (g0 7) (g0 9)) (g0 3) ∧ (g 5) = yq_xc ((1 * r 0 + 0) + 0) ((1 * r 1 + 0) + 0) ((1 * r 2 + 0) + 0) ((1 * r 3 + 0) + 0) ((1 * r 4 + 0) + 0) 1 (yq_at ((1 * r 0 + 0) + 0) ((1 * ((1 * r 6 + 0) + 0) + 0) + 0) ((1 * ((1 * r 9 + 0) + 0) + 0) + 0) ((1 * ((1 * r 12 + 0) + 0) + 0) + 0) ((1 * ((1 * r 15 + 0) + 0) + 0) + 0)) ((1 * ((1 * r 9 + 0) + 0) + 0) + 0) (yq_at ((1 * r 0 + 0) + 0) ((1 * ((1 * r 8 + 0) + 0) + 0) + 0) ((1 * ((1 * r 11 + 0) + 0) + 0) + 0) ((1 * ((1 * r 14 + 0) + 0) + 0) + 0) ((1 * ((1 * r 17 + 0) + 0) + 0) + 0)) ((1 * ((1 * r 11 + 0) + 0) + 0) + 0) ((1 * ((1 * r 10 + 0) + 0) + 0) + 0) (yq_fat ((1 * r 0 + 0) + 0) (g0 3) (g0 5) (g0 7) (g0 9)) (g0 5) ∧ (g 7) = yq_xc ((1 * r 0 + 0) + 0) ((1 * r 1 + 0) + 0) ((1 * r 2 + 0) + 0) ((1 * r 3 + 0) + 0) ((1 * r 4 + 0) + 0) 2 (yq_at ((1 * r 0 + 0) + 0) ((1 * ((1 * r 6 + 0) + 0) + 0) + 0) ((1 * ((1 * r 9 + 0) + 0) + 0) + 0) ((1 * ((1 * r 12 + 0) + 0) + 0) + 0) ((1 * ((1 * r 15 + 0) + 0) + 0) + 0)) ((1 * ((1 * r 12 + 0) + 0) + 0) + 0) (yq_at ((1 * r 0 + 0) + 0) ((1 * ((1 * r 8 + 0) + 0) + 0) + 0) ((1 * ((1 * r 11 + 0) + 0) + 0) + 0) ((1 * ((1 * r 14 + 0) + 0) + 0) + 0) ((1 * ((1 * r 17 + 0) + 0) + 0) + 0)) ((1 * ((1 * r 14 + 0) + 0) + 0) + 0) ((1 * ((1 * r 13 + 0) + 0) + 0) + 0) (yq_fat ((1 * r 0 + 0) + 0) (g0 3) (g0 5) (g0 7) (g0 9)) (g0 7) ∧ (g 9) = yq_xc ((1 * r 0 + 0) + 0) ((1 * r 1 + 0) + 0) ((1 * r 2 + 0) + 0) ((1 * r 3 + 0) + 0) ((1 * r 4 + 0) + 0) 3 (yq_at ((1 * r 0 + 0) + 0) ((1 * ((1 * r 6 + 0) + 0) + 0) + 0) ((1 * ((1 * r 9 + 0) + 0) + 0) + 0) ((1 * ((1 * r 12 + 0) + 0) + 0) + 0) ((1 * ((1 * r 15 + 0) + 0) + 0) + 0)) ((1 * ((1 * r 15 + 0) + 0) + 0) + 0) (yq_at ((1 * r 0 + 0) + 0) ((1 * ((1 * r 8 + 0) + 0) + 0) + 0) ((1 * ((1 * r 11 + 0) + 0) + 0) + 0) ((1 * ((1 * r 14 + 0) + 0) + 0) + 0) ((1 * ((1 * r 17 + 0) + 0) + 0) + 0)) ((1 * ((1 * r 17 + 0) + 0) + 0) + 0) ((1 * ((1 * r 16 + 0) + 0) + 0) + 0) (yq_fat ((1 * r 0 + 0) + 0) (g0 3) (g0 5) (g0 7) (g0 9)) (g0 9)
  try simp only [Int.one_mul, Int.zero_add, Int.add_zero]
  refine ⟨?_, ?_, ?_, ?_, ?_⟩
  · rw [show r 0 = 3 by omega]
    simp only [yq_at3]
    unfold yq_cr
    rw [if_pos (by omega), if_pos (Or.inl (by omega))] <;> omega
  · rw [show r 0 = 3 by omega]
    simp only [yq_at3, yq_fat3]
    unfold yq_xc
    rw [if_neg (by omega)]
    rw [hgi]
  · rw [show r 0 = 3 by omega]
    simp only [yq_at3, yq_fat3]
    unfold yq_xc
    rw [if_neg (by omega)]
    rw [hgi]
  · rw [show r 0 = 3 by omega]
    simp only [yq_at3, yq_fat3]
    unfold yq_xc
    rw [if_neg (by omega)]
    rw [hgi]
  · rw [show r 0 = 3 by omega]
    simp only [yq_at3, yq_fat3]
    unfold yq_xc
    rw [if_neg (by omega)]
    rw [hgi]
theorem xw_40_0_77 : yt_hold xT_40 xk_40 xq_40.2.2.1 xG_40 xP_40 xU_40 18 xk_40.2.1.2.2.2 (fun g0 r g => xR_40 r g0 ∧ g = g0) (1000, ([(3, 3), ((-2147483648), (-1)), (0, 0), ((-2147483648), 2147483647), (0, 2147483647), ((-2147483648), 2147483647), (1, 1), ((-2147483648), 2147483647), (0, 100), (0, 1), ((-2147483648), 2147483647), (0, 100), (0, 1), ((-2147483648), 2147483647), (0, 100), (1, 1), ((-2147483648), 2147483647), (0, 100), ((-2147483648), 0)], []), [([], (-3)), ([(18, 1)], 0)], [], []) := by
  intro g0 r gi g hok hh hars hfr hG
  have b0 : 3 ≤ r 0 ∧ r 0 ≤ 3 := hok.1 0 (3, 3) rfl
  have b1 : (-2147483648) ≤ r 1 ∧ r 1 ≤ (-1) := hok.1 1 ((-2147483648), (-1)) rfl
  have b2 : 0 ≤ r 2 ∧ r 2 ≤ 0 := hok.1 2 (0, 0) rfl
  have b3 : (-2147483648) ≤ r 3 ∧ r 3 ≤ 2147483647 := hok.1 3 ((-2147483648), 2147483647) rfl
  have b4 : 0 ≤ r 4 ∧ r 4 ≤ 2147483647 := hok.1 4 (0, 2147483647) rfl
  have b5 : (-2147483648) ≤ r 5 ∧ r 5 ≤ 2147483647 := hok.1 5 ((-2147483648), 2147483647) rfl
  have b6 : 1 ≤ r 6 ∧ r 6 ≤ 1 := hok.1 6 (1, 1) rfl
  have b7 : (-2147483648) ≤ r 7 ∧ r 7 ≤ 2147483647 := hok.1 7 ((-2147483648), 2147483647) rfl
  have b8 : 0 ≤ r 8 ∧ r 8 ≤ 100 := hok.1 8 (0, 100) rfl
  have b9 : 0 ≤ r 9 ∧ r 9 ≤ 1 := hok.1 9 (0, 1) rfl
  have b10 : (-2147483648) ≤ r 10 ∧ r 10 ≤ 2147483647 := hok.1 10 ((-2147483648), 2147483647) rfl
  have b11 : 0 ≤ r 11 ∧ r 11 ≤ 100 := hok.1 11 (0, 100) rfl
  have b12 : 0 ≤ r 12 ∧ r 12 ≤ 1 := hok.1 12 (0, 1) rfl
  have b13 : (-2147483648) ≤ r 13 ∧ r 13 ≤ 2147483647 := hok.1 13 ((-2147483648), 2147483647) rfl
  have b14 : 0 ≤ r 14 ∧ r 14 ≤ 100 := hok.1 14 (0, 100) rfl
  have b15 : 1 ≤ r 15 ∧ r 15 ≤ 1 := hok.1 15 (1, 1) rfl
  have b16 : (-2147483648) ≤ r 16 ∧ r 16 ≤ 2147483647 := hok.1 16 ((-2147483648), 2147483647) rfl
  have b17 : 0 ≤ r 17 ∧ r 17 ≤ 100 := hok.1 17 (0, 100) rfl
  have b18 : (-2147483648) ≤ r 18 ∧ r 18 ≤ 0 := hok.1 18 ((-2147483648), 0) rfl
  obtain ⟨hG, hgi⟩ := hG
  have hG : True := hG
  have hh : g = gi := hh
  subst hh
  refine yt_dalt (by decide) (by decide) ?_
  rw [show xk_40.2.1.2.1.1.length = 18 from rfl]
  show ((0 : Int) + (-3)) = yq_cr ((1 * r 0 + 0) + 0) ((1 * r 1 + 0) + 0) ((1 * r 2 + 0) + 0) ((1 * r 3 + 0) + 0) ((1 * r 4 + 0) + 0) (yq_at ((1 * r 0 + 0) + 0) ((1 * ((1 * r 6 + 0) + 0) + 0) + 0) ((1 * ((1 * r 9 + 0) + 0) + 0) + 0) ((1 * ((1 * r 12 + 0) + 0) + 0) + 0) ((1 * ((1 * r 15 + 0) + 0) + 0) + 0)) (yq_at ((1 * r 2 + 0) + 0) ((1 * ((1 * r 6 + 0) + 0) + 0) + 0) ((1 * ((1 * r 9 + 0) + 0) + 0) + 0) ((1 * ((1 * r 12 + 0) + 0) + 0) + 0) ((1 * ((1 * r 15 + 0) + 0) + 0) + 0)) (yq_at ((1 * r 0 + 0) + 0) ((1 * ((1 * r 8 + 0) + 0) + 0) + 0) ((1 * ((1 * r 11 + 0) + 0) + 0) + 0) ((1 * ((1 * r 14 + 0) + 0) + 0) + 0) ((1 * ((1 * r 17 + 0) + 0) + 0) + 0)) (yq_at ((1 * r 2 + 0) + 0) ((1 * ((1 * r 8 + 0) + 0) + 0) + 0) ((1 * ((1 * r 11 + 0) + 0) + 0) + 0) ((1 * ((1 * r 14 + 0) + 0) + 0) + 0) ((1 * ((1 * r 17 + 0) + 0) + 0) + 0)) ∧ (g 3) = yq_xc ((1 * r 0 + 0) + 0) ((1 * r 1 + 0) + 0) ((1 * r 2 + 0) + 0) ((1 * r 3 + 0) + 0) ((1 * r 4 + 0) + 0) 0 (yq_at ((1 * r 0 + 0) + 0) ((1 * ((1 * r 6 + 0) + 0) + 0) + 0) ((1 * ((1 * r 9 + 0) + 0) + 0) + 0) ((1 * ((1 * r 12 + 0) + 0) + 0) + 0) ((1 * ((1 * r 15 + 0) + 0) + 0) + 0)) ((1 * ((1 * r 6 + 0) + 0) + 0) + 0) (yq_at ((1 * r 0 + 0) + 0) ((1 * ((1 * r 8 + 0) + 0) + 0) + 0) ((1 * ((1 * r 11 + 0) + 0) + 0) + 0) ((1 * ((1 * r 14 + 0) + 0) + 0) + 0) ((1 * ((1 * r 17 + 0) + 0) + 0) + 0)) ((1 * ((1 * r 8 + 0) + 0) + 0) + 0) ((1 * ((1 * r 7 + 0) + 0) + 0) + 0) (yq_fat ((1 * r 0 + 0) + 0) (g0 3) (g0 5) (g0 7) (g0 9)) (g0 3) ∧ (g 5) = yq_xc ((1 * r 0 + 0) + 0) ((1 * r 1 + 0) + 0) ((1 * r 2 + 0) + 0) ((1 * r 3 + 0) + 0) ((1 * r 4 + 0) + 0) 1 (yq_at ((1 * r 0 + 0) + 0) ((1 * ((1 * r 6 + 0) + 0) + 0) + 0) ((1 * ((1 * r 9 + 0) + 0) + 0) + 0) ((1 * ((1 * r 12 + 0) + 0) + 0) + 0) ((1 * ((1 * r 15 + 0) + 0) + 0) + 0)) ((1 * ((1 * r 9 + 0) + 0) + 0) + 0) (yq_at ((1 * r 0 + 0) + 0) ((1 * ((1 * r 8 + 0) + 0) + 0) + 0) ((1 * ((1 * r 11 + 0) + 0) + 0) + 0) ((1 * ((1 * r 14 + 0) + 0) + 0) + 0) ((1 * ((1 * r 17 + 0) + 0) + 0) + 0)) ((1 * ((1 * r 11 + 0) + 0) + 0) + 0) ((1 * ((1 * r 10 + 0) + 0) + 0) + 0) (yq_fat ((1 * r 0 + 0) + 0) (g0 3) (g0 5) (g0 7) (g0 9)) (g0 5) ∧ (g 7) = yq_xc ((1 * r 0 + 0) + 0) ((1 * r 1 + 0) + 0) ((1 * r 2 + 0) + 0) ((1 * r 3 + 0) + 0) ((1 * r 4 + 0) + 0) 2 (yq_at ((1 * r 0 + 0) + 0) ((1 * ((1 * r 6 + 0) + 0) + 0) + 0) ((1 * ((1 * r 9 + 0) + 0) + 0) + 0) ((1 * ((1 * r 12 + 0) + 0) + 0) + 0) ((1 * ((1 * r 15 + 0) + 0) + 0) + 0)) ((1 * ((1 * r 12 + 0) + 0) + 0) + 0) (yq_at ((1 * r 0 + 0) + 0) ((1 * ((1 * r 8 + 0) + 0) + 0) + 0) ((1 * ((1 * r 11 + 0) + 0) + 0) + 0) ((1 * ((1 * r 14 + 0) + 0) + 0) + 0) ((1 * ((1 * r 17 + 0) + 0) + 0) + 0)) ((1 * ((1 * r 14 + 0) + 0) + 0) + 0) ((1 * ((1 * r 13 + 0) + 0) + 0) + 0) (yq_fat ((1 * r 0 + 0) + 0) (g0 3) (g0 5) (g0 7) (g0 9)) (g0 7) ∧ (g 9) = yq_xc ((1 * r 0 + 0) + 0) ((1 * r 1 + 0) + 0) ((1 * r 2 + 0) + 0) ((1 * r 3 + 0) + 0) ((1 * r 4 + 0) + 0) 3 (yq_at ((1 * r 0 + 0) + 0) ((1 * ((1 * r 6 + 0) + 0) + 0) + 0) ((1 * ((1 * r 9 + 0) + 0) + 0) + 0) ((1 * ((1 * r 12 + 0) + 0) + 0) + 0) ((1 * ((1 * r 15 + 0) + 0) + 0) + 0)) ((1 * ((1 * r 15 + 0) + 0) + 0) + 0) (yq_at ((1 * r 0 + 0) + 0) ((1 * ((1 * r 8 + 0) + 0) + 0) + 0) ((1 * ((1 * r 11 + 0) + 0) + 0) + 0) ((1 * ((1 * r 14 + 0) + 0) + 0) + 0) ((1 * ((1 * r 17 + 0) + 0) + 0) + 0)) ((1 * ((1 * r 17 + 0) + 0) + 0) + 0) ((1 * ((1 * r 16 + 0) + 0) + 0) + 0) (yq_fat ((1 * r 0 + 0) + 0) (g0 3) (g0 5) (g0 7) (g0 9)) (g0 9)
  try simp only [Int.one_mul, Int.zero_add, Int.add_zero]
  refine ⟨?_, ?_, ?_, ?_, ?_⟩
  · rw [show r 0 = 3 by omega]
    rw [show r 2 = 0 by omega]
    simp only [yq_at0, yq_at3]
    unfold yq_cr
    repeat' split
    all_goals omega
  · rw [show r 0 = 3 by omega]
    simp only [yq_at3, yq_fat3]
    unfold yq_xc
    rw [if_neg (by omega)]
    rw [hgi]
  · rw [show r 0 = 3 by omega]
    simp only [yq_at3, yq_fat3]
    unfold yq_xc
    rw [if_neg (by omega)]
    rw [hgi]
  · rw [show r 0 = 3 by omega]
    simp only [yq_at3, yq_fat3]
    unfold yq_xc
    rw [if_neg (by omega)]
    rw [hgi]
  · rw [show r 0 = 3 by omega]
    simp only [yq_at3, yq_fat3]
    unfold yq_xc
    rw [if_neg (by omega)]
    rw [hgi]
theorem xw_40_0_78 : yt_hold xT_40 xk_40 xq_40.2.2.1 xG_40 xP_40 xU_40 18 xk_40.2.1.2.2.2 (fun g0 r g => xR_40 r g0 ∧ g = g0) (1000, ([(3, 3), (0, 2147483647), (0, 0), ((-2147483648), 2147483647), (0, 2147483647), ((-2147483648), 2147483647), (1, 1), ((-2147483648), 2147483647), (0, 100), (0, 1), ((-2147483648), 2147483647), (0, 100), (0, 1), ((-2147483648), 2147483647), (0, 100), (1, 1), ((-2147483648), 2147483647), (0, 100), ((-2147483648), 0)], [([(1, 1), (17, (-1)), (4, 1)], (-1))]), [([], (-3)), ([(18, 1)], 0)], [], []) := by
  intro g0 r gi g hok hh hars hfr hG
  have b0 : 3 ≤ r 0 ∧ r 0 ≤ 3 := hok.1 0 (3, 3) rfl
  have b1 : 0 ≤ r 1 ∧ r 1 ≤ 2147483647 := hok.1 1 (0, 2147483647) rfl
  have b2 : 0 ≤ r 2 ∧ r 2 ≤ 0 := hok.1 2 (0, 0) rfl
  have b3 : (-2147483648) ≤ r 3 ∧ r 3 ≤ 2147483647 := hok.1 3 ((-2147483648), 2147483647) rfl
  have b4 : 0 ≤ r 4 ∧ r 4 ≤ 2147483647 := hok.1 4 (0, 2147483647) rfl
  have b5 : (-2147483648) ≤ r 5 ∧ r 5 ≤ 2147483647 := hok.1 5 ((-2147483648), 2147483647) rfl
  have b6 : 1 ≤ r 6 ∧ r 6 ≤ 1 := hok.1 6 (1, 1) rfl
  have b7 : (-2147483648) ≤ r 7 ∧ r 7 ≤ 2147483647 := hok.1 7 ((-2147483648), 2147483647) rfl
  have b8 : 0 ≤ r 8 ∧ r 8 ≤ 100 := hok.1 8 (0, 100) rfl
  have b9 : 0 ≤ r 9 ∧ r 9 ≤ 1 := hok.1 9 (0, 1) rfl
  have b10 : (-2147483648) ≤ r 10 ∧ r 10 ≤ 2147483647 := hok.1 10 ((-2147483648), 2147483647) rfl
  have b11 : 0 ≤ r 11 ∧ r 11 ≤ 100 := hok.1 11 (0, 100) rfl
  have b12 : 0 ≤ r 12 ∧ r 12 ≤ 1 := hok.1 12 (0, 1) rfl
  have b13 : (-2147483648) ≤ r 13 ∧ r 13 ≤ 2147483647 := hok.1 13 ((-2147483648), 2147483647) rfl
  have b14 : 0 ≤ r 14 ∧ r 14 ≤ 100 := hok.1 14 (0, 100) rfl
  have b15 : 1 ≤ r 15 ∧ r 15 ≤ 1 := hok.1 15 (1, 1) rfl
  have b16 : (-2147483648) ≤ r 16 ∧ r 16 ≤ 2147483647 := hok.1 16 ((-2147483648), 2147483647) rfl
  have b17 : 0 ≤ r 17 ∧ r 17 ≤ 100 := hok.1 17 (0, 100) rfl
  have b18 : (-2147483648) ≤ r 18 ∧ r 18 ≤ 0 := hok.1 18 ((-2147483648), 0) rfl
  have f0 : 0 ≤ ((1 * r 1 + ((-1) * r 17 + (1 * r 4 + 0))) + (-1)) := hok.2 _ (List.mem_of_getElem? (i := 0) rfl)
  obtain ⟨hG, hgi⟩ := hG
  have hG : True := hG
  have hh : g = gi := hh
  subst hh
  refine yt_dalt (by decide) (by decide) ?_
  rw [show xk_40.2.1.2.1.1.length = 18 from rfl]
  show ((0 : Int) + (-3)) = yq_cr ((1 * r 0 + 0) + 0) ((1 * r 1 + 0) + 0) ((1 * r 2 + 0) + 0) ((1 * r 3 + 0) + 0) ((1 * r 4 + 0) + 0) (yq_at ((1 * r 0 + 0) + 0) ((1 * ((1 * r 6 + 0) + 0) + 0) + 0) ((1 * ((1 * r 9 + 0) + 0) + 0) + 0) ((1 * ((1 * r 12 + 0) + 0) + 0) + 0) ((1 * ((1 * r 15 + 0) + 0) + 0) + 0)) (yq_at ((1 * r 2 + 0) + 0) ((1 * ((1 * r 6 + 0) + 0) + 0) + 0) ((1 * ((1 * r 9 + 0) + 0) + 0) + 0) ((1 * ((1 * r 12 + 0) + 0) + 0) + 0) ((1 * ((1 * r 15 + 0) + 0) + 0) + 0)) (yq_at ((1 * r 0 + 0) + 0) ((1 * ((1 * r 8 + 0) + 0) + 0) + 0) ((1 * ((1 * r 11 + 0) + 0) + 0) + 0) ((1 * ((1 * r 14 + 0) + 0) + 0) + 0) ((1 * ((1 * r 17 + 0) + 0) + 0) + 0)) (yq_at ((1 * r 2 + 0) + 0) ((1 * ((1 * r 8 + 0) + 0) + 0) + 0) ((1 * ((1 * r 11 + 0) + 0) + 0) + 0) ((1 * ((1 * r 14 + 0) + 0) + 0) + 0) ((1 * ((1 * r 17 + 0) + 0) + 0) + 0)) ∧ (g 3) = yq_xc ((1 * r 0 + 0) + 0) ((1 * r 1 + 0) + 0) ((1 * r 2 + 0) + 0) ((1 * r 3 + 0) + 0) ((1 * r 4 + 0) + 0) 0 (yq_at ((1 * r 0 + 0) + 0) ((1 * ((1 * r 6 + 0) + 0) + 0) + 0) ((1 * ((1 * r 9 + 0) + 0) + 0) + 0) ((1 * ((1 * r 12 + 0) + 0) + 0) + 0) ((1 * ((1 * r 15 + 0) + 0) + 0) + 0)) ((1 * ((1 * r 6 + 0) + 0) + 0) + 0) (yq_at ((1 * r 0 + 0) + 0) ((1 * ((1 * r 8 + 0) + 0) + 0) + 0) ((1 * ((1 * r 11 + 0) + 0) + 0) + 0) ((1 * ((1 * r 14 + 0) + 0) + 0) + 0) ((1 * ((1 * r 17 + 0) + 0) + 0) + 0)) ((1 * ((1 * r 8 + 0) + 0) + 0) + 0) ((1 * ((1 * r 7 + 0) + 0) + 0) + 0) (yq_fat ((1 * r 0 + 0) + 0) (g0 3) (g0 5) (g0 7) (g0 9)) (g0 3) ∧ (g 5) = yq_xc ((1 * r 0 + 0) + 0) ((1 * r 1 + 0) + 0) ((1 * r 2 + 0) + 0) ((1 * r 3 + 0) + 0) ((1 * r 4 + 0) + 0) 1 (yq_at ((1 * r 0 + 0) + 0) ((1 * ((1 * r 6 + 0) + 0) + 0) + 0) ((1 * ((1 * r 9 + 0) + 0) + 0) + 0) ((1 * ((1 * r 12 + 0) + 0) + 0) + 0) ((1 * ((1 * r 15 + 0) + 0) + 0) + 0)) ((1 * ((1 * r 9 + 0) + 0) + 0) + 0) (yq_at ((1 * r 0 + 0) + 0) ((1 * ((1 * r 8 + 0) + 0) + 0) + 0) ((1 * ((1 * r 11 + 0) + 0) + 0) + 0) ((1 * ((1 * r 14 + 0) + 0) + 0) + 0) ((1 * ((1 * r 17 + 0) + 0) + 0) + 0)) ((1 * ((1 * r 11 + 0) + 0) + 0) + 0) ((1 * ((1 * r 10 + 0) + 0) + 0) + 0) (yq_fat ((1 * r 0 + 0) + 0) (g0 3) (g0 5) (g0 7) (g0 9)) (g0 5) ∧ (g 7) = yq_xc ((1 * r 0 + 0) + 0) ((1 * r 1 + 0) + 0) ((1 * r 2 + 0) + 0) ((1 * r 3 + 0) + 0) ((1 * r 4 + 0) + 0) 2 (yq_at ((1 * r 0 + 0) + 0) ((1 * ((1 * r 6 + 0) + 0) + 0) + 0) ((1 * ((1 * r 9 + 0) + 0) + 0) + 0) ((1 * ((1 * r 12 + 0) + 0) + 0) + 0) ((1 * ((1 * r 15 + 0) + 0) + 0) + 0)) ((1 * ((1 * r 12 + 0) + 0) + 0) + 0) (yq_at ((1 * r 0 + 0) + 0) ((1 * ((1 * r 8 + 0) + 0) + 0) + 0) ((1 * ((1 * r 11 + 0) + 0) + 0) + 0) ((1 * ((1 * r 14 + 0) + 0) + 0) + 0) ((1 * ((1 * r 17 + 0) + 0) + 0) + 0)) ((1 * ((1 * r 14 + 0) + 0) + 0) + 0) ((1 * ((1 * r 13 + 0) + 0) + 0) + 0) (yq_fat ((1 * r 0 + 0) + 0) (g0 3) (g0 5) (g0 7) (g0 9)) (g0 7) ∧ (g 9) = yq_xc ((1 * r 0 + 0) + 0) ((1 * r 1 + 0) + 0) ((1 * r 2 + 0) + 0) ((1 * r 3 + 0) + 0) ((1 * r 4 + 0) + 0) 3 (yq_at ((1 * r 0 + 0) + 0) ((1 * ((1 * r 6 + 0) + 0) + 0) + 0) ((1 * ((1 * r 9 + 0) + 0) + 0) + 0) ((1 * ((1 * r 12 + 0) + 0) + 0) + 0) ((1 * ((1 * r 15 + 0) + 0) + 0) + 0)) ((1 * ((1 * r 15 + 0) + 0) + 0) + 0) (yq_at ((1 * r 0 + 0) + 0) ((1 * ((1 * r 8 + 0) + 0) + 0) + 0) ((1 * ((1 * r 11 + 0) + 0) + 0) + 0) ((1 * ((1 * r 14 + 0) + 0) + 0) + 0) ((1 * ((1 * r 17 + 0) + 0) + 0) + 0)) ((1 * ((1 * r 17 + 0) + 0) + 0) + 0) ((1 * ((1 * r 16 + 0) + 0) + 0) + 0) (yq_fat ((1 * r 0 + 0) + 0) (g0 3) (g0 5) (g0 7) (g0 9)) (g0 9)
  try simp only [Int.one_mul, Int.zero_add, Int.add_zero]
  refine ⟨?_, ?_, ?_, ?_, ?_⟩
  · rw [show r 0 = 3 by omega]
    rw [show r 2 = 0 by omega]
    simp only [yq_at0, yq_at3]
    unfold yq_cr
    repeat' split
    all_goals omega
  · rw [show r 0 = 3 by omega]
    simp only [yq_at3, yq_fat3]
    unfold yq_xc
    rw [if_neg (by omega)]
    rw [hgi]
  · rw [show r 0 = 3 by omega]
    simp only [yq_at3, yq_fat3]
    unfold yq_xc
    rw [if_neg (by omega)]
    rw [hgi]
  · rw [show r 0 = 3 by omega]
    simp only [yq_at3, yq_fat3]
    unfold yq_xc
    rw [if_neg (by omega)]
    rw [hgi]
  · rw [show r 0 = 3 by omega]
    simp only [yq_at3, yq_fat3]
    unfold yq_xc
    rw [if_neg (by omega)]
    rw [hgi]
theorem xw_40_0_79 : yt_hold xT_40 xk_40 xq_40.2.2.1 xG_40 xP_40 xU_40 18 xk_40.2.1.2.2.2 (fun g0 r g => xR_40 r g0 ∧ g = g0) (1000, ([(3, 3), (0, 100), (0, 0), ((-2147483648), (-1)), (0, 100), ((-2147483648), 2147483647), (1, 1), ((-2147483648), 2147483647), (0, 100), (0, 1), ((-2147483648), 2147483647), (0, 100), (0, 1), ((-2147483648), 2147483647), (0, 100), (1, 1), ((-2147483648), 2147483647), (0, 100), ((-2147483648), 0)], [([(1, (-1)), (17, 1), (4, (-1))], 0)]), [([], (-3)), ([(18, 1)], 0)], [], []) := by
  intro g0 r gi g hok hh hars hfr hG
  have b0 : 3 ≤ r 0 ∧ r 0 ≤ 3 := hok.1 0 (3, 3) rfl
  have b1 : 0 ≤ r 1 ∧ r 1 ≤ 100 := hok.1 1 (0, 100) rfl
  have b2 : 0 ≤ r 2 ∧ r 2 ≤ 0 := hok.1 2 (0, 0) rfl
  have b3 : (-2147483648) ≤ r 3 ∧ r 3 ≤ (-1) := hok.1 3 ((-2147483648), (-1)) rfl
  have b4 : 0 ≤ r 4 ∧ r 4 ≤ 100 := hok.1 4 (0, 100) rfl
  have b5 : (-2147483648) ≤ r 5 ∧ r 5 ≤ 2147483647 := hok.1 5 ((-2147483648), 2147483647) rfl
  have b6 : 1 ≤ r 6 ∧ r 6 ≤ 1 := hok.1 6 (1, 1) rfl
  have b7 : (-2147483648) ≤ r 7 ∧ r 7 ≤ 2147483647 := hok.1 7 ((-2147483648), 2147483647) rfl
  have b8 : 0 ≤ r 8 ∧ r 8 ≤ 100 := hok.1 8 (0, 100) rfl
  have b9 : 0 ≤ r 9 ∧ r 9 ≤ 1 := hok.1 9 (0, 1) rfl
  have b10 : (-2147483648) ≤ r 10 ∧ r 10 ≤ 2147483647 := hok.1 10 ((-2147483648), 2147483647) rfl
  have b11 : 0 ≤ r 11 ∧ r 11 ≤ 100 := hok.1 11 (0, 100) rfl
  have b12 : 0 ≤ r 12 ∧ r 12 ≤ 1 := hok.1 12 (0, 1) rfl
  have b13 : (-2147483648) ≤ r 13 ∧ r 13 ≤ 2147483647 := hok.1 13 ((-2147483648), 2147483647) rfl
  have b14 : 0 ≤ r 14 ∧ r 14 ≤ 100 := hok.1 14 (0, 100) rfl
  have b15 : 1 ≤ r 15 ∧ r 15 ≤ 1 := hok.1 15 (1, 1) rfl
  have b16 : (-2147483648) ≤ r 16 ∧ r 16 ≤ 2147483647 := hok.1 16 ((-2147483648), 2147483647) rfl
  have b17 : 0 ≤ r 17 ∧ r 17 ≤ 100 := hok.1 17 (0, 100) rfl
  have b18 : (-2147483648) ≤ r 18 ∧ r 18 ≤ 0 := hok.1 18 ((-2147483648), 0) rfl
  have f0 : 0 ≤ (((-1) * r 1 + (1 * r 17 + ((-1) * r 4 + 0))) + 0) := hok.2 _ (List.mem_of_getElem? (i := 0) rfl)
  obtain ⟨hG, hgi⟩ := hG
  have hG : True := hG
  have hh : g = gi := hh
  subst hh
  refine yt_dalt (by decide) (by decide) ?_
  rw [show xk_40.2.1.2.1.1.length = 18 from rfl]
  show ((0 : Int) + (-3)) = yq_cr ((1 * r 0 + 0) + 0) ((1 * r 1 + 0) + 0) ((1 * r 2 + 0) + 0) ((1 * r 3 + 0) + 0) ((1 * r 4 + 0) + 0) (yq_at ((1 * r 0 + 0) + 0) ((1 * ((1 * r 6 + 0) + 0) + 0) + 0) ((1 * ((1 * r 9 + 0) + 0) + 0) + 0) ((1 * ((1 * r 12 + 0) + 0) + 0) + 0) ((1 * ((1 * r 15 + 0) + 0) + 0) + 0)) (yq_at ((1 * r 2 + 0) + 0) ((1 * ((1 * r 6 + 0) + 0) + 0) + 0) ((1 * ((1 * r 9 + 0) + 0) + 0) + 0) ((1 * ((1 * r 12 + 0) + 0) + 0) + 0) ((1 * ((1 * r 15 + 0) + 0) + 0) + 0)) (yq_at ((1 * r 0 + 0) + 0) ((1 * ((1 * r 8 + 0) + 0) + 0) + 0) ((1 * ((1 * r 11 + 0) + 0) + 0) + 0) ((1 * ((1 * r 14 + 0) + 0) + 0) + 0) ((1 * ((1 * r 17 + 0) + 0) + 0) + 0)) (yq_at ((1 * r 2 + 0) + 0) ((1 * ((1 * r 8 + 0) + 0) + 0) + 0) ((1 * ((1 * r 11 + 0) + 0) + 0) + 0) ((1 * ((1 * r 14 + 0) + 0) + 0) + 0) ((1 * ((1 * r 17 + 0) + 0) + 0) + 0)) ∧ (g 3) = yq_xc ((1 * r 0 + 0) + 0) ((1 * r 1 + 0) + 0) ((1 * r 2 + 0) + 0) ((1 * r 3 + 0) + 0) ((1 * r 4 + 0) + 0) 0 (yq_at ((1 * r 0 + 0) + 0) ((1 * ((1 * r 6 + 0) + 0) + 0) + 0) ((1 * ((1 * r 9 + 0) + 0) + 0) + 0) ((1 * ((1 * r 12 + 0) + 0) + 0) + 0) ((1 * ((1 * r 15 + 0) + 0) + 0) + 0)) ((1 * ((1 * r 6 + 0) + 0) + 0) + 0) (yq_at ((1 * r 0 + 0) + 0) ((1 * ((1 * r 8 + 0) + 0) + 0) + 0) ((1 * ((1 * r 11 + 0) + 0) + 0) + 0) ((1 * ((1 * r 14 + 0) + 0) + 0) + 0) ((1 * ((1 * r 17 + 0) + 0) + 0) + 0)) ((1 * ((1 * r 8 + 0) + 0) + 0) + 0) ((1 * ((1 * r 7 + 0) + 0) + 0) + 0) (yq_fat ((1 * r 0 + 0) + 0) (g0 3) (g0 5) (g0 7) (g0 9)) (g0 3) ∧ (g 5) = yq_xc ((1 * r 0 + 0) + 0) ((1 * r 1 + 0) + 0) ((1 * r 2 + 0) + 0) ((1 * r 3 + 0) + 0) ((1 * r 4 + 0) + 0) 1 (yq_at ((1 * r 0 + 0) + 0) ((1 * ((1 * r 6 + 0) + 0) + 0) + 0) ((1 * ((1 * r 9 + 0) + 0) + 0) + 0) ((1 * ((1 * r 12 + 0) + 0) + 0) + 0) ((1 * ((1 * r 15 + 0) + 0) + 0) + 0)) ((1 * ((1 * r 9 + 0) + 0) + 0) + 0) (yq_at ((1 * r 0 + 0) + 0) ((1 * ((1 * r 8 + 0) + 0) + 0) + 0) ((1 * ((1 * r 11 + 0) + 0) + 0) + 0) ((1 * ((1 * r 14 + 0) + 0) + 0) + 0) ((1 * ((1 * r 17 + 0) + 0) + 0) + 0)) ((1 * ((1 * r 11 + 0) + 0) + 0) + 0) ((1 * ((1 * r 10 + 0) + 0) + 0) + 0) (yq_fat ((1 * r 0 + 0) + 0) (g0 3) (g0 5) (g0 7) (g0 9)) (g0 5) ∧ (g 7) = yq_xc ((1 * r 0 + 0) + 0) ((1 * r 1 + 0) + 0) ((1 * r 2 + 0) + 0) ((1 * r 3 + 0) + 0) ((1 * r 4 + 0) + 0) 2 (yq_at ((1 * r 0 + 0) + 0) ((1 * ((1 * r 6 + 0) + 0) + 0) + 0) ((1 * ((1 * r 9 + 0) + 0) + 0) + 0) ((1 * ((1 * r 12 + 0) + 0) + 0) + 0) ((1 * ((1 * r 15 + 0) + 0) + 0) + 0)) ((1 * ((1 * r 12 + 0) + 0) + 0) + 0) (yq_at ((1 * r 0 + 0) + 0) ((1 * ((1 * r 8 + 0) + 0) + 0) + 0) ((1 * ((1 * r 11 + 0) + 0) + 0) + 0) ((1 * ((1 * r 14 + 0) + 0) + 0) + 0) ((1 * ((1 * r 17 + 0) + 0) + 0) + 0)) ((1 * ((1 * r 14 + 0) + 0) + 0) + 0) ((1 * ((1 * r 13 + 0) + 0) + 0) + 0) (yq_fat ((1 * r 0 + 0) + 0) (g0 3) (g0 5) (g0 7) (g0 9)) (g0 7) ∧ (g 9) = yq_xc ((1 * r 0 + 0) + 0) ((1 * r 1 + 0) + 0) ((1 * r 2 + 0) + 0) ((1 * r 3 + 0) + 0) ((1 * r 4 + 0) + 0) 3 (yq_at ((1 * r 0 + 0) + 0) ((1 * ((1 * r 6 + 0) + 0) + 0) + 0) ((1 * ((1 * r 9 + 0) + 0) + 0) + 0) ((1 * ((1 * r 12 + 0) + 0) + 0) + 0) ((1 * ((1 * r 15 + 0) + 0) + 0) + 0)) ((1 * ((1 * r 15 + 0) + 0) + 0) + 0) (yq_at ((1 * r 0 + 0) + 0) ((1 * ((1 * r 8 + 0) + 0) + 0) + 0) ((1 * ((1 * r 11 + 0) + 0) + 0) + 0) ((1 * ((1 * r 14 + 0) + 0) + 0) + 0) ((1 * ((1 * r 17 + 0) + 0) + 0) + 0)) ((1 * ((1 * r 17 + 0) + 0) + 0) + 0) ((1 * ((1 * r 16 + 0) + 0) + 0) + 0) (yq_fat ((1 * r 0 + 0) + 0) (g0 3) (g0 5) (g0 7) (g0 9)) (g0 9)
  try simp only [Int.one_mul, Int.zero_add, Int.add_zero]
  refine ⟨?_, ?_, ?_, ?_, ?_⟩
  · rw [show r 0 = 3 by omega]
    rw [show r 2 = 0 by omega]
    simp only [yq_at0, yq_at3]
    unfold yq_cr
    repeat' split
    all_goals omega
  · rw [show r 0 = 3 by omega]
    simp only [yq_at3, yq_fat3]
    unfold yq_xc
    rw [if_neg (by omega)]
    rw [hgi]
  · rw [show r 0 = 3 by omega]
    simp only [yq_at3, yq_fat3]
    unfold yq_xc
    rw [if_neg (by omega)]
    rw [hgi]
  · rw [show r 0 = 3 by omega]
    simp only [yq_at3, yq_fat3]
    unfold yq_xc
    rw [if_neg (by omega)]
    rw [hgi]
  · rw [show r 0 = 3 by omega]
    simp only [yq_at3, yq_fat3]
    unfold yq_xc
    rw [if_neg (by omega)]
    rw [hgi]
theorem xw_40_0_80 : yt_hold xT_40 xk_40 xq_40.2.2.1 xG_40 xP_40 xU_40 18 xk_40.2.1.2.2.2 (fun g0 r g => xR_40 r g0 ∧ g = g0) (1000, ([(3, 3), (0, 100), (0, 0), (0, 2147483647), (0, 100), ((-2147483648), 2147483647), (1, 1), ((-2147483648), 2147483647), (0, 100), (0, 1), ((-2147483648), 2147483647), (0, 100), (0, 1), ((-2147483648), 2147483647), (0, 100), (1, 1), ((-2147483648), 2147483647), (0, 100), ((-2147483648), 0)], [([(3, 1), (8, (-1)), (4, 1)], (-1)), ([(1, (-1)), (17, 1), (4, (-1))], 0)]), [([], (-3)), ([(18, 1)], 0)], [], []) := by
  intro g0 r gi g hok hh hars hfr hG
  have b0 : 3 ≤ r 0 ∧ r 0 ≤ 3 := hok.1 0 (3, 3) rfl
  have b1 : 0 ≤ r 1 ∧ r 1 ≤ 100 := hok.1 1 (0, 100) rfl
  have b2 : 0 ≤ r 2 ∧ r 2 ≤ 0 := hok.1 2 (0, 0) rfl
  have b3 : 0 ≤ r 3 ∧ r 3 ≤ 2147483647 := hok.1 3 (0, 2147483647) rfl
  have b4 : 0 ≤ r 4 ∧ r 4 ≤ 100 := hok.1 4 (0, 100) rfl
  have b5 : (-2147483648) ≤ r 5 ∧ r 5 ≤ 2147483647 := hok.1 5 ((-2147483648), 2147483647) rfl
  have b6 : 1 ≤ r 6 ∧ r 6 ≤ 1 := hok.1 6 (1, 1) rfl
  have b7 : (-2147483648) ≤ r 7 ∧ r 7 ≤ 2147483647 := hok.1 7 ((-2147483648), 2147483647) rfl
  have b8 : 0 ≤ r 8 ∧ r 8 ≤ 100 := hok.1 8 (0, 100) rfl
  have b9 : 0 ≤ r 9 ∧ r 9 ≤ 1 := hok.1 9 (0, 1) rfl
  have b10 : (-2147483648) ≤ r 10 ∧ r 10 ≤ 2147483647 := hok.1 10 ((-2147483648), 2147483647) rfl
  have b11 : 0 ≤ r 11 ∧ r 11 ≤ 100 := hok.1 11 (0, 100) rfl
  have b12 : 0 ≤ r 12 ∧ r 12 ≤ 1 := hok.1 12 (0, 1) rfl
  have b13 : (-2147483648) ≤ r 13 ∧ r 13 ≤ 2147483647 := hok.1 13 ((-2147483648), 2147483647) rfl
  have b14 : 0 ≤ r 14 ∧ r 14 ≤ 100 := hok.1 14 (0, 100) rfl
  have b15 : 1 ≤ r 15 ∧ r 15 ≤ 1 := hok.1 15 (1, 1) rfl
  have b16 : (-2147483648) ≤ r 16 ∧ r 16 ≤ 2147483647 := hok.1 16 ((-2147483648), 2147483647) rfl
  have b17 : 0 ≤ r 17 ∧ r 17 ≤ 100 := hok.1 17 (0, 100) rfl
  have b18 : (-2147483648) ≤ r 18 ∧ r 18 ≤ 0 := hok.1 18 ((-2147483648), 0) rfl
  have f0 : 0 ≤ ((1 * r 3 + ((-1) * r 8 + (1 * r 4 + 0))) + (-1)) := hok.2 _ (List.mem_of_getElem? (i := 0) rfl)
  have f1 : 0 ≤ (((-1) * r 1 + (1 * r 17 + ((-1) * r 4 + 0))) + 0) := hok.2 _ (List.mem_of_getElem? (i := 1) rfl)
  obtain ⟨hG, hgi⟩ := hG
  have hG : True := hG
  have hh : g = gi := hh
  subst hh
  refine yt_dalt (by decide) (by decide) ?_
  rw [show xk_40.2.1.2.1.1.length = 18 from rfl]
  show ((0 : Int) + (-3)) = yq_cr ((1 * r 0 + 0) + 0) ((1 * r 1 + 0) + 0) ((1 * r 2 + 0) + 0) ((1 * r 3 + 0) + 0) ((1 * r 4 + 0) + 0) (yq_at ((1 * r 0 + 0) + 0) ((1 * ((1 * r 6 + 0) + 0) + 0) + 0) ((1 * ((1 * r 9 + 0) + 0) + 0) + 0) ((1 * ((1 * r 12 + 0) + 0) + 0) + 0) ((1 * ((1 * r 15 + 0) + 0) + 0) + 0)) (yq_at ((1 * r 2 + 0) + 0) ((1 * ((1 * r 6 + 0) + 0) + 0) + 0) ((1 * ((1 * r 9 + 0) + 0) + 0) + 0) ((1 * ((1 * r 12 + 0) + 0) + 0) + 0) ((1 * ((1 * r 15 + 0) + 0) + 0) + 0)) (yq_at ((1 * r 0 + 0) + 0) ((1 * ((1 * r 8 + 0) + 0) + 0) + 0) ((1 * ((1 * r 11 + 0) + 0) + 0) + 0) ((1 * ((1 * r 14 + 0) + 0) + 0) + 0) ((1 * ((1 * r 17 + 0) + 0) + 0) + 0)) (yq_at ((1 * r 2 + 0) + 0) ((1 * ((1 * r 8 + 0) + 0) + 0) + 0) ((1 * ((1 * r 11 + 0) + 0) + 0) + 0) ((1 * ((1 * r 14 + 0) + 0) + 0) + 0) ((1 * ((1 * r 17 + 0) + 0) + 0) + 0)) ∧ (g 3) = yq_xc ((1 * r 0 + 0) + 0) ((1 * r 1 + 0) + 0) ((1 * r 2 + 0) + 0) ((1 * r 3 + 0) + 0) ((1 * r 4 + 0) + 0) 0 (yq_at ((1 * r 0 + 0) + 0) ((1 * ((1 * r 6 + 0) + 0) + 0) + 0) ((1 * ((1 * r 9 + 0) + 0) + 0) + 0) ((1 * ((1 * r 12 + 0) + 0) + 0) + 0) ((1 * ((1 * r 15 + 0) + 0) + 0) + 0)) ((1 * ((1 * r 6 + 0) + 0) + 0) + 0) (yq_at ((1 * r 0 + 0) + 0) ((1 * ((1 * r 8 + 0) + 0) + 0) + 0) ((1 * ((1 * r 11 + 0) + 0) + 0) + 0) ((1 * ((1 * r 14 + 0) + 0) + 0) + 0) ((1 * ((1 * r 17 + 0) + 0) + 0) + 0)) ((1 * ((1 * r 8 + 0) + 0) + 0) + 0) ((1 * ((1 * r 7 + 0) + 0) + 0) + 0) (yq_fat ((1 * r 0 + 0) + 0) (g0 3) (g0 5) (g0 7) (g0 9)) (g0 3) ∧ (g 5) = yq_xc ((1 * r 0 + 0) + 0) ((1 * r 1 + 0) + 0) ((1 * r 2 + 0) + 0) ((1 * r 3 + 0) + 0) ((1 * r 4 + 0) + 0) 1 (yq_at ((1 * r 0 + 0) + 0) ((1 * ((1 * r 6 + 0) + 0) + 0) + 0) ((1 * ((1 * r 9 + 0) + 0) + 0) + 0) ((1 * ((1 * r 12 + 0) + 0) + 0) + 0) ((1 * ((1 * r 15 + 0) + 0) + 0) + 0)) ((1 * ((1 * r 9 + 0) + 0) + 0) + 0) (yq_at ((1 * r 0 + 0) + 0) ((1 * ((1 * r 8 + 0) + 0) + 0) + 0) ((1 * ((1 * r 11 + 0) + 0) + 0) + 0) ((1 * ((1 * r 14 + 0) + 0) + 0) + 0) ((1 * ((1 * r 17 + 0) + 0) + 0) + 0)) ((1 * ((1 * r 11 + 0) + 0) + 0) + 0) ((1 * ((1 * r 10 + 0) + 0) + 0) + 0) (yq_fat ((1 * r 0 + 0) + 0) (g0 3) (g0 5) (g0 7) (g0 9)) (g0 5) ∧ (g 7) = yq_xc ((1 * r 0 + 0) + 0) ((1 * r 1 + 0) + 0) ((1 * r 2 + 0) + 0) ((1 * r 3 + 0) + 0) ((1 * r 4 + 0) + 0) 2 (yq_at ((1 * r 0 + 0) + 0) ((1 * ((1 * r 6 + 0) + 0) + 0) + 0) ((1 * ((1 * r 9 + 0) + 0) + 0) + 0) ((1 * ((1 * r 12 + 0) + 0) + 0) + 0) ((1 * ((1 * r 15 + 0) + 0) + 0) + 0)) ((1 * ((1 * r 12 + 0) + 0) + 0) + 0) (yq_at ((1 * r 0 + 0) + 0) ((1 * ((1 * r 8 + 0) + 0) + 0) + 0) ((1 * ((1 * r 11 + 0) + 0) + 0) + 0) ((1 * ((1 * r 14 + 0) + 0) + 0) + 0) ((1 * ((1 * r 17 + 0) + 0) + 0) + 0)) ((1 * ((1 * r 14 + 0) + 0) + 0) + 0) ((1 * ((1 * r 13 + 0) + 0) + 0) + 0) (yq_fat ((1 * r 0 + 0) + 0) (g0 3) (g0 5) (g0 7) (g0 9)) (g0 7) ∧ (g 9) = yq_xc ((1 * r 0 + 0) + 0) ((1 * r 1 + 0) + 0) ((1 * r 2 + 0) + 0) ((1 * r 3 + 0) + 0) ((1 * r 4 + 0) + 0) 3 (yq_at ((1 * r 0 + 0) + 0) ((1 * ((1 * r 6 + 0) + 0) + 0) + 0) ((1 * ((1 * r 9 + 0) + 0) + 0) + 0) ((1 * ((1 * r 12 + 0) + 0) + 0) + 0) ((1 * ((1 * r 15 + 0) + 0) + 0) + 0)) ((1 * ((1 * r 15 + 0) + 0) + 0) + 0) (yq_at ((1 * r 0 + 0) + 0) ((1 * ((1 * r 8 + 0) + 0) + 0) + 0) ((1 * ((1 * r 11 + 0) + 0) + 0) + 0) ((1 * ((1 * r 14 + 0) + 0) + 0) + 0) ((1 * ((1 * r 17 + 0) + 0) + 0) + 0)) ((1 * ((1 * r 17 + 0) + 0) + 0) + 0) ((1 * ((1 * r 16 + 0) + 0) + 0) + 0) (yq_fat ((1 * r 0 + 0) + 0) (g0 3) (g0 5) (g0 7) (g0 9)) (g0 9)
  try simp only [Int.one_mul, Int.zero_add, Int.add_zero]
  refine ⟨?_, ?_, ?_, ?_, ?_⟩
  · rw [show r 0 = 3 by omega]
    rw [show r 2 = 0 by omega]
    simp only [yq_at0, yq_at3]
    unfold yq_cr
    repeat' split
    all_goals omega
  · rw [show r 0 = 3 by omega]
    simp only [yq_at3, yq_fat3]
    unfold yq_xc
    rw [if_neg (by omega)]
    rw [hgi]
  · rw [show r 0 = 3 by omega]
    simp only [yq_at3, yq_fat3]
    unfold yq_xc
    rw [if_neg (by omega)]
    rw [hgi]
  · rw [show r 0 = 3 by omega]
    simp only [yq_at3, yq_fat3]
    unfold yq_xc
    rw [if_neg (by omega)]
    rw [hgi]
  · rw [show r 0 = 3 by omega]
    simp only [yq_at3, yq_fat3]
    unfold yq_xc
    rw [if_neg (by omega)]
    rw [hgi]
theorem xw_40_0_81 : yt_hold xT_40 xk_40 xq_40.2.2.1 xG_40 xP_40 xU_40 18 xk_40.2.1.2.2.2 (fun g0 r g => xR_40 r g0 ∧ g = g0) (1000, ([(3, 3), (0, 100), (0, 0), (0, 100), (0, 100), ((-2147483648), 2147483647), (1, 1), ((-2147483648), 2147483647), (0, 100), (0, 1), ((-2147483648), 2147483647), (0, 100), (0, 1), ((-2147483648), 2147483647), (0, 100), (1, 1), ((-2147483648), 2147483647), (0, 100), ((-2147483648), 0)], [([(4, (-1)), (3, (-1))], 101), ([(3, (-1)), (8, 1), (4, (-1))], 0), ([(1, (-1)), (17, 1), (4, (-1))], 0)]), [([(4, 1)], 0), ([(18, 1)], 0)], [], [.inr (.inr (.inl (98, 0, [([(3, 1)], 0), ([(1, 1)], 0), ([(4, 1)], 0), ([(6, 1)], 0), ([(7, 1)], 0), ([(8, 1)], 0), ([(15, 1)], 0), ([(16, 1)], 0), ([(17, 1)], 0)], [2, 3, 8, 9], [3])))]) := by
  intro g0 r gi g hok hh hars hfr hG
  have b0 : 3 ≤ r 0 ∧ r 0 ≤ 3 := hok.1 0 (3, 3) rfl
  have b1 : 0 ≤ r 1 ∧ r 1 ≤ 100 := hok.1 1 (0, 100) rfl
  have b2 : 0 ≤ r 2 ∧ r 2 ≤ 0 := hok.1 2 (0, 0) rfl
  have b3 : 0 ≤ r 3 ∧ r 3 ≤ 100 := hok.1 3 (0, 100) rfl
  have b4 : 0 ≤ r 4 ∧ r 4 ≤ 100 := hok.1 4 (0, 100) rfl
  have b5 : (-2147483648) ≤ r 5 ∧ r 5 ≤ 2147483647 := hok.1 5 ((-2147483648), 2147483647) rfl
  have b6 : 1 ≤ r 6 ∧ r 6 ≤ 1 := hok.1 6 (1, 1) rfl
  have b7 : (-2147483648) ≤ r 7 ∧ r 7 ≤ 2147483647 := hok.1 7 ((-2147483648), 2147483647) rfl
  have b8 : 0 ≤ r 8 ∧ r 8 ≤ 100 := hok.1 8 (0, 100) rfl
  have b9 : 0 ≤ r 9 ∧ r 9 ≤ 1 := hok.1 9 (0, 1) rfl
  have b10 : (-2147483648) ≤ r 10 ∧ r 10 ≤ 2147483647 := hok.1 10 ((-2147483648), 2147483647) rfl
  have b11 : 0 ≤ r 11 ∧ r 11 ≤ 100 := hok.1 11 (0, 100) rfl
  have b12 : 0 ≤ r 12 ∧ r 12 ≤ 1 := hok.1 12 (0, 1) rfl
  have b13 : (-2147483648) ≤ r 13 ∧ r 13 ≤ 2147483647 := hok.1 13 ((-2147483648), 2147483647) rfl
  have b14 : 0 ≤ r 14 ∧ r 14 ≤ 100 := hok.1 14 (0, 100) rfl
  have b15 : 1 ≤ r 15 ∧ r 15 ≤ 1 := hok.1 15 (1, 1) rfl
  have b16 : (-2147483648) ≤ r 16 ∧ r 16 ≤ 2147483647 := hok.1 16 ((-2147483648), 2147483647) rfl
  have b17 : 0 ≤ r 17 ∧ r 17 ≤ 100 := hok.1 17 (0, 100) rfl
  have b18 : (-2147483648) ≤ r 18 ∧ r 18 ≤ 0 := hok.1 18 ((-2147483648), 0) rfl
  have f0 : 0 ≤ (((-1) * r 4 + ((-1) * r 3 + 0)) + 101) := hok.2 _ (List.mem_of_getElem? (i := 0) rfl)
  have f1 : 0 ≤ (((-1) * r 3 + (1 * r 8 + ((-1) * r 4 + 0))) + 0) := hok.2 _ (List.mem_of_getElem? (i := 1) rfl)
  have f2 : 0 ≤ (((-1) * r 1 + (1 * r 17 + ((-1) * r 4 + 0))) + 0) := hok.2 _ (List.mem_of_getElem? (i := 2) rfl)
  obtain ⟨hG, hgi⟩ := hG
  have hG : True := hG
  obtain ⟨h0, hh, e0, k0⟩ := hh
  have k0 : ∀ j, j ∉ [3] → g j = h0 j := k0
  have e0 : (g 3) = yq_pa ((1 * r 3 + 0) + 0) ((1 * r 1 + 0) + 0) ((1 * r 4 + 0) + 0) ((1 * r 7 + 0) + 0) (h0 9) (h0 3) := e0
  have hh : h0 = gi := hh
  subst hh
  refine yt_dalt (by decide) (by decide) ?_
  rw [show xk_40.2.1.2.1.1.length = 18 from rfl]
  show ((1 * r 4 + 0) + 0) = yq_cr ((1 * r 0 + 0) + 0) ((1 * r 1 + 0) + 0) ((1 * r 2 + 0) + 0) ((1 * r 3 + 0) + 0) ((1 * r 4 + 0) + 0) (yq_at ((1 * r 0 + 0) + 0) ((1 * ((1 * r 6 + 0) + 0) + 0) + 0) ((1 * ((1 * r 9 + 0) + 0) + 0) + 0) ((1 * ((1 * r 12 + 0) + 0) + 0) + 0) ((1 * ((1 * r 15 + 0) + 0) + 0) + 0)) (yq_at ((1 * r 2 + 0) + 0) ((1 * ((1 * r 6 + 0) + 0) + 0) + 0) ((1 * ((1 * r 9 + 0) + 0) + 0) + 0) ((1 * ((1 * r 12 + 0) + 0) + 0) + 0) ((1 * ((1 * r 15 + 0) + 0) + 0) + 0)) (yq_at ((1 * r 0 + 0) + 0) ((1 * ((1 * r 8 + 0) + 0) + 0) + 0) ((1 * ((1 * r 11 + 0) + 0) + 0) + 0) ((1 * ((1 * r 14 + 0) + 0) + 0) + 0) ((1 * ((1 * r 17 + 0) + 0) + 0) + 0)) (yq_at ((1 * r 2 + 0) + 0) ((1 * ((1 * r 8 + 0) + 0) + 0) + 0) ((1 * ((1 * r 11 + 0) + 0) + 0) + 0) ((1 * ((1 * r 14 + 0) + 0) + 0) + 0) ((1 * ((1 * r 17 + 0) + 0) + 0) + 0)) ∧ (g 3) = yq_xc ((1 * r 0 + 0) + 0) ((1 * r 1 + 0) + 0) ((1 * r 2 + 0) + 0) ((1 * r 3 + 0) + 0) ((1 * r 4 + 0) + 0) 0 (yq_at ((1 * r 0 + 0) + 0) ((1 * ((1 * r 6 + 0) + 0) + 0) + 0) ((1 * ((1 * r 9 + 0) + 0) + 0) + 0) ((1 * ((1 * r 12 + 0) + 0) + 0) + 0) ((1 * ((1 * r 15 + 0) + 0) + 0) + 0)) ((1 * ((1 * r 6 + 0) + 0) + 0) + 0) (yq_at ((1 * r 0 + 0) + 0) ((1 * ((1 * r 8 + 0) + 0) + 0) + 0) ((1 * ((1 * r 11 + 0) + 0) + 0) + 0) ((1 * ((1 * r 14 + 0) + 0) + 0) + 0) ((1 * ((1 * r 17 + 0) + 0) + 0) + 0)) ((1 * ((1 * r 8 + 0) + 0) + 0) + 0) ((1 * ((1 * r 7 + 0) + 0) + 0) + 0) (yq_fat ((1 * r 0 + 0) + 0) (g0 3) (g0 5) (g0 7) (g0 9)) (g0 3) ∧ (g 5) = yq_xc ((1 * r 0 + 0) + 0) ((1 * r 1 + 0) + 0) ((1 * r 2 + 0) + 0) ((1 * r 3 + 0) + 0) ((1 * r 4 + 0) + 0) 1 (yq_at ((1 * r 0 + 0) + 0) ((1 * ((1 * r 6 + 0) + 0) + 0) + 0) ((1 * ((1 * r 9 + 0) + 0) + 0) + 0) ((1 * ((1 * r 12 + 0) + 0) + 0) + 0) ((1 * ((1 * r 15 + 0) + 0) + 0) + 0)) ((1 * ((1 * r 9 + 0) + 0) + 0) + 0) (yq_at ((1 * r 0 + 0) + 0) ((1 * ((1 * r 8 + 0) + 0) + 0) + 0) ((1 * ((1 * r 11 + 0) + 0) + 0) + 0) ((1 * ((1 * r 14 + 0) + 0) + 0) + 0) ((1 * ((1 * r 17 + 0) + 0) + 0) + 0)) ((1 * ((1 * r 11 + 0) + 0) + 0) + 0) ((1 * ((1 * r 10 + 0) + 0) + 0) + 0) (yq_fat ((1 * r 0 + 0) + 0) (g0 3) (g0 5) (g0 7) (g0 9)) (g0 5) ∧ (g 7) = yq_xc ((1 * r 0 + 0) + 0) ((1 * r 1 + 0) + 0) ((1 * r 2 + 0) + 0) ((1 * r 3 + 0) + 0) ((1 * r 4 + 0) + 0) 2 (yq_at ((1 * r 0 + 0) + 0) ((1 * ((1 * r 6 + 0) + 0) + 0) + 0) ((1 * ((1 * r 9 + 0) + 0) + 0) + 0) ((1 * ((1 * r 12 + 0) + 0) + 0) + 0) ((1 * ((1 * r 15 + 0) + 0) + 0) + 0)) ((1 * ((1 * r 12 + 0) + 0) + 0) + 0) (yq_at ((1 * r 0 + 0) + 0) ((1 * ((1 * r 8 + 0) + 0) + 0) + 0) ((1 * ((1 * r 11 + 0) + 0) + 0) + 0) ((1 * ((1 * r 14 + 0) + 0) + 0) + 0) ((1 * ((1 * r 17 + 0) + 0) + 0) + 0)) ((1 * ((1 * r 14 + 0) + 0) + 0) + 0) ((1 * ((1 * r 13 + 0) + 0) + 0) + 0) (yq_fat ((1 * r 0 + 0) + 0) (g0 3) (g0 5) (g0 7) (g0 9)) (g0 7) ∧ (g 9) = yq_xc ((1 * r 0 + 0) + 0) ((1 * r 1 + 0) + 0) ((1 * r 2 + 0) + 0) ((1 * r 3 + 0) + 0) ((1 * r 4 + 0) + 0) 3 (yq_at ((1 * r 0 + 0) + 0) ((1 * ((1 * r 6 + 0) + 0) + 0) + 0) ((1 * ((1 * r 9 + 0) + 0) + 0) + 0) ((1 * ((1 * r 12 + 0) + 0) + 0) + 0) ((1 * ((1 * r 15 + 0) + 0) + 0) + 0)) ((1 * ((1 * r 15 + 0) + 0) + 0) + 0) (yq_at ((1 * r 0 + 0) + 0) ((1 * ((1 * r 8 + 0) + 0) + 0) + 0) ((1 * ((1 * r 11 + 0) + 0) + 0) + 0) ((1 * ((1 * r 14 + 0) + 0) + 0) + 0) ((1 * ((1 * r 17 + 0) + 0) + 0) + 0)) ((1 * ((1 * r 17 + 0) + 0) + 0) + 0) ((1 * ((1 * r 16 + 0) + 0) + 0) + 0) (yq_fat ((1 * r 0 + 0) + 0) (g0 3) (g0 5) (g0 7) (g0 9)) (g0 9)
  try simp only [Int.one_mul, Int.zero_add, Int.add_zero]
  try simp only [Int.one_mul, Int.zero_add, Int.add_zero] at e0
  refine ⟨?_, ?_, ?_, ?_, ?_⟩
  · rw [show r 0 = 3 by omega]
    rw [show r 2 = 0 by omega]
    simp only [yq_at0, yq_at3]
    unfold yq_cr
    repeat' split
    all_goals omega
  · rw [show r 0 = 3 by omega]
    simp only [yq_at3, yq_fat3]
    unfold yq_xc
    rw [if_pos (by omega), e0, hgi]
  · rw [show r 0 = 3 by omega]
    simp only [yq_at3, yq_fat3]
    unfold yq_xc
    rw [if_neg (by omega)]
    rw [k0 5 (by decide), hgi]
  · rw [show r 0 = 3 by omega]
    simp only [yq_at3, yq_fat3]
    unfold yq_xc
    rw [if_neg (by omega)]
    rw [k0 7 (by decide), hgi]
  · rw [show r 0 = 3 by omega]
    simp only [yq_at3, yq_fat3]
    unfold yq_xc
    rw [if_neg (by omega)]
    rw [k0 9 (by decide), hgi]
theorem xw_40_0_82 : yt_hold xT_40 xk_40 xq_40.2.2.1 xG_40 xP_40 xU_40 18 xk_40.2.1.2.2.2 (fun g0 r g => xR_40 r g0 ∧ g = g0) (1000, ([(3, 3), ((-2147483648), 2147483647), (0, 0), ((-2147483648), 2147483647), (0, 2147483647), ((-2147483648), 2147483647), (0, 0), ((-2147483648), 2147483647), (0, 100), (0, 1), ((-2147483648), 2147483647), (0, 100), (0, 1), ((-2147483648), 2147483647), (0, 100), (1, 1), ((-2147483648), 2147483647), (0, 100), ((-2147483648), 0)], []), [([], (-2)), ([(18, 1)], 0)], [], []) := by
  intro g0 r gi g hok hh hars hfr hG
  have b0 : 3 ≤ r 0 ∧ r 0 ≤ 3 := hok.1 0 (3, 3) rfl
  have b1 : (-2147483648) ≤ r 1 ∧ r 1 ≤ 2147483647 := hok.1 1 ((-2147483648), 2147483647) rfl
  have b2 : 0 ≤ r 2 ∧ r 2 ≤ 0 := hok.1 2 (0, 0) rfl
  have b3 : (-2147483648) ≤ r 3 ∧ r 3 ≤ 2147483647 := hok.1 3 ((-2147483648), 2147483647) rfl
  have b4 : 0 ≤ r 4 ∧ r 4 ≤ 2147483647 := hok.1 4 (0, 2147483647) rfl
  have b5 : (-2147483648) ≤ r 5 ∧ r 5 ≤ 2147483647 := hok.1 5 ((-2147483648), 2147483647) rfl
  have b6 : 0 ≤ r 6 ∧ r 6 ≤ 0 := hok.1 6 (0, 0) rfl
  have b7 : (-2147483648) ≤ r 7 ∧ r 7 ≤ 2147483647 := hok.1 7 ((-2147483648), 2147483647) rfl
  have b8 : 0 ≤ r 8 ∧ r 8 ≤ 100 := hok.1 8 (0, 100) rfl
  have b9 : 0 ≤ r 9 ∧ r 9 ≤ 1 := hok.1 9 (0, 1) rfl
  have b10 : (-2147483648) ≤ r 10 ∧ r 10 ≤ 2147483647 := hok.1 10 ((-2147483648), 2147483647) rfl
  have b11 : 0 ≤ r 11 ∧ r 11 ≤ 100 := hok.1 11 (0, 100) rfl
  have b12 : 0 ≤ r 12 ∧ r 12 ≤ 1 := hok.1 12 (0, 1) rfl
  have b13 : (-2147483648) ≤ r 13 ∧ r 13 ≤ 2147483647 := hok.1 13 ((-2147483648), 2147483647) rfl
  have b14 : 0 ≤ r 14 ∧ r 14 ≤ 100 := hok.1 14 (0, 100) rfl
  have b15 : 1 ≤ r 15 ∧ r 15 ≤ 1 := hok.1 15 (1, 1) rfl
  have b16 : (-2147483648) ≤ r 16 ∧ r 16 ≤ 2147483647 := hok.1 16 ((-2147483648), 2147483647) rfl
  have b17 : 0 ≤ r 17 ∧ r 17 ≤ 100 := hok.1 17 (0, 100) rfl
  have b18 : (-2147483648) ≤ r 18 ∧ r 18 ≤ 0 := hok.1 18 ((-2147483648), 0) rfl
  obtain ⟨hG, hgi⟩ := hG
  have hG : True := hG
  have hh : g = gi := hh
  subst hh
  refine yt_dalt (by decide) (by decide) ?_
  rw [show xk_40.2.1.2.1.1.length = 18 from rfl]
  show ((0 : Int) + (-2)) = yq_cr ((1 * r 0 + 0) + 0) ((1 * r 1 + 0) + 0) ((1 * r 2 + 0) + 0) ((1 * r 3 + 0) + 0) ((1 * r 4 + 0) + 0) (yq_at ((1 * r 0 + 0) + 0) ((1 * ((1 * r 6 + 0) + 0) + 0) + 0) ((1 * ((1 * r 9 + 0) + 0) + 0) + 0) ((1 * ((1 * r 12 + 0) + 0) + 0) + 0) ((1 * ((1 * r 15 + 0) + 0) + 0) + 0)) (yq_at ((1 * r 2 + 0) + 0) ((1 * ((1 * r 6 + 0) + 0) + 0) + 0) ((1 * ((1 * r 9 + 0) + 0) + 0) + 0) ((1 * ((1 * r 12 + 0) + 0) + 0) + 0) ((1 * ((1 * r 15 + 0) + 0) + 0) + 0)) (yq_at ((1 * r 0 + 0) + 0) ((1 * ((1 * r 8 + 0) + 0) + 0) + 0) ((1 * ((1 * r 11 + 0) + 0) + 0) + 0) ((1 * ((1 * r 14 + 0) + 0) + 0) + 0) ((1 * ((1 * r 17 + 0) + 0) + 0) + 0)) (yq_at ((1 * r 2 + 0) + 0) ((1 * ((1 * r 8 + 0) + 0) + 0) + 0) ((1 * ((1 * r 11 + 0) + 0) + 0) + 0) ((1 * ((1 * r 14 + 0) + 0) + 0) + 0) ((1 * ((1 * r 17 + 0) + 0) + 0) + 0)) ∧ (g 3) = yq_xc ((1 * r 0 + 0) + 0) ((1 * r 1 + 0) + 0) ((1 * r 2 + 0) + 0) ((1 * r 3 + 0) + 0) ((1 * r 4 + 0) + 0) 0 (yq_at ((1 * r 0 + 0) + 0) ((1 * ((1 * r 6 + 0) + 0) + 0) + 0) ((1 * ((1 * r 9 + 0) + 0) + 0) + 0) ((1 * ((1 * r 12 + 0) + 0) + 0) + 0) ((1 * ((1 * r 15 + 0) + 0) + 0) + 0)) ((1 * ((1 * r 6 + 0) + 0) + 0) + 0) (yq_at ((1 * r 0 + 0) + 0) ((1 * ((1 * r 8 + 0) + 0) + 0) + 0) ((1 * ((1 * r 11 + 0) + 0) + 0) + 0) ((1 * ((1 * r 14 + 0) + 0) + 0) + 0) ((1 * ((1 * r 17 + 0) + 0) + 0) + 0)) ((1 * ((1 * r 8 + 0) + 0) + 0) + 0) ((1 * ((1 * r 7 + 0) + 0) + 0) + 0) (yq_fat ((1 * r 0 + 0) + 0) (g0 3) (g0 5) (g0 7) (g0 9)) (g0 3) ∧ (g 5) = yq_xc ((1 * r 0 + 0) + 0) ((1 * r 1 + 0) + 0) ((1 * r 2 + 0) + 0) ((1 * r 3 + 0) + 0) ((1 * r 4 + 0) + 0) 1 (yq_at ((1 * r 0 + 0) + 0) ((1 * ((1 * r 6 + 0) + 0) + 0) + 0) ((1 * ((1 * r 9 + 0) + 0) + 0) + 0) ((1 * ((1 * r 12 + 0) + 0) + 0) + 0) ((1 * ((1 * r 15 + 0) + 0) + 0) + 0)) ((1 * ((1 * r 9 + 0) + 0) + 0) + 0) (yq_at ((1 * r 0 + 0) + 0) ((1 * ((1 * r 8 + 0) + 0) + 0) + 0) ((1 * ((1 * r 11 + 0) + 0) + 0) + 0) ((1 * ((1 * r 14 + 0) + 0) + 0) + 0) ((1 * ((1 * r 17 + 0) + 0) + 0) + 0)) ((1 * ((1 * r 11 + 0) + 0) + 0) + 0) ((1 * ((1 * r 10 + 0) + 0) + 0) + 0) (yq_fat ((1 * r 0 + 0) + 0) (g0 3) (g0 5) (g0 7) (g0 9)) (g0 5) ∧ (g 7) = yq_xc ((1 * r 0 + 0) + 0) ((1 * r 1 + 0) + 0) ((1 * r 2 + 0) + 0) ((1 * r 3 + 0) + 0) ((1 * r 4 + 0) + 0) 2 (yq_at ((1 * r 0 + 0) + 0) ((1 * ((1 * r 6 + 0) + 0) + 0) + 0) ((1 * ((1 * r 9 + 0) + 0) + 0) + 0) ((1 * ((1 * r 12 + 0) + 0) + 0) + 0) ((1 * ((1 * r 15 + 0) + 0) + 0) + 0)) ((1 * ((1 * r 12 + 0) + 0) + 0) + 0) (yq_at ((1 * r 0 + 0) + 0) ((1 * ((1 * r 8 + 0) + 0) + 0) + 0) ((1 * ((1 * r 11 + 0) + 0) + 0) + 0) ((1 * ((1 * r 14 + 0) + 0) + 0) + 0) ((1 * ((1 * r 17 + 0) + 0) + 0) + 0)) ((1 * ((1 * r 14 + 0) + 0) + 0) + 0) ((1 * ((1 * r 13 + 0) + 0) + 0) + 0) (yq_fat ((1 * r 0 + 0) + 0) (g0 3) (g0 5) (g0 7) (g0 9)) (g0 7) ∧ (g 9) = yq_xc ((1 * r 0 + 0) + 0) ((1 * r 1 + 0) + 0) ((1 * r 2 + 0) + 0) ((1 * r 3 + 0) + 0) ((1 * r 4 + 0) + 0) 3 (yq_at ((1 * r 0 + 0) + 0) ((1 * ((1 * r 6 + 0) + 0) + 0) + 0) ((1 * ((1 * r 9 + 0) + 0) + 0) + 0) ((1 * ((1 * r 12 + 0) + 0) + 0) + 0) ((1 * ((1 * r 15 + 0) + 0) + 0) + 0)) ((1 * ((1 * r 15 + 0) + 0) + 0) + 0) (yq_at ((1 * r 0 + 0) + 0) ((1 * ((1 * r 8 + 0) + 0) + 0) + 0) ((1 * ((1 * r 11 + 0) + 0) + 0) + 0) ((1 * ((1 * r 14 + 0) + 0) + 0) + 0) ((1 * ((1 * r 17 + 0) + 0) + 0) + 0)) ((1 * ((1 * r 17 + 0) + 0) + 0) + 0) ((1 * ((1 * r 16 + 0) + 0) + 0) + 0) (yq_fat ((1 * r 0 + 0) + 0) (g0 3) (g0 5) (g0 7) (g0 9)) (g0 9)
  try simp only [Int.one_mul, Int.zero_add, Int.add_zero]
  refine ⟨?_, ?_, ?_, ?_, ?_⟩
  · rw [show r 0 = 3 by omega]
    rw [show r 2 = 0 by omega]
    simp only [yq_at0, yq_at3]
    unfold yq_cr
    repeat' split
    all_goals omega
  · rw [show r 0 = 3 by omega]
    simp only [yq_at3, yq_fat3]
    unfold yq_xc
    rw [if_neg (by omega)]
    rw [hgi]
  · rw [show r 0 = 3 by omega]
    simp only [yq_at3, yq_fat3]
    unfold yq_xc
    rw [if_neg (by omega)]
    rw [hgi]
  · rw [show r 0 = 3 by omega]
    simp only [yq_at3, yq_fat3]
    unfold yq_xc
    rw [if_neg (by omega)]
    rw [hgi]
  · rw [show r 0 = 3 by omega]
    simp only [yq_at3, yq_fat3]
    unfold yq_xc
    rw [if_neg (by omega)]
    rw [hgi]
theorem xw_40_0_83 : yt_hold xT_40 xk_40 xq_40.2.2.1 xG_40 xP_40 xU_40 18 xk_40.2.1.2.2.2 (fun g0 r g => xR_40 r g0 ∧ g = g0) (1000, ([(3, 3), ((-2147483648), (-1)), (1, 1), ((-2147483648), 2147483647), (0, 2147483647), ((-2147483648), 2147483647), (0, 1), ((-2147483648), 2147483647), (0, 100), (1, 1), ((-2147483648), 2147483647), (0, 100), (0, 1), ((-2147483648), 2147483647), (0, 100), (1, 1), ((-2147483648), 2147483647), (0, 100), ((-2147483648), 0)], []), [([], (-3)), ([(18, 1)], 0)], [], []) := by
  intro g0 r gi g hok hh hars hfr hG
  have b0 : 3 ≤ r 0 ∧ r 0 ≤ 3 := hok.1 0 (3, 3) rfl
  have b1 : (-2147483648) ≤ r 1 ∧ r 1 ≤ (-1) := hok.1 1 ((-2147483648), (-1)) rfl
  have b2 : 1 ≤ r 2 ∧ r 2 ≤ 1 := hok.1 2 (1, 1) rfl
  have b3 : (-2147483648) ≤ r 3 ∧ r 3 ≤ 2147483647 := hok.1 3 ((-2147483648), 2147483647) rfl
  have b4 : 0 ≤ r 4 ∧ r 4 ≤ 2147483647 := hok.1 4 (0, 2147483647) rfl
  have b5 : (-2147483648) ≤ r 5 ∧ r 5 ≤ 2147483647 := hok.1 5 ((-2147483648), 2147483647) rfl
  have b6 : 0 ≤ r 6 ∧ r 6 ≤ 1 := hok.1 6 (0, 1) rfl
  have b7 : (-2147483648) ≤ r 7 ∧ r 7 ≤ 2147483647 := hok.1 7 ((-2147483648), 2147483647) rfl
  have b8 : 0 ≤ r 8 ∧ r 8 ≤ 100 := hok.1 8 (0, 100) rfl
  have b9 : 1 ≤ r 9 ∧ r 9 ≤ 1 := hok.1 9 (1, 1) rfl
  have b10 : (-2147483648) ≤ r 10 ∧ r 10 ≤ 2147483647 := hok.1 10 ((-2147483648), 2147483647) rfl
  have b11 : 0 ≤ r 11 ∧ r 11 ≤ 100 := hok.1 11 (0, 100) rfl
  have b12 : 0 ≤ r 12 ∧ r 12 ≤ 1 := hok.1 12 (0, 1) rfl
  have b13 : (-2147483648) ≤ r 13 ∧ r 13 ≤ 2147483647 := hok.1 13 ((-2147483648), 2147483647) rfl
  have b14 : 0 ≤ r 14 ∧ r 14 ≤ 100 := hok.1 14 (0, 100) rfl
  have b15 : 1 ≤ r 15 ∧ r 15 ≤ 1 := hok.1 15 (1, 1) rfl
  have b16 : (-2147483648) ≤ r 16 ∧ r 16 ≤ 2147483647 := hok.1 16 ((-2147483648), 2147483647) rfl
  have b17 : 0 ≤ r 17 ∧ r 17 ≤ 100 := hok.1 17 (0, 100) rfl
  have b18 : (-2147483648) ≤ r 18 ∧ r 18 ≤ 0 := hok.1 18 ((-2147483648), 0) rfl
  obtain ⟨hG, hgi⟩ := hG
  have hG : True := hG
  have hh : g = gi := hh
  subst hh
  refine yt_dalt (by decide) (by decide) ?_
  rw [show xk_40.2.1.2.1.1.length = 18 from rfl]
  show ((0 : Int) + (-3)) = yq_cr ((1 * r 0 + 0) + 0) ((1 * r 1 + 0) + 0) ((1 * r 2 + 0) + 0) ((1 * r 3 + 0) + 0) ((1 * r 4 + 0) + 0) (yq_at ((1 * r 0 + 0) + 0) ((1 * ((1 * r 6 + 0) + 0) + 0) + 0) ((1 * ((1 * r 9 + 0) + 0) + 0) + 0) ((1 * ((1 * r 12 + 0) + 0) + 0) + 0) ((1 * ((1 * r 15 + 0) + 0) + 0) + 0)) (yq_at ((1 * r 2 + 0) + 0) ((1 * ((1 * r 6 + 0) + 0) + 0) + 0) ((1 * ((1 * r 9 + 0) + 0) + 0) + 0) ((1 * ((1 * r 12 + 0) + 0) + 0) + 0) ((1 * ((1 * r 15 + 0) + 0) + 0) + 0)) (yq_at ((1 * r 0 + 0) + 0) ((1 * ((1 * r 8 + 0) + 0) + 0) + 0) ((1 * ((1 * r 11 + 0) + 0) + 0) + 0) ((1 * ((1 * r 14 + 0) + 0) + 0) + 0) ((1 * ((1 * r 17 + 0) + 0) + 0) + 0)) (yq_at ((1 * r 2 + 0) + 0) ((1 * ((1 * r 8 + 0) + 0) + 0) + 0) ((1 * ((1 * r 11 + 0) + 0) + 0) + 0) ((1 * ((1 * r 14 + 0) + 0) + 0) + 0) ((1 * ((1 * r 17 + 0) + 0) + 0) + 0)) ∧ (g 3) = yq_xc ((1 * r 0 + 0) + 0) ((1 * r 1 + 0) + 0) ((1 * r 2 + 0) + 0) ((1 * r 3 + 0) + 0) ((1 * r 4 + 0) + 0) 0 (yq_at ((1 * r 0 + 0) + 0) ((1 * ((1 * r 6 + 0) + 0) + 0) + 0) ((1 * ((1 * r 9 + 0) + 0) + 0) + 0) ((1 * ((1 * r 12 + 0) + 0) + 0) + 0) ((1 * ((1 * r 15 + 0) + 0) + 0) + 0)) ((1 * ((1 * r 6 + 0) + 0) + 0) + 0) (yq_at ((1 * r 0 + 0) + 0) ((1 * ((1 * r 8 + 0) + 0) + 0) + 0) ((1 * ((1 * r 11 + 0) + 0) + 0) + 0) ((1 * ((1 * r 14 + 0) + 0) + 0) + 0) ((1 * ((1 * r 17 + 0) + 0) + 0) + 0)) ((1 * ((1 * r 8 + 0) + 0) + 0) + 0) ((1 * ((1 * r 7 + 0) + 0) + 0) + 0) (yq_fat ((1 * r 0 + 0) + 0) (g0 3) (g0 5) (g0 7) (g0 9)) (g0 3) ∧ (g 5) = yq_xc ((1 * r 0 + 0) + 0) ((1 * r 1 + 0) + 0) ((1 * r 2 + 0) + 0) ((1 * r 3 + 0) + 0) ((1 * r 4 + 0) + 0) 1 (yq_at ((1 * r 0 + 0) + 0) ((1 * ((1 * r 6 + 0) + 0) + 0) + 0) ((1 * ((1 * r 9 + 0) + 0) + 0) + 0) ((1 * ((1 * r 12 + 0) + 0) + 0) + 0) ((1 * ((1 * r 15 + 0) + 0) + 0) + 0)) ((1 * ((1 * r 9 + 0) + 0) + 0) + 0) (yq_at ((1 * r 0 + 0) + 0) ((1 * ((1 * r 8 + 0) + 0) + 0) + 0) ((1 * ((1 * r 11 + 0) + 0) + 0) + 0) ((1 * ((1 * r 14 + 0) + 0) + 0) + 0) ((1 * ((1 * r 17 + 0) + 0) + 0) + 0)) ((1 * ((1 * r 11 + 0) + 0) + 0) + 0) ((1 * ((1 * r 10 + 0) + 0) + 0) + 0) (yq_fat ((1 * r 0 + 0) + 0) (g0 3) (g0 5) (g0 7) (g0 9)) (g0 5) ∧ (g 7) = yq_xc ((1 * r 0 + 0) + 0) ((1 * r 1 + 0) + 0) ((1 * r 2 + 0) + 0) ((1 * r 3 + 0) + 0) ((1 * r 4 + 0) + 0) 2 (yq_at ((1 * r 0 + 0) + 0) ((1 * ((1 * r 6 + 0) + 0) + 0) + 0) ((1 * ((1 * r 9 + 0) + 0) + 0) + 0) ((1 * ((1 * r 12 + 0) + 0) + 0) + 0) ((1 * ((1 * r 15 + 0) + 0) + 0) + 0)) ((1 * ((1 * r 12 + 0) + 0) + 0) + 0) (yq_at ((1 * r 0 + 0) + 0) ((1 * ((1 * r 8 + 0) + 0) + 0) + 0) ((1 * ((1 * r 11 + 0) + 0) + 0) + 0) ((1 * ((1 * r 14 + 0) + 0) + 0) + 0) ((1 * ((1 * r 17 + 0) + 0) + 0) + 0)) ((1 * ((1 * r 14 + 0) + 0) + 0) + 0) ((1 * ((1 * r 13 + 0) + 0) + 0) + 0) (yq_fat ((1 * r 0 + 0) + 0) (g0 3) (g0 5) (g0 7) (g0 9)) (g0 7) ∧ (g 9) = yq_xc ((1 * r 0 + 0) + 0) ((1 * r 1 + 0) + 0) ((1 * r 2 + 0) + 0) ((1 * r 3 + 0) + 0) ((1 * r 4 + 0) + 0) 3 (yq_at ((1 * r 0 + 0) + 0) ((1 * ((1 * r 6 + 0) + 0) + 0) + 0) ((1 * ((1 * r 9 + 0) + 0) + 0) + 0) ((1 * ((1 * r 12 + 0) + 0) + 0) + 0) ((1 * ((1 * r 15 + 0) + 0) + 0) + 0)) ((1 * ((1 * r 15 + 0) + 0) + 0) + 0) (yq_at ((1 * r 0 + 0) + 0) ((1 * ((1 * r 8 + 0) + 0) + 0) + 0) ((1 * ((1 * r 11 + 0) + 0) + 0) + 0) ((1 * ((1 * r 14 + 0) + 0) + 0) + 0) ((1 * ((1 * r 17 + 0) + 0) + 0) + 0)) ((1 * ((1 * r 17 + 0) + 0) + 0) + 0) ((1 * ((1 * r 16 + 0) + 0) + 0) + 0) (yq_fat ((1 * r 0 + 0) + 0) (g0 3) (g0 5) (g0 7) (g0 9)) (g0 9)
  try simp only [Int.one_mul, Int.zero_add, Int.add_zero]
  refine ⟨?_, ?_, ?_, ?_, ?_⟩
  · rw [show r 0 = 3 by omega]
    rw [show r 2 = 1 by omega]
    simp only [yq_at1, yq_at3]
    unfold yq_cr
    repeat' split
    all_goals omega
  · rw [show r 0 = 3 by omega]
    simp only [yq_at3, yq_fat3]
    unfold yq_xc
    rw [if_neg (by omega)]
    rw [hgi]
  · rw [show r 0 = 3 by omega]
    simp only [yq_at3, yq_fat3]
    unfold yq_xc
    rw [if_neg (by omega)]
    rw [hgi]
  · rw [show r 0 = 3 by omega]
    simp only [yq_at3, yq_fat3]
    unfold yq_xc
    rw [if_neg (by omega)]
    rw [hgi]
  · rw [show r 0 = 3 by omega]
    simp only [yq_at3, yq_fat3]
    unfold yq_xc
    rw [if_neg (by omega)]
    rw [hgi]
theorem xw_40_0_84 : yt_hold xT_40 xk_40 xq_40.2.2.1 xG_40 xP_40 xU_40 18 xk_40.2.1.2.2.2 (fun g0 r g => xR_40 r g0 ∧ g = g0) (1000, ([(3, 3), (0, 2147483647), (1, 1), ((-2147483648), 2147483647), (0, 2147483647), ((-2147483648), 2147483647), (0, 1), ((-2147483648), 2147483647), (0, 100), (1, 1), ((-2147483648), 2147483647), (0, 100), (0, 1), ((-2147483648), 2147483647), (0, 100), (1, 1), ((-2147483648), 2147483647), (0, 100), ((-2147483648), 0)], [([(1, 1), (17, (-1)), (4, 1)], (-1))]), [([], (-3)), ([(18, 1)], 0)], [], []) := by
  intro g0 r gi g hok hh hars hfr hG
  have b0 : 3 ≤ r 0 ∧ r 0 ≤ 3 := hok.1 0 (3, 3) rfl
  have b1 : 0 ≤ r 1 ∧ r 1 ≤ 2147483647 := hok.1 1 (0, 2147483647) rfl
  have b2 : 1 ≤ r 2 ∧ r 2 ≤ 1 := hok.1 2 (1, 1) rfl
  have b3 : (-2147483648) ≤ r 3 ∧ r 3 ≤ 2147483647 := hok.1 3 ((-2147483648), 2147483647) rfl
  have b4 : 0 ≤ r 4 ∧ r 4 ≤ 2147483647 := hok.1 4 (0, 2147483647) rfl
  have b5 : (-2147483648) ≤ r 5 ∧ r 5 ≤ 2147483647 := hok.1 5 ((-2147483648), 2147483647) rfl
  have b6 : 0 ≤ r 6 ∧ r 6 ≤ 1 := hok.1 6 (0, 1) rfl
  have b7 : (-2147483648) ≤ r 7 ∧ r 7 ≤ 2147483647 := hok.1 7 ((-2147483648), 2147483647) rfl
  have b8 : 0 ≤ r 8 ∧ r 8 ≤ 100 := hok.1 8 (0, 100) rfl
  have b9 : 1 ≤ r 9 ∧ r 9 ≤ 1 := hok.1 9 (1, 1) rfl
  have b10 : (-2147483648) ≤ r 10 ∧ r 10 ≤ 2147483647 := hok.1 10 ((-2147483648), 2147483647) rfl
  have b11 : 0 ≤ r 11 ∧ r 11 ≤ 100 := hok.1 11 (0, 100) rfl
  have b12 : 0 ≤ r 12 ∧ r 12 ≤ 1 := hok.1 12 (0, 1) rfl
  have b13 : (-2147483648) ≤ r 13 ∧ r 13 ≤ 2147483647 := hok.1 13 ((-2147483648), 2147483647) rfl
  have b14 : 0 ≤ r 14 ∧ r 14 ≤ 100 := hok.1 14 (0, 100) rfl
  have b15 : 1 ≤ r 15 ∧ r 15 ≤ 1 := hok.1 15 (1, 1) rfl
  have b16 : (-2147483648) ≤ r 16 ∧ r 16 ≤ 2147483647 := hok.1 16 ((-2147483648), 2147483647) rfl
  have b17 : 0 ≤ r 17 ∧ r 17 ≤ 100 := hok.1 17 (0, 100) rfl
  have b18 : (-2147483648) ≤ r 18 ∧ r 18 ≤ 0 := hok.1 18 ((-2147483648), 0) rfl
  have f0 : 0 ≤ ((1 * r 1 + ((-1) * r 17 + (1 * r 4 + 0))) + (-1)) := hok.2 _ (List.mem_of_getElem? (i := 0) rfl)
  obtain ⟨hG, hgi⟩ := hG
  have hG : True := hG
  have hh : g = gi := hh
  subst hh
  refine yt_dalt (by decide) (by decide) ?_
  rw [show xk_40.2.1.2.1.1.length = 18 from rfl]
  show ((0 : Int) + (-3)) = yq_cr ((1 * r 0 + 0) + 0) ((1 * r 1 + 0) + 0) ((1 * r 2 + 0) + 0) ((1 * r 3 + 0) + 0) ((1 * r 4 + 0) + 0) (yq_at ((1 * r 0 + 0) + 0) ((1 * ((1 * r 6 + 0) + 0) + 0) + 0) ((1 * ((1 * r 9 + 0) + 0) + 0) + 0) ((1 * ((1 * r 12 + 0) + 0) + 0) + 0) ((1 * ((1 * r 15 + 0) + 0) + 0) + 0)) (yq_at ((1 * r 2 + 0) + 0) ((1 * ((1 * r 6 + 0) + 0) + 0) + 0) ((1 * ((1 * r 9 + 0) + 0) + 0) + 0) ((1 * ((1 * r 12 + 0) + 0) + 0) + 0) ((1 * ((1 * r 15 + 0) + 0) + 0) + 0)) (yq_at ((1 * r 0 + 0) + 0) ((1 * ((1 * r 8 + 0) + 0) + 0) + 0) ((1 * ((1 * r 11 + 0) + 0) + 0) + 0) ((1 * ((1 * r 14 + 0) + 0) + 0) + 0) ((1 * ((1 * r 17 + 0) + 0) + 0) + 0)) (yq_at ((1 * r 2 + 0) + 0) ((1 * ((1 * r 8 + 0) + 0) + 0) + 0) ((1 * ((1 * r 11 + 0) + 0) + 0) + 0) ((1 * ((1 * r 14 + 0) + 0) + 0) + 0) ((1 * ((1 * r 17 + 0) + 0) + 0) + 0)) ∧ (g 3) = yq_xc ((1 * r 0 + 0) + 0) ((1 * r 1 + 0) + 0) ((1 * r 2 + 0) + 0) ((1 * r 3 + 0) + 0) ((1 * r 4 + 0) + 0) 0 (yq_at ((1 * r 0 + 0) + 0) ((1 * ((1 * r 6 + 0) + 0) + 0) + 0) ((1 * ((1 * r 9 + 0) + 0) + 0) + 0) ((1 * ((1 * r 12 + 0) + 0) + 0) + 0) ((1 * ((1 * r 15 + 0) + 0) + 0) + 0)) ((1 * ((1 * r 6 + 0) + 0) + 0) + 0) (yq_at ((1 * r 0 + 0) + 0) ((1 * ((1 * r 8 + 0) + 0) + 0) + 0) ((1 * ((1 * r 11 + 0) + 0) + 0) + 0) ((1 * ((1 * r 14 + 0) + 0) + 0) + 0) ((1 * ((1 * r 17 + 0) + 0) + 0) + 0)) ((1 * ((1 * r 8 + 0) + 0) + 0) + 0) ((1 * ((1 * r 7 + 0) + 0) + 0) + 0) (yq_fat ((1 * r 0 + 0) + 0) (g0 3) (g0 5) (g0 7) (g0 9)) (g0 3) ∧ (g 5) = yq_xc ((1 * r 0 + 0) + 0) ((1 * r 1 + 0) + 0) ((1 * r 2 + 0) + 0) ((1 * r 3 + 0) + 0) ((1 * r 4 + 0) + 0) 1 (yq_at ((1 * r 0 + 0) + 0) ((1 * ((1 * r 6 + 0) + 0) + 0) + 0) ((1 * ((1 * r 9 + 0) + 0) + 0) + 0) ((1 * ((1 * r 12 + 0) + 0) + 0) + 0) ((1 * ((1 * r 15 + 0) + 0) + 0) + 0)) ((1 * ((1 * r 9 + 0) + 0) + 0) + 0) (yq_at ((1 * r 0 + 0) + 0) ((1 * ((1 * r 8 + 0) + 0) + 0) + 0) ((1 * ((1 * r 11 + 0) + 0) + 0) + 0) ((1 * ((1 * r 14 + 0) + 0) + 0) + 0) ((1 * ((1 * r 17 + 0) + 0) + 0) + 0)) ((1 * ((1 * r 11 + 0) + 0) + 0) + 0) ((1 * ((1 * r 10 + 0) + 0) + 0) + 0) (yq_fat ((1 * r 0 + 0) + 0) (g0 3) (g0 5) (g0 7) (g0 9)) (g0 5) ∧ (g 7) = yq_xc ((1 * r 0 + 0) + 0) ((1 * r 1 + 0) + 0) ((1 * r 2 + 0) + 0) ((1 * r 3 + 0) + 0) ((1 * r 4 + 0) + 0) 2 (yq_at ((1 * r 0 + 0) + 0) ((1 * ((1 * r 6 + 0) + 0) + 0) + 0) ((1 * ((1 * r 9 + 0) + 0) + 0) + 0) ((1 * ((1 * r 12 + 0) + 0) + 0) + 0) ((1 * ((1 * r 15 + 0) + 0) + 0) + 0)) ((1 * ((1 * r 12 + 0) + 0) + 0) + 0) (yq_at ((1 * r 0 + 0) + 0) ((1 * ((1 * r 8 + 0) + 0) + 0) + 0) ((1 * ((1 * r 11 + 0) + 0) + 0) + 0) ((1 * ((1 * r 14 + 0) + 0) + 0) + 0) ((1 * ((1 * r 17 + 0) + 0) + 0) + 0)) ((1 * ((1 * r 14 + 0) + 0) + 0) + 0) ((1 * ((1 * r 13 + 0) + 0) + 0) + 0) (yq_fat ((1 * r 0 + 0) + 0) (g0 3) (g0 5) (g0 7) (g0 9)) (g0 7) ∧ (g 9) = yq_xc ((1 * r 0 + 0) + 0) ((1 * r 1 + 0) + 0) ((1 * r 2 + 0) + 0) ((1 * r 3 + 0) + 0) ((1 * r 4 + 0) + 0) 3 (yq_at ((1 * r 0 + 0) + 0) ((1 * ((1 * r 6 + 0) + 0) + 0) + 0) ((1 * ((1 * r 9 + 0) + 0) + 0) + 0) ((1 * ((1 * r 12 + 0) + 0) + 0) + 0) ((1 * ((1 * r 15 + 0) + 0) + 0) + 0)) ((1 * ((1 * r 15 + 0) + 0) + 0) + 0) (yq_at ((1 * r 0 + 0) + 0) ((1 * ((1 * r 8 + 0) + 0) + 0) + 0) ((1 * ((1 * r 11 + 0) + 0) + 0) + 0) ((1 * ((1 * r 14 + 0) + 0) + 0) + 0) ((1 * ((1 * r 17 + 0) + 0) + 0) + 0)) ((1 * ((1 * r 17 + 0) + 0) + 0) + 0) ((1 * ((1 * r 16 + 0) + 0) + 0) + 0) (yq_fat ((1 * r 0 + 0) + 0) (g0 3) (g0 5) (g0 7) (g0 9)) (g0 9)
  try simp only [Int.one_mul, Int.zero_add, Int.add_zero]
  refine ⟨?_, ?_, ?_, ?_, ?_⟩
  · rw [show r 0 = 3 by omega]
    rw [show r 2 = 1 by omega]
    simp only [yq_at1, yq_at3]
    unfold yq_cr
    repeat' split
    all_goals omega
  · rw [show r 0 = 3 by omega]
    simp only [yq_at3, yq_fat3]
    unfold yq_xc
    rw [if_neg (by omega)]
    rw [hgi]
  · rw [show r 0 = 3 by omega]
    simp only [yq_at3, yq_fat3]
    unfold yq_xc
    rw [if_neg (by omega)]
    rw [hgi]
  · rw [show r 0 = 3 by omega]
    simp only [yq_at3, yq_fat3]
    unfold yq_xc
    rw [if_neg (by omega)]
    rw [hgi]
  · rw [show r 0 = 3 by omega]
    simp only [yq_at3, yq_fat3]
    unfold yq_xc
    rw [if_neg (by omega)]
    rw [hgi]
theorem xw_40_0_85 : yt_hold xT_40 xk_40 xq_40.2.2.1 xG_40 xP_40 xU_40 18 xk_40.2.1.2.2.2 (fun g0 r g => xR_40 r g0 ∧ g = g0) (1000, ([(3, 3), (0, 100), (1, 1), ((-2147483648), (-1)), (0, 100), ((-2147483648), 2147483647), (0, 1), ((-2147483648), 2147483647), (0, 100), (1, 1), ((-2147483648), 2147483647), (0, 100), (0, 1), ((-2147483648), 2147483647), (0, 100), (1, 1), ((-2147483648), 2147483647), (0, 100), ((-2147483648), 0)], [([(1, (-1)), (17, 1), (4, (-1))], 0)]), [([], (-3)), ([(18, 1)], 0)], [], []) := by
  intro g0 r gi g hok hh hars hfr hG
  have b0 : 3 ≤ r 0 ∧ r 0 ≤ 3 := hok.1 0 (3, 3) rfl
  have b1 : 0 ≤ r 1 ∧ r 1 ≤ 100 := hok.1 1 (0, 100) rfl
  have b2 : 1 ≤ r 2 ∧ r 2 ≤ 1 := hok.1 2 (1, 1) rfl
  have b3 : (-2147483648) ≤ r 3 ∧ r 3 ≤ (-1) := hok.1 3 ((-2147483648), (-1)) rfl
  have b4 : 0 ≤ r 4 ∧ r 4 ≤ 100 := hok.1 4 (0, 100) rfl
  have b5 : (-2147483648) ≤ r 5 ∧ r 5 ≤ 2147483647 := hok.1 5 ((-2147483648), 2147483647) rfl
  have b6 : 0 ≤ r 6 ∧ r 6 ≤ 1 := hok.1 6 (0, 1) rfl
  have b7 : (-2147483648) ≤ r 7 ∧ r 7 ≤ 2147483647 := hok.1 7 ((-2147483648), 2147483647) rfl
  have b8 : 0 ≤ r 8 ∧ r 8 ≤ 100 := hok.1 8 (0, 100) rfl
  have b9 : 1 ≤ r 9 ∧ r 9 ≤ 1 := hok.1 9 (1, 1) rfl
  have b10 : (-2147483648) ≤ r 10 ∧ r 10 ≤ 2147483647 := hok.1 10 ((-2147483648), 2147483647) rfl
  have b11 : 0 ≤ r 11 ∧ r 11 ≤ 100 := hok.1 11 (0, 100) rfl
  have b12 : 0 ≤ r 12 ∧ r 12 ≤ 1 := hok.1 12 (0, 1) rfl
  have b13 : (-2147483648) ≤ r 13 ∧ r 13 ≤ 2147483647 := hok.1 13 ((-2147483648), 2147483647) rfl
  have b14 : 0 ≤ r 14 ∧ r 14 ≤ 100 := hok.1 14 (0, 100) rfl
  have b15 : 1 ≤ r 15 ∧ r 15 ≤ 1 := hok.1 15 (1, 1) rfl
  have b16 : (-2147483648) ≤ r 16 ∧ r 16 ≤ 2147483647 := hok.1 16 ((-2147483648), 2147483647) rfl
  have b17 : 0 ≤ r 17 ∧ r 17 ≤ 100 := hok.1 17 (0, 100) rfl
  have b18 : (-2147483648) ≤ r 18 ∧ r 18 ≤ 0 := hok.1 18 ((-2147483648), 0) rfl
  have f0 : 0 ≤ (((-1) * r 1 + (1 * r 17 + ((-1) * r 4 + 0))) + 0) := hok.2 _ (List.mem_of_getElem? (i := 0) rfl)
  obtain ⟨hG, hgi⟩ := hG
  have hG : True := hG
  have hh : g = gi := hh
  subst hh
  refine yt_dalt (by decide) (by decide) ?_
  rw [show xk_40.2.1.2.1.1.length = 18 from rfl]
  show ((0 : Int) + (-3)) = yq_cr ((1 * r 0 + 0) + 0) ((1 * r 1 + 0) + 0) ((1 * r 2 + 0) + 0) ((1 * r 3 + 0) + 0) ((1 * r 4 + 0) + 0) (yq_at ((1 * r 0 + 0) + 0) ((1 * ((1 * r 6 + 0) + 0) + 0) + 0) ((1 * ((1 * r 9 + 0) + 0) + 0) + 0) ((1 * ((1 * r 12 + 0) + 0) + 0) + 0) ((1 * ((1 * r 15 + 0) + 0) + 0) + 0)) (yq_at ((1 * r 2 + 0) + 0) ((1 * ((1 * r 6 + 0) + 0) + 0) + 0) ((1 * ((1 * r 9 + 0) + 0) + 0) + 0) ((1 * ((1 * r 12 + 0) + 0) + 0) + 0) ((1 * ((1 * r 15 + 0) + 0) + 0) + 0)) (yq_at ((1 * r 0 + 0) + 0) ((1 * ((1 * r 8 + 0) + 0) + 0) + 0) ((1 * ((1 * r 11 + 0) + 0) + 0) + 0) ((1 * ((1 * r 14 + 0) + 0) + 0) + 0) ((1 * ((1 * r 17 + 0) + 0) + 0) + 0)) (yq_at ((1 * r 2 + 0) + 0) ((1 * ((1 * r 8 + 0) + 0) + 0) + 0) ((1 * ((1 * r 11 + 0) + 0) + 0) + 0) ((1 * ((1 * r 14 + 0) + 0) + 0) + 0) ((1 * ((1 * r 17 + 0) + 0) + 0) + 0)) ∧ (g 3) = yq_xc ((1 * r 0 + 0) + 0) ((1 * r 1 + 0) + 0) ((1 * r 2 + 0) + 0) ((1 * r 3 + 0) + 0) ((1 * r 4 + 0) + 0) 0 (yq_at ((1 * r 0 + 0) + 0) ((1 * ((1 * r 6 + 0) + 0) + 0) + 0) ((1 * ((1 * r 9 + 0) + 0) + 0) + 0) ((1 * ((1 * r 12 + 0) + 0) + 0) + 0) ((1 * ((1 * r 15 + 0) + 0) + 0) + 0)) ((1 * ((1 * r 6 + 0) + 0) + 0) + 0) (yq_at ((1 * r 0 + 0) + 0) ((1 * ((1 * r 8 + 0) + 0) + 0) + 0) ((1 * ((1 * r 11 + 0) + 0) + 0) + 0) ((1 * ((1 * r 14 + 0) + 0) + 0) + 0) ((1 * ((1 * r 17 + 0) + 0) + 0) + 0)) ((1 * ((1 * r 8 + 0) + 0) + 0) + 0) ((1 * ((1 * r 7 + 0) + 0) + 0) + 0) (yq_fat ((1 * r 0 + 0) + 0) (g0 3) (g0 5) (g0 7) (g0 9)) (g0 3) ∧ (g 5) = yq_xc ((1 * r 0 + 0) + 0) ((1 * r 1 + 0) + 0) ((1 * r 2 + 0) + 0) ((1 * r 3 + 0) + 0) ((1 * r 4 + 0) + 0) 1 (yq_at ((1 * r 0 + 0) + 0) ((1 * ((1 * r 6 + 0) + 0) + 0) + 0) ((1 * ((1 * r 9 + 0) + 0) + 0) + 0) ((1 * ((1 * r 12 + 0) + 0) + 0) + 0) ((1 * ((1 * r 15 + 0) + 0) + 0) + 0)) ((1 * ((1 * r 9 + 0) + 0) + 0) + 0) (yq_at ((1 * r 0 + 0) + 0) ((1 * ((1 * r 8 + 0) + 0) + 0) + 0) ((1 * ((1 * r 11 + 0) + 0) + 0) + 0) ((1 * ((1 * r 14 + 0) + 0) + 0) + 0) ((1 * ((1 * r 17 + 0) + 0) + 0) + 0)) ((1 * ((1 * r 11 + 0) + 0) + 0) + 0) ((1 * ((1 * r 10 + 0) + 0) + 0) + 0) (yq_fat ((1 * r 0 + 0) + 0) (g0 3) (g0 5) (g0 7) (g0 9)) (g0 5) ∧ (g 7) = yq_xc ((1 * r 0 + 0) + 0) ((1 * r 1 + 0) + 0) ((1 * r 2 + 0) + 0) ((1 * r 3 + 0) + 0) ((1 * r 4 + 0) + 0) 2 (yq_at ((1 * r 0 + 0) + 0) ((1 * ((1 * r 6 + 0) + 0) + 0) + 0) ((1 * ((1 * r 9 + 0) + 0) + 0) + 0) ((1 * ((1 * r 12 + 0) + 0) + 0) + 0) ((1 * ((1 * r 15 + 0) + 0) + 0) + 0)) ((1 * ((1 * r 12 + 0) + 0) + 0) + 0) (yq_at ((1 * r 0 + 0) + 0) ((1 * ((1 * r 8 + 0) + 0) + 0) + 0) ((1 * ((1 * r 11 + 0) + 0) + 0) + 0) ((1 * ((1 * r 14 + 0) + 0) + 0) + 0) ((1 * ((1 * r 17 + 0) + 0) + 0) + 0)) ((1 * ((1 * r 14 + 0) + 0) + 0) + 0) ((1 * ((1 * r 13 + 0) + 0) + 0) + 0) (yq_fat ((1 * r 0 + 0) + 0) (g0 3) (g0 5) (g0 7) (g0 9)) (g0 7) ∧ (g 9) = yq_xc ((1 * r 0 + 0) + 0) ((1 * r 1 + 0) + 0) ((1 * r 2 + 0) + 0) ((1 * r 3 + 0) + 0) ((1 * r 4 + 0) + 0) 3 (yq_at ((1 * r 0 + 0) + 0) ((1 * ((1 * r 6 + 0) + 0) + 0) + 0) ((1 * ((1 * r 9 + 0) + 0) + 0) + 0) ((1 * ((1 * r 12 + 0) + 0) + 0) + 0) ((1 * ((1 * r 15 + 0) + 0) + 0) + 0)) ((1 * ((1 * r 15 + 0) + 0) + 0) + 0) (yq_at ((1 * r 0 + 0) + 0) ((1 * ((1 * r 8 + 0) + 0) + 0) + 0) ((1 * ((1 * r 11 + 0) + 0) + 0) + 0) ((1 * ((1 * r 14 + 0) + 0) + 0) + 0) ((1 * ((1 * r 17 + 0) + 0) + 0) + 0)) ((1 * ((1 * r 17 + 0) + 0) + 0) + 0) ((1 * ((1 * r 16 + 0) + 0) + 0) + 0) (yq_fat ((1 * r 0 + 0) + 0) (g0 3) (g0 5) (g0 7) (g0 9)) (g0 9)
  try simp only [Int.one_mul, Int.zero_add, Int.add_zero]
  refine ⟨?_, ?_, ?_, ?_, ?_⟩
  · rw [show r 0 = 3 by omega]
    rw [show r 2 = 1 by omega]
    simp only [yq_at1, yq_at3]
    unfold yq_cr
    repeat' split
    all_goals omega
  · rw [show r 0 = 3 by omega]
    simp only [yq_at3, yq_fat3]
    unfold yq_xc
    rw [if_neg (by omega)]
    rw [hgi]
  · rw [show r 0 = 3 by omega]
    simp only [yq_at3, yq_fat3]
    unfold yq_xc
    rw [if_neg (by omega)]
    rw [hgi]
  · rw [show r 0 = 3 by omega]
    simp only [yq_at3, yq_fat3]
    unfold yq_xc
    rw [if_neg (by omega)]
    rw [hgi]
  · rw [show r 0 = 3 by omega]
    simp only [yq_at3, yq_fat3]
    unfold yq_xc
    rw [if_neg (by omega)]
    rw [hgi]
theorem xw_40_0_86 : yt_hold xT_40 xk_40 xq_40.2.2.1 xG_40 xP_40 xU_40 18 xk_40.2.1.2.2.2 (fun g0 r g => xR_40 r g0 ∧ g = g0) (1000, ([(3, 3), (0, 100), (1, 1), (0, 2147483647), (0, 100), ((-2147483648), 2147483647), (0, 1), ((-2147483648), 2147483647), (0, 100), (1, 1), ((-2147483648), 2147483647), (0, 100), (0, 1), ((-2147483648), 2147483647), (0, 100), (1, 1), ((-2147483648), 2147483647), (0, 100), ((-2147483648), 0)], [([(3, 1), (11, (-1)), (4, 1)], (-1)), ([(1, (-1)), (17, 1), (4, (-1))], 0)]), [([], (-3)), ([(18, 1)], 0)], [], []) := by
  intro g0 r gi g hok hh hars hfr hG
  have b0 : 3 ≤ r 0 ∧ r 0 ≤ 3 := hok.1 0 (3, 3) rfl
  have b1 : 0 ≤ r 1 ∧ r 1 ≤ 100 := hok.1 1 (0, 100) rfl
  have b2 : 1 ≤ r 2 ∧ r 2 ≤ 1 := hok.1 2 (1, 1) rfl
  have b3 : 0 ≤ r 3 ∧ r 3 ≤ 2147483647 := hok.1 3 (0, 2147483647) rfl
  have b4 : 0 ≤ r 4 ∧ r 4 ≤ 100 := hok.1 4 (0, 100) rfl
  have b5 : (-2147483648) ≤ r 5 ∧ r 5 ≤ 2147483647 := hok.1 5 ((-2147483648), 2147483647) rfl
  have b6 : 0 ≤ r 6 ∧ r 6 ≤ 1 := hok.1 6 (0, 1) rfl
  have b7 : (-2147483648) ≤ r 7 ∧ r 7 ≤ 2147483647 := hok.1 7 ((-2147483648), 2147483647) rfl
  have b8 : 0 ≤ r 8 ∧ r 8 ≤ 100 := hok.1 8 (0, 100) rfl
  have b9 : 1 ≤ r 9 ∧ r 9 ≤ 1 := hok.1 9 (1, 1) rfl
  have b10 : (-2147483648) ≤ r 10 ∧ r 10 ≤ 2147483647 := hok.1 10 ((-2147483648), 2147483647) rfl
  have b11 : 0 ≤ r 11 ∧ r 11 ≤ 100 := hok.1 11 (0, 100) rfl
  have b12 : 0 ≤ r 12 ∧ r 12 ≤ 1 := hok.1 12 (0, 1) rfl
  have b13 : (-2147483648) ≤ r 13 ∧ r 13 ≤ 2147483647 := hok.1 13 ((-2147483648), 2147483647) rfl
  have b14 : 0 ≤ r 14 ∧ r 14 ≤ 100 := hok.1 14 (0, 100) rfl
  have b15 : 1 ≤ r 15 ∧ r 15 ≤ 1 := hok.1 15 (1, 1) rfl
  have b16 : (-2147483648) ≤ r 16 ∧ r 16 ≤ 2147483647 := hok.1 16 ((-2147483648), 2147483647) rfl
  have b17 : 0 ≤ r 17 ∧ r 17 ≤ 100 := hok.1 17 (0, 100) rfl
  have b18 : (-2147483648) ≤ r 18 ∧ r 18 ≤ 0 := hok.1 18 ((-2147483648), 0) rfl
  have f0 : 0 ≤ ((1 * r 3 + ((-1) * r 11 + (1 * r 4 + 0))) + (-1)) := hok.2 _ (List.mem_of_getElem? (i := 0) rfl)
  have f1 : 0 ≤ (((-1) * r 1 + (1 * r 17 + ((-1) * r 4 + 0))) + 0) := hok.2 _ (List.mem_of_getElem? (i := 1) rfl)
  obtain ⟨hG, hgi⟩ := hG
  have hG : True := hG
  have hh : g = gi := hh
  subst hh
  refine yt_dalt (by decide) (by decide) ?_
  rw [show xk_40.2.1.2.1.1.length = 18 from rfl]
  show ((0 : Int) + (-3)) = yq_cr ((1 * r 0 + 0) + 0) ((1 * r 1 + 0) + 0) ((1 * r 2 + 0) + 0) ((1 * r 3 + 0) + 0) ((1 * r 4 + 0) + 0) (yq_at ((1 * r 0 + 0) + 0) ((1 * ((1 * r 6 + 0) + 0) + 0) + 0) ((1 * ((1 * r 9 + 0) + 0) + 0) + 0) ((1 * ((1 * r 12 + 0) + 0) + 0) + 0) ((1 * ((1 * r 15 + 0) + 0) + 0) + 0)) (yq_at ((1 * r 2 + 0) + 0) ((1 * ((1 * r 6 + 0) + 0) + 0) + 0) ((1 * ((1 * r 9 + 0) + 0) + 0) + 0) ((1 * ((1 * r 12 + 0) + 0) + 0) + 0) ((1 * ((1 * r 15 + 0) + 0) + 0) + 0)) (yq_at ((1 * r 0 + 0) + 0) ((1 * ((1 * r 8 + 0) + 0) + 0) + 0) ((1 * ((1 * r 11 + 0) + 0) + 0) + 0) ((1 * ((1 * r 14 + 0) + 0) + 0) + 0) ((1 * ((1 * r 17 + 0) + 0) + 0) + 0)) (yq_at ((1 * r 2 + 0) + 0) ((1 * ((1 * r 8 + 0) + 0) + 0) + 0) ((1 * ((1 * r 11 + 0) + 0) + 0) + 0) ((1 * ((1 * r 14 + 0) + 0) + 0) + 0) ((1 * ((1 * r 17 + 0) + 0) + 0) + 0)) ∧ (g 3) = yq_xc ((1 * r 0 + 0) + 0) ((1 * r 1 + 0) + 0) ((1 * r 2 + 0) + 0) ((1 * r 3 + 0) + 0) ((1 * r 4 + 0) + 0) 0 (yq_at ((1 * r 0 + 0) + 0) ((1 * ((1 * r 6 + 0) + 0) + 0) + 0) ((1 * ((1 * r 9 + 0) + 0) + 0) + 0) ((1 * ((1 * r 12 + 0) + 0) + 0) + 0) ((1 * ((1 * r 15 + 0) + 0) + 0) + 0)) ((1 * ((1 * r 6 + 0) + 0) + 0) + 0) (yq_at ((1 * r 0 + 0) + 0) ((1 * ((1 * r 8 + 0) + 0) + 0) + 0) ((1 * ((1 * r 11 + 0) + 0) + 0) + 0) ((1 * ((1 * r 14 + 0) + 0) + 0) + 0) ((1 * ((1 * r 17 + 0) + 0) + 0) + 0)) ((1 * ((1 * r 8 + 0) + 0) + 0) + 0) ((1 * ((1 * r 7 + 0) + 0) + 0) + 0) (yq_fat ((1 * r 0 + 0) + 0) (g0 3) (g0 5) (g0 7) (g0 9)) (g0 3) ∧ (g 5) = yq_xc ((1 * r 0 + 0) + 0) ((1 * r 1 + 0) + 0) ((1 * r 2 + 0) + 0) ((1 * r 3 + 0) + 0) ((1 * r 4 + 0) + 0) 1 (yq_at ((1 * r 0 + 0) + 0) ((1 * ((1 * r 6 + 0) + 0) + 0) + 0) ((1 * ((1 * r 9 + 0) + 0) + 0) + 0) ((1 * ((1 * r 12 + 0) + 0) + 0) + 0) ((1 * ((1 * r 15 + 0) + 0) + 0) + 0)) ((1 * ((1 * r 9 + 0) + 0) + 0) + 0) (yq_at ((1 * r 0 + 0) + 0) ((1 * ((1 * r 8 + 0) + 0) + 0) + 0) ((1 * ((1 * r 11 + 0) + 0) + 0) + 0) ((1 * ((1 * r 14 + 0) + 0) + 0) + 0) ((1 * ((1 * r 17 + 0) + 0) + 0) + 0)) ((1 * ((1 * r 11 + 0) + 0) + 0) + 0) ((1 * ((1 * r 10 + 0) + 0) + 0) + 0) (yq_fat ((1 * r 0 + 0) + 0) (g0 3) (g0 5) (g0 7) (g0 9)) (g0 5) ∧ (g 7) = yq_xc ((1 * r 0 + 0) + 0) ((1 * r 1 + 0) + 0) ((1 * r 2 + 0) + 0) ((1 * r 3 + 0) + 0) ((1 * r 4 + 0) + 0) 2 (yq_at ((1 * r 0 + 0) + 0) ((1 * ((1 * r 6 + 0) + 0) + 0) + 0) ((1 * ((1 * r 9 + 0) + 0) + 0) + 0) ((1 * ((1 * r 12 + 0) + 0) + 0) + 0) ((1 * ((1 * r 15 + 0) + 0) + 0) + 0)) ((1 * ((1 * r 12 + 0) + 0) + 0) + 0) (yq_at ((1 * r 0 + 0) + 0) ((1 * ((1 * r 8 + 0) + 0) + 0) + 0) ((1 * ((1 * r 11 + 0) + 0) + 0) + 0) ((1 * ((1 * r 14 + 0) + 0) + 0) + 0) ((1 * ((1 * r 17 + 0) + 0) + 0) + 0)) ((1 * ((1 * r 14 + 0) + 0) + 0) + 0) ((1 * ((1 * r 13 + 0) + 0) + 0) + 0) (yq_fat ((1 * r 0 + 0) + 0) (g0 3) (g0 5) (g0 7) (g0 9)) (g0 7) ∧ (g 9) = yq_xc ((1 * r 0 + 0) + 0) ((1 * r 1 + 0) + 0) ((1 * r 2 + 0) + 0) ((1 * r 3 + 0) + 0) ((1 * r 4 + 0) + 0) 3 (yq_at ((1 * r 0 + 0) + 0) ((1 * ((1 * r 6 + 0) + 0) + 0) + 0) ((1 * ((1 * r 9 + 0) + 0) + 0) + 0) ((1 * ((1 * r 12 + 0) + 0) + 0) + 0) ((1 * ((1 * r 15 + 0) + 0) + 0) + 0)) ((1 * ((1 * r 15 + 0) + 0) + 0) + 0) (yq_at ((1 * r 0 + 0) + 0) ((1 * ((1 * r 8 + 0) + 0) + 0) + 0) ((1 * ((1 * r 11 + 0) + 0) + 0) + 0) ((1 * ((1 * r 14 + 0) + 0) + 0) + 0) ((1 * ((1 * r 17 + 0) + 0) + 0) + 0)) ((1 * ((1 * r 17 + 0) + 0) + 0) + 0) ((1 * ((1 * r 16 + 0) + 0) + 0) + 0) (yq_fat ((1 * r 0 + 0) + 0) (g0 3) (g0 5) (g0 7) (g0 9)) (g0 9)
  try simp only [Int.one_mul, Int.zero_add, Int.add_zero]
  refine ⟨?_, ?_, ?_, ?_, ?_⟩
  · rw [show r 0 = 3 by omega]
    rw [show r 2 = 1 by omega]
    simp only [yq_at1, yq_at3]
    unfold yq_cr
    repeat' split
    all_goals omega
  · rw [show r 0 = 3 by omega]
    simp only [yq_at3, yq_fat3]
    unfold yq_xc
    rw [if_neg (by omega)]
    rw [hgi]
  · rw [show r 0 = 3 by omega]
    simp only [yq_at3, yq_fat3]
    unfold yq_xc
    rw [if_neg (by omega)]
    rw [hgi]
  · rw [show r 0 = 3 by omega]
    simp only [yq_at3, yq_fat3]
    unfold yq_xc
    rw [if_neg (by omega)]
    rw [hgi]
  · rw [show r 0 = 3 by omega]
    simp only [yq_at3, yq_fat3]
    unfold yq_xc
    rw [if_neg (by omega)]
    rw [hgi]
theorem xw_40_0_87 : yt_hold xT_40 xk_40 xq_40.2.2.1 xG_40 xP_40 xU_40 18 xk_40.2.1.2.2.2 (fun g0 r g => xR_40 r g0 ∧ g = g0) (1000, ([(3, 3), (0, 100), (1, 1), (0, 100), (0, 100), ((-2147483648), 2147483647), (0, 1), ((-2147483648), 2147483647), (0, 100), (1, 1), ((-2147483648), 2147483647), (0, 100), (0, 1), ((-2147483648), 2147483647), (0, 100), (1, 1), ((-2147483648), 2147483647), (0, 100), ((-2147483648), 0)], [([(4, (-1)), (3, (-1))], 101), ([(3, (-1)), (11, 1), (4, (-1))], 0), ([(1, (-1)), (17, 1), (4, (-1))], 0)]), [([(4, 1)], 0), ([(18, 1)], 0)], [], [.inr (.inr (.inl (98, 0, [([(3, 1)], 0), ([(1, 1)], 0), ([(4, 1)], 0), ([(9, 1)], 0), ([(10, 1)], 0), ([(11, 1)], 0), ([(15, 1)], 0), ([(16, 1)], 0), ([(17, 1)], 0)], [4, 5, 8, 9], [5])))]) := by
  intro g0 r gi g hok hh hars hfr hG
  have b0 : 3 ≤ r 0 ∧ r 0 ≤ 3 := hok.1 0 (3, 3) rfl
  have b1 : 0 ≤ r 1 ∧ r 1 ≤ 100 := hok.1 1 (0, 100) rfl
  have b2 : 1 ≤ r 2 ∧ r 2 ≤ 1 := hok.1 2 (1, 1) rfl
  have b3 : 0 ≤ r 3 ∧ r 3 ≤ 100 := hok.1 3 (0, 100) rfl
  have b4 : 0 ≤ r 4 ∧ r 4 ≤ 100 := hok.1 4 (0, 100) rfl
  have b5 : (-2147483648) ≤ r 5 ∧ r 5 ≤ 2147483647 := hok.1 5 ((-2147483648), 2147483647) rfl
  have b6 : 0 ≤ r 6 ∧ r 6 ≤ 1 := hok.1 6 (0, 1) rfl
  have b7 : (-2147483648) ≤ r 7 ∧ r 7 ≤ 2147483647 := hok.1 7 ((-2147483648), 2147483647) rfl
  have b8 : 0 ≤ r 8 ∧ r 8 ≤ 100 := hok.1 8 (0, 100) rfl
  have b9 : 1 ≤ r 9 ∧ r 9 ≤ 1 := hok.1 9 (1, 1) rfl
  have b10 : (-2147483648) ≤ r 10 ∧ r 10 ≤ 2147483647 := hok.1 10 ((-2147483648), 2147483647) rfl
  have b11 : 0 ≤ r 11 ∧ r 11 ≤ 100 := hok.1 11 (0, 100) rfl
  have b12 : 0 ≤ r 12 ∧ r 12 ≤ 1 := hok.1 12 (0, 1) rfl
  have b13 : (-2147483648) ≤ r 13 ∧ r 13 ≤ 2147483647 := hok.1 13 ((-2147483648), 2147483647) rfl
  have b14 : 0 ≤ r 14 ∧ r 14 ≤ 100 := hok.1 14 (0, 100) rfl
  have b15 : 1 ≤ r 15 ∧ r 15 ≤ 1 := hok.1 15 (1, 1) rfl
  have b16 : (-2147483648) ≤ r 16 ∧ r 16 ≤ 2147483647 := hok.1 16 ((-2147483648), 2147483647) rfl
  have b17 : 0 ≤ r 17 ∧ r 17 ≤ 100 := hok.1 17 (0, 100) rfl
  have b18 : (-2147483648) ≤ r 18 ∧ r 18 ≤ 0 := hok.1 18 ((-2147483648), 0) rfl
  have f0 : 0 ≤ (((-1) * r 4 + ((-1) * r 3 + 0)) + 101) := hok.2 _ (List.mem_of_getElem? (i := 0) rfl)
  have f1 : 0 ≤ (((-1) * r 3 + (1 * r 11 + ((-1) * r 4 + 0))) + 0) := hok.2 _ (List.mem_of_getElem? (i := 1) rfl)
  have f2 : 0 ≤ (((-1) * r 1 + (1 * r 17 + ((-1) * r 4 + 0))) + 0) := hok.2 _ (List.mem_of_getElem? (i := 2) rfl)
  obtain ⟨hG, hgi⟩ := hG
  have hG : True := hG
  obtain ⟨h0, hh, e0, k0⟩ := hh
  have k0 : ∀ j, j ∉ [5] → g j = h0 j := k0
  have e0 : (g 5) = yq_pa ((1 * r 3 + 0) + 0) ((1 * r 1 + 0) + 0) ((1 * r 4 + 0) + 0) ((1 * r 10 + 0) + 0) (h0 9) (h0 5) := e0
  have hh : h0 = gi := hh
  subst hh
  refine yt_dalt (by decide) (by decide) ?_
  rw [show xk_40.2.1.2.1.1.length = 18 from rfl]
  show ((1 * r 4 + 0) + 0) = yq_cr ((1 * r 0 + 0) + 0) ((1 * r 1 + 0) + 0) ((1 * r 2 + 0) + 0) ((1 * r 3 + 0) + 0) ((1 * r 4 + 0) + 0) (yq_at ((1 * r 0 + 0) + 0) ((1 * ((1 * r 6 + 0) + 0) + 0) + 0) ((1 * ((1 * r 9 + 0) + 0) + 0) + 0) ((1 * ((1 * r 12 + 0) + 0) + 0) + 0) ((1 * ((1 * r 15 + 0) + 0) + 0) + 0)) (yq_at ((1 * r 2 + 0) + 0) ((1 * ((1 * r 6 + 0) + 0) + 0) + 0) ((1 * ((1 * r 9 + 0) + 0) + 0) + 0) ((1 * ((1 * r 12 + 0) + 0) + 0) + 0) ((1 * ((1 * r 15 + 0) + 0) + 0) + 0)) (yq_at ((1 * r 0 + 0) + 0) ((1 * ((1 * r 8 + 0) + 0) + 0) + 0) ((1 * ((1 * r 11 + 0) + 0) + 0) + 0) ((1 * ((1 * r 14 + 0) + 0) + 0) + 0) ((1 * ((1 * r 17 + 0) + 0) + 0) + 0)) (yq_at ((1 * r 2 + 0) + 0) ((1 * ((1 * r 8 + 0) + 0) + 0) + 0) ((1 * ((1 * r 11 + 0) + 0) + 0) + 0) ((1 * ((1 * r 14 + 0) + 0) + 0) + 0) ((1 * ((1 * r 17 + 0) + 0) + 0) + 0)) ∧ (g 3) = yq_xc ((1 * r 0 + 0) + 0) ((1 * r 1 + 0) + 0) ((1 * r 2 + 0) + 0) ((1 * r 3 + 0) + 0) ((1 * r 4 + 0) + 0) 0 (yq_at ((1 * r 0 + 0) + 0) ((1 * ((1 * r 6 + 0) + 0) + 0) + 0) ((1 * ((1 * r 9 + 0) + 0) + 0) + 0) ((1 * ((1 * r 12 + 0) + 0) + 0) + 0) ((1 * ((1 * r 15 + 0) + 0) + 0) + 0)) ((1 * ((1 * r 6 + 0) + 0) + 0) + 0) (yq_at ((1 * r 0 + 0) + 0) ((1 * ((1 * r 8 + 0) + 0) + 0) + 0) ((1 * ((1 * r 11 + 0) + 0) + 0) + 0) ((1 * ((1 * r 14 + 0) + 0) + 0) + 0) ((1 * ((1 * r 17 + 0) + 0) + 0) + 0)) ((1 * ((1 * r 8 + 0) + 0) + 0) + 0) ((1 * ((1 * r 7 + 0) + 0) + 0) + 0) (yq_fat ((1 * r 0 + 0) + 0) (g0 3) (g0 5) (g0 7) (g0 9)) (g0 3) ∧ (g 5) = yq_xc ((1 * r 0 + 0) + 0) ((1 * r 1 + 0) + 0) ((1 * r 2 + 0) + 0) ((1 * r 3 + 0) + 0) ((1 * r 4 + 0) + 0) 1 (yq_at ((1 * r 0 + 0) + 0) ((1 * ((1 * r 6 + 0) + 0) + 0) + 0) ((1 * ((1 * r 9 + 0) + 0) + 0) + 0) ((1 * ((1 * r 12 + 0) + 0) + 0) + 0) ((1 * ((1 * r 15 + 0) + 0) + 0) + 0)) ((1 * ((1 * r 9 + 0) + 0) + 0) + 0) (yq_at ((1 * r 0 + 0) + 0) ((1 * ((1 * r 8 + 0) + 0) + 0) + 0) ((1 * ((1 * r 11 + 0) + 0) + 0) + 0) ((1 * ((1 * r 14 + 0) + 0) + 0) + 0) ((1 * ((1 * r 17 + 0) + 0) + 0) + 0)) ((1 * ((1 * r 11 + 0) + 0) + 0) + 0) ((1 * ((1 * r 10 + 0) + 0) + 0) + 0) (yq_fat ((1 * r 0 + 0) + 0) (g0 3) (g0 5) (g0 7) (g0 9)) (g0 5) ∧ (g 7) = yq_xc ((1 * r 0 + 0) + 0) ((1 * r 1 + 0) + 0) ((1 * r 2 + 0) + 0) ((1 * r 3 + 0) + 0) ((1 * r 4 + 0) + 0) 2 (yq_at ((1 * r 0 + 0) + 0) ((1 * ((1 * r 6 + 0) + 0) + 0) + 0) ((1 * ((1 * r 9 + 0) + 0) + 0) + 0) ((1 * ((1 * r 12 + 0) + 0) + 0) + 0) ((1 * ((1 * r 15 + 0) + 0) + 0) + 0)) ((1 * ((1 * r 12 + 0) + 0) + 0) + 0) (yq_at ((1 * r 0 + 0) + 0) ((1 * ((1 * r 8 + 0) + 0) + 0) + 0) ((1 * ((1 * r 11 + 0) + 0) + 0) + 0) ((1 * ((1 * r 14 + 0) + 0) + 0) + 0) ((1 * ((1 * r 17 + 0) + 0) + 0) + 0)) ((1 * ((1 * r 14 + 0) + 0) + 0) + 0) ((1 * ((1 * r 13 + 0) + 0) + 0) + 0) (yq_fat ((1 * r 0 + 0) + 0) (g0 3) (g0 5) (g0 7) (g0 9)) (g0 7) ∧ (g 9) = yq_xc ((1 * r 0 + 0) + 0) ((1 * r 1 + 0) + 0) ((1 * r 2 + 0) + 0) ((1 * r 3 + 0) + 0) ((1 * r 4 + 0) + 0) 3 (yq_at ((1 * r 0 + 0) + 0) ((1 * ((1 * r 6 + 0) + 0) + 0) + 0) ((1 * ((1 * r 9 + 0) + 0) + 0) + 0) ((1 * ((1 * r 12 + 0) + 0) + 0) + 0) ((1 * ((1 * r 15 + 0) + 0) + 0) + 0)) ((1 * ((1 * r 15 + 0) + 0) + 0) + 0) (yq_at ((1 * r 0 + 0) + 0) ((1 * ((1 * r 8 + 0) + 0) + 0) + 0) ((1 * ((1 * r 11 + 0) + 0) + 0) + 0) ((1 * ((1 * r 14 + 0) + 0) + 0) + 0) ((1 * ((1 * r 17 + 0) + 0) + 0) + 0)) ((1 * ((1 * r 17 + 0) + 0) + 0) + 0) ((1 * ((1 * r 16 + 0) + 0) + 0) + 0) (yq_fat ((1 * r 0 + 0) + 0) (g0 3) (g0 5) (g0 7) (g0 9)) (g0 9)
  try simp only [Int.one_mul, Int.zero_add, Int.add_zero]
  try simp only [Int.one_mul, Int.zero_add, Int.add_zero] at e0
  refine ⟨?_, ?_, ?_, ?_, ?_⟩
  · rw [show r 0 = 3 by omega]
    rw [show r 2 = 1 by omega]
    simp only [yq_at1, yq_at3]
    unfold yq_cr
    repeat' split
    all_goals omega
  · rw [show r 0 = 3 by omega]
    simp only [yq_at3, yq_fat3]
    unfold yq_xc
    rw [if_neg (by omega)]
    rw [k0 3 (by decide), hgi]
  · rw [show r 0 = 3 by omega]
    simp only [yq_at3, yq_fat3]
    unfold yq_xc
    rw [if_pos (by omega), e0, hgi]
  · rw [show r 0 = 3 by omega]
    simp only [yq_at3, yq_fat3]
    unfold yq_xc
    rw [if_neg (by omega)]
    rw [k0 7 (by decide), hgi]
  · rw [show r 0 = 3 by omega]
    simp only [yq_at3, yq_fat3]
    unfold yq_xc
    rw [if_neg (by omega)]
    rw [k0 9 (by decide), hgi]
theorem xw_40_0_88 : yt_hold xT_40 xk_40 xq_40.2.2.1 xG_40 xP_40 xU_40 18 xk_40.2.1.2.2.2 (fun g0 r g => xR_40 r g0 ∧ g = g0) (1000, ([(3, 3), ((-2147483648), 2147483647), (1, 1), ((-2147483648), 2147483647), (0, 2147483647), ((-2147483648), 2147483647), (0, 1), ((-2147483648), 2147483647), (0, 100), (0, 0), ((-2147483648), 2147483647), (0, 100), (0, 1), ((-2147483648), 2147483647), (0, 100), (1, 1), ((-2147483648), 2147483647), (0, 100), ((-2147483648), 0)], []), [([], (-2)), ([(18, 1)], 0)], [], []) := by
  intro g0 r gi g hok hh hars hfr hG
  have b0 : 3 ≤ r 0 ∧ r 0 ≤ 3 := hok.1 0 (3, 3) rfl
  have b1 : (-2147483648) ≤ r 1 ∧ r 1 ≤ 2147483647 := hok.1 1 ((-2147483648), 2147483647) rfl
  have b2 : 1 ≤ r 2 ∧ r 2 ≤ 1 := hok.1 2 (1, 1) rfl
  have b3 : (-2147483648) ≤ r 3 ∧ r 3 ≤ 2147483647 := hok.1 3 ((-2147483648), 2147483647) rfl
  have b4 : 0 ≤ r 4 ∧ r 4 ≤ 2147483647 := hok.1 4 (0, 2147483647) rfl
  have b5 : (-2147483648) ≤ r 5 ∧ r 5 ≤ 2147483647 := hok.1 5 ((-2147483648), 2147483647) rfl
  have b6 : 0 ≤ r 6 ∧ r 6 ≤ 1 := hok.1 6 (0, 1) rfl
  have b7 : (-2147483648) ≤ r 7 ∧ r 7 ≤ 2147483647 := hok.1 7 ((-2147483648), 2147483647) rfl
  have b8 : 0 ≤ r 8 ∧ r 8 ≤ 100 := hok.1 8 (0, 100) rfl
  have b9 : 0 ≤ r 9 ∧ r 9 ≤ 0 := hok.1 9 (0, 0) rfl
  have b10 : (-2147483648) ≤ r 10 ∧ r 10 ≤ 2147483647 := hok.1 10 ((-2147483648), 2147483647) rfl
  have b11 : 0 ≤ r 11 ∧ r 11 ≤ 100 := hok.1 11 (0, 100) rfl
  have b12 : 0 ≤ r 12 ∧ r 12 ≤ 1 := hok.1 12 (0, 1) rfl
  have b13 : (-2147483648) ≤ r 13 ∧ r 13 ≤ 2147483647 := hok.1 13 ((-2147483648), 2147483647) rfl
  have b14 : 0 ≤ r 14 ∧ r 14 ≤ 100 := hok.1 14 (0, 100) rfl
  have b15 : 1 ≤ r 15 ∧ r 15 ≤ 1 := hok.1 15 (1, 1) rfl
  have b16 : (-2147483648) ≤ r 16 ∧ r 16 ≤ 2147483647 := hok.1 16 ((-2147483648), 2147483647) rfl
  have b17 : 0 ≤ r 17 ∧ r 17 ≤ 100 := hok.1 17 (0, 100) rfl
  have b18 : (-2147483648) ≤ r 18 ∧ r 18 ≤ 0 := hok.1 18 ((-2147483648), 0) rfl
  obtain ⟨hG, hgi⟩ := hG
  have hG : True := hG
  have hh : g = gi := hh
  subst hh
  refine yt_dalt (by decide) (by decide) ?_
  rw [show xk_40.2.1.2.1.1.length = 18 from rfl]
  show ((0 : Int) + (-2)) = yq_cr ((1 * r 0 + 0) + 0) ((1 * r 1 + 0) + 0) ((1 * r 2 + 0) + 0) ((1 * r 3 + 0) + 0) ((1 * r 4 + 0) + 0) (yq_at ((1 * r 0 + 0) + 0) ((1 * ((1 * r 6 + 0) + 0) + 0) + 0) ((1 * ((1 * r 9 + 0) + 0) + 0) + 0) ((1 * ((1 * r 12 + 0) + 0) + 0) + 0) ((1 * ((1 * r 15 + 0) + 0) + 0) + 0)) (yq_at ((1 * r 2 + 0) + 0) ((1 * ((1 * r 6 + 0) + 0) + 0) + 0) ((1 * ((1 * r 9 + 0) + 0) + 0) + 0) ((1 * ((1 * r 12 + 0) + 0) + 0) + 0) ((1 * ((1 * r 15 + 0) + 0) + 0) + 0)) (yq_at ((1 * r 0 + 0) + 0) ((1 * ((1 * r 8 + 0) + 0) + 0) + 0) ((1 * ((1 * r 11 + 0) + 0) + 0) + 0) ((1 * ((1 * r 14 + 0) + 0) + 0) + 0) ((1 * ((1 * r 17 + 0) + 0) + 0) + 0)) (yq_at ((1 * r 2 + 0) + 0) ((1 * ((1 * r 8 + 0) + 0) + 0) + 0) ((1 * ((1 * r 11 + 0) + 0) + 0) + 0) ((1 * ((1 * r 14 + 0) + 0) + 0) + 0) ((1 * ((1 * r 17 + 0) + 0) + 0) + 0)) ∧ (g 3) = yq_xc ((1 * r 0 + 0) + 0) ((1 * r 1 + 0) + 0) ((1 * r 2 + 0) + 0) ((1 * r 3 + 0) + 0) ((1 * r 4 + 0) + 0) 0 (yq_at ((1 * r 0 + 0) + 0) ((1 * ((1 * r 6 + 0) + 0) + 0) + 0) ((1 * ((1 * r 9 + 0) + 0) + 0) + 0) ((1 * ((1 * r 12 + 0) + 0) + 0) + 0) ((1 * ((1 * r 15 + 0) + 0) + 0) + 0)) ((1 * ((1 * r 6 + 0) + 0) + 0) + 0) (yq_at ((1 * r 0 + 0) + 0) ((1 * ((1 * r 8 + 0) + 0) + 0) + 0) ((1 * ((1 * r 11 + 0) + 0) + 0) + 0) ((1 * ((1 * r 14 + 0) + 0) + 0) + 0) ((1 * ((1 * r 17 + 0) + 0) + 0) + 0)) ((1 * ((1 * r 8 + 0) + 0) + 0) + 0) ((1 * ((1 * r 7 + 0) + 0) + 0) + 0) (yq_fat ((1 * r 0 + 0) + 0) (g0 3) (g0 5) (g0 7) (g0 9)) (g0 3) ∧ (g 5) = yq_xc ((1 * r 0 + 0) + 0) ((1 * r 1 + 0) + 0) ((1 * r 2 + 0) + 0) ((1 * r 3 + 0) + 0) ((1 * r 4 + 0) + 0) 1 (yq_at ((1 * r 0 + 0) + 0) ((1 * ((1 * r 6 + 0) + 0) + 0) + 0) ((1 * ((1 * r 9 + 0) + 0) + 0) + 0) ((1 * ((1 * r 12 + 0) + 0) + 0) + 0) ((1 * ((1 * r 15 + 0) + 0) + 0) + 0)) ((1 * ((1 * r 9 + 0) + 0) + 0) + 0) (yq_at ((1 * r 0 + 0) + 0) ((1 * ((1 * r 8 + 0) + 0) + 0) + 0) ((1 * ((1 * r 11 + 0) + 0) + 0) + 0) ((1 * ((1 * r 14 + 0) + 0) + 0) + 0) ((1 * ((1 * r 17 + 0) + 0) + 0) + 0)) ((1 * ((1 * r 11 + 0) + 0) + 0) + 0) ((1 * ((1 * r 10 + 0) + 0) + 0) + 0) (yq_fat ((1 * r 0 + 0) + 0) (g0 3) (g0 5) (g0 7) (g0 9)) (g0 5) ∧ (g 7) = yq_xc ((1 * r 0 + 0) + 0) ((1 * r 1 + 0) + 0) ((1 * r 2 + 0) + 0) ((1 * r 3 + 0) + 0) ((1 * r 4 + 0) + 0) 2 (yq_at ((1 * r 0 + 0) + 0) ((1 * ((1 * r 6 + 0) + 0) + 0) + 0) ((1 * ((1 * r 9 + 0) + 0) + 0) + 0) ((1 * ((1 * r 12 + 0) + 0) + 0) + 0) ((1 * ((1 * r 15 + 0) + 0) + 0) + 0)) ((1 * ((1 * r 12 + 0) + 0) + 0) + 0) (yq_at ((1 * r 0 + 0) + 0) ((1 * ((1 * r 8 + 0) + 0) + 0) + 0) ((1 * ((1 * r 11 + 0) + 0) + 0) + 0) ((1 * ((1 * r 14 + 0) + 0) + 0) + 0) ((1 * ((1 * r 17 + 0) + 0) + 0) + 0)) ((1 * ((1 * r 14 + 0) + 0) + 0) + 0) ((1 * ((1 * r 13 + 0) + 0) + 0) + 0) (yq_fat ((1 * r 0 + 0) + 0) (g0 3) (g0 5) (g0 7) (g0 9)) (g0 7) ∧ (g 9) = yq_xc ((1 * r 0 + 0) + 0) ((1 * r 1 + 0) + 0) ((1 * r 2 + 0) + 0) ((1 * r 3 + 0) + 0) ((1 * r 4 + 0) + 0) 3 (yq_at ((1 * r 0 + 0) + 0) ((1 * ((1 * r 6 + 0) + 0) + 0) + 0) ((1 * ((1 * r 9 + 0) + 0) + 0) + 0) ((1 * ((1 * r 12 + 0) + 0) + 0) + 0) ((1 * ((1 * r 15 + 0) + 0) + 0) + 0)) ((1 * ((1 * r 15 + 0) + 0) + 0) + 0) (yq_at ((1 * r 0 + 0) + 0) ((1 * ((1 * r 8 + 0) + 0) + 0) + 0) ((1 * ((1 * r 11 + 0) + 0) + 0) + 0) ((1 * ((1 * r 14 + 0) + 0) + 0) + 0) ((1 * ((1 * r 17 + 0) + 0) + 0) + 0)) ((1 * ((1 * r 17 + 0) + 0) + 0) + 0) ((1 * ((1 * r 16 + 0) + 0) + 0) + 0) (yq_fat ((1 * r 0 + 0) + 0) (g0 3) (g0 5) (g0 7) (g0 9)) (g0 9)
  try simp only [Int.one_mul, Int.zero_add, Int.add_zero]
  refine ⟨?_, ?_, ?_, ?_, ?_⟩
  · rw [show r 0 = 3 by omega]
    rw [show r 2 = 1 by omega]
    simp only [yq_at1, yq_at3]
    unfold yq_cr
    repeat' split
    all_goals omega
  · rw [show r 0 = 3 by omega]
    simp only [yq_at3, yq_fat3]
    unfold yq_xc
    rw [if_neg (by omega)]
    rw [hgi]
  · rw [show r 0 = 3 by omega]
    simp only [yq_at3, yq_fat3]
    unfold yq_xc
    rw [if_neg (by omega)]
    rw [hgi]
  · rw [show r 0 = 3 by omega]
    simp only [yq_at3, yq_fat3]
    unfold yq_xc
    rw [if_neg (by omega)]
    rw [hgi]
  · rw [show r 0 = 3 by omega]
    simp only [yq_at3, yq_fat3]
    unfold yq_xc
    rw [if_neg (by omega)]
    rw [hgi]
theorem xw_40_0_89 : yt_hold xT_40 xk_40 xq_40.2.2.1 xG_40 xP_40 xU_40 18 xk_40.2.1.2.2.2 (fun g0 r g => xR_40 r g0 ∧ g = g0) (1000, ([(3, 3), ((-2147483648), (-1)), (2, 2), ((-2147483648), 2147483647), (0, 2147483647), ((-2147483648), 2147483647), (0, 1), ((-2147483648), 2147483647), (0, 100), (0, 1), ((-2147483648), 2147483647), (0, 100), (1, 1), ((-2147483648), 2147483647), (0, 100), (1, 1), ((-2147483648), 2147483647), (0, 100), ((-2147483648), 0)], []), [([], (-3)), ([(18, 1)], 0)], [], []) := by
  intro g0 r gi g hok hh hars hfr hG
  have b0 : 3 ≤ r 0 ∧ r 0 ≤ 3 := hok.1 0 (3, 3) rfl
  have b1 : (-2147483648) ≤ r 1 ∧ r 1 ≤ (-1) := hok.1 1 ((-2147483648), (-1)) rfl
  have b2 : 2 ≤ r 2 ∧ r 2 ≤ 2 := hok.1 2 (2, 2) rfl
  have b3 : (-2147483648) ≤ r 3 ∧ r 3 ≤ 2147483647 := hok.1 3 ((-2147483648), 2147483647) rfl
  have b4 : 0 ≤ r 4 ∧ r 4 ≤ 2147483647 := hok.1 4 (0, 2147483647) rfl
  have b5 : (-2147483648) ≤ r 5 ∧ r 5 ≤ 2147483647 := hok.1 5 ((-2147483648), 2147483647) rfl
  have b6 : 0 ≤ r 6 ∧ r 6 ≤ 1 := hok.1 6 (0, 1) rfl
  have b7 : (-2147483648) ≤ r 7 ∧ r 7 ≤ 2147483647 := hok.1 7 ((-2147483648), 2147483647) rfl
  have b8 : 0 ≤ r 8 ∧ r 8 ≤ 100 := hok.1 8 (0, 100) rfl
  have b9 : 0 ≤ r 9 ∧ r 9 ≤ 1 := hok.1 9 (0, 1) rfl
  have b10 : (-2147483648) ≤ r 10 ∧ r 10 ≤ 2147483647 := hok.1 10 ((-2147483648), 2147483647) rfl
  have b11 : 0 ≤ r 11 ∧ r 11 ≤ 100 := hok.1 11 (0, 100) rfl
  have b12 : 1 ≤ r 12 ∧ r 12 ≤ 1 := hok.1 12 (1, 1) rfl
  have b13 : (-2147483648) ≤ r 13 ∧ r 13 ≤ 2147483647 := hok.1 13 ((-2147483648), 2147483647) rfl
  have b14 : 0 ≤ r 14 ∧ r 14 ≤ 100 := hok.1 14 (0, 100) rfl
  have b15 : 1 ≤ r 15 ∧ r 15 ≤ 1 := hok.1 15 (1, 1) rfl
  have b16 : (-2147483648) ≤ r 16 ∧ r 16 ≤ 2147483647 := hok.1 16 ((-2147483648), 2147483647) rfl
  have b17 : 0 ≤ r 17 ∧ r 17 ≤ 100 := hok.1 17 (0, 100) rfl
  have b18 : (-2147483648) ≤ r 18 ∧ r 18 ≤ 0 := hok.1 18 ((-2147483648), 0) rfl
  obtain ⟨hG, hgi⟩ := hG
  have hG : True := hG
  have hh : g = gi := hh
  subst hh
  refine yt_dalt (by decide) (by decide) ?_
  rw [show xk_40.2.1.2.1.1.length = 18 from rfl]
  show ((0 : Int) + (-3)) = yq_cr ((1 * r 0 + 0) + 0) ((1 * r 1 + 0) + 0) ((1 * r 2 + 0) + 0) ((1 * r 3 + 0) + 0) ((1 * r 4 + 0) + 0) (yq_at ((1 * r 0 + 0) + 0) ((1 * ((1 * r 6 + 0) + 0) + 0) + 0) ((1 * ((1 * r 9 + 0) + 0) + 0) + 0) ((1 * ((1 * r 12 + 0) + 0) + 0) + 0) ((1 * ((1 * r 15 + 0) + 0) + 0) + 0)) (yq_at ((1 * r 2 + 0) + 0) ((1 * ((1 * r 6 + 0) + 0) + 0) + 0) ((1 * ((1 * r 9 + 0) + 0) + 0) + 0) ((1 * ((1 * r 12 + 0) + 0) + 0) + 0) ((1 * ((1 * r 15 + 0) + 0) + 0) + 0)) (yq_at ((1 * r 0 + 0) + 0) ((1 * ((1 * r 8 + 0) + 0) + 0) + 0) ((1 * ((1 * r 11 + 0) + 0) + 0) + 0) ((1 * ((1 * r 14 + 0) + 0) + 0) + 0) ((1 * ((1 * r 17 + 0) + 0) + 0) + 0)) (yq_at ((1 * r 2 + 0) + 0) ((1 * ((1 * r 8 + 0) + 0) + 0) + 0) ((1 * ((1 * r 11 + 0) + 0) + 0) + 0) ((1 * ((1 * r 14 + 0) + 0) + 0) + 0) ((1 * ((1 * r 17 + 0) + 0) + 0) + 0)) ∧ (g 3) = yq_xc ((1 * r 0 + 0) + 0) ((1 * r 1 + 0) + 0) ((1 * r 2 + 0) + 0) ((1 * r 3 + 0) + 0) ((1 * r 4 + 0) + 0) 0 (yq_at ((1 * r 0 + 0) + 0) ((1 * ((1 * r 6 + 0) + 0) + 0) + 0) ((1 * ((1 * r 9 + 0) + 0) + 0) + 0) ((1 * ((1 * r 12 + 0) + 0) + 0) + 0) ((1 * ((1 * r 15 + 0) + 0) + 0) + 0)) ((1 * ((1 * r 6 + 0) + 0) + 0) + 0) (yq_at ((1 * r 0 + 0) + 0) ((1 * ((1 * r 8 + 0) + 0) + 0) + 0) ((1 * ((1 * r 11 + 0) + 0) + 0) + 0) ((1 * ((1 * r 14 + 0) + 0) + 0) + 0) ((1 * ((1 * r 17 + 0) + 0) + 0) + 0)) ((1 * ((1 * r 8 + 0) + 0) + 0) + 0) ((1 * ((1 * r 7 + 0) + 0) + 0) + 0) (yq_fat ((1 * r 0 + 0) + 0) (g0 3) (g0 5) (g0 7) (g0 9)) (g0 3) ∧ (g 5) = yq_xc ((1 * r 0 + 0) + 0) ((1 * r 1 + 0) + 0) ((1 * r 2 + 0) + 0) ((1 * r 3 + 0) + 0) ((1 * r 4 + 0) + 0) 1 (yq_at ((1 * r 0 + 0) + 0) ((1 * ((1 * r 6 + 0) + 0) + 0) + 0) ((1 * ((1 * r 9 + 0) + 0) + 0) + 0) ((1 * ((1 * r 12 + 0) + 0) + 0) + 0) ((1 * ((1 * r 15 + 0) + 0) + 0) + 0)) ((1 * ((1 * r 9 + 0) + 0) + 0) + 0) (yq_at ((1 * r 0 + 0) + 0) ((1 * ((1 * r 8 + 0) + 0) + 0) + 0) ((1 * ((1 * r 11 + 0) + 0) + 0) + 0) ((1 * ((1 * r 14 + 0) + 0) + 0) + 0) ((1 * ((1 * r 17 + 0) + 0) + 0) + 0)) ((1 * ((1 * r 11 + 0) + 0) + 0) + 0) ((1 * ((1 * r 10 + 0) + 0) + 0) + 0) (yq_fat ((1 * r 0 + 0) + 0) (g0 3) (g0 5) (g0 7) (g0 9)) (g0 5) ∧ (g 7) = yq_xc ((1 * r 0 + 0) + 0) ((1 * r 1 + 0) + 0) ((1 * r 2 + 0) + 0) ((1 * r 3 + 0) + 0) ((1 * r 4 + 0) + 0) 2 (yq_at ((1 * r 0 + 0) + 0) ((1 * ((1 * r 6 + 0) + 0) + 0) + 0) ((1 * ((1 * r 9 + 0) + 0) + 0) + 0) ((1 * ((1 * r 12 + 0) + 0) + 0) + 0) ((1 * ((1 * r 15 + 0) + 0) + 0) + 0)) ((1 * ((1 * r 12 + 0) + 0) + 0) + 0) (yq_at ((1 * r 0 + 0) + 0) ((1 * ((1 * r 8 + 0) + 0) + 0) + 0) ((1 * ((1 * r 11 + 0) + 0) + 0) + 0) ((1 * ((1 * r 14 + 0) + 0) + 0) + 0) ((1 * ((1 * r 17 + 0) + 0) + 0) + 0)) ((1 * ((1 * r 14 + 0) + 0) + 0) + 0) ((1 * ((1 * r 13 + 0) + 0) + 0) + 0) (yq_fat ((1 * r 0 + 0) + 0) (g0 3) (g0 5) (g0 7) (g0 9)) (g0 7) ∧ (g 9) = yq_xc ((1 * r 0 + 0) + 0) ((1 * r 1 + 0) + 0) ((1 * r 2 + 0) + 0) ((1 * r 3 + 0) + 0) ((1 * r 4 + 0) + 0) 3 (yq_at ((1 * r 0 + 0) + 0) ((1 * ((1 * r 6 + 0) + 0) + 0) + 0) ((1 * ((1 * r 9 + 0) + 0) + 0) + 0) ((1 * ((1 * r 12 + 0) + 0) + 0) + 0) ((1 * ((1 * r 15 + 0) + 0) + 0) + 0)) ((1 * ((1 * r 15 + 0) + 0) + 0) + 0) (yq_at ((1 * r 0 + 0) + 0) ((1 * ((1 * r 8 + 0) + 0) + 0) + 0) ((1 * ((1 * r 11 + 0) + 0) + 0) + 0) ((1 * ((1 * r 14 + 0) + 0) + 0) + 0) ((1 * ((1 * r 17 + 0) + 0) + 0) + 0)) ((1 * ((1 * r 17 + 0) + 0) + 0) + 0) ((1 * ((1 * r 16 + 0) + 0) + 0) + 0) (yq_fat ((1 * r 0 + 0) + 0) (g0 3) (g0 5) (g0 7) (g0 9)) (g0 9)
  try simp only [Int.one_mul, Int.zero_add, Int.add_zero]
  refine ⟨?_, ?_, ?_, ?_, ?_⟩
  · rw [show r 0 = 3 by omega]
    rw [show r 2 = 2 by omega]
    simp only [yq_at2, yq_at3]
    unfold yq_cr
    repeat' split
    all_goals omega
  · rw [show r 0 = 3 by omega]
    simp only [yq_at3, yq_fat3]
    unfold yq_xc
    rw [if_neg (by omega)]
    rw [hgi]
  · rw [show r 0 = 3 by omega]
    simp only [yq_at3, yq_fat3]
    unfold yq_xc
    rw [if_neg (by omega)]
    rw [hgi]
  · rw [show r 0 = 3 by omega]
    simp only [yq_at3, yq_fat3]
    unfold yq_xc
    rw [if_neg (by omega)]
    rw [hgi]
  · rw [show r 0 = 3 by omega]
    simp only [yq_at3, yq_fat3]
    unfold yq_xc
    rw [if_neg (by omega)]
    rw [hgi]
theorem xw_40_0_90 : yt_hold xT_40 xk_40 xq_40.2.2.1 xG_40 xP_40 xU_40 18 xk_40.2.1.2.2.2 (fun g0 r g => xR_40 r g0 ∧ g = g0) (1000, ([(3, 3), (0, 2147483647), (2, 2), ((-2147483648), 2147483647), (0, 2147483647), ((-2147483648), 2147483647), (0, 1), ((-2147483648), 2147483647), (0, 100), (0, 1), ((-2147483648), 2147483647), (0, 100), (1, 1), ((-2147483648), 2147483647), (0, 100), (1, 1), ((-2147483648), 2147483647), (0, 100), ((-2147483648), 0)], [([(1, 1), (17, (-1)), (4, 1)], (-1))]), [([], (-3)), ([(18, 1)], 0)], [], []) := by
  intro g0 r gi g hok hh hars hfr hG
  have b0 : 3 ≤ r 0 ∧ r 0 ≤ 3 := hok.1 0 (3, 3) rfl
  have b1 : 0 ≤ r 1 ∧ r 1 ≤ 2147483647 := hok.1 1 (0, 2147483647) rfl
  have b2 : 2 ≤ r 2 ∧ r 2 ≤ 2 := hok.1 2 (2, 2) rfl
  have b3 : (-2147483648) ≤ r 3 ∧ r 3 ≤ 2147483647 := hok.1 3 ((-2147483648), 2147483647) rfl
  have b4 : 0 ≤ r 4 ∧ r 4 ≤ 2147483647 := hok.1 4 (0, 2147483647) rfl
  have b5 : (-2147483648) ≤ r 5 ∧ r 5 ≤ 2147483647 := hok.1 5 ((-2147483648), 2147483647) rfl
  have b6 : 0 ≤ r 6 ∧ r 6 ≤ 1 := hok.1 6 (0, 1) rfl
  have b7 : (-2147483648) ≤ r 7 ∧ r 7 ≤ 2147483647 := hok.1 7 ((-2147483648), 2147483647) rfl
  have b8 : 0 ≤ r 8 ∧ r 8 ≤ 100 := hok.1 8 (0, 100) rfl
  have b9 : 0 ≤ r 9 ∧ r 9 ≤ 1 := hok.1 9 (0, 1) rfl
  have b10 : (-2147483648) ≤ r 10 ∧ r 10 ≤ 2147483647 := hok.1 10 ((-2147483648), 2147483647) rfl
  have b11 : 0 ≤ r 11 ∧ r 11 ≤ 100 := hok.1 11 (0, 100) rfl
  have b12 : 1 ≤ r 12 ∧ r 12 ≤ 1 := hok.1 12 (1, 1) rfl
  have b13 : (-2147483648) ≤ r 13 ∧ r 13 ≤ 2147483647 := hok.1 13 ((-2147483648), 2147483647) rfl
  have b14 : 0 ≤ r 14 ∧ r 14 ≤ 100 := hok.1 14 (0, 100) rfl
  have b15 : 1 ≤ r 15 ∧ r 15 ≤ 1 := hok.1 15 (1, 1) rfl
  have b16 : (-2147483648) ≤ r 16 ∧ r 16 ≤ 2147483647 := hok.1 16 ((-2147483648), 2147483647) rfl
  have b17 : 0 ≤ r 17 ∧ r 17 ≤ 100 := hok.1 17 (0, 100) rfl
  have b18 : (-2147483648) ≤ r 18 ∧ r 18 ≤ 0 := hok.1 18 ((-2147483648), 0) rfl
  have f0 : 0 ≤ ((1 * r 1 + ((-1) * r 17 + (1 * r 4 + 0))) + (-1)) := hok.2 _ (List.mem_of_getElem? (i := 0) rfl)
  obtain ⟨hG, hgi⟩ := hG
  have hG : True := hG
  have hh : g = gi := hh
  subst hh
  refine yt_dalt (by decide) (by decide) ?_
  rw [show xk_40.2.1.2.1.1.length = 18 from rfl]
  show ((0 : Int) + (-3)) = yq_cr ((1 * r 0 + 0) + 0) ((1 * r 1 + 0) + 0) ((1 * r 2 + 0) + 0) ((1 * r 3 + 0) + 0) ((1 * r 4 + 0) + 0) (yq_at ((1 * r 0 + 0) + 0) ((1 * ((1 * r 6 + 0) + 0) + 0) + 0) ((1 * ((1 * r 9 + 0) + 0) + 0) + 0) ((1 * ((1 * r 12 + 0) + 0) + 0) + 0) ((1 * ((1 * r 15 + 0) + 0) + 0) + 0)) (yq_at ((1 * r 2 + 0) + 0) ((1 * ((1 * r 6 + 0) + 0) + 0) + 0) ((1 * ((1 * r 9 + 0) + 0) + 0) + 0) ((1 * ((1 * r 12 + 0) + 0) + 0) + 0) ((1 * ((1 * r 15 + 0) + 0) + 0) + 0)) (yq_at ((1 * r 0 + 0) + 0) ((1 * ((1 * r 8 + 0) + 0) + 0) + 0) ((1 * ((1 * r 11 + 0) + 0) + 0) + 0) ((1 * ((1 * r 14 + 0) + 0) + 0) + 0) ((1 * ((1 * r 17 + 0) + 0) + 0) + 0)) (yq_at ((1 * r 2 + 0) + 0) ((1 * ((1 * r 8 + 0) + 0) + 0) + 0) ((1 * ((1 * r 11 + 0) + 0) + 0) + 0) ((1 * ((1 * r 14 + 0) + 0) + 0) + 0) ((1 * ((1 * r 17 + 0) + 0) + 0) + 0)) ∧ (g 3) = yq_xc ((1 * r 0 + 0) + 0) ((1 * r 1 + 0) + 0) ((1 * r 2 + 0) + 0) ((1 * r 3 + 0) + 0) ((1 * r 4 + 0) + 0) 0 (yq_at ((1 * r 0 + 0) + 0) ((1 * ((1 * r 6 + 0) + 0) + 0) + 0) ((1 * ((1 * r 9 + 0) + 0) + 0) + 0) ((1 * ((1 * r 12 + 0) + 0) + 0) + 0) ((1 * ((1 * r 15 + 0) + 0) + 0) + 0)) ((1 * ((1 * r 6 + 0) + 0) + 0) + 0) (yq_at ((1 * r 0 + 0) + 0) ((1 * ((1 * r 8 + 0) + 0) + 0) + 0) ((1 * ((1 * r 11 + 0) + 0) + 0) + 0) ((1 * ((1 * r 14 + 0) + 0) + 0) + 0) ((1 * ((1 * r 17 + 0) + 0) + 0) + 0)) ((1 * ((1 * r 8 + 0) + 0) + 0) + 0) ((1 * ((1 * r 7 + 0) + 0) + 0) + 0) (yq_fat ((1 * r 0 + 0) + 0) (g0 3) (g0 5) (g0 7) (g0 9)) (g0 3) ∧ (g 5) = yq_xc ((1 * r 0 + 0) + 0) ((1 * r 1 + 0) + 0) ((1 * r 2 + 0) + 0) ((1 * r 3 + 0) + 0) ((1 * r 4 + 0) + 0) 1 (yq_at ((1 * r 0 + 0) + 0) ((1 * ((1 * r 6 + 0) + 0) + 0) + 0) ((1 * ((1 * r 9 + 0) + 0) + 0) + 0) ((1 * ((1 * r 12 + 0) + 0) + 0) + 0) ((1 * ((1 * r 15 + 0) + 0) + 0) + 0)) ((1 * ((1 * r 9 + 0) + 0) + 0) + 0) (yq_at ((1 * r 0 + 0) + 0) ((1 * ((1 * r 8 + 0) + 0) + 0) + 0) ((1 * ((1 * r 11 + 0) + 0) + 0) + 0) ((1 * ((1 * r 14 + 0) + 0) + 0) + 0) ((1 * ((1 * r 17 + 0) + 0) + 0) + 0)) ((1 * ((1 * r 11 + 0) + 0) + 0) + 0) ((1 * ((1 * r 10 + 0) + 0) + 0) + 0) (yq_fat ((1 * r 0 + 0) + 0) (g0 3) (g0 5) (g0 7) (g0 9)) (g0 5) ∧ (g 7) = yq_xc ((1 * r 0 + 0) + 0) ((1 * r 1 + 0) + 0) ((1 * r 2 + 0) + 0) ((1 * r 3 + 0) + 0) ((1 * r 4 + 0) + 0) 2 (yq_at ((1 * r 0 + 0) + 0) ((1 * ((1 * r 6 + 0) + 0) + 0) + 0) ((1 * ((1 * r 9 + 0) + 0) + 0) + 0) ((1 * ((1 * r 12 + 0) + 0) + 0) + 0) ((1 * ((1 * r 15 + 0) + 0) + 0) + 0)) ((1 * ((1 * r 12 + 0) + 0) + 0) + 0) (yq_at ((1 * r 0 + 0) + 0) ((1 * ((1 * r 8 + 0) + 0) + 0) + 0) ((1 * ((1 * r 11 + 0) + 0) + 0) + 0) ((1 * ((1 * r 14 + 0) + 0) + 0) + 0) ((1 * ((1 * r 17 + 0) + 0) + 0) + 0)) ((1 * ((1 * r 14 + 0) + 0) + 0) + 0) ((1 * ((1 * r 13 + 0) + 0) + 0) + 0) (yq_fat ((1 * r 0 + 0) + 0) (g0 3) (g0 5) (g0 7) (g0 9)) (g0 7) ∧ (g 9) = yq_xc ((1 * r 0 + 0) + 0) ((1 * r 1 + 0) + 0) ((1 * r 2 + 0) + 0) ((1 * r 3 + 0) + 0) ((1 * r 4 + 0) + 0) 3 (yq_at ((1 * r 0 + 0) + 0) ((1 * ((1 * r 6 + 0) + 0) + 0) + 0) ((1 * ((1 * r 9 + 0) + 0) + 0) + 0) ((1 * ((1 * r 12 + 0) + 0) + 0) + 0) ((1 * ((1 * r 15 + 0) + 0) + 0) + 0)) ((1 * ((1 * r 15 + 0) + 0) + 0) + 0) (yq_at ((1 * r 0 + 0) + 0) ((1 * ((1 * r 8 + 0) + 0) + 0) + 0) ((1 * ((1 * r 11 + 0) + 0) + 0) + 0) ((1 * ((1 * r 14 + 0) + 0) + 0) + 0) ((1 * ((1 * r 17 + 0) + 0) + 0) + 0)) ((1 * ((1 * r 17 + 0) + 0) + 0) + 0) ((1 * ((1 * r 16 + 0) + 0) + 0) + 0) (yq_fat ((1 * r 0 + 0) + 0) (g0 3) (g0 5) (g0 7) (g0 9)) (g0 9)
  try simp only [Int.one_mul, Int.zero_add, Int.add_zero]
  refine ⟨?_, ?_, ?_, ?_, ?_⟩
  · rw [show r 0 = 3 by omega]
    rw [show r 2 = 2 by omega]
    simp only [yq_at2, yq_at3]
    unfold yq_cr
    repeat' split
    all_goals omega
  · rw [show r 0 = 3 by omega]
    simp only [yq_at3, yq_fat3]
    unfold yq_xc
    rw [if_neg (by omega)]
    rw [hgi]
  · rw [show r 0 = 3 by omega]
    simp only [yq_at3, yq_fat3]
    unfold yq_xc
    rw [if_neg (by omega)]
    rw [hgi]
  · rw [show r 0 = 3 by omega]
    simp only [yq_at3, yq_fat3]
    unfold yq_xc
    rw [if_neg (by omega)]
    rw [hgi]
  · rw [show r 0 = 3 by omega]
    simp only [yq_at3, yq_fat3]
    unfold yq_xc
    rw [if_neg (by omega)]
    rw [hgi]
theorem xw_40_0_91 : yt_hold xT_40 xk_40 xq_40.2.2.1 xG_40 xP_40 xU_40 18 xk_40.2.1.2.2.2 (fun g0 r g => xR_40 r g0 ∧ g = g0) (1000, ([(3, 3), (0, 100), (2, 2), ((-2147483648), (-1)), (0, 100), ((-2147483648), 2147483647), (0, 1), ((-2147483648), 2147483647), (0, 100), (0, 1), ((-2147483648), 2147483647), (0, 100), (1, 1), ((-2147483648), 2147483647), (0, 100), (1, 1), ((-2147483648), 2147483647), (0, 100), ((-2147483648), 0)], [([(1, (-1)), (17, 1), (4, (-1))], 0)]), [([], (-3)), ([(18, 1)], 0)], [], []) := by
  intro g0 r gi g hok hh hars hfr hG
  have b0 : 3 ≤ r 0 ∧ r 0 ≤ 3 := hok.1 0 (3, 3) rfl
  have b1 : 0 ≤ r 1 ∧ r 1 ≤ 100 := hok.1 1 (0, 100) rfl
  have b2 : 2 ≤ r 2 ∧ r 2 ≤ 2 := hok.1 2 (2, 2) rfl
  have b3 : (-2147483648) ≤ r 3 ∧ r 3 ≤ (-1) := hok.1 3 ((-2147483648), (-1)) rfl
  have b4 : 0 ≤ r 4 ∧ r 4 ≤ 100 := hok.1 4 (0, 100) rfl
  have b5 : (-2147483648) ≤ r 5 ∧ r 5 ≤ 2147483647 := hok.1 5 ((-2147483648), 2147483647) rfl
  have b6 : 0 ≤ r 6 ∧ r 6 ≤ 1 := hok.1 6 (0, 1) rfl
  have b7 : (-2147483648) ≤ r 7 ∧ r 7 ≤ 2147483647 := hok.1 7 ((-2147483648), 2147483647) rfl
  have b8 : 0 ≤ r 8 ∧ r 8 ≤ 100 := hok.1 8 (0, 100) rfl
  have b9 : 0 ≤ r 9 ∧ r 9 ≤ 1 := hok.1 9 (0, 1) rfl
  have b10 : (-2147483648) ≤ r 10 ∧ r 10 ≤ 2147483647 := hok.1 10 ((-2147483648), 2147483647) rfl
  have b11 : 0 ≤ r 11 ∧ r 11 ≤ 100 := hok.1 11 (0, 100) rfl
  have b12 : 1 ≤ r 12 ∧ r 12 ≤ 1 := hok.1 12 (1, 1) rfl
  have b13 : (-2147483648) ≤ r 13 ∧ r 13 ≤ 2147483647 := hok.1 13 ((-2147483648), 2147483647) rfl
  have b14 : 0 ≤ r 14 ∧ r 14 ≤ 100 := hok.1 14 (0, 100) rfl
  have b15 : 1 ≤ r 15 ∧ r 15 ≤ 1 := hok.1 15 (1, 1) rfl
  have b16 : (-2147483648) ≤ r 16 ∧ r 16 ≤ 2147483647 := hok.1 16 ((-2147483648), 2147483647) rfl
  have b17 : 0 ≤ r 17 ∧ r 17 ≤ 100 := hok.1 17 (0, 100) rfl
  have b18 : (-2147483648) ≤ r 18 ∧ r 18 ≤ 0 := hok.1 18 ((-2147483648), 0) rfl
  have f0 : 0 ≤ (((-1) * r 1 + (1 * r 17 + ((-1) * r 4 + 0))) + 0) := hok.2 _ (List.mem_of_getElem? (i := 0) rfl)
  obtain ⟨hG, hgi⟩ := hG
  have hG : True := hG
  have hh : g = gi := hh
  subst hh
  refine yt_dalt (by decide) (by decide) ?_
  rw [show xk_40.2.1.2.1.1.length = 18 from rfl]
  show ((0 : Int) + (-3)) = yq_cr ((1 * r 0 + 0) + 0) ((1 * r 1 + 0) + 0) ((1 * r 2 + 0) + 0) ((1 * r 3 + 0) + 0) ((1 * r 4 + 0) + 0) (yq_at ((1 * r 0 + 0) + 0) ((1 * ((1 * r 6 + 0) + 0) + 0) + 0) ((1 * ((1 * r 9 + 0) + 0) + 0) + 0) ((1 * ((1 * r 12 + 0) + 0) + 0) + 0) ((1 * ((1 * r 15 + 0) + 0) + 0) + 0)) (yq_at ((1 * r 2 + 0) + 0) ((1 * ((1 * r 6 + 0) + 0) + 0) + 0) ((1 * ((1 * r 9 + 0) + 0) + 0) + 0) ((1 * ((1 * r 12 + 0) + 0) + 0) + 0) ((1 * ((1 * r 15 + 0) + 0) + 0) + 0)) (yq_at ((1 * r 0 + 0) + 0) ((1 * ((1 * r 8 + 0) + 0) + 0) + 0) ((1 * ((1 * r 11 + 0) + 0) + 0) + 0) ((1 * ((1 * r 14 + 0) + 0) + 0) + 0) ((1 * ((1 * r 17 + 0) + 0) + 0) + 0)) (yq_at ((1 * r 2 + 0) + 0) ((1 * ((1 * r 8 + 0) + 0) + 0) + 0) ((1 * ((1 * r 11 + 0) + 0) + 0) + 0) ((1 * ((1 * r 14 + 0) + 0) + 0) + 0) ((1 * ((1 * r 17 + 0) + 0) + 0) + 0)) ∧ (g 3) = yq_xc ((1 * r 0 + 0) + 0) ((1 * r 1 + 0) + 0) ((1 * r 2 + 0) + 0) ((1 * r 3 + 0) + 0) ((1 * r 4 + 0) + 0) 0 (yq_at ((1 * r 0 + 0) + 0) ((1 * ((1 * r 6 + 0) + 0) + 0) + 0) ((1 * ((1 * r 9 + 0) + 0) + 0) + 0) ((1 * ((1 * r 12 + 0) + 0) + 0) + 0) ((1 * ((1 * r 15 + 0) + 0) + 0) + 0)) ((1 * ((1 * r 6 + 0) + 0) + 0) + 0) (yq_at ((1 * r 0 + 0) + 0) ((1 * ((1 * r 8 + 0) + 0) + 0) + 0) ((1 * ((1 * r 11 + 0) + 0) + 0) + 0) ((1 * ((1 * r 14 + 0) + 0) + 0) + 0) ((1 * ((1 * r 17 + 0) + 0) + 0) + 0)) ((1 * ((1 * r 8 + 0) + 0) + 0) + 0) ((1 * ((1 * r 7 + 0) + 0) + 0) + 0) (yq_fat ((1 * r 0 + 0) + 0) (g0 3) (g0 5) (g0 7) (g0 9)) (g0 3) ∧ (g 5) = yq_xc ((1 * r 0 + 0) + 0) ((1 * r 1 + 0) + 0) ((1 * r 2 + 0) + 0) ((1 * r 3 + 0) + 0) ((1 * r 4 + 0) + 0) 1 (yq_at ((1 * r 0 + 0) + 0) ((1 * ((1 * r 6 + 0) + 0) + 0) + 0) ((1 * ((1 * r 9 + 0) + 0) + 0) + 0) ((1 * ((1 * r 12 + 0) + 0) + 0) + 0) ((1 * ((1 * r 15 + 0) + 0) + 0) + 0)) ((1 * ((1 * r 9 + 0) + 0) + 0) + 0) (yq_at ((1 * r 0 + 0) + 0) ((1 * ((1 * r 8 + 0) + 0) + 0) + 0) ((1 * ((1 * r 11 + 0) + 0) + 0) + 0) ((1 * ((1 * r 14 + 0) + 0) + 0) + 0) ((1 * ((1 * r 17 + 0) + 0) + 0) + 0)) ((1 * ((1 * r 11 + 0) + 0) + 0) + 0) ((1 * ((1 * r 10 + 0) + 0) + 0) + 0) (yq_fat ((1 * r 0 + 0) + 0) (g0 3) (g0 5) (g0 7) (g0 9)) (g0 5) ∧ (g 7) = yq_xc ((1 * r 0 + 0) + 0) ((1 * r 1 + 0) + 0) ((1 * r 2 + 0) + 0) ((1 * r 3 + 0) + 0) ((1 * r 4 + 0) + 0) 2 (yq_at ((1 * r 0 + 0) + 0) ((1 * ((1 * r 6 + 0) + 0) + 0) + 0) ((1 * ((1 * r 9 + 0) + 0) + 0) + 0) ((1 * ((1 * r 12 + 0) + 0) + 0) + 0) ((1 * ((1 * r 15 + 0) + 0) + 0) + 0)) ((1 * ((1 * r 12 + 0) + 0) + 0) + 0) (yq_at ((1 * r 0 + 0) + 0) ((1 * ((1 * r 8 + 0) + 0) + 0) + 0) ((1 * ((1 * r 11 + 0) + 0) + 0) + 0) ((1 * ((1 * r 14 + 0) + 0) + 0) + 0) ((1 * ((1 * r 17 + 0) + 0) + 0) + 0)) ((1 * ((1 * r 14 + 0) + 0) + 0) + 0) ((1 * ((1 * r 13 + 0) + 0) + 0) + 0) (yq_fat ((1 * r 0 + 0) + 0) (g0 3) (g0 5) (g0 7) (g0 9)) (g0 7) ∧ (g 9) = yq_xc ((1 * r 0 + 0) + 0) ((1 * r 1 + 0) + 0) ((1 * r 2 + 0) + 0) ((1 * r 3 + 0) + 0) ((1 * r 4 + 0) + 0) 3 (yq_at ((1 * r 0 + 0) + 0) ((1 * ((1 * r 6 + 0) + 0) + 0) + 0) ((1 * ((1 * r 9 + 0) + 0) + 0) + 0) ((1 * ((1 * r 12 + 0) + 0) + 0) + 0) ((1 * ((1 * r 15 + 0) + 0) + 0) + 0)) ((1 * ((1 * r 15 + 0) + 0) + 0) + 0) (yq_at ((1 * r 0 + 0) + 0) ((1 * ((1 * r 8 + 0) + 0) + 0) + 0) ((1 * ((1 * r 11 + 0) + 0) + 0) + 0) ((1 * ((1 * r 14 + 0) + 0) + 0) + 0) ((1 * ((1 * r 17 + 0) + 0) + 0) + 0)) ((1 * ((1 * r 17 + 0) + 0) + 0) + 0) ((1 * ((1 * r 16 + 0) + 0) + 0) + 0) (yq_fat ((1 * r 0 + 0) + 0) (g0 3) (g0 5) (g0 7) (g0 9)) (g0 9)
  try simp only [Int.one_mul, Int.zero_add, Int.add_zero]
  refine ⟨?_, ?_, ?_, ?_, ?_⟩
  · rw [show r 0 = 3 by omega]
    rw [show r 2 = 2 by omega]
    simp only [yq_at2, yq_at3]
    unfold yq_cr
    repeat' split
    all_goals omega
  · rw [show r 0 = 3 by omega]
    simp only [yq_at3, yq_fat3]
    unfold yq_xc
    rw [if_neg (by omega)]
    rw [hgi]
  · rw [show r 0 = 3 by omega]
    simp only [yq_at3, yq_fat3]
    unfold yq_xc
    rw [if_neg (by omega)]
    rw [hgi]
  · rw [show r 0 = 3 by omega]
    simp only [yq_at3, yq_fat3]
    unfold yq_xc
    rw [if_neg (by omega)]
    rw [hgi]
  · rw [show r 0 = 3 by omega]
    simp only [yq_at3, yq_fat3]
    unfold yq_xc
    rw [if_neg (by omega)]
    rw [hgi]
theorem xw_40_0_92 : yt_hold xT_40 xk_40 xq_40.2.2.1 xG_40 xP_40 xU_40 18 xk_40.2.1.2.2.2 (fun g0 r g => xR_40 r g0 ∧ g = g0) (1000, ([(3, 3), (0, 100), (2, 2), (0, 2147483647), (0, 100), ((-2147483648), 2147483647), (0, 1), ((-2147483648), 2147483647), (0, 100), (0, 1), ((-2147483648), 2147483647), (0, 100), (1, 1), ((-2147483648), 2147483647), (0, 100), (1, 1), ((-2147483648), 2147483647), (0, 100), ((-2147483648), 0)], [([(3, 1), (14, (-1)), (4, 1)], (-1)), ([(1, (-1)), (17, 1), (4, (-1))], 0)]), [([], (-3)), ([(18, 1)], 0)], [], []) := by
  intro g0 r gi g hok hh hars hfr hG
  have b0 : 3 ≤ r 0 ∧ r 0 ≤ 3 := hok.1 0 (3, 3) rfl
  have b1 : 0 ≤ r 1 ∧ r 1 ≤ 100 := hok.1 1 (0, 100) rfl
  have b2 : 2 ≤ r 2 ∧ r 2 ≤ 2 := hok.1 2 (2, 2) rfl
  have b3 : 0 ≤ r 3 ∧ r 3 ≤ 2147483647 := hok.1 3 (0, 2147483647) rfl
  have b4 : 0 ≤ r 4 ∧ r 4 ≤ 100 := hok.1 4 (0, 100) rfl
  have b5 : (-2147483648) ≤ r 5 ∧ r 5 ≤ 2147483647 := hok.1 5 ((-2147483648), 2147483647) rfl
  have b6 : 0 ≤ r 6 ∧ r 6 ≤ 1 := hok.1 6 (0, 1) rfl
  have b7 : (-2147483648) ≤ r 7 ∧ r 7 ≤ 2147483647 := hok.1 7 ((-2147483648), 2147483647) rfl
  have b8 : 0 ≤ r 8 ∧ r 8 ≤ 100 := hok.1 8 (0, 100) rfl
  have b9 : 0 ≤ r 9 ∧ r 9 ≤ 1 := hok.1 9 (0, 1) rfl
  have b10 : (-2147483648) ≤ r 10 ∧ r 10 ≤ 2147483647 := hok.1 10 ((-2147483648), 2147483647) rfl
  have b11 : 0 ≤ r 11 ∧ r 11 ≤ 100 := hok.1 11 (0, 100) rfl
  have b12 : 1 ≤ r 12 ∧ r 12 ≤ 1 := hok.1 12 (1, 1) rfl
  have b13 : (-2147483648) ≤ r 13 ∧ r 13 ≤ 2147483647 := hok.1 13 ((-2147483648), 2147483647) rfl
  have b14 : 0 ≤ r 14 ∧ r 14 ≤ 100 := hok.1 14 (0, 100) rfl
  have b15 : 1 ≤ r 15 ∧ r 15 ≤ 1 := hok.1 15 (1, 1) rfl
  have b16 : (-2147483648) ≤ r 16 ∧ r 16 ≤ 2147483647 := hok.1 16 ((-2147483648), 2147483647) rfl
  have b17 : 0 ≤ r 17 ∧ r 17 ≤ 100 := hok.1 17 (0, 100) rfl
  have b18 : (-2147483648) ≤ r 18 ∧ r 18 ≤ 0 := hok.1 18 ((-2147483648), 0) rfl
  have f0 : 0 ≤ ((1 * r 3 + ((-1) * r 14 + (1 * r 4 + 0))) + (-1)) := hok.2 _ (List.mem_of_getElem? (i := 0) rfl)
  have f1 : 0 ≤ (((-1) * r 1 + (1 * r 17 + ((-1) * r 4 + 0))) + 0) := hok.2 _ (List.mem_of_getElem? (i := 1) rfl)
  obtain ⟨hG, hgi⟩ := hG
  have hG : True := hG
  have hh : g = gi := hh
  subst hh
  refine yt_dalt (by decide) (by decide) ?_
  rw [show xk_40.2.1.2.1.1.length = 18 from rfl]
  show ((0 : Int) + (-3)) = yq_cr ((1 * r 0 + 0) + 0) ((1 * r 1 + 0) + 0) ((1 * r 2 + 0) + 0) ((1 * r 3 + 0) + 0) ((1 * r 4 + 0) + 0) (yq_at ((1 * r 0 + 0) + 0) ((1 * ((1 * r 6 + 0) + 0) + 0) + 0) ((1 * ((1 * r 9 + 0) + 0) + 0) + 0) ((1 * ((1 * r 12 + 0) + 0) + 0) + 0) ((1 * ((1 * r 15 + 0) + 0) + 0) + 0)) (yq_at ((1 * r 2 + 0) + 0) ((1 * ((1 * r 6 + 0) + 0) + 0) + 0) ((1 * ((1 * r 9 + 0) + 0) + 0) + 0) ((1 * ((1 * r 12 + 0) + 0) + 0) + 0) ((1 * ((1 * r 15 + 0) + 0) + 0) + 0)) (yq_at ((1 * r 0 + 0) + 0) ((1 * ((1 * r 8 + 0) + 0) + 0) + 0) ((1 * ((1 * r 11 + 0) + 0) + 0) + 0) ((1 * ((1 * r 14 + 0) + 0) + 0) + 0) ((1 * ((1 * r 17 + 0) + 0) + 0) + 0)) (yq_at ((1 * r 2 + 0) + 0) ((1 * ((1 * r 8 + 0) + 0) + 0) + 0) ((1 * ((1 * r 11 + 0) + 0) + 0) + 0) ((1 * ((1 * r 14 + 0) + 0) + 0) + 0) ((1 * ((1 * r 17 + 0) + 0) + 0) + 0)) ∧ (g 3) = yq_xc ((1 * r 0 + 0) + 0) ((1 * r 1 + 0) + 0) ((1 * r 2 + 0) + 0) ((1 * r 3 + 0) + 0) ((1 * r 4 + 0) + 0) 0 (yq_at ((1 * r 0 + 0) + 0) ((1 * ((1 * r 6 + 0) + 0) + 0) + 0) ((1 * ((1 * r 9 + 0) + 0) + 0) + 0) ((1 * ((1 * r 12 + 0) + 0) + 0) + 0) ((1 * ((1 * r 15 + 0) + 0) + 0) + 0)) ((1 * ((1 * r 6 + 0) + 0) + 0) + 0) (yq_at ((1 * r 0 + 0) + 0) ((1 * ((1 * r 8 + 0) + 0) + 0) + 0) ((1 * ((1 * r 11 + 0) + 0) + 0) + 0) ((1 * ((1 * r 14 + 0) + 0) + 0) + 0) ((1 * ((1 * r 17 + 0) + 0) + 0) + 0)) ((1 * ((1 * r 8 + 0) + 0) + 0) + 0) ((1 * ((1 * r 7 + 0) + 0) + 0) + 0) (yq_fat ((1 * r 0 + 0) + 0) (g0 3) (g0 5) (g0 7) (g0 9)) (g0 3) ∧ (g 5) = yq_xc ((1 * r 0 + 0) + 0) ((1 * r 1 + 0) + 0) ((1 * r 2 + 0) + 0) ((1 * r 3 + 0) + 0) ((1 * r 4 + 0) + 0) 1 (yq_at ((1 * r 0 + 0) + 0) ((1 * ((1 * r 6 + 0) + 0) + 0) + 0) ((1 * ((1 * r 9 + 0) + 0) + 0) + 0) ((1 * ((1 * r 12 + 0) + 0) + 0) + 0) ((1 * ((1 * r 15 + 0) + 0) + 0) + 0)) ((1 * ((1 * r 9 + 0) + 0) + 0) + 0) (yq_at ((1 * r 0 + 0) + 0) ((1 * ((1 * r 8 + 0) + 0) + 0) + 0) ((1 * ((1 * r 11 + 0) + 0) + 0) + 0) ((1 * ((1 * r 14 + 0) + 0) + 0) + 0) ((1 * ((1 * r 17 + 0) + 0) + 0) + 0)) ((1 * ((1 * r 11 + 0) + 0) + 0) + 0) ((1 * ((1 * r 10 + 0) + 0) + 0) + 0) (yq_fat ((1 * r 0 + 0) + 0) (g0 3) (g0 5) (g0 7) (g0 9)) (g0 5) ∧ (g 7) = yq_xc ((1 * r 0 + 0) + 0) ((1 * r 1 + 0) + 0) ((1 * r 2 + 0) + 0) ((1 * r 3 + 0) + 0) ((1 * r 4 + 0) + 0) 2 (yq_at ((1 * r 0 + 0) + 0) ((1 * ((1 * r 6 + 0) + 0) + 0) + 0) ((1 * ((1 * r 9 + 0) + 0) + 0) + 0) ((1 * ((1 * r 12 + 0) + 0) + 0) + 0) ((1 * ((1 * r 15 + 0) + 0) + 0) + 0)) ((1 * ((1 * r 12 + 0) + 0) + 0) + 0) (yq_at ((1 * r 0 + 0) + 0) ((1 * ((1 * r 8 + 0) + 0) + 0) + 0) ((1 * ((1 * r 11 + 0) + 0) + 0) + 0) ((1 * ((1 * r 14 + 0) + 0) + 0) + 0) ((1 * ((1 * r 17 + 0) + 0) + 0) + 0)) ((1 * ((1 * r 14 + 0) + 0) + 0) + 0) ((1 * ((1 * r 13 + 0) + 0) + 0) + 0) (yq_fat ((1 * r 0 + 0) + 0) (g0 3) (g0 5) (g0 7) (g0 9)) (g0 7) ∧ (g 9) = yq_xc ((1 * r 0 + 0) + 0) ((1 * r 1 + 0) + 0) ((1 * r 2 + 0) + 0) ((1 * r 3 + 0) + 0) ((1 * r 4 + 0) + 0) 3 (yq_at ((1 * r 0 + 0) + 0) ((1 * ((1 * r 6 + 0) + 0) + 0) + 0) ((1 * ((1 * r 9 + 0) + 0) + 0) + 0) ((1 * ((1 * r 12 + 0) + 0) + 0) + 0) ((1 * ((1 * r 15 + 0) + 0) + 0) + 0)) ((1 * ((1 * r 15 + 0) + 0) + 0) + 0) (yq_at ((1 * r 0 + 0) + 0) ((1 * ((1 * r 8 + 0) + 0) + 0) + 0) ((1 * ((1 * r 11 + 0) + 0) + 0) + 0) ((1 * ((1 * r 14 + 0) + 0) + 0) + 0) ((1 * ((1 * r 17 + 0) + 0) + 0) + 0)) ((1 * ((1 * r 17 + 0) + 0) + 0) + 0) ((1 * ((1 * r 16 + 0) + 0) + 0) + 0) (yq_fat ((1 * r 0 + 0) + 0) (g0 3) (g0 5) (g0 7) (g0 9)) (g0 9)
  try simp only [Int.one_mul, Int.zero_add, Int.add_zero]
  refine ⟨?_, ?_, ?_, ?_, ?_⟩
  · rw [show r 0 = 3 by omega]
    rw [show r 2 = 2 by omega]
    simp only [yq_at2, yq_at3]
    unfold yq_cr
    repeat' split
    all_goals omega
  · rw [show r 0 = 3 by omega]
    simp only [yq_at3, yq_fat3]
    unfold yq_xc
    rw [if_neg (by omega)]
    rw [hgi]
  · rw [show r 0 = 3 by omega]
    simp only [yq_at3, yq_fat3]
    unfold yq_xc
    rw [if_neg (by omega)]
    rw [hgi]
  · rw [show r 0 = 3 by omega]
    simp only [yq_at3, yq_fat3]
    unfold yq_xc
    rw [if_neg (by omega)]
    rw [hgi]
  · rw [show r 0 = 3 by omega]
    simp only [yq_at3, yq_fat3]
    unfold yq_xc
    rw [if_neg (by omega)]
    rw [hgi]
theorem xw_40_0_93 : yt_hold xT_40 xk_40 xq_40.2.2.1 xG_40 xP_40 xU_40 18 xk_40.2.1.2.2.2 (fun g0 r g => xR_40 r g0 ∧ g = g0) (1000, ([(3, 3), (0, 100), (2, 2), (0, 100), (0, 100), ((-2147483648), 2147483647), (0, 1), ((-2147483648), 2147483647), (0, 100), (0, 1), ((-2147483648), 2147483647), (0, 100), (1, 1), ((-2147483648), 2147483647), (0, 100), (1, 1), ((-2147483648), 2147483647), (0, 100), ((-2147483648), 0)], [([(4, (-1)), (3, (-1))], 101), ([(3, (-1)), (14, 1), (4, (-1))], 0), ([(1, (-1)), (17, 1), (4, (-1))], 0)]), [([(4, 1)], 0), ([(18, 1)], 0)], [], [.inr (.inr (.inl (98, 0, [([(3, 1)], 0), ([(1, 1)], 0), ([(4, 1)], 0), ([(12, 1)], 0), ([(13, 1)], 0), ([(14, 1)], 0), ([(15, 1)], 0), ([(16, 1)], 0), ([(17, 1)], 0)], [6, 7, 8, 9], [7])))]) := by
  intro g0 r gi g hok hh hars hfr hG
  have b0 : 3 ≤ r 0 ∧ r 0 ≤ 3 := hok.1 0 (3, 3) rfl
  have b1 : 0 ≤ r 1 ∧ r 1 ≤ 100 := hok.1 1 (0, 100) rfl
  have b2 : 2 ≤ r 2 ∧ r 2 ≤ 2 := hok.1 2 (2, 2) rfl
  have b3 : 0 ≤ r 3 ∧ r 3 ≤ 100 := hok.1 3 (0, 100) rfl
  have b4 : 0 ≤ r 4 ∧ r 4 ≤ 100 := hok.1 4 (0, 100) rfl
  have b5 : (-2147483648) ≤ r 5 ∧ r 5 ≤ 2147483647 := hok.1 5 ((-2147483648), 2147483647) rfl
  have b6 : 0 ≤ r 6 ∧ r 6 ≤ 1 := hok.1 6 (0, 1) rfl
  have b7 : (-2147483648) ≤ r 7 ∧ r 7 ≤ 2147483647 := hok.1 7 ((-2147483648), 2147483647) rfl
  have b8 : 0 ≤ r 8 ∧ r 8 ≤ 100 := hok.1 8 (0, 100) rfl
  have b9 : 0 ≤ r 9 ∧ r 9 ≤ 1 := hok.1 9 (0, 1) rfl
  have b10 : (-2147483648) ≤ r 10 ∧ r 10 ≤ 2147483647 := hok.1 10 ((-2147483648), 2147483647) rfl
  have b11 : 0 ≤ r 11 ∧ r 11 ≤ 100 := hok.1 11 (0, 100) rfl
  have b12 : 1 ≤ r 12 ∧ r 12 ≤ 1 := hok.1 12 (1, 1) rfl
  have b13 : (-2147483648) ≤ r 13 ∧ r 13 ≤ 2147483647 := hok.1 13 ((-2147483648), 2147483647) rfl
  have b14 : 0 ≤ r 14 ∧ r 14 ≤ 100 := hok.1 14 (0, 100) rfl
  have b15 : 1 ≤ r 15 ∧ r 15 ≤ 1 := hok.1 15 (1, 1) rfl
  have b16 : (-2147483648) ≤ r 16 ∧ r 16 ≤ 2147483647 := hok.1 16 ((-2147483648), 2147483647) rfl
  have b17 : 0 ≤ r 17 ∧ r 17 ≤ 100 := hok.1 17 (0, 100) rfl
  have b18 : (-2147483648) ≤ r 18 ∧ r 18 ≤ 0 := hok.1 18 ((-2147483648), 0) rfl
  have f0 : 0 ≤ (((-1) * r 4 + ((-1) * r 3 + 0)) + 101) := hok.2 _ (List.mem_of_getElem? (i := 0) rfl)
  have f1 : 0 ≤ (((-1) * r 3 + (1 * r 14 + ((-1) * r 4 + 0))) + 0) := hok.2 _ (List.mem_of_getElem? (i := 1) rfl)
  have f2 : 0 ≤ (((-1) * r 1 + (1 * r 17 + ((-1) * r 4 + 0))) + 0) := hok.2 _ (List.mem_of_getElem? (i := 2) rfl)
  obtain ⟨hG, hgi⟩ := hG
  have hG : True := hG
  obtain ⟨h0, hh, e0, k0⟩ := hh
  have k0 : ∀ j, j ∉ [7] → g j = h0 j := k0
  have e0 : (g 7) = yq_pa ((1 * r 3 + 0) + 0) ((1 * r 1 + 0) + 0) ((1 * r 4 + 0) + 0) ((1 * r 13 + 0) + 0) (h0 9) (h0 7) := e0
  have hh : h0 = gi := hh
  subst hh
  refine yt_dalt (by decide) (by decide) ?_
  rw [show xk_40.2.1.2.1.1.length = 18 from rfl]
  show ((1 * r 4 + 0) + 0) = yq_cr ((1 * r 0 + 0) + 0) ((1 * r 1 + 0) + 0) ((1 * r 2 + 0) + 0) ((1 * r 3 + 0) + 0) ((1 * r 4 + 0) + 0) (yq_at ((1 * r 0 + 0) + 0) ((1 * ((1 * r 6 + 0) + 0) + 0) + 0) ((1 * ((1 * r 9 + 0) + 0) + 0) + 0) ((1 * ((1 * r 12 + 0) + 0) + 0) + 0) ((1 * ((1 * r 15 + 0) + 0) + 0) + 0)) (yq_at ((1 * r 2 + 0) + 0) ((1 * ((1 * r 6 + 0) + 0) + 0) + 0) ((1 * ((1 * r 9 + 0) + 0) + 0) + 0) ((1 * ((1 * r 12 + 0) + 0) + 0) + 0) ((1 * ((1 * r 15 + 0) + 0) + 0) + 0)) (yq_at ((1 * r 0 + 0) + 0) ((1 * ((1 * r 8 + 0) + 0) + 0) + 0) ((1 * ((1 * r 11 + 0) + 0) + 0) + 0) ((1 * ((1 * r 14 + 0) + 0) + 0) + 0) ((1 * ((1 * r 17 + 0) + 0) + 0) + 0)) (yq_at ((1 * r 2 + 0) + 0) ((1 * ((1 * r 8 + 0) + 0) + 0) + 0) ((1 * ((1 * r 11 + 0) + 0) + 0) + 0) ((1 * ((1 * r 14 + 0) + 0) + 0) + 0) ((1 * ((1 * r 17 + 0) + 0) + 0) + 0)) ∧ (g 3) = yq_xc ((1 * r 0 + 0) + 0) ((1 * r 1 + 0) + 0) ((1 * r 2 + 0) + 0) ((1 * r 3 + 0) + 0) ((1 * r 4 + 0) + 0) 0 (yq_at ((1 * r 0 + 0) + 0) ((1 * ((1 * r 6 + 0) + 0) + 0) + 0) ((1 * ((1 * r 9 + 0) + 0) + 0) + 0) ((1 * ((1 * r 12 + 0) + 0) + 0) + 0) ((1 * ((1 * r 15 + 0) + 0) + 0) + 0)) ((1 * ((1 * r 6 + 0) + 0) + 0) + 0) (yq_at ((1 * r 0 + 0) + 0) ((1 * ((1 * r 8 + 0) + 0) + 0) + 0) ((1 * ((1 * r 11 + 0) + 0) + 0) + 0) ((1 * ((1 * r 14 + 0) + 0) + 0) + 0) ((1 * ((1 * r 17 + 0) + 0) + 0) + 0)) ((1 * ((1 * r 8 + 0) + 0) + 0) + 0) ((1 * ((1 * r 7 + 0) + 0) + 0) + 0) (yq_fat ((1 * r 0 + 0) + 0) (g0 3) (g0 5) (g0 7) (g0 9)) (g0 3) ∧ (g 5) = yq_xc ((1 * r 0 + 0) + 0) ((1 * r 1 + 0) + 0) ((1 * r 2 + 0) + 0) ((1 * r 3 + 0) + 0) ((1 * r 4 + 0) + 0) 1 (yq_at ((1 * r 0 + 0) + 0) ((1 * ((1 * r 6 + 0) + 0) + 0) + 0) ((1 * ((1 * r 9 + 0) + 0) + 0) + 0) ((1 * ((1 * r 12 + 0) + 0) + 0) + 0) ((1 * ((1 * r 15 + 0) + 0) + 0) + 0)) ((1 * ((1 * r 9 + 0) + 0) + 0) + 0) (yq_at ((1 * r 0 + 0) + 0) ((1 * ((1 * r 8 + 0) + 0) + 0) + 0) ((1 * ((1 * r 11 + 0) + 0) + 0) + 0) ((1 * ((1 * r 14 + 0) + 0) + 0) + 0) ((1 * ((1 * r 17 + 0) + 0) + 0) + 0)) ((1 * ((1 * r 11 + 0) + 0) + 0) + 0) ((1 * ((1 * r 10 + 0) + 0) + 0) + 0) (yq_fat ((1 * r 0 + 0) + 0) (g0 3) (g0 5) (g0 7) (g0 9)) (g0 5) ∧ (g 7) = yq_xc ((1 * r 0 + 0) + 0) ((1 * r 1 + 0) + 0) ((1 * r 2 + 0) + 0) ((1 * r 3 + 0) + 0) ((1 * r 4 + 0) + 0) 2 (yq_at ((1 * r 0 + 0) + 0) ((1 * ((1 * r 6 + 0) + 0) + 0) + 0) ((1 * ((1 * r 9 + 0) + 0) + 0) + 0) ((1 * ((1 * r 12 + 0) + 0) + 0) + 0) ((1 * ((1 * r 15 + 0) + 0) + 0) + 0)) ((1 * ((1 * r 12 + 0) + 0) + 0) + 0) (yq_at ((1 * r 0 + 0) + 0) ((1 * ((1 * r 8 + 0) + 0) + 0) + 0) ((1 * ((1 * r 11 + 0) + 0) + 0) + 0) ((1 * ((1 * r 14 + 0) + 0) + 0) + 0) ((1 * ((1 * r 17 + 0) + 0) + 0) + 0)) ((1 * ((1 * r 14 + 0) + 0) + 0) + 0) ((1 * ((1 * r 13 + 0) + 0) + 0) + 0) (yq_fat ((1 * r 0 + 0) + 0) (g0 3) (g0 5) (g0 7) (g0 9)) (g0 7) ∧ (g 9) = yq_xc ((1 * r 0 + 0) + 0) ((1 * r 1 + 0) + 0) ((1 * r 2 + 0) + 0) ((1 * r 3 + 0) + 0) ((1 * r 4 + 0) + 0) 3 (yq_at ((1 * r 0 + 0) + 0) ((1 * ((1 * r 6 + 0) + 0) + 0) + 0) ((1 * ((1 * r 9 + 0) + 0) + 0) + 0) ((1 * ((1 * r 12 + 0) + 0) + 0) + 0) ((1 * ((1 * r 15 + 0) + 0) + 0) + 0)) ((1 * ((1 * r 15 + 0) + 0) + 0) + 0) (yq_at ((1 * r 0 + 0) + 0) ((1 * ((1 * r 8 + 0) + 0) + 0) + 0) ((1 * ((1 * r 11 + 0) + 0) + 0) + 0) ((1 * ((1 * r 14 + 0) + 0) + 0) + 0) ((1 * ((1 * r 17 + 0) + 0) + 0) + 0)) ((1 * ((1 * r 17 + 0) + 0) + 0) + 0) ((1 * ((1 * r 16 + 0) + 0) + 0) + 0) (yq_fat ((1 * r 0 + 0) + 0) (g0 3) (g0 5) (g0 7) (g0 9)) (g0 9)
  try simp only [Int.one_mul, Int.zero_add, Int.add_zero]
  try simp only [Int.one_mul, Int.zero_add, Int.add_zero] at e0
  refine ⟨?_, ?_, ?_, ?_, ?_⟩
  · rw [show r 0 = 3 by omega]
    rw [show r 2 = 2 by omega]
    simp only [yq_at2, yq_at3]
    unfold yq_cr
    repeat' split
    all_goals omega
  · rw [show r 0 = 3 by omega]
    simp only [yq_at3, yq_fat3]
    unfold yq_xc
    rw [if_neg (by omega)]
    rw [k0 3 (by decide), hgi]
  · rw [show r 0 = 3 by omega]
    simp only [yq_at3, yq_fat3]
    unfold yq_xc
    rw [if_neg (by omega)]
    rw [k0 5 (by decide), hgi]
  · rw [show r 0 = 3 by omega]
    simp only [yq_at3, yq_fat3]
    unfold yq_xc
    rw [if_pos (by omega), e0, hgi]
  · rw [show r 0 = 3 by omega]
    simp only [yq_at3, yq_fat3]
    unfold yq_xc
    rw [if_neg (by omega)]
    rw [k0 9 (by decide), hgi]
theorem xw_40_0_94 : yt_hold xT_40 xk_40 xq_40.2.2.1 xG_40 xP_40 xU_40 18 xk_40.2.1.2.2.2 (fun g0 r g => xR_40 r g0 ∧ g = g0) (1000, ([(3, 3), ((-2147483648), 2147483647), (2, 2), ((-2147483648), 2147483647), (0, 2147483647), ((-2147483648), 2147483647), (0, 1), ((-2147483648), 2147483647), (0, 100), (0, 1), ((-2147483648), 2147483647), (0, 100), (0, 0), ((-2147483648), 2147483647), (0, 100), (1, 1), ((-2147483648), 2147483647), (0, 100), ((-2147483648), 0)], []), [([], (-2)), ([(18, 1)], 0)], [], []) := by
  intro g0 r gi g hok hh hars hfr hG
  have b0 : 3 ≤ r 0 ∧ r 0 ≤ 3 := hok.1 0 (3, 3) rfl
  have b1 : (-2147483648) ≤ r 1 ∧ r 1 ≤ 2147483647 := hok.1 1 ((-2147483648), 2147483647) rfl
  have b2 : 2 ≤ r 2 ∧ r 2 ≤ 2 := hok.1 2 (2, 2) rfl
  have b3 : (-2147483648) ≤ r 3 ∧ r 3 ≤ 2147483647 := hok.1 3 ((-2147483648), 2147483647) rfl
  have b4 : 0 ≤ r 4 ∧ r 4 ≤ 2147483647 := hok.1 4 (0, 2147483647) rfl
  have b5 : (-2147483648) ≤ r 5 ∧ r 5 ≤ 2147483647 := hok.1 5 ((-2147483648), 2147483647) rfl
  have b6 : 0 ≤ r 6 ∧ r 6 ≤ 1 := hok.1 6 (0, 1) rfl
  have b7 : (-2147483648) ≤ r 7 ∧ r 7 ≤ 2147483647 := hok.1 7 ((-2147483648), 2147483647) rfl
  have b8 : 0 ≤ r 8 ∧ r 8 ≤ 100 := hok.1 8 (0, 100) rfl
  have b9 : 0 ≤ r 9 ∧ r 9 ≤ 1 := hok.1 9 (0, 1) rfl
  have b10 : (-2147483648) ≤ r 10 ∧ r 10 ≤ 2147483647 := hok.1 10 ((-2147483648), 2147483647) rfl
  have b11 : 0 ≤ r 11 ∧ r 11 ≤ 100 := hok.1 11 (0, 100) rfl
  have b12 : 0 ≤ r 12 ∧ r 12 ≤ 0 := hok.1 12 (0, 0) rfl
  have b13 : (-2147483648) ≤ r 13 ∧ r 13 ≤ 2147483647 := hok.1 13 ((-2147483648), 2147483647) rfl
  have b14 : 0 ≤ r 14 ∧ r 14 ≤ 100 := hok.1 14 (0, 100) rfl
  have b15 : 1 ≤ r 15 ∧ r 15 ≤ 1 := hok.1 15 (1, 1) rfl
  have b16 : (-2147483648) ≤ r 16 ∧ r 16 ≤ 2147483647 := hok.1 16 ((-2147483648), 2147483647) rfl
  have b17 : 0 ≤ r 17 ∧ r 17 ≤ 100 := hok.1 17 (0, 100) rfl
  have b18 : (-2147483648) ≤ r 18 ∧ r 18 ≤ 0 := hok.1 18 ((-2147483648), 0) rfl
  obtain ⟨hG, hgi⟩ := hG
  have hG : True := hG
  have hh : g = gi := hh
  subst hh
  refine yt_dalt (by decide) (by decide) ?_
  rw [show xk_40.2.1.2.1.1.length = 18 from rfl]
  show ((0 : Int) + (-2)) = yq_cr ((1 * r 0 + 0) + 0) ((1 * r 1 + 0) + 0) ((1 * r 2 + 0) + 0) ((1 * r 3 + 0) + 0) ((1 * r 4 + 0) + 0) (yq_at ((1 * r 0 + 0) + 0) ((1 * ((1 * r 6 + 0) + 0) + 0) + 0) ((1 * ((1 * r 9 + 0) + 0) + 0) + 0) ((1 * ((1 * r 12 + 0) + 0) + 0) + 0) ((1 * ((1 * r 15 + 0) + 0) + 0) + 0)) (yq_at ((1 * r 2 + 0) + 0) ((1 * ((1 * r 6 + 0) + 0) + 0) + 0) ((1 * ((1 * r 9 + 0) + 0) + 0) + 0) ((1 * ((1 * r 12 + 0) + 0) + 0) + 0) ((1 * ((1 * r 15 + 0) + 0) + 0) + 0)) (yq_at ((1 * r 0 + 0) + 0) ((1 * ((1 * r 8 + 0) + 0) + 0) + 0) ((1 * ((1 * r 11 + 0) + 0) + 0) + 0) ((1 * ((1 * r 14 + 0) + 0) + 0) + 0) ((1 * ((1 * r 17 + 0) + 0) + 0) + 0)) (yq_at ((1 * r 2 + 0) + 0) ((1 * ((1 * r 8 + 0) + 0) + 0) + 0) ((1 * ((1 * r 11 + 0) + 0) + 0) + 0) ((1 * ((1 * r 14 + 0) + 0) + 0) + 0) ((1 * ((1 * r 17 + 0) + 0) + 0) + 0)) ∧ (g 3) = yq_xc ((1 * r 0 + 0) + 0) ((1 * r 1 + 0) + 0) ((1 * r 2 + 0) + 0) ((1 * r 3 + 0) + 0) ((1 * r 4 + 0) + 0) 0 (yq_at ((1 * r 0 + 0) + 0) ((1 * ((1 * r 6 + 0) + 0) + 0) + 0) ((1 * ((1 * r 9 + 0) + 0) + 0) + 0) ((1 * ((1 * r 12 + 0) + 0) + 0) + 0) ((1 * ((1 * r 15 + 0) + 0) + 0) + 0)) ((1 * ((1 * r 6 + 0) + 0) + 0) + 0) (yq_at ((1 * r 0 + 0) + 0) ((1 * ((1 * r 8 + 0) + 0) + 0) + 0) ((1 * ((1 * r 11 + 0) + 0) + 0) + 0) ((1 * ((1 * r 14 + 0) + 0) + 0) + 0) ((1 * ((1 * r 17 + 0) + 0) + 0) + 0)) ((1 * ((1 * r 8 + 0) + 0) + 0) + 0) ((1 * ((1 * r 7 + 0) + 0) + 0) + 0) (yq_fat ((1 * r 0 + 0) + 0) (g0 3) (g0 5) (g0 7) (g0 9)) (g0 3) ∧ (g 5) = yq_xc ((1 * r 0 + 0) + 0) ((1 * r 1 + 0) + 0) ((1 * r 2 + 0) + 0) ((1 * r 3 + 0) + 0) ((1 * r 4 + 0) + 0) 1 (yq_at ((1 * r 0 + 0) + 0) ((1 * ((1 * r 6 + 0) + 0) + 0) + 0) ((1 * ((1 * r 9 + 0) + 0) + 0) + 0) ((1 * ((1 * r 12 + 0) + 0) + 0) + 0) ((1 * ((1 * r 15 + 0) + 0) + 0) + 0)) ((1 * ((1 * r 9 + 0) + 0) + 0) + 0) (yq_at ((1 * r 0 + 0) + 0) ((1 * ((1 * r 8 + 0) + 0) + 0) + 0) ((1 * ((1 * r 11 + 0) + 0) + 0) + 0) ((1 * ((1 * r 14 + 0) + 0) + 0) + 0) ((1 * ((1 * r 17 + 0) + 0) + 0) + 0)) ((1 * ((1 * r 11 + 0) + 0) + 0) + 0) ((1 * ((1 * r 10 + 0) + 0) + 0) + 0) (yq_fat ((1 * r 0 + 0) + 0) (g0 3) (g0 5) (g0 7) (g0 9)) (g0 5) ∧ (g 7) = yq_xc ((1 * r 0 + 0) + 0) ((1 * r 1 + 0) + 0) ((1 * r 2 + 0) + 0) ((1 * r 3 + 0) + 0) ((1 * r 4 + 0) + 0) 2 (yq_at ((1 * r 0 + 0) + 0) ((1 * ((1 * r 6 + 0) + 0) + 0) + 0) ((1 * ((1 * r 9 + 0) + 0) + 0) + 0) ((1 * ((1 * r 12 + 0) + 0) + 0) + 0) ((1 * ((1 * r 15 + 0) + 0) + 0) + 0)) ((1 * ((1 * r 12 + 0) + 0) + 0) + 0) (yq_at ((1 * r 0 + 0) + 0) ((1 * ((1 * r 8 + 0) + 0) + 0) + 0) ((1 * ((1 * r 11 + 0) + 0) + 0) + 0) ((1 * ((1 * r 14 + 0) + 0) + 0) + 0) ((1 * ((1 * r 17 + 0) + 0) + 0) + 0)) ((1 * ((1 * r 14 + 0) + 0) + 0) + 0) ((1 * ((1 * r 13 + 0) + 0) + 0) + 0) (yq_fat ((1 * r 0 + 0) + 0) (g0 3) (g0 5) (g0 7) (g0 9)) (g0 7) ∧ (g 9) = yq_xc ((1 * r 0 + 0) + 0) ((1 * r 1 + 0) + 0) ((1 * r 2 + 0) + 0) ((1 * r 3 + 0) + 0) ((1 * r 4 + 0) + 0) 3 (yq_at ((1 * r 0 + 0) + 0) ((1 * ((1 * r 6 + 0) + 0) + 0) + 0) ((1 * ((1 * r 9 + 0) + 0) + 0) + 0) ((1 * ((1 * r 12 + 0) + 0) + 0) + 0) ((1 * ((1 * r 15 + 0) + 0) + 0) + 0)) ((1 * ((1 * r 15 + 0) + 0) + 0) + 0) (yq_at ((1 * r 0 + 0) + 0) ((1 * ((1 * r 8 + 0) + 0) + 0) + 0) ((1 * ((1 * r 11 + 0) + 0) + 0) + 0) ((1 * ((1 * r 14 + 0) + 0) + 0) + 0) ((1 * ((1 * r 17 + 0) + 0) + 0) + 0)) ((1 * ((1 * r 17 + 0) + 0) + 0) + 0) ((1 * ((1 * r 16 + 0) + 0) + 0) + 0) (yq_fat ((1 * r 0 + 0) + 0) (g0 3) (g0 5) (g0 7) (g0 9)) (g0 9)
  try simp only [Int.one_mul, Int.zero_add, Int.add_zero]
  refine ⟨?_, ?_, ?_, ?_, ?_⟩
  · rw [show r 0 = 3 by omega]
    rw [show r 2 = 2 by omega]
    simp only [yq_at2, yq_at3]
    unfold yq_cr
    repeat' split
    all_goals omega
  · rw [show r 0 = 3 by omega]
    simp only [yq_at3, yq_fat3]
    unfold yq_xc
    rw [if_neg (by omega)]
    rw [hgi]
  · rw [show r 0 = 3 by omega]
    simp only [yq_at3, yq_fat3]
    unfold yq_xc
    rw [if_neg (by omega)]
    rw [hgi]
  · rw [show r 0 = 3 by omega]
    simp only [yq_at3, yq_fat3]
    unfold yq_xc
    rw [if_neg (by omega)]
    rw [hgi]
  · rw [show r 0 = 3 by omega]
    simp only [yq_at3, yq_fat3]
    unfold yq_xc
    rw [if_neg (by omega)]
    rw [hgi]
theorem xw_40_0_95 : yt_hold xT_40 xk_40 xq_40.2.2.1 xG_40 xP_40 xU_40 18 xk_40.2.1.2.2.2 (fun g0 r g => xR_40 r g0 ∧ g = g0) (1000, ([(3, 3), ((-2147483648), (-1)), (3, 3), ((-2147483648), 2147483647), (0, 2147483647), ((-2147483648), 2147483647), (0, 1), ((-2147483648), 2147483647), (0, 100), (0, 1), ((-2147483648), 2147483647), (0, 100), (0, 1), ((-2147483648), 2147483647), (0, 100), (1, 1), ((-2147483648), 2147483647), (0, 100), ((-2147483648), 0)], []), [([], (-3)), ([(18, 1)], 0)], [], []) := by
  intro g0 r gi g hok hh hars hfr hG
  have b0 : 3 ≤ r 0 ∧ r 0 ≤ 3 := hok.1 0 (3, 3) rfl
  have b1 : (-2147483648) ≤ r 1 ∧ r 1 ≤ (-1) := hok.1 1 ((-2147483648), (-1)) rfl
  have b2 : 3 ≤ r 2 ∧ r 2 ≤ 3 := hok.1 2 (3, 3) rfl
  have b3 : (-2147483648) ≤ r 3 ∧ r 3 ≤ 2147483647 := hok.1 3 ((-2147483648), 2147483647) rfl
  have b4 : 0 ≤ r 4 ∧ r 4 ≤ 2147483647 := hok.1 4 (0, 2147483647) rfl
  have b5 : (-2147483648) ≤ r 5 ∧ r 5 ≤ 2147483647 := hok.1 5 ((-2147483648), 2147483647) rfl
  have b6 : 0 ≤ r 6 ∧ r 6 ≤ 1 := hok.1 6 (0, 1) rfl
  have b7 : (-2147483648) ≤ r 7 ∧ r 7 ≤ 2147483647 := hok.1 7 ((-2147483648), 2147483647) rfl
  have b8 : 0 ≤ r 8 ∧ r 8 ≤ 100 := hok.1 8 (0, 100) rfl
  have b9 : 0 ≤ r 9 ∧ r 9 ≤ 1 := hok.1 9 (0, 1) rfl
  have b10 : (-2147483648) ≤ r 10 ∧ r 10 ≤ 2147483647 := hok.1 10 ((-2147483648), 2147483647) rfl
  have b11 : 0 ≤ r 11 ∧ r 11 ≤ 100 := hok.1 11 (0, 100) rfl
  have b12 : 0 ≤ r 12 ∧ r 12 ≤ 1 := hok.1 12 (0, 1) rfl
  have b13 : (-2147483648) ≤ r 13 ∧ r 13 ≤ 2147483647 := hok.1 13 ((-2147483648), 2147483647) rfl
  have b14 : 0 ≤ r 14 ∧ r 14 ≤ 100 := hok.1 14 (0, 100) rfl
  have b15 : 1 ≤ r 15 ∧ r 15 ≤ 1 := hok.1 15 (1, 1) rfl
  have b16 : (-2147483648) ≤ r 16 ∧ r 16 ≤ 2147483647 := hok.1 16 ((-2147483648), 2147483647) rfl
  have b17 : 0 ≤ r 17 ∧ r 17 ≤ 100 := hok.1 17 (0, 100) rfl
  have b18 : (-2147483648) ≤ r 18 ∧ r 18 ≤ 0 := hok.1 18 ((-2147483648), 0) rfl
  obtain ⟨hG, hgi⟩ := hG
  have hG : True := hG
  have hh : g = gi := hh
  subst hh
  refine yt_dalt (by decide) (by decide) ?_
  rw [show xk_40.2.1.2.1.1.length = 18 from rfl]
  show ((0 : Int) + (-3)) = yq_cr ((1 * r 0 + 0) + 0) ((1 * r 1 + 0) + 0) ((1 * r 2 + 0) + 0) ((1 * r 3 + 0) + 0) ((1 * r 4 + 0) + 0) (yq_at ((1 * r 0 + 0) + 0) ((1 * ((1 * r 6 + 0) + 0) + 0) + 0) ((1 * ((1 * r 9 + 0) + 0) + 0) + 0) ((1 * ((1 * r 12 + 0) + 0) + 0) + 0) ((1 * ((1 * r 15 + 0) + 0) + 0) + 0)) (yq_at ((1 * r 2 + 0) + 0) ((1 * ((1 * r 6 + 0) + 0) + 0) + 0) ((1 * ((1 * r 9 + 0) + 0) + 0) + 0) ((1 * ((1 * r 12 + 0) + 0) + 0) + 0) ((1 * ((1 * r 15 + 0) + 0) + 0) + 0)) (yq_at ((1 * r 0 + 0) + 0) ((1 * ((1 * r 8 + 0) + 0) + 0) + 0) ((1 * ((1 * r 11 + 0) + 0) + 0) + 0) ((1 * ((1 * r 14 + 0) + 0) + 0) + 0) ((1 * ((1 * r 17 + 0) + 0) + 0) + 0)) (yq_at ((1 * r 2 + 0) + 0) ((1 * ((1 * r 8 + 0) + 0) + 0) + 0) ((1 * ((1 * r 11 + 0) + 0) + 0) + 0) ((1 * ((1 * r 14 + 0) + 0) + 0) + 0) ((1 * ((1 * r 17 + 0) + 0) + 0) + 0)) ∧ (g 3) = yq_xc ((1 * r 0 + 0) + 0) ((1 * r 1 + 0) + 0) ((1 * r 2 + 0) + 0) ((1 * r 3 + 0) + 0) ((1 * r 4 + 0) + 0) 0 (yq_at ((1 * r 0 + 0) + 0) ((1 * ((1 * r 6 + 0) + 0) + 0) + 0) ((1 * ((1 * r 9 + 0) + 0) + 0) + 0) ((1 * ((1 * r 12 + 0) + 0) + 0) + 0) ((1 * ((1 * r 15 + 0) + 0) + 0) + 0)) ((1 * ((1 * r 6 + 0) + 0) + 0) + 0) (yq_at ((1 * r 0 + 0) + 0) ((1 * ((1 * r 8 + 0) + 0) + 0) + 0) ((1 * ((1 * r 11 + 0) + 0) + 0) + 0) ((1 * ((1 * r 14 + 0) + 0) + 0) + 0) ((1 * ((1 * r 17 + 0) + 0) + 0) + 0)) ((1 * ((1 * r 8 + 0) + 0) + 0) + 0) ((1 * ((1 * r 7 + 0) + 0) + 0) + 0) (yq_fat ((1 * r 0 + 0) + 0) (g0 3) (g0 5) (g0 7) (g0 9)) (g0 3) ∧ (g 5) = yq_xc ((1 * r 0 + 0) + 0) ((1 * r 1 + 0) + 0) ((1 * r 2 + 0) + 0) ((1 * r 3 + 0) + 0) ((1 * r 4 + 0) + 0) 1 (yq_at ((1 * r 0 + 0) + 0) ((1 * ((1 * r 6 + 0) + 0) + 0) + 0) ((1 * ((1 * r 9 + 0) + 0) + 0) + 0) ((1 * ((1 * r 12 + 0) + 0) + 0) + 0) ((1 * ((1 * r 15 + 0) + 0) + 0) + 0)) ((1 * ((1 * r 9 + 0) + 0) + 0) + 0) (yq_at ((1 * r 0 + 0) + 0) ((1 * ((1 * r 8 + 0) + 0) + 0) + 0) ((1 * ((1 * r 11 + 0) + 0) + 0) + 0) ((1 * ((1 * r 14 + 0) + 0) + 0) + 0) ((1 * ((1 * r 17 + 0) + 0) + 0) + 0)) ((1 * ((1 * r 11 + 0) + 0) + 0) + 0) ((1 * ((1 * r 10 + 0) + 0) + 0) + 0) (yq_fat ((1 * r 0 + 0) + 0) (g0 3) (g0 5) (g0 7) (g0 9)) (g0 5) ∧ (g 7) = yq_xc ((1 * r 0 + 0) + 0) ((1 * r 1 + 0) + 0) ((1 * r 2 + 0) + 0) ((1 * r 3 + 0) + 0) ((1 * r 4 + 0) + 0) 2 (yq_at ((1 * r 0 + 0) + 0) ((1 * ((1 * r 6 + 0) + 0) + 0) + 0) ((1 * ((1 * r 9 + 0) + 0) + 0) + 0) ((1 * ((1 * r 12 + 0) + 0) + 0) + 0) ((1 * ((1 * r 15 + 0) + 0) + 0) + 0)) ((1 * ((1 * r 12 + 0) + 0) + 0) + 0) (yq_at ((1 * r 0 + 0) + 0) ((1 * ((1 * r 8 + 0) + 0) + 0) + 0) ((1 * ((1 * r 11 + 0) + 0) + 0) + 0) ((1 * ((1 * r 14 + 0) + 0) + 0) + 0) ((1 * ((1 * r 17 + 0) + 0) + 0) + 0)) ((1 * ((1 * r 14 + 0) + 0) + 0) + 0) ((1 * ((1 * r 13 + 0) + 0) + 0) + 0) (yq_fat ((1 * r 0 + 0) + 0) (g0 3) (g0 5) (g0 7) (g0 9)) (g0 7) ∧ (g 9) = yq_xc ((1 * r 0 + 0) + 0) ((1 * r 1 + 0) + 0) ((1 * r 2 + 0) + 0) ((1 * r 3 + 0) + 0) ((1 * r 4 + 0) + 0) 3 (yq_at ((1 * r 0 + 0) + 0) ((1 * ((1 * r 6 + 0) + 0) + 0) + 0) ((1 * ((1 * r 9 + 0) + 0) + 0) + 0) ((1 * ((1 * r 12 + 0) + 0) + 0) + 0) ((1 * ((1 * r 15 + 0) + 0) + 0) + 0)) ((1 * ((1 * r 15 + 0) + 0) + 0) + 0) (yq_at ((1 * r 0 + 0) + 0) ((1 * ((1 * r 8 + 0) + 0) + 0) + 0) ((1 * ((1 * r 11 + 0) + 0) + 0) + 0) ((1 * ((1 * r 14 + 0) + 0) + 0) + 0) ((1 * ((1 * r 17 + 0) + 0) + 0) + 0)) ((1 * ((1 * r 17 + 0) + 0) + 0) + 0) ((1 * ((1 * r 16 + 0) + 0) + 0) + 0) (yq_fat ((1 * r 0 + 0) + 0) (g0 3) (g0 5) (g0 7) (g0 9)) (g0 9)
  try simp only [Int.one_mul, Int.zero_add, Int.add_zero]
  refine ⟨?_, ?_, ?_, ?_, ?_⟩
  · rw [show r 0 = 3 by omega]
    rw [show r 2 = 3 by omega]
    simp only [yq_at3]
    unfold yq_cr
    repeat' split
    all_goals omega
  · rw [show r 0 = 3 by omega]
    simp only [yq_at3, yq_fat3]
    unfold yq_xc
    rw [if_neg (by omega)]
    rw [hgi]
  · rw [show r 0 = 3 by omega]
    simp only [yq_at3, yq_fat3]
    unfold yq_xc
    rw [if_neg (by omega)]
    rw [hgi]
  · rw [show r 0 = 3 by omega]
    simp only [yq_at3, yq_fat3]
    unfold yq_xc
    rw [if_neg (by omega)]
    rw [hgi]
  · rw [show r 0 = 3 by omega]
    simp only [yq_at3, yq_fat3]
    unfold yq_xc
    rw [if_neg (by omega)]
    rw [hgi]
theorem xw_40_0_96 : yt_hold xT_40 xk_40 xq_40.2.2.1 xG_40 xP_40 xU_40 18 xk_40.2.1.2.2.2 (fun g0 r g => xR_40 r g0 ∧ g = g0) (1000, ([(3, 3), (0, 2147483647), (3, 3), ((-2147483648), 2147483647), (0, 2147483647), ((-2147483648), 2147483647), (0, 1), ((-2147483648), 2147483647), (0, 100), (0, 1), ((-2147483648), 2147483647), (0, 100), (0, 1), ((-2147483648), 2147483647), (0, 100), (1, 1), ((-2147483648), 2147483647), (0, 100), ((-2147483648), 0)], [([(1, 1), (17, (-1)), (4, 1)], (-1))]), [([], (-3)), ([(18, 1)], 0)], [], []) := by
  intro g0 r gi g hok hh hars hfr hG
  have b0 : 3 ≤ r 0 ∧ r 0 ≤ 3 := hok.1 0 (3, 3) rfl
  have b1 : 0 ≤ r 1 ∧ r 1 ≤ 2147483647 := hok.1 1 (0, 2147483647) rfl
  have b2 : 3 ≤ r 2 ∧ r 2 ≤ 3 := hok.1 2 (3, 3) rfl
  have b3 : (-2147483648) ≤ r 3 ∧ r 3 ≤ 2147483647 := hok.1 3 ((-2147483648), 2147483647) rfl
  have b4 : 0 ≤ r 4 ∧ r 4 ≤ 2147483647 := hok.1 4 (0, 2147483647) rfl
  have b5 : (-2147483648) ≤ r 5 ∧ r 5 ≤ 2147483647 := hok.1 5 ((-2147483648), 2147483647) rfl
  have b6 : 0 ≤ r 6 ∧ r 6 ≤ 1 := hok.1 6 (0, 1) rfl
  have b7 : (-2147483648) ≤ r 7 ∧ r 7 ≤ 2147483647 := hok.1 7 ((-2147483648), 2147483647) rfl
  have b8 : 0 ≤ r 8 ∧ r 8 ≤ 100 := hok.1 8 (0, 100) rfl
  have b9 : 0 ≤ r 9 ∧ r 9 ≤ 1 := hok.1 9 (0, 1) rfl
  have b10 : (-2147483648) ≤ r 10 ∧ r 10 ≤ 2147483647 := hok.1 10 ((-2147483648), 2147483647) rfl
  have b11 : 0 ≤ r 11 ∧ r 11 ≤ 100 := hok.1 11 (0, 100) rfl
  have b12 : 0 ≤ r 12 ∧ r 12 ≤ 1 := hok.1 12 (0, 1) rfl
  have b13 : (-2147483648) ≤ r 13 ∧ r 13 ≤ 2147483647 := hok.1 13 ((-2147483648), 2147483647) rfl
  have b14 : 0 ≤ r 14 ∧ r 14 ≤ 100 := hok.1 14 (0, 100) rfl
  have b15 : 1 ≤ r 15 ∧ r 15 ≤ 1 := hok.1 15 (1, 1) rfl
  have b16 : (-2147483648) ≤ r 16 ∧ r 16 ≤ 2147483647 := hok.1 16 ((-2147483648), 2147483647) rfl
  have b17 : 0 ≤ r 17 ∧ r 17 ≤ 100 := hok.1 17 (0, 100) rfl
  have b18 : (-2147483648) ≤ r 18 ∧ r 18 ≤ 0 := hok.1 18 ((-2147483648), 0) rfl
  have f0 : 0 ≤ ((1 * r 1 + ((-1) * r 17 + (1 * r 4 + 0))) + (-1)) := hok.2 _ (List.mem_of_getElem? (i := 0) rfl)
  obtain ⟨hG, hgi⟩ := hG
  have hG : True := hG
  have hh : g = gi := hh
  subst hh
  refine yt_dalt (by decide) (by decide) ?_
  rw [show xk_40.2.1.2.1.1.length = 18 from rfl]
  show ((0 : Int) + (-3)) = yq_cr ((1 * r 0 + 0) + 0) ((1 * r 1 + 0) + 0) ((1 * r 2 + 0) + 0) ((1 * r 3 + 0) + 0) ((1 * r 4 + 0) + 0) (yq_at ((1 * r 0 + 0) + 0) ((1 * ((1 * r 6 + 0) + 0) + 0) + 0) ((1 * ((1 * r 9 + 0) + 0) + 0) + 0) ((1 * ((1 * r 12 + 0) + 0) + 0) + 0) ((1 * ((1 * r 15 + 0) + 0) + 0) + 0)) (yq_at ((1 * r 2 + 0) + 0) ((1 * ((1 * r 6 + 0) + 0) + 0) + 0) ((1 * ((1 * r 9 + 0) + 0) + 0) + 0) ((1 * ((1 * r 12 + 0) + 0) + 0) + 0) ((1 * ((1 * r 15 + 0) + 0) + 0) + 0)) (yq_at ((1 * r 0 + 0) + 0) ((1 * ((1 * r 8 + 0) + 0) + 0) + 0) ((1 * ((1 * r 11 + 0) + 0) + 0) + 0) ((1 * ((1 * r 14 + 0) + 0) + 0) + 0) ((1 * ((1 * r 17 + 0) + 0) + 0) + 0)) (yq_at ((1 * r 2 + 0) + 0) ((1 * ((1 * r 8 + 0) + 0) + 0) + 0) ((1 * ((1 * r 11 + 0) + 0) + 0) + 0) ((1 * ((1 * r 14 + 0) + 0) + 0) + 0) ((1 * ((1 * r 17 + 0) + 0) + 0) + 0)) ∧ (g 3) = yq_xc ((1 * r 0 + 0) + 0) ((1 * r 1 + 0) + 0) ((1 * r 2 + 0) + 0) ((1 * r 3 + 0) + 0) ((1 * r 4 + 0) + 0) 0 (yq_at ((1 * r 0 + 0) + 0) ((1 * ((1 * r 6 + 0) + 0) + 0) + 0) ((1 * ((1 * r 9 + 0) + 0) + 0) + 0) ((1 * ((1 * r 12 + 0) + 0) + 0) + 0) ((1 * ((1 * r 15 + 0) + 0) + 0) + 0)) ((1 * ((1 * r 6 + 0) + 0) + 0) + 0) (yq_at ((1 * r 0 + 0) + 0) ((1 * ((1 * r 8 + 0) + 0) + 0) + 0) ((1 * ((1 * r 11 + 0) + 0) + 0) + 0) ((1 * ((1 * r 14 + 0) + 0) + 0) + 0) ((1 * ((1 * r 17 + 0) + 0) + 0) + 0)) ((1 * ((1 * r 8 + 0) + 0) + 0) + 0) ((1 * ((1 * r 7 + 0) + 0) + 0) + 0) (yq_fat ((1 * r 0 + 0) + 0) (g0 3) (g0 5) (g0 7) (g0 9)) (g0 3) ∧ (g 5) = yq_xc ((1 * r 0 + 0) + 0) ((1 * r 1 + 0) + 0) ((1 * r 2 + 0) + 0) ((1 * r 3 + 0) + 0) ((1 * r 4 + 0) + 0) 1 (yq_at ((1 * r 0 + 0) + 0) ((1 * ((1 * r 6 + 0) + 0) + 0) + 0) ((1 * ((1 * r 9 + 0) + 0) + 0) + 0) ((1 * ((1 * r 12 + 0) + 0) + 0) + 0) ((1 * ((1 * r 15 + 0) + 0) + 0) + 0)) ((1 * ((1 * r 9 + 0) + 0) + 0) + 0) (yq_at ((1 * r 0 + 0) + 0) ((1 * ((1 * r 8 + 0) + 0) + 0) + 0) ((1 * ((1 * r 11 + 0) + 0) + 0) + 0) ((1 * ((1 * r 14 + 0) + 0) + 0) + 0) ((1 * ((1 * r 17 + 0) + 0) + 0) + 0)) ((1 * ((1 * r 11 + 0) + 0) + 0) + 0) ((1 * ((1 * r 10 + 0) + 0) + 0) + 0) (yq_fat ((1 * r 0 + 0) + 0) (g0 3) (g0 5) (g0 7) (g0 9)) (g0 5) ∧ (g 7) = yq_xc ((1 * r 0 + 0) + 0) ((1 * r 1 + 0) + 0) ((1 * r 2 + 0) + 0) ((1 * r 3 + 0) + 0) ((1 * r 4 + 0) + 0) 2 (yq_at ((1 * r 0 + 0) + 0) ((1 * ((1 * r 6 + 0) + 0) + 0) + 0) ((1 * ((1 * r 9 + 0) + 0) + 0) + 0) ((1 * ((1 * r 12 + 0) + 0) + 0) + 0) ((1 * ((1 * r 15 + 0) + 0) + 0) + 0)) ((1 * ((1 * r 12 + 0) + 0) + 0) + 0) (yq_at ((1 * r 0 + 0) + 0) ((1 * ((1 * r 8 + 0) + 0) + 0) + 0) ((1 * ((1 * r 11 + 0) + 0) + 0) + 0) ((1 * ((1 * r 14 + 0) + 0) + 0) + 0) ((1 * ((1 * r 17 + 0) + 0) + 0) + 0)) ((1 * ((1 * r 14 + 0) + 0) + 0) + 0) ((1 * ((1 * r 13 + 0) + 0) + 0) + 0) (yq_fat ((1 * r 0 + 0) + 0) (g0 3) (g0 5) (g0 7) (g0 9)) (g0 7) ∧ (g 9) = yq_xc ((1 * r 0 + 0) + 0) ((1 * r 1 + 0) + 0) ((1 * r 2 + 0) + 0) ((1 * r 3 + 0) + 0) ((1 * r 4 + 0) + 0) 3 (yq_at ((1 * r 0 + 0) + 0) ((1 * ((1 * r 6 + 0) + 0) + 0) + 0) ((1 * ((1 * r 9 + 0) + 0) + 0) + 0) ((1 * ((1 * r 12 + 0) + 0) + 0) + 0) ((1 * ((1 * r 15 + 0) + 0) + 0) + 0)) ((1 * ((1 * r 15 + 0) + 0) + 0) + 0) (yq_at ((1 * r 0 + 0) + 0) ((1 * ((1 * r 8 + 0) + 0) + 0) + 0) ((1 * ((1 * r 11 + 0) + 0) + 0) + 0) ((1 * ((1 * r 14 + 0) + 0) + 0) + 0) ((1 * ((1 * r 17 + 0) + 0) + 0) + 0)) ((1 * ((1 * r 17 + 0) + 0) + 0) + 0) ((1 * ((1 * r 16 + 0) + 0) + 0) + 0) (yq_fat ((1 * r 0 + 0) + 0) (g0 3) (g0 5) (g0 7) (g0 9)) (g0 9)
  try simp only [Int.one_mul, Int.zero_add, Int.add_zero]
  refine ⟨?_, ?_, ?_, ?_, ?_⟩
  · rw [show r 0 = 3 by omega]
    rw [show r 2 = 3 by omega]
    simp only [yq_at3]
    unfold yq_cr
    repeat' split
    all_goals omega
  · rw [show r 0 = 3 by omega]
    simp only [yq_at3, yq_fat3]
    unfold yq_xc
    rw [if_neg (by omega)]
    rw [hgi]
  · rw [show r 0 = 3 by omega]
    simp only [yq_at3, yq_fat3]
    unfold yq_xc
    rw [if_neg (by omega)]
    rw [hgi]
  · rw [show r 0 = 3 by omega]
    simp only [yq_at3, yq_fat3]
    unfold yq_xc
    rw [if_neg (by omega)]
    rw [hgi]
  · rw [show r 0 = 3 by omega]
    simp only [yq_at3, yq_fat3]
    unfold yq_xc
    rw [if_neg (by omega)]
    rw [hgi]
theorem xw_40_0_97 : yt_hold xT_40 xk_40 xq_40.2.2.1 xG_40 xP_40 xU_40 18 xk_40.2.1.2.2.2 (fun g0 r g => xR_40 r g0 ∧ g = g0) (1000, ([(3, 3), (0, 100), (3, 3), ((-2147483648), (-1)), (0, 100), ((-2147483648), 2147483647), (0, 1), ((-2147483648), 2147483647), (0, 100), (0, 1), ((-2147483648), 2147483647), (0, 100), (0, 1), ((-2147483648), 2147483647), (0, 100), (1, 1), ((-2147483648), 2147483647), (0, 100), ((-2147483648), 0)], [([(1, (-1)), (17, 1), (4, (-1))], 0)]), [([], (-3)), ([(18, 1)], 0)], [], []) := by
  intro g0 r gi g hok hh hars hfr hG
  have b0 : 3 ≤ r 0 ∧ r 0 ≤ 3 := hok.1 0 (3, 3) rfl
  have b1 : 0 ≤ r 1 ∧ r 1 ≤ 100 := hok.1 1 (0, 100) rfl
  have b2 : 3 ≤ r 2 ∧ r 2 ≤ 3 := hok.1 2 (3, 3) rfl
  have b3 : (-2147483648) ≤ r 3 ∧ r 3 ≤ (-1) := hok.1 3 ((-2147483648), (-1)) rfl
  have b4 : 0 ≤ r 4 ∧ r 4 ≤ 100 := hok.1 4 (0, 100) rfl
  have b5 : (-2147483648) ≤ r 5 ∧ r 5 ≤ 2147483647 := hok.1 5 ((-2147483648), 2147483647) rfl
  have b6 : 0 ≤ r 6 ∧ r 6 ≤ 1 := hok.1 6 (0, 1) rfl
  have b7 : (-2147483648) ≤ r 7 ∧ r 7 ≤ 2147483647 := hok.1 7 ((-2147483648), 2147483647) rfl
  have b8 : 0 ≤ r 8 ∧ r 8 ≤ 100 := hok.1 8 (0, 100) rfl
  have b9 : 0 ≤ r 9 ∧ r 9 ≤ 1 := hok.1 9 (0, 1) rfl
  have b10 : (-2147483648) ≤ r 10 ∧ r 10 ≤ 2147483647 := hok.1 10 ((-2147483648), 2147483647) rfl
  have b11 : 0 ≤ r 11 ∧ r 11 ≤ 100 := hok.1 11 (0, 100) rfl
  have b12 : 0 ≤ r 12 ∧ r 12 ≤ 1 := hok.1 12 (0, 1) rfl
  have b13 : (-2147483648) ≤ r 13 ∧ r 13 ≤ 2147483647 := hok.1 13 ((-2147483648), 2147483647) rfl
  have b14 : 0 ≤ r 14 ∧ r 14 ≤ 100 := hok.1 14 (0, 100) rfl
  have b15 : 1 ≤ r 15 ∧ r 15 ≤ 1 := hok.1 15 (1, 1) rfl
  have b16 : (-2147483648) ≤ r 16 ∧ r 16 ≤ 2147483647 := hok.1 16 ((-2147483648), 2147483647) rfl
  have b17 : 0 ≤ r 17 ∧ r 17 ≤ 100 := hok.1 17 (0, 100) rfl
  have b18 : (-2147483648) ≤ r 18 ∧ r 18 ≤ 0 := hok.1 18 ((-2147483648), 0) rfl
  have f0 : 0 ≤ (((-1) * r 1 + (1 * r 17 + ((-1) * r 4 + 0))) + 0) := hok.2 _ (List.mem_of_getElem? (i := 0) rfl)
  obtain ⟨hG, hgi⟩ := hG
  have hG : True := hG
  have hh : g = gi := hh
  subst hh
  refine yt_dalt (by decide) (by decide) ?_
  rw [show xk_40.2.1.2.1.1.length = 18 from rfl]
  show ((0 : Int) + (-3)) = yq_cr ((1 * r 0 + 0) + 0) ((1 * r 1 + 0) + 0) ((1 * r 2 + 0) + 0) ((1 * r 3 + 0) + 0) ((1 * r 4 + 0) + 0) (yq_at ((1 * r 0 + 0) + 0) ((1 * ((1 * r 6 + 0) + 0) + 0) + 0) ((1 * ((1 * r 9 + 0) + 0) + 0) + 0) ((1 * ((1 * r 12 + 0) + 0) + 0) + 0) ((1 * ((1 * r 15 + 0) + 0) + 0) + 0)) (yq_at ((1 * r 2 + 0) + 0) ((1 * ((1 * r 6 + 0) + 0) + 0) + 0) ((1 * ((1 * r 9 + 0) + 0) + 0) + 0) ((1 * ((1 * r 12 + 0) + 0) + 0) + 0) ((1 * ((1 * r 15 + 0) + 0) + 0) + 0)) (yq_at ((1 * r 0 + 0) + 0) ((1 * ((1 * r 8 + 0) + 0) + 0) + 0) ((1 * ((1 * r 11 + 0) + 0) + 0) + 0) ((1 * ((1 * r 14 + 0) + 0) + 0) + 0) ((1 * ((1 * r 17 + 0) + 0) + 0) + 0)) (yq_at ((1 * r 2 + 0) + 0) ((1 * ((1 * r 8 + 0) + 0) + 0) + 0) ((1 * ((1 * r 11 + 0) + 0) + 0) + 0) ((1 * ((1 * r 14 + 0) + 0) + 0) + 0) ((1 * ((1 * r 17 + 0) + 0) + 0) + 0)) ∧ (g 3) = yq_xc ((1 * r 0 + 0) + 0) ((1 * r 1 + 0) + 0) ((1 * r 2 + 0) + 0) ((1 * r 3 + 0) + 0) ((1 * r 4 + 0) + 0) 0 (yq_at ((1 * r 0 + 0) + 0) ((1 * ((1 * r 6 + 0) + 0) + 0) + 0) ((1 * ((1 * r 9 + 0) + 0) + 0) + 0) ((1 * ((1 * r 12 + 0) + 0) + 0) + 0) ((1 * ((1 * r 15 + 0) + 0) + 0) + 0)) ((1 * ((1 * r 6 + 0) + 0) + 0) + 0) (yq_at ((1 * r 0 + 0) + 0) ((1 * ((1 * r 8 + 0) + 0) + 0) + 0) ((1 * ((1 * r 11 + 0) + 0) + 0) + 0) ((1 * ((1 * r 14 + 0) + 0) + 0) + 0) ((1 * ((1 * r 17 + 0) + 0) + 0) + 0)) ((1 * ((1 * r 8 + 0) + 0) + 0) + 0) ((1 * ((1 * r 7 + 0) + 0) + 0) + 0) (yq_fat ((1 * r 0 + 0) + 0) (g0 3) (g0 5) (g0 7) (g0 9)) (g0 3) ∧ (g 5) = yq_xc ((1 * r 0 + 0) + 0) ((1 * r 1 + 0) + 0) ((1 * r 2 + 0) + 0) ((1 * r 3 + 0) + 0) ((1 * r 4 + 0) + 0) 1 (yq_at ((1 * r 0 + 0) + 0) ((1 * ((1 * r 6 + 0) + 0) + 0) + 0) ((1 * ((1 * r 9 + 0) + 0) + 0) + 0) ((1 * ((1 * r 12 + 0) + 0) + 0) + 0) ((1 * ((1 * r 15 + 0) + 0) + 0) + 0)) ((1 * ((1 * r 9 + 0) + 0) + 0) + 0) (yq_at ((1 * r 0 + 0) + 0) ((1 * ((1 * r 8 + 0) + 0) + 0) + 0) ((1 * ((1 * r 11 + 0) + 0) + 0) + 0) ((1 * ((1 * r 14 + 0) + 0) + 0) + 0) ((1 * ((1 * r 17 + 0) + 0) + 0) + 0)) ((1 * ((1 * r 11 + 0) + 0) + 0) + 0) ((1 * ((1 * r 10 + 0) + 0) + 0) + 0) (yq_fat ((1 * r 0 + 0) + 0) (g0 3) (g0 5) (g0 7) (g0 9)) (g0 5) ∧ (g 7) = yq_xc ((1 * r 0 + 0) + 0) ((1 * r 1 + 0) + 0) ((1 * r 2 + 0) + 0) ((1 * r 3 + 0) + 0) ((1 * r 4 + 0) + 0) 2 (yq_at ((1 * r 0 + 0) + 0) ((1 * ((1 * r 6 + 0) + 0) + 0) + 0) ((1 * ((1 * r 9 + 0) + 0) + 0) + 0) ((1 * ((1 * r 12 + 0) + 0) + 0) + 0) ((1 * ((1 * r 15 + 0) + 0) + 0) + 0)) ((1 * ((1 * r 12 + 0) + 0) + 0) + 0) (yq_at ((1 * r 0 + 0) + 0) ((1 * ((1 * r 8 + 0) + 0) + 0) + 0) ((1 * ((1 * r 11 + 0) + 0) + 0) + 0) ((1 * ((1 * r 14 + 0) + 0) + 0) + 0) ((1 * ((1 * r 17 + 0) + 0) + 0) + 0)) ((1 * ((1 * r 14 + 0) + 0) + 0) + 0) ((1 * ((1 * r 13 + 0) + 0) + 0) + 0) (yq_fat ((1 * r 0 + 0) + 0) (g0 3) (g0 5) (g0 7) (g0 9)) (g0 7) ∧ (g 9) = yq_xc ((1 * r 0 + 0) + 0) ((1 * r 1 + 0) + 0) ((1 * r 2 + 0) + 0) ((1 * r 3 + 0) + 0) ((1 * r 4 + 0) + 0) 3 (yq_at ((1 * r 0 + 0) + 0) ((1 * ((1 * r 6 + 0) + 0) + 0) + 0) ((1 * ((1 * r 9 + 0) + 0) + 0) + 0) ((1 * ((1 * r 12 + 0) + 0) + 0) + 0) ((1 * ((1 * r 15 + 0) + 0) + 0) + 0)) ((1 * ((1 * r 15 + 0) + 0) + 0) + 0) (yq_at ((1 * r 0 + 0) + 0) ((1 * ((1 * r 8 + 0) + 0) + 0) + 0) ((1 * ((1 * r 11 + 0) + 0) + 0) + 0) ((1 * ((1 * r 14 + 0) + 0) + 0) + 0) ((1 * ((1 * r 17 + 0) + 0) + 0) + 0)) ((1 * ((1 * r 17 + 0) + 0) + 0) + 0) ((1 * ((1 * r 16 + 0) + 0) + 0) + 0) (yq_fat ((1 * r 0 + 0) + 0) (g0 3) (g0 5) (g0 7) (g0 9)) (g0 9)
  try simp only [Int.one_mul, Int.zero_add, Int.add_zero]
  refine ⟨?_, ?_, ?_, ?_, ?_⟩
  · rw [show r 0 = 3 by omega]
    rw [show r 2 = 3 by omega]
    simp only [yq_at3]
    unfold yq_cr
    repeat' split
    all_goals omega
  · rw [show r 0 = 3 by omega]
    simp only [yq_at3, yq_fat3]
    unfold yq_xc
    rw [if_neg (by omega)]
    rw [hgi]
  · rw [show r 0 = 3 by omega]
    simp only [yq_at3, yq_fat3]
    unfold yq_xc
    rw [if_neg (by omega)]
    rw [hgi]
  · rw [show r 0 = 3 by omega]
    simp only [yq_at3, yq_fat3]
    unfold yq_xc
    rw [if_neg (by omega)]
    rw [hgi]
  · rw [show r 0 = 3 by omega]
    simp only [yq_at3, yq_fat3]
    unfold yq_xc
    rw [if_neg (by omega)]
    rw [hgi]
theorem xw_40_0_98 : yt_hold xT_40 xk_40 xq_40.2.2.1 xG_40 xP_40 xU_40 18 xk_40.2.1.2.2.2 (fun g0 r g => xR_40 r g0 ∧ g = g0) (1000, ([(3, 3), (0, 100), (3, 3), (0, 2147483647), (0, 100), ((-2147483648), 2147483647), (0, 1), ((-2147483648), 2147483647), (0, 100), (0, 1), ((-2147483648), 2147483647), (0, 100), (0, 1), ((-2147483648), 2147483647), (0, 100), (1, 1), ((-2147483648), 2147483647), (0, 100), ((-2147483648), 0)], [([(3, 1), (17, (-1)), (4, 1)], (-1)), ([(1, (-1)), (17, 1), (4, (-1))], 0)]), [([], (-3)), ([(18, 1)], 0)], [], []) := by
  intro g0 r gi g hok hh hars hfr hG
  have b0 : 3 ≤ r 0 ∧ r 0 ≤ 3 := hok.1 0 (3, 3) rfl
  have b1 : 0 ≤ r 1 ∧ r 1 ≤ 100 := hok.1 1 (0, 100) rfl
  have b2 : 3 ≤ r 2 ∧ r 2 ≤ 3 := hok.1 2 (3, 3) rfl
  have b3 : 0 ≤ r 3 ∧ r 3 ≤ 2147483647 := hok.1 3 (0, 2147483647) rfl
  have b4 : 0 ≤ r 4 ∧ r 4 ≤ 100 := hok.1 4 (0, 100) rfl
  have b5 : (-2147483648) ≤ r 5 ∧ r 5 ≤ 2147483647 := hok.1 5 ((-2147483648), 2147483647) rfl
  have b6 : 0 ≤ r 6 ∧ r 6 ≤ 1 := hok.1 6 (0, 1) rfl
  have b7 : (-2147483648) ≤ r 7 ∧ r 7 ≤ 2147483647 := hok.1 7 ((-2147483648), 2147483647) rfl
  have b8 : 0 ≤ r 8 ∧ r 8 ≤ 100 := hok.1 8 (0, 100) rfl
  have b9 : 0 ≤ r 9 ∧ r 9 ≤ 1 := hok.1 9 (0, 1) rfl
  have b10 : (-2147483648) ≤ r 10 ∧ r 10 ≤ 2147483647 := hok.1 10 ((-2147483648), 2147483647) rfl
  have b11 : 0 ≤ r 11 ∧ r 11 ≤ 100 := hok.1 11 (0, 100) rfl
  have b12 : 0 ≤ r 12 ∧ r 12 ≤ 1 := hok.1 12 (0, 1) rfl
  have b13 : (-2147483648) ≤ r 13 ∧ r 13 ≤ 2147483647 := hok.1 13 ((-2147483648), 2147483647) rfl
  have b14 : 0 ≤ r 14 ∧ r 14 ≤ 100 := hok.1 14 (0, 100) rfl
  have b15 : 1 ≤ r 15 ∧ r 15 ≤ 1 := hok.1 15 (1, 1) rfl
  have b16 : (-2147483648) ≤ r 16 ∧ r 16 ≤ 2147483647 := hok.1 16 ((-2147483648), 2147483647) rfl
  have b17 : 0 ≤ r 17 ∧ r 17 ≤ 100 := hok.1 17 (0, 100) rfl
  have b18 : (-2147483648) ≤ r 18 ∧ r 18 ≤ 0 := hok.1 18 ((-2147483648), 0) rfl
  have f0 : 0 ≤ ((1 * r 3 + ((-1) * r 17 + (1 * r 4 + 0))) + (-1)) := hok.2 _ (List.mem_of_getElem? (i := 0) rfl)
  have f1 : 0 ≤ (((-1) * r 1 + (1 * r 17 + ((-1) * r 4 + 0))) + 0) := hok.2 _ (List.mem_of_getElem? (i := 1) rfl)
  obtain ⟨hG, hgi⟩ := hG
  have hG : True := hG
  have hh : g = gi := hh
  subst hh
  refine yt_dalt (by decide) (by decide) ?_
  rw [show xk_40.2.1.2.1.1.length = 18 from rfl]
  show ((0 : Int) + (-3)) = yq_cr ((1 * r 0 + 0) + 0) ((1 * r 1 + 0) + 0) ((1 * r 2 + 0) + 0) ((1 * r 3 + 0) + 0) ((1 * r 4 + 0) + 0) (yq_at ((1 * r 0 + 0) + 0) ((1 * ((1 * r 6 + 0) + 0) + 0) + 0) ((1 * ((1 * r 9 + 0) + 0) + 0) + 0) ((1 * ((1 * r 12 + 0) + 0) + 0) + 0) ((1 * ((1 * r 15 + 0) + 0) + 0) + 0)) (yq_at ((1 * r 2 + 0) + 0) ((1 * ((1 * r 6 + 0) + 0) + 0) + 0) ((1 * ((1 * r 9 + 0) + 0) + 0) + 0) ((1 * ((1 * r 12 + 0) + 0) + 0) + 0) ((1 * ((1 * r 15 + 0) + 0) + 0) + 0)) (yq_at ((1 * r 0 + 0) + 0) ((1 * ((1 * r 8 + 0) + 0) + 0) + 0) ((1 * ((1 * r 11 + 0) + 0) + 0) + 0) ((1 * ((1 * r 14 + 0) + 0) + 0) + 0) ((1 * ((1 * r 17 + 0) + 0) + 0) + 0)) (yq_at ((1 * r 2 + 0) + 0) ((1 * ((1 * r 8 + 0) + 0) + 0) + 0) ((1 * ((1 * r 11 + 0) + 0) + 0) + 0) ((1 * ((1 * r 14 + 0) + 0) + 0) + 0) ((1 * ((1 * r 17 + 0) + 0) + 0) + 0)) ∧ (g 3) = yq_xc ((1 * r 0 + 0) + 0) ((1 * r 1 + 0) + 0) ((1 * r 2 + 0) + 0) ((1 * r 3 + 0) + 0) ((1 * r 4 + 0) + 0) 0 (yq_at ((1 * r 0 + 0) + 0) ((1 * ((1 * r 6 + 0) + 0) + 0) + 0) ((1 * ((1 * r 9 + 0) + 0) + 0) + 0) ((1 * ((1 * r 12 + 0) + 0) + 0) + 0) ((1 * ((1 * r 15 + 0) + 0) + 0) + 0)) ((1 * ((1 * r 6 + 0) + 0) + 0) + 0) (yq_at ((1 * r 0 + 0) + 0) ((1 * ((1 * r 8 + 0) + 0) + 0) + 0) ((1 * ((1 * r 11 + 0) + 0) + 0) + 0) ((1 * ((1 * r 14 + 0) + 0) + 0) + 0) ((1 * ((1 * r 17 + 0) + 0) + 0) + 0)) ((1 * ((1 * r 8 + 0) + 0) + 0) + 0) ((1 * ((1 * r 7 + 0) + 0) + 0) + 0) (yq_fat ((1 * r 0 + 0) + 0) (g0 3) (g0 5) (g0 7) (g0 9)) (g0 3) ∧ (g 5) = yq_xc ((1 * r 0 + 0) + 0) ((1 * r 1 + 0) + 0) ((1 * r 2 + 0) + 0) ((1 * r 3 + 0) + 0) ((1 * r 4 + 0) + 0) 1 (yq_at ((1 * r 0 + 0) + 0) ((1 * ((1 * r 6 + 0) + 0) + 0) + 0) ((1 * ((1 * r 9 + 0) + 0) + 0) + 0) ((1 * ((1 * r 12 + 0) + 0) + 0) + 0) ((1 * ((1 * r 15 + 0) + 0) + 0) + 0)) ((1 * ((1 * r 9 + 0) + 0) + 0) + 0) (yq_at ((1 * r 0 + 0) + 0) ((1 * ((1 * r 8 + 0) + 0) + 0) + 0) ((1 * ((1 * r 11 + 0) + 0) + 0) + 0) ((1 * ((1 * r 14 + 0) + 0) + 0) + 0) ((1 * ((1 * r 17 + 0) + 0) + 0) + 0)) ((1 * ((1 * r 11 + 0) + 0) + 0) + 0) ((1 * ((1 * r 10 + 0) + 0) + 0) + 0) (yq_fat ((1 * r 0 + 0) + 0) (g0 3) (g0 5) (g0 7) (g0 9)) (g0 5) ∧ (g 7) = yq_xc ((1 * r 0 + 0) + 0) ((1 * r 1 + 0) + 0) ((1 * r 2 + 0) + 0) ((1 * r 3 + 0) + 0) ((1 * r 4 + 0) + 0) 2 (yq_at ((1 * r 0 + 0) + 0) ((1 * ((1 * r 6 + 0) + 0) + 0) + 0) ((1 * ((1 * r 9 + 0) + 0) + 0) + 0) ((1 * ((1 * r 12 + 0) + 0) + 0) + 0) ((1 * ((1 * r 15 + 0) + 0) + 0) + 0)) ((1 * ((1 * r 12 + 0) + 0) + 0) + 0) (yq_at ((1 * r 0 + 0) + 0) ((1 * ((1 * r 8 + 0) + 0) + 0) + 0) ((1 * ((1 * r 11 + 0) + 0) + 0) + 0) ((1 * ((1 * r 14 + 0) + 0) + 0) + 0) ((1 * ((1 * r 17 + 0) + 0) + 0) + 0)) ((1 * ((1 * r 14 + 0) + 0) + 0) + 0) ((1 * ((1 * r 13 + 0) + 0) + 0) + 0) (yq_fat ((1 * r 0 + 0) + 0) (g0 3) (g0 5) (g0 7) (g0 9)) (g0 7) ∧ (g 9) = yq_xc ((1 * r 0 + 0) + 0) ((1 * r 1 + 0) + 0) ((1 * r 2 + 0) + 0) ((1 * r 3 + 0) + 0) ((1 * r 4 + 0) + 0) 3 (yq_at ((1 * r 0 + 0) + 0) ((1 * ((1 * r 6 + 0) + 0) + 0) + 0) ((1 * ((1 * r 9 + 0) + 0) + 0) + 0) ((1 * ((1 * r 12 + 0) + 0) + 0) + 0) ((1 * ((1 * r 15 + 0) + 0) + 0) + 0)) ((1 * ((1 * r 15 + 0) + 0) + 0) + 0) (yq_at ((1 * r 0 + 0) + 0) ((1 * ((1 * r 8 + 0) + 0) + 0) + 0) ((1 * ((1 * r 11 + 0) + 0) + 0) + 0) ((1 * ((1 * r 14 + 0) + 0) + 0) + 0) ((1 * ((1 * r 17 + 0) + 0) + 0) + 0)) ((1 * ((1 * r 17 + 0) + 0) + 0) + 0) ((1 * ((1 * r 16 + 0) + 0) + 0) + 0) (yq_fat ((1 * r 0 + 0) + 0) (g0 3) (g0 5) (g0 7) (g0 9)) (g0 9)
  try simp only [Int.one_mul, Int.zero_add, Int.add_zero]
  refine ⟨?_, ?_, ?_, ?_, ?_⟩
  · rw [show r 0 = 3 by omega]
    rw [show r 2 = 3 by omega]
    simp only [yq_at3]
    unfold yq_cr
    repeat' split
    all_goals omega
  · rw [show r 0 = 3 by omega]
    simp only [yq_at3, yq_fat3]
    unfold yq_xc
    rw [if_neg (by omega)]
    rw [hgi]
  · rw [show r 0 = 3 by omega]
    simp only [yq_at3, yq_fat3]
    unfold yq_xc
    rw [if_neg (by omega)]
    rw [hgi]
  · rw [show r 0 = 3 by omega]
    simp only [yq_at3, yq_fat3]
    unfold yq_xc
    rw [if_neg (by omega)]
    rw [hgi]
  · rw [show r 0 = 3 by omega]
    simp only [yq_at3, yq_fat3]
    unfold yq_xc
    rw [if_neg (by omega)]
    rw [hgi]
theorem xw_40_0_99 : yt_hold xT_40 xk_40 xq_40.2.2.1 xG_40 xP_40 xU_40 18 xk_40.2.1.2.2.2 (fun g0 r g => xR_40 r g0 ∧ g = g0) (1000, ([(3, 3), (0, 100), (3, 3), (0, 100), (0, 100), ((-2147483648), 2147483647), (0, 1), ((-2147483648), 2147483647), (0, 100), (0, 1), ((-2147483648), 2147483647), (0, 100), (0, 1), ((-2147483648), 2147483647), (0, 100), (1, 1), ((-2147483648), 2147483647), (0, 100), ((-2147483648), 0)], [([(4, (-1)), (3, (-1))], 101), ([(3, (-1)), (17, 1), (4, (-1))], 0), ([(1, (-1)), (17, 1), (4, (-1))], 0)]), [([(4, 1)], 0), ([(18, 1)], 0)], [], [.inr (.inr (.inl (99, 0, [([(3, 1)], 0), ([(1, 1)], 0), ([(4, 1)], 0), ([(15, 1)], 0), ([(16, 1)], 0), ([(17, 1)], 0)], [8, 9], [9])))]) := by
  intro g0 r gi g hok hh hars hfr hG
  have b0 : 3 ≤ r 0 ∧ r 0 ≤ 3 := hok.1 0 (3, 3) rfl
  have b1 : 0 ≤ r 1 ∧ r 1 ≤ 100 := hok.1 1 (0, 100) rfl
  have b2 : 3 ≤ r 2 ∧ r 2 ≤ 3 := hok.1 2 (3, 3) rfl
  have b3 : 0 ≤ r 3 ∧ r 3 ≤ 100 := hok.1 3 (0, 100) rfl
  have b4 : 0 ≤ r 4 ∧ r 4 ≤ 100 := hok.1 4 (0, 100) rfl
  have b5 : (-2147483648) ≤ r 5 ∧ r 5 ≤ 2147483647 := hok.1 5 ((-2147483648), 2147483647) rfl
  have b6 : 0 ≤ r 6 ∧ r 6 ≤ 1 := hok.1 6 (0, 1) rfl
  have b7 : (-2147483648) ≤ r 7 ∧ r 7 ≤ 2147483647 := hok.1 7 ((-2147483648), 2147483647) rfl
  have b8 : 0 ≤ r 8 ∧ r 8 ≤ 100 := hok.1 8 (0, 100) rfl
  have b9 : 0 ≤ r 9 ∧ r 9 ≤ 1 := hok.1 9 (0, 1) rfl
  have b10 : (-2147483648) ≤ r 10 ∧ r 10 ≤ 2147483647 := hok.1 10 ((-2147483648), 2147483647) rfl
  have b11 : 0 ≤ r 11 ∧ r 11 ≤ 100 := hok.1 11 (0, 100) rfl
  have b12 : 0 ≤ r 12 ∧ r 12 ≤ 1 := hok.1 12 (0, 1) rfl
  have b13 : (-2147483648) ≤ r 13 ∧ r 13 ≤ 2147483647 := hok.1 13 ((-2147483648), 2147483647) rfl
  have b14 : 0 ≤ r 14 ∧ r 14 ≤ 100 := hok.1 14 (0, 100) rfl
  have b15 : 1 ≤ r 15 ∧ r 15 ≤ 1 := hok.1 15 (1, 1) rfl
  have b16 : (-2147483648) ≤ r 16 ∧ r 16 ≤ 2147483647 := hok.1 16 ((-2147483648), 2147483647) rfl
  have b17 : 0 ≤ r 17 ∧ r 17 ≤ 100 := hok.1 17 (0, 100) rfl
  have b18 : (-2147483648) ≤ r 18 ∧ r 18 ≤ 0 := hok.1 18 ((-2147483648), 0) rfl
  have f0 : 0 ≤ (((-1) * r 4 + ((-1) * r 3 + 0)) + 101) := hok.2 _ (List.mem_of_getElem? (i := 0) rfl)
  have f1 : 0 ≤ (((-1) * r 3 + (1 * r 17 + ((-1) * r 4 + 0))) + 0) := hok.2 _ (List.mem_of_getElem? (i := 1) rfl)
  have f2 : 0 ≤ (((-1) * r 1 + (1 * r 17 + ((-1) * r 4 + 0))) + 0) := hok.2 _ (List.mem_of_getElem? (i := 2) rfl)
  obtain ⟨hG, hgi⟩ := hG
  have hG : True := hG
  obtain ⟨h0, hh, e0, k0⟩ := hh
  have k0 : ∀ j, j ∉ [9] → g j = h0 j := k0
  have e0 : (g 9) = yq_pa ((1 * r 3 + 0) + 0) ((1 * r 1 + 0) + 0) ((1 * r 4 + 0) + 0) ((1 * r 16 + 0) + 0) (h0 9) (h0 9) := e0
  have hh : h0 = gi := hh
  subst hh
  refine yt_dalt (by decide) (by decide) ?_
  rw [show xk_40.2.1.2.1.1.length = 18 from rfl]
  show ((1 * r 4 + 0) + 0) = yq_cr ((1 * r 0 + 0) + 0) ((1 * r 1 + 0) + 0) ((1 * r 2 + 0) + 0) ((1 * r 3 + 0) + 0) ((1 * r 4 + 0) + 0) (yq_at ((1 * r 0 + 0) + 0) ((1 * ((1 * r 6 + 0) + 0) + 0) + 0) ((1 * ((1 * r 9 + 0) + 0) + 0) + 0) ((1 * ((1 * r 12 + 0) + 0) + 0) + 0) ((1 * ((1 * r 15 + 0) + 0) + 0) + 0)) (yq_at ((1 * r 2 + 0) + 0) ((1 * ((1 * r 6 + 0) + 0) + 0) + 0) ((1 * ((1 * r 9 + 0) + 0) + 0) + 0) ((1 * ((1 * r 12 + 0) + 0) + 0) + 0) ((1 * ((1 * r 15 + 0) + 0) + 0) + 0)) (yq_at ((1 * r 0 + 0) + 0) ((1 * ((1 * r 8 + 0) + 0) + 0) + 0) ((1 * ((1 * r 11 + 0) + 0) + 0) + 0) ((1 * ((1 * r 14 + 0) + 0) + 0) + 0) ((1 * ((1 * r 17 + 0) + 0) + 0) + 0)) (yq_at ((1 * r 2 + 0) + 0) ((1 * ((1 * r 8 + 0) + 0) + 0) + 0) ((1 * ((1 * r 11 + 0) + 0) + 0) + 0) ((1 * ((1 * r 14 + 0) + 0) + 0) + 0) ((1 * ((1 * r 17 + 0) + 0) + 0) + 0)) ∧ (g 3) = yq_xc ((1 * r 0 + 0) + 0) ((1 * r 1 + 0) + 0) ((1 * r 2 + 0) + 0) ((1 * r 3 + 0) + 0) ((1 * r 4 + 0) + 0) 0 (yq_at ((1 * r 0 + 0) + 0) ((1 * ((1 * r 6 + 0) + 0) + 0) + 0) ((1 * ((1 * r 9 + 0) + 0) + 0) + 0) ((1 * ((1 * r 12 + 0) + 0) + 0) + 0) ((1 * ((1 * r 15 + 0) + 0) + 0) + 0)) ((1 * ((1 * r 6 + 0) + 0) + 0) + 0) (yq_at ((1 * r 0 + 0) + 0) ((1 * ((1 * r 8 + 0) + 0) + 0) + 0) ((1 * ((1 * r 11 + 0) + 0) + 0) + 0) ((1 * ((1 * r 14 + 0) + 0) + 0) + 0) ((1 * ((1 * r 17 + 0) + 0) + 0) + 0)) ((1 * ((1 * r 8 + 0) + 0) + 0) + 0) ((1 * ((1 * r 7 + 0) + 0) + 0) + 0) (yq_fat ((1 * r 0 + 0) + 0) (g0 3) (g0 5) (g0 7) (g0 9)) (g0 3) ∧ (g 5) = yq_xc ((1 * r 0 + 0) + 0) ((1 * r 1 + 0) + 0) ((1 * r 2 + 0) + 0) ((1 * r 3 + 0) + 0) ((1 * r 4 + 0) + 0) 1 (yq_at ((1 * r 0 + 0) + 0) ((1 * ((1 * r 6 + 0) + 0) + 0) + 0) ((1 * ((1 * r 9 + 0) + 0) + 0) + 0) ((1 * ((1 * r 12 + 0) + 0) + 0) + 0) ((1 * ((1 * r 15 + 0) + 0) + 0) + 0)) ((1 * ((1 * r 9 + 0) + 0) + 0) + 0) (yq_at ((1 * r 0 + 0) + 0) ((1 * ((1 * r 8 + 0) + 0) + 0) + 0) ((1 * ((1 * r 11 + 0) + 0) + 0) + 0) ((1 * ((1 * r 14 + 0) + 0) + 0) + 0) ((1 * ((1 * r 17 + 0) + 0) + 0) + 0)) ((1 * ((1 * r 11 + 0) + 0) + 0) + 0) ((1 * ((1 * r 10 + 0) + 0) + 0) + 0) (yq_fat ((1 * r 0 + 0) + 0) (g0 3) (g0 5) (g0 7) (g0 9)) (g0 5) ∧ (g 7) = yq_xc ((1 * r 0 + 0) + 0) ((1 * r 1 + 0) + 0) ((1 * r 2 + 0) + 0) ((1 * r 3 + 0) + 0) ((1 * r 4 + 0) + 0) 2 (yq_at ((1 * r 0 + 0) + 0) ((1 * ((1 * r 6 + 0) + 0) + 0) + 0) ((1 * ((1 * r 9 + 0) + 0) + 0) + 0) ((1 * ((1 * r 12 + 0) + 0) + 0) + 0) ((1 * ((1 * r 15 + 0) + 0) + 0) + 0)) ((1 * ((1 * r 12 + 0) + 0) + 0) + 0) (yq_at ((1 * r 0 + 0) + 0) ((1 * ((1 * r 8 + 0) + 0) + 0) + 0) ((1 * ((1 * r 11 + 0) + 0) + 0) + 0) ((1 * ((1 * r 14 + 0) + 0) + 0) + 0) ((1 * ((1 * r 17 + 0) + 0) + 0) + 0)) ((1 * ((1 * r 14 + 0) + 0) + 0) + 0) ((1 * ((1 * r 13 + 0) + 0) + 0) + 0) (yq_fat ((1 * r 0 + 0) + 0) (g0 3) (g0 5) (g0 7) (g0 9)) (g0 7) ∧ (g 9) = yq_xc ((1 * r 0 + 0) + 0) ((1 * r 1 + 0) + 0) ((1 * r 2 + 0) + 0) ((1 * r 3 + 0) + 0) ((1 * r 4 + 0) + 0) 3 (yq_at ((1 * r 0 + 0) + 0) ((1 * ((1 * r 6 + 0) + 0) + 0) + 0) ((1 * ((1 * r 9 + 0) + 0) + 0) + 0) ((1 * ((1 * r 12 + 0) + 0) + 0) + 0) ((1 * ((1 * r 15 + 0) + 0) + 0) + 0)) ((1 * ((1 * r 15 + 0) + 0) + 0) + 0) (yq_at ((1 * r 0 + 0) + 0) ((1 * ((1 * r 8 + 0) + 0) + 0) + 0) ((1 * ((1 * r 11 + 0) + 0) + 0) + 0) ((1 * ((1 * r 14 + 0) + 0) + 0) + 0) ((1 * ((1 * r 17 + 0) + 0) + 0) + 0)) ((1 * ((1 * r 17 + 0) + 0) + 0) + 0) ((1 * ((1 * r 16 + 0) + 0) + 0) + 0) (yq_fat ((1 * r 0 + 0) + 0) (g0 3) (g0 5) (g0 7) (g0 9)) (g0 9)
  try simp only [Int.one_mul, Int.zero_add, Int.add_zero]
  try simp only [Int.one_mul, Int.zero_add, Int.add_zero] at e0
  refine ⟨?_, ?_, ?_, ?_, ?_⟩
  · rw [show r 0 = 3 by omega]
    rw [show r 2 = 3 by omega]
    simp only [yq_at3]
    unfold yq_cr
    repeat' split
    all_goals omega
  · rw [show r 0 = 3 by omega]
    simp only [yq_at3, yq_fat3]
    unfold yq_xc
    rw [if_neg (by omega)]
    rw [k0 3 (by decide), hgi]
  · rw [show r 0 = 3 by omega]
    simp only [yq_at3, yq_fat3]
    unfold yq_xc
    rw [if_neg (by omega)]
    rw [k0 5 (by decide), hgi]
  · rw [show r 0 = 3 by omega]
    simp only [yq_at3, yq_fat3]
    unfold yq_xc
    rw [if_neg (by omega)]
    rw [k0 7 (by decide), hgi]
  · rw [show r 0 = 3 by omega]
    simp only [yq_at3, yq_fat3]
    unfold yq_xc
    rw [if_pos (by omega), e0, hgi]
theorem xw_40_0_100 : yt_hold xT_40 xk_40 xq_40.2.2.1 xG_40 xP_40 xU_40 18 xk_40.2.1.2.2.2 (fun g0 r g => xR_40 r g0 ∧ g = g0) (1000, ([(0, 3), ((-2147483648), 2147483647), (0, 3), ((-2147483648), 2147483647), ((-2147483648), (-1)), ((-2147483648), 2147483647), (0, 1), ((-2147483648), 2147483647), (0, 100), (0, 1), ((-2147483648), 2147483647), (0, 100), (0, 1), ((-2147483648), 2147483647), (0, 100), (0, 1), ((-2147483648), 2147483647), (0, 100), ((-2147483648), 0)], []), [([], (-1)), ([(18, 1)], 0)], [], []) := by
  intro g0 r gi g hok hh hars hfr hG
  have b0 : 0 ≤ r 0 ∧ r 0 ≤ 3 := hok.1 0 (0, 3) rfl
  have b1 : (-2147483648) ≤ r 1 ∧ r 1 ≤ 2147483647 := hok.1 1 ((-2147483648), 2147483647) rfl
  have b2 : 0 ≤ r 2 ∧ r 2 ≤ 3 := hok.1 2 (0, 3) rfl
  have b3 : (-2147483648) ≤ r 3 ∧ r 3 ≤ 2147483647 := hok.1 3 ((-2147483648), 2147483647) rfl
  have b4 : (-2147483648) ≤ r 4 ∧ r 4 ≤ (-1) := hok.1 4 ((-2147483648), (-1)) rfl
  have b5 : (-2147483648) ≤ r 5 ∧ r 5 ≤ 2147483647 := hok.1 5 ((-2147483648), 2147483647) rfl
  have b6 : 0 ≤ r 6 ∧ r 6 ≤ 1 := hok.1 6 (0, 1) rfl
  have b7 : (-2147483648) ≤ r 7 ∧ r 7 ≤ 2147483647 := hok.1 7 ((-2147483648), 2147483647) rfl
  have b8 : 0 ≤ r 8 ∧ r 8 ≤ 100 := hok.1 8 (0, 100) rfl
  have b9 : 0 ≤ r 9 ∧ r 9 ≤ 1 := hok.1 9 (0, 1) rfl
  have b10 : (-2147483648) ≤ r 10 ∧ r 10 ≤ 2147483647 := hok.1 10 ((-2147483648), 2147483647) rfl
  have b11 : 0 ≤ r 11 ∧ r 11 ≤ 100 := hok.1 11 (0, 100) rfl
  have b12 : 0 ≤ r 12 ∧ r 12 ≤ 1 := hok.1 12 (0, 1) rfl
  have b13 : (-2147483648) ≤ r 13 ∧ r 13 ≤ 2147483647 := hok.1 13 ((-2147483648), 2147483647) rfl
  have b14 : 0 ≤ r 14 ∧ r 14 ≤ 100 := hok.1 14 (0, 100) rfl
  have b15 : 0 ≤ r 15 ∧ r 15 ≤ 1 := hok.1 15 (0, 1) rfl
  have b16 : (-2147483648) ≤ r 16 ∧ r 16 ≤ 2147483647 := hok.1 16 ((-2147483648), 2147483647) rfl
  have b17 : 0 ≤ r 17 ∧ r 17 ≤ 100 := hok.1 17 (0, 100) rfl
  have b18 : (-2147483648) ≤ r 18 ∧ r 18 ≤ 0 := hok.1 18 ((-2147483648), 0) rfl
  obtain ⟨hG, hgi⟩ := hG
  have hG : True := hG
  have hh : g = gi := hh
  subst hh
  refine yt_dalt (by decide) (by decide) ?_
  rw [show xk_40.2.1.2.1.1.length = 18 from rfl]
  show ((0 : Int) + (-1)) = yq_cr ((1 * r 0 + 0) + 0) ((1 * r 1 + 0) + 0) ((1 * r 2 + 0) + 0) ((1 * r 3 + 0) + 0) ((1 * r 4 + 0) + 0) (yq_at ((1 * r 0 + 0) + 0) ((1 * ((1 * r 6 + 0) + 0) + 0) + 0) ((1 * ((1 * r 9 + 0) + 0) + 0) + 0) ((1 * ((1 * r 12 + 0) + 0) + 0) + 0) ((1 * ((1 * r 15 + 0) + 0) + 0) + 0)) (yq_at ((1 * r 2 + 0) + 0) ((1 * ((1 * r 6 + 0) + 0) + 0) + 0) ((1 * ((1 * r 9 + 0) + 0) + 0) + 0) ((1 * ((1 * r 12 + 0) + 0) + 0) + 0) ((1 * ((1 * r 15 + 0) + 0) + 0) + 0)) (yq_at ((1 * r 0 + 0) + 0) ((1 * ((1 * r 8 + 0) + 0) + 0) + 0) ((1 * ((1 * r 11 + 0) + 0) + 0) + 0) ((1 * ((1 * r 14 + 0) + 0) + 0) + 0) ((1 * ((1 * r 17 + 0) + 0) + 0) + 0)) (yq_at ((1 * r 2 + 0) + 0) ((1 * ((1 * r 8 + 0) + 0) + 0) + 0) ((1 * ((1 * r 11 + 0) + 0) + 0) + 0) ((1 * ((1 * r 14 + 0) + 0) + 0) + 0) ((1 * ((1 * r 17 + 0) + 0) + 0) + 0)) ∧ (g 3) = yq_xc ((1 * r 0 + 0) + 0) ((1 * r 1 + 0) + 0) ((1 * r 2 + 0) + 0) ((1 * r 3 + 0) + 0) ((1 * r 4 + 0) + 0) 0 (yq_at ((1 * r 0 + 0) + 0) ((1 * ((1 * r 6 + 0) + 0) + 0) + 0) ((1 * ((1 * r 9 + 0) + 0) + 0) + 0) ((1 * ((1 * r 12 + 0) + 0) + 0) + 0) ((1 * ((1 * r 15 + 0) + 0) + 0) + 0)) ((1 * ((1 * r 6 + 0) + 0) + 0) + 0) (yq_at ((1 * r 0 + 0) + 0) ((1 * ((1 * r 8 + 0) + 0) + 0) + 0) ((1 * ((1 * r 11 + 0) + 0) + 0) + 0) ((1 * ((1 * r 14 + 0) + 0) + 0) + 0) ((1 * ((1 * r 17 + 0) + 0) + 0) + 0)) ((1 * ((1 * r 8 + 0) + 0) + 0) + 0) ((1 * ((1 * r 7 + 0) + 0) + 0) + 0) (yq_fat ((1 * r 0 + 0) + 0) (g0 3) (g0 5) (g0 7) (g0 9)) (g0 3) ∧ (g 5) = yq_xc ((1 * r 0 + 0) + 0) ((1 * r 1 + 0) + 0) ((1 * r 2 + 0) + 0) ((1 * r 3 + 0) + 0) ((1 * r 4 + 0) + 0) 1 (yq_at ((1 * r 0 + 0) + 0) ((1 * ((1 * r 6 + 0) + 0) + 0) + 0) ((1 * ((1 * r 9 + 0) + 0) + 0) + 0) ((1 * ((1 * r 12 + 0) + 0) + 0) + 0) ((1 * ((1 * r 15 + 0) + 0) + 0) + 0)) ((1 * ((1 * r 9 + 0) + 0) + 0) + 0) (yq_at ((1 * r 0 + 0) + 0) ((1 * ((1 * r 8 + 0) + 0) + 0) + 0) ((1 * ((1 * r 11 + 0) + 0) + 0) + 0) ((1 * ((1 * r 14 + 0) + 0) + 0) + 0) ((1 * ((1 * r 17 + 0) + 0) + 0) + 0)) ((1 * ((1 * r 11 + 0) + 0) + 0) + 0) ((1 * ((1 * r 10 + 0) + 0) + 0) + 0) (yq_fat ((1 * r 0 + 0) + 0) (g0 3) (g0 5) (g0 7) (g0 9)) (g0 5) ∧ (g 7) = yq_xc ((1 * r 0 + 0) + 0) ((1 * r 1 + 0) + 0) ((1 * r 2 + 0) + 0) ((1 * r 3 + 0) + 0) ((1 * r 4 + 0) + 0) 2 (yq_at ((1 * r 0 + 0) + 0) ((1 * ((1 * r 6 + 0) + 0) + 0) + 0) ((1 * ((1 * r 9 + 0) + 0) + 0) + 0) ((1 * ((1 * r 12 + 0) + 0) + 0) + 0) ((1 * ((1 * r 15 + 0) + 0) + 0) + 0)) ((1 * ((1 * r 12 + 0) + 0) + 0) + 0) (yq_at ((1 * r 0 + 0) + 0) ((1 * ((1 * r 8 + 0) + 0) + 0) + 0) ((1 * ((1 * r 11 + 0) + 0) + 0) + 0) ((1 * ((1 * r 14 + 0) + 0) + 0) + 0) ((1 * ((1 * r 17 + 0) + 0) + 0) + 0)) ((1 * ((1 * r 14 + 0) + 0) + 0) + 0) ((1 * ((1 * r 13 + 0) + 0) + 0) + 0) (yq_fat ((1 * r 0 + 0) + 0) (g0 3) (g0 5) (g0 7) (g0 9)) (g0 7) ∧ (g 9) = yq_xc ((1 * r 0 + 0) + 0) ((1 * r 1 + 0) + 0) ((1 * r 2 + 0) + 0) ((1 * r 3 + 0) + 0) ((1 * r 4 + 0) + 0) 3 (yq_at ((1 * r 0 + 0) + 0) ((1 * ((1 * r 6 + 0) + 0) + 0) + 0) ((1 * ((1 * r 9 + 0) + 0) + 0) + 0) ((1 * ((1 * r 12 + 0) + 0) + 0) + 0) ((1 * ((1 * r 15 + 0) + 0) + 0) + 0)) ((1 * ((1 * r 15 + 0) + 0) + 0) + 0) (yq_at ((1 * r 0 + 0) + 0) ((1 * ((1 * r 8 + 0) + 0) + 0) + 0) ((1 * ((1 * r 11 + 0) + 0) + 0) + 0) ((1 * ((1 * r 14 + 0) + 0) + 0) + 0) ((1 * ((1 * r 17 + 0) + 0) + 0) + 0)) ((1 * ((1 * r 17 + 0) + 0) + 0) + 0) ((1 * ((1 * r 16 + 0) + 0) + 0) + 0) (yq_fat ((1 * r 0 + 0) + 0) (g0 3) (g0 5) (g0 7) (g0 9)) (g0 9)
  try simp only [Int.one_mul, Int.zero_add, Int.add_zero]
  refine ⟨?_, ?_, ?_, ?_, ?_⟩
  · unfold yq_cr
    rw [if_neg (by omega)] <;> omega
  · unfold yq_xc
    rw [if_neg (by omega)]
    rw [hgi]
  · unfold yq_xc
    rw [if_neg (by omega)]
    rw [hgi]
  · unfold yq_xc
    rw [if_neg (by omega)]
    rw [hgi]
  · unfold yq_xc
    rw [if_neg (by omega)]
    rw [hgi]
theorem xn_40 : ∀ (j : Nat) (q : Nat × yt_T), xq_40.2.2.1[j]? = some q → q.2.2.2 = false → ∀ g0 r g, xG_40 j g0 r g
  | n + 0, q, hq, _ => by cases hq
theorem xs_40 : ∀ j, xq_40.2.2.2.getD j false = false → ∀ r g g', xP_40 j r g g'
  | 0, hf => by cases hf
  | n + 1, _ => fun _ _ _ => trivial
set_option maxRecDepth 20000 in
set_option maxHeartbeats 4000000 in
theorem xc_40 {l : Launch} {D : va_G} {cT : Nat → ClassId} {tys : List (ClassId × FieldType)} (hty : yx_Ty tys cT) : yt_Con l D vwCl cT tys yG yw_s30 xk_40 xR_40 xP_40 := yx_sem (calls := xa_40) (Z := xq_40) (tb := xT_40) (pt := xU_40) (Ga := xG_40) (vs := xv_40) (fun _ _ _ _ => trivial) 300 (by decide +kernel) yz_X11_copy_ok hty (yl_lkX11 _) (yl_cqkX11 _) (List.forall_mem_cons.mpr ⟨⟨xc_35 hty, yg_CLs yl_wX11_141 yd_yX11_isSheet, fun _ _ _ => trivial⟩, List.forall_mem_cons.mpr ⟨⟨xc_3 hty, yg_CLv rfl rfl rfl yl_wX11_107 yd_yX11_told, fun _ _ _ => trivial⟩, List.forall_mem_cons.mpr ⟨⟨xc_36 hty, yg_CLv rfl rfl rfl yl_wX11_166 yd_yX8_hasAll, fun _ _ _ => trivial⟩, List.forall_mem_cons.mpr ⟨⟨xc_38 hty, yg_CLv rfl rfl rfl yl_wX11_170 yd_yX8_putAll, fun _ _ _ => trivial⟩, List.forall_mem_cons.mpr ⟨⟨xc_36 hty, yg_CLv rfl rfl rfl yl_wX11_166 yd_yX8_hasAll, fun _ _ _ => trivial⟩, List.forall_mem_cons.mpr ⟨⟨xc_39 hty, yg_CLv rfl rfl rfl yl_wX11_170 yd_yX8_putAll, fun _ _ _ => trivial⟩, List.forall_mem_cons.mpr ⟨⟨xc_36 hty, yg_CLv rfl rfl rfl yl_wX11_166 yd_yX8_hasAll, fun _ _ _ => trivial⟩, List.forall_mem_cons.mpr ⟨⟨xc_39 hty, yg_CLv rfl rfl rfl yl_wX11_170 yd_yX8_putAll, fun _ _ _ => trivial⟩, List.forall_mem_cons.mpr ⟨⟨xc_36 hty, yg_CLv rfl rfl rfl yl_wX11_166 yd_yX8_hasAll, fun _ _ _ => trivial⟩, List.forall_mem_cons.mpr ⟨⟨xc_39 hty, yg_CLv rfl rfl rfl yl_wX11_170 yd_yX8_putAll, fun _ _ _ => trivial⟩, List.forall_mem_cons.mpr ⟨⟨xc_39 hty, yg_CLv rfl rfl rfl yl_wX11_170 yd_yX8_putAll, fun _ _ _ => trivial⟩, List.forall_mem_cons.mpr ⟨⟨xc_38 hty, yg_CLv rfl rfl rfl yl_wX11_170 yd_yX8_putAll, fun _ _ _ => trivial⟩, List.forall_mem_cons.mpr ⟨⟨xc_39 hty, yg_CLv rfl rfl rfl yl_wX11_170 yd_yX8_putAll, fun _ _ _ => trivial⟩, List.forall_mem_cons.mpr ⟨⟨xc_39 hty, yg_CLv rfl rfl rfl yl_wX11_170 yd_yX8_putAll, fun _ _ _ => trivial⟩, List.forall_mem_cons.mpr ⟨⟨xc_39 hty, yg_CLv rfl rfl rfl yl_wX11_170 yd_yX8_putAll, fun _ _ _ => trivial⟩, List.forall_mem_cons.mpr ⟨⟨xc_39 hty, yg_CLv rfl rfl rfl yl_wX11_170 yd_yX8_putAll, fun _ _ _ => trivial⟩, List.forall_mem_cons.mpr ⟨⟨xc_38 hty, yg_CLv rfl rfl rfl yl_wX11_170 yd_yX8_putAll, fun _ _ _ => trivial⟩, List.forall_mem_cons.mpr ⟨⟨xc_39 hty, yg_CLv rfl rfl rfl yl_wX11_170 yd_yX8_putAll, fun _ _ _ => trivial⟩, List.forall_mem_cons.mpr ⟨⟨xc_39 hty, yg_CLv rfl rfl rfl yl_wX11_170 yd_yX8_putAll, fun _ _ _ => trivial⟩, List.forall_mem_cons.mpr ⟨⟨xc_39 hty, yg_CLv rfl rfl rfl yl_wX11_170 yd_yX8_putAll, fun _ _ _ => trivial⟩, List.forall_mem_cons.mpr ⟨⟨xc_39 hty, yg_CLv rfl rfl rfl yl_wX11_170 yd_yX8_putAll, fun _ _ _ => trivial⟩, List.forall_mem_cons.mpr ⟨⟨xc_38 hty, yg_CLv rfl rfl rfl yl_wX11_170 yd_yX8_putAll, fun _ _ _ => trivial⟩, fun _ h => absurd h List.not_mem_nil⟩⟩⟩⟩⟩⟩⟩⟩⟩⟩⟩⟩⟩⟩⟩⟩⟩⟩⟩⟩⟩⟩) (xn_40) (xs_40) (by decide +kernel) (List.forall_mem_cons.mpr ⟨xw_40_0_0, List.forall_mem_cons.mpr ⟨xw_40_0_1, List.forall_mem_cons.mpr ⟨xw_40_0_2, List.forall_mem_cons.mpr ⟨xw_40_0_3, List.forall_mem_cons.mpr ⟨xw_40_0_4, List.forall_mem_cons.mpr ⟨xw_40_0_5, List.forall_mem_cons.mpr ⟨xw_40_0_6, List.forall_mem_cons.mpr ⟨xw_40_0_7, List.forall_mem_cons.mpr ⟨xw_40_0_8, List.forall_mem_cons.mpr ⟨xw_40_0_9, List.forall_mem_cons.mpr ⟨xw_40_0_10, List.forall_mem_cons.mpr ⟨xw_40_0_11, List.forall_mem_cons.mpr ⟨xw_40_0_12, List.forall_mem_cons.mpr ⟨xw_40_0_13, List.forall_mem_cons.mpr ⟨xw_40_0_14, List.forall_mem_cons.mpr ⟨xw_40_0_15, List.forall_mem_cons.mpr ⟨xw_40_0_16, List.forall_mem_cons.mpr ⟨xw_40_0_17, List.forall_mem_cons.mpr ⟨xw_40_0_18, List.forall_mem_cons.mpr ⟨xw_40_0_19, List.forall_mem_cons.mpr ⟨xw_40_0_20, List.forall_mem_cons.mpr ⟨xw_40_0_21, List.forall_mem_cons.mpr ⟨xw_40_0_22, List.forall_mem_cons.mpr ⟨xw_40_0_23, List.forall_mem_cons.mpr ⟨xw_40_0_24, List.forall_mem_cons.mpr ⟨xw_40_0_25, List.forall_mem_cons.mpr ⟨xw_40_0_26, List.forall_mem_cons.mpr ⟨xw_40_0_27, List.forall_mem_cons.mpr ⟨xw_40_0_28, List.forall_mem_cons.mpr ⟨xw_40_0_29, List.forall_mem_cons.mpr ⟨xw_40_0_30, List.forall_mem_cons.mpr ⟨xw_40_0_31, List.forall_mem_cons.mpr ⟨xw_40_0_32, List.forall_mem_cons.mpr ⟨xw_40_0_33, List.forall_mem_cons.mpr ⟨xw_40_0_34, List.forall_mem_cons.mpr ⟨xw_40_0_35, List.forall_mem_cons.mpr ⟨xw_40_0_36, List.forall_mem_cons.mpr ⟨xw_40_0_37, List.forall_mem_cons.mpr ⟨xw_40_0_38, List.forall_mem_cons.mpr ⟨xw_40_0_39, List.forall_mem_cons.mpr ⟨xw_40_0_40, List.forall_mem_cons.mpr ⟨xw_40_0_41, List.forall_mem_cons.mpr ⟨xw_40_0_42, List.forall_mem_cons.mpr ⟨xw_40_0_43, List.forall_mem_cons.mpr ⟨xw_40_0_44, List.forall_mem_cons.mpr ⟨xw_40_0_45, List.forall_mem_cons.mpr ⟨xw_40_0_46, List.forall_mem_cons.mpr ⟨xw_40_0_47, List.forall_mem_cons.mpr ⟨xw_40_0_48, List.forall_mem_cons.mpr ⟨xw_40_0_49, List.forall_mem_cons.mpr ⟨xw_40_0_50, List.forall_mem_cons.mpr ⟨xw_40_0_51, List.forall_mem_cons.mpr ⟨xw_40_0_52, List.forall_mem_cons.mpr ⟨xw_40_0_53, List.forall_mem_cons.mpr ⟨xw_40_0_54, List.forall_mem_cons.mpr ⟨xw_40_0_55, List.forall_mem_cons.mpr ⟨xw_40_0_56, List.forall_mem_cons.mpr ⟨xw_40_0_57, List.forall_mem_cons.mpr ⟨xw_40_0_58, List.forall_mem_cons.mpr ⟨xw_40_0_59, List.forall_mem_cons.mpr ⟨xw_40_0_60, List.forall_mem_cons.mpr ⟨xw_40_0_61, List.forall_mem_cons.mpr ⟨xw_40_0_62, List.forall_mem_cons.mpr ⟨xw_40_0_63, List.forall_mem_cons.mpr ⟨xw_40_0_64, List.forall_mem_cons.mpr ⟨xw_40_0_65, List.forall_mem_cons.mpr ⟨xw_40_0_66, List.forall_mem_cons.mpr ⟨xw_40_0_67, List.forall_mem_cons.mpr ⟨xw_40_0_68, List.forall_mem_cons.mpr ⟨xw_40_0_69, List.forall_mem_cons.mpr ⟨xw_40_0_70, List.forall_mem_cons.mpr ⟨xw_40_0_71, List.forall_mem_cons.mpr ⟨xw_40_0_72, List.forall_mem_cons.mpr ⟨xw_40_0_73, List.forall_mem_cons.mpr ⟨xw_40_0_74, List.forall_mem_cons.mpr ⟨xw_40_0_75, List.forall_mem_cons.mpr ⟨xw_40_0_76, List.forall_mem_cons.mpr ⟨xw_40_0_77, List.forall_mem_cons.mpr ⟨xw_40_0_78, List.forall_mem_cons.mpr ⟨xw_40_0_79, List.forall_mem_cons.mpr ⟨xw_40_0_80, List.forall_mem_cons.mpr ⟨xw_40_0_81, List.forall_mem_cons.mpr ⟨xw_40_0_82, List.forall_mem_cons.mpr ⟨xw_40_0_83, List.forall_mem_cons.mpr ⟨xw_40_0_84, List.forall_mem_cons.mpr ⟨xw_40_0_85, List.forall_mem_cons.mpr ⟨xw_40_0_86, List.forall_mem_cons.mpr ⟨xw_40_0_87, List.forall_mem_cons.mpr ⟨xw_40_0_88, List.forall_mem_cons.mpr ⟨xw_40_0_89, List.forall_mem_cons.mpr ⟨xw_40_0_90, List.forall_mem_cons.mpr ⟨xw_40_0_91, List.forall_mem_cons.mpr ⟨xw_40_0_92, List.forall_mem_cons.mpr ⟨xw_40_0_93, List.forall_mem_cons.mpr ⟨xw_40_0_94, List.forall_mem_cons.mpr ⟨xw_40_0_95, List.forall_mem_cons.mpr ⟨xw_40_0_96, List.forall_mem_cons.mpr ⟨xw_40_0_97, List.forall_mem_cons.mpr ⟨xw_40_0_98, List.forall_mem_cons.mpr ⟨xw_40_0_99, List.forall_mem_cons.mpr ⟨xw_40_0_100, fun _ h => absurd h List.not_mem_nil⟩⟩⟩⟩⟩⟩⟩⟩⟩⟩⟩⟩⟩⟩⟩⟩⟩⟩⟩⟩⟩⟩⟩⟩⟩⟩⟩⟩⟩⟩⟩⟩⟩⟩⟩⟩⟩⟩⟩⟩⟩⟩⟩⟩⟩⟩⟩⟩⟩⟩⟩⟩⟩⟩⟩⟩⟩⟩⟩⟩⟩⟩⟩⟩⟩⟩⟩⟩⟩⟩⟩⟩⟩⟩⟩⟩⟩⟩⟩⟩⟩⟩⟩⟩⟩⟩⟩⟩⟩⟩⟩⟩⟩⟩⟩⟩⟩⟩⟩⟩⟩) (trivial)
noncomputable def yw_s31 : List ys_C := [.inl 11, .inr (4, 4, [2, 3, 4, 5]), .inl 8, .inl 8, .inl 8, .inl 8]
noncomputable def yw_f31 (n : Nat) : List (List ys_V) := [[.inr (some 6), .inr (some 7), .inr (some 8), .inr (some 1), .inr (some 13), .inr (some 14), .inr (some 15), .inr (some 16), .inr (some 17), .inr (some 18), .inr (some 19), .inr (some 20), .inr (some 21), .inr (some 22), .inl (.inl ([(n + 0, 1)], 0))], [], [.inr (some 9), .inl (.inl ([(n + 1, 1)], 0)), .inl (.inl ([(n + 2, 1)], 0)), .inl (.inl ([(n + 3, 1)], 0))], [.inr (some 10), .inl (.inl ([(n + 4, 1)], 0)), .inl (.inl ([(n + 5, 1)], 0)), .inl (.inl ([(n + 6, 1)], 0))], [.inr (some 11), .inl (.inl ([(n + 7, 1)], 0)), .inl (.inl ([(n + 8, 1)], 0)), .inl (.inl ([(n + 9, 1)], 0))], [.inr (some 12), .inl (.inl ([(n + 10, 1)], 0)), .inl (.inl ([(n + 11, 1)], 0)), .inl (.inl ([(n + 12, 1)], 0))]]
noncomputable def yw_e31 : ys_E := [((-2147483648), 2147483647), (0, 1), ((-2147483648), 2147483647), (0, 100), (0, 1), ((-2147483648), 2147483647), (0, 100), (0, 1), ((-2147483648), 2147483647), (0, 100), (0, 1), ((-2147483648), 2147483647), (0, 100)]
noncomputable def yw_r31 : List ys_R := [((0, 0), []), ((0, 0), []), ((0, 0), []), ((0, 0), []), ((0, 0), []), ((0, 0), [])]
noncomputable def xf_41 : ys_F := (yw_f31 0, yw_r31)
noncomputable def xk_41 : ys_K := (((yX11_sheetsThere, cX11_sheetsThere, 3, (some .int)), (0, 0)), ([.inr (some 0)], ([] ++ yw_e31, []), xf_41), ([([(0, 4)], [], (xf_41.1, xf_41.2), some (.inl (.inl ([(13, 1)], 0))))], []))
noncomputable def xq_41 : yt_Q := (yz_X11_sheetsThere, (yl_flX11, yl_ciX11, yl_cjX11, yl_cpX11, yl_cqX11), [(4, ([(0, 4), (0, 4)], [], (xf_41.1, xf_41.2), [(0, .inr (some 0)), (1, .inl (.inl ([(13, 1)], 0))), (2, .inl (.inl ([(14, 1)], 0)))], [], ([(14, (-1))], 4)), [([(13, 1)], 0), ([(13, (-1)), (14, 1)], 0)], true)], [true])
noncomputable def xa_41 : List yt_CE := []
noncomputable def xv_41 : List (List yt_VC) := [[(0, ([((-2147483648), 2147483647), (0, 1), ((-2147483648), 2147483647), (0, 100), (0, 1), ((-2147483648), 2147483647), (0, 100), (0, 1), ((-2147483648), 2147483647), (0, 100), (0, 1), ((-2147483648), 2147483647), (0, 100)], []), [([], 0), ([], 0)], [], [])],
  [(1000, ([((-2147483648), 2147483647), (0, 1), ((-2147483648), 2147483647), (0, 100), (0, 1), ((-2147483648), 2147483647), (0, 100), (0, 1), ((-2147483648), 2147483647), (0, 100), (0, 1), ((-2147483648), 2147483647), (0, 100), (0, 4), (4, 4)], [([(13, (-1)), (14, 1)], 0)]), [([(13, 1)], 0)], [], []),
   (0, ([((-2147483648), 2147483647), (0, 0), ((-2147483648), 2147483647), (0, 100), (0, 1), ((-2147483648), 2147483647), (0, 100), (0, 1), ((-2147483648), 2147483647), (0, 100), (0, 1), ((-2147483648), 2147483647), (0, 100), (0, 4), (0, 0)], [([(13, (-1)), (14, 1)], 0)]), [([(13, 1)], 0), ([], 1)], [], []),
   (0, ([((-2147483648), 2147483647), (1, 1), ((-2147483648), 2147483647), (0, 100), (0, 1), ((-2147483648), 2147483647), (0, 100), (0, 1), ((-2147483648), 2147483647), (0, 100), (0, 1), ((-2147483648), 2147483647), (0, 100), (0, 4), (0, 0)], [([(13, (-1)), (14, 1)], 0)]), [([(13, 1)], 1), ([], 1)], [], []),
   (0, ([((-2147483648), 2147483647), (0, 1), ((-2147483648), 2147483647), (0, 100), (0, 0), ((-2147483648), 2147483647), (0, 100), (0, 1), ((-2147483648), 2147483647), (0, 100), (0, 1), ((-2147483648), 2147483647), (0, 100), (0, 4), (1, 1)], [([(13, (-1)), (14, 1)], 0)]), [([(13, 1)], 0), ([], 2)], [], []),
   (0, ([((-2147483648), 2147483647), (0, 1), ((-2147483648), 2147483647), (0, 100), (1, 1), ((-2147483648), 2147483647), (0, 100), (0, 1), ((-2147483648), 2147483647), (0, 100), (0, 1), ((-2147483648), 2147483647), (0, 100), (0, 4), (1, 1)], [([(13, (-1)), (14, 1)], 0)]), [([(13, 1)], 1), ([], 2)], [], []),
   (0, ([((-2147483648), 2147483647), (0, 1), ((-2147483648), 2147483647), (0, 100), (0, 1), ((-2147483648), 2147483647), (0, 100), (0, 0), ((-2147483648), 2147483647), (0, 100), (0, 1), ((-2147483648), 2147483647), (0, 100), (0, 4), (2, 2)], [([(13, (-1)), (14, 1)], 0)]), [([(13, 1)], 0), ([], 3)], [], []),
   (0, ([((-2147483648), 2147483647), (0, 1), ((-2147483648), 2147483647), (0, 100), (0, 1), ((-2147483648), 2147483647), (0, 100), (1, 1), ((-2147483648), 2147483647), (0, 100), (0, 1), ((-2147483648), 2147483647), (0, 100), (0, 4), (2, 2)], [([(13, (-1)), (14, 1)], 0)]), [([(13, 1)], 1), ([], 3)], [], []),
   (0, ([((-2147483648), 2147483647), (0, 1), ((-2147483648), 2147483647), (0, 100), (0, 1), ((-2147483648), 2147483647), (0, 100), (0, 1), ((-2147483648), 2147483647), (0, 100), (0, 0), ((-2147483648), 2147483647), (0, 100), (0, 4), (3, 3)], [([(13, (-1)), (14, 1)], 0)]), [([(13, 1)], 0), ([], 4)], [], []),
   (0, ([((-2147483648), 2147483647), (0, 1), ((-2147483648), 2147483647), (0, 100), (0, 1), ((-2147483648), 2147483647), (0, 100), (0, 1), ((-2147483648), 2147483647), (0, 100), (1, 1), ((-2147483648), 2147483647), (0, 100), (0, 4), (3, 3)], [([(13, (-1)), (14, 1)], 0)]), [([(13, 1)], 1), ([], 4)], [], [])]]
noncomputable def xG_41 : Nat → yt_G → (Nat → Int) → yt_G → Prop
  | 0, g0, r, g => ((1 * (r 13) + 0) + 0) = yq_t4 ((1 * (r 14) + 0) + 0) ((1 * (r 1) + 0) + 0) ((1 * (r 4) + 0) + 0) ((1 * (r 7) + 0) + 0) ((1 * (r 10) + 0) + 0)
  | _, _, _, _ => True
noncomputable def xP_41 : yt_Ph
  | 0, r, g0, g => (r 13) = ((1 * (r 1) + 0) + 0) + ((1 * (r 4) + 0) + 0) + ((1 * (r 7) + 0) + 0) + ((1 * (r 10) + 0) + 0)
  | _, _, _, _ => True
noncomputable def xR_41 : yt_Ps := fun r g0 => True
noncomputable def xT_41 : yt_Tb := fun d => match d with
  | _ => fun _ _ _ _ => True
noncomputable def xU_41 : Nat → yt_Ps := fun d => match d with
  | _ => fun _ _ => True
theorem xw_41_0_0 : yt_hold xT_41 xk_41 xq_41.2.2.1 xG_41 xP_41 xU_41 13 xk_41.2.1.2.2.2 (fun g0 r g => xR_41 r g0 ∧ g = g0) (0, ([((-2147483648), 2147483647), (0, 1), ((-2147483648), 2147483647), (0, 100), (0, 1), ((-2147483648), 2147483647), (0, 100), (0, 1), ((-2147483648), 2147483647), (0, 100), (0, 1), ((-2147483648), 2147483647), (0, 100)], []), [([], 0), ([], 0)], [], []) := by
  intro g0 r gi g hok hh hars hfr hG
  have b0 : (-2147483648) ≤ r 0 ∧ r 0 ≤ 2147483647 := hok.1 0 ((-2147483648), 2147483647) rfl
  have b1 : 0 ≤ r 1 ∧ r 1 ≤ 1 := hok.1 1 (0, 1) rfl
  have b2 : (-2147483648) ≤ r 2 ∧ r 2 ≤ 2147483647 := hok.1 2 ((-2147483648), 2147483647) rfl
  have b3 : 0 ≤ r 3 ∧ r 3 ≤ 100 := hok.1 3 (0, 100) rfl
  have b4 : 0 ≤ r 4 ∧ r 4 ≤ 1 := hok.1 4 (0, 1) rfl
  have b5 : (-2147483648) ≤ r 5 ∧ r 5 ≤ 2147483647 := hok.1 5 ((-2147483648), 2147483647) rfl
  have b6 : 0 ≤ r 6 ∧ r 6 ≤ 100 := hok.1 6 (0, 100) rfl
  have b7 : 0 ≤ r 7 ∧ r 7 ≤ 1 := hok.1 7 (0, 1) rfl
  have b8 : (-2147483648) ≤ r 8 ∧ r 8 ≤ 2147483647 := hok.1 8 ((-2147483648), 2147483647) rfl
  have b9 : 0 ≤ r 9 ∧ r 9 ≤ 100 := hok.1 9 (0, 100) rfl
  have b10 : 0 ≤ r 10 ∧ r 10 ≤ 1 := hok.1 10 (0, 1) rfl
  have b11 : (-2147483648) ≤ r 11 ∧ r 11 ≤ 2147483647 := hok.1 11 ((-2147483648), 2147483647) rfl
  have b12 : 0 ≤ r 12 ∧ r 12 ≤ 100 := hok.1 12 (0, 100) rfl
  obtain ⟨hG, hgi⟩ := hG
  have hG : True := hG
  have hh : g = gi := hh
  subst hh
  refine yt_dcut (by decide) rfl ?_ ?_
  · rw [show xk_41.2.1.2.1.1.length = 13 from rfl]
    refine yx_fks _ _ ?_
    refine ⟨?_, ?_, trivial⟩
    · show 0 ≤ ((1 * ((0 : Int) + 0) + 0) + 0)
      omega
    · show 0 ≤ (((-1) * ((0 : Int) + 0) + (1 * ((0 : Int) + 0) + 0)) + 0)
      omega
  · rw [show xk_41.2.1.2.1.1.length = 13 from rfl]
    show ((1 * ((0 : Int) + 0) + 0) + 0) = yq_t4 ((1 * ((0 : Int) + 0) + 0) + 0) ((1 * ((1 * r 1 + 0) + 0) + 0) + 0) ((1 * ((1 * r 4 + 0) + 0) + 0) + 0) ((1 * ((1 * r 7 + 0) + 0) + 0) + 0) ((1 * ((1 * r 10 + 0) + 0) + 0) + 0)
    try simp only [Int.one_mul, Int.zero_add, Int.add_zero]
    rfl
theorem xw_41_1_0 : yt_hold xT_41 xk_41 xq_41.2.2.1 xG_41 xP_41 xU_41 15 ((xq_41.2.2.1.getD 0 (0, ([], [], ([], []), [], [], ([], 0)), [], false)).2.1.2.2.1.2) (xG_41 0) (1000, ([((-2147483648), 2147483647), (0, 1), ((-2147483648), 2147483647), (0, 100), (0, 1), ((-2147483648), 2147483647), (0, 100), (0, 1), ((-2147483648), 2147483647), (0, 100), (0, 1), ((-2147483648), 2147483647), (0, 100), (0, 4), (4, 4)], [([(13, (-1)), (14, 1)], 0)]), [([(13, 1)], 0)], [], []) := by
  intro g0 r gi g hok hh hars hfr hG
  have b0 : (-2147483648) ≤ r 0 ∧ r 0 ≤ 2147483647 := hok.1 0 ((-2147483648), 2147483647) rfl
  have b1 : 0 ≤ r 1 ∧ r 1 ≤ 1 := hok.1 1 (0, 1) rfl
  have b2 : (-2147483648) ≤ r 2 ∧ r 2 ≤ 2147483647 := hok.1 2 ((-2147483648), 2147483647) rfl
  have b3 : 0 ≤ r 3 ∧ r 3 ≤ 100 := hok.1 3 (0, 100) rfl
  have b4 : 0 ≤ r 4 ∧ r 4 ≤ 1 := hok.1 4 (0, 1) rfl
  have b5 : (-2147483648) ≤ r 5 ∧ r 5 ≤ 2147483647 := hok.1 5 ((-2147483648), 2147483647) rfl
  have b6 : 0 ≤ r 6 ∧ r 6 ≤ 100 := hok.1 6 (0, 100) rfl
  have b7 : 0 ≤ r 7 ∧ r 7 ≤ 1 := hok.1 7 (0, 1) rfl
  have b8 : (-2147483648) ≤ r 8 ∧ r 8 ≤ 2147483647 := hok.1 8 ((-2147483648), 2147483647) rfl
  have b9 : 0 ≤ r 9 ∧ r 9 ≤ 100 := hok.1 9 (0, 100) rfl
  have b10 : 0 ≤ r 10 ∧ r 10 ≤ 1 := hok.1 10 (0, 1) rfl
  have b11 : (-2147483648) ≤ r 11 ∧ r 11 ≤ 2147483647 := hok.1 11 ((-2147483648), 2147483647) rfl
  have b12 : 0 ≤ r 12 ∧ r 12 ≤ 100 := hok.1 12 (0, 100) rfl
  have b13 : 0 ≤ r 13 ∧ r 13 ≤ 4 := hok.1 13 (0, 4) rfl
  have b14 : 4 ≤ r 14 ∧ r 14 ≤ 4 := hok.1 14 (4, 4) rfl
  have f0 : 0 ≤ (((-1) * r 13 + (1 * r 14 + 0)) + 0) := hok.2 _ (List.mem_of_getElem? (i := 0) rfl)
  have hG : ((1 * (r 13) + 0) + 0) = yq_t4 ((1 * (r 14) + 0) + 0) ((1 * (r 1) + 0) + 0) ((1 * (r 4) + 0) + 0) ((1 * (r 7) + 0) + 0) ((1 * (r 10) + 0) + 0) := hG
  have hh : g = gi := hh
  subst hh
  have hG : ((1 * (r 13) + 0) + 0) = yq_t4 ((1 * (r 14) + 0) + 0) ((1 * (r 1) + 0) + 0) ((1 * (r 4) + 0) + 0) ((1 * (r 7) + 0) + 0) ((1 * (r 10) + 0) + 0) := hG
  refine yt_dalt (by decide) (by decide) ?_
  rw [show xk_41.2.1.2.1.1.length = 13 from rfl]
  show ((1 * r 13 + 0) + 0) = ((1 * ((1 * r 1 + 0) + 0) + 0) + 0) + ((1 * ((1 * r 4 + 0) + 0) + 0) + 0) + ((1 * ((1 * r 7 + 0) + 0) + 0) + 0) + ((1 * ((1 * r 10 + 0) + 0) + 0) + 0)
  try simp only [Int.one_mul, Int.zero_add, Int.add_zero]
  try simp only [Int.one_mul, Int.zero_add, Int.add_zero] at hG
  unfold yq_t4 at hG
  repeat' split at hG
  all_goals (repeat' split)
  all_goals omega
theorem xw_41_1_1 : yt_hold xT_41 xk_41 xq_41.2.2.1 xG_41 xP_41 xU_41 15 ((xq_41.2.2.1.getD 0 (0, ([], [], ([], []), [], [], ([], 0)), [], false)).2.1.2.2.1.2) (xG_41 0) (0, ([((-2147483648), 2147483647), (0, 0), ((-2147483648), 2147483647), (0, 100), (0, 1), ((-2147483648), 2147483647), (0, 100), (0, 1), ((-2147483648), 2147483647), (0, 100), (0, 1), ((-2147483648), 2147483647), (0, 100), (0, 4), (0, 0)], [([(13, (-1)), (14, 1)], 0)]), [([(13, 1)], 0), ([], 1)], [], []) := by
  intro g0 r gi g hok hh hars hfr hG
  have b0 : (-2147483648) ≤ r 0 ∧ r 0 ≤ 2147483647 := hok.1 0 ((-2147483648), 2147483647) rfl
  have b1 : 0 ≤ r 1 ∧ r 1 ≤ 0 := hok.1 1 (0, 0) rfl
  have b2 : (-2147483648) ≤ r 2 ∧ r 2 ≤ 2147483647 := hok.1 2 ((-2147483648), 2147483647) rfl
  have b3 : 0 ≤ r 3 ∧ r 3 ≤ 100 := hok.1 3 (0, 100) rfl
  have b4 : 0 ≤ r 4 ∧ r 4 ≤ 1 := hok.1 4 (0, 1) rfl
  have b5 : (-2147483648) ≤ r 5 ∧ r 5 ≤ 2147483647 := hok.1 5 ((-2147483648), 2147483647) rfl
  have b6 : 0 ≤ r 6 ∧ r 6 ≤ 100 := hok.1 6 (0, 100) rfl
  have b7 : 0 ≤ r 7 ∧ r 7 ≤ 1 := hok.1 7 (0, 1) rfl
  have b8 : (-2147483648) ≤ r 8 ∧ r 8 ≤ 2147483647 := hok.1 8 ((-2147483648), 2147483647) rfl
  have b9 : 0 ≤ r 9 ∧ r 9 ≤ 100 := hok.1 9 (0, 100) rfl
  have b10 : 0 ≤ r 10 ∧ r 10 ≤ 1 := hok.1 10 (0, 1) rfl
  have b11 : (-2147483648) ≤ r 11 ∧ r 11 ≤ 2147483647 := hok.1 11 ((-2147483648), 2147483647) rfl
  have b12 : 0 ≤ r 12 ∧ r 12 ≤ 100 := hok.1 12 (0, 100) rfl
  have b13 : 0 ≤ r 13 ∧ r 13 ≤ 4 := hok.1 13 (0, 4) rfl
  have b14 : 0 ≤ r 14 ∧ r 14 ≤ 0 := hok.1 14 (0, 0) rfl
  have f0 : 0 ≤ (((-1) * r 13 + (1 * r 14 + 0)) + 0) := hok.2 _ (List.mem_of_getElem? (i := 0) rfl)
  have hG : ((1 * (r 13) + 0) + 0) = yq_t4 ((1 * (r 14) + 0) + 0) ((1 * (r 1) + 0) + 0) ((1 * (r 4) + 0) + 0) ((1 * (r 7) + 0) + 0) ((1 * (r 10) + 0) + 0) := hG
  have hh : g = gi := hh
  subst hh
  have hG : ((1 * (r 13) + 0) + 0) = yq_t4 ((1 * (r 14) + 0) + 0) ((1 * (r 1) + 0) + 0) ((1 * (r 4) + 0) + 0) ((1 * (r 7) + 0) + 0) ((1 * (r 10) + 0) + 0) := hG
  refine yt_dcut (by decide) rfl ?_ ?_
  · rw [show xk_41.2.1.2.1.1.length = 13 from rfl]
    refine yx_fks _ _ ?_
    refine ⟨?_, ?_, trivial⟩
    · show 0 ≤ ((1 * ((1 * r 13 + 0) + 0) + 0) + 0)
      omega
    · show 0 ≤ (((-1) * ((1 * r 13 + 0) + 0) + (1 * ((0 : Int) + 1) + 0)) + 0)
      omega
  · rw [show xk_41.2.1.2.1.1.length = 13 from rfl]
    show ((1 * ((1 * r 13 + 0) + 0) + 0) + 0) = yq_t4 ((1 * ((0 : Int) + 1) + 0) + 0) ((1 * ((1 * r 1 + 0) + 0) + 0) + 0) ((1 * ((1 * r 4 + 0) + 0) + 0) + 0) ((1 * ((1 * r 7 + 0) + 0) + 0) + 0) ((1 * ((1 * r 10 + 0) + 0) + 0) + 0)
    try simp only [Int.one_mul, Int.zero_add, Int.add_zero]
    try simp only [Int.one_mul, Int.zero_add, Int.add_zero] at hG
    unfold yq_t4 at hG
    unfold yq_t4
    repeat' split at hG
    all_goals (repeat' split)
    all_goals omega
theorem xw_41_1_2 : yt_hold xT_41 xk_41 xq_41.2.2.1 xG_41 xP_41 xU_41 15 ((xq_41.2.2.1.getD 0 (0, ([], [], ([], []), [], [], ([], 0)), [], false)).2.1.2.2.1.2) (xG_41 0) (0, ([((-2147483648), 2147483647), (1, 1), ((-2147483648), 2147483647), (0, 100), (0, 1), ((-2147483648), 2147483647), (0, 100), (0, 1), ((-2147483648), 2147483647), (0, 100), (0, 1), ((-2147483648), 2147483647), (0, 100), (0, 4), (0, 0)], [([(13, (-1)), (14, 1)], 0)]), [([(13, 1)], 1), ([], 1)], [], []) := by
  intro g0 r gi g hok hh hars hfr hG
  have b0 : (-2147483648) ≤ r 0 ∧ r 0 ≤ 2147483647 := hok.1 0 ((-2147483648), 2147483647) rfl
  have b1 : 1 ≤ r 1 ∧ r 1 ≤ 1 := hok.1 1 (1, 1) rfl
  have b2 : (-2147483648) ≤ r 2 ∧ r 2 ≤ 2147483647 := hok.1 2 ((-2147483648), 2147483647) rfl
  have b3 : 0 ≤ r 3 ∧ r 3 ≤ 100 := hok.1 3 (0, 100) rfl
  have b4 : 0 ≤ r 4 ∧ r 4 ≤ 1 := hok.1 4 (0, 1) rfl
  have b5 : (-2147483648) ≤ r 5 ∧ r 5 ≤ 2147483647 := hok.1 5 ((-2147483648), 2147483647) rfl
  have b6 : 0 ≤ r 6 ∧ r 6 ≤ 100 := hok.1 6 (0, 100) rfl
  have b7 : 0 ≤ r 7 ∧ r 7 ≤ 1 := hok.1 7 (0, 1) rfl
  have b8 : (-2147483648) ≤ r 8 ∧ r 8 ≤ 2147483647 := hok.1 8 ((-2147483648), 2147483647) rfl
  have b9 : 0 ≤ r 9 ∧ r 9 ≤ 100 := hok.1 9 (0, 100) rfl
  have b10 : 0 ≤ r 10 ∧ r 10 ≤ 1 := hok.1 10 (0, 1) rfl
  have b11 : (-2147483648) ≤ r 11 ∧ r 11 ≤ 2147483647 := hok.1 11 ((-2147483648), 2147483647) rfl
  have b12 : 0 ≤ r 12 ∧ r 12 ≤ 100 := hok.1 12 (0, 100) rfl
  have b13 : 0 ≤ r 13 ∧ r 13 ≤ 4 := hok.1 13 (0, 4) rfl
  have b14 : 0 ≤ r 14 ∧ r 14 ≤ 0 := hok.1 14 (0, 0) rfl
  have f0 : 0 ≤ (((-1) * r 13 + (1 * r 14 + 0)) + 0) := hok.2 _ (List.mem_of_getElem? (i := 0) rfl)
  have hG : ((1 * (r 13) + 0) + 0) = yq_t4 ((1 * (r 14) + 0) + 0) ((1 * (r 1) + 0) + 0) ((1 * (r 4) + 0) + 0) ((1 * (r 7) + 0) + 0) ((1 * (r 10) + 0) + 0) := hG
  have hh : g = gi := hh
  subst hh
  have hG : ((1 * (r 13) + 0) + 0) = yq_t4 ((1 * (r 14) + 0) + 0) ((1 * (r 1) + 0) + 0) ((1 * (r 4) + 0) + 0) ((1 * (r 7) + 0) + 0) ((1 * (r 10) + 0) + 0) := hG
  refine yt_dcut (by decide) rfl ?_ ?_
  · rw [show xk_41.2.1.2.1.1.length = 13 from rfl]
    refine yx_fks _ _ ?_
    refine ⟨?_, ?_, trivial⟩
    · show 0 ≤ ((1 * ((1 * r 13 + 0) + 1) + 0) + 0)
      omega
    · show 0 ≤ (((-1) * ((1 * r 13 + 0) + 1) + (1 * ((0 : Int) + 1) + 0)) + 0)
      omega
  · rw [show xk_41.2.1.2.1.1.length = 13 from rfl]
    show ((1 * ((1 * r 13 + 0) + 1) + 0) + 0) = yq_t4 ((1 * ((0 : Int) + 1) + 0) + 0) ((1 * ((1 * r 1 + 0) + 0) + 0) + 0) ((1 * ((1 * r 4 + 0) + 0) + 0) + 0) ((1 * ((1 * r 7 + 0) + 0) + 0) + 0) ((1 * ((1 * r 10 + 0) + 0) + 0) + 0)
    try simp only [Int.one_mul, Int.zero_add, Int.add_zero]
    try simp only [Int.one_mul, Int.zero_add, Int.add_zero] at hG
    unfold yq_t4 at hG
    unfold yq_t4
    repeat' split at hG
    all_goals (repeat' split)
    all_goals omega
theorem xw_41_1_3 : yt_hold xT_41 xk_41 xq_41.2.2.1 xG_41 xP_41 xU_41 15 ((xq_41.2.2.1.getD 0 (0, ([], [], ([], []), [], [], ([], 0)), [], false)).2.1.2.2.1.2) (xG_41 0) (0, ([((-2147483648), 2147483647), (0, 1), ((-2147483648), 2147483647), (0, 100), (0, 0), ((-2147483648), 2147483647), (0, 100), (0, 1), ((-2147483648), 2147483647), (0, 100), (0, 1), ((-2147483648), 2147483647), (0, 100), (0, 4), (1, 1)], [([(13, (-1)), (14, 1)], 0)]), [([(13, 1)], 0), ([], 2)], [], []) := by
  intro g0 r gi g hok hh hars hfr hG
  have b0 : (-2147483648) ≤ r 0 ∧ r 0 ≤ 2147483647 := hok.1 0 ((-2147483648), 2147483647) rfl
  have b1 : 0 ≤ r 1 ∧ r 1 ≤ 1 := hok.1 1 (0, 1) rfl
  have b2 : (-2147483648) ≤ r 2 ∧ r 2 ≤ 2147483647 := hok.1 2 ((-2147483648), 2147483647) rfl
  have b3 : 0 ≤ r 3 ∧ r 3 ≤ 100 := hok.1 3 (0, 100) rfl
  have b4 : 0 ≤ r 4 ∧ r 4 ≤ 0 := hok.1 4 (0, 0) rfl
  have b5 : (-2147483648) ≤ r 5 ∧ r 5 ≤ 2147483647 := hok.1 5 ((-2147483648), 2147483647) rfl
  have b6 : 0 ≤ r 6 ∧ r 6 ≤ 100 := hok.1 6 (0, 100) rfl
  have b7 : 0 ≤ r 7 ∧ r 7 ≤ 1 := hok.1 7 (0, 1) rfl
  have b8 : (-2147483648) ≤ r 8 ∧ r 8 ≤ 2147483647 := hok.1 8 ((-2147483648), 2147483647) rfl
  have b9 : 0 ≤ r 9 ∧ r 9 ≤ 100 := hok.1 9 (0, 100) rfl
  have b10 : 0 ≤ r 10 ∧ r 10 ≤ 1 := hok.1 10 (0, 1) rfl
  have b11 : (-2147483648) ≤ r 11 ∧ r 11 ≤ 2147483647 := hok.1 11 ((-2147483648), 2147483647) rfl
  have b12 : 0 ≤ r 12 ∧ r 12 ≤ 100 := hok.1 12 (0, 100) rfl
  have b13 : 0 ≤ r 13 ∧ r 13 ≤ 4 := hok.1 13 (0, 4) rfl
  have b14 : 1 ≤ r 14 ∧ r 14 ≤ 1 := hok.1 14 (1, 1) rfl
  have f0 : 0 ≤ (((-1) * r 13 + (1 * r 14 + 0)) + 0) := hok.2 _ (List.mem_of_getElem? (i := 0) rfl)
  have hG : ((1 * (r 13) + 0) + 0) = yq_t4 ((1 * (r 14) + 0) + 0) ((1 * (r 1) + 0) + 0) ((1 * (r 4) + 0) + 0) ((1 * (r 7) + 0) + 0) ((1 * (r 10) + 0) + 0) := hG
  have hh : g = gi := hh
  subst hh
  have hG : ((1 * (r 13) + 0) + 0) = yq_t4 ((1 * (r 14) + 0) + 0) ((1 * (r 1) + 0) + 0) ((1 * (r 4) + 0) + 0) ((1 * (r 7) + 0) + 0) ((1 * (r 10) + 0) + 0) := hG
  refine yt_dcut (by decide) rfl ?_ ?_
  · rw [show xk_41.2.1.2.1.1.length = 13 from rfl]
    refine yx_fks _ _ ?_
    refine ⟨?_, ?_, trivial⟩
    · show 0 ≤ ((1 * ((1 * r 13 + 0) + 0) + 0) + 0)
      omega
    · show 0 ≤ (((-1) * ((1 * r 13 + 0) + 0) + (1 * ((0 : Int) + 2) + 0)) + 0)
      omega
  · rw [show xk_41.2.1.2.1.1.length = 13 from rfl]
    show ((1 * ((1 * r 13 + 0) + 0) + 0) + 0) = yq_t4 ((1 * ((0 : Int) + 2) + 0) + 0) ((1 * ((1 * r 1 + 0) + 0) + 0) + 0) ((1 * ((1 * r 4 + 0) + 0) + 0) + 0) ((1 * ((1 * r 7 + 0) + 0) + 0) + 0) ((1 * ((1 * r 10 + 0) + 0) + 0) + 0)
    try simp only [Int.one_mul, Int.zero_add, Int.add_zero]
    try simp only [Int.one_mul, Int.zero_add, Int.add_zero] at hG
    unfold yq_t4 at hG
    unfold yq_t4
    repeat' split at hG
    all_goals (repeat' split)
    all_goals omega
theorem xw_41_1_4 : yt_hold xT_41 xk_41 xq_41.2.2.1 xG_41 xP_41 xU_41 15 ((xq_41.2.2.1.getD 0 (0, ([], [], ([], []), [], [], ([], 0)), [], false)).2.1.2.2.1.2) (xG_41 0) (0, ([((-2147483648), 2147483647), (0, 1), ((-2147483648), 2147483647), (0, 100), (1, 1), ((-2147483648), 2147483647), (0, 100), (0, 1), ((-2147483648), 2147483647), (0, 100), (0, 1), ((-2147483648), 2147483647), (0, 100), (0, 4), (1, 1)], [([(13, (-1)), (14, 1)], 0)]), [([(13, 1)], 1), ([], 2)], [], []) := by
  intro g0 r gi g hok hh hars hfr hG
  have b0 : (-2147483648) ≤ r 0 ∧ r 0 ≤ 2147483647 := hok.1 0 ((-2147483648), 2147483647) rfl
  have b1 : 0 ≤ r 1 ∧ r 1 ≤ 1 := hok.1 1 (0, 1) rfl
  have b2 : (-2147483648) ≤ r 2 ∧ r 2 ≤ 2147483647 := hok.1 2 ((-2147483648), 2147483647) rfl
  have b3 : 0 ≤ r 3 ∧ r 3 ≤ 100 := hok.1 3 (0, 100) rfl
  have b4 : 1 ≤ r 4 ∧ r 4 ≤ 1 := hok.1 4 (1, 1) rfl
  have b5 : (-2147483648) ≤ r 5 ∧ r 5 ≤ 2147483647 := hok.1 5 ((-2147483648), 2147483647) rfl
  have b6 : 0 ≤ r 6 ∧ r 6 ≤ 100 := hok.1 6 (0, 100) rfl
  have b7 : 0 ≤ r 7 ∧ r 7 ≤ 1 := hok.1 7 (0, 1) rfl
  have b8 : (-2147483648) ≤ r 8 ∧ r 8 ≤ 2147483647 := hok.1 8 ((-2147483648), 2147483647) rfl
  have b9 : 0 ≤ r 9 ∧ r 9 ≤ 100 := hok.1 9 (0, 100) rfl
  have b10 : 0 ≤ r 10 ∧ r 10 ≤ 1 := hok.1 10 (0, 1) rfl
  have b11 : (-2147483648) ≤ r 11 ∧ r 11 ≤ 2147483647 := hok.1 11 ((-2147483648), 2147483647) rfl
  have b12 : 0 ≤ r 12 ∧ r 12 ≤ 100 := hok.1 12 (0, 100) rfl
  have b13 : 0 ≤ r 13 ∧ r 13 ≤ 4 := hok.1 13 (0, 4) rfl
  have b14 : 1 ≤ r 14 ∧ r 14 ≤ 1 := hok.1 14 (1, 1) rfl
  have f0 : 0 ≤ (((-1) * r 13 + (1 * r 14 + 0)) + 0) := hok.2 _ (List.mem_of_getElem? (i := 0) rfl)
  have hG : ((1 * (r 13) + 0) + 0) = yq_t4 ((1 * (r 14) + 0) + 0) ((1 * (r 1) + 0) + 0) ((1 * (r 4) + 0) + 0) ((1 * (r 7) + 0) + 0) ((1 * (r 10) + 0) + 0) := hG
  have hh : g = gi := hh
  subst hh
  have hG : ((1 * (r 13) + 0) + 0) = yq_t4 ((1 * (r 14) + 0) + 0) ((1 * (r 1) + 0) + 0) ((1 * (r 4) + 0) + 0) ((1 * (r 7) + 0) + 0) ((1 * (r 10) + 0) + 0) := hG
  refine yt_dcut (by decide) rfl ?_ ?_
  · rw [show xk_41.2.1.2.1.1.length = 13 from rfl]
    refine yx_fks _ _ ?_
    refine ⟨?_, ?_, trivial⟩
    · show 0 ≤ ((1 * ((1 * r 13 + 0) + 1) + 0) + 0)
      omega
    · show 0 ≤ (((-1) * ((1 * r 13 + 0) + 1) + (1 * ((0 : Int) + 2) + 0)) + 0)
      omega
  · rw [show xk_41.2.1.2.1.1.length = 13 from rfl]
    show ((1 * ((1 * r 13 + 0) + 1) + 0) + 0) = yq_t4 ((1 * ((0 : Int) + 2) + 0) + 0) ((1 * ((1 * r 1 + 0) + 0) + 0) + 0) ((1 * ((1 * r 4 + 0) + 0) + 0) + 0) ((1 * ((1 * r 7 + 0) + 0) + 0) + 0) ((1 * ((1 * r 10 + 0) + 0) + 0) + 0)
    try simp only [Int.one_mul, Int.zero_add, Int.add_zero]
    try simp only [Int.one_mul, Int.zero_add, Int.add_zero] at hG
    unfold yq_t4 at hG
    unfold yq_t4
    repeat' split at hG
    all_goals (repeat' split)
    all_goals omega
theorem xw_41_1_5 : yt_hold xT_41 xk_41 xq_41.2.2.1 xG_41 xP_41 xU_41 15 ((xq_41.2.2.1.getD 0 (0, ([], [], ([], []), [], [], ([], 0)), [], false)).2.1.2.2.1.2) (xG_41 0) (0, ([((-2147483648), 2147483647), (0, 1), ((-2147483648), 2147483647), (0, 100), (0, 1), ((-2147483648), 2147483647), (0, 100), (0, 0), ((-2147483648), 2147483647), (0, 100), (0, 1), ((-2147483648), 2147483647), (0, 100), (0, 4), (2, 2)], [([(13, (-1)), (14, 1)], 0)]), [([(13, 1)], 0), ([], 3)], [], []) := by
  intro g0 r gi g hok hh hars hfr hG
  have b0 : (-2147483648) ≤ r 0 ∧ r 0 ≤ 2147483647 := hok.1 0 ((-2147483648), 2147483647) rfl
  have b1 : 0 ≤ r 1 ∧ r 1 ≤ 1 := hok.1 1 (0, 1) rfl
  have b2 : (-2147483648) ≤ r 2 ∧ r 2 ≤ 2147483647 := hok.1 2 ((-2147483648), 2147483647) rfl
  have b3 : 0 ≤ r 3 ∧ r 3 ≤ 100 := hok.1 3 (0, 100) rfl
  have b4 : 0 ≤ r 4 ∧ r 4 ≤ 1 := hok.1 4 (0, 1) rfl
  have b5 : (-2147483648) ≤ r 5 ∧ r 5 ≤ 2147483647 := hok.1 5 ((-2147483648), 2147483647) rfl
  have b6 : 0 ≤ r 6 ∧ r 6 ≤ 100 := hok.1 6 (0, 100) rfl
  have b7 : 0 ≤ r 7 ∧ r 7 ≤ 0 := hok.1 7 (0, 0) rfl
  have b8 : (-2147483648) ≤ r 8 ∧ r 8 ≤ 2147483647 := hok.1 8 ((-2147483648), 2147483647) rfl
  have b9 : 0 ≤ r 9 ∧ r 9 ≤ 100 := hok.1 9 (0, 100) rfl
  have b10 : 0 ≤ r 10 ∧ r 10 ≤ 1 := hok.1 10 (0, 1) rfl
  have b11 : (-2147483648) ≤ r 11 ∧ r 11 ≤ 2147483647 := hok.1 11 ((-2147483648), 2147483647) rfl
  have b12 : 0 ≤ r 12 ∧ r 12 ≤ 100 := hok.1 12 (0, 100) rfl
  have b13 : 0 ≤ r 13 ∧ r 13 ≤ 4 := hok.1 13 (0, 4) rfl
  have b14 : 2 ≤ r 14 ∧ r 14 ≤ 2 := hok.1 14 (2, 2) rfl
  have f0 : 0 ≤ (((-1) * r 13 + (1 * r 14 + 0)) + 0) := hok.2 _ (List.mem_of_getElem? (i := 0) rfl)
  have hG : ((1 * (r 13) + 0) + 0) = yq_t4 ((1 * (r 14) + 0) + 0) ((1 * (r 1) + 0) + 0) ((1 * (r 4) + 0) + 0) ((1 * (r 7) + 0) + 0) ((1 * (r 10) + 0) + 0) := hG
  have hh : g = gi := hh
  subst hh
  have hG : ((1 * (r 13) + 0) + 0) = yq_t4 ((1 * (r 14) + 0) + 0) ((1 * (r 1) + 0) + 0) ((1 * (r 4) + 0) + 0) ((1 * (r 7) + 0) + 0) ((1 * (r 10) + 0) + 0) := hG
  refine yt_dcut (by decide) rfl ?_ ?_
  · rw [show xk_41.2.1.2.1.1.length = 13 from rfl]
    refine yx_fks _ _ ?_
    refine ⟨?_, ?_, trivial⟩
    · show 0 ≤ ((1 * ((1 * r 13 + 0) + 0) + 0) + 0)
      omega
    · show 0 ≤ (((-1) * ((1 * r 13 + 0) + 0) + (1 * ((0 : Int) + 3) + 0)) + 0)
      omega
  · rw [show xk_41.2.1.2.1.1.length = 13 from rfl]
    show ((1 * ((1 * r 13 + 0) + 0) + 0) + 0) = yq_t4 ((1 * ((0 : Int) + 3) + 0) + 0) ((1 * ((1 * r 1 + 0) + 0) + 0) + 0) ((1 * ((1 * r 4 + 0) + 0) + 0) + 0) ((1 * ((1 * r 7 + 0) + 0) + 0) + 0) ((1 * ((1 * r 10 + 0) + 0) + 0) + 0)
    try simp only [Int.one_mul, Int.zero_add, Int.add_zero]
    try simp only [Int.one_mul, Int.zero_add, Int.add_zero] at hG
    unfold yq_t4 at hG
    unfold yq_t4
    repeat' split at hG
    all_goals (repeat' split)
    all_goals omega
theorem xw_41_1_6 : yt_hold xT_41 xk_41 xq_41.2.2.1 xG_41 xP_41 xU_41 15 ((xq_41.2.2.1.getD 0 (0, ([], [], ([], []), [], [], ([], 0)), [], false)).2.1.2.2.1.2) (xG_41 0) (0, ([((-2147483648), 2147483647), (0, 1), ((-2147483648), 2147483647), (0, 100), (0, 1), ((-2147483648), 2147483647), (0, 100), (1, 1), ((-2147483648), 2147483647), (0, 100), (0, 1), ((-2147483648), 2147483647), (0, 100), (0, 4), (2, 2)], [([(13, (-1)), (14, 1)], 0)]), [([(13, 1)], 1), ([], 3)], [], []) := by
  intro g0 r gi g hok hh hars hfr hG
  have b0 : (-2147483648) ≤ r 0 ∧ r 0 ≤ 2147483647 := hok.1 0 ((-2147483648), 2147483647) rfl
  have b1 : 0 ≤ r 1 ∧ r 1 ≤ 1 := hok.1 1 (0, 1) rfl
  have b2 : (-2147483648) ≤ r 2 ∧ r 2 ≤ 2147483647 := hok.1 2 ((-2147483648), 2147483647) rfl
  have b3 : 0 ≤ r 3 ∧ r 3 ≤ 100 := hok.1 3 (0, 100) rfl
  have b4 : 0 ≤ r 4 ∧ r 4 ≤ 1 := hok.1 4 (0, 1) rfl
  have b5 : (-2147483648) ≤ r 5 ∧ r 5 ≤ 2147483647 := hok.1 5 ((-2147483648), 2147483647) rfl
  have b6 : 0 ≤ r 6 ∧ r 6 ≤ 100 := hok.1 6 (0, 100) rfl
  have b7 : 1 ≤ r 7 ∧ r 7 ≤ 1 := hok.1 7 (1, 1) rfl
  have b8 : (-2147483648) ≤ r 8 ∧ r 8 ≤ 2147483647 := hok.1 8 ((-2147483648), 2147483647) rfl
  have b9 : 0 ≤ r 9 ∧ r 9 ≤ 100 := hok.1 9 (0, 100) rfl
  have b10 : 0 ≤ r 10 ∧ r 10 ≤ 1 := hok.1 10 (0, 1) rfl
  have b11 : (-2147483648) ≤ r 11 ∧ r 11 ≤ 2147483647 := hok.1 11 ((-2147483648), 2147483647) rfl
  have b12 : 0 ≤ r 12 ∧ r 12 ≤ 100 := hok.1 12 (0, 100) rfl
  have b13 : 0 ≤ r 13 ∧ r 13 ≤ 4 := hok.1 13 (0, 4) rfl
  have b14 : 2 ≤ r 14 ∧ r 14 ≤ 2 := hok.1 14 (2, 2) rfl
  have f0 : 0 ≤ (((-1) * r 13 + (1 * r 14 + 0)) + 0) := hok.2 _ (List.mem_of_getElem? (i := 0) rfl)
  have hG : ((1 * (r 13) + 0) + 0) = yq_t4 ((1 * (r 14) + 0) + 0) ((1 * (r 1) + 0) + 0) ((1 * (r 4) + 0) + 0) ((1 * (r 7) + 0) + 0) ((1 * (r 10) + 0) + 0) := hG
  have hh : g = gi := hh
  subst hh
  have hG : ((1 * (r 13) + 0) + 0) = yq_t4 ((1 * (r 14) + 0) + 0) ((1 * (r 1) + 0) + 0) ((1 * (r 4) + 0) + 0) ((1 * (r 7) + 0) + 0) ((1 * (r 10) + 0) + 0) := hG
  refine yt_dcut (by decide) rfl ?_ ?_
  · rw [show xk_41.2.1.2.1.1.length = 13 from rfl]
    refine yx_fks _ _ ?_
    refine ⟨?_, ?_, trivial⟩
    · show 0 ≤ ((1 * ((1 * r 13 + 0) + 1) + 0) + 0)
      omega
    · show 0 ≤ (((-1) * ((1 * r 13 + 0) + 1) + (1 * ((0 : Int) + 3) + 0)) + 0)
      omega
  · rw [show xk_41.2.1.2.1.1.length = 13 from rfl]
    show ((1 * ((1 * r 13 + 0) + 1) + 0) + 0) = yq_t4 ((1 * ((0 : Int) + 3) + 0) + 0) ((1 * ((1 * r 1 + 0) + 0) + 0) + 0) ((1 * ((1 * r 4 + 0) + 0) + 0) + 0) ((1 * ((1 * r 7 + 0) + 0) + 0) + 0) ((1 * ((1 * r 10 + 0) + 0) + 0) + 0)
    try simp only [Int.one_mul, Int.zero_add, Int.add_zero]
    try simp only [Int.one_mul, Int.zero_add, Int.add_zero] at hG
    unfold yq_t4 at hG
    unfold yq_t4
    repeat' split at hG
    all_goals (repeat' split)
    all_goals omega
theorem xw_41_1_7 : yt_hold xT_41 xk_41 xq_41.2.2.1 xG_41 xP_41 xU_41 15 ((xq_41.2.2.1.getD 0 (0, ([], [], ([], []), [], [], ([], 0)), [], false)).2.1.2.2.1.2) (xG_41 0) (0, ([((-2147483648), 2147483647), (0, 1), ((-2147483648), 2147483647), (0, 100), (0, 1), ((-2147483648), 2147483647), (0, 100), (0, 1), ((-2147483648), 2147483647), (0, 100), (0, 0), ((-2147483648), 2147483647), (0, 100), (0, 4), (3, 3)], [([(13, (-1)), (14, 1)], 0)]), [([(13, 1)], 0), ([], 4)], [], []) := by
  intro g0 r gi g hok hh hars hfr hG
  have b0 : (-2147483648) ≤ r 0 ∧ r 0 ≤ 2147483647 := hok.1 0 ((-2147483648), 2147483647) rfl
  have b1 : 0 ≤ r 1 ∧ r 1 ≤ 1 := hok.1 1 (0, 1) rfl
  have b2 : (-2147483648) ≤ r 2 ∧ r 2 ≤ 2147483647 := hok.1 2 ((-2147483648), 2147483647) rfl
  have b3 : 0 ≤ r 3 ∧ r 3 ≤ 100 := hok.1 3 (0, 100) rfl
  have b4 : 0 ≤ r 4 ∧ r 4 ≤ 1 := hok.1 4 (0, 1) rfl
  have b5 : (-2147483648) ≤ r 5 ∧ r 5 ≤ 2147483647 := hok.1 5 ((-2147483648), 2147483647) rfl
  have b6 : 0 ≤ r 6 ∧ r 6 ≤ 100 := hok.1 6 (0, 100) rfl
  have b7 : 0 ≤ r 7 ∧ r 7 ≤ 1 := hok.1 7 (0, 1) rfl
  have b8 : (-2147483648) ≤ r 8 ∧ r 8 ≤ 2147483647 := hok.1 8 ((-2147483648), 2147483647) rfl
  have b9 : 0 ≤ r 9 ∧ r 9 ≤ 100 := hok.1 9 (0, 100) rfl
  have b10 : 0 ≤ r 10 ∧ r 10 ≤ 0 := hok.1 10 (0, 0) rfl
  have b11 : (-2147483648) ≤ r 11 ∧ r 11 ≤ 2147483647 := hok.1 11 ((-2147483648), 2147483647) rfl
  have b12 : 0 ≤ r 12 ∧ r 12 ≤ 100 := hok.1 12 (0, 100) rfl
  have b13 : 0 ≤ r 13 ∧ r 13 ≤ 4 := hok.1 13 (0, 4) rfl
  have b14 : 3 ≤ r 14 ∧ r 14 ≤ 3 := hok.1 14 (3, 3) rfl
  have f0 : 0 ≤ (((-1) * r 13 + (1 * r 14 + 0)) + 0) := hok.2 _ (List.mem_of_getElem? (i := 0) rfl)
  have hG : ((1 * (r 13) + 0) + 0) = yq_t4 ((1 * (r 14) + 0) + 0) ((1 * (r 1) + 0) + 0) ((1 * (r 4) + 0) + 0) ((1 * (r 7) + 0) + 0) ((1 * (r 10) + 0) + 0) := hG
  have hh : g = gi := hh
  subst hh
  have hG : ((1 * (r 13) + 0) + 0) = yq_t4 ((1 * (r 14) + 0) + 0) ((1 * (r 1) + 0) + 0) ((1 * (r 4) + 0) + 0) ((1 * (r 7) + 0) + 0) ((1 * (r 10) + 0) + 0) := hG
  refine yt_dcut (by decide) rfl ?_ ?_
  · rw [show xk_41.2.1.2.1.1.length = 13 from rfl]
    refine yx_fks _ _ ?_
    refine ⟨?_, ?_, trivial⟩
    · show 0 ≤ ((1 * ((1 * r 13 + 0) + 0) + 0) + 0)
      omega
    · show 0 ≤ (((-1) * ((1 * r 13 + 0) + 0) + (1 * ((0 : Int) + 4) + 0)) + 0)
      omega
  · rw [show xk_41.2.1.2.1.1.length = 13 from rfl]
    show ((1 * ((1 * r 13 + 0) + 0) + 0) + 0) = yq_t4 ((1 * ((0 : Int) + 4) + 0) + 0) ((1 * ((1 * r 1 + 0) + 0) + 0) + 0) ((1 * ((1 * r 4 + 0) + 0) + 0) + 0) ((1 * ((1 * r 7 + 0) + 0) + 0) + 0) ((1 * ((1 * r 10 + 0) + 0) + 0) + 0)
    try simp only [Int.one_mul, Int.zero_add, Int.add_zero]
    try simp only [Int.one_mul, Int.zero_add, Int.add_zero] at hG
    unfold yq_t4 at hG
    unfold yq_t4
    repeat' split at hG
    all_goals (repeat' split)
    all_goals omega
theorem xw_41_1_8 : yt_hold xT_41 xk_41 xq_41.2.2.1 xG_41 xP_41 xU_41 15 ((xq_41.2.2.1.getD 0 (0, ([], [], ([], []), [], [], ([], 0)), [], false)).2.1.2.2.1.2) (xG_41 0) (0, ([((-2147483648), 2147483647), (0, 1), ((-2147483648), 2147483647), (0, 100), (0, 1), ((-2147483648), 2147483647), (0, 100), (0, 1), ((-2147483648), 2147483647), (0, 100), (1, 1), ((-2147483648), 2147483647), (0, 100), (0, 4), (3, 3)], [([(13, (-1)), (14, 1)], 0)]), [([(13, 1)], 1), ([], 4)], [], []) := by
  intro g0 r gi g hok hh hars hfr hG
  have b0 : (-2147483648) ≤ r 0 ∧ r 0 ≤ 2147483647 := hok.1 0 ((-2147483648), 2147483647) rfl
  have b1 : 0 ≤ r 1 ∧ r 1 ≤ 1 := hok.1 1 (0, 1) rfl
  have b2 : (-2147483648) ≤ r 2 ∧ r 2 ≤ 2147483647 := hok.1 2 ((-2147483648), 2147483647) rfl
  have b3 : 0 ≤ r 3 ∧ r 3 ≤ 100 := hok.1 3 (0, 100) rfl
  have b4 : 0 ≤ r 4 ∧ r 4 ≤ 1 := hok.1 4 (0, 1) rfl
  have b5 : (-2147483648) ≤ r 5 ∧ r 5 ≤ 2147483647 := hok.1 5 ((-2147483648), 2147483647) rfl
  have b6 : 0 ≤ r 6 ∧ r 6 ≤ 100 := hok.1 6 (0, 100) rfl
  have b7 : 0 ≤ r 7 ∧ r 7 ≤ 1 := hok.1 7 (0, 1) rfl
  have b8 : (-2147483648) ≤ r 8 ∧ r 8 ≤ 2147483647 := hok.1 8 ((-2147483648), 2147483647) rfl
  have b9 : 0 ≤ r 9 ∧ r 9 ≤ 100 := hok.1 9 (0, 100) rfl
  have b10 : 1 ≤ r 10 ∧ r 10 ≤ 1 := hok.1 10 (1, 1) rfl
  have b11 : (-2147483648) ≤ r 11 ∧ r 11 ≤ 2147483647 := hok.1 11 ((-2147483648), 2147483647) rfl
  have b12 : 0 ≤ r 12 ∧ r 12 ≤ 100 := hok.1 12 (0, 100) rfl
  have b13 : 0 ≤ r 13 ∧ r 13 ≤ 4 := hok.1 13 (0, 4) rfl
  have b14 : 3 ≤ r 14 ∧ r 14 ≤ 3 := hok.1 14 (3, 3) rfl
  have f0 : 0 ≤ (((-1) * r 13 + (1 * r 14 + 0)) + 0) := hok.2 _ (List.mem_of_getElem? (i := 0) rfl)
  have hG : ((1 * (r 13) + 0) + 0) = yq_t4 ((1 * (r 14) + 0) + 0) ((1 * (r 1) + 0) + 0) ((1 * (r 4) + 0) + 0) ((1 * (r 7) + 0) + 0) ((1 * (r 10) + 0) + 0) := hG
  have hh : g = gi := hh
  subst hh
  have hG : ((1 * (r 13) + 0) + 0) = yq_t4 ((1 * (r 14) + 0) + 0) ((1 * (r 1) + 0) + 0) ((1 * (r 4) + 0) + 0) ((1 * (r 7) + 0) + 0) ((1 * (r 10) + 0) + 0) := hG
  refine yt_dcut (by decide) rfl ?_ ?_
  · rw [show xk_41.2.1.2.1.1.length = 13 from rfl]
    refine yx_fks _ _ ?_
    refine ⟨?_, ?_, trivial⟩
    · show 0 ≤ ((1 * ((1 * r 13 + 0) + 1) + 0) + 0)
      omega
    · show 0 ≤ (((-1) * ((1 * r 13 + 0) + 1) + (1 * ((0 : Int) + 4) + 0)) + 0)
      omega
  · rw [show xk_41.2.1.2.1.1.length = 13 from rfl]
    show ((1 * ((1 * r 13 + 0) + 1) + 0) + 0) = yq_t4 ((1 * ((0 : Int) + 4) + 0) + 0) ((1 * ((1 * r 1 + 0) + 0) + 0) + 0) ((1 * ((1 * r 4 + 0) + 0) + 0) + 0) ((1 * ((1 * r 7 + 0) + 0) + 0) + 0) ((1 * ((1 * r 10 + 0) + 0) + 0) + 0)
    try simp only [Int.one_mul, Int.zero_add, Int.add_zero]
    try simp only [Int.one_mul, Int.zero_add, Int.add_zero] at hG
    unfold yq_t4 at hG
    unfold yq_t4
    repeat' split at hG
    all_goals (repeat' split)
    all_goals omega
theorem xn_41 : ∀ (j : Nat) (q : Nat × yt_T), xq_41.2.2.1[j]? = some q → q.2.2.2 = false → ∀ g0 r g, xG_41 j g0 r g
  | 0, q, hq, hf => by cases hq; cases hf
  | n + 1, q, hq, _ => by cases hq
theorem xs_41 : ∀ j, xq_41.2.2.2.getD j false = false → ∀ r g g', xP_41 j r g g'
  | 0, hf => by cases hf
  | n + 1, _ => fun _ _ _ => trivial
theorem xc_41 {l : Launch} {D : va_G} {cT : Nat → ClassId} {tys : List (ClassId × FieldType)} (hty : yx_Ty tys cT) : yt_Con l D vwCl cT tys yG yw_s31 xk_41 xR_41 xP_41 := yx_sem (calls := xa_41) (Z := xq_41) (tb := xT_41) (pt := xU_41) (Ga := xG_41) (vs := xv_41) (fun _ _ _ _ => trivial) 300 (by decide +kernel) yz_X11_sheetsThere_ok hty (yl_lkX11 _) (yl_cqkX11 _) (fun _ h => absurd h List.not_mem_nil) (xn_41) (xs_41) (by decide +kernel) (List.forall_mem_cons.mpr ⟨xw_41_0_0, fun _ h => absurd h List.not_mem_nil⟩) (⟨List.forall_mem_cons.mpr ⟨xw_41_1_0, List.forall_mem_cons.mpr ⟨xw_41_1_1, List.forall_mem_cons.mpr ⟨xw_41_1_2, List.forall_mem_cons.mpr ⟨xw_41_1_3, List.forall_mem_cons.mpr ⟨xw_41_1_4, List.forall_mem_cons.mpr ⟨xw_41_1_5, List.forall_mem_cons.mpr ⟨xw_41_1_6, List.forall_mem_cons.mpr ⟨xw_41_1_7, List.forall_mem_cons.mpr ⟨xw_41_1_8, fun _ h => absurd h List.not_mem_nil⟩⟩⟩⟩⟩⟩⟩⟩⟩, trivial⟩)
noncomputable def yw_s32 : List ys_C := [.inl 6, .inr (0, 40, [])]
noncomputable def yw_f32 (n : Nat) : List (List ys_V) := [[.inr (some 2), .inr (some 3), .inr (some 4), .inr (some 1), .inl (.inl ([(n + 0, 1)], 0)), .inl (.inl ([(n + 1, 1)], 0))], []]
noncomputable def yw_e32 : ys_E := [(0, 40), ((-2147483648), 2147483647)]
noncomputable def yw_r32 : List ys_R := [((0, 0), []), ((0, 1000), [])]
noncomputable def xf_42 : ys_F := (yw_f32 0, yw_r32)
noncomputable def xk_42 : ys_K := (((yX6_allWeights, cX6_allWeights, 3, (some .int)), (0, 0)), ([.inr (some 0)], ([] ++ yw_e32, []), xf_42), ([([(0, 40000)], [], (xf_42.1, xf_42.2), some (.inl (.inl ([(2, 1)], 0))))], []))
noncomputable def xq_42 : yt_Q := (yz_X6_allWeights, (yl_flX6, yl_ciX6, yl_cjX6, yl_cpX6, yl_cqX6), [(4, ([(0, 2147483647), (0, 40)], [], (xf_42.1, xf_42.2), [(0, .inr (some 0)), (1, .inl (.inl ([(2, 1)], 0))), (2, .inl (.inl ([(3, 1)], 0)))], [], ([(3, (-1))], 40)), [([(2, 1)], 0), ([(2, (-1)), (3, 1000)], 0)], true)], [true])
noncomputable def xa_42 : List yt_CE := []
noncomputable def xv_42 : List (List yt_VC) := [[(0, ([(0, 40), ((-2147483648), 2147483647)], []), [([], 0), ([], 0)], [], [])],
  [(1000, ([(0, 40), ((-2147483648), 2147483647), (0, 40000), (0, 40)], [([(0, (-1)), (3, 1)], 0), ([(2, (-1)), (3, 1000)], 0)]), [([(2, 1)], 0)], [], []),
   (0, ([(1, 40), ((-2147483648), 2147483647), (0, 40000), (0, 39), (0, 1000)], [([(0, 1), (3, (-1))], (-1)), ([(2, (-1)), (3, 1000)], 0)]), [([(4, 1), (2, 1)], 0), ([(3, 1)], 1)], [], [.inl (.inl (1, ([(3, 1)], 0), 4))])]]
noncomputable def xG_42 : Nat → yt_G → (Nat → Int) → yt_G → Prop
  | 0, g0, r, g => ((1 * (r 2) + 0) + 0) = yq_su (g0 1) (((1 * (r 3) + 0) + 0)).toNat ∧ ((1 * (r 3) + 0) + 0) ≤ (r 0)
  | _, _, _, _ => True
noncomputable def xP_42 : yt_Ph
  | 0, r, g0, g => (r 2) = yq_su (g0 1) ((r 0)).toNat
  | _, _, _, _ => True
noncomputable def xR_42 : yt_Ps := fun r g0 => True
noncomputable def xT_42 : yt_Tb := fun d => match d with
  | _ => fun _ _ _ _ => True
noncomputable def xU_42 : Nat → yt_Ps := fun d => match d with
  | _ => fun _ _ => True
theorem xw_42_0_0 : yt_hold xT_42 xk_42 xq_42.2.2.1 xG_42 xP_42 xU_42 2 xk_42.2.1.2.2.2 (fun g0 r g => xR_42 r g0 ∧ g = g0) (0, ([(0, 40), ((-2147483648), 2147483647)], []), [([], 0), ([], 0)], [], []) := by
  intro g0 r gi g hok hh hars hfr hG
  have b0 : 0 ≤ r 0 ∧ r 0 ≤ 40 := hok.1 0 (0, 40) rfl
  obtain ⟨hG, hgi⟩ := hG
  have hG : True := hG
  have hh : g = gi := hh
  subst hh
  refine yt_dcut (by decide) rfl ?_ ?_
  · rw [show xk_42.2.1.2.1.1.length = 2 from rfl]
    refine yx_fks _ _ ?_
    refine ⟨?_, ?_, trivial⟩
    · show 0 ≤ ((1 * ((0 : Int) + 0) + 0) + 0)
      omega
    · show 0 ≤ (((-1) * ((0 : Int) + 0) + (1000 * ((0 : Int) + 0) + 0)) + 0)
      omega
  · rw [show xk_42.2.1.2.1.1.length = 2 from rfl]
    show ((1 * ((0 : Int) + 0) + 0) + 0) = yq_su (g0 1) (((1 * ((0 : Int) + 0) + 0) + 0)).toNat ∧ ((1 * ((0 : Int) + 0) + 0) + 0) ≤ ((1 * r 0 + 0) + 0)
    try simp only [Int.one_mul, Int.zero_add, Int.add_zero]
    exact ⟨rfl, by omega⟩
theorem xw_42_1_0 : yt_hold xT_42 xk_42 xq_42.2.2.1 xG_42 xP_42 xU_42 4 ((xq_42.2.2.1.getD 0 (0, ([], [], ([], []), [], [], ([], 0)), [], false)).2.1.2.2.1.2) (xG_42 0) (1000, ([(0, 40), ((-2147483648), 2147483647), (0, 40000), (0, 40)], [([(0, (-1)), (3, 1)], 0), ([(2, (-1)), (3, 1000)], 0)]), [([(2, 1)], 0)], [], []) := by
  intro g0 r gi g hok hh hars hfr hG
  have b0 : 0 ≤ r 0 ∧ r 0 ≤ 40 := hok.1 0 (0, 40) rfl
  have b2 : 0 ≤ r 2 ∧ r 2 ≤ 40000 := hok.1 2 (0, 40000) rfl
  have b3 : 0 ≤ r 3 ∧ r 3 ≤ 40 := hok.1 3 (0, 40) rfl
  have f0 : 0 ≤ (((-1) * r 0 + (1 * r 3 + 0)) + 0) := hok.2 _ (List.mem_of_getElem? (i := 0) rfl)
  have f1 : 0 ≤ (((-1) * r 2 + (1000 * r 3 + 0)) + 0) := hok.2 _ (List.mem_of_getElem? (i := 1) rfl)
  have hG : ((1 * (r 2) + 0) + 0) = yq_su (g0 1) (((1 * (r 3) + 0) + 0)).toNat ∧ ((1 * (r 3) + 0) + 0) ≤ (r 0) := hG
  have hh : g = gi := hh
  subst hh
  have hG : ((1 * (r 2) + 0) + 0) = yq_su (g0 1) (((1 * (r 3) + 0) + 0)).toNat ∧ ((1 * (r 3) + 0) + 0) ≤ (r 0) := hG
  refine yt_dalt (by decide) (by decide) ?_
  rw [show xk_42.2.1.2.1.1.length = 2 from rfl]
  show ((1 * r 2 + 0) + 0) = yq_su (g0 1) (((1 * r 0 + 0) + 0)).toNat
  try simp only [Int.one_mul, Int.zero_add, Int.add_zero]
  try simp only [Int.one_mul, Int.zero_add, Int.add_zero] at hG
  obtain ⟨h1, h2⟩ := hG
  rw [show r 3 = r 0 by omega] at h1
  exact h1
theorem xw_42_1_1 : yt_hold xT_42 xk_42 xq_42.2.2.1 xG_42 xP_42 xU_42 4 ((xq_42.2.2.1.getD 0 (0, ([], [], ([], []), [], [], ([], 0)), [], false)).2.1.2.2.1.2) (xG_42 0) (0, ([(1, 40), ((-2147483648), 2147483647), (0, 40000), (0, 39), (0, 1000)], [([(0, 1), (3, (-1))], (-1)), ([(2, (-1)), (3, 1000)], 0)]), [([(4, 1), (2, 1)], 0), ([(3, 1)], 1)], [], [.inl (.inl (1, ([(3, 1)], 0), 4))]) := by
  intro g0 r gi g hok hh hars hfr hG
  have b0 : 1 ≤ r 0 ∧ r 0 ≤ 40 := hok.1 0 (1, 40) rfl
  have b2 : 0 ≤ r 2 ∧ r 2 ≤ 40000 := hok.1 2 (0, 40000) rfl
  have b3 : 0 ≤ r 3 ∧ r 3 ≤ 39 := hok.1 3 (0, 39) rfl
  have b4 : 0 ≤ r 4 ∧ r 4 ≤ 1000 := hok.1 4 (0, 1000) rfl
  have f0 : 0 ≤ ((1 * r 0 + ((-1) * r 3 + 0)) + (-1)) := hok.2 _ (List.mem_of_getElem? (i := 0) rfl)
  have f1 : 0 ≤ (((-1) * r 2 + (1000 * r 3 + 0)) + 0) := hok.2 _ (List.mem_of_getElem? (i := 1) rfl)
  have hG : ((1 * (r 2) + 0) + 0) = yq_su (g0 1) (((1 * (r 3) + 0) + 0)).toNat ∧ ((1 * (r 3) + 0) + 0) ≤ (r 0) := hG
  obtain ⟨g0, hh, q0, e0⟩ := hh
  subst q0
  have e0 : r 4 = g 1 (((1 * r 3 + 0) + 0)).toNat := e0
  rw [show (((1 * r 3 + 0) + 0)).toNat = (r 3).toNat by omega] at e0
  have hh : g = gi := hh
  subst hh
  have hG : ((1 * (r 2) + 0) + 0) = yq_su (g0 1) (((1 * (r 3) + 0) + 0)).toNat ∧ ((1 * (r 3) + 0) + 0) ≤ (r 0) := hG
  refine yt_dcut (by decide) rfl ?_ ?_
  · rw [show xk_42.2.1.2.1.1.length = 2 from rfl]
    refine yx_fks _ _ ?_
    refine ⟨?_, ?_, trivial⟩
    · show 0 ≤ ((1 * ((1 * r 4 + (1 * r 2 + 0)) + 0) + 0) + 0)
      omega
    · show 0 ≤ (((-1) * ((1 * r 4 + (1 * r 2 + 0)) + 0) + (1000 * ((1 * r 3 + 0) + 1) + 0)) + 0)
      omega
  · rw [show xk_42.2.1.2.1.1.length = 2 from rfl]
    show ((1 * ((1 * r 4 + (1 * r 2 + 0)) + 0) + 0) + 0) = yq_su (g0 1) (((1 * ((1 * r 3 + 0) + 1) + 0) + 0)).toNat ∧ ((1 * ((1 * r 3 + 0) + 1) + 0) + 0) ≤ ((1 * r 0 + 0) + 0)
    try simp only [Int.one_mul, Int.zero_add, Int.add_zero]
    try simp only [Int.one_mul, Int.zero_add, Int.add_zero] at hG
    obtain ⟨h1, h2⟩ := hG
    rw [hfr 1 (by decide)] at e0
    rw [yq_su_s (k := r 3) (by omega) (by omega), ← e0, ← h1]
    exact ⟨by omega, by omega⟩
theorem xn_42 : ∀ (j : Nat) (q : Nat × yt_T), xq_42.2.2.1[j]? = some q → q.2.2.2 = false → ∀ g0 r g, xG_42 j g0 r g
  | 0, q, hq, hf => by cases hq; cases hf
  | n + 1, q, hq, _ => by cases hq
theorem xs_42 : ∀ j, xq_42.2.2.2.getD j false = false → ∀ r g g', xP_42 j r g g'
  | 0, hf => by cases hf
  | n + 1, _ => fun _ _ _ => trivial
theorem xc_42 {l : Launch} {D : va_G} {cT : Nat → ClassId} {tys : List (ClassId × FieldType)} (hty : yx_Ty tys cT) : yt_Con l D vwCl cT tys yG yw_s32 xk_42 xR_42 xP_42 := yx_sem (calls := xa_42) (Z := xq_42) (tb := xT_42) (pt := xU_42) (Ga := xG_42) (vs := xv_42) (fun _ _ _ _ => trivial) 300 (by decide +kernel) yz_X6_allWeights_ok hty (yl_lkX6 _) (yl_cqkX6 _) (fun _ h => absurd h List.not_mem_nil) (xn_42) (xs_42) (by decide +kernel) (List.forall_mem_cons.mpr ⟨xw_42_0_0, fun _ h => absurd h List.not_mem_nil⟩) (⟨List.forall_mem_cons.mpr ⟨xw_42_1_0, List.forall_mem_cons.mpr ⟨xw_42_1_1, fun _ h => absurd h List.not_mem_nil⟩⟩, trivial⟩)
noncomputable def yw_s33 : List ys_C := [.inl 11, .inl 6, .inr (0, 40, []), .inr (0, 40, []), .inl 2, .inr (4, 4, [6, 7, 8, 9]), .inl 8, .inl 8, .inl 8, .inl 8]
noncomputable def yw_f33 (n : Nat) : List (List ys_V) := [[.inr (some 1), .inr (some 4), .inr (some 15), .inr (some 5), .inr (some 20), .inr (some 21), .inr (some 22), .inr (some 23), .inr (some 24), .inr (some 25), .inr (some 26), .inr (some 27), .inr (some 28), .inr (some 29), .inl (.inl ([(n + 0, 1)], 0))], [.inr (some 10), .inr (some 11), .inr (some 2), .inr (some 3), .inl (.inl ([(n + 1, 1)], 0)), .inl (.inl ([(n + 2, 1)], 0))], [], [], [.inl (.inl ([(n + 3, 1)], 0)), .inl (.inl ([(n + 4, 1)], 0)), .inr (some 12), .inr (some 13), .inr (some 14)], [], [.inr (some 16), .inl (.inl ([(n + 5, 1)], 0)), .inl (.inl ([(n + 6, 1)], 0)), .inl (.inl ([(n + 7, 1)], 0))], [.inr (some 17), .inl (.inl ([(n + 8, 1)], 0)), .inl (.inl ([(n + 9, 1)], 0)), .inl (.inl ([(n + 10, 1)], 0))], [.inr (some 18), .inl (.inl ([(n + 11, 1)], 0)), .inl (.inl ([(n + 12, 1)], 0)), .inl (.inl ([(n + 13, 1)], 0))], [.inr (some 19), .inl (.inl ([(n + 14, 1)], 0)), .inl (.inl ([(n + 15, 1)], 0)), .inl (.inl ([(n + 16, 1)], 0))]]
noncomputable def yw_e33 : ys_E := [((-2147483648), 2147483647), (0, 40), ((-2147483648), 2147483647), (0, 12), ((-2147483648), 2147483647), (0, 1), ((-2147483648), 2147483647), (0, 100), (0, 1), ((-2147483648), 2147483647), (0, 100), (0, 1), ((-2147483648), 2147483647), (0, 100), (0, 1), ((-2147483648), 2147483647), (0, 100)]
noncomputable def yw_r33 : List ys_R := [((0, 0), []), ((0, 0), []), ((0, 1), []), ((0, 1000), []), ((0, 0), []), ((0, 0), []), ((0, 0), []), ((0, 0), []), ((0, 0), []), ((0, 0), [])]
noncomputable def xf_43 : ys_F := (yw_f33 1, yw_r33)
noncomputable def xk_43 : ys_K := (((yX11_count, cX11_count, 2, (some .int)), (1, 23)), ([.inr (some 0), .inl (.inl ([(0, 1)], 0))], ([((-2147483648), 2147483647)] ++ yw_e33, []), xf_43), ([([((-1), 40000)], [], (xf_43.1, xf_43.2), some (.inl (.inl ([(18, 1)], 0))))], []))
noncomputable def xq_43 : yt_Q := (yz_X11_count, (yl_flX11, yl_ciX11, yl_cjX11, yl_cpX11, yl_cqX11), [], [true])
noncomputable def xa_43 : List yt_CE := [(((392, false), (152, false, [0, 5, 6, 7, 8, 9, 1, 4, 15, 16, 17, 18, 19, 20, 21, 22, 23, 24, 25, 26, 27, 28, 29])), (yw_s31, xk_41)), (((389, false), (151, false, [1, 3, 10, 11, 2])), (yw_s32, xk_42)), (((369, false), (150, false, [1, 2, 10, 11, 3])), (yw_s16, xk_21))]
noncomputable def xv_43 : List (List yt_VC) := [[(1000, ([((-2147483648), (-1)), ((-2147483648), 2147483647), (0, 40), ((-2147483648), 2147483647), (0, 12), ((-2147483648), 2147483647), (0, 1), ((-2147483648), 2147483647), (0, 100), (0, 1), ((-2147483648), 2147483647), (0, 100), (0, 1), ((-2147483648), 2147483647), (0, 100), (0, 1), ((-2147483648), 2147483647), (0, 100)], []), [([], (-1))], [], []),
   (1000, ([(6, 2147483647), ((-2147483648), 2147483647), (0, 40), ((-2147483648), 2147483647), (0, 12), ((-2147483648), 2147483647), (0, 1), ((-2147483648), 2147483647), (0, 100), (0, 1), ((-2147483648), 2147483647), (0, 100), (0, 1), ((-2147483648), 2147483647), (0, 100), (0, 1), ((-2147483648), 2147483647), (0, 100)], []), [([], (-1))], [], []),
   (1000, ([(0, 0), ((-2147483648), 2147483647), (0, 40), ((-2147483648), 2147483647), (0, 12), ((-2147483648), 2147483647), (0, 1), ((-2147483648), 2147483647), (0, 100), (0, 1), ((-2147483648), 2147483647), (0, 100), (0, 1), ((-2147483648), 2147483647), (0, 100), (0, 1), ((-2147483648), 2147483647), (0, 100)], []), [([(2, 1)], 0)], [], []),
   (1000, ([(1, 1), ((-2147483648), 2147483647), (0, 40), ((-2147483648), 2147483647), (0, 12), ((-2147483648), 2147483647), (0, 1), ((-2147483648), 2147483647), (0, 100), (0, 1), ((-2147483648), 2147483647), (0, 100), (0, 1), ((-2147483648), 2147483647), (0, 100), (0, 1), ((-2147483648), 2147483647), (0, 100), (0, 40)], []), [([(18, 1)], 0)], [], [.inr (.inr (.inl (150, 0, [([], 1), ([(2, 1)], 0), ([(3, 1)], 0), ([(18, 1)], 0)], [1, 2, 10, 11, 3], [])))]),
   (1000, ([(2, 2), ((-2147483648), 2147483647), (0, 40), ((-2147483648), 2147483647), (0, 12), ((-2147483648), 2147483647), (0, 1), ((-2147483648), 2147483647), (0, 100), (0, 1), ((-2147483648), 2147483647), (0, 100), (0, 1), ((-2147483648), 2147483647), (0, 100), (0, 1), ((-2147483648), 2147483647), (0, 100), (0, 40)], []), [([(18, 1)], 0)], [], [.inr (.inr (.inl (150, 0, [([], 0), ([(2, 1)], 0), ([(3, 1)], 0), ([(18, 1)], 0)], [1, 2, 10, 11, 3], [])))]),
   (1000, ([(3, 3), ((-2147483648), 2147483647), (0, 40), ((-2147483648), 2147483647), (0, 12), ((-2147483648), 2147483647), (0, 1), ((-2147483648), 2147483647), (0, 100), (0, 1), ((-2147483648), 2147483647), (0, 100), (0, 1), ((-2147483648), 2147483647), (0, 100), (0, 1), ((-2147483648), 2147483647), (0, 100)], []), [([(4, 1)], 0)], [], []),
   (1000, ([(4, 4), ((-2147483648), 2147483647), (0, 40), ((-2147483648), 2147483647), (0, 12), ((-2147483648), 2147483647), (0, 1), ((-2147483648), 2147483647), (0, 100), (0, 1), ((-2147483648), 2147483647), (0, 100), (0, 1), ((-2147483648), 2147483647), (0, 100), (0, 1), ((-2147483648), 2147483647), (0, 100), (0, 40000)], []), [([(18, 1)], 0)], [], [.inr (.inr (.inl (151, 0, [([(2, 1)], 0), ([(3, 1)], 0), ([(18, 1)], 0)], [1, 3, 10, 11, 2], [])))]),
   (1000, ([(5, 5), ((-2147483648), 2147483647), (0, 40), ((-2147483648), 2147483647), (0, 12), ((-2147483648), 2147483647), (0, 1), ((-2147483648), 2147483647), (0, 100), (0, 1), ((-2147483648), 2147483647), (0, 100), (0, 1), ((-2147483648), 2147483647), (0, 100), (0, 1), ((-2147483648), 2147483647), (0, 100), (0, 4)], []), [([(18, 1)], 0)], [], [.inr (.inr (.inl (152, 0, [([(1, 1)], 0), ([(6, 1)], 0), ([(7, 1)], 0), ([(8, 1)], 0), ([(9, 1)], 0), ([(10, 1)], 0), ([(11, 1)], 0), ([(12, 1)], 0), ([(13, 1)], 0), ([(14, 1)], 0), ([(15, 1)], 0), ([(16, 1)], 0), ([(17, 1)], 0), ([(18, 1)], 0)], [0, 5, 6, 7, 8, 9, 1, 4, 15, 16, 17, 18, 19, 20, 21, 22, 23, 24, 25, 26, 27, 28, 29], [])))])]]
noncomputable def xG_43 : Nat → yt_G → (Nat → Int) → yt_G → Prop
  | _, _, _, _ => True
noncomputable def xP_43 : yt_Ph
  | 0, r, g0, g => (r 18) = yq_co (r 0) ((1 * (r 2) + 0) + 0) (yq_cnt (g0 2) 1 (((1 * (r 2) + 0) + 0)).toNat) (yq_cnt (g0 2) 0 (((1 * (r 2) + 0) + 0)).toNat) ((1 * (r 4) + 0) + 0) (yq_su (g0 3) (((1 * (r 2) + 0) + 0)).toNat) (((1 * (r 6) + 0) + 0) + ((1 * (r 9) + 0) + 0) + ((1 * (r 12) + 0) + 0) + ((1 * (r 15) + 0) + 0))
  | _, _, _, _ => True
noncomputable def xR_43 : yt_Ps := fun r g0 => True
noncomputable def xT_43 : yt_Tb := fun d => match d with
  | 150 => xP_21
  | 151 => xP_42
  | 152 => xP_41
  | _ => fun _ _ _ _ => True
noncomputable def xU_43 : Nat → yt_Ps := fun d => match d with
  | 150 => xR_21
  | 151 => xR_42
  | 152 => xR_41
  | _ => fun _ _ => True
theorem xw_43_0_0 : yt_hold xT_43 xk_43 xq_43.2.2.1 xG_43 xP_43 xU_43 18 xk_43.2.1.2.2.2 (fun g0 r g => xR_43 r g0 ∧ g = g0) (1000, ([((-2147483648), (-1)), ((-2147483648), 2147483647), (0, 40), ((-2147483648), 2147483647), (0, 12), ((-2147483648), 2147483647), (0, 1), ((-2147483648), 2147483647), (0, 100), (0, 1), ((-2147483648), 2147483647), (0, 100), (0, 1), ((-2147483648), 2147483647), (0, 100), (0, 1), ((-2147483648), 2147483647), (0, 100)], []), [([], (-1))], [], []) := by
  intro g0 r gi g hok hh hars hfr hG
  have b0 : (-2147483648) ≤ r 0 ∧ r 0 ≤ (-1) := hok.1 0 ((-2147483648), (-1)) rfl
  obtain ⟨hG, hgi⟩ := hG
  have hG : True := hG
  have hh : g = gi := hh
  subst hh
  refine yt_dalt (by decide) (by decide) ?_
  rw [show xk_43.2.1.2.1.1.length = 18 from rfl]
  show ((0 : Int) + (-1)) = yq_co ((1 * r 0 + 0) + 0) ((1 * ((1 * r 2 + 0) + 0) + 0) + 0) (yq_cnt (g0 2) 1 (((1 * ((1 * r 2 + 0) + 0) + 0) + 0)).toNat) (yq_cnt (g0 2) 0 (((1 * ((1 * r 2 + 0) + 0) + 0) + 0)).toNat) ((1 * ((1 * r 4 + 0) + 0) + 0) + 0) (yq_su (g0 3) (((1 * ((1 * r 2 + 0) + 0) + 0) + 0)).toNat) (((1 * ((1 * r 6 + 0) + 0) + 0) + 0) + ((1 * ((1 * r 9 + 0) + 0) + 0) + 0) + ((1 * ((1 * r 12 + 0) + 0) + 0) + 0) + ((1 * ((1 * r 15 + 0) + 0) + 0) + 0))
  try simp only [Int.one_mul, Int.zero_add, Int.add_zero]
  unfold yq_co
  repeat' split
  all_goals omega
theorem xw_43_0_1 : yt_hold xT_43 xk_43 xq_43.2.2.1 xG_43 xP_43 xU_43 18 xk_43.2.1.2.2.2 (fun g0 r g => xR_43 r g0 ∧ g = g0) (1000, ([(6, 2147483647), ((-2147483648), 2147483647), (0, 40), ((-2147483648), 2147483647), (0, 12), ((-2147483648), 2147483647), (0, 1), ((-2147483648), 2147483647), (0, 100), (0, 1), ((-2147483648), 2147483647), (0, 100), (0, 1), ((-2147483648), 2147483647), (0, 100), (0, 1), ((-2147483648), 2147483647), (0, 100)], []), [([], (-1))], [], []) := by
  intro g0 r gi g hok hh hars hfr hG
  have b0 : 6 ≤ r 0 ∧ r 0 ≤ 2147483647 := hok.1 0 (6, 2147483647) rfl
  obtain ⟨hG, hgi⟩ := hG
  have hG : True := hG
  have hh : g = gi := hh
  subst hh
  refine yt_dalt (by decide) (by decide) ?_
  rw [show xk_43.2.1.2.1.1.length = 18 from rfl]
  show ((0 : Int) + (-1)) = yq_co ((1 * r 0 + 0) + 0) ((1 * ((1 * r 2 + 0) + 0) + 0) + 0) (yq_cnt (g0 2) 1 (((1 * ((1 * r 2 + 0) + 0) + 0) + 0)).toNat) (yq_cnt (g0 2) 0 (((1 * ((1 * r 2 + 0) + 0) + 0) + 0)).toNat) ((1 * ((1 * r 4 + 0) + 0) + 0) + 0) (yq_su (g0 3) (((1 * ((1 * r 2 + 0) + 0) + 0) + 0)).toNat) (((1 * ((1 * r 6 + 0) + 0) + 0) + 0) + ((1 * ((1 * r 9 + 0) + 0) + 0) + 0) + ((1 * ((1 * r 12 + 0) + 0) + 0) + 0) + ((1 * ((1 * r 15 + 0) + 0) + 0) + 0))
  try simp only [Int.one_mul, Int.zero_add, Int.add_zero]
  unfold yq_co
  repeat' split
  all_goals omega
theorem xw_43_0_2 : yt_hold xT_43 xk_43 xq_43.2.2.1 xG_43 xP_43 xU_43 18 xk_43.2.1.2.2.2 (fun g0 r g => xR_43 r g0 ∧ g = g0) (1000, ([(0, 0), ((-2147483648), 2147483647), (0, 40), ((-2147483648), 2147483647), (0, 12), ((-2147483648), 2147483647), (0, 1), ((-2147483648), 2147483647), (0, 100), (0, 1), ((-2147483648), 2147483647), (0, 100), (0, 1), ((-2147483648), 2147483647), (0, 100), (0, 1), ((-2147483648), 2147483647), (0, 100)], []), [([(2, 1)], 0)], [], []) := by
  intro g0 r gi g hok hh hars hfr hG
  have b0 : 0 ≤ r 0 ∧ r 0 ≤ 0 := hok.1 0 (0, 0) rfl
  obtain ⟨hG, hgi⟩ := hG
  have hG : True := hG
  have hh : g = gi := hh
  subst hh
  refine yt_dalt (by decide) (by decide) ?_
  rw [show xk_43.2.1.2.1.1.length = 18 from rfl]
  show ((1 * r 2 + 0) + 0) = yq_co ((1 * r 0 + 0) + 0) ((1 * ((1 * r 2 + 0) + 0) + 0) + 0) (yq_cnt (g0 2) 1 (((1 * ((1 * r 2 + 0) + 0) + 0) + 0)).toNat) (yq_cnt (g0 2) 0 (((1 * ((1 * r 2 + 0) + 0) + 0) + 0)).toNat) ((1 * ((1 * r 4 + 0) + 0) + 0) + 0) (yq_su (g0 3) (((1 * ((1 * r 2 + 0) + 0) + 0) + 0)).toNat) (((1 * ((1 * r 6 + 0) + 0) + 0) + 0) + ((1 * ((1 * r 9 + 0) + 0) + 0) + 0) + ((1 * ((1 * r 12 + 0) + 0) + 0) + 0) + ((1 * ((1 * r 15 + 0) + 0) + 0) + 0))
  try simp only [Int.one_mul, Int.zero_add, Int.add_zero]
  unfold yq_co
  repeat' split
  all_goals omega
theorem xw_43_0_3 : yt_hold xT_43 xk_43 xq_43.2.2.1 xG_43 xP_43 xU_43 18 xk_43.2.1.2.2.2 (fun g0 r g => xR_43 r g0 ∧ g = g0) (1000, ([(1, 1), ((-2147483648), 2147483647), (0, 40), ((-2147483648), 2147483647), (0, 12), ((-2147483648), 2147483647), (0, 1), ((-2147483648), 2147483647), (0, 100), (0, 1), ((-2147483648), 2147483647), (0, 100), (0, 1), ((-2147483648), 2147483647), (0, 100), (0, 1), ((-2147483648), 2147483647), (0, 100), (0, 40)], []), [([(18, 1)], 0)], [], [.inr (.inr (.inl (150, 0, [([], 1), ([(2, 1)], 0), ([(3, 1)], 0), ([(18, 1)], 0)], [1, 2, 10, 11, 3], [])))]) := by
  intro g0 r gi g hok hh hars hfr hG
  have b0 : 1 ≤ r 0 ∧ r 0 ≤ 1 := hok.1 0 (1, 1) rfl
  have b18 : 0 ≤ r 18 ∧ r 18 ≤ 40 := hok.1 18 (0, 40) rfl
  obtain ⟨hG, hgi⟩ := hG
  have hG : True := hG
  obtain ⟨h0, hh, e0, k0⟩ := hh
  have k0 : ∀ j, j ∉ [] → g j = h0 j := k0
  have e0 : ((1 * r 18 + 0) + 0) = yq_cnt (h0 2) ((0 : Int) + 1) (((1 * r 2 + 0) + 0)).toNat := e0
  have hh : h0 = gi := hh
  subst hh
  refine yt_dalt (by decide) (by decide) ?_
  rw [show xk_43.2.1.2.1.1.length = 18 from rfl]
  show ((1 * r 18 + 0) + 0) = yq_co ((1 * r 0 + 0) + 0) ((1 * ((1 * r 2 + 0) + 0) + 0) + 0) (yq_cnt (g0 2) 1 (((1 * ((1 * r 2 + 0) + 0) + 0) + 0)).toNat) (yq_cnt (g0 2) 0 (((1 * ((1 * r 2 + 0) + 0) + 0) + 0)).toNat) ((1 * ((1 * r 4 + 0) + 0) + 0) + 0) (yq_su (g0 3) (((1 * ((1 * r 2 + 0) + 0) + 0) + 0)).toNat) (((1 * ((1 * r 6 + 0) + 0) + 0) + 0) + ((1 * ((1 * r 9 + 0) + 0) + 0) + 0) + ((1 * ((1 * r 12 + 0) + 0) + 0) + 0) + ((1 * ((1 * r 15 + 0) + 0) + 0) + 0))
  try simp only [Int.one_mul, Int.zero_add, Int.add_zero]
  try simp only [Int.one_mul, Int.zero_add, Int.add_zero] at e0
  rw [hgi] at e0
  unfold yq_co
  repeat' split
  all_goals omega
theorem xw_43_0_4 : yt_hold xT_43 xk_43 xq_43.2.2.1 xG_43 xP_43 xU_43 18 xk_43.2.1.2.2.2 (fun g0 r g => xR_43 r g0 ∧ g = g0) (1000, ([(2, 2), ((-2147483648), 2147483647), (0, 40), ((-2147483648), 2147483647), (0, 12), ((-2147483648), 2147483647), (0, 1), ((-2147483648), 2147483647), (0, 100), (0, 1), ((-2147483648), 2147483647), (0, 100), (0, 1), ((-2147483648), 2147483647), (0, 100), (0, 1), ((-2147483648), 2147483647), (0, 100), (0, 40)], []), [([(18, 1)], 0)], [], [.inr (.inr (.inl (150, 0, [([], 0), ([(2, 1)], 0), ([(3, 1)], 0), ([(18, 1)], 0)], [1, 2, 10, 11, 3], [])))]) := by
  intro g0 r gi g hok hh hars hfr hG
  have b0 : 2 ≤ r 0 ∧ r 0 ≤ 2 := hok.1 0 (2, 2) rfl
  have b18 : 0 ≤ r 18 ∧ r 18 ≤ 40 := hok.1 18 (0, 40) rfl
  obtain ⟨hG, hgi⟩ := hG
  have hG : True := hG
  obtain ⟨h0, hh, e0, k0⟩ := hh
  have k0 : ∀ j, j ∉ [] → g j = h0 j := k0
  have e0 : ((1 * r 18 + 0) + 0) = yq_cnt (h0 2) ((0 : Int) + 0) (((1 * r 2 + 0) + 0)).toNat := e0
  have hh : h0 = gi := hh
  subst hh
  refine yt_dalt (by decide) (by decide) ?_
  rw [show xk_43.2.1.2.1.1.length = 18 from rfl]
  show ((1 * r 18 + 0) + 0) = yq_co ((1 * r 0 + 0) + 0) ((1 * ((1 * r 2 + 0) + 0) + 0) + 0) (yq_cnt (g0 2) 1 (((1 * ((1 * r 2 + 0) + 0) + 0) + 0)).toNat) (yq_cnt (g0 2) 0 (((1 * ((1 * r 2 + 0) + 0) + 0) + 0)).toNat) ((1 * ((1 * r 4 + 0) + 0) + 0) + 0) (yq_su (g0 3) (((1 * ((1 * r 2 + 0) + 0) + 0) + 0)).toNat) (((1 * ((1 * r 6 + 0) + 0) + 0) + 0) + ((1 * ((1 * r 9 + 0) + 0) + 0) + 0) + ((1 * ((1 * r 12 + 0) + 0) + 0) + 0) + ((1 * ((1 * r 15 + 0) + 0) + 0) + 0))
  try simp only [Int.one_mul, Int.zero_add, Int.add_zero]
  try simp only [Int.one_mul, Int.zero_add, Int.add_zero] at e0
  rw [hgi] at e0
  unfold yq_co
  repeat' split
  all_goals omega
theorem xw_43_0_5 : yt_hold xT_43 xk_43 xq_43.2.2.1 xG_43 xP_43 xU_43 18 xk_43.2.1.2.2.2 (fun g0 r g => xR_43 r g0 ∧ g = g0) (1000, ([(3, 3), ((-2147483648), 2147483647), (0, 40), ((-2147483648), 2147483647), (0, 12), ((-2147483648), 2147483647), (0, 1), ((-2147483648), 2147483647), (0, 100), (0, 1), ((-2147483648), 2147483647), (0, 100), (0, 1), ((-2147483648), 2147483647), (0, 100), (0, 1), ((-2147483648), 2147483647), (0, 100)], []), [([(4, 1)], 0)], [], []) := by
  intro g0 r gi g hok hh hars hfr hG
  have b0 : 3 ≤ r 0 ∧ r 0 ≤ 3 := hok.1 0 (3, 3) rfl
  obtain ⟨hG, hgi⟩ := hG
  have hG : True := hG
  have hh : g = gi := hh
  subst hh
  refine yt_dalt (by decide) (by decide) ?_
  rw [show xk_43.2.1.2.1.1.length = 18 from rfl]
  show ((1 * r 4 + 0) + 0) = yq_co ((1 * r 0 + 0) + 0) ((1 * ((1 * r 2 + 0) + 0) + 0) + 0) (yq_cnt (g0 2) 1 (((1 * ((1 * r 2 + 0) + 0) + 0) + 0)).toNat) (yq_cnt (g0 2) 0 (((1 * ((1 * r 2 + 0) + 0) + 0) + 0)).toNat) ((1 * ((1 * r 4 + 0) + 0) + 0) + 0) (yq_su (g0 3) (((1 * ((1 * r 2 + 0) + 0) + 0) + 0)).toNat) (((1 * ((1 * r 6 + 0) + 0) + 0) + 0) + ((1 * ((1 * r 9 + 0) + 0) + 0) + 0) + ((1 * ((1 * r 12 + 0) + 0) + 0) + 0) + ((1 * ((1 * r 15 + 0) + 0) + 0) + 0))
  try simp only [Int.one_mul, Int.zero_add, Int.add_zero]
  unfold yq_co
  repeat' split
  all_goals omega
theorem xw_43_0_6 : yt_hold xT_43 xk_43 xq_43.2.2.1 xG_43 xP_43 xU_43 18 xk_43.2.1.2.2.2 (fun g0 r g => xR_43 r g0 ∧ g = g0) (1000, ([(4, 4), ((-2147483648), 2147483647), (0, 40), ((-2147483648), 2147483647), (0, 12), ((-2147483648), 2147483647), (0, 1), ((-2147483648), 2147483647), (0, 100), (0, 1), ((-2147483648), 2147483647), (0, 100), (0, 1), ((-2147483648), 2147483647), (0, 100), (0, 1), ((-2147483648), 2147483647), (0, 100), (0, 40000)], []), [([(18, 1)], 0)], [], [.inr (.inr (.inl (151, 0, [([(2, 1)], 0), ([(3, 1)], 0), ([(18, 1)], 0)], [1, 3, 10, 11, 2], [])))]) := by
  intro g0 r gi g hok hh hars hfr hG
  have b0 : 4 ≤ r 0 ∧ r 0 ≤ 4 := hok.1 0 (4, 4) rfl
  have b18 : 0 ≤ r 18 ∧ r 18 ≤ 40000 := hok.1 18 (0, 40000) rfl
  obtain ⟨hG, hgi⟩ := hG
  have hG : True := hG
  obtain ⟨h0, hh, e0, k0⟩ := hh
  have k0 : ∀ j, j ∉ [] → g j = h0 j := k0
  have e0 : ((1 * r 18 + 0) + 0) = yq_su (h0 3) (((1 * r 2 + 0) + 0)).toNat := e0
  have hh : h0 = gi := hh
  subst hh
  refine yt_dalt (by decide) (by decide) ?_
  rw [show xk_43.2.1.2.1.1.length = 18 from rfl]
  show ((1 * r 18 + 0) + 0) = yq_co ((1 * r 0 + 0) + 0) ((1 * ((1 * r 2 + 0) + 0) + 0) + 0) (yq_cnt (g0 2) 1 (((1 * ((1 * r 2 + 0) + 0) + 0) + 0)).toNat) (yq_cnt (g0 2) 0 (((1 * ((1 * r 2 + 0) + 0) + 0) + 0)).toNat) ((1 * ((1 * r 4 + 0) + 0) + 0) + 0) (yq_su (g0 3) (((1 * ((1 * r 2 + 0) + 0) + 0) + 0)).toNat) (((1 * ((1 * r 6 + 0) + 0) + 0) + 0) + ((1 * ((1 * r 9 + 0) + 0) + 0) + 0) + ((1 * ((1 * r 12 + 0) + 0) + 0) + 0) + ((1 * ((1 * r 15 + 0) + 0) + 0) + 0))
  try simp only [Int.one_mul, Int.zero_add, Int.add_zero]
  try simp only [Int.one_mul, Int.zero_add, Int.add_zero] at e0
  rw [hgi] at e0
  unfold yq_co
  repeat' split
  all_goals omega
theorem xw_43_0_7 : yt_hold xT_43 xk_43 xq_43.2.2.1 xG_43 xP_43 xU_43 18 xk_43.2.1.2.2.2 (fun g0 r g => xR_43 r g0 ∧ g = g0) (1000, ([(5, 5), ((-2147483648), 2147483647), (0, 40), ((-2147483648), 2147483647), (0, 12), ((-2147483648), 2147483647), (0, 1), ((-2147483648), 2147483647), (0, 100), (0, 1), ((-2147483648), 2147483647), (0, 100), (0, 1), ((-2147483648), 2147483647), (0, 100), (0, 1), ((-2147483648), 2147483647), (0, 100), (0, 4)], []), [([(18, 1)], 0)], [], [.inr (.inr (.inl (152, 0, [([(1, 1)], 0), ([(6, 1)], 0), ([(7, 1)], 0), ([(8, 1)], 0), ([(9, 1)], 0), ([(10, 1)], 0), ([(11, 1)], 0), ([(12, 1)], 0), ([(13, 1)], 0), ([(14, 1)], 0), ([(15, 1)], 0), ([(16, 1)], 0), ([(17, 1)], 0), ([(18, 1)], 0)], [0, 5, 6, 7, 8, 9, 1, 4, 15, 16, 17, 18, 19, 20, 21, 22, 23, 24, 25, 26, 27, 28, 29], [])))]) := by
  intro g0 r gi g hok hh hars hfr hG
  have b0 : 5 ≤ r 0 ∧ r 0 ≤ 5 := hok.1 0 (5, 5) rfl
  have b18 : 0 ≤ r 18 ∧ r 18 ≤ 4 := hok.1 18 (0, 4) rfl
  obtain ⟨hG, hgi⟩ := hG
  have hG : True := hG
  obtain ⟨h0, hh, e0, k0⟩ := hh
  have k0 : ∀ j, j ∉ [] → g j = h0 j := k0
  have e0 : ((1 * r 18 + 0) + 0) = ((1 * ((1 * r 6 + 0) + 0) + 0) + 0) + ((1 * ((1 * r 9 + 0) + 0) + 0) + 0) + ((1 * ((1 * r 12 + 0) + 0) + 0) + 0) + ((1 * ((1 * r 15 + 0) + 0) + 0) + 0) := e0
  have hh : h0 = gi := hh
  subst hh
  refine yt_dalt (by decide) (by decide) ?_
  rw [show xk_43.2.1.2.1.1.length = 18 from rfl]
  show ((1 * r 18 + 0) + 0) = yq_co ((1 * r 0 + 0) + 0) ((1 * ((1 * r 2 + 0) + 0) + 0) + 0) (yq_cnt (g0 2) 1 (((1 * ((1 * r 2 + 0) + 0) + 0) + 0)).toNat) (yq_cnt (g0 2) 0 (((1 * ((1 * r 2 + 0) + 0) + 0) + 0)).toNat) ((1 * ((1 * r 4 + 0) + 0) + 0) + 0) (yq_su (g0 3) (((1 * ((1 * r 2 + 0) + 0) + 0) + 0)).toNat) (((1 * ((1 * r 6 + 0) + 0) + 0) + 0) + ((1 * ((1 * r 9 + 0) + 0) + 0) + 0) + ((1 * ((1 * r 12 + 0) + 0) + 0) + 0) + ((1 * ((1 * r 15 + 0) + 0) + 0) + 0))
  try simp only [Int.one_mul, Int.zero_add, Int.add_zero]
  try simp only [Int.one_mul, Int.zero_add, Int.add_zero] at e0
  unfold yq_co
  repeat' split
  all_goals omega
theorem xn_43 : ∀ (j : Nat) (q : Nat × yt_T), xq_43.2.2.1[j]? = some q → q.2.2.2 = false → ∀ g0 r g, xG_43 j g0 r g
  | n + 0, q, hq, _ => by cases hq
theorem xs_43 : ∀ j, xq_43.2.2.2.getD j false = false → ∀ r g g', xP_43 j r g g'
  | 0, hf => by cases hf
  | n + 1, _ => fun _ _ _ => trivial
theorem xc_43 {l : Launch} {D : va_G} {cT : Nat → ClassId} {tys : List (ClassId × FieldType)} (hty : yx_Ty tys cT) : yt_Con l D vwCl cT tys yG yw_s33 xk_43 xR_43 xP_43 := yx_sem (calls := xa_43) (Z := xq_43) (tb := xT_43) (pt := xU_43) (Ga := xG_43) (vs := xv_43) (fun _ _ _ _ => trivial) 300 (by decide +kernel) yz_X11_count_ok hty (yl_lkX11 _) (yl_cqkX11 _) (List.forall_mem_cons.mpr ⟨⟨xc_41 hty, yg_CLv rfl rfl rfl yl_wX11_392 yd_yX11_sheetsThere, fun _ _ _ => trivial⟩, List.forall_mem_cons.mpr ⟨⟨xc_42 hty, yg_CLv rfl rfl rfl yl_wX11_389 yd_yX6_allWeights, fun _ _ _ => trivial⟩, List.forall_mem_cons.mpr ⟨⟨xc_21 hty, yg_CLv rfl rfl rfl yl_wX11_369 yd_yX6_tally, fun _ _ _ => trivial⟩, fun _ h => absurd h List.not_mem_nil⟩⟩⟩) (xn_43) (xs_43) (by decide +kernel) (List.forall_mem_cons.mpr ⟨xw_43_0_0, List.forall_mem_cons.mpr ⟨xw_43_0_1, List.forall_mem_cons.mpr ⟨xw_43_0_2, List.forall_mem_cons.mpr ⟨xw_43_0_3, List.forall_mem_cons.mpr ⟨xw_43_0_4, List.forall_mem_cons.mpr ⟨xw_43_0_5, List.forall_mem_cons.mpr ⟨xw_43_0_6, List.forall_mem_cons.mpr ⟨xw_43_0_7, fun _ h => absurd h List.not_mem_nil⟩⟩⟩⟩⟩⟩⟩⟩) (trivial)
noncomputable def xf_44 : ys_F := (yw_f11 4, yw_r11)
noncomputable def xk_44 : ys_K := (((yX7_lighterSide, cX7_lighterSide, 14, (some .int)), (1, 14)), ([.inr (some 0), .inl (.inl ([(0, 1)], 0)), .inl (.inl ([(1, 1)], 0)), .inl (.inl ([(2, 1)], 0)), .inl (.inl ([(3, 1)], 0))], ([((-2147483648), 2147483647), ((-2147483648), 2147483647), ((-2147483648), 2147483647), ((-2147483648), 2147483647)] ++ yw_e11, []), xf_44), ([([((-2147483648), 2147483647)], [], (xf_44.1, xf_44.2), some (.inl (.inl ([(6, 1)], 0))))], []))
noncomputable def xq_44 : yt_Q := (yz_X7_lighterSide, (yl_flX7, yl_ciX7, yl_cjX7, yl_cpX7, yl_cqX7), [(15, ([((-2147483648), 2147483647), ((-2147483648), 2147483647), ((-2147483648), 2147483647), ((-2147483648), 2147483647), (0, 40)], [], (xf_44.1, xf_44.2), [(0, .inr (some 0)), (1, .inl (.inl ([(0, 1)], 0))), (2, .inl (.inl ([(1, 1)], 0))), (3, .inl (.inl ([(2, 1)], 0))), (4, .inl (.inl ([(3, 1)], 0))), (5, .inl (.inl ([(6, 1)], 0))), (6, .inl (.inl ([(7, 1)], 0))), (7, .inl (.inl ([(8, 1)], 0))), (8, .inl (.inl ([(9, 1)], 0))), (9, .inl (.inl ([(10, 1)], 0)))], [], ([(10, (-1))], 40)), [], false)], [])
noncomputable def xa_44 : List yt_CE := []
theorem xc_44 {l : Launch} {D : va_G} {cT : Nat → ClassId} {tys : List (ClassId × FieldType)} (hty : yx_Ty tys cT) : yx_C l D cT tys yw_s11 xk_44 := yx_method (calls := xa_44) (Z := xq_44) 300 (by decide +kernel) yz_X7_lighterSide_ok hty (yl_lkX7 _) (yl_cqkX7 _) (fun _ h => absurd h List.not_mem_nil) (by decide +kernel)
noncomputable def xf_45 : ys_F := (yw_f11 2, yw_r11)
noncomputable def xk_45 : ys_K := (((yX7_depthAt, cX7_depthAt, 8, (some .int)), (2, 47)), ([.inr (some 0), .inl (.inl ([(0, 1)], 0)), .inl (.inl ([(1, 1)], 0))], ([((-2147483648), 2147483647), ((-2147483648), 2147483647)] ++ yw_e11, []), xf_45), ([([((-2147483648), 2147483647)], [], (xf_45.1, xf_45.2), some (.inl (.inl ([(4, 1)], 0))))], []))
noncomputable def xq_45 : yt_Q := (yz_X7_depthAt, (yl_flX7, yl_ciX7, yl_cjX7, yl_cpX7, yl_cqX7), [(9, ([((-2147483648), 2147483647), ((-2147483648), 40), (0, 40)], [], (xf_45.1, xf_45.2), [(0, .inr (some 0)), (1, .inl (.inl ([(0, 1)], 0))), (2, .inl (.inl ([(1, 1)], 0))), (3, .inl (.inl ([(4, 1)], 0))), (4, .inl (.inl ([(5, 1)], 0))), (5, .inl (.inl ([(6, 1)], 0)))], [], ([(6, (-1))], 40)), [], false)], [])
noncomputable def xa_45 : List yt_CE := [(((60, true), (0, false, [0, 1, 2, 3, 4])), (yw_s11, xk_44))]
theorem xc_45 {l : Launch} {D : va_G} {cT : Nat → ClassId} {tys : List (ClassId × FieldType)} (hty : yx_Ty tys cT) : yx_C l D cT tys yw_s11 xk_45 := yx_method (calls := xa_45) (Z := xq_45) 300 (by decide +kernel) yz_X7_depthAt_ok hty (yl_lkX7 _) (yl_cqkX7 _) (List.forall_mem_cons.mpr ⟨⟨xc_44 hty, yg_CLs yl_wX7_60 yd_yX7_lighterSide⟩, fun _ h => absurd h List.not_mem_nil⟩) (by decide +kernel)
noncomputable def yw_s34 : List ys_C := [.inl 11, .inl 6, .inr (0, 40, []), .inr (0, 40, [])]
noncomputable def yw_f34 (n : Nat) : List (List ys_V) := [[.inr (some 1), .inr (some 6), .inr (some 7), .inr (some 8), .inr (some 9), .inr (some 10), .inr (some 11), .inr (some 12), .inr (some 13), .inr (some 14), .inr (some 15), .inr (some 16), .inr (some 17), .inr (some 18), .inl (.inl ([(n + 0, 1)], 0))], [.inr (some 2), .inr (some 3), .inr (some 4), .inr (some 5), .inl (.inl ([(n + 1, 1)], 0)), .inl (.inl ([(n + 2, 1)], 0))], [], []]
noncomputable def yw_e34 : ys_E := [((-2147483648), 2147483647), (0, 40), ((-2147483648), 2147483647)]
noncomputable def yw_r34 : List ys_R := [((0, 0), []), ((0, 0), []), (((-300), 300), []), (((-300), 300), [])]
noncomputable def xf_46 : ys_F := (yw_f34 2, yw_r34)
noncomputable def xk_46 : ys_K := (((yX11_depth, cX11_depth, 3, (some .int)), (3, 74)), ([.inr (some 0), .inl (.inl ([(0, 1)], 0)), .inl (.inl ([(1, 1)], 0))], ([((-2147483648), 2147483647), ((-2147483648), 2147483647)] ++ yw_e34, []), xf_46), ([([((-2147483648), 2147483647)], [], (xf_46.1, xf_46.2), some (.inl (.inl ([(5, 1)], 0))))], []))
noncomputable def xq_46 : yt_Q := (yz_X11_depth, (yl_flX11, yl_ciX11, yl_cjX11, yl_cpX11, yl_cqX11), [], [])
noncomputable def xa_46 : List yt_CE := [(((362, true), (0, false, [1, 2, 3, 4, 5])), (yw_s11, xk_45))]
theorem xc_46 {l : Launch} {D : va_G} {cT : Nat → ClassId} {tys : List (ClassId × FieldType)} (hty : yx_Ty tys cT) : yx_C l D cT tys yw_s34 xk_46 := yx_method (calls := xa_46) (Z := xq_46) 300 (by decide +kernel) yz_X11_depth_ok hty (yl_lkX11 _) (yl_cqkX11 _) (List.forall_mem_cons.mpr ⟨⟨xc_45 hty, yg_CLs yl_wX11_362 yd_yX7_depthAt⟩, fun _ h => absurd h List.not_mem_nil⟩) (by decide +kernel)
noncomputable def yw_s35 : List ys_C := [.inl 11, .inl 2]
noncomputable def yw_f35 (n : Nat) : List (List ys_V) := [[.inr (some 2), .inr (some 1), .inr (some 6), .inr (some 7), .inr (some 8), .inr (some 9), .inr (some 10), .inr (some 11), .inr (some 12), .inr (some 13), .inr (some 14), .inr (some 15), .inr (some 16), .inr (some 17), .inl (.inl ([(n + 0, 1)], 0))], [.inl (.inl ([(n + 1, 1)], 0)), .inl (.inl ([(n + 2, 1)], 0)), .inr (some 3), .inr (some 4), .inr (some 5)]]
noncomputable def yw_e35 : ys_E := [((-2147483648), 2147483647), (0, 12), ((-2147483648), 2147483647)]
noncomputable def yw_r35 : List ys_R := [((0, 0), []), ((0, 0), [])]
noncomputable def xf_47 : ys_F := (yw_f35 0, yw_r35)
noncomputable def xk_47 : ys_K := (((yX11_dismiss, cX11_dismiss, 2, (some .int)), (0, 0)), ([.inr (some 0)], ([] ++ yw_e35, []), xf_47), ([([], [], ((ys_fs xf_47.1 [(1, 0, .inl (.inl ([], 0)))]), xf_47.2), some (.inl (.inl ([(1, 1)], 0))))], []))
noncomputable def xq_47 : yt_Q := (yz_X11_dismiss, (yl_flX11, yl_ciX11, yl_cjX11, yl_cpX11, yl_cqX11), [], [])
noncomputable def xa_47 : List yt_CE := []
theorem xc_47 {l : Launch} {D : va_G} {cT : Nat → ClassId} {tys : List (ClassId × FieldType)} (hty : yx_Ty tys cT) : yx_C l D cT tys yw_s35 xk_47 := yx_method (calls := xa_47) (Z := xq_47) 300 (by decide +kernel) yz_X11_dismiss_ok hty (yl_lkX11 _) (yl_cqkX11 _) (fun _ h => absurd h List.not_mem_nil) (by decide +kernel)
noncomputable def yw_s36 : List ys_C := [.inl 6]
noncomputable def yw_f36 (n : Nat) : List (List ys_V) := [[.inr (some 1), .inr (some 2), .inr (some 3), .inr (some 4), .inl (.inl ([(n + 0, 1)], 0)), .inl (.inl ([(n + 1, 1)], 0))]]
noncomputable def yw_e36 : ys_E := [(0, 40), ((-2147483648), 2147483647)]
noncomputable def yw_r36 : List ys_R := [((0, 0), [])]
noncomputable def xf_48 : ys_F := (yw_f36 1, yw_r36)
noncomputable def xk_48 : ys_K := (((yX6_has, cX6_has, 2, (some .boolean)), (0, 0)), ([.inr (some 0), .inl (.inl ([(0, 1)], 0))], ([((-2147483648), 2147483647)] ++ yw_e36, []), xf_48), ([([], [([(0, (-1))], (-1))], (xf_48.1, xf_48.2), some (.inl (.inl ([], 0)))), ([], [([(0, 1)], 0), ([(1, (-1)), (0, 1)], 0)], (xf_48.1, xf_48.2), some (.inl (.inl ([], 0)))), ([], [([(0, 1)], 0), ([(0, (-1))], 39), ([(1, 1)], (-1)), ([(1, 1), (0, (-1))], (-1))], (xf_48.1, xf_48.2), some (.inl (.inl ([], 1))))], []))
noncomputable def xq_48 : yt_Q := (yz_X6_has, (yl_flX6, yl_ciX6, yl_cjX6, yl_cpX6, yl_cqX6), [], [])
noncomputable def xa_48 : List yt_CE := []
theorem xc_48 {l : Launch} {D : va_G} {cT : Nat → ClassId} {tys : List (ClassId × FieldType)} (hty : yx_Ty tys cT) : yx_C l D cT tys yw_s36 xk_48 := yx_method (calls := xa_48) (Z := xq_48) 300 (by decide +kernel) yz_X6_has_ok hty (yl_lkX6 _) (yl_cqkX6 _) (fun _ h => absurd h List.not_mem_nil) (by decide +kernel)
noncomputable def yw_s37 : List ys_C := [.inl 6, .inr (0, 40, []), .inr (0, 40, []), .inr (0, 40, []), .inr (0, 40, [])]
noncomputable def yw_f37 (n : Nat) : List (List ys_V) := [[.inr (some 1), .inr (some 2), .inr (some 3), .inr (some 4), .inl (.inl ([(n + 0, 1)], 0)), .inl (.inl ([(n + 1, 1)], 0))], [], [], [], []]
noncomputable def yw_e37 : ys_E := [(0, 40), ((-2147483648), 2147483647)]
noncomputable def yw_r37 : List ys_R := [((0, 0), []), (((-300), 300), []), (((-300), 300), []), ((0, 1), []), ((0, 1000), [])]
noncomputable def xf_49 : ys_F := (yw_f37 1, yw_r37)
noncomputable def xk_49 : ys_K := (((yX6_remove, cX6_remove, 3, none), (1, 21)), ([.inr (some 0), .inl (.inl ([(0, 1)], 0))], ([((-2147483648), 2147483647)] ++ yw_e37, []), xf_49), ([([], [([(0, (-1))], (-1))], (xf_49.1, xf_49.2), none), ([((-2147483648), 2147483647)], [([(0, 1)], 0), ([(0, (-1))], 39), ([(1, 1)], (-1)), ([(1, 1), (0, (-1))], (-1))], ((ys_fs xf_49.1 [(0, 4, .inl (.inl ([(1, 1)], (-1)))), (0, 5, .inl (.inl ([(3, 1)], 0)))]), xf_49.2), none), ([], [([(0, 1)], 0), ([(1, (-1)), (0, 1)], 0)], (xf_49.1, xf_49.2), none)], [1, 2, 3, 4]))
noncomputable def xq_49 : yt_Q := (yz_X6_remove, (yl_flX6, yl_ciX6, yl_cjX6, yl_cpX6, yl_cqX6), [(11, ([(0, 39)], [([(0, 1)], 0), ([(0, (-1))], 39), ([(1, 1)], (-1)), ([(1, 1), (0, (-1))], (-1))], (xf_49.1, xf_49.2), [(0, .inr (some 0)), (2, .inl (.inl ([(3, 1)], 0)))], [], ([(3, (-1))], 39)), [], true)], [false, true, false])
noncomputable def xa_49 : List yt_CE := [(((35, false), (0, false, [0, 1, 2, 3, 4])), (yw_s36, xk_48))]
noncomputable def xv_49 : List (List yt_VC) := [[(0, ([(0, 39), (1, 40), ((-2147483648), 2147483647)], [([(1, 1), (0, (-1))], (-1))]), [([(0, 1)], 0)], [], [])],
  [(1001, ([(0, 39), (1, 40), ((-2147483648), 2147483647), (0, 39), ((-2147483648), 2147483647)], [([(1, (-1)), (3, 1)], 1), ([(1, 1), (0, (-1))], (-1)), ([(0, 1)], 0), ([(0, (-1))], 39), ([(1, 1)], (-1)), ([(1, 1), (0, (-1))], (-1))]), [([(4, 1)], 0)], [], [.inr (.inr (.inl (998, 15, [([(2, 1)], 0), ([], 1), ([(4, 1)], 0)], [], [])))]),
   (0, ([(0, 39), (2, 40), ((-2147483648), 2147483647), (0, 38), ((-300), 300), ((-300), 300), (0, 1), (0, 1000)], [([(1, 1), (3, (-1))], (-2)), ([(1, 1), (0, (-1))], (-1)), ([(0, 1)], 0), ([(0, (-1))], 39), ([(1, 1)], (-1)), ([(1, 1), (0, (-1))], (-1))]), [([(3, 1)], 1)], [], [.inr (.inl (4, ([(3, 1)], 0), ([(7, 1)], 0))), .inl (.inl (4, ([(3, 1)], 1), 7)), .inr (.inl (3, ([(3, 1)], 0), ([(6, 1)], 0))), .inl (.inl (3, ([(3, 1)], 1), 6)), .inr (.inl (2, ([(3, 1)], 0), ([(5, 1)], 0))), .inl (.inl (2, ([(3, 1)], 1), 5)), .inr (.inl (1, ([(3, 1)], 0), ([(4, 1)], 0))), .inl (.inl (1, ([(3, 1)], 1), 4))])]]
noncomputable def xG_49 : Nat → yt_G → (Nat → Int) → yt_G → Prop
  | 0, g0, r, g => (g 1) = yq_sf (r 0) ((1 * (r 3) + 0) + 0) (g0 1) ∧ (g 2) = yq_sf (r 0) ((1 * (r 3) + 0) + 0) (g0 2) ∧ (g 3) = yq_sf (r 0) ((1 * (r 3) + 0) + 0) (g0 3) ∧ (g 4) = yq_sf (r 0) ((1 * (r 3) + 0) + 0) (g0 4) ∧ (r 0) ≤ ((1 * (r 3) + 0) + 0) ∧ ((1 * (r 3) + 0) + 0) ≤ (r 1) - 1
  | _, _, _, _ => True
noncomputable def xP_49 : yt_Ph
  | 0, r, g0, g => True
  | 1, r, g0, g => ((g 1) = yq_sf (r 0) ((r 1) - 1) (g0 1) ∧ (g 2) = yq_sf (r 0) ((r 1) - 1) (g0 2) ∧ (g 3) = yq_sf (r 0) ((r 1) - 1) (g0 3) ∧ (g 4) = yq_sf (r 0) ((r 1) - 1) (g0 4)) ∧ ((1 * (r 3) + 0) + 0) = ye_wr ((1 * (r 2) + 0) + 0) 1
  | 2, r, g0, g => True
  | _, _, _, _ => True
noncomputable def xR_49 : yt_Ps := fun r g0 => True
noncomputable def xT_49 : yt_Tb := fun d => match d with
  | 998 => fun i r _ _ => yt_hwp i r
  | _ => fun _ _ _ _ => True
noncomputable def xU_49 : Nat → yt_Ps := fun d => match d with
  | _ => fun _ _ => True
theorem xw_49_0_0 : yt_hold xT_49 xk_49 xq_49.2.2.1 xG_49 xP_49 xU_49 3 xk_49.2.1.2.2.2 (fun g0 r g => xR_49 r g0 ∧ g = g0) (0, ([(0, 39), (1, 40), ((-2147483648), 2147483647)], [([(1, 1), (0, (-1))], (-1))]), [([(0, 1)], 0)], [], []) := by
  intro g0 r gi g hok hh hars hfr hG
  have b0 : 0 ≤ r 0 ∧ r 0 ≤ 39 := hok.1 0 (0, 39) rfl
  have b1 : 1 ≤ r 1 ∧ r 1 ≤ 40 := hok.1 1 (1, 40) rfl
  have f0 : 0 ≤ ((1 * r 1 + ((-1) * r 0 + 0)) + (-1)) := hok.2 _ (List.mem_of_getElem? (i := 0) rfl)
  obtain ⟨hG, hgi⟩ := hG
  have hG : True := hG
  have hh : g = gi := hh
  subst hh
  refine yt_dcut (by decide) rfl ?_ ?_
  · exact fun f hf => absurd hf List.not_mem_nil
  · rw [show xk_49.2.1.2.1.1.length = 3 from rfl]
    show (g 1) = yq_sf ((1 * r 0 + 0) + 0) ((1 * ((1 * r 0 + 0) + 0) + 0) + 0) (g0 1) ∧ (g 2) = yq_sf ((1 * r 0 + 0) + 0) ((1 * ((1 * r 0 + 0) + 0) + 0) + 0) (g0 2) ∧ (g 3) = yq_sf ((1 * r 0 + 0) + 0) ((1 * ((1 * r 0 + 0) + 0) + 0) + 0) (g0 3) ∧ (g 4) = yq_sf ((1 * r 0 + 0) + 0) ((1 * ((1 * r 0 + 0) + 0) + 0) + 0) (g0 4) ∧ ((1 * r 0 + 0) + 0) ≤ ((1 * ((1 * r 0 + 0) + 0) + 0) + 0) ∧ ((1 * ((1 * r 0 + 0) + 0) + 0) + 0) ≤ ((1 * r 1 + 0) + 0) - 1
    try simp only [Int.one_mul, Int.zero_add, Int.add_zero]
    refine ⟨?_, ?_, ?_, ?_, by omega, by omega⟩
    · rw [hgi]
      exact yq_sf_0
    · rw [hgi]
      exact yq_sf_0
    · rw [hgi]
      exact yq_sf_0
    · rw [hgi]
      exact yq_sf_0
theorem xw_49_1_0 : yt_hold xT_49 xk_49 xq_49.2.2.1 xG_49 xP_49 xU_49 4 ((xq_49.2.2.1.getD 0 (0, ([], [], ([], []), [], [], ([], 0)), [], false)).2.1.2.2.1.2) (xG_49 0) (1001, ([(0, 39), (1, 40), ((-2147483648), 2147483647), (0, 39), ((-2147483648), 2147483647)], [([(1, (-1)), (3, 1)], 1), ([(1, 1), (0, (-1))], (-1)), ([(0, 1)], 0), ([(0, (-1))], 39), ([(1, 1)], (-1)), ([(1, 1), (0, (-1))], (-1))]), [([(4, 1)], 0)], [], [.inr (.inr (.inl (998, 15, [([(2, 1)], 0), ([], 1), ([(4, 1)], 0)], [], [])))]) := by
  intro g0 r gi g hok hh hars hfr hG
  have b0 : 0 ≤ r 0 ∧ r 0 ≤ 39 := hok.1 0 (0, 39) rfl
  have b1 : 1 ≤ r 1 ∧ r 1 ≤ 40 := hok.1 1 (1, 40) rfl
  have b3 : 0 ≤ r 3 ∧ r 3 ≤ 39 := hok.1 3 (0, 39) rfl
  have b4 : (-2147483648) ≤ r 4 ∧ r 4 ≤ 2147483647 := hok.1 4 ((-2147483648), 2147483647) rfl
  have f0 : 0 ≤ (((-1) * r 1 + (1 * r 3 + 0)) + 1) := hok.2 _ (List.mem_of_getElem? (i := 0) rfl)
  have f1 : 0 ≤ ((1 * r 1 + ((-1) * r 0 + 0)) + (-1)) := hok.2 _ (List.mem_of_getElem? (i := 1) rfl)
  have f2 : 0 ≤ ((1 * r 0 + 0) + 0) := hok.2 _ (List.mem_of_getElem? (i := 2) rfl)
  have f3 : 0 ≤ (((-1) * r 0 + 0) + 39) := hok.2 _ (List.mem_of_getElem? (i := 3) rfl)
  have f4 : 0 ≤ ((1 * r 1 + 0) + (-1)) := hok.2 _ (List.mem_of_getElem? (i := 4) rfl)
  have f5 : 0 ≤ ((1 * r 1 + ((-1) * r 0 + 0)) + (-1)) := hok.2 _ (List.mem_of_getElem? (i := 5) rfl)
  have hG : (gi 1) = yq_sf (r 0) ((1 * (r 3) + 0) + 0) (g0 1) ∧ (gi 2) = yq_sf (r 0) ((1 * (r 3) + 0) + 0) (g0 2) ∧ (gi 3) = yq_sf (r 0) ((1 * (r 3) + 0) + 0) (g0 3) ∧ (gi 4) = yq_sf (r 0) ((1 * (r 3) + 0) + 0) (g0 4) ∧ (r 0) ≤ ((1 * (r 3) + 0) + 0) ∧ ((1 * (r 3) + 0) + 0) ≤ (r 1) - 1 := hG
  obtain ⟨h0, hh, e0, k0⟩ := hh
  have k0 : ∀ j, j ∉ [] → g j = h0 j := k0
  have e0 : Int32.ofInt (((1 * r 4 + 0) + 0)) = Int32.ofInt (((1 * r 2 + 0) + 0)) + Int32.ofInt (((0 : Int) + 1)) := e0
  have hh : h0 = gi := hh
  subst hh
  refine yt_dalt (by decide) (by decide) ?_
  rw [show xk_49.2.1.2.1.1.length = 3 from rfl]
  show ((g 1) = yq_sf ((1 * r 0 + 0) + 0) (((1 * r 1 + 0) + 0) - 1) (g0 1) ∧ (g 2) = yq_sf ((1 * r 0 + 0) + 0) (((1 * r 1 + 0) + 0) - 1) (g0 2) ∧ (g 3) = yq_sf ((1 * r 0 + 0) + 0) (((1 * r 1 + 0) + 0) - 1) (g0 3) ∧ (g 4) = yq_sf ((1 * r 0 + 0) + 0) (((1 * r 1 + 0) + 0) - 1) (g0 4)) ∧ ((1 * ((1 * r 4 + 0) + 0) + 0) + 0) = ye_wr ((1 * ((1 * r 2 + 0) + 0) + 0) + 0) 1
  try simp only [Int.one_mul, Int.zero_add, Int.add_zero]
  refine ⟨?_, ?_⟩
  · try simp only [Int.one_mul, Int.zero_add, Int.add_zero] at hG
    obtain ⟨a0, a1, a2, a3, a4, a5⟩ := hG
    rw [show r 3 = r 1 - 1 by omega] at a0
    rw [show r 3 = r 1 - 1 by omega] at a1
    rw [show r 3 = r 1 - 1 by omega] at a2
    rw [show r 3 = r 1 - 1 by omega] at a3
    refine ⟨?_, ?_, ?_, ?_⟩
    · rw [k0 1 (by decide)]
      exact a0
    · rw [k0 2 (by decide)]
      exact a1
    · rw [k0 3 (by decide)]
      exact a2
    · rw [k0 4 (by decide)]
      exact a3
  · try simp only [Int.one_mul, Int.zero_add, Int.add_zero] at e0
    exact ye_w1 (by omega) (by omega) e0
theorem xw_49_1_1 : yt_hold xT_49 xk_49 xq_49.2.2.1 xG_49 xP_49 xU_49 4 ((xq_49.2.2.1.getD 0 (0, ([], [], ([], []), [], [], ([], 0)), [], false)).2.1.2.2.1.2) (xG_49 0) (0, ([(0, 39), (2, 40), ((-2147483648), 2147483647), (0, 38), ((-300), 300), ((-300), 300), (0, 1), (0, 1000)], [([(1, 1), (3, (-1))], (-2)), ([(1, 1), (0, (-1))], (-1)), ([(0, 1)], 0), ([(0, (-1))], 39), ([(1, 1)], (-1)), ([(1, 1), (0, (-1))], (-1))]), [([(3, 1)], 1)], [], [.inr (.inl (4, ([(3, 1)], 0), ([(7, 1)], 0))), .inl (.inl (4, ([(3, 1)], 1), 7)), .inr (.inl (3, ([(3, 1)], 0), ([(6, 1)], 0))), .inl (.inl (3, ([(3, 1)], 1), 6)), .inr (.inl (2, ([(3, 1)], 0), ([(5, 1)], 0))), .inl (.inl (2, ([(3, 1)], 1), 5)), .inr (.inl (1, ([(3, 1)], 0), ([(4, 1)], 0))), .inl (.inl (1, ([(3, 1)], 1), 4))]) := by
  intro g0 r gi g hok hh hars hfr hG
  have b0 : 0 ≤ r 0 ∧ r 0 ≤ 39 := hok.1 0 (0, 39) rfl
  have b1 : 2 ≤ r 1 ∧ r 1 ≤ 40 := hok.1 1 (2, 40) rfl
  have b3 : 0 ≤ r 3 ∧ r 3 ≤ 38 := hok.1 3 (0, 38) rfl
  have b4 : (-300) ≤ r 4 ∧ r 4 ≤ 300 := hok.1 4 ((-300), 300) rfl
  have b5 : (-300) ≤ r 5 ∧ r 5 ≤ 300 := hok.1 5 ((-300), 300) rfl
  have b6 : 0 ≤ r 6 ∧ r 6 ≤ 1 := hok.1 6 (0, 1) rfl
  have b7 : 0 ≤ r 7 ∧ r 7 ≤ 1000 := hok.1 7 (0, 1000) rfl
  have f0 : 0 ≤ ((1 * r 1 + ((-1) * r 3 + 0)) + (-2)) := hok.2 _ (List.mem_of_getElem? (i := 0) rfl)
  have f1 : 0 ≤ ((1 * r 1 + ((-1) * r 0 + 0)) + (-1)) := hok.2 _ (List.mem_of_getElem? (i := 1) rfl)
  have f2 : 0 ≤ ((1 * r 0 + 0) + 0) := hok.2 _ (List.mem_of_getElem? (i := 2) rfl)
  have f3 : 0 ≤ (((-1) * r 0 + 0) + 39) := hok.2 _ (List.mem_of_getElem? (i := 3) rfl)
  have f4 : 0 ≤ ((1 * r 1 + 0) + (-1)) := hok.2 _ (List.mem_of_getElem? (i := 4) rfl)
  have f5 : 0 ≤ ((1 * r 1 + ((-1) * r 0 + 0)) + (-1)) := hok.2 _ (List.mem_of_getElem? (i := 5) rfl)
  have hG : (gi 1) = yq_sf (r 0) ((1 * (r 3) + 0) + 0) (g0 1) ∧ (gi 2) = yq_sf (r 0) ((1 * (r 3) + 0) + 0) (g0 2) ∧ (gi 3) = yq_sf (r 0) ((1 * (r 3) + 0) + 0) (g0 3) ∧ (gi 4) = yq_sf (r 0) ((1 * (r 3) + 0) + 0) (g0 4) ∧ (r 0) ≤ ((1 * (r 3) + 0) + 0) ∧ ((1 * (r 3) + 0) + 0) ≤ (r 1) - 1 := hG
  obtain ⟨h0, hh, e0⟩ := hh
  have e0 : g = ys_gup h0 4 (((1 * r 3 + 0) + 0)).toNat ((1 * r 7 + 0) + 0) := e0
  obtain ⟨g1, hh, q1, e1⟩ := hh
  subst q1
  have e1 : r 7 = h0 4 (((1 * r 3 + 0) + 1)).toNat := e1
  rw [show (((1 * r 3 + 0) + 1)).toNat = (r 3 + 1).toNat by omega] at e1
  obtain ⟨h2, hh, e2⟩ := hh
  have e2 : h0 = ys_gup h2 3 (((1 * r 3 + 0) + 0)).toNat ((1 * r 6 + 0) + 0) := e2
  obtain ⟨g3, hh, q3, e3⟩ := hh
  subst q3
  have e3 : r 6 = h2 3 (((1 * r 3 + 0) + 1)).toNat := e3
  rw [show (((1 * r 3 + 0) + 1)).toNat = (r 3 + 1).toNat by omega] at e3
  obtain ⟨h4, hh, e4⟩ := hh
  have e4 : h2 = ys_gup h4 2 (((1 * r 3 + 0) + 0)).toNat ((1 * r 5 + 0) + 0) := e4
  obtain ⟨g5, hh, q5, e5⟩ := hh
  subst q5
  have e5 : r 5 = h4 2 (((1 * r 3 + 0) + 1)).toNat := e5
  rw [show (((1 * r 3 + 0) + 1)).toNat = (r 3 + 1).toNat by omega] at e5
  obtain ⟨h6, hh, e6⟩ := hh
  have e6 : h4 = ys_gup h6 1 (((1 * r 3 + 0) + 0)).toNat ((1 * r 4 + 0) + 0) := e6
  obtain ⟨g7, hh, q7, e7⟩ := hh
  subst q7
  have e7 : r 4 = h6 1 (((1 * r 3 + 0) + 1)).toNat := e7
  rw [show (((1 * r 3 + 0) + 1)).toNat = (r 3 + 1).toNat by omega] at e7
  have hh : h6 = gi := hh
  subst hh
  refine yt_dcut (by decide) rfl ?_ ?_
  · exact fun f hf => absurd hf List.not_mem_nil
  · rw [show xk_49.2.1.2.1.1.length = 3 from rfl]
    show (g 1) = yq_sf ((1 * r 0 + 0) + 0) ((1 * ((1 * r 3 + 0) + 1) + 0) + 0) (g0 1) ∧ (g 2) = yq_sf ((1 * r 0 + 0) + 0) ((1 * ((1 * r 3 + 0) + 1) + 0) + 0) (g0 2) ∧ (g 3) = yq_sf ((1 * r 0 + 0) + 0) ((1 * ((1 * r 3 + 0) + 1) + 0) + 0) (g0 3) ∧ (g 4) = yq_sf ((1 * r 0 + 0) + 0) ((1 * ((1 * r 3 + 0) + 1) + 0) + 0) (g0 4) ∧ ((1 * r 0 + 0) + 0) ≤ ((1 * ((1 * r 3 + 0) + 1) + 0) + 0) ∧ ((1 * ((1 * r 3 + 0) + 1) + 0) + 0) ≤ ((1 * r 1 + 0) + 0) - 1
    try simp only [Int.one_mul, Int.zero_add, Int.add_zero]
    try simp only [Int.one_mul, Int.zero_add, Int.add_zero] at hG
    obtain ⟨a0, a1, a2, a3, a4, a5⟩ := hG
    try simp only [Int.one_mul, Int.zero_add, Int.add_zero] at e0 e2 e4 e6
    rw [e6, yq_gup_ne (by decide)] at e5
    rw [e4, yq_gup_ne (by decide), e6, yq_gup_ne (by decide)] at e3
    rw [e2, yq_gup_ne (by decide), e4, yq_gup_ne (by decide), e6, yq_gup_ne (by decide)] at e1
    refine ⟨?_, ?_, ?_, ?_, by omega, by omega⟩
    · rw [e0, yq_gup_ne (by decide), e2, yq_gup_ne (by decide), e4, yq_gup_ne (by decide), e6, yq_gup_self, e7, a0]
      exact yq_sf_s (by omega) (by omega) (by omega)
    · rw [e0, yq_gup_ne (by decide), e2, yq_gup_ne (by decide), e4, yq_gup_self, e6, yq_gup_ne (by decide), e5, a1]
      exact yq_sf_s (by omega) (by omega) (by omega)
    · rw [e0, yq_gup_ne (by decide), e2, yq_gup_self, e4, yq_gup_ne (by decide), e6, yq_gup_ne (by decide), e3, a2]
      exact yq_sf_s (by omega) (by omega) (by omega)
    · rw [e0, yq_gup_self, e2, yq_gup_ne (by decide), e4, yq_gup_ne (by decide), e6, yq_gup_ne (by decide), e1, a3]
      exact yq_sf_s (by omega) (by omega) (by omega)
theorem xn_49 : ∀ (j : Nat) (q : Nat × yt_T), xq_49.2.2.1[j]? = some q → q.2.2.2 = false → ∀ g0 r g, xG_49 j g0 r g
  | 0, q, hq, hf => by cases hq; cases hf
  | n + 1, q, hq, _ => by cases hq
theorem xs_49 : ∀ j, xq_49.2.2.2.getD j false = false → ∀ r g g', xP_49 j r g g'
  | 0, hf => fun _ _ _ => trivial
  | 1, hf => by cases hf
  | 2, hf => fun _ _ _ => trivial
  | n + 3, _ => fun _ _ _ => trivial
theorem xc_49 {l : Launch} {D : va_G} {cT : Nat → ClassId} {tys : List (ClassId × FieldType)} (hty : yx_Ty tys cT) : yt_Con l D vwCl cT tys yG yw_s37 xk_49 xR_49 xP_49 := yx_sem (calls := xa_49) (Z := xq_49) (tb := xT_49) (pt := xU_49) (Ga := xG_49) (vs := xv_49) (fun _ _ _ h => h) 300 (by decide +kernel) yz_X6_remove_ok hty (yl_lkX6 _) (yl_cqkX6 _) (List.forall_mem_cons.mpr ⟨⟨xc_48 hty, yg_CLv rfl rfl rfl yl_wX6_35 yd_yX6_has, fun _ _ _ => trivial⟩, fun _ h => absurd h List.not_mem_nil⟩) (xn_49) (xs_49) (by decide +kernel) (List.forall_mem_cons.mpr ⟨xw_49_0_0, fun _ h => absurd h List.not_mem_nil⟩) (⟨List.forall_mem_cons.mpr ⟨xw_49_1_0, List.forall_mem_cons.mpr ⟨xw_49_1_1, fun _ h => absurd h List.not_mem_nil⟩⟩, trivial⟩)
noncomputable def yw_s38 : List ys_C := [.inl 11, .inl 6, .inr (0, 40, []), .inr (0, 40, []), .inr (0, 40, []), .inr (0, 40, [])]
noncomputable def yw_f38 (n : Nat) : List (List ys_V) := [[.inr (some 1), .inr (some 6), .inr (some 7), .inr (some 8), .inr (some 9), .inr (some 10), .inr (some 11), .inr (some 12), .inr (some 13), .inr (some 14), .inr (some 15), .inr (some 16), .inr (some 17), .inr (some 18), .inl (.inl ([(n + 0, 1)], 0))], [.inr (some 2), .inr (some 3), .inr (some 4), .inr (some 5), .inl (.inl ([(n + 1, 1)], 0)), .inl (.inl ([(n + 2, 1)], 0))], [], [], [], []]
noncomputable def yw_e38 : ys_E := [((-2147483648), 2147483647), (0, 40), ((-2147483648), 2147483647)]
noncomputable def yw_r38 : List ys_R := [((0, 0), []), ((0, 0), []), (((-300), 300), []), (((-300), 300), []), ((0, 1), []), ((0, 1000), [])]
noncomputable def xf_50 : ys_F := (yw_f38 1, yw_r38)
noncomputable def xk_50 : ys_K := (((yX11_drop, cX11_drop, 2, (some .int)), (2, 43)), ([.inr (some 0), .inl (.inl ([(0, 1)], 0))], ([((-2147483648), 2147483647)] ++ yw_e38, []), xf_50), ([([((-1), 39), ((-2147483648), 0), (0, 40), ((-2147483648), 2147483647)], [], ((ys_fs xf_50.1 [(0, 14, .inl (.inl ([(5, 1)], 0))), (1, 4, .inl (.inl ([(6, 1)], 0))), (1, 5, .inl (.inl ([(7, 1)], 0)))]), xf_50.2), some (.inl (.inl ([(4, 1)], 0))))], [2, 3, 4, 5]))
noncomputable def xq_50 : yt_Q := (yz_X11_drop, (yl_flX11, yl_ciX11, yl_cjX11, yl_cpX11, yl_cqX11), [], [true])
noncomputable def xa_50 : List yt_CE := [(((118, false), (0, false, [1, 2, 3, 4, 5])), (yw_s36, xk_48)), (((134, false), (132, false, [1, 2, 3, 4, 5])), (yw_s37, xk_49)), (((107, false), (0, false, [0, 1, 6, 7, 8, 9, 10, 11, 12, 13, 14, 15, 16, 17, 18])), (yw_s3, xk_3))]
noncomputable def xv_50 : List (List yt_VC) := [[(1000, ([((-2147483648), (-1)), ((-2147483648), 2147483647), (0, 40), ((-2147483648), 2147483647), ((-2147483648), 0)], []), [([], (-1)), ([(4, 1)], 0), ([(2, 1)], 0), ([(3, 1)], 0)], [], []),
   (1000, ([(0, 2147483647), ((-2147483648), 2147483647), (0, 40), ((-2147483648), 2147483647), ((-2147483648), 0)], [([(2, (-1)), (0, 1)], 0)]), [([], (-1)), ([(4, 1)], 0), ([(2, 1)], 0), ([(3, 1)], 0)], [], []),
   (1000, ([(0, 39), ((-2147483648), 2147483647), (1, 40), ((-2147483648), 2147483647), ((-2147483648), 2147483647), ((-2147483648), 0)], [([(2, 1), (0, (-1))], (-1)), ([(2, 1), (0, (-1))], (-1))]), [([(2, 1)], (-1)), ([(5, 1)], 0), ([(2, 1)], (-1)), ([(4, 1)], 0)], [], [.inr (.inr (.inl (132, 1, [([(0, 1)], 0), ([(2, 1)], 0), ([(3, 1)], 0), ([(4, 1)], 0)], [1, 2, 3, 4, 5], [2, 3, 4, 5])))]),
   (1000, ([(1, 39), ((-2147483648), 2147483647), (1, 39), ((-2147483648), 2147483647), ((-2147483648), 0)], [([(2, (-1)), (0, 1)], 0), ([(2, 1), (0, (-1))], (-1))]), [([(2, 1)], 0), ([(4, 1)], 0), ([(2, 1)], 0), ([(3, 1)], 0)], [], [.inr (.inr (.inl (132, 2, [([(0, 1)], 0), ([(2, 1)], 0), ([(3, 1)], 0)], [1, 2, 3, 4, 5], [2, 3, 4, 5])))])]]
noncomputable def xG_50 : Nat → yt_G → (Nat → Int) → yt_G → Prop
  | _, _, _, _ => True
noncomputable def xP_50 : yt_Ph
  | 0, r, g0, g => (((r 4) = yq_drr (r 0) ((1 * (r 2) + 0) + 0) ∧ ((1 * (r 6) + 0) + 0) = yq_drm (r 0) ((1 * (r 2) + 0) + 0)) ∧ (g 2) = yq_dp (r 0) ((1 * (r 2) + 0) + 0) (g0 2) ∧ (g 3) = yq_dp (r 0) ((1 * (r 2) + 0) + 0) (g0 3) ∧ (g 4) = yq_dp (r 0) ((1 * (r 2) + 0) + 0) (g0 4) ∧ (g 5) = yq_dp (r 0) ((1 * (r 2) + 0) + 0) (g0 5)) ∧ ((1 * (r 7) + 0) + 0) = ye_wr ((1 * (r 3) + 0) + 0) (((1 * (r 2) + 0) + 0) - ((1 * (r 6) + 0) + 0))
  | _, _, _, _ => True
noncomputable def xR_50 : yt_Ps := fun r g0 => True
noncomputable def xT_50 : yt_Tb := fun d => match d with
  | 132 => xP_49
  | _ => fun _ _ _ _ => True
noncomputable def xU_50 : Nat → yt_Ps := fun d => match d with
  | 132 => xR_49
  | _ => fun _ _ => True
theorem xw_50_0_0 : yt_hold xT_50 xk_50 xq_50.2.2.1 xG_50 xP_50 xU_50 4 xk_50.2.1.2.2.2 (fun g0 r g => xR_50 r g0 ∧ g = g0) (1000, ([((-2147483648), (-1)), ((-2147483648), 2147483647), (0, 40), ((-2147483648), 2147483647), ((-2147483648), 0)], []), [([], (-1)), ([(4, 1)], 0), ([(2, 1)], 0), ([(3, 1)], 0)], [], []) := by
  intro g0 r gi g hok hh hars hfr hG
  have b0 : (-2147483648) ≤ r 0 ∧ r 0 ≤ (-1) := hok.1 0 ((-2147483648), (-1)) rfl
  have b2 : 0 ≤ r 2 ∧ r 2 ≤ 40 := hok.1 2 (0, 40) rfl
  have b3 : (-2147483648) ≤ r 3 ∧ r 3 ≤ 2147483647 := hok.1 3 ((-2147483648), 2147483647) rfl
  have b4 : (-2147483648) ≤ r 4 ∧ r 4 ≤ 0 := hok.1 4 ((-2147483648), 0) rfl
  obtain ⟨hG, hgi⟩ := hG
  have hG : True := hG
  have hh : g = gi := hh
  subst hh
  refine yt_dalt (by decide) (by decide) ?_
  rw [show xk_50.2.1.2.1.1.length = 4 from rfl]
  show ((((0 : Int) + (-1)) = yq_drr ((1 * r 0 + 0) + 0) ((1 * ((1 * r 2 + 0) + 0) + 0) + 0) ∧ ((1 * ((1 * r 2 + 0) + 0) + 0) + 0) = yq_drm ((1 * r 0 + 0) + 0) ((1 * ((1 * r 2 + 0) + 0) + 0) + 0)) ∧ (g 2) = yq_dp ((1 * r 0 + 0) + 0) ((1 * ((1 * r 2 + 0) + 0) + 0) + 0) (g0 2) ∧ (g 3) = yq_dp ((1 * r 0 + 0) + 0) ((1 * ((1 * r 2 + 0) + 0) + 0) + 0) (g0 3) ∧ (g 4) = yq_dp ((1 * r 0 + 0) + 0) ((1 * ((1 * r 2 + 0) + 0) + 0) + 0) (g0 4) ∧ (g 5) = yq_dp ((1 * r 0 + 0) + 0) ((1 * ((1 * r 2 + 0) + 0) + 0) + 0) (g0 5)) ∧ ((1 * ((1 * r 3 + 0) + 0) + 0) + 0) = ye_wr ((1 * ((1 * r 3 + 0) + 0) + 0) + 0) (((1 * ((1 * r 2 + 0) + 0) + 0) + 0) - ((1 * ((1 * r 2 + 0) + 0) + 0) + 0))
  try simp only [Int.one_mul, Int.zero_add, Int.add_zero]
  refine ⟨?_, ?_⟩
  · refine ⟨?_, ?_⟩
    · refine ⟨?_, ?_⟩
      · unfold yq_drr
        repeat' split
        all_goals omega
      · unfold yq_drm
        repeat' split
        all_goals omega
    · refine ⟨?_, ?_, ?_, ?_⟩
      · unfold yq_dp
        rw [if_neg (by omega)]
        rw [hgi]
      · unfold yq_dp
        rw [if_neg (by omega)]
        rw [hgi]
      · unfold yq_dp
        rw [if_neg (by omega)]
        rw [hgi]
      · unfold yq_dp
        rw [if_neg (by omega)]
        rw [hgi]
  · exact (ye_w0 (by omega) (by omega)).symm.trans (congrArg (ye_wr _) (show (0 : Int) = _ by omega))
theorem xw_50_0_1 : yt_hold xT_50 xk_50 xq_50.2.2.1 xG_50 xP_50 xU_50 4 xk_50.2.1.2.2.2 (fun g0 r g => xR_50 r g0 ∧ g = g0) (1000, ([(0, 2147483647), ((-2147483648), 2147483647), (0, 40), ((-2147483648), 2147483647), ((-2147483648), 0)], [([(2, (-1)), (0, 1)], 0)]), [([], (-1)), ([(4, 1)], 0), ([(2, 1)], 0), ([(3, 1)], 0)], [], []) := by
  intro g0 r gi g hok hh hars hfr hG
  have b0 : 0 ≤ r 0 ∧ r 0 ≤ 2147483647 := hok.1 0 (0, 2147483647) rfl
  have b2 : 0 ≤ r 2 ∧ r 2 ≤ 40 := hok.1 2 (0, 40) rfl
  have b3 : (-2147483648) ≤ r 3 ∧ r 3 ≤ 2147483647 := hok.1 3 ((-2147483648), 2147483647) rfl
  have b4 : (-2147483648) ≤ r 4 ∧ r 4 ≤ 0 := hok.1 4 ((-2147483648), 0) rfl
  have f0 : 0 ≤ (((-1) * r 2 + (1 * r 0 + 0)) + 0) := hok.2 _ (List.mem_of_getElem? (i := 0) rfl)
  obtain ⟨hG, hgi⟩ := hG
  have hG : True := hG
  have hh : g = gi := hh
  subst hh
  refine yt_dalt (by decide) (by decide) ?_
  rw [show xk_50.2.1.2.1.1.length = 4 from rfl]
  show ((((0 : Int) + (-1)) = yq_drr ((1 * r 0 + 0) + 0) ((1 * ((1 * r 2 + 0) + 0) + 0) + 0) ∧ ((1 * ((1 * r 2 + 0) + 0) + 0) + 0) = yq_drm ((1 * r 0 + 0) + 0) ((1 * ((1 * r 2 + 0) + 0) + 0) + 0)) ∧ (g 2) = yq_dp ((1 * r 0 + 0) + 0) ((1 * ((1 * r 2 + 0) + 0) + 0) + 0) (g0 2) ∧ (g 3) = yq_dp ((1 * r 0 + 0) + 0) ((1 * ((1 * r 2 + 0) + 0) + 0) + 0) (g0 3) ∧ (g 4) = yq_dp ((1 * r 0 + 0) + 0) ((1 * ((1 * r 2 + 0) + 0) + 0) + 0) (g0 4) ∧ (g 5) = yq_dp ((1 * r 0 + 0) + 0) ((1 * ((1 * r 2 + 0) + 0) + 0) + 0) (g0 5)) ∧ ((1 * ((1 * r 3 + 0) + 0) + 0) + 0) = ye_wr ((1 * ((1 * r 3 + 0) + 0) + 0) + 0) (((1 * ((1 * r 2 + 0) + 0) + 0) + 0) - ((1 * ((1 * r 2 + 0) + 0) + 0) + 0))
  try simp only [Int.one_mul, Int.zero_add, Int.add_zero]
  refine ⟨?_, ?_⟩
  · refine ⟨?_, ?_⟩
    · refine ⟨?_, ?_⟩
      · unfold yq_drr
        repeat' split
        all_goals omega
      · unfold yq_drm
        repeat' split
        all_goals omega
    · refine ⟨?_, ?_, ?_, ?_⟩
      · unfold yq_dp
        rw [if_neg (by omega)]
        rw [hgi]
      · unfold yq_dp
        rw [if_neg (by omega)]
        rw [hgi]
      · unfold yq_dp
        rw [if_neg (by omega)]
        rw [hgi]
      · unfold yq_dp
        rw [if_neg (by omega)]
        rw [hgi]
  · exact (ye_w0 (by omega) (by omega)).symm.trans (congrArg (ye_wr _) (show (0 : Int) = _ by omega))
theorem xw_50_0_2 : yt_hold xT_50 xk_50 xq_50.2.2.1 xG_50 xP_50 xU_50 4 xk_50.2.1.2.2.2 (fun g0 r g => xR_50 r g0 ∧ g = g0) (1000, ([(0, 39), ((-2147483648), 2147483647), (1, 40), ((-2147483648), 2147483647), ((-2147483648), 2147483647), ((-2147483648), 0)], [([(2, 1), (0, (-1))], (-1)), ([(2, 1), (0, (-1))], (-1))]), [([(2, 1)], (-1)), ([(5, 1)], 0), ([(2, 1)], (-1)), ([(4, 1)], 0)], [], [.inr (.inr (.inl (132, 1, [([(0, 1)], 0), ([(2, 1)], 0), ([(3, 1)], 0), ([(4, 1)], 0)], [1, 2, 3, 4, 5], [2, 3, 4, 5])))]) := by
  intro g0 r gi g hok hh hars hfr hG
  have b0 : 0 ≤ r 0 ∧ r 0 ≤ 39 := hok.1 0 (0, 39) rfl
  have b2 : 1 ≤ r 2 ∧ r 2 ≤ 40 := hok.1 2 (1, 40) rfl
  have b3 : (-2147483648) ≤ r 3 ∧ r 3 ≤ 2147483647 := hok.1 3 ((-2147483648), 2147483647) rfl
  have b4 : (-2147483648) ≤ r 4 ∧ r 4 ≤ 2147483647 := hok.1 4 ((-2147483648), 2147483647) rfl
  have b5 : (-2147483648) ≤ r 5 ∧ r 5 ≤ 0 := hok.1 5 ((-2147483648), 0) rfl
  have f0 : 0 ≤ ((1 * r 2 + ((-1) * r 0 + 0)) + (-1)) := hok.2 _ (List.mem_of_getElem? (i := 0) rfl)
  have f1 : 0 ≤ ((1 * r 2 + ((-1) * r 0 + 0)) + (-1)) := hok.2 _ (List.mem_of_getElem? (i := 1) rfl)
  obtain ⟨hG, hgi⟩ := hG
  have hG : True := hG
  obtain ⟨h0, hh, e0, k0⟩ := hh
  have k0 : ∀ j, j ∉ [2, 3, 4, 5] → g j = h0 j := k0
  have e0 : ((g 2) = yq_sf ((1 * r 0 + 0) + 0) (((1 * r 2 + 0) + 0) - 1) (h0 2) ∧ (g 3) = yq_sf ((1 * r 0 + 0) + 0) (((1 * r 2 + 0) + 0) - 1) (h0 3) ∧ (g 4) = yq_sf ((1 * r 0 + 0) + 0) (((1 * r 2 + 0) + 0) - 1) (h0 4) ∧ (g 5) = yq_sf ((1 * r 0 + 0) + 0) (((1 * r 2 + 0) + 0) - 1) (h0 5)) ∧ ((1 * ((1 * r 4 + 0) + 0) + 0) + 0) = ye_wr ((1 * ((1 * r 3 + 0) + 0) + 0) + 0) 1 := e0
  have hh : h0 = gi := hh
  subst hh
  refine yt_dalt (by decide) (by decide) ?_
  rw [show xk_50.2.1.2.1.1.length = 4 from rfl]
  show ((((1 * r 2 + 0) + (-1)) = yq_drr ((1 * r 0 + 0) + 0) ((1 * ((1 * r 2 + 0) + 0) + 0) + 0) ∧ ((1 * ((1 * r 2 + 0) + (-1)) + 0) + 0) = yq_drm ((1 * r 0 + 0) + 0) ((1 * ((1 * r 2 + 0) + 0) + 0) + 0)) ∧ (g 2) = yq_dp ((1 * r 0 + 0) + 0) ((1 * ((1 * r 2 + 0) + 0) + 0) + 0) (g0 2) ∧ (g 3) = yq_dp ((1 * r 0 + 0) + 0) ((1 * ((1 * r 2 + 0) + 0) + 0) + 0) (g0 3) ∧ (g 4) = yq_dp ((1 * r 0 + 0) + 0) ((1 * ((1 * r 2 + 0) + 0) + 0) + 0) (g0 4) ∧ (g 5) = yq_dp ((1 * r 0 + 0) + 0) ((1 * ((1 * r 2 + 0) + 0) + 0) + 0) (g0 5)) ∧ ((1 * ((1 * r 4 + 0) + 0) + 0) + 0) = ye_wr ((1 * ((1 * r 3 + 0) + 0) + 0) + 0) (((1 * ((1 * r 2 + 0) + 0) + 0) + 0) - ((1 * ((1 * r 2 + 0) + (-1)) + 0) + 0))
  try simp only [Int.one_mul, Int.zero_add, Int.add_zero]
  refine ⟨?_, ?_⟩
  · refine ⟨?_, ?_⟩
    · refine ⟨?_, ?_⟩
      · unfold yq_drr
        repeat' split
        all_goals omega
      · unfold yq_drm
        repeat' split
        all_goals omega
    · try simp only [Int.one_mul, Int.zero_add, Int.add_zero] at e0
      obtain ⟨⟨m0, m1, m2, m3⟩, mc⟩ := e0
      refine ⟨?_, ?_, ?_, ?_⟩
      · unfold yq_dp
        rw [if_pos (by omega), m0, hgi]
      · unfold yq_dp
        rw [if_pos (by omega), m1, hgi]
      · unfold yq_dp
        rw [if_pos (by omega), m2, hgi]
      · unfold yq_dp
        rw [if_pos (by omega), m3, hgi]
  · try simp only [Int.one_mul, Int.zero_add, Int.add_zero] at e0
    exact e0.2.trans (congrArg (ye_wr _) (show (1 : Int) = _ by omega))
theorem xw_50_0_3 : yt_hold xT_50 xk_50 xq_50.2.2.1 xG_50 xP_50 xU_50 4 xk_50.2.1.2.2.2 (fun g0 r g => xR_50 r g0 ∧ g = g0) (1000, ([(1, 39), ((-2147483648), 2147483647), (1, 39), ((-2147483648), 2147483647), ((-2147483648), 0)], [([(2, (-1)), (0, 1)], 0), ([(2, 1), (0, (-1))], (-1))]), [([(2, 1)], 0), ([(4, 1)], 0), ([(2, 1)], 0), ([(3, 1)], 0)], [], [.inr (.inr (.inl (132, 2, [([(0, 1)], 0), ([(2, 1)], 0), ([(3, 1)], 0)], [1, 2, 3, 4, 5], [2, 3, 4, 5])))]) := by
  intro g0 r gi g hok hh hars hfr hG
  have b0 : 1 ≤ r 0 ∧ r 0 ≤ 39 := hok.1 0 (1, 39) rfl
  have b2 : 1 ≤ r 2 ∧ r 2 ≤ 39 := hok.1 2 (1, 39) rfl
  have b3 : (-2147483648) ≤ r 3 ∧ r 3 ≤ 2147483647 := hok.1 3 ((-2147483648), 2147483647) rfl
  have b4 : (-2147483648) ≤ r 4 ∧ r 4 ≤ 0 := hok.1 4 ((-2147483648), 0) rfl
  have f0 : 0 ≤ (((-1) * r 2 + (1 * r 0 + 0)) + 0) := hok.2 _ (List.mem_of_getElem? (i := 0) rfl)
  have f1 : 0 ≤ ((1 * r 2 + ((-1) * r 0 + 0)) + (-1)) := hok.2 _ (List.mem_of_getElem? (i := 1) rfl)
  obtain ⟨hG, hgi⟩ := hG
  have hG : True := hG
  obtain ⟨h0, hh, e0, k0⟩ := hh
  have k0 : ∀ j, j ∉ [2, 3, 4, 5] → g j = h0 j := k0
  have hh : h0 = gi := hh
  subst hh
  refine yt_dalt (by decide) (by decide) ?_
  rw [show xk_50.2.1.2.1.1.length = 4 from rfl]
  show ((((1 * r 2 + 0) + 0) = yq_drr ((1 * r 0 + 0) + 0) ((1 * ((1 * r 2 + 0) + 0) + 0) + 0) ∧ ((1 * ((1 * r 2 + 0) + 0) + 0) + 0) = yq_drm ((1 * r 0 + 0) + 0) ((1 * ((1 * r 2 + 0) + 0) + 0) + 0)) ∧ (g 2) = yq_dp ((1 * r 0 + 0) + 0) ((1 * ((1 * r 2 + 0) + 0) + 0) + 0) (g0 2) ∧ (g 3) = yq_dp ((1 * r 0 + 0) + 0) ((1 * ((1 * r 2 + 0) + 0) + 0) + 0) (g0 3) ∧ (g 4) = yq_dp ((1 * r 0 + 0) + 0) ((1 * ((1 * r 2 + 0) + 0) + 0) + 0) (g0 4) ∧ (g 5) = yq_dp ((1 * r 0 + 0) + 0) ((1 * ((1 * r 2 + 0) + 0) + 0) + 0) (g0 5)) ∧ ((1 * ((1 * r 3 + 0) + 0) + 0) + 0) = ye_wr ((1 * ((1 * r 3 + 0) + 0) + 0) + 0) (((1 * ((1 * r 2 + 0) + 0) + 0) + 0) - ((1 * ((1 * r 2 + 0) + 0) + 0) + 0))
  try simp only [Int.one_mul, Int.zero_add, Int.add_zero]
  refine ⟨?_, ?_⟩
  · refine ⟨?_, ?_⟩
    · refine ⟨?_, ?_⟩
      · unfold yq_drr
        repeat' split
        all_goals omega
      · unfold yq_drm
        repeat' split
        all_goals omega
    · exfalso
      omega
  · exfalso
    omega
theorem xn_50 : ∀ (j : Nat) (q : Nat × yt_T), xq_50.2.2.1[j]? = some q → q.2.2.2 = false → ∀ g0 r g, xG_50 j g0 r g
  | n + 0, q, hq, _ => by cases hq
theorem xs_50 : ∀ j, xq_50.2.2.2.getD j false = false → ∀ r g g', xP_50 j r g g'
  | 0, hf => by cases hf
  | n + 1, _ => fun _ _ _ => trivial
theorem xc_50 {l : Launch} {D : va_G} {cT : Nat → ClassId} {tys : List (ClassId × FieldType)} (hty : yx_Ty tys cT) : yt_Con l D vwCl cT tys yG yw_s38 xk_50 xR_50 xP_50 := yx_sem (calls := xa_50) (Z := xq_50) (tb := xT_50) (pt := xU_50) (Ga := xG_50) (vs := xv_50) (fun _ _ _ _ => trivial) 300 (by decide +kernel) yz_X11_drop_ok hty (yl_lkX11 _) (yl_cqkX11 _) (List.forall_mem_cons.mpr ⟨⟨xc_48 hty, yg_CLv rfl rfl rfl yl_wX11_118 yd_yX6_has, fun _ _ _ => trivial⟩, List.forall_mem_cons.mpr ⟨⟨xc_49 hty, yg_CLv rfl rfl rfl yl_wX11_134 yd_yX6_remove, fun _ _ _ => trivial⟩, List.forall_mem_cons.mpr ⟨⟨xc_3 hty, yg_CLv rfl rfl rfl yl_wX11_107 yd_yX11_told, fun _ _ _ => trivial⟩, fun _ h => absurd h List.not_mem_nil⟩⟩⟩) (xn_50) (xs_50) (by decide +kernel) (List.forall_mem_cons.mpr ⟨xw_50_0_0, List.forall_mem_cons.mpr ⟨xw_50_0_1, List.forall_mem_cons.mpr ⟨xw_50_0_2, List.forall_mem_cons.mpr ⟨xw_50_0_3, fun _ h => absurd h List.not_mem_nil⟩⟩⟩⟩) (trivial)
noncomputable def yw_s39 : List ys_C := [.inl 11, .inl 9]
noncomputable def yw_f39 (n : Nat) : List (List ys_V) := [[.inr (some 2), .inr (some 3), .inr (some 4), .inr (some 5), .inr (some 6), .inr (some 7), .inr (some 8), .inr (some 9), .inr (some 10), .inr (some 11), .inr (some 12), .inr (some 1), .inr (some 22), .inr (some 23), .inl (.inl ([(n + 0, 1)], 0))], [.inr (some 13), .inr (some 14), .inr (some 15), .inr (some 16), .inr (some 17), .inr (some 18), .inl (.inl ([(n + 1, 1)], 0)), .inl (.inl ([(n + 2, 1)], 0)), .inl (.inl ([(n + 3, 1)], 0)), .inr (some 19), .inr (some 20), .inr (some 21), .inl (.inl ([(n + 4, 1)], 0)), .inl (.inl ([(n + 5, 1)], 0)), .inl (.inl ([(n + 6, 1)], 0)), .inl (.inr ([(n + 7, 1)], 0)), .inl (.inr ([(n + 8, 1)], 0))]]
noncomputable def yw_e39 : ys_E := [((-2147483648), 2147483647), (0, 40), (0, 12), ((-2147483648), 2147483647), ((-2147483648), 2147483647), ((-2147483648), 2147483647), ((-2147483648), 2147483647), ((-9223372036854775808), 9223372036854775807), ((-9223372036854775808), 9223372036854775807)]
noncomputable def yw_r39 : List ys_R := [((0, 0), []), ((0, 0), [])]
noncomputable def xf_51 : ys_F := (yw_f39 0, yw_r39)
noncomputable def xk_51 : ys_K := (((yX11_end, cX11_end, 1, (some .int)), (0, 0)), ([.inr (some 0)], ([] ++ yw_e39, []), xf_51), ([([], [], (xf_51.1, xf_51.2), some (.inl (.inl ([(3, 1)], 0))))], []))
noncomputable def xq_51 : yt_Q := (yz_X11_end, (yl_flX11, yl_ciX11, yl_cjX11, yl_cpX11, yl_cqX11), [], [])
noncomputable def xa_51 : List yt_CE := []
theorem xc_51 {l : Launch} {D : va_G} {cT : Nat → ClassId} {tys : List (ClassId × FieldType)} (hty : yx_Ty tys cT) : yx_C l D cT tys yw_s39 xk_51 := yx_method (calls := xa_51) (Z := xq_51) 300 (by decide +kernel) yz_X11_end_ok hty (yl_lkX11 _) (yl_cqkX11 _) (fun _ h => absurd h List.not_mem_nil) (by decide +kernel)
noncomputable def xf_52 : ys_F := (yw_f2 5, yw_r2)
noncomputable def xk_52 : ys_K := (((yX2_heightAbove, cX2_heightAbove, 8, (some .long)), (0, 0)), ([.inl (.inr ([(0, 1)], 0)), .inl (.inr ([(1, 1)], 0)), .inl (.inr ([(2, 1)], 0)), .inl (.inl ([(3, 1)], 0)), .inl (.inl ([(4, 1)], 0))], ([((-9223372036854775808), 9223372036854775807), ((-9223372036854775808), 9223372036854775807), ((-9223372036854775808), 9223372036854775807), ((-2147483648), 2147483647), ((-2147483648), 2147483647)] ++ yw_e2, []), xf_52), ([([((-9223372036854775808), 9223372036854775807)], [], (xf_52.1, xf_52.2), some (.inl (.inr ([(5, 1)], 0))))], []))
noncomputable def xq_52 : yt_Q := (yz_X2_heightAbove, (yl_flX2, yl_ciX2, yl_cjX2, yl_cpX2, yl_cqX2), [], [])
noncomputable def xa_52 : List yt_CE := []
theorem xc_52 {l : Launch} {D : va_G} {cT : Nat → ClassId} {tys : List (ClassId × FieldType)} (hty : yx_Ty tys cT) : yx_C l D cT tys yw_s2 xk_52 := yx_method (calls := xa_52) (Z := xq_52) 300 (by decide +kernel) yz_X2_heightAbove_ok hty (yl_lkX2 _) (yl_cqkX2 _) (fun _ h => absurd h List.not_mem_nil) (by decide +kernel)
noncomputable def yw_s40 : List ys_C := [.inl 2, .inr (0, 12, []), .inr (0, 12, []), .inr (0, 12, [])]
noncomputable def yw_f40 (n : Nat) : List (List ys_V) := [[.inl (.inl ([(n + 0, 1)], 0)), .inl (.inl ([(n + 1, 1)], 0)), .inr (some 1), .inr (some 2), .inr (some 3)], [], [], []]
noncomputable def yw_e40 : ys_E := [(0, 12), ((-2147483648), 2147483647)]
noncomputable def yw_r40 : List ys_R := [((0, 0), []), (((-2147483648), 2147483647), []), (((-2147483648), 2147483647), []), (((-2147483648), 2147483647), [])]
noncomputable def xf_53 : ys_F := (yw_f40 3, yw_r40)
noncomputable def xk_53 : ys_K := (((yX2_sayers, cX2_sayers, 8, (some .int)), (1, 27)), ([.inr (some 0), .inl (.inl ([(0, 1)], 0)), .inl (.inl ([(1, 1)], 0)), .inl (.inl ([(2, 1)], 0))], ([((-2147483648), 2147483647), ((-2147483648), 2147483647), ((-2147483648), 2147483647)] ++ yw_e40, []), xf_53), ([([(0, 4095)], [], (xf_53.1, xf_53.2), some (.inl (.inl ([(5, 1)], 0))))], []))
noncomputable def xq_53 : yt_Q := (yz_X2_sayers, (yl_flX2, yl_ciX2, yl_cjX2, yl_cpX2, yl_cqX2), [(6, ([(0, 4095), (0, 12)], [], (xf_53.1, xf_53.2), [(0, .inr (some 0)), (1, .inl (.inl ([(0, 1)], 0))), (2, .inl (.inl ([(1, 1)], 0))), (3, .inl (.inl ([(2, 1)], 0))), (4, .inl (.inl ([(5, 1)], 0))), (5, .inl (.inl ([(6, 1)], 0)))], [], ([(6, (-1))], 12)), [], false)], [])
noncomputable def xa_53 : List yt_CE := [(((62, true), (0, false, [])), (yw_s2, xk_52))]
theorem xc_53 {l : Launch} {D : va_G} {cT : Nat → ClassId} {tys : List (ClassId × FieldType)} (hty : yx_Ty tys cT) : yx_C l D cT tys yw_s40 xk_53 := yx_method (calls := xa_53) (Z := xq_53) 300 (by decide +kernel) yz_X2_sayers_ok hty (yl_lkX2 _) (yl_cqkX2 _) (List.forall_mem_cons.mpr ⟨⟨xc_52 hty, yg_CLs yl_wX2_62 yd_yX2_heightAbove⟩, fun _ h => absurd h List.not_mem_nil⟩) (by decide +kernel)
noncomputable def xf_54 : ys_F := (yw_f2 1, yw_r2)
noncomputable def xk_54 : ys_K := (((yJ6_bitCount_0f7a4, cJ6_bitCount_0f7a4, 1, (some .int)), (0, 0)), ([.inl (.inl ([(0, 1)], 0))], ([((-2147483648), 2147483647)] ++ yw_e2, []), xf_54), ([([(0, 63)], [], (xf_54.1, xf_54.2), some (.inl (.inl ([(1, 1)], 0))))], []))
noncomputable def xq_54 : yt_Q := (yz_J6_bitCount_0f7a4, (yl_flJ6, yl_ciJ6, yl_cjJ6, yl_cpJ6, yl_cqJ6), [], [])
noncomputable def xa_54 : List yt_CE := []
theorem xc_54 {l : Launch} {D : va_G} {cT : Nat → ClassId} {tys : List (ClassId × FieldType)} (hty : yx_Ty tys cT) : yx_C l D cT tys yw_s2 xk_54 := yx_method (calls := xa_54) (Z := xq_54) 300 (by decide +kernel) yz_J6_bitCount_0f7a4_ok hty (yl_lkJ6 _) (yl_cqkJ6 _) (fun _ h => absurd h List.not_mem_nil) (by decide +kernel)
noncomputable def yw_s41 : List ys_C := [.inl 2, .inr (0, 12, []), .inr (0, 12, []), .inr (0, 12, []), .inl 6, .inr (0, 40, []), .inr (0, 40, []), .inr (0, 40, [])]
noncomputable def yw_f41 (n : Nat) : List (List ys_V) := [[.inl (.inl ([(n + 0, 1)], 0)), .inl (.inl ([(n + 1, 1)], 0)), .inr (some 1), .inr (some 2), .inr (some 3)], [], [], [], [.inr (some 5), .inr (some 6), .inr (some 7), .inr (some 8), .inl (.inl ([(n + 2, 1)], 0)), .inl (.inl ([(n + 3, 1)], 0))], [], [], []]
noncomputable def yw_e41 : ys_E := [(0, 12), ((-2147483648), 2147483647), (0, 40), ((-2147483648), 2147483647)]
noncomputable def yw_r41 : List ys_R := [((0, 0), []), (((-2147483648), 2147483647), []), (((-2147483648), 2147483647), []), (((-2147483648), 2147483647), []), ((0, 0), []), (((-300), 300), []), (((-300), 300), []), ((0, 1), [])]
noncomputable def xf_55 : ys_F := (yw_f41 0, yw_r41)
noncomputable def xk_55 : ys_K := (((yX2_thin, cX2_thin, 6, (some .int)), (2, 54)), ([.inr (some 0), .inr (some 4)], ([] ++ yw_e41, []), xf_55), ([([((-2147483648), 2147483647), (0, 4095)], [], ((ys_fs xf_55.1 [(0, 1, .inl (.inl ([(5, 1)], 0)))]), xf_55.2), some (.inl (.inl ([(4, 1)], 0))))], []))
noncomputable def xq_55 : yt_Q := (yz_X2_thin, (yl_flX2, yl_ciX2, yl_cjX2, yl_cpX2, yl_cqX2), [(16, ([((-2147483648), 2147483647), (0, 40), (0, 4095)], [], ((ys_fs xf_55.1 [(0, 1, .inl (.inl ([(6, 1)], 0)))]), xf_55.2), [(0, .inr (some 0)), (1, .inr (some 4)), (2, .inl (.inl ([(4, 1)], 0))), (3, .inl (.inl ([(5, 1)], 0)))], [], ([(5, (-1))], 40)), [], false)], [])
noncomputable def xa_55 : List yt_CE := [(((49, false), (0, false, [0, 1, 2, 3])), (yw_s40, xk_53)), (((53, true), (0, false, [])), (yw_s2, xk_54))]
theorem xc_55 {l : Launch} {D : va_G} {cT : Nat → ClassId} {tys : List (ClassId × FieldType)} (hty : yx_Ty tys cT) : yx_C l D cT tys yw_s41 xk_55 := yx_method (calls := xa_55) (Z := xq_55) 300 (by decide +kernel) yz_X2_thin_ok hty (yl_lkX2 _) (yl_cqkX2 _) (List.forall_mem_cons.mpr ⟨⟨xc_53 hty, yg_CLv rfl rfl rfl yl_wX2_49 yd_yX2_sayers⟩, List.forall_mem_cons.mpr ⟨⟨xc_54 hty, yg_CLs yl_wX2_53 yd_yJ6_bitCount_0f7a4⟩, fun _ h => absurd h List.not_mem_nil⟩⟩) (by decide +kernel)
noncomputable def yw_s42 : List ys_C := [.inl 11, .inl 6, .inr (0, 40, []), .inr (0, 40, []), .inr (0, 40, []), .inl 2, .inr (0, 12, []), .inr (0, 12, []), .inr (0, 12, [])]
noncomputable def yw_f42 (n : Nat) : List (List ys_V) := [[.inr (some 1), .inr (some 5), .inr (some 10), .inr (some 11), .inr (some 12), .inr (some 13), .inr (some 14), .inr (some 15), .inr (some 16), .inr (some 17), .inr (some 18), .inr (some 19), .inr (some 20), .inr (some 21), .inl (.inl ([(n + 0, 1)], 0))], [.inr (some 2), .inr (some 3), .inr (some 4), .inr (some 9), .inl (.inl ([(n + 1, 1)], 0)), .inl (.inl ([(n + 2, 1)], 0))], [], [], [], [.inl (.inl ([(n + 3, 1)], 0)), .inl (.inl ([(n + 4, 1)], 0)), .inr (some 6), .inr (some 7), .inr (some 8)], [], [], []]
noncomputable def yw_e42 : ys_E := [((-2147483648), 2147483647), (0, 40), ((-2147483648), 2147483647), (0, 12), ((-2147483648), 2147483647)]
noncomputable def yw_r42 : List ys_R := [((0, 0), []), ((0, 0), []), (((-300), 300), []), (((-300), 300), []), ((0, 1), []), ((0, 0), []), (((-2147483648), 2147483647), []), (((-2147483648), 2147483647), []), (((-2147483648), 2147483647), [])]
noncomputable def xf_56 : ys_F := (yw_f42 0, yw_r42)
noncomputable def xk_56 : ys_K := (((yX11_halve, cX11_halve, 1, (some .int)), (3, 79)), ([.inr (some 0)], ([] ++ yw_e42, []), xf_56), ([([((-2147483648), 2147483647), ((-2147483648), 0), ((-2147483648), 2147483647)], [], ((ys_fs xf_56.1 [(0, 14, .inl (.inl ([(6, 1)], 0))), (5, 1, .inl (.inl ([(7, 1)], 0)))]), xf_56.2), some (.inl (.inl ([(5, 1)], 0))))], []))
noncomputable def xq_56 : yt_Q := (yz_X11_halve, (yl_flX11, yl_ciX11, yl_cjX11, yl_cpX11, yl_cqX11), [], [])
noncomputable def xa_56 : List yt_CE := [(((107, false), (0, false, [0, 1, 5, 10, 11, 12, 13, 14, 15, 16, 17, 18, 19, 20, 21])), (yw_s3, xk_3)), (((312, false), (0, false, [5, 6, 7, 8, 1, 2, 3, 4, 9])), (yw_s41, xk_55))]
theorem xc_56 {l : Launch} {D : va_G} {cT : Nat → ClassId} {tys : List (ClassId × FieldType)} (hty : yx_Ty tys cT) : yx_C l D cT tys yw_s42 xk_56 := yx_method (calls := xa_56) (Z := xq_56) 300 (by decide +kernel) yz_X11_halve_ok hty (yl_lkX11 _) (yl_cqkX11 _) (List.forall_mem_cons.mpr ⟨⟨xc_3 hty, yg_CLv rfl rfl rfl yl_wX11_107 yd_yX11_told⟩, List.forall_mem_cons.mpr ⟨⟨xc_55 hty, yg_CLv rfl rfl rfl yl_wX11_312 yd_yX2_thin⟩, fun _ h => absurd h List.not_mem_nil⟩⟩) (by decide +kernel)
noncomputable def xf_57 : ys_F := (yw_f17 4, yw_r17)
noncomputable def xk_57 : ys_K := (((yX7_isHalving, cX7_isHalving, 9, (some .boolean)), (1, 23)), ([.inr (some 0), .inl (.inl ([(0, 1)], 0)), .inl (.inl ([(1, 1)], 0)), .inl (.inl ([(2, 1)], 0)), .inl (.inl ([(3, 1)], 0))], ([(0, 39), (0, 39), (0, 39), (0, 100)] ++ yw_e17, []), xf_57), ([([], [], (xf_57.1, xf_57.2), some (.inl (.inl ([], 0)))), ([], [], (xf_57.1, xf_57.2), some (.inl (.inl ([], 1))))], []))
noncomputable def xq_57 : yt_Q := (yz_X7_isHalving, (yl_flX7, yl_ciX7, yl_cjX7, yl_cpX7, yl_cqX7), [(9, ([((-2147483648), 2147483647), ((-2147483648), 2147483647), (0, 40)], [], (xf_57.1, xf_57.2), [(0, .inr (some 0)), (1, .inl (.inl ([(0, 1)], 0))), (2, .inl (.inl ([(1, 1)], 0))), (3, .inl (.inl ([(2, 1)], 0))), (4, .inl (.inl ([(3, 1)], 0))), (5, .inl (.inl ([(6, 1)], 0))), (6, .inl (.inl ([(7, 1)], 0))), (7, .inl (.inl ([(8, 1)], 0)))], [], ([(8, (-1))], 40)), [], false)], [])
noncomputable def xa_57 : List yt_CE := [(((53, false), (181, false, [0, 1, 2, 3, 4])), (yw_s11, xk_13))]
noncomputable def xT_57 : yt_Tb := fun d => match d with
  | 181 => xP_13
  | _ => fun _ _ _ _ => True
theorem xc_57 {l : Launch} {D : va_G} {cT : Nat → ClassId} {tys : List (ClassId × FieldType)} (hty : yx_Ty tys cT) : yx_C l D cT tys yw_s17 xk_57 := yx_methodT (tb := xT_57) (fun _ _ _ _ => trivial) (calls := xa_57) (Z := xq_57) 300 (by decide +kernel) yz_X7_isHalving_ok hty (yl_lkX7 _) (yl_cqkX7 _) (List.forall_mem_cons.mpr ⟨⟨xc_13 hty, yg_CLv rfl rfl rfl yl_wX7_53 yd_yX6_turn⟩, fun _ h => absurd h List.not_mem_nil⟩) (by decide +kernel)
noncomputable def xf_58 : ys_F := (yw_f17 4, yw_r17)
noncomputable def xk_58 : ys_K := (((yX7_isHalving, cX7_isHalving, 9, (some .boolean)), (1, 23)), ([.inr (some 0), .inl (.inl ([(0, 1)], 0)), .inl (.inl ([(1, 1)], 0)), .inl (.inl ([(2, 1)], 0)), .inl (.inl ([(3, 1)], 0))], ([(0, 39), (0, 39), (0, 39), ((-2147483648), 2147483647)] ++ yw_e17, []), xf_58), ([([], [([(3, (-1))], 2147483646)], (xf_58.1, xf_58.2), some (.inl (.inl ([], 0)))), ([], [], (xf_58.1, xf_58.2), some (.inl (.inl ([], 1))))], []))
noncomputable def xq_58 : yt_Q := (yz_X7_isHalving, (yl_flX7, yl_ciX7, yl_cjX7, yl_cpX7, yl_cqX7), [(9, ([((-2147483648), 2147483647), ((-2147483648), 2147483647), (0, 40)], [], (xf_58.1, xf_58.2), [(0, .inr (some 0)), (1, .inl (.inl ([(0, 1)], 0))), (2, .inl (.inl ([(1, 1)], 0))), (3, .inl (.inl ([(2, 1)], 0))), (4, .inl (.inl ([(3, 1)], 0))), (5, .inl (.inl ([(6, 1)], 0))), (6, .inl (.inl ([(7, 1)], 0))), (7, .inl (.inl ([(8, 1)], 0)))], [], ([(8, (-1))], 40)), [], false)], [])
noncomputable def xa_58 : List yt_CE := [(((53, false), (181, false, [0, 1, 2, 3, 4])), (yw_s11, xk_13))]
noncomputable def xT_58 : yt_Tb := fun d => match d with
  | 181 => xP_13
  | _ => fun _ _ _ _ => True
theorem xc_58 {l : Launch} {D : va_G} {cT : Nat → ClassId} {tys : List (ClassId × FieldType)} (hty : yx_Ty tys cT) : yx_C l D cT tys yw_s17 xk_58 := yx_methodT (tb := xT_58) (fun _ _ _ _ => trivial) (calls := xa_58) (Z := xq_58) 300 (by decide +kernel) yz_X7_isHalving_ok hty (yl_lkX7 _) (yl_cqkX7 _) (List.forall_mem_cons.mpr ⟨⟨xc_13 hty, yg_CLv rfl rfl rfl yl_wX7_53 yd_yX6_turn⟩, fun _ h => absurd h List.not_mem_nil⟩) (by decide +kernel)
noncomputable def xf_59 : ys_F := (yw_f17 0, yw_r17)
noncomputable def xk_59 : ys_K := (((yX7_firstHalving, cX7_firstHalving, 5, (some .int)), (2, 51)), ([.inr (some 0)], ([] ++ yw_e17, []), xf_59), ([([((-1), 3939)], [], (xf_59.1, xf_59.2), some (.inl (.inl ([(2, 1)], 0))))], []))
noncomputable def xq_59 : yt_Q := (yz_X7_firstHalving, (yl_flX7, yl_ciX7, yl_cjX7, yl_cpX7, yl_cqX7), [(15, ([(0, 40), (0, 40)], [], (xf_59.1, xf_59.2), [(0, .inr (some 0)), (1, .inl (.inl ([(2, 1)], 0))), (2, .inl (.inl ([(0, 1), (2, (-1))], 0))), (3, .inl (.inl ([(3, 1)], 0)))], [], ([(3, (-42))], 1721)), [], false), (28, ([(0, 40), (0, 39), (1, 40)], [([(0, 1)], (-1))], (xf_59.1, xf_59.2), [(0, .inr (some 0)), (1, .inl (.inl ([(2, 1)], 0))), (2, .inl (.inl ([(2, (-1)), (0, 1)], 0))), (3, .inl (.inl ([(3, 1)], 0))), (4, .inl (.inl ([(4, 1)], 0)))], [], ([(3, (-42)), (4, (-1))], 1720)), [], false)], [])
noncomputable def xa_59 : List yt_CE := [(((70, false), (150, false, [0, 3, 1, 2, 4])), (yw_s16, xk_21)), (((45, false), (180, false, [0, 1, 2, 3, 4])), (yw_s11, xk_12)), (((74, true), (0, false, [0, 1, 2, 3, 4])), (yw_s17, xk_57)), (((74, true), (0, false, [0, 1, 2, 3, 4])), (yw_s17, xk_58))]
noncomputable def xT_59 : yt_Tb := fun d => match d with
  | 150 => xP_21
  | 180 => xP_12
  | _ => fun _ _ _ _ => True
theorem xc_59 {l : Launch} {D : va_G} {cT : Nat → ClassId} {tys : List (ClassId × FieldType)} (hty : yx_Ty tys cT) : yx_C l D cT tys yw_s17 xk_59 := yx_methodT (tb := xT_59) (fun _ _ _ _ => trivial) (calls := xa_59) (Z := xq_59) 300 (by decide +kernel) yz_X7_firstHalving_ok hty (yl_lkX7 _) (yl_cqkX7 _) (List.forall_mem_cons.mpr ⟨⟨xc_21 hty, yg_CLv rfl rfl rfl yl_wX7_70 yd_yX6_tally⟩, List.forall_mem_cons.mpr ⟨⟨xc_12 hty, yg_CLv rfl rfl rfl yl_wX7_45 yd_yX6_samePlace⟩, List.forall_mem_cons.mpr ⟨⟨xc_57 hty, yg_CLs yl_wX7_74 yd_yX7_isHalving⟩, List.forall_mem_cons.mpr ⟨⟨xc_58 hty, yg_CLs yl_wX7_74 yd_yX7_isHalving⟩, fun _ h => absurd h List.not_mem_nil⟩⟩⟩⟩) (by decide +kernel)
noncomputable def xf_60 : ys_F := (yw_f26 0, yw_r26)
noncomputable def xk_60 : ys_K := (((yX11_halves, cX11_halves, 2, (some .int)), (3, 75)), ([.inr (some 0)], ([] ++ yw_e26, []), xf_60), ([([((-6), 3939)], [], (xf_60.1, xf_60.2), some (.inl (.inl ([(3, 1)], 0))))], []))
noncomputable def xq_60 : yt_Q := (yz_X11_halves, (yl_flX11, yl_ciX11, yl_cjX11, yl_cpX11, yl_cqX11), [], [])
noncomputable def xa_60 : List yt_CE := [(((366, true), (0, false, [1, 2, 3, 4, 5])), (yw_s17, xk_59))]
theorem xc_60 {l : Launch} {D : va_G} {cT : Nat → ClassId} {tys : List (ClassId × FieldType)} (hty : yx_Ty tys cT) : yx_C l D cT tys yw_s26 xk_60 := yx_method (calls := xa_60) (Z := xq_60) 300 (by decide +kernel) yz_X11_halves_ok hty (yl_lkX11 _) (yl_cqkX11 _) (List.forall_mem_cons.mpr ⟨⟨xc_59 hty, yg_CLs yl_wX11_366 yd_yX7_firstHalving⟩, fun _ h => absurd h List.not_mem_nil⟩) (by decide +kernel)
noncomputable def xf_61 : ys_F := (yw_f2 1, yw_r2)
noncomputable def xk_61 : ys_K := (((yX6_isColour, cX6_isColour, 1, (some .boolean)), (0, 0)), ([.inl (.inl ([(0, 1)], 0))], ([((-2147483648), 2147483647)] ++ yw_e2, []), xf_61), ([([], [([(0, (-1))], (-1))], (xf_61.1, xf_61.2), some (.inl (.inl ([], 0)))), ([], [([(0, 1)], (-2))], (xf_61.1, xf_61.2), some (.inl (.inl ([], 0)))), ([], [([(0, 1)], (-1)), ([(0, (-1))], 1)], (xf_61.1, xf_61.2), some (.inl (.inl ([], 1)))), ([], [([(0, 1)], 0), ([(0, (-1))], 0)], (xf_61.1, xf_61.2), some (.inl (.inl ([], 1))))], []))
noncomputable def xq_61 : yt_Q := (yz_X6_isColour, (yl_flX6, yl_ciX6, yl_cjX6, yl_cpX6, yl_cqX6), [], [])
noncomputable def xa_61 : List yt_CE := []
theorem xc_61 {l : Launch} {D : va_G} {cT : Nat → ClassId} {tys : List (ClassId × FieldType)} (hty : yx_Ty tys cT) : yx_C l D cT tys yw_s2 xk_61 := yx_method (calls := xa_61) (Z := xq_61) 300 (by decide +kernel) yz_X6_isColour_ok hty (yl_lkX6 _) (yl_cqkX6 _) (fun _ h => absurd h List.not_mem_nil) (by decide +kernel)
noncomputable def xf_62 : ys_F := (yw_f11 2, yw_r11)
noncomputable def xk_62 : ys_K := (((yX7_isLower, cX7_isLower, 3, (some .boolean)), (0, 0)), ([.inr (some 0), .inl (.inl ([(0, 1)], 0)), .inl (.inl ([(1, 1)], 0))], ([(0, 39), (0, 39)] ++ yw_e11, []), xf_62), ([([], [], (xf_62.1, xf_62.2), some (.inl (.inl ([], 0)))), ([], [], (xf_62.1, xf_62.2), some (.inl (.inl ([], 1))))], []))
noncomputable def xq_62 : yt_Q := (yz_X7_isLower, (yl_flX7, yl_ciX7, yl_cjX7, yl_cpX7, yl_cqX7), [], [])
noncomputable def xa_62 : List yt_CE := []
theorem xc_62 {l : Launch} {D : va_G} {cT : Nat → ClassId} {tys : List (ClassId × FieldType)} (hty : yx_Ty tys cT) : yx_C l D cT tys yw_s11 xk_62 := yx_method (calls := xa_62) (Z := xq_62) 300 (by decide +kernel) yz_X7_isLower_ok hty (yl_lkX7 _) (yl_cqkX7 _) (fun _ h => absurd h List.not_mem_nil) (by decide +kernel)
noncomputable def xf_63 : ys_F := (yw_f17 1, yw_r17)
noncomputable def xk_63 : ys_K := (((yX7_lowest, cX7_lowest, 4, (some .int)), (1, 22)), ([.inr (some 0), .inl (.inl ([(0, 1)], 0))], ([((-2147483648), 2147483647)] ++ yw_e17, []), xf_63), ([([((-1), 39)], [], (xf_63.1, xf_63.2), some (.inl (.inl ([(3, 1)], 0))))], []))
noncomputable def xq_63 : yt_Q := (yz_X7_lowest, (yl_flX7, yl_ciX7, yl_cjX7, yl_cpX7, yl_cqX7), [(4, ([((-1), 39), (0, 40)], [], (xf_63.1, xf_63.2), [(0, .inr (some 0)), (1, .inl (.inl ([(0, 1)], 0))), (2, .inl (.inl ([(3, 1)], 0))), (3, .inl (.inl ([(4, 1)], 0)))], [], ([(4, (-1))], 40)), [], false)], [])
noncomputable def xa_63 : List yt_CE := [(((35, true), (0, false, [0, 1, 2, 3, 4])), (yw_s11, xk_62))]
theorem xc_63 {l : Launch} {D : va_G} {cT : Nat → ClassId} {tys : List (ClassId × FieldType)} (hty : yx_Ty tys cT) : yx_C l D cT tys yw_s17 xk_63 := yx_method (calls := xa_63) (Z := xq_63) 300 (by decide +kernel) yz_X7_lowest_ok hty (yl_lkX7 _) (yl_cqkX7 _) (List.forall_mem_cons.mpr ⟨⟨xc_62 hty, yg_CLs yl_wX7_35 yd_yX7_isLower⟩, fun _ h => absurd h List.not_mem_nil⟩) (by decide +kernel)
noncomputable def xf_64 : ys_F := (yw_f11 3, yw_r11)
noncomputable def xk_64 : ys_K := (((yX7_isOuter, cX7_isOuter, 5, (some .boolean)), (1, 23)), ([.inr (some 0), .inl (.inl ([(0, 1)], 0)), .inl (.inl ([(1, 1)], 0)), .inl (.inl ([(2, 1)], 0))], ([(0, 39), (0, 39), (0, 39)] ++ yw_e11, []), xf_64), ([([], [], (xf_64.1, xf_64.2), some (.inl (.inl ([], 0)))), ([], [], (xf_64.1, xf_64.2), some (.inl (.inl ([], 1))))], []))
noncomputable def xq_64 : yt_Q := (yz_X7_isOuter, (yl_flX7, yl_ciX7, yl_cjX7, yl_cpX7, yl_cqX7), [], [])
noncomputable def xa_64 : List yt_CE := [(((53, false), (181, false, [0, 1, 2, 3, 4])), (yw_s11, xk_13)), (((57, false), (196, false, [0, 1, 2, 3, 4])), (yw_s11, xk_14))]
noncomputable def xT_64 : yt_Tb := fun d => match d with
  | 181 => xP_13
  | 196 => xP_14
  | _ => fun _ _ _ _ => True
theorem xc_64 {l : Launch} {D : va_G} {cT : Nat → ClassId} {tys : List (ClassId × FieldType)} (hty : yx_Ty tys cT) : yx_C l D cT tys yw_s11 xk_64 := yx_methodT (tb := xT_64) (fun _ _ _ _ => trivial) (calls := xa_64) (Z := xq_64) 300 (by decide +kernel) yz_X7_isOuter_ok hty (yl_lkX7 _) (yl_cqkX7 _) (List.forall_mem_cons.mpr ⟨⟨xc_13 hty, yg_CLv rfl rfl rfl yl_wX7_53 yd_yX6_turn⟩, List.forall_mem_cons.mpr ⟨⟨xc_14 hty, yg_CLv rfl rfl rfl yl_wX7_57 yd_yX6_reach⟩, fun _ h => absurd h List.not_mem_nil⟩⟩) (by decide +kernel)
noncomputable def xf_65 : ys_F := (yw_f17 2, yw_r17)
noncomputable def xk_65 : ys_K := (((yX7_nextCorner, cX7_nextCorner, 5, (some .int)), (2, 47)), ([.inr (some 0), .inl (.inl ([(0, 1)], 0)), .inl (.inl ([(1, 1)], 0))], ([((-2147483648), 2147483647), (0, 39)] ++ yw_e17, []), xf_65), ([([((-1), 39)], [], (xf_65.1, xf_65.2), some (.inl (.inl ([(4, 1)], 0))))], []))
noncomputable def xq_65 : yt_Q := (yz_X7_nextCorner, (yl_flX7, yl_ciX7, yl_cjX7, yl_cpX7, yl_cqX7), [(5, ([((-1), 39), (0, 40)], [], (xf_65.1, xf_65.2), [(0, .inr (some 0)), (1, .inl (.inl ([(0, 1)], 0))), (2, .inl (.inl ([(1, 1)], 0))), (3, .inl (.inl ([(4, 1)], 0))), (4, .inl (.inl ([(5, 1)], 0)))], [], ([(5, (-1))], 40)), [], false)], [])
noncomputable def xa_65 : List yt_CE := [(((45, false), (180, false, [0, 1, 2, 3, 4])), (yw_s11, xk_12)), (((49, true), (0, false, [0, 1, 2, 3, 4])), (yw_s11, xk_64))]
noncomputable def xT_65 : yt_Tb := fun d => match d with
  | 180 => xP_12
  | _ => fun _ _ _ _ => True
theorem xc_65 {l : Launch} {D : va_G} {cT : Nat → ClassId} {tys : List (ClassId × FieldType)} (hty : yx_Ty tys cT) : yx_C l D cT tys yw_s17 xk_65 := yx_methodT (tb := xT_65) (fun _ _ _ _ => trivial) (calls := xa_65) (Z := xq_65) 300 (by decide +kernel) yz_X7_nextCorner_ok hty (yl_lkX7 _) (yl_cqkX7 _) (List.forall_mem_cons.mpr ⟨⟨xc_12 hty, yg_CLv rfl rfl rfl yl_wX7_45 yd_yX6_samePlace⟩, List.forall_mem_cons.mpr ⟨⟨xc_64 hty, yg_CLs yl_wX7_49 yd_yX7_isOuter⟩, fun _ h => absurd h List.not_mem_nil⟩⟩) (by decide +kernel)
noncomputable def yw_s43 : List ys_C := [.inl 7, .inr (0, 40, []), .inl 6, .inr (0, 40, []), .inr (0, 40, []), .inr (0, 40, [])]
noncomputable def yw_f43 (n : Nat) : List (List ys_V) := [[.inr (some 1), .inl (.inl ([(n + 0, 1)], 0))], [], [.inr (some 3), .inr (some 4), .inr (some 5), .inr (some 6), .inl (.inl ([(n + 1, 1)], 0)), .inl (.inl ([(n + 2, 1)], 0))], [], [], []]
noncomputable def yw_e43 : ys_E := [(0, 40), (0, 40), ((-2147483648), 2147483647)]
noncomputable def yw_r43 : List ys_R := [((0, 0), []), (((-2147483648), 2147483647), []), ((0, 0), []), (((-300), 300), []), (((-300), 300), []), ((0, 1), [])]
noncomputable def xf_66 : ys_F := (yw_f43 1, yw_r43)
noncomputable def xk_66 : ys_K := (((yX7_wrap, cX7_wrap, 6, none), (3, 71)), ([.inr (some 0), .inr (some 2), .inl (.inl ([(0, 1)], 0))], ([((-2147483648), 2147483647)] ++ yw_e43, []), xf_66), ([([(0, 40)], [], ((ys_fs xf_66.1 [(0, 1, .inl (.inl ([(4, 1)], 0)))]), xf_66.2), none)], [1]))
noncomputable def xq_66 : yt_Q := (yz_X7_wrap, (yl_flX7, yl_ciX7, yl_cjX7, yl_cpX7, yl_cqX7), [(17, ([((-1), 39), ((-1), 39), (0, 40), (0, 40)], [], ((ys_fs xf_66.1 [(0, 1, .inl (.inl ([(7, 1)], 0)))]), xf_66.2), [(0, .inr (some 0)), (1, .inr (some 2)), (2, .inl (.inl ([(0, 1)], 0))), (3, .inl (.inl ([(4, 1)], 0))), (4, .inl (.inl ([(5, 1)], 0))), (5, .inl (.inl ([(6, 1)], 0)))], [], ([(6, (-1))], 40)), [], false)], [])
noncomputable def xa_66 : List yt_CE := [(((19, true), (0, false, [2, 3, 4, 5, 6])), (yw_s17, xk_63)), (((23, true), (0, false, [2, 3, 4, 5, 6])), (yw_s17, xk_65))]
theorem xc_66 {l : Launch} {D : va_G} {cT : Nat → ClassId} {tys : List (ClassId × FieldType)} (hty : yx_Ty tys cT) : yx_C l D cT tys yw_s43 xk_66 := yx_method (calls := xa_66) (Z := xq_66) 300 (by decide +kernel) yz_X7_wrap_ok hty (yl_lkX7 _) (yl_cqkX7 _) (List.forall_mem_cons.mpr ⟨⟨xc_63 hty, yg_CLs yl_wX7_19 yd_yX7_lowest⟩, List.forall_mem_cons.mpr ⟨⟨xc_65 hty, yg_CLs yl_wX7_23 yd_yX7_nextCorner⟩, fun _ h => absurd h List.not_mem_nil⟩⟩) (by decide +kernel)
noncomputable def yw_s44 : List ys_C := [.inl 11, .inl 6, .inr (0, 40, []), .inr (0, 40, []), .inr (0, 40, []), .inl 7, .inr (0, 40, [])]
noncomputable def yw_f44 (n : Nat) : List (List ys_V) := [[.inr (some 1), .inr (some 8), .inr (some 9), .inr (some 10), .inr (some 11), .inr (some 12), .inr (some 13), .inr (some 14), .inr (some 15), .inr (some 16), .inr (some 17), .inr (some 18), .inr (some 5), .inr (some 19), .inl (.inl ([(n + 0, 1)], 0))], [.inr (some 2), .inr (some 3), .inr (some 4), .inr (some 7), .inl (.inl ([(n + 1, 1)], 0)), .inl (.inl ([(n + 2, 1)], 0))], [], [], [], [.inr (some 6), .inl (.inl ([(n + 3, 1)], 0))], []]
noncomputable def yw_e44 : ys_E := [((-2147483648), 2147483647), (0, 40), ((-2147483648), 2147483647), (0, 40)]
noncomputable def yw_r44 : List ys_R := [((0, 0), []), ((0, 0), []), (((-300), 300), []), (((-300), 300), []), ((0, 1), []), ((0, 0), []), (((-2147483648), 2147483647), [])]
noncomputable def xf_67 : ys_F := (yw_f44 2, yw_r44)
noncomputable def xk_67 : ys_K := (((yX11_hull, cX11_hull, 3, (some .int)), (4, 96)), ([.inr (some 0), .inl (.inl ([(0, 1)], 0)), .inl (.inl ([(1, 1)], 0))], ([((-2147483648), 2147483647), ((-2147483648), 2147483647)] ++ yw_e44, []), xf_67), ([([((-2147483648), 2147483647), (0, 40)], [], ((ys_fs xf_67.1 [(5, 1, .inl (.inl ([(7, 1)], 0)))]), xf_67.2), some (.inl (.inl ([(6, 1)], 0))))], [6]))
noncomputable def xq_67 : yt_Q := (yz_X11_hull, (yl_flX11, yl_ciX11, yl_cjX11, yl_cpX11, yl_cqX11), [], [])
noncomputable def xa_67 : List yt_CE := [(((103, true), (0, false, [])), (yw_s2, xk_61)), (((350, false), (0, false, [5, 6, 1, 2, 3, 4, 7])), (yw_s43, xk_66))]
theorem xc_67 {l : Launch} {D : va_G} {cT : Nat → ClassId} {tys : List (ClassId × FieldType)} (hty : yx_Ty tys cT) : yx_C l D cT tys yw_s44 xk_67 := yx_method (calls := xa_67) (Z := xq_67) 300 (by decide +kernel) yz_X11_hull_ok hty (yl_lkX11 _) (yl_cqkX11 _) (List.forall_mem_cons.mpr ⟨⟨xc_61 hty, yg_CLs yl_wX11_103 yd_yX6_isColour⟩, List.forall_mem_cons.mpr ⟨⟨xc_66 hty, yg_CLv rfl rfl rfl yl_wX11_350 yd_yX7_wrap⟩, fun _ h => absurd h List.not_mem_nil⟩⟩) (by decide +kernel)
noncomputable def xf_68 : ys_F := (yw_f7 1, yw_r7)
noncomputable def xk_68 : ys_K := (((yX11_image, cX11_image, 2, (some .int)), (2, 39)), ([.inr (some 0), .inl (.inl ([(0, 1)], 0))], ([((-2147483648), 2147483647)] ++ yw_e7, []), xf_68), ([([((-1), 0), ((-2147483648), 0), (0, 40), ((-2147483648), 2147483647), (0, 40), ((-2147483648), 2147483647), (0, 40), ((-2147483648), 2147483647), (0, 12), (0, 12), (0, 12), ((-9223372036854775808), 9223372036854775807), ((-9223372036854775808), 9223372036854775807), ((-9223372036854775808), 9223372036854775807), ((-9223372036854775808), 9223372036854775807), ((-9223372036854775808), 9223372036854775807), ((-9223372036854775808), 9223372036854775807), ((-9223372036854775808), 9223372036854775807), ((-9223372036854775808), 9223372036854775807), ((-9223372036854775808), 9223372036854775807), ((-9223372036854775808), 9223372036854775807), ((-9223372036854775808), 9223372036854775807), ((-9223372036854775808), 9223372036854775807), ((-9223372036854775808), 9223372036854775807), ((-9223372036854775808), 9223372036854775807), ((-9223372036854775808), 9223372036854775807)], [], ((ys_fs xf_68.1 [(0, 14, .inl (.inl ([(39, 1)], 0))), (12, 4, .inl (.inl ([(40, 1)], 0))), (12, 5, .inl (.inl ([(41, 1)], 0))), (17, 4, .inl (.inl ([(42, 1)], 0))), (17, 5, .inl (.inl ([(43, 1)], 0))), (22, 4, .inl (.inl ([(44, 1)], 0))), (22, 5, .inl (.inl ([(45, 1)], 0))), (28, 0, .inl (.inl ([(46, 1)], 0))), (32, 0, .inl (.inl ([(47, 1)], 0))), (36, 0, .inl (.inl ([(48, 1)], 0))), (41, 0, .inl (.inr ([(49, 1)], 0))), (41, 1, .inl (.inr ([(50, 1)], 0))), (41, 2, .inl (.inr ([(51, 1)], 0))), (41, 3, .inl (.inr ([(52, 1)], 0))), (41, 4, .inl (.inr ([(53, 1)], 0))), (42, 0, .inl (.inr ([(54, 1)], 0))), (42, 1, .inl (.inr ([(55, 1)], 0))), (42, 2, .inl (.inr ([(56, 1)], 0))), (42, 3, .inl (.inr ([(57, 1)], 0))), (42, 4, .inl (.inr ([(58, 1)], 0))), (43, 0, .inl (.inr ([(59, 1)], 0))), (43, 1, .inl (.inr ([(60, 1)], 0))), (43, 2, .inl (.inr ([(61, 1)], 0))), (43, 3, .inl (.inr ([(62, 1)], 0))), (43, 4, .inl (.inr ([(63, 1)], 0)))]), xf_68.2), some (.inl (.inl ([(38, 1)], 0))))], [13, 14, 15, 16, 18, 19, 20, 21, 23, 24, 25, 26, 29, 30, 31, 33, 34, 35, 37, 38, 39, 44]))
noncomputable def xq_68 : yt_Q := (yz_X11_image, (yl_flX11, yl_ciX11, yl_cjX11, yl_cpX11, yl_cqX11), [], [true])
noncomputable def xa_68 : List yt_CE := [(((377, true), (0, false, [])), (yw_s2, xk_2)), (((380, false), (133, false, [22, 23, 24, 25, 26, 1, 2, 3, 4, 5])), (yw_s4, xk_4)), (((383, false), (0, false, [36, 37, 38, 39, 6, 7, 8, 9])), (yw_s5, xk_5)), (((386, false), (0, false, [43, 10])), (yw_s6, xk_6)), (((107, false), (0, false, [0, 1, 6, 10, 45, 11, 27, 40, 44, 46, 47, 48, 49, 50, 51])), (yw_s3, xk_3)), (((380, false), (133, false, [17, 18, 19, 20, 21, 1, 2, 3, 4, 5])), (yw_s4, xk_4)), (((383, false), (0, false, [32, 33, 34, 35, 6, 7, 8, 9])), (yw_s5, xk_5)), (((386, false), (0, false, [42, 10])), (yw_s6, xk_6)), (((380, false), (133, false, [12, 13, 14, 15, 16, 1, 2, 3, 4, 5])), (yw_s4, xk_4)), (((383, false), (0, false, [28, 29, 30, 31, 6, 7, 8, 9])), (yw_s5, xk_5)), (((386, false), (0, false, [41, 10])), (yw_s6, xk_6))]
noncomputable def xv_68 : List (List yt_VC) := [[(1000, ([((-2147483648), (-1)), ((-2147483648), 2147483647), (0, 40), ((-2147483648), 2147483647), (0, 12), ((-2147483648), 2147483647), ((-9223372036854775808), 9223372036854775807), ((-9223372036854775808), 9223372036854775807), ((-9223372036854775808), 9223372036854775807), ((-9223372036854775808), 9223372036854775807), ((-9223372036854775808), 9223372036854775807), (0, 40), ((-2147483648), 2147483647), (0, 40), ((-2147483648), 2147483647), (0, 40), ((-2147483648), 2147483647), (0, 12), ((-2147483648), 2147483647), (0, 12), ((-2147483648), 2147483647), (0, 12), ((-2147483648), 2147483647), ((-9223372036854775808), 9223372036854775807), ((-9223372036854775808), 9223372036854775807), ((-9223372036854775808), 9223372036854775807), ((-9223372036854775808), 9223372036854775807), ((-9223372036854775808), 9223372036854775807), ((-9223372036854775808), 9223372036854775807), ((-9223372036854775808), 9223372036854775807), ((-9223372036854775808), 9223372036854775807), ((-9223372036854775808), 9223372036854775807), ((-9223372036854775808), 9223372036854775807), ((-9223372036854775808), 9223372036854775807), ((-9223372036854775808), 9223372036854775807), ((-9223372036854775808), 9223372036854775807), ((-9223372036854775808), 9223372036854775807), ((-9223372036854775808), 9223372036854775807), ((-2147483648), 0)], []), [([], (-1)), ([(38, 1)], 0), ([(11, 1)], 0), ([(12, 1)], 0), ([(13, 1)], 0), ([(14, 1)], 0), ([(15, 1)], 0), ([(16, 1)], 0), ([(17, 1)], 0), ([(19, 1)], 0), ([(21, 1)], 0), ([(23, 1)], 0), ([(24, 1)], 0), ([(25, 1)], 0), ([(26, 1)], 0), ([(27, 1)], 0), ([(28, 1)], 0), ([(29, 1)], 0), ([(30, 1)], 0), ([(31, 1)], 0), ([(32, 1)], 0), ([(33, 1)], 0), ([(34, 1)], 0), ([(35, 1)], 0), ([(36, 1)], 0), ([(37, 1)], 0)], [], []),
   (1000, ([(3, 2147483647), ((-2147483648), 2147483647), (0, 40), ((-2147483648), 2147483647), (0, 12), ((-2147483648), 2147483647), ((-9223372036854775808), 9223372036854775807), ((-9223372036854775808), 9223372036854775807), ((-9223372036854775808), 9223372036854775807), ((-9223372036854775808), 9223372036854775807), ((-9223372036854775808), 9223372036854775807), (0, 40), ((-2147483648), 2147483647), (0, 40), ((-2147483648), 2147483647), (0, 40), ((-2147483648), 2147483647), (0, 12), ((-2147483648), 2147483647), (0, 12), ((-2147483648), 2147483647), (0, 12), ((-2147483648), 2147483647), ((-9223372036854775808), 9223372036854775807), ((-9223372036854775808), 9223372036854775807), ((-9223372036854775808), 9223372036854775807), ((-9223372036854775808), 9223372036854775807), ((-9223372036854775808), 9223372036854775807), ((-9223372036854775808), 9223372036854775807), ((-9223372036854775808), 9223372036854775807), ((-9223372036854775808), 9223372036854775807), ((-9223372036854775808), 9223372036854775807), ((-9223372036854775808), 9223372036854775807), ((-9223372036854775808), 9223372036854775807), ((-9223372036854775808), 9223372036854775807), ((-9223372036854775808), 9223372036854775807), ((-9223372036854775808), 9223372036854775807), ((-9223372036854775808), 9223372036854775807), ((-2147483648), 0)], []), [([], (-1)), ([(38, 1)], 0), ([(11, 1)], 0), ([(12, 1)], 0), ([(13, 1)], 0), ([(14, 1)], 0), ([(15, 1)], 0), ([(16, 1)], 0), ([(17, 1)], 0), ([(19, 1)], 0), ([(21, 1)], 0), ([(23, 1)], 0), ([(24, 1)], 0), ([(25, 1)], 0), ([(26, 1)], 0), ([(27, 1)], 0), ([(28, 1)], 0), ([(29, 1)], 0), ([(30, 1)], 0), ([(31, 1)], 0), ([(32, 1)], 0), ([(33, 1)], 0), ([(34, 1)], 0), ([(35, 1)], 0), ([(36, 1)], 0), ([(37, 1)], 0)], [], []),
   (1000, ([(0, 0), ((-2147483648), 2147483647), (0, 40), ((-2147483648), 2147483647), (0, 12), ((-2147483648), 2147483647), ((-9223372036854775808), 9223372036854775807), ((-9223372036854775808), 9223372036854775807), ((-9223372036854775808), 9223372036854775807), ((-9223372036854775808), 9223372036854775807), ((-9223372036854775808), 9223372036854775807), (0, 40), ((-2147483648), 2147483647), (0, 40), ((-2147483648), 2147483647), (0, 40), ((-2147483648), 2147483647), (0, 12), ((-2147483648), 2147483647), (0, 12), ((-2147483648), 2147483647), (0, 12), ((-2147483648), 2147483647), ((-9223372036854775808), 9223372036854775807), ((-9223372036854775808), 9223372036854775807), ((-9223372036854775808), 9223372036854775807), ((-9223372036854775808), 9223372036854775807), ((-9223372036854775808), 9223372036854775807), ((-9223372036854775808), 9223372036854775807), ((-9223372036854775808), 9223372036854775807), ((-9223372036854775808), 9223372036854775807), ((-9223372036854775808), 9223372036854775807), ((-9223372036854775808), 9223372036854775807), ((-9223372036854775808), 9223372036854775807), ((-9223372036854775808), 9223372036854775807), ((-9223372036854775808), 9223372036854775807), ((-9223372036854775808), 9223372036854775807), ((-9223372036854775808), 9223372036854775807), ((-2147483648), 2147483647), ((-2147483648), 0)], []), [([], 0), ([(39, 1)], 0), ([(2, 1)], 0), ([(38, 1)], 0), ([(13, 1)], 0), ([(14, 1)], 0), ([(15, 1)], 0), ([(16, 1)], 0), ([(4, 1)], 0), ([(19, 1)], 0), ([(21, 1)], 0), ([(6, 1)], 0), ([(7, 1)], 0), ([(8, 1)], 0), ([(9, 1)], 0), ([(10, 1)], 0), ([(28, 1)], 0), ([(29, 1)], 0), ([(30, 1)], 0), ([(31, 1)], 0), ([(32, 1)], 0), ([(33, 1)], 0), ([(34, 1)], 0), ([(35, 1)], 0), ([(36, 1)], 0), ([(37, 1)], 0)], [], [.inr (.inl (44, ([], 0), ([], 1))), .inr (.inr (.inl (0, 0, [([(17, 1)], 0), ([(18, 1)], 0), ([(4, 1)], 0), ([(5, 1)], 0)], [28, 29, 30, 31, 6, 7, 8, 9], [29, 30, 31]))), .inr (.inr (.inl (133, 0, [([(11, 1)], 0), ([(12, 1)], 0), ([(2, 1)], 0), ([(3, 1)], 0), ([(38, 1)], 0)], [12, 13, 14, 15, 16, 1, 2, 3, 4, 5], [13, 14, 15, 16])))]),
   (1000, ([(1, 1), ((-2147483648), 2147483647), (0, 40), ((-2147483648), 2147483647), (0, 12), ((-2147483648), 2147483647), ((-9223372036854775808), 9223372036854775807), ((-9223372036854775808), 9223372036854775807), ((-9223372036854775808), 9223372036854775807), ((-9223372036854775808), 9223372036854775807), ((-9223372036854775808), 9223372036854775807), (0, 40), ((-2147483648), 2147483647), (0, 40), ((-2147483648), 2147483647), (0, 40), ((-2147483648), 2147483647), (0, 12), ((-2147483648), 2147483647), (0, 12), ((-2147483648), 2147483647), (0, 12), ((-2147483648), 2147483647), ((-9223372036854775808), 9223372036854775807), ((-9223372036854775808), 9223372036854775807), ((-9223372036854775808), 9223372036854775807), ((-9223372036854775808), 9223372036854775807), ((-9223372036854775808), 9223372036854775807), ((-9223372036854775808), 9223372036854775807), ((-9223372036854775808), 9223372036854775807), ((-9223372036854775808), 9223372036854775807), ((-9223372036854775808), 9223372036854775807), ((-9223372036854775808), 9223372036854775807), ((-9223372036854775808), 9223372036854775807), ((-9223372036854775808), 9223372036854775807), ((-9223372036854775808), 9223372036854775807), ((-9223372036854775808), 9223372036854775807), ((-9223372036854775808), 9223372036854775807), ((-2147483648), 2147483647), ((-2147483648), 0)], []), [([], 0), ([(39, 1)], 0), ([(11, 1)], 0), ([(12, 1)], 0), ([(2, 1)], 0), ([(38, 1)], 0), ([(15, 1)], 0), ([(16, 1)], 0), ([(17, 1)], 0), ([(4, 1)], 0), ([(21, 1)], 0), ([(23, 1)], 0), ([(24, 1)], 0), ([(25, 1)], 0), ([(26, 1)], 0), ([(27, 1)], 0), ([(6, 1)], 0), ([(7, 1)], 0), ([(8, 1)], 0), ([(9, 1)], 0), ([(10, 1)], 0), ([(33, 1)], 0), ([(34, 1)], 0), ([(35, 1)], 0), ([(36, 1)], 0), ([(37, 1)], 0)], [], [.inr (.inl (44, ([], 1), ([], 1))), .inr (.inr (.inl (0, 0, [([(19, 1)], 0), ([(20, 1)], 0), ([(4, 1)], 0), ([(5, 1)], 0)], [32, 33, 34, 35, 6, 7, 8, 9], [33, 34, 35]))), .inr (.inr (.inl (133, 0, [([(13, 1)], 0), ([(14, 1)], 0), ([(2, 1)], 0), ([(3, 1)], 0), ([(38, 1)], 0)], [17, 18, 19, 20, 21, 1, 2, 3, 4, 5], [18, 19, 20, 21])))]),
   (1000, ([(2, 2), ((-2147483648), 2147483647), (0, 40), ((-2147483648), 2147483647), (0, 12), ((-2147483648), 2147483647), ((-9223372036854775808), 9223372036854775807), ((-9223372036854775808), 9223372036854775807), ((-9223372036854775808), 9223372036854775807), ((-9223372036854775808), 9223372036854775807), ((-9223372036854775808), 9223372036854775807), (0, 40), ((-2147483648), 2147483647), (0, 40), ((-2147483648), 2147483647), (0, 40), ((-2147483648), 2147483647), (0, 12), ((-2147483648), 2147483647), (0, 12), ((-2147483648), 2147483647), (0, 12), ((-2147483648), 2147483647), ((-9223372036854775808), 9223372036854775807), ((-9223372036854775808), 9223372036854775807), ((-9223372036854775808), 9223372036854775807), ((-9223372036854775808), 9223372036854775807), ((-9223372036854775808), 9223372036854775807), ((-9223372036854775808), 9223372036854775807), ((-9223372036854775808), 9223372036854775807), ((-9223372036854775808), 9223372036854775807), ((-9223372036854775808), 9223372036854775807), ((-9223372036854775808), 9223372036854775807), ((-9223372036854775808), 9223372036854775807), ((-9223372036854775808), 9223372036854775807), ((-9223372036854775808), 9223372036854775807), ((-9223372036854775808), 9223372036854775807), ((-9223372036854775808), 9223372036854775807), ((-2147483648), 2147483647), ((-2147483648), 0)], []), [([], 0), ([(39, 1)], 0), ([(11, 1)], 0), ([(12, 1)], 0), ([(13, 1)], 0), ([(14, 1)], 0), ([(2, 1)], 0), ([(38, 1)], 0), ([(17, 1)], 0), ([(19, 1)], 0), ([(4, 1)], 0), ([(23, 1)], 0), ([(24, 1)], 0), ([(25, 1)], 0), ([(26, 1)], 0), ([(27, 1)], 0), ([(28, 1)], 0), ([(29, 1)], 0), ([(30, 1)], 0), ([(31, 1)], 0), ([(32, 1)], 0), ([(6, 1)], 0), ([(7, 1)], 0), ([(8, 1)], 0), ([(9, 1)], 0), ([(10, 1)], 0)], [], [.inr (.inl (44, ([], 2), ([], 1))), .inr (.inr (.inl (0, 0, [([(21, 1)], 0), ([(22, 1)], 0), ([(4, 1)], 0), ([(5, 1)], 0)], [36, 37, 38, 39, 6, 7, 8, 9], [37, 38, 39]))), .inr (.inr (.inl (133, 0, [([(15, 1)], 0), ([(16, 1)], 0), ([(2, 1)], 0), ([(3, 1)], 0), ([(38, 1)], 0)], [22, 23, 24, 25, 26, 1, 2, 3, 4, 5], [23, 24, 25, 26])))])]]
noncomputable def xG_68 : Nat → yt_G → (Nat → Int) → yt_G → Prop
  | _, _, _, _ => True
noncomputable def xP_68 : yt_Ph
  | 0, r, g0, g => (((r 38) = yq_imr (r 0) ∧ (g 44) = yq_imt (g0 44) (r 0) ∧ ((1 * (r 46) + 0) + 0) = yq_kp (r 0) 0 ((1 * (r 4) + 0) + 0) ((1 * (r 17) + 0) + 0) ∧ ((1 * (r 47) + 0) + 0) = yq_kp (r 0) 1 ((1 * (r 4) + 0) + 0) ((1 * (r 19) + 0) + 0) ∧ ((1 * (r 48) + 0) + 0) = yq_kp (r 0) 2 ((1 * (r 4) + 0) + 0) ((1 * (r 21) + 0) + 0)) ∧ ((1 * (r 40) + 0) + 0) = yq_kp (r 0) 0 ((1 * (r 2) + 0) + 0) ((1 * (r 11) + 0) + 0) ∧ ((1 * (r 42) + 0) + 0) = yq_kp (r 0) 1 ((1 * (r 2) + 0) + 0) ((1 * (r 13) + 0) + 0) ∧ ((1 * (r 44) + 0) + 0) = yq_kp (r 0) 2 ((1 * (r 2) + 0) + 0) ((1 * (r 15) + 0) + 0)) ∧ (∀ j : Nat, j < 40 → (g 13) j = yq_kp (r 0) 0 ((g0 2) j) ((g0 13) j)) ∧ (∀ j : Nat, j < 40 → (g 14) j = yq_kp (r 0) 0 ((g0 3) j) ((g0 14) j)) ∧ (∀ j : Nat, j < 40 → (g 15) j = yq_kp (r 0) 0 ((g0 4) j) ((g0 15) j)) ∧ (∀ j : Nat, j < 40 → (g 16) j = yq_kp (r 0) 0 ((g0 5) j) ((g0 16) j)) ∧ (∀ j : Nat, j < 40 → (g 18) j = yq_kp (r 0) 1 ((g0 2) j) ((g0 18) j)) ∧ (∀ j : Nat, j < 40 → (g 19) j = yq_kp (r 0) 1 ((g0 3) j) ((g0 19) j)) ∧ (∀ j : Nat, j < 40 → (g 20) j = yq_kp (r 0) 1 ((g0 4) j) ((g0 20) j)) ∧ (∀ j : Nat, j < 40 → (g 21) j = yq_kp (r 0) 1 ((g0 5) j) ((g0 21) j)) ∧ (∀ j : Nat, j < 40 → (g 23) j = yq_kp (r 0) 2 ((g0 2) j) ((g0 23) j)) ∧ (∀ j : Nat, j < 40 → (g 24) j = yq_kp (r 0) 2 ((g0 3) j) ((g0 24) j)) ∧ (∀ j : Nat, j < 40 → (g 25) j = yq_kp (r 0) 2 ((g0 4) j) ((g0 25) j)) ∧ (∀ j : Nat, j < 40 → (g 26) j = yq_kp (r 0) 2 ((g0 5) j) ((g0 26) j))
  | _, _, _, _ => True
noncomputable def xR_68 : yt_Ps := fun r g0 => True
noncomputable def xT_68 : yt_Tb := fun d => match d with
  | 133 => xP_4
  | _ => fun _ _ _ _ => True
noncomputable def xU_68 : Nat → yt_Ps := fun d => match d with
  | 133 => xR_4
  | _ => fun _ _ => True
theorem xw_68_0_0 : yt_hold xT_68 xk_68 xq_68.2.2.1 xG_68 xP_68 xU_68 38 xk_68.2.1.2.2.2 (fun g0 r g => xR_68 r g0 ∧ g = g0) (1000, ([((-2147483648), (-1)), ((-2147483648), 2147483647), (0, 40), ((-2147483648), 2147483647), (0, 12), ((-2147483648), 2147483647), ((-9223372036854775808), 9223372036854775807), ((-9223372036854775808), 9223372036854775807), ((-9223372036854775808), 9223372036854775807), ((-9223372036854775808), 9223372036854775807), ((-9223372036854775808), 9223372036854775807), (0, 40), ((-2147483648), 2147483647), (0, 40), ((-2147483648), 2147483647), (0, 40), ((-2147483648), 2147483647), (0, 12), ((-2147483648), 2147483647), (0, 12), ((-2147483648), 2147483647), (0, 12), ((-2147483648), 2147483647), ((-9223372036854775808), 9223372036854775807), ((-9223372036854775808), 9223372036854775807), ((-9223372036854775808), 9223372036854775807), ((-9223372036854775808), 9223372036854775807), ((-9223372036854775808), 9223372036854775807), ((-9223372036854775808), 9223372036854775807), ((-9223372036854775808), 9223372036854775807), ((-9223372036854775808), 9223372036854775807), ((-9223372036854775808), 9223372036854775807), ((-9223372036854775808), 9223372036854775807), ((-9223372036854775808), 9223372036854775807), ((-9223372036854775808), 9223372036854775807), ((-9223372036854775808), 9223372036854775807), ((-9223372036854775808), 9223372036854775807), ((-9223372036854775808), 9223372036854775807), ((-2147483648), 0)], []), [([], (-1)), ([(38, 1)], 0), ([(11, 1)], 0), ([(12, 1)], 0), ([(13, 1)], 0), ([(14, 1)], 0), ([(15, 1)], 0), ([(16, 1)], 0), ([(17, 1)], 0), ([(19, 1)], 0), ([(21, 1)], 0), ([(23, 1)], 0), ([(24, 1)], 0), ([(25, 1)], 0), ([(26, 1)], 0), ([(27, 1)], 0), ([(28, 1)], 0), ([(29, 1)], 0), ([(30, 1)], 0), ([(31, 1)], 0), ([(32, 1)], 0), ([(33, 1)], 0), ([(34, 1)], 0), ([(35, 1)], 0), ([(36, 1)], 0), ([(37, 1)], 0)], [], []) := by
  intro g0 r gi g hok hh hars hfr hG
  have b0 : (-2147483648) ≤ r 0 ∧ r 0 ≤ (-1) := hok.1 0 ((-2147483648), (-1)) rfl
  have b38 : (-2147483648) ≤ r 38 ∧ r 38 ≤ 0 := hok.1 38 ((-2147483648), 0) rfl
  obtain ⟨hG, hgi⟩ := hG
  have hG : True := hG
  have hh : g = gi := hh
  subst hh
  refine yt_dalt (by decide) (by decide) ?_
  rw [show xk_68.2.1.2.1.1.length = 38 from rfl]
  show ((((0 : Int) + (-1)) = yq_imr ((1 * r 0 + 0) + 0) ∧ (g 44) = yq_imt (g0 44) ((1 * r 0 + 0) + 0) ∧ ((1 * ((1 * r 17 + 0) + 0) + 0) + 0) = yq_kp ((1 * r 0 + 0) + 0) 0 ((1 * ((1 * r 4 + 0) + 0) + 0) + 0) ((1 * ((1 * r 17 + 0) + 0) + 0) + 0) ∧ ((1 * ((1 * r 19 + 0) + 0) + 0) + 0) = yq_kp ((1 * r 0 + 0) + 0) 1 ((1 * ((1 * r 4 + 0) + 0) + 0) + 0) ((1 * ((1 * r 19 + 0) + 0) + 0) + 0) ∧ ((1 * ((1 * r 21 + 0) + 0) + 0) + 0) = yq_kp ((1 * r 0 + 0) + 0) 2 ((1 * ((1 * r 4 + 0) + 0) + 0) + 0) ((1 * ((1 * r 21 + 0) + 0) + 0) + 0)) ∧ ((1 * ((1 * r 11 + 0) + 0) + 0) + 0) = yq_kp ((1 * r 0 + 0) + 0) 0 ((1 * ((1 * r 2 + 0) + 0) + 0) + 0) ((1 * ((1 * r 11 + 0) + 0) + 0) + 0) ∧ ((1 * ((1 * r 13 + 0) + 0) + 0) + 0) = yq_kp ((1 * r 0 + 0) + 0) 1 ((1 * ((1 * r 2 + 0) + 0) + 0) + 0) ((1 * ((1 * r 13 + 0) + 0) + 0) + 0) ∧ ((1 * ((1 * r 15 + 0) + 0) + 0) + 0) = yq_kp ((1 * r 0 + 0) + 0) 2 ((1 * ((1 * r 2 + 0) + 0) + 0) + 0) ((1 * ((1 * r 15 + 0) + 0) + 0) + 0)) ∧ (∀ j : Nat, j < 40 → (g 13) j = yq_kp ((1 * r 0 + 0) + 0) 0 ((g0 2) j) ((g0 13) j)) ∧ (∀ j : Nat, j < 40 → (g 14) j = yq_kp ((1 * r 0 + 0) + 0) 0 ((g0 3) j) ((g0 14) j)) ∧ (∀ j : Nat, j < 40 → (g 15) j = yq_kp ((1 * r 0 + 0) + 0) 0 ((g0 4) j) ((g0 15) j)) ∧ (∀ j : Nat, j < 40 → (g 16) j = yq_kp ((1 * r 0 + 0) + 0) 0 ((g0 5) j) ((g0 16) j)) ∧ (∀ j : Nat, j < 40 → (g 18) j = yq_kp ((1 * r 0 + 0) + 0) 1 ((g0 2) j) ((g0 18) j)) ∧ (∀ j : Nat, j < 40 → (g 19) j = yq_kp ((1 * r 0 + 0) + 0) 1 ((g0 3) j) ((g0 19) j)) ∧ (∀ j : Nat, j < 40 → (g 20) j = yq_kp ((1 * r 0 + 0) + 0) 1 ((g0 4) j) ((g0 20) j)) ∧ (∀ j : Nat, j < 40 → (g 21) j = yq_kp ((1 * r 0 + 0) + 0) 1 ((g0 5) j) ((g0 21) j)) ∧ (∀ j : Nat, j < 40 → (g 23) j = yq_kp ((1 * r 0 + 0) + 0) 2 ((g0 2) j) ((g0 23) j)) ∧ (∀ j : Nat, j < 40 → (g 24) j = yq_kp ((1 * r 0 + 0) + 0) 2 ((g0 3) j) ((g0 24) j)) ∧ (∀ j : Nat, j < 40 → (g 25) j = yq_kp ((1 * r 0 + 0) + 0) 2 ((g0 4) j) ((g0 25) j)) ∧ (∀ j : Nat, j < 40 → (g 26) j = yq_kp ((1 * r 0 + 0) + 0) 2 ((g0 5) j) ((g0 26) j))
  try simp only [Int.one_mul, Int.zero_add, Int.add_zero]
  refine ⟨?_, ?_⟩
  · refine ⟨?_, ?_⟩
    · refine ⟨?_, ?_, ?_, ?_, ?_⟩
      · unfold yq_imr
        repeat' split
        all_goals omega
      · unfold yq_imt
        rw [if_neg (by omega)]
        rw [hgi]
      · unfold yq_kp
        repeat' split
        all_goals omega
      · unfold yq_kp
        repeat' split
        all_goals omega
      · unfold yq_kp
        repeat' split
        all_goals omega
    · refine ⟨?_, ?_, ?_⟩
      · unfold yq_kp
        repeat' split
        all_goals omega
      · unfold yq_kp
        repeat' split
        all_goals omega
      · unfold yq_kp
        repeat' split
        all_goals omega
  · refine ⟨?_, ?_, ?_, ?_, ?_, ?_, ?_, ?_, ?_, ?_, ?_, ?_⟩
    · intro j hj
      rw [hgi]
      unfold yq_kp
      rw [if_neg (by omega)]
    · intro j hj
      rw [hgi]
      unfold yq_kp
      rw [if_neg (by omega)]
    · intro j hj
      rw [hgi]
      unfold yq_kp
      rw [if_neg (by omega)]
    · intro j hj
      rw [hgi]
      unfold yq_kp
      rw [if_neg (by omega)]
    · intro j hj
      rw [hgi]
      unfold yq_kp
      rw [if_neg (by omega)]
    · intro j hj
      rw [hgi]
      unfold yq_kp
      rw [if_neg (by omega)]
    · intro j hj
      rw [hgi]
      unfold yq_kp
      rw [if_neg (by omega)]
    · intro j hj
      rw [hgi]
      unfold yq_kp
      rw [if_neg (by omega)]
    · intro j hj
      rw [hgi]
      unfold yq_kp
      rw [if_neg (by omega)]
    · intro j hj
      rw [hgi]
      unfold yq_kp
      rw [if_neg (by omega)]
    · intro j hj
      rw [hgi]
      unfold yq_kp
      rw [if_neg (by omega)]
    · intro j hj
      rw [hgi]
      unfold yq_kp
      rw [if_neg (by omega)]
theorem xw_68_0_1 : yt_hold xT_68 xk_68 xq_68.2.2.1 xG_68 xP_68 xU_68 38 xk_68.2.1.2.2.2 (fun g0 r g => xR_68 r g0 ∧ g = g0) (1000, ([(3, 2147483647), ((-2147483648), 2147483647), (0, 40), ((-2147483648), 2147483647), (0, 12), ((-2147483648), 2147483647), ((-9223372036854775808), 9223372036854775807), ((-9223372036854775808), 9223372036854775807), ((-9223372036854775808), 9223372036854775807), ((-9223372036854775808), 9223372036854775807), ((-9223372036854775808), 9223372036854775807), (0, 40), ((-2147483648), 2147483647), (0, 40), ((-2147483648), 2147483647), (0, 40), ((-2147483648), 2147483647), (0, 12), ((-2147483648), 2147483647), (0, 12), ((-2147483648), 2147483647), (0, 12), ((-2147483648), 2147483647), ((-9223372036854775808), 9223372036854775807), ((-9223372036854775808), 9223372036854775807), ((-9223372036854775808), 9223372036854775807), ((-9223372036854775808), 9223372036854775807), ((-9223372036854775808), 9223372036854775807), ((-9223372036854775808), 9223372036854775807), ((-9223372036854775808), 9223372036854775807), ((-9223372036854775808), 9223372036854775807), ((-9223372036854775808), 9223372036854775807), ((-9223372036854775808), 9223372036854775807), ((-9223372036854775808), 9223372036854775807), ((-9223372036854775808), 9223372036854775807), ((-9223372036854775808), 9223372036854775807), ((-9223372036854775808), 9223372036854775807), ((-9223372036854775808), 9223372036854775807), ((-2147483648), 0)], []), [([], (-1)), ([(38, 1)], 0), ([(11, 1)], 0), ([(12, 1)], 0), ([(13, 1)], 0), ([(14, 1)], 0), ([(15, 1)], 0), ([(16, 1)], 0), ([(17, 1)], 0), ([(19, 1)], 0), ([(21, 1)], 0), ([(23, 1)], 0), ([(24, 1)], 0), ([(25, 1)], 0), ([(26, 1)], 0), ([(27, 1)], 0), ([(28, 1)], 0), ([(29, 1)], 0), ([(30, 1)], 0), ([(31, 1)], 0), ([(32, 1)], 0), ([(33, 1)], 0), ([(34, 1)], 0), ([(35, 1)], 0), ([(36, 1)], 0), ([(37, 1)], 0)], [], []) := by
  intro g0 r gi g hok hh hars hfr hG
  have b0 : 3 ≤ r 0 ∧ r 0 ≤ 2147483647 := hok.1 0 (3, 2147483647) rfl
  have b38 : (-2147483648) ≤ r 38 ∧ r 38 ≤ 0 := hok.1 38 ((-2147483648), 0) rfl
  obtain ⟨hG, hgi⟩ := hG
  have hG : True := hG
  have hh : g = gi := hh
  subst hh
  refine yt_dalt (by decide) (by decide) ?_
  rw [show xk_68.2.1.2.1.1.length = 38 from rfl]
  show ((((0 : Int) + (-1)) = yq_imr ((1 * r 0 + 0) + 0) ∧ (g 44) = yq_imt (g0 44) ((1 * r 0 + 0) + 0) ∧ ((1 * ((1 * r 17 + 0) + 0) + 0) + 0) = yq_kp ((1 * r 0 + 0) + 0) 0 ((1 * ((1 * r 4 + 0) + 0) + 0) + 0) ((1 * ((1 * r 17 + 0) + 0) + 0) + 0) ∧ ((1 * ((1 * r 19 + 0) + 0) + 0) + 0) = yq_kp ((1 * r 0 + 0) + 0) 1 ((1 * ((1 * r 4 + 0) + 0) + 0) + 0) ((1 * ((1 * r 19 + 0) + 0) + 0) + 0) ∧ ((1 * ((1 * r 21 + 0) + 0) + 0) + 0) = yq_kp ((1 * r 0 + 0) + 0) 2 ((1 * ((1 * r 4 + 0) + 0) + 0) + 0) ((1 * ((1 * r 21 + 0) + 0) + 0) + 0)) ∧ ((1 * ((1 * r 11 + 0) + 0) + 0) + 0) = yq_kp ((1 * r 0 + 0) + 0) 0 ((1 * ((1 * r 2 + 0) + 0) + 0) + 0) ((1 * ((1 * r 11 + 0) + 0) + 0) + 0) ∧ ((1 * ((1 * r 13 + 0) + 0) + 0) + 0) = yq_kp ((1 * r 0 + 0) + 0) 1 ((1 * ((1 * r 2 + 0) + 0) + 0) + 0) ((1 * ((1 * r 13 + 0) + 0) + 0) + 0) ∧ ((1 * ((1 * r 15 + 0) + 0) + 0) + 0) = yq_kp ((1 * r 0 + 0) + 0) 2 ((1 * ((1 * r 2 + 0) + 0) + 0) + 0) ((1 * ((1 * r 15 + 0) + 0) + 0) + 0)) ∧ (∀ j : Nat, j < 40 → (g 13) j = yq_kp ((1 * r 0 + 0) + 0) 0 ((g0 2) j) ((g0 13) j)) ∧ (∀ j : Nat, j < 40 → (g 14) j = yq_kp ((1 * r 0 + 0) + 0) 0 ((g0 3) j) ((g0 14) j)) ∧ (∀ j : Nat, j < 40 → (g 15) j = yq_kp ((1 * r 0 + 0) + 0) 0 ((g0 4) j) ((g0 15) j)) ∧ (∀ j : Nat, j < 40 → (g 16) j = yq_kp ((1 * r 0 + 0) + 0) 0 ((g0 5) j) ((g0 16) j)) ∧ (∀ j : Nat, j < 40 → (g 18) j = yq_kp ((1 * r 0 + 0) + 0) 1 ((g0 2) j) ((g0 18) j)) ∧ (∀ j : Nat, j < 40 → (g 19) j = yq_kp ((1 * r 0 + 0) + 0) 1 ((g0 3) j) ((g0 19) j)) ∧ (∀ j : Nat, j < 40 → (g 20) j = yq_kp ((1 * r 0 + 0) + 0) 1 ((g0 4) j) ((g0 20) j)) ∧ (∀ j : Nat, j < 40 → (g 21) j = yq_kp ((1 * r 0 + 0) + 0) 1 ((g0 5) j) ((g0 21) j)) ∧ (∀ j : Nat, j < 40 → (g 23) j = yq_kp ((1 * r 0 + 0) + 0) 2 ((g0 2) j) ((g0 23) j)) ∧ (∀ j : Nat, j < 40 → (g 24) j = yq_kp ((1 * r 0 + 0) + 0) 2 ((g0 3) j) ((g0 24) j)) ∧ (∀ j : Nat, j < 40 → (g 25) j = yq_kp ((1 * r 0 + 0) + 0) 2 ((g0 4) j) ((g0 25) j)) ∧ (∀ j : Nat, j < 40 → (g 26) j = yq_kp ((1 * r 0 + 0) + 0) 2 ((g0 5) j) ((g0 26) j))
  try simp only [Int.one_mul, Int.zero_add, Int.add_zero]
  refine ⟨?_, ?_⟩
  · refine ⟨?_, ?_⟩
    · refine ⟨?_, ?_, ?_, ?_, ?_⟩
      · unfold yq_imr
        repeat' split
        all_goals omega
      · unfold yq_imt
        rw [if_neg (by omega)]
        rw [hgi]
      · unfold yq_kp
        repeat' split
        all_goals omega
      · unfold yq_kp
        repeat' split
        all_goals omega
      · unfold yq_kp
        repeat' split
        all_goals omega
    · refine ⟨?_, ?_, ?_⟩
      · unfold yq_kp
        repeat' split
        all_goals omega
      · unfold yq_kp
        repeat' split
        all_goals omega
      · unfold yq_kp
        repeat' split
        all_goals omega
  · refine ⟨?_, ?_, ?_, ?_, ?_, ?_, ?_, ?_, ?_, ?_, ?_, ?_⟩
    · intro j hj
      rw [hgi]
      unfold yq_kp
      rw [if_neg (by omega)]
    · intro j hj
      rw [hgi]
      unfold yq_kp
      rw [if_neg (by omega)]
    · intro j hj
      rw [hgi]
      unfold yq_kp
      rw [if_neg (by omega)]
    · intro j hj
      rw [hgi]
      unfold yq_kp
      rw [if_neg (by omega)]
    · intro j hj
      rw [hgi]
      unfold yq_kp
      rw [if_neg (by omega)]
    · intro j hj
      rw [hgi]
      unfold yq_kp
      rw [if_neg (by omega)]
    · intro j hj
      rw [hgi]
      unfold yq_kp
      rw [if_neg (by omega)]
    · intro j hj
      rw [hgi]
      unfold yq_kp
      rw [if_neg (by omega)]
    · intro j hj
      rw [hgi]
      unfold yq_kp
      rw [if_neg (by omega)]
    · intro j hj
      rw [hgi]
      unfold yq_kp
      rw [if_neg (by omega)]
    · intro j hj
      rw [hgi]
      unfold yq_kp
      rw [if_neg (by omega)]
    · intro j hj
      rw [hgi]
      unfold yq_kp
      rw [if_neg (by omega)]
theorem xw_68_0_2 : yt_hold xT_68 xk_68 xq_68.2.2.1 xG_68 xP_68 xU_68 38 xk_68.2.1.2.2.2 (fun g0 r g => xR_68 r g0 ∧ g = g0) (1000, ([(0, 0), ((-2147483648), 2147483647), (0, 40), ((-2147483648), 2147483647), (0, 12), ((-2147483648), 2147483647), ((-9223372036854775808), 9223372036854775807), ((-9223372036854775808), 9223372036854775807), ((-9223372036854775808), 9223372036854775807), ((-9223372036854775808), 9223372036854775807), ((-9223372036854775808), 9223372036854775807), (0, 40), ((-2147483648), 2147483647), (0, 40), ((-2147483648), 2147483647), (0, 40), ((-2147483648), 2147483647), (0, 12), ((-2147483648), 2147483647), (0, 12), ((-2147483648), 2147483647), (0, 12), ((-2147483648), 2147483647), ((-9223372036854775808), 9223372036854775807), ((-9223372036854775808), 9223372036854775807), ((-9223372036854775808), 9223372036854775807), ((-9223372036854775808), 9223372036854775807), ((-9223372036854775808), 9223372036854775807), ((-9223372036854775808), 9223372036854775807), ((-9223372036854775808), 9223372036854775807), ((-9223372036854775808), 9223372036854775807), ((-9223372036854775808), 9223372036854775807), ((-9223372036854775808), 9223372036854775807), ((-9223372036854775808), 9223372036854775807), ((-9223372036854775808), 9223372036854775807), ((-9223372036854775808), 9223372036854775807), ((-9223372036854775808), 9223372036854775807), ((-9223372036854775808), 9223372036854775807), ((-2147483648), 2147483647), ((-2147483648), 0)], []), [([], 0), ([(39, 1)], 0), ([(2, 1)], 0), ([(38, 1)], 0), ([(13, 1)], 0), ([(14, 1)], 0), ([(15, 1)], 0), ([(16, 1)], 0), ([(4, 1)], 0), ([(19, 1)], 0), ([(21, 1)], 0), ([(6, 1)], 0), ([(7, 1)], 0), ([(8, 1)], 0), ([(9, 1)], 0), ([(10, 1)], 0), ([(28, 1)], 0), ([(29, 1)], 0), ([(30, 1)], 0), ([(31, 1)], 0), ([(32, 1)], 0), ([(33, 1)], 0), ([(34, 1)], 0), ([(35, 1)], 0), ([(36, 1)], 0), ([(37, 1)], 0)], [], [.inr (.inl (44, ([], 0), ([], 1))), .inr (.inr (.inl (0, 0, [([(17, 1)], 0), ([(18, 1)], 0), ([(4, 1)], 0), ([(5, 1)], 0)], [28, 29, 30, 31, 6, 7, 8, 9], [29, 30, 31]))), .inr (.inr (.inl (133, 0, [([(11, 1)], 0), ([(12, 1)], 0), ([(2, 1)], 0), ([(3, 1)], 0), ([(38, 1)], 0)], [12, 13, 14, 15, 16, 1, 2, 3, 4, 5], [13, 14, 15, 16])))]) := by
  intro g0 r gi g hok hh hars hfr hG
  have b0 : 0 ≤ r 0 ∧ r 0 ≤ 0 := hok.1 0 (0, 0) rfl
  have b38 : (-2147483648) ≤ r 38 ∧ r 38 ≤ 2147483647 := hok.1 38 ((-2147483648), 2147483647) rfl
  have b39 : (-2147483648) ≤ r 39 ∧ r 39 ≤ 0 := hok.1 39 ((-2147483648), 0) rfl
  obtain ⟨hG, hgi⟩ := hG
  have hG : True := hG
  obtain ⟨h0, hh, e0⟩ := hh
  have e0 : g = ys_gup h0 44 (((0 : Int) + 0)).toNat ((0 : Int) + 1) := e0
  obtain ⟨h1, hh, e1, k1⟩ := hh
  have k1 : ∀ j, j ∉ [29, 30, 31] → h0 j = h1 j := k1
  obtain ⟨h2, hh, e2, k2⟩ := hh
  have k2 : ∀ j, j ∉ [13, 14, 15, 16] → h1 j = h2 j := k2
  have e2 : ((∀ j : Nat, j < 40 → (h1 13) j = (h2 2) j) ∧ (∀ j : Nat, j < 40 → (h1 14) j = (h2 3) j) ∧ (∀ j : Nat, j < 40 → (h1 15) j = (h2 4) j) ∧ (∀ j : Nat, j < 40 → (h1 16) j = (h2 5) j)) ∧ ((1 * ((1 * r 38 + 0) + 0) + 0) + 0) = ye_wr ((1 * ((1 * r 12 + 0) + 0) + 0) + 0) 1 := e2
  have hh : h2 = gi := hh
  subst hh
  refine yt_dalt (by decide) (by decide) ?_
  rw [show xk_68.2.1.2.1.1.length = 38 from rfl]
  show ((((0 : Int) + 0) = yq_imr ((1 * r 0 + 0) + 0) ∧ (g 44) = yq_imt (g0 44) ((1 * r 0 + 0) + 0) ∧ ((1 * ((1 * r 4 + 0) + 0) + 0) + 0) = yq_kp ((1 * r 0 + 0) + 0) 0 ((1 * ((1 * r 4 + 0) + 0) + 0) + 0) ((1 * ((1 * r 17 + 0) + 0) + 0) + 0) ∧ ((1 * ((1 * r 19 + 0) + 0) + 0) + 0) = yq_kp ((1 * r 0 + 0) + 0) 1 ((1 * ((1 * r 4 + 0) + 0) + 0) + 0) ((1 * ((1 * r 19 + 0) + 0) + 0) + 0) ∧ ((1 * ((1 * r 21 + 0) + 0) + 0) + 0) = yq_kp ((1 * r 0 + 0) + 0) 2 ((1 * ((1 * r 4 + 0) + 0) + 0) + 0) ((1 * ((1 * r 21 + 0) + 0) + 0) + 0)) ∧ ((1 * ((1 * r 2 + 0) + 0) + 0) + 0) = yq_kp ((1 * r 0 + 0) + 0) 0 ((1 * ((1 * r 2 + 0) + 0) + 0) + 0) ((1 * ((1 * r 11 + 0) + 0) + 0) + 0) ∧ ((1 * ((1 * r 13 + 0) + 0) + 0) + 0) = yq_kp ((1 * r 0 + 0) + 0) 1 ((1 * ((1 * r 2 + 0) + 0) + 0) + 0) ((1 * ((1 * r 13 + 0) + 0) + 0) + 0) ∧ ((1 * ((1 * r 15 + 0) + 0) + 0) + 0) = yq_kp ((1 * r 0 + 0) + 0) 2 ((1 * ((1 * r 2 + 0) + 0) + 0) + 0) ((1 * ((1 * r 15 + 0) + 0) + 0) + 0)) ∧ (∀ j : Nat, j < 40 → (g 13) j = yq_kp ((1 * r 0 + 0) + 0) 0 ((g0 2) j) ((g0 13) j)) ∧ (∀ j : Nat, j < 40 → (g 14) j = yq_kp ((1 * r 0 + 0) + 0) 0 ((g0 3) j) ((g0 14) j)) ∧ (∀ j : Nat, j < 40 → (g 15) j = yq_kp ((1 * r 0 + 0) + 0) 0 ((g0 4) j) ((g0 15) j)) ∧ (∀ j : Nat, j < 40 → (g 16) j = yq_kp ((1 * r 0 + 0) + 0) 0 ((g0 5) j) ((g0 16) j)) ∧ (∀ j : Nat, j < 40 → (g 18) j = yq_kp ((1 * r 0 + 0) + 0) 1 ((g0 2) j) ((g0 18) j)) ∧ (∀ j : Nat, j < 40 → (g 19) j = yq_kp ((1 * r 0 + 0) + 0) 1 ((g0 3) j) ((g0 19) j)) ∧ (∀ j : Nat, j < 40 → (g 20) j = yq_kp ((1 * r 0 + 0) + 0) 1 ((g0 4) j) ((g0 20) j)) ∧ (∀ j : Nat, j < 40 → (g 21) j = yq_kp ((1 * r 0 + 0) + 0) 1 ((g0 5) j) ((g0 21) j)) ∧ (∀ j : Nat, j < 40 → (g 23) j = yq_kp ((1 * r 0 + 0) + 0) 2 ((g0 2) j) ((g0 23) j)) ∧ (∀ j : Nat, j < 40 → (g 24) j = yq_kp ((1 * r 0 + 0) + 0) 2 ((g0 3) j) ((g0 24) j)) ∧ (∀ j : Nat, j < 40 → (g 25) j = yq_kp ((1 * r 0 + 0) + 0) 2 ((g0 4) j) ((g0 25) j)) ∧ (∀ j : Nat, j < 40 → (g 26) j = yq_kp ((1 * r 0 + 0) + 0) 2 ((g0 5) j) ((g0 26) j))
  try simp only [Int.one_mul, Int.zero_add, Int.add_zero]
  refine ⟨?_, ?_⟩
  · refine ⟨?_, ?_⟩
    · refine ⟨?_, ?_, ?_, ?_, ?_⟩
      · unfold yq_imr
        repeat' split
        all_goals omega
      · unfold yq_imt
        rw [if_pos (by omega)]
        try simp only [Int.one_mul, Int.zero_add, Int.add_zero] at e0
        rw [e0, yq_gup_self, k1 44 (by decide), k2 44 (by decide), hgi] <;> (congr 1 <;> omega)
      · unfold yq_kp
        repeat' split
        all_goals omega
      · unfold yq_kp
        repeat' split
        all_goals omega
      · unfold yq_kp
        repeat' split
        all_goals omega
    · refine ⟨?_, ?_, ?_⟩
      · unfold yq_kp
        repeat' split
        all_goals omega
      · unfold yq_kp
        repeat' split
        all_goals omega
      · unfold yq_kp
        repeat' split
        all_goals omega
  · try simp only [Int.one_mul, Int.zero_add, Int.add_zero] at e2
    obtain ⟨⟨m0, m1, m2, m3⟩, mc⟩ := e2
    refine ⟨?_, ?_, ?_, ?_, ?_, ?_, ?_, ?_, ?_, ?_, ?_, ?_⟩
    · intro j hj
      rw [e0, yq_gup_ne (by decide), k1 13 (by decide), m0 j hj, hgi]
      unfold yq_kp
      rw [if_pos (by omega)]
    · intro j hj
      rw [e0, yq_gup_ne (by decide), k1 14 (by decide), m1 j hj, hgi]
      unfold yq_kp
      rw [if_pos (by omega)]
    · intro j hj
      rw [e0, yq_gup_ne (by decide), k1 15 (by decide), m2 j hj, hgi]
      unfold yq_kp
      rw [if_pos (by omega)]
    · intro j hj
      rw [e0, yq_gup_ne (by decide), k1 16 (by decide), m3 j hj, hgi]
      unfold yq_kp
      rw [if_pos (by omega)]
    · intro j hj
      rw [e0, yq_gup_ne (by decide), k1 18 (by decide), k2 18 (by decide), hgi]
      unfold yq_kp
      rw [if_neg (by omega)]
    · intro j hj
      rw [e0, yq_gup_ne (by decide), k1 19 (by decide), k2 19 (by decide), hgi]
      unfold yq_kp
      rw [if_neg (by omega)]
    · intro j hj
      rw [e0, yq_gup_ne (by decide), k1 20 (by decide), k2 20 (by decide), hgi]
      unfold yq_kp
      rw [if_neg (by omega)]
    · intro j hj
      rw [e0, yq_gup_ne (by decide), k1 21 (by decide), k2 21 (by decide), hgi]
      unfold yq_kp
      rw [if_neg (by omega)]
    · intro j hj
      rw [e0, yq_gup_ne (by decide), k1 23 (by decide), k2 23 (by decide), hgi]
      unfold yq_kp
      rw [if_neg (by omega)]
    · intro j hj
      rw [e0, yq_gup_ne (by decide), k1 24 (by decide), k2 24 (by decide), hgi]
      unfold yq_kp
      rw [if_neg (by omega)]
    · intro j hj
      rw [e0, yq_gup_ne (by decide), k1 25 (by decide), k2 25 (by decide), hgi]
      unfold yq_kp
      rw [if_neg (by omega)]
    · intro j hj
      rw [e0, yq_gup_ne (by decide), k1 26 (by decide), k2 26 (by decide), hgi]
      unfold yq_kp
      rw [if_neg (by omega)]
theorem xw_68_0_3 : yt_hold xT_68 xk_68 xq_68.2.2.1 xG_68 xP_68 xU_68 38 xk_68.2.1.2.2.2 (fun g0 r g => xR_68 r g0 ∧ g = g0) (1000, ([(1, 1), ((-2147483648), 2147483647), (0, 40), ((-2147483648), 2147483647), (0, 12), ((-2147483648), 2147483647), ((-9223372036854775808), 9223372036854775807), ((-9223372036854775808), 9223372036854775807), ((-9223372036854775808), 9223372036854775807), ((-9223372036854775808), 9223372036854775807), ((-9223372036854775808), 9223372036854775807), (0, 40), ((-2147483648), 2147483647), (0, 40), ((-2147483648), 2147483647), (0, 40), ((-2147483648), 2147483647), (0, 12), ((-2147483648), 2147483647), (0, 12), ((-2147483648), 2147483647), (0, 12), ((-2147483648), 2147483647), ((-9223372036854775808), 9223372036854775807), ((-9223372036854775808), 9223372036854775807), ((-9223372036854775808), 9223372036854775807), ((-9223372036854775808), 9223372036854775807), ((-9223372036854775808), 9223372036854775807), ((-9223372036854775808), 9223372036854775807), ((-9223372036854775808), 9223372036854775807), ((-9223372036854775808), 9223372036854775807), ((-9223372036854775808), 9223372036854775807), ((-9223372036854775808), 9223372036854775807), ((-9223372036854775808), 9223372036854775807), ((-9223372036854775808), 9223372036854775807), ((-9223372036854775808), 9223372036854775807), ((-9223372036854775808), 9223372036854775807), ((-9223372036854775808), 9223372036854775807), ((-2147483648), 2147483647), ((-2147483648), 0)], []), [([], 0), ([(39, 1)], 0), ([(11, 1)], 0), ([(12, 1)], 0), ([(2, 1)], 0), ([(38, 1)], 0), ([(15, 1)], 0), ([(16, 1)], 0), ([(17, 1)], 0), ([(4, 1)], 0), ([(21, 1)], 0), ([(23, 1)], 0), ([(24, 1)], 0), ([(25, 1)], 0), ([(26, 1)], 0), ([(27, 1)], 0), ([(6, 1)], 0), ([(7, 1)], 0), ([(8, 1)], 0), ([(9, 1)], 0), ([(10, 1)], 0), ([(33, 1)], 0), ([(34, 1)], 0), ([(35, 1)], 0), ([(36, 1)], 0), ([(37, 1)], 0)], [], [.inr (.inl (44, ([], 1), ([], 1))), .inr (.inr (.inl (0, 0, [([(19, 1)], 0), ([(20, 1)], 0), ([(4, 1)], 0), ([(5, 1)], 0)], [32, 33, 34, 35, 6, 7, 8, 9], [33, 34, 35]))), .inr (.inr (.inl (133, 0, [([(13, 1)], 0), ([(14, 1)], 0), ([(2, 1)], 0), ([(3, 1)], 0), ([(38, 1)], 0)], [17, 18, 19, 20, 21, 1, 2, 3, 4, 5], [18, 19, 20, 21])))]) := by
  intro g0 r gi g hok hh hars hfr hG
  have b0 : 1 ≤ r 0 ∧ r 0 ≤ 1 := hok.1 0 (1, 1) rfl
  have b38 : (-2147483648) ≤ r 38 ∧ r 38 ≤ 2147483647 := hok.1 38 ((-2147483648), 2147483647) rfl
  have b39 : (-2147483648) ≤ r 39 ∧ r 39 ≤ 0 := hok.1 39 ((-2147483648), 0) rfl
  obtain ⟨hG, hgi⟩ := hG
  have hG : True := hG
  obtain ⟨h0, hh, e0⟩ := hh
  have e0 : g = ys_gup h0 44 (((0 : Int) + 1)).toNat ((0 : Int) + 1) := e0
  obtain ⟨h1, hh, e1, k1⟩ := hh
  have k1 : ∀ j, j ∉ [33, 34, 35] → h0 j = h1 j := k1
  obtain ⟨h2, hh, e2, k2⟩ := hh
  have k2 : ∀ j, j ∉ [18, 19, 20, 21] → h1 j = h2 j := k2
  have e2 : ((∀ j : Nat, j < 40 → (h1 18) j = (h2 2) j) ∧ (∀ j : Nat, j < 40 → (h1 19) j = (h2 3) j) ∧ (∀ j : Nat, j < 40 → (h1 20) j = (h2 4) j) ∧ (∀ j : Nat, j < 40 → (h1 21) j = (h2 5) j)) ∧ ((1 * ((1 * r 38 + 0) + 0) + 0) + 0) = ye_wr ((1 * ((1 * r 14 + 0) + 0) + 0) + 0) 1 := e2
  have hh : h2 = gi := hh
  subst hh
  refine yt_dalt (by decide) (by decide) ?_
  rw [show xk_68.2.1.2.1.1.length = 38 from rfl]
  show ((((0 : Int) + 0) = yq_imr ((1 * r 0 + 0) + 0) ∧ (g 44) = yq_imt (g0 44) ((1 * r 0 + 0) + 0) ∧ ((1 * ((1 * r 17 + 0) + 0) + 0) + 0) = yq_kp ((1 * r 0 + 0) + 0) 0 ((1 * ((1 * r 4 + 0) + 0) + 0) + 0) ((1 * ((1 * r 17 + 0) + 0) + 0) + 0) ∧ ((1 * ((1 * r 4 + 0) + 0) + 0) + 0) = yq_kp ((1 * r 0 + 0) + 0) 1 ((1 * ((1 * r 4 + 0) + 0) + 0) + 0) ((1 * ((1 * r 19 + 0) + 0) + 0) + 0) ∧ ((1 * ((1 * r 21 + 0) + 0) + 0) + 0) = yq_kp ((1 * r 0 + 0) + 0) 2 ((1 * ((1 * r 4 + 0) + 0) + 0) + 0) ((1 * ((1 * r 21 + 0) + 0) + 0) + 0)) ∧ ((1 * ((1 * r 11 + 0) + 0) + 0) + 0) = yq_kp ((1 * r 0 + 0) + 0) 0 ((1 * ((1 * r 2 + 0) + 0) + 0) + 0) ((1 * ((1 * r 11 + 0) + 0) + 0) + 0) ∧ ((1 * ((1 * r 2 + 0) + 0) + 0) + 0) = yq_kp ((1 * r 0 + 0) + 0) 1 ((1 * ((1 * r 2 + 0) + 0) + 0) + 0) ((1 * ((1 * r 13 + 0) + 0) + 0) + 0) ∧ ((1 * ((1 * r 15 + 0) + 0) + 0) + 0) = yq_kp ((1 * r 0 + 0) + 0) 2 ((1 * ((1 * r 2 + 0) + 0) + 0) + 0) ((1 * ((1 * r 15 + 0) + 0) + 0) + 0)) ∧ (∀ j : Nat, j < 40 → (g 13) j = yq_kp ((1 * r 0 + 0) + 0) 0 ((g0 2) j) ((g0 13) j)) ∧ (∀ j : Nat, j < 40 → (g 14) j = yq_kp ((1 * r 0 + 0) + 0) 0 ((g0 3) j) ((g0 14) j)) ∧ (∀ j : Nat, j < 40 → (g 15) j = yq_kp ((1 * r 0 + 0) + 0) 0 ((g0 4) j) ((g0 15) j)) ∧ (∀ j : Nat, j < 40 → (g 16) j = yq_kp ((1 * r 0 + 0) + 0) 0 ((g0 5) j) ((g0 16) j)) ∧ (∀ j : Nat, j < 40 → (g 18) j = yq_kp ((1 * r 0 + 0) + 0) 1 ((g0 2) j) ((g0 18) j)) ∧ (∀ j : Nat, j < 40 → (g 19) j = yq_kp ((1 * r 0 + 0) + 0) 1 ((g0 3) j) ((g0 19) j)) ∧ (∀ j : Nat, j < 40 → (g 20) j = yq_kp ((1 * r 0 + 0) + 0) 1 ((g0 4) j) ((g0 20) j)) ∧ (∀ j : Nat, j < 40 → (g 21) j = yq_kp ((1 * r 0 + 0) + 0) 1 ((g0 5) j) ((g0 21) j)) ∧ (∀ j : Nat, j < 40 → (g 23) j = yq_kp ((1 * r 0 + 0) + 0) 2 ((g0 2) j) ((g0 23) j)) ∧ (∀ j : Nat, j < 40 → (g 24) j = yq_kp ((1 * r 0 + 0) + 0) 2 ((g0 3) j) ((g0 24) j)) ∧ (∀ j : Nat, j < 40 → (g 25) j = yq_kp ((1 * r 0 + 0) + 0) 2 ((g0 4) j) ((g0 25) j)) ∧ (∀ j : Nat, j < 40 → (g 26) j = yq_kp ((1 * r 0 + 0) + 0) 2 ((g0 5) j) ((g0 26) j))
  try simp only [Int.one_mul, Int.zero_add, Int.add_zero]
  refine ⟨?_, ?_⟩
  · refine ⟨?_, ?_⟩
    · refine ⟨?_, ?_, ?_, ?_, ?_⟩
      · unfold yq_imr
        repeat' split
        all_goals omega
      · unfold yq_imt
        rw [if_pos (by omega)]
        try simp only [Int.one_mul, Int.zero_add, Int.add_zero] at e0
        rw [e0, yq_gup_self, k1 44 (by decide), k2 44 (by decide), hgi] <;> (congr 1 <;> omega)
      · unfold yq_kp
        repeat' split
        all_goals omega
      · unfold yq_kp
        repeat' split
        all_goals omega
      · unfold yq_kp
        repeat' split
        all_goals omega
    · refine ⟨?_, ?_, ?_⟩
      · unfold yq_kp
        repeat' split
        all_goals omega
      · unfold yq_kp
        repeat' split
        all_goals omega
      · unfold yq_kp
        repeat' split
        all_goals omega
  · try simp only [Int.one_mul, Int.zero_add, Int.add_zero] at e2
    obtain ⟨⟨m0, m1, m2, m3⟩, mc⟩ := e2
    refine ⟨?_, ?_, ?_, ?_, ?_, ?_, ?_, ?_, ?_, ?_, ?_, ?_⟩
    · intro j hj
      rw [e0, yq_gup_ne (by decide), k1 13 (by decide), k2 13 (by decide), hgi]
      unfold yq_kp
      rw [if_neg (by omega)]
    · intro j hj
      rw [e0, yq_gup_ne (by decide), k1 14 (by decide), k2 14 (by decide), hgi]
      unfold yq_kp
      rw [if_neg (by omega)]
    · intro j hj
      rw [e0, yq_gup_ne (by decide), k1 15 (by decide), k2 15 (by decide), hgi]
      unfold yq_kp
      rw [if_neg (by omega)]
    · intro j hj
      rw [e0, yq_gup_ne (by decide), k1 16 (by decide), k2 16 (by decide), hgi]
      unfold yq_kp
      rw [if_neg (by omega)]
    · intro j hj
      rw [e0, yq_gup_ne (by decide), k1 18 (by decide), m0 j hj, hgi]
      unfold yq_kp
      rw [if_pos (by omega)]
    · intro j hj
      rw [e0, yq_gup_ne (by decide), k1 19 (by decide), m1 j hj, hgi]
      unfold yq_kp
      rw [if_pos (by omega)]
    · intro j hj
      rw [e0, yq_gup_ne (by decide), k1 20 (by decide), m2 j hj, hgi]
      unfold yq_kp
      rw [if_pos (by omega)]
    · intro j hj
      rw [e0, yq_gup_ne (by decide), k1 21 (by decide), m3 j hj, hgi]
      unfold yq_kp
      rw [if_pos (by omega)]
    · intro j hj
      rw [e0, yq_gup_ne (by decide), k1 23 (by decide), k2 23 (by decide), hgi]
      unfold yq_kp
      rw [if_neg (by omega)]
    · intro j hj
      rw [e0, yq_gup_ne (by decide), k1 24 (by decide), k2 24 (by decide), hgi]
      unfold yq_kp
      rw [if_neg (by omega)]
    · intro j hj
      rw [e0, yq_gup_ne (by decide), k1 25 (by decide), k2 25 (by decide), hgi]
      unfold yq_kp
      rw [if_neg (by omega)]
    · intro j hj
      rw [e0, yq_gup_ne (by decide), k1 26 (by decide), k2 26 (by decide), hgi]
      unfold yq_kp
      rw [if_neg (by omega)]
theorem xw_68_0_4 : yt_hold xT_68 xk_68 xq_68.2.2.1 xG_68 xP_68 xU_68 38 xk_68.2.1.2.2.2 (fun g0 r g => xR_68 r g0 ∧ g = g0) (1000, ([(2, 2), ((-2147483648), 2147483647), (0, 40), ((-2147483648), 2147483647), (0, 12), ((-2147483648), 2147483647), ((-9223372036854775808), 9223372036854775807), ((-9223372036854775808), 9223372036854775807), ((-9223372036854775808), 9223372036854775807), ((-9223372036854775808), 9223372036854775807), ((-9223372036854775808), 9223372036854775807), (0, 40), ((-2147483648), 2147483647), (0, 40), ((-2147483648), 2147483647), (0, 40), ((-2147483648), 2147483647), (0, 12), ((-2147483648), 2147483647), (0, 12), ((-2147483648), 2147483647), (0, 12), ((-2147483648), 2147483647), ((-9223372036854775808), 9223372036854775807), ((-9223372036854775808), 9223372036854775807), ((-9223372036854775808), 9223372036854775807), ((-9223372036854775808), 9223372036854775807), ((-9223372036854775808), 9223372036854775807), ((-9223372036854775808), 9223372036854775807), ((-9223372036854775808), 9223372036854775807), ((-9223372036854775808), 9223372036854775807), ((-9223372036854775808), 9223372036854775807), ((-9223372036854775808), 9223372036854775807), ((-9223372036854775808), 9223372036854775807), ((-9223372036854775808), 9223372036854775807), ((-9223372036854775808), 9223372036854775807), ((-9223372036854775808), 9223372036854775807), ((-9223372036854775808), 9223372036854775807), ((-2147483648), 2147483647), ((-2147483648), 0)], []), [([], 0), ([(39, 1)], 0), ([(11, 1)], 0), ([(12, 1)], 0), ([(13, 1)], 0), ([(14, 1)], 0), ([(2, 1)], 0), ([(38, 1)], 0), ([(17, 1)], 0), ([(19, 1)], 0), ([(4, 1)], 0), ([(23, 1)], 0), ([(24, 1)], 0), ([(25, 1)], 0), ([(26, 1)], 0), ([(27, 1)], 0), ([(28, 1)], 0), ([(29, 1)], 0), ([(30, 1)], 0), ([(31, 1)], 0), ([(32, 1)], 0), ([(6, 1)], 0), ([(7, 1)], 0), ([(8, 1)], 0), ([(9, 1)], 0), ([(10, 1)], 0)], [], [.inr (.inl (44, ([], 2), ([], 1))), .inr (.inr (.inl (0, 0, [([(21, 1)], 0), ([(22, 1)], 0), ([(4, 1)], 0), ([(5, 1)], 0)], [36, 37, 38, 39, 6, 7, 8, 9], [37, 38, 39]))), .inr (.inr (.inl (133, 0, [([(15, 1)], 0), ([(16, 1)], 0), ([(2, 1)], 0), ([(3, 1)], 0), ([(38, 1)], 0)], [22, 23, 24, 25, 26, 1, 2, 3, 4, 5], [23, 24, 25, 26])))]) := by
  intro g0 r gi g hok hh hars hfr hG
  have b0 : 2 ≤ r 0 ∧ r 0 ≤ 2 := hok.1 0 (2, 2) rfl
  have b38 : (-2147483648) ≤ r 38 ∧ r 38 ≤ 2147483647 := hok.1 38 ((-2147483648), 2147483647) rfl
  have b39 : (-2147483648) ≤ r 39 ∧ r 39 ≤ 0 := hok.1 39 ((-2147483648), 0) rfl
  obtain ⟨hG, hgi⟩ := hG
  have hG : True := hG
  obtain ⟨h0, hh, e0⟩ := hh
  have e0 : g = ys_gup h0 44 (((0 : Int) + 2)).toNat ((0 : Int) + 1) := e0
  obtain ⟨h1, hh, e1, k1⟩ := hh
  have k1 : ∀ j, j ∉ [37, 38, 39] → h0 j = h1 j := k1
  obtain ⟨h2, hh, e2, k2⟩ := hh
  have k2 : ∀ j, j ∉ [23, 24, 25, 26] → h1 j = h2 j := k2
  have e2 : ((∀ j : Nat, j < 40 → (h1 23) j = (h2 2) j) ∧ (∀ j : Nat, j < 40 → (h1 24) j = (h2 3) j) ∧ (∀ j : Nat, j < 40 → (h1 25) j = (h2 4) j) ∧ (∀ j : Nat, j < 40 → (h1 26) j = (h2 5) j)) ∧ ((1 * ((1 * r 38 + 0) + 0) + 0) + 0) = ye_wr ((1 * ((1 * r 16 + 0) + 0) + 0) + 0) 1 := e2
  have hh : h2 = gi := hh
  subst hh
  refine yt_dalt (by decide) (by decide) ?_
  rw [show xk_68.2.1.2.1.1.length = 38 from rfl]
  show ((((0 : Int) + 0) = yq_imr ((1 * r 0 + 0) + 0) ∧ (g 44) = yq_imt (g0 44) ((1 * r 0 + 0) + 0) ∧ ((1 * ((1 * r 17 + 0) + 0) + 0) + 0) = yq_kp ((1 * r 0 + 0) + 0) 0 ((1 * ((1 * r 4 + 0) + 0) + 0) + 0) ((1 * ((1 * r 17 + 0) + 0) + 0) + 0) ∧ ((1 * ((1 * r 19 + 0) + 0) + 0) + 0) = yq_kp ((1 * r 0 + 0) + 0) 1 ((1 * ((1 * r 4 + 0) + 0) + 0) + 0) ((1 * ((1 * r 19 + 0) + 0) + 0) + 0) ∧ ((1 * ((1 * r 4 + 0) + 0) + 0) + 0) = yq_kp ((1 * r 0 + 0) + 0) 2 ((1 * ((1 * r 4 + 0) + 0) + 0) + 0) ((1 * ((1 * r 21 + 0) + 0) + 0) + 0)) ∧ ((1 * ((1 * r 11 + 0) + 0) + 0) + 0) = yq_kp ((1 * r 0 + 0) + 0) 0 ((1 * ((1 * r 2 + 0) + 0) + 0) + 0) ((1 * ((1 * r 11 + 0) + 0) + 0) + 0) ∧ ((1 * ((1 * r 13 + 0) + 0) + 0) + 0) = yq_kp ((1 * r 0 + 0) + 0) 1 ((1 * ((1 * r 2 + 0) + 0) + 0) + 0) ((1 * ((1 * r 13 + 0) + 0) + 0) + 0) ∧ ((1 * ((1 * r 2 + 0) + 0) + 0) + 0) = yq_kp ((1 * r 0 + 0) + 0) 2 ((1 * ((1 * r 2 + 0) + 0) + 0) + 0) ((1 * ((1 * r 15 + 0) + 0) + 0) + 0)) ∧ (∀ j : Nat, j < 40 → (g 13) j = yq_kp ((1 * r 0 + 0) + 0) 0 ((g0 2) j) ((g0 13) j)) ∧ (∀ j : Nat, j < 40 → (g 14) j = yq_kp ((1 * r 0 + 0) + 0) 0 ((g0 3) j) ((g0 14) j)) ∧ (∀ j : Nat, j < 40 → (g 15) j = yq_kp ((1 * r 0 + 0) + 0) 0 ((g0 4) j) ((g0 15) j)) ∧ (∀ j : Nat, j < 40 → (g 16) j = yq_kp ((1 * r 0 + 0) + 0) 0 ((g0 5) j) ((g0 16) j)) ∧ (∀ j : Nat, j < 40 → (g 18) j = yq_kp ((1 * r 0 + 0) + 0) 1 ((g0 2) j) ((g0 18) j)) ∧ (∀ j : Nat, j < 40 → (g 19) j = yq_kp ((1 * r 0 + 0) + 0) 1 ((g0 3) j) ((g0 19) j)) ∧ (∀ j : Nat, j < 40 → (g 20) j = yq_kp ((1 * r 0 + 0) + 0) 1 ((g0 4) j) ((g0 20) j)) ∧ (∀ j : Nat, j < 40 → (g 21) j = yq_kp ((1 * r 0 + 0) + 0) 1 ((g0 5) j) ((g0 21) j)) ∧ (∀ j : Nat, j < 40 → (g 23) j = yq_kp ((1 * r 0 + 0) + 0) 2 ((g0 2) j) ((g0 23) j)) ∧ (∀ j : Nat, j < 40 → (g 24) j = yq_kp ((1 * r 0 + 0) + 0) 2 ((g0 3) j) ((g0 24) j)) ∧ (∀ j : Nat, j < 40 → (g 25) j = yq_kp ((1 * r 0 + 0) + 0) 2 ((g0 4) j) ((g0 25) j)) ∧ (∀ j : Nat, j < 40 → (g 26) j = yq_kp ((1 * r 0 + 0) + 0) 2 ((g0 5) j) ((g0 26) j))
  try simp only [Int.one_mul, Int.zero_add, Int.add_zero]
  refine ⟨?_, ?_⟩
  · refine ⟨?_, ?_⟩
    · refine ⟨?_, ?_, ?_, ?_, ?_⟩
      · unfold yq_imr
        repeat' split
        all_goals omega
      · unfold yq_imt
        rw [if_pos (by omega)]
        try simp only [Int.one_mul, Int.zero_add, Int.add_zero] at e0
        rw [e0, yq_gup_self, k1 44 (by decide), k2 44 (by decide), hgi] <;> (congr 1 <;> omega)
      · unfold yq_kp
        repeat' split
        all_goals omega
      · unfold yq_kp
        repeat' split
        all_goals omega
      · unfold yq_kp
        repeat' split
        all_goals omega
    · refine ⟨?_, ?_, ?_⟩
      · unfold yq_kp
        repeat' split
        all_goals omega
      · unfold yq_kp
        repeat' split
        all_goals omega
      · unfold yq_kp
        repeat' split
        all_goals omega
  · try simp only [Int.one_mul, Int.zero_add, Int.add_zero] at e2
    obtain ⟨⟨m0, m1, m2, m3⟩, mc⟩ := e2
    refine ⟨?_, ?_, ?_, ?_, ?_, ?_, ?_, ?_, ?_, ?_, ?_, ?_⟩
    · intro j hj
      rw [e0, yq_gup_ne (by decide), k1 13 (by decide), k2 13 (by decide), hgi]
      unfold yq_kp
      rw [if_neg (by omega)]
    · intro j hj
      rw [e0, yq_gup_ne (by decide), k1 14 (by decide), k2 14 (by decide), hgi]
      unfold yq_kp
      rw [if_neg (by omega)]
    · intro j hj
      rw [e0, yq_gup_ne (by decide), k1 15 (by decide), k2 15 (by decide), hgi]
      unfold yq_kp
      rw [if_neg (by omega)]
    · intro j hj
      rw [e0, yq_gup_ne (by decide), k1 16 (by decide), k2 16 (by decide), hgi]
      unfold yq_kp
      rw [if_neg (by omega)]
    · intro j hj
      rw [e0, yq_gup_ne (by decide), k1 18 (by decide), k2 18 (by decide), hgi]
      unfold yq_kp
      rw [if_neg (by omega)]
    · intro j hj
      rw [e0, yq_gup_ne (by decide), k1 19 (by decide), k2 19 (by decide), hgi]
      unfold yq_kp
      rw [if_neg (by omega)]
    · intro j hj
      rw [e0, yq_gup_ne (by decide), k1 20 (by decide), k2 20 (by decide), hgi]
      unfold yq_kp
      rw [if_neg (by omega)]
    · intro j hj
      rw [e0, yq_gup_ne (by decide), k1 21 (by decide), k2 21 (by decide), hgi]
      unfold yq_kp
      rw [if_neg (by omega)]
    · intro j hj
      rw [e0, yq_gup_ne (by decide), k1 23 (by decide), m0 j hj, hgi]
      unfold yq_kp
      rw [if_pos (by omega)]
    · intro j hj
      rw [e0, yq_gup_ne (by decide), k1 24 (by decide), m1 j hj, hgi]
      unfold yq_kp
      rw [if_pos (by omega)]
    · intro j hj
      rw [e0, yq_gup_ne (by decide), k1 25 (by decide), m2 j hj, hgi]
      unfold yq_kp
      rw [if_pos (by omega)]
    · intro j hj
      rw [e0, yq_gup_ne (by decide), k1 26 (by decide), m3 j hj, hgi]
      unfold yq_kp
      rw [if_pos (by omega)]
theorem xn_68 : ∀ (j : Nat) (q : Nat × yt_T), xq_68.2.2.1[j]? = some q → q.2.2.2 = false → ∀ g0 r g, xG_68 j g0 r g
  | n + 0, q, hq, _ => by cases hq
theorem xs_68 : ∀ j, xq_68.2.2.2.getD j false = false → ∀ r g g', xP_68 j r g g'
  | 0, hf => by cases hf
  | n + 1, _ => fun _ _ _ => trivial
theorem xc_68 {l : Launch} {D : va_G} {cT : Nat → ClassId} {tys : List (ClassId × FieldType)} (hty : yx_Ty tys cT) : yt_Con l D vwCl cT tys yG yw_s7 xk_68 xR_68 xP_68 := yx_sem (calls := xa_68) (Z := xq_68) (tb := xT_68) (pt := xU_68) (Ga := xG_68) (vs := xv_68) (fun _ _ _ _ => trivial) 300 (by decide +kernel) yz_X11_image_ok hty (yl_lkX11 _) (yl_cqkX11 _) (List.forall_mem_cons.mpr ⟨⟨xc_2 hty, yg_CLs yl_wX11_377 yd_yX11_isImage, fun _ _ _ => trivial⟩, List.forall_mem_cons.mpr ⟨⟨xc_4 hty, yg_CLv rfl rfl rfl yl_wX11_380 yd_yX6_become, fun _ _ _ => trivial⟩, List.forall_mem_cons.mpr ⟨⟨xc_5 hty, yg_CLv rfl rfl rfl yl_wX11_383 yd_yX2_become, fun _ _ _ => trivial⟩, List.forall_mem_cons.mpr ⟨⟨xc_6 hty, yg_CLv rfl rfl rfl yl_wX11_386 yd_yX3_become, fun _ _ _ => trivial⟩, List.forall_mem_cons.mpr ⟨⟨xc_3 hty, yg_CLv rfl rfl rfl yl_wX11_107 yd_yX11_told, fun _ _ _ => trivial⟩, List.forall_mem_cons.mpr ⟨⟨xc_4 hty, yg_CLv rfl rfl rfl yl_wX11_380 yd_yX6_become, fun _ _ _ => trivial⟩, List.forall_mem_cons.mpr ⟨⟨xc_5 hty, yg_CLv rfl rfl rfl yl_wX11_383 yd_yX2_become, fun _ _ _ => trivial⟩, List.forall_mem_cons.mpr ⟨⟨xc_6 hty, yg_CLv rfl rfl rfl yl_wX11_386 yd_yX3_become, fun _ _ _ => trivial⟩, List.forall_mem_cons.mpr ⟨⟨xc_4 hty, yg_CLv rfl rfl rfl yl_wX11_380 yd_yX6_become, fun _ _ _ => trivial⟩, List.forall_mem_cons.mpr ⟨⟨xc_5 hty, yg_CLv rfl rfl rfl yl_wX11_383 yd_yX2_become, fun _ _ _ => trivial⟩, List.forall_mem_cons.mpr ⟨⟨xc_6 hty, yg_CLv rfl rfl rfl yl_wX11_386 yd_yX3_become, fun _ _ _ => trivial⟩, fun _ h => absurd h List.not_mem_nil⟩⟩⟩⟩⟩⟩⟩⟩⟩⟩⟩) (xn_68) (xs_68) (by decide +kernel) (List.forall_mem_cons.mpr ⟨xw_68_0_0, List.forall_mem_cons.mpr ⟨xw_68_0_1, List.forall_mem_cons.mpr ⟨xw_68_0_2, List.forall_mem_cons.mpr ⟨xw_68_0_3, List.forall_mem_cons.mpr ⟨xw_68_0_4, fun _ h => absurd h List.not_mem_nil⟩⟩⟩⟩⟩) (trivial)
noncomputable def xf_69 : ys_F := (yw_f2 2, yw_r2)
noncomputable def xk_69 : ys_K := (((yX5_fits, cX5_fits, 2, (some .boolean)), (0, 0)), ([.inl (.inl ([(0, 1)], 0)), .inl (.inl ([(1, 1)], 0))], ([((-2147483648), 2147483647), ((-2147483648), 2147483647)] ++ yw_e2, []), xf_69), ([([], [], (xf_69.1, xf_69.2), some (.inl (.inl ([], 0)))), ([], [], (xf_69.1, xf_69.2), some (.inl (.inl ([], 1))))], []))
noncomputable def xq_69 : yt_Q := (yz_X5_fits, (yl_flX5, yl_ciX5, yl_cjX5, yl_cpX5, yl_cqX5), [], [])
noncomputable def xa_69 : List yt_CE := []
theorem xc_69 {l : Launch} {D : va_G} {cT : Nat → ClassId} {tys : List (ClassId × FieldType)} (hty : yx_Ty tys cT) : yx_C l D cT tys yw_s2 xk_69 := yx_method (calls := xa_69) (Z := xq_69) 300 (by decide +kernel) yz_X5_fits_ok hty (yl_lkX5 _) (yl_cqkX5 _) (fun _ h => absurd h List.not_mem_nil) (by decide +kernel)
