noncomputable def xf_1020 : ys_F := (yw_f2 3, yw_r2)
noncomputable def xk_1020 : ys_K := (((yX12_isLine, cX12_isLine, 3, (some .boolean)), (1, 25)), ([.inl (.inl ([(0, 1)], 0)), .inl (.inl ([(1, 1)], 0)), .inl (.inl ([(2, 1)], 0))], ([((-2147483648), 2147483647), ((-2147483648), 2147483647), ((-2147483648), 2147483647)] ++ yw_e2, []), xf_1020), ([([], [], (xf_1020.1, xf_1020.2), some (.inl (.inl ([], 0)))), ([], [([(2, 1)], 1000000), ([(2, (-1))], 1000000)], (xf_1020.1, xf_1020.2), some (.inl (.inl ([], 1))))], []))
noncomputable def xq_1020 : yt_Q := (yz_X12_isLine, (yl_flX12, yl_ciX12, yl_cjX12, yl_cpX12, yl_cqX12), [], [true, true])
noncomputable def xa_1020 : List yt_CE := [(((133, true), (0, false, [])), (yw_s2, xk_1001))]
noncomputable def xv_1020 : List (List yt_VC) := [[(1000, ([((-2147483648), (-1000001)), ((-2147483648), 2147483647), ((-2147483648), 2147483647)], []), [], [], []),
   (1000, ([(1000001, 2147483647), ((-2147483648), 2147483647), ((-2147483648), 2147483647)], []), [], [], []),
   (1000, ([((-1000000), 1000000), ((-2147483648), (-1000001)), ((-2147483648), 2147483647)], []), [], [], []),
   (1000, ([((-1000000), 1000000), (1000001, 2147483647), ((-2147483648), 2147483647)], []), [], [], []),
   (1000, ([((-1000000), 1000000), ((-1000000), 1000000), ((-2147483648), (-1000001))], []), [], [], []),
   (1000, ([((-1000000), 1000000), ((-1000000), 1000000), (1000001, 2147483647)], []), [], [], []),
   (1001, ([(1, 1000000), ((-1000000), 1000000), ((-1000000), 1000000)], []), [], [], []),
   (1001, ([((-1000000), (-1)), ((-1000000), 1000000), ((-1000000), 1000000)], []), [], [], []),
   (1000, ([(0, 0), (0, 0), ((-1000000), 1000000)], []), [], [], []),
   (1001, ([(0, 0), (1, 1000000), ((-1000000), 1000000)], []), [], [], []),
   (1001, ([(0, 0), ((-1000000), (-1)), ((-1000000), 1000000)], []), [], [], [])]]
noncomputable def xG_1020 : Nat → yt_G → (Nat → Int) → yt_G → Prop
  | _, _, _, _ => True
noncomputable def xP_1020 : yt_Ph
  | 0, r, g0, g => ¬ ((-1000000 ≤ (r 0) ∧ (r 0) ≤ 1000000 ∧ -1000000 ≤ (r 1) ∧ (r 1) ≤ 1000000 ∧ -1000000 ≤ (r 2) ∧ (r 2) ≤ 1000000) ∧ ((r 0) ≠ 0 ∨ (r 1) ≠ 0))
  | 1, r, g0, g => (-1000000 ≤ (r 0) ∧ (r 0) ≤ 1000000 ∧ -1000000 ≤ (r 1) ∧ (r 1) ≤ 1000000 ∧ -1000000 ≤ (r 2) ∧ (r 2) ≤ 1000000) ∧ ((r 0) ≠ 0 ∨ (r 1) ≠ 0)
  | _, _, _, _ => True
noncomputable def xR_1020 : yt_Ps := fun r g0 => True
noncomputable def xT_1020 : yt_Tb := fun d => match d with
  | _ => fun _ _ _ _ => True
noncomputable def xU_1020 : Nat → yt_Ps := fun d => match d with
  | _ => fun _ _ => True
theorem xw_1020_0_0 : yt_hold xT_1020 xk_1020 xq_1020.2.2.1 xG_1020 xP_1020 xU_1020 3 xk_1020.2.1.2.2.2 (fun g0 r g => xR_1020 r g0 ∧ g = g0) (1000, ([((-2147483648), (-1000001)), ((-2147483648), 2147483647), ((-2147483648), 2147483647)], []), [], [], []) := by
  intro g0 r gi g hok hh hars hfr hG
  have b0 : (-2147483648) ≤ r 0 ∧ r 0 ≤ (-1000001) := hok.1 0 ((-2147483648), (-1000001)) rfl
  have b1 : (-2147483648) ≤ r 1 ∧ r 1 ≤ 2147483647 := hok.1 1 ((-2147483648), 2147483647) rfl
  have b2 : (-2147483648) ≤ r 2 ∧ r 2 ≤ 2147483647 := hok.1 2 ((-2147483648), 2147483647) rfl
  obtain ⟨hG, hgi⟩ := hG
  have hG : True := hG
  have hh : g = gi := hh
  subst hh
  refine yt_dalt (by decide) (by decide) ?_
  rw [show xk_1020.2.1.2.1.1.length = 3 from rfl]
  show ¬ ((-1000000 ≤ ((1 * r 0 + 0) + 0) ∧ ((1 * r 0 + 0) + 0) ≤ 1000000 ∧ -1000000 ≤ ((1 * r 1 + 0) + 0) ∧ ((1 * r 1 + 0) + 0) ≤ 1000000 ∧ -1000000 ≤ ((1 * r 2 + 0) + 0) ∧ ((1 * r 2 + 0) + 0) ≤ 1000000) ∧ (((1 * r 0 + 0) + 0) ≠ 0 ∨ ((1 * r 1 + 0) + 0) ≠ 0))
  try simp only [Int.one_mul, Int.zero_add, Int.add_zero]
  omega
theorem xw_1020_0_1 : yt_hold xT_1020 xk_1020 xq_1020.2.2.1 xG_1020 xP_1020 xU_1020 3 xk_1020.2.1.2.2.2 (fun g0 r g => xR_1020 r g0 ∧ g = g0) (1000, ([(1000001, 2147483647), ((-2147483648), 2147483647), ((-2147483648), 2147483647)], []), [], [], []) := by
  intro g0 r gi g hok hh hars hfr hG
  have b0 : 1000001 ≤ r 0 ∧ r 0 ≤ 2147483647 := hok.1 0 (1000001, 2147483647) rfl
  have b1 : (-2147483648) ≤ r 1 ∧ r 1 ≤ 2147483647 := hok.1 1 ((-2147483648), 2147483647) rfl
  have b2 : (-2147483648) ≤ r 2 ∧ r 2 ≤ 2147483647 := hok.1 2 ((-2147483648), 2147483647) rfl
  obtain ⟨hG, hgi⟩ := hG
  have hG : True := hG
  have hh : g = gi := hh
  subst hh
  refine yt_dalt (by decide) (by decide) ?_
  rw [show xk_1020.2.1.2.1.1.length = 3 from rfl]
  show ¬ ((-1000000 ≤ ((1 * r 0 + 0) + 0) ∧ ((1 * r 0 + 0) + 0) ≤ 1000000 ∧ -1000000 ≤ ((1 * r 1 + 0) + 0) ∧ ((1 * r 1 + 0) + 0) ≤ 1000000 ∧ -1000000 ≤ ((1 * r 2 + 0) + 0) ∧ ((1 * r 2 + 0) + 0) ≤ 1000000) ∧ (((1 * r 0 + 0) + 0) ≠ 0 ∨ ((1 * r 1 + 0) + 0) ≠ 0))
  try simp only [Int.one_mul, Int.zero_add, Int.add_zero]
  omega
theorem xw_1020_0_2 : yt_hold xT_1020 xk_1020 xq_1020.2.2.1 xG_1020 xP_1020 xU_1020 3 xk_1020.2.1.2.2.2 (fun g0 r g => xR_1020 r g0 ∧ g = g0) (1000, ([((-1000000), 1000000), ((-2147483648), (-1000001)), ((-2147483648), 2147483647)], []), [], [], []) := by
  intro g0 r gi g hok hh hars hfr hG
  have b0 : (-1000000) ≤ r 0 ∧ r 0 ≤ 1000000 := hok.1 0 ((-1000000), 1000000) rfl
  have b1 : (-2147483648) ≤ r 1 ∧ r 1 ≤ (-1000001) := hok.1 1 ((-2147483648), (-1000001)) rfl
  have b2 : (-2147483648) ≤ r 2 ∧ r 2 ≤ 2147483647 := hok.1 2 ((-2147483648), 2147483647) rfl
  obtain ⟨hG, hgi⟩ := hG
  have hG : True := hG
  have hh : g = gi := hh
  subst hh
  refine yt_dalt (by decide) (by decide) ?_
  rw [show xk_1020.2.1.2.1.1.length = 3 from rfl]
  show ¬ ((-1000000 ≤ ((1 * r 0 + 0) + 0) ∧ ((1 * r 0 + 0) + 0) ≤ 1000000 ∧ -1000000 ≤ ((1 * r 1 + 0) + 0) ∧ ((1 * r 1 + 0) + 0) ≤ 1000000 ∧ -1000000 ≤ ((1 * r 2 + 0) + 0) ∧ ((1 * r 2 + 0) + 0) ≤ 1000000) ∧ (((1 * r 0 + 0) + 0) ≠ 0 ∨ ((1 * r 1 + 0) + 0) ≠ 0))
  try simp only [Int.one_mul, Int.zero_add, Int.add_zero]
  omega
theorem xw_1020_0_3 : yt_hold xT_1020 xk_1020 xq_1020.2.2.1 xG_1020 xP_1020 xU_1020 3 xk_1020.2.1.2.2.2 (fun g0 r g => xR_1020 r g0 ∧ g = g0) (1000, ([((-1000000), 1000000), (1000001, 2147483647), ((-2147483648), 2147483647)], []), [], [], []) := by
  intro g0 r gi g hok hh hars hfr hG
  have b0 : (-1000000) ≤ r 0 ∧ r 0 ≤ 1000000 := hok.1 0 ((-1000000), 1000000) rfl
  have b1 : 1000001 ≤ r 1 ∧ r 1 ≤ 2147483647 := hok.1 1 (1000001, 2147483647) rfl
  have b2 : (-2147483648) ≤ r 2 ∧ r 2 ≤ 2147483647 := hok.1 2 ((-2147483648), 2147483647) rfl
  obtain ⟨hG, hgi⟩ := hG
  have hG : True := hG
  have hh : g = gi := hh
  subst hh
  refine yt_dalt (by decide) (by decide) ?_
  rw [show xk_1020.2.1.2.1.1.length = 3 from rfl]
  show ¬ ((-1000000 ≤ ((1 * r 0 + 0) + 0) ∧ ((1 * r 0 + 0) + 0) ≤ 1000000 ∧ -1000000 ≤ ((1 * r 1 + 0) + 0) ∧ ((1 * r 1 + 0) + 0) ≤ 1000000 ∧ -1000000 ≤ ((1 * r 2 + 0) + 0) ∧ ((1 * r 2 + 0) + 0) ≤ 1000000) ∧ (((1 * r 0 + 0) + 0) ≠ 0 ∨ ((1 * r 1 + 0) + 0) ≠ 0))
  try simp only [Int.one_mul, Int.zero_add, Int.add_zero]
  omega
theorem xw_1020_0_4 : yt_hold xT_1020 xk_1020 xq_1020.2.2.1 xG_1020 xP_1020 xU_1020 3 xk_1020.2.1.2.2.2 (fun g0 r g => xR_1020 r g0 ∧ g = g0) (1000, ([((-1000000), 1000000), ((-1000000), 1000000), ((-2147483648), (-1000001))], []), [], [], []) := by
  intro g0 r gi g hok hh hars hfr hG
  have b0 : (-1000000) ≤ r 0 ∧ r 0 ≤ 1000000 := hok.1 0 ((-1000000), 1000000) rfl
  have b1 : (-1000000) ≤ r 1 ∧ r 1 ≤ 1000000 := hok.1 1 ((-1000000), 1000000) rfl
  have b2 : (-2147483648) ≤ r 2 ∧ r 2 ≤ (-1000001) := hok.1 2 ((-2147483648), (-1000001)) rfl
  obtain ⟨hG, hgi⟩ := hG
  have hG : True := hG
  have hh : g = gi := hh
  subst hh
  refine yt_dalt (by decide) (by decide) ?_
  rw [show xk_1020.2.1.2.1.1.length = 3 from rfl]
  show ¬ ((-1000000 ≤ ((1 * r 0 + 0) + 0) ∧ ((1 * r 0 + 0) + 0) ≤ 1000000 ∧ -1000000 ≤ ((1 * r 1 + 0) + 0) ∧ ((1 * r 1 + 0) + 0) ≤ 1000000 ∧ -1000000 ≤ ((1 * r 2 + 0) + 0) ∧ ((1 * r 2 + 0) + 0) ≤ 1000000) ∧ (((1 * r 0 + 0) + 0) ≠ 0 ∨ ((1 * r 1 + 0) + 0) ≠ 0))
  try simp only [Int.one_mul, Int.zero_add, Int.add_zero]
  omega
theorem xw_1020_0_5 : yt_hold xT_1020 xk_1020 xq_1020.2.2.1 xG_1020 xP_1020 xU_1020 3 xk_1020.2.1.2.2.2 (fun g0 r g => xR_1020 r g0 ∧ g = g0) (1000, ([((-1000000), 1000000), ((-1000000), 1000000), (1000001, 2147483647)], []), [], [], []) := by
  intro g0 r gi g hok hh hars hfr hG
  have b0 : (-1000000) ≤ r 0 ∧ r 0 ≤ 1000000 := hok.1 0 ((-1000000), 1000000) rfl
  have b1 : (-1000000) ≤ r 1 ∧ r 1 ≤ 1000000 := hok.1 1 ((-1000000), 1000000) rfl
  have b2 : 1000001 ≤ r 2 ∧ r 2 ≤ 2147483647 := hok.1 2 (1000001, 2147483647) rfl
  obtain ⟨hG, hgi⟩ := hG
  have hG : True := hG
  have hh : g = gi := hh
  subst hh
  refine yt_dalt (by decide) (by decide) ?_
  rw [show xk_1020.2.1.2.1.1.length = 3 from rfl]
  show ¬ ((-1000000 ≤ ((1 * r 0 + 0) + 0) ∧ ((1 * r 0 + 0) + 0) ≤ 1000000 ∧ -1000000 ≤ ((1 * r 1 + 0) + 0) ∧ ((1 * r 1 + 0) + 0) ≤ 1000000 ∧ -1000000 ≤ ((1 * r 2 + 0) + 0) ∧ ((1 * r 2 + 0) + 0) ≤ 1000000) ∧ (((1 * r 0 + 0) + 0) ≠ 0 ∨ ((1 * r 1 + 0) + 0) ≠ 0))
  try simp only [Int.one_mul, Int.zero_add, Int.add_zero]
  omega
theorem xw_1020_0_6 : yt_hold xT_1020 xk_1020 xq_1020.2.2.1 xG_1020 xP_1020 xU_1020 3 xk_1020.2.1.2.2.2 (fun g0 r g => xR_1020 r g0 ∧ g = g0) (1001, ([(1, 1000000), ((-1000000), 1000000), ((-1000000), 1000000)], []), [], [], []) := by
  intro g0 r gi g hok hh hars hfr hG
  have b0 : 1 ≤ r 0 ∧ r 0 ≤ 1000000 := hok.1 0 (1, 1000000) rfl
  have b1 : (-1000000) ≤ r 1 ∧ r 1 ≤ 1000000 := hok.1 1 ((-1000000), 1000000) rfl
  have b2 : (-1000000) ≤ r 2 ∧ r 2 ≤ 1000000 := hok.1 2 ((-1000000), 1000000) rfl
  obtain ⟨hG, hgi⟩ := hG
  have hG : True := hG
  have hh : g = gi := hh
  subst hh
  refine yt_dalt (by decide) (by decide) ?_
  rw [show xk_1020.2.1.2.1.1.length = 3 from rfl]
  show (-1000000 ≤ ((1 * r 0 + 0) + 0) ∧ ((1 * r 0 + 0) + 0) ≤ 1000000 ∧ -1000000 ≤ ((1 * r 1 + 0) + 0) ∧ ((1 * r 1 + 0) + 0) ≤ 1000000 ∧ -1000000 ≤ ((1 * r 2 + 0) + 0) ∧ ((1 * r 2 + 0) + 0) ≤ 1000000) ∧ (((1 * r 0 + 0) + 0) ≠ 0 ∨ ((1 * r 1 + 0) + 0) ≠ 0)
  try simp only [Int.one_mul, Int.zero_add, Int.add_zero]
  omega
theorem xw_1020_0_7 : yt_hold xT_1020 xk_1020 xq_1020.2.2.1 xG_1020 xP_1020 xU_1020 3 xk_1020.2.1.2.2.2 (fun g0 r g => xR_1020 r g0 ∧ g = g0) (1001, ([((-1000000), (-1)), ((-1000000), 1000000), ((-1000000), 1000000)], []), [], [], []) := by
  intro g0 r gi g hok hh hars hfr hG
  have b0 : (-1000000) ≤ r 0 ∧ r 0 ≤ (-1) := hok.1 0 ((-1000000), (-1)) rfl
  have b1 : (-1000000) ≤ r 1 ∧ r 1 ≤ 1000000 := hok.1 1 ((-1000000), 1000000) rfl
  have b2 : (-1000000) ≤ r 2 ∧ r 2 ≤ 1000000 := hok.1 2 ((-1000000), 1000000) rfl
  obtain ⟨hG, hgi⟩ := hG
  have hG : True := hG
  have hh : g = gi := hh
  subst hh
  refine yt_dalt (by decide) (by decide) ?_
  rw [show xk_1020.2.1.2.1.1.length = 3 from rfl]
  show (-1000000 ≤ ((1 * r 0 + 0) + 0) ∧ ((1 * r 0 + 0) + 0) ≤ 1000000 ∧ -1000000 ≤ ((1 * r 1 + 0) + 0) ∧ ((1 * r 1 + 0) + 0) ≤ 1000000 ∧ -1000000 ≤ ((1 * r 2 + 0) + 0) ∧ ((1 * r 2 + 0) + 0) ≤ 1000000) ∧ (((1 * r 0 + 0) + 0) ≠ 0 ∨ ((1 * r 1 + 0) + 0) ≠ 0)
  try simp only [Int.one_mul, Int.zero_add, Int.add_zero]
  omega
theorem xw_1020_0_8 : yt_hold xT_1020 xk_1020 xq_1020.2.2.1 xG_1020 xP_1020 xU_1020 3 xk_1020.2.1.2.2.2 (fun g0 r g => xR_1020 r g0 ∧ g = g0) (1000, ([(0, 0), (0, 0), ((-1000000), 1000000)], []), [], [], []) := by
  intro g0 r gi g hok hh hars hfr hG
  have b0 : 0 ≤ r 0 ∧ r 0 ≤ 0 := hok.1 0 (0, 0) rfl
  have b1 : 0 ≤ r 1 ∧ r 1 ≤ 0 := hok.1 1 (0, 0) rfl
  have b2 : (-1000000) ≤ r 2 ∧ r 2 ≤ 1000000 := hok.1 2 ((-1000000), 1000000) rfl
  obtain ⟨hG, hgi⟩ := hG
  have hG : True := hG
  have hh : g = gi := hh
  subst hh
  refine yt_dalt (by decide) (by decide) ?_
  rw [show xk_1020.2.1.2.1.1.length = 3 from rfl]
  show ¬ ((-1000000 ≤ ((1 * r 0 + 0) + 0) ∧ ((1 * r 0 + 0) + 0) ≤ 1000000 ∧ -1000000 ≤ ((1 * r 1 + 0) + 0) ∧ ((1 * r 1 + 0) + 0) ≤ 1000000 ∧ -1000000 ≤ ((1 * r 2 + 0) + 0) ∧ ((1 * r 2 + 0) + 0) ≤ 1000000) ∧ (((1 * r 0 + 0) + 0) ≠ 0 ∨ ((1 * r 1 + 0) + 0) ≠ 0))
  try simp only [Int.one_mul, Int.zero_add, Int.add_zero]
  omega
theorem xw_1020_0_9 : yt_hold xT_1020 xk_1020 xq_1020.2.2.1 xG_1020 xP_1020 xU_1020 3 xk_1020.2.1.2.2.2 (fun g0 r g => xR_1020 r g0 ∧ g = g0) (1001, ([(0, 0), (1, 1000000), ((-1000000), 1000000)], []), [], [], []) := by
  intro g0 r gi g hok hh hars hfr hG
  have b0 : 0 ≤ r 0 ∧ r 0 ≤ 0 := hok.1 0 (0, 0) rfl
  have b1 : 1 ≤ r 1 ∧ r 1 ≤ 1000000 := hok.1 1 (1, 1000000) rfl
  have b2 : (-1000000) ≤ r 2 ∧ r 2 ≤ 1000000 := hok.1 2 ((-1000000), 1000000) rfl
  obtain ⟨hG, hgi⟩ := hG
  have hG : True := hG
  have hh : g = gi := hh
  subst hh
  refine yt_dalt (by decide) (by decide) ?_
  rw [show xk_1020.2.1.2.1.1.length = 3 from rfl]
  show (-1000000 ≤ ((1 * r 0 + 0) + 0) ∧ ((1 * r 0 + 0) + 0) ≤ 1000000 ∧ -1000000 ≤ ((1 * r 1 + 0) + 0) ∧ ((1 * r 1 + 0) + 0) ≤ 1000000 ∧ -1000000 ≤ ((1 * r 2 + 0) + 0) ∧ ((1 * r 2 + 0) + 0) ≤ 1000000) ∧ (((1 * r 0 + 0) + 0) ≠ 0 ∨ ((1 * r 1 + 0) + 0) ≠ 0)
  try simp only [Int.one_mul, Int.zero_add, Int.add_zero]
  omega
theorem xw_1020_0_10 : yt_hold xT_1020 xk_1020 xq_1020.2.2.1 xG_1020 xP_1020 xU_1020 3 xk_1020.2.1.2.2.2 (fun g0 r g => xR_1020 r g0 ∧ g = g0) (1001, ([(0, 0), ((-1000000), (-1)), ((-1000000), 1000000)], []), [], [], []) := by
  intro g0 r gi g hok hh hars hfr hG
  have b0 : 0 ≤ r 0 ∧ r 0 ≤ 0 := hok.1 0 (0, 0) rfl
  have b1 : (-1000000) ≤ r 1 ∧ r 1 ≤ (-1) := hok.1 1 ((-1000000), (-1)) rfl
  have b2 : (-1000000) ≤ r 2 ∧ r 2 ≤ 1000000 := hok.1 2 ((-1000000), 1000000) rfl
  obtain ⟨hG, hgi⟩ := hG
  have hG : True := hG
  have hh : g = gi := hh
  subst hh
  refine yt_dalt (by decide) (by decide) ?_
  rw [show xk_1020.2.1.2.1.1.length = 3 from rfl]
  show (-1000000 ≤ ((1 * r 0 + 0) + 0) ∧ ((1 * r 0 + 0) + 0) ≤ 1000000 ∧ -1000000 ≤ ((1 * r 1 + 0) + 0) ∧ ((1 * r 1 + 0) + 0) ≤ 1000000 ∧ -1000000 ≤ ((1 * r 2 + 0) + 0) ∧ ((1 * r 2 + 0) + 0) ≤ 1000000) ∧ (((1 * r 0 + 0) + 0) ≠ 0 ∨ ((1 * r 1 + 0) + 0) ≠ 0)
  try simp only [Int.one_mul, Int.zero_add, Int.add_zero]
  omega
theorem xn_1020 : ∀ (j : Nat) (q : Nat × yt_T), xq_1020.2.2.1[j]? = some q → q.2.2.2 = false → ∀ g0 r g, xG_1020 j g0 r g
  | n + 0, q, hq, _ => by cases hq
theorem xs_1020 : ∀ j, xq_1020.2.2.2.getD j false = false → ∀ r g g', xP_1020 j r g g'
  | 0, hf => by cases hf
  | 1, hf => by cases hf
  | n + 2, _ => fun _ _ _ => trivial
theorem xc_1020 {l : Launch} {D : va_G} {cT : Nat → ClassId} {tys : List (ClassId × FieldType)} (hty : yx_Ty tys cT) : yt_Con l D vwCl cT tys yG yw_s2 xk_1020 xR_1020 xP_1020 := yx_sem (calls := xa_1020) (Z := xq_1020) (tb := xT_1020) (pt := xU_1020) (Ga := xG_1020) (vs := xv_1020) (fun _ _ _ _ => trivial) 300 (by decide +kernel) yz_X12_isLine_ok hty (yl_lkX12 _) (yl_cqkX12 _) (List.forall_mem_cons.mpr ⟨⟨xc_1001 hty, yg_CLs yl_wX12_133 yd_yX12_in, fun _ _ _ => trivial⟩, fun _ h => absurd h List.not_mem_nil⟩) (xn_1020) (xs_1020) (by decide +kernel) (List.forall_mem_cons.mpr ⟨xw_1020_0_0, List.forall_mem_cons.mpr ⟨xw_1020_0_1, List.forall_mem_cons.mpr ⟨xw_1020_0_2, List.forall_mem_cons.mpr ⟨xw_1020_0_3, List.forall_mem_cons.mpr ⟨xw_1020_0_4, List.forall_mem_cons.mpr ⟨xw_1020_0_5, List.forall_mem_cons.mpr ⟨xw_1020_0_6, List.forall_mem_cons.mpr ⟨xw_1020_0_7, List.forall_mem_cons.mpr ⟨xw_1020_0_8, List.forall_mem_cons.mpr ⟨xw_1020_0_9, List.forall_mem_cons.mpr ⟨xw_1020_0_10, fun _ h => absurd h List.not_mem_nil⟩⟩⟩⟩⟩⟩⟩⟩⟩⟩⟩) (trivial)
noncomputable def xf_1021 : ys_F := (yw_f2 5, yw_r2)
noncomputable def xk_1021 : ys_K := (((yX12_says, cX12_says, 12, (some .int)), (0, 0)), ([.inl (.inr ([(0, 1)], 0)), .inl (.inr ([(1, 1)], 0)), .inl (.inr ([(2, 1)], 0)), .inl (.inr ([(3, 1)], 0)), .inl (.inr ([(4, 1)], 0))], ([((-9223372036854775808), 9223372036854775807), ((-9223372036854775808), 9223372036854775807), ((-9223372036854775808), 9223372036854775807), ((-9223372036854775808), 9223372036854775807), ((-9223372036854775808), 9223372036854775807)] ++ yw_e2, []), xf_1021), ([([((-1), 1)], [], (xf_1021.1, xf_1021.2), some (.inl (.inl ([(5, 1)], 0))))], []))
noncomputable def xq_1021 : yt_Q := (yz_X12_says, (yl_flX12, yl_ciX12, yl_cjX12, yl_cpX12, yl_cqX12), [], [])
noncomputable def xa_1021 : List yt_CE := []
theorem xc_1021 {l : Launch} {D : va_G} {cT : Nat → ClassId} {tys : List (ClassId × FieldType)} (hty : yx_Ty tys cT) : yx_C l D cT tys yw_s2 xk_1021 := yx_method (calls := xa_1021) (Z := xq_1021) 300 (by decide +kernel) yz_X12_says_ok hty (yl_lkX12 _) (yl_cqkX12 _) (fun _ h => absurd h List.not_mem_nil) (by decide +kernel)
noncomputable def yw_s511 : List ys_C := [.inl 12, .inr (0, 40, []), .inr (0, 40, []), .inr (0, 40, [])]
noncomputable def yw_f511 (n : Nat) : List (List ys_V) := [[.inl (.inl ([(n + 0, 1)], 0)), .inl (.inl ([(n + 1, 1)], 0)), .inr (some 1), .inr (some 2), .inr (some 3), .inr (some 4), .inl (.inl ([(n + 2, 1)], 0)), .inr (some 5), .inr (some 6), .inr (some 7), .inr (some 8), .inl (.inl ([(n + 3, 1)], 0)), .inl (.inl ([(n + 4, 1)], 0)), .inr (some 9), .inr (some 10), .inr (some 11), .inl (.inr ([(n + 5, 1)], 0)), .inl (.inr ([(n + 6, 1)], 0)), .inl (.inr ([(n + 7, 1)], 0)), .inl (.inl ([(n + 8, 1)], 0)), .inl (.inr ([(n + 9, 1)], 0)), .inl (.inr ([(n + 10, 1)], 0)), .inl (.inr ([(n + 11, 1)], 0)), .inl (.inr ([(n + 12, 1)], 0)), .inr (some 12), .inr (some 13), .inl (.inl ([(n + 13, 1)], 0)), .inr (some 14), .inl (.inr ([(n + 14, 1)], 0)), .inl (.inr ([(n + 15, 1)], 0)), .inl (.inr ([(n + 16, 1)], 0)), .inl (.inr ([(n + 17, 1)], 0)), .inl (.inr ([(n + 18, 1)], 0)), .inr (some 15), .inr (some 16), .inr (some 17), .inl (.inl ([(n + 19, 1)], 0)), .inl (.inl ([(n + 20, 1)], 0)), .inr (some 18), .inr (some 19), .inr (some 20), .inr (some 21), .inr (some 22), .inl (.inl ([(n + 21, 1)], 0)), .inl (.inl ([(n + 22, 1)], 0)), .inr (some 23), .inl (.inl ([(n + 23, 1)], 0)), .inr (some 24), .inr (some 25), .inr (some 26), .inr (some 27), .inl (.inl ([(n + 24, 1)], 0)), .inr (some 28), .inr (some 29), .inr (some 30), .inr (some 31), .inr (some 32), .inr (some 33), .inr (some 34), .inr (some 35), .inr (some 36)], [], [], []]
noncomputable def yw_e511 : ys_E := [((-2147483648), 2147483647), ((-2147483648), 2147483647), (0, 40), ((-2147483648), 2147483647), (0, 4), ((-9223372036854775808), 9223372036854775807), ((-9223372036854775808), 9223372036854775807), ((-9223372036854775808), 9223372036854775807), (0, 1), ((-4000), 4000), ((-4000), 4000), ((-9223372036854775808), 9223372036854775807), ((-9223372036854775808), 9223372036854775807), (0, 12), ((-9223372036854775808), 9223372036854775807), ((-9223372036854775808), 9223372036854775807), ((-9223372036854775808), 9223372036854775807), ((-9223372036854775808), 9223372036854775807), ((-9223372036854775808), 9223372036854775807), (0, 12), ((-2147483648), 2147483647), (0, 12), ((-2147483648), 2147483647), (0, 40), (0, 40)]
noncomputable def yw_r511 : List ys_R := [((0, 0), []), (((-300), 1000), []), (((-300), 1000), []), (((-300), 1000), [])]
noncomputable def xf_1022 : ys_F := (yw_f511 3, yw_r511)
noncomputable def xk_1022 : ys_K := (((yX12_check, cX12_check, 6, (some .int)), (2, 47)), ([.inr (some 0), .inl (.inl ([(0, 1)], 0)), .inl (.inl ([(1, 1)], 0)), .inl (.inl ([(2, 1)], 0))], ([((-2147483648), 2147483647), ((-2147483648), 2147483647), ((-2147483648), 2147483647)] ++ yw_e511, []), xf_1022), ([([((-2147483648), 2147483647)], [], ((ys_fs xf_1022.1 [(0, 0, .inl (.inl ([], 0)))]), xf_1022.2), some (.inl (.inl ([(28, 1)], 0))))], []))
noncomputable def xq_1022 : yt_Q := (yz_X12_check, (yl_flX12, yl_ciX12, yl_cjX12, yl_cpX12, yl_cqX12), [(22, ([((-2147483648), 2147483647), (0, 40)], [([(2, 1)], 1000000), ([(2, (-1))], 1000000)], ((ys_fs xf_1022.1 [(0, 0, .inl (.inl ([], 0)))]), xf_1022.2), [(0, .inr (some 0)), (1, .inl (.inl ([(0, 1)], 0))), (2, .inl (.inl ([(1, 1)], 0))), (3, .inl (.inl ([(2, 1)], 0))), (4, .inl (.inl ([(28, 1)], 0))), (5, .inl (.inl ([(29, 1)], 0)))], [], ([(29, (-1))], 40)), [], false)], [])
noncomputable def xa_1022 : List yt_CE := [(((315, true), (73, false, [])), (yw_s2, xk_1020)), (((318, true), (0, false, [])), (yw_s2, xk_1021))]
noncomputable def xT_1022 : yt_Tb := fun d => match d with
  | 73 => xP_1020
  | _ => fun _ _ _ _ => True
theorem xc_1022 {l : Launch} {D : va_G} {cT : Nat → ClassId} {tys : List (ClassId × FieldType)} (hty : yx_Ty tys cT) : yx_C l D cT tys yw_s511 xk_1022 := yx_methodT (tb := xT_1022) (fun _ _ _ _ => trivial) (calls := xa_1022) (Z := xq_1022) 300 (by decide +kernel) yz_X12_check_ok hty (yl_lkX12 _) (yl_cqkX12 _) (List.forall_mem_cons.mpr ⟨⟨xc_1020 hty, yg_CLs yl_wX12_315 yd_yX12_isLine⟩, List.forall_mem_cons.mpr ⟨⟨xc_1021 hty, yg_CLs yl_wX12_318 yd_yX12_says⟩, fun _ h => absurd h List.not_mem_nil⟩⟩) (by decide +kernel)
noncomputable def xf_1023 : ys_F := (yw_f2 1, yw_r2)
noncomputable def xk_1023 : ys_K := (((yX12_isSheet, cX12_isSheet, 1, (some .boolean)), (1, 25)), ([.inl (.inl ([(0, 1)], 0))], ([((-2147483648), 2147483647)] ++ yw_e2, []), xf_1023), ([([], [([(0, (-1))], (-1))], (xf_1023.1, xf_1023.2), some (.inl (.inl ([], 0)))), ([], [([(0, 1)], (-4))], (xf_1023.1, xf_1023.2), some (.inl (.inl ([], 0)))), ([], [([(0, 1)], 0), ([(0, (-1))], 3)], (xf_1023.1, xf_1023.2), some (.inl (.inl ([], 1))))], []))
noncomputable def xq_1023 : yt_Q := (yz_X12_isSheet, (yl_flX12, yl_ciX12, yl_cjX12, yl_cpX12, yl_cqX12), [], [])
noncomputable def xa_1023 : List yt_CE := [(((133, true), (0, false, [])), (yw_s2, xk_1001))]
theorem xc_1023 {l : Launch} {D : va_G} {cT : Nat → ClassId} {tys : List (ClassId × FieldType)} (hty : yx_Ty tys cT) : yx_C l D cT tys yw_s2 xk_1023 := yx_method (calls := xa_1023) (Z := xq_1023) 300 (by decide +kernel) yz_X12_isSheet_ok hty (yl_lkX12 _) (yl_cqkX12 _) (List.forall_mem_cons.mpr ⟨⟨xc_1001 hty, yg_CLs yl_wX12_133 yd_yX12_in⟩, fun _ h => absurd h List.not_mem_nil⟩) (by decide +kernel)
noncomputable def xf_1024 : ys_F := (yw_f2 2, yw_r2)
noncomputable def xk_1024 : ys_K := (((yX12_cut, cX12_cut, 3, (some .long)), (0, 0)), ([.inl (.inl ([(0, 1)], 0)), .inl (.inr ([(1, 1)], 0))], ([((-2147483648), 2147483647), ((-9223372036854775808), 9223372036854775807)] ++ yw_e2, []), xf_1024), ([([((-9223372036854775808), 9223372036854775807)], [], (xf_1024.1, xf_1024.2), some (.inl (.inr ([(2, 1)], 0))))], []))
noncomputable def xq_1024 : yt_Q := (yz_X12_cut, (yl_flX12, yl_ciX12, yl_cjX12, yl_cpX12, yl_cqX12), [], [true])
noncomputable def xa_1024 : List yt_CE := []
noncomputable def xv_1024 : List (List yt_VC) := [[(1000, ([(3, 2147483647), ((-9223372036854775808), 9223372036854775807)], []), [([(1, 1)], 0)], [], []),
   (1000, ([(2, 2), ((-9223372036854775808), 9223372036854775807), ((-2147483648), 2147483647)], []), [([(2, 1)], 0)], [], [.inr (.inr (.inl (998, 2, [([(1, 1)], 0), ([(2, 1)], 0)], [], [])))]),
   (1000, ([(1, 1), ((-9223372036854775808), 9223372036854775807), ((-2147483648), 2147483647), ((-32768), 32767)], []), [([(3, 1)], 0)], [], [.inr (.inr (.inl (998, 4, [([(2, 1)], 0), ([(3, 1)], 0)], [], []))), .inr (.inr (.inl (998, 2, [([(1, 1)], 0), ([(2, 1)], 0)], [], [])))]),
   (1000, ([((-2147483648), (-1)), ((-9223372036854775808), 9223372036854775807)], []), [([(1, 1)], 0)], [], []),
   (1000, ([(0, 0), ((-9223372036854775808), 9223372036854775807), ((-2147483648), 2147483647), ((-128), 127)], []), [([(3, 1)], 0)], [], [.inr (.inr (.inl (998, 3, [([(2, 1)], 0), ([(3, 1)], 0)], [], []))), .inr (.inr (.inl (998, 2, [([(1, 1)], 0), ([(2, 1)], 0)], [], [])))])]]
noncomputable def xG_1024 : Nat → yt_G → (Nat → Int) → yt_G → Prop
  | _, _, _, _ => True
noncomputable def xP_1024 : yt_Ph
  | 0, r, g0, g => (r 2) = yq_cut (r 0) (r 1)
  | _, _, _, _ => True
noncomputable def xR_1024 : yt_Ps := fun r g0 => True
noncomputable def xT_1024 : yt_Tb := fun d => match d with
  | 998 => fun i r _ _ => yt_hwp i r
  | _ => fun _ _ _ _ => True
noncomputable def xU_1024 : Nat → yt_Ps := fun d => match d with
  | _ => fun _ _ => True
theorem xw_1024_0_0 : yt_hold xT_1024 xk_1024 xq_1024.2.2.1 xG_1024 xP_1024 xU_1024 2 xk_1024.2.1.2.2.2 (fun g0 r g => xR_1024 r g0 ∧ g = g0) (1000, ([(3, 2147483647), ((-9223372036854775808), 9223372036854775807)], []), [([(1, 1)], 0)], [], []) := by
  intro g0 r gi g hok hh hars hfr hG
  have b0 : 3 ≤ r 0 ∧ r 0 ≤ 2147483647 := hok.1 0 (3, 2147483647) rfl
  have b1 : (-9223372036854775808) ≤ r 1 ∧ r 1 ≤ 9223372036854775807 := hok.1 1 ((-9223372036854775808), 9223372036854775807) rfl
  obtain ⟨hG, hgi⟩ := hG
  have hG : True := hG
  have hh : g = gi := hh
  subst hh
  refine yt_dalt (by decide) (by decide) ?_
  rw [show xk_1024.2.1.2.1.1.length = 2 from rfl]
  show ((1 * r 1 + 0) + 0) = yq_cut ((1 * r 0 + 0) + 0) ((1 * r 1 + 0) + 0)
  try simp only [Int.one_mul, Int.zero_add, Int.add_zero]
  unfold yq_cut
  rw [if_neg (by omega), if_neg (by omega), if_neg (by omega)]
theorem xw_1024_0_1 : yt_hold xT_1024 xk_1024 xq_1024.2.2.1 xG_1024 xP_1024 xU_1024 2 xk_1024.2.1.2.2.2 (fun g0 r g => xR_1024 r g0 ∧ g = g0) (1000, ([(2, 2), ((-9223372036854775808), 9223372036854775807), ((-2147483648), 2147483647)], []), [([(2, 1)], 0)], [], [.inr (.inr (.inl (998, 2, [([(1, 1)], 0), ([(2, 1)], 0)], [], [])))]) := by
  intro g0 r gi g hok hh hars hfr hG
  have b0 : 2 ≤ r 0 ∧ r 0 ≤ 2 := hok.1 0 (2, 2) rfl
  have b1 : (-9223372036854775808) ≤ r 1 ∧ r 1 ≤ 9223372036854775807 := hok.1 1 ((-9223372036854775808), 9223372036854775807) rfl
  have b2 : (-2147483648) ≤ r 2 ∧ r 2 ≤ 2147483647 := hok.1 2 ((-2147483648), 2147483647) rfl
  obtain ⟨hG, hgi⟩ := hG
  have hG : True := hG
  obtain ⟨h0, hh, e0, k0⟩ := hh
  have k0 : ∀ j, j ∉ [] → g j = h0 j := k0
  have e0 : ((1 * r 2 + 0) + 0) = (Int32.ofInt (((1 * r 1 + 0) + 0))).toInt := e0
  have hh : h0 = gi := hh
  subst hh
  refine yt_dalt (by decide) (by decide) ?_
  rw [show xk_1024.2.1.2.1.1.length = 2 from rfl]
  show ((1 * r 2 + 0) + 0) = yq_cut ((1 * r 0 + 0) + 0) ((1 * r 1 + 0) + 0)
  try simp only [Int.one_mul, Int.zero_add, Int.add_zero]
  try simp only [Int.one_mul, Int.zero_add, Int.add_zero] at e0
  unfold yq_cut
  rw [if_neg (by omega), if_neg (by omega), if_pos (by omega)]
  exact e0
theorem xw_1024_0_2 : yt_hold xT_1024 xk_1024 xq_1024.2.2.1 xG_1024 xP_1024 xU_1024 2 xk_1024.2.1.2.2.2 (fun g0 r g => xR_1024 r g0 ∧ g = g0) (1000, ([(1, 1), ((-9223372036854775808), 9223372036854775807), ((-2147483648), 2147483647), ((-32768), 32767)], []), [([(3, 1)], 0)], [], [.inr (.inr (.inl (998, 4, [([(2, 1)], 0), ([(3, 1)], 0)], [], []))), .inr (.inr (.inl (998, 2, [([(1, 1)], 0), ([(2, 1)], 0)], [], [])))]) := by
  intro g0 r gi g hok hh hars hfr hG
  have b0 : 1 ≤ r 0 ∧ r 0 ≤ 1 := hok.1 0 (1, 1) rfl
  have b1 : (-9223372036854775808) ≤ r 1 ∧ r 1 ≤ 9223372036854775807 := hok.1 1 ((-9223372036854775808), 9223372036854775807) rfl
  have b2 : (-2147483648) ≤ r 2 ∧ r 2 ≤ 2147483647 := hok.1 2 ((-2147483648), 2147483647) rfl
  have b3 : (-32768) ≤ r 3 ∧ r 3 ≤ 32767 := hok.1 3 ((-32768), 32767) rfl
  obtain ⟨hG, hgi⟩ := hG
  have hG : True := hG
  obtain ⟨h0, hh, e0, k0⟩ := hh
  have k0 : ∀ j, j ∉ [] → g j = h0 j := k0
  have e0 : ((1 * r 3 + 0) + 0) = (Int32.ofInt (((1 * r 2 + 0) + 0))).toInt16.toInt := e0
  obtain ⟨h1, hh, e1, k1⟩ := hh
  have k1 : ∀ j, j ∉ [] → h0 j = h1 j := k1
  have e1 : ((1 * r 2 + 0) + 0) = (Int32.ofInt (((1 * r 1 + 0) + 0))).toInt := e1
  have hh : h1 = gi := hh
  subst hh
  refine yt_dalt (by decide) (by decide) ?_
  rw [show xk_1024.2.1.2.1.1.length = 2 from rfl]
  show ((1 * r 3 + 0) + 0) = yq_cut ((1 * r 0 + 0) + 0) ((1 * r 1 + 0) + 0)
  try simp only [Int.one_mul, Int.zero_add, Int.add_zero]
  try simp only [Int.one_mul, Int.zero_add, Int.add_zero] at e0
  try simp only [Int.one_mul, Int.zero_add, Int.add_zero] at e1
  unfold yq_cut
  rw [if_neg (by omega), if_pos (by omega), ← e1]
  exact e0
theorem xw_1024_0_3 : yt_hold xT_1024 xk_1024 xq_1024.2.2.1 xG_1024 xP_1024 xU_1024 2 xk_1024.2.1.2.2.2 (fun g0 r g => xR_1024 r g0 ∧ g = g0) (1000, ([((-2147483648), (-1)), ((-9223372036854775808), 9223372036854775807)], []), [([(1, 1)], 0)], [], []) := by
  intro g0 r gi g hok hh hars hfr hG
  have b0 : (-2147483648) ≤ r 0 ∧ r 0 ≤ (-1) := hok.1 0 ((-2147483648), (-1)) rfl
  have b1 : (-9223372036854775808) ≤ r 1 ∧ r 1 ≤ 9223372036854775807 := hok.1 1 ((-9223372036854775808), 9223372036854775807) rfl
  obtain ⟨hG, hgi⟩ := hG
  have hG : True := hG
  have hh : g = gi := hh
  subst hh
  refine yt_dalt (by decide) (by decide) ?_
  rw [show xk_1024.2.1.2.1.1.length = 2 from rfl]
  show ((1 * r 1 + 0) + 0) = yq_cut ((1 * r 0 + 0) + 0) ((1 * r 1 + 0) + 0)
  try simp only [Int.one_mul, Int.zero_add, Int.add_zero]
  unfold yq_cut
  rw [if_neg (by omega), if_neg (by omega), if_neg (by omega)]
theorem xw_1024_0_4 : yt_hold xT_1024 xk_1024 xq_1024.2.2.1 xG_1024 xP_1024 xU_1024 2 xk_1024.2.1.2.2.2 (fun g0 r g => xR_1024 r g0 ∧ g = g0) (1000, ([(0, 0), ((-9223372036854775808), 9223372036854775807), ((-2147483648), 2147483647), ((-128), 127)], []), [([(3, 1)], 0)], [], [.inr (.inr (.inl (998, 3, [([(2, 1)], 0), ([(3, 1)], 0)], [], []))), .inr (.inr (.inl (998, 2, [([(1, 1)], 0), ([(2, 1)], 0)], [], [])))]) := by
  intro g0 r gi g hok hh hars hfr hG
  have b0 : 0 ≤ r 0 ∧ r 0 ≤ 0 := hok.1 0 (0, 0) rfl
  have b1 : (-9223372036854775808) ≤ r 1 ∧ r 1 ≤ 9223372036854775807 := hok.1 1 ((-9223372036854775808), 9223372036854775807) rfl
  have b2 : (-2147483648) ≤ r 2 ∧ r 2 ≤ 2147483647 := hok.1 2 ((-2147483648), 2147483647) rfl
  have b3 : (-128) ≤ r 3 ∧ r 3 ≤ 127 := hok.1 3 ((-128), 127) rfl
  obtain ⟨hG, hgi⟩ := hG
  have hG : True := hG
  obtain ⟨h0, hh, e0, k0⟩ := hh
  have k0 : ∀ j, j ∉ [] → g j = h0 j := k0
  have e0 : ((1 * r 3 + 0) + 0) = (Int32.ofInt (((1 * r 2 + 0) + 0))).toInt8.toInt := e0
  obtain ⟨h1, hh, e1, k1⟩ := hh
  have k1 : ∀ j, j ∉ [] → h0 j = h1 j := k1
  have e1 : ((1 * r 2 + 0) + 0) = (Int32.ofInt (((1 * r 1 + 0) + 0))).toInt := e1
  have hh : h1 = gi := hh
  subst hh
  refine yt_dalt (by decide) (by decide) ?_
  rw [show xk_1024.2.1.2.1.1.length = 2 from rfl]
  show ((1 * r 3 + 0) + 0) = yq_cut ((1 * r 0 + 0) + 0) ((1 * r 1 + 0) + 0)
  try simp only [Int.one_mul, Int.zero_add, Int.add_zero]
  try simp only [Int.one_mul, Int.zero_add, Int.add_zero] at e0
  try simp only [Int.one_mul, Int.zero_add, Int.add_zero] at e1
  unfold yq_cut
  rw [if_pos (by omega), ← e1]
  exact e0
theorem xn_1024 : ∀ (j : Nat) (q : Nat × yt_T), xq_1024.2.2.1[j]? = some q → q.2.2.2 = false → ∀ g0 r g, xG_1024 j g0 r g
  | n + 0, q, hq, _ => by cases hq
theorem xs_1024 : ∀ j, xq_1024.2.2.2.getD j false = false → ∀ r g g', xP_1024 j r g g'
  | 0, hf => by cases hf
  | n + 1, _ => fun _ _ _ => trivial
theorem xc_1024 {l : Launch} {D : va_G} {cT : Nat → ClassId} {tys : List (ClassId × FieldType)} (hty : yx_Ty tys cT) : yt_Con l D vwCl cT tys yG yw_s2 xk_1024 xR_1024 xP_1024 := yx_sem (calls := xa_1024) (Z := xq_1024) (tb := xT_1024) (pt := xU_1024) (Ga := xG_1024) (vs := xv_1024) (fun _ _ _ h => h) 300 (by decide +kernel) yz_X12_cut_ok hty (yl_lkX12 _) (yl_cqkX12 _) (fun _ h => absurd h List.not_mem_nil) (xn_1024) (xs_1024) (by decide +kernel) (List.forall_mem_cons.mpr ⟨xw_1024_0_0, List.forall_mem_cons.mpr ⟨xw_1024_0_1, List.forall_mem_cons.mpr ⟨xw_1024_0_2, List.forall_mem_cons.mpr ⟨xw_1024_0_3, List.forall_mem_cons.mpr ⟨xw_1024_0_4, fun _ h => absurd h List.not_mem_nil⟩⟩⟩⟩⟩) (trivial)
noncomputable def yw_s512 : List ys_C := [.inl 12, .inr (1, 400, []), .inr (0, 4, []), .inr (0, 4, []), .inr (1, 100, [])]
noncomputable def yw_f512 (n : Nat) : List (List ys_V) := [[.inl (.inl ([(n + 0, 1)], 0)), .inl (.inl ([(n + 1, 1)], 0)), .inr (some 5), .inr (some 6), .inr (some 7), .inr (some 8), .inl (.inl ([(n + 2, 1)], 0)), .inr (some 1), .inr (some 2), .inr (some 3), .inr (some 4), .inl (.inl ([(n + 3, 1)], 0)), .inl (.inl ([(n + 4, 1)], 0)), .inr (some 9), .inr (some 10), .inr (some 11), .inl (.inr ([(n + 5, 1)], 0)), .inl (.inr ([(n + 6, 1)], 0)), .inl (.inr ([(n + 7, 1)], 0)), .inl (.inl ([(n + 8, 1)], 0)), .inl (.inr ([(n + 9, 1)], 0)), .inl (.inr ([(n + 10, 1)], 0)), .inl (.inr ([(n + 11, 1)], 0)), .inl (.inr ([(n + 12, 1)], 0)), .inr (some 12), .inr (some 13), .inl (.inl ([(n + 13, 1)], 0)), .inr (some 14), .inl (.inr ([(n + 14, 1)], 0)), .inl (.inr ([(n + 15, 1)], 0)), .inl (.inr ([(n + 16, 1)], 0)), .inl (.inr ([(n + 17, 1)], 0)), .inl (.inr ([(n + 18, 1)], 0)), .inr (some 15), .inr (some 16), .inr (some 17), .inl (.inl ([(n + 19, 1)], 0)), .inl (.inl ([(n + 20, 1)], 0)), .inr (some 18), .inr (some 19), .inr (some 20), .inr (some 21), .inr (some 22), .inl (.inl ([(n + 21, 1)], 0)), .inl (.inl ([(n + 22, 1)], 0)), .inr (some 23), .inl (.inl ([(n + 23, 1)], 0)), .inr (some 24), .inr (some 25), .inr (some 26), .inr (some 27), .inl (.inl ([(n + 24, 1)], 0)), .inr (some 28), .inr (some 29), .inr (some 30), .inr (some 31), .inr (some 32), .inr (some 33), .inr (some 34), .inr (some 35), .inr (some 36)], [], [], [], []]
noncomputable def yw_e512 : ys_E := [((-2147483648), 2147483647), ((-2147483648), 2147483647), (0, 40), ((-2147483648), 2147483647), (0, 4), ((-9223372036854775808), 9223372036854775807), ((-9223372036854775808), 9223372036854775807), ((-9223372036854775808), 9223372036854775807), (0, 1), ((-4000), 4000), ((-4000), 4000), ((-9223372036854775808), 9223372036854775807), ((-9223372036854775808), 9223372036854775807), (0, 12), ((-9223372036854775808), 9223372036854775807), ((-9223372036854775808), 9223372036854775807), ((-9223372036854775808), 9223372036854775807), ((-9223372036854775808), 9223372036854775807), ((-9223372036854775808), 9223372036854775807), (0, 12), ((-2147483648), 2147483647), (0, 12), ((-2147483648), 2147483647), (0, 40), (0, 40)]
noncomputable def yw_r512 : List ys_R := [((0, 0), []), (((-9223372036854775808), 9223372036854775807), []), (((-2147483648), 2147483647), []), ((0, 100), []), (((-9223372036854775808), 9223372036854775807), [])]
noncomputable def xf_1025 : ys_F := (yw_f512 5, yw_r512)
noncomputable def xk_1025 : ys_K := (((yX12_copy, cX12_copy, 7, (some .int)), (2, 45)), ([.inr (some 0), .inl (.inl ([(0, 1)], 0)), .inl (.inl ([(1, 1)], 0)), .inl (.inl ([(2, 1)], 0)), .inl (.inl ([(3, 1)], 0)), .inl (.inl ([(4, 1)], 0))], ([((-2147483648), 2147483647), ((-2147483648), 2147483647), ((-2147483648), 2147483647), ((-2147483648), 2147483647), ((-2147483648), 2147483647)] ++ yw_e512, []), xf_1025), ([([((-2147483648), 100), ((-2147483648), 0)], [], ((ys_fs xf_1025.1 [(0, 0, .inl (.inl ([], 0))), (0, 1, .inl (.inl ([(31, 1)], 0)))]), xf_1025.2), some (.inl (.inl ([(30, 1)], 0))))], [1, 4]))
noncomputable def xq_1025 : yt_Q := (yz_X12_copy, (yl_flX12, yl_ciX12, yl_cjX12, yl_cpX12, yl_cqX12), [(106, ([(0, 100)], [([(0, 1)], 0), ([(0, (-1))], 3), ([(1, 1)], 0), ([(1, (-1))], 100), ([(2, 1)], 0), ([(2, (-1))], 3), ([(3, 1)], 0), ([(3, (-1))], 100), ([(4, 1)], 0), ([(3, (-1)), (4, (-1))], 100), ([(1, (-1)), (4, (-1))], 100)], ((ys_fs xf_1025.1 [(0, 0, .inl (.inl ([], 0)))]), xf_1025.2), [(0, .inr (some 0)), (1, .inl (.inl ([(0, 1)], 0))), (2, .inl (.inl ([(1, 1)], 0))), (3, .inl (.inl ([(2, 1)], 0))), (4, .inl (.inl ([(3, 1)], 0))), (5, .inl (.inl ([(4, 1)], 0))), (6, .inl (.inl ([(30, 1)], 0)))], [], ([(30, (-1))], 202)), [], true), (143, ([(0, 100)], [([(0, 1)], 0), ([(0, (-1))], 3), ([(1, 1)], 0), ([(1, (-1))], 100), ([(2, 1)], 0), ([(2, (-1))], 3), ([(3, 1)], 0), ([(3, (-1))], 100), ([(1, (-1)), (4, (-1))], 100), ([(3, (-1)), (4, (-1))], 100)], ((ys_fs xf_1025.1 [(0, 0, .inl (.inl ([], 0)))]), xf_1025.2), [(0, .inr (some 0)), (3, .inl (.inl ([(2, 1)], 0))), (4, .inl (.inl ([(3, 1)], 0))), (5, .inl (.inl ([(4, 1)], 0))), (6, .inl (.inl ([(30, 1)], 0)))], [], ([(30, (-1))], 100)), [], true)], [true])
noncomputable def xa_1025 : List yt_CE := [(((157, true), (0, false, [])), (yw_s2, xk_1023)), (((141, false), (0, false, [0, 5, 6, 7, 8, 1, 2, 3, 4, 9, 10, 11, 12, 13, 14, 15, 16, 17, 18, 19, 20, 21, 22, 23, 24, 25, 26, 27, 28, 29, 30, 31, 32, 33, 34, 35, 36])), (yw_s500, xk_1002)), (((133, true), (0, false, [])), (yw_s2, xk_1001)), (((160, true), (96, false, [])), (yw_s2, xk_1024))]
noncomputable def xv_1025 : List (List yt_VC) := [[(1000, ([((-2147483648), (-1)), ((-2147483648), 2147483647), ((-2147483648), 2147483647), ((-2147483648), 2147483647), ((-2147483648), 2147483647), ((-2147483648), 2147483647), ((-2147483648), 2147483647), (0, 40), ((-2147483648), 2147483647), (0, 4), ((-9223372036854775808), 9223372036854775807), ((-9223372036854775808), 9223372036854775807), ((-9223372036854775808), 9223372036854775807), (0, 1), ((-4000), 4000), ((-4000), 4000), ((-9223372036854775808), 9223372036854775807), ((-9223372036854775808), 9223372036854775807), (0, 12), ((-9223372036854775808), 9223372036854775807), ((-9223372036854775808), 9223372036854775807), ((-9223372036854775808), 9223372036854775807), ((-9223372036854775808), 9223372036854775807), ((-9223372036854775808), 9223372036854775807), (0, 12), ((-2147483648), 2147483647), (0, 12), ((-2147483648), 2147483647), (0, 40), (0, 40), ((-2147483648), 0)], []), [([], (-1)), ([(30, 1)], 0)], [], []),
   (1000, ([(4, 2147483647), ((-2147483648), 2147483647), ((-2147483648), 2147483647), ((-2147483648), 2147483647), ((-2147483648), 2147483647), ((-2147483648), 2147483647), ((-2147483648), 2147483647), (0, 40), ((-2147483648), 2147483647), (0, 4), ((-9223372036854775808), 9223372036854775807), ((-9223372036854775808), 9223372036854775807), ((-9223372036854775808), 9223372036854775807), (0, 1), ((-4000), 4000), ((-4000), 4000), ((-9223372036854775808), 9223372036854775807), ((-9223372036854775808), 9223372036854775807), (0, 12), ((-9223372036854775808), 9223372036854775807), ((-9223372036854775808), 9223372036854775807), ((-9223372036854775808), 9223372036854775807), ((-9223372036854775808), 9223372036854775807), ((-9223372036854775808), 9223372036854775807), (0, 12), ((-2147483648), 2147483647), (0, 12), ((-2147483648), 2147483647), (0, 40), (0, 40), ((-2147483648), 0)], []), [([], (-1)), ([(30, 1)], 0)], [], []),
   (1000, ([(0, 3), ((-2147483648), 2147483647), ((-2147483648), (-1)), ((-2147483648), 2147483647), ((-2147483648), 2147483647), ((-2147483648), 2147483647), ((-2147483648), 2147483647), (0, 40), ((-2147483648), 2147483647), (0, 4), ((-9223372036854775808), 9223372036854775807), ((-9223372036854775808), 9223372036854775807), ((-9223372036854775808), 9223372036854775807), (0, 1), ((-4000), 4000), ((-4000), 4000), ((-9223372036854775808), 9223372036854775807), ((-9223372036854775808), 9223372036854775807), (0, 12), ((-9223372036854775808), 9223372036854775807), ((-9223372036854775808), 9223372036854775807), ((-9223372036854775808), 9223372036854775807), ((-9223372036854775808), 9223372036854775807), ((-9223372036854775808), 9223372036854775807), (0, 12), ((-2147483648), 2147483647), (0, 12), ((-2147483648), 2147483647), (0, 40), (0, 40), ((-2147483648), 0)], []), [([], (-1)), ([(30, 1)], 0)], [], []),
   (1000, ([(0, 3), ((-2147483648), 2147483647), (4, 2147483647), ((-2147483648), 2147483647), ((-2147483648), 2147483647), ((-2147483648), 2147483647), ((-2147483648), 2147483647), (0, 40), ((-2147483648), 2147483647), (0, 4), ((-9223372036854775808), 9223372036854775807), ((-9223372036854775808), 9223372036854775807), ((-9223372036854775808), 9223372036854775807), (0, 1), ((-4000), 4000), ((-4000), 4000), ((-9223372036854775808), 9223372036854775807), ((-9223372036854775808), 9223372036854775807), (0, 12), ((-9223372036854775808), 9223372036854775807), ((-9223372036854775808), 9223372036854775807), ((-9223372036854775808), 9223372036854775807), ((-9223372036854775808), 9223372036854775807), ((-9223372036854775808), 9223372036854775807), (0, 12), ((-2147483648), 2147483647), (0, 12), ((-2147483648), 2147483647), (0, 40), (0, 40), ((-2147483648), 0)], []), [([], (-1)), ([(30, 1)], 0)], [], []),
   (1000, ([(0, 3), ((-2147483648), 2147483647), (0, 3), ((-2147483648), 2147483647), (0, 2147483647), ((-2147483648), 2147483647), ((-2147483648), 2147483647), (0, 40), ((-2147483648), 2147483647), (0, 4), ((-9223372036854775808), 9223372036854775807), ((-9223372036854775808), 9223372036854775807), ((-9223372036854775808), 9223372036854775807), (0, 1), ((-4000), 4000), ((-4000), 4000), ((-9223372036854775808), 9223372036854775807), ((-9223372036854775808), 9223372036854775807), (0, 12), ((-9223372036854775808), 9223372036854775807), ((-9223372036854775808), 9223372036854775807), ((-9223372036854775808), 9223372036854775807), ((-9223372036854775808), 9223372036854775807), ((-9223372036854775808), 9223372036854775807), (0, 12), ((-2147483648), 2147483647), (0, 12), ((-2147483648), 2147483647), (0, 40), (0, 40), ((-2147483648), (-1)), ((-2147483648), 0)], []), [([], (-2)), ([(31, 1)], 0)], [], [.inl (.inl (2, ([(0, 1)], 0), 30))]),
   (1000, ([(0, 3), ((-2147483648), (-1)), (0, 3), ((-2147483648), 2147483647), (0, 2147483647), ((-2147483648), 2147483647), ((-2147483648), 2147483647), (0, 40), ((-2147483648), 2147483647), (0, 4), ((-9223372036854775808), 9223372036854775807), ((-9223372036854775808), 9223372036854775807), ((-9223372036854775808), 9223372036854775807), (0, 1), ((-4000), 4000), ((-4000), 4000), ((-9223372036854775808), 9223372036854775807), ((-9223372036854775808), 9223372036854775807), (0, 12), ((-9223372036854775808), 9223372036854775807), ((-9223372036854775808), 9223372036854775807), ((-9223372036854775808), 9223372036854775807), ((-9223372036854775808), 9223372036854775807), ((-9223372036854775808), 9223372036854775807), (0, 12), ((-2147483648), 2147483647), (0, 12), ((-2147483648), 2147483647), (0, 40), (0, 40), (0, 2147483647), (0, 2147483647), (0, 100), ((-2147483648), 0)], []), [([], (-3)), ([(33, 1)], 0)], [], [.inl (.inl (3, ([(0, 1)], 0), 32)), .inl (.inl (2, ([(2, 1)], 0), 31)), .inl (.inl (2, ([(0, 1)], 0), 30))]),
   (1000, ([(0, 3), (0, 2147483647), (0, 3), ((-2147483648), 2147483647), (0, 2147483647), ((-2147483648), 2147483647), ((-2147483648), 2147483647), (0, 40), ((-2147483648), 2147483647), (0, 4), ((-9223372036854775808), 9223372036854775807), ((-9223372036854775808), 9223372036854775807), ((-9223372036854775808), 9223372036854775807), (0, 1), ((-4000), 4000), ((-4000), 4000), ((-9223372036854775808), 9223372036854775807), ((-9223372036854775808), 9223372036854775807), (0, 12), ((-9223372036854775808), 9223372036854775807), ((-9223372036854775808), 9223372036854775807), ((-9223372036854775808), 9223372036854775807), ((-9223372036854775808), 9223372036854775807), ((-9223372036854775808), 9223372036854775807), (0, 12), ((-2147483648), 2147483647), (0, 12), ((-2147483648), 2147483647), (0, 40), (0, 40), (0, 2147483647), (0, 2147483647), (0, 100), ((-2147483648), 0)], [([(1, 1), (4, 1), (32, (-1))], (-1)), ([(4, 1), (32, (-1))], 4611686018427387903)]), [([], (-3)), ([(33, 1)], 0)], [], [.inl (.inl (3, ([(0, 1)], 0), 32)), .inl (.inl (2, ([(2, 1)], 0), 31)), .inl (.inl (2, ([(0, 1)], 0), 30))]),
   (1000, ([(0, 3), (0, 100), (0, 3), ((-2147483648), (-1)), (0, 2147483647), ((-2147483648), 2147483647), ((-2147483648), 2147483647), (0, 40), ((-2147483648), 2147483647), (0, 4), ((-9223372036854775808), 9223372036854775807), ((-9223372036854775808), 9223372036854775807), ((-9223372036854775808), 9223372036854775807), (0, 1), ((-4000), 4000), ((-4000), 4000), ((-9223372036854775808), 9223372036854775807), ((-9223372036854775808), 9223372036854775807), (0, 12), ((-9223372036854775808), 9223372036854775807), ((-9223372036854775808), 9223372036854775807), ((-9223372036854775808), 9223372036854775807), ((-9223372036854775808), 9223372036854775807), ((-9223372036854775808), 9223372036854775807), (0, 12), ((-2147483648), 2147483647), (0, 12), ((-2147483648), 2147483647), (0, 40), (0, 40), (0, 2147483647), (0, 2147483647), (0, 100), (0, 100), ((-2147483648), 0)], [([(1, (-1)), (4, (-1)), (32, 1)], 0)]), [([], (-3)), ([(34, 1)], 0)], [], [.inl (.inl (3, ([(2, 1)], 0), 33)), .inl (.inl (3, ([(0, 1)], 0), 32)), .inl (.inl (2, ([(2, 1)], 0), 31)), .inl (.inl (2, ([(0, 1)], 0), 30))]),
   (1000, ([(0, 3), (0, 100), (0, 3), (0, 2147483647), (0, 2147483647), ((-2147483648), 2147483647), ((-2147483648), 2147483647), (0, 40), ((-2147483648), 2147483647), (0, 4), ((-9223372036854775808), 9223372036854775807), ((-9223372036854775808), 9223372036854775807), ((-9223372036854775808), 9223372036854775807), (0, 1), ((-4000), 4000), ((-4000), 4000), ((-9223372036854775808), 9223372036854775807), ((-9223372036854775808), 9223372036854775807), (0, 12), ((-9223372036854775808), 9223372036854775807), ((-9223372036854775808), 9223372036854775807), ((-9223372036854775808), 9223372036854775807), ((-9223372036854775808), 9223372036854775807), ((-9223372036854775808), 9223372036854775807), (0, 12), ((-2147483648), 2147483647), (0, 12), ((-2147483648), 2147483647), (0, 40), (0, 40), (0, 2147483647), (0, 2147483647), (0, 100), (0, 100), ((-2147483648), 0)], [([(3, 1), (4, 1), (33, (-1))], (-1)), ([(4, 1), (33, (-1))], 4611686018427387903), ([(1, (-1)), (4, (-1)), (32, 1)], 0)]), [([], (-3)), ([(34, 1)], 0)], [], [.inl (.inl (3, ([(2, 1)], 0), 33)), .inl (.inl (3, ([(0, 1)], 0), 32)), .inl (.inl (2, ([(2, 1)], 0), 31)), .inl (.inl (2, ([(0, 1)], 0), 30))]),
   (0, ([(0, 3), (0, 100), (0, 3), (0, 100), (0, 2147483647), ((-2147483648), 2147483647), ((-2147483648), 2147483647), (0, 40), ((-2147483648), 2147483647), (0, 4), ((-9223372036854775808), 9223372036854775807), ((-9223372036854775808), 9223372036854775807), ((-9223372036854775808), 9223372036854775807), (0, 1), ((-4000), 4000), ((-4000), 4000), ((-9223372036854775808), 9223372036854775807), ((-9223372036854775808), 9223372036854775807), (0, 12), ((-9223372036854775808), 9223372036854775807), ((-9223372036854775808), 9223372036854775807), ((-9223372036854775808), 9223372036854775807), ((-9223372036854775808), 9223372036854775807), ((-9223372036854775808), 9223372036854775807), (0, 12), ((-2147483648), 2147483647), (0, 12), ((-2147483648), 2147483647), (0, 40), (0, 40), (0, 2147483647), (0, 2147483647), (0, 100), (0, 100)], [([(3, (-1)), (4, (-1)), (33, 1)], 0), ([(1, (-1)), (4, (-1)), (32, 1)], 0)]), [([], 0)], [], [.inl (.inl (3, ([(2, 1)], 0), 33)), .inl (.inl (3, ([(0, 1)], 0), 32)), .inl (.inl (2, ([(2, 1)], 0), 31)), .inl (.inl (2, ([(0, 1)], 0), 30))]),
   (1000, ([(0, 3), ((-2147483648), 2147483647), (0, 3), ((-2147483648), 2147483647), (0, 2147483647), ((-2147483648), 2147483647), ((-2147483648), 2147483647), (0, 40), ((-2147483648), 2147483647), (0, 4), ((-9223372036854775808), 9223372036854775807), ((-9223372036854775808), 9223372036854775807), ((-9223372036854775808), 9223372036854775807), (0, 1), ((-4000), 4000), ((-4000), 4000), ((-9223372036854775808), 9223372036854775807), ((-9223372036854775808), 9223372036854775807), (0, 12), ((-9223372036854775808), 9223372036854775807), ((-9223372036854775808), 9223372036854775807), ((-9223372036854775808), 9223372036854775807), ((-9223372036854775808), 9223372036854775807), ((-9223372036854775808), 9223372036854775807), (0, 12), ((-2147483648), 2147483647), (0, 12), ((-2147483648), 2147483647), (0, 40), (0, 40), (0, 2147483647), ((-2147483648), (-1)), ((-2147483648), 0)], []), [([], (-2)), ([(32, 1)], 0)], [], [.inl (.inl (2, ([(2, 1)], 0), 31)), .inl (.inl (2, ([(0, 1)], 0), 30))]),
   (1000, ([(0, 3), ((-2147483648), 2147483647), (0, 3), ((-2147483648), 2147483647), ((-2147483648), (-1)), ((-2147483648), 2147483647), ((-2147483648), 2147483647), (0, 40), ((-2147483648), 2147483647), (0, 4), ((-9223372036854775808), 9223372036854775807), ((-9223372036854775808), 9223372036854775807), ((-9223372036854775808), 9223372036854775807), (0, 1), ((-4000), 4000), ((-4000), 4000), ((-9223372036854775808), 9223372036854775807), ((-9223372036854775808), 9223372036854775807), (0, 12), ((-9223372036854775808), 9223372036854775807), ((-9223372036854775808), 9223372036854775807), ((-9223372036854775808), 9223372036854775807), ((-9223372036854775808), 9223372036854775807), ((-9223372036854775808), 9223372036854775807), (0, 12), ((-2147483648), 2147483647), (0, 12), ((-2147483648), 2147483647), (0, 40), (0, 40), ((-2147483648), 0)], []), [([], (-1)), ([(30, 1)], 0)], [], [])],
  [(1, ([(0, 3), (0, 100), (0, 3), (0, 100), (0, 100), ((-2147483648), 2147483647), ((-2147483648), 2147483647), (0, 40), ((-2147483648), 2147483647), (0, 4), ((-9223372036854775808), 9223372036854775807), ((-9223372036854775808), 9223372036854775807), ((-9223372036854775808), 9223372036854775807), (0, 1), ((-4000), 4000), ((-4000), 4000), ((-9223372036854775808), 9223372036854775807), ((-9223372036854775808), 9223372036854775807), (0, 12), ((-9223372036854775808), 9223372036854775807), ((-9223372036854775808), 9223372036854775807), ((-9223372036854775808), 9223372036854775807), ((-9223372036854775808), 9223372036854775807), ((-9223372036854775808), 9223372036854775807), (0, 12), ((-2147483648), 2147483647), (0, 12), ((-2147483648), 2147483647), (0, 40), (0, 40), (0, 100)], [([(4, (-1)), (30, 1)], 0), ([(1, (-1)), (4, (-1))], 100), ([(3, (-1)), (4, (-1))], 100), ([(0, 1)], 0), ([(0, (-1))], 3), ([(1, 1)], 0), ([(1, (-1))], 100), ([(2, 1)], 0), ([(2, (-1))], 3), ([(3, 1)], 0), ([(3, (-1))], 100), ([(4, 1)], 0), ([(3, (-1)), (4, (-1))], 100), ([(1, (-1)), (4, (-1))], 100)]), [([], 0)], [], []),
   (0, ([(0, 3), (0, 100), (0, 3), (0, 100), (1, 100), ((-2147483648), 2147483647), ((-2147483648), 2147483647), (0, 40), ((-2147483648), 2147483647), (0, 4), ((-9223372036854775808), 9223372036854775807), ((-9223372036854775808), 9223372036854775807), ((-9223372036854775808), 9223372036854775807), (0, 1), ((-4000), 4000), ((-4000), 4000), ((-9223372036854775808), 9223372036854775807), ((-9223372036854775808), 9223372036854775807), (0, 12), ((-9223372036854775808), 9223372036854775807), ((-9223372036854775808), 9223372036854775807), ((-9223372036854775808), 9223372036854775807), ((-9223372036854775808), 9223372036854775807), ((-9223372036854775808), 9223372036854775807), (0, 12), ((-2147483648), 2147483647), (0, 12), ((-2147483648), 2147483647), (0, 40), (0, 40), (0, 99), ((-9223372036854775808), 9223372036854775807)], [([(4, 1), (30, (-1))], (-1)), ([(1, (-1)), (4, (-1))], 100), ([(3, (-1)), (4, (-1))], 100), ([(0, 1)], 0), ([(0, (-1))], 3), ([(1, 1)], 0), ([(1, (-1))], 100), ([(2, 1)], 0), ([(2, (-1))], 3), ([(3, 1)], 0), ([(3, (-1))], 100), ([(4, 1)], 0), ([(3, (-1)), (4, (-1))], 100), ([(1, (-1)), (4, (-1))], 100)]), [([(30, 1)], 1)], [], [.inr (.inl (4, ([(30, 1)], 0), ([(31, 1)], 0))), .inl (.inl (1, ([(30, 1), (0, 100), (1, 1)], 0), 31))])],
  [(1000, ([(0, 3), (0, 100), (0, 3), (0, 100), ((-2147483648), 100), ((-2147483648), 2147483647), ((-2147483648), 2147483647), (0, 40), ((-2147483648), 2147483647), (0, 4), ((-9223372036854775808), 9223372036854775807), ((-9223372036854775808), 9223372036854775807), ((-9223372036854775808), 9223372036854775807), (0, 1), ((-4000), 4000), ((-4000), 4000), ((-9223372036854775808), 9223372036854775807), ((-9223372036854775808), 9223372036854775807), (0, 12), ((-9223372036854775808), 9223372036854775807), ((-9223372036854775808), 9223372036854775807), ((-9223372036854775808), 9223372036854775807), ((-9223372036854775808), 9223372036854775807), ((-9223372036854775808), 9223372036854775807), (0, 12), ((-2147483648), 2147483647), (0, 12), ((-2147483648), 2147483647), (0, 40), (0, 40), (0, 100), ((-2147483648), 0)], [([(4, (-1)), (30, 1)], 0), ([(3, (-1)), (4, (-1))], 100), ([(1, (-1)), (4, (-1))], 100), ([(0, 1)], 0), ([(0, (-1))], 3), ([(1, 1)], 0), ([(1, (-1))], 100), ([(2, 1)], 0), ([(2, (-1))], 3), ([(3, 1)], 0), ([(3, (-1))], 100), ([(1, (-1)), (4, (-1))], 100), ([(3, (-1)), (4, (-1))], 100)]), [([(4, 1)], 0), ([(31, 1)], 0)], [], []),
   (1, ([(0, 3), (0, 100), (0, 3), (0, 100), (1, 100), ((-2147483648), 2147483647), ((-2147483648), 2147483647), (0, 40), ((-2147483648), 2147483647), (0, 4), ((-9223372036854775808), 9223372036854775807), ((-9223372036854775808), 9223372036854775807), ((-9223372036854775808), 9223372036854775807), (0, 1), ((-4000), 4000), ((-4000), 4000), ((-9223372036854775808), 9223372036854775807), ((-9223372036854775808), 9223372036854775807), (0, 12), ((-9223372036854775808), 9223372036854775807), ((-9223372036854775808), 9223372036854775807), ((-9223372036854775808), 9223372036854775807), ((-9223372036854775808), 9223372036854775807), ((-9223372036854775808), 9223372036854775807), (0, 12), ((-2147483648), 2147483647), (0, 12), ((-2147483648), 2147483647), (0, 40), (0, 40), (0, 99), ((-2147483648), 2147483647), ((-9223372036854775808), 9223372036854775807), ((-9223372036854775808), 9223372036854775807)], [([(4, 1), (30, (-1))], (-1)), ([(3, (-1)), (4, (-1))], 100), ([(1, (-1)), (4, (-1))], 100), ([(0, 1)], 0), ([(0, (-1))], 3), ([(1, 1)], 0), ([(1, (-1))], 100), ([(2, 1)], 0), ([(2, (-1))], 3), ([(3, 1)], 0), ([(3, (-1))], 100), ([(1, (-1)), (4, (-1))], 100), ([(3, (-1)), (4, (-1))], 100)]), [([(30, 1)], 1)], [], [.inr (.inl (1, ([(30, 1), (2, 100), (3, 1)], 0), ([(33, 1)], 0))), .inr (.inr (.inl (96, 0, [([(31, 1)], 0), ([(32, 1)], 0), ([(33, 1)], 0)], [], []))), .inl (.inl (4, ([(30, 1)], 0), 32)), .inl (.inl (2, ([(2, 1)], 0), 31))])]]
noncomputable def xG_1025 : Nat → yt_G → (Nat → Int) → yt_G → Prop
  | 0, g0, r, g => 0 ≤ (g0 2) ((r 0)).toNat ∧ 0 ≤ (g0 2) ((r 2)).toNat ∧ 0 ≤ (r 1) ∧ (r 1) + (r 4) ≤ (g0 3) ((r 0)).toNat ∧ 0 ≤ (r 3) ∧ (r 3) + (r 4) ≤ (g0 3) ((r 2)).toNat ∧ 0 ≤ (r 4) ∧ (∀ j : Nat, (j : Int) < ((1 * (r 30) + 0) + 0) → (g 4) j = (g0 1) (100 * (r 0) + (r 1) + (j : Int)).toNat) ∧ (g 1) = (g0 1)
  | 1, g0, r, g => 0 ≤ (g0 2) ((r 0)).toNat ∧ 0 ≤ (g0 2) ((r 2)).toNat ∧ 0 ≤ (r 1) ∧ (r 1) + (r 4) ≤ (g0 3) ((r 0)).toNat ∧ 0 ≤ (r 3) ∧ (r 3) + (r 4) ≤ (g0 3) ((r 2)).toNat ∧ 0 ≤ (r 4) ∧ (∀ j : Nat, (j : Int) < (r 4) → (g 4) j = (g0 1) (100 * (r 0) + (r 1) + (j : Int)).toNat) ∧ (g 1) = yq_pa (100 * (r 2) + (r 3)) (100 * (r 0) + (r 1)) ((1 * (r 30) + 0) + 0) ((g0 2) ((r 2)).toNat) (g0 1) (g0 1) ∧ ((1 * (r 30) + 0) + 0) ≤ (r 4)
  | _, _, _, _ => True
noncomputable def xP_1025 : yt_Ph
  | 0, r, g0, g => (r 30) = yq_cm (r 0) (r 1) (r 2) (r 3) (r 4) (yq_at (r 0) ((g0 2) 0) ((g0 2) 1) ((g0 2) 2) ((g0 2) 3)) (yq_at (r 2) ((g0 2) 0) ((g0 2) 1) ((g0 2) 2) ((g0 2) 3)) (yq_at (r 0) ((g0 3) 0) ((g0 3) 1) ((g0 3) 2) ((g0 3) 3)) (yq_at (r 2) ((g0 3) 0) ((g0 3) 1) ((g0 3) 2) ((g0 3) 3)) ∧ (g 1) = yq_mc (r 0) (r 1) (r 2) (r 3) (r 4) (yq_at (r 0) ((g0 2) 0) ((g0 2) 1) ((g0 2) 2) ((g0 2) 3)) (yq_at (r 2) ((g0 2) 0) ((g0 2) 1) ((g0 2) 2) ((g0 2) 3)) (yq_at (r 0) ((g0 3) 0) ((g0 3) 1) ((g0 3) 2) ((g0 3) 3)) (yq_at (r 2) ((g0 3) 0) ((g0 3) 1) ((g0 3) 2) ((g0 3) 3)) (g0 1)
  | _, _, _, _ => True
noncomputable def xR_1025 : yt_Ps := fun r g0 => True
noncomputable def xT_1025 : yt_Tb := fun d => match d with
  | 96 => xP_1024
  | _ => fun _ _ _ _ => True
noncomputable def xU_1025 : Nat → yt_Ps := fun d => match d with
  | 96 => xR_1024
  | _ => fun _ _ => True
theorem xw_1025_0_0 : yt_hold xT_1025 xk_1025 xq_1025.2.2.1 xG_1025 xP_1025 xU_1025 30 xk_1025.2.1.2.2.2 (fun g0 r g => xR_1025 r g0 ∧ g = g0) (1000, ([((-2147483648), (-1)), ((-2147483648), 2147483647), ((-2147483648), 2147483647), ((-2147483648), 2147483647), ((-2147483648), 2147483647), ((-2147483648), 2147483647), ((-2147483648), 2147483647), (0, 40), ((-2147483648), 2147483647), (0, 4), ((-9223372036854775808), 9223372036854775807), ((-9223372036854775808), 9223372036854775807), ((-9223372036854775808), 9223372036854775807), (0, 1), ((-4000), 4000), ((-4000), 4000), ((-9223372036854775808), 9223372036854775807), ((-9223372036854775808), 9223372036854775807), (0, 12), ((-9223372036854775808), 9223372036854775807), ((-9223372036854775808), 9223372036854775807), ((-9223372036854775808), 9223372036854775807), ((-9223372036854775808), 9223372036854775807), ((-9223372036854775808), 9223372036854775807), (0, 12), ((-2147483648), 2147483647), (0, 12), ((-2147483648), 2147483647), (0, 40), (0, 40), ((-2147483648), 0)], []), [([], (-1)), ([(30, 1)], 0)], [], []) := by
  intro g0 r gi g hok hh hars hfr hG
  have b0 : (-2147483648) ≤ r 0 ∧ r 0 ≤ (-1) := hok.1 0 ((-2147483648), (-1)) rfl
  have b1 : (-2147483648) ≤ r 1 ∧ r 1 ≤ 2147483647 := hok.1 1 ((-2147483648), 2147483647) rfl
  have b2 : (-2147483648) ≤ r 2 ∧ r 2 ≤ 2147483647 := hok.1 2 ((-2147483648), 2147483647) rfl
  have b3 : (-2147483648) ≤ r 3 ∧ r 3 ≤ 2147483647 := hok.1 3 ((-2147483648), 2147483647) rfl
  have b4 : (-2147483648) ≤ r 4 ∧ r 4 ≤ 2147483647 := hok.1 4 ((-2147483648), 2147483647) rfl
  have b30 : (-2147483648) ≤ r 30 ∧ r 30 ≤ 0 := hok.1 30 ((-2147483648), 0) rfl
  obtain ⟨hG, hgi⟩ := hG
  have hG : True := hG
  have hh : g = gi := hh
  subst hh
  refine yt_dalt (by decide) (by decide) ?_
  rw [show xk_1025.2.1.2.1.1.length = 30 from rfl]
  show ((0 : Int) + (-1)) = yq_cm ((1 * r 0 + 0) + 0) ((1 * r 1 + 0) + 0) ((1 * r 2 + 0) + 0) ((1 * r 3 + 0) + 0) ((1 * r 4 + 0) + 0) (yq_at ((1 * r 0 + 0) + 0) ((g0 2) 0) ((g0 2) 1) ((g0 2) 2) ((g0 2) 3)) (yq_at ((1 * r 2 + 0) + 0) ((g0 2) 0) ((g0 2) 1) ((g0 2) 2) ((g0 2) 3)) (yq_at ((1 * r 0 + 0) + 0) ((g0 3) 0) ((g0 3) 1) ((g0 3) 2) ((g0 3) 3)) (yq_at ((1 * r 2 + 0) + 0) ((g0 3) 0) ((g0 3) 1) ((g0 3) 2) ((g0 3) 3)) ∧ (g 1) = yq_mc ((1 * r 0 + 0) + 0) ((1 * r 1 + 0) + 0) ((1 * r 2 + 0) + 0) ((1 * r 3 + 0) + 0) ((1 * r 4 + 0) + 0) (yq_at ((1 * r 0 + 0) + 0) ((g0 2) 0) ((g0 2) 1) ((g0 2) 2) ((g0 2) 3)) (yq_at ((1 * r 2 + 0) + 0) ((g0 2) 0) ((g0 2) 1) ((g0 2) 2) ((g0 2) 3)) (yq_at ((1 * r 0 + 0) + 0) ((g0 3) 0) ((g0 3) 1) ((g0 3) 2) ((g0 3) 3)) (yq_at ((1 * r 2 + 0) + 0) ((g0 3) 0) ((g0 3) 1) ((g0 3) 2) ((g0 3) 3)) (g0 1)
  try simp only [Int.one_mul, Int.zero_add, Int.add_zero]
  refine ⟨?_, ?_⟩
  · unfold yq_cm
    rw [if_neg (by omega)] <;> omega
  · unfold yq_mc
    rw [if_neg (by omega)]
    rw [hgi]
theorem xw_1025_0_1 : yt_hold xT_1025 xk_1025 xq_1025.2.2.1 xG_1025 xP_1025 xU_1025 30 xk_1025.2.1.2.2.2 (fun g0 r g => xR_1025 r g0 ∧ g = g0) (1000, ([(4, 2147483647), ((-2147483648), 2147483647), ((-2147483648), 2147483647), ((-2147483648), 2147483647), ((-2147483648), 2147483647), ((-2147483648), 2147483647), ((-2147483648), 2147483647), (0, 40), ((-2147483648), 2147483647), (0, 4), ((-9223372036854775808), 9223372036854775807), ((-9223372036854775808), 9223372036854775807), ((-9223372036854775808), 9223372036854775807), (0, 1), ((-4000), 4000), ((-4000), 4000), ((-9223372036854775808), 9223372036854775807), ((-9223372036854775808), 9223372036854775807), (0, 12), ((-9223372036854775808), 9223372036854775807), ((-9223372036854775808), 9223372036854775807), ((-9223372036854775808), 9223372036854775807), ((-9223372036854775808), 9223372036854775807), ((-9223372036854775808), 9223372036854775807), (0, 12), ((-2147483648), 2147483647), (0, 12), ((-2147483648), 2147483647), (0, 40), (0, 40), ((-2147483648), 0)], []), [([], (-1)), ([(30, 1)], 0)], [], []) := by
  intro g0 r gi g hok hh hars hfr hG
  have b0 : 4 ≤ r 0 ∧ r 0 ≤ 2147483647 := hok.1 0 (4, 2147483647) rfl
  have b1 : (-2147483648) ≤ r 1 ∧ r 1 ≤ 2147483647 := hok.1 1 ((-2147483648), 2147483647) rfl
  have b2 : (-2147483648) ≤ r 2 ∧ r 2 ≤ 2147483647 := hok.1 2 ((-2147483648), 2147483647) rfl
  have b3 : (-2147483648) ≤ r 3 ∧ r 3 ≤ 2147483647 := hok.1 3 ((-2147483648), 2147483647) rfl
  have b4 : (-2147483648) ≤ r 4 ∧ r 4 ≤ 2147483647 := hok.1 4 ((-2147483648), 2147483647) rfl
  have b30 : (-2147483648) ≤ r 30 ∧ r 30 ≤ 0 := hok.1 30 ((-2147483648), 0) rfl
  obtain ⟨hG, hgi⟩ := hG
  have hG : True := hG
  have hh : g = gi := hh
  subst hh
  refine yt_dalt (by decide) (by decide) ?_
  rw [show xk_1025.2.1.2.1.1.length = 30 from rfl]
  show ((0 : Int) + (-1)) = yq_cm ((1 * r 0 + 0) + 0) ((1 * r 1 + 0) + 0) ((1 * r 2 + 0) + 0) ((1 * r 3 + 0) + 0) ((1 * r 4 + 0) + 0) (yq_at ((1 * r 0 + 0) + 0) ((g0 2) 0) ((g0 2) 1) ((g0 2) 2) ((g0 2) 3)) (yq_at ((1 * r 2 + 0) + 0) ((g0 2) 0) ((g0 2) 1) ((g0 2) 2) ((g0 2) 3)) (yq_at ((1 * r 0 + 0) + 0) ((g0 3) 0) ((g0 3) 1) ((g0 3) 2) ((g0 3) 3)) (yq_at ((1 * r 2 + 0) + 0) ((g0 3) 0) ((g0 3) 1) ((g0 3) 2) ((g0 3) 3)) ∧ (g 1) = yq_mc ((1 * r 0 + 0) + 0) ((1 * r 1 + 0) + 0) ((1 * r 2 + 0) + 0) ((1 * r 3 + 0) + 0) ((1 * r 4 + 0) + 0) (yq_at ((1 * r 0 + 0) + 0) ((g0 2) 0) ((g0 2) 1) ((g0 2) 2) ((g0 2) 3)) (yq_at ((1 * r 2 + 0) + 0) ((g0 2) 0) ((g0 2) 1) ((g0 2) 2) ((g0 2) 3)) (yq_at ((1 * r 0 + 0) + 0) ((g0 3) 0) ((g0 3) 1) ((g0 3) 2) ((g0 3) 3)) (yq_at ((1 * r 2 + 0) + 0) ((g0 3) 0) ((g0 3) 1) ((g0 3) 2) ((g0 3) 3)) (g0 1)
  try simp only [Int.one_mul, Int.zero_add, Int.add_zero]
  refine ⟨?_, ?_⟩
  · unfold yq_cm
    rw [if_neg (by omega)] <;> omega
  · unfold yq_mc
    rw [if_neg (by omega)]
    rw [hgi]
theorem xw_1025_0_2 : yt_hold xT_1025 xk_1025 xq_1025.2.2.1 xG_1025 xP_1025 xU_1025 30 xk_1025.2.1.2.2.2 (fun g0 r g => xR_1025 r g0 ∧ g = g0) (1000, ([(0, 3), ((-2147483648), 2147483647), ((-2147483648), (-1)), ((-2147483648), 2147483647), ((-2147483648), 2147483647), ((-2147483648), 2147483647), ((-2147483648), 2147483647), (0, 40), ((-2147483648), 2147483647), (0, 4), ((-9223372036854775808), 9223372036854775807), ((-9223372036854775808), 9223372036854775807), ((-9223372036854775808), 9223372036854775807), (0, 1), ((-4000), 4000), ((-4000), 4000), ((-9223372036854775808), 9223372036854775807), ((-9223372036854775808), 9223372036854775807), (0, 12), ((-9223372036854775808), 9223372036854775807), ((-9223372036854775808), 9223372036854775807), ((-9223372036854775808), 9223372036854775807), ((-9223372036854775808), 9223372036854775807), ((-9223372036854775808), 9223372036854775807), (0, 12), ((-2147483648), 2147483647), (0, 12), ((-2147483648), 2147483647), (0, 40), (0, 40), ((-2147483648), 0)], []), [([], (-1)), ([(30, 1)], 0)], [], []) := by
  intro g0 r gi g hok hh hars hfr hG
  have b0 : 0 ≤ r 0 ∧ r 0 ≤ 3 := hok.1 0 (0, 3) rfl
  have b1 : (-2147483648) ≤ r 1 ∧ r 1 ≤ 2147483647 := hok.1 1 ((-2147483648), 2147483647) rfl
  have b2 : (-2147483648) ≤ r 2 ∧ r 2 ≤ (-1) := hok.1 2 ((-2147483648), (-1)) rfl
  have b3 : (-2147483648) ≤ r 3 ∧ r 3 ≤ 2147483647 := hok.1 3 ((-2147483648), 2147483647) rfl
  have b4 : (-2147483648) ≤ r 4 ∧ r 4 ≤ 2147483647 := hok.1 4 ((-2147483648), 2147483647) rfl
  have b30 : (-2147483648) ≤ r 30 ∧ r 30 ≤ 0 := hok.1 30 ((-2147483648), 0) rfl
  obtain ⟨hG, hgi⟩ := hG
  have hG : True := hG
  have hh : g = gi := hh
  subst hh
  refine yt_dalt (by decide) (by decide) ?_
  rw [show xk_1025.2.1.2.1.1.length = 30 from rfl]
  show ((0 : Int) + (-1)) = yq_cm ((1 * r 0 + 0) + 0) ((1 * r 1 + 0) + 0) ((1 * r 2 + 0) + 0) ((1 * r 3 + 0) + 0) ((1 * r 4 + 0) + 0) (yq_at ((1 * r 0 + 0) + 0) ((g0 2) 0) ((g0 2) 1) ((g0 2) 2) ((g0 2) 3)) (yq_at ((1 * r 2 + 0) + 0) ((g0 2) 0) ((g0 2) 1) ((g0 2) 2) ((g0 2) 3)) (yq_at ((1 * r 0 + 0) + 0) ((g0 3) 0) ((g0 3) 1) ((g0 3) 2) ((g0 3) 3)) (yq_at ((1 * r 2 + 0) + 0) ((g0 3) 0) ((g0 3) 1) ((g0 3) 2) ((g0 3) 3)) ∧ (g 1) = yq_mc ((1 * r 0 + 0) + 0) ((1 * r 1 + 0) + 0) ((1 * r 2 + 0) + 0) ((1 * r 3 + 0) + 0) ((1 * r 4 + 0) + 0) (yq_at ((1 * r 0 + 0) + 0) ((g0 2) 0) ((g0 2) 1) ((g0 2) 2) ((g0 2) 3)) (yq_at ((1 * r 2 + 0) + 0) ((g0 2) 0) ((g0 2) 1) ((g0 2) 2) ((g0 2) 3)) (yq_at ((1 * r 0 + 0) + 0) ((g0 3) 0) ((g0 3) 1) ((g0 3) 2) ((g0 3) 3)) (yq_at ((1 * r 2 + 0) + 0) ((g0 3) 0) ((g0 3) 1) ((g0 3) 2) ((g0 3) 3)) (g0 1)
  try simp only [Int.one_mul, Int.zero_add, Int.add_zero]
  refine ⟨?_, ?_⟩
  · unfold yq_cm
    rw [if_neg (by omega)] <;> omega
  · unfold yq_mc
    rw [if_neg (by omega)]
    rw [hgi]
theorem xw_1025_0_3 : yt_hold xT_1025 xk_1025 xq_1025.2.2.1 xG_1025 xP_1025 xU_1025 30 xk_1025.2.1.2.2.2 (fun g0 r g => xR_1025 r g0 ∧ g = g0) (1000, ([(0, 3), ((-2147483648), 2147483647), (4, 2147483647), ((-2147483648), 2147483647), ((-2147483648), 2147483647), ((-2147483648), 2147483647), ((-2147483648), 2147483647), (0, 40), ((-2147483648), 2147483647), (0, 4), ((-9223372036854775808), 9223372036854775807), ((-9223372036854775808), 9223372036854775807), ((-9223372036854775808), 9223372036854775807), (0, 1), ((-4000), 4000), ((-4000), 4000), ((-9223372036854775808), 9223372036854775807), ((-9223372036854775808), 9223372036854775807), (0, 12), ((-9223372036854775808), 9223372036854775807), ((-9223372036854775808), 9223372036854775807), ((-9223372036854775808), 9223372036854775807), ((-9223372036854775808), 9223372036854775807), ((-9223372036854775808), 9223372036854775807), (0, 12), ((-2147483648), 2147483647), (0, 12), ((-2147483648), 2147483647), (0, 40), (0, 40), ((-2147483648), 0)], []), [([], (-1)), ([(30, 1)], 0)], [], []) := by
  intro g0 r gi g hok hh hars hfr hG
  have b0 : 0 ≤ r 0 ∧ r 0 ≤ 3 := hok.1 0 (0, 3) rfl
  have b1 : (-2147483648) ≤ r 1 ∧ r 1 ≤ 2147483647 := hok.1 1 ((-2147483648), 2147483647) rfl
  have b2 : 4 ≤ r 2 ∧ r 2 ≤ 2147483647 := hok.1 2 (4, 2147483647) rfl
  have b3 : (-2147483648) ≤ r 3 ∧ r 3 ≤ 2147483647 := hok.1 3 ((-2147483648), 2147483647) rfl
  have b4 : (-2147483648) ≤ r 4 ∧ r 4 ≤ 2147483647 := hok.1 4 ((-2147483648), 2147483647) rfl
  have b30 : (-2147483648) ≤ r 30 ∧ r 30 ≤ 0 := hok.1 30 ((-2147483648), 0) rfl
  obtain ⟨hG, hgi⟩ := hG
  have hG : True := hG
  have hh : g = gi := hh
  subst hh
  refine yt_dalt (by decide) (by decide) ?_
  rw [show xk_1025.2.1.2.1.1.length = 30 from rfl]
  show ((0 : Int) + (-1)) = yq_cm ((1 * r 0 + 0) + 0) ((1 * r 1 + 0) + 0) ((1 * r 2 + 0) + 0) ((1 * r 3 + 0) + 0) ((1 * r 4 + 0) + 0) (yq_at ((1 * r 0 + 0) + 0) ((g0 2) 0) ((g0 2) 1) ((g0 2) 2) ((g0 2) 3)) (yq_at ((1 * r 2 + 0) + 0) ((g0 2) 0) ((g0 2) 1) ((g0 2) 2) ((g0 2) 3)) (yq_at ((1 * r 0 + 0) + 0) ((g0 3) 0) ((g0 3) 1) ((g0 3) 2) ((g0 3) 3)) (yq_at ((1 * r 2 + 0) + 0) ((g0 3) 0) ((g0 3) 1) ((g0 3) 2) ((g0 3) 3)) ∧ (g 1) = yq_mc ((1 * r 0 + 0) + 0) ((1 * r 1 + 0) + 0) ((1 * r 2 + 0) + 0) ((1 * r 3 + 0) + 0) ((1 * r 4 + 0) + 0) (yq_at ((1 * r 0 + 0) + 0) ((g0 2) 0) ((g0 2) 1) ((g0 2) 2) ((g0 2) 3)) (yq_at ((1 * r 2 + 0) + 0) ((g0 2) 0) ((g0 2) 1) ((g0 2) 2) ((g0 2) 3)) (yq_at ((1 * r 0 + 0) + 0) ((g0 3) 0) ((g0 3) 1) ((g0 3) 2) ((g0 3) 3)) (yq_at ((1 * r 2 + 0) + 0) ((g0 3) 0) ((g0 3) 1) ((g0 3) 2) ((g0 3) 3)) (g0 1)
  try simp only [Int.one_mul, Int.zero_add, Int.add_zero]
  refine ⟨?_, ?_⟩
  · unfold yq_cm
    rw [if_neg (by omega)] <;> omega
  · unfold yq_mc
    rw [if_neg (by omega)]
    rw [hgi]
theorem xw_1025_0_4 : yt_hold xT_1025 xk_1025 xq_1025.2.2.1 xG_1025 xP_1025 xU_1025 30 xk_1025.2.1.2.2.2 (fun g0 r g => xR_1025 r g0 ∧ g = g0) (1000, ([(0, 3), ((-2147483648), 2147483647), (0, 3), ((-2147483648), 2147483647), (0, 2147483647), ((-2147483648), 2147483647), ((-2147483648), 2147483647), (0, 40), ((-2147483648), 2147483647), (0, 4), ((-9223372036854775808), 9223372036854775807), ((-9223372036854775808), 9223372036854775807), ((-9223372036854775808), 9223372036854775807), (0, 1), ((-4000), 4000), ((-4000), 4000), ((-9223372036854775808), 9223372036854775807), ((-9223372036854775808), 9223372036854775807), (0, 12), ((-9223372036854775808), 9223372036854775807), ((-9223372036854775808), 9223372036854775807), ((-9223372036854775808), 9223372036854775807), ((-9223372036854775808), 9223372036854775807), ((-9223372036854775808), 9223372036854775807), (0, 12), ((-2147483648), 2147483647), (0, 12), ((-2147483648), 2147483647), (0, 40), (0, 40), ((-2147483648), (-1)), ((-2147483648), 0)], []), [([], (-2)), ([(31, 1)], 0)], [], [.inl (.inl (2, ([(0, 1)], 0), 30))]) := by
  intro g0 r gi g hok hh hars hfr hG
  have b0 : 0 ≤ r 0 ∧ r 0 ≤ 3 := hok.1 0 (0, 3) rfl
  have b1 : (-2147483648) ≤ r 1 ∧ r 1 ≤ 2147483647 := hok.1 1 ((-2147483648), 2147483647) rfl
  have b2 : 0 ≤ r 2 ∧ r 2 ≤ 3 := hok.1 2 (0, 3) rfl
  have b3 : (-2147483648) ≤ r 3 ∧ r 3 ≤ 2147483647 := hok.1 3 ((-2147483648), 2147483647) rfl
  have b4 : 0 ≤ r 4 ∧ r 4 ≤ 2147483647 := hok.1 4 (0, 2147483647) rfl
  have b30 : (-2147483648) ≤ r 30 ∧ r 30 ≤ (-1) := hok.1 30 ((-2147483648), (-1)) rfl
  have b31 : (-2147483648) ≤ r 31 ∧ r 31 ≤ 0 := hok.1 31 ((-2147483648), 0) rfl
  obtain ⟨hG, hgi⟩ := hG
  have hG : True := hG
  obtain ⟨g0, hh, q0, e0⟩ := hh
  subst q0
  have e0 : r 30 = g 2 (((1 * r 0 + 0) + 0)).toNat := e0
  rw [show (((1 * r 0 + 0) + 0)).toNat = (r 0).toNat by omega] at e0
  have hh : g = gi := hh
  subst hh
  refine yt_dalt (by decide) (by decide) ?_
  rw [show xk_1025.2.1.2.1.1.length = 30 from rfl]
  show ((0 : Int) + (-2)) = yq_cm ((1 * r 0 + 0) + 0) ((1 * r 1 + 0) + 0) ((1 * r 2 + 0) + 0) ((1 * r 3 + 0) + 0) ((1 * r 4 + 0) + 0) (yq_at ((1 * r 0 + 0) + 0) ((g0 2) 0) ((g0 2) 1) ((g0 2) 2) ((g0 2) 3)) (yq_at ((1 * r 2 + 0) + 0) ((g0 2) 0) ((g0 2) 1) ((g0 2) 2) ((g0 2) 3)) (yq_at ((1 * r 0 + 0) + 0) ((g0 3) 0) ((g0 3) 1) ((g0 3) 2) ((g0 3) 3)) (yq_at ((1 * r 2 + 0) + 0) ((g0 3) 0) ((g0 3) 1) ((g0 3) 2) ((g0 3) 3)) ∧ (g 1) = yq_mc ((1 * r 0 + 0) + 0) ((1 * r 1 + 0) + 0) ((1 * r 2 + 0) + 0) ((1 * r 3 + 0) + 0) ((1 * r 4 + 0) + 0) (yq_at ((1 * r 0 + 0) + 0) ((g0 2) 0) ((g0 2) 1) ((g0 2) 2) ((g0 2) 3)) (yq_at ((1 * r 2 + 0) + 0) ((g0 2) 0) ((g0 2) 1) ((g0 2) 2) ((g0 2) 3)) (yq_at ((1 * r 0 + 0) + 0) ((g0 3) 0) ((g0 3) 1) ((g0 3) 2) ((g0 3) 3)) (yq_at ((1 * r 2 + 0) + 0) ((g0 3) 0) ((g0 3) 1) ((g0 3) 2) ((g0 3) 3)) (g0 1)
  try simp only [Int.one_mul, Int.zero_add, Int.add_zero]
  rw [hgi] at e0
  rcases (show r 0 = 0 ∨ r 0 = 1 ∨ r 0 = 2 ∨ r 0 = 3 by omega) with q0 | q0 | q0 | q0
  · rw [show (r 0).toNat = 0 by omega] at e0
    rcases (show r 2 = 0 ∨ r 2 = 1 ∨ r 2 = 2 ∨ r 2 = 3 by omega) with q2 | q2 | q2 | q2
    · rw [q0, q2]
      simp only [yq_at0, yq_at0]
      refine ⟨?_, ?_⟩
      · unfold yq_cm
        repeat' split
        all_goals omega
      · unfold yq_mc
        rw [if_neg (by omega)]
        rw [hgi]
    · rw [q0, q2]
      simp only [yq_at0, yq_at1]
      refine ⟨?_, ?_⟩
      · unfold yq_cm
        repeat' split
        all_goals omega
      · unfold yq_mc
        rw [if_neg (by omega)]
        rw [hgi]
    · rw [q0, q2]
      simp only [yq_at0, yq_at2]
      refine ⟨?_, ?_⟩
      · unfold yq_cm
        repeat' split
        all_goals omega
      · unfold yq_mc
        rw [if_neg (by omega)]
        rw [hgi]
    · rw [q0, q2]
      simp only [yq_at0, yq_at3]
      refine ⟨?_, ?_⟩
      · unfold yq_cm
        repeat' split
        all_goals omega
      · unfold yq_mc
        rw [if_neg (by omega)]
        rw [hgi]
  · rw [show (r 0).toNat = 1 by omega] at e0
    rcases (show r 2 = 0 ∨ r 2 = 1 ∨ r 2 = 2 ∨ r 2 = 3 by omega) with q2 | q2 | q2 | q2
    · rw [q0, q2]
      simp only [yq_at1, yq_at0]
      refine ⟨?_, ?_⟩
      · unfold yq_cm
        repeat' split
        all_goals omega
      · unfold yq_mc
        rw [if_neg (by omega)]
        rw [hgi]
    · rw [q0, q2]
      simp only [yq_at1, yq_at1]
      refine ⟨?_, ?_⟩
      · unfold yq_cm
        repeat' split
        all_goals omega
      · unfold yq_mc
        rw [if_neg (by omega)]
        rw [hgi]
    · rw [q0, q2]
      simp only [yq_at1, yq_at2]
      refine ⟨?_, ?_⟩
      · unfold yq_cm
        repeat' split
        all_goals omega
      · unfold yq_mc
        rw [if_neg (by omega)]
        rw [hgi]
    · rw [q0, q2]
      simp only [yq_at1, yq_at3]
      refine ⟨?_, ?_⟩
      · unfold yq_cm
        repeat' split
        all_goals omega
      · unfold yq_mc
        rw [if_neg (by omega)]
        rw [hgi]
  · rw [show (r 0).toNat = 2 by omega] at e0
    rcases (show r 2 = 0 ∨ r 2 = 1 ∨ r 2 = 2 ∨ r 2 = 3 by omega) with q2 | q2 | q2 | q2
    · rw [q0, q2]
      simp only [yq_at2, yq_at0]
      refine ⟨?_, ?_⟩
      · unfold yq_cm
        repeat' split
        all_goals omega
      · unfold yq_mc
        rw [if_neg (by omega)]
        rw [hgi]
    · rw [q0, q2]
      simp only [yq_at2, yq_at1]
      refine ⟨?_, ?_⟩
      · unfold yq_cm
        repeat' split
        all_goals omega
      · unfold yq_mc
        rw [if_neg (by omega)]
        rw [hgi]
    · rw [q0, q2]
      simp only [yq_at2, yq_at2]
      refine ⟨?_, ?_⟩
      · unfold yq_cm
        repeat' split
        all_goals omega
      · unfold yq_mc
        rw [if_neg (by omega)]
        rw [hgi]
    · rw [q0, q2]
      simp only [yq_at2, yq_at3]
      refine ⟨?_, ?_⟩
      · unfold yq_cm
        repeat' split
        all_goals omega
      · unfold yq_mc
        rw [if_neg (by omega)]
        rw [hgi]
  · rw [show (r 0).toNat = 3 by omega] at e0
    rcases (show r 2 = 0 ∨ r 2 = 1 ∨ r 2 = 2 ∨ r 2 = 3 by omega) with q2 | q2 | q2 | q2
    · rw [q0, q2]
      simp only [yq_at3, yq_at0]
      refine ⟨?_, ?_⟩
      · unfold yq_cm
        repeat' split
        all_goals omega
      · unfold yq_mc
        rw [if_neg (by omega)]
        rw [hgi]
    · rw [q0, q2]
      simp only [yq_at3, yq_at1]
      refine ⟨?_, ?_⟩
      · unfold yq_cm
        repeat' split
        all_goals omega
      · unfold yq_mc
        rw [if_neg (by omega)]
        rw [hgi]
    · rw [q0, q2]
      simp only [yq_at3, yq_at2]
      refine ⟨?_, ?_⟩
      · unfold yq_cm
        repeat' split
        all_goals omega
      · unfold yq_mc
        rw [if_neg (by omega)]
        rw [hgi]
    · rw [q0, q2]
      simp only [yq_at3, yq_at3]
      refine ⟨?_, ?_⟩
      · unfold yq_cm
        repeat' split
        all_goals omega
      · unfold yq_mc
        rw [if_neg (by omega)]
        rw [hgi]
theorem xw_1025_0_5 : yt_hold xT_1025 xk_1025 xq_1025.2.2.1 xG_1025 xP_1025 xU_1025 30 xk_1025.2.1.2.2.2 (fun g0 r g => xR_1025 r g0 ∧ g = g0) (1000, ([(0, 3), ((-2147483648), (-1)), (0, 3), ((-2147483648), 2147483647), (0, 2147483647), ((-2147483648), 2147483647), ((-2147483648), 2147483647), (0, 40), ((-2147483648), 2147483647), (0, 4), ((-9223372036854775808), 9223372036854775807), ((-9223372036854775808), 9223372036854775807), ((-9223372036854775808), 9223372036854775807), (0, 1), ((-4000), 4000), ((-4000), 4000), ((-9223372036854775808), 9223372036854775807), ((-9223372036854775808), 9223372036854775807), (0, 12), ((-9223372036854775808), 9223372036854775807), ((-9223372036854775808), 9223372036854775807), ((-9223372036854775808), 9223372036854775807), ((-9223372036854775808), 9223372036854775807), ((-9223372036854775808), 9223372036854775807), (0, 12), ((-2147483648), 2147483647), (0, 12), ((-2147483648), 2147483647), (0, 40), (0, 40), (0, 2147483647), (0, 2147483647), (0, 100), ((-2147483648), 0)], []), [([], (-3)), ([(33, 1)], 0)], [], [.inl (.inl (3, ([(0, 1)], 0), 32)), .inl (.inl (2, ([(2, 1)], 0), 31)), .inl (.inl (2, ([(0, 1)], 0), 30))]) := by
  intro g0 r gi g hok hh hars hfr hG
  have b0 : 0 ≤ r 0 ∧ r 0 ≤ 3 := hok.1 0 (0, 3) rfl
  have b1 : (-2147483648) ≤ r 1 ∧ r 1 ≤ (-1) := hok.1 1 ((-2147483648), (-1)) rfl
  have b2 : 0 ≤ r 2 ∧ r 2 ≤ 3 := hok.1 2 (0, 3) rfl
  have b3 : (-2147483648) ≤ r 3 ∧ r 3 ≤ 2147483647 := hok.1 3 ((-2147483648), 2147483647) rfl
  have b4 : 0 ≤ r 4 ∧ r 4 ≤ 2147483647 := hok.1 4 (0, 2147483647) rfl
  have b30 : 0 ≤ r 30 ∧ r 30 ≤ 2147483647 := hok.1 30 (0, 2147483647) rfl
  have b31 : 0 ≤ r 31 ∧ r 31 ≤ 2147483647 := hok.1 31 (0, 2147483647) rfl
  have b32 : 0 ≤ r 32 ∧ r 32 ≤ 100 := hok.1 32 (0, 100) rfl
  have b33 : (-2147483648) ≤ r 33 ∧ r 33 ≤ 0 := hok.1 33 ((-2147483648), 0) rfl
  obtain ⟨hG, hgi⟩ := hG
  have hG : True := hG
  obtain ⟨g0, hh, q0, e0⟩ := hh
  subst q0
  have e0 : r 32 = g 3 (((1 * r 0 + 0) + 0)).toNat := e0
  rw [show (((1 * r 0 + 0) + 0)).toNat = (r 0).toNat by omega] at e0
  obtain ⟨g1, hh, q1, e1⟩ := hh
  subst q1
  have e1 : r 31 = g 2 (((1 * r 2 + 0) + 0)).toNat := e1
  rw [show (((1 * r 2 + 0) + 0)).toNat = (r 2).toNat by omega] at e1
  obtain ⟨g2, hh, q2, e2⟩ := hh
  subst q2
  have e2 : r 30 = g 2 (((1 * r 0 + 0) + 0)).toNat := e2
  rw [show (((1 * r 0 + 0) + 0)).toNat = (r 0).toNat by omega] at e2
  have hh : g = gi := hh
  subst hh
  refine yt_dalt (by decide) (by decide) ?_
  rw [show xk_1025.2.1.2.1.1.length = 30 from rfl]
  show ((0 : Int) + (-3)) = yq_cm ((1 * r 0 + 0) + 0) ((1 * r 1 + 0) + 0) ((1 * r 2 + 0) + 0) ((1 * r 3 + 0) + 0) ((1 * r 4 + 0) + 0) (yq_at ((1 * r 0 + 0) + 0) ((g0 2) 0) ((g0 2) 1) ((g0 2) 2) ((g0 2) 3)) (yq_at ((1 * r 2 + 0) + 0) ((g0 2) 0) ((g0 2) 1) ((g0 2) 2) ((g0 2) 3)) (yq_at ((1 * r 0 + 0) + 0) ((g0 3) 0) ((g0 3) 1) ((g0 3) 2) ((g0 3) 3)) (yq_at ((1 * r 2 + 0) + 0) ((g0 3) 0) ((g0 3) 1) ((g0 3) 2) ((g0 3) 3)) ∧ (g 1) = yq_mc ((1 * r 0 + 0) + 0) ((1 * r 1 + 0) + 0) ((1 * r 2 + 0) + 0) ((1 * r 3 + 0) + 0) ((1 * r 4 + 0) + 0) (yq_at ((1 * r 0 + 0) + 0) ((g0 2) 0) ((g0 2) 1) ((g0 2) 2) ((g0 2) 3)) (yq_at ((1 * r 2 + 0) + 0) ((g0 2) 0) ((g0 2) 1) ((g0 2) 2) ((g0 2) 3)) (yq_at ((1 * r 0 + 0) + 0) ((g0 3) 0) ((g0 3) 1) ((g0 3) 2) ((g0 3) 3)) (yq_at ((1 * r 2 + 0) + 0) ((g0 3) 0) ((g0 3) 1) ((g0 3) 2) ((g0 3) 3)) (g0 1)
  try simp only [Int.one_mul, Int.zero_add, Int.add_zero]
  rw [hgi] at e1
  rw [hgi] at e2
  rw [hgi] at e0
  rcases (show r 0 = 0 ∨ r 0 = 1 ∨ r 0 = 2 ∨ r 0 = 3 by omega) with q0 | q0 | q0 | q0
  · rw [show (r 0).toNat = 0 by omega] at e2 e0
    rcases (show r 2 = 0 ∨ r 2 = 1 ∨ r 2 = 2 ∨ r 2 = 3 by omega) with q2 | q2 | q2 | q2
    · rw [show (r 2).toNat = 0 by omega] at e1
      rw [q0, q2]
      simp only [yq_at0, yq_at0]
      refine ⟨?_, ?_⟩
      · unfold yq_cm
        repeat' split
        all_goals omega
      · unfold yq_mc
        rw [if_neg (by omega)]
        rw [hgi]
    · rw [show (r 2).toNat = 1 by omega] at e1
      rw [q0, q2]
      simp only [yq_at0, yq_at1]
      refine ⟨?_, ?_⟩
      · unfold yq_cm
        repeat' split
        all_goals omega
      · unfold yq_mc
        rw [if_neg (by omega)]
        rw [hgi]
    · rw [show (r 2).toNat = 2 by omega] at e1
      rw [q0, q2]
      simp only [yq_at0, yq_at2]
      refine ⟨?_, ?_⟩
      · unfold yq_cm
        repeat' split
        all_goals omega
      · unfold yq_mc
        rw [if_neg (by omega)]
        rw [hgi]
    · rw [show (r 2).toNat = 3 by omega] at e1
      rw [q0, q2]
      simp only [yq_at0, yq_at3]
      refine ⟨?_, ?_⟩
      · unfold yq_cm
        repeat' split
        all_goals omega
      · unfold yq_mc
        rw [if_neg (by omega)]
        rw [hgi]
  · rw [show (r 0).toNat = 1 by omega] at e2 e0
    rcases (show r 2 = 0 ∨ r 2 = 1 ∨ r 2 = 2 ∨ r 2 = 3 by omega) with q2 | q2 | q2 | q2
    · rw [show (r 2).toNat = 0 by omega] at e1
      rw [q0, q2]
      simp only [yq_at1, yq_at0]
      refine ⟨?_, ?_⟩
      · unfold yq_cm
        repeat' split
        all_goals omega
      · unfold yq_mc
        rw [if_neg (by omega)]
        rw [hgi]
    · rw [show (r 2).toNat = 1 by omega] at e1
      rw [q0, q2]
      simp only [yq_at1, yq_at1]
      refine ⟨?_, ?_⟩
      · unfold yq_cm
        repeat' split
        all_goals omega
      · unfold yq_mc
        rw [if_neg (by omega)]
        rw [hgi]
    · rw [show (r 2).toNat = 2 by omega] at e1
      rw [q0, q2]
      simp only [yq_at1, yq_at2]
      refine ⟨?_, ?_⟩
      · unfold yq_cm
        repeat' split
        all_goals omega
      · unfold yq_mc
        rw [if_neg (by omega)]
        rw [hgi]
    · rw [show (r 2).toNat = 3 by omega] at e1
      rw [q0, q2]
      simp only [yq_at1, yq_at3]
      refine ⟨?_, ?_⟩
      · unfold yq_cm
        repeat' split
        all_goals omega
      · unfold yq_mc
        rw [if_neg (by omega)]
        rw [hgi]
  · rw [show (r 0).toNat = 2 by omega] at e2 e0
    rcases (show r 2 = 0 ∨ r 2 = 1 ∨ r 2 = 2 ∨ r 2 = 3 by omega) with q2 | q2 | q2 | q2
    · rw [show (r 2).toNat = 0 by omega] at e1
      rw [q0, q2]
      simp only [yq_at2, yq_at0]
      refine ⟨?_, ?_⟩
      · unfold yq_cm
        repeat' split
        all_goals omega
      · unfold yq_mc
        rw [if_neg (by omega)]
        rw [hgi]
    · rw [show (r 2).toNat = 1 by omega] at e1
      rw [q0, q2]
      simp only [yq_at2, yq_at1]
      refine ⟨?_, ?_⟩
      · unfold yq_cm
        repeat' split
        all_goals omega
      · unfold yq_mc
        rw [if_neg (by omega)]
        rw [hgi]
    · rw [show (r 2).toNat = 2 by omega] at e1
      rw [q0, q2]
      simp only [yq_at2, yq_at2]
      refine ⟨?_, ?_⟩
      · unfold yq_cm
        repeat' split
        all_goals omega
      · unfold yq_mc
        rw [if_neg (by omega)]
        rw [hgi]
    · rw [show (r 2).toNat = 3 by omega] at e1
      rw [q0, q2]
      simp only [yq_at2, yq_at3]
      refine ⟨?_, ?_⟩
      · unfold yq_cm
        repeat' split
        all_goals omega
      · unfold yq_mc
        rw [if_neg (by omega)]
        rw [hgi]
  · rw [show (r 0).toNat = 3 by omega] at e2 e0
    rcases (show r 2 = 0 ∨ r 2 = 1 ∨ r 2 = 2 ∨ r 2 = 3 by omega) with q2 | q2 | q2 | q2
    · rw [show (r 2).toNat = 0 by omega] at e1
      rw [q0, q2]
      simp only [yq_at3, yq_at0]
      refine ⟨?_, ?_⟩
      · unfold yq_cm
        repeat' split
        all_goals omega
      · unfold yq_mc
        rw [if_neg (by omega)]
        rw [hgi]
    · rw [show (r 2).toNat = 1 by omega] at e1
      rw [q0, q2]
      simp only [yq_at3, yq_at1]
      refine ⟨?_, ?_⟩
      · unfold yq_cm
        repeat' split
        all_goals omega
      · unfold yq_mc
        rw [if_neg (by omega)]
        rw [hgi]
    · rw [show (r 2).toNat = 2 by omega] at e1
      rw [q0, q2]
      simp only [yq_at3, yq_at2]
      refine ⟨?_, ?_⟩
      · unfold yq_cm
        repeat' split
        all_goals omega
      · unfold yq_mc
        rw [if_neg (by omega)]
        rw [hgi]
    · rw [show (r 2).toNat = 3 by omega] at e1
      rw [q0, q2]
      simp only [yq_at3, yq_at3]
      refine ⟨?_, ?_⟩
      · unfold yq_cm
        repeat' split
        all_goals omega
      · unfold yq_mc
        rw [if_neg (by omega)]
        rw [hgi]
theorem xw_1025_0_6 : yt_hold xT_1025 xk_1025 xq_1025.2.2.1 xG_1025 xP_1025 xU_1025 30 xk_1025.2.1.2.2.2 (fun g0 r g => xR_1025 r g0 ∧ g = g0) (1000, ([(0, 3), (0, 2147483647), (0, 3), ((-2147483648), 2147483647), (0, 2147483647), ((-2147483648), 2147483647), ((-2147483648), 2147483647), (0, 40), ((-2147483648), 2147483647), (0, 4), ((-9223372036854775808), 9223372036854775807), ((-9223372036854775808), 9223372036854775807), ((-9223372036854775808), 9223372036854775807), (0, 1), ((-4000), 4000), ((-4000), 4000), ((-9223372036854775808), 9223372036854775807), ((-9223372036854775808), 9223372036854775807), (0, 12), ((-9223372036854775808), 9223372036854775807), ((-9223372036854775808), 9223372036854775807), ((-9223372036854775808), 9223372036854775807), ((-9223372036854775808), 9223372036854775807), ((-9223372036854775808), 9223372036854775807), (0, 12), ((-2147483648), 2147483647), (0, 12), ((-2147483648), 2147483647), (0, 40), (0, 40), (0, 2147483647), (0, 2147483647), (0, 100), ((-2147483648), 0)], [([(1, 1), (4, 1), (32, (-1))], (-1)), ([(4, 1), (32, (-1))], 4611686018427387903)]), [([], (-3)), ([(33, 1)], 0)], [], [.inl (.inl (3, ([(0, 1)], 0), 32)), .inl (.inl (2, ([(2, 1)], 0), 31)), .inl (.inl (2, ([(0, 1)], 0), 30))]) := by
  intro g0 r gi g hok hh hars hfr hG
  have b0 : 0 ≤ r 0 ∧ r 0 ≤ 3 := hok.1 0 (0, 3) rfl
  have b1 : 0 ≤ r 1 ∧ r 1 ≤ 2147483647 := hok.1 1 (0, 2147483647) rfl
  have b2 : 0 ≤ r 2 ∧ r 2 ≤ 3 := hok.1 2 (0, 3) rfl
  have b3 : (-2147483648) ≤ r 3 ∧ r 3 ≤ 2147483647 := hok.1 3 ((-2147483648), 2147483647) rfl
  have b4 : 0 ≤ r 4 ∧ r 4 ≤ 2147483647 := hok.1 4 (0, 2147483647) rfl
  have b30 : 0 ≤ r 30 ∧ r 30 ≤ 2147483647 := hok.1 30 (0, 2147483647) rfl
  have b31 : 0 ≤ r 31 ∧ r 31 ≤ 2147483647 := hok.1 31 (0, 2147483647) rfl
  have b32 : 0 ≤ r 32 ∧ r 32 ≤ 100 := hok.1 32 (0, 100) rfl
  have b33 : (-2147483648) ≤ r 33 ∧ r 33 ≤ 0 := hok.1 33 ((-2147483648), 0) rfl
  have f0 : 0 ≤ ((1 * r 1 + (1 * r 4 + ((-1) * r 32 + 0))) + (-1)) := hok.2 _ (List.mem_of_getElem? (i := 0) rfl)
  have f1 : 0 ≤ ((1 * r 4 + ((-1) * r 32 + 0)) + 4611686018427387903) := hok.2 _ (List.mem_of_getElem? (i := 1) rfl)
  obtain ⟨hG, hgi⟩ := hG
  have hG : True := hG
  obtain ⟨g0, hh, q0, e0⟩ := hh
  subst q0
  have e0 : r 32 = g 3 (((1 * r 0 + 0) + 0)).toNat := e0
  rw [show (((1 * r 0 + 0) + 0)).toNat = (r 0).toNat by omega] at e0
  obtain ⟨g1, hh, q1, e1⟩ := hh
  subst q1
  have e1 : r 31 = g 2 (((1 * r 2 + 0) + 0)).toNat := e1
  rw [show (((1 * r 2 + 0) + 0)).toNat = (r 2).toNat by omega] at e1
  obtain ⟨g2, hh, q2, e2⟩ := hh
  subst q2
  have e2 : r 30 = g 2 (((1 * r 0 + 0) + 0)).toNat := e2
  rw [show (((1 * r 0 + 0) + 0)).toNat = (r 0).toNat by omega] at e2
  have hh : g = gi := hh
  subst hh
  refine yt_dalt (by decide) (by decide) ?_
  rw [show xk_1025.2.1.2.1.1.length = 30 from rfl]
  show ((0 : Int) + (-3)) = yq_cm ((1 * r 0 + 0) + 0) ((1 * r 1 + 0) + 0) ((1 * r 2 + 0) + 0) ((1 * r 3 + 0) + 0) ((1 * r 4 + 0) + 0) (yq_at ((1 * r 0 + 0) + 0) ((g0 2) 0) ((g0 2) 1) ((g0 2) 2) ((g0 2) 3)) (yq_at ((1 * r 2 + 0) + 0) ((g0 2) 0) ((g0 2) 1) ((g0 2) 2) ((g0 2) 3)) (yq_at ((1 * r 0 + 0) + 0) ((g0 3) 0) ((g0 3) 1) ((g0 3) 2) ((g0 3) 3)) (yq_at ((1 * r 2 + 0) + 0) ((g0 3) 0) ((g0 3) 1) ((g0 3) 2) ((g0 3) 3)) ∧ (g 1) = yq_mc ((1 * r 0 + 0) + 0) ((1 * r 1 + 0) + 0) ((1 * r 2 + 0) + 0) ((1 * r 3 + 0) + 0) ((1 * r 4 + 0) + 0) (yq_at ((1 * r 0 + 0) + 0) ((g0 2) 0) ((g0 2) 1) ((g0 2) 2) ((g0 2) 3)) (yq_at ((1 * r 2 + 0) + 0) ((g0 2) 0) ((g0 2) 1) ((g0 2) 2) ((g0 2) 3)) (yq_at ((1 * r 0 + 0) + 0) ((g0 3) 0) ((g0 3) 1) ((g0 3) 2) ((g0 3) 3)) (yq_at ((1 * r 2 + 0) + 0) ((g0 3) 0) ((g0 3) 1) ((g0 3) 2) ((g0 3) 3)) (g0 1)
  try simp only [Int.one_mul, Int.zero_add, Int.add_zero]
  rw [hgi] at e1
  rw [hgi] at e2
  rw [hgi] at e0
  rcases (show r 0 = 0 ∨ r 0 = 1 ∨ r 0 = 2 ∨ r 0 = 3 by omega) with q0 | q0 | q0 | q0
  · rw [show (r 0).toNat = 0 by omega] at e2 e0
    rcases (show r 2 = 0 ∨ r 2 = 1 ∨ r 2 = 2 ∨ r 2 = 3 by omega) with q2 | q2 | q2 | q2
    · rw [show (r 2).toNat = 0 by omega] at e1
      rw [q0, q2]
      simp only [yq_at0, yq_at0]
      refine ⟨?_, ?_⟩
      · unfold yq_cm
        repeat' split
        all_goals omega
      · unfold yq_mc
        rw [if_neg (by omega)]
        rw [hgi]
    · rw [show (r 2).toNat = 1 by omega] at e1
      rw [q0, q2]
      simp only [yq_at0, yq_at1]
      refine ⟨?_, ?_⟩
      · unfold yq_cm
        repeat' split
        all_goals omega
      · unfold yq_mc
        rw [if_neg (by omega)]
        rw [hgi]
    · rw [show (r 2).toNat = 2 by omega] at e1
      rw [q0, q2]
      simp only [yq_at0, yq_at2]
      refine ⟨?_, ?_⟩
      · unfold yq_cm
        repeat' split
        all_goals omega
      · unfold yq_mc
        rw [if_neg (by omega)]
        rw [hgi]
    · rw [show (r 2).toNat = 3 by omega] at e1
      rw [q0, q2]
      simp only [yq_at0, yq_at3]
      refine ⟨?_, ?_⟩
      · unfold yq_cm
        repeat' split
        all_goals omega
      · unfold yq_mc
        rw [if_neg (by omega)]
        rw [hgi]
  · rw [show (r 0).toNat = 1 by omega] at e2 e0
    rcases (show r 2 = 0 ∨ r 2 = 1 ∨ r 2 = 2 ∨ r 2 = 3 by omega) with q2 | q2 | q2 | q2
    · rw [show (r 2).toNat = 0 by omega] at e1
      rw [q0, q2]
      simp only [yq_at1, yq_at0]
      refine ⟨?_, ?_⟩
      · unfold yq_cm
        repeat' split
        all_goals omega
      · unfold yq_mc
        rw [if_neg (by omega)]
        rw [hgi]
    · rw [show (r 2).toNat = 1 by omega] at e1
      rw [q0, q2]
      simp only [yq_at1, yq_at1]
      refine ⟨?_, ?_⟩
      · unfold yq_cm
        repeat' split
        all_goals omega
      · unfold yq_mc
        rw [if_neg (by omega)]
        rw [hgi]
    · rw [show (r 2).toNat = 2 by omega] at e1
      rw [q0, q2]
      simp only [yq_at1, yq_at2]
      refine ⟨?_, ?_⟩
      · unfold yq_cm
        repeat' split
        all_goals omega
      · unfold yq_mc
        rw [if_neg (by omega)]
        rw [hgi]
    · rw [show (r 2).toNat = 3 by omega] at e1
      rw [q0, q2]
      simp only [yq_at1, yq_at3]
      refine ⟨?_, ?_⟩
      · unfold yq_cm
        repeat' split
        all_goals omega
      · unfold yq_mc
        rw [if_neg (by omega)]
        rw [hgi]
  · rw [show (r 0).toNat = 2 by omega] at e2 e0
    rcases (show r 2 = 0 ∨ r 2 = 1 ∨ r 2 = 2 ∨ r 2 = 3 by omega) with q2 | q2 | q2 | q2
    · rw [show (r 2).toNat = 0 by omega] at e1
      rw [q0, q2]
      simp only [yq_at2, yq_at0]
      refine ⟨?_, ?_⟩
      · unfold yq_cm
        repeat' split
        all_goals omega
      · unfold yq_mc
        rw [if_neg (by omega)]
        rw [hgi]
    · rw [show (r 2).toNat = 1 by omega] at e1
      rw [q0, q2]
      simp only [yq_at2, yq_at1]
      refine ⟨?_, ?_⟩
      · unfold yq_cm
        repeat' split
        all_goals omega
      · unfold yq_mc
        rw [if_neg (by omega)]
        rw [hgi]
    · rw [show (r 2).toNat = 2 by omega] at e1
      rw [q0, q2]
      simp only [yq_at2, yq_at2]
      refine ⟨?_, ?_⟩
      · unfold yq_cm
        repeat' split
        all_goals omega
      · unfold yq_mc
        rw [if_neg (by omega)]
        rw [hgi]
    · rw [show (r 2).toNat = 3 by omega] at e1
      rw [q0, q2]
      simp only [yq_at2, yq_at3]
      refine ⟨?_, ?_⟩
      · unfold yq_cm
        repeat' split
        all_goals omega
      · unfold yq_mc
        rw [if_neg (by omega)]
        rw [hgi]
  · rw [show (r 0).toNat = 3 by omega] at e2 e0
    rcases (show r 2 = 0 ∨ r 2 = 1 ∨ r 2 = 2 ∨ r 2 = 3 by omega) with q2 | q2 | q2 | q2
    · rw [show (r 2).toNat = 0 by omega] at e1
      rw [q0, q2]
      simp only [yq_at3, yq_at0]
      refine ⟨?_, ?_⟩
      · unfold yq_cm
        repeat' split
        all_goals omega
      · unfold yq_mc
        rw [if_neg (by omega)]
        rw [hgi]
    · rw [show (r 2).toNat = 1 by omega] at e1
      rw [q0, q2]
      simp only [yq_at3, yq_at1]
      refine ⟨?_, ?_⟩
      · unfold yq_cm
        repeat' split
        all_goals omega
      · unfold yq_mc
        rw [if_neg (by omega)]
        rw [hgi]
    · rw [show (r 2).toNat = 2 by omega] at e1
      rw [q0, q2]
      simp only [yq_at3, yq_at2]
      refine ⟨?_, ?_⟩
      · unfold yq_cm
        repeat' split
        all_goals omega
      · unfold yq_mc
        rw [if_neg (by omega)]
        rw [hgi]
    · rw [show (r 2).toNat = 3 by omega] at e1
      rw [q0, q2]
      simp only [yq_at3, yq_at3]
      refine ⟨?_, ?_⟩
      · unfold yq_cm
        repeat' split
        all_goals omega
      · unfold yq_mc
        rw [if_neg (by omega)]
        rw [hgi]
theorem xw_1025_0_7 : yt_hold xT_1025 xk_1025 xq_1025.2.2.1 xG_1025 xP_1025 xU_1025 30 xk_1025.2.1.2.2.2 (fun g0 r g => xR_1025 r g0 ∧ g = g0) (1000, ([(0, 3), (0, 100), (0, 3), ((-2147483648), (-1)), (0, 2147483647), ((-2147483648), 2147483647), ((-2147483648), 2147483647), (0, 40), ((-2147483648), 2147483647), (0, 4), ((-9223372036854775808), 9223372036854775807), ((-9223372036854775808), 9223372036854775807), ((-9223372036854775808), 9223372036854775807), (0, 1), ((-4000), 4000), ((-4000), 4000), ((-9223372036854775808), 9223372036854775807), ((-9223372036854775808), 9223372036854775807), (0, 12), ((-9223372036854775808), 9223372036854775807), ((-9223372036854775808), 9223372036854775807), ((-9223372036854775808), 9223372036854775807), ((-9223372036854775808), 9223372036854775807), ((-9223372036854775808), 9223372036854775807), (0, 12), ((-2147483648), 2147483647), (0, 12), ((-2147483648), 2147483647), (0, 40), (0, 40), (0, 2147483647), (0, 2147483647), (0, 100), (0, 100), ((-2147483648), 0)], [([(1, (-1)), (4, (-1)), (32, 1)], 0)]), [([], (-3)), ([(34, 1)], 0)], [], [.inl (.inl (3, ([(2, 1)], 0), 33)), .inl (.inl (3, ([(0, 1)], 0), 32)), .inl (.inl (2, ([(2, 1)], 0), 31)), .inl (.inl (2, ([(0, 1)], 0), 30))]) := by
  intro g0 r gi g hok hh hars hfr hG
  have b0 : 0 ≤ r 0 ∧ r 0 ≤ 3 := hok.1 0 (0, 3) rfl
  have b1 : 0 ≤ r 1 ∧ r 1 ≤ 100 := hok.1 1 (0, 100) rfl
  have b2 : 0 ≤ r 2 ∧ r 2 ≤ 3 := hok.1 2 (0, 3) rfl
  have b3 : (-2147483648) ≤ r 3 ∧ r 3 ≤ (-1) := hok.1 3 ((-2147483648), (-1)) rfl
  have b4 : 0 ≤ r 4 ∧ r 4 ≤ 2147483647 := hok.1 4 (0, 2147483647) rfl
  have b30 : 0 ≤ r 30 ∧ r 30 ≤ 2147483647 := hok.1 30 (0, 2147483647) rfl
  have b31 : 0 ≤ r 31 ∧ r 31 ≤ 2147483647 := hok.1 31 (0, 2147483647) rfl
  have b32 : 0 ≤ r 32 ∧ r 32 ≤ 100 := hok.1 32 (0, 100) rfl
  have b33 : 0 ≤ r 33 ∧ r 33 ≤ 100 := hok.1 33 (0, 100) rfl
  have b34 : (-2147483648) ≤ r 34 ∧ r 34 ≤ 0 := hok.1 34 ((-2147483648), 0) rfl
  have f0 : 0 ≤ (((-1) * r 1 + ((-1) * r 4 + (1 * r 32 + 0))) + 0) := hok.2 _ (List.mem_of_getElem? (i := 0) rfl)
  obtain ⟨hG, hgi⟩ := hG
  have hG : True := hG
  obtain ⟨g0, hh, q0, e0⟩ := hh
  subst q0
  have e0 : r 33 = g 3 (((1 * r 2 + 0) + 0)).toNat := e0
  rw [show (((1 * r 2 + 0) + 0)).toNat = (r 2).toNat by omega] at e0
  obtain ⟨g1, hh, q1, e1⟩ := hh
  subst q1
  have e1 : r 32 = g 3 (((1 * r 0 + 0) + 0)).toNat := e1
  rw [show (((1 * r 0 + 0) + 0)).toNat = (r 0).toNat by omega] at e1
  obtain ⟨g2, hh, q2, e2⟩ := hh
  subst q2
  have e2 : r 31 = g 2 (((1 * r 2 + 0) + 0)).toNat := e2
  rw [show (((1 * r 2 + 0) + 0)).toNat = (r 2).toNat by omega] at e2
  obtain ⟨g3, hh, q3, e3⟩ := hh
  subst q3
  have e3 : r 30 = g 2 (((1 * r 0 + 0) + 0)).toNat := e3
  rw [show (((1 * r 0 + 0) + 0)).toNat = (r 0).toNat by omega] at e3
  have hh : g = gi := hh
  subst hh
  refine yt_dalt (by decide) (by decide) ?_
  rw [show xk_1025.2.1.2.1.1.length = 30 from rfl]
  show ((0 : Int) + (-3)) = yq_cm ((1 * r 0 + 0) + 0) ((1 * r 1 + 0) + 0) ((1 * r 2 + 0) + 0) ((1 * r 3 + 0) + 0) ((1 * r 4 + 0) + 0) (yq_at ((1 * r 0 + 0) + 0) ((g0 2) 0) ((g0 2) 1) ((g0 2) 2) ((g0 2) 3)) (yq_at ((1 * r 2 + 0) + 0) ((g0 2) 0) ((g0 2) 1) ((g0 2) 2) ((g0 2) 3)) (yq_at ((1 * r 0 + 0) + 0) ((g0 3) 0) ((g0 3) 1) ((g0 3) 2) ((g0 3) 3)) (yq_at ((1 * r 2 + 0) + 0) ((g0 3) 0) ((g0 3) 1) ((g0 3) 2) ((g0 3) 3)) ∧ (g 1) = yq_mc ((1 * r 0 + 0) + 0) ((1 * r 1 + 0) + 0) ((1 * r 2 + 0) + 0) ((1 * r 3 + 0) + 0) ((1 * r 4 + 0) + 0) (yq_at ((1 * r 0 + 0) + 0) ((g0 2) 0) ((g0 2) 1) ((g0 2) 2) ((g0 2) 3)) (yq_at ((1 * r 2 + 0) + 0) ((g0 2) 0) ((g0 2) 1) ((g0 2) 2) ((g0 2) 3)) (yq_at ((1 * r 0 + 0) + 0) ((g0 3) 0) ((g0 3) 1) ((g0 3) 2) ((g0 3) 3)) (yq_at ((1 * r 2 + 0) + 0) ((g0 3) 0) ((g0 3) 1) ((g0 3) 2) ((g0 3) 3)) (g0 1)
  try simp only [Int.one_mul, Int.zero_add, Int.add_zero]
  rw [hgi] at e2
  rw [hgi] at e3
  rw [hgi] at e0
  rw [hgi] at e1
  rcases (show r 0 = 0 ∨ r 0 = 1 ∨ r 0 = 2 ∨ r 0 = 3 by omega) with q0 | q0 | q0 | q0
  · rw [show (r 0).toNat = 0 by omega] at e3 e1
    rcases (show r 2 = 0 ∨ r 2 = 1 ∨ r 2 = 2 ∨ r 2 = 3 by omega) with q2 | q2 | q2 | q2
    · rw [show (r 2).toNat = 0 by omega] at e2 e0
      rw [q0, q2]
      simp only [yq_at0, yq_at0]
      refine ⟨?_, ?_⟩
      · unfold yq_cm
        repeat' split
        all_goals omega
      · unfold yq_mc
        rw [if_neg (by omega)]
        rw [hgi]
    · rw [show (r 2).toNat = 1 by omega] at e2 e0
      rw [q0, q2]
      simp only [yq_at0, yq_at1]
      refine ⟨?_, ?_⟩
      · unfold yq_cm
        repeat' split
        all_goals omega
      · unfold yq_mc
        rw [if_neg (by omega)]
        rw [hgi]
    · rw [show (r 2).toNat = 2 by omega] at e2 e0
      rw [q0, q2]
      simp only [yq_at0, yq_at2]
      refine ⟨?_, ?_⟩
      · unfold yq_cm
        repeat' split
        all_goals omega
      · unfold yq_mc
        rw [if_neg (by omega)]
        rw [hgi]
    · rw [show (r 2).toNat = 3 by omega] at e2 e0
      rw [q0, q2]
      simp only [yq_at0, yq_at3]
      refine ⟨?_, ?_⟩
      · unfold yq_cm
        repeat' split
        all_goals omega
      · unfold yq_mc
        rw [if_neg (by omega)]
        rw [hgi]
  · rw [show (r 0).toNat = 1 by omega] at e3 e1
    rcases (show r 2 = 0 ∨ r 2 = 1 ∨ r 2 = 2 ∨ r 2 = 3 by omega) with q2 | q2 | q2 | q2
    · rw [show (r 2).toNat = 0 by omega] at e2 e0
      rw [q0, q2]
      simp only [yq_at1, yq_at0]
      refine ⟨?_, ?_⟩
      · unfold yq_cm
        repeat' split
        all_goals omega
      · unfold yq_mc
        rw [if_neg (by omega)]
        rw [hgi]
    · rw [show (r 2).toNat = 1 by omega] at e2 e0
      rw [q0, q2]
      simp only [yq_at1, yq_at1]
      refine ⟨?_, ?_⟩
      · unfold yq_cm
        repeat' split
        all_goals omega
      · unfold yq_mc
        rw [if_neg (by omega)]
        rw [hgi]
    · rw [show (r 2).toNat = 2 by omega] at e2 e0
      rw [q0, q2]
      simp only [yq_at1, yq_at2]
      refine ⟨?_, ?_⟩
      · unfold yq_cm
        repeat' split
        all_goals omega
      · unfold yq_mc
        rw [if_neg (by omega)]
        rw [hgi]
    · rw [show (r 2).toNat = 3 by omega] at e2 e0
      rw [q0, q2]
      simp only [yq_at1, yq_at3]
      refine ⟨?_, ?_⟩
      · unfold yq_cm
        repeat' split
        all_goals omega
      · unfold yq_mc
        rw [if_neg (by omega)]
        rw [hgi]
  · rw [show (r 0).toNat = 2 by omega] at e3 e1
    rcases (show r 2 = 0 ∨ r 2 = 1 ∨ r 2 = 2 ∨ r 2 = 3 by omega) with q2 | q2 | q2 | q2
    · rw [show (r 2).toNat = 0 by omega] at e2 e0
      rw [q0, q2]
      simp only [yq_at2, yq_at0]
      refine ⟨?_, ?_⟩
      · unfold yq_cm
        repeat' split
        all_goals omega
      · unfold yq_mc
        rw [if_neg (by omega)]
        rw [hgi]
    · rw [show (r 2).toNat = 1 by omega] at e2 e0
      rw [q0, q2]
      simp only [yq_at2, yq_at1]
      refine ⟨?_, ?_⟩
      · unfold yq_cm
        repeat' split
        all_goals omega
      · unfold yq_mc
        rw [if_neg (by omega)]
        rw [hgi]
    · rw [show (r 2).toNat = 2 by omega] at e2 e0
      rw [q0, q2]
      simp only [yq_at2, yq_at2]
      refine ⟨?_, ?_⟩
      · unfold yq_cm
        repeat' split
        all_goals omega
      · unfold yq_mc
        rw [if_neg (by omega)]
        rw [hgi]
    · rw [show (r 2).toNat = 3 by omega] at e2 e0
      rw [q0, q2]
      simp only [yq_at2, yq_at3]
      refine ⟨?_, ?_⟩
      · unfold yq_cm
        repeat' split
        all_goals omega
      · unfold yq_mc
        rw [if_neg (by omega)]
        rw [hgi]
  · rw [show (r 0).toNat = 3 by omega] at e3 e1
    rcases (show r 2 = 0 ∨ r 2 = 1 ∨ r 2 = 2 ∨ r 2 = 3 by omega) with q2 | q2 | q2 | q2
    · rw [show (r 2).toNat = 0 by omega] at e2 e0
      rw [q0, q2]
      simp only [yq_at3, yq_at0]
      refine ⟨?_, ?_⟩
      · unfold yq_cm
        repeat' split
        all_goals omega
      · unfold yq_mc
        rw [if_neg (by omega)]
        rw [hgi]
    · rw [show (r 2).toNat = 1 by omega] at e2 e0
      rw [q0, q2]
      simp only [yq_at3, yq_at1]
      refine ⟨?_, ?_⟩
      · unfold yq_cm
        repeat' split
        all_goals omega
      · unfold yq_mc
        rw [if_neg (by omega)]
        rw [hgi]
    · rw [show (r 2).toNat = 2 by omega] at e2 e0
      rw [q0, q2]
      simp only [yq_at3, yq_at2]
      refine ⟨?_, ?_⟩
      · unfold yq_cm
        repeat' split
        all_goals omega
      · unfold yq_mc
        rw [if_neg (by omega)]
        rw [hgi]
    · rw [show (r 2).toNat = 3 by omega] at e2 e0
      rw [q0, q2]
      simp only [yq_at3, yq_at3]
      refine ⟨?_, ?_⟩
      · unfold yq_cm
        repeat' split
        all_goals omega
      · unfold yq_mc
        rw [if_neg (by omega)]
        rw [hgi]
theorem xw_1025_0_8 : yt_hold xT_1025 xk_1025 xq_1025.2.2.1 xG_1025 xP_1025 xU_1025 30 xk_1025.2.1.2.2.2 (fun g0 r g => xR_1025 r g0 ∧ g = g0) (1000, ([(0, 3), (0, 100), (0, 3), (0, 2147483647), (0, 2147483647), ((-2147483648), 2147483647), ((-2147483648), 2147483647), (0, 40), ((-2147483648), 2147483647), (0, 4), ((-9223372036854775808), 9223372036854775807), ((-9223372036854775808), 9223372036854775807), ((-9223372036854775808), 9223372036854775807), (0, 1), ((-4000), 4000), ((-4000), 4000), ((-9223372036854775808), 9223372036854775807), ((-9223372036854775808), 9223372036854775807), (0, 12), ((-9223372036854775808), 9223372036854775807), ((-9223372036854775808), 9223372036854775807), ((-9223372036854775808), 9223372036854775807), ((-9223372036854775808), 9223372036854775807), ((-9223372036854775808), 9223372036854775807), (0, 12), ((-2147483648), 2147483647), (0, 12), ((-2147483648), 2147483647), (0, 40), (0, 40), (0, 2147483647), (0, 2147483647), (0, 100), (0, 100), ((-2147483648), 0)], [([(3, 1), (4, 1), (33, (-1))], (-1)), ([(4, 1), (33, (-1))], 4611686018427387903), ([(1, (-1)), (4, (-1)), (32, 1)], 0)]), [([], (-3)), ([(34, 1)], 0)], [], [.inl (.inl (3, ([(2, 1)], 0), 33)), .inl (.inl (3, ([(0, 1)], 0), 32)), .inl (.inl (2, ([(2, 1)], 0), 31)), .inl (.inl (2, ([(0, 1)], 0), 30))]) := by
  intro g0 r gi g hok hh hars hfr hG
  have b0 : 0 ≤ r 0 ∧ r 0 ≤ 3 := hok.1 0 (0, 3) rfl
  have b1 : 0 ≤ r 1 ∧ r 1 ≤ 100 := hok.1 1 (0, 100) rfl
  have b2 : 0 ≤ r 2 ∧ r 2 ≤ 3 := hok.1 2 (0, 3) rfl
  have b3 : 0 ≤ r 3 ∧ r 3 ≤ 2147483647 := hok.1 3 (0, 2147483647) rfl
  have b4 : 0 ≤ r 4 ∧ r 4 ≤ 2147483647 := hok.1 4 (0, 2147483647) rfl
  have b30 : 0 ≤ r 30 ∧ r 30 ≤ 2147483647 := hok.1 30 (0, 2147483647) rfl
  have b31 : 0 ≤ r 31 ∧ r 31 ≤ 2147483647 := hok.1 31 (0, 2147483647) rfl
  have b32 : 0 ≤ r 32 ∧ r 32 ≤ 100 := hok.1 32 (0, 100) rfl
  have b33 : 0 ≤ r 33 ∧ r 33 ≤ 100 := hok.1 33 (0, 100) rfl
  have b34 : (-2147483648) ≤ r 34 ∧ r 34 ≤ 0 := hok.1 34 ((-2147483648), 0) rfl
  have f0 : 0 ≤ ((1 * r 3 + (1 * r 4 + ((-1) * r 33 + 0))) + (-1)) := hok.2 _ (List.mem_of_getElem? (i := 0) rfl)
  have f1 : 0 ≤ ((1 * r 4 + ((-1) * r 33 + 0)) + 4611686018427387903) := hok.2 _ (List.mem_of_getElem? (i := 1) rfl)
  have f2 : 0 ≤ (((-1) * r 1 + ((-1) * r 4 + (1 * r 32 + 0))) + 0) := hok.2 _ (List.mem_of_getElem? (i := 2) rfl)
  obtain ⟨hG, hgi⟩ := hG
  have hG : True := hG
  obtain ⟨g0, hh, q0, e0⟩ := hh
  subst q0
  have e0 : r 33 = g 3 (((1 * r 2 + 0) + 0)).toNat := e0
  rw [show (((1 * r 2 + 0) + 0)).toNat = (r 2).toNat by omega] at e0
  obtain ⟨g1, hh, q1, e1⟩ := hh
  subst q1
  have e1 : r 32 = g 3 (((1 * r 0 + 0) + 0)).toNat := e1
  rw [show (((1 * r 0 + 0) + 0)).toNat = (r 0).toNat by omega] at e1
  obtain ⟨g2, hh, q2, e2⟩ := hh
  subst q2
  have e2 : r 31 = g 2 (((1 * r 2 + 0) + 0)).toNat := e2
  rw [show (((1 * r 2 + 0) + 0)).toNat = (r 2).toNat by omega] at e2
  obtain ⟨g3, hh, q3, e3⟩ := hh
  subst q3
  have e3 : r 30 = g 2 (((1 * r 0 + 0) + 0)).toNat := e3
  rw [show (((1 * r 0 + 0) + 0)).toNat = (r 0).toNat by omega] at e3
  have hh : g = gi := hh
  subst hh
  refine yt_dalt (by decide) (by decide) ?_
  rw [show xk_1025.2.1.2.1.1.length = 30 from rfl]
  show ((0 : Int) + (-3)) = yq_cm ((1 * r 0 + 0) + 0) ((1 * r 1 + 0) + 0) ((1 * r 2 + 0) + 0) ((1 * r 3 + 0) + 0) ((1 * r 4 + 0) + 0) (yq_at ((1 * r 0 + 0) + 0) ((g0 2) 0) ((g0 2) 1) ((g0 2) 2) ((g0 2) 3)) (yq_at ((1 * r 2 + 0) + 0) ((g0 2) 0) ((g0 2) 1) ((g0 2) 2) ((g0 2) 3)) (yq_at ((1 * r 0 + 0) + 0) ((g0 3) 0) ((g0 3) 1) ((g0 3) 2) ((g0 3) 3)) (yq_at ((1 * r 2 + 0) + 0) ((g0 3) 0) ((g0 3) 1) ((g0 3) 2) ((g0 3) 3)) ∧ (g 1) = yq_mc ((1 * r 0 + 0) + 0) ((1 * r 1 + 0) + 0) ((1 * r 2 + 0) + 0) ((1 * r 3 + 0) + 0) ((1 * r 4 + 0) + 0) (yq_at ((1 * r 0 + 0) + 0) ((g0 2) 0) ((g0 2) 1) ((g0 2) 2) ((g0 2) 3)) (yq_at ((1 * r 2 + 0) + 0) ((g0 2) 0) ((g0 2) 1) ((g0 2) 2) ((g0 2) 3)) (yq_at ((1 * r 0 + 0) + 0) ((g0 3) 0) ((g0 3) 1) ((g0 3) 2) ((g0 3) 3)) (yq_at ((1 * r 2 + 0) + 0) ((g0 3) 0) ((g0 3) 1) ((g0 3) 2) ((g0 3) 3)) (g0 1)
  try simp only [Int.one_mul, Int.zero_add, Int.add_zero]
  rw [hgi] at e2
  rw [hgi] at e3
  rw [hgi] at e0
  rw [hgi] at e1
  rcases (show r 0 = 0 ∨ r 0 = 1 ∨ r 0 = 2 ∨ r 0 = 3 by omega) with q0 | q0 | q0 | q0
  · rw [show (r 0).toNat = 0 by omega] at e3 e1
    rcases (show r 2 = 0 ∨ r 2 = 1 ∨ r 2 = 2 ∨ r 2 = 3 by omega) with q2 | q2 | q2 | q2
    · rw [show (r 2).toNat = 0 by omega] at e2 e0
      rw [q0, q2]
      simp only [yq_at0, yq_at0]
      refine ⟨?_, ?_⟩
      · unfold yq_cm
        repeat' split
        all_goals omega
      · unfold yq_mc
        rw [if_neg (by omega)]
        rw [hgi]
    · rw [show (r 2).toNat = 1 by omega] at e2 e0
      rw [q0, q2]
      simp only [yq_at0, yq_at1]
      refine ⟨?_, ?_⟩
      · unfold yq_cm
        repeat' split
        all_goals omega
      · unfold yq_mc
        rw [if_neg (by omega)]
        rw [hgi]
    · rw [show (r 2).toNat = 2 by omega] at e2 e0
      rw [q0, q2]
      simp only [yq_at0, yq_at2]
      refine ⟨?_, ?_⟩
      · unfold yq_cm
        repeat' split
        all_goals omega
      · unfold yq_mc
        rw [if_neg (by omega)]
        rw [hgi]
    · rw [show (r 2).toNat = 3 by omega] at e2 e0
      rw [q0, q2]
      simp only [yq_at0, yq_at3]
      refine ⟨?_, ?_⟩
      · unfold yq_cm
        repeat' split
        all_goals omega
      · unfold yq_mc
        rw [if_neg (by omega)]
        rw [hgi]
  · rw [show (r 0).toNat = 1 by omega] at e3 e1
    rcases (show r 2 = 0 ∨ r 2 = 1 ∨ r 2 = 2 ∨ r 2 = 3 by omega) with q2 | q2 | q2 | q2
    · rw [show (r 2).toNat = 0 by omega] at e2 e0
      rw [q0, q2]
      simp only [yq_at1, yq_at0]
      refine ⟨?_, ?_⟩
      · unfold yq_cm
        repeat' split
        all_goals omega
      · unfold yq_mc
        rw [if_neg (by omega)]
        rw [hgi]
    · rw [show (r 2).toNat = 1 by omega] at e2 e0
      rw [q0, q2]
      simp only [yq_at1, yq_at1]
      refine ⟨?_, ?_⟩
      · unfold yq_cm
        repeat' split
        all_goals omega
      · unfold yq_mc
        rw [if_neg (by omega)]
        rw [hgi]
    · rw [show (r 2).toNat = 2 by omega] at e2 e0
      rw [q0, q2]
      simp only [yq_at1, yq_at2]
      refine ⟨?_, ?_⟩
      · unfold yq_cm
        repeat' split
        all_goals omega
      · unfold yq_mc
        rw [if_neg (by omega)]
        rw [hgi]
    · rw [show (r 2).toNat = 3 by omega] at e2 e0
      rw [q0, q2]
      simp only [yq_at1, yq_at3]
      refine ⟨?_, ?_⟩
      · unfold yq_cm
        repeat' split
        all_goals omega
      · unfold yq_mc
        rw [if_neg (by omega)]
        rw [hgi]
  · rw [show (r 0).toNat = 2 by omega] at e3 e1
    rcases (show r 2 = 0 ∨ r 2 = 1 ∨ r 2 = 2 ∨ r 2 = 3 by omega) with q2 | q2 | q2 | q2
    · rw [show (r 2).toNat = 0 by omega] at e2 e0
      rw [q0, q2]
      simp only [yq_at2, yq_at0]
      refine ⟨?_, ?_⟩
      · unfold yq_cm
        repeat' split
        all_goals omega
      · unfold yq_mc
        rw [if_neg (by omega)]
        rw [hgi]
    · rw [show (r 2).toNat = 1 by omega] at e2 e0
      rw [q0, q2]
      simp only [yq_at2, yq_at1]
      refine ⟨?_, ?_⟩
      · unfold yq_cm
        repeat' split
        all_goals omega
      · unfold yq_mc
        rw [if_neg (by omega)]
        rw [hgi]
    · rw [show (r 2).toNat = 2 by omega] at e2 e0
      rw [q0, q2]
      simp only [yq_at2, yq_at2]
      refine ⟨?_, ?_⟩
      · unfold yq_cm
        repeat' split
        all_goals omega
      · unfold yq_mc
        rw [if_neg (by omega)]
        rw [hgi]
    · rw [show (r 2).toNat = 3 by omega] at e2 e0
      rw [q0, q2]
      simp only [yq_at2, yq_at3]
      refine ⟨?_, ?_⟩
      · unfold yq_cm
        repeat' split
        all_goals omega
      · unfold yq_mc
        rw [if_neg (by omega)]
        rw [hgi]
  · rw [show (r 0).toNat = 3 by omega] at e3 e1
    rcases (show r 2 = 0 ∨ r 2 = 1 ∨ r 2 = 2 ∨ r 2 = 3 by omega) with q2 | q2 | q2 | q2
    · rw [show (r 2).toNat = 0 by omega] at e2 e0
      rw [q0, q2]
      simp only [yq_at3, yq_at0]
      refine ⟨?_, ?_⟩
      · unfold yq_cm
        repeat' split
        all_goals omega
      · unfold yq_mc
        rw [if_neg (by omega)]
        rw [hgi]
    · rw [show (r 2).toNat = 1 by omega] at e2 e0
      rw [q0, q2]
      simp only [yq_at3, yq_at1]
      refine ⟨?_, ?_⟩
      · unfold yq_cm
        repeat' split
        all_goals omega
      · unfold yq_mc
        rw [if_neg (by omega)]
        rw [hgi]
    · rw [show (r 2).toNat = 2 by omega] at e2 e0
      rw [q0, q2]
      simp only [yq_at3, yq_at2]
      refine ⟨?_, ?_⟩
      · unfold yq_cm
        repeat' split
        all_goals omega
      · unfold yq_mc
        rw [if_neg (by omega)]
        rw [hgi]
    · rw [show (r 2).toNat = 3 by omega] at e2 e0
      rw [q0, q2]
      simp only [yq_at3, yq_at3]
      refine ⟨?_, ?_⟩
      · unfold yq_cm
        repeat' split
        all_goals omega
      · unfold yq_mc
        rw [if_neg (by omega)]
        rw [hgi]
theorem xw_1025_0_9 : yt_hold xT_1025 xk_1025 xq_1025.2.2.1 xG_1025 xP_1025 xU_1025 30 xk_1025.2.1.2.2.2 (fun g0 r g => xR_1025 r g0 ∧ g = g0) (0, ([(0, 3), (0, 100), (0, 3), (0, 100), (0, 2147483647), ((-2147483648), 2147483647), ((-2147483648), 2147483647), (0, 40), ((-2147483648), 2147483647), (0, 4), ((-9223372036854775808), 9223372036854775807), ((-9223372036854775808), 9223372036854775807), ((-9223372036854775808), 9223372036854775807), (0, 1), ((-4000), 4000), ((-4000), 4000), ((-9223372036854775808), 9223372036854775807), ((-9223372036854775808), 9223372036854775807), (0, 12), ((-9223372036854775808), 9223372036854775807), ((-9223372036854775808), 9223372036854775807), ((-9223372036854775808), 9223372036854775807), ((-9223372036854775808), 9223372036854775807), ((-9223372036854775808), 9223372036854775807), (0, 12), ((-2147483648), 2147483647), (0, 12), ((-2147483648), 2147483647), (0, 40), (0, 40), (0, 2147483647), (0, 2147483647), (0, 100), (0, 100)], [([(3, (-1)), (4, (-1)), (33, 1)], 0), ([(1, (-1)), (4, (-1)), (32, 1)], 0)]), [([], 0)], [], [.inl (.inl (3, ([(2, 1)], 0), 33)), .inl (.inl (3, ([(0, 1)], 0), 32)), .inl (.inl (2, ([(2, 1)], 0), 31)), .inl (.inl (2, ([(0, 1)], 0), 30))]) := by
  intro g0 r gi g hok hh hars hfr hG
  have b0 : 0 ≤ r 0 ∧ r 0 ≤ 3 := hok.1 0 (0, 3) rfl
  have b1 : 0 ≤ r 1 ∧ r 1 ≤ 100 := hok.1 1 (0, 100) rfl
  have b2 : 0 ≤ r 2 ∧ r 2 ≤ 3 := hok.1 2 (0, 3) rfl
  have b3 : 0 ≤ r 3 ∧ r 3 ≤ 100 := hok.1 3 (0, 100) rfl
  have b4 : 0 ≤ r 4 ∧ r 4 ≤ 2147483647 := hok.1 4 (0, 2147483647) rfl
  have b30 : 0 ≤ r 30 ∧ r 30 ≤ 2147483647 := hok.1 30 (0, 2147483647) rfl
  have b31 : 0 ≤ r 31 ∧ r 31 ≤ 2147483647 := hok.1 31 (0, 2147483647) rfl
  have b32 : 0 ≤ r 32 ∧ r 32 ≤ 100 := hok.1 32 (0, 100) rfl
  have b33 : 0 ≤ r 33 ∧ r 33 ≤ 100 := hok.1 33 (0, 100) rfl
  have f0 : 0 ≤ (((-1) * r 3 + ((-1) * r 4 + (1 * r 33 + 0))) + 0) := hok.2 _ (List.mem_of_getElem? (i := 0) rfl)
  have f1 : 0 ≤ (((-1) * r 1 + ((-1) * r 4 + (1 * r 32 + 0))) + 0) := hok.2 _ (List.mem_of_getElem? (i := 1) rfl)
  obtain ⟨hG, hgi⟩ := hG
  have hG : True := hG
  obtain ⟨g0, hh, q0, e0⟩ := hh
  subst q0
  have e0 : r 33 = g 3 (((1 * r 2 + 0) + 0)).toNat := e0
  rw [show (((1 * r 2 + 0) + 0)).toNat = (r 2).toNat by omega] at e0
  obtain ⟨g1, hh, q1, e1⟩ := hh
  subst q1
  have e1 : r 32 = g 3 (((1 * r 0 + 0) + 0)).toNat := e1
  rw [show (((1 * r 0 + 0) + 0)).toNat = (r 0).toNat by omega] at e1
  obtain ⟨g2, hh, q2, e2⟩ := hh
  subst q2
  have e2 : r 31 = g 2 (((1 * r 2 + 0) + 0)).toNat := e2
  rw [show (((1 * r 2 + 0) + 0)).toNat = (r 2).toNat by omega] at e2
  obtain ⟨g3, hh, q3, e3⟩ := hh
  subst q3
  have e3 : r 30 = g 2 (((1 * r 0 + 0) + 0)).toNat := e3
  rw [show (((1 * r 0 + 0) + 0)).toNat = (r 0).toNat by omega] at e3
  have hh : g = gi := hh
  subst hh
  refine yt_dcut (by decide) rfl ?_ ?_
  · exact fun f hf => absurd hf List.not_mem_nil
  · rw [show xk_1025.2.1.2.1.1.length = 30 from rfl]
    show 0 ≤ (g0 2) (((1 * r 0 + 0) + 0)).toNat ∧ 0 ≤ (g0 2) (((1 * r 2 + 0) + 0)).toNat ∧ 0 ≤ ((1 * r 1 + 0) + 0) ∧ ((1 * r 1 + 0) + 0) + ((1 * r 4 + 0) + 0) ≤ (g0 3) (((1 * r 0 + 0) + 0)).toNat ∧ 0 ≤ ((1 * r 3 + 0) + 0) ∧ ((1 * r 3 + 0) + 0) + ((1 * r 4 + 0) + 0) ≤ (g0 3) (((1 * r 2 + 0) + 0)).toNat ∧ 0 ≤ ((1 * r 4 + 0) + 0) ∧ (∀ j : Nat, (j : Int) < ((1 * ((0 : Int) + 0) + 0) + 0) → (g 4) j = (g0 1) (100 * ((1 * r 0 + 0) + 0) + ((1 * r 1 + 0) + 0) + (j : Int)).toNat) ∧ (g 1) = (g0 1)
    try simp only [Int.one_mul, Int.zero_add, Int.add_zero]
    rw [hgi] at e2
    rw [hgi] at e3
    rw [hgi] at e0
    rw [hgi] at e1
    refine ⟨?_, ?_, by omega, ?_, by omega, ?_, by omega, fun j hj => absurd hj (by omega), ?_⟩
    · rw [← e3]
      omega
    · rw [← e2]
      omega
    · rw [← e1]
      omega
    · rw [← e0]
      omega
    · rw [hgi]
    
theorem xw_1025_0_10 : yt_hold xT_1025 xk_1025 xq_1025.2.2.1 xG_1025 xP_1025 xU_1025 30 xk_1025.2.1.2.2.2 (fun g0 r g => xR_1025 r g0 ∧ g = g0) (1000, ([(0, 3), ((-2147483648), 2147483647), (0, 3), ((-2147483648), 2147483647), (0, 2147483647), ((-2147483648), 2147483647), ((-2147483648), 2147483647), (0, 40), ((-2147483648), 2147483647), (0, 4), ((-9223372036854775808), 9223372036854775807), ((-9223372036854775808), 9223372036854775807), ((-9223372036854775808), 9223372036854775807), (0, 1), ((-4000), 4000), ((-4000), 4000), ((-9223372036854775808), 9223372036854775807), ((-9223372036854775808), 9223372036854775807), (0, 12), ((-9223372036854775808), 9223372036854775807), ((-9223372036854775808), 9223372036854775807), ((-9223372036854775808), 9223372036854775807), ((-9223372036854775808), 9223372036854775807), ((-9223372036854775808), 9223372036854775807), (0, 12), ((-2147483648), 2147483647), (0, 12), ((-2147483648), 2147483647), (0, 40), (0, 40), (0, 2147483647), ((-2147483648), (-1)), ((-2147483648), 0)], []), [([], (-2)), ([(32, 1)], 0)], [], [.inl (.inl (2, ([(2, 1)], 0), 31)), .inl (.inl (2, ([(0, 1)], 0), 30))]) := by
  intro g0 r gi g hok hh hars hfr hG
  have b0 : 0 ≤ r 0 ∧ r 0 ≤ 3 := hok.1 0 (0, 3) rfl
  have b1 : (-2147483648) ≤ r 1 ∧ r 1 ≤ 2147483647 := hok.1 1 ((-2147483648), 2147483647) rfl
  have b2 : 0 ≤ r 2 ∧ r 2 ≤ 3 := hok.1 2 (0, 3) rfl
  have b3 : (-2147483648) ≤ r 3 ∧ r 3 ≤ 2147483647 := hok.1 3 ((-2147483648), 2147483647) rfl
  have b4 : 0 ≤ r 4 ∧ r 4 ≤ 2147483647 := hok.1 4 (0, 2147483647) rfl
  have b30 : 0 ≤ r 30 ∧ r 30 ≤ 2147483647 := hok.1 30 (0, 2147483647) rfl
  have b31 : (-2147483648) ≤ r 31 ∧ r 31 ≤ (-1) := hok.1 31 ((-2147483648), (-1)) rfl
  have b32 : (-2147483648) ≤ r 32 ∧ r 32 ≤ 0 := hok.1 32 ((-2147483648), 0) rfl
  obtain ⟨hG, hgi⟩ := hG
  have hG : True := hG
  obtain ⟨g0, hh, q0, e0⟩ := hh
  subst q0
  have e0 : r 31 = g 2 (((1 * r 2 + 0) + 0)).toNat := e0
  rw [show (((1 * r 2 + 0) + 0)).toNat = (r 2).toNat by omega] at e0
  obtain ⟨g1, hh, q1, e1⟩ := hh
  subst q1
  have e1 : r 30 = g 2 (((1 * r 0 + 0) + 0)).toNat := e1
  rw [show (((1 * r 0 + 0) + 0)).toNat = (r 0).toNat by omega] at e1
  have hh : g = gi := hh
  subst hh
  refine yt_dalt (by decide) (by decide) ?_
  rw [show xk_1025.2.1.2.1.1.length = 30 from rfl]
  show ((0 : Int) + (-2)) = yq_cm ((1 * r 0 + 0) + 0) ((1 * r 1 + 0) + 0) ((1 * r 2 + 0) + 0) ((1 * r 3 + 0) + 0) ((1 * r 4 + 0) + 0) (yq_at ((1 * r 0 + 0) + 0) ((g0 2) 0) ((g0 2) 1) ((g0 2) 2) ((g0 2) 3)) (yq_at ((1 * r 2 + 0) + 0) ((g0 2) 0) ((g0 2) 1) ((g0 2) 2) ((g0 2) 3)) (yq_at ((1 * r 0 + 0) + 0) ((g0 3) 0) ((g0 3) 1) ((g0 3) 2) ((g0 3) 3)) (yq_at ((1 * r 2 + 0) + 0) ((g0 3) 0) ((g0 3) 1) ((g0 3) 2) ((g0 3) 3)) ∧ (g 1) = yq_mc ((1 * r 0 + 0) + 0) ((1 * r 1 + 0) + 0) ((1 * r 2 + 0) + 0) ((1 * r 3 + 0) + 0) ((1 * r 4 + 0) + 0) (yq_at ((1 * r 0 + 0) + 0) ((g0 2) 0) ((g0 2) 1) ((g0 2) 2) ((g0 2) 3)) (yq_at ((1 * r 2 + 0) + 0) ((g0 2) 0) ((g0 2) 1) ((g0 2) 2) ((g0 2) 3)) (yq_at ((1 * r 0 + 0) + 0) ((g0 3) 0) ((g0 3) 1) ((g0 3) 2) ((g0 3) 3)) (yq_at ((1 * r 2 + 0) + 0) ((g0 3) 0) ((g0 3) 1) ((g0 3) 2) ((g0 3) 3)) (g0 1)
  try simp only [Int.one_mul, Int.zero_add, Int.add_zero]
  rw [hgi] at e0
  rw [hgi] at e1
  rcases (show r 0 = 0 ∨ r 0 = 1 ∨ r 0 = 2 ∨ r 0 = 3 by omega) with q0 | q0 | q0 | q0
  · rw [show (r 0).toNat = 0 by omega] at e1
    rcases (show r 2 = 0 ∨ r 2 = 1 ∨ r 2 = 2 ∨ r 2 = 3 by omega) with q2 | q2 | q2 | q2
    · rw [show (r 2).toNat = 0 by omega] at e0
      rw [q0, q2]
      simp only [yq_at0, yq_at0]
      refine ⟨?_, ?_⟩
      · unfold yq_cm
        repeat' split
        all_goals omega
      · unfold yq_mc
        rw [if_neg (by omega)]
        rw [hgi]
    · rw [show (r 2).toNat = 1 by omega] at e0
      rw [q0, q2]
      simp only [yq_at0, yq_at1]
      refine ⟨?_, ?_⟩
      · unfold yq_cm
        repeat' split
        all_goals omega
      · unfold yq_mc
        rw [if_neg (by omega)]
        rw [hgi]
    · rw [show (r 2).toNat = 2 by omega] at e0
      rw [q0, q2]
      simp only [yq_at0, yq_at2]
      refine ⟨?_, ?_⟩
      · unfold yq_cm
        repeat' split
        all_goals omega
      · unfold yq_mc
        rw [if_neg (by omega)]
        rw [hgi]
    · rw [show (r 2).toNat = 3 by omega] at e0
      rw [q0, q2]
      simp only [yq_at0, yq_at3]
      refine ⟨?_, ?_⟩
      · unfold yq_cm
        repeat' split
        all_goals omega
      · unfold yq_mc
        rw [if_neg (by omega)]
        rw [hgi]
  · rw [show (r 0).toNat = 1 by omega] at e1
    rcases (show r 2 = 0 ∨ r 2 = 1 ∨ r 2 = 2 ∨ r 2 = 3 by omega) with q2 | q2 | q2 | q2
    · rw [show (r 2).toNat = 0 by omega] at e0
      rw [q0, q2]
      simp only [yq_at1, yq_at0]
      refine ⟨?_, ?_⟩
      · unfold yq_cm
        repeat' split
        all_goals omega
      · unfold yq_mc
        rw [if_neg (by omega)]
        rw [hgi]
    · rw [show (r 2).toNat = 1 by omega] at e0
      rw [q0, q2]
      simp only [yq_at1, yq_at1]
      refine ⟨?_, ?_⟩
      · unfold yq_cm
        repeat' split
        all_goals omega
      · unfold yq_mc
        rw [if_neg (by omega)]
        rw [hgi]
    · rw [show (r 2).toNat = 2 by omega] at e0
      rw [q0, q2]
      simp only [yq_at1, yq_at2]
      refine ⟨?_, ?_⟩
      · unfold yq_cm
        repeat' split
        all_goals omega
      · unfold yq_mc
        rw [if_neg (by omega)]
        rw [hgi]
    · rw [show (r 2).toNat = 3 by omega] at e0
      rw [q0, q2]
      simp only [yq_at1, yq_at3]
      refine ⟨?_, ?_⟩
      · unfold yq_cm
        repeat' split
        all_goals omega
      · unfold yq_mc
        rw [if_neg (by omega)]
        rw [hgi]
  · rw [show (r 0).toNat = 2 by omega] at e1
    rcases (show r 2 = 0 ∨ r 2 = 1 ∨ r 2 = 2 ∨ r 2 = 3 by omega) with q2 | q2 | q2 | q2
    · rw [show (r 2).toNat = 0 by omega] at e0
      rw [q0, q2]
      simp only [yq_at2, yq_at0]
      refine ⟨?_, ?_⟩
      · unfold yq_cm
        repeat' split
        all_goals omega
      · unfold yq_mc
        rw [if_neg (by omega)]
        rw [hgi]
    · rw [show (r 2).toNat = 1 by omega] at e0
      rw [q0, q2]
      simp only [yq_at2, yq_at1]
      refine ⟨?_, ?_⟩
      · unfold yq_cm
        repeat' split
        all_goals omega
      · unfold yq_mc
        rw [if_neg (by omega)]
        rw [hgi]
    · rw [show (r 2).toNat = 2 by omega] at e0
      rw [q0, q2]
      simp only [yq_at2, yq_at2]
      refine ⟨?_, ?_⟩
      · unfold yq_cm
        repeat' split
        all_goals omega
      · unfold yq_mc
        rw [if_neg (by omega)]
        rw [hgi]
    · rw [show (r 2).toNat = 3 by omega] at e0
      rw [q0, q2]
      simp only [yq_at2, yq_at3]
      refine ⟨?_, ?_⟩
      · unfold yq_cm
        repeat' split
        all_goals omega
      · unfold yq_mc
        rw [if_neg (by omega)]
        rw [hgi]
  · rw [show (r 0).toNat = 3 by omega] at e1
    rcases (show r 2 = 0 ∨ r 2 = 1 ∨ r 2 = 2 ∨ r 2 = 3 by omega) with q2 | q2 | q2 | q2
    · rw [show (r 2).toNat = 0 by omega] at e0
      rw [q0, q2]
      simp only [yq_at3, yq_at0]
      refine ⟨?_, ?_⟩
      · unfold yq_cm
        repeat' split
        all_goals omega
      · unfold yq_mc
        rw [if_neg (by omega)]
        rw [hgi]
    · rw [show (r 2).toNat = 1 by omega] at e0
      rw [q0, q2]
      simp only [yq_at3, yq_at1]
      refine ⟨?_, ?_⟩
      · unfold yq_cm
        repeat' split
        all_goals omega
      · unfold yq_mc
        rw [if_neg (by omega)]
        rw [hgi]
    · rw [show (r 2).toNat = 2 by omega] at e0
      rw [q0, q2]
      simp only [yq_at3, yq_at2]
      refine ⟨?_, ?_⟩
      · unfold yq_cm
        repeat' split
        all_goals omega
      · unfold yq_mc
        rw [if_neg (by omega)]
        rw [hgi]
    · rw [show (r 2).toNat = 3 by omega] at e0
      rw [q0, q2]
      simp only [yq_at3, yq_at3]
      refine ⟨?_, ?_⟩
      · unfold yq_cm
        repeat' split
        all_goals omega
      · unfold yq_mc
        rw [if_neg (by omega)]
        rw [hgi]
theorem xw_1025_0_11 : yt_hold xT_1025 xk_1025 xq_1025.2.2.1 xG_1025 xP_1025 xU_1025 30 xk_1025.2.1.2.2.2 (fun g0 r g => xR_1025 r g0 ∧ g = g0) (1000, ([(0, 3), ((-2147483648), 2147483647), (0, 3), ((-2147483648), 2147483647), ((-2147483648), (-1)), ((-2147483648), 2147483647), ((-2147483648), 2147483647), (0, 40), ((-2147483648), 2147483647), (0, 4), ((-9223372036854775808), 9223372036854775807), ((-9223372036854775808), 9223372036854775807), ((-9223372036854775808), 9223372036854775807), (0, 1), ((-4000), 4000), ((-4000), 4000), ((-9223372036854775808), 9223372036854775807), ((-9223372036854775808), 9223372036854775807), (0, 12), ((-9223372036854775808), 9223372036854775807), ((-9223372036854775808), 9223372036854775807), ((-9223372036854775808), 9223372036854775807), ((-9223372036854775808), 9223372036854775807), ((-9223372036854775808), 9223372036854775807), (0, 12), ((-2147483648), 2147483647), (0, 12), ((-2147483648), 2147483647), (0, 40), (0, 40), ((-2147483648), 0)], []), [([], (-1)), ([(30, 1)], 0)], [], []) := by
  intro g0 r gi g hok hh hars hfr hG
  have b0 : 0 ≤ r 0 ∧ r 0 ≤ 3 := hok.1 0 (0, 3) rfl
  have b1 : (-2147483648) ≤ r 1 ∧ r 1 ≤ 2147483647 := hok.1 1 ((-2147483648), 2147483647) rfl
  have b2 : 0 ≤ r 2 ∧ r 2 ≤ 3 := hok.1 2 (0, 3) rfl
  have b3 : (-2147483648) ≤ r 3 ∧ r 3 ≤ 2147483647 := hok.1 3 ((-2147483648), 2147483647) rfl
  have b4 : (-2147483648) ≤ r 4 ∧ r 4 ≤ (-1) := hok.1 4 ((-2147483648), (-1)) rfl
  have b30 : (-2147483648) ≤ r 30 ∧ r 30 ≤ 0 := hok.1 30 ((-2147483648), 0) rfl
  obtain ⟨hG, hgi⟩ := hG
  have hG : True := hG
  have hh : g = gi := hh
  subst hh
  refine yt_dalt (by decide) (by decide) ?_
  rw [show xk_1025.2.1.2.1.1.length = 30 from rfl]
  show ((0 : Int) + (-1)) = yq_cm ((1 * r 0 + 0) + 0) ((1 * r 1 + 0) + 0) ((1 * r 2 + 0) + 0) ((1 * r 3 + 0) + 0) ((1 * r 4 + 0) + 0) (yq_at ((1 * r 0 + 0) + 0) ((g0 2) 0) ((g0 2) 1) ((g0 2) 2) ((g0 2) 3)) (yq_at ((1 * r 2 + 0) + 0) ((g0 2) 0) ((g0 2) 1) ((g0 2) 2) ((g0 2) 3)) (yq_at ((1 * r 0 + 0) + 0) ((g0 3) 0) ((g0 3) 1) ((g0 3) 2) ((g0 3) 3)) (yq_at ((1 * r 2 + 0) + 0) ((g0 3) 0) ((g0 3) 1) ((g0 3) 2) ((g0 3) 3)) ∧ (g 1) = yq_mc ((1 * r 0 + 0) + 0) ((1 * r 1 + 0) + 0) ((1 * r 2 + 0) + 0) ((1 * r 3 + 0) + 0) ((1 * r 4 + 0) + 0) (yq_at ((1 * r 0 + 0) + 0) ((g0 2) 0) ((g0 2) 1) ((g0 2) 2) ((g0 2) 3)) (yq_at ((1 * r 2 + 0) + 0) ((g0 2) 0) ((g0 2) 1) ((g0 2) 2) ((g0 2) 3)) (yq_at ((1 * r 0 + 0) + 0) ((g0 3) 0) ((g0 3) 1) ((g0 3) 2) ((g0 3) 3)) (yq_at ((1 * r 2 + 0) + 0) ((g0 3) 0) ((g0 3) 1) ((g0 3) 2) ((g0 3) 3)) (g0 1)
  try simp only [Int.one_mul, Int.zero_add, Int.add_zero]
  refine ⟨?_, ?_⟩
  · unfold yq_cm
    rw [if_neg (by omega)] <;> omega
  · unfold yq_mc
    rw [if_neg (by omega)]
    rw [hgi]
theorem xw_1025_1_0 : yt_hold xT_1025 xk_1025 xq_1025.2.2.1 xG_1025 xP_1025 xU_1025 31 ((xq_1025.2.2.1.getD 0 (0, ([], [], ([], []), [], [], ([], 0)), [], false)).2.1.2.2.1.2) (xG_1025 0) (1, ([(0, 3), (0, 100), (0, 3), (0, 100), (0, 100), ((-2147483648), 2147483647), ((-2147483648), 2147483647), (0, 40), ((-2147483648), 2147483647), (0, 4), ((-9223372036854775808), 9223372036854775807), ((-9223372036854775808), 9223372036854775807), ((-9223372036854775808), 9223372036854775807), (0, 1), ((-4000), 4000), ((-4000), 4000), ((-9223372036854775808), 9223372036854775807), ((-9223372036854775808), 9223372036854775807), (0, 12), ((-9223372036854775808), 9223372036854775807), ((-9223372036854775808), 9223372036854775807), ((-9223372036854775808), 9223372036854775807), ((-9223372036854775808), 9223372036854775807), ((-9223372036854775808), 9223372036854775807), (0, 12), ((-2147483648), 2147483647), (0, 12), ((-2147483648), 2147483647), (0, 40), (0, 40), (0, 100)], [([(4, (-1)), (30, 1)], 0), ([(1, (-1)), (4, (-1))], 100), ([(3, (-1)), (4, (-1))], 100), ([(0, 1)], 0), ([(0, (-1))], 3), ([(1, 1)], 0), ([(1, (-1))], 100), ([(2, 1)], 0), ([(2, (-1))], 3), ([(3, 1)], 0), ([(3, (-1))], 100), ([(4, 1)], 0), ([(3, (-1)), (4, (-1))], 100), ([(1, (-1)), (4, (-1))], 100)]), [([], 0)], [], []) := by
  intro g0 r gi g hok hh hars hfr hG
  have b0 : 0 ≤ r 0 ∧ r 0 ≤ 3 := hok.1 0 (0, 3) rfl
  have b1 : 0 ≤ r 1 ∧ r 1 ≤ 100 := hok.1 1 (0, 100) rfl
  have b2 : 0 ≤ r 2 ∧ r 2 ≤ 3 := hok.1 2 (0, 3) rfl
  have b3 : 0 ≤ r 3 ∧ r 3 ≤ 100 := hok.1 3 (0, 100) rfl
  have b4 : 0 ≤ r 4 ∧ r 4 ≤ 100 := hok.1 4 (0, 100) rfl
  have b30 : 0 ≤ r 30 ∧ r 30 ≤ 100 := hok.1 30 (0, 100) rfl
  have f0 : 0 ≤ (((-1) * r 4 + (1 * r 30 + 0)) + 0) := hok.2 _ (List.mem_of_getElem? (i := 0) rfl)
  have f1 : 0 ≤ (((-1) * r 1 + ((-1) * r 4 + 0)) + 100) := hok.2 _ (List.mem_of_getElem? (i := 1) rfl)
  have f2 : 0 ≤ (((-1) * r 3 + ((-1) * r 4 + 0)) + 100) := hok.2 _ (List.mem_of_getElem? (i := 2) rfl)
  have f3 : 0 ≤ ((1 * r 0 + 0) + 0) := hok.2 _ (List.mem_of_getElem? (i := 3) rfl)
  have f4 : 0 ≤ (((-1) * r 0 + 0) + 3) := hok.2 _ (List.mem_of_getElem? (i := 4) rfl)
  have f5 : 0 ≤ ((1 * r 1 + 0) + 0) := hok.2 _ (List.mem_of_getElem? (i := 5) rfl)
  have f6 : 0 ≤ (((-1) * r 1 + 0) + 100) := hok.2 _ (List.mem_of_getElem? (i := 6) rfl)
  have f7 : 0 ≤ ((1 * r 2 + 0) + 0) := hok.2 _ (List.mem_of_getElem? (i := 7) rfl)
  have f8 : 0 ≤ (((-1) * r 2 + 0) + 3) := hok.2 _ (List.mem_of_getElem? (i := 8) rfl)
  have f9 : 0 ≤ ((1 * r 3 + 0) + 0) := hok.2 _ (List.mem_of_getElem? (i := 9) rfl)
  have f10 : 0 ≤ (((-1) * r 3 + 0) + 100) := hok.2 _ (List.mem_of_getElem? (i := 10) rfl)
  have f11 : 0 ≤ ((1 * r 4 + 0) + 0) := hok.2 _ (List.mem_of_getElem? (i := 11) rfl)
  have f12 : 0 ≤ (((-1) * r 3 + ((-1) * r 4 + 0)) + 100) := hok.2 _ (List.mem_of_getElem? (i := 12) rfl)
  have f13 : 0 ≤ (((-1) * r 1 + ((-1) * r 4 + 0)) + 100) := hok.2 _ (List.mem_of_getElem? (i := 13) rfl)
  have hG : 0 ≤ (g0 2) ((r 0)).toNat ∧ 0 ≤ (g0 2) ((r 2)).toNat ∧ 0 ≤ (r 1) ∧ (r 1) + (r 4) ≤ (g0 3) ((r 0)).toNat ∧ 0 ≤ (r 3) ∧ (r 3) + (r 4) ≤ (g0 3) ((r 2)).toNat ∧ 0 ≤ (r 4) ∧ (∀ j : Nat, (j : Int) < ((1 * (r 30) + 0) + 0) → (gi 4) j = (g0 1) (100 * (r 0) + (r 1) + (j : Int)).toNat) ∧ (gi 1) = (g0 1) := hG
  have hh : g = gi := hh
  subst hh
  refine yt_dcut (by decide) rfl ?_ ?_
  · exact fun f hf => absurd hf List.not_mem_nil
  · rw [show xk_1025.2.1.2.1.1.length = 30 from rfl]
    show 0 ≤ (g0 2) (((1 * r 0 + 0) + 0)).toNat ∧ 0 ≤ (g0 2) (((1 * r 2 + 0) + 0)).toNat ∧ 0 ≤ ((1 * r 1 + 0) + 0) ∧ ((1 * r 1 + 0) + 0) + ((1 * r 4 + 0) + 0) ≤ (g0 3) (((1 * r 0 + 0) + 0)).toNat ∧ 0 ≤ ((1 * r 3 + 0) + 0) ∧ ((1 * r 3 + 0) + 0) + ((1 * r 4 + 0) + 0) ≤ (g0 3) (((1 * r 2 + 0) + 0)).toNat ∧ 0 ≤ ((1 * r 4 + 0) + 0) ∧ (∀ j : Nat, (j : Int) < ((1 * r 4 + 0) + 0) → (g 4) j = (g0 1) (100 * ((1 * r 0 + 0) + 0) + ((1 * r 1 + 0) + 0) + (j : Int)).toNat) ∧ (g 1) = yq_pa (100 * ((1 * r 2 + 0) + 0) + ((1 * r 3 + 0) + 0)) (100 * ((1 * r 0 + 0) + 0) + ((1 * r 1 + 0) + 0)) ((1 * ((0 : Int) + 0) + 0) + 0) ((g0 2) (((1 * r 2 + 0) + 0)).toNat) (g0 1) (g0 1) ∧ ((1 * ((0 : Int) + 0) + 0) + 0) ≤ ((1 * r 4 + 0) + 0)
    try simp only [Int.one_mul, Int.zero_add, Int.add_zero]
    try simp only [Int.one_mul, Int.zero_add, Int.add_zero] at hG
    obtain ⟨a1, a2, a3, a4, a5, a6, a7, a8, a9⟩ := hG
    refine ⟨a1, a2, a3, a4, a5, a6, a7, fun j hj => a8 j (by omega), ?_, by omega⟩
    rw [a9]
    exact (yq_pa_0 rfl).symm
theorem xw_1025_1_1 : yt_hold xT_1025 xk_1025 xq_1025.2.2.1 xG_1025 xP_1025 xU_1025 31 ((xq_1025.2.2.1.getD 0 (0, ([], [], ([], []), [], [], ([], 0)), [], false)).2.1.2.2.1.2) (xG_1025 0) (0, ([(0, 3), (0, 100), (0, 3), (0, 100), (1, 100), ((-2147483648), 2147483647), ((-2147483648), 2147483647), (0, 40), ((-2147483648), 2147483647), (0, 4), ((-9223372036854775808), 9223372036854775807), ((-9223372036854775808), 9223372036854775807), ((-9223372036854775808), 9223372036854775807), (0, 1), ((-4000), 4000), ((-4000), 4000), ((-9223372036854775808), 9223372036854775807), ((-9223372036854775808), 9223372036854775807), (0, 12), ((-9223372036854775808), 9223372036854775807), ((-9223372036854775808), 9223372036854775807), ((-9223372036854775808), 9223372036854775807), ((-9223372036854775808), 9223372036854775807), ((-9223372036854775808), 9223372036854775807), (0, 12), ((-2147483648), 2147483647), (0, 12), ((-2147483648), 2147483647), (0, 40), (0, 40), (0, 99), ((-9223372036854775808), 9223372036854775807)], [([(4, 1), (30, (-1))], (-1)), ([(1, (-1)), (4, (-1))], 100), ([(3, (-1)), (4, (-1))], 100), ([(0, 1)], 0), ([(0, (-1))], 3), ([(1, 1)], 0), ([(1, (-1))], 100), ([(2, 1)], 0), ([(2, (-1))], 3), ([(3, 1)], 0), ([(3, (-1))], 100), ([(4, 1)], 0), ([(3, (-1)), (4, (-1))], 100), ([(1, (-1)), (4, (-1))], 100)]), [([(30, 1)], 1)], [], [.inr (.inl (4, ([(30, 1)], 0), ([(31, 1)], 0))), .inl (.inl (1, ([(30, 1), (0, 100), (1, 1)], 0), 31))]) := by
  intro g0 r gi g hok hh hars hfr hG
  have b0 : 0 ≤ r 0 ∧ r 0 ≤ 3 := hok.1 0 (0, 3) rfl
  have b1 : 0 ≤ r 1 ∧ r 1 ≤ 100 := hok.1 1 (0, 100) rfl
  have b2 : 0 ≤ r 2 ∧ r 2 ≤ 3 := hok.1 2 (0, 3) rfl
  have b3 : 0 ≤ r 3 ∧ r 3 ≤ 100 := hok.1 3 (0, 100) rfl
  have b4 : 1 ≤ r 4 ∧ r 4 ≤ 100 := hok.1 4 (1, 100) rfl
  have b30 : 0 ≤ r 30 ∧ r 30 ≤ 99 := hok.1 30 (0, 99) rfl
  have b31 : (-9223372036854775808) ≤ r 31 ∧ r 31 ≤ 9223372036854775807 := hok.1 31 ((-9223372036854775808), 9223372036854775807) rfl
  have f0 : 0 ≤ ((1 * r 4 + ((-1) * r 30 + 0)) + (-1)) := hok.2 _ (List.mem_of_getElem? (i := 0) rfl)
  have f1 : 0 ≤ (((-1) * r 1 + ((-1) * r 4 + 0)) + 100) := hok.2 _ (List.mem_of_getElem? (i := 1) rfl)
  have f2 : 0 ≤ (((-1) * r 3 + ((-1) * r 4 + 0)) + 100) := hok.2 _ (List.mem_of_getElem? (i := 2) rfl)
  have f3 : 0 ≤ ((1 * r 0 + 0) + 0) := hok.2 _ (List.mem_of_getElem? (i := 3) rfl)
  have f4 : 0 ≤ (((-1) * r 0 + 0) + 3) := hok.2 _ (List.mem_of_getElem? (i := 4) rfl)
  have f5 : 0 ≤ ((1 * r 1 + 0) + 0) := hok.2 _ (List.mem_of_getElem? (i := 5) rfl)
  have f6 : 0 ≤ (((-1) * r 1 + 0) + 100) := hok.2 _ (List.mem_of_getElem? (i := 6) rfl)
  have f7 : 0 ≤ ((1 * r 2 + 0) + 0) := hok.2 _ (List.mem_of_getElem? (i := 7) rfl)
  have f8 : 0 ≤ (((-1) * r 2 + 0) + 3) := hok.2 _ (List.mem_of_getElem? (i := 8) rfl)
  have f9 : 0 ≤ ((1 * r 3 + 0) + 0) := hok.2 _ (List.mem_of_getElem? (i := 9) rfl)
  have f10 : 0 ≤ (((-1) * r 3 + 0) + 100) := hok.2 _ (List.mem_of_getElem? (i := 10) rfl)
  have f11 : 0 ≤ ((1 * r 4 + 0) + 0) := hok.2 _ (List.mem_of_getElem? (i := 11) rfl)
  have f12 : 0 ≤ (((-1) * r 3 + ((-1) * r 4 + 0)) + 100) := hok.2 _ (List.mem_of_getElem? (i := 12) rfl)
  have f13 : 0 ≤ (((-1) * r 1 + ((-1) * r 4 + 0)) + 100) := hok.2 _ (List.mem_of_getElem? (i := 13) rfl)
  have hG : 0 ≤ (g0 2) ((r 0)).toNat ∧ 0 ≤ (g0 2) ((r 2)).toNat ∧ 0 ≤ (r 1) ∧ (r 1) + (r 4) ≤ (g0 3) ((r 0)).toNat ∧ 0 ≤ (r 3) ∧ (r 3) + (r 4) ≤ (g0 3) ((r 2)).toNat ∧ 0 ≤ (r 4) ∧ (∀ j : Nat, (j : Int) < ((1 * (r 30) + 0) + 0) → (gi 4) j = (g0 1) (100 * (r 0) + (r 1) + (j : Int)).toNat) ∧ (gi 1) = (g0 1) := hG
  obtain ⟨h0, hh, e0⟩ := hh
  have e0 : g = ys_gup h0 4 (((1 * r 30 + 0) + 0)).toNat ((1 * r 31 + 0) + 0) := e0
  obtain ⟨g1, hh, q1, e1⟩ := hh
  subst q1
  have e1 : r 31 = h0 1 (((1 * r 30 + (100 * r 0 + (1 * r 1 + 0))) + 0)).toNat := e1
  rw [show (((1 * r 30 + (100 * r 0 + (1 * r 1 + 0))) + 0)).toNat = (r 30 + 100 * r 0 + r 1).toNat by omega] at e1
  have hh : h0 = gi := hh
  subst hh
  refine yt_dcut (by decide) rfl ?_ ?_
  · exact fun f hf => absurd hf List.not_mem_nil
  · rw [show xk_1025.2.1.2.1.1.length = 30 from rfl]
    show 0 ≤ (g0 2) (((1 * r 0 + 0) + 0)).toNat ∧ 0 ≤ (g0 2) (((1 * r 2 + 0) + 0)).toNat ∧ 0 ≤ ((1 * r 1 + 0) + 0) ∧ ((1 * r 1 + 0) + 0) + ((1 * r 4 + 0) + 0) ≤ (g0 3) (((1 * r 0 + 0) + 0)).toNat ∧ 0 ≤ ((1 * r 3 + 0) + 0) ∧ ((1 * r 3 + 0) + 0) + ((1 * r 4 + 0) + 0) ≤ (g0 3) (((1 * r 2 + 0) + 0)).toNat ∧ 0 ≤ ((1 * r 4 + 0) + 0) ∧ (∀ j : Nat, (j : Int) < ((1 * ((1 * r 30 + 0) + 1) + 0) + 0) → (g 4) j = (g0 1) (100 * ((1 * r 0 + 0) + 0) + ((1 * r 1 + 0) + 0) + (j : Int)).toNat) ∧ (g 1) = (g0 1)
    try simp only [Int.one_mul, Int.zero_add, Int.add_zero]
    try simp only [Int.one_mul, Int.zero_add, Int.add_zero] at e0
    try simp only [Int.one_mul, Int.zero_add, Int.add_zero] at hG
    obtain ⟨a1, a2, a3, a4, a5, a6, a7, a8, a9⟩ := hG
    refine ⟨a1, a2, a3, a4, a5, a6, a7, fun j hj => ?_, ?_⟩
    · rw [e0, yq_gup_self]
      unfold yq_set
      split
      · rename_i q
        rw [q, e1, a9]
        congr 1
        omega
      · exact a8 j (by omega)
    · rw [e0, yq_gup_ne (by decide)]
      exact a9
theorem xw_1025_2_0 : yt_hold xT_1025 xk_1025 xq_1025.2.2.1 xG_1025 xP_1025 xU_1025 31 ((xq_1025.2.2.1.getD 1 (0, ([], [], ([], []), [], [], ([], 0)), [], false)).2.1.2.2.1.2) (xG_1025 1) (1000, ([(0, 3), (0, 100), (0, 3), (0, 100), ((-2147483648), 100), ((-2147483648), 2147483647), ((-2147483648), 2147483647), (0, 40), ((-2147483648), 2147483647), (0, 4), ((-9223372036854775808), 9223372036854775807), ((-9223372036854775808), 9223372036854775807), ((-9223372036854775808), 9223372036854775807), (0, 1), ((-4000), 4000), ((-4000), 4000), ((-9223372036854775808), 9223372036854775807), ((-9223372036854775808), 9223372036854775807), (0, 12), ((-9223372036854775808), 9223372036854775807), ((-9223372036854775808), 9223372036854775807), ((-9223372036854775808), 9223372036854775807), ((-9223372036854775808), 9223372036854775807), ((-9223372036854775808), 9223372036854775807), (0, 12), ((-2147483648), 2147483647), (0, 12), ((-2147483648), 2147483647), (0, 40), (0, 40), (0, 100), ((-2147483648), 0)], [([(4, (-1)), (30, 1)], 0), ([(3, (-1)), (4, (-1))], 100), ([(1, (-1)), (4, (-1))], 100), ([(0, 1)], 0), ([(0, (-1))], 3), ([(1, 1)], 0), ([(1, (-1))], 100), ([(2, 1)], 0), ([(2, (-1))], 3), ([(3, 1)], 0), ([(3, (-1))], 100), ([(1, (-1)), (4, (-1))], 100), ([(3, (-1)), (4, (-1))], 100)]), [([(4, 1)], 0), ([(31, 1)], 0)], [], []) := by
  intro g0 r gi g hok hh hars hfr hG
  have b0 : 0 ≤ r 0 ∧ r 0 ≤ 3 := hok.1 0 (0, 3) rfl
  have b1 : 0 ≤ r 1 ∧ r 1 ≤ 100 := hok.1 1 (0, 100) rfl
  have b2 : 0 ≤ r 2 ∧ r 2 ≤ 3 := hok.1 2 (0, 3) rfl
  have b3 : 0 ≤ r 3 ∧ r 3 ≤ 100 := hok.1 3 (0, 100) rfl
  have b4 : (-2147483648) ≤ r 4 ∧ r 4 ≤ 100 := hok.1 4 ((-2147483648), 100) rfl
  have b30 : 0 ≤ r 30 ∧ r 30 ≤ 100 := hok.1 30 (0, 100) rfl
  have b31 : (-2147483648) ≤ r 31 ∧ r 31 ≤ 0 := hok.1 31 ((-2147483648), 0) rfl
  have f0 : 0 ≤ (((-1) * r 4 + (1 * r 30 + 0)) + 0) := hok.2 _ (List.mem_of_getElem? (i := 0) rfl)
  have f1 : 0 ≤ (((-1) * r 3 + ((-1) * r 4 + 0)) + 100) := hok.2 _ (List.mem_of_getElem? (i := 1) rfl)
  have f2 : 0 ≤ (((-1) * r 1 + ((-1) * r 4 + 0)) + 100) := hok.2 _ (List.mem_of_getElem? (i := 2) rfl)
  have f3 : 0 ≤ ((1 * r 0 + 0) + 0) := hok.2 _ (List.mem_of_getElem? (i := 3) rfl)
  have f4 : 0 ≤ (((-1) * r 0 + 0) + 3) := hok.2 _ (List.mem_of_getElem? (i := 4) rfl)
  have f5 : 0 ≤ ((1 * r 1 + 0) + 0) := hok.2 _ (List.mem_of_getElem? (i := 5) rfl)
  have f6 : 0 ≤ (((-1) * r 1 + 0) + 100) := hok.2 _ (List.mem_of_getElem? (i := 6) rfl)
  have f7 : 0 ≤ ((1 * r 2 + 0) + 0) := hok.2 _ (List.mem_of_getElem? (i := 7) rfl)
  have f8 : 0 ≤ (((-1) * r 2 + 0) + 3) := hok.2 _ (List.mem_of_getElem? (i := 8) rfl)
  have f9 : 0 ≤ ((1 * r 3 + 0) + 0) := hok.2 _ (List.mem_of_getElem? (i := 9) rfl)
  have f10 : 0 ≤ (((-1) * r 3 + 0) + 100) := hok.2 _ (List.mem_of_getElem? (i := 10) rfl)
  have f11 : 0 ≤ (((-1) * r 1 + ((-1) * r 4 + 0)) + 100) := hok.2 _ (List.mem_of_getElem? (i := 11) rfl)
  have f12 : 0 ≤ (((-1) * r 3 + ((-1) * r 4 + 0)) + 100) := hok.2 _ (List.mem_of_getElem? (i := 12) rfl)
  have hG : 0 ≤ (g0 2) ((r 0)).toNat ∧ 0 ≤ (g0 2) ((r 2)).toNat ∧ 0 ≤ (r 1) ∧ (r 1) + (r 4) ≤ (g0 3) ((r 0)).toNat ∧ 0 ≤ (r 3) ∧ (r 3) + (r 4) ≤ (g0 3) ((r 2)).toNat ∧ 0 ≤ (r 4) ∧ (∀ j : Nat, (j : Int) < (r 4) → (gi 4) j = (g0 1) (100 * (r 0) + (r 1) + (j : Int)).toNat) ∧ (gi 1) = yq_pa (100 * (r 2) + (r 3)) (100 * (r 0) + (r 1)) ((1 * (r 30) + 0) + 0) ((g0 2) ((r 2)).toNat) (g0 1) (g0 1) ∧ ((1 * (r 30) + 0) + 0) ≤ (r 4) := hG
  have hh : g = gi := hh
  subst hh
  refine yt_dalt (by decide) (by decide) ?_
  rw [show xk_1025.2.1.2.1.1.length = 30 from rfl]
  show ((1 * r 4 + 0) + 0) = yq_cm ((1 * r 0 + 0) + 0) ((1 * r 1 + 0) + 0) ((1 * r 2 + 0) + 0) ((1 * r 3 + 0) + 0) ((1 * r 4 + 0) + 0) (yq_at ((1 * r 0 + 0) + 0) ((g0 2) 0) ((g0 2) 1) ((g0 2) 2) ((g0 2) 3)) (yq_at ((1 * r 2 + 0) + 0) ((g0 2) 0) ((g0 2) 1) ((g0 2) 2) ((g0 2) 3)) (yq_at ((1 * r 0 + 0) + 0) ((g0 3) 0) ((g0 3) 1) ((g0 3) 2) ((g0 3) 3)) (yq_at ((1 * r 2 + 0) + 0) ((g0 3) 0) ((g0 3) 1) ((g0 3) 2) ((g0 3) 3)) ∧ (g 1) = yq_mc ((1 * r 0 + 0) + 0) ((1 * r 1 + 0) + 0) ((1 * r 2 + 0) + 0) ((1 * r 3 + 0) + 0) ((1 * r 4 + 0) + 0) (yq_at ((1 * r 0 + 0) + 0) ((g0 2) 0) ((g0 2) 1) ((g0 2) 2) ((g0 2) 3)) (yq_at ((1 * r 2 + 0) + 0) ((g0 2) 0) ((g0 2) 1) ((g0 2) 2) ((g0 2) 3)) (yq_at ((1 * r 0 + 0) + 0) ((g0 3) 0) ((g0 3) 1) ((g0 3) 2) ((g0 3) 3)) (yq_at ((1 * r 2 + 0) + 0) ((g0 3) 0) ((g0 3) 1) ((g0 3) 2) ((g0 3) 3)) (g0 1)
  try simp only [Int.one_mul, Int.zero_add, Int.add_zero]
  try simp only [Int.one_mul, Int.zero_add, Int.add_zero] at hG
  obtain ⟨a1, a2, a3, a4, a5, a6, a7, a8, a9, a10⟩ := hG
  rcases (show r 0 = 0 ∨ r 0 = 1 ∨ r 0 = 2 ∨ r 0 = 3 by omega) with q0 | q0 | q0 | q0
  · rw [show (r 0).toNat = 0 by omega] at a1 a4
    rcases (show r 2 = 0 ∨ r 2 = 1 ∨ r 2 = 2 ∨ r 2 = 3 by omega) with q2 | q2 | q2 | q2
    · rw [show (r 2).toNat = 0 by omega] at a2 a6 a9
      rw [q0, q2]
      simp only [yq_at0, yq_at0]
      refine ⟨?_, ?_⟩
      · unfold yq_cm
        repeat' split
        all_goals omega
      · unfold yq_mc
        rw [if_pos (by omega)]
        rw [a9]
        rw [show r 30 = r 4 by omega, q0, q2]
    · rw [show (r 2).toNat = 1 by omega] at a2 a6 a9
      rw [q0, q2]
      simp only [yq_at0, yq_at1]
      refine ⟨?_, ?_⟩
      · unfold yq_cm
        repeat' split
        all_goals omega
      · unfold yq_mc
        rw [if_pos (by omega)]
        rw [a9]
        rw [show r 30 = r 4 by omega, q0, q2]
    · rw [show (r 2).toNat = 2 by omega] at a2 a6 a9
      rw [q0, q2]
      simp only [yq_at0, yq_at2]
      refine ⟨?_, ?_⟩
      · unfold yq_cm
        repeat' split
        all_goals omega
      · unfold yq_mc
        rw [if_pos (by omega)]
        rw [a9]
        rw [show r 30 = r 4 by omega, q0, q2]
    · rw [show (r 2).toNat = 3 by omega] at a2 a6 a9
      rw [q0, q2]
      simp only [yq_at0, yq_at3]
      refine ⟨?_, ?_⟩
      · unfold yq_cm
        repeat' split
        all_goals omega
      · unfold yq_mc
        rw [if_pos (by omega)]
        rw [a9]
        rw [show r 30 = r 4 by omega, q0, q2]
  · rw [show (r 0).toNat = 1 by omega] at a1 a4
    rcases (show r 2 = 0 ∨ r 2 = 1 ∨ r 2 = 2 ∨ r 2 = 3 by omega) with q2 | q2 | q2 | q2
    · rw [show (r 2).toNat = 0 by omega] at a2 a6 a9
      rw [q0, q2]
      simp only [yq_at1, yq_at0]
      refine ⟨?_, ?_⟩
      · unfold yq_cm
        repeat' split
        all_goals omega
      · unfold yq_mc
        rw [if_pos (by omega)]
        rw [a9]
        rw [show r 30 = r 4 by omega, q0, q2]
    · rw [show (r 2).toNat = 1 by omega] at a2 a6 a9
      rw [q0, q2]
      simp only [yq_at1, yq_at1]
      refine ⟨?_, ?_⟩
      · unfold yq_cm
        repeat' split
        all_goals omega
      · unfold yq_mc
        rw [if_pos (by omega)]
        rw [a9]
        rw [show r 30 = r 4 by omega, q0, q2]
    · rw [show (r 2).toNat = 2 by omega] at a2 a6 a9
      rw [q0, q2]
      simp only [yq_at1, yq_at2]
      refine ⟨?_, ?_⟩
      · unfold yq_cm
        repeat' split
        all_goals omega
      · unfold yq_mc
        rw [if_pos (by omega)]
        rw [a9]
        rw [show r 30 = r 4 by omega, q0, q2]
    · rw [show (r 2).toNat = 3 by omega] at a2 a6 a9
      rw [q0, q2]
      simp only [yq_at1, yq_at3]
      refine ⟨?_, ?_⟩
      · unfold yq_cm
        repeat' split
        all_goals omega
      · unfold yq_mc
        rw [if_pos (by omega)]
        rw [a9]
        rw [show r 30 = r 4 by omega, q0, q2]
  · rw [show (r 0).toNat = 2 by omega] at a1 a4
    rcases (show r 2 = 0 ∨ r 2 = 1 ∨ r 2 = 2 ∨ r 2 = 3 by omega) with q2 | q2 | q2 | q2
    · rw [show (r 2).toNat = 0 by omega] at a2 a6 a9
      rw [q0, q2]
      simp only [yq_at2, yq_at0]
      refine ⟨?_, ?_⟩
      · unfold yq_cm
        repeat' split
        all_goals omega
      · unfold yq_mc
        rw [if_pos (by omega)]
        rw [a9]
        rw [show r 30 = r 4 by omega, q0, q2]
    · rw [show (r 2).toNat = 1 by omega] at a2 a6 a9
      rw [q0, q2]
      simp only [yq_at2, yq_at1]
      refine ⟨?_, ?_⟩
      · unfold yq_cm
        repeat' split
        all_goals omega
      · unfold yq_mc
        rw [if_pos (by omega)]
        rw [a9]
        rw [show r 30 = r 4 by omega, q0, q2]
    · rw [show (r 2).toNat = 2 by omega] at a2 a6 a9
      rw [q0, q2]
      simp only [yq_at2, yq_at2]
      refine ⟨?_, ?_⟩
      · unfold yq_cm
        repeat' split
        all_goals omega
      · unfold yq_mc
        rw [if_pos (by omega)]
        rw [a9]
        rw [show r 30 = r 4 by omega, q0, q2]
    · rw [show (r 2).toNat = 3 by omega] at a2 a6 a9
      rw [q0, q2]
      simp only [yq_at2, yq_at3]
      refine ⟨?_, ?_⟩
      · unfold yq_cm
        repeat' split
        all_goals omega
      · unfold yq_mc
        rw [if_pos (by omega)]
        rw [a9]
        rw [show r 30 = r 4 by omega, q0, q2]
  · rw [show (r 0).toNat = 3 by omega] at a1 a4
    rcases (show r 2 = 0 ∨ r 2 = 1 ∨ r 2 = 2 ∨ r 2 = 3 by omega) with q2 | q2 | q2 | q2
    · rw [show (r 2).toNat = 0 by omega] at a2 a6 a9
      rw [q0, q2]
      simp only [yq_at3, yq_at0]
      refine ⟨?_, ?_⟩
      · unfold yq_cm
        repeat' split
        all_goals omega
      · unfold yq_mc
        rw [if_pos (by omega)]
        rw [a9]
        rw [show r 30 = r 4 by omega, q0, q2]
    · rw [show (r 2).toNat = 1 by omega] at a2 a6 a9
      rw [q0, q2]
      simp only [yq_at3, yq_at1]
      refine ⟨?_, ?_⟩
      · unfold yq_cm
        repeat' split
        all_goals omega
      · unfold yq_mc
        rw [if_pos (by omega)]
        rw [a9]
        rw [show r 30 = r 4 by omega, q0, q2]
    · rw [show (r 2).toNat = 2 by omega] at a2 a6 a9
      rw [q0, q2]
      simp only [yq_at3, yq_at2]
      refine ⟨?_, ?_⟩
      · unfold yq_cm
        repeat' split
        all_goals omega
      · unfold yq_mc
        rw [if_pos (by omega)]
        rw [a9]
        rw [show r 30 = r 4 by omega, q0, q2]
    · rw [show (r 2).toNat = 3 by omega] at a2 a6 a9
      rw [q0, q2]
      simp only [yq_at3, yq_at3]
      refine ⟨?_, ?_⟩
      · unfold yq_cm
        repeat' split
        all_goals omega
      · unfold yq_mc
        rw [if_pos (by omega)]
        rw [a9]
        rw [show r 30 = r 4 by omega, q0, q2]
theorem xw_1025_2_1 : yt_hold xT_1025 xk_1025 xq_1025.2.2.1 xG_1025 xP_1025 xU_1025 31 ((xq_1025.2.2.1.getD 1 (0, ([], [], ([], []), [], [], ([], 0)), [], false)).2.1.2.2.1.2) (xG_1025 1) (1, ([(0, 3), (0, 100), (0, 3), (0, 100), (1, 100), ((-2147483648), 2147483647), ((-2147483648), 2147483647), (0, 40), ((-2147483648), 2147483647), (0, 4), ((-9223372036854775808), 9223372036854775807), ((-9223372036854775808), 9223372036854775807), ((-9223372036854775808), 9223372036854775807), (0, 1), ((-4000), 4000), ((-4000), 4000), ((-9223372036854775808), 9223372036854775807), ((-9223372036854775808), 9223372036854775807), (0, 12), ((-9223372036854775808), 9223372036854775807), ((-9223372036854775808), 9223372036854775807), ((-9223372036854775808), 9223372036854775807), ((-9223372036854775808), 9223372036854775807), ((-9223372036854775808), 9223372036854775807), (0, 12), ((-2147483648), 2147483647), (0, 12), ((-2147483648), 2147483647), (0, 40), (0, 40), (0, 99), ((-2147483648), 2147483647), ((-9223372036854775808), 9223372036854775807), ((-9223372036854775808), 9223372036854775807)], [([(4, 1), (30, (-1))], (-1)), ([(3, (-1)), (4, (-1))], 100), ([(1, (-1)), (4, (-1))], 100), ([(0, 1)], 0), ([(0, (-1))], 3), ([(1, 1)], 0), ([(1, (-1))], 100), ([(2, 1)], 0), ([(2, (-1))], 3), ([(3, 1)], 0), ([(3, (-1))], 100), ([(1, (-1)), (4, (-1))], 100), ([(3, (-1)), (4, (-1))], 100)]), [([(30, 1)], 1)], [], [.inr (.inl (1, ([(30, 1), (2, 100), (3, 1)], 0), ([(33, 1)], 0))), .inr (.inr (.inl (96, 0, [([(31, 1)], 0), ([(32, 1)], 0), ([(33, 1)], 0)], [], []))), .inl (.inl (4, ([(30, 1)], 0), 32)), .inl (.inl (2, ([(2, 1)], 0), 31))]) := by
  intro g0 r gi g hok hh hars hfr hG
  have b0 : 0 ≤ r 0 ∧ r 0 ≤ 3 := hok.1 0 (0, 3) rfl
  have b1 : 0 ≤ r 1 ∧ r 1 ≤ 100 := hok.1 1 (0, 100) rfl
  have b2 : 0 ≤ r 2 ∧ r 2 ≤ 3 := hok.1 2 (0, 3) rfl
  have b3 : 0 ≤ r 3 ∧ r 3 ≤ 100 := hok.1 3 (0, 100) rfl
  have b4 : 1 ≤ r 4 ∧ r 4 ≤ 100 := hok.1 4 (1, 100) rfl
  have b30 : 0 ≤ r 30 ∧ r 30 ≤ 99 := hok.1 30 (0, 99) rfl
  have b31 : (-2147483648) ≤ r 31 ∧ r 31 ≤ 2147483647 := hok.1 31 ((-2147483648), 2147483647) rfl
  have b32 : (-9223372036854775808) ≤ r 32 ∧ r 32 ≤ 9223372036854775807 := hok.1 32 ((-9223372036854775808), 9223372036854775807) rfl
  have b33 : (-9223372036854775808) ≤ r 33 ∧ r 33 ≤ 9223372036854775807 := hok.1 33 ((-9223372036854775808), 9223372036854775807) rfl
  have f0 : 0 ≤ ((1 * r 4 + ((-1) * r 30 + 0)) + (-1)) := hok.2 _ (List.mem_of_getElem? (i := 0) rfl)
  have f1 : 0 ≤ (((-1) * r 3 + ((-1) * r 4 + 0)) + 100) := hok.2 _ (List.mem_of_getElem? (i := 1) rfl)
  have f2 : 0 ≤ (((-1) * r 1 + ((-1) * r 4 + 0)) + 100) := hok.2 _ (List.mem_of_getElem? (i := 2) rfl)
  have f3 : 0 ≤ ((1 * r 0 + 0) + 0) := hok.2 _ (List.mem_of_getElem? (i := 3) rfl)
  have f4 : 0 ≤ (((-1) * r 0 + 0) + 3) := hok.2 _ (List.mem_of_getElem? (i := 4) rfl)
  have f5 : 0 ≤ ((1 * r 1 + 0) + 0) := hok.2 _ (List.mem_of_getElem? (i := 5) rfl)
  have f6 : 0 ≤ (((-1) * r 1 + 0) + 100) := hok.2 _ (List.mem_of_getElem? (i := 6) rfl)
  have f7 : 0 ≤ ((1 * r 2 + 0) + 0) := hok.2 _ (List.mem_of_getElem? (i := 7) rfl)
  have f8 : 0 ≤ (((-1) * r 2 + 0) + 3) := hok.2 _ (List.mem_of_getElem? (i := 8) rfl)
  have f9 : 0 ≤ ((1 * r 3 + 0) + 0) := hok.2 _ (List.mem_of_getElem? (i := 9) rfl)
  have f10 : 0 ≤ (((-1) * r 3 + 0) + 100) := hok.2 _ (List.mem_of_getElem? (i := 10) rfl)
  have f11 : 0 ≤ (((-1) * r 1 + ((-1) * r 4 + 0)) + 100) := hok.2 _ (List.mem_of_getElem? (i := 11) rfl)
  have f12 : 0 ≤ (((-1) * r 3 + ((-1) * r 4 + 0)) + 100) := hok.2 _ (List.mem_of_getElem? (i := 12) rfl)
  have hG : 0 ≤ (g0 2) ((r 0)).toNat ∧ 0 ≤ (g0 2) ((r 2)).toNat ∧ 0 ≤ (r 1) ∧ (r 1) + (r 4) ≤ (g0 3) ((r 0)).toNat ∧ 0 ≤ (r 3) ∧ (r 3) + (r 4) ≤ (g0 3) ((r 2)).toNat ∧ 0 ≤ (r 4) ∧ (∀ j : Nat, (j : Int) < (r 4) → (gi 4) j = (g0 1) (100 * (r 0) + (r 1) + (j : Int)).toNat) ∧ (gi 1) = yq_pa (100 * (r 2) + (r 3)) (100 * (r 0) + (r 1)) ((1 * (r 30) + 0) + 0) ((g0 2) ((r 2)).toNat) (g0 1) (g0 1) ∧ ((1 * (r 30) + 0) + 0) ≤ (r 4) := hG
  obtain ⟨h0, hh, e0⟩ := hh
  have e0 : g = ys_gup h0 1 (((1 * r 30 + (100 * r 2 + (1 * r 3 + 0))) + 0)).toNat ((1 * r 33 + 0) + 0) := e0
  obtain ⟨h1, hh, e1, k1⟩ := hh
  have k1 : ∀ j, j ∉ [] → h0 j = h1 j := k1
  have e1 : ((1 * r 33 + 0) + 0) = yq_cut ((1 * r 31 + 0) + 0) ((1 * r 32 + 0) + 0) := e1
  obtain ⟨g2, hh, q2, e2⟩ := hh
  subst q2
  have e2 : r 32 = h1 4 (((1 * r 30 + 0) + 0)).toNat := e2
  rw [show (((1 * r 30 + 0) + 0)).toNat = (r 30).toNat by omega] at e2
  obtain ⟨g3, hh, q3, e3⟩ := hh
  subst q3
  have e3 : r 31 = h1 2 (((1 * r 2 + 0) + 0)).toNat := e3
  rw [show (((1 * r 2 + 0) + 0)).toNat = (r 2).toNat by omega] at e3
  have hh : h1 = gi := hh
  subst hh
  refine yt_dcut (by decide) rfl ?_ ?_
  · exact fun f hf => absurd hf List.not_mem_nil
  · rw [show xk_1025.2.1.2.1.1.length = 30 from rfl]
    show 0 ≤ (g0 2) (((1 * r 0 + 0) + 0)).toNat ∧ 0 ≤ (g0 2) (((1 * r 2 + 0) + 0)).toNat ∧ 0 ≤ ((1 * r 1 + 0) + 0) ∧ ((1 * r 1 + 0) + 0) + ((1 * r 4 + 0) + 0) ≤ (g0 3) (((1 * r 0 + 0) + 0)).toNat ∧ 0 ≤ ((1 * r 3 + 0) + 0) ∧ ((1 * r 3 + 0) + 0) + ((1 * r 4 + 0) + 0) ≤ (g0 3) (((1 * r 2 + 0) + 0)).toNat ∧ 0 ≤ ((1 * r 4 + 0) + 0) ∧ (∀ j : Nat, (j : Int) < ((1 * r 4 + 0) + 0) → (g 4) j = (g0 1) (100 * ((1 * r 0 + 0) + 0) + ((1 * r 1 + 0) + 0) + (j : Int)).toNat) ∧ (g 1) = yq_pa (100 * ((1 * r 2 + 0) + 0) + ((1 * r 3 + 0) + 0)) (100 * ((1 * r 0 + 0) + 0) + ((1 * r 1 + 0) + 0)) ((1 * ((1 * r 30 + 0) + 1) + 0) + 0) ((g0 2) (((1 * r 2 + 0) + 0)).toNat) (g0 1) (g0 1) ∧ ((1 * ((1 * r 30 + 0) + 1) + 0) + 0) ≤ ((1 * r 4 + 0) + 0)
    try simp only [Int.one_mul, Int.zero_add, Int.add_zero]
    try simp only [Int.one_mul, Int.zero_add, Int.add_zero] at e0
    try simp only [Int.one_mul, Int.zero_add, Int.add_zero] at e1 hG
    obtain ⟨a1, a2, a3, a4, a5, a6, a7, a8, a9, a10⟩ := hG
    have u1 := a8 (r 30).toNat (by omega)
    rw [← e2] at u1
    refine ⟨a1, a2, a3, a4, a5, a6, a7, ?_, ?_, by omega⟩
    · intro j hj
      rw [e0, yq_gup_ne (by decide), k1 4 (by decide)]
      exact a8 j hj
    · rw [hfr 2 (by decide)] at e3
      rw [e0, yq_gup_self, k1 1 (by decide), e1, a9, ← e3, u1]
      exact yq_pa_s (by omega) (by omega) (by omega) (by omega) (by omega)
theorem xn_1025 : ∀ (j : Nat) (q : Nat × yt_T), xq_1025.2.2.1[j]? = some q → q.2.2.2 = false → ∀ g0 r g, xG_1025 j g0 r g
  | 0, q, hq, hf => by cases hq; cases hf
  | 1, q, hq, hf => by cases hq; cases hf
  | n + 2, q, hq, _ => by cases hq
theorem xs_1025 : ∀ j, xq_1025.2.2.2.getD j false = false → ∀ r g g', xP_1025 j r g g'
  | 0, hf => by cases hf
  | n + 1, _ => fun _ _ _ => trivial
theorem xc_1025 {l : Launch} {D : va_G} {cT : Nat → ClassId} {tys : List (ClassId × FieldType)} (hty : yx_Ty tys cT) : yt_Con l D vwCl cT tys yG yw_s512 xk_1025 xR_1025 xP_1025 := yx_sem (calls := xa_1025) (Z := xq_1025) (tb := xT_1025) (pt := xU_1025) (Ga := xG_1025) (vs := xv_1025) (fun _ _ _ _ => trivial) 300 (by decide +kernel) yz_X12_copy_ok hty (yl_lkX12 _) (yl_cqkX12 _) (List.forall_mem_cons.mpr ⟨⟨xc_1023 hty, yg_CLs yl_wX12_157 yd_yX12_isSheet, fun _ _ _ => trivial⟩, List.forall_mem_cons.mpr ⟨⟨xc_1002 hty, yg_CLv rfl rfl rfl yl_wX12_141 yd_yX12_told, fun _ _ _ => trivial⟩, List.forall_mem_cons.mpr ⟨⟨xc_1001 hty, yg_CLs yl_wX12_133 yd_yX12_in, fun _ _ _ => trivial⟩, List.forall_mem_cons.mpr ⟨⟨xc_1024 hty, yg_CLs yl_wX12_160 yd_yX12_cut, fun _ _ _ => trivial⟩, fun _ h => absurd h List.not_mem_nil⟩⟩⟩⟩) (xn_1025) (xs_1025) (by decide +kernel) (List.forall_mem_cons.mpr ⟨xw_1025_0_0, List.forall_mem_cons.mpr ⟨xw_1025_0_1, List.forall_mem_cons.mpr ⟨xw_1025_0_2, List.forall_mem_cons.mpr ⟨xw_1025_0_3, List.forall_mem_cons.mpr ⟨xw_1025_0_4, List.forall_mem_cons.mpr ⟨xw_1025_0_5, List.forall_mem_cons.mpr ⟨xw_1025_0_6, List.forall_mem_cons.mpr ⟨xw_1025_0_7, List.forall_mem_cons.mpr ⟨xw_1025_0_8, List.forall_mem_cons.mpr ⟨xw_1025_0_9, List.forall_mem_cons.mpr ⟨xw_1025_0_10, List.forall_mem_cons.mpr ⟨xw_1025_0_11, fun _ h => absurd h List.not_mem_nil⟩⟩⟩⟩⟩⟩⟩⟩⟩⟩⟩⟩) (⟨List.forall_mem_cons.mpr ⟨xw_1025_1_0, List.forall_mem_cons.mpr ⟨xw_1025_1_1, fun _ h => absurd h List.not_mem_nil⟩⟩, ⟨List.forall_mem_cons.mpr ⟨xw_1025_2_0, List.forall_mem_cons.mpr ⟨xw_1025_2_1, fun _ h => absurd h List.not_mem_nil⟩⟩, trivial⟩⟩)
noncomputable def yw_s513 : List ys_C := [.inl 12, .inr (0, 40, []), .inr (0, 40, []), .inr (0, 4, [])]
noncomputable def yw_f513 (n : Nat) : List (List ys_V) := [[.inl (.inl ([(n + 0, 1)], 0)), .inl (.inl ([(n + 1, 1)], 0)), .inr (some 4), .inr (some 5), .inr (some 1), .inr (some 2), .inl (.inl ([(n + 2, 1)], 0)), .inr (some 6), .inr (some 3), .inr (some 7), .inr (some 8), .inl (.inl ([(n + 3, 1)], 0)), .inl (.inl ([(n + 4, 1)], 0)), .inr (some 9), .inr (some 10), .inr (some 11), .inl (.inr ([(n + 5, 1)], 0)), .inl (.inr ([(n + 6, 1)], 0)), .inl (.inr ([(n + 7, 1)], 0)), .inl (.inl ([(n + 8, 1)], 0)), .inl (.inr ([(n + 9, 1)], 0)), .inl (.inr ([(n + 10, 1)], 0)), .inl (.inr ([(n + 11, 1)], 0)), .inl (.inr ([(n + 12, 1)], 0)), .inr (some 12), .inr (some 13), .inl (.inl ([(n + 13, 1)], 0)), .inr (some 14), .inl (.inr ([(n + 14, 1)], 0)), .inl (.inr ([(n + 15, 1)], 0)), .inl (.inr ([(n + 16, 1)], 0)), .inl (.inr ([(n + 17, 1)], 0)), .inl (.inr ([(n + 18, 1)], 0)), .inr (some 15), .inr (some 16), .inr (some 17), .inl (.inl ([(n + 19, 1)], 0)), .inl (.inl ([(n + 20, 1)], 0)), .inr (some 18), .inr (some 19), .inr (some 20), .inr (some 21), .inr (some 22), .inl (.inl ([(n + 21, 1)], 0)), .inl (.inl ([(n + 22, 1)], 0)), .inr (some 23), .inl (.inl ([(n + 23, 1)], 0)), .inr (some 24), .inr (some 25), .inr (some 26), .inr (some 27), .inl (.inl ([(n + 24, 1)], 0)), .inr (some 28), .inr (some 29), .inr (some 30), .inr (some 31), .inr (some 32), .inr (some 33), .inr (some 34), .inr (some 35), .inr (some 36)], [], [], []]
noncomputable def yw_e513 : ys_E := [((-2147483648), 2147483647), ((-2147483648), 2147483647), (0, 40), ((-2147483648), 2147483647), (0, 4), ((-9223372036854775808), 9223372036854775807), ((-9223372036854775808), 9223372036854775807), ((-9223372036854775808), 9223372036854775807), (0, 1), ((-4000), 4000), ((-4000), 4000), ((-9223372036854775808), 9223372036854775807), ((-9223372036854775808), 9223372036854775807), (0, 12), ((-9223372036854775808), 9223372036854775807), ((-9223372036854775808), 9223372036854775807), ((-9223372036854775808), 9223372036854775807), ((-9223372036854775808), 9223372036854775807), ((-9223372036854775808), 9223372036854775807), (0, 12), ((-2147483648), 2147483647), (0, 12), ((-2147483648), 2147483647), (0, 40), (0, 40)]
noncomputable def yw_r513 : List ys_R := [((0, 0), []), (((-300), 1000), []), ((0, 1000), []), (((-2147483648), 2147483647), [])]
noncomputable def xf_1026 : ys_F := (yw_f513 1, yw_r513)
noncomputable def xk_1026 : ys_K := (((yX12_count, cX12_count, 4, (some .int)), (1, 23)), ([.inr (some 0), .inl (.inl ([(0, 1)], 0))], ([((-2147483648), 2147483647)] ++ yw_e513, []), xf_1026), ([([((-1), 40000)], [], ((ys_fs xf_1026.1 [(0, 0, .inl (.inl ([], 0)))]), xf_1026.2), some (.inl (.inl ([(26, 1)], 0))))], []))
noncomputable def xq_1026 : yt_Q := (yz_X12_count, (yl_flX12, yl_ciX12, yl_cjX12, yl_cpX12, yl_cqX12), [(70, ([(0, 2147483647), (0, 40)], [([(0, 1)], (-4)), ([(0, (-1))], 4)], ((ys_fs xf_1026.1 [(0, 0, .inl (.inl ([], 0)))]), xf_1026.2), [(0, .inr (some 0)), (2, .inl (.inl ([(26, 1)], 0))), (3, .inl (.inl ([(27, 1)], 0)))], [], ([(27, (-1))], 46)), [([(26, 1)], 0), ([(26, (-1)), (27, 1000)], 0)], true), (99, ([(0, 4), (0, 4)], [([(0, 1)], (-5)), ([(0, (-1))], 5)], ((ys_fs xf_1026.1 [(0, 0, .inl (.inl ([], 0)))]), xf_1026.2), [(0, .inr (some 0)), (2, .inl (.inl ([(26, 1)], 0))), (3, .inl (.inl ([(27, 1)], 0)))], [], ([(27, (-1))], 4)), [([(26, 1)], 0), ([(26, (-1)), (27, 1)], 0)], true)], [true])
noncomputable def xa_1026 : List yt_CE := [(((298, false), (1, false, [0, 1, 4, 5, 2, 6, 3, 7, 8, 9, 10, 11, 12, 13, 14, 15, 16, 17, 18, 19, 20, 21, 22, 23, 24, 25, 26, 27, 28, 29, 30, 31, 32, 33, 34, 35, 36])), (yw_s506, xk_1014))]
noncomputable def xv_1026 : List (List yt_VC) := [[(1000, ([((-2147483648), (-1)), ((-2147483648), 2147483647), ((-2147483648), 2147483647), (0, 40), ((-2147483648), 2147483647), (0, 4), ((-9223372036854775808), 9223372036854775807), ((-9223372036854775808), 9223372036854775807), ((-9223372036854775808), 9223372036854775807), (0, 1), ((-4000), 4000), ((-4000), 4000), ((-9223372036854775808), 9223372036854775807), ((-9223372036854775808), 9223372036854775807), (0, 12), ((-9223372036854775808), 9223372036854775807), ((-9223372036854775808), 9223372036854775807), ((-9223372036854775808), 9223372036854775807), ((-9223372036854775808), 9223372036854775807), ((-9223372036854775808), 9223372036854775807), (0, 12), ((-2147483648), 2147483647), (0, 12), ((-2147483648), 2147483647), (0, 40), (0, 40)], []), [([], (-1))], [], []),
   (1000, ([(6, 2147483647), ((-2147483648), 2147483647), ((-2147483648), 2147483647), (0, 40), ((-2147483648), 2147483647), (0, 4), ((-9223372036854775808), 9223372036854775807), ((-9223372036854775808), 9223372036854775807), ((-9223372036854775808), 9223372036854775807), (0, 1), ((-4000), 4000), ((-4000), 4000), ((-9223372036854775808), 9223372036854775807), ((-9223372036854775808), 9223372036854775807), (0, 12), ((-9223372036854775808), 9223372036854775807), ((-9223372036854775808), 9223372036854775807), ((-9223372036854775808), 9223372036854775807), ((-9223372036854775808), 9223372036854775807), ((-9223372036854775808), 9223372036854775807), (0, 12), ((-2147483648), 2147483647), (0, 12), ((-2147483648), 2147483647), (0, 40), (0, 40)], []), [([], (-1))], [], []),
   (1000, ([(0, 0), ((-2147483648), 2147483647), ((-2147483648), 2147483647), (0, 40), ((-2147483648), 2147483647), (0, 4), ((-9223372036854775808), 9223372036854775807), ((-9223372036854775808), 9223372036854775807), ((-9223372036854775808), 9223372036854775807), (0, 1), ((-4000), 4000), ((-4000), 4000), ((-9223372036854775808), 9223372036854775807), ((-9223372036854775808), 9223372036854775807), (0, 12), ((-9223372036854775808), 9223372036854775807), ((-9223372036854775808), 9223372036854775807), ((-9223372036854775808), 9223372036854775807), ((-9223372036854775808), 9223372036854775807), ((-9223372036854775808), 9223372036854775807), (0, 12), ((-2147483648), 2147483647), (0, 12), ((-2147483648), 2147483647), (0, 40), (0, 40)], []), [([(3, 1)], 0)], [], []),
   (1000, ([(1, 1), ((-2147483648), 2147483647), ((-2147483648), 2147483647), (0, 40), ((-2147483648), 2147483647), (0, 4), ((-9223372036854775808), 9223372036854775807), ((-9223372036854775808), 9223372036854775807), ((-9223372036854775808), 9223372036854775807), (0, 1), ((-4000), 4000), ((-4000), 4000), ((-9223372036854775808), 9223372036854775807), ((-9223372036854775808), 9223372036854775807), (0, 12), ((-9223372036854775808), 9223372036854775807), ((-9223372036854775808), 9223372036854775807), ((-9223372036854775808), 9223372036854775807), ((-9223372036854775808), 9223372036854775807), ((-9223372036854775808), 9223372036854775807), (0, 12), ((-2147483648), 2147483647), (0, 12), ((-2147483648), 2147483647), (0, 40), (0, 40), (0, 40)], []), [([(26, 1)], 0)], [], [.inr (.inr (.inl (1, 0, [([], 1), ([], 0), ([(2, 1)], 0), ([(3, 1)], 0), ([(4, 1)], 0), ([(5, 1)], 0), ([(6, 1)], 0), ([(7, 1)], 0), ([(8, 1)], 0), ([(9, 1)], 0), ([(10, 1)], 0), ([(11, 1)], 0), ([(12, 1)], 0), ([(13, 1)], 0), ([(14, 1)], 0), ([(15, 1)], 0), ([(16, 1)], 0), ([(17, 1)], 0), ([(18, 1)], 0), ([(19, 1)], 0), ([(20, 1)], 0), ([(21, 1)], 0), ([(22, 1)], 0), ([(23, 1)], 0), ([(24, 1)], 0), ([(25, 1)], 0), ([(26, 1)], 0)], [0, 1, 4, 5, 2, 6, 3, 7, 8, 9, 10, 11, 12, 13, 14, 15, 16, 17, 18, 19, 20, 21, 22, 23, 24, 25, 26, 27, 28, 29, 30, 31, 32, 33, 34, 35, 36], [])))]),
   (1000, ([(2, 2), ((-2147483648), 2147483647), ((-2147483648), 2147483647), (0, 40), ((-2147483648), 2147483647), (0, 4), ((-9223372036854775808), 9223372036854775807), ((-9223372036854775808), 9223372036854775807), ((-9223372036854775808), 9223372036854775807), (0, 1), ((-4000), 4000), ((-4000), 4000), ((-9223372036854775808), 9223372036854775807), ((-9223372036854775808), 9223372036854775807), (0, 12), ((-9223372036854775808), 9223372036854775807), ((-9223372036854775808), 9223372036854775807), ((-9223372036854775808), 9223372036854775807), ((-9223372036854775808), 9223372036854775807), ((-9223372036854775808), 9223372036854775807), (0, 12), ((-2147483648), 2147483647), (0, 12), ((-2147483648), 2147483647), (0, 40), (0, 40), (0, 40)], []), [([(26, 1)], 0)], [], [.inr (.inr (.inl (1, 0, [([], 0), ([], 0), ([(2, 1)], 0), ([(3, 1)], 0), ([(4, 1)], 0), ([(5, 1)], 0), ([(6, 1)], 0), ([(7, 1)], 0), ([(8, 1)], 0), ([(9, 1)], 0), ([(10, 1)], 0), ([(11, 1)], 0), ([(12, 1)], 0), ([(13, 1)], 0), ([(14, 1)], 0), ([(15, 1)], 0), ([(16, 1)], 0), ([(17, 1)], 0), ([(18, 1)], 0), ([(19, 1)], 0), ([(20, 1)], 0), ([(21, 1)], 0), ([(22, 1)], 0), ([(23, 1)], 0), ([(24, 1)], 0), ([(25, 1)], 0), ([(26, 1)], 0)], [0, 1, 4, 5, 2, 6, 3, 7, 8, 9, 10, 11, 12, 13, 14, 15, 16, 17, 18, 19, 20, 21, 22, 23, 24, 25, 26, 27, 28, 29, 30, 31, 32, 33, 34, 35, 36], [])))]),
   (1000, ([(3, 3), ((-2147483648), 2147483647), ((-2147483648), 2147483647), (0, 40), ((-2147483648), 2147483647), (0, 4), ((-9223372036854775808), 9223372036854775807), ((-9223372036854775808), 9223372036854775807), ((-9223372036854775808), 9223372036854775807), (0, 1), ((-4000), 4000), ((-4000), 4000), ((-9223372036854775808), 9223372036854775807), ((-9223372036854775808), 9223372036854775807), (0, 12), ((-9223372036854775808), 9223372036854775807), ((-9223372036854775808), 9223372036854775807), ((-9223372036854775808), 9223372036854775807), ((-9223372036854775808), 9223372036854775807), ((-9223372036854775808), 9223372036854775807), (0, 12), ((-2147483648), 2147483647), (0, 12), ((-2147483648), 2147483647), (0, 40), (0, 40)], []), [([(20, 1)], 0)], [], []),
   (0, ([(4, 4), ((-2147483648), 2147483647), ((-2147483648), 2147483647), (0, 40), ((-2147483648), 2147483647), (0, 4), ((-9223372036854775808), 9223372036854775807), ((-9223372036854775808), 9223372036854775807), ((-9223372036854775808), 9223372036854775807), (0, 1), ((-4000), 4000), ((-4000), 4000), ((-9223372036854775808), 9223372036854775807), ((-9223372036854775808), 9223372036854775807), (0, 12), ((-9223372036854775808), 9223372036854775807), ((-9223372036854775808), 9223372036854775807), ((-9223372036854775808), 9223372036854775807), ((-9223372036854775808), 9223372036854775807), ((-9223372036854775808), 9223372036854775807), (0, 12), ((-2147483648), 2147483647), (0, 12), ((-2147483648), 2147483647), (0, 40), (0, 40)], []), [([], 0), ([], 0)], [], []),
   (1, ([(5, 5), ((-2147483648), 2147483647), ((-2147483648), 2147483647), (0, 40), ((-2147483648), 2147483647), (0, 4), ((-9223372036854775808), 9223372036854775807), ((-9223372036854775808), 9223372036854775807), ((-9223372036854775808), 9223372036854775807), (0, 1), ((-4000), 4000), ((-4000), 4000), ((-9223372036854775808), 9223372036854775807), ((-9223372036854775808), 9223372036854775807), (0, 12), ((-9223372036854775808), 9223372036854775807), ((-9223372036854775808), 9223372036854775807), ((-9223372036854775808), 9223372036854775807), ((-9223372036854775808), 9223372036854775807), ((-9223372036854775808), 9223372036854775807), (0, 12), ((-2147483648), 2147483647), (0, 12), ((-2147483648), 2147483647), (0, 40), (0, 40)], []), [([], 0), ([], 0)], [], [])],
  [(1000, ([(4, 4), ((-2147483648), 2147483647), ((-2147483648), 2147483647), (0, 40), ((-2147483648), 2147483647), (0, 4), ((-9223372036854775808), 9223372036854775807), ((-9223372036854775808), 9223372036854775807), ((-9223372036854775808), 9223372036854775807), (0, 1), ((-4000), 4000), ((-4000), 4000), ((-9223372036854775808), 9223372036854775807), ((-9223372036854775808), 9223372036854775807), (0, 12), ((-9223372036854775808), 9223372036854775807), ((-9223372036854775808), 9223372036854775807), ((-9223372036854775808), 9223372036854775807), ((-9223372036854775808), 9223372036854775807), ((-9223372036854775808), 9223372036854775807), (0, 12), ((-2147483648), 2147483647), (0, 12), ((-2147483648), 2147483647), (0, 40), (0, 40), (0, 40000), (0, 40)], [([(3, (-1)), (27, 1)], 0), ([(26, (-1)), (27, 1000)], 0), ([(0, 1)], (-4)), ([(0, (-1))], 4)]), [([(26, 1)], 0)], [], []),
   (0, ([(4, 4), ((-2147483648), 2147483647), ((-2147483648), 2147483647), (1, 40), ((-2147483648), 2147483647), (0, 4), ((-9223372036854775808), 9223372036854775807), ((-9223372036854775808), 9223372036854775807), ((-9223372036854775808), 9223372036854775807), (0, 1), ((-4000), 4000), ((-4000), 4000), ((-9223372036854775808), 9223372036854775807), ((-9223372036854775808), 9223372036854775807), (0, 12), ((-9223372036854775808), 9223372036854775807), ((-9223372036854775808), 9223372036854775807), ((-9223372036854775808), 9223372036854775807), ((-9223372036854775808), 9223372036854775807), ((-9223372036854775808), 9223372036854775807), (0, 12), ((-2147483648), 2147483647), (0, 12), ((-2147483648), 2147483647), (0, 40), (0, 40), (0, 40000), (0, 39), (0, 1000)], [([(3, 1), (27, (-1))], (-1)), ([(26, (-1)), (27, 1000)], 0), ([(0, 1)], (-4)), ([(0, (-1))], 4)]), [([(28, 1), (26, 1)], 0), ([(27, 1)], 1)], [], [.inl (.inl (2, ([(27, 1)], 0), 28))])],
  [(1000, ([(5, 5), ((-2147483648), 2147483647), ((-2147483648), 2147483647), (0, 40), ((-2147483648), 2147483647), (0, 4), ((-9223372036854775808), 9223372036854775807), ((-9223372036854775808), 9223372036854775807), ((-9223372036854775808), 9223372036854775807), (0, 1), ((-4000), 4000), ((-4000), 4000), ((-9223372036854775808), 9223372036854775807), ((-9223372036854775808), 9223372036854775807), (0, 12), ((-9223372036854775808), 9223372036854775807), ((-9223372036854775808), 9223372036854775807), ((-9223372036854775808), 9223372036854775807), ((-9223372036854775808), 9223372036854775807), ((-9223372036854775808), 9223372036854775807), (0, 12), ((-2147483648), 2147483647), (0, 12), ((-2147483648), 2147483647), (0, 40), (0, 40), (0, 4), (4, 4)], [([(26, (-1)), (27, 1)], 0), ([(0, 1)], (-5)), ([(0, (-1))], 5)]), [([(26, 1)], 0)], [], []),
   (1, ([(5, 5), ((-2147483648), 2147483647), ((-2147483648), 2147483647), (0, 40), ((-2147483648), 2147483647), (0, 4), ((-9223372036854775808), 9223372036854775807), ((-9223372036854775808), 9223372036854775807), ((-9223372036854775808), 9223372036854775807), (0, 1), ((-4000), 4000), ((-4000), 4000), ((-9223372036854775808), 9223372036854775807), ((-9223372036854775808), 9223372036854775807), (0, 12), ((-9223372036854775808), 9223372036854775807), ((-9223372036854775808), 9223372036854775807), ((-9223372036854775808), 9223372036854775807), ((-9223372036854775808), 9223372036854775807), ((-9223372036854775808), 9223372036854775807), (0, 12), ((-2147483648), 2147483647), (0, 12), ((-2147483648), 2147483647), (0, 40), (0, 40), (0, 4), (0, 3), ((-2147483648), (-1))], [([(26, (-1)), (27, 1)], 0), ([(0, 1)], (-5)), ([(0, (-1))], 5)]), [([(26, 1)], 0), ([(27, 1)], 1)], [], [.inl (.inl (3, ([(27, 1)], 0), 28))]),
   (1, ([(5, 5), ((-2147483648), 2147483647), ((-2147483648), 2147483647), (0, 40), ((-2147483648), 2147483647), (0, 4), ((-9223372036854775808), 9223372036854775807), ((-9223372036854775808), 9223372036854775807), ((-9223372036854775808), 9223372036854775807), (0, 1), ((-4000), 4000), ((-4000), 4000), ((-9223372036854775808), 9223372036854775807), ((-9223372036854775808), 9223372036854775807), (0, 12), ((-9223372036854775808), 9223372036854775807), ((-9223372036854775808), 9223372036854775807), ((-9223372036854775808), 9223372036854775807), ((-9223372036854775808), 9223372036854775807), ((-9223372036854775808), 9223372036854775807), (0, 12), ((-2147483648), 2147483647), (0, 12), ((-2147483648), 2147483647), (0, 40), (0, 40), (0, 4), (0, 3), (0, 2147483647)], [([(26, (-1)), (27, 1)], 0), ([(0, 1)], (-5)), ([(0, (-1))], 5)]), [([(26, 1)], 1), ([(27, 1)], 1)], [], [.inl (.inl (3, ([(27, 1)], 0), 28))])]]
noncomputable def xG_1026 : Nat → yt_G → (Nat → Int) → yt_G → Prop
  | 0, g0, r, g => ((1 * (r 26) + 0) + 0) = yq_su (g0 2) (((1 * (r 27) + 0) + 0)).toNat ∧ ((1 * (r 27) + 0) + 0) ≤ ((1 * (r 3) + 0) + 0)
  | 1, g0, r, g => ((1 * (r 26) + 0) + 0) = yq_sc (g0 3) (((1 * (r 27) + 0) + 0)).toNat
  | _, _, _, _ => True
noncomputable def xP_1026 : yt_Ph
  | 0, r, g0, g => (r 26) = yq_co (r 0) ((1 * (r 3) + 0) + 0) (yq_cnt (g0 1) 1 (((1 * (r 3) + 0) + 0)).toNat) (yq_cnt (g0 1) 0 (((1 * (r 3) + 0) + 0)).toNat) ((1 * (r 20) + 0) + 0) (yq_su (g0 2) (((1 * (r 3) + 0) + 0)).toNat) (yq_sc (g0 3) 4)
  | _, _, _, _ => True
noncomputable def xR_1026 : yt_Ps := fun r g0 => True
noncomputable def xT_1026 : yt_Tb := fun d => match d with
  | 1 => xP_1014
  | _ => fun _ _ _ _ => True
noncomputable def xU_1026 : Nat → yt_Ps := fun d => match d with
  | 1 => xR_1014
  | _ => fun _ _ => True
theorem xw_1026_0_0 : yt_hold xT_1026 xk_1026 xq_1026.2.2.1 xG_1026 xP_1026 xU_1026 26 xk_1026.2.1.2.2.2 (fun g0 r g => xR_1026 r g0 ∧ g = g0) (1000, ([((-2147483648), (-1)), ((-2147483648), 2147483647), ((-2147483648), 2147483647), (0, 40), ((-2147483648), 2147483647), (0, 4), ((-9223372036854775808), 9223372036854775807), ((-9223372036854775808), 9223372036854775807), ((-9223372036854775808), 9223372036854775807), (0, 1), ((-4000), 4000), ((-4000), 4000), ((-9223372036854775808), 9223372036854775807), ((-9223372036854775808), 9223372036854775807), (0, 12), ((-9223372036854775808), 9223372036854775807), ((-9223372036854775808), 9223372036854775807), ((-9223372036854775808), 9223372036854775807), ((-9223372036854775808), 9223372036854775807), ((-9223372036854775808), 9223372036854775807), (0, 12), ((-2147483648), 2147483647), (0, 12), ((-2147483648), 2147483647), (0, 40), (0, 40)], []), [([], (-1))], [], []) := by
  intro g0 r gi g hok hh hars hfr hG
  have b0 : (-2147483648) ≤ r 0 ∧ r 0 ≤ (-1) := hok.1 0 ((-2147483648), (-1)) rfl
  have b3 : 0 ≤ r 3 ∧ r 3 ≤ 40 := hok.1 3 (0, 40) rfl
  obtain ⟨hG, hgi⟩ := hG
  have hG : True := hG
  have hh : g = gi := hh
  subst hh
  refine yt_dalt (by decide) (by decide) ?_
  rw [show xk_1026.2.1.2.1.1.length = 26 from rfl]
  show ((0 : Int) + (-1)) = yq_co ((1 * r 0 + 0) + 0) ((1 * ((1 * r 3 + 0) + 0) + 0) + 0) (yq_cnt (g0 1) 1 (((1 * ((1 * r 3 + 0) + 0) + 0) + 0)).toNat) (yq_cnt (g0 1) 0 (((1 * ((1 * r 3 + 0) + 0) + 0) + 0)).toNat) ((1 * ((1 * r 20 + 0) + 0) + 0) + 0) (yq_su (g0 2) (((1 * ((1 * r 3 + 0) + 0) + 0) + 0)).toNat) (yq_sc (g0 3) 4)
  try simp only [Int.one_mul, Int.zero_add, Int.add_zero]
  unfold yq_co
  repeat' split
  all_goals omega
theorem xw_1026_0_1 : yt_hold xT_1026 xk_1026 xq_1026.2.2.1 xG_1026 xP_1026 xU_1026 26 xk_1026.2.1.2.2.2 (fun g0 r g => xR_1026 r g0 ∧ g = g0) (1000, ([(6, 2147483647), ((-2147483648), 2147483647), ((-2147483648), 2147483647), (0, 40), ((-2147483648), 2147483647), (0, 4), ((-9223372036854775808), 9223372036854775807), ((-9223372036854775808), 9223372036854775807), ((-9223372036854775808), 9223372036854775807), (0, 1), ((-4000), 4000), ((-4000), 4000), ((-9223372036854775808), 9223372036854775807), ((-9223372036854775808), 9223372036854775807), (0, 12), ((-9223372036854775808), 9223372036854775807), ((-9223372036854775808), 9223372036854775807), ((-9223372036854775808), 9223372036854775807), ((-9223372036854775808), 9223372036854775807), ((-9223372036854775808), 9223372036854775807), (0, 12), ((-2147483648), 2147483647), (0, 12), ((-2147483648), 2147483647), (0, 40), (0, 40)], []), [([], (-1))], [], []) := by
  intro g0 r gi g hok hh hars hfr hG
  have b0 : 6 ≤ r 0 ∧ r 0 ≤ 2147483647 := hok.1 0 (6, 2147483647) rfl
  have b3 : 0 ≤ r 3 ∧ r 3 ≤ 40 := hok.1 3 (0, 40) rfl
  obtain ⟨hG, hgi⟩ := hG
  have hG : True := hG
  have hh : g = gi := hh
  subst hh
  refine yt_dalt (by decide) (by decide) ?_
  rw [show xk_1026.2.1.2.1.1.length = 26 from rfl]
  show ((0 : Int) + (-1)) = yq_co ((1 * r 0 + 0) + 0) ((1 * ((1 * r 3 + 0) + 0) + 0) + 0) (yq_cnt (g0 1) 1 (((1 * ((1 * r 3 + 0) + 0) + 0) + 0)).toNat) (yq_cnt (g0 1) 0 (((1 * ((1 * r 3 + 0) + 0) + 0) + 0)).toNat) ((1 * ((1 * r 20 + 0) + 0) + 0) + 0) (yq_su (g0 2) (((1 * ((1 * r 3 + 0) + 0) + 0) + 0)).toNat) (yq_sc (g0 3) 4)
  try simp only [Int.one_mul, Int.zero_add, Int.add_zero]
  unfold yq_co
  repeat' split
  all_goals omega
theorem xw_1026_0_2 : yt_hold xT_1026 xk_1026 xq_1026.2.2.1 xG_1026 xP_1026 xU_1026 26 xk_1026.2.1.2.2.2 (fun g0 r g => xR_1026 r g0 ∧ g = g0) (1000, ([(0, 0), ((-2147483648), 2147483647), ((-2147483648), 2147483647), (0, 40), ((-2147483648), 2147483647), (0, 4), ((-9223372036854775808), 9223372036854775807), ((-9223372036854775808), 9223372036854775807), ((-9223372036854775808), 9223372036854775807), (0, 1), ((-4000), 4000), ((-4000), 4000), ((-9223372036854775808), 9223372036854775807), ((-9223372036854775808), 9223372036854775807), (0, 12), ((-9223372036854775808), 9223372036854775807), ((-9223372036854775808), 9223372036854775807), ((-9223372036854775808), 9223372036854775807), ((-9223372036854775808), 9223372036854775807), ((-9223372036854775808), 9223372036854775807), (0, 12), ((-2147483648), 2147483647), (0, 12), ((-2147483648), 2147483647), (0, 40), (0, 40)], []), [([(3, 1)], 0)], [], []) := by
  intro g0 r gi g hok hh hars hfr hG
  have b0 : 0 ≤ r 0 ∧ r 0 ≤ 0 := hok.1 0 (0, 0) rfl
  have b3 : 0 ≤ r 3 ∧ r 3 ≤ 40 := hok.1 3 (0, 40) rfl
  obtain ⟨hG, hgi⟩ := hG
  have hG : True := hG
  have hh : g = gi := hh
  subst hh
  refine yt_dalt (by decide) (by decide) ?_
  rw [show xk_1026.2.1.2.1.1.length = 26 from rfl]
  show ((1 * r 3 + 0) + 0) = yq_co ((1 * r 0 + 0) + 0) ((1 * ((1 * r 3 + 0) + 0) + 0) + 0) (yq_cnt (g0 1) 1 (((1 * ((1 * r 3 + 0) + 0) + 0) + 0)).toNat) (yq_cnt (g0 1) 0 (((1 * ((1 * r 3 + 0) + 0) + 0) + 0)).toNat) ((1 * ((1 * r 20 + 0) + 0) + 0) + 0) (yq_su (g0 2) (((1 * ((1 * r 3 + 0) + 0) + 0) + 0)).toNat) (yq_sc (g0 3) 4)
  try simp only [Int.one_mul, Int.zero_add, Int.add_zero]
  unfold yq_co
  repeat' split
  all_goals omega
theorem xw_1026_0_3 : yt_hold xT_1026 xk_1026 xq_1026.2.2.1 xG_1026 xP_1026 xU_1026 26 xk_1026.2.1.2.2.2 (fun g0 r g => xR_1026 r g0 ∧ g = g0) (1000, ([(1, 1), ((-2147483648), 2147483647), ((-2147483648), 2147483647), (0, 40), ((-2147483648), 2147483647), (0, 4), ((-9223372036854775808), 9223372036854775807), ((-9223372036854775808), 9223372036854775807), ((-9223372036854775808), 9223372036854775807), (0, 1), ((-4000), 4000), ((-4000), 4000), ((-9223372036854775808), 9223372036854775807), ((-9223372036854775808), 9223372036854775807), (0, 12), ((-9223372036854775808), 9223372036854775807), ((-9223372036854775808), 9223372036854775807), ((-9223372036854775808), 9223372036854775807), ((-9223372036854775808), 9223372036854775807), ((-9223372036854775808), 9223372036854775807), (0, 12), ((-2147483648), 2147483647), (0, 12), ((-2147483648), 2147483647), (0, 40), (0, 40), (0, 40)], []), [([(26, 1)], 0)], [], [.inr (.inr (.inl (1, 0, [([], 1), ([], 0), ([(2, 1)], 0), ([(3, 1)], 0), ([(4, 1)], 0), ([(5, 1)], 0), ([(6, 1)], 0), ([(7, 1)], 0), ([(8, 1)], 0), ([(9, 1)], 0), ([(10, 1)], 0), ([(11, 1)], 0), ([(12, 1)], 0), ([(13, 1)], 0), ([(14, 1)], 0), ([(15, 1)], 0), ([(16, 1)], 0), ([(17, 1)], 0), ([(18, 1)], 0), ([(19, 1)], 0), ([(20, 1)], 0), ([(21, 1)], 0), ([(22, 1)], 0), ([(23, 1)], 0), ([(24, 1)], 0), ([(25, 1)], 0), ([(26, 1)], 0)], [0, 1, 4, 5, 2, 6, 3, 7, 8, 9, 10, 11, 12, 13, 14, 15, 16, 17, 18, 19, 20, 21, 22, 23, 24, 25, 26, 27, 28, 29, 30, 31, 32, 33, 34, 35, 36], [])))]) := by
  intro g0 r gi g hok hh hars hfr hG
  have b0 : 1 ≤ r 0 ∧ r 0 ≤ 1 := hok.1 0 (1, 1) rfl
  have b3 : 0 ≤ r 3 ∧ r 3 ≤ 40 := hok.1 3 (0, 40) rfl
  have b26 : 0 ≤ r 26 ∧ r 26 ≤ 40 := hok.1 26 (0, 40) rfl
  obtain ⟨hG, hgi⟩ := hG
  have hG : True := hG
  obtain ⟨h0, hh, e0, k0⟩ := hh
  have k0 : ∀ j, j ∉ [] → g j = h0 j := k0
  have e0 : ((1 * r 26 + 0) + 0) = yq_cnt (h0 1) ((0 : Int) + 1) (((1 * r 3 + 0) + 0)).toNat := e0
  have hh : h0 = gi := hh
  subst hh
  refine yt_dalt (by decide) (by decide) ?_
  rw [show xk_1026.2.1.2.1.1.length = 26 from rfl]
  show ((1 * r 26 + 0) + 0) = yq_co ((1 * r 0 + 0) + 0) ((1 * ((1 * r 3 + 0) + 0) + 0) + 0) (yq_cnt (g0 1) 1 (((1 * ((1 * r 3 + 0) + 0) + 0) + 0)).toNat) (yq_cnt (g0 1) 0 (((1 * ((1 * r 3 + 0) + 0) + 0) + 0)).toNat) ((1 * ((1 * r 20 + 0) + 0) + 0) + 0) (yq_su (g0 2) (((1 * ((1 * r 3 + 0) + 0) + 0) + 0)).toNat) (yq_sc (g0 3) 4)
  try simp only [Int.one_mul, Int.zero_add, Int.add_zero]
  try simp only [Int.one_mul, Int.zero_add, Int.add_zero] at e0
  rw [hgi] at e0
  unfold yq_co
  repeat' split
  all_goals omega
theorem xw_1026_0_4 : yt_hold xT_1026 xk_1026 xq_1026.2.2.1 xG_1026 xP_1026 xU_1026 26 xk_1026.2.1.2.2.2 (fun g0 r g => xR_1026 r g0 ∧ g = g0) (1000, ([(2, 2), ((-2147483648), 2147483647), ((-2147483648), 2147483647), (0, 40), ((-2147483648), 2147483647), (0, 4), ((-9223372036854775808), 9223372036854775807), ((-9223372036854775808), 9223372036854775807), ((-9223372036854775808), 9223372036854775807), (0, 1), ((-4000), 4000), ((-4000), 4000), ((-9223372036854775808), 9223372036854775807), ((-9223372036854775808), 9223372036854775807), (0, 12), ((-9223372036854775808), 9223372036854775807), ((-9223372036854775808), 9223372036854775807), ((-9223372036854775808), 9223372036854775807), ((-9223372036854775808), 9223372036854775807), ((-9223372036854775808), 9223372036854775807), (0, 12), ((-2147483648), 2147483647), (0, 12), ((-2147483648), 2147483647), (0, 40), (0, 40), (0, 40)], []), [([(26, 1)], 0)], [], [.inr (.inr (.inl (1, 0, [([], 0), ([], 0), ([(2, 1)], 0), ([(3, 1)], 0), ([(4, 1)], 0), ([(5, 1)], 0), ([(6, 1)], 0), ([(7, 1)], 0), ([(8, 1)], 0), ([(9, 1)], 0), ([(10, 1)], 0), ([(11, 1)], 0), ([(12, 1)], 0), ([(13, 1)], 0), ([(14, 1)], 0), ([(15, 1)], 0), ([(16, 1)], 0), ([(17, 1)], 0), ([(18, 1)], 0), ([(19, 1)], 0), ([(20, 1)], 0), ([(21, 1)], 0), ([(22, 1)], 0), ([(23, 1)], 0), ([(24, 1)], 0), ([(25, 1)], 0), ([(26, 1)], 0)], [0, 1, 4, 5, 2, 6, 3, 7, 8, 9, 10, 11, 12, 13, 14, 15, 16, 17, 18, 19, 20, 21, 22, 23, 24, 25, 26, 27, 28, 29, 30, 31, 32, 33, 34, 35, 36], [])))]) := by
  intro g0 r gi g hok hh hars hfr hG
  have b0 : 2 ≤ r 0 ∧ r 0 ≤ 2 := hok.1 0 (2, 2) rfl
  have b3 : 0 ≤ r 3 ∧ r 3 ≤ 40 := hok.1 3 (0, 40) rfl
  have b26 : 0 ≤ r 26 ∧ r 26 ≤ 40 := hok.1 26 (0, 40) rfl
  obtain ⟨hG, hgi⟩ := hG
  have hG : True := hG
  obtain ⟨h0, hh, e0, k0⟩ := hh
  have k0 : ∀ j, j ∉ [] → g j = h0 j := k0
  have e0 : ((1 * r 26 + 0) + 0) = yq_cnt (h0 1) ((0 : Int) + 0) (((1 * r 3 + 0) + 0)).toNat := e0
  have hh : h0 = gi := hh
  subst hh
  refine yt_dalt (by decide) (by decide) ?_
  rw [show xk_1026.2.1.2.1.1.length = 26 from rfl]
  show ((1 * r 26 + 0) + 0) = yq_co ((1 * r 0 + 0) + 0) ((1 * ((1 * r 3 + 0) + 0) + 0) + 0) (yq_cnt (g0 1) 1 (((1 * ((1 * r 3 + 0) + 0) + 0) + 0)).toNat) (yq_cnt (g0 1) 0 (((1 * ((1 * r 3 + 0) + 0) + 0) + 0)).toNat) ((1 * ((1 * r 20 + 0) + 0) + 0) + 0) (yq_su (g0 2) (((1 * ((1 * r 3 + 0) + 0) + 0) + 0)).toNat) (yq_sc (g0 3) 4)
  try simp only [Int.one_mul, Int.zero_add, Int.add_zero]
  try simp only [Int.one_mul, Int.zero_add, Int.add_zero] at e0
  rw [hgi] at e0
  unfold yq_co
  repeat' split
  all_goals omega
theorem xw_1026_0_5 : yt_hold xT_1026 xk_1026 xq_1026.2.2.1 xG_1026 xP_1026 xU_1026 26 xk_1026.2.1.2.2.2 (fun g0 r g => xR_1026 r g0 ∧ g = g0) (1000, ([(3, 3), ((-2147483648), 2147483647), ((-2147483648), 2147483647), (0, 40), ((-2147483648), 2147483647), (0, 4), ((-9223372036854775808), 9223372036854775807), ((-9223372036854775808), 9223372036854775807), ((-9223372036854775808), 9223372036854775807), (0, 1), ((-4000), 4000), ((-4000), 4000), ((-9223372036854775808), 9223372036854775807), ((-9223372036854775808), 9223372036854775807), (0, 12), ((-9223372036854775808), 9223372036854775807), ((-9223372036854775808), 9223372036854775807), ((-9223372036854775808), 9223372036854775807), ((-9223372036854775808), 9223372036854775807), ((-9223372036854775808), 9223372036854775807), (0, 12), ((-2147483648), 2147483647), (0, 12), ((-2147483648), 2147483647), (0, 40), (0, 40)], []), [([(20, 1)], 0)], [], []) := by
  intro g0 r gi g hok hh hars hfr hG
  have b0 : 3 ≤ r 0 ∧ r 0 ≤ 3 := hok.1 0 (3, 3) rfl
  have b3 : 0 ≤ r 3 ∧ r 3 ≤ 40 := hok.1 3 (0, 40) rfl
  obtain ⟨hG, hgi⟩ := hG
  have hG : True := hG
  have hh : g = gi := hh
  subst hh
  refine yt_dalt (by decide) (by decide) ?_
  rw [show xk_1026.2.1.2.1.1.length = 26 from rfl]
  show ((1 * r 20 + 0) + 0) = yq_co ((1 * r 0 + 0) + 0) ((1 * ((1 * r 3 + 0) + 0) + 0) + 0) (yq_cnt (g0 1) 1 (((1 * ((1 * r 3 + 0) + 0) + 0) + 0)).toNat) (yq_cnt (g0 1) 0 (((1 * ((1 * r 3 + 0) + 0) + 0) + 0)).toNat) ((1 * ((1 * r 20 + 0) + 0) + 0) + 0) (yq_su (g0 2) (((1 * ((1 * r 3 + 0) + 0) + 0) + 0)).toNat) (yq_sc (g0 3) 4)
  try simp only [Int.one_mul, Int.zero_add, Int.add_zero]
  unfold yq_co
  repeat' split
  all_goals omega
theorem xw_1026_0_6 : yt_hold xT_1026 xk_1026 xq_1026.2.2.1 xG_1026 xP_1026 xU_1026 26 xk_1026.2.1.2.2.2 (fun g0 r g => xR_1026 r g0 ∧ g = g0) (0, ([(4, 4), ((-2147483648), 2147483647), ((-2147483648), 2147483647), (0, 40), ((-2147483648), 2147483647), (0, 4), ((-9223372036854775808), 9223372036854775807), ((-9223372036854775808), 9223372036854775807), ((-9223372036854775808), 9223372036854775807), (0, 1), ((-4000), 4000), ((-4000), 4000), ((-9223372036854775808), 9223372036854775807), ((-9223372036854775808), 9223372036854775807), (0, 12), ((-9223372036854775808), 9223372036854775807), ((-9223372036854775808), 9223372036854775807), ((-9223372036854775808), 9223372036854775807), ((-9223372036854775808), 9223372036854775807), ((-9223372036854775808), 9223372036854775807), (0, 12), ((-2147483648), 2147483647), (0, 12), ((-2147483648), 2147483647), (0, 40), (0, 40)], []), [([], 0), ([], 0)], [], []) := by
  intro g0 r gi g hok hh hars hfr hG
  have b0 : 4 ≤ r 0 ∧ r 0 ≤ 4 := hok.1 0 (4, 4) rfl
  have b3 : 0 ≤ r 3 ∧ r 3 ≤ 40 := hok.1 3 (0, 40) rfl
  obtain ⟨hG, hgi⟩ := hG
  have hG : True := hG
  have hh : g = gi := hh
  subst hh
  refine yt_dcut (by decide) rfl ?_ ?_
  · rw [show xk_1026.2.1.2.1.1.length = 26 from rfl]
    refine yx_fks _ _ ?_
    refine ⟨?_, ?_, trivial⟩
    · show 0 ≤ ((1 * ((0 : Int) + 0) + 0) + 0)
      omega
    · show 0 ≤ (((-1) * ((0 : Int) + 0) + (1000 * ((0 : Int) + 0) + 0)) + 0)
      omega
  · rw [show xk_1026.2.1.2.1.1.length = 26 from rfl]
    show ((1 * ((0 : Int) + 0) + 0) + 0) = yq_su (g0 2) (((1 * ((0 : Int) + 0) + 0) + 0)).toNat ∧ ((1 * ((0 : Int) + 0) + 0) + 0) ≤ ((1 * ((1 * r 3 + 0) + 0) + 0) + 0)
    try simp only [Int.one_mul, Int.zero_add, Int.add_zero]
    exact ⟨rfl, by omega⟩
theorem xw_1026_0_7 : yt_hold xT_1026 xk_1026 xq_1026.2.2.1 xG_1026 xP_1026 xU_1026 26 xk_1026.2.1.2.2.2 (fun g0 r g => xR_1026 r g0 ∧ g = g0) (1, ([(5, 5), ((-2147483648), 2147483647), ((-2147483648), 2147483647), (0, 40), ((-2147483648), 2147483647), (0, 4), ((-9223372036854775808), 9223372036854775807), ((-9223372036854775808), 9223372036854775807), ((-9223372036854775808), 9223372036854775807), (0, 1), ((-4000), 4000), ((-4000), 4000), ((-9223372036854775808), 9223372036854775807), ((-9223372036854775808), 9223372036854775807), (0, 12), ((-9223372036854775808), 9223372036854775807), ((-9223372036854775808), 9223372036854775807), ((-9223372036854775808), 9223372036854775807), ((-9223372036854775808), 9223372036854775807), ((-9223372036854775808), 9223372036854775807), (0, 12), ((-2147483648), 2147483647), (0, 12), ((-2147483648), 2147483647), (0, 40), (0, 40)], []), [([], 0), ([], 0)], [], []) := by
  intro g0 r gi g hok hh hars hfr hG
  have b0 : 5 ≤ r 0 ∧ r 0 ≤ 5 := hok.1 0 (5, 5) rfl
  have b3 : 0 ≤ r 3 ∧ r 3 ≤ 40 := hok.1 3 (0, 40) rfl
  obtain ⟨hG, hgi⟩ := hG
  have hG : True := hG
  have hh : g = gi := hh
  subst hh
  refine yt_dcut (by decide) rfl ?_ ?_
  · rw [show xk_1026.2.1.2.1.1.length = 26 from rfl]
    refine yx_fks _ _ ?_
    refine ⟨?_, ?_, trivial⟩
    · show 0 ≤ ((1 * ((0 : Int) + 0) + 0) + 0)
      omega
    · show 0 ≤ (((-1) * ((0 : Int) + 0) + (1 * ((0 : Int) + 0) + 0)) + 0)
      omega
  · rw [show xk_1026.2.1.2.1.1.length = 26 from rfl]
    show ((1 * ((0 : Int) + 0) + 0) + 0) = yq_sc (g0 3) (((1 * ((0 : Int) + 0) + 0) + 0)).toNat
    try simp only [Int.one_mul, Int.zero_add, Int.add_zero]
    rfl
theorem xw_1026_1_0 : yt_hold xT_1026 xk_1026 xq_1026.2.2.1 xG_1026 xP_1026 xU_1026 28 ((xq_1026.2.2.1.getD 0 (0, ([], [], ([], []), [], [], ([], 0)), [], false)).2.1.2.2.1.2) (xG_1026 0) (1000, ([(4, 4), ((-2147483648), 2147483647), ((-2147483648), 2147483647), (0, 40), ((-2147483648), 2147483647), (0, 4), ((-9223372036854775808), 9223372036854775807), ((-9223372036854775808), 9223372036854775807), ((-9223372036854775808), 9223372036854775807), (0, 1), ((-4000), 4000), ((-4000), 4000), ((-9223372036854775808), 9223372036854775807), ((-9223372036854775808), 9223372036854775807), (0, 12), ((-9223372036854775808), 9223372036854775807), ((-9223372036854775808), 9223372036854775807), ((-9223372036854775808), 9223372036854775807), ((-9223372036854775808), 9223372036854775807), ((-9223372036854775808), 9223372036854775807), (0, 12), ((-2147483648), 2147483647), (0, 12), ((-2147483648), 2147483647), (0, 40), (0, 40), (0, 40000), (0, 40)], [([(3, (-1)), (27, 1)], 0), ([(26, (-1)), (27, 1000)], 0), ([(0, 1)], (-4)), ([(0, (-1))], 4)]), [([(26, 1)], 0)], [], []) := by
  intro g0 r gi g hok hh hars hfr hG
  have b0 : 4 ≤ r 0 ∧ r 0 ≤ 4 := hok.1 0 (4, 4) rfl
  have b3 : 0 ≤ r 3 ∧ r 3 ≤ 40 := hok.1 3 (0, 40) rfl
  have b26 : 0 ≤ r 26 ∧ r 26 ≤ 40000 := hok.1 26 (0, 40000) rfl
  have b27 : 0 ≤ r 27 ∧ r 27 ≤ 40 := hok.1 27 (0, 40) rfl
  have f0 : 0 ≤ (((-1) * r 3 + (1 * r 27 + 0)) + 0) := hok.2 _ (List.mem_of_getElem? (i := 0) rfl)
  have f1 : 0 ≤ (((-1) * r 26 + (1000 * r 27 + 0)) + 0) := hok.2 _ (List.mem_of_getElem? (i := 1) rfl)
  have f2 : 0 ≤ ((1 * r 0 + 0) + (-4)) := hok.2 _ (List.mem_of_getElem? (i := 2) rfl)
  have f3 : 0 ≤ (((-1) * r 0 + 0) + 4) := hok.2 _ (List.mem_of_getElem? (i := 3) rfl)
  have hG : ((1 * (r 26) + 0) + 0) = yq_su (g0 2) (((1 * (r 27) + 0) + 0)).toNat ∧ ((1 * (r 27) + 0) + 0) ≤ ((1 * (r 3) + 0) + 0) := hG
  have hh : g = gi := hh
  subst hh
  have hG : ((1 * (r 26) + 0) + 0) = yq_su (g0 2) (((1 * (r 27) + 0) + 0)).toNat ∧ ((1 * (r 27) + 0) + 0) ≤ ((1 * (r 3) + 0) + 0) := hG
  refine yt_dalt (by decide) (by decide) ?_
  rw [show xk_1026.2.1.2.1.1.length = 26 from rfl]
  show ((1 * r 26 + 0) + 0) = yq_co ((1 * r 0 + 0) + 0) ((1 * ((1 * r 3 + 0) + 0) + 0) + 0) (yq_cnt (g0 1) 1 (((1 * ((1 * r 3 + 0) + 0) + 0) + 0)).toNat) (yq_cnt (g0 1) 0 (((1 * ((1 * r 3 + 0) + 0) + 0) + 0)).toNat) ((1 * ((1 * r 20 + 0) + 0) + 0) + 0) (yq_su (g0 2) (((1 * ((1 * r 3 + 0) + 0) + 0) + 0)).toNat) (yq_sc (g0 3) 4)
  try simp only [Int.one_mul, Int.zero_add, Int.add_zero]
  try simp only [Int.one_mul, Int.zero_add, Int.add_zero] at hG
  obtain ⟨h1, h2⟩ := hG
  rw [show r 27 = r 3 by omega] at h1
  unfold yq_co
  repeat' split
  all_goals omega
theorem xw_1026_1_1 : yt_hold xT_1026 xk_1026 xq_1026.2.2.1 xG_1026 xP_1026 xU_1026 28 ((xq_1026.2.2.1.getD 0 (0, ([], [], ([], []), [], [], ([], 0)), [], false)).2.1.2.2.1.2) (xG_1026 0) (0, ([(4, 4), ((-2147483648), 2147483647), ((-2147483648), 2147483647), (1, 40), ((-2147483648), 2147483647), (0, 4), ((-9223372036854775808), 9223372036854775807), ((-9223372036854775808), 9223372036854775807), ((-9223372036854775808), 9223372036854775807), (0, 1), ((-4000), 4000), ((-4000), 4000), ((-9223372036854775808), 9223372036854775807), ((-9223372036854775808), 9223372036854775807), (0, 12), ((-9223372036854775808), 9223372036854775807), ((-9223372036854775808), 9223372036854775807), ((-9223372036854775808), 9223372036854775807), ((-9223372036854775808), 9223372036854775807), ((-9223372036854775808), 9223372036854775807), (0, 12), ((-2147483648), 2147483647), (0, 12), ((-2147483648), 2147483647), (0, 40), (0, 40), (0, 40000), (0, 39), (0, 1000)], [([(3, 1), (27, (-1))], (-1)), ([(26, (-1)), (27, 1000)], 0), ([(0, 1)], (-4)), ([(0, (-1))], 4)]), [([(28, 1), (26, 1)], 0), ([(27, 1)], 1)], [], [.inl (.inl (2, ([(27, 1)], 0), 28))]) := by
  intro g0 r gi g hok hh hars hfr hG
  have b0 : 4 ≤ r 0 ∧ r 0 ≤ 4 := hok.1 0 (4, 4) rfl
  have b3 : 1 ≤ r 3 ∧ r 3 ≤ 40 := hok.1 3 (1, 40) rfl
  have b26 : 0 ≤ r 26 ∧ r 26 ≤ 40000 := hok.1 26 (0, 40000) rfl
  have b27 : 0 ≤ r 27 ∧ r 27 ≤ 39 := hok.1 27 (0, 39) rfl
  have b28 : 0 ≤ r 28 ∧ r 28 ≤ 1000 := hok.1 28 (0, 1000) rfl
  have f0 : 0 ≤ ((1 * r 3 + ((-1) * r 27 + 0)) + (-1)) := hok.2 _ (List.mem_of_getElem? (i := 0) rfl)
  have f1 : 0 ≤ (((-1) * r 26 + (1000 * r 27 + 0)) + 0) := hok.2 _ (List.mem_of_getElem? (i := 1) rfl)
  have f2 : 0 ≤ ((1 * r 0 + 0) + (-4)) := hok.2 _ (List.mem_of_getElem? (i := 2) rfl)
  have f3 : 0 ≤ (((-1) * r 0 + 0) + 4) := hok.2 _ (List.mem_of_getElem? (i := 3) rfl)
  have hG : ((1 * (r 26) + 0) + 0) = yq_su (g0 2) (((1 * (r 27) + 0) + 0)).toNat ∧ ((1 * (r 27) + 0) + 0) ≤ ((1 * (r 3) + 0) + 0) := hG
  obtain ⟨g0, hh, q0, e0⟩ := hh
  subst q0
  have e0 : r 28 = g 2 (((1 * r 27 + 0) + 0)).toNat := e0
  rw [show (((1 * r 27 + 0) + 0)).toNat = (r 27).toNat by omega] at e0
  have hh : g = gi := hh
  subst hh
  have hG : ((1 * (r 26) + 0) + 0) = yq_su (g0 2) (((1 * (r 27) + 0) + 0)).toNat ∧ ((1 * (r 27) + 0) + 0) ≤ ((1 * (r 3) + 0) + 0) := hG
  refine yt_dcut (by decide) rfl ?_ ?_
  · rw [show xk_1026.2.1.2.1.1.length = 26 from rfl]
    refine yx_fks _ _ ?_
    refine ⟨?_, ?_, trivial⟩
    · show 0 ≤ ((1 * ((1 * r 28 + (1 * r 26 + 0)) + 0) + 0) + 0)
      omega
    · show 0 ≤ (((-1) * ((1 * r 28 + (1 * r 26 + 0)) + 0) + (1000 * ((1 * r 27 + 0) + 1) + 0)) + 0)
      omega
  · rw [show xk_1026.2.1.2.1.1.length = 26 from rfl]
    show ((1 * ((1 * r 28 + (1 * r 26 + 0)) + 0) + 0) + 0) = yq_su (g0 2) (((1 * ((1 * r 27 + 0) + 1) + 0) + 0)).toNat ∧ ((1 * ((1 * r 27 + 0) + 1) + 0) + 0) ≤ ((1 * ((1 * r 3 + 0) + 0) + 0) + 0)
    try simp only [Int.one_mul, Int.zero_add, Int.add_zero]
    try simp only [Int.one_mul, Int.zero_add, Int.add_zero] at hG
    obtain ⟨h1, h2⟩ := hG
    rw [hfr 2 (by decide)] at e0
    rw [yq_su_s (k := r 27) (by omega) (by omega), ← e0, ← h1]
    exact ⟨by omega, by omega⟩
theorem xw_1026_2_0 : yt_hold xT_1026 xk_1026 xq_1026.2.2.1 xG_1026 xP_1026 xU_1026 28 ((xq_1026.2.2.1.getD 1 (0, ([], [], ([], []), [], [], ([], 0)), [], false)).2.1.2.2.1.2) (xG_1026 1) (1000, ([(5, 5), ((-2147483648), 2147483647), ((-2147483648), 2147483647), (0, 40), ((-2147483648), 2147483647), (0, 4), ((-9223372036854775808), 9223372036854775807), ((-9223372036854775808), 9223372036854775807), ((-9223372036854775808), 9223372036854775807), (0, 1), ((-4000), 4000), ((-4000), 4000), ((-9223372036854775808), 9223372036854775807), ((-9223372036854775808), 9223372036854775807), (0, 12), ((-9223372036854775808), 9223372036854775807), ((-9223372036854775808), 9223372036854775807), ((-9223372036854775808), 9223372036854775807), ((-9223372036854775808), 9223372036854775807), ((-9223372036854775808), 9223372036854775807), (0, 12), ((-2147483648), 2147483647), (0, 12), ((-2147483648), 2147483647), (0, 40), (0, 40), (0, 4), (4, 4)], [([(26, (-1)), (27, 1)], 0), ([(0, 1)], (-5)), ([(0, (-1))], 5)]), [([(26, 1)], 0)], [], []) := by
  intro g0 r gi g hok hh hars hfr hG
  have b0 : 5 ≤ r 0 ∧ r 0 ≤ 5 := hok.1 0 (5, 5) rfl
  have b3 : 0 ≤ r 3 ∧ r 3 ≤ 40 := hok.1 3 (0, 40) rfl
  have b26 : 0 ≤ r 26 ∧ r 26 ≤ 4 := hok.1 26 (0, 4) rfl
  have b27 : 4 ≤ r 27 ∧ r 27 ≤ 4 := hok.1 27 (4, 4) rfl
  have f0 : 0 ≤ (((-1) * r 26 + (1 * r 27 + 0)) + 0) := hok.2 _ (List.mem_of_getElem? (i := 0) rfl)
  have f1 : 0 ≤ ((1 * r 0 + 0) + (-5)) := hok.2 _ (List.mem_of_getElem? (i := 1) rfl)
  have f2 : 0 ≤ (((-1) * r 0 + 0) + 5) := hok.2 _ (List.mem_of_getElem? (i := 2) rfl)
  have hG : ((1 * (r 26) + 0) + 0) = yq_sc (g0 3) (((1 * (r 27) + 0) + 0)).toNat := hG
  have hh : g = gi := hh
  subst hh
  have hG : ((1 * (r 26) + 0) + 0) = yq_sc (g0 3) (((1 * (r 27) + 0) + 0)).toNat := hG
  refine yt_dalt (by decide) (by decide) ?_
  rw [show xk_1026.2.1.2.1.1.length = 26 from rfl]
  show ((1 * r 26 + 0) + 0) = yq_co ((1 * r 0 + 0) + 0) ((1 * ((1 * r 3 + 0) + 0) + 0) + 0) (yq_cnt (g0 1) 1 (((1 * ((1 * r 3 + 0) + 0) + 0) + 0)).toNat) (yq_cnt (g0 1) 0 (((1 * ((1 * r 3 + 0) + 0) + 0) + 0)).toNat) ((1 * ((1 * r 20 + 0) + 0) + 0) + 0) (yq_su (g0 2) (((1 * ((1 * r 3 + 0) + 0) + 0) + 0)).toNat) (yq_sc (g0 3) 4)
  try simp only [Int.one_mul, Int.zero_add, Int.add_zero]
  try simp only [Int.one_mul, Int.zero_add, Int.add_zero] at hG
  rw [show (r 27).toNat = 4 by omega] at hG
  unfold yq_co
  repeat' split
  all_goals omega
theorem xw_1026_2_1 : yt_hold xT_1026 xk_1026 xq_1026.2.2.1 xG_1026 xP_1026 xU_1026 28 ((xq_1026.2.2.1.getD 1 (0, ([], [], ([], []), [], [], ([], 0)), [], false)).2.1.2.2.1.2) (xG_1026 1) (1, ([(5, 5), ((-2147483648), 2147483647), ((-2147483648), 2147483647), (0, 40), ((-2147483648), 2147483647), (0, 4), ((-9223372036854775808), 9223372036854775807), ((-9223372036854775808), 9223372036854775807), ((-9223372036854775808), 9223372036854775807), (0, 1), ((-4000), 4000), ((-4000), 4000), ((-9223372036854775808), 9223372036854775807), ((-9223372036854775808), 9223372036854775807), (0, 12), ((-9223372036854775808), 9223372036854775807), ((-9223372036854775808), 9223372036854775807), ((-9223372036854775808), 9223372036854775807), ((-9223372036854775808), 9223372036854775807), ((-9223372036854775808), 9223372036854775807), (0, 12), ((-2147483648), 2147483647), (0, 12), ((-2147483648), 2147483647), (0, 40), (0, 40), (0, 4), (0, 3), ((-2147483648), (-1))], [([(26, (-1)), (27, 1)], 0), ([(0, 1)], (-5)), ([(0, (-1))], 5)]), [([(26, 1)], 0), ([(27, 1)], 1)], [], [.inl (.inl (3, ([(27, 1)], 0), 28))]) := by
  intro g0 r gi g hok hh hars hfr hG
  have b0 : 5 ≤ r 0 ∧ r 0 ≤ 5 := hok.1 0 (5, 5) rfl
  have b3 : 0 ≤ r 3 ∧ r 3 ≤ 40 := hok.1 3 (0, 40) rfl
  have b26 : 0 ≤ r 26 ∧ r 26 ≤ 4 := hok.1 26 (0, 4) rfl
  have b27 : 0 ≤ r 27 ∧ r 27 ≤ 3 := hok.1 27 (0, 3) rfl
  have b28 : (-2147483648) ≤ r 28 ∧ r 28 ≤ (-1) := hok.1 28 ((-2147483648), (-1)) rfl
  have f0 : 0 ≤ (((-1) * r 26 + (1 * r 27 + 0)) + 0) := hok.2 _ (List.mem_of_getElem? (i := 0) rfl)
  have f1 : 0 ≤ ((1 * r 0 + 0) + (-5)) := hok.2 _ (List.mem_of_getElem? (i := 1) rfl)
  have f2 : 0 ≤ (((-1) * r 0 + 0) + 5) := hok.2 _ (List.mem_of_getElem? (i := 2) rfl)
  have hG : ((1 * (r 26) + 0) + 0) = yq_sc (g0 3) (((1 * (r 27) + 0) + 0)).toNat := hG
  obtain ⟨g0, hh, q0, e0⟩ := hh
  subst q0
  have e0 : r 28 = g 3 (((1 * r 27 + 0) + 0)).toNat := e0
  rw [show (((1 * r 27 + 0) + 0)).toNat = (r 27).toNat by omega] at e0
  have hh : g = gi := hh
  subst hh
  have hG : ((1 * (r 26) + 0) + 0) = yq_sc (g0 3) (((1 * (r 27) + 0) + 0)).toNat := hG
  refine yt_dcut (by decide) rfl ?_ ?_
  · rw [show xk_1026.2.1.2.1.1.length = 26 from rfl]
    refine yx_fks _ _ ?_
    refine ⟨?_, ?_, trivial⟩
    · show 0 ≤ ((1 * ((1 * r 26 + 0) + 0) + 0) + 0)
      omega
    · show 0 ≤ (((-1) * ((1 * r 26 + 0) + 0) + (1 * ((1 * r 27 + 0) + 1) + 0)) + 0)
      omega
  · rw [show xk_1026.2.1.2.1.1.length = 26 from rfl]
    show ((1 * ((1 * r 26 + 0) + 0) + 0) + 0) = yq_sc (g0 3) (((1 * ((1 * r 27 + 0) + 1) + 0) + 0)).toNat
    try simp only [Int.one_mul, Int.zero_add, Int.add_zero]
    try simp only [Int.one_mul, Int.zero_add, Int.add_zero] at hG
    rw [hfr 3 (by decide)] at e0
    rw [yq_sc_s (k := r 27) (by omega) (by omega), ← e0, ← hG]
    split <;> omega
theorem xw_1026_2_2 : yt_hold xT_1026 xk_1026 xq_1026.2.2.1 xG_1026 xP_1026 xU_1026 28 ((xq_1026.2.2.1.getD 1 (0, ([], [], ([], []), [], [], ([], 0)), [], false)).2.1.2.2.1.2) (xG_1026 1) (1, ([(5, 5), ((-2147483648), 2147483647), ((-2147483648), 2147483647), (0, 40), ((-2147483648), 2147483647), (0, 4), ((-9223372036854775808), 9223372036854775807), ((-9223372036854775808), 9223372036854775807), ((-9223372036854775808), 9223372036854775807), (0, 1), ((-4000), 4000), ((-4000), 4000), ((-9223372036854775808), 9223372036854775807), ((-9223372036854775808), 9223372036854775807), (0, 12), ((-9223372036854775808), 9223372036854775807), ((-9223372036854775808), 9223372036854775807), ((-9223372036854775808), 9223372036854775807), ((-9223372036854775808), 9223372036854775807), ((-9223372036854775808), 9223372036854775807), (0, 12), ((-2147483648), 2147483647), (0, 12), ((-2147483648), 2147483647), (0, 40), (0, 40), (0, 4), (0, 3), (0, 2147483647)], [([(26, (-1)), (27, 1)], 0), ([(0, 1)], (-5)), ([(0, (-1))], 5)]), [([(26, 1)], 1), ([(27, 1)], 1)], [], [.inl (.inl (3, ([(27, 1)], 0), 28))]) := by
  intro g0 r gi g hok hh hars hfr hG
  have b0 : 5 ≤ r 0 ∧ r 0 ≤ 5 := hok.1 0 (5, 5) rfl
  have b3 : 0 ≤ r 3 ∧ r 3 ≤ 40 := hok.1 3 (0, 40) rfl
  have b26 : 0 ≤ r 26 ∧ r 26 ≤ 4 := hok.1 26 (0, 4) rfl
  have b27 : 0 ≤ r 27 ∧ r 27 ≤ 3 := hok.1 27 (0, 3) rfl
  have b28 : 0 ≤ r 28 ∧ r 28 ≤ 2147483647 := hok.1 28 (0, 2147483647) rfl
  have f0 : 0 ≤ (((-1) * r 26 + (1 * r 27 + 0)) + 0) := hok.2 _ (List.mem_of_getElem? (i := 0) rfl)
  have f1 : 0 ≤ ((1 * r 0 + 0) + (-5)) := hok.2 _ (List.mem_of_getElem? (i := 1) rfl)
  have f2 : 0 ≤ (((-1) * r 0 + 0) + 5) := hok.2 _ (List.mem_of_getElem? (i := 2) rfl)
  have hG : ((1 * (r 26) + 0) + 0) = yq_sc (g0 3) (((1 * (r 27) + 0) + 0)).toNat := hG
  obtain ⟨g0, hh, q0, e0⟩ := hh
  subst q0
  have e0 : r 28 = g 3 (((1 * r 27 + 0) + 0)).toNat := e0
  rw [show (((1 * r 27 + 0) + 0)).toNat = (r 27).toNat by omega] at e0
  have hh : g = gi := hh
  subst hh
  have hG : ((1 * (r 26) + 0) + 0) = yq_sc (g0 3) (((1 * (r 27) + 0) + 0)).toNat := hG
  refine yt_dcut (by decide) rfl ?_ ?_
  · rw [show xk_1026.2.1.2.1.1.length = 26 from rfl]
    refine yx_fks _ _ ?_
    refine ⟨?_, ?_, trivial⟩
    · show 0 ≤ ((1 * ((1 * r 26 + 0) + 1) + 0) + 0)
      omega
    · show 0 ≤ (((-1) * ((1 * r 26 + 0) + 1) + (1 * ((1 * r 27 + 0) + 1) + 0)) + 0)
      omega
  · rw [show xk_1026.2.1.2.1.1.length = 26 from rfl]
    show ((1 * ((1 * r 26 + 0) + 1) + 0) + 0) = yq_sc (g0 3) (((1 * ((1 * r 27 + 0) + 1) + 0) + 0)).toNat
    try simp only [Int.one_mul, Int.zero_add, Int.add_zero]
    try simp only [Int.one_mul, Int.zero_add, Int.add_zero] at hG
    rw [hfr 3 (by decide)] at e0
    rw [yq_sc_s (k := r 27) (by omega) (by omega), ← e0, ← hG]
    split <;> omega
theorem xn_1026 : ∀ (j : Nat) (q : Nat × yt_T), xq_1026.2.2.1[j]? = some q → q.2.2.2 = false → ∀ g0 r g, xG_1026 j g0 r g
  | 0, q, hq, hf => by cases hq; cases hf
  | 1, q, hq, hf => by cases hq; cases hf
  | n + 2, q, hq, _ => by cases hq
theorem xs_1026 : ∀ j, xq_1026.2.2.2.getD j false = false → ∀ r g g', xP_1026 j r g g'
  | 0, hf => by cases hf
  | n + 1, _ => fun _ _ _ => trivial
theorem xc_1026 {l : Launch} {D : va_G} {cT : Nat → ClassId} {tys : List (ClassId × FieldType)} (hty : yx_Ty tys cT) : yt_Con l D vwCl cT tys yG yw_s513 xk_1026 xR_1026 xP_1026 := yx_sem (calls := xa_1026) (Z := xq_1026) (tb := xT_1026) (pt := xU_1026) (Ga := xG_1026) (vs := xv_1026) (fun _ _ _ _ => trivial) 300 (by decide +kernel) yz_X12_count_ok hty (yl_lkX12 _) (yl_cqkX12 _) (List.forall_mem_cons.mpr ⟨⟨xc_1014 hty, yg_CLv rfl rfl rfl yl_wX12_298 yd_yX12_many, fun _ _ _ => trivial⟩, fun _ h => absurd h List.not_mem_nil⟩) (xn_1026) (xs_1026) (by decide +kernel) (List.forall_mem_cons.mpr ⟨xw_1026_0_0, List.forall_mem_cons.mpr ⟨xw_1026_0_1, List.forall_mem_cons.mpr ⟨xw_1026_0_2, List.forall_mem_cons.mpr ⟨xw_1026_0_3, List.forall_mem_cons.mpr ⟨xw_1026_0_4, List.forall_mem_cons.mpr ⟨xw_1026_0_5, List.forall_mem_cons.mpr ⟨xw_1026_0_6, List.forall_mem_cons.mpr ⟨xw_1026_0_7, fun _ h => absurd h List.not_mem_nil⟩⟩⟩⟩⟩⟩⟩⟩) (⟨List.forall_mem_cons.mpr ⟨xw_1026_1_0, List.forall_mem_cons.mpr ⟨xw_1026_1_1, fun _ h => absurd h List.not_mem_nil⟩⟩, ⟨List.forall_mem_cons.mpr ⟨xw_1026_2_0, List.forall_mem_cons.mpr ⟨xw_1026_2_1, List.forall_mem_cons.mpr ⟨xw_1026_2_2, fun _ h => absurd h List.not_mem_nil⟩⟩⟩, trivial⟩⟩)
noncomputable def xf_1027 : ys_F := (yw_f503 2, yw_r503)
noncomputable def xk_1027 : ys_K := (((yX12_depth, cX12_depth, 23, (some .int)), (1, 27)), ([.inr (some 0), .inl (.inl ([(0, 1)], 0)), .inl (.inl ([(1, 1)], 0))], ([((-2147483648), 2147483647), ((-2147483648), 2147483647)] ++ yw_e503, []), xf_1027), ([([((-2147483648), 2147483647)], [], ((ys_fs xf_1027.1 [(0, 0, .inl (.inl ([], 0)))]), xf_1027.2), some (.inl (.inl ([(27, 1)], 0))))], []))
noncomputable def xq_1027 : yt_Q := (yz_X12_depth, (yl_flX12, yl_ciX12, yl_cjX12, yl_cpX12, yl_cqX12), [(114, ([((-2147483648), 2147483647), ((-2147483648), 40), (0, 39), ((-1300), 2000), ((-1300), 2000), ((-2147483648), 2147483647), ((-2147483648), 2147483647), ((-2147483648), 2147483647), ((-2147483648), 2147483647), (0, 40)], [([(0, 1)], 1000), ([(0, (-1))], 1000), ([(1, 1)], 1000), ([(1, (-1))], 1000), ([(4, 1)], (-1))], ((ys_fs xf_1027.1 [(0, 0, .inl (.inl ([], 0)))]), xf_1027.2), [(0, .inr (some 0)), (1, .inl (.inl ([(0, 1)], 0))), (2, .inl (.inl ([(1, 1)], 0))), (3, .inl (.inl ([(27, 1)], 0))), (4, .inl (.inl ([(28, 1)], 0))), (5, .inl (.inl ([(29, 1)], 0))), (6, .inl (.inr ([(30, 1)], 0))), (8, .inl (.inr ([(31, 1)], 0))), (10, .inl (.inl ([(32, 1)], 0))), (11, .inl (.inl ([(33, 1)], 0))), (12, .inl (.inl ([(34, 1)], 0))), (13, .inl (.inl ([(35, 1)], 0))), (14, .inl (.inl ([(36, 1)], 0)))], [], ([(29, (-43)), (36, (-1))], 1760)), [], false), (46, ([((-2147483648), 2147483647), ((-2147483648), 40), (0, 40)], [([(0, 1)], 1000), ([(0, (-1))], 1000), ([(1, 1)], 1000), ([(1, (-1))], 1000)], ((ys_fs xf_1027.1 [(0, 0, .inl (.inl ([], 0)))]), xf_1027.2), [(0, .inr (some 0)), (1, .inl (.inl ([(0, 1)], 0))), (2, .inl (.inl ([(1, 1)], 0))), (3, .inl (.inl ([(27, 1)], 0))), (4, .inl (.inl ([(28, 1)], 0))), (5, .inl (.inl ([(29, 1)], 0)))], [], ([(29, (-43))], 1762)), [], false)], [])
noncomputable def xa_1027 : List yt_CE := [(((133, true), (0, false, [])), (yw_s2, xk_1004)), (((170, true), (10, false, [])), (yw_s2, xk_1008))]
noncomputable def xT_1027 : yt_Tb := fun d => match d with
  | 10 => xP_1008
  | _ => fun _ _ _ _ => True
theorem xc_1027 {l : Launch} {D : va_G} {cT : Nat → ClassId} {tys : List (ClassId × FieldType)} (hty : yx_Ty tys cT) : yx_C l D cT tys yw_s503 xk_1027 := yx_methodT (tb := xT_1027) (fun _ _ _ _ => trivial) (calls := xa_1027) (Z := xq_1027) 300 (by decide +kernel) yz_X12_depth_ok hty (yl_lkX12 _) (yl_cqkX12 _) (List.forall_mem_cons.mpr ⟨⟨xc_1004 hty, yg_CLs yl_wX12_133 yd_yX12_in⟩, List.forall_mem_cons.mpr ⟨⟨xc_1008 hty, yg_CLs yl_wX12_170 yd_yX12_cross⟩, fun _ h => absurd h List.not_mem_nil⟩⟩) (by decide +kernel)
noncomputable def xf_1028 : ys_F := (yw_f500 0, yw_r500)
noncomputable def xk_1028 : ys_K := (((yX12_dismiss, cX12_dismiss, 2, (some .int)), (0, 0)), ([.inr (some 0)], ([] ++ yw_e500, []), xf_1028), ([([], [], ((ys_fs xf_1028.1 [(0, 0, .inl (.inl ([], 0))), (0, 36, .inl (.inl ([], 0)))]), xf_1028.2), some (.inl (.inl ([(19, 1)], 0))))], []))
noncomputable def xq_1028 : yt_Q := (yz_X12_dismiss, (yl_flX12, yl_ciX12, yl_cjX12, yl_cpX12, yl_cqX12), [], [])
noncomputable def xa_1028 : List yt_CE := []
theorem xc_1028 {l : Launch} {D : va_G} {cT : Nat → ClassId} {tys : List (ClassId × FieldType)} (hty : yx_Ty tys cT) : yx_C l D cT tys yw_s500 xk_1028 := yx_method (calls := xa_1028) (Z := xq_1028) 300 (by decide +kernel) yz_X12_dismiss_ok hty (yl_lkX12 _) (yl_cqkX12 _) (fun _ h => absurd h List.not_mem_nil) (by decide +kernel)
noncomputable def xf_1029 : ys_F := (yw_f500 1, yw_r500)
noncomputable def xk_1029 : ys_K := (((yX12_isPoint, cX12_isPoint, 2, (some .boolean)), (1, 25)), ([.inr (some 0), .inl (.inl ([(0, 1)], 0))], ([((-2147483648), 2147483647)] ++ yw_e500, []), xf_1029), ([([], [([(0, (-1))], (-1))], (xf_1029.1, xf_1029.2), some (.inl (.inl ([], 0)))), ([], [([(0, 1)], 0), ([(0, 1), (3, (-1))], 0)], (xf_1029.1, xf_1029.2), some (.inl (.inl ([], 0)))), ([], [([(0, 1)], 0), ([(0, (-1))], 39), ([(0, (-1)), (3, 1)], (-1))], (xf_1029.1, xf_1029.2), some (.inl (.inl ([], 1))))], []))
noncomputable def xq_1029 : yt_Q := (yz_X12_isPoint, (yl_flX12, yl_ciX12, yl_cjX12, yl_cpX12, yl_cqX12), [], [])
noncomputable def xa_1029 : List yt_CE := [(((133, true), (0, false, [])), (yw_s2, xk_1001))]
theorem xc_1029 {l : Launch} {D : va_G} {cT : Nat → ClassId} {tys : List (ClassId × FieldType)} (hty : yx_Ty tys cT) : yx_C l D cT tys yw_s500 xk_1029 := yx_method (calls := xa_1029) (Z := xq_1029) 300 (by decide +kernel) yz_X12_isPoint_ok hty (yl_lkX12 _) (yl_cqkX12 _) (List.forall_mem_cons.mpr ⟨⟨xc_1001 hty, yg_CLs yl_wX12_133 yd_yX12_in⟩, fun _ h => absurd h List.not_mem_nil⟩) (by decide +kernel)
noncomputable def yw_s514 : List ys_C := [.inl 12, .inr (0, 40, []), .inr (0, 40, []), .inr (0, 40, []), .inr (0, 40, [])]
noncomputable def yw_f514 (n : Nat) : List (List ys_V) := [[.inl (.inl ([(n + 0, 1)], 0)), .inl (.inl ([(n + 1, 1)], 0)), .inr (some 1), .inr (some 2), .inr (some 3), .inr (some 4), .inl (.inl ([(n + 2, 1)], 0)), .inr (some 5), .inr (some 6), .inr (some 7), .inr (some 8), .inl (.inl ([(n + 3, 1)], 0)), .inl (.inl ([(n + 4, 1)], 0)), .inr (some 9), .inr (some 10), .inr (some 11), .inl (.inr ([(n + 5, 1)], 0)), .inl (.inr ([(n + 6, 1)], 0)), .inl (.inr ([(n + 7, 1)], 0)), .inl (.inl ([(n + 8, 1)], 0)), .inl (.inr ([(n + 9, 1)], 0)), .inl (.inr ([(n + 10, 1)], 0)), .inl (.inr ([(n + 11, 1)], 0)), .inl (.inr ([(n + 12, 1)], 0)), .inr (some 12), .inr (some 13), .inl (.inl ([(n + 13, 1)], 0)), .inr (some 14), .inl (.inr ([(n + 14, 1)], 0)), .inl (.inr ([(n + 15, 1)], 0)), .inl (.inr ([(n + 16, 1)], 0)), .inl (.inr ([(n + 17, 1)], 0)), .inl (.inr ([(n + 18, 1)], 0)), .inr (some 15), .inr (some 16), .inr (some 17), .inl (.inl ([(n + 19, 1)], 0)), .inl (.inl ([(n + 20, 1)], 0)), .inr (some 18), .inr (some 19), .inr (some 20), .inr (some 21), .inr (some 22), .inl (.inl ([(n + 21, 1)], 0)), .inl (.inl ([(n + 22, 1)], 0)), .inr (some 23), .inl (.inl ([(n + 23, 1)], 0)), .inr (some 24), .inr (some 25), .inr (some 26), .inr (some 27), .inl (.inl ([(n + 24, 1)], 0)), .inr (some 28), .inr (some 29), .inr (some 30), .inr (some 31), .inr (some 32), .inr (some 33), .inr (some 34), .inr (some 35), .inr (some 36)], [], [], [], []]
noncomputable def yw_e514 : ys_E := [((-2147483648), 2147483647), ((-2147483648), 2147483647), (0, 40), ((-2147483648), 2147483647), (0, 4), ((-9223372036854775808), 9223372036854775807), ((-9223372036854775808), 9223372036854775807), ((-9223372036854775808), 9223372036854775807), (0, 1), ((-4000), 4000), ((-4000), 4000), ((-9223372036854775808), 9223372036854775807), ((-9223372036854775808), 9223372036854775807), (0, 12), ((-9223372036854775808), 9223372036854775807), ((-9223372036854775808), 9223372036854775807), ((-9223372036854775808), 9223372036854775807), ((-9223372036854775808), 9223372036854775807), ((-9223372036854775808), 9223372036854775807), (0, 12), ((-2147483648), 2147483647), (0, 12), ((-2147483648), 2147483647), (0, 40), (0, 40)]
noncomputable def yw_r514 : List ys_R := [((0, 0), []), (((-300), 1000), []), (((-300), 1000), []), (((-300), 1000), []), ((0, 1000), [])]
noncomputable def xf_1030 : ys_F := (yw_f514 1, yw_r514)
noncomputable def xk_1030 : ys_K := (((yX12_drop, cX12_drop, 3, (some .int)), (2, 46)), ([.inr (some 0), .inl (.inl ([(0, 1)], 0))], ([((-2147483648), 2147483647)] ++ yw_e514, []), xf_1030), ([([((-1), 39), ((-2147483648), 0), (0, 40)], [], ((ys_fs xf_1030.1 [(0, 0, .inl (.inl ([], 0))), (0, 1, .inl (.inl ([(27, 1)], 0))), (0, 6, .inl (.inl ([(28, 1)], 0)))]), xf_1030.2), some (.inl (.inl ([(26, 1)], 0))))], [1, 2, 3, 4]))
noncomputable def xq_1030 : yt_Q := (yz_X12_drop, (yl_flX12, yl_ciX12, yl_cjX12, yl_cpX12, yl_cqX12), [(31, ([(0, 39)], [([(0, 1)], 0), ([(0, (-1))], 39), ([(3, 1)], (-1)), ([(0, (-1)), (3, 1)], (-1))], ((ys_fs xf_1030.1 [(0, 0, .inl (.inl ([], 0))), (0, 6, .inl (.inl ([(3, 1)], (-1))))]), xf_1030.2), [(0, .inr (some 0)), (2, .inl (.inl ([(26, 1)], 0)))], [], ([(26, (-1))], 39)), [], true)], [true])
noncomputable def xa_1030 : List yt_CE := [(((149, false), (0, false, [0, 1, 2, 3, 4, 5, 6, 7, 8, 9, 10, 11, 12, 13, 14, 15, 16, 17, 18, 19, 20, 21, 22, 23, 24, 25, 26, 27, 28, 29, 30, 31, 32, 33, 34, 35, 36])), (yw_s500, xk_1029)), (((141, false), (0, false, [0, 1, 2, 3, 4, 5, 6, 7, 8, 9, 10, 11, 12, 13, 14, 15, 16, 17, 18, 19, 20, 21, 22, 23, 24, 25, 26, 27, 28, 29, 30, 31, 32, 33, 34, 35, 36])), (yw_s500, xk_1002))]
noncomputable def xv_1030 : List (List yt_VC) := [[(1000, ([((-2147483648), (-1)), ((-2147483648), 2147483647), ((-2147483648), 2147483647), (0, 40), ((-2147483648), 2147483647), (0, 4), ((-9223372036854775808), 9223372036854775807), ((-9223372036854775808), 9223372036854775807), ((-9223372036854775808), 9223372036854775807), (0, 1), ((-4000), 4000), ((-4000), 4000), ((-9223372036854775808), 9223372036854775807), ((-9223372036854775808), 9223372036854775807), (0, 12), ((-9223372036854775808), 9223372036854775807), ((-9223372036854775808), 9223372036854775807), ((-9223372036854775808), 9223372036854775807), ((-9223372036854775808), 9223372036854775807), ((-9223372036854775808), 9223372036854775807), (0, 12), ((-2147483648), 2147483647), (0, 12), ((-2147483648), 2147483647), (0, 40), (0, 40), ((-2147483648), 0)], []), [([], (-1)), ([(26, 1)], 0), ([(3, 1)], 0)], [], []),
   (1000, ([(0, 2147483647), ((-2147483648), 2147483647), ((-2147483648), 2147483647), (0, 40), ((-2147483648), 2147483647), (0, 4), ((-9223372036854775808), 9223372036854775807), ((-9223372036854775808), 9223372036854775807), ((-9223372036854775808), 9223372036854775807), (0, 1), ((-4000), 4000), ((-4000), 4000), ((-9223372036854775808), 9223372036854775807), ((-9223372036854775808), 9223372036854775807), (0, 12), ((-9223372036854775808), 9223372036854775807), ((-9223372036854775808), 9223372036854775807), ((-9223372036854775808), 9223372036854775807), ((-9223372036854775808), 9223372036854775807), ((-9223372036854775808), 9223372036854775807), (0, 12), ((-2147483648), 2147483647), (0, 12), ((-2147483648), 2147483647), (0, 40), (0, 40), ((-2147483648), 0)], [([(0, 1), (3, (-1))], 0)]), [([], (-1)), ([(26, 1)], 0), ([(3, 1)], 0)], [], []),
   (0, ([(0, 39), ((-2147483648), 2147483647), ((-2147483648), 2147483647), (1, 40), ((-2147483648), 2147483647), (0, 4), ((-9223372036854775808), 9223372036854775807), ((-9223372036854775808), 9223372036854775807), ((-9223372036854775808), 9223372036854775807), (0, 1), ((-4000), 4000), ((-4000), 4000), ((-9223372036854775808), 9223372036854775807), ((-9223372036854775808), 9223372036854775807), (0, 12), ((-9223372036854775808), 9223372036854775807), ((-9223372036854775808), 9223372036854775807), ((-9223372036854775808), 9223372036854775807), ((-9223372036854775808), 9223372036854775807), ((-9223372036854775808), 9223372036854775807), (0, 12), ((-2147483648), 2147483647), (0, 12), ((-2147483648), 2147483647), (0, 40), (0, 40)], [([(0, (-1)), (3, 1)], (-1))]), [([(0, 1)], 0)], [], [])],
  [(1000, ([(0, 39), ((-2147483648), 2147483647), ((-2147483648), 2147483647), (1, 40), ((-2147483648), 2147483647), (0, 4), ((-9223372036854775808), 9223372036854775807), ((-9223372036854775808), 9223372036854775807), ((-9223372036854775808), 9223372036854775807), (0, 1), ((-4000), 4000), ((-4000), 4000), ((-9223372036854775808), 9223372036854775807), ((-9223372036854775808), 9223372036854775807), (0, 12), ((-9223372036854775808), 9223372036854775807), ((-9223372036854775808), 9223372036854775807), ((-9223372036854775808), 9223372036854775807), ((-9223372036854775808), 9223372036854775807), ((-9223372036854775808), 9223372036854775807), (0, 12), ((-2147483648), 2147483647), (0, 12), ((-2147483648), 2147483647), (0, 40), (0, 40), (0, 39), ((-2147483648), 0)], [([(3, (-1)), (26, 1)], 1), ([(0, (-1)), (3, 1)], (-1)), ([(0, 1)], 0), ([(0, (-1))], 39), ([(3, 1)], (-1)), ([(0, (-1)), (3, 1)], (-1))]), [([(3, 1)], (-1)), ([(27, 1)], 0), ([(3, 1)], (-1))], [], []),
   (0, ([(0, 39), ((-2147483648), 2147483647), ((-2147483648), 2147483647), (2, 40), ((-2147483648), 2147483647), (0, 4), ((-9223372036854775808), 9223372036854775807), ((-9223372036854775808), 9223372036854775807), ((-9223372036854775808), 9223372036854775807), (0, 1), ((-4000), 4000), ((-4000), 4000), ((-9223372036854775808), 9223372036854775807), ((-9223372036854775808), 9223372036854775807), (0, 12), ((-9223372036854775808), 9223372036854775807), ((-9223372036854775808), 9223372036854775807), ((-9223372036854775808), 9223372036854775807), ((-9223372036854775808), 9223372036854775807), ((-9223372036854775808), 9223372036854775807), (0, 12), ((-2147483648), 2147483647), (0, 12), ((-2147483648), 2147483647), (0, 40), (0, 40), (0, 38), ((-300), 1000), ((-300), 1000), ((-300), 1000), (0, 1000)], [([(3, 1), (26, (-1))], (-2)), ([(0, (-1)), (3, 1)], (-1)), ([(0, 1)], 0), ([(0, (-1))], 39), ([(3, 1)], (-1)), ([(0, (-1)), (3, 1)], (-1))]), [([(26, 1)], 1)], [], [.inr (.inl (4, ([(26, 1)], 0), ([(30, 1)], 0))), .inl (.inl (4, ([(26, 1)], 1), 30)), .inr (.inl (3, ([(26, 1)], 0), ([(29, 1)], 0))), .inl (.inl (3, ([(26, 1)], 1), 29)), .inr (.inl (2, ([(26, 1)], 0), ([(28, 1)], 0))), .inl (.inl (2, ([(26, 1)], 1), 28)), .inr (.inl (1, ([(26, 1)], 0), ([(27, 1)], 0))), .inl (.inl (1, ([(26, 1)], 1), 27))])]]
noncomputable def xG_1030 : Nat → yt_G → (Nat → Int) → yt_G → Prop
  | 0, g0, r, g => (g 1) = yq_sf (r 0) ((1 * (r 26) + 0) + 0) (g0 1) ∧ (g 2) = yq_sf (r 0) ((1 * (r 26) + 0) + 0) (g0 2) ∧ (g 3) = yq_sf (r 0) ((1 * (r 26) + 0) + 0) (g0 3) ∧ (g 4) = yq_sf (r 0) ((1 * (r 26) + 0) + 0) (g0 4) ∧ (r 0) ≤ ((1 * (r 26) + 0) + 0) ∧ ((1 * (r 26) + 0) + 0) ≤ ((1 * (r 3) + 0) + 0) - 1
  | _, _, _, _ => True
noncomputable def xP_1030 : yt_Ph
  | 0, r, g0, g => ((r 26) = yq_drr (r 0) ((1 * (r 3) + 0) + 0) ∧ ((1 * (r 28) + 0) + 0) = yq_drm (r 0) ((1 * (r 3) + 0) + 0)) ∧ (g 1) = yq_dp (r 0) ((1 * (r 3) + 0) + 0) (g0 1) ∧ (g 2) = yq_dp (r 0) ((1 * (r 3) + 0) + 0) (g0 2) ∧ (g 3) = yq_dp (r 0) ((1 * (r 3) + 0) + 0) (g0 3) ∧ (g 4) = yq_dp (r 0) ((1 * (r 3) + 0) + 0) (g0 4)
  | _, _, _, _ => True
noncomputable def xR_1030 : yt_Ps := fun r g0 => True
noncomputable def xT_1030 : yt_Tb := fun d => match d with
  | _ => fun _ _ _ _ => True
noncomputable def xU_1030 : Nat → yt_Ps := fun d => match d with
  | _ => fun _ _ => True
theorem xw_1030_0_0 : yt_hold xT_1030 xk_1030 xq_1030.2.2.1 xG_1030 xP_1030 xU_1030 26 xk_1030.2.1.2.2.2 (fun g0 r g => xR_1030 r g0 ∧ g = g0) (1000, ([((-2147483648), (-1)), ((-2147483648), 2147483647), ((-2147483648), 2147483647), (0, 40), ((-2147483648), 2147483647), (0, 4), ((-9223372036854775808), 9223372036854775807), ((-9223372036854775808), 9223372036854775807), ((-9223372036854775808), 9223372036854775807), (0, 1), ((-4000), 4000), ((-4000), 4000), ((-9223372036854775808), 9223372036854775807), ((-9223372036854775808), 9223372036854775807), (0, 12), ((-9223372036854775808), 9223372036854775807), ((-9223372036854775808), 9223372036854775807), ((-9223372036854775808), 9223372036854775807), ((-9223372036854775808), 9223372036854775807), ((-9223372036854775808), 9223372036854775807), (0, 12), ((-2147483648), 2147483647), (0, 12), ((-2147483648), 2147483647), (0, 40), (0, 40), ((-2147483648), 0)], []), [([], (-1)), ([(26, 1)], 0), ([(3, 1)], 0)], [], []) := by
  intro g0 r gi g hok hh hars hfr hG
  have b0 : (-2147483648) ≤ r 0 ∧ r 0 ≤ (-1) := hok.1 0 ((-2147483648), (-1)) rfl
  have b3 : 0 ≤ r 3 ∧ r 3 ≤ 40 := hok.1 3 (0, 40) rfl
  have b26 : (-2147483648) ≤ r 26 ∧ r 26 ≤ 0 := hok.1 26 ((-2147483648), 0) rfl
  obtain ⟨hG, hgi⟩ := hG
  have hG : True := hG
  have hh : g = gi := hh
  subst hh
  refine yt_dalt (by decide) (by decide) ?_
  rw [show xk_1030.2.1.2.1.1.length = 26 from rfl]
  show (((0 : Int) + (-1)) = yq_drr ((1 * r 0 + 0) + 0) ((1 * ((1 * r 3 + 0) + 0) + 0) + 0) ∧ ((1 * ((1 * r 3 + 0) + 0) + 0) + 0) = yq_drm ((1 * r 0 + 0) + 0) ((1 * ((1 * r 3 + 0) + 0) + 0) + 0)) ∧ (g 1) = yq_dp ((1 * r 0 + 0) + 0) ((1 * ((1 * r 3 + 0) + 0) + 0) + 0) (g0 1) ∧ (g 2) = yq_dp ((1 * r 0 + 0) + 0) ((1 * ((1 * r 3 + 0) + 0) + 0) + 0) (g0 2) ∧ (g 3) = yq_dp ((1 * r 0 + 0) + 0) ((1 * ((1 * r 3 + 0) + 0) + 0) + 0) (g0 3) ∧ (g 4) = yq_dp ((1 * r 0 + 0) + 0) ((1 * ((1 * r 3 + 0) + 0) + 0) + 0) (g0 4)
  try simp only [Int.one_mul, Int.zero_add, Int.add_zero]
  refine ⟨?_, ?_⟩
  · refine ⟨?_, ?_⟩
    · unfold yq_drr
      repeat' split
      all_goals omega
    · unfold yq_drm
      repeat' split
      all_goals omega
  · refine ⟨?_, ?_, ?_, ?_⟩
    · unfold yq_dp
      rw [if_neg (by omega)]
      rw [hgi]
    · unfold yq_dp
      rw [if_neg (by omega)]
      rw [hgi]
    · unfold yq_dp
      rw [if_neg (by omega)]
      rw [hgi]
    · unfold yq_dp
      rw [if_neg (by omega)]
      rw [hgi]
theorem xw_1030_0_1 : yt_hold xT_1030 xk_1030 xq_1030.2.2.1 xG_1030 xP_1030 xU_1030 26 xk_1030.2.1.2.2.2 (fun g0 r g => xR_1030 r g0 ∧ g = g0) (1000, ([(0, 2147483647), ((-2147483648), 2147483647), ((-2147483648), 2147483647), (0, 40), ((-2147483648), 2147483647), (0, 4), ((-9223372036854775808), 9223372036854775807), ((-9223372036854775808), 9223372036854775807), ((-9223372036854775808), 9223372036854775807), (0, 1), ((-4000), 4000), ((-4000), 4000), ((-9223372036854775808), 9223372036854775807), ((-9223372036854775808), 9223372036854775807), (0, 12), ((-9223372036854775808), 9223372036854775807), ((-9223372036854775808), 9223372036854775807), ((-9223372036854775808), 9223372036854775807), ((-9223372036854775808), 9223372036854775807), ((-9223372036854775808), 9223372036854775807), (0, 12), ((-2147483648), 2147483647), (0, 12), ((-2147483648), 2147483647), (0, 40), (0, 40), ((-2147483648), 0)], [([(0, 1), (3, (-1))], 0)]), [([], (-1)), ([(26, 1)], 0), ([(3, 1)], 0)], [], []) := by
  intro g0 r gi g hok hh hars hfr hG
  have b0 : 0 ≤ r 0 ∧ r 0 ≤ 2147483647 := hok.1 0 (0, 2147483647) rfl
  have b3 : 0 ≤ r 3 ∧ r 3 ≤ 40 := hok.1 3 (0, 40) rfl
  have b26 : (-2147483648) ≤ r 26 ∧ r 26 ≤ 0 := hok.1 26 ((-2147483648), 0) rfl
  have f0 : 0 ≤ ((1 * r 0 + ((-1) * r 3 + 0)) + 0) := hok.2 _ (List.mem_of_getElem? (i := 0) rfl)
  obtain ⟨hG, hgi⟩ := hG
  have hG : True := hG
  have hh : g = gi := hh
  subst hh
  refine yt_dalt (by decide) (by decide) ?_
  rw [show xk_1030.2.1.2.1.1.length = 26 from rfl]
  show (((0 : Int) + (-1)) = yq_drr ((1 * r 0 + 0) + 0) ((1 * ((1 * r 3 + 0) + 0) + 0) + 0) ∧ ((1 * ((1 * r 3 + 0) + 0) + 0) + 0) = yq_drm ((1 * r 0 + 0) + 0) ((1 * ((1 * r 3 + 0) + 0) + 0) + 0)) ∧ (g 1) = yq_dp ((1 * r 0 + 0) + 0) ((1 * ((1 * r 3 + 0) + 0) + 0) + 0) (g0 1) ∧ (g 2) = yq_dp ((1 * r 0 + 0) + 0) ((1 * ((1 * r 3 + 0) + 0) + 0) + 0) (g0 2) ∧ (g 3) = yq_dp ((1 * r 0 + 0) + 0) ((1 * ((1 * r 3 + 0) + 0) + 0) + 0) (g0 3) ∧ (g 4) = yq_dp ((1 * r 0 + 0) + 0) ((1 * ((1 * r 3 + 0) + 0) + 0) + 0) (g0 4)
  try simp only [Int.one_mul, Int.zero_add, Int.add_zero]
  refine ⟨?_, ?_⟩
  · refine ⟨?_, ?_⟩
    · unfold yq_drr
      repeat' split
      all_goals omega
    · unfold yq_drm
      repeat' split
      all_goals omega
  · refine ⟨?_, ?_, ?_, ?_⟩
    · unfold yq_dp
      rw [if_neg (by omega)]
      rw [hgi]
    · unfold yq_dp
      rw [if_neg (by omega)]
      rw [hgi]
    · unfold yq_dp
      rw [if_neg (by omega)]
      rw [hgi]
    · unfold yq_dp
      rw [if_neg (by omega)]
      rw [hgi]
theorem xw_1030_0_2 : yt_hold xT_1030 xk_1030 xq_1030.2.2.1 xG_1030 xP_1030 xU_1030 26 xk_1030.2.1.2.2.2 (fun g0 r g => xR_1030 r g0 ∧ g = g0) (0, ([(0, 39), ((-2147483648), 2147483647), ((-2147483648), 2147483647), (1, 40), ((-2147483648), 2147483647), (0, 4), ((-9223372036854775808), 9223372036854775807), ((-9223372036854775808), 9223372036854775807), ((-9223372036854775808), 9223372036854775807), (0, 1), ((-4000), 4000), ((-4000), 4000), ((-9223372036854775808), 9223372036854775807), ((-9223372036854775808), 9223372036854775807), (0, 12), ((-9223372036854775808), 9223372036854775807), ((-9223372036854775808), 9223372036854775807), ((-9223372036854775808), 9223372036854775807), ((-9223372036854775808), 9223372036854775807), ((-9223372036854775808), 9223372036854775807), (0, 12), ((-2147483648), 2147483647), (0, 12), ((-2147483648), 2147483647), (0, 40), (0, 40)], [([(0, (-1)), (3, 1)], (-1))]), [([(0, 1)], 0)], [], []) := by
  intro g0 r gi g hok hh hars hfr hG
  have b0 : 0 ≤ r 0 ∧ r 0 ≤ 39 := hok.1 0 (0, 39) rfl
  have b3 : 1 ≤ r 3 ∧ r 3 ≤ 40 := hok.1 3 (1, 40) rfl
  have f0 : 0 ≤ (((-1) * r 0 + (1 * r 3 + 0)) + (-1)) := hok.2 _ (List.mem_of_getElem? (i := 0) rfl)
  obtain ⟨hG, hgi⟩ := hG
  have hG : True := hG
  have hh : g = gi := hh
  subst hh
  refine yt_dcut (by decide) rfl ?_ ?_
  · exact fun f hf => absurd hf List.not_mem_nil
  · rw [show xk_1030.2.1.2.1.1.length = 26 from rfl]
    show (g 1) = yq_sf ((1 * r 0 + 0) + 0) ((1 * ((1 * r 0 + 0) + 0) + 0) + 0) (g0 1) ∧ (g 2) = yq_sf ((1 * r 0 + 0) + 0) ((1 * ((1 * r 0 + 0) + 0) + 0) + 0) (g0 2) ∧ (g 3) = yq_sf ((1 * r 0 + 0) + 0) ((1 * ((1 * r 0 + 0) + 0) + 0) + 0) (g0 3) ∧ (g 4) = yq_sf ((1 * r 0 + 0) + 0) ((1 * ((1 * r 0 + 0) + 0) + 0) + 0) (g0 4) ∧ ((1 * r 0 + 0) + 0) ≤ ((1 * ((1 * r 0 + 0) + 0) + 0) + 0) ∧ ((1 * ((1 * r 0 + 0) + 0) + 0) + 0) ≤ ((1 * ((1 * r 3 + 0) + 0) + 0) + 0) - 1
    try simp only [Int.one_mul, Int.zero_add, Int.add_zero]
    refine ⟨?_, ?_, ?_, ?_, by omega, by omega⟩
    · rw [hgi]
      exact yq_sf_0
    · rw [hgi]
      exact yq_sf_0
    · rw [hgi]
      exact yq_sf_0
    · rw [hgi]
      exact yq_sf_0
theorem xw_1030_1_0 : yt_hold xT_1030 xk_1030 xq_1030.2.2.1 xG_1030 xP_1030 xU_1030 27 ((xq_1030.2.2.1.getD 0 (0, ([], [], ([], []), [], [], ([], 0)), [], false)).2.1.2.2.1.2) (xG_1030 0) (1000, ([(0, 39), ((-2147483648), 2147483647), ((-2147483648), 2147483647), (1, 40), ((-2147483648), 2147483647), (0, 4), ((-9223372036854775808), 9223372036854775807), ((-9223372036854775808), 9223372036854775807), ((-9223372036854775808), 9223372036854775807), (0, 1), ((-4000), 4000), ((-4000), 4000), ((-9223372036854775808), 9223372036854775807), ((-9223372036854775808), 9223372036854775807), (0, 12), ((-9223372036854775808), 9223372036854775807), ((-9223372036854775808), 9223372036854775807), ((-9223372036854775808), 9223372036854775807), ((-9223372036854775808), 9223372036854775807), ((-9223372036854775808), 9223372036854775807), (0, 12), ((-2147483648), 2147483647), (0, 12), ((-2147483648), 2147483647), (0, 40), (0, 40), (0, 39), ((-2147483648), 0)], [([(3, (-1)), (26, 1)], 1), ([(0, (-1)), (3, 1)], (-1)), ([(0, 1)], 0), ([(0, (-1))], 39), ([(3, 1)], (-1)), ([(0, (-1)), (3, 1)], (-1))]), [([(3, 1)], (-1)), ([(27, 1)], 0), ([(3, 1)], (-1))], [], []) := by
  intro g0 r gi g hok hh hars hfr hG
  have b0 : 0 ≤ r 0 ∧ r 0 ≤ 39 := hok.1 0 (0, 39) rfl
  have b3 : 1 ≤ r 3 ∧ r 3 ≤ 40 := hok.1 3 (1, 40) rfl
  have b26 : 0 ≤ r 26 ∧ r 26 ≤ 39 := hok.1 26 (0, 39) rfl
  have b27 : (-2147483648) ≤ r 27 ∧ r 27 ≤ 0 := hok.1 27 ((-2147483648), 0) rfl
  have f0 : 0 ≤ (((-1) * r 3 + (1 * r 26 + 0)) + 1) := hok.2 _ (List.mem_of_getElem? (i := 0) rfl)
  have f1 : 0 ≤ (((-1) * r 0 + (1 * r 3 + 0)) + (-1)) := hok.2 _ (List.mem_of_getElem? (i := 1) rfl)
  have f2 : 0 ≤ ((1 * r 0 + 0) + 0) := hok.2 _ (List.mem_of_getElem? (i := 2) rfl)
  have f3 : 0 ≤ (((-1) * r 0 + 0) + 39) := hok.2 _ (List.mem_of_getElem? (i := 3) rfl)
  have f4 : 0 ≤ ((1 * r 3 + 0) + (-1)) := hok.2 _ (List.mem_of_getElem? (i := 4) rfl)
  have f5 : 0 ≤ (((-1) * r 0 + (1 * r 3 + 0)) + (-1)) := hok.2 _ (List.mem_of_getElem? (i := 5) rfl)
  have hG : (gi 1) = yq_sf (r 0) ((1 * (r 26) + 0) + 0) (g0 1) ∧ (gi 2) = yq_sf (r 0) ((1 * (r 26) + 0) + 0) (g0 2) ∧ (gi 3) = yq_sf (r 0) ((1 * (r 26) + 0) + 0) (g0 3) ∧ (gi 4) = yq_sf (r 0) ((1 * (r 26) + 0) + 0) (g0 4) ∧ (r 0) ≤ ((1 * (r 26) + 0) + 0) ∧ ((1 * (r 26) + 0) + 0) ≤ ((1 * (r 3) + 0) + 0) - 1 := hG
  have hh : g = gi := hh
  subst hh
  refine yt_dalt (by decide) (by decide) ?_
  rw [show xk_1030.2.1.2.1.1.length = 26 from rfl]
  show (((1 * r 3 + 0) + (-1)) = yq_drr ((1 * r 0 + 0) + 0) ((1 * ((1 * r 3 + 0) + 0) + 0) + 0) ∧ ((1 * ((1 * r 3 + 0) + (-1)) + 0) + 0) = yq_drm ((1 * r 0 + 0) + 0) ((1 * ((1 * r 3 + 0) + 0) + 0) + 0)) ∧ (g 1) = yq_dp ((1 * r 0 + 0) + 0) ((1 * ((1 * r 3 + 0) + 0) + 0) + 0) (g0 1) ∧ (g 2) = yq_dp ((1 * r 0 + 0) + 0) ((1 * ((1 * r 3 + 0) + 0) + 0) + 0) (g0 2) ∧ (g 3) = yq_dp ((1 * r 0 + 0) + 0) ((1 * ((1 * r 3 + 0) + 0) + 0) + 0) (g0 3) ∧ (g 4) = yq_dp ((1 * r 0 + 0) + 0) ((1 * ((1 * r 3 + 0) + 0) + 0) + 0) (g0 4)
  try simp only [Int.one_mul, Int.zero_add, Int.add_zero]
  try simp only [Int.one_mul, Int.zero_add, Int.add_zero] at hG
  have hN := hG
  refine ⟨?_, ?_⟩
  · refine ⟨?_, ?_⟩
    · unfold yq_drr
      repeat' split
      all_goals omega
    · unfold yq_drm
      repeat' split
      all_goals omega
  · try simp only [Int.one_mul, Int.zero_add, Int.add_zero] at hG
    obtain ⟨a0, a1, a2, a3, a4, a5⟩ := hG
    rw [show r 26 = r 3 - 1 by omega] at a0
    rw [show r 26 = r 3 - 1 by omega] at a1
    rw [show r 26 = r 3 - 1 by omega] at a2
    rw [show r 26 = r 3 - 1 by omega] at a3
    refine ⟨?_, ?_, ?_, ?_⟩
    · unfold yq_dp
      rw [if_pos (by omega)]
      exact a0
    · unfold yq_dp
      rw [if_pos (by omega)]
      exact a1
    · unfold yq_dp
      rw [if_pos (by omega)]
      exact a2
    · unfold yq_dp
      rw [if_pos (by omega)]
      exact a3
theorem xw_1030_1_1 : yt_hold xT_1030 xk_1030 xq_1030.2.2.1 xG_1030 xP_1030 xU_1030 27 ((xq_1030.2.2.1.getD 0 (0, ([], [], ([], []), [], [], ([], 0)), [], false)).2.1.2.2.1.2) (xG_1030 0) (0, ([(0, 39), ((-2147483648), 2147483647), ((-2147483648), 2147483647), (2, 40), ((-2147483648), 2147483647), (0, 4), ((-9223372036854775808), 9223372036854775807), ((-9223372036854775808), 9223372036854775807), ((-9223372036854775808), 9223372036854775807), (0, 1), ((-4000), 4000), ((-4000), 4000), ((-9223372036854775808), 9223372036854775807), ((-9223372036854775808), 9223372036854775807), (0, 12), ((-9223372036854775808), 9223372036854775807), ((-9223372036854775808), 9223372036854775807), ((-9223372036854775808), 9223372036854775807), ((-9223372036854775808), 9223372036854775807), ((-9223372036854775808), 9223372036854775807), (0, 12), ((-2147483648), 2147483647), (0, 12), ((-2147483648), 2147483647), (0, 40), (0, 40), (0, 38), ((-300), 1000), ((-300), 1000), ((-300), 1000), (0, 1000)], [([(3, 1), (26, (-1))], (-2)), ([(0, (-1)), (3, 1)], (-1)), ([(0, 1)], 0), ([(0, (-1))], 39), ([(3, 1)], (-1)), ([(0, (-1)), (3, 1)], (-1))]), [([(26, 1)], 1)], [], [.inr (.inl (4, ([(26, 1)], 0), ([(30, 1)], 0))), .inl (.inl (4, ([(26, 1)], 1), 30)), .inr (.inl (3, ([(26, 1)], 0), ([(29, 1)], 0))), .inl (.inl (3, ([(26, 1)], 1), 29)), .inr (.inl (2, ([(26, 1)], 0), ([(28, 1)], 0))), .inl (.inl (2, ([(26, 1)], 1), 28)), .inr (.inl (1, ([(26, 1)], 0), ([(27, 1)], 0))), .inl (.inl (1, ([(26, 1)], 1), 27))]) := by
  intro g0 r gi g hok hh hars hfr hG
  have b0 : 0 ≤ r 0 ∧ r 0 ≤ 39 := hok.1 0 (0, 39) rfl
  have b3 : 2 ≤ r 3 ∧ r 3 ≤ 40 := hok.1 3 (2, 40) rfl
  have b26 : 0 ≤ r 26 ∧ r 26 ≤ 38 := hok.1 26 (0, 38) rfl
  have b27 : (-300) ≤ r 27 ∧ r 27 ≤ 1000 := hok.1 27 ((-300), 1000) rfl
  have b28 : (-300) ≤ r 28 ∧ r 28 ≤ 1000 := hok.1 28 ((-300), 1000) rfl
  have b29 : (-300) ≤ r 29 ∧ r 29 ≤ 1000 := hok.1 29 ((-300), 1000) rfl
  have b30 : 0 ≤ r 30 ∧ r 30 ≤ 1000 := hok.1 30 (0, 1000) rfl
  have f0 : 0 ≤ ((1 * r 3 + ((-1) * r 26 + 0)) + (-2)) := hok.2 _ (List.mem_of_getElem? (i := 0) rfl)
  have f1 : 0 ≤ (((-1) * r 0 + (1 * r 3 + 0)) + (-1)) := hok.2 _ (List.mem_of_getElem? (i := 1) rfl)
  have f2 : 0 ≤ ((1 * r 0 + 0) + 0) := hok.2 _ (List.mem_of_getElem? (i := 2) rfl)
  have f3 : 0 ≤ (((-1) * r 0 + 0) + 39) := hok.2 _ (List.mem_of_getElem? (i := 3) rfl)
  have f4 : 0 ≤ ((1 * r 3 + 0) + (-1)) := hok.2 _ (List.mem_of_getElem? (i := 4) rfl)
  have f5 : 0 ≤ (((-1) * r 0 + (1 * r 3 + 0)) + (-1)) := hok.2 _ (List.mem_of_getElem? (i := 5) rfl)
  have hG : (gi 1) = yq_sf (r 0) ((1 * (r 26) + 0) + 0) (g0 1) ∧ (gi 2) = yq_sf (r 0) ((1 * (r 26) + 0) + 0) (g0 2) ∧ (gi 3) = yq_sf (r 0) ((1 * (r 26) + 0) + 0) (g0 3) ∧ (gi 4) = yq_sf (r 0) ((1 * (r 26) + 0) + 0) (g0 4) ∧ (r 0) ≤ ((1 * (r 26) + 0) + 0) ∧ ((1 * (r 26) + 0) + 0) ≤ ((1 * (r 3) + 0) + 0) - 1 := hG
  obtain ⟨h0, hh, e0⟩ := hh
  have e0 : g = ys_gup h0 4 (((1 * r 26 + 0) + 0)).toNat ((1 * r 30 + 0) + 0) := e0
  obtain ⟨g1, hh, q1, e1⟩ := hh
  subst q1
  have e1 : r 30 = h0 4 (((1 * r 26 + 0) + 1)).toNat := e1
  rw [show (((1 * r 26 + 0) + 1)).toNat = (r 26 + 1).toNat by omega] at e1
  obtain ⟨h2, hh, e2⟩ := hh
  have e2 : h0 = ys_gup h2 3 (((1 * r 26 + 0) + 0)).toNat ((1 * r 29 + 0) + 0) := e2
  obtain ⟨g3, hh, q3, e3⟩ := hh
  subst q3
  have e3 : r 29 = h2 3 (((1 * r 26 + 0) + 1)).toNat := e3
  rw [show (((1 * r 26 + 0) + 1)).toNat = (r 26 + 1).toNat by omega] at e3
  obtain ⟨h4, hh, e4⟩ := hh
  have e4 : h2 = ys_gup h4 2 (((1 * r 26 + 0) + 0)).toNat ((1 * r 28 + 0) + 0) := e4
  obtain ⟨g5, hh, q5, e5⟩ := hh
  subst q5
  have e5 : r 28 = h4 2 (((1 * r 26 + 0) + 1)).toNat := e5
  rw [show (((1 * r 26 + 0) + 1)).toNat = (r 26 + 1).toNat by omega] at e5
  obtain ⟨h6, hh, e6⟩ := hh
  have e6 : h4 = ys_gup h6 1 (((1 * r 26 + 0) + 0)).toNat ((1 * r 27 + 0) + 0) := e6
  obtain ⟨g7, hh, q7, e7⟩ := hh
  subst q7
  have e7 : r 27 = h6 1 (((1 * r 26 + 0) + 1)).toNat := e7
  rw [show (((1 * r 26 + 0) + 1)).toNat = (r 26 + 1).toNat by omega] at e7
  have hh : h6 = gi := hh
  subst hh
  refine yt_dcut (by decide) rfl ?_ ?_
  · exact fun f hf => absurd hf List.not_mem_nil
  · rw [show xk_1030.2.1.2.1.1.length = 26 from rfl]
    show (g 1) = yq_sf ((1 * r 0 + 0) + 0) ((1 * ((1 * r 26 + 0) + 1) + 0) + 0) (g0 1) ∧ (g 2) = yq_sf ((1 * r 0 + 0) + 0) ((1 * ((1 * r 26 + 0) + 1) + 0) + 0) (g0 2) ∧ (g 3) = yq_sf ((1 * r 0 + 0) + 0) ((1 * ((1 * r 26 + 0) + 1) + 0) + 0) (g0 3) ∧ (g 4) = yq_sf ((1 * r 0 + 0) + 0) ((1 * ((1 * r 26 + 0) + 1) + 0) + 0) (g0 4) ∧ ((1 * r 0 + 0) + 0) ≤ ((1 * ((1 * r 26 + 0) + 1) + 0) + 0) ∧ ((1 * ((1 * r 26 + 0) + 1) + 0) + 0) ≤ ((1 * ((1 * r 3 + 0) + 0) + 0) + 0) - 1
    try simp only [Int.one_mul, Int.zero_add, Int.add_zero]
    try simp only [Int.one_mul, Int.zero_add, Int.add_zero] at hG
    have hN := hG
    try simp only [Int.one_mul, Int.zero_add, Int.add_zero] at hG
    obtain ⟨a0, a1, a2, a3, a4, a5⟩ := hG
    try simp only [Int.one_mul, Int.zero_add, Int.add_zero] at e0 e2 e4 e6
    rw [e6, yq_gup_ne (by decide)] at e5
    rw [e4, yq_gup_ne (by decide), e6, yq_gup_ne (by decide)] at e3
    rw [e2, yq_gup_ne (by decide), e4, yq_gup_ne (by decide), e6, yq_gup_ne (by decide)] at e1
    refine ⟨?_, ?_, ?_, ?_, by omega, by omega⟩
    · rw [e0, yq_gup_ne (by decide), e2, yq_gup_ne (by decide), e4, yq_gup_ne (by decide), e6, yq_gup_self, e7, a0]
      exact yq_sf_s (by omega) (by omega) (by omega)
    · rw [e0, yq_gup_ne (by decide), e2, yq_gup_ne (by decide), e4, yq_gup_self, e6, yq_gup_ne (by decide), e5, a1]
      exact yq_sf_s (by omega) (by omega) (by omega)
    · rw [e0, yq_gup_ne (by decide), e2, yq_gup_self, e4, yq_gup_ne (by decide), e6, yq_gup_ne (by decide), e3, a2]
      exact yq_sf_s (by omega) (by omega) (by omega)
    · rw [e0, yq_gup_self, e2, yq_gup_ne (by decide), e4, yq_gup_ne (by decide), e6, yq_gup_ne (by decide), e1, a3]
      exact yq_sf_s (by omega) (by omega) (by omega)
theorem xn_1030 : ∀ (j : Nat) (q : Nat × yt_T), xq_1030.2.2.1[j]? = some q → q.2.2.2 = false → ∀ g0 r g, xG_1030 j g0 r g
  | 0, q, hq, hf => by cases hq; cases hf
  | n + 1, q, hq, _ => by cases hq
theorem xs_1030 : ∀ j, xq_1030.2.2.2.getD j false = false → ∀ r g g', xP_1030 j r g g'
  | 0, hf => by cases hf
  | n + 1, _ => fun _ _ _ => trivial
theorem xc_1030 {l : Launch} {D : va_G} {cT : Nat → ClassId} {tys : List (ClassId × FieldType)} (hty : yx_Ty tys cT) : yt_Con l D vwCl cT tys yG yw_s514 xk_1030 xR_1030 xP_1030 := yx_sem (calls := xa_1030) (Z := xq_1030) (tb := xT_1030) (pt := xU_1030) (Ga := xG_1030) (vs := xv_1030) (fun _ _ _ _ => trivial) 300 (by decide +kernel) yz_X12_drop_ok hty (yl_lkX12 _) (yl_cqkX12 _) (List.forall_mem_cons.mpr ⟨⟨xc_1029 hty, yg_CLv rfl rfl rfl yl_wX12_149 yd_yX12_isPoint, fun _ _ _ => trivial⟩, List.forall_mem_cons.mpr ⟨⟨xc_1002 hty, yg_CLv rfl rfl rfl yl_wX12_141 yd_yX12_told, fun _ _ _ => trivial⟩, fun _ h => absurd h List.not_mem_nil⟩⟩) (xn_1030) (xs_1030) (by decide +kernel) (List.forall_mem_cons.mpr ⟨xw_1030_0_0, List.forall_mem_cons.mpr ⟨xw_1030_0_1, List.forall_mem_cons.mpr ⟨xw_1030_0_2, fun _ h => absurd h List.not_mem_nil⟩⟩⟩) (⟨List.forall_mem_cons.mpr ⟨xw_1030_1_0, List.forall_mem_cons.mpr ⟨xw_1030_1_1, fun _ h => absurd h List.not_mem_nil⟩⟩, trivial⟩)
noncomputable def xf_1031 : ys_F := (yw_f500 0, yw_r500)
noncomputable def xk_1031 : ys_K := (((yX12_end, cX12_end, 1, (some .int)), (0, 0)), ([.inr (some 0)], ([] ++ yw_e500, []), xf_1031), ([([], [], ((ys_fs xf_1031.1 [(0, 0, .inl (.inl ([], 0)))]), xf_1031.2), some (.inl (.inl ([(22, 1)], 0))))], []))
noncomputable def xq_1031 : yt_Q := (yz_X12_end, (yl_flX12, yl_ciX12, yl_cjX12, yl_cpX12, yl_cqX12), [], [])
noncomputable def xa_1031 : List yt_CE := []
theorem xc_1031 {l : Launch} {D : va_G} {cT : Nat → ClassId} {tys : List (ClassId × FieldType)} (hty : yx_Ty tys cT) : yx_C l D cT tys yw_s500 xk_1031 := yx_method (calls := xa_1031) (Z := xq_1031) 300 (by decide +kernel) yz_X12_end_ok hty (yl_lkX12 _) (yl_cqkX12 _) (fun _ h => absurd h List.not_mem_nil) (by decide +kernel)
noncomputable def yw_s515 : List ys_C := [.inl 12, .inr (0, 40, []), .inr (0, 40, []), .inr (0, 40, []), .inr (0, 12, []), .inr (0, 12, []), .inr (0, 12, [])]
noncomputable def yw_f515 (n : Nat) : List (List ys_V) := [[.inl (.inl ([(n + 0, 1)], 0)), .inl (.inl ([(n + 1, 1)], 0)), .inr (some 1), .inr (some 2), .inr (some 3), .inr (some 7), .inl (.inl ([(n + 2, 1)], 0)), .inr (some 8), .inr (some 9), .inr (some 10), .inr (some 11), .inl (.inl ([(n + 3, 1)], 0)), .inl (.inl ([(n + 4, 1)], 0)), .inr (some 12), .inr (some 13), .inr (some 14), .inl (.inr ([(n + 5, 1)], 0)), .inl (.inr ([(n + 6, 1)], 0)), .inl (.inr ([(n + 7, 1)], 0)), .inl (.inl ([(n + 8, 1)], 0)), .inl (.inr ([(n + 9, 1)], 0)), .inl (.inr ([(n + 10, 1)], 0)), .inl (.inr ([(n + 11, 1)], 0)), .inl (.inr ([(n + 12, 1)], 0)), .inr (some 15), .inr (some 16), .inl (.inl ([(n + 13, 1)], 0)), .inr (some 17), .inl (.inr ([(n + 14, 1)], 0)), .inl (.inr ([(n + 15, 1)], 0)), .inl (.inr ([(n + 16, 1)], 0)), .inl (.inr ([(n + 17, 1)], 0)), .inl (.inr ([(n + 18, 1)], 0)), .inr (some 4), .inr (some 5), .inr (some 6), .inl (.inl ([(n + 19, 1)], 0)), .inl (.inl ([(n + 20, 1)], 0)), .inr (some 18), .inr (some 19), .inr (some 20), .inr (some 21), .inr (some 22), .inl (.inl ([(n + 21, 1)], 0)), .inl (.inl ([(n + 22, 1)], 0)), .inr (some 23), .inl (.inl ([(n + 23, 1)], 0)), .inr (some 24), .inr (some 25), .inr (some 26), .inr (some 27), .inl (.inl ([(n + 24, 1)], 0)), .inr (some 28), .inr (some 29), .inr (some 30), .inr (some 31), .inr (some 32), .inr (some 33), .inr (some 34), .inr (some 35), .inr (some 36)], [], [], [], [], [], []]
noncomputable def yw_e515 : ys_E := [((-2147483648), 2147483647), ((-2147483648), 2147483647), (0, 40), ((-2147483648), 2147483647), (0, 4), ((-9223372036854775808), 9223372036854775807), ((-9223372036854775808), 9223372036854775807), ((-9223372036854775808), 9223372036854775807), (0, 1), ((-4000), 4000), ((-4000), 4000), ((-9223372036854775808), 9223372036854775807), ((-9223372036854775808), 9223372036854775807), (0, 12), ((-9223372036854775808), 9223372036854775807), ((-9223372036854775808), 9223372036854775807), ((-9223372036854775808), 9223372036854775807), ((-9223372036854775808), 9223372036854775807), ((-9223372036854775808), 9223372036854775807), (0, 12), ((-2147483648), 2147483647), (0, 12), ((-2147483648), 2147483647), (0, 40), (0, 40)]
noncomputable def yw_r515 : List ys_R := [((0, 0), []), (((-300), 1000), []), (((-300), 1000), []), (((-300), 1000), []), (((-2147483648), 2147483647), []), (((-2147483648), 2147483647), []), (((-2147483648), 2147483647), [])]
noncomputable def xf_1032 : ys_F := (yw_f515 0, yw_r515)
noncomputable def xk_1032 : ys_K := (((yX12_halve, cX12_halve, 10, (some .int)), (1, 31)), ([.inr (some 0)], ([] ++ yw_e515, []), xf_1032), ([([((-2147483648), 2147483647), ((-2147483648), 0), ((-2147483648), 2147483647)], [], ((ys_fs xf_1032.1 [(0, 0, .inl (.inl ([], 0))), (0, 1, .inl (.inl ([(26, 1)], 0))), (0, 37, .inl (.inl ([(27, 1)], 0)))]), xf_1032.2), some (.inl (.inl ([(25, 1)], 0))))], []))
noncomputable def xq_1032 : yt_Q := (yz_X12_halve, (yl_flX12, yl_ciX12, yl_cjX12, yl_cpX12, yl_cqX12), [(32, ([(0, 4095), ((-2147483648), 2147483647), (0, 40)], [([(19, 1)], (-1))], ((ys_fs xf_1032.1 [(0, 0, .inl (.inl ([], 0)))]), xf_1032.2), [(0, .inr (some 0)), (1, .inl (.inl ([(25, 1)], 0))), (2, .inl (.inl ([(26, 1)], 0))), (3, .inl (.inl ([(27, 1)], 0)))], [], ([(27, (-15))], 614)), [], false), (52, ([(0, 4095), ((-2147483648), 2147483647), (0, 39), ((-2147483648), 2147483647), ((-2147483648), 2147483647), (0, 4095), (0, 12)], [([(2, 1)], (-1)), ([(19, 1)], (-1))], ((ys_fs xf_1032.1 [(0, 0, .inl (.inl ([], 0)))]), xf_1032.2), [(0, .inr (some 0)), (1, .inl (.inl ([(25, 1)], 0))), (2, .inl (.inl ([(26, 1)], 0))), (3, .inl (.inl ([(27, 1)], 0))), (4, .inl (.inl ([(28, 1)], 0))), (5, .inl (.inl ([(29, 1)], 0))), (6, .inl (.inl ([(30, 1)], 0))), (7, .inl (.inl ([(31, 1)], 0)))], [], ([(27, (-15)), (31, (-1))], 612)), [], false)], [])
noncomputable def xa_1032 : List yt_CE := [(((141, false), (0, false, [0, 1, 2, 3, 7, 8, 9, 10, 11, 12, 13, 14, 15, 16, 17, 4, 5, 6, 18, 19, 20, 21, 22, 23, 24, 25, 26, 27, 28, 29, 30, 31, 32, 33, 34, 35, 36])), (yw_s500, xk_1002)), (((318, true), (0, false, [])), (yw_s2, xk_1021))]
theorem xc_1032 {l : Launch} {D : va_G} {cT : Nat → ClassId} {tys : List (ClassId × FieldType)} (hty : yx_Ty tys cT) : yx_C l D cT tys yw_s515 xk_1032 := yx_method (calls := xa_1032) (Z := xq_1032) 300 (by decide +kernel) yz_X12_halve_ok hty (yl_lkX12 _) (yl_cqkX12 _) (List.forall_mem_cons.mpr ⟨⟨xc_1002 hty, yg_CLv rfl rfl rfl yl_wX12_141 yd_yX12_told⟩, List.forall_mem_cons.mpr ⟨⟨xc_1021 hty, yg_CLs yl_wX12_318 yd_yX12_says⟩, fun _ h => absurd h List.not_mem_nil⟩⟩) (by decide +kernel)
noncomputable def xf_1033 : ys_F := (yw_f511 4, yw_r511)
noncomputable def xk_1033 : ys_K := (((yX12_isHalf, cX12_isHalf, 10, (some .boolean)), (2, 50)), ([.inr (some 0), .inl (.inl ([(0, 1)], 0)), .inl (.inl ([(1, 1)], 0)), .inl (.inl ([(2, 1)], 0)), .inl (.inl ([(3, 1)], 0))], ([(0, 39), (0, 39), (0, 39), (0, 100)] ++ yw_e511, []), xf_1033), ([([], [], (xf_1033.1, xf_1033.2), some (.inl (.inl ([], 0)))), ([], [], (xf_1033.1, xf_1033.2), some (.inl (.inl ([], 1))))], []))
noncomputable def xq_1033 : yt_Q := (yz_X12_isHalf, (yl_flX12, yl_ciX12, yl_cjX12, yl_cpX12, yl_cqX12), [(9, ([((-2147483648), 2147483647), ((-2147483648), 2147483647), (0, 40)], [], (xf_1033.1, xf_1033.2), [(0, .inr (some 0)), (1, .inl (.inl ([(0, 1)], 0))), (2, .inl (.inl ([(1, 1)], 0))), (3, .inl (.inl ([(2, 1)], 0))), (4, .inl (.inl ([(3, 1)], 0))), (5, .inl (.inl ([(29, 1)], 0))), (6, .inl (.inl ([(30, 1)], 0))), (7, .inl (.inl ([(31, 1)], 0)))], [], ([(31, (-1))], 40)), [], false)], [])
noncomputable def xa_1033 : List yt_CE := [(((174, false), (11, false, [0, 1, 2, 3, 4, 5, 6, 7, 8, 9, 10, 11, 12, 13, 14, 15, 16, 17, 18, 19, 20, 21, 22, 23, 24, 25, 26, 27, 28, 29, 30, 31, 32, 33, 34, 35, 36])), (yw_s503, xk_1009))]
noncomputable def xT_1033 : yt_Tb := fun d => match d with
  | 11 => xP_1009
  | _ => fun _ _ _ _ => True
theorem xc_1033 {l : Launch} {D : va_G} {cT : Nat → ClassId} {tys : List (ClassId × FieldType)} (hty : yx_Ty tys cT) : yx_C l D cT tys yw_s511 xk_1033 := yx_methodT (tb := xT_1033) (fun _ _ _ _ => trivial) (calls := xa_1033) (Z := xq_1033) 300 (by decide +kernel) yz_X12_isHalf_ok hty (yl_lkX12 _) (yl_cqkX12 _) (List.forall_mem_cons.mpr ⟨⟨xc_1009 hty, yg_CLv rfl rfl rfl yl_wX12_174 yd_yX12_area⟩, fun _ h => absurd h List.not_mem_nil⟩) (by decide +kernel)
noncomputable def xf_1034 : ys_F := (yw_f511 0, yw_r511)
noncomputable def xk_1034 : ys_K := (((yX12_halves, cX12_halves, 5, (some .int)), (3, 79)), ([.inr (some 0)], ([] ++ yw_e511, []), xf_1034), ([([((-6), 3939)], [], ((ys_fs xf_1034.1 [(0, 0, .inl (.inl ([], 0)))]), xf_1034.2), some (.inl (.inl ([(25, 1)], 0))))], []))
noncomputable def xq_1034 : yt_Q := (yz_X12_halves, (yl_flX12, yl_ciX12, yl_cjX12, yl_cpX12, yl_cqX12), [(19, ([(0, 40), (0, 40), (0, 40)], [], ((ys_fs xf_1034.1 [(0, 0, .inl (.inl ([], 0)))]), xf_1034.2), [(0, .inr (some 0)), (1, .inl (.inl ([(25, 1)], 0))), (2, .inl (.inl ([(26, 1)], 0))), (3, .inl (.inl ([(27, 1)], 0)))], [], ([(27, (-42))], 1721)), [], false), (32, ([(0, 40), (0, 40), (0, 39), (1, 40)], [([(2, 1)], (-1))], ((ys_fs xf_1034.1 [(0, 0, .inl (.inl ([], 0)))]), xf_1034.2), [(0, .inr (some 0)), (1, .inl (.inl ([(25, 1)], 0))), (2, .inl (.inl ([(26, 1)], 0))), (3, .inl (.inl ([(27, 1)], 0))), (4, .inl (.inl ([(28, 1)], 0)))], [], ([(27, (-42)), (28, (-1))], 1720)), [], false)], [])
noncomputable def xa_1034 : List yt_CE := [(((298, false), (1, false, [0, 3, 1, 2, 4, 5, 6, 7, 8, 9, 10, 11, 12, 13, 14, 15, 16, 17, 18, 19, 20, 21, 22, 23, 24, 25, 26, 27, 28, 29, 30, 31, 32, 33, 34, 35, 36])), (yw_s506, xk_1014)), (((178, false), (12, false, [0, 1, 2, 3, 4, 5, 6, 7, 8, 9, 10, 11, 12, 13, 14, 15, 16, 17, 18, 19, 20, 21, 22, 23, 24, 25, 26, 27, 28, 29, 30, 31, 32, 33, 34, 35, 36])), (yw_s503, xk_1007)), (((408, false), (0, false, [0, 1, 2, 3, 4, 5, 6, 7, 8, 9, 10, 11, 12, 13, 14, 15, 16, 17, 18, 19, 20, 21, 22, 23, 24, 25, 26, 27, 28, 29, 30, 31, 32, 33, 34, 35, 36])), (yw_s511, xk_1033))]
noncomputable def xT_1034 : yt_Tb := fun d => match d with
  | 1 => xP_1014
  | 12 => xP_1007
  | _ => fun _ _ _ _ => True
theorem xc_1034 {l : Launch} {D : va_G} {cT : Nat → ClassId} {tys : List (ClassId × FieldType)} (hty : yx_Ty tys cT) : yx_C l D cT tys yw_s511 xk_1034 := yx_methodT (tb := xT_1034) (fun _ _ _ _ => trivial) (calls := xa_1034) (Z := xq_1034) 300 (by decide +kernel) yz_X12_halves_ok hty (yl_lkX12 _) (yl_cqkX12 _) (List.forall_mem_cons.mpr ⟨⟨xc_1014 hty, yg_CLv rfl rfl rfl yl_wX12_298 yd_yX12_many⟩, List.forall_mem_cons.mpr ⟨⟨xc_1007 hty, yg_CLv rfl rfl rfl yl_wX12_178 yd_yX12_isAt⟩, List.forall_mem_cons.mpr ⟨⟨xc_1033 hty, yg_CLv rfl rfl rfl yl_wX12_408 yd_yX12_isHalf⟩, fun _ h => absurd h List.not_mem_nil⟩⟩⟩) (by decide +kernel)
noncomputable def xf_1035 : ys_F := (yw_f500 1, yw_r500)
noncomputable def xk_1035 : ys_K := (((yX12_learnt, cX12_learnt, 2, (some .long)), (0, 0)), ([.inr (some 0), .inl (.inl ([(0, 1)], 0))], ([((-2147483648), 2147483647)] ++ yw_e500, []), xf_1035), ([([((-9223372036854775808), 9223372036854775807)], [], ((ys_fs xf_1035.1 [(0, 0, .inl (.inl ([], 0)))]), xf_1035.2), some (.inl (.inr ([(26, 1)], 0))))], []))
noncomputable def xq_1035 : yt_Q := (yz_X12_learnt, (yl_flX12, yl_ciX12, yl_cjX12, yl_cpX12, yl_cqX12), [], [])
noncomputable def xa_1035 : List yt_CE := []
theorem xc_1035 {l : Launch} {D : va_G} {cT : Nat → ClassId} {tys : List (ClassId × FieldType)} (hty : yx_Ty tys cT) : yx_C l D cT tys yw_s500 xk_1035 := yx_method (calls := xa_1035) (Z := xq_1035) 300 (by decide +kernel) yz_X12_learnt_ok hty (yl_lkX12 _) (yl_cqkX12 _) (fun _ h => absurd h List.not_mem_nil) (by decide +kernel)
noncomputable def xf_1036 : ys_F := (yw_f501 1, yw_r501)
noncomputable def xk_1036 : ys_K := (((yX12_image, cX12_image, 3, (some .int)), (1, 25)), ([.inr (some 0), .inl (.inl ([(0, 1)], 0))], ([((-2147483648), 2147483647)] ++ yw_e501, []), xf_1036), ([([((-1), 0), ((-2147483648), 0)], [], ((ys_fs xf_1036.1 [(0, 0, .inl (.inl ([], 0))), (0, 1, .inl (.inl ([(27, 1)], 0)))]), xf_1036.2), some (.inl (.inl ([(26, 1)], 0))))], [8, 9, 10, 11, 12, 13]))
noncomputable def xq_1036 : yt_Q := (yz_X12_image, (yl_flX12, yl_ciX12, yl_cjX12, yl_cpX12, yl_cqX12), [(154, ([(0, 12)], [([(0, 1)], 0), ([(0, (-1))], 2)], ((ys_fs xf_1036.1 [(0, 0, .inl (.inl ([], 0)))]), xf_1036.2), [(0, .inr (some 0)), (1, .inl (.inl ([(0, 1)], 0))), (2, .inl (.inl ([(26, 1)], 0)))], [], ([(26, (-1))], 19)), [], true), (231, ([(0, 5)], [([(0, 1)], 0), ([(0, (-1))], 2)], ((ys_fs xf_1036.1 [(0, 0, .inl (.inl ([], 0)))]), xf_1036.2), [(0, .inr (some 0)), (1, .inl (.inl ([(0, 1)], 0))), (2, .inl (.inl ([(26, 1)], 0)))], [], ([(26, (-1))], 5)), [], true), (42, ([(0, 40)], [([(0, 1)], 0), ([(0, (-1))], 2)], ((ys_fs xf_1036.1 [(0, 0, .inl (.inl ([], 0)))]), xf_1036.2), [(0, .inr (some 0)), (1, .inl (.inl ([(0, 1)], 0))), (2, .inl (.inl ([(26, 1)], 0)))], [], ([(26, (-1))], 61)), [], true)], [true])
noncomputable def xa_1036 : List yt_CE := [(((133, true), (0, false, [])), (yw_s2, xk_1001)), (((141, false), (0, false, [0, 1, 2, 3, 4, 14, 15, 16, 17, 18, 19, 20, 21, 22, 23, 5, 6, 7, 24, 25, 26, 27, 28, 29, 30, 31, 32, 33, 34, 35, 36, 8, 9, 10, 11, 12, 13])), (yw_s500, xk_1002)), (((414, false), (0, false, [0, 1, 2, 3, 4, 14, 15, 16, 17, 18, 19, 20, 21, 22, 23, 5, 6, 7, 24, 25, 26, 27, 28, 29, 30, 31, 32, 33, 34, 35, 36, 8, 9, 10, 11, 12, 13])), (yw_s500, xk_1035))]
noncomputable def xv_1036 : List (List yt_VC) := [[(1000, ([((-2147483648), (-1)), ((-2147483648), 2147483647), ((-2147483648), 2147483647), (0, 40), ((-2147483648), 2147483647), (0, 4), ((-9223372036854775808), 9223372036854775807), ((-9223372036854775808), 9223372036854775807), ((-9223372036854775808), 9223372036854775807), (0, 1), ((-4000), 4000), ((-4000), 4000), ((-9223372036854775808), 9223372036854775807), ((-9223372036854775808), 9223372036854775807), (0, 12), ((-9223372036854775808), 9223372036854775807), ((-9223372036854775808), 9223372036854775807), ((-9223372036854775808), 9223372036854775807), ((-9223372036854775808), 9223372036854775807), ((-9223372036854775808), 9223372036854775807), (0, 12), ((-2147483648), 2147483647), (0, 12), ((-2147483648), 2147483647), (0, 40), (0, 40), ((-2147483648), 0)], []), [([], (-1)), ([(26, 1)], 0)], [], []),
   (1000, ([(3, 2147483647), ((-2147483648), 2147483647), ((-2147483648), 2147483647), (0, 40), ((-2147483648), 2147483647), (0, 4), ((-9223372036854775808), 9223372036854775807), ((-9223372036854775808), 9223372036854775807), ((-9223372036854775808), 9223372036854775807), (0, 1), ((-4000), 4000), ((-4000), 4000), ((-9223372036854775808), 9223372036854775807), ((-9223372036854775808), 9223372036854775807), (0, 12), ((-9223372036854775808), 9223372036854775807), ((-9223372036854775808), 9223372036854775807), ((-9223372036854775808), 9223372036854775807), ((-9223372036854775808), 9223372036854775807), ((-9223372036854775808), 9223372036854775807), (0, 12), ((-2147483648), 2147483647), (0, 12), ((-2147483648), 2147483647), (0, 40), (0, 40), ((-2147483648), 0)], []), [([], (-1)), ([(26, 1)], 0)], [], []),
   (2, ([(0, 2), ((-2147483648), 2147483647), ((-2147483648), 2147483647), (0, 40), ((-2147483648), 2147483647), (0, 4), ((-9223372036854775808), 9223372036854775807), ((-9223372036854775808), 9223372036854775807), ((-9223372036854775808), 9223372036854775807), (0, 1), ((-4000), 4000), ((-4000), 4000), ((-9223372036854775808), 9223372036854775807), ((-9223372036854775808), 9223372036854775807), (0, 12), ((-9223372036854775808), 9223372036854775807), ((-9223372036854775808), 9223372036854775807), ((-9223372036854775808), 9223372036854775807), ((-9223372036854775808), 9223372036854775807), ((-9223372036854775808), 9223372036854775807), (0, 12), ((-2147483648), 2147483647), (0, 12), ((-2147483648), 2147483647), (0, 40), (0, 40)], []), [([], 0)], [], [.inr (.inl (9, ([(0, 1)], 0), ([(3, 1)], 0))), .inr (.inl (8, ([(0, 1)], 0), ([], 1)))])],
  [(1, ([(0, 2), ((-2147483648), 2147483647), ((-2147483648), 2147483647), (0, 40), ((-2147483648), 2147483647), (0, 4), ((-9223372036854775808), 9223372036854775807), ((-9223372036854775808), 9223372036854775807), ((-9223372036854775808), 9223372036854775807), (0, 1), ((-4000), 4000), ((-4000), 4000), ((-9223372036854775808), 9223372036854775807), ((-9223372036854775808), 9223372036854775807), (0, 12), ((-9223372036854775808), 9223372036854775807), ((-9223372036854775808), 9223372036854775807), ((-9223372036854775808), 9223372036854775807), ((-9223372036854775808), 9223372036854775807), ((-9223372036854775808), 9223372036854775807), (0, 12), ((-2147483648), 2147483647), (0, 12), ((-2147483648), 2147483647), (0, 40), (0, 40), (0, 12)], [([(20, (-1)), (26, 1)], 0), ([(0, 1)], 0), ([(0, (-1))], 2)]), [([], 0)], [], []),
   (0, ([(0, 2), ((-2147483648), 2147483647), ((-2147483648), 2147483647), (0, 40), ((-2147483648), 2147483647), (0, 4), ((-9223372036854775808), 9223372036854775807), ((-9223372036854775808), 9223372036854775807), ((-9223372036854775808), 9223372036854775807), (0, 1), ((-4000), 4000), ((-4000), 4000), ((-9223372036854775808), 9223372036854775807), ((-9223372036854775808), 9223372036854775807), (0, 12), ((-9223372036854775808), 9223372036854775807), ((-9223372036854775808), 9223372036854775807), ((-9223372036854775808), 9223372036854775807), ((-9223372036854775808), 9223372036854775807), ((-9223372036854775808), 9223372036854775807), (1, 12), ((-2147483648), 2147483647), (0, 12), ((-2147483648), 2147483647), (0, 40), (0, 40), (0, 11), ((-2147483648), 2147483647), ((-2147483648), 2147483647), ((-2147483648), 2147483647)], [([(20, 1), (26, (-1))], (-1)), ([(0, 1)], 0), ([(0, (-1))], 2)]), [([(26, 1)], 1)], [], [.inr (.inl (12, ([(0, 36), (26, 3)], 2), ([(29, 1)], 0))), .inl (.inl (7, ([(26, 1)], 0), 29)), .inr (.inl (12, ([(0, 36), (26, 3)], 1), ([(28, 1)], 0))), .inl (.inl (6, ([(26, 1)], 0), 28)), .inr (.inl (12, ([(26, 3), (0, 36)], 0), ([(27, 1)], 0))), .inl (.inl (5, ([(26, 1)], 0), 27))])],
  [(1000, ([(0, 2), ((-2147483648), 2147483647), ((-2147483648), 2147483647), (0, 40), ((-2147483648), 2147483647), (0, 4), ((-9223372036854775808), 9223372036854775807), ((-9223372036854775808), 9223372036854775807), ((-9223372036854775808), 9223372036854775807), (0, 1), ((-4000), 4000), ((-4000), 4000), ((-9223372036854775808), 9223372036854775807), ((-9223372036854775808), 9223372036854775807), (0, 12), ((-9223372036854775808), 9223372036854775807), ((-9223372036854775808), 9223372036854775807), ((-9223372036854775808), 9223372036854775807), ((-9223372036854775808), 9223372036854775807), ((-9223372036854775808), 9223372036854775807), (0, 12), ((-2147483648), 2147483647), (0, 12), ((-2147483648), 2147483647), (0, 40), (0, 40), (5, 5), ((-2147483648), 0)], [([(0, 1)], 0), ([(0, (-1))], 2)]), [([], 0), ([(27, 1)], 0)], [], []),
   (1, ([(0, 2), ((-2147483648), 2147483647), ((-2147483648), 2147483647), (0, 40), ((-2147483648), 2147483647), (0, 4), ((-9223372036854775808), 9223372036854775807), ((-9223372036854775808), 9223372036854775807), ((-9223372036854775808), 9223372036854775807), (0, 1), ((-4000), 4000), ((-4000), 4000), ((-9223372036854775808), 9223372036854775807), ((-9223372036854775808), 9223372036854775807), (0, 12), ((-9223372036854775808), 9223372036854775807), ((-9223372036854775808), 9223372036854775807), ((-9223372036854775808), 9223372036854775807), ((-9223372036854775808), 9223372036854775807), ((-9223372036854775808), 9223372036854775807), (0, 12), ((-2147483648), 2147483647), (0, 12), ((-2147483648), 2147483647), (0, 40), (0, 40), (0, 4), ((-9223372036854775808), 9223372036854775807)], [([(0, 1)], 0), ([(0, (-1))], 2)]), [([(26, 1)], 1)], [], [.inr (.inl (13, ([(26, 1), (0, 5)], 0), ([(27, 1)], 0)))])],
  [(0, ([(0, 2), ((-2147483648), 2147483647), ((-2147483648), 2147483647), (0, 40), ((-2147483648), 2147483647), (0, 4), ((-9223372036854775808), 9223372036854775807), ((-9223372036854775808), 9223372036854775807), ((-9223372036854775808), 9223372036854775807), (0, 1), ((-4000), 4000), ((-4000), 4000), ((-9223372036854775808), 9223372036854775807), ((-9223372036854775808), 9223372036854775807), (0, 12), ((-9223372036854775808), 9223372036854775807), ((-9223372036854775808), 9223372036854775807), ((-9223372036854775808), 9223372036854775807), ((-9223372036854775808), 9223372036854775807), ((-9223372036854775808), 9223372036854775807), (0, 12), ((-2147483648), 2147483647), (0, 12), ((-2147483648), 2147483647), (0, 40), (0, 40), (0, 40)], [([(3, (-1)), (26, 1)], 0), ([(0, 1)], 0), ([(0, (-1))], 2)]), [([], 0)], [], [.inr (.inl (11, ([(0, 1)], 0), ([(20, 1)], 0)))]),
   (2, ([(0, 2), ((-2147483648), 2147483647), ((-2147483648), 2147483647), (1, 40), ((-2147483648), 2147483647), (0, 4), ((-9223372036854775808), 9223372036854775807), ((-9223372036854775808), 9223372036854775807), ((-9223372036854775808), 9223372036854775807), (0, 1), ((-4000), 4000), ((-4000), 4000), ((-9223372036854775808), 9223372036854775807), ((-9223372036854775808), 9223372036854775807), (0, 12), ((-9223372036854775808), 9223372036854775807), ((-9223372036854775808), 9223372036854775807), ((-9223372036854775808), 9223372036854775807), ((-9223372036854775808), 9223372036854775807), ((-9223372036854775808), 9223372036854775807), (0, 12), ((-2147483648), 2147483647), (0, 12), ((-2147483648), 2147483647), (0, 40), (0, 40), (0, 39), ((-300), 1000), ((-300), 1000), ((-300), 1000), (0, 1000)], [([(3, 1), (26, (-1))], (-1)), ([(0, 1)], 0), ([(0, (-1))], 2)]), [([(26, 1)], 1)], [], [.inr (.inl (10, ([(0, 160), (26, 4)], 3), ([(30, 1)], 0))), .inl (.inl (4, ([(26, 1)], 0), 30)), .inr (.inl (10, ([(0, 160), (26, 4)], 2), ([(29, 1)], 0))), .inl (.inl (3, ([(26, 1)], 0), 29)), .inr (.inl (10, ([(0, 160), (26, 4)], 1), ([(28, 1)], 0))), .inl (.inl (2, ([(26, 1)], 0), 28)), .inr (.inl (10, ([(26, 4), (0, 160)], 0), ([(27, 1)], 0))), .inl (.inl (1, ([(26, 1)], 0), 27))])]]
noncomputable def xG_1036 : Nat → yt_G → (Nat → Int) → yt_G → Prop
  | 0, g0, r, g => ((yq_num (g 10) ∧ (g 8) = yq_set (g0 8) ((r 0)).toNat 1 ∧ (g 11) = yq_set (g0 11) ((r 0)).toNat ((1 * (r 20) + 0) + 0)) ∧ (g 9) = yq_set (g0 9) ((r 0)).toNat ((1 * (r 3) + 0) + 0)) ∧ (g 10) = yq_ib (r 0) ((1 * (r 3) + 0) + 0) (g0 1) (g0 2) (g0 3) (g0 4) (g0 10)
  | 1, g0, r, g => ((yq_num (g 10) ∧ (g 8) = yq_set (g0 8) ((r 0)).toNat 1 ∧ (g 11) = yq_set (g0 11) ((r 0)).toNat ((1 * (r 20) + 0) + 0)) ∧ (g 9) = yq_set (g0 9) ((r 0)).toNat ((1 * (r 3) + 0) + 0)) ∧ (g 10) = yq_ib (r 0) ((1 * (r 3) + 0) + 0) (g0 1) (g0 2) (g0 3) (g0 4) (g0 10)
  | 2, g0, r, g => ((yq_num (g 10) ∧ (g 8) = yq_set (g0 8) ((r 0)).toNat 1 ∧ (g 11) = (g0 11)) ∧ (g 9) = yq_set (g0 9) ((r 0)).toNat ((1 * (r 3) + 0) + 0)) ∧ (g 10) = yq_ib (r 0) ((1 * (r 26) + 0) + 0) (g0 1) (g0 2) (g0 3) (g0 4) (g0 10) ∧ ((1 * (r 26) + 0) + 0) ≤ ((1 * (r 3) + 0) + 0)
  | _, _, _, _ => True
noncomputable def xP_1036 : yt_Ph
  | 0, r, g0, g => ((yq_num (g 10) ∧ (r 26) = yq_imr (r 0) ∧ (g 8) = yq_imt (g0 8) (r 0) ∧ (g 11) 0 = yq_kp (r 0) 0 ((1 * (r 20) + 0) + 0) ((g0 11) 0) ∧ (g 11) 1 = yq_kp (r 0) 1 ((1 * (r 20) + 0) + 0) ((g0 11) 1) ∧ (g 11) 2 = yq_kp (r 0) 2 ((1 * (r 20) + 0) + 0) ((g0 11) 2)) ∧ (g 9) 0 = yq_kp (r 0) 0 ((1 * (r 3) + 0) + 0) ((g0 9) 0) ∧ (g 9) 1 = yq_kp (r 0) 1 ((1 * (r 3) + 0) + 0) ((g0 9) 1) ∧ (g 9) 2 = yq_kp (r 0) 2 ((1 * (r 3) + 0) + 0) ((g0 9) 2)) ∧ (g 10) = yq_im (r 0) ((1 * (r 3) + 0) + 0) (g0 1) (g0 2) (g0 3) (g0 4) (g0 10)
  | _, _, _, _ => True
noncomputable def xR_1036 : yt_Ps := fun r g0 => yq_num (g0 10)
noncomputable def xT_1036 : yt_Tb := fun d => match d with
  | _ => fun _ _ _ _ => True
noncomputable def xU_1036 : Nat → yt_Ps := fun d => match d with
  | _ => fun _ _ => True
theorem xw_1036_0_0 : yt_hold xT_1036 xk_1036 xq_1036.2.2.1 xG_1036 xP_1036 xU_1036 26 xk_1036.2.1.2.2.2 (fun g0 r g => xR_1036 r g0 ∧ g = g0) (1000, ([((-2147483648), (-1)), ((-2147483648), 2147483647), ((-2147483648), 2147483647), (0, 40), ((-2147483648), 2147483647), (0, 4), ((-9223372036854775808), 9223372036854775807), ((-9223372036854775808), 9223372036854775807), ((-9223372036854775808), 9223372036854775807), (0, 1), ((-4000), 4000), ((-4000), 4000), ((-9223372036854775808), 9223372036854775807), ((-9223372036854775808), 9223372036854775807), (0, 12), ((-9223372036854775808), 9223372036854775807), ((-9223372036854775808), 9223372036854775807), ((-9223372036854775808), 9223372036854775807), ((-9223372036854775808), 9223372036854775807), ((-9223372036854775808), 9223372036854775807), (0, 12), ((-2147483648), 2147483647), (0, 12), ((-2147483648), 2147483647), (0, 40), (0, 40), ((-2147483648), 0)], []), [([], (-1)), ([(26, 1)], 0)], [], []) := by
  intro g0 r gi g hok hh hars hfr hG
  have b0 : (-2147483648) ≤ r 0 ∧ r 0 ≤ (-1) := hok.1 0 ((-2147483648), (-1)) rfl
  have b3 : 0 ≤ r 3 ∧ r 3 ≤ 40 := hok.1 3 (0, 40) rfl
  have b26 : (-2147483648) ≤ r 26 ∧ r 26 ≤ 0 := hok.1 26 ((-2147483648), 0) rfl
  obtain ⟨hG, hgi⟩ := hG
  have hG : yq_num (g0 10) := hG
  have hh : g = gi := hh
  subst hh
  try rw [← hgi] at hG
  refine yt_dalt (by decide) (by decide) ?_
  rw [show xk_1036.2.1.2.1.1.length = 26 from rfl]
  show ((yq_num (g 10) ∧ ((0 : Int) + (-1)) = yq_imr ((1 * r 0 + 0) + 0) ∧ (g 8) = yq_imt (g0 8) ((1 * r 0 + 0) + 0) ∧ (g 11) 0 = yq_kp ((1 * r 0 + 0) + 0) 0 ((1 * ((1 * r 20 + 0) + 0) + 0) + 0) ((g0 11) 0) ∧ (g 11) 1 = yq_kp ((1 * r 0 + 0) + 0) 1 ((1 * ((1 * r 20 + 0) + 0) + 0) + 0) ((g0 11) 1) ∧ (g 11) 2 = yq_kp ((1 * r 0 + 0) + 0) 2 ((1 * ((1 * r 20 + 0) + 0) + 0) + 0) ((g0 11) 2)) ∧ (g 9) 0 = yq_kp ((1 * r 0 + 0) + 0) 0 ((1 * ((1 * r 3 + 0) + 0) + 0) + 0) ((g0 9) 0) ∧ (g 9) 1 = yq_kp ((1 * r 0 + 0) + 0) 1 ((1 * ((1 * r 3 + 0) + 0) + 0) + 0) ((g0 9) 1) ∧ (g 9) 2 = yq_kp ((1 * r 0 + 0) + 0) 2 ((1 * ((1 * r 3 + 0) + 0) + 0) + 0) ((g0 9) 2)) ∧ (g 10) = yq_im ((1 * r 0 + 0) + 0) ((1 * ((1 * r 3 + 0) + 0) + 0) + 0) (g0 1) (g0 2) (g0 3) (g0 4) (g0 10)
  try simp only [Int.one_mul, Int.zero_add, Int.add_zero]
  try rw [← hfr 1 (by decide)]
  try rw [← hfr 2 (by decide)]
  try rw [← hfr 3 (by decide)]
  try rw [← hfr 4 (by decide)]
  try rw [← hfr 10 (by decide)]
  refine ⟨?_, ?_⟩
  · refine ⟨?_, ?_⟩
    · refine ⟨?_, ?_, ?_, ?_, ?_, ?_⟩
      · exact hG
      · unfold yq_imr
        repeat' split
        all_goals omega
      · unfold yq_imt
        rw [if_neg (by omega)]
        rw [hgi]
      · rw [hgi]
        unfold yq_kp
        repeat' split
        all_goals omega
      · rw [hgi]
        unfold yq_kp
        repeat' split
        all_goals omega
      · rw [hgi]
        unfold yq_kp
        repeat' split
        all_goals omega
    · refine ⟨?_, ?_, ?_⟩
      · rw [hgi]
        unfold yq_kp
        repeat' split
        all_goals omega
      · rw [hgi]
        unfold yq_kp
        repeat' split
        all_goals omega
      · rw [hgi]
        unfold yq_kp
        repeat' split
        all_goals omega
  · unfold yq_im
    rw [if_neg (by omega)]
    rw [hgi]
theorem xw_1036_0_1 : yt_hold xT_1036 xk_1036 xq_1036.2.2.1 xG_1036 xP_1036 xU_1036 26 xk_1036.2.1.2.2.2 (fun g0 r g => xR_1036 r g0 ∧ g = g0) (1000, ([(3, 2147483647), ((-2147483648), 2147483647), ((-2147483648), 2147483647), (0, 40), ((-2147483648), 2147483647), (0, 4), ((-9223372036854775808), 9223372036854775807), ((-9223372036854775808), 9223372036854775807), ((-9223372036854775808), 9223372036854775807), (0, 1), ((-4000), 4000), ((-4000), 4000), ((-9223372036854775808), 9223372036854775807), ((-9223372036854775808), 9223372036854775807), (0, 12), ((-9223372036854775808), 9223372036854775807), ((-9223372036854775808), 9223372036854775807), ((-9223372036854775808), 9223372036854775807), ((-9223372036854775808), 9223372036854775807), ((-9223372036854775808), 9223372036854775807), (0, 12), ((-2147483648), 2147483647), (0, 12), ((-2147483648), 2147483647), (0, 40), (0, 40), ((-2147483648), 0)], []), [([], (-1)), ([(26, 1)], 0)], [], []) := by
  intro g0 r gi g hok hh hars hfr hG
  have b0 : 3 ≤ r 0 ∧ r 0 ≤ 2147483647 := hok.1 0 (3, 2147483647) rfl
  have b3 : 0 ≤ r 3 ∧ r 3 ≤ 40 := hok.1 3 (0, 40) rfl
  have b26 : (-2147483648) ≤ r 26 ∧ r 26 ≤ 0 := hok.1 26 ((-2147483648), 0) rfl
  obtain ⟨hG, hgi⟩ := hG
  have hG : yq_num (g0 10) := hG
  have hh : g = gi := hh
  subst hh
  try rw [← hgi] at hG
  refine yt_dalt (by decide) (by decide) ?_
  rw [show xk_1036.2.1.2.1.1.length = 26 from rfl]
  show ((yq_num (g 10) ∧ ((0 : Int) + (-1)) = yq_imr ((1 * r 0 + 0) + 0) ∧ (g 8) = yq_imt (g0 8) ((1 * r 0 + 0) + 0) ∧ (g 11) 0 = yq_kp ((1 * r 0 + 0) + 0) 0 ((1 * ((1 * r 20 + 0) + 0) + 0) + 0) ((g0 11) 0) ∧ (g 11) 1 = yq_kp ((1 * r 0 + 0) + 0) 1 ((1 * ((1 * r 20 + 0) + 0) + 0) + 0) ((g0 11) 1) ∧ (g 11) 2 = yq_kp ((1 * r 0 + 0) + 0) 2 ((1 * ((1 * r 20 + 0) + 0) + 0) + 0) ((g0 11) 2)) ∧ (g 9) 0 = yq_kp ((1 * r 0 + 0) + 0) 0 ((1 * ((1 * r 3 + 0) + 0) + 0) + 0) ((g0 9) 0) ∧ (g 9) 1 = yq_kp ((1 * r 0 + 0) + 0) 1 ((1 * ((1 * r 3 + 0) + 0) + 0) + 0) ((g0 9) 1) ∧ (g 9) 2 = yq_kp ((1 * r 0 + 0) + 0) 2 ((1 * ((1 * r 3 + 0) + 0) + 0) + 0) ((g0 9) 2)) ∧ (g 10) = yq_im ((1 * r 0 + 0) + 0) ((1 * ((1 * r 3 + 0) + 0) + 0) + 0) (g0 1) (g0 2) (g0 3) (g0 4) (g0 10)
  try simp only [Int.one_mul, Int.zero_add, Int.add_zero]
  try rw [← hfr 1 (by decide)]
  try rw [← hfr 2 (by decide)]
  try rw [← hfr 3 (by decide)]
  try rw [← hfr 4 (by decide)]
  try rw [← hfr 10 (by decide)]
  refine ⟨?_, ?_⟩
  · refine ⟨?_, ?_⟩
    · refine ⟨?_, ?_, ?_, ?_, ?_, ?_⟩
      · exact hG
      · unfold yq_imr
        repeat' split
        all_goals omega
      · unfold yq_imt
        rw [if_neg (by omega)]
        rw [hgi]
      · rw [hgi]
        unfold yq_kp
        repeat' split
        all_goals omega
      · rw [hgi]
        unfold yq_kp
        repeat' split
        all_goals omega
      · rw [hgi]
        unfold yq_kp
        repeat' split
        all_goals omega
    · refine ⟨?_, ?_, ?_⟩
      · rw [hgi]
        unfold yq_kp
        repeat' split
        all_goals omega
      · rw [hgi]
        unfold yq_kp
        repeat' split
        all_goals omega
      · rw [hgi]
        unfold yq_kp
        repeat' split
        all_goals omega
  · unfold yq_im
    rw [if_neg (by omega)]
    rw [hgi]
theorem xw_1036_0_2 : yt_hold xT_1036 xk_1036 xq_1036.2.2.1 xG_1036 xP_1036 xU_1036 26 xk_1036.2.1.2.2.2 (fun g0 r g => xR_1036 r g0 ∧ g = g0) (2, ([(0, 2), ((-2147483648), 2147483647), ((-2147483648), 2147483647), (0, 40), ((-2147483648), 2147483647), (0, 4), ((-9223372036854775808), 9223372036854775807), ((-9223372036854775808), 9223372036854775807), ((-9223372036854775808), 9223372036854775807), (0, 1), ((-4000), 4000), ((-4000), 4000), ((-9223372036854775808), 9223372036854775807), ((-9223372036854775808), 9223372036854775807), (0, 12), ((-9223372036854775808), 9223372036854775807), ((-9223372036854775808), 9223372036854775807), ((-9223372036854775808), 9223372036854775807), ((-9223372036854775808), 9223372036854775807), ((-9223372036854775808), 9223372036854775807), (0, 12), ((-2147483648), 2147483647), (0, 12), ((-2147483648), 2147483647), (0, 40), (0, 40)], []), [([], 0)], [], [.inr (.inl (9, ([(0, 1)], 0), ([(3, 1)], 0))), .inr (.inl (8, ([(0, 1)], 0), ([], 1)))]) := by
  intro g0 r gi g hok hh hars hfr hG
  have b0 : 0 ≤ r 0 ∧ r 0 ≤ 2 := hok.1 0 (0, 2) rfl
  have b3 : 0 ≤ r 3 ∧ r 3 ≤ 40 := hok.1 3 (0, 40) rfl
  obtain ⟨hG, hgi⟩ := hG
  have hG : yq_num (g0 10) := hG
  obtain ⟨h0, hh, e0⟩ := hh
  have e0 : g = ys_gup h0 9 (((1 * r 0 + 0) + 0)).toNat ((1 * r 3 + 0) + 0) := e0
  obtain ⟨h1, hh, e1⟩ := hh
  have e1 : h0 = ys_gup h1 8 (((1 * r 0 + 0) + 0)).toNat ((0 : Int) + 1) := e1
  have hh : h1 = gi := hh
  subst hh
  try rw [← hgi] at hG
  have z_h0_1 : h0 1 = h1 1 := ((show h0 1 = h1 1 from by rw [e1]; exact if_neg (by decide)))
  have z_h0_2 : h0 2 = h1 2 := ((show h0 2 = h1 2 from by rw [e1]; exact if_neg (by decide)))
  have z_h0_3 : h0 3 = h1 3 := ((show h0 3 = h1 3 from by rw [e1]; exact if_neg (by decide)))
  have z_h0_4 : h0 4 = h1 4 := ((show h0 4 = h1 4 from by rw [e1]; exact if_neg (by decide)))
  have z_h0_10 : h0 10 = h1 10 := ((show h0 10 = h1 10 from by rw [e1]; exact if_neg (by decide)))
  have z_g_1 : g 1 = h1 1 := ((show g 1 = h0 1 from by rw [e0]; exact if_neg (by decide))).trans z_h0_1
  have z_g_2 : g 2 = h1 2 := ((show g 2 = h0 2 from by rw [e0]; exact if_neg (by decide))).trans z_h0_2
  have z_g_3 : g 3 = h1 3 := ((show g 3 = h0 3 from by rw [e0]; exact if_neg (by decide))).trans z_h0_3
  have z_g_4 : g 4 = h1 4 := ((show g 4 = h0 4 from by rw [e0]; exact if_neg (by decide))).trans z_h0_4
  have z_g_10 : g 10 = h1 10 := ((show g 10 = h0 10 from by rw [e0]; exact if_neg (by decide))).trans z_h0_10
  refine yt_dcut (by decide) rfl ?_ ?_
  · exact fun f hf => absurd hf List.not_mem_nil
  · rw [show xk_1036.2.1.2.1.1.length = 26 from rfl]
    show ((yq_num (g 10) ∧ (g 8) = yq_set (g0 8) (((1 * r 0 + 0) + 0)).toNat 1 ∧ (g 11) = (g0 11)) ∧ (g 9) = yq_set (g0 9) (((1 * r 0 + 0) + 0)).toNat ((1 * ((1 * r 3 + 0) + 0) + 0) + 0)) ∧ (g 10) = yq_ib ((1 * r 0 + 0) + 0) ((1 * ((0 : Int) + 0) + 0) + 0) (g0 1) (g0 2) (g0 3) (g0 4) (g0 10) ∧ ((1 * ((0 : Int) + 0) + 0) + 0) ≤ ((1 * ((1 * r 3 + 0) + 0) + 0) + 0)
    try simp only [Int.one_mul, Int.zero_add, Int.add_zero]
    try rw [z_g_1]
    try rw [z_g_2]
    try rw [z_g_3]
    try rw [z_g_4]
    try rw [z_g_10]
    refine ⟨?_, ?_⟩
    · refine ⟨?_, ?_⟩
      · refine ⟨?_, ?_, ?_⟩
        · exact hG
        · try simp only [Int.one_mul, Int.zero_add, Int.add_zero] at e0 e1
          rw [e0, yq_gup_ne (by decide), e1, yq_gup_self, hgi]
        · rw [e0, yq_gup_ne (by decide), e1, yq_gup_ne (by decide), hgi]
      · try simp only [Int.one_mul, Int.zero_add, Int.add_zero] at e0 e1
        rw [e0, yq_gup_self, e1, yq_gup_ne (by decide), hgi]
    · refine ⟨?_, by omega⟩
      rw [hgi]
      exact yq_ib_0
theorem xw_1036_1_0 : yt_hold xT_1036 xk_1036 xq_1036.2.2.1 xG_1036 xP_1036 xU_1036 27 ((xq_1036.2.2.1.getD 0 (0, ([], [], ([], []), [], [], ([], 0)), [], false)).2.1.2.2.1.2) (xG_1036 0) (1, ([(0, 2), ((-2147483648), 2147483647), ((-2147483648), 2147483647), (0, 40), ((-2147483648), 2147483647), (0, 4), ((-9223372036854775808), 9223372036854775807), ((-9223372036854775808), 9223372036854775807), ((-9223372036854775808), 9223372036854775807), (0, 1), ((-4000), 4000), ((-4000), 4000), ((-9223372036854775808), 9223372036854775807), ((-9223372036854775808), 9223372036854775807), (0, 12), ((-9223372036854775808), 9223372036854775807), ((-9223372036854775808), 9223372036854775807), ((-9223372036854775808), 9223372036854775807), ((-9223372036854775808), 9223372036854775807), ((-9223372036854775808), 9223372036854775807), (0, 12), ((-2147483648), 2147483647), (0, 12), ((-2147483648), 2147483647), (0, 40), (0, 40), (0, 12)], [([(20, (-1)), (26, 1)], 0), ([(0, 1)], 0), ([(0, (-1))], 2)]), [([], 0)], [], []) := by
  intro g0 r gi g hok hh hars hfr hG
  have b0 : 0 ≤ r 0 ∧ r 0 ≤ 2 := hok.1 0 (0, 2) rfl
  have b3 : 0 ≤ r 3 ∧ r 3 ≤ 40 := hok.1 3 (0, 40) rfl
  have b26 : 0 ≤ r 26 ∧ r 26 ≤ 12 := hok.1 26 (0, 12) rfl
  have f0 : 0 ≤ (((-1) * r 20 + (1 * r 26 + 0)) + 0) := hok.2 _ (List.mem_of_getElem? (i := 0) rfl)
  have f1 : 0 ≤ ((1 * r 0 + 0) + 0) := hok.2 _ (List.mem_of_getElem? (i := 1) rfl)
  have f2 : 0 ≤ (((-1) * r 0 + 0) + 2) := hok.2 _ (List.mem_of_getElem? (i := 2) rfl)
  have hG : ((yq_num (gi 10) ∧ (gi 8) = yq_set (g0 8) ((r 0)).toNat 1 ∧ (gi 11) = yq_set (g0 11) ((r 0)).toNat ((1 * (r 20) + 0) + 0)) ∧ (gi 9) = yq_set (g0 9) ((r 0)).toNat ((1 * (r 3) + 0) + 0)) ∧ (gi 10) = yq_ib (r 0) ((1 * (r 3) + 0) + 0) (g0 1) (g0 2) (g0 3) (g0 4) (g0 10) := hG
  have hh : g = gi := hh
  subst hh
  refine yt_dcut (by decide) rfl ?_ ?_
  · exact fun f hf => absurd hf List.not_mem_nil
  · rw [show xk_1036.2.1.2.1.1.length = 26 from rfl]
    show ((yq_num (g 10) ∧ (g 8) = yq_set (g0 8) (((1 * r 0 + 0) + 0)).toNat 1 ∧ (g 11) = yq_set (g0 11) (((1 * r 0 + 0) + 0)).toNat ((1 * ((1 * r 20 + 0) + 0) + 0) + 0)) ∧ (g 9) = yq_set (g0 9) (((1 * r 0 + 0) + 0)).toNat ((1 * ((1 * r 3 + 0) + 0) + 0) + 0)) ∧ (g 10) = yq_ib ((1 * r 0 + 0) + 0) ((1 * ((1 * r 3 + 0) + 0) + 0) + 0) (g0 1) (g0 2) (g0 3) (g0 4) (g0 10)
    try simp only [Int.one_mul, Int.zero_add, Int.add_zero]
    try simp only [Int.one_mul, Int.zero_add, Int.add_zero] at hG
    obtain ⟨hG, hN⟩ := hG
    refine ⟨?_, ?_⟩
    · try simp only [Int.one_mul, Int.zero_add, Int.add_zero] at hG
      obtain ⟨hG, hN⟩ := hG
      refine ⟨?_, ?_⟩
      · try simp only [Int.one_mul, Int.zero_add, Int.add_zero] at hG
        obtain ⟨hG, hI, hJ⟩ := hG
        refine ⟨?_, ?_, ?_⟩
        · exact hG
        · exact hI
        · exact hJ
      · exact hN
    · try simp only [Int.one_mul, Int.zero_add, Int.add_zero] at hN
      exact hN
theorem xw_1036_1_1 : yt_hold xT_1036 xk_1036 xq_1036.2.2.1 xG_1036 xP_1036 xU_1036 27 ((xq_1036.2.2.1.getD 0 (0, ([], [], ([], []), [], [], ([], 0)), [], false)).2.1.2.2.1.2) (xG_1036 0) (0, ([(0, 2), ((-2147483648), 2147483647), ((-2147483648), 2147483647), (0, 40), ((-2147483648), 2147483647), (0, 4), ((-9223372036854775808), 9223372036854775807), ((-9223372036854775808), 9223372036854775807), ((-9223372036854775808), 9223372036854775807), (0, 1), ((-4000), 4000), ((-4000), 4000), ((-9223372036854775808), 9223372036854775807), ((-9223372036854775808), 9223372036854775807), (0, 12), ((-9223372036854775808), 9223372036854775807), ((-9223372036854775808), 9223372036854775807), ((-9223372036854775808), 9223372036854775807), ((-9223372036854775808), 9223372036854775807), ((-9223372036854775808), 9223372036854775807), (1, 12), ((-2147483648), 2147483647), (0, 12), ((-2147483648), 2147483647), (0, 40), (0, 40), (0, 11), ((-2147483648), 2147483647), ((-2147483648), 2147483647), ((-2147483648), 2147483647)], [([(20, 1), (26, (-1))], (-1)), ([(0, 1)], 0), ([(0, (-1))], 2)]), [([(26, 1)], 1)], [], [.inr (.inl (12, ([(0, 36), (26, 3)], 2), ([(29, 1)], 0))), .inl (.inl (7, ([(26, 1)], 0), 29)), .inr (.inl (12, ([(0, 36), (26, 3)], 1), ([(28, 1)], 0))), .inl (.inl (6, ([(26, 1)], 0), 28)), .inr (.inl (12, ([(26, 3), (0, 36)], 0), ([(27, 1)], 0))), .inl (.inl (5, ([(26, 1)], 0), 27))]) := by
  intro g0 r gi g hok hh hars hfr hG
  have b0 : 0 ≤ r 0 ∧ r 0 ≤ 2 := hok.1 0 (0, 2) rfl
  have b3 : 0 ≤ r 3 ∧ r 3 ≤ 40 := hok.1 3 (0, 40) rfl
  have b26 : 0 ≤ r 26 ∧ r 26 ≤ 11 := hok.1 26 (0, 11) rfl
  have b27 : (-2147483648) ≤ r 27 ∧ r 27 ≤ 2147483647 := hok.1 27 ((-2147483648), 2147483647) rfl
  have b28 : (-2147483648) ≤ r 28 ∧ r 28 ≤ 2147483647 := hok.1 28 ((-2147483648), 2147483647) rfl
  have b29 : (-2147483648) ≤ r 29 ∧ r 29 ≤ 2147483647 := hok.1 29 ((-2147483648), 2147483647) rfl
  have f0 : 0 ≤ ((1 * r 20 + ((-1) * r 26 + 0)) + (-1)) := hok.2 _ (List.mem_of_getElem? (i := 0) rfl)
  have f1 : 0 ≤ ((1 * r 0 + 0) + 0) := hok.2 _ (List.mem_of_getElem? (i := 1) rfl)
  have f2 : 0 ≤ (((-1) * r 0 + 0) + 2) := hok.2 _ (List.mem_of_getElem? (i := 2) rfl)
  have hG : ((yq_num (gi 10) ∧ (gi 8) = yq_set (g0 8) ((r 0)).toNat 1 ∧ (gi 11) = yq_set (g0 11) ((r 0)).toNat ((1 * (r 20) + 0) + 0)) ∧ (gi 9) = yq_set (g0 9) ((r 0)).toNat ((1 * (r 3) + 0) + 0)) ∧ (gi 10) = yq_ib (r 0) ((1 * (r 3) + 0) + 0) (g0 1) (g0 2) (g0 3) (g0 4) (g0 10) := hG
  obtain ⟨h0, hh, e0⟩ := hh
  have e0 : g = ys_gup h0 12 (((36 * r 0 + (3 * r 26 + 0)) + 2)).toNat ((1 * r 29 + 0) + 0) := e0
  obtain ⟨g1, hh, q1, e1⟩ := hh
  subst q1
  have e1 : r 29 = h0 7 (((1 * r 26 + 0) + 0)).toNat := e1
  rw [show (((1 * r 26 + 0) + 0)).toNat = (r 26).toNat by omega] at e1
  obtain ⟨h2, hh, e2⟩ := hh
  have e2 : h0 = ys_gup h2 12 (((36 * r 0 + (3 * r 26 + 0)) + 1)).toNat ((1 * r 28 + 0) + 0) := e2
  obtain ⟨g3, hh, q3, e3⟩ := hh
  subst q3
  have e3 : r 28 = h2 6 (((1 * r 26 + 0) + 0)).toNat := e3
  rw [show (((1 * r 26 + 0) + 0)).toNat = (r 26).toNat by omega] at e3
  obtain ⟨h4, hh, e4⟩ := hh
  have e4 : h2 = ys_gup h4 12 (((3 * r 26 + (36 * r 0 + 0)) + 0)).toNat ((1 * r 27 + 0) + 0) := e4
  obtain ⟨g5, hh, q5, e5⟩ := hh
  subst q5
  have e5 : r 27 = h4 5 (((1 * r 26 + 0) + 0)).toNat := e5
  rw [show (((1 * r 26 + 0) + 0)).toNat = (r 26).toNat by omega] at e5
  have hh : h4 = gi := hh
  subst hh
  have z_h2_1 : h2 1 = h4 1 := ((show h2 1 = h4 1 from by rw [e4]; exact if_neg (by decide)))
  have z_h2_2 : h2 2 = h4 2 := ((show h2 2 = h4 2 from by rw [e4]; exact if_neg (by decide)))
  have z_h2_3 : h2 3 = h4 3 := ((show h2 3 = h4 3 from by rw [e4]; exact if_neg (by decide)))
  have z_h2_4 : h2 4 = h4 4 := ((show h2 4 = h4 4 from by rw [e4]; exact if_neg (by decide)))
  have z_h2_10 : h2 10 = h4 10 := ((show h2 10 = h4 10 from by rw [e4]; exact if_neg (by decide)))
  have z_h0_1 : h0 1 = h4 1 := ((show h0 1 = h2 1 from by rw [e2]; exact if_neg (by decide))).trans z_h2_1
  have z_h0_2 : h0 2 = h4 2 := ((show h0 2 = h2 2 from by rw [e2]; exact if_neg (by decide))).trans z_h2_2
  have z_h0_3 : h0 3 = h4 3 := ((show h0 3 = h2 3 from by rw [e2]; exact if_neg (by decide))).trans z_h2_3
  have z_h0_4 : h0 4 = h4 4 := ((show h0 4 = h2 4 from by rw [e2]; exact if_neg (by decide))).trans z_h2_4
  have z_h0_10 : h0 10 = h4 10 := ((show h0 10 = h2 10 from by rw [e2]; exact if_neg (by decide))).trans z_h2_10
  have z_g_1 : g 1 = h4 1 := ((show g 1 = h0 1 from by rw [e0]; exact if_neg (by decide))).trans z_h0_1
  have z_g_2 : g 2 = h4 2 := ((show g 2 = h0 2 from by rw [e0]; exact if_neg (by decide))).trans z_h0_2
  have z_g_3 : g 3 = h4 3 := ((show g 3 = h0 3 from by rw [e0]; exact if_neg (by decide))).trans z_h0_3
  have z_g_4 : g 4 = h4 4 := ((show g 4 = h0 4 from by rw [e0]; exact if_neg (by decide))).trans z_h0_4
  have z_g_10 : g 10 = h4 10 := ((show g 10 = h0 10 from by rw [e0]; exact if_neg (by decide))).trans z_h0_10
  refine yt_dcut (by decide) rfl ?_ ?_
  · exact fun f hf => absurd hf List.not_mem_nil
  · rw [show xk_1036.2.1.2.1.1.length = 26 from rfl]
    show ((yq_num (g 10) ∧ (g 8) = yq_set (g0 8) (((1 * r 0 + 0) + 0)).toNat 1 ∧ (g 11) = yq_set (g0 11) (((1 * r 0 + 0) + 0)).toNat ((1 * ((1 * r 20 + 0) + 0) + 0) + 0)) ∧ (g 9) = yq_set (g0 9) (((1 * r 0 + 0) + 0)).toNat ((1 * ((1 * r 3 + 0) + 0) + 0) + 0)) ∧ (g 10) = yq_ib ((1 * r 0 + 0) + 0) ((1 * ((1 * r 3 + 0) + 0) + 0) + 0) (g0 1) (g0 2) (g0 3) (g0 4) (g0 10)
    try simp only [Int.one_mul, Int.zero_add, Int.add_zero]
    try rw [z_g_1]
    try rw [z_g_2]
    try rw [z_g_3]
    try rw [z_g_4]
    try rw [z_g_10]
    try simp only [Int.one_mul, Int.zero_add, Int.add_zero] at hG
    obtain ⟨hG, hN⟩ := hG
    refine ⟨?_, ?_⟩
    · try simp only [Int.one_mul, Int.zero_add, Int.add_zero] at hG
      obtain ⟨hG, hN⟩ := hG
      refine ⟨?_, ?_⟩
      · try simp only [Int.one_mul, Int.zero_add, Int.add_zero] at hG
        obtain ⟨hG, hI, hJ⟩ := hG
        refine ⟨?_, ?_, ?_⟩
        · exact hG
        · rw [e0, yq_gup_ne (by decide), e2, yq_gup_ne (by decide), e4, yq_gup_ne (by decide)]
          exact hI
        · rw [e0, yq_gup_ne (by decide), e2, yq_gup_ne (by decide), e4, yq_gup_ne (by decide)]
          exact hJ
      · rw [e0, yq_gup_ne (by decide), e2, yq_gup_ne (by decide), e4, yq_gup_ne (by decide)]
        exact hN
    · try simp only [Int.one_mul, Int.zero_add, Int.add_zero] at hN
      exact hN
theorem xw_1036_2_0 : yt_hold xT_1036 xk_1036 xq_1036.2.2.1 xG_1036 xP_1036 xU_1036 27 ((xq_1036.2.2.1.getD 1 (0, ([], [], ([], []), [], [], ([], 0)), [], false)).2.1.2.2.1.2) (xG_1036 1) (1000, ([(0, 2), ((-2147483648), 2147483647), ((-2147483648), 2147483647), (0, 40), ((-2147483648), 2147483647), (0, 4), ((-9223372036854775808), 9223372036854775807), ((-9223372036854775808), 9223372036854775807), ((-9223372036854775808), 9223372036854775807), (0, 1), ((-4000), 4000), ((-4000), 4000), ((-9223372036854775808), 9223372036854775807), ((-9223372036854775808), 9223372036854775807), (0, 12), ((-9223372036854775808), 9223372036854775807), ((-9223372036854775808), 9223372036854775807), ((-9223372036854775808), 9223372036854775807), ((-9223372036854775808), 9223372036854775807), ((-9223372036854775808), 9223372036854775807), (0, 12), ((-2147483648), 2147483647), (0, 12), ((-2147483648), 2147483647), (0, 40), (0, 40), (5, 5), ((-2147483648), 0)], [([(0, 1)], 0), ([(0, (-1))], 2)]), [([], 0), ([(27, 1)], 0)], [], []) := by
  intro g0 r gi g hok hh hars hfr hG
  have b0 : 0 ≤ r 0 ∧ r 0 ≤ 2 := hok.1 0 (0, 2) rfl
  have b3 : 0 ≤ r 3 ∧ r 3 ≤ 40 := hok.1 3 (0, 40) rfl
  have b26 : 5 ≤ r 26 ∧ r 26 ≤ 5 := hok.1 26 (5, 5) rfl
  have b27 : (-2147483648) ≤ r 27 ∧ r 27 ≤ 0 := hok.1 27 ((-2147483648), 0) rfl
  have f0 : 0 ≤ ((1 * r 0 + 0) + 0) := hok.2 _ (List.mem_of_getElem? (i := 0) rfl)
  have f1 : 0 ≤ (((-1) * r 0 + 0) + 2) := hok.2 _ (List.mem_of_getElem? (i := 1) rfl)
  have hG : ((yq_num (gi 10) ∧ (gi 8) = yq_set (g0 8) ((r 0)).toNat 1 ∧ (gi 11) = yq_set (g0 11) ((r 0)).toNat ((1 * (r 20) + 0) + 0)) ∧ (gi 9) = yq_set (g0 9) ((r 0)).toNat ((1 * (r 3) + 0) + 0)) ∧ (gi 10) = yq_ib (r 0) ((1 * (r 3) + 0) + 0) (g0 1) (g0 2) (g0 3) (g0 4) (g0 10) := hG
  have hh : g = gi := hh
  subst hh
  refine yt_dalt (by decide) (by decide) ?_
  rw [show xk_1036.2.1.2.1.1.length = 26 from rfl]
  show ((yq_num (g 10) ∧ ((0 : Int) + 0) = yq_imr ((1 * r 0 + 0) + 0) ∧ (g 8) = yq_imt (g0 8) ((1 * r 0 + 0) + 0) ∧ (g 11) 0 = yq_kp ((1 * r 0 + 0) + 0) 0 ((1 * ((1 * r 20 + 0) + 0) + 0) + 0) ((g0 11) 0) ∧ (g 11) 1 = yq_kp ((1 * r 0 + 0) + 0) 1 ((1 * ((1 * r 20 + 0) + 0) + 0) + 0) ((g0 11) 1) ∧ (g 11) 2 = yq_kp ((1 * r 0 + 0) + 0) 2 ((1 * ((1 * r 20 + 0) + 0) + 0) + 0) ((g0 11) 2)) ∧ (g 9) 0 = yq_kp ((1 * r 0 + 0) + 0) 0 ((1 * ((1 * r 3 + 0) + 0) + 0) + 0) ((g0 9) 0) ∧ (g 9) 1 = yq_kp ((1 * r 0 + 0) + 0) 1 ((1 * ((1 * r 3 + 0) + 0) + 0) + 0) ((g0 9) 1) ∧ (g 9) 2 = yq_kp ((1 * r 0 + 0) + 0) 2 ((1 * ((1 * r 3 + 0) + 0) + 0) + 0) ((g0 9) 2)) ∧ (g 10) = yq_im ((1 * r 0 + 0) + 0) ((1 * ((1 * r 3 + 0) + 0) + 0) + 0) (g0 1) (g0 2) (g0 3) (g0 4) (g0 10)
  try simp only [Int.one_mul, Int.zero_add, Int.add_zero]
  try rw [← hfr 1 (by decide)]
  try rw [← hfr 2 (by decide)]
  try rw [← hfr 3 (by decide)]
  try rw [← hfr 4 (by decide)]
  try rw [← hfr 10 (by decide)]
  try simp only [Int.one_mul, Int.zero_add, Int.add_zero] at hG
  obtain ⟨hG, hN⟩ := hG
  refine ⟨?_, ?_⟩
  · try simp only [Int.one_mul, Int.zero_add, Int.add_zero] at hG
    obtain ⟨hG, hN⟩ := hG
    refine ⟨?_, ?_⟩
    · try simp only [Int.one_mul, Int.zero_add, Int.add_zero] at hG
      obtain ⟨hG, hI, hJ⟩ := hG
      refine ⟨?_, ?_, ?_, ?_, ?_, ?_⟩
      · exact hG
      · unfold yq_imr
        repeat' split
        all_goals omega
      · unfold yq_imt
        rw [if_pos (by omega)]
        exact hI
      · rw [hJ]
        unfold yq_set yq_kp
        repeat' split
        all_goals omega
      · rw [hJ]
        unfold yq_set yq_kp
        repeat' split
        all_goals omega
      · rw [hJ]
        unfold yq_set yq_kp
        repeat' split
        all_goals omega
    · refine ⟨?_, ?_, ?_⟩
      · rw [hN]
        unfold yq_set yq_kp
        repeat' split
        all_goals omega
      · rw [hN]
        unfold yq_set yq_kp
        repeat' split
        all_goals omega
      · rw [hN]
        unfold yq_set yq_kp
        repeat' split
        all_goals omega
  · try simp only [Int.one_mul, Int.zero_add, Int.add_zero] at hN
    unfold yq_im
    rw [if_pos (by omega)]
    try rw [hfr 1 (by decide)]
    try rw [hfr 2 (by decide)]
    try rw [hfr 3 (by decide)]
    try rw [hfr 4 (by decide)]
    exact hN
theorem xw_1036_2_1 : yt_hold xT_1036 xk_1036 xq_1036.2.2.1 xG_1036 xP_1036 xU_1036 27 ((xq_1036.2.2.1.getD 1 (0, ([], [], ([], []), [], [], ([], 0)), [], false)).2.1.2.2.1.2) (xG_1036 1) (1, ([(0, 2), ((-2147483648), 2147483647), ((-2147483648), 2147483647), (0, 40), ((-2147483648), 2147483647), (0, 4), ((-9223372036854775808), 9223372036854775807), ((-9223372036854775808), 9223372036854775807), ((-9223372036854775808), 9223372036854775807), (0, 1), ((-4000), 4000), ((-4000), 4000), ((-9223372036854775808), 9223372036854775807), ((-9223372036854775808), 9223372036854775807), (0, 12), ((-9223372036854775808), 9223372036854775807), ((-9223372036854775808), 9223372036854775807), ((-9223372036854775808), 9223372036854775807), ((-9223372036854775808), 9223372036854775807), ((-9223372036854775808), 9223372036854775807), (0, 12), ((-2147483648), 2147483647), (0, 12), ((-2147483648), 2147483647), (0, 40), (0, 40), (0, 4), ((-9223372036854775808), 9223372036854775807)], [([(0, 1)], 0), ([(0, (-1))], 2)]), [([(26, 1)], 1)], [], [.inr (.inl (13, ([(26, 1), (0, 5)], 0), ([(27, 1)], 0)))]) := by
  intro g0 r gi g hok hh hars hfr hG
  have b0 : 0 ≤ r 0 ∧ r 0 ≤ 2 := hok.1 0 (0, 2) rfl
  have b3 : 0 ≤ r 3 ∧ r 3 ≤ 40 := hok.1 3 (0, 40) rfl
  have b26 : 0 ≤ r 26 ∧ r 26 ≤ 4 := hok.1 26 (0, 4) rfl
  have b27 : (-9223372036854775808) ≤ r 27 ∧ r 27 ≤ 9223372036854775807 := hok.1 27 ((-9223372036854775808), 9223372036854775807) rfl
  have f0 : 0 ≤ ((1 * r 0 + 0) + 0) := hok.2 _ (List.mem_of_getElem? (i := 0) rfl)
  have f1 : 0 ≤ (((-1) * r 0 + 0) + 2) := hok.2 _ (List.mem_of_getElem? (i := 1) rfl)
  have hG : ((yq_num (gi 10) ∧ (gi 8) = yq_set (g0 8) ((r 0)).toNat 1 ∧ (gi 11) = yq_set (g0 11) ((r 0)).toNat ((1 * (r 20) + 0) + 0)) ∧ (gi 9) = yq_set (g0 9) ((r 0)).toNat ((1 * (r 3) + 0) + 0)) ∧ (gi 10) = yq_ib (r 0) ((1 * (r 3) + 0) + 0) (g0 1) (g0 2) (g0 3) (g0 4) (g0 10) := hG
  obtain ⟨h0, hh, e0⟩ := hh
  have e0 : g = ys_gup h0 13 (((1 * r 26 + (5 * r 0 + 0)) + 0)).toNat ((1 * r 27 + 0) + 0) := e0
  have hh : h0 = gi := hh
  subst hh
  have z_g_1 : g 1 = h0 1 := ((show g 1 = h0 1 from by rw [e0]; exact if_neg (by decide)))
  have z_g_2 : g 2 = h0 2 := ((show g 2 = h0 2 from by rw [e0]; exact if_neg (by decide)))
  have z_g_3 : g 3 = h0 3 := ((show g 3 = h0 3 from by rw [e0]; exact if_neg (by decide)))
  have z_g_4 : g 4 = h0 4 := ((show g 4 = h0 4 from by rw [e0]; exact if_neg (by decide)))
  have z_g_10 : g 10 = h0 10 := ((show g 10 = h0 10 from by rw [e0]; exact if_neg (by decide)))
  refine yt_dcut (by decide) rfl ?_ ?_
  · exact fun f hf => absurd hf List.not_mem_nil
  · rw [show xk_1036.2.1.2.1.1.length = 26 from rfl]
    show ((yq_num (g 10) ∧ (g 8) = yq_set (g0 8) (((1 * r 0 + 0) + 0)).toNat 1 ∧ (g 11) = yq_set (g0 11) (((1 * r 0 + 0) + 0)).toNat ((1 * ((1 * r 20 + 0) + 0) + 0) + 0)) ∧ (g 9) = yq_set (g0 9) (((1 * r 0 + 0) + 0)).toNat ((1 * ((1 * r 3 + 0) + 0) + 0) + 0)) ∧ (g 10) = yq_ib ((1 * r 0 + 0) + 0) ((1 * ((1 * r 3 + 0) + 0) + 0) + 0) (g0 1) (g0 2) (g0 3) (g0 4) (g0 10)
    try simp only [Int.one_mul, Int.zero_add, Int.add_zero]
    try rw [z_g_1]
    try rw [z_g_2]
    try rw [z_g_3]
    try rw [z_g_4]
    try rw [z_g_10]
    try simp only [Int.one_mul, Int.zero_add, Int.add_zero] at hG
    obtain ⟨hG, hN⟩ := hG
    refine ⟨?_, ?_⟩
    · try simp only [Int.one_mul, Int.zero_add, Int.add_zero] at hG
      obtain ⟨hG, hN⟩ := hG
      refine ⟨?_, ?_⟩
      · try simp only [Int.one_mul, Int.zero_add, Int.add_zero] at hG
        obtain ⟨hG, hI, hJ⟩ := hG
        refine ⟨?_, ?_, ?_⟩
        · exact hG
        · rw [e0, yq_gup_ne (by decide)]
          exact hI
        · rw [e0, yq_gup_ne (by decide)]
          exact hJ
      · rw [e0, yq_gup_ne (by decide)]
        exact hN
    · try simp only [Int.one_mul, Int.zero_add, Int.add_zero] at hN
      exact hN
theorem xw_1036_3_0 : yt_hold xT_1036 xk_1036 xq_1036.2.2.1 xG_1036 xP_1036 xU_1036 27 ((xq_1036.2.2.1.getD 2 (0, ([], [], ([], []), [], [], ([], 0)), [], false)).2.1.2.2.1.2) (xG_1036 2) (0, ([(0, 2), ((-2147483648), 2147483647), ((-2147483648), 2147483647), (0, 40), ((-2147483648), 2147483647), (0, 4), ((-9223372036854775808), 9223372036854775807), ((-9223372036854775808), 9223372036854775807), ((-9223372036854775808), 9223372036854775807), (0, 1), ((-4000), 4000), ((-4000), 4000), ((-9223372036854775808), 9223372036854775807), ((-9223372036854775808), 9223372036854775807), (0, 12), ((-9223372036854775808), 9223372036854775807), ((-9223372036854775808), 9223372036854775807), ((-9223372036854775808), 9223372036854775807), ((-9223372036854775808), 9223372036854775807), ((-9223372036854775808), 9223372036854775807), (0, 12), ((-2147483648), 2147483647), (0, 12), ((-2147483648), 2147483647), (0, 40), (0, 40), (0, 40)], [([(3, (-1)), (26, 1)], 0), ([(0, 1)], 0), ([(0, (-1))], 2)]), [([], 0)], [], [.inr (.inl (11, ([(0, 1)], 0), ([(20, 1)], 0)))]) := by
  intro g0 r gi g hok hh hars hfr hG
  have b0 : 0 ≤ r 0 ∧ r 0 ≤ 2 := hok.1 0 (0, 2) rfl
  have b3 : 0 ≤ r 3 ∧ r 3 ≤ 40 := hok.1 3 (0, 40) rfl
  have b26 : 0 ≤ r 26 ∧ r 26 ≤ 40 := hok.1 26 (0, 40) rfl
  have f0 : 0 ≤ (((-1) * r 3 + (1 * r 26 + 0)) + 0) := hok.2 _ (List.mem_of_getElem? (i := 0) rfl)
  have f1 : 0 ≤ ((1 * r 0 + 0) + 0) := hok.2 _ (List.mem_of_getElem? (i := 1) rfl)
  have f2 : 0 ≤ (((-1) * r 0 + 0) + 2) := hok.2 _ (List.mem_of_getElem? (i := 2) rfl)
  have hG : ((yq_num (gi 10) ∧ (gi 8) = yq_set (g0 8) ((r 0)).toNat 1 ∧ (gi 11) = (g0 11)) ∧ (gi 9) = yq_set (g0 9) ((r 0)).toNat ((1 * (r 3) + 0) + 0)) ∧ (gi 10) = yq_ib (r 0) ((1 * (r 26) + 0) + 0) (g0 1) (g0 2) (g0 3) (g0 4) (g0 10) ∧ ((1 * (r 26) + 0) + 0) ≤ ((1 * (r 3) + 0) + 0) := hG
  obtain ⟨h0, hh, e0⟩ := hh
  have e0 : g = ys_gup h0 11 (((1 * r 0 + 0) + 0)).toNat ((1 * r 20 + 0) + 0) := e0
  have hh : h0 = gi := hh
  subst hh
  have z_g_1 : g 1 = h0 1 := ((show g 1 = h0 1 from by rw [e0]; exact if_neg (by decide)))
  have z_g_2 : g 2 = h0 2 := ((show g 2 = h0 2 from by rw [e0]; exact if_neg (by decide)))
  have z_g_3 : g 3 = h0 3 := ((show g 3 = h0 3 from by rw [e0]; exact if_neg (by decide)))
  have z_g_4 : g 4 = h0 4 := ((show g 4 = h0 4 from by rw [e0]; exact if_neg (by decide)))
  have z_g_10 : g 10 = h0 10 := ((show g 10 = h0 10 from by rw [e0]; exact if_neg (by decide)))
  refine yt_dcut (by decide) rfl ?_ ?_
  · exact fun f hf => absurd hf List.not_mem_nil
  · rw [show xk_1036.2.1.2.1.1.length = 26 from rfl]
    show ((yq_num (g 10) ∧ (g 8) = yq_set (g0 8) (((1 * r 0 + 0) + 0)).toNat 1 ∧ (g 11) = yq_set (g0 11) (((1 * r 0 + 0) + 0)).toNat ((1 * ((1 * r 20 + 0) + 0) + 0) + 0)) ∧ (g 9) = yq_set (g0 9) (((1 * r 0 + 0) + 0)).toNat ((1 * ((1 * r 3 + 0) + 0) + 0) + 0)) ∧ (g 10) = yq_ib ((1 * r 0 + 0) + 0) ((1 * ((1 * r 3 + 0) + 0) + 0) + 0) (g0 1) (g0 2) (g0 3) (g0 4) (g0 10)
    try simp only [Int.one_mul, Int.zero_add, Int.add_zero]
    try rw [z_g_1]
    try rw [z_g_2]
    try rw [z_g_3]
    try rw [z_g_4]
    try rw [z_g_10]
    try simp only [Int.one_mul, Int.zero_add, Int.add_zero] at hG
    obtain ⟨hG, hN⟩ := hG
    refine ⟨?_, ?_⟩
    · try simp only [Int.one_mul, Int.zero_add, Int.add_zero] at hG
      obtain ⟨hG, hN⟩ := hG
      refine ⟨?_, ?_⟩
      · try simp only [Int.one_mul, Int.zero_add, Int.add_zero] at hG
        obtain ⟨hG, hI, hJ⟩ := hG
        refine ⟨?_, ?_, ?_⟩
        · exact hG
        · rw [e0, yq_gup_ne (by decide)]
          exact hI
        · try simp only [Int.one_mul, Int.zero_add, Int.add_zero] at e0
          rw [e0, yq_gup_self]
          rw [hJ]
      · rw [e0, yq_gup_ne (by decide)]
        exact hN
    · try simp only [Int.one_mul, Int.zero_add, Int.add_zero] at hN
      obtain ⟨n1, n2⟩ := hN
      rw [show r 26 = r 3 by omega] at n1
      exact n1
theorem xw_1036_3_1 : yt_hold xT_1036 xk_1036 xq_1036.2.2.1 xG_1036 xP_1036 xU_1036 27 ((xq_1036.2.2.1.getD 2 (0, ([], [], ([], []), [], [], ([], 0)), [], false)).2.1.2.2.1.2) (xG_1036 2) (2, ([(0, 2), ((-2147483648), 2147483647), ((-2147483648), 2147483647), (1, 40), ((-2147483648), 2147483647), (0, 4), ((-9223372036854775808), 9223372036854775807), ((-9223372036854775808), 9223372036854775807), ((-9223372036854775808), 9223372036854775807), (0, 1), ((-4000), 4000), ((-4000), 4000), ((-9223372036854775808), 9223372036854775807), ((-9223372036854775808), 9223372036854775807), (0, 12), ((-9223372036854775808), 9223372036854775807), ((-9223372036854775808), 9223372036854775807), ((-9223372036854775808), 9223372036854775807), ((-9223372036854775808), 9223372036854775807), ((-9223372036854775808), 9223372036854775807), (0, 12), ((-2147483648), 2147483647), (0, 12), ((-2147483648), 2147483647), (0, 40), (0, 40), (0, 39), ((-300), 1000), ((-300), 1000), ((-300), 1000), (0, 1000)], [([(3, 1), (26, (-1))], (-1)), ([(0, 1)], 0), ([(0, (-1))], 2)]), [([(26, 1)], 1)], [], [.inr (.inl (10, ([(0, 160), (26, 4)], 3), ([(30, 1)], 0))), .inl (.inl (4, ([(26, 1)], 0), 30)), .inr (.inl (10, ([(0, 160), (26, 4)], 2), ([(29, 1)], 0))), .inl (.inl (3, ([(26, 1)], 0), 29)), .inr (.inl (10, ([(0, 160), (26, 4)], 1), ([(28, 1)], 0))), .inl (.inl (2, ([(26, 1)], 0), 28)), .inr (.inl (10, ([(26, 4), (0, 160)], 0), ([(27, 1)], 0))), .inl (.inl (1, ([(26, 1)], 0), 27))]) := by
  intro g0 r gi g hok hh hars hfr hG
  have b0 : 0 ≤ r 0 ∧ r 0 ≤ 2 := hok.1 0 (0, 2) rfl
  have b3 : 1 ≤ r 3 ∧ r 3 ≤ 40 := hok.1 3 (1, 40) rfl
  have b26 : 0 ≤ r 26 ∧ r 26 ≤ 39 := hok.1 26 (0, 39) rfl
  have b27 : (-300) ≤ r 27 ∧ r 27 ≤ 1000 := hok.1 27 ((-300), 1000) rfl
  have b28 : (-300) ≤ r 28 ∧ r 28 ≤ 1000 := hok.1 28 ((-300), 1000) rfl
  have b29 : (-300) ≤ r 29 ∧ r 29 ≤ 1000 := hok.1 29 ((-300), 1000) rfl
  have b30 : 0 ≤ r 30 ∧ r 30 ≤ 1000 := hok.1 30 (0, 1000) rfl
  have f0 : 0 ≤ ((1 * r 3 + ((-1) * r 26 + 0)) + (-1)) := hok.2 _ (List.mem_of_getElem? (i := 0) rfl)
  have f1 : 0 ≤ ((1 * r 0 + 0) + 0) := hok.2 _ (List.mem_of_getElem? (i := 1) rfl)
  have f2 : 0 ≤ (((-1) * r 0 + 0) + 2) := hok.2 _ (List.mem_of_getElem? (i := 2) rfl)
  have hG : ((yq_num (gi 10) ∧ (gi 8) = yq_set (g0 8) ((r 0)).toNat 1 ∧ (gi 11) = (g0 11)) ∧ (gi 9) = yq_set (g0 9) ((r 0)).toNat ((1 * (r 3) + 0) + 0)) ∧ (gi 10) = yq_ib (r 0) ((1 * (r 26) + 0) + 0) (g0 1) (g0 2) (g0 3) (g0 4) (g0 10) ∧ ((1 * (r 26) + 0) + 0) ≤ ((1 * (r 3) + 0) + 0) := hG
  obtain ⟨h0, hh, e0⟩ := hh
  have e0 : g = ys_gup h0 10 (((160 * r 0 + (4 * r 26 + 0)) + 3)).toNat ((1 * r 30 + 0) + 0) := e0
  obtain ⟨g1, hh, q1, e1⟩ := hh
  subst q1
  have e1 : r 30 = h0 4 (((1 * r 26 + 0) + 0)).toNat := e1
  rw [show (((1 * r 26 + 0) + 0)).toNat = (r 26).toNat by omega] at e1
  obtain ⟨h2, hh, e2⟩ := hh
  have e2 : h0 = ys_gup h2 10 (((160 * r 0 + (4 * r 26 + 0)) + 2)).toNat ((1 * r 29 + 0) + 0) := e2
  obtain ⟨g3, hh, q3, e3⟩ := hh
  subst q3
  have e3 : r 29 = h2 3 (((1 * r 26 + 0) + 0)).toNat := e3
  rw [show (((1 * r 26 + 0) + 0)).toNat = (r 26).toNat by omega] at e3
  obtain ⟨h4, hh, e4⟩ := hh
  have e4 : h2 = ys_gup h4 10 (((160 * r 0 + (4 * r 26 + 0)) + 1)).toNat ((1 * r 28 + 0) + 0) := e4
  obtain ⟨g5, hh, q5, e5⟩ := hh
  subst q5
  have e5 : r 28 = h4 2 (((1 * r 26 + 0) + 0)).toNat := e5
  rw [show (((1 * r 26 + 0) + 0)).toNat = (r 26).toNat by omega] at e5
  obtain ⟨h6, hh, e6⟩ := hh
  have e6 : h4 = ys_gup h6 10 (((4 * r 26 + (160 * r 0 + 0)) + 0)).toNat ((1 * r 27 + 0) + 0) := e6
  obtain ⟨g7, hh, q7, e7⟩ := hh
  subst q7
  have e7 : r 27 = h6 1 (((1 * r 26 + 0) + 0)).toNat := e7
  rw [show (((1 * r 26 + 0) + 0)).toNat = (r 26).toNat by omega] at e7
  have hh : h6 = gi := hh
  subst hh
  have z_h4_1 : h4 1 = h6 1 := ((show h4 1 = h6 1 from by rw [e6]; exact if_neg (by decide)))
  have z_h4_2 : h4 2 = h6 2 := ((show h4 2 = h6 2 from by rw [e6]; exact if_neg (by decide)))
  have z_h4_3 : h4 3 = h6 3 := ((show h4 3 = h6 3 from by rw [e6]; exact if_neg (by decide)))
  have z_h4_4 : h4 4 = h6 4 := ((show h4 4 = h6 4 from by rw [e6]; exact if_neg (by decide)))
  have z_h2_1 : h2 1 = h6 1 := ((show h2 1 = h4 1 from by rw [e4]; exact if_neg (by decide))).trans z_h4_1
  have z_h2_2 : h2 2 = h6 2 := ((show h2 2 = h4 2 from by rw [e4]; exact if_neg (by decide))).trans z_h4_2
  have z_h2_3 : h2 3 = h6 3 := ((show h2 3 = h4 3 from by rw [e4]; exact if_neg (by decide))).trans z_h4_3
  have z_h2_4 : h2 4 = h6 4 := ((show h2 4 = h4 4 from by rw [e4]; exact if_neg (by decide))).trans z_h4_4
  have z_h0_1 : h0 1 = h6 1 := ((show h0 1 = h2 1 from by rw [e2]; exact if_neg (by decide))).trans z_h2_1
  have z_h0_2 : h0 2 = h6 2 := ((show h0 2 = h2 2 from by rw [e2]; exact if_neg (by decide))).trans z_h2_2
  have z_h0_3 : h0 3 = h6 3 := ((show h0 3 = h2 3 from by rw [e2]; exact if_neg (by decide))).trans z_h2_3
  have z_h0_4 : h0 4 = h6 4 := ((show h0 4 = h2 4 from by rw [e2]; exact if_neg (by decide))).trans z_h2_4
  have z_g_1 : g 1 = h6 1 := ((show g 1 = h0 1 from by rw [e0]; exact if_neg (by decide))).trans z_h0_1
  have z_g_2 : g 2 = h6 2 := ((show g 2 = h0 2 from by rw [e0]; exact if_neg (by decide))).trans z_h0_2
  have z_g_3 : g 3 = h6 3 := ((show g 3 = h0 3 from by rw [e0]; exact if_neg (by decide))).trans z_h0_3
  have z_g_4 : g 4 = h6 4 := ((show g 4 = h0 4 from by rw [e0]; exact if_neg (by decide))).trans z_h0_4
  rw [z_h0_4] at e1
  rw [z_h2_3] at e3
  rw [z_h4_2] at e5
  refine yt_dcut (by decide) rfl ?_ ?_
  · exact fun f hf => absurd hf List.not_mem_nil
  · rw [show xk_1036.2.1.2.1.1.length = 26 from rfl]
    show ((yq_num (g 10) ∧ (g 8) = yq_set (g0 8) (((1 * r 0 + 0) + 0)).toNat 1 ∧ (g 11) = (g0 11)) ∧ (g 9) = yq_set (g0 9) (((1 * r 0 + 0) + 0)).toNat ((1 * ((1 * r 3 + 0) + 0) + 0) + 0)) ∧ (g 10) = yq_ib ((1 * r 0 + 0) + 0) ((1 * ((1 * r 26 + 0) + 1) + 0) + 0) (g0 1) (g0 2) (g0 3) (g0 4) (g0 10) ∧ ((1 * ((1 * r 26 + 0) + 1) + 0) + 0) ≤ ((1 * ((1 * r 3 + 0) + 0) + 0) + 0)
    try simp only [Int.one_mul, Int.zero_add, Int.add_zero]
    try rw [z_g_1]
    try rw [z_g_2]
    try rw [z_g_3]
    try rw [z_g_4]
    try simp only [Int.one_mul, Int.zero_add, Int.add_zero] at hG
    obtain ⟨hG, hN⟩ := hG
    refine ⟨?_, ?_⟩
    · try simp only [Int.one_mul, Int.zero_add, Int.add_zero] at hG
      obtain ⟨hG, hN⟩ := hG
      refine ⟨?_, ?_⟩
      · try simp only [Int.one_mul, Int.zero_add, Int.add_zero] at hG
        obtain ⟨hG, hI, hJ⟩ := hG
        refine ⟨?_, ?_, ?_⟩
        · try simp only [Int.one_mul, Int.zero_add, Int.add_zero] at e0 e2 e4 e6
          have w6 : yq_num (h4 10) := by
            rw [e6, yq_gup_self]
            exact yq_num_set hG (fun q => by omega)
          have w4 : yq_num (h2 10) := by
            rw [e4, yq_gup_self]
            exact yq_num_set w6 (fun q => by omega)
          have w2 : yq_num (h0 10) := by
            rw [e2, yq_gup_self]
            exact yq_num_set w4 (fun q => by omega)
          have w0 : yq_num (g 10) := by
            rw [e0, yq_gup_self]
            exact yq_num_set w2 (fun q => by omega)
          exact w0
        · rw [e0, yq_gup_ne (by decide), e2, yq_gup_ne (by decide), e4, yq_gup_ne (by decide), e6, yq_gup_ne (by decide)]
          exact hI
        · rw [e0, yq_gup_ne (by decide), e2, yq_gup_ne (by decide), e4, yq_gup_ne (by decide), e6, yq_gup_ne (by decide)]
          exact hJ
      · rw [e0, yq_gup_ne (by decide), e2, yq_gup_ne (by decide), e4, yq_gup_ne (by decide), e6, yq_gup_ne (by decide)]
        exact hN
    · try simp only [Int.one_mul, Int.zero_add, Int.add_zero] at hN
      obtain ⟨n1, n2⟩ := hN
      try simp only [Int.one_mul, Int.zero_add, Int.add_zero] at e0 e2 e4 e6
      rw [hfr 1 (by decide)] at e7
      rw [hfr 2 (by decide)] at e5
      rw [hfr 3 (by decide)] at e3
      rw [hfr 4 (by decide)] at e1
      refine ⟨?_, by omega⟩
      rw [e0, yq_gup_self, e2, yq_gup_self, e4, yq_gup_self, e6, yq_gup_self, n1]
      exact yq_ib_s (by omega) (by omega) (by omega) (by omega) (by omega) (by omega) (by omega) e7 e5 e3 e1
theorem xn_1036 : ∀ (j : Nat) (q : Nat × yt_T), xq_1036.2.2.1[j]? = some q → q.2.2.2 = false → ∀ g0 r g, xG_1036 j g0 r g
  | 0, q, hq, hf => by cases hq; cases hf
  | 1, q, hq, hf => by cases hq; cases hf
  | 2, q, hq, hf => by cases hq; cases hf
  | n + 3, q, hq, _ => by cases hq
theorem xs_1036 : ∀ j, xq_1036.2.2.2.getD j false = false → ∀ r g g', xP_1036 j r g g'
  | 0, hf => by cases hf
  | n + 1, _ => fun _ _ _ => trivial
theorem xc_1036 {l : Launch} {D : va_G} {cT : Nat → ClassId} {tys : List (ClassId × FieldType)} (hty : yx_Ty tys cT) : yt_Con l D vwCl cT tys yG yw_s501 xk_1036 xR_1036 xP_1036 := yx_sem (calls := xa_1036) (Z := xq_1036) (tb := xT_1036) (pt := xU_1036) (Ga := xG_1036) (vs := xv_1036) (fun _ _ _ _ => trivial) 300 (by decide +kernel) yz_X12_image_ok hty (yl_lkX12 _) (yl_cqkX12 _) (List.forall_mem_cons.mpr ⟨⟨xc_1001 hty, yg_CLs yl_wX12_133 yd_yX12_in, fun _ _ _ => trivial⟩, List.forall_mem_cons.mpr ⟨⟨xc_1002 hty, yg_CLv rfl rfl rfl yl_wX12_141 yd_yX12_told, fun _ _ _ => trivial⟩, List.forall_mem_cons.mpr ⟨⟨xc_1035 hty, yg_CLv rfl rfl rfl yl_wX12_414 yd_yX12_learnt, fun _ _ _ => trivial⟩, fun _ h => absurd h List.not_mem_nil⟩⟩⟩) (xn_1036) (xs_1036) (by decide +kernel) (List.forall_mem_cons.mpr ⟨xw_1036_0_0, List.forall_mem_cons.mpr ⟨xw_1036_0_1, List.forall_mem_cons.mpr ⟨xw_1036_0_2, fun _ h => absurd h List.not_mem_nil⟩⟩⟩) (⟨List.forall_mem_cons.mpr ⟨xw_1036_1_0, List.forall_mem_cons.mpr ⟨xw_1036_1_1, fun _ h => absurd h List.not_mem_nil⟩⟩, ⟨List.forall_mem_cons.mpr ⟨xw_1036_2_0, List.forall_mem_cons.mpr ⟨xw_1036_2_1, fun _ h => absurd h List.not_mem_nil⟩⟩, ⟨List.forall_mem_cons.mpr ⟨xw_1036_3_0, List.forall_mem_cons.mpr ⟨xw_1036_3_1, fun _ h => absurd h List.not_mem_nil⟩⟩, trivial⟩⟩⟩)
noncomputable def xf_1037 : ys_F := (yw_f504 2, yw_r504)
noncomputable def xk_1037 : ys_K := (((yX12_isWay, cX12_isWay, 3, (some .int)), (4, 105)), ([.inr (some 0), .inl (.inl ([(0, 1)], 0)), .inl (.inl ([(1, 1)], 0))], ([((-2147483648), 2147483647), ((-2147483648), 2147483647)] ++ yw_e504, []), xf_1037), ([([((-1), 1), (0, 12)], [], ((ys_fs xf_1037.1 [(0, 0, .inl (.inl ([], 0))), (0, 26, .inl (.inl ([(28, 1)], 0)))]), xf_1037.2), some (.inl (.inl ([(27, 1)], 0))))], [3, 4, 5]))
noncomputable def xq_1037 : yt_Q := (yz_X12_isWay, (yl_flX12, yl_ciX12, yl_cjX12, yl_cpX12, yl_cqX12), [], [])
noncomputable def xa_1037 : List yt_CE := [(((338, false), (0, false, [0, 1, 2, 6, 7, 8, 9, 10, 11, 12, 13, 14, 3, 4, 5, 15, 16, 17, 18, 19, 20, 21, 22, 23, 24, 25, 26, 27, 28, 29, 30, 31, 32, 33, 34, 35, 36])), (yw_s500, xk_1005)), (((133, true), (0, false, [])), (yw_s2, xk_1004)), (((341, false), (0, false, [0, 1, 2, 3, 4, 5, 6, 7, 8, 9, 10, 11, 12, 13, 14, 15, 16, 17, 18, 19, 20, 21, 22, 23, 24, 25, 26, 27, 28, 29, 30, 31, 32, 33, 34, 35, 36])), (yw_s504, xk_1012))]
theorem xc_1037 {l : Launch} {D : va_G} {cT : Nat → ClassId} {tys : List (ClassId × FieldType)} (hty : yx_Ty tys cT) : yx_C l D cT tys yw_s504 xk_1037 := yx_method (calls := xa_1037) (Z := xq_1037) 300 (by decide +kernel) yz_X12_isWay_ok hty (yl_lkX12 _) (yl_cqkX12 _) (List.forall_mem_cons.mpr ⟨⟨xc_1005 hty, yg_CLv rfl rfl rfl yl_wX12_338 yd_yX12_isMany⟩, List.forall_mem_cons.mpr ⟨⟨xc_1004 hty, yg_CLs yl_wX12_133 yd_yX12_in⟩, List.forall_mem_cons.mpr ⟨⟨xc_1012 hty, yg_CLv rfl rfl rfl yl_wX12_341 yd_yX12_findSets⟩, fun _ h => absurd h List.not_mem_nil⟩⟩⟩) (by decide +kernel)
noncomputable def yw_s516 : List ys_C := [.inl 12, .inr (0, 12, []), .inr (0, 12, []), .inr (0, 12, [])]
noncomputable def yw_f516 (n : Nat) : List (List ys_V) := [[.inl (.inl ([(n + 0, 1)], 0)), .inl (.inl ([(n + 1, 1)], 0)), .inr (some 4), .inr (some 5), .inr (some 6), .inr (some 7), .inl (.inl ([(n + 2, 1)], 0)), .inr (some 8), .inr (some 9), .inr (some 10), .inr (some 11), .inl (.inl ([(n + 3, 1)], 0)), .inl (.inl ([(n + 4, 1)], 0)), .inr (some 12), .inr (some 13), .inr (some 14), .inl (.inr ([(n + 5, 1)], 0)), .inl (.inr ([(n + 6, 1)], 0)), .inl (.inr ([(n + 7, 1)], 0)), .inl (.inl ([(n + 8, 1)], 0)), .inl (.inr ([(n + 9, 1)], 0)), .inl (.inr ([(n + 10, 1)], 0)), .inl (.inr ([(n + 11, 1)], 0)), .inl (.inr ([(n + 12, 1)], 0)), .inr (some 15), .inr (some 16), .inl (.inl ([(n + 13, 1)], 0)), .inr (some 17), .inl (.inr ([(n + 14, 1)], 0)), .inl (.inr ([(n + 15, 1)], 0)), .inl (.inr ([(n + 16, 1)], 0)), .inl (.inr ([(n + 17, 1)], 0)), .inl (.inr ([(n + 18, 1)], 0)), .inr (some 1), .inr (some 2), .inr (some 3), .inl (.inl ([(n + 19, 1)], 0)), .inl (.inl ([(n + 20, 1)], 0)), .inr (some 18), .inr (some 19), .inr (some 20), .inr (some 21), .inr (some 22), .inl (.inl ([(n + 21, 1)], 0)), .inl (.inl ([(n + 22, 1)], 0)), .inr (some 23), .inl (.inl ([(n + 23, 1)], 0)), .inr (some 24), .inr (some 25), .inr (some 26), .inr (some 27), .inl (.inl ([(n + 24, 1)], 0)), .inr (some 28), .inr (some 29), .inr (some 30), .inr (some 31), .inr (some 32), .inr (some 33), .inr (some 34), .inr (some 35), .inr (some 36)], [], [], []]
noncomputable def yw_e516 : ys_E := [((-2147483648), 2147483647), ((-2147483648), 2147483647), (0, 40), ((-2147483648), 2147483647), (0, 4), ((-9223372036854775808), 9223372036854775807), ((-9223372036854775808), 9223372036854775807), ((-9223372036854775808), 9223372036854775807), (0, 1), ((-4000), 4000), ((-4000), 4000), ((-9223372036854775808), 9223372036854775807), ((-9223372036854775808), 9223372036854775807), (0, 12), ((-9223372036854775808), 9223372036854775807), ((-9223372036854775808), 9223372036854775807), ((-9223372036854775808), 9223372036854775807), ((-9223372036854775808), 9223372036854775807), ((-9223372036854775808), 9223372036854775807), (0, 12), ((-2147483648), 2147483647), (0, 12), ((-2147483648), 2147483647), (0, 40), (0, 40)]
noncomputable def yw_r516 : List ys_R := [((0, 0), []), (((-2147483648), 2147483647), []), (((-2147483648), 2147483647), []), (((-2147483648), 2147483647), [])]
noncomputable def xf_1038 : ys_F := (yw_f516 3, yw_r516)
noncomputable def xk_1038 : ys_K := (((yX12_judge, cX12_judge, 4, (some .int)), (2, 47)), ([.inr (some 0), .inl (.inl ([(0, 1)], 0)), .inl (.inl ([(1, 1)], 0)), .inl (.inl ([(2, 1)], 0))], ([((-2147483648), 2147483647), ((-2147483648), 2147483647), ((-2147483648), 2147483647)] ++ yw_e516, []), xf_1038), ([([((-5), 12), ((-2147483648), 0), (0, 12)], [], ((ys_fs xf_1038.1 [(0, 0, .inl (.inl ([], 0))), (0, 1, .inl (.inl ([(29, 1)], 0))), (0, 36, .inl (.inl ([(30, 1)], 0)))]), xf_1038.2), some (.inl (.inl ([(28, 1)], 0))))], [1, 2, 3]))
noncomputable def xq_1038 : yt_Q := (yz_X12_judge, (yl_flX12, yl_ciX12, yl_cjX12, yl_cpX12, yl_cqX12), [], [true])
noncomputable def xa_1038 : List yt_CE := [(((315, true), (73, false, [])), (yw_s2, xk_1020)), (((141, false), (0, false, [0, 4, 5, 6, 7, 8, 9, 10, 11, 12, 13, 14, 15, 16, 17, 1, 2, 3, 18, 19, 20, 21, 22, 23, 24, 25, 26, 27, 28, 29, 30, 31, 32, 33, 34, 35, 36])), (yw_s500, xk_1002))]
noncomputable def xv_1038 : List (List yt_VC) := [[(1000, ([((-2147483648), 2147483647), ((-2147483648), 2147483647), ((-2147483648), 2147483647), ((-2147483648), 2147483647), ((-2147483648), 2147483647), (0, 40), ((-2147483648), 2147483647), (0, 4), ((-9223372036854775808), 9223372036854775807), ((-9223372036854775808), 9223372036854775807), ((-9223372036854775808), 9223372036854775807), (0, 1), ((-4000), 4000), ((-4000), 4000), ((-9223372036854775808), 9223372036854775807), ((-9223372036854775808), 9223372036854775807), (0, 12), ((-9223372036854775808), 9223372036854775807), ((-9223372036854775808), 9223372036854775807), ((-9223372036854775808), 9223372036854775807), ((-9223372036854775808), 9223372036854775807), ((-9223372036854775808), 9223372036854775807), (0, 12), ((-2147483648), 2147483647), (0, 12), ((-2147483648), 2147483647), (0, 40), (0, 40), ((-2147483648), 0)], []), [([], (-1)), ([(28, 1)], 0), ([(22, 1)], 0)], [], [.inr (.inr (.inl (73, 0, [([(0, 1)], 0), ([(1, 1)], 0), ([(2, 1)], 0)], [], [])))]),
   (1000, ([((-2147483648), 2147483647), ((-2147483648), 2147483647), ((-1000000), 1000000), ((-2147483648), 2147483647), ((-2147483648), 2147483647), (0, 40), ((-2147483648), 2147483647), (0, 4), ((-9223372036854775808), 9223372036854775807), ((-9223372036854775808), 9223372036854775807), ((-9223372036854775808), 9223372036854775807), (0, 1), ((-4000), 4000), ((-4000), 4000), ((-9223372036854775808), 9223372036854775807), ((-9223372036854775808), 9223372036854775807), (0, 12), ((-9223372036854775808), 9223372036854775807), ((-9223372036854775808), 9223372036854775807), ((-9223372036854775808), 9223372036854775807), ((-9223372036854775808), 9223372036854775807), ((-9223372036854775808), 9223372036854775807), (0, 11), ((-2147483648), 2147483647), (0, 12), ((-2147483648), 2147483647), (0, 40), (0, 40), ((-2147483648), 0)], []), [([(22, 1)], 1), ([(28, 1)], 0), ([(22, 1)], 1)], [], [.inr (.inl (3, ([(22, 1)], 0), ([(2, 1)], 0))), .inr (.inl (2, ([(22, 1)], 0), ([(1, 1)], 0))), .inr (.inl (1, ([(22, 1)], 0), ([(0, 1)], 0))), .inr (.inr (.inl (73, 1, [([(0, 1)], 0), ([(1, 1)], 0), ([(2, 1)], 0)], [], [])))]),
   (1000, ([((-2147483648), 2147483647), ((-2147483648), 2147483647), ((-1000000), 1000000), ((-2147483648), 2147483647), ((-2147483648), 2147483647), (0, 40), ((-2147483648), 2147483647), (0, 4), ((-9223372036854775808), 9223372036854775807), ((-9223372036854775808), 9223372036854775807), ((-9223372036854775808), 9223372036854775807), (0, 1), ((-4000), 4000), ((-4000), 4000), ((-9223372036854775808), 9223372036854775807), ((-9223372036854775808), 9223372036854775807), (0, 12), ((-9223372036854775808), 9223372036854775807), ((-9223372036854775808), 9223372036854775807), ((-9223372036854775808), 9223372036854775807), ((-9223372036854775808), 9223372036854775807), ((-9223372036854775808), 9223372036854775807), (12, 12), ((-2147483648), 2147483647), (0, 12), ((-2147483648), 2147483647), (0, 40), (0, 40), ((-2147483648), 0)], []), [([], (-5)), ([(28, 1)], 0), ([(22, 1)], 0)], [], [.inr (.inr (.inl (73, 1, [([(0, 1)], 0), ([(1, 1)], 0), ([(2, 1)], 0)], [], [])))])]]
noncomputable def xG_1038 : Nat → yt_G → (Nat → Int) → yt_G → Prop
  | _, _, _, _ => True
noncomputable def xP_1038 : yt_Ph
  | 0, r, g0, g => (r 28) = yq_jr (r 0) (r 1) (r 2) ((1 * (r 22) + 0) + 0) ∧ ((1 * (r 30) + 0) + 0) = yq_jm (r 0) (r 1) (r 2) ((1 * (r 22) + 0) + 0)
  | _, _, _, _ => True
noncomputable def xR_1038 : yt_Ps := fun r g0 => True
noncomputable def xT_1038 : yt_Tb := fun d => match d with
  | 73 => xP_1020
  | _ => fun _ _ _ _ => True
noncomputable def xU_1038 : Nat → yt_Ps := fun d => match d with
  | 73 => xR_1020
  | _ => fun _ _ => True
theorem xw_1038_0_0 : yt_hold xT_1038 xk_1038 xq_1038.2.2.1 xG_1038 xP_1038 xU_1038 28 xk_1038.2.1.2.2.2 (fun g0 r g => xR_1038 r g0 ∧ g = g0) (1000, ([((-2147483648), 2147483647), ((-2147483648), 2147483647), ((-2147483648), 2147483647), ((-2147483648), 2147483647), ((-2147483648), 2147483647), (0, 40), ((-2147483648), 2147483647), (0, 4), ((-9223372036854775808), 9223372036854775807), ((-9223372036854775808), 9223372036854775807), ((-9223372036854775808), 9223372036854775807), (0, 1), ((-4000), 4000), ((-4000), 4000), ((-9223372036854775808), 9223372036854775807), ((-9223372036854775808), 9223372036854775807), (0, 12), ((-9223372036854775808), 9223372036854775807), ((-9223372036854775808), 9223372036854775807), ((-9223372036854775808), 9223372036854775807), ((-9223372036854775808), 9223372036854775807), ((-9223372036854775808), 9223372036854775807), (0, 12), ((-2147483648), 2147483647), (0, 12), ((-2147483648), 2147483647), (0, 40), (0, 40), ((-2147483648), 0)], []), [([], (-1)), ([(28, 1)], 0), ([(22, 1)], 0)], [], [.inr (.inr (.inl (73, 0, [([(0, 1)], 0), ([(1, 1)], 0), ([(2, 1)], 0)], [], [])))]) := by
  intro g0 r gi g hok hh hars hfr hG
  have b0 : (-2147483648) ≤ r 0 ∧ r 0 ≤ 2147483647 := hok.1 0 ((-2147483648), 2147483647) rfl
  have b1 : (-2147483648) ≤ r 1 ∧ r 1 ≤ 2147483647 := hok.1 1 ((-2147483648), 2147483647) rfl
  have b2 : (-2147483648) ≤ r 2 ∧ r 2 ≤ 2147483647 := hok.1 2 ((-2147483648), 2147483647) rfl
  have b22 : 0 ≤ r 22 ∧ r 22 ≤ 12 := hok.1 22 (0, 12) rfl
  have b28 : (-2147483648) ≤ r 28 ∧ r 28 ≤ 0 := hok.1 28 ((-2147483648), 0) rfl
  obtain ⟨hG, hgi⟩ := hG
  have hG : True := hG
  obtain ⟨h0, hh, e0, k0⟩ := hh
  have k0 : ∀ j, j ∉ [] → g j = h0 j := k0
  have e0 : ¬ ((-1000000 ≤ ((1 * r 0 + 0) + 0) ∧ ((1 * r 0 + 0) + 0) ≤ 1000000 ∧ -1000000 ≤ ((1 * r 1 + 0) + 0) ∧ ((1 * r 1 + 0) + 0) ≤ 1000000 ∧ -1000000 ≤ ((1 * r 2 + 0) + 0) ∧ ((1 * r 2 + 0) + 0) ≤ 1000000) ∧ (((1 * r 0 + 0) + 0) ≠ 0 ∨ ((1 * r 1 + 0) + 0) ≠ 0)) := e0
  have hh : h0 = gi := hh
  subst hh
  refine yt_dalt (by decide) (by decide) ?_
  rw [show xk_1038.2.1.2.1.1.length = 28 from rfl]
  show ((0 : Int) + (-1)) = yq_jr ((1 * r 0 + 0) + 0) ((1 * r 1 + 0) + 0) ((1 * r 2 + 0) + 0) ((1 * ((1 * r 22 + 0) + 0) + 0) + 0) ∧ ((1 * ((1 * r 22 + 0) + 0) + 0) + 0) = yq_jm ((1 * r 0 + 0) + 0) ((1 * r 1 + 0) + 0) ((1 * r 2 + 0) + 0) ((1 * ((1 * r 22 + 0) + 0) + 0) + 0)
  try simp only [Int.one_mul, Int.zero_add, Int.add_zero]
  try simp only [Int.one_mul, Int.zero_add, Int.add_zero] at e0
  refine ⟨?_, ?_⟩
  · unfold yq_jr
    repeat' split
    all_goals omega
  · unfold yq_jm
    repeat' split
    all_goals omega
theorem xw_1038_0_1 : yt_hold xT_1038 xk_1038 xq_1038.2.2.1 xG_1038 xP_1038 xU_1038 28 xk_1038.2.1.2.2.2 (fun g0 r g => xR_1038 r g0 ∧ g = g0) (1000, ([((-2147483648), 2147483647), ((-2147483648), 2147483647), ((-1000000), 1000000), ((-2147483648), 2147483647), ((-2147483648), 2147483647), (0, 40), ((-2147483648), 2147483647), (0, 4), ((-9223372036854775808), 9223372036854775807), ((-9223372036854775808), 9223372036854775807), ((-9223372036854775808), 9223372036854775807), (0, 1), ((-4000), 4000), ((-4000), 4000), ((-9223372036854775808), 9223372036854775807), ((-9223372036854775808), 9223372036854775807), (0, 12), ((-9223372036854775808), 9223372036854775807), ((-9223372036854775808), 9223372036854775807), ((-9223372036854775808), 9223372036854775807), ((-9223372036854775808), 9223372036854775807), ((-9223372036854775808), 9223372036854775807), (0, 11), ((-2147483648), 2147483647), (0, 12), ((-2147483648), 2147483647), (0, 40), (0, 40), ((-2147483648), 0)], []), [([(22, 1)], 1), ([(28, 1)], 0), ([(22, 1)], 1)], [], [.inr (.inl (3, ([(22, 1)], 0), ([(2, 1)], 0))), .inr (.inl (2, ([(22, 1)], 0), ([(1, 1)], 0))), .inr (.inl (1, ([(22, 1)], 0), ([(0, 1)], 0))), .inr (.inr (.inl (73, 1, [([(0, 1)], 0), ([(1, 1)], 0), ([(2, 1)], 0)], [], [])))]) := by
  intro g0 r gi g hok hh hars hfr hG
  have b0 : (-2147483648) ≤ r 0 ∧ r 0 ≤ 2147483647 := hok.1 0 ((-2147483648), 2147483647) rfl
  have b1 : (-2147483648) ≤ r 1 ∧ r 1 ≤ 2147483647 := hok.1 1 ((-2147483648), 2147483647) rfl
  have b2 : (-1000000) ≤ r 2 ∧ r 2 ≤ 1000000 := hok.1 2 ((-1000000), 1000000) rfl
  have b22 : 0 ≤ r 22 ∧ r 22 ≤ 11 := hok.1 22 (0, 11) rfl
  have b28 : (-2147483648) ≤ r 28 ∧ r 28 ≤ 0 := hok.1 28 ((-2147483648), 0) rfl
  obtain ⟨hG, hgi⟩ := hG
  have hG : True := hG
  obtain ⟨h0, hh, e0⟩ := hh
  have e0 : g = ys_gup h0 3 (((1 * r 22 + 0) + 0)).toNat ((1 * r 2 + 0) + 0) := e0
  obtain ⟨h1, hh, e1⟩ := hh
  have e1 : h0 = ys_gup h1 2 (((1 * r 22 + 0) + 0)).toNat ((1 * r 1 + 0) + 0) := e1
  obtain ⟨h2, hh, e2⟩ := hh
  have e2 : h1 = ys_gup h2 1 (((1 * r 22 + 0) + 0)).toNat ((1 * r 0 + 0) + 0) := e2
  obtain ⟨h3, hh, e3, k3⟩ := hh
  have k3 : ∀ j, j ∉ [] → h2 j = h3 j := k3
  have e3 : (-1000000 ≤ ((1 * r 0 + 0) + 0) ∧ ((1 * r 0 + 0) + 0) ≤ 1000000 ∧ -1000000 ≤ ((1 * r 1 + 0) + 0) ∧ ((1 * r 1 + 0) + 0) ≤ 1000000 ∧ -1000000 ≤ ((1 * r 2 + 0) + 0) ∧ ((1 * r 2 + 0) + 0) ≤ 1000000) ∧ (((1 * r 0 + 0) + 0) ≠ 0 ∨ ((1 * r 1 + 0) + 0) ≠ 0) := e3
  have hh : h3 = gi := hh
  subst hh
  refine yt_dalt (by decide) (by decide) ?_
  rw [show xk_1038.2.1.2.1.1.length = 28 from rfl]
  show ((1 * r 22 + 0) + 1) = yq_jr ((1 * r 0 + 0) + 0) ((1 * r 1 + 0) + 0) ((1 * r 2 + 0) + 0) ((1 * ((1 * r 22 + 0) + 0) + 0) + 0) ∧ ((1 * ((1 * r 22 + 0) + 1) + 0) + 0) = yq_jm ((1 * r 0 + 0) + 0) ((1 * r 1 + 0) + 0) ((1 * r 2 + 0) + 0) ((1 * ((1 * r 22 + 0) + 0) + 0) + 0)
  try simp only [Int.one_mul, Int.zero_add, Int.add_zero]
  try simp only [Int.one_mul, Int.zero_add, Int.add_zero] at e3
  refine ⟨?_, ?_⟩
  · unfold yq_jr
    repeat' split
    all_goals omega
  · unfold yq_jm
    repeat' split
    all_goals omega
theorem xw_1038_0_2 : yt_hold xT_1038 xk_1038 xq_1038.2.2.1 xG_1038 xP_1038 xU_1038 28 xk_1038.2.1.2.2.2 (fun g0 r g => xR_1038 r g0 ∧ g = g0) (1000, ([((-2147483648), 2147483647), ((-2147483648), 2147483647), ((-1000000), 1000000), ((-2147483648), 2147483647), ((-2147483648), 2147483647), (0, 40), ((-2147483648), 2147483647), (0, 4), ((-9223372036854775808), 9223372036854775807), ((-9223372036854775808), 9223372036854775807), ((-9223372036854775808), 9223372036854775807), (0, 1), ((-4000), 4000), ((-4000), 4000), ((-9223372036854775808), 9223372036854775807), ((-9223372036854775808), 9223372036854775807), (0, 12), ((-9223372036854775808), 9223372036854775807), ((-9223372036854775808), 9223372036854775807), ((-9223372036854775808), 9223372036854775807), ((-9223372036854775808), 9223372036854775807), ((-9223372036854775808), 9223372036854775807), (12, 12), ((-2147483648), 2147483647), (0, 12), ((-2147483648), 2147483647), (0, 40), (0, 40), ((-2147483648), 0)], []), [([], (-5)), ([(28, 1)], 0), ([(22, 1)], 0)], [], [.inr (.inr (.inl (73, 1, [([(0, 1)], 0), ([(1, 1)], 0), ([(2, 1)], 0)], [], [])))]) := by
  intro g0 r gi g hok hh hars hfr hG
  have b0 : (-2147483648) ≤ r 0 ∧ r 0 ≤ 2147483647 := hok.1 0 ((-2147483648), 2147483647) rfl
  have b1 : (-2147483648) ≤ r 1 ∧ r 1 ≤ 2147483647 := hok.1 1 ((-2147483648), 2147483647) rfl
  have b2 : (-1000000) ≤ r 2 ∧ r 2 ≤ 1000000 := hok.1 2 ((-1000000), 1000000) rfl
  have b22 : 12 ≤ r 22 ∧ r 22 ≤ 12 := hok.1 22 (12, 12) rfl
  have b28 : (-2147483648) ≤ r 28 ∧ r 28 ≤ 0 := hok.1 28 ((-2147483648), 0) rfl
  obtain ⟨hG, hgi⟩ := hG
  have hG : True := hG
  obtain ⟨h0, hh, e0, k0⟩ := hh
  have k0 : ∀ j, j ∉ [] → g j = h0 j := k0
  have e0 : (-1000000 ≤ ((1 * r 0 + 0) + 0) ∧ ((1 * r 0 + 0) + 0) ≤ 1000000 ∧ -1000000 ≤ ((1 * r 1 + 0) + 0) ∧ ((1 * r 1 + 0) + 0) ≤ 1000000 ∧ -1000000 ≤ ((1 * r 2 + 0) + 0) ∧ ((1 * r 2 + 0) + 0) ≤ 1000000) ∧ (((1 * r 0 + 0) + 0) ≠ 0 ∨ ((1 * r 1 + 0) + 0) ≠ 0) := e0
  have hh : h0 = gi := hh
  subst hh
  refine yt_dalt (by decide) (by decide) ?_
  rw [show xk_1038.2.1.2.1.1.length = 28 from rfl]
  show ((0 : Int) + (-5)) = yq_jr ((1 * r 0 + 0) + 0) ((1 * r 1 + 0) + 0) ((1 * r 2 + 0) + 0) ((1 * ((1 * r 22 + 0) + 0) + 0) + 0) ∧ ((1 * ((1 * r 22 + 0) + 0) + 0) + 0) = yq_jm ((1 * r 0 + 0) + 0) ((1 * r 1 + 0) + 0) ((1 * r 2 + 0) + 0) ((1 * ((1 * r 22 + 0) + 0) + 0) + 0)
  try simp only [Int.one_mul, Int.zero_add, Int.add_zero]
  try simp only [Int.one_mul, Int.zero_add, Int.add_zero] at e0
  refine ⟨?_, ?_⟩
  · unfold yq_jr
    repeat' split
    all_goals omega
  · unfold yq_jm
    repeat' split
    all_goals omega
theorem xn_1038 : ∀ (j : Nat) (q : Nat × yt_T), xq_1038.2.2.1[j]? = some q → q.2.2.2 = false → ∀ g0 r g, xG_1038 j g0 r g
  | n + 0, q, hq, _ => by cases hq
theorem xs_1038 : ∀ j, xq_1038.2.2.2.getD j false = false → ∀ r g g', xP_1038 j r g g'
  | 0, hf => by cases hf
  | n + 1, _ => fun _ _ _ => trivial
theorem xc_1038 {l : Launch} {D : va_G} {cT : Nat → ClassId} {tys : List (ClassId × FieldType)} (hty : yx_Ty tys cT) : yt_Con l D vwCl cT tys yG yw_s516 xk_1038 xR_1038 xP_1038 := yx_sem (calls := xa_1038) (Z := xq_1038) (tb := xT_1038) (pt := xU_1038) (Ga := xG_1038) (vs := xv_1038) (fun _ _ _ _ => trivial) 300 (by decide +kernel) yz_X12_judge_ok hty (yl_lkX12 _) (yl_cqkX12 _) (List.forall_mem_cons.mpr ⟨⟨xc_1020 hty, yg_CLs yl_wX12_315 yd_yX12_isLine, fun _ _ _ => trivial⟩, List.forall_mem_cons.mpr ⟨⟨xc_1002 hty, yg_CLv rfl rfl rfl yl_wX12_141 yd_yX12_told, fun _ _ _ => trivial⟩, fun _ h => absurd h List.not_mem_nil⟩⟩) (xn_1038) (xs_1038) (by decide +kernel) (List.forall_mem_cons.mpr ⟨xw_1038_0_0, List.forall_mem_cons.mpr ⟨xw_1038_0_1, List.forall_mem_cons.mpr ⟨xw_1038_0_2, fun _ h => absurd h List.not_mem_nil⟩⟩⟩) (trivial)
noncomputable def xf_1039 : ys_F := (yw_f511 1, yw_r511)
noncomputable def xk_1039 : ys_K := (((yX12_learn, cX12_learn, 11, (some .int)), (1, 25)), ([.inr (some 0), .inl (.inl ([(0, 1)], 0))], ([((-2147483648), 2147483647)] ++ yw_e511, []), xf_1039), ([([((-2147483648), 2147483647), ((-2147483648), 0), ((-9223372036854775808), 9223372036854775807), ((-9223372036854775808), 9223372036854775807), ((-9223372036854775808), 9223372036854775807), ((-9223372036854775808), 9223372036854775807), ((-9223372036854775808), 9223372036854775807)], [], ((ys_fs xf_1039.1 [(0, 0, .inl (.inl ([], 0))), (0, 1, .inl (.inl ([(27, 1)], 0))), (0, 28, .inl (.inr ([(28, 1)], 0))), (0, 29, .inl (.inr ([(29, 1)], 0))), (0, 30, .inl (.inr ([(30, 1)], 0))), (0, 31, .inl (.inr ([(31, 1)], 0))), (0, 32, .inl (.inr ([(32, 1)], 0)))]), xf_1039.2), some (.inl (.inl ([(26, 1)], 0))))], []))
noncomputable def xq_1039 : yt_Q := (yz_X12_learn, (yl_flX12, yl_ciX12, yl_cjX12, yl_cpX12, yl_cqX12), [(30, ([((-2147483648), 2147483647), (0, 1), (0, 1000), ((-9223372036854775808), 9223372036854775807), ((-9223372036854775808), 9223372036854775807), ((-9223372036854775808), 9223372036854775807), ((-9223372036854775808), 9223372036854775807)], [([(0, 1)], 0), ([(0, (-1))], 1000)], ((ys_fs xf_1039.1 [(0, 0, .inl (.inl ([], 0))), (0, 28, .inl (.inr ([(29, 1)], 0))), (0, 29, .inl (.inr ([(30, 1)], 0))), (0, 30, .inl (.inr ([(31, 1)], 0))), (0, 32, .inl (.inr ([(32, 1)], 0)))]), xf_1039.2), [(0, .inr (some 0)), (1, .inl (.inl ([(0, 1)], 0))), (2, .inl (.inl ([(26, 1)], 0))), (3, .inl (.inl ([(27, 1)], 0))), (4, .inl (.inl ([(28, 1)], 0)))], [], ([(28, (-43))], 43042)), [], false), (45, ([((-2147483648), 2147483647), (0, 1), (0, 999), (0, 40), ((-9223372036854775808), 9223372036854775807), ((-9223372036854775808), 9223372036854775807), ((-9223372036854775808), 9223372036854775807), ((-9223372036854775808), 9223372036854775807)], [([(0, 1)], (-1)), ([(0, (-1))], 1000)], ((ys_fs xf_1039.1 [(0, 0, .inl (.inl ([], 0))), (0, 28, .inl (.inr ([(30, 1)], 0))), (0, 29, .inl (.inr ([(31, 1)], 0))), (0, 30, .inl (.inr ([(32, 1)], 0))), (0, 32, .inl (.inr ([(33, 1)], 0)))]), xf_1039.2), [(0, .inr (some 0)), (1, .inl (.inl ([(0, 1)], 0))), (2, .inl (.inl ([(26, 1)], 0))), (3, .inl (.inl ([(27, 1)], 0))), (4, .inl (.inl ([(28, 1)], 0))), (5, .inl (.inl ([(29, 1)], 0)))], [], ([(28, (-43)), (29, (-1))], 43040)), [], false)], [])
noncomputable def xa_1039 : List yt_CE := [(((133, true), (0, false, [])), (yw_s2, xk_1004)), (((141, false), (0, false, [0, 1, 2, 3, 4, 5, 6, 7, 8, 9, 10, 11, 12, 13, 14, 15, 16, 17, 18, 19, 20, 21, 22, 23, 24, 25, 26, 27, 28, 29, 30, 31, 32, 33, 34, 35, 36])), (yw_s500, xk_1002))]
theorem xc_1039 {l : Launch} {D : va_G} {cT : Nat → ClassId} {tys : List (ClassId × FieldType)} (hty : yx_Ty tys cT) : yx_C l D cT tys yw_s511 xk_1039 := yx_method (calls := xa_1039) (Z := xq_1039) 300 (by decide +kernel) yz_X12_learn_ok hty (yl_lkX12 _) (yl_cqkX12 _) (List.forall_mem_cons.mpr ⟨⟨xc_1004 hty, yg_CLs yl_wX12_133 yd_yX12_in⟩, List.forall_mem_cons.mpr ⟨⟨xc_1002 hty, yg_CLv rfl rfl rfl yl_wX12_141 yd_yX12_told⟩, fun _ h => absurd h List.not_mem_nil⟩⟩) (by decide +kernel)
