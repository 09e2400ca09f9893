noncomputable def xf_1080 : ys_F := (yw_f504 1, yw_r504)
noncomputable def xk_1080 : ys_K := (((yX12_ways, cX12_ways, 4, (some .int)), (4, 105)), ([.inr (some 0), .inl (.inl ([(0, 1)], 0))], ([((-2147483648), 2147483647)] ++ yw_e504, []), xf_1080), ([([((-2147483648), 2147483647), (0, 12)], [], ((ys_fs xf_1080.1 [(0, 0, .inl (.inl ([], 0))), (0, 26, .inl (.inl ([(27, 1)], 0)))]), xf_1080.2), some (.inl (.inl ([(26, 1)], 0))))], [3, 4, 5]))
noncomputable def xq_1080 : yt_Q := (yz_X12_ways, (yl_flX12, yl_ciX12, yl_cjX12, yl_cpX12, yl_cqX12), [(28, ([((-2147483648), 2147483647), (0, 4096), (0, 12)], [([(0, 1)], 0), ([(0, (-1))], 12), ([(0, (-1)), (3, 1)], 0)], ((ys_fs xf_1080.1 [(0, 0, .inl (.inl ([], 0))), (0, 26, .inl (.inl ([(28, 1)], 0)))]), xf_1080.2), [(0, .inr (some 0)), (2, .inl (.inl ([(26, 1)], 0))), (3, .inl (.inl ([(27, 1)], 0)))], [], ([(27, (-1))], 4096)), [], false)], [])
noncomputable def xa_1080 : List yt_CE := [(((338, false), (0, false, [0, 1, 2, 6, 7, 8, 9, 10, 11, 12, 13, 14, 3, 4, 5, 15, 16, 17, 18, 19, 20, 21, 22, 23, 24, 25, 26, 27, 28, 29, 30, 31, 32, 33, 34, 35, 36])), (yw_s500, xk_1005)), (((341, false), (0, false, [0, 1, 2, 3, 4, 5, 6, 7, 8, 9, 10, 11, 12, 13, 14, 15, 16, 17, 18, 19, 20, 21, 22, 23, 24, 25, 26, 27, 28, 29, 30, 31, 32, 33, 34, 35, 36])), (yw_s504, xk_1012))]
theorem xc_1080 {l : Launch} {D : va_G} {cT : Nat → ClassId} {tys : List (ClassId × FieldType)} (hty : yx_Ty tys cT) : yx_C l D cT tys yw_s504 xk_1080 := yx_method (calls := xa_1080) (Z := xq_1080) 300 (by decide +kernel) yz_X12_ways_ok hty (yl_lkX12 _) (yl_cqkX12 _) (List.forall_mem_cons.mpr ⟨⟨xc_1005 hty, yg_CLv rfl rfl rfl yl_wX12_338 yd_yX12_isMany⟩, List.forall_mem_cons.mpr ⟨⟨xc_1012 hty, yg_CLv rfl rfl rfl yl_wX12_341 yd_yX12_findSets⟩, fun _ h => absurd h List.not_mem_nil⟩⟩) (by decide +kernel)
noncomputable def xf_1081 : ys_F := (yw_f2 2, yw_r2)
noncomputable def xk_1081 : ys_K := (((yX12_divisor, cX12_divisor, 10, (some .long)), (0, 0)), ([.inl (.inr ([(0, 1)], 0)), .inl (.inr ([(1, 1)], 0))], ([((-9223372036854775808), 9223372036854775807), (1, 9223372036854775807)] ++ yw_e2, []), xf_1081), ([([(1, 9223372036854775807)], [], (xf_1081.1, xf_1081.2), some (.inl (.inr ([(2, 1)], 0)))), ([((-9223372036854775808), (-1))], [], (xf_1081.1, xf_1081.2), some (.inl (.inr ([(2, 1)], 0))))], []))
noncomputable def xq_1081 : yt_Q := (yz_X12_divisor, (yl_flX12, yl_ciX12, yl_cjX12, yl_cpX12, yl_cqX12), [(28, ([(1, 9223372036854775807), (0, 9223372036854775807)], [], (xf_1081.1, xf_1081.2), [(4, .inl (.inr ([(2, 1)], 0))), (6, .inl (.inr ([(3, 1)], 0)))], [], ([(3, 1)], 0)), [], false), (28, ([(1, 9223372036854775807), ((-9223372036854775808), 0)], [], (xf_1081.1, xf_1081.2), [(4, .inl (.inr ([(2, 1)], 0))), (6, .inl (.inr ([(3, 1)], 0)))], [], ([(3, (-1))], 0)), [], false), (28, ([((-9223372036854775808), (-1)), (0, 9223372036854775807)], [], (xf_1081.1, xf_1081.2), [(4, .inl (.inr ([(2, 1)], 0))), (6, .inl (.inr ([(3, 1)], 0)))], [], ([(3, 1)], 0)), [], false), (28, ([((-9223372036854775808), (-1)), ((-9223372036854775808), 0)], [], (xf_1081.1, xf_1081.2), [(4, .inl (.inr ([(2, 1)], 0))), (6, .inl (.inr ([(3, 1)], 0)))], [], ([(3, (-1))], 0)), [], false), (28, ([((-9223372036854775808), 9223372036854775807), (1, 9223372036854775807)], [], (xf_1081.1, xf_1081.2), [(4, .inl (.inr ([(2, 1)], 0))), (6, .inl (.inr ([(3, 1)], 0)))], [], ([(3, 1)], 0)), [], false), (28, ([((-9223372036854775808), 9223372036854775807), ((-9223372036854775808), (-1))], [], (xf_1081.1, xf_1081.2), [(4, .inl (.inr ([(2, 1)], 0))), (6, .inl (.inr ([(3, 1)], 0)))], [], ([(3, (-1))], 0)), [], false), (28, ([(1, 9223372036854775807), ((-9223372036854775808), 9223372036854775807)], [], (xf_1081.1, xf_1081.2), [(4, .inl (.inr ([(2, 1)], 0))), (6, .inl (.inr ([(3, 1)], 0)))], [], ([], 9223372036854775809)), [], false)], [])
noncomputable def xa_1081 : List yt_CE := []
theorem xc_1081 {l : Launch} {D : va_G} {cT : Nat → ClassId} {tys : List (ClassId × FieldType)} (hty : yx_Ty tys cT) : yx_C l D cT tys yw_s2 xk_1081 := yx_method (calls := xa_1081) (Z := xq_1081) 300 (by decide +kernel) yz_X12_divisor_ok hty (yl_lkX12 _) (yl_cqkX12 _) (fun _ h => absurd h List.not_mem_nil) (by decide +kernel)
noncomputable def xf_1082 : ys_F := (yw_f2 3, yw_r2)
noncomputable def xk_1082 : ys_K := (((yX12_part, cX12_part, 7, (some .long)), (1, 29)), ([.inl (.inr ([(0, 1)], 0)), .inl (.inr ([(1, 1)], 0)), .inl (.inl ([(2, 1)], 0))], ([((-9223372036854775808), 9223372036854775807), (1, 9223372036854775807), (0, 1)] ++ yw_e2, []), xf_1082), ([([((-9223372036854775808), 9223372036854775807)], [], (xf_1082.1, xf_1082.2), some (.inl (.inr ([(3, 1)], 0))))], []))
noncomputable def xq_1082 : yt_Q := (yz_X12_part, (yl_flX12, yl_ciX12, yl_cjX12, yl_cpX12, yl_cqX12), [], [])
noncomputable def xa_1082 : List yt_CE := [(((252, true), (0, false, [])), (yw_s2, xk_1081))]
theorem xc_1082 {l : Launch} {D : va_G} {cT : Nat → ClassId} {tys : List (ClassId × FieldType)} (hty : yx_Ty tys cT) : yx_C l D cT tys yw_s2 xk_1082 := yx_method (calls := xa_1082) (Z := xq_1082) 300 (by decide +kernel) yz_X12_part_ok hty (yl_lkX12 _) (yl_cqkX12 _) (List.forall_mem_cons.mpr ⟨⟨xc_1081 hty, yg_CLs yl_wX12_252 yd_yX12_divisor⟩, fun _ h => absurd h List.not_mem_nil⟩) (by decide +kernel)
noncomputable def xf_1083 : ys_F := (yw_f2 2, yw_r2)
noncomputable def xk_1083 : ys_K := (((yX12_divisor, cX12_divisor, 10, (some .long)), (0, 0)), ([.inl (.inr ([(0, 1)], 0)), .inl (.inr ([(1, 1)], 0))], ([(1, 4611686018427387904), ((-4611686018427387904), 4611686018427387904)] ++ yw_e2, []), xf_1083), ([([(1, 4611686018427387904)], [], (xf_1083.1, xf_1083.2), some (.inl (.inr ([(2, 1)], 0))))], []))
noncomputable def xq_1083 : yt_Q := (yz_X12_divisor, (yl_flX12, yl_ciX12, yl_cjX12, yl_cpX12, yl_cqX12), [(28, ([(1, 4611686018427387904), (0, 4611686018427387904)], [], (xf_1083.1, xf_1083.2), [(4, .inl (.inr ([(2, 1)], 0))), (6, .inl (.inr ([(3, 1)], 0)))], [], ([(3, 1)], 0)), [], true), (28, ([(0, 4611686018427387904), (1, 4611686018427387904)], [], (xf_1083.1, xf_1083.2), [(4, .inl (.inr ([(2, 1)], 0))), (6, .inl (.inr ([(3, 1)], 0)))], [], ([(3, 1)], 0)), [], true)], [true])
noncomputable def xa_1083 : List yt_CE := []
noncomputable def xv_1083 : List (List yt_VC) := [[(0, ([(1, 4611686018427387904), (0, 4611686018427387904)], []), [([(0, 1)], 0), ([(1, 1)], 0)], [], []),
   (0, ([(1, 4611686018427387904), ((-4611686018427387904), (-1))], []), [([(0, 1)], 0), ([(1, (-1))], 0)], [], [])],
  [(1000, ([(1, 4611686018427387904), ((-4611686018427387904), 4611686018427387904), (1, 4611686018427387904), (0, 0)], []), [([(2, 1)], 0)], [], []),
   (0, ([(1, 4611686018427387904), ((-4611686018427387904), 4611686018427387904), (1, 4611686018427387903), (2, 4611686018427387904), (0, 0)], [([(3, 1), (2, (-1))], (-1))]), [([(3, 1)], 0), ([(2, 1)], 0)], [], [.inr (.inr (.inl (998, 16, [([(2, 1)], 0), ([(3, 1)], 0), ([(2, 1)], 0)], [], [])))]),
   (0, ([(1, 4611686018427387904), ((-4611686018427387904), 4611686018427387904), (1, 4611686018427387904), (1, 4611686018427387904), (0, 4611686018427387903)], [([(4, (-1)), (2, 1), (3, (-1))], 0), ([(3, 1), (4, (-1))], (-1)), ([(3, (-1)), (2, 1)], 0)]), [([(3, 1)], 0), ([(4, 1)], 0)], [], [.inr (.inr (.inl (998, 16, [([(2, 1)], 0), ([(3, 1)], 0), ([(4, 1)], 0)], [], [])))])],
  [(0, ([(1, 4611686018427387904), ((-4611686018427387904), 4611686018427387904), (0, 4611686018427387903), (1, 4611686018427387904), (0, 0)], [([(3, 1), (2, (-1))], (-1))]), [([(3, 1)], 0), ([(2, 1)], 0)], [], [.inr (.inr (.inl (998, 16, [([(2, 1)], 0), ([(3, 1)], 0), ([(2, 1)], 0)], [], [])))]),
   (0, ([(1, 4611686018427387904), ((-4611686018427387904), 4611686018427387904), (1, 4611686018427387904), (1, 4611686018427387904), (0, 4611686018427387903)], [([(4, (-1)), (2, 1), (3, (-1))], 0), ([(3, 1), (4, (-1))], (-1)), ([(3, (-1)), (2, 1)], 0)]), [([(3, 1)], 0), ([(4, 1)], 0)], [], [.inr (.inr (.inl (998, 16, [([(2, 1)], 0), ([(3, 1)], 0), ([(4, 1)], 0)], [], [])))])]]
noncomputable def xG_1083 : Nat → yt_G → (Nat → Int) → yt_G → Prop
  | 0, g0, r, g => Nat.gcd (((1 * (r 2) + 0) + 0)).toNat (((1 * (r 3) + 0) + 0)).toNat = Nat.gcd ((r 0)).natAbs ((r 1)).natAbs
  | 1, g0, r, g => Nat.gcd (((1 * (r 2) + 0) + 0)).toNat (((1 * (r 3) + 0) + 0)).toNat = Nat.gcd ((r 0)).natAbs ((r 1)).natAbs
  | _, _, _, _ => True
noncomputable def xP_1083 : yt_Ph
  | 0, r, g0, g => (r 2) = ((Nat.gcd ((r 0)).natAbs ((r 1)).natAbs : Nat) : Int)
  | _, _, _, _ => True
noncomputable def xR_1083 : yt_Ps := fun r g0 => True
noncomputable def xT_1083 : yt_Tb := fun d => match d with
  | 998 => fun i r _ _ => yt_hwp i r
  | _ => fun _ _ _ _ => True
noncomputable def xU_1083 : Nat → yt_Ps := fun d => match d with
  | _ => fun _ _ => True
theorem xw_1083_0_0 : yt_hold xT_1083 xk_1083 xq_1083.2.2.1 xG_1083 xP_1083 xU_1083 2 xk_1083.2.1.2.2.2 (fun g0 r g => xR_1083 r g0 ∧ g = g0) (0, ([(1, 4611686018427387904), (0, 4611686018427387904)], []), [([(0, 1)], 0), ([(1, 1)], 0)], [], []) := by
  intro g0 r gi g hok hh hars hfr hG
  have b0 : 1 ≤ r 0 ∧ r 0 ≤ 4611686018427387904 := hok.1 0 (1, 4611686018427387904) rfl
  have b1 : 0 ≤ r 1 ∧ r 1 ≤ 4611686018427387904 := hok.1 1 (0, 4611686018427387904) rfl
  obtain ⟨hG, hgi⟩ := hG
  have hG : True := hG
  have hh : g = gi := hh
  subst hh
  refine yt_dcut (by decide) rfl ?_ ?_
  · exact fun f hf => absurd hf List.not_mem_nil
  · rw [show xk_1083.2.1.2.1.1.length = 2 from rfl]
    show Nat.gcd (((1 * ((1 * r 0 + 0) + 0) + 0) + 0)).toNat (((1 * ((1 * r 1 + 0) + 0) + 0) + 0)).toNat = Nat.gcd (((1 * r 0 + 0) + 0)).natAbs (((1 * r 1 + 0) + 0)).natAbs
    try simp only [Int.one_mul, Int.zero_add, Int.add_zero]
    exact congr (congrArg Nat.gcd (by omega)) (by omega)
theorem xw_1083_0_1 : yt_hold xT_1083 xk_1083 xq_1083.2.2.1 xG_1083 xP_1083 xU_1083 2 xk_1083.2.1.2.2.2 (fun g0 r g => xR_1083 r g0 ∧ g = g0) (0, ([(1, 4611686018427387904), ((-4611686018427387904), (-1))], []), [([(0, 1)], 0), ([(1, (-1))], 0)], [], []) := by
  intro g0 r gi g hok hh hars hfr hG
  have b0 : 1 ≤ r 0 ∧ r 0 ≤ 4611686018427387904 := hok.1 0 (1, 4611686018427387904) rfl
  have b1 : (-4611686018427387904) ≤ r 1 ∧ r 1 ≤ (-1) := hok.1 1 ((-4611686018427387904), (-1)) rfl
  obtain ⟨hG, hgi⟩ := hG
  have hG : True := hG
  have hh : g = gi := hh
  subst hh
  refine yt_dcut (by decide) rfl ?_ ?_
  · exact fun f hf => absurd hf List.not_mem_nil
  · rw [show xk_1083.2.1.2.1.1.length = 2 from rfl]
    show Nat.gcd (((1 * ((1 * r 0 + 0) + 0) + 0) + 0)).toNat (((1 * (((-1) * r 1 + 0) + 0) + 0) + 0)).toNat = Nat.gcd (((1 * r 0 + 0) + 0)).natAbs (((1 * r 1 + 0) + 0)).natAbs
    try simp only [Int.one_mul, Int.zero_add, Int.add_zero]
    exact congr (congrArg Nat.gcd (by omega)) (by omega)
theorem xw_1083_1_0 : yt_hold xT_1083 xk_1083 xq_1083.2.2.1 xG_1083 xP_1083 xU_1083 4 ((xq_1083.2.2.1.getD 0 (0, ([], [], ([], []), [], [], ([], 0)), [], false)).2.1.2.2.1.2) (xG_1083 0) (1000, ([(1, 4611686018427387904), ((-4611686018427387904), 4611686018427387904), (1, 4611686018427387904), (0, 0)], []), [([(2, 1)], 0)], [], []) := by
  intro g0 r gi g hok hh hars hfr hG
  have b0 : 1 ≤ r 0 ∧ r 0 ≤ 4611686018427387904 := hok.1 0 (1, 4611686018427387904) rfl
  have b1 : (-4611686018427387904) ≤ r 1 ∧ r 1 ≤ 4611686018427387904 := hok.1 1 ((-4611686018427387904), 4611686018427387904) rfl
  have b2 : 1 ≤ r 2 ∧ r 2 ≤ 4611686018427387904 := hok.1 2 (1, 4611686018427387904) rfl
  have b3 : 0 ≤ r 3 ∧ r 3 ≤ 0 := hok.1 3 (0, 0) rfl
  have hG : Nat.gcd (((1 * (r 2) + 0) + 0)).toNat (((1 * (r 3) + 0) + 0)).toNat = Nat.gcd ((r 0)).natAbs ((r 1)).natAbs := hG
  have hh : g = gi := hh
  subst hh
  have hG : Nat.gcd (((1 * (r 2) + 0) + 0)).toNat (((1 * (r 3) + 0) + 0)).toNat = Nat.gcd ((r 0)).natAbs ((r 1)).natAbs := hG
  refine yt_dalt (by decide) (by decide) ?_
  rw [show xk_1083.2.1.2.1.1.length = 2 from rfl]
  show ((1 * r 2 + 0) + 0) = ((Nat.gcd (((1 * r 0 + 0) + 0)).natAbs (((1 * r 1 + 0) + 0)).natAbs : Nat) : Int)
  try simp only [Int.one_mul, Int.zero_add, Int.add_zero]
  have hg : Nat.gcd (r 2).toNat (r 3).toNat = Nat.gcd (r 0).natAbs (r 1).natAbs := by
    first
      | rfl
      | (try simp only [Int.one_mul, Int.zero_add, Int.add_zero] at hG
         exact hG)
  rw [← hg, show (r 3).toNat = 0 by omega, Nat.gcd_zero_right]
  omega
theorem xw_1083_1_1 : yt_hold xT_1083 xk_1083 xq_1083.2.2.1 xG_1083 xP_1083 xU_1083 4 ((xq_1083.2.2.1.getD 0 (0, ([], [], ([], []), [], [], ([], 0)), [], false)).2.1.2.2.1.2) (xG_1083 0) (0, ([(1, 4611686018427387904), ((-4611686018427387904), 4611686018427387904), (1, 4611686018427387903), (2, 4611686018427387904), (0, 0)], [([(3, 1), (2, (-1))], (-1))]), [([(3, 1)], 0), ([(2, 1)], 0)], [], [.inr (.inr (.inl (998, 16, [([(2, 1)], 0), ([(3, 1)], 0), ([(2, 1)], 0)], [], [])))]) := by
  intro g0 r gi g hok hh hars hfr hG
  have b0 : 1 ≤ r 0 ∧ r 0 ≤ 4611686018427387904 := hok.1 0 (1, 4611686018427387904) rfl
  have b1 : (-4611686018427387904) ≤ r 1 ∧ r 1 ≤ 4611686018427387904 := hok.1 1 ((-4611686018427387904), 4611686018427387904) rfl
  have b2 : 1 ≤ r 2 ∧ r 2 ≤ 4611686018427387903 := hok.1 2 (1, 4611686018427387903) rfl
  have b3 : 2 ≤ r 3 ∧ r 3 ≤ 4611686018427387904 := hok.1 3 (2, 4611686018427387904) rfl
  have b4 : 0 ≤ r 4 ∧ r 4 ≤ 0 := hok.1 4 (0, 0) rfl
  have f0 : 0 ≤ ((1 * r 3 + ((-1) * r 2 + 0)) + (-1)) := hok.2 _ (List.mem_of_getElem? (i := 0) rfl)
  have hG : Nat.gcd (((1 * (r 2) + 0) + 0)).toNat (((1 * (r 3) + 0) + 0)).toNat = Nat.gcd ((r 0)).natAbs ((r 1)).natAbs := hG
  obtain ⟨h0, hh, e0, k0⟩ := hh
  have k0 : ∀ j, j ∉ [] → g j = h0 j := k0
  have e0 : ((1 * r 2 + 0) + 0) = (((1 * r 2 + 0) + 0)).tmod (((1 * r 3 + 0) + 0)) := e0
  have hh : h0 = gi := hh
  subst hh
  have hG : Nat.gcd (((1 * (r 2) + 0) + 0)).toNat (((1 * (r 3) + 0) + 0)).toNat = Nat.gcd ((r 0)).natAbs ((r 1)).natAbs := hG
  refine yt_dcut (by decide) rfl ?_ ?_
  · exact fun f hf => absurd hf List.not_mem_nil
  · rw [show xk_1083.2.1.2.1.1.length = 2 from rfl]
    show Nat.gcd (((1 * ((1 * r 3 + 0) + 0) + 0) + 0)).toNat (((1 * ((1 * r 2 + 0) + 0) + 0) + 0)).toNat = Nat.gcd (((1 * r 0 + 0) + 0)).natAbs (((1 * r 1 + 0) + 0)).natAbs
    try simp only [Int.one_mul, Int.zero_add, Int.add_zero]
    first
      | done
      | (have hg : Nat.gcd (r 2).toNat (r 3).toNat = Nat.gcd (r 0).natAbs (r 1).natAbs := by
           first
             | rfl
             | (try simp only [Int.one_mul, Int.zero_add, Int.add_zero] at hG
                exact hG)
         try simp only [Int.one_mul, Int.zero_add, Int.add_zero] at e0
         have em2 : (r 2).toNat = (r 2).toNat % (r 3).toNat := by
           have em := e0
           rw [yy_tm (by omega) (by omega)] at em
           omega
         exact (congrArg (Nat.gcd (r 3).toNat) em2).trans ((yy_gs _ _).trans hg))
theorem xw_1083_1_2 : yt_hold xT_1083 xk_1083 xq_1083.2.2.1 xG_1083 xP_1083 xU_1083 4 ((xq_1083.2.2.1.getD 0 (0, ([], [], ([], []), [], [], ([], 0)), [], false)).2.1.2.2.1.2) (xG_1083 0) (0, ([(1, 4611686018427387904), ((-4611686018427387904), 4611686018427387904), (1, 4611686018427387904), (1, 4611686018427387904), (0, 4611686018427387903)], [([(4, (-1)), (2, 1), (3, (-1))], 0), ([(3, 1), (4, (-1))], (-1)), ([(3, (-1)), (2, 1)], 0)]), [([(3, 1)], 0), ([(4, 1)], 0)], [], [.inr (.inr (.inl (998, 16, [([(2, 1)], 0), ([(3, 1)], 0), ([(4, 1)], 0)], [], [])))]) := by
  intro g0 r gi g hok hh hars hfr hG
  have b0 : 1 ≤ r 0 ∧ r 0 ≤ 4611686018427387904 := hok.1 0 (1, 4611686018427387904) rfl
  have b1 : (-4611686018427387904) ≤ r 1 ∧ r 1 ≤ 4611686018427387904 := hok.1 1 ((-4611686018427387904), 4611686018427387904) rfl
  have b2 : 1 ≤ r 2 ∧ r 2 ≤ 4611686018427387904 := hok.1 2 (1, 4611686018427387904) rfl
  have b3 : 1 ≤ r 3 ∧ r 3 ≤ 4611686018427387904 := hok.1 3 (1, 4611686018427387904) rfl
  have b4 : 0 ≤ r 4 ∧ r 4 ≤ 4611686018427387903 := hok.1 4 (0, 4611686018427387903) rfl
  have f0 : 0 ≤ (((-1) * r 4 + (1 * r 2 + ((-1) * r 3 + 0))) + 0) := hok.2 _ (List.mem_of_getElem? (i := 0) rfl)
  have f1 : 0 ≤ ((1 * r 3 + ((-1) * r 4 + 0)) + (-1)) := hok.2 _ (List.mem_of_getElem? (i := 1) rfl)
  have f2 : 0 ≤ (((-1) * r 3 + (1 * r 2 + 0)) + 0) := hok.2 _ (List.mem_of_getElem? (i := 2) rfl)
  have hG : Nat.gcd (((1 * (r 2) + 0) + 0)).toNat (((1 * (r 3) + 0) + 0)).toNat = Nat.gcd ((r 0)).natAbs ((r 1)).natAbs := hG
  obtain ⟨h0, hh, e0, k0⟩ := hh
  have k0 : ∀ j, j ∉ [] → g j = h0 j := k0
  have e0 : ((1 * r 4 + 0) + 0) = (((1 * r 2 + 0) + 0)).tmod (((1 * r 3 + 0) + 0)) := e0
  have hh : h0 = gi := hh
  subst hh
  have hG : Nat.gcd (((1 * (r 2) + 0) + 0)).toNat (((1 * (r 3) + 0) + 0)).toNat = Nat.gcd ((r 0)).natAbs ((r 1)).natAbs := hG
  refine yt_dcut (by decide) rfl ?_ ?_
  · exact fun f hf => absurd hf List.not_mem_nil
  · rw [show xk_1083.2.1.2.1.1.length = 2 from rfl]
    show Nat.gcd (((1 * ((1 * r 3 + 0) + 0) + 0) + 0)).toNat (((1 * ((1 * r 4 + 0) + 0) + 0) + 0)).toNat = Nat.gcd (((1 * r 0 + 0) + 0)).natAbs (((1 * r 1 + 0) + 0)).natAbs
    try simp only [Int.one_mul, Int.zero_add, Int.add_zero]
    first
      | done
      | (have hg : Nat.gcd (r 2).toNat (r 3).toNat = Nat.gcd (r 0).natAbs (r 1).natAbs := by
           first
             | rfl
             | (try simp only [Int.one_mul, Int.zero_add, Int.add_zero] at hG
                exact hG)
         try simp only [Int.one_mul, Int.zero_add, Int.add_zero] at e0
         have em2 : (r 4).toNat = (r 2).toNat % (r 3).toNat := by
           have em := e0
           rw [yy_tm (by omega) (by omega)] at em
           omega
         exact (congrArg (Nat.gcd (r 3).toNat) em2).trans ((yy_gs _ _).trans hg))
theorem xw_1083_2_0 : yt_hold xT_1083 xk_1083 xq_1083.2.2.1 xG_1083 xP_1083 xU_1083 4 ((xq_1083.2.2.1.getD 1 (0, ([], [], ([], []), [], [], ([], 0)), [], false)).2.1.2.2.1.2) (xG_1083 1) (0, ([(1, 4611686018427387904), ((-4611686018427387904), 4611686018427387904), (0, 4611686018427387903), (1, 4611686018427387904), (0, 0)], [([(3, 1), (2, (-1))], (-1))]), [([(3, 1)], 0), ([(2, 1)], 0)], [], [.inr (.inr (.inl (998, 16, [([(2, 1)], 0), ([(3, 1)], 0), ([(2, 1)], 0)], [], [])))]) := by
  intro g0 r gi g hok hh hars hfr hG
  have b0 : 1 ≤ r 0 ∧ r 0 ≤ 4611686018427387904 := hok.1 0 (1, 4611686018427387904) rfl
  have b1 : (-4611686018427387904) ≤ r 1 ∧ r 1 ≤ 4611686018427387904 := hok.1 1 ((-4611686018427387904), 4611686018427387904) rfl
  have b2 : 0 ≤ r 2 ∧ r 2 ≤ 4611686018427387903 := hok.1 2 (0, 4611686018427387903) rfl
  have b3 : 1 ≤ r 3 ∧ r 3 ≤ 4611686018427387904 := hok.1 3 (1, 4611686018427387904) rfl
  have b4 : 0 ≤ r 4 ∧ r 4 ≤ 0 := hok.1 4 (0, 0) rfl
  have f0 : 0 ≤ ((1 * r 3 + ((-1) * r 2 + 0)) + (-1)) := hok.2 _ (List.mem_of_getElem? (i := 0) rfl)
  have hG : Nat.gcd (((1 * (r 2) + 0) + 0)).toNat (((1 * (r 3) + 0) + 0)).toNat = Nat.gcd ((r 0)).natAbs ((r 1)).natAbs := hG
  obtain ⟨h0, hh, e0, k0⟩ := hh
  have k0 : ∀ j, j ∉ [] → g j = h0 j := k0
  have e0 : ((1 * r 2 + 0) + 0) = (((1 * r 2 + 0) + 0)).tmod (((1 * r 3 + 0) + 0)) := e0
  have hh : h0 = gi := hh
  subst hh
  have hG : Nat.gcd (((1 * (r 2) + 0) + 0)).toNat (((1 * (r 3) + 0) + 0)).toNat = Nat.gcd ((r 0)).natAbs ((r 1)).natAbs := hG
  refine yt_dcut (by decide) rfl ?_ ?_
  · exact fun f hf => absurd hf List.not_mem_nil
  · rw [show xk_1083.2.1.2.1.1.length = 2 from rfl]
    show Nat.gcd (((1 * ((1 * r 3 + 0) + 0) + 0) + 0)).toNat (((1 * ((1 * r 2 + 0) + 0) + 0) + 0)).toNat = Nat.gcd (((1 * r 0 + 0) + 0)).natAbs (((1 * r 1 + 0) + 0)).natAbs
    try simp only [Int.one_mul, Int.zero_add, Int.add_zero]
    first
      | done
      | (have hg : Nat.gcd (r 2).toNat (r 3).toNat = Nat.gcd (r 0).natAbs (r 1).natAbs := by
           first
             | rfl
             | (try simp only [Int.one_mul, Int.zero_add, Int.add_zero] at hG
                exact hG)
         try simp only [Int.one_mul, Int.zero_add, Int.add_zero] at e0
         have em2 : (r 2).toNat = (r 2).toNat % (r 3).toNat := by
           have em := e0
           rw [yy_tm (by omega) (by omega)] at em
           omega
         exact (congrArg (Nat.gcd (r 3).toNat) em2).trans ((yy_gs _ _).trans hg))
theorem xw_1083_2_1 : yt_hold xT_1083 xk_1083 xq_1083.2.2.1 xG_1083 xP_1083 xU_1083 4 ((xq_1083.2.2.1.getD 1 (0, ([], [], ([], []), [], [], ([], 0)), [], false)).2.1.2.2.1.2) (xG_1083 1) (0, ([(1, 4611686018427387904), ((-4611686018427387904), 4611686018427387904), (1, 4611686018427387904), (1, 4611686018427387904), (0, 4611686018427387903)], [([(4, (-1)), (2, 1), (3, (-1))], 0), ([(3, 1), (4, (-1))], (-1)), ([(3, (-1)), (2, 1)], 0)]), [([(3, 1)], 0), ([(4, 1)], 0)], [], [.inr (.inr (.inl (998, 16, [([(2, 1)], 0), ([(3, 1)], 0), ([(4, 1)], 0)], [], [])))]) := by
  intro g0 r gi g hok hh hars hfr hG
  have b0 : 1 ≤ r 0 ∧ r 0 ≤ 4611686018427387904 := hok.1 0 (1, 4611686018427387904) rfl
  have b1 : (-4611686018427387904) ≤ r 1 ∧ r 1 ≤ 4611686018427387904 := hok.1 1 ((-4611686018427387904), 4611686018427387904) rfl
  have b2 : 1 ≤ r 2 ∧ r 2 ≤ 4611686018427387904 := hok.1 2 (1, 4611686018427387904) rfl
  have b3 : 1 ≤ r 3 ∧ r 3 ≤ 4611686018427387904 := hok.1 3 (1, 4611686018427387904) rfl
  have b4 : 0 ≤ r 4 ∧ r 4 ≤ 4611686018427387903 := hok.1 4 (0, 4611686018427387903) rfl
  have f0 : 0 ≤ (((-1) * r 4 + (1 * r 2 + ((-1) * r 3 + 0))) + 0) := hok.2 _ (List.mem_of_getElem? (i := 0) rfl)
  have f1 : 0 ≤ ((1 * r 3 + ((-1) * r 4 + 0)) + (-1)) := hok.2 _ (List.mem_of_getElem? (i := 1) rfl)
  have f2 : 0 ≤ (((-1) * r 3 + (1 * r 2 + 0)) + 0) := hok.2 _ (List.mem_of_getElem? (i := 2) rfl)
  have hG : Nat.gcd (((1 * (r 2) + 0) + 0)).toNat (((1 * (r 3) + 0) + 0)).toNat = Nat.gcd ((r 0)).natAbs ((r 1)).natAbs := hG
  obtain ⟨h0, hh, e0, k0⟩ := hh
  have k0 : ∀ j, j ∉ [] → g j = h0 j := k0
  have e0 : ((1 * r 4 + 0) + 0) = (((1 * r 2 + 0) + 0)).tmod (((1 * r 3 + 0) + 0)) := e0
  have hh : h0 = gi := hh
  subst hh
  have hG : Nat.gcd (((1 * (r 2) + 0) + 0)).toNat (((1 * (r 3) + 0) + 0)).toNat = Nat.gcd ((r 0)).natAbs ((r 1)).natAbs := hG
  refine yt_dcut (by decide) rfl ?_ ?_
  · exact fun f hf => absurd hf List.not_mem_nil
  · rw [show xk_1083.2.1.2.1.1.length = 2 from rfl]
    show Nat.gcd (((1 * ((1 * r 3 + 0) + 0) + 0) + 0)).toNat (((1 * ((1 * r 4 + 0) + 0) + 0) + 0)).toNat = Nat.gcd (((1 * r 0 + 0) + 0)).natAbs (((1 * r 1 + 0) + 0)).natAbs
    try simp only [Int.one_mul, Int.zero_add, Int.add_zero]
    first
      | done
      | (have hg : Nat.gcd (r 2).toNat (r 3).toNat = Nat.gcd (r 0).natAbs (r 1).natAbs := by
           first
             | rfl
             | (try simp only [Int.one_mul, Int.zero_add, Int.add_zero] at hG
                exact hG)
         try simp only [Int.one_mul, Int.zero_add, Int.add_zero] at e0
         have em2 : (r 4).toNat = (r 2).toNat % (r 3).toNat := by
           have em := e0
           rw [yy_tm (by omega) (by omega)] at em
           omega
         exact (congrArg (Nat.gcd (r 3).toNat) em2).trans ((yy_gs _ _).trans hg))
theorem xn_1083 : ∀ (j : Nat) (q : Nat × yt_T), xq_1083.2.2.1[j]? = some q → q.2.2.2 = false → ∀ g0 r g, xG_1083 j g0 r g
  | 0, q, hq, hf => by cases hq; cases hf
  | 1, q, hq, hf => by cases hq; cases hf
  | n + 2, q, hq, _ => by cases hq
theorem xs_1083 : ∀ j, xq_1083.2.2.2.getD j false = false → ∀ r g g', xP_1083 j r g g'
  | 0, hf => by cases hf
  | n + 1, _ => fun _ _ _ => trivial
theorem xc_1083 {l : Launch} {D : va_G} {cT : Nat → ClassId} {tys : List (ClassId × FieldType)} (hty : yx_Ty tys cT) : yt_Con l D vwCl cT tys yG yw_s2 xk_1083 xR_1083 xP_1083 := yx_sem (calls := xa_1083) (Z := xq_1083) (tb := xT_1083) (pt := xU_1083) (Ga := xG_1083) (vs := xv_1083) (fun _ _ _ h => h) 300 (by decide +kernel) yz_X12_divisor_ok hty (yl_lkX12 _) (yl_cqkX12 _) (fun _ h => absurd h List.not_mem_nil) (xn_1083) (xs_1083) (by decide +kernel) (List.forall_mem_cons.mpr ⟨xw_1083_0_0, List.forall_mem_cons.mpr ⟨xw_1083_0_1, fun _ h => absurd h List.not_mem_nil⟩⟩) (⟨List.forall_mem_cons.mpr ⟨xw_1083_1_0, List.forall_mem_cons.mpr ⟨xw_1083_1_1, List.forall_mem_cons.mpr ⟨xw_1083_1_2, fun _ h => absurd h List.not_mem_nil⟩⟩⟩, ⟨List.forall_mem_cons.mpr ⟨xw_1083_2_0, List.forall_mem_cons.mpr ⟨xw_1083_2_1, fun _ h => absurd h List.not_mem_nil⟩⟩, trivial⟩⟩)
noncomputable def xf_1084 : ys_F := (yw_f2 2, yw_r2)
noncomputable def xk_1084 : ys_K := (((yX12_divisor, cX12_divisor, 10, (some .long)), (0, 0)), ([.inl (.inr ([(0, 1)], 0)), .inl (.inr ([(1, 1)], 0))], ([((-4611686018427387904), (-1)), ((-4611686018427387904), 4611686018427387904)] ++ yw_e2, []), xf_1084), ([([(1, 4611686018427387904)], [], (xf_1084.1, xf_1084.2), some (.inl (.inr ([(2, 1)], 0))))], []))
noncomputable def xq_1084 : yt_Q := (yz_X12_divisor, (yl_flX12, yl_ciX12, yl_cjX12, yl_cpX12, yl_cqX12), [(28, ([(1, 4611686018427387904), (0, 4611686018427387904)], [], (xf_1084.1, xf_1084.2), [(4, .inl (.inr ([(2, 1)], 0))), (6, .inl (.inr ([(3, 1)], 0)))], [], ([(3, 1)], 0)), [], true), (28, ([(0, 4611686018427387904), (1, 4611686018427387904)], [], (xf_1084.1, xf_1084.2), [(4, .inl (.inr ([(2, 1)], 0))), (6, .inl (.inr ([(3, 1)], 0)))], [], ([(3, 1)], 0)), [], true)], [true])
noncomputable def xa_1084 : List yt_CE := []
noncomputable def xv_1084 : List (List yt_VC) := [[(0, ([((-4611686018427387904), (-1)), (0, 4611686018427387904)], []), [([(0, (-1))], 0), ([(1, 1)], 0)], [], []),
   (0, ([((-4611686018427387904), (-1)), ((-4611686018427387904), (-1))], []), [([(0, (-1))], 0), ([(1, (-1))], 0)], [], [])],
  [(1000, ([((-4611686018427387904), (-1)), ((-4611686018427387904), 4611686018427387904), (1, 4611686018427387904), (0, 0)], []), [([(2, 1)], 0)], [], []),
   (0, ([((-4611686018427387904), (-1)), ((-4611686018427387904), 4611686018427387904), (1, 4611686018427387903), (2, 4611686018427387904), (0, 0)], [([(3, 1), (2, (-1))], (-1))]), [([(3, 1)], 0), ([(2, 1)], 0)], [], [.inr (.inr (.inl (998, 16, [([(2, 1)], 0), ([(3, 1)], 0), ([(2, 1)], 0)], [], [])))]),
   (0, ([((-4611686018427387904), (-1)), ((-4611686018427387904), 4611686018427387904), (1, 4611686018427387904), (1, 4611686018427387904), (0, 4611686018427387903)], [([(4, (-1)), (2, 1), (3, (-1))], 0), ([(3, 1), (4, (-1))], (-1)), ([(3, (-1)), (2, 1)], 0)]), [([(3, 1)], 0), ([(4, 1)], 0)], [], [.inr (.inr (.inl (998, 16, [([(2, 1)], 0), ([(3, 1)], 0), ([(4, 1)], 0)], [], [])))])],
  [(0, ([((-4611686018427387904), (-1)), ((-4611686018427387904), 4611686018427387904), (0, 4611686018427387903), (1, 4611686018427387904), (0, 0)], [([(3, 1), (2, (-1))], (-1))]), [([(3, 1)], 0), ([(2, 1)], 0)], [], [.inr (.inr (.inl (998, 16, [([(2, 1)], 0), ([(3, 1)], 0), ([(2, 1)], 0)], [], [])))]),
   (0, ([((-4611686018427387904), (-1)), ((-4611686018427387904), 4611686018427387904), (1, 4611686018427387904), (1, 4611686018427387904), (0, 4611686018427387903)], [([(4, (-1)), (2, 1), (3, (-1))], 0), ([(3, 1), (4, (-1))], (-1)), ([(3, (-1)), (2, 1)], 0)]), [([(3, 1)], 0), ([(4, 1)], 0)], [], [.inr (.inr (.inl (998, 16, [([(2, 1)], 0), ([(3, 1)], 0), ([(4, 1)], 0)], [], [])))])]]
noncomputable def xG_1084 : Nat → yt_G → (Nat → Int) → yt_G → Prop
  | 0, g0, r, g => Nat.gcd (((1 * (r 2) + 0) + 0)).toNat (((1 * (r 3) + 0) + 0)).toNat = Nat.gcd ((r 0)).natAbs ((r 1)).natAbs
  | 1, g0, r, g => Nat.gcd (((1 * (r 2) + 0) + 0)).toNat (((1 * (r 3) + 0) + 0)).toNat = Nat.gcd ((r 0)).natAbs ((r 1)).natAbs
  | _, _, _, _ => True
noncomputable def xP_1084 : yt_Ph
  | 0, r, g0, g => (r 2) = ((Nat.gcd ((r 0)).natAbs ((r 1)).natAbs : Nat) : Int)
  | _, _, _, _ => True
noncomputable def xR_1084 : yt_Ps := fun r g0 => True
noncomputable def xT_1084 : yt_Tb := fun d => match d with
  | 998 => fun i r _ _ => yt_hwp i r
  | _ => fun _ _ _ _ => True
noncomputable def xU_1084 : Nat → yt_Ps := fun d => match d with
  | _ => fun _ _ => True
theorem xw_1084_0_0 : yt_hold xT_1084 xk_1084 xq_1084.2.2.1 xG_1084 xP_1084 xU_1084 2 xk_1084.2.1.2.2.2 (fun g0 r g => xR_1084 r g0 ∧ g = g0) (0, ([((-4611686018427387904), (-1)), (0, 4611686018427387904)], []), [([(0, (-1))], 0), ([(1, 1)], 0)], [], []) := by
  intro g0 r gi g hok hh hars hfr hG
  have b0 : (-4611686018427387904) ≤ r 0 ∧ r 0 ≤ (-1) := hok.1 0 ((-4611686018427387904), (-1)) rfl
  have b1 : 0 ≤ r 1 ∧ r 1 ≤ 4611686018427387904 := hok.1 1 (0, 4611686018427387904) rfl
  obtain ⟨hG, hgi⟩ := hG
  have hG : True := hG
  have hh : g = gi := hh
  subst hh
  refine yt_dcut (by decide) rfl ?_ ?_
  · exact fun f hf => absurd hf List.not_mem_nil
  · rw [show xk_1084.2.1.2.1.1.length = 2 from rfl]
    show Nat.gcd (((1 * (((-1) * r 0 + 0) + 0) + 0) + 0)).toNat (((1 * ((1 * r 1 + 0) + 0) + 0) + 0)).toNat = Nat.gcd (((1 * r 0 + 0) + 0)).natAbs (((1 * r 1 + 0) + 0)).natAbs
    try simp only [Int.one_mul, Int.zero_add, Int.add_zero]
    exact congr (congrArg Nat.gcd (by omega)) (by omega)
theorem xw_1084_0_1 : yt_hold xT_1084 xk_1084 xq_1084.2.2.1 xG_1084 xP_1084 xU_1084 2 xk_1084.2.1.2.2.2 (fun g0 r g => xR_1084 r g0 ∧ g = g0) (0, ([((-4611686018427387904), (-1)), ((-4611686018427387904), (-1))], []), [([(0, (-1))], 0), ([(1, (-1))], 0)], [], []) := by
  intro g0 r gi g hok hh hars hfr hG
  have b0 : (-4611686018427387904) ≤ r 0 ∧ r 0 ≤ (-1) := hok.1 0 ((-4611686018427387904), (-1)) rfl
  have b1 : (-4611686018427387904) ≤ r 1 ∧ r 1 ≤ (-1) := hok.1 1 ((-4611686018427387904), (-1)) rfl
  obtain ⟨hG, hgi⟩ := hG
  have hG : True := hG
  have hh : g = gi := hh
  subst hh
  refine yt_dcut (by decide) rfl ?_ ?_
  · exact fun f hf => absurd hf List.not_mem_nil
  · rw [show xk_1084.2.1.2.1.1.length = 2 from rfl]
    show Nat.gcd (((1 * (((-1) * r 0 + 0) + 0) + 0) + 0)).toNat (((1 * (((-1) * r 1 + 0) + 0) + 0) + 0)).toNat = Nat.gcd (((1 * r 0 + 0) + 0)).natAbs (((1 * r 1 + 0) + 0)).natAbs
    try simp only [Int.one_mul, Int.zero_add, Int.add_zero]
    exact congr (congrArg Nat.gcd (by omega)) (by omega)
theorem xw_1084_1_0 : yt_hold xT_1084 xk_1084 xq_1084.2.2.1 xG_1084 xP_1084 xU_1084 4 ((xq_1084.2.2.1.getD 0 (0, ([], [], ([], []), [], [], ([], 0)), [], false)).2.1.2.2.1.2) (xG_1084 0) (1000, ([((-4611686018427387904), (-1)), ((-4611686018427387904), 4611686018427387904), (1, 4611686018427387904), (0, 0)], []), [([(2, 1)], 0)], [], []) := by
  intro g0 r gi g hok hh hars hfr hG
  have b0 : (-4611686018427387904) ≤ r 0 ∧ r 0 ≤ (-1) := hok.1 0 ((-4611686018427387904), (-1)) rfl
  have b1 : (-4611686018427387904) ≤ r 1 ∧ r 1 ≤ 4611686018427387904 := hok.1 1 ((-4611686018427387904), 4611686018427387904) rfl
  have b2 : 1 ≤ r 2 ∧ r 2 ≤ 4611686018427387904 := hok.1 2 (1, 4611686018427387904) rfl
  have b3 : 0 ≤ r 3 ∧ r 3 ≤ 0 := hok.1 3 (0, 0) rfl
  have hG : Nat.gcd (((1 * (r 2) + 0) + 0)).toNat (((1 * (r 3) + 0) + 0)).toNat = Nat.gcd ((r 0)).natAbs ((r 1)).natAbs := hG
  have hh : g = gi := hh
  subst hh
  have hG : Nat.gcd (((1 * (r 2) + 0) + 0)).toNat (((1 * (r 3) + 0) + 0)).toNat = Nat.gcd ((r 0)).natAbs ((r 1)).natAbs := hG
  refine yt_dalt (by decide) (by decide) ?_
  rw [show xk_1084.2.1.2.1.1.length = 2 from rfl]
  show ((1 * r 2 + 0) + 0) = ((Nat.gcd (((1 * r 0 + 0) + 0)).natAbs (((1 * r 1 + 0) + 0)).natAbs : Nat) : Int)
  try simp only [Int.one_mul, Int.zero_add, Int.add_zero]
  have hg : Nat.gcd (r 2).toNat (r 3).toNat = Nat.gcd (r 0).natAbs (r 1).natAbs := by
    first
      | rfl
      | (try simp only [Int.one_mul, Int.zero_add, Int.add_zero] at hG
         exact hG)
  rw [← hg, show (r 3).toNat = 0 by omega, Nat.gcd_zero_right]
  omega
theorem xw_1084_1_1 : yt_hold xT_1084 xk_1084 xq_1084.2.2.1 xG_1084 xP_1084 xU_1084 4 ((xq_1084.2.2.1.getD 0 (0, ([], [], ([], []), [], [], ([], 0)), [], false)).2.1.2.2.1.2) (xG_1084 0) (0, ([((-4611686018427387904), (-1)), ((-4611686018427387904), 4611686018427387904), (1, 4611686018427387903), (2, 4611686018427387904), (0, 0)], [([(3, 1), (2, (-1))], (-1))]), [([(3, 1)], 0), ([(2, 1)], 0)], [], [.inr (.inr (.inl (998, 16, [([(2, 1)], 0), ([(3, 1)], 0), ([(2, 1)], 0)], [], [])))]) := by
  intro g0 r gi g hok hh hars hfr hG
  have b0 : (-4611686018427387904) ≤ r 0 ∧ r 0 ≤ (-1) := hok.1 0 ((-4611686018427387904), (-1)) rfl
  have b1 : (-4611686018427387904) ≤ r 1 ∧ r 1 ≤ 4611686018427387904 := hok.1 1 ((-4611686018427387904), 4611686018427387904) rfl
  have b2 : 1 ≤ r 2 ∧ r 2 ≤ 4611686018427387903 := hok.1 2 (1, 4611686018427387903) rfl
  have b3 : 2 ≤ r 3 ∧ r 3 ≤ 4611686018427387904 := hok.1 3 (2, 4611686018427387904) rfl
  have b4 : 0 ≤ r 4 ∧ r 4 ≤ 0 := hok.1 4 (0, 0) rfl
  have f0 : 0 ≤ ((1 * r 3 + ((-1) * r 2 + 0)) + (-1)) := hok.2 _ (List.mem_of_getElem? (i := 0) rfl)
  have hG : Nat.gcd (((1 * (r 2) + 0) + 0)).toNat (((1 * (r 3) + 0) + 0)).toNat = Nat.gcd ((r 0)).natAbs ((r 1)).natAbs := hG
  obtain ⟨h0, hh, e0, k0⟩ := hh
  have k0 : ∀ j, j ∉ [] → g j = h0 j := k0
  have e0 : ((1 * r 2 + 0) + 0) = (((1 * r 2 + 0) + 0)).tmod (((1 * r 3 + 0) + 0)) := e0
  have hh : h0 = gi := hh
  subst hh
  have hG : Nat.gcd (((1 * (r 2) + 0) + 0)).toNat (((1 * (r 3) + 0) + 0)).toNat = Nat.gcd ((r 0)).natAbs ((r 1)).natAbs := hG
  refine yt_dcut (by decide) rfl ?_ ?_
  · exact fun f hf => absurd hf List.not_mem_nil
  · rw [show xk_1084.2.1.2.1.1.length = 2 from rfl]
    show Nat.gcd (((1 * ((1 * r 3 + 0) + 0) + 0) + 0)).toNat (((1 * ((1 * r 2 + 0) + 0) + 0) + 0)).toNat = Nat.gcd (((1 * r 0 + 0) + 0)).natAbs (((1 * r 1 + 0) + 0)).natAbs
    try simp only [Int.one_mul, Int.zero_add, Int.add_zero]
    first
      | done
      | (have hg : Nat.gcd (r 2).toNat (r 3).toNat = Nat.gcd (r 0).natAbs (r 1).natAbs := by
           first
             | rfl
             | (try simp only [Int.one_mul, Int.zero_add, Int.add_zero] at hG
                exact hG)
         try simp only [Int.one_mul, Int.zero_add, Int.add_zero] at e0
         have em2 : (r 2).toNat = (r 2).toNat % (r 3).toNat := by
           have em := e0
           rw [yy_tm (by omega) (by omega)] at em
           omega
         exact (congrArg (Nat.gcd (r 3).toNat) em2).trans ((yy_gs _ _).trans hg))
theorem xw_1084_1_2 : yt_hold xT_1084 xk_1084 xq_1084.2.2.1 xG_1084 xP_1084 xU_1084 4 ((xq_1084.2.2.1.getD 0 (0, ([], [], ([], []), [], [], ([], 0)), [], false)).2.1.2.2.1.2) (xG_1084 0) (0, ([((-4611686018427387904), (-1)), ((-4611686018427387904), 4611686018427387904), (1, 4611686018427387904), (1, 4611686018427387904), (0, 4611686018427387903)], [([(4, (-1)), (2, 1), (3, (-1))], 0), ([(3, 1), (4, (-1))], (-1)), ([(3, (-1)), (2, 1)], 0)]), [([(3, 1)], 0), ([(4, 1)], 0)], [], [.inr (.inr (.inl (998, 16, [([(2, 1)], 0), ([(3, 1)], 0), ([(4, 1)], 0)], [], [])))]) := by
  intro g0 r gi g hok hh hars hfr hG
  have b0 : (-4611686018427387904) ≤ r 0 ∧ r 0 ≤ (-1) := hok.1 0 ((-4611686018427387904), (-1)) rfl
  have b1 : (-4611686018427387904) ≤ r 1 ∧ r 1 ≤ 4611686018427387904 := hok.1 1 ((-4611686018427387904), 4611686018427387904) rfl
  have b2 : 1 ≤ r 2 ∧ r 2 ≤ 4611686018427387904 := hok.1 2 (1, 4611686018427387904) rfl
  have b3 : 1 ≤ r 3 ∧ r 3 ≤ 4611686018427387904 := hok.1 3 (1, 4611686018427387904) rfl
  have b4 : 0 ≤ r 4 ∧ r 4 ≤ 4611686018427387903 := hok.1 4 (0, 4611686018427387903) rfl
  have f0 : 0 ≤ (((-1) * r 4 + (1 * r 2 + ((-1) * r 3 + 0))) + 0) := hok.2 _ (List.mem_of_getElem? (i := 0) rfl)
  have f1 : 0 ≤ ((1 * r 3 + ((-1) * r 4 + 0)) + (-1)) := hok.2 _ (List.mem_of_getElem? (i := 1) rfl)
  have f2 : 0 ≤ (((-1) * r 3 + (1 * r 2 + 0)) + 0) := hok.2 _ (List.mem_of_getElem? (i := 2) rfl)
  have hG : Nat.gcd (((1 * (r 2) + 0) + 0)).toNat (((1 * (r 3) + 0) + 0)).toNat = Nat.gcd ((r 0)).natAbs ((r 1)).natAbs := hG
  obtain ⟨h0, hh, e0, k0⟩ := hh
  have k0 : ∀ j, j ∉ [] → g j = h0 j := k0
  have e0 : ((1 * r 4 + 0) + 0) = (((1 * r 2 + 0) + 0)).tmod (((1 * r 3 + 0) + 0)) := e0
  have hh : h0 = gi := hh
  subst hh
  have hG : Nat.gcd (((1 * (r 2) + 0) + 0)).toNat (((1 * (r 3) + 0) + 0)).toNat = Nat.gcd ((r 0)).natAbs ((r 1)).natAbs := hG
  refine yt_dcut (by decide) rfl ?_ ?_
  · exact fun f hf => absurd hf List.not_mem_nil
  · rw [show xk_1084.2.1.2.1.1.length = 2 from rfl]
    show Nat.gcd (((1 * ((1 * r 3 + 0) + 0) + 0) + 0)).toNat (((1 * ((1 * r 4 + 0) + 0) + 0) + 0)).toNat = Nat.gcd (((1 * r 0 + 0) + 0)).natAbs (((1 * r 1 + 0) + 0)).natAbs
    try simp only [Int.one_mul, Int.zero_add, Int.add_zero]
    first
      | done
      | (have hg : Nat.gcd (r 2).toNat (r 3).toNat = Nat.gcd (r 0).natAbs (r 1).natAbs := by
           first
             | rfl
             | (try simp only [Int.one_mul, Int.zero_add, Int.add_zero] at hG
                exact hG)
         try simp only [Int.one_mul, Int.zero_add, Int.add_zero] at e0
         have em2 : (r 4).toNat = (r 2).toNat % (r 3).toNat := by
           have em := e0
           rw [yy_tm (by omega) (by omega)] at em
           omega
         exact (congrArg (Nat.gcd (r 3).toNat) em2).trans ((yy_gs _ _).trans hg))
theorem xw_1084_2_0 : yt_hold xT_1084 xk_1084 xq_1084.2.2.1 xG_1084 xP_1084 xU_1084 4 ((xq_1084.2.2.1.getD 1 (0, ([], [], ([], []), [], [], ([], 0)), [], false)).2.1.2.2.1.2) (xG_1084 1) (0, ([((-4611686018427387904), (-1)), ((-4611686018427387904), 4611686018427387904), (0, 4611686018427387903), (1, 4611686018427387904), (0, 0)], [([(3, 1), (2, (-1))], (-1))]), [([(3, 1)], 0), ([(2, 1)], 0)], [], [.inr (.inr (.inl (998, 16, [([(2, 1)], 0), ([(3, 1)], 0), ([(2, 1)], 0)], [], [])))]) := by
  intro g0 r gi g hok hh hars hfr hG
  have b0 : (-4611686018427387904) ≤ r 0 ∧ r 0 ≤ (-1) := hok.1 0 ((-4611686018427387904), (-1)) rfl
  have b1 : (-4611686018427387904) ≤ r 1 ∧ r 1 ≤ 4611686018427387904 := hok.1 1 ((-4611686018427387904), 4611686018427387904) rfl
  have b2 : 0 ≤ r 2 ∧ r 2 ≤ 4611686018427387903 := hok.1 2 (0, 4611686018427387903) rfl
  have b3 : 1 ≤ r 3 ∧ r 3 ≤ 4611686018427387904 := hok.1 3 (1, 4611686018427387904) rfl
  have b4 : 0 ≤ r 4 ∧ r 4 ≤ 0 := hok.1 4 (0, 0) rfl
  have f0 : 0 ≤ ((1 * r 3 + ((-1) * r 2 + 0)) + (-1)) := hok.2 _ (List.mem_of_getElem? (i := 0) rfl)
  have hG : Nat.gcd (((1 * (r 2) + 0) + 0)).toNat (((1 * (r 3) + 0) + 0)).toNat = Nat.gcd ((r 0)).natAbs ((r 1)).natAbs := hG
  obtain ⟨h0, hh, e0, k0⟩ := hh
  have k0 : ∀ j, j ∉ [] → g j = h0 j := k0
  have e0 : ((1 * r 2 + 0) + 0) = (((1 * r 2 + 0) + 0)).tmod (((1 * r 3 + 0) + 0)) := e0
  have hh : h0 = gi := hh
  subst hh
  have hG : Nat.gcd (((1 * (r 2) + 0) + 0)).toNat (((1 * (r 3) + 0) + 0)).toNat = Nat.gcd ((r 0)).natAbs ((r 1)).natAbs := hG
  refine yt_dcut (by decide) rfl ?_ ?_
  · exact fun f hf => absurd hf List.not_mem_nil
  · rw [show xk_1084.2.1.2.1.1.length = 2 from rfl]
    show Nat.gcd (((1 * ((1 * r 3 + 0) + 0) + 0) + 0)).toNat (((1 * ((1 * r 2 + 0) + 0) + 0) + 0)).toNat = Nat.gcd (((1 * r 0 + 0) + 0)).natAbs (((1 * r 1 + 0) + 0)).natAbs
    try simp only [Int.one_mul, Int.zero_add, Int.add_zero]
    first
      | done
      | (have hg : Nat.gcd (r 2).toNat (r 3).toNat = Nat.gcd (r 0).natAbs (r 1).natAbs := by
           first
             | rfl
             | (try simp only [Int.one_mul, Int.zero_add, Int.add_zero] at hG
                exact hG)
         try simp only [Int.one_mul, Int.zero_add, Int.add_zero] at e0
         have em2 : (r 2).toNat = (r 2).toNat % (r 3).toNat := by
           have em := e0
           rw [yy_tm (by omega) (by omega)] at em
           omega
         exact (congrArg (Nat.gcd (r 3).toNat) em2).trans ((yy_gs _ _).trans hg))
theorem xw_1084_2_1 : yt_hold xT_1084 xk_1084 xq_1084.2.2.1 xG_1084 xP_1084 xU_1084 4 ((xq_1084.2.2.1.getD 1 (0, ([], [], ([], []), [], [], ([], 0)), [], false)).2.1.2.2.1.2) (xG_1084 1) (0, ([((-4611686018427387904), (-1)), ((-4611686018427387904), 4611686018427387904), (1, 4611686018427387904), (1, 4611686018427387904), (0, 4611686018427387903)], [([(4, (-1)), (2, 1), (3, (-1))], 0), ([(3, 1), (4, (-1))], (-1)), ([(3, (-1)), (2, 1)], 0)]), [([(3, 1)], 0), ([(4, 1)], 0)], [], [.inr (.inr (.inl (998, 16, [([(2, 1)], 0), ([(3, 1)], 0), ([(4, 1)], 0)], [], [])))]) := by
  intro g0 r gi g hok hh hars hfr hG
  have b0 : (-4611686018427387904) ≤ r 0 ∧ r 0 ≤ (-1) := hok.1 0 ((-4611686018427387904), (-1)) rfl
  have b1 : (-4611686018427387904) ≤ r 1 ∧ r 1 ≤ 4611686018427387904 := hok.1 1 ((-4611686018427387904), 4611686018427387904) rfl
  have b2 : 1 ≤ r 2 ∧ r 2 ≤ 4611686018427387904 := hok.1 2 (1, 4611686018427387904) rfl
  have b3 : 1 ≤ r 3 ∧ r 3 ≤ 4611686018427387904 := hok.1 3 (1, 4611686018427387904) rfl
  have b4 : 0 ≤ r 4 ∧ r 4 ≤ 4611686018427387903 := hok.1 4 (0, 4611686018427387903) rfl
  have f0 : 0 ≤ (((-1) * r 4 + (1 * r 2 + ((-1) * r 3 + 0))) + 0) := hok.2 _ (List.mem_of_getElem? (i := 0) rfl)
  have f1 : 0 ≤ ((1 * r 3 + ((-1) * r 4 + 0)) + (-1)) := hok.2 _ (List.mem_of_getElem? (i := 1) rfl)
  have f2 : 0 ≤ (((-1) * r 3 + (1 * r 2 + 0)) + 0) := hok.2 _ (List.mem_of_getElem? (i := 2) rfl)
  have hG : Nat.gcd (((1 * (r 2) + 0) + 0)).toNat (((1 * (r 3) + 0) + 0)).toNat = Nat.gcd ((r 0)).natAbs ((r 1)).natAbs := hG
  obtain ⟨h0, hh, e0, k0⟩ := hh
  have k0 : ∀ j, j ∉ [] → g j = h0 j := k0
  have e0 : ((1 * r 4 + 0) + 0) = (((1 * r 2 + 0) + 0)).tmod (((1 * r 3 + 0) + 0)) := e0
  have hh : h0 = gi := hh
  subst hh
  have hG : Nat.gcd (((1 * (r 2) + 0) + 0)).toNat (((1 * (r 3) + 0) + 0)).toNat = Nat.gcd ((r 0)).natAbs ((r 1)).natAbs := hG
  refine yt_dcut (by decide) rfl ?_ ?_
  · exact fun f hf => absurd hf List.not_mem_nil
  · rw [show xk_1084.2.1.2.1.1.length = 2 from rfl]
    show Nat.gcd (((1 * ((1 * r 3 + 0) + 0) + 0) + 0)).toNat (((1 * ((1 * r 4 + 0) + 0) + 0) + 0)).toNat = Nat.gcd (((1 * r 0 + 0) + 0)).natAbs (((1 * r 1 + 0) + 0)).natAbs
    try simp only [Int.one_mul, Int.zero_add, Int.add_zero]
    first
      | done
      | (have hg : Nat.gcd (r 2).toNat (r 3).toNat = Nat.gcd (r 0).natAbs (r 1).natAbs := by
           first
             | rfl
             | (try simp only [Int.one_mul, Int.zero_add, Int.add_zero] at hG
                exact hG)
         try simp only [Int.one_mul, Int.zero_add, Int.add_zero] at e0
         have em2 : (r 4).toNat = (r 2).toNat % (r 3).toNat := by
           have em := e0
           rw [yy_tm (by omega) (by omega)] at em
           omega
         exact (congrArg (Nat.gcd (r 3).toNat) em2).trans ((yy_gs _ _).trans hg))
theorem xn_1084 : ∀ (j : Nat) (q : Nat × yt_T), xq_1084.2.2.1[j]? = some q → q.2.2.2 = false → ∀ g0 r g, xG_1084 j g0 r g
  | 0, q, hq, hf => by cases hq; cases hf
  | 1, q, hq, hf => by cases hq; cases hf
  | n + 2, q, hq, _ => by cases hq
theorem xs_1084 : ∀ j, xq_1084.2.2.2.getD j false = false → ∀ r g g', xP_1084 j r g g'
  | 0, hf => by cases hf
  | n + 1, _ => fun _ _ _ => trivial
theorem xc_1084 {l : Launch} {D : va_G} {cT : Nat → ClassId} {tys : List (ClassId × FieldType)} (hty : yx_Ty tys cT) : yt_Con l D vwCl cT tys yG yw_s2 xk_1084 xR_1084 xP_1084 := yx_sem (calls := xa_1084) (Z := xq_1084) (tb := xT_1084) (pt := xU_1084) (Ga := xG_1084) (vs := xv_1084) (fun _ _ _ h => h) 300 (by decide +kernel) yz_X12_divisor_ok hty (yl_lkX12 _) (yl_cqkX12 _) (fun _ h => absurd h List.not_mem_nil) (xn_1084) (xs_1084) (by decide +kernel) (List.forall_mem_cons.mpr ⟨xw_1084_0_0, List.forall_mem_cons.mpr ⟨xw_1084_0_1, fun _ h => absurd h List.not_mem_nil⟩⟩) (⟨List.forall_mem_cons.mpr ⟨xw_1084_1_0, List.forall_mem_cons.mpr ⟨xw_1084_1_1, List.forall_mem_cons.mpr ⟨xw_1084_1_2, fun _ h => absurd h List.not_mem_nil⟩⟩⟩, ⟨List.forall_mem_cons.mpr ⟨xw_1084_2_0, List.forall_mem_cons.mpr ⟨xw_1084_2_1, fun _ h => absurd h List.not_mem_nil⟩⟩, trivial⟩⟩)
noncomputable def xf_1085 : ys_F := (yw_f2 2, yw_r2)
noncomputable def xk_1085 : ys_K := (((yX12_divisor, cX12_divisor, 10, (some .long)), (0, 0)), ([.inl (.inr ([(0, 1)], 0)), .inl (.inr ([(1, 1)], 0))], ([((-4611686018427387904), 4611686018427387904), ((-4611686018427387904), (-1))] ++ yw_e2, []), xf_1085), ([([(1, 4611686018427387904)], [], (xf_1085.1, xf_1085.2), some (.inl (.inr ([(2, 1)], 0))))], []))
noncomputable def xq_1085 : yt_Q := (yz_X12_divisor, (yl_flX12, yl_ciX12, yl_cjX12, yl_cpX12, yl_cqX12), [(28, ([(1, 4611686018427387904), (0, 4611686018427387904)], [], (xf_1085.1, xf_1085.2), [(4, .inl (.inr ([(2, 1)], 0))), (6, .inl (.inr ([(3, 1)], 0)))], [], ([(3, 1)], 0)), [], true), (28, ([(0, 4611686018427387904), (1, 4611686018427387904)], [], (xf_1085.1, xf_1085.2), [(4, .inl (.inr ([(2, 1)], 0))), (6, .inl (.inr ([(3, 1)], 0)))], [], ([(3, 1)], 0)), [], true)], [true])
noncomputable def xa_1085 : List yt_CE := []
noncomputable def xv_1085 : List (List yt_VC) := [[(1, ([(0, 4611686018427387904), ((-4611686018427387904), (-1))], []), [([(0, 1)], 0), ([(1, (-1))], 0)], [], []),
   (0, ([((-4611686018427387904), (-1)), ((-4611686018427387904), (-1))], []), [([(0, (-1))], 0), ([(1, (-1))], 0)], [], [])],
  [(1000, ([((-4611686018427387904), 4611686018427387904), ((-4611686018427387904), (-1)), (1, 4611686018427387904), (0, 0)], []), [([(2, 1)], 0)], [], []),
   (0, ([((-4611686018427387904), 4611686018427387904), ((-4611686018427387904), (-1)), (1, 4611686018427387903), (2, 4611686018427387904), (0, 0)], [([(3, 1), (2, (-1))], (-1))]), [([(3, 1)], 0), ([(2, 1)], 0)], [], [.inr (.inr (.inl (998, 16, [([(2, 1)], 0), ([(3, 1)], 0), ([(2, 1)], 0)], [], [])))]),
   (0, ([((-4611686018427387904), 4611686018427387904), ((-4611686018427387904), (-1)), (1, 4611686018427387904), (1, 4611686018427387904), (0, 4611686018427387903)], [([(4, (-1)), (2, 1), (3, (-1))], 0), ([(3, 1), (4, (-1))], (-1)), ([(3, (-1)), (2, 1)], 0)]), [([(3, 1)], 0), ([(4, 1)], 0)], [], [.inr (.inr (.inl (998, 16, [([(2, 1)], 0), ([(3, 1)], 0), ([(4, 1)], 0)], [], [])))])],
  [(0, ([((-4611686018427387904), 4611686018427387904), ((-4611686018427387904), (-1)), (0, 4611686018427387903), (1, 4611686018427387904), (0, 0)], [([(3, 1), (2, (-1))], (-1))]), [([(3, 1)], 0), ([(2, 1)], 0)], [], [.inr (.inr (.inl (998, 16, [([(2, 1)], 0), ([(3, 1)], 0), ([(2, 1)], 0)], [], [])))]),
   (0, ([((-4611686018427387904), 4611686018427387904), ((-4611686018427387904), (-1)), (1, 4611686018427387904), (1, 4611686018427387904), (0, 4611686018427387903)], [([(4, (-1)), (2, 1), (3, (-1))], 0), ([(3, 1), (4, (-1))], (-1)), ([(3, (-1)), (2, 1)], 0)]), [([(3, 1)], 0), ([(4, 1)], 0)], [], [.inr (.inr (.inl (998, 16, [([(2, 1)], 0), ([(3, 1)], 0), ([(4, 1)], 0)], [], [])))])]]
noncomputable def xG_1085 : Nat → yt_G → (Nat → Int) → yt_G → Prop
  | 0, g0, r, g => Nat.gcd (((1 * (r 2) + 0) + 0)).toNat (((1 * (r 3) + 0) + 0)).toNat = Nat.gcd ((r 0)).natAbs ((r 1)).natAbs
  | 1, g0, r, g => Nat.gcd (((1 * (r 2) + 0) + 0)).toNat (((1 * (r 3) + 0) + 0)).toNat = Nat.gcd ((r 0)).natAbs ((r 1)).natAbs
  | _, _, _, _ => True
noncomputable def xP_1085 : yt_Ph
  | 0, r, g0, g => (r 2) = ((Nat.gcd ((r 0)).natAbs ((r 1)).natAbs : Nat) : Int)
  | _, _, _, _ => True
noncomputable def xR_1085 : yt_Ps := fun r g0 => True
noncomputable def xT_1085 : yt_Tb := fun d => match d with
  | 998 => fun i r _ _ => yt_hwp i r
  | _ => fun _ _ _ _ => True
noncomputable def xU_1085 : Nat → yt_Ps := fun d => match d with
  | _ => fun _ _ => True
theorem xw_1085_0_0 : yt_hold xT_1085 xk_1085 xq_1085.2.2.1 xG_1085 xP_1085 xU_1085 2 xk_1085.2.1.2.2.2 (fun g0 r g => xR_1085 r g0 ∧ g = g0) (1, ([(0, 4611686018427387904), ((-4611686018427387904), (-1))], []), [([(0, 1)], 0), ([(1, (-1))], 0)], [], []) := by
  intro g0 r gi g hok hh hars hfr hG
  have b0 : 0 ≤ r 0 ∧ r 0 ≤ 4611686018427387904 := hok.1 0 (0, 4611686018427387904) rfl
  have b1 : (-4611686018427387904) ≤ r 1 ∧ r 1 ≤ (-1) := hok.1 1 ((-4611686018427387904), (-1)) rfl
  obtain ⟨hG, hgi⟩ := hG
  have hG : True := hG
  have hh : g = gi := hh
  subst hh
  refine yt_dcut (by decide) rfl ?_ ?_
  · exact fun f hf => absurd hf List.not_mem_nil
  · rw [show xk_1085.2.1.2.1.1.length = 2 from rfl]
    show Nat.gcd (((1 * ((1 * r 0 + 0) + 0) + 0) + 0)).toNat (((1 * (((-1) * r 1 + 0) + 0) + 0) + 0)).toNat = Nat.gcd (((1 * r 0 + 0) + 0)).natAbs (((1 * r 1 + 0) + 0)).natAbs
    try simp only [Int.one_mul, Int.zero_add, Int.add_zero]
    exact congr (congrArg Nat.gcd (by omega)) (by omega)
theorem xw_1085_0_1 : yt_hold xT_1085 xk_1085 xq_1085.2.2.1 xG_1085 xP_1085 xU_1085 2 xk_1085.2.1.2.2.2 (fun g0 r g => xR_1085 r g0 ∧ g = g0) (0, ([((-4611686018427387904), (-1)), ((-4611686018427387904), (-1))], []), [([(0, (-1))], 0), ([(1, (-1))], 0)], [], []) := by
  intro g0 r gi g hok hh hars hfr hG
  have b0 : (-4611686018427387904) ≤ r 0 ∧ r 0 ≤ (-1) := hok.1 0 ((-4611686018427387904), (-1)) rfl
  have b1 : (-4611686018427387904) ≤ r 1 ∧ r 1 ≤ (-1) := hok.1 1 ((-4611686018427387904), (-1)) rfl
  obtain ⟨hG, hgi⟩ := hG
  have hG : True := hG
  have hh : g = gi := hh
  subst hh
  refine yt_dcut (by decide) rfl ?_ ?_
  · exact fun f hf => absurd hf List.not_mem_nil
  · rw [show xk_1085.2.1.2.1.1.length = 2 from rfl]
    show Nat.gcd (((1 * (((-1) * r 0 + 0) + 0) + 0) + 0)).toNat (((1 * (((-1) * r 1 + 0) + 0) + 0) + 0)).toNat = Nat.gcd (((1 * r 0 + 0) + 0)).natAbs (((1 * r 1 + 0) + 0)).natAbs
    try simp only [Int.one_mul, Int.zero_add, Int.add_zero]
    exact congr (congrArg Nat.gcd (by omega)) (by omega)
theorem xw_1085_1_0 : yt_hold xT_1085 xk_1085 xq_1085.2.2.1 xG_1085 xP_1085 xU_1085 4 ((xq_1085.2.2.1.getD 0 (0, ([], [], ([], []), [], [], ([], 0)), [], false)).2.1.2.2.1.2) (xG_1085 0) (1000, ([((-4611686018427387904), 4611686018427387904), ((-4611686018427387904), (-1)), (1, 4611686018427387904), (0, 0)], []), [([(2, 1)], 0)], [], []) := by
  intro g0 r gi g hok hh hars hfr hG
  have b0 : (-4611686018427387904) ≤ r 0 ∧ r 0 ≤ 4611686018427387904 := hok.1 0 ((-4611686018427387904), 4611686018427387904) rfl
  have b1 : (-4611686018427387904) ≤ r 1 ∧ r 1 ≤ (-1) := hok.1 1 ((-4611686018427387904), (-1)) rfl
  have b2 : 1 ≤ r 2 ∧ r 2 ≤ 4611686018427387904 := hok.1 2 (1, 4611686018427387904) rfl
  have b3 : 0 ≤ r 3 ∧ r 3 ≤ 0 := hok.1 3 (0, 0) rfl
  have hG : Nat.gcd (((1 * (r 2) + 0) + 0)).toNat (((1 * (r 3) + 0) + 0)).toNat = Nat.gcd ((r 0)).natAbs ((r 1)).natAbs := hG
  have hh : g = gi := hh
  subst hh
  have hG : Nat.gcd (((1 * (r 2) + 0) + 0)).toNat (((1 * (r 3) + 0) + 0)).toNat = Nat.gcd ((r 0)).natAbs ((r 1)).natAbs := hG
  refine yt_dalt (by decide) (by decide) ?_
  rw [show xk_1085.2.1.2.1.1.length = 2 from rfl]
  show ((1 * r 2 + 0) + 0) = ((Nat.gcd (((1 * r 0 + 0) + 0)).natAbs (((1 * r 1 + 0) + 0)).natAbs : Nat) : Int)
  try simp only [Int.one_mul, Int.zero_add, Int.add_zero]
  have hg : Nat.gcd (r 2).toNat (r 3).toNat = Nat.gcd (r 0).natAbs (r 1).natAbs := by
    first
      | rfl
      | (try simp only [Int.one_mul, Int.zero_add, Int.add_zero] at hG
         exact hG)
  rw [← hg, show (r 3).toNat = 0 by omega, Nat.gcd_zero_right]
  omega
theorem xw_1085_1_1 : yt_hold xT_1085 xk_1085 xq_1085.2.2.1 xG_1085 xP_1085 xU_1085 4 ((xq_1085.2.2.1.getD 0 (0, ([], [], ([], []), [], [], ([], 0)), [], false)).2.1.2.2.1.2) (xG_1085 0) (0, ([((-4611686018427387904), 4611686018427387904), ((-4611686018427387904), (-1)), (1, 4611686018427387903), (2, 4611686018427387904), (0, 0)], [([(3, 1), (2, (-1))], (-1))]), [([(3, 1)], 0), ([(2, 1)], 0)], [], [.inr (.inr (.inl (998, 16, [([(2, 1)], 0), ([(3, 1)], 0), ([(2, 1)], 0)], [], [])))]) := by
  intro g0 r gi g hok hh hars hfr hG
  have b0 : (-4611686018427387904) ≤ r 0 ∧ r 0 ≤ 4611686018427387904 := hok.1 0 ((-4611686018427387904), 4611686018427387904) rfl
  have b1 : (-4611686018427387904) ≤ r 1 ∧ r 1 ≤ (-1) := hok.1 1 ((-4611686018427387904), (-1)) rfl
  have b2 : 1 ≤ r 2 ∧ r 2 ≤ 4611686018427387903 := hok.1 2 (1, 4611686018427387903) rfl
  have b3 : 2 ≤ r 3 ∧ r 3 ≤ 4611686018427387904 := hok.1 3 (2, 4611686018427387904) rfl
  have b4 : 0 ≤ r 4 ∧ r 4 ≤ 0 := hok.1 4 (0, 0) rfl
  have f0 : 0 ≤ ((1 * r 3 + ((-1) * r 2 + 0)) + (-1)) := hok.2 _ (List.mem_of_getElem? (i := 0) rfl)
  have hG : Nat.gcd (((1 * (r 2) + 0) + 0)).toNat (((1 * (r 3) + 0) + 0)).toNat = Nat.gcd ((r 0)).natAbs ((r 1)).natAbs := hG
  obtain ⟨h0, hh, e0, k0⟩ := hh
  have k0 : ∀ j, j ∉ [] → g j = h0 j := k0
  have e0 : ((1 * r 2 + 0) + 0) = (((1 * r 2 + 0) + 0)).tmod (((1 * r 3 + 0) + 0)) := e0
  have hh : h0 = gi := hh
  subst hh
  have hG : Nat.gcd (((1 * (r 2) + 0) + 0)).toNat (((1 * (r 3) + 0) + 0)).toNat = Nat.gcd ((r 0)).natAbs ((r 1)).natAbs := hG
  refine yt_dcut (by decide) rfl ?_ ?_
  · exact fun f hf => absurd hf List.not_mem_nil
  · rw [show xk_1085.2.1.2.1.1.length = 2 from rfl]
    show Nat.gcd (((1 * ((1 * r 3 + 0) + 0) + 0) + 0)).toNat (((1 * ((1 * r 2 + 0) + 0) + 0) + 0)).toNat = Nat.gcd (((1 * r 0 + 0) + 0)).natAbs (((1 * r 1 + 0) + 0)).natAbs
    try simp only [Int.one_mul, Int.zero_add, Int.add_zero]
    first
      | done
      | (have hg : Nat.gcd (r 2).toNat (r 3).toNat = Nat.gcd (r 0).natAbs (r 1).natAbs := by
           first
             | rfl
             | (try simp only [Int.one_mul, Int.zero_add, Int.add_zero] at hG
                exact hG)
         try simp only [Int.one_mul, Int.zero_add, Int.add_zero] at e0
         have em2 : (r 2).toNat = (r 2).toNat % (r 3).toNat := by
           have em := e0
           rw [yy_tm (by omega) (by omega)] at em
           omega
         exact (congrArg (Nat.gcd (r 3).toNat) em2).trans ((yy_gs _ _).trans hg))
theorem xw_1085_1_2 : yt_hold xT_1085 xk_1085 xq_1085.2.2.1 xG_1085 xP_1085 xU_1085 4 ((xq_1085.2.2.1.getD 0 (0, ([], [], ([], []), [], [], ([], 0)), [], false)).2.1.2.2.1.2) (xG_1085 0) (0, ([((-4611686018427387904), 4611686018427387904), ((-4611686018427387904), (-1)), (1, 4611686018427387904), (1, 4611686018427387904), (0, 4611686018427387903)], [([(4, (-1)), (2, 1), (3, (-1))], 0), ([(3, 1), (4, (-1))], (-1)), ([(3, (-1)), (2, 1)], 0)]), [([(3, 1)], 0), ([(4, 1)], 0)], [], [.inr (.inr (.inl (998, 16, [([(2, 1)], 0), ([(3, 1)], 0), ([(4, 1)], 0)], [], [])))]) := by
  intro g0 r gi g hok hh hars hfr hG
  have b0 : (-4611686018427387904) ≤ r 0 ∧ r 0 ≤ 4611686018427387904 := hok.1 0 ((-4611686018427387904), 4611686018427387904) rfl
  have b1 : (-4611686018427387904) ≤ r 1 ∧ r 1 ≤ (-1) := hok.1 1 ((-4611686018427387904), (-1)) rfl
  have b2 : 1 ≤ r 2 ∧ r 2 ≤ 4611686018427387904 := hok.1 2 (1, 4611686018427387904) rfl
  have b3 : 1 ≤ r 3 ∧ r 3 ≤ 4611686018427387904 := hok.1 3 (1, 4611686018427387904) rfl
  have b4 : 0 ≤ r 4 ∧ r 4 ≤ 4611686018427387903 := hok.1 4 (0, 4611686018427387903) rfl
  have f0 : 0 ≤ (((-1) * r 4 + (1 * r 2 + ((-1) * r 3 + 0))) + 0) := hok.2 _ (List.mem_of_getElem? (i := 0) rfl)
  have f1 : 0 ≤ ((1 * r 3 + ((-1) * r 4 + 0)) + (-1)) := hok.2 _ (List.mem_of_getElem? (i := 1) rfl)
  have f2 : 0 ≤ (((-1) * r 3 + (1 * r 2 + 0)) + 0) := hok.2 _ (List.mem_of_getElem? (i := 2) rfl)
  have hG : Nat.gcd (((1 * (r 2) + 0) + 0)).toNat (((1 * (r 3) + 0) + 0)).toNat = Nat.gcd ((r 0)).natAbs ((r 1)).natAbs := hG
  obtain ⟨h0, hh, e0, k0⟩ := hh
  have k0 : ∀ j, j ∉ [] → g j = h0 j := k0
  have e0 : ((1 * r 4 + 0) + 0) = (((1 * r 2 + 0) + 0)).tmod (((1 * r 3 + 0) + 0)) := e0
  have hh : h0 = gi := hh
  subst hh
  have hG : Nat.gcd (((1 * (r 2) + 0) + 0)).toNat (((1 * (r 3) + 0) + 0)).toNat = Nat.gcd ((r 0)).natAbs ((r 1)).natAbs := hG
  refine yt_dcut (by decide) rfl ?_ ?_
  · exact fun f hf => absurd hf List.not_mem_nil
  · rw [show xk_1085.2.1.2.1.1.length = 2 from rfl]
    show Nat.gcd (((1 * ((1 * r 3 + 0) + 0) + 0) + 0)).toNat (((1 * ((1 * r 4 + 0) + 0) + 0) + 0)).toNat = Nat.gcd (((1 * r 0 + 0) + 0)).natAbs (((1 * r 1 + 0) + 0)).natAbs
    try simp only [Int.one_mul, Int.zero_add, Int.add_zero]
    first
      | done
      | (have hg : Nat.gcd (r 2).toNat (r 3).toNat = Nat.gcd (r 0).natAbs (r 1).natAbs := by
           first
             | rfl
             | (try simp only [Int.one_mul, Int.zero_add, Int.add_zero] at hG
                exact hG)
         try simp only [Int.one_mul, Int.zero_add, Int.add_zero] at e0
         have em2 : (r 4).toNat = (r 2).toNat % (r 3).toNat := by
           have em := e0
           rw [yy_tm (by omega) (by omega)] at em
           omega
         exact (congrArg (Nat.gcd (r 3).toNat) em2).trans ((yy_gs _ _).trans hg))
theorem xw_1085_2_0 : yt_hold xT_1085 xk_1085 xq_1085.2.2.1 xG_1085 xP_1085 xU_1085 4 ((xq_1085.2.2.1.getD 1 (0, ([], [], ([], []), [], [], ([], 0)), [], false)).2.1.2.2.1.2) (xG_1085 1) (0, ([((-4611686018427387904), 4611686018427387904), ((-4611686018427387904), (-1)), (0, 4611686018427387903), (1, 4611686018427387904), (0, 0)], [([(3, 1), (2, (-1))], (-1))]), [([(3, 1)], 0), ([(2, 1)], 0)], [], [.inr (.inr (.inl (998, 16, [([(2, 1)], 0), ([(3, 1)], 0), ([(2, 1)], 0)], [], [])))]) := by
  intro g0 r gi g hok hh hars hfr hG
  have b0 : (-4611686018427387904) ≤ r 0 ∧ r 0 ≤ 4611686018427387904 := hok.1 0 ((-4611686018427387904), 4611686018427387904) rfl
  have b1 : (-4611686018427387904) ≤ r 1 ∧ r 1 ≤ (-1) := hok.1 1 ((-4611686018427387904), (-1)) rfl
  have b2 : 0 ≤ r 2 ∧ r 2 ≤ 4611686018427387903 := hok.1 2 (0, 4611686018427387903) rfl
  have b3 : 1 ≤ r 3 ∧ r 3 ≤ 4611686018427387904 := hok.1 3 (1, 4611686018427387904) rfl
  have b4 : 0 ≤ r 4 ∧ r 4 ≤ 0 := hok.1 4 (0, 0) rfl
  have f0 : 0 ≤ ((1 * r 3 + ((-1) * r 2 + 0)) + (-1)) := hok.2 _ (List.mem_of_getElem? (i := 0) rfl)
  have hG : Nat.gcd (((1 * (r 2) + 0) + 0)).toNat (((1 * (r 3) + 0) + 0)).toNat = Nat.gcd ((r 0)).natAbs ((r 1)).natAbs := hG
  obtain ⟨h0, hh, e0, k0⟩ := hh
  have k0 : ∀ j, j ∉ [] → g j = h0 j := k0
  have e0 : ((1 * r 2 + 0) + 0) = (((1 * r 2 + 0) + 0)).tmod (((1 * r 3 + 0) + 0)) := e0
  have hh : h0 = gi := hh
  subst hh
  have hG : Nat.gcd (((1 * (r 2) + 0) + 0)).toNat (((1 * (r 3) + 0) + 0)).toNat = Nat.gcd ((r 0)).natAbs ((r 1)).natAbs := hG
  refine yt_dcut (by decide) rfl ?_ ?_
  · exact fun f hf => absurd hf List.not_mem_nil
  · rw [show xk_1085.2.1.2.1.1.length = 2 from rfl]
    show Nat.gcd (((1 * ((1 * r 3 + 0) + 0) + 0) + 0)).toNat (((1 * ((1 * r 2 + 0) + 0) + 0) + 0)).toNat = Nat.gcd (((1 * r 0 + 0) + 0)).natAbs (((1 * r 1 + 0) + 0)).natAbs
    try simp only [Int.one_mul, Int.zero_add, Int.add_zero]
    first
      | done
      | (have hg : Nat.gcd (r 2).toNat (r 3).toNat = Nat.gcd (r 0).natAbs (r 1).natAbs := by
           first
             | rfl
             | (try simp only [Int.one_mul, Int.zero_add, Int.add_zero] at hG
                exact hG)
         try simp only [Int.one_mul, Int.zero_add, Int.add_zero] at e0
         have em2 : (r 2).toNat = (r 2).toNat % (r 3).toNat := by
           have em := e0
           rw [yy_tm (by omega) (by omega)] at em
           omega
         exact (congrArg (Nat.gcd (r 3).toNat) em2).trans ((yy_gs _ _).trans hg))
theorem xw_1085_2_1 : yt_hold xT_1085 xk_1085 xq_1085.2.2.1 xG_1085 xP_1085 xU_1085 4 ((xq_1085.2.2.1.getD 1 (0, ([], [], ([], []), [], [], ([], 0)), [], false)).2.1.2.2.1.2) (xG_1085 1) (0, ([((-4611686018427387904), 4611686018427387904), ((-4611686018427387904), (-1)), (1, 4611686018427387904), (1, 4611686018427387904), (0, 4611686018427387903)], [([(4, (-1)), (2, 1), (3, (-1))], 0), ([(3, 1), (4, (-1))], (-1)), ([(3, (-1)), (2, 1)], 0)]), [([(3, 1)], 0), ([(4, 1)], 0)], [], [.inr (.inr (.inl (998, 16, [([(2, 1)], 0), ([(3, 1)], 0), ([(4, 1)], 0)], [], [])))]) := by
  intro g0 r gi g hok hh hars hfr hG
  have b0 : (-4611686018427387904) ≤ r 0 ∧ r 0 ≤ 4611686018427387904 := hok.1 0 ((-4611686018427387904), 4611686018427387904) rfl
  have b1 : (-4611686018427387904) ≤ r 1 ∧ r 1 ≤ (-1) := hok.1 1 ((-4611686018427387904), (-1)) rfl
  have b2 : 1 ≤ r 2 ∧ r 2 ≤ 4611686018427387904 := hok.1 2 (1, 4611686018427387904) rfl
  have b3 : 1 ≤ r 3 ∧ r 3 ≤ 4611686018427387904 := hok.1 3 (1, 4611686018427387904) rfl
  have b4 : 0 ≤ r 4 ∧ r 4 ≤ 4611686018427387903 := hok.1 4 (0, 4611686018427387903) rfl
  have f0 : 0 ≤ (((-1) * r 4 + (1 * r 2 + ((-1) * r 3 + 0))) + 0) := hok.2 _ (List.mem_of_getElem? (i := 0) rfl)
  have f1 : 0 ≤ ((1 * r 3 + ((-1) * r 4 + 0)) + (-1)) := hok.2 _ (List.mem_of_getElem? (i := 1) rfl)
  have f2 : 0 ≤ (((-1) * r 3 + (1 * r 2 + 0)) + 0) := hok.2 _ (List.mem_of_getElem? (i := 2) rfl)
  have hG : Nat.gcd (((1 * (r 2) + 0) + 0)).toNat (((1 * (r 3) + 0) + 0)).toNat = Nat.gcd ((r 0)).natAbs ((r 1)).natAbs := hG
  obtain ⟨h0, hh, e0, k0⟩ := hh
  have k0 : ∀ j, j ∉ [] → g j = h0 j := k0
  have e0 : ((1 * r 4 + 0) + 0) = (((1 * r 2 + 0) + 0)).tmod (((1 * r 3 + 0) + 0)) := e0
  have hh : h0 = gi := hh
  subst hh
  have hG : Nat.gcd (((1 * (r 2) + 0) + 0)).toNat (((1 * (r 3) + 0) + 0)).toNat = Nat.gcd ((r 0)).natAbs ((r 1)).natAbs := hG
  refine yt_dcut (by decide) rfl ?_ ?_
  · exact fun f hf => absurd hf List.not_mem_nil
  · rw [show xk_1085.2.1.2.1.1.length = 2 from rfl]
    show Nat.gcd (((1 * ((1 * r 3 + 0) + 0) + 0) + 0)).toNat (((1 * ((1 * r 4 + 0) + 0) + 0) + 0)).toNat = Nat.gcd (((1 * r 0 + 0) + 0)).natAbs (((1 * r 1 + 0) + 0)).natAbs
    try simp only [Int.one_mul, Int.zero_add, Int.add_zero]
    first
      | done
      | (have hg : Nat.gcd (r 2).toNat (r 3).toNat = Nat.gcd (r 0).natAbs (r 1).natAbs := by
           first
             | rfl
             | (try simp only [Int.one_mul, Int.zero_add, Int.add_zero] at hG
                exact hG)
         try simp only [Int.one_mul, Int.zero_add, Int.add_zero] at e0
         have em2 : (r 4).toNat = (r 2).toNat % (r 3).toNat := by
           have em := e0
           rw [yy_tm (by omega) (by omega)] at em
           omega
         exact (congrArg (Nat.gcd (r 3).toNat) em2).trans ((yy_gs _ _).trans hg))
theorem xn_1085 : ∀ (j : Nat) (q : Nat × yt_T), xq_1085.2.2.1[j]? = some q → q.2.2.2 = false → ∀ g0 r g, xG_1085 j g0 r g
  | 0, q, hq, hf => by cases hq; cases hf
  | 1, q, hq, hf => by cases hq; cases hf
  | n + 2, q, hq, _ => by cases hq
theorem xs_1085 : ∀ j, xq_1085.2.2.2.getD j false = false → ∀ r g g', xP_1085 j r g g'
  | 0, hf => by cases hf
  | n + 1, _ => fun _ _ _ => trivial
theorem xc_1085 {l : Launch} {D : va_G} {cT : Nat → ClassId} {tys : List (ClassId × FieldType)} (hty : yx_Ty tys cT) : yt_Con l D vwCl cT tys yG yw_s2 xk_1085 xR_1085 xP_1085 := yx_sem (calls := xa_1085) (Z := xq_1085) (tb := xT_1085) (pt := xU_1085) (Ga := xG_1085) (vs := xv_1085) (fun _ _ _ h => h) 300 (by decide +kernel) yz_X12_divisor_ok hty (yl_lkX12 _) (yl_cqkX12 _) (fun _ h => absurd h List.not_mem_nil) (xn_1085) (xs_1085) (by decide +kernel) (List.forall_mem_cons.mpr ⟨xw_1085_0_0, List.forall_mem_cons.mpr ⟨xw_1085_0_1, fun _ h => absurd h List.not_mem_nil⟩⟩) (⟨List.forall_mem_cons.mpr ⟨xw_1085_1_0, List.forall_mem_cons.mpr ⟨xw_1085_1_1, List.forall_mem_cons.mpr ⟨xw_1085_1_2, fun _ h => absurd h List.not_mem_nil⟩⟩⟩, ⟨List.forall_mem_cons.mpr ⟨xw_1085_2_0, List.forall_mem_cons.mpr ⟨xw_1085_2_1, fun _ h => absurd h List.not_mem_nil⟩⟩, trivial⟩⟩)
noncomputable def xf_1086 : ys_F := (yw_f2 2, yw_r2)
noncomputable def xk_1086 : ys_K := (((yX12_divisor, cX12_divisor, 10, (some .long)), (0, 0)), ([.inl (.inr ([(0, 1)], 0)), .inl (.inr ([(1, 1)], 0))], ([(1, 9223372036854775807), ((-9223372036854775808), 9223372036854775807)] ++ yw_e2, []), xf_1086), ([([(1, 9223372036854775807)], [], (xf_1086.1, xf_1086.2), some (.inl (.inr ([(2, 1)], 0)))), ([((-9223372036854775808), (-1))], [], (xf_1086.1, xf_1086.2), some (.inl (.inr ([(2, 1)], 0))))], []))
noncomputable def xq_1086 : yt_Q := (yz_X12_divisor, (yl_flX12, yl_ciX12, yl_cjX12, yl_cpX12, yl_cqX12), [(28, ([(1, 9223372036854775807), (0, 9223372036854775807)], [], (xf_1086.1, xf_1086.2), [(4, .inl (.inr ([(2, 1)], 0))), (6, .inl (.inr ([(3, 1)], 0)))], [], ([(3, 1)], 0)), [], false), (28, ([(1, 9223372036854775807), ((-9223372036854775808), 0)], [], (xf_1086.1, xf_1086.2), [(4, .inl (.inr ([(2, 1)], 0))), (6, .inl (.inr ([(3, 1)], 0)))], [], ([(3, (-1))], 0)), [], false), (28, ([((-9223372036854775808), (-1)), (0, 9223372036854775807)], [], (xf_1086.1, xf_1086.2), [(4, .inl (.inr ([(2, 1)], 0))), (6, .inl (.inr ([(3, 1)], 0)))], [], ([(3, 1)], 0)), [], false), (28, ([((-9223372036854775808), (-1)), ((-9223372036854775808), 0)], [], (xf_1086.1, xf_1086.2), [(4, .inl (.inr ([(2, 1)], 0))), (6, .inl (.inr ([(3, 1)], 0)))], [], ([(3, (-1))], 0)), [], false), (28, ([(1, 9223372036854775807), ((-9223372036854775808), 9223372036854775807)], [], (xf_1086.1, xf_1086.2), [(4, .inl (.inr ([(2, 1)], 0))), (6, .inl (.inr ([(3, 1)], 0)))], [], ([], 9223372036854775809)), [], false)], [])
noncomputable def xa_1086 : List yt_CE := []
theorem xc_1086 {l : Launch} {D : va_G} {cT : Nat → ClassId} {tys : List (ClassId × FieldType)} (hty : yx_Ty tys cT) : yx_C l D cT tys yw_s2 xk_1086 := yx_method (calls := xa_1086) (Z := xq_1086) 300 (by decide +kernel) yz_X12_divisor_ok hty (yl_lkX12 _) (yl_cqkX12 _) (fun _ h => absurd h List.not_mem_nil) (by decide +kernel)
noncomputable def xf_1087 : ys_F := (yw_f511 1, yw_r511)
noncomputable def xk_1087 : ys_K := (((yX12_wide, cX12_wide, 12, (some .long)), (2, 60)), ([.inr (some 0), .inl (.inl ([(0, 1)], 0))], ([((-2147483648), 2147483647)] ++ yw_e511, []), xf_1087), ([([((-9223372036854775808), 9223372036854775807), (0, 1), ((-4000), 4000), ((-4000), 4000), ((-9223372036854775808), 9223372036854775807), ((-9223372036854775808), 9223372036854775807)], [], ((ys_fs xf_1087.1 [(0, 0, .inl (.inl ([], 0))), (0, 19, .inl (.inl ([(27, 1)], 0))), (0, 20, .inl (.inr ([(28, 1)], 0))), (0, 21, .inl (.inr ([(29, 1)], 0))), (0, 22, .inl (.inr ([(30, 1)], 0))), (0, 23, .inl (.inr ([(31, 1)], 0)))]), xf_1087.2), some (.inl (.inr ([(26, 1)], 0))))], []))
noncomputable def xq_1087 : yt_Q := (yz_X12_wide, (yl_flX12, yl_ciX12, yl_cjX12, yl_cpX12, yl_cqX12), [(200, ([((-2147483648), 2147483647), (0, 40), (1, 1), ((-1300), 4000), ((-4000), 4000), ((-9223372036854775808), 2147483647), ((-2147483648), 9223372036854775807)], [([(0, 1)], (-5)), ([(0, (-1))], 5)], ((ys_fs xf_1087.1 [(0, 0, .inl (.inl ([], 0))), (0, 19, .inl (.inl ([(28, 1)], 0))), (0, 20, .inl (.inr ([(29, 1)], 0))), (0, 21, .inl (.inr ([(30, 1)], 0))), (0, 22, .inl (.inr ([(31, 1)], 0))), (0, 23, .inl (.inr ([(32, 1)], 0)))]), xf_1087.2), [(0, .inr (some 0)), (10, .inl (.inl ([(26, 1)], 0))), (11, .inl (.inl ([(27, 1)], 0)))], [], ([(27, (-1))], 40)), [], false)], [])
noncomputable def xa_1087 : List yt_CE := [(((133, true), (0, false, [])), (yw_s2, xk_1004)), (((307, false), (0, false, [0, 1, 2, 3, 4, 5, 6, 7, 8, 9, 10, 11, 12, 13, 14, 15, 16, 17, 18, 19, 20, 21, 22, 23, 24, 25, 26, 27, 28, 29, 30, 31, 32, 33, 34, 35, 36])), (yw_s511, xk_1068)), (((276, true), (0, false, [])), (yw_s2, xk_1082)), (((310, false), (0, false, [0, 1, 2, 3, 4, 5, 6, 7, 8, 9, 10, 11, 12, 13, 14, 15, 16, 17, 18, 19, 20, 21, 22, 23, 24, 25, 26, 27, 28, 29, 30, 31, 32, 33, 34, 35, 36])), (yw_s503, xk_1069)), (((252, true), (320, false, [])), (yw_s2, xk_1083)), (((252, true), (321, false, [])), (yw_s2, xk_1084)), (((252, true), (322, false, [])), (yw_s2, xk_1055)), (((252, true), (323, false, [])), (yw_s2, xk_1085)), (((252, true), (0, false, [])), (yw_s2, xk_1086))]
noncomputable def xT_1087 : yt_Tb := fun d => match d with
  | 320 => xP_1083
  | 321 => xP_1084
  | 322 => xP_1055
  | 323 => xP_1085
  | _ => fun _ _ _ _ => True
theorem xc_1087 {l : Launch} {D : va_G} {cT : Nat → ClassId} {tys : List (ClassId × FieldType)} (hty : yx_Ty tys cT) : yx_C l D cT tys yw_s511 xk_1087 := yx_methodT (tb := xT_1087) (fun _ _ _ _ => trivial) (calls := xa_1087) (Z := xq_1087) 300 (by decide +kernel) yz_X12_wide_ok hty (yl_lkX12 _) (yl_cqkX12 _) (List.forall_mem_cons.mpr ⟨⟨xc_1004 hty, yg_CLs yl_wX12_133 yd_yX12_in⟩, List.forall_mem_cons.mpr ⟨⟨xc_1068 hty, yg_CLv rfl rfl rfl yl_wX12_307 yd_yX12_findWay⟩, List.forall_mem_cons.mpr ⟨⟨xc_1082 hty, yg_CLs yl_wX12_276 yd_yX12_part⟩, List.forall_mem_cons.mpr ⟨⟨xc_1069 hty, yg_CLv rfl rfl rfl yl_wX12_310 yd_yX12_isSide⟩, List.forall_mem_cons.mpr ⟨⟨xc_1083 hty, yg_CLs yl_wX12_252 yd_yX12_divisor⟩, List.forall_mem_cons.mpr ⟨⟨xc_1084 hty, yg_CLs yl_wX12_252 yd_yX12_divisor⟩, List.forall_mem_cons.mpr ⟨⟨xc_1055 hty, yg_CLs yl_wX12_252 yd_yX12_divisor⟩, List.forall_mem_cons.mpr ⟨⟨xc_1085 hty, yg_CLs yl_wX12_252 yd_yX12_divisor⟩, List.forall_mem_cons.mpr ⟨⟨xc_1086 hty, yg_CLs yl_wX12_252 yd_yX12_divisor⟩, fun _ h => absurd h List.not_mem_nil⟩⟩⟩⟩⟩⟩⟩⟩⟩) (by decide +kernel)
noncomputable def xf_1088 : ys_F := (yw_f519 3, yw_r519)
noncomputable def xk_1088 : ys_K := (((yX12_write, cX12_write, 5, (some .int)), (2, 45)), ([.inr (some 0), .inl (.inl ([(0, 1)], 0)), .inl (.inl ([(1, 1)], 0)), .inl (.inr ([(2, 1)], 0))], ([((-2147483648), 2147483647), ((-2147483648), 2147483647), ((-9223372036854775808), 9223372036854775807)] ++ yw_e519, []), xf_1088), ([([((-3), 0), ((-2147483648), 0)], [], ((ys_fs xf_1088.1 [(0, 0, .inl (.inl ([], 0))), (0, 1, .inl (.inl ([(29, 1)], 0)))]), xf_1088.2), some (.inl (.inl ([(28, 1)], 0))))], [1]))
noncomputable def xq_1088 : yt_Q := (yz_X12_write, (yl_flX12, yl_ciX12, yl_cjX12, yl_cpX12, yl_cqX12), [], [true])
noncomputable def xa_1088 : List yt_CE := [(((157, true), (0, false, [])), (yw_s2, xk_1023)), (((141, false), (0, false, [0, 4, 5, 6, 7, 1, 2, 3, 8, 9, 10, 11, 12, 13, 14, 15, 16, 17, 18, 19, 20, 21, 22, 23, 24, 25, 26, 27, 28, 29, 30, 31, 32, 33, 34, 35, 36])), (yw_s500, xk_1002)), (((133, true), (0, false, [])), (yw_s2, xk_1001)), (((160, true), (96, false, [])), (yw_s2, xk_1024))]
noncomputable def xv_1088 : List (List yt_VC) := [[(1000, ([((-2147483648), (-1)), ((-2147483648), 2147483647), ((-9223372036854775808), 9223372036854775807), ((-2147483648), 2147483647), ((-2147483648), 2147483647), (0, 40), ((-2147483648), 2147483647), (0, 4), ((-1000000000000), 1000000000000), ((-1000000000000), 1000000000000), ((-1000000000000), 1000000000000), (0, 1), ((-4000), 4000), ((-4000), 4000), ((-9223372036854775808), 9223372036854775807), ((-9223372036854775808), 9223372036854775807), (0, 12), ((-9223372036854775808), 9223372036854775807), ((-9223372036854775808), 9223372036854775807), ((-9223372036854775808), 9223372036854775807), ((-9223372036854775808), 9223372036854775807), ((-9223372036854775808), 9223372036854775807), (0, 12), ((-2147483648), 2147483647), (0, 12), ((-2147483648), 2147483647), (0, 40), (0, 40), ((-2147483648), 0)], []), [([], (-1)), ([(28, 1)], 0)], [], []),
   (1000, ([(4, 2147483647), ((-2147483648), 2147483647), ((-9223372036854775808), 9223372036854775807), ((-2147483648), 2147483647), ((-2147483648), 2147483647), (0, 40), ((-2147483648), 2147483647), (0, 4), ((-1000000000000), 1000000000000), ((-1000000000000), 1000000000000), ((-1000000000000), 1000000000000), (0, 1), ((-4000), 4000), ((-4000), 4000), ((-9223372036854775808), 9223372036854775807), ((-9223372036854775808), 9223372036854775807), (0, 12), ((-9223372036854775808), 9223372036854775807), ((-9223372036854775808), 9223372036854775807), ((-9223372036854775808), 9223372036854775807), ((-9223372036854775808), 9223372036854775807), ((-9223372036854775808), 9223372036854775807), (0, 12), ((-2147483648), 2147483647), (0, 12), ((-2147483648), 2147483647), (0, 40), (0, 40), ((-2147483648), 0)], []), [([], (-1)), ([(28, 1)], 0)], [], []),
   (1000, ([(0, 3), ((-2147483648), (-1)), ((-9223372036854775808), 9223372036854775807), ((-2147483648), 2147483647), ((-2147483648), 2147483647), (0, 40), ((-2147483648), 2147483647), (0, 4), ((-1000000000000), 1000000000000), ((-1000000000000), 1000000000000), ((-1000000000000), 1000000000000), (0, 1), ((-4000), 4000), ((-4000), 4000), ((-9223372036854775808), 9223372036854775807), ((-9223372036854775808), 9223372036854775807), (0, 12), ((-9223372036854775808), 9223372036854775807), ((-9223372036854775808), 9223372036854775807), ((-9223372036854775808), 9223372036854775807), ((-9223372036854775808), 9223372036854775807), ((-9223372036854775808), 9223372036854775807), (0, 12), ((-2147483648), 2147483647), (0, 12), ((-2147483648), 2147483647), (0, 40), (0, 40), (0, 2147483647), (0, 100), ((-2147483648), 0)], []), [([], (-3)), ([(30, 1)], 0)], [], [.inl (.inl (3, ([(0, 1)], 0), 29)), .inl (.inl (2, ([(0, 1)], 0), 28))]),
   (1000, ([(0, 3), (0, 2147483647), ((-9223372036854775808), 9223372036854775807), ((-2147483648), 2147483647), ((-2147483648), 2147483647), (0, 40), ((-2147483648), 2147483647), (0, 4), ((-1000000000000), 1000000000000), ((-1000000000000), 1000000000000), ((-1000000000000), 1000000000000), (0, 1), ((-4000), 4000), ((-4000), 4000), ((-9223372036854775808), 9223372036854775807), ((-9223372036854775808), 9223372036854775807), (0, 12), ((-9223372036854775808), 9223372036854775807), ((-9223372036854775808), 9223372036854775807), ((-9223372036854775808), 9223372036854775807), ((-9223372036854775808), 9223372036854775807), ((-9223372036854775808), 9223372036854775807), (0, 12), ((-2147483648), 2147483647), (0, 12), ((-2147483648), 2147483647), (0, 40), (0, 40), (0, 2147483647), (0, 100), ((-2147483648), 0)], [([(1, 1), (29, (-1))], 0)]), [([], (-3)), ([(30, 1)], 0)], [], [.inl (.inl (3, ([(0, 1)], 0), 29)), .inl (.inl (2, ([(0, 1)], 0), 28))]),
   (1000, ([(0, 3), (0, 99), ((-9223372036854775808), 9223372036854775807), ((-2147483648), 2147483647), ((-2147483648), 2147483647), (0, 40), ((-2147483648), 2147483647), (0, 4), ((-1000000000000), 1000000000000), ((-1000000000000), 1000000000000), ((-1000000000000), 1000000000000), (0, 1), ((-4000), 4000), ((-4000), 4000), ((-9223372036854775808), 9223372036854775807), ((-9223372036854775808), 9223372036854775807), (0, 12), ((-9223372036854775808), 9223372036854775807), ((-9223372036854775808), 9223372036854775807), ((-9223372036854775808), 9223372036854775807), ((-9223372036854775808), 9223372036854775807), ((-9223372036854775808), 9223372036854775807), (0, 12), ((-2147483648), 2147483647), (0, 12), ((-2147483648), 2147483647), (0, 40), (0, 40), (0, 2147483647), (0, 100), ((-9223372036854775808), 9223372036854775807), ((-2147483648), 0)], [([(1, (-1)), (29, 1)], (-1))]), [([], 0), ([(31, 1)], 0)], [], [.inr (.inl (1, ([(1, 1), (0, 100)], 0), ([(30, 1)], 0))), .inr (.inr (.inl (96, 0, [([(28, 1)], 0), ([(2, 1)], 0), ([(30, 1)], 0)], [], []))), .inl (.inl (3, ([(0, 1)], 0), 29)), .inl (.inl (2, ([(0, 1)], 0), 28))]),
   (1000, ([(0, 3), ((-2147483648), 2147483647), ((-9223372036854775808), 9223372036854775807), ((-2147483648), 2147483647), ((-2147483648), 2147483647), (0, 40), ((-2147483648), 2147483647), (0, 4), ((-1000000000000), 1000000000000), ((-1000000000000), 1000000000000), ((-1000000000000), 1000000000000), (0, 1), ((-4000), 4000), ((-4000), 4000), ((-9223372036854775808), 9223372036854775807), ((-9223372036854775808), 9223372036854775807), (0, 12), ((-9223372036854775808), 9223372036854775807), ((-9223372036854775808), 9223372036854775807), ((-9223372036854775808), 9223372036854775807), ((-9223372036854775808), 9223372036854775807), ((-9223372036854775808), 9223372036854775807), (0, 12), ((-2147483648), 2147483647), (0, 12), ((-2147483648), 2147483647), (0, 40), (0, 40), ((-2147483648), (-1)), ((-2147483648), 0)], []), [([], (-2)), ([(29, 1)], 0)], [], [.inl (.inl (2, ([(0, 1)], 0), 28))])]]
noncomputable def xG_1088 : Nat → yt_G → (Nat → Int) → yt_G → Prop
  | _, _, _, _ => True
noncomputable def xP_1088 : yt_Ph
  | 0, r, g0, g => (r 28) = yq_wm (r 0) (r 1) (yq_at (r 0) ((g0 2) 0) ((g0 2) 1) ((g0 2) 2) ((g0 2) 3)) (yq_at (r 0) ((g0 3) 0) ((g0 3) 1) ((g0 3) 2) ((g0 3) 3)) ∧ (g 1) = yq_mw (r 0) (r 1) (r 2) (yq_at (r 0) ((g0 2) 0) ((g0 2) 1) ((g0 2) 2) ((g0 2) 3)) (yq_at (r 0) ((g0 3) 0) ((g0 3) 1) ((g0 3) 2) ((g0 3) 3)) (g0 1)
  | _, _, _, _ => True
noncomputable def xR_1088 : yt_Ps := fun r g0 => True
noncomputable def xT_1088 : yt_Tb := fun d => match d with
  | 96 => xP_1024
  | _ => fun _ _ _ _ => True
noncomputable def xU_1088 : Nat → yt_Ps := fun d => match d with
  | 96 => xR_1024
  | _ => fun _ _ => True
theorem xw_1088_0_0 : yt_hold xT_1088 xk_1088 xq_1088.2.2.1 xG_1088 xP_1088 xU_1088 28 xk_1088.2.1.2.2.2 (fun g0 r g => xR_1088 r g0 ∧ g = g0) (1000, ([((-2147483648), (-1)), ((-2147483648), 2147483647), ((-9223372036854775808), 9223372036854775807), ((-2147483648), 2147483647), ((-2147483648), 2147483647), (0, 40), ((-2147483648), 2147483647), (0, 4), ((-1000000000000), 1000000000000), ((-1000000000000), 1000000000000), ((-1000000000000), 1000000000000), (0, 1), ((-4000), 4000), ((-4000), 4000), ((-9223372036854775808), 9223372036854775807), ((-9223372036854775808), 9223372036854775807), (0, 12), ((-9223372036854775808), 9223372036854775807), ((-9223372036854775808), 9223372036854775807), ((-9223372036854775808), 9223372036854775807), ((-9223372036854775808), 9223372036854775807), ((-9223372036854775808), 9223372036854775807), (0, 12), ((-2147483648), 2147483647), (0, 12), ((-2147483648), 2147483647), (0, 40), (0, 40), ((-2147483648), 0)], []), [([], (-1)), ([(28, 1)], 0)], [], []) := by
  intro g0 r gi g hok hh hars hfr hG
  have b0 : (-2147483648) ≤ r 0 ∧ r 0 ≤ (-1) := hok.1 0 ((-2147483648), (-1)) rfl
  have b1 : (-2147483648) ≤ r 1 ∧ r 1 ≤ 2147483647 := hok.1 1 ((-2147483648), 2147483647) rfl
  have b28 : (-2147483648) ≤ r 28 ∧ r 28 ≤ 0 := hok.1 28 ((-2147483648), 0) rfl
  obtain ⟨hG, hgi⟩ := hG
  have hG : True := hG
  have hh : g = gi := hh
  subst hh
  refine yt_dalt (by decide) (by decide) ?_
  rw [show xk_1088.2.1.2.1.1.length = 28 from rfl]
  show ((0 : Int) + (-1)) = yq_wm ((1 * r 0 + 0) + 0) ((1 * r 1 + 0) + 0) (yq_at ((1 * r 0 + 0) + 0) ((g0 2) 0) ((g0 2) 1) ((g0 2) 2) ((g0 2) 3)) (yq_at ((1 * r 0 + 0) + 0) ((g0 3) 0) ((g0 3) 1) ((g0 3) 2) ((g0 3) 3)) ∧ (g 1) = yq_mw ((1 * r 0 + 0) + 0) ((1 * r 1 + 0) + 0) ((1 * r 2 + 0) + 0) (yq_at ((1 * r 0 + 0) + 0) ((g0 2) 0) ((g0 2) 1) ((g0 2) 2) ((g0 2) 3)) (yq_at ((1 * r 0 + 0) + 0) ((g0 3) 0) ((g0 3) 1) ((g0 3) 2) ((g0 3) 3)) (g0 1)
  try simp only [Int.one_mul, Int.zero_add, Int.add_zero]
  refine ⟨?_, ?_⟩
  · unfold yq_wm
    rw [if_neg (by omega)] <;> omega
  · unfold yq_mw
    rw [if_neg (by omega)]
    rw [hgi]
theorem xw_1088_0_1 : yt_hold xT_1088 xk_1088 xq_1088.2.2.1 xG_1088 xP_1088 xU_1088 28 xk_1088.2.1.2.2.2 (fun g0 r g => xR_1088 r g0 ∧ g = g0) (1000, ([(4, 2147483647), ((-2147483648), 2147483647), ((-9223372036854775808), 9223372036854775807), ((-2147483648), 2147483647), ((-2147483648), 2147483647), (0, 40), ((-2147483648), 2147483647), (0, 4), ((-1000000000000), 1000000000000), ((-1000000000000), 1000000000000), ((-1000000000000), 1000000000000), (0, 1), ((-4000), 4000), ((-4000), 4000), ((-9223372036854775808), 9223372036854775807), ((-9223372036854775808), 9223372036854775807), (0, 12), ((-9223372036854775808), 9223372036854775807), ((-9223372036854775808), 9223372036854775807), ((-9223372036854775808), 9223372036854775807), ((-9223372036854775808), 9223372036854775807), ((-9223372036854775808), 9223372036854775807), (0, 12), ((-2147483648), 2147483647), (0, 12), ((-2147483648), 2147483647), (0, 40), (0, 40), ((-2147483648), 0)], []), [([], (-1)), ([(28, 1)], 0)], [], []) := by
  intro g0 r gi g hok hh hars hfr hG
  have b0 : 4 ≤ r 0 ∧ r 0 ≤ 2147483647 := hok.1 0 (4, 2147483647) rfl
  have b1 : (-2147483648) ≤ r 1 ∧ r 1 ≤ 2147483647 := hok.1 1 ((-2147483648), 2147483647) rfl
  have b28 : (-2147483648) ≤ r 28 ∧ r 28 ≤ 0 := hok.1 28 ((-2147483648), 0) rfl
  obtain ⟨hG, hgi⟩ := hG
  have hG : True := hG
  have hh : g = gi := hh
  subst hh
  refine yt_dalt (by decide) (by decide) ?_
  rw [show xk_1088.2.1.2.1.1.length = 28 from rfl]
  show ((0 : Int) + (-1)) = yq_wm ((1 * r 0 + 0) + 0) ((1 * r 1 + 0) + 0) (yq_at ((1 * r 0 + 0) + 0) ((g0 2) 0) ((g0 2) 1) ((g0 2) 2) ((g0 2) 3)) (yq_at ((1 * r 0 + 0) + 0) ((g0 3) 0) ((g0 3) 1) ((g0 3) 2) ((g0 3) 3)) ∧ (g 1) = yq_mw ((1 * r 0 + 0) + 0) ((1 * r 1 + 0) + 0) ((1 * r 2 + 0) + 0) (yq_at ((1 * r 0 + 0) + 0) ((g0 2) 0) ((g0 2) 1) ((g0 2) 2) ((g0 2) 3)) (yq_at ((1 * r 0 + 0) + 0) ((g0 3) 0) ((g0 3) 1) ((g0 3) 2) ((g0 3) 3)) (g0 1)
  try simp only [Int.one_mul, Int.zero_add, Int.add_zero]
  refine ⟨?_, ?_⟩
  · unfold yq_wm
    rw [if_neg (by omega)] <;> omega
  · unfold yq_mw
    rw [if_neg (by omega)]
    rw [hgi]
theorem xw_1088_0_2 : yt_hold xT_1088 xk_1088 xq_1088.2.2.1 xG_1088 xP_1088 xU_1088 28 xk_1088.2.1.2.2.2 (fun g0 r g => xR_1088 r g0 ∧ g = g0) (1000, ([(0, 3), ((-2147483648), (-1)), ((-9223372036854775808), 9223372036854775807), ((-2147483648), 2147483647), ((-2147483648), 2147483647), (0, 40), ((-2147483648), 2147483647), (0, 4), ((-1000000000000), 1000000000000), ((-1000000000000), 1000000000000), ((-1000000000000), 1000000000000), (0, 1), ((-4000), 4000), ((-4000), 4000), ((-9223372036854775808), 9223372036854775807), ((-9223372036854775808), 9223372036854775807), (0, 12), ((-9223372036854775808), 9223372036854775807), ((-9223372036854775808), 9223372036854775807), ((-9223372036854775808), 9223372036854775807), ((-9223372036854775808), 9223372036854775807), ((-9223372036854775808), 9223372036854775807), (0, 12), ((-2147483648), 2147483647), (0, 12), ((-2147483648), 2147483647), (0, 40), (0, 40), (0, 2147483647), (0, 100), ((-2147483648), 0)], []), [([], (-3)), ([(30, 1)], 0)], [], [.inl (.inl (3, ([(0, 1)], 0), 29)), .inl (.inl (2, ([(0, 1)], 0), 28))]) := by
  intro g0 r gi g hok hh hars hfr hG
  have b0 : 0 ≤ r 0 ∧ r 0 ≤ 3 := hok.1 0 (0, 3) rfl
  have b1 : (-2147483648) ≤ r 1 ∧ r 1 ≤ (-1) := hok.1 1 ((-2147483648), (-1)) rfl
  have b28 : 0 ≤ r 28 ∧ r 28 ≤ 2147483647 := hok.1 28 (0, 2147483647) rfl
  have b29 : 0 ≤ r 29 ∧ r 29 ≤ 100 := hok.1 29 (0, 100) rfl
  have b30 : (-2147483648) ≤ r 30 ∧ r 30 ≤ 0 := hok.1 30 ((-2147483648), 0) rfl
  obtain ⟨hG, hgi⟩ := hG
  have hG : True := hG
  obtain ⟨g0, hh, q0, e0⟩ := hh
  subst q0
  have e0 : r 29 = g 3 (((1 * r 0 + 0) + 0)).toNat := e0
  rw [show (((1 * r 0 + 0) + 0)).toNat = (r 0).toNat by omega] at e0
  obtain ⟨g1, hh, q1, e1⟩ := hh
  subst q1
  have e1 : r 28 = g 2 (((1 * r 0 + 0) + 0)).toNat := e1
  rw [show (((1 * r 0 + 0) + 0)).toNat = (r 0).toNat by omega] at e1
  have hh : g = gi := hh
  subst hh
  refine yt_dalt (by decide) (by decide) ?_
  rw [show xk_1088.2.1.2.1.1.length = 28 from rfl]
  show ((0 : Int) + (-3)) = yq_wm ((1 * r 0 + 0) + 0) ((1 * r 1 + 0) + 0) (yq_at ((1 * r 0 + 0) + 0) ((g0 2) 0) ((g0 2) 1) ((g0 2) 2) ((g0 2) 3)) (yq_at ((1 * r 0 + 0) + 0) ((g0 3) 0) ((g0 3) 1) ((g0 3) 2) ((g0 3) 3)) ∧ (g 1) = yq_mw ((1 * r 0 + 0) + 0) ((1 * r 1 + 0) + 0) ((1 * r 2 + 0) + 0) (yq_at ((1 * r 0 + 0) + 0) ((g0 2) 0) ((g0 2) 1) ((g0 2) 2) ((g0 2) 3)) (yq_at ((1 * r 0 + 0) + 0) ((g0 3) 0) ((g0 3) 1) ((g0 3) 2) ((g0 3) 3)) (g0 1)
  try simp only [Int.one_mul, Int.zero_add, Int.add_zero]
  rw [hgi] at e1
  rw [hgi] at e0
  rcases (show r 0 = 0 ∨ r 0 = 1 ∨ r 0 = 2 ∨ r 0 = 3 by omega) with q0 | q0 | q0 | q0
  · rw [show (r 0).toNat = 0 by omega] at e1 e0
    rw [q0]
    simp only [yq_at0]
    refine ⟨?_, ?_⟩
    · unfold yq_wm
      repeat' split
      all_goals omega
    · unfold yq_mw
      rw [if_neg (by omega)]
      rw [hgi]
  · rw [show (r 0).toNat = 1 by omega] at e1 e0
    rw [q0]
    simp only [yq_at1]
    refine ⟨?_, ?_⟩
    · unfold yq_wm
      repeat' split
      all_goals omega
    · unfold yq_mw
      rw [if_neg (by omega)]
      rw [hgi]
  · rw [show (r 0).toNat = 2 by omega] at e1 e0
    rw [q0]
    simp only [yq_at2]
    refine ⟨?_, ?_⟩
    · unfold yq_wm
      repeat' split
      all_goals omega
    · unfold yq_mw
      rw [if_neg (by omega)]
      rw [hgi]
  · rw [show (r 0).toNat = 3 by omega] at e1 e0
    rw [q0]
    simp only [yq_at3]
    refine ⟨?_, ?_⟩
    · unfold yq_wm
      repeat' split
      all_goals omega
    · unfold yq_mw
      rw [if_neg (by omega)]
      rw [hgi]
theorem xw_1088_0_3 : yt_hold xT_1088 xk_1088 xq_1088.2.2.1 xG_1088 xP_1088 xU_1088 28 xk_1088.2.1.2.2.2 (fun g0 r g => xR_1088 r g0 ∧ g = g0) (1000, ([(0, 3), (0, 2147483647), ((-9223372036854775808), 9223372036854775807), ((-2147483648), 2147483647), ((-2147483648), 2147483647), (0, 40), ((-2147483648), 2147483647), (0, 4), ((-1000000000000), 1000000000000), ((-1000000000000), 1000000000000), ((-1000000000000), 1000000000000), (0, 1), ((-4000), 4000), ((-4000), 4000), ((-9223372036854775808), 9223372036854775807), ((-9223372036854775808), 9223372036854775807), (0, 12), ((-9223372036854775808), 9223372036854775807), ((-9223372036854775808), 9223372036854775807), ((-9223372036854775808), 9223372036854775807), ((-9223372036854775808), 9223372036854775807), ((-9223372036854775808), 9223372036854775807), (0, 12), ((-2147483648), 2147483647), (0, 12), ((-2147483648), 2147483647), (0, 40), (0, 40), (0, 2147483647), (0, 100), ((-2147483648), 0)], [([(1, 1), (29, (-1))], 0)]), [([], (-3)), ([(30, 1)], 0)], [], [.inl (.inl (3, ([(0, 1)], 0), 29)), .inl (.inl (2, ([(0, 1)], 0), 28))]) := by
  intro g0 r gi g hok hh hars hfr hG
  have b0 : 0 ≤ r 0 ∧ r 0 ≤ 3 := hok.1 0 (0, 3) rfl
  have b1 : 0 ≤ r 1 ∧ r 1 ≤ 2147483647 := hok.1 1 (0, 2147483647) rfl
  have b28 : 0 ≤ r 28 ∧ r 28 ≤ 2147483647 := hok.1 28 (0, 2147483647) rfl
  have b29 : 0 ≤ r 29 ∧ r 29 ≤ 100 := hok.1 29 (0, 100) rfl
  have b30 : (-2147483648) ≤ r 30 ∧ r 30 ≤ 0 := hok.1 30 ((-2147483648), 0) rfl
  have f0 : 0 ≤ ((1 * r 1 + ((-1) * r 29 + 0)) + 0) := hok.2 _ (List.mem_of_getElem? (i := 0) rfl)
  obtain ⟨hG, hgi⟩ := hG
  have hG : True := hG
  obtain ⟨g0, hh, q0, e0⟩ := hh
  subst q0
  have e0 : r 29 = g 3 (((1 * r 0 + 0) + 0)).toNat := e0
  rw [show (((1 * r 0 + 0) + 0)).toNat = (r 0).toNat by omega] at e0
  obtain ⟨g1, hh, q1, e1⟩ := hh
  subst q1
  have e1 : r 28 = g 2 (((1 * r 0 + 0) + 0)).toNat := e1
  rw [show (((1 * r 0 + 0) + 0)).toNat = (r 0).toNat by omega] at e1
  have hh : g = gi := hh
  subst hh
  refine yt_dalt (by decide) (by decide) ?_
  rw [show xk_1088.2.1.2.1.1.length = 28 from rfl]
  show ((0 : Int) + (-3)) = yq_wm ((1 * r 0 + 0) + 0) ((1 * r 1 + 0) + 0) (yq_at ((1 * r 0 + 0) + 0) ((g0 2) 0) ((g0 2) 1) ((g0 2) 2) ((g0 2) 3)) (yq_at ((1 * r 0 + 0) + 0) ((g0 3) 0) ((g0 3) 1) ((g0 3) 2) ((g0 3) 3)) ∧ (g 1) = yq_mw ((1 * r 0 + 0) + 0) ((1 * r 1 + 0) + 0) ((1 * r 2 + 0) + 0) (yq_at ((1 * r 0 + 0) + 0) ((g0 2) 0) ((g0 2) 1) ((g0 2) 2) ((g0 2) 3)) (yq_at ((1 * r 0 + 0) + 0) ((g0 3) 0) ((g0 3) 1) ((g0 3) 2) ((g0 3) 3)) (g0 1)
  try simp only [Int.one_mul, Int.zero_add, Int.add_zero]
  rw [hgi] at e1
  rw [hgi] at e0
  rcases (show r 0 = 0 ∨ r 0 = 1 ∨ r 0 = 2 ∨ r 0 = 3 by omega) with q0 | q0 | q0 | q0
  · rw [show (r 0).toNat = 0 by omega] at e1 e0
    rw [q0]
    simp only [yq_at0]
    refine ⟨?_, ?_⟩
    · unfold yq_wm
      repeat' split
      all_goals omega
    · unfold yq_mw
      rw [if_neg (by omega)]
      rw [hgi]
  · rw [show (r 0).toNat = 1 by omega] at e1 e0
    rw [q0]
    simp only [yq_at1]
    refine ⟨?_, ?_⟩
    · unfold yq_wm
      repeat' split
      all_goals omega
    · unfold yq_mw
      rw [if_neg (by omega)]
      rw [hgi]
  · rw [show (r 0).toNat = 2 by omega] at e1 e0
    rw [q0]
    simp only [yq_at2]
    refine ⟨?_, ?_⟩
    · unfold yq_wm
      repeat' split
      all_goals omega
    · unfold yq_mw
      rw [if_neg (by omega)]
      rw [hgi]
  · rw [show (r 0).toNat = 3 by omega] at e1 e0
    rw [q0]
    simp only [yq_at3]
    refine ⟨?_, ?_⟩
    · unfold yq_wm
      repeat' split
      all_goals omega
    · unfold yq_mw
      rw [if_neg (by omega)]
      rw [hgi]
theorem xw_1088_0_4 : yt_hold xT_1088 xk_1088 xq_1088.2.2.1 xG_1088 xP_1088 xU_1088 28 xk_1088.2.1.2.2.2 (fun g0 r g => xR_1088 r g0 ∧ g = g0) (1000, ([(0, 3), (0, 99), ((-9223372036854775808), 9223372036854775807), ((-2147483648), 2147483647), ((-2147483648), 2147483647), (0, 40), ((-2147483648), 2147483647), (0, 4), ((-1000000000000), 1000000000000), ((-1000000000000), 1000000000000), ((-1000000000000), 1000000000000), (0, 1), ((-4000), 4000), ((-4000), 4000), ((-9223372036854775808), 9223372036854775807), ((-9223372036854775808), 9223372036854775807), (0, 12), ((-9223372036854775808), 9223372036854775807), ((-9223372036854775808), 9223372036854775807), ((-9223372036854775808), 9223372036854775807), ((-9223372036854775808), 9223372036854775807), ((-9223372036854775808), 9223372036854775807), (0, 12), ((-2147483648), 2147483647), (0, 12), ((-2147483648), 2147483647), (0, 40), (0, 40), (0, 2147483647), (0, 100), ((-9223372036854775808), 9223372036854775807), ((-2147483648), 0)], [([(1, (-1)), (29, 1)], (-1))]), [([], 0), ([(31, 1)], 0)], [], [.inr (.inl (1, ([(1, 1), (0, 100)], 0), ([(30, 1)], 0))), .inr (.inr (.inl (96, 0, [([(28, 1)], 0), ([(2, 1)], 0), ([(30, 1)], 0)], [], []))), .inl (.inl (3, ([(0, 1)], 0), 29)), .inl (.inl (2, ([(0, 1)], 0), 28))]) := by
  intro g0 r gi g hok hh hars hfr hG
  have b0 : 0 ≤ r 0 ∧ r 0 ≤ 3 := hok.1 0 (0, 3) rfl
  have b1 : 0 ≤ r 1 ∧ r 1 ≤ 99 := hok.1 1 (0, 99) rfl
  have b28 : 0 ≤ r 28 ∧ r 28 ≤ 2147483647 := hok.1 28 (0, 2147483647) rfl
  have b29 : 0 ≤ r 29 ∧ r 29 ≤ 100 := hok.1 29 (0, 100) rfl
  have b30 : (-9223372036854775808) ≤ r 30 ∧ r 30 ≤ 9223372036854775807 := hok.1 30 ((-9223372036854775808), 9223372036854775807) rfl
  have b31 : (-2147483648) ≤ r 31 ∧ r 31 ≤ 0 := hok.1 31 ((-2147483648), 0) rfl
  have f0 : 0 ≤ (((-1) * r 1 + (1 * r 29 + 0)) + (-1)) := hok.2 _ (List.mem_of_getElem? (i := 0) rfl)
  obtain ⟨hG, hgi⟩ := hG
  have hG : True := hG
  obtain ⟨h0, hh, e0⟩ := hh
  have e0 : g = ys_gup h0 1 (((1 * r 1 + (100 * r 0 + 0)) + 0)).toNat ((1 * r 30 + 0) + 0) := e0
  obtain ⟨h1, hh, e1, k1⟩ := hh
  have k1 : ∀ j, j ∉ [] → h0 j = h1 j := k1
  have e1 : ((1 * r 30 + 0) + 0) = yq_cut ((1 * r 28 + 0) + 0) ((1 * r 2 + 0) + 0) := e1
  obtain ⟨g2, hh, q2, e2⟩ := hh
  subst q2
  have e2 : r 29 = h1 3 (((1 * r 0 + 0) + 0)).toNat := e2
  rw [show (((1 * r 0 + 0) + 0)).toNat = (r 0).toNat by omega] at e2
  obtain ⟨g3, hh, q3, e3⟩ := hh
  subst q3
  have e3 : r 28 = h1 2 (((1 * r 0 + 0) + 0)).toNat := e3
  rw [show (((1 * r 0 + 0) + 0)).toNat = (r 0).toNat by omega] at e3
  have hh : h1 = gi := hh
  subst hh
  refine yt_dalt (by decide) (by decide) ?_
  rw [show xk_1088.2.1.2.1.1.length = 28 from rfl]
  show ((0 : Int) + 0) = yq_wm ((1 * r 0 + 0) + 0) ((1 * r 1 + 0) + 0) (yq_at ((1 * r 0 + 0) + 0) ((g0 2) 0) ((g0 2) 1) ((g0 2) 2) ((g0 2) 3)) (yq_at ((1 * r 0 + 0) + 0) ((g0 3) 0) ((g0 3) 1) ((g0 3) 2) ((g0 3) 3)) ∧ (g 1) = yq_mw ((1 * r 0 + 0) + 0) ((1 * r 1 + 0) + 0) ((1 * r 2 + 0) + 0) (yq_at ((1 * r 0 + 0) + 0) ((g0 2) 0) ((g0 2) 1) ((g0 2) 2) ((g0 2) 3)) (yq_at ((1 * r 0 + 0) + 0) ((g0 3) 0) ((g0 3) 1) ((g0 3) 2) ((g0 3) 3)) (g0 1)
  try simp only [Int.one_mul, Int.zero_add, Int.add_zero]
  try simp only [Int.one_mul, Int.zero_add, Int.add_zero] at e0
  try simp only [Int.one_mul, Int.zero_add, Int.add_zero] at e1
  rw [hgi] at e3
  rw [hgi] at e2
  rcases (show r 0 = 0 ∨ r 0 = 1 ∨ r 0 = 2 ∨ r 0 = 3 by omega) with q0 | q0 | q0 | q0
  · rw [show (r 0).toNat = 0 by omega] at e3 e2
    rw [q0]
    simp only [yq_at0]
    refine ⟨?_, ?_⟩
    · unfold yq_wm
      repeat' split
      all_goals omega
    · unfold yq_mw
      rw [if_pos (by omega)]
      rw [e0, yq_gup_self, k1 1 (by decide), hgi]
      rw [e1, ← e3] <;> (congr 1 <;> omega)
  · rw [show (r 0).toNat = 1 by omega] at e3 e2
    rw [q0]
    simp only [yq_at1]
    refine ⟨?_, ?_⟩
    · unfold yq_wm
      repeat' split
      all_goals omega
    · unfold yq_mw
      rw [if_pos (by omega)]
      rw [e0, yq_gup_self, k1 1 (by decide), hgi]
      rw [e1, ← e3] <;> (congr 1 <;> omega)
  · rw [show (r 0).toNat = 2 by omega] at e3 e2
    rw [q0]
    simp only [yq_at2]
    refine ⟨?_, ?_⟩
    · unfold yq_wm
      repeat' split
      all_goals omega
    · unfold yq_mw
      rw [if_pos (by omega)]
      rw [e0, yq_gup_self, k1 1 (by decide), hgi]
      rw [e1, ← e3] <;> (congr 1 <;> omega)
  · rw [show (r 0).toNat = 3 by omega] at e3 e2
    rw [q0]
    simp only [yq_at3]
    refine ⟨?_, ?_⟩
    · unfold yq_wm
      repeat' split
      all_goals omega
    · unfold yq_mw
      rw [if_pos (by omega)]
      rw [e0, yq_gup_self, k1 1 (by decide), hgi]
      rw [e1, ← e3] <;> (congr 1 <;> omega)
theorem xw_1088_0_5 : yt_hold xT_1088 xk_1088 xq_1088.2.2.1 xG_1088 xP_1088 xU_1088 28 xk_1088.2.1.2.2.2 (fun g0 r g => xR_1088 r g0 ∧ g = g0) (1000, ([(0, 3), ((-2147483648), 2147483647), ((-9223372036854775808), 9223372036854775807), ((-2147483648), 2147483647), ((-2147483648), 2147483647), (0, 40), ((-2147483648), 2147483647), (0, 4), ((-1000000000000), 1000000000000), ((-1000000000000), 1000000000000), ((-1000000000000), 1000000000000), (0, 1), ((-4000), 4000), ((-4000), 4000), ((-9223372036854775808), 9223372036854775807), ((-9223372036854775808), 9223372036854775807), (0, 12), ((-9223372036854775808), 9223372036854775807), ((-9223372036854775808), 9223372036854775807), ((-9223372036854775808), 9223372036854775807), ((-9223372036854775808), 9223372036854775807), ((-9223372036854775808), 9223372036854775807), (0, 12), ((-2147483648), 2147483647), (0, 12), ((-2147483648), 2147483647), (0, 40), (0, 40), ((-2147483648), (-1)), ((-2147483648), 0)], []), [([], (-2)), ([(29, 1)], 0)], [], [.inl (.inl (2, ([(0, 1)], 0), 28))]) := by
  intro g0 r gi g hok hh hars hfr hG
  have b0 : 0 ≤ r 0 ∧ r 0 ≤ 3 := hok.1 0 (0, 3) rfl
  have b1 : (-2147483648) ≤ r 1 ∧ r 1 ≤ 2147483647 := hok.1 1 ((-2147483648), 2147483647) rfl
  have b28 : (-2147483648) ≤ r 28 ∧ r 28 ≤ (-1) := hok.1 28 ((-2147483648), (-1)) rfl
  have b29 : (-2147483648) ≤ r 29 ∧ r 29 ≤ 0 := hok.1 29 ((-2147483648), 0) rfl
  obtain ⟨hG, hgi⟩ := hG
  have hG : True := hG
  obtain ⟨g0, hh, q0, e0⟩ := hh
  subst q0
  have e0 : r 28 = g 2 (((1 * r 0 + 0) + 0)).toNat := e0
  rw [show (((1 * r 0 + 0) + 0)).toNat = (r 0).toNat by omega] at e0
  have hh : g = gi := hh
  subst hh
  refine yt_dalt (by decide) (by decide) ?_
  rw [show xk_1088.2.1.2.1.1.length = 28 from rfl]
  show ((0 : Int) + (-2)) = yq_wm ((1 * r 0 + 0) + 0) ((1 * r 1 + 0) + 0) (yq_at ((1 * r 0 + 0) + 0) ((g0 2) 0) ((g0 2) 1) ((g0 2) 2) ((g0 2) 3)) (yq_at ((1 * r 0 + 0) + 0) ((g0 3) 0) ((g0 3) 1) ((g0 3) 2) ((g0 3) 3)) ∧ (g 1) = yq_mw ((1 * r 0 + 0) + 0) ((1 * r 1 + 0) + 0) ((1 * r 2 + 0) + 0) (yq_at ((1 * r 0 + 0) + 0) ((g0 2) 0) ((g0 2) 1) ((g0 2) 2) ((g0 2) 3)) (yq_at ((1 * r 0 + 0) + 0) ((g0 3) 0) ((g0 3) 1) ((g0 3) 2) ((g0 3) 3)) (g0 1)
  try simp only [Int.one_mul, Int.zero_add, Int.add_zero]
  rw [hgi] at e0
  rcases (show r 0 = 0 ∨ r 0 = 1 ∨ r 0 = 2 ∨ r 0 = 3 by omega) with q0 | q0 | q0 | q0
  · rw [show (r 0).toNat = 0 by omega] at e0
    rw [q0]
    simp only [yq_at0]
    refine ⟨?_, ?_⟩
    · unfold yq_wm
      repeat' split
      all_goals omega
    · unfold yq_mw
      rw [if_neg (by omega)]
      rw [hgi]
  · rw [show (r 0).toNat = 1 by omega] at e0
    rw [q0]
    simp only [yq_at1]
    refine ⟨?_, ?_⟩
    · unfold yq_wm
      repeat' split
      all_goals omega
    · unfold yq_mw
      rw [if_neg (by omega)]
      rw [hgi]
  · rw [show (r 0).toNat = 2 by omega] at e0
    rw [q0]
    simp only [yq_at2]
    refine ⟨?_, ?_⟩
    · unfold yq_wm
      repeat' split
      all_goals omega
    · unfold yq_mw
      rw [if_neg (by omega)]
      rw [hgi]
  · rw [show (r 0).toNat = 3 by omega] at e0
    rw [q0]
    simp only [yq_at3]
    refine ⟨?_, ?_⟩
    · unfold yq_wm
      repeat' split
      all_goals omega
    · unfold yq_mw
      rw [if_neg (by omega)]
      rw [hgi]
theorem xn_1088 : ∀ (j : Nat) (q : Nat × yt_T), xq_1088.2.2.1[j]? = some q → q.2.2.2 = false → ∀ g0 r g, xG_1088 j g0 r g
  | n + 0, q, hq, _ => by cases hq
theorem xs_1088 : ∀ j, xq_1088.2.2.2.getD j false = false → ∀ r g g', xP_1088 j r g g'
  | 0, hf => by cases hf
  | n + 1, _ => fun _ _ _ => trivial
theorem xc_1088 {l : Launch} {D : va_G} {cT : Nat → ClassId} {tys : List (ClassId × FieldType)} (hty : yx_Ty tys cT) : yt_Con l D vwCl cT tys yG yw_s519 xk_1088 xR_1088 xP_1088 := yx_sem (calls := xa_1088) (Z := xq_1088) (tb := xT_1088) (pt := xU_1088) (Ga := xG_1088) (vs := xv_1088) (fun _ _ _ _ => trivial) 300 (by decide +kernel) yz_X12_write_ok hty (yl_lkX12 _) (yl_cqkX12 _) (List.forall_mem_cons.mpr ⟨⟨xc_1023 hty, yg_CLs yl_wX12_157 yd_yX12_isSheet, fun _ _ _ => trivial⟩, List.forall_mem_cons.mpr ⟨⟨xc_1002 hty, yg_CLv rfl rfl rfl yl_wX12_141 yd_yX12_told, fun _ _ _ => trivial⟩, List.forall_mem_cons.mpr ⟨⟨xc_1001 hty, yg_CLs yl_wX12_133 yd_yX12_in, fun _ _ _ => trivial⟩, List.forall_mem_cons.mpr ⟨⟨xc_1024 hty, yg_CLs yl_wX12_160 yd_yX12_cut, fun _ _ _ => trivial⟩, fun _ h => absurd h List.not_mem_nil⟩⟩⟩⟩) (xn_1088) (xs_1088) (by decide +kernel) (List.forall_mem_cons.mpr ⟨xw_1088_0_0, List.forall_mem_cons.mpr ⟨xw_1088_0_1, List.forall_mem_cons.mpr ⟨xw_1088_0_2, List.forall_mem_cons.mpr ⟨xw_1088_0_3, List.forall_mem_cons.mpr ⟨xw_1088_0_4, List.forall_mem_cons.mpr ⟨xw_1088_0_5, fun _ h => absurd h List.not_mem_nil⟩⟩⟩⟩⟩⟩) (trivial)
