noncomputable def xf_1080 : ys_F := (yw_f504 1, yw_r504)
noncomputable def xk_1080 : ys_K := (((yX12_ways, cX12_ways, 4, (some .int)), (4, 105)), ([.inr (some 0), .inl (.inl ([(0, 1)], 0))], ([((-2147483648), 2147483647)] ++ yw_e504, []), xf_1080), ([([((-2147483648), 2147483647), (0, 12)], [], ((ys_fs xf_1080.1 [(0, 0, .inl (.inl ([], 0))), (0, 26, .inl (.inl ([(27, 1)], 0)))]), xf_1080.2), some (.inl (.inl ([(26, 1)], 0))))], [3, 4, 5]))
noncomputable def xq_1080 : yt_Q := (yz_X12_ways, (yl_flX12, yl_ciX12, yl_cjX12, yl_cpX12, yl_cqX12), [(28, ([((-2147483648), 2147483647), (0, 4096), (0, 12)], [([(0, 1)], 0), ([(0, (-1))], 12), ([(0, (-1)), (3, 1)], 0)], ((ys_fs xf_1080.1 [(0, 0, .inl (.inl ([], 0))), (0, 26, .inl (.inl ([(28, 1)], 0)))]), xf_1080.2), [(0, .inr (some 0)), (2, .inl (.inl ([(26, 1)], 0))), (3, .inl (.inl ([(27, 1)], 0)))], [], ([(27, (-1))], 4096)), [], false)], [])
noncomputable def xa_1080 : List yt_CE := [(((338, false), (0, false, [0, 1, 2, 6, 7, 8, 9, 10, 11, 12, 13, 14, 3, 4, 5, 15, 16, 17, 18, 19, 20, 21, 22, 23, 24, 25, 26, 27, 28, 29, 30, 31, 32, 33, 34, 35, 36])), (yw_s500, xk_1005)), (((341, false), (0, false, [0, 1, 2, 3, 4, 5, 6, 7, 8, 9, 10, 11, 12, 13, 14, 15, 16, 17, 18, 19, 20, 21, 22, 23, 24, 25, 26, 27, 28, 29, 30, 31, 32, 33, 34, 35, 36])), (yw_s504, xk_1012))]
theorem xc_1080 {l : Launch} {D : va_G} {cT : Nat → ClassId} {tys : List (ClassId × FieldType)} (hty : yx_Ty tys cT) : yx_C l D cT tys yw_s504 xk_1080 := yx_method (calls := xa_1080) (Z := xq_1080) 300 (by decide +kernel) yz_X12_ways_ok hty (yl_lkX12 _) (yl_cqkX12 _) (List.forall_mem_cons.mpr ⟨⟨xc_1005 hty, yg_CLv rfl rfl rfl yl_wX12_338 yd_yX12_isMany⟩, List.forall_mem_cons.mpr ⟨⟨xc_1012 hty, yg_CLv rfl rfl rfl yl_wX12_341 yd_yX12_findSets⟩, fun _ h => absurd h List.not_mem_nil⟩⟩) (by decide +kernel)
noncomputable def xf_1081 : ys_F := (yw_f2 2, yw_r2)
noncomputable def xk_1081 : ys_K := (((yX12_divisor, cX12_divisor, 10, (some .long)), (0, 0)), ([.inl (.inr ([(0, 1)], 0)), .inl (.inr ([(1, 1)], 0))], ([((-4611686018427387904), 4611686018427387904), (1, 4611686018427387904)] ++ yw_e2, []), xf_1081), ([([(1, 4611686018427387904)], [], (xf_1081.1, xf_1081.2), some (.inl (.inr ([(2, 1)], 0))))], []))
noncomputable def xq_1081 : yt_Q := (yz_X12_divisor, (yl_flX12, yl_ciX12, yl_cjX12, yl_cpX12, yl_cqX12), [(28, ([(1, 4611686018427387904), (0, 4611686018427387904)], [], (xf_1081.1, xf_1081.2), [(4, .inl (.inr ([(2, 1)], 0))), (6, .inl (.inr ([(3, 1)], 0)))], [], ([(3, 1)], 0)), [], true), (28, ([(0, 4611686018427387904), (1, 4611686018427387904)], [], (xf_1081.1, xf_1081.2), [(4, .inl (.inr ([(2, 1)], 0))), (6, .inl (.inr ([(3, 1)], 0)))], [], ([(3, 1)], 0)), [], true)], [true])
noncomputable def xa_1081 : List yt_CE := []
noncomputable def xv_1081 : List (List yt_VC) := [[(1, ([(0, 4611686018427387904), (1, 4611686018427387904)], []), [([(0, 1)], 0), ([(1, 1)], 0)], [], []),
   (0, ([((-4611686018427387904), (-1)), (1, 4611686018427387904)], []), [([(0, (-1))], 0), ([(1, 1)], 0)], [], [])],
  [(1000, ([((-4611686018427387904), 4611686018427387904), (1, 4611686018427387904), (1, 4611686018427387904), (0, 0)], []), [([(2, 1)], 0)], [], []),
   (0, ([((-4611686018427387904), 4611686018427387904), (1, 4611686018427387904), (1, 4611686018427387903), (2, 4611686018427387904), (0, 0)], [([(3, 1), (2, (-1))], (-1))]), [([(3, 1)], 0), ([(2, 1)], 0)], [], [.inr (.inr (.inl (998, 16, [([(2, 1)], 0), ([(3, 1)], 0), ([(2, 1)], 0)], [], [])))]),
   (0, ([((-4611686018427387904), 4611686018427387904), (1, 4611686018427387904), (1, 4611686018427387904), (1, 4611686018427387904), (0, 4611686018427387903)], [([(4, (-1)), (2, 1), (3, (-1))], 0), ([(3, 1), (4, (-1))], (-1)), ([(3, (-1)), (2, 1)], 0)]), [([(3, 1)], 0), ([(4, 1)], 0)], [], [.inr (.inr (.inl (998, 16, [([(2, 1)], 0), ([(3, 1)], 0), ([(4, 1)], 0)], [], [])))])],
  [(0, ([((-4611686018427387904), 4611686018427387904), (1, 4611686018427387904), (0, 4611686018427387903), (1, 4611686018427387904), (0, 0)], [([(3, 1), (2, (-1))], (-1))]), [([(3, 1)], 0), ([(2, 1)], 0)], [], [.inr (.inr (.inl (998, 16, [([(2, 1)], 0), ([(3, 1)], 0), ([(2, 1)], 0)], [], [])))]),
   (0, ([((-4611686018427387904), 4611686018427387904), (1, 4611686018427387904), (1, 4611686018427387904), (1, 4611686018427387904), (0, 4611686018427387903)], [([(4, (-1)), (2, 1), (3, (-1))], 0), ([(3, 1), (4, (-1))], (-1)), ([(3, (-1)), (2, 1)], 0)]), [([(3, 1)], 0), ([(4, 1)], 0)], [], [.inr (.inr (.inl (998, 16, [([(2, 1)], 0), ([(3, 1)], 0), ([(4, 1)], 0)], [], [])))])]]
noncomputable def xG_1081 : Nat → yt_G → (Nat → Int) → yt_G → Prop
  | 0, g0, r, g => Nat.gcd (((1 * (r 2) + 0) + 0)).toNat (((1 * (r 3) + 0) + 0)).toNat = Nat.gcd ((r 0)).natAbs ((r 1)).natAbs
  | 1, g0, r, g => Nat.gcd (((1 * (r 2) + 0) + 0)).toNat (((1 * (r 3) + 0) + 0)).toNat = Nat.gcd ((r 0)).natAbs ((r 1)).natAbs
  | _, _, _, _ => True
noncomputable def xP_1081 : yt_Ph
  | 0, r, g0, g => (r 2) = ((Nat.gcd ((r 0)).natAbs ((r 1)).natAbs : Nat) : Int)
  | _, _, _, _ => True
noncomputable def xR_1081 : yt_Ps := fun r g0 => True
noncomputable def xT_1081 : yt_Tb := fun d => match d with
  | 998 => fun i r _ _ => yt_hwp i r
  | _ => fun _ _ _ _ => True
noncomputable def xU_1081 : Nat → yt_Ps := fun d => match d with
  | _ => fun _ _ => True
theorem xw_1081_0_0 : yt_hold xT_1081 xk_1081 xq_1081.2.2.1 xG_1081 xP_1081 xU_1081 2 xk_1081.2.1.2.2.2 (fun g0 r g => xR_1081 r g0 ∧ g = g0) (1, ([(0, 4611686018427387904), (1, 4611686018427387904)], []), [([(0, 1)], 0), ([(1, 1)], 0)], [], []) := by
  intro g0 r gi g hok hh hars hfr hG
  have b0 : 0 ≤ r 0 ∧ r 0 ≤ 4611686018427387904 := hok.1 0 (0, 4611686018427387904) rfl
  have b1 : 1 ≤ r 1 ∧ r 1 ≤ 4611686018427387904 := hok.1 1 (1, 4611686018427387904) rfl
  obtain ⟨hG, hgi⟩ := hG
  have hG : True := hG
  have hh : g = gi := hh
  subst hh
  refine yt_dcut (by decide) rfl ?_ ?_
  · exact fun f hf => absurd hf List.not_mem_nil
  · rw [show xk_1081.2.1.2.1.1.length = 2 from rfl]
    show Nat.gcd (((1 * ((1 * r 0 + 0) + 0) + 0) + 0)).toNat (((1 * ((1 * r 1 + 0) + 0) + 0) + 0)).toNat = Nat.gcd (((1 * r 0 + 0) + 0)).natAbs (((1 * r 1 + 0) + 0)).natAbs
    try simp only [Int.one_mul, Int.zero_add, Int.add_zero]
    exact congr (congrArg Nat.gcd (by omega)) (by omega)
theorem xw_1081_0_1 : yt_hold xT_1081 xk_1081 xq_1081.2.2.1 xG_1081 xP_1081 xU_1081 2 xk_1081.2.1.2.2.2 (fun g0 r g => xR_1081 r g0 ∧ g = g0) (0, ([((-4611686018427387904), (-1)), (1, 4611686018427387904)], []), [([(0, (-1))], 0), ([(1, 1)], 0)], [], []) := by
  intro g0 r gi g hok hh hars hfr hG
  have b0 : (-4611686018427387904) ≤ r 0 ∧ r 0 ≤ (-1) := hok.1 0 ((-4611686018427387904), (-1)) rfl
  have b1 : 1 ≤ r 1 ∧ r 1 ≤ 4611686018427387904 := hok.1 1 (1, 4611686018427387904) rfl
  obtain ⟨hG, hgi⟩ := hG
  have hG : True := hG
  have hh : g = gi := hh
  subst hh
  refine yt_dcut (by decide) rfl ?_ ?_
  · exact fun f hf => absurd hf List.not_mem_nil
  · rw [show xk_1081.2.1.2.1.1.length = 2 from rfl]
    show Nat.gcd (((1 * (((-1) * r 0 + 0) + 0) + 0) + 0)).toNat (((1 * ((1 * r 1 + 0) + 0) + 0) + 0)).toNat = Nat.gcd (((1 * r 0 + 0) + 0)).natAbs (((1 * r 1 + 0) + 0)).natAbs
    try simp only [Int.one_mul, Int.zero_add, Int.add_zero]
    exact congr (congrArg Nat.gcd (by omega)) (by omega)
theorem xw_1081_1_0 : yt_hold xT_1081 xk_1081 xq_1081.2.2.1 xG_1081 xP_1081 xU_1081 4 ((xq_1081.2.2.1.getD 0 (0, ([], [], ([], []), [], [], ([], 0)), [], false)).2.1.2.2.1.2) (xG_1081 0) (1000, ([((-4611686018427387904), 4611686018427387904), (1, 4611686018427387904), (1, 4611686018427387904), (0, 0)], []), [([(2, 1)], 0)], [], []) := by
  intro g0 r gi g hok hh hars hfr hG
  have b0 : (-4611686018427387904) ≤ r 0 ∧ r 0 ≤ 4611686018427387904 := hok.1 0 ((-4611686018427387904), 4611686018427387904) rfl
  have b1 : 1 ≤ r 1 ∧ r 1 ≤ 4611686018427387904 := hok.1 1 (1, 4611686018427387904) rfl
  have b2 : 1 ≤ r 2 ∧ r 2 ≤ 4611686018427387904 := hok.1 2 (1, 4611686018427387904) rfl
  have b3 : 0 ≤ r 3 ∧ r 3 ≤ 0 := hok.1 3 (0, 0) rfl
  have hG : Nat.gcd (((1 * (r 2) + 0) + 0)).toNat (((1 * (r 3) + 0) + 0)).toNat = Nat.gcd ((r 0)).natAbs ((r 1)).natAbs := hG
  have hh : g = gi := hh
  subst hh
  have hG : Nat.gcd (((1 * (r 2) + 0) + 0)).toNat (((1 * (r 3) + 0) + 0)).toNat = Nat.gcd ((r 0)).natAbs ((r 1)).natAbs := hG
  refine yt_dalt (by decide) (by decide) ?_
  rw [show xk_1081.2.1.2.1.1.length = 2 from rfl]
  show ((1 * r 2 + 0) + 0) = ((Nat.gcd (((1 * r 0 + 0) + 0)).natAbs (((1 * r 1 + 0) + 0)).natAbs : Nat) : Int)
  try simp only [Int.one_mul, Int.zero_add, Int.add_zero]
  have hg : Nat.gcd (r 2).toNat (r 3).toNat = Nat.gcd (r 0).natAbs (r 1).natAbs := by
    first
      | rfl
      | (try simp only [Int.one_mul, Int.zero_add, Int.add_zero] at hG
         exact hG)
  rw [← hg, show (r 3).toNat = 0 by omega, Nat.gcd_zero_right]
  omega
theorem xw_1081_1_1 : yt_hold xT_1081 xk_1081 xq_1081.2.2.1 xG_1081 xP_1081 xU_1081 4 ((xq_1081.2.2.1.getD 0 (0, ([], [], ([], []), [], [], ([], 0)), [], false)).2.1.2.2.1.2) (xG_1081 0) (0, ([((-4611686018427387904), 4611686018427387904), (1, 4611686018427387904), (1, 4611686018427387903), (2, 4611686018427387904), (0, 0)], [([(3, 1), (2, (-1))], (-1))]), [([(3, 1)], 0), ([(2, 1)], 0)], [], [.inr (.inr (.inl (998, 16, [([(2, 1)], 0), ([(3, 1)], 0), ([(2, 1)], 0)], [], [])))]) := by
  intro g0 r gi g hok hh hars hfr hG
  have b0 : (-4611686018427387904) ≤ r 0 ∧ r 0 ≤ 4611686018427387904 := hok.1 0 ((-4611686018427387904), 4611686018427387904) rfl
  have b1 : 1 ≤ r 1 ∧ r 1 ≤ 4611686018427387904 := hok.1 1 (1, 4611686018427387904) rfl
  have b2 : 1 ≤ r 2 ∧ r 2 ≤ 4611686018427387903 := hok.1 2 (1, 4611686018427387903) rfl
  have b3 : 2 ≤ r 3 ∧ r 3 ≤ 4611686018427387904 := hok.1 3 (2, 4611686018427387904) rfl
  have b4 : 0 ≤ r 4 ∧ r 4 ≤ 0 := hok.1 4 (0, 0) rfl
  have f0 : 0 ≤ ((1 * r 3 + ((-1) * r 2 + 0)) + (-1)) := hok.2 _ (List.mem_of_getElem? (i := 0) rfl)
  have hG : Nat.gcd (((1 * (r 2) + 0) + 0)).toNat (((1 * (r 3) + 0) + 0)).toNat = Nat.gcd ((r 0)).natAbs ((r 1)).natAbs := hG
  obtain ⟨h0, hh, e0, k0⟩ := hh
  have k0 : ∀ j, j ∉ [] → g j = h0 j := k0
  have e0 : ((1 * r 2 + 0) + 0) = (((1 * r 2 + 0) + 0)).tmod (((1 * r 3 + 0) + 0)) := e0
  have hh : h0 = gi := hh
  subst hh
  have hG : Nat.gcd (((1 * (r 2) + 0) + 0)).toNat (((1 * (r 3) + 0) + 0)).toNat = Nat.gcd ((r 0)).natAbs ((r 1)).natAbs := hG
  refine yt_dcut (by decide) rfl ?_ ?_
  · exact fun f hf => absurd hf List.not_mem_nil
  · rw [show xk_1081.2.1.2.1.1.length = 2 from rfl]
    show Nat.gcd (((1 * ((1 * r 3 + 0) + 0) + 0) + 0)).toNat (((1 * ((1 * r 2 + 0) + 0) + 0) + 0)).toNat = Nat.gcd (((1 * r 0 + 0) + 0)).natAbs (((1 * r 1 + 0) + 0)).natAbs
    try simp only [Int.one_mul, Int.zero_add, Int.add_zero]
    first
      | done
      | (have hg : Nat.gcd (r 2).toNat (r 3).toNat = Nat.gcd (r 0).natAbs (r 1).natAbs := by
           first
             | rfl
             | (try simp only [Int.one_mul, Int.zero_add, Int.add_zero] at hG
                exact hG)
         try simp only [Int.one_mul, Int.zero_add, Int.add_zero] at e0
         have em2 : (r 2).toNat = (r 2).toNat % (r 3).toNat := by
           have em := e0
           rw [yy_tm (by omega) (by omega)] at em
           omega
         exact (congrArg (Nat.gcd (r 3).toNat) em2).trans ((yy_gs _ _).trans hg))
theorem xw_1081_1_2 : yt_hold xT_1081 xk_1081 xq_1081.2.2.1 xG_1081 xP_1081 xU_1081 4 ((xq_1081.2.2.1.getD 0 (0, ([], [], ([], []), [], [], ([], 0)), [], false)).2.1.2.2.1.2) (xG_1081 0) (0, ([((-4611686018427387904), 4611686018427387904), (1, 4611686018427387904), (1, 4611686018427387904), (1, 4611686018427387904), (0, 4611686018427387903)], [([(4, (-1)), (2, 1), (3, (-1))], 0), ([(3, 1), (4, (-1))], (-1)), ([(3, (-1)), (2, 1)], 0)]), [([(3, 1)], 0), ([(4, 1)], 0)], [], [.inr (.inr (.inl (998, 16, [([(2, 1)], 0), ([(3, 1)], 0), ([(4, 1)], 0)], [], [])))]) := by
  intro g0 r gi g hok hh hars hfr hG
  have b0 : (-4611686018427387904) ≤ r 0 ∧ r 0 ≤ 4611686018427387904 := hok.1 0 ((-4611686018427387904), 4611686018427387904) rfl
  have b1 : 1 ≤ r 1 ∧ r 1 ≤ 4611686018427387904 := hok.1 1 (1, 4611686018427387904) rfl
  have b2 : 1 ≤ r 2 ∧ r 2 ≤ 4611686018427387904 := hok.1 2 (1, 4611686018427387904) rfl
  have b3 : 1 ≤ r 3 ∧ r 3 ≤ 4611686018427387904 := hok.1 3 (1, 4611686018427387904) rfl
  have b4 : 0 ≤ r 4 ∧ r 4 ≤ 4611686018427387903 := hok.1 4 (0, 4611686018427387903) rfl
  have f0 : 0 ≤ (((-1) * r 4 + (1 * r 2 + ((-1) * r 3 + 0))) + 0) := hok.2 _ (List.mem_of_getElem? (i := 0) rfl)
  have f1 : 0 ≤ ((1 * r 3 + ((-1) * r 4 + 0)) + (-1)) := hok.2 _ (List.mem_of_getElem? (i := 1) rfl)
  have f2 : 0 ≤ (((-1) * r 3 + (1 * r 2 + 0)) + 0) := hok.2 _ (List.mem_of_getElem? (i := 2) rfl)
  have hG : Nat.gcd (((1 * (r 2) + 0) + 0)).toNat (((1 * (r 3) + 0) + 0)).toNat = Nat.gcd ((r 0)).natAbs ((r 1)).natAbs := hG
  obtain ⟨h0, hh, e0, k0⟩ := hh
  have k0 : ∀ j, j ∉ [] → g j = h0 j := k0
  have e0 : ((1 * r 4 + 0) + 0) = (((1 * r 2 + 0) + 0)).tmod (((1 * r 3 + 0) + 0)) := e0
  have hh : h0 = gi := hh
  subst hh
  have hG : Nat.gcd (((1 * (r 2) + 0) + 0)).toNat (((1 * (r 3) + 0) + 0)).toNat = Nat.gcd ((r 0)).natAbs ((r 1)).natAbs := hG
  refine yt_dcut (by decide) rfl ?_ ?_
  · exact fun f hf => absurd hf List.not_mem_nil
  · rw [show xk_1081.2.1.2.1.1.length = 2 from rfl]
    show Nat.gcd (((1 * ((1 * r 3 + 0) + 0) + 0) + 0)).toNat (((1 * ((1 * r 4 + 0) + 0) + 0) + 0)).toNat = Nat.gcd (((1 * r 0 + 0) + 0)).natAbs (((1 * r 1 + 0) + 0)).natAbs
    try simp only [Int.one_mul, Int.zero_add, Int.add_zero]
    first
      | done
      | (have hg : Nat.gcd (r 2).toNat (r 3).toNat = Nat.gcd (r 0).natAbs (r 1).natAbs := by
           first
             | rfl
             | (try simp only [Int.one_mul, Int.zero_add, Int.add_zero] at hG
                exact hG)
         try simp only [Int.one_mul, Int.zero_add, Int.add_zero] at e0
         have em2 : (r 4).toNat = (r 2).toNat % (r 3).toNat := by
           have em := e0
           rw [yy_tm (by omega) (by omega)] at em
           omega
         exact (congrArg (Nat.gcd (r 3).toNat) em2).trans ((yy_gs _ _).trans hg))
theorem xw_1081_2_0 : yt_hold xT_1081 xk_1081 xq_1081.2.2.1 xG_1081 xP_1081 xU_1081 4 ((xq_1081.2.2.1.getD 1 (0, ([], [], ([], []), [], [], ([], 0)), [], false)).2.1.2.2.1.2) (xG_1081 1) (0, ([((-4611686018427387904), 4611686018427387904), (1, 4611686018427387904), (0, 4611686018427387903), (1, 4611686018427387904), (0, 0)], [([(3, 1), (2, (-1))], (-1))]), [([(3, 1)], 0), ([(2, 1)], 0)], [], [.inr (.inr (.inl (998, 16, [([(2, 1)], 0), ([(3, 1)], 0), ([(2, 1)], 0)], [], [])))]) := by
  intro g0 r gi g hok hh hars hfr hG
  have b0 : (-4611686018427387904) ≤ r 0 ∧ r 0 ≤ 4611686018427387904 := hok.1 0 ((-4611686018427387904), 4611686018427387904) rfl
  have b1 : 1 ≤ r 1 ∧ r 1 ≤ 4611686018427387904 := hok.1 1 (1, 4611686018427387904) rfl
  have b2 : 0 ≤ r 2 ∧ r 2 ≤ 4611686018427387903 := hok.1 2 (0, 4611686018427387903) rfl
  have b3 : 1 ≤ r 3 ∧ r 3 ≤ 4611686018427387904 := hok.1 3 (1, 4611686018427387904) rfl
  have b4 : 0 ≤ r 4 ∧ r 4 ≤ 0 := hok.1 4 (0, 0) rfl
  have f0 : 0 ≤ ((1 * r 3 + ((-1) * r 2 + 0)) + (-1)) := hok.2 _ (List.mem_of_getElem? (i := 0) rfl)
  have hG : Nat.gcd (((1 * (r 2) + 0) + 0)).toNat (((1 * (r 3) + 0) + 0)).toNat = Nat.gcd ((r 0)).natAbs ((r 1)).natAbs := hG
  obtain ⟨h0, hh, e0, k0⟩ := hh
  have k0 : ∀ j, j ∉ [] → g j = h0 j := k0
  have e0 : ((1 * r 2 + 0) + 0) = (((1 * r 2 + 0) + 0)).tmod (((1 * r 3 + 0) + 0)) := e0
  have hh : h0 = gi := hh
  subst hh
  have hG : Nat.gcd (((1 * (r 2) + 0) + 0)).toNat (((1 * (r 3) + 0) + 0)).toNat = Nat.gcd ((r 0)).natAbs ((r 1)).natAbs := hG
  refine yt_dcut (by decide) rfl ?_ ?_
  · exact fun f hf => absurd hf List.not_mem_nil
  · rw [show xk_1081.2.1.2.1.1.length = 2 from rfl]
    show Nat.gcd (((1 * ((1 * r 3 + 0) + 0) + 0) + 0)).toNat (((1 * ((1 * r 2 + 0) + 0) + 0) + 0)).toNat = Nat.gcd (((1 * r 0 + 0) + 0)).natAbs (((1 * r 1 + 0) + 0)).natAbs
    try simp only [Int.one_mul, Int.zero_add, Int.add_zero]
    first
      | done
      | (have hg : Nat.gcd (r 2).toNat (r 3).toNat = Nat.gcd (r 0).natAbs (r 1).natAbs := by
           first
             | rfl
             | (try simp only [Int.one_mul, Int.zero_add, Int.add_zero] at hG
                exact hG)
         try simp only [Int.one_mul, Int.zero_add, Int.add_zero] at e0
         have em2 : (r 2).toNat = (r 2).toNat % (r 3).toNat := by
           have em := e0
           rw [yy_tm (by omega) (by omega)] at em
           omega
         exact (congrArg (Nat.gcd (r 3).toNat) em2).trans ((yy_gs _ _).trans hg))
theorem xw_1081_2_1 : yt_hold xT_1081 xk_1081 xq_1081.2.2.1 xG_1081 xP_1081 xU_1081 4 ((xq_1081.2.2.1.getD 1 (0, ([], [], ([], []), [], [], ([], 0)), [], false)).2.1.2.2.1.2) (xG_1081 1) (0, ([((-4611686018427387904), 4611686018427387904), (1, 4611686018427387904), (1, 4611686018427387904), (1, 4611686018427387904), (0, 4611686018427387903)], [([(4, (-1)), (2, 1), (3, (-1))], 0), ([(3, 1), (4, (-1))], (-1)), ([(3, (-1)), (2, 1)], 0)]), [([(3, 1)], 0), ([(4, 1)], 0)], [], [.inr (.inr (.inl (998, 16, [([(2, 1)], 0), ([(3, 1)], 0), ([(4, 1)], 0)], [], [])))]) := by
  intro g0 r gi g hok hh hars hfr hG
  have b0 : (-4611686018427387904) ≤ r 0 ∧ r 0 ≤ 4611686018427387904 := hok.1 0 ((-4611686018427387904), 4611686018427387904) rfl
  have b1 : 1 ≤ r 1 ∧ r 1 ≤ 4611686018427387904 := hok.1 1 (1, 4611686018427387904) rfl
  have b2 : 1 ≤ r 2 ∧ r 2 ≤ 4611686018427387904 := hok.1 2 (1, 4611686018427387904) rfl
  have b3 : 1 ≤ r 3 ∧ r 3 ≤ 4611686018427387904 := hok.1 3 (1, 4611686018427387904) rfl
  have b4 : 0 ≤ r 4 ∧ r 4 ≤ 4611686018427387903 := hok.1 4 (0, 4611686018427387903) rfl
  have f0 : 0 ≤ (((-1) * r 4 + (1 * r 2 + ((-1) * r 3 + 0))) + 0) := hok.2 _ (List.mem_of_getElem? (i := 0) rfl)
  have f1 : 0 ≤ ((1 * r 3 + ((-1) * r 4 + 0)) + (-1)) := hok.2 _ (List.mem_of_getElem? (i := 1) rfl)
  have f2 : 0 ≤ (((-1) * r 3 + (1 * r 2 + 0)) + 0) := hok.2 _ (List.mem_of_getElem? (i := 2) rfl)
  have hG : Nat.gcd (((1 * (r 2) + 0) + 0)).toNat (((1 * (r 3) + 0) + 0)).toNat = Nat.gcd ((r 0)).natAbs ((r 1)).natAbs := hG
  obtain ⟨h0, hh, e0, k0⟩ := hh
  have k0 : ∀ j, j ∉ [] → g j = h0 j := k0
  have e0 : ((1 * r 4 + 0) + 0) = (((1 * r 2 + 0) + 0)).tmod (((1 * r 3 + 0) + 0)) := e0
  have hh : h0 = gi := hh
  subst hh
  have hG : Nat.gcd (((1 * (r 2) + 0) + 0)).toNat (((1 * (r 3) + 0) + 0)).toNat = Nat.gcd ((r 0)).natAbs ((r 1)).natAbs := hG
  refine yt_dcut (by decide) rfl ?_ ?_
  · exact fun f hf => absurd hf List.not_mem_nil
  · rw [show xk_1081.2.1.2.1.1.length = 2 from rfl]
    show Nat.gcd (((1 * ((1 * r 3 + 0) + 0) + 0) + 0)).toNat (((1 * ((1 * r 4 + 0) + 0) + 0) + 0)).toNat = Nat.gcd (((1 * r 0 + 0) + 0)).natAbs (((1 * r 1 + 0) + 0)).natAbs
    try simp only [Int.one_mul, Int.zero_add, Int.add_zero]
    first
      | done
      | (have hg : Nat.gcd (r 2).toNat (r 3).toNat = Nat.gcd (r 0).natAbs (r 1).natAbs := by
           first
             | rfl
             | (try simp only [Int.one_mul, Int.zero_add, Int.add_zero] at hG
                exact hG)
         try simp only [Int.one_mul, Int.zero_add, Int.add_zero] at e0
         have em2 : (r 4).toNat = (r 2).toNat % (r 3).toNat := by
           have em := e0
           rw [yy_tm (by omega) (by omega)] at em
           omega
         exact (congrArg (Nat.gcd (r 3).toNat) em2).trans ((yy_gs _ _).trans hg))
theorem xn_1081 : ∀ (j : Nat) (q : Nat × yt_T), xq_1081.2.2.1[j]? = some q → q.2.2.2 = false → ∀ g0 r g, xG_1081 j g0 r g
  | 0, q, hq, hf => by cases hq; cases hf
  | 1, q, hq, hf => by cases hq; cases hf
  | n + 2, q, hq, _ => by cases hq
theorem xs_1081 : ∀ j, xq_1081.2.2.2.getD j false = false → ∀ r g g', xP_1081 j r g g'
  | 0, hf => by cases hf
  | n + 1, _ => fun _ _ _ => trivial
theorem xc_1081 {l : Launch} {D : va_G} {cT : Nat → ClassId} {tys : List (ClassId × FieldType)} (hty : yx_Ty tys cT) : yt_Con l D vwCl cT tys yG yw_s2 xk_1081 xR_1081 xP_1081 := yx_sem (calls := xa_1081) (Z := xq_1081) (tb := xT_1081) (pt := xU_1081) (Ga := xG_1081) (vs := xv_1081) (fun _ _ _ h => h) 300 (by decide +kernel) yz_X12_divisor_ok hty (yl_lkX12 _) (yl_cqkX12 _) (fun _ h => absurd h List.not_mem_nil) (xn_1081) (xs_1081) (by decide +kernel) (List.forall_mem_cons.mpr ⟨xw_1081_0_0, List.forall_mem_cons.mpr ⟨xw_1081_0_1, fun _ h => absurd h List.not_mem_nil⟩⟩) (⟨List.forall_mem_cons.mpr ⟨xw_1081_1_0, List.forall_mem_cons.mpr ⟨xw_1081_1_1, List.forall_mem_cons.mpr ⟨xw_1081_1_2, fun _ h => absurd h List.not_mem_nil⟩⟩⟩, ⟨List.forall_mem_cons.mpr ⟨xw_1081_2_0, List.forall_mem_cons.mpr ⟨xw_1081_2_1, fun _ h => absurd h List.not_mem_nil⟩⟩, trivial⟩⟩)
noncomputable def xf_1082 : ys_F := (yw_f2 3, yw_r2)
noncomputable def xk_1082 : ys_K := (((yX12_part, cX12_part, 7, (some .long)), (1, 29)), ([.inl (.inr ([(0, 1)], 0)), .inl (.inr ([(1, 1)], 0)), .inl (.inl ([(2, 1)], 0))], ([((-4611686018427387904), 4611686018427387904), (1, 4611686018427387904), (0, 1)] ++ yw_e2, []), xf_1082), ([([((-4611686018427387904), 4611686018427387904)], [], (xf_1082.1, xf_1082.2), some (.inl (.inr ([(3, 1)], 0))))], []))
noncomputable def xq_1082 : yt_Q := (yz_X12_part, (yl_flX12, yl_ciX12, yl_cjX12, yl_cpX12, yl_cqX12), [], [true])
noncomputable def xa_1082 : List yt_CE := [(((252, true), (322, false, [])), (yw_s2, xk_1081))]
noncomputable def xv_1082 : List (List yt_VC) := [[(1000, ([((-4611686018427387904), 4611686018427387904), (1, 4611686018427387903), (0, 0), (2, 4611686018427387904), (0, 0)], [([(3, 1), (1, (-1))], (-1))]), [([], 0)], [], [.inr (.inr (.inl (998, 1, [([(1, 1)], 0), ([(3, 1)], 0), ([], 0)], [], []))), .inr (.inr (.inl (322, 0, [([(0, 1)], 0), ([(1, 1)], 0), ([(3, 1)], 0)], [], [])))]),
   (1000, ([((-4611686018427387904), 4611686018427387904), (1, 4611686018427387904), (0, 0), (1, 4611686018427387904), (1, 4611686018427387904)], [([(4, (-1)), (1, 1)], 0), ([(3, (-1)), (1, 1)], 0)]), [([(4, 1)], 0)], [], [.inr (.inr (.inl (998, 1, [([(1, 1)], 0), ([(3, 1)], 0), ([(4, 1)], 0)], [], []))), .inr (.inr (.inl (322, 0, [([(0, 1)], 0), ([(1, 1)], 0), ([(3, 1)], 0)], [], [])))]),
   (1000, ([(0, 4611686018427387903), (1, 4611686018427387904), (1, 1), (1, 4611686018427387904), (0, 0)], [([(3, 1), (0, (-1))], (-1))]), [([], 0)], [], [.inr (.inr (.inl (998, 1, [([(0, 1)], 0), ([(3, 1)], 0), ([], 0)], [], []))), .inr (.inr (.inl (322, 0, [([(0, 1)], 0), ([(1, 1)], 0), ([(3, 1)], 0)], [], [])))]),
   (1000, ([(1, 4611686018427387904), (1, 4611686018427387904), (1, 1), (1, 4611686018427387904), (1, 4611686018427387904)], [([(4, (-1)), (0, 1)], 0), ([(3, (-1)), (0, 1)], 0)]), [([(4, 1)], 0)], [], [.inr (.inr (.inl (998, 1, [([(0, 1)], 0), ([(3, 1)], 0), ([(4, 1)], 0)], [], []))), .inr (.inr (.inl (322, 0, [([(0, 1)], 0), ([(1, 1)], 0), ([(3, 1)], 0)], [], [])))]),
   (1000, ([((-4611686018427387904), (-1)), (1, 4611686018427387904), (1, 1), (1, 4611686018427387904), ((-4611686018427387904), 0)], [([(0, (-1)), (4, 1)], 0)]), [([(4, 1)], 0)], [], [.inr (.inr (.inl (998, 1, [([(0, 1)], 0), ([(3, 1)], 0), ([(4, 1)], 0)], [], []))), .inr (.inr (.inl (322, 0, [([(0, 1)], 0), ([(1, 1)], 0), ([(3, 1)], 0)], [], [])))])]]
noncomputable def xG_1082 : Nat → yt_G → (Nat → Int) → yt_G → Prop
  | _, _, _, _ => True
noncomputable def xP_1082 : yt_Ph
  | 0, r, g0, g => (r 3) = ye_pt (r 0) (r 1) (r 2)
  | _, _, _, _ => True
noncomputable def xR_1082 : yt_Ps := fun r g0 => True
noncomputable def xT_1082 : yt_Tb := fun d => match d with
  | 322 => xP_1081
  | 998 => fun i r _ _ => yt_hwp i r
  | _ => fun _ _ _ _ => True
noncomputable def xU_1082 : Nat → yt_Ps := fun d => match d with
  | 322 => xR_1081
  | _ => fun _ _ => True
theorem xw_1082_0_0 : yt_hold xT_1082 xk_1082 xq_1082.2.2.1 xG_1082 xP_1082 xU_1082 3 xk_1082.2.1.2.2.2 (fun g0 r g => xR_1082 r g0 ∧ g = g0) (1000, ([((-4611686018427387904), 4611686018427387904), (1, 4611686018427387903), (0, 0), (2, 4611686018427387904), (0, 0)], [([(3, 1), (1, (-1))], (-1))]), [([], 0)], [], [.inr (.inr (.inl (998, 1, [([(1, 1)], 0), ([(3, 1)], 0), ([], 0)], [], []))), .inr (.inr (.inl (322, 0, [([(0, 1)], 0), ([(1, 1)], 0), ([(3, 1)], 0)], [], [])))]) := by
  intro g0 r gi g hok hh hars hfr hG
  have b0 : (-4611686018427387904) ≤ r 0 ∧ r 0 ≤ 4611686018427387904 := hok.1 0 ((-4611686018427387904), 4611686018427387904) rfl
  have b1 : 1 ≤ r 1 ∧ r 1 ≤ 4611686018427387903 := hok.1 1 (1, 4611686018427387903) rfl
  have b2 : 0 ≤ r 2 ∧ r 2 ≤ 0 := hok.1 2 (0, 0) rfl
  have b3 : 2 ≤ r 3 ∧ r 3 ≤ 4611686018427387904 := hok.1 3 (2, 4611686018427387904) rfl
  have b4 : 0 ≤ r 4 ∧ r 4 ≤ 0 := hok.1 4 (0, 0) rfl
  have f0 : 0 ≤ ((1 * r 3 + ((-1) * r 1 + 0)) + (-1)) := hok.2 _ (List.mem_of_getElem? (i := 0) rfl)
  obtain ⟨hG, hgi⟩ := hG
  have hG : True := hG
  obtain ⟨h0, hh, e0, k0⟩ := hh
  have k0 : ∀ j, j ∉ [] → g j = h0 j := k0
  have e0 : ((0 : Int) + 0) = (((1 * r 1 + 0) + 0)).tdiv (((1 * r 3 + 0) + 0)) := e0
  obtain ⟨h1, hh, e1, k1⟩ := hh
  have k1 : ∀ j, j ∉ [] → h0 j = h1 j := k1
  have e1 : ((1 * r 3 + 0) + 0) = ((Nat.gcd (((1 * r 0 + 0) + 0)).natAbs (((1 * r 1 + 0) + 0)).natAbs : Nat) : Int) := e1
  have hh : h1 = gi := hh
  subst hh
  refine yt_dalt (by decide) (by decide) ?_
  rw [show xk_1082.2.1.2.1.1.length = 3 from rfl]
  show ((0 : Int) + 0) = ye_pt ((1 * r 0 + 0) + 0) ((1 * r 1 + 0) + 0) ((1 * r 2 + 0) + 0)
  try simp only [Int.one_mul, Int.zero_add, Int.add_zero]
  try simp only [Int.one_mul, Int.zero_add, Int.add_zero] at e1 e0
  unfold ye_pt
  rw [if_pos (by omega), ← e1]
  exact e0
theorem xw_1082_0_1 : yt_hold xT_1082 xk_1082 xq_1082.2.2.1 xG_1082 xP_1082 xU_1082 3 xk_1082.2.1.2.2.2 (fun g0 r g => xR_1082 r g0 ∧ g = g0) (1000, ([((-4611686018427387904), 4611686018427387904), (1, 4611686018427387904), (0, 0), (1, 4611686018427387904), (1, 4611686018427387904)], [([(4, (-1)), (1, 1)], 0), ([(3, (-1)), (1, 1)], 0)]), [([(4, 1)], 0)], [], [.inr (.inr (.inl (998, 1, [([(1, 1)], 0), ([(3, 1)], 0), ([(4, 1)], 0)], [], []))), .inr (.inr (.inl (322, 0, [([(0, 1)], 0), ([(1, 1)], 0), ([(3, 1)], 0)], [], [])))]) := by
  intro g0 r gi g hok hh hars hfr hG
  have b0 : (-4611686018427387904) ≤ r 0 ∧ r 0 ≤ 4611686018427387904 := hok.1 0 ((-4611686018427387904), 4611686018427387904) rfl
  have b1 : 1 ≤ r 1 ∧ r 1 ≤ 4611686018427387904 := hok.1 1 (1, 4611686018427387904) rfl
  have b2 : 0 ≤ r 2 ∧ r 2 ≤ 0 := hok.1 2 (0, 0) rfl
  have b3 : 1 ≤ r 3 ∧ r 3 ≤ 4611686018427387904 := hok.1 3 (1, 4611686018427387904) rfl
  have b4 : 1 ≤ r 4 ∧ r 4 ≤ 4611686018427387904 := hok.1 4 (1, 4611686018427387904) rfl
  have f0 : 0 ≤ (((-1) * r 4 + (1 * r 1 + 0)) + 0) := hok.2 _ (List.mem_of_getElem? (i := 0) rfl)
  have f1 : 0 ≤ (((-1) * r 3 + (1 * r 1 + 0)) + 0) := hok.2 _ (List.mem_of_getElem? (i := 1) rfl)
  obtain ⟨hG, hgi⟩ := hG
  have hG : True := hG
  obtain ⟨h0, hh, e0, k0⟩ := hh
  have k0 : ∀ j, j ∉ [] → g j = h0 j := k0
  have e0 : ((1 * r 4 + 0) + 0) = (((1 * r 1 + 0) + 0)).tdiv (((1 * r 3 + 0) + 0)) := e0
  obtain ⟨h1, hh, e1, k1⟩ := hh
  have k1 : ∀ j, j ∉ [] → h0 j = h1 j := k1
  have e1 : ((1 * r 3 + 0) + 0) = ((Nat.gcd (((1 * r 0 + 0) + 0)).natAbs (((1 * r 1 + 0) + 0)).natAbs : Nat) : Int) := e1
  have hh : h1 = gi := hh
  subst hh
  refine yt_dalt (by decide) (by decide) ?_
  rw [show xk_1082.2.1.2.1.1.length = 3 from rfl]
  show ((1 * r 4 + 0) + 0) = ye_pt ((1 * r 0 + 0) + 0) ((1 * r 1 + 0) + 0) ((1 * r 2 + 0) + 0)
  try simp only [Int.one_mul, Int.zero_add, Int.add_zero]
  try simp only [Int.one_mul, Int.zero_add, Int.add_zero] at e1 e0
  unfold ye_pt
  rw [if_pos (by omega), ← e1]
  exact e0
theorem xw_1082_0_2 : yt_hold xT_1082 xk_1082 xq_1082.2.2.1 xG_1082 xP_1082 xU_1082 3 xk_1082.2.1.2.2.2 (fun g0 r g => xR_1082 r g0 ∧ g = g0) (1000, ([(0, 4611686018427387903), (1, 4611686018427387904), (1, 1), (1, 4611686018427387904), (0, 0)], [([(3, 1), (0, (-1))], (-1))]), [([], 0)], [], [.inr (.inr (.inl (998, 1, [([(0, 1)], 0), ([(3, 1)], 0), ([], 0)], [], []))), .inr (.inr (.inl (322, 0, [([(0, 1)], 0), ([(1, 1)], 0), ([(3, 1)], 0)], [], [])))]) := by
  intro g0 r gi g hok hh hars hfr hG
  have b0 : 0 ≤ r 0 ∧ r 0 ≤ 4611686018427387903 := hok.1 0 (0, 4611686018427387903) rfl
  have b1 : 1 ≤ r 1 ∧ r 1 ≤ 4611686018427387904 := hok.1 1 (1, 4611686018427387904) rfl
  have b2 : 1 ≤ r 2 ∧ r 2 ≤ 1 := hok.1 2 (1, 1) rfl
  have b3 : 1 ≤ r 3 ∧ r 3 ≤ 4611686018427387904 := hok.1 3 (1, 4611686018427387904) rfl
  have b4 : 0 ≤ r 4 ∧ r 4 ≤ 0 := hok.1 4 (0, 0) rfl
  have f0 : 0 ≤ ((1 * r 3 + ((-1) * r 0 + 0)) + (-1)) := hok.2 _ (List.mem_of_getElem? (i := 0) rfl)
  obtain ⟨hG, hgi⟩ := hG
  have hG : True := hG
  obtain ⟨h0, hh, e0, k0⟩ := hh
  have k0 : ∀ j, j ∉ [] → g j = h0 j := k0
  have e0 : ((0 : Int) + 0) = (((1 * r 0 + 0) + 0)).tdiv (((1 * r 3 + 0) + 0)) := e0
  obtain ⟨h1, hh, e1, k1⟩ := hh
  have k1 : ∀ j, j ∉ [] → h0 j = h1 j := k1
  have e1 : ((1 * r 3 + 0) + 0) = ((Nat.gcd (((1 * r 0 + 0) + 0)).natAbs (((1 * r 1 + 0) + 0)).natAbs : Nat) : Int) := e1
  have hh : h1 = gi := hh
  subst hh
  refine yt_dalt (by decide) (by decide) ?_
  rw [show xk_1082.2.1.2.1.1.length = 3 from rfl]
  show ((0 : Int) + 0) = ye_pt ((1 * r 0 + 0) + 0) ((1 * r 1 + 0) + 0) ((1 * r 2 + 0) + 0)
  try simp only [Int.one_mul, Int.zero_add, Int.add_zero]
  try simp only [Int.one_mul, Int.zero_add, Int.add_zero] at e1 e0
  unfold ye_pt
  rw [if_neg (by omega), ← e1]
  exact e0
theorem xw_1082_0_3 : yt_hold xT_1082 xk_1082 xq_1082.2.2.1 xG_1082 xP_1082 xU_1082 3 xk_1082.2.1.2.2.2 (fun g0 r g => xR_1082 r g0 ∧ g = g0) (1000, ([(1, 4611686018427387904), (1, 4611686018427387904), (1, 1), (1, 4611686018427387904), (1, 4611686018427387904)], [([(4, (-1)), (0, 1)], 0), ([(3, (-1)), (0, 1)], 0)]), [([(4, 1)], 0)], [], [.inr (.inr (.inl (998, 1, [([(0, 1)], 0), ([(3, 1)], 0), ([(4, 1)], 0)], [], []))), .inr (.inr (.inl (322, 0, [([(0, 1)], 0), ([(1, 1)], 0), ([(3, 1)], 0)], [], [])))]) := by
  intro g0 r gi g hok hh hars hfr hG
  have b0 : 1 ≤ r 0 ∧ r 0 ≤ 4611686018427387904 := hok.1 0 (1, 4611686018427387904) rfl
  have b1 : 1 ≤ r 1 ∧ r 1 ≤ 4611686018427387904 := hok.1 1 (1, 4611686018427387904) rfl
  have b2 : 1 ≤ r 2 ∧ r 2 ≤ 1 := hok.1 2 (1, 1) rfl
  have b3 : 1 ≤ r 3 ∧ r 3 ≤ 4611686018427387904 := hok.1 3 (1, 4611686018427387904) rfl
  have b4 : 1 ≤ r 4 ∧ r 4 ≤ 4611686018427387904 := hok.1 4 (1, 4611686018427387904) rfl
  have f0 : 0 ≤ (((-1) * r 4 + (1 * r 0 + 0)) + 0) := hok.2 _ (List.mem_of_getElem? (i := 0) rfl)
  have f1 : 0 ≤ (((-1) * r 3 + (1 * r 0 + 0)) + 0) := hok.2 _ (List.mem_of_getElem? (i := 1) rfl)
  obtain ⟨hG, hgi⟩ := hG
  have hG : True := hG
  obtain ⟨h0, hh, e0, k0⟩ := hh
  have k0 : ∀ j, j ∉ [] → g j = h0 j := k0
  have e0 : ((1 * r 4 + 0) + 0) = (((1 * r 0 + 0) + 0)).tdiv (((1 * r 3 + 0) + 0)) := e0
  obtain ⟨h1, hh, e1, k1⟩ := hh
  have k1 : ∀ j, j ∉ [] → h0 j = h1 j := k1
  have e1 : ((1 * r 3 + 0) + 0) = ((Nat.gcd (((1 * r 0 + 0) + 0)).natAbs (((1 * r 1 + 0) + 0)).natAbs : Nat) : Int) := e1
  have hh : h1 = gi := hh
  subst hh
  refine yt_dalt (by decide) (by decide) ?_
  rw [show xk_1082.2.1.2.1.1.length = 3 from rfl]
  show ((1 * r 4 + 0) + 0) = ye_pt ((1 * r 0 + 0) + 0) ((1 * r 1 + 0) + 0) ((1 * r 2 + 0) + 0)
  try simp only [Int.one_mul, Int.zero_add, Int.add_zero]
  try simp only [Int.one_mul, Int.zero_add, Int.add_zero] at e1 e0
  unfold ye_pt
  rw [if_neg (by omega), ← e1]
  exact e0
theorem xw_1082_0_4 : yt_hold xT_1082 xk_1082 xq_1082.2.2.1 xG_1082 xP_1082 xU_1082 3 xk_1082.2.1.2.2.2 (fun g0 r g => xR_1082 r g0 ∧ g = g0) (1000, ([((-4611686018427387904), (-1)), (1, 4611686018427387904), (1, 1), (1, 4611686018427387904), ((-4611686018427387904), 0)], [([(0, (-1)), (4, 1)], 0)]), [([(4, 1)], 0)], [], [.inr (.inr (.inl (998, 1, [([(0, 1)], 0), ([(3, 1)], 0), ([(4, 1)], 0)], [], []))), .inr (.inr (.inl (322, 0, [([(0, 1)], 0), ([(1, 1)], 0), ([(3, 1)], 0)], [], [])))]) := by
  intro g0 r gi g hok hh hars hfr hG
  have b0 : (-4611686018427387904) ≤ r 0 ∧ r 0 ≤ (-1) := hok.1 0 ((-4611686018427387904), (-1)) rfl
  have b1 : 1 ≤ r 1 ∧ r 1 ≤ 4611686018427387904 := hok.1 1 (1, 4611686018427387904) rfl
  have b2 : 1 ≤ r 2 ∧ r 2 ≤ 1 := hok.1 2 (1, 1) rfl
  have b3 : 1 ≤ r 3 ∧ r 3 ≤ 4611686018427387904 := hok.1 3 (1, 4611686018427387904) rfl
  have b4 : (-4611686018427387904) ≤ r 4 ∧ r 4 ≤ 0 := hok.1 4 ((-4611686018427387904), 0) rfl
  have f0 : 0 ≤ (((-1) * r 0 + (1 * r 4 + 0)) + 0) := hok.2 _ (List.mem_of_getElem? (i := 0) rfl)
  obtain ⟨hG, hgi⟩ := hG
  have hG : True := hG
  obtain ⟨h0, hh, e0, k0⟩ := hh
  have k0 : ∀ j, j ∉ [] → g j = h0 j := k0
  have e0 : ((1 * r 4 + 0) + 0) = (((1 * r 0 + 0) + 0)).tdiv (((1 * r 3 + 0) + 0)) := e0
  obtain ⟨h1, hh, e1, k1⟩ := hh
  have k1 : ∀ j, j ∉ [] → h0 j = h1 j := k1
  have e1 : ((1 * r 3 + 0) + 0) = ((Nat.gcd (((1 * r 0 + 0) + 0)).natAbs (((1 * r 1 + 0) + 0)).natAbs : Nat) : Int) := e1
  have hh : h1 = gi := hh
  subst hh
  refine yt_dalt (by decide) (by decide) ?_
  rw [show xk_1082.2.1.2.1.1.length = 3 from rfl]
  show ((1 * r 4 + 0) + 0) = ye_pt ((1 * r 0 + 0) + 0) ((1 * r 1 + 0) + 0) ((1 * r 2 + 0) + 0)
  try simp only [Int.one_mul, Int.zero_add, Int.add_zero]
  try simp only [Int.one_mul, Int.zero_add, Int.add_zero] at e1 e0
  unfold ye_pt
  rw [if_neg (by omega), ← e1]
  exact e0
theorem xn_1082 : ∀ (j : Nat) (q : Nat × yt_T), xq_1082.2.2.1[j]? = some q → q.2.2.2 = false → ∀ g0 r g, xG_1082 j g0 r g
  | n + 0, q, hq, _ => by cases hq
theorem xs_1082 : ∀ j, xq_1082.2.2.2.getD j false = false → ∀ r g g', xP_1082 j r g g'
  | 0, hf => by cases hf
  | n + 1, _ => fun _ _ _ => trivial
theorem xc_1082 {l : Launch} {D : va_G} {cT : Nat → ClassId} {tys : List (ClassId × FieldType)} (hty : yx_Ty tys cT) : yt_Con l D vwCl cT tys yG yw_s2 xk_1082 xR_1082 xP_1082 := yx_sem (calls := xa_1082) (Z := xq_1082) (tb := xT_1082) (pt := xU_1082) (Ga := xG_1082) (vs := xv_1082) (fun _ _ _ h => h) 300 (by decide +kernel) yz_X12_part_ok hty (yl_lkX12 _) (yl_cqkX12 _) (List.forall_mem_cons.mpr ⟨⟨xc_1081 hty, yg_CLs yl_wX12_252 yd_yX12_divisor, fun _ _ _ => trivial⟩, fun _ h => absurd h List.not_mem_nil⟩) (xn_1082) (xs_1082) (by decide +kernel) (List.forall_mem_cons.mpr ⟨xw_1082_0_0, List.forall_mem_cons.mpr ⟨xw_1082_0_1, List.forall_mem_cons.mpr ⟨xw_1082_0_2, List.forall_mem_cons.mpr ⟨xw_1082_0_3, List.forall_mem_cons.mpr ⟨xw_1082_0_4, fun _ h => absurd h List.not_mem_nil⟩⟩⟩⟩⟩) (trivial)
noncomputable def xf_1083 : ys_F := (yw_f2 2, yw_r2)
noncomputable def xk_1083 : ys_K := (((yX12_divisor, cX12_divisor, 10, (some .long)), (0, 0)), ([.inl (.inr ([(0, 1)], 0)), .inl (.inr ([(1, 1)], 0))], ([(1, 4611686018427387904), ((-4611686018427387904), 4611686018427387904)] ++ yw_e2, []), xf_1083), ([([(1, 4611686018427387904)], [], (xf_1083.1, xf_1083.2), some (.inl (.inr ([(2, 1)], 0))))], []))
noncomputable def xq_1083 : yt_Q := (yz_X12_divisor, (yl_flX12, yl_ciX12, yl_cjX12, yl_cpX12, yl_cqX12), [(28, ([(1, 4611686018427387904), (0, 4611686018427387904)], [], (xf_1083.1, xf_1083.2), [(4, .inl (.inr ([(2, 1)], 0))), (6, .inl (.inr ([(3, 1)], 0)))], [], ([(3, 1)], 0)), [], true), (28, ([(0, 4611686018427387904), (1, 4611686018427387904)], [], (xf_1083.1, xf_1083.2), [(4, .inl (.inr ([(2, 1)], 0))), (6, .inl (.inr ([(3, 1)], 0)))], [], ([(3, 1)], 0)), [], true)], [true])
noncomputable def xa_1083 : List yt_CE := []
noncomputable def xv_1083 : List (List yt_VC) := [[(0, ([(1, 4611686018427387904), (0, 4611686018427387904)], []), [([(0, 1)], 0), ([(1, 1)], 0)], [], []),
   (0, ([(1, 4611686018427387904), ((-4611686018427387904), (-1))], []), [([(0, 1)], 0), ([(1, (-1))], 0)], [], [])],
  [(1000, ([(1, 4611686018427387904), ((-4611686018427387904), 4611686018427387904), (1, 4611686018427387904), (0, 0)], []), [([(2, 1)], 0)], [], []),
   (0, ([(1, 4611686018427387904), ((-4611686018427387904), 4611686018427387904), (1, 4611686018427387903), (2, 4611686018427387904), (0, 0)], [([(3, 1), (2, (-1))], (-1))]), [([(3, 1)], 0), ([(2, 1)], 0)], [], [.inr (.inr (.inl (998, 16, [([(2, 1)], 0), ([(3, 1)], 0), ([(2, 1)], 0)], [], [])))]),
   (0, ([(1, 4611686018427387904), ((-4611686018427387904), 4611686018427387904), (1, 4611686018427387904), (1, 4611686018427387904), (0, 4611686018427387903)], [([(4, (-1)), (2, 1), (3, (-1))], 0), ([(3, 1), (4, (-1))], (-1)), ([(3, (-1)), (2, 1)], 0)]), [([(3, 1)], 0), ([(4, 1)], 0)], [], [.inr (.inr (.inl (998, 16, [([(2, 1)], 0), ([(3, 1)], 0), ([(4, 1)], 0)], [], [])))])],
  [(0, ([(1, 4611686018427387904), ((-4611686018427387904), 4611686018427387904), (0, 4611686018427387903), (1, 4611686018427387904), (0, 0)], [([(3, 1), (2, (-1))], (-1))]), [([(3, 1)], 0), ([(2, 1)], 0)], [], [.inr (.inr (.inl (998, 16, [([(2, 1)], 0), ([(3, 1)], 0), ([(2, 1)], 0)], [], [])))]),
   (0, ([(1, 4611686018427387904), ((-4611686018427387904), 4611686018427387904), (1, 4611686018427387904), (1, 4611686018427387904), (0, 4611686018427387903)], [([(4, (-1)), (2, 1), (3, (-1))], 0), ([(3, 1), (4, (-1))], (-1)), ([(3, (-1)), (2, 1)], 0)]), [([(3, 1)], 0), ([(4, 1)], 0)], [], [.inr (.inr (.inl (998, 16, [([(2, 1)], 0), ([(3, 1)], 0), ([(4, 1)], 0)], [], [])))])]]
noncomputable def xG_1083 : Nat → yt_G → (Nat → Int) → yt_G → Prop
  | 0, g0, r, g => Nat.gcd (((1 * (r 2) + 0) + 0)).toNat (((1 * (r 3) + 0) + 0)).toNat = Nat.gcd ((r 0)).natAbs ((r 1)).natAbs
  | 1, g0, r, g => Nat.gcd (((1 * (r 2) + 0) + 0)).toNat (((1 * (r 3) + 0) + 0)).toNat = Nat.gcd ((r 0)).natAbs ((r 1)).natAbs
  | _, _, _, _ => True
noncomputable def xP_1083 : yt_Ph
  | 0, r, g0, g => (r 2) = ((Nat.gcd ((r 0)).natAbs ((r 1)).natAbs : Nat) : Int)
  | _, _, _, _ => True
noncomputable def xR_1083 : yt_Ps := fun r g0 => True
noncomputable def xT_1083 : yt_Tb := fun d => match d with
  | 998 => fun i r _ _ => yt_hwp i r
  | _ => fun _ _ _ _ => True
noncomputable def xU_1083 : Nat → yt_Ps := fun d => match d with
  | _ => fun _ _ => True
theorem xw_1083_0_0 : yt_hold xT_1083 xk_1083 xq_1083.2.2.1 xG_1083 xP_1083 xU_1083 2 xk_1083.2.1.2.2.2 (fun g0 r g => xR_1083 r g0 ∧ g = g0) (0, ([(1, 4611686018427387904), (0, 4611686018427387904)], []), [([(0, 1)], 0), ([(1, 1)], 0)], [], []) := by
  intro g0 r gi g hok hh hars hfr hG
  have b0 : 1 ≤ r 0 ∧ r 0 ≤ 4611686018427387904 := hok.1 0 (1, 4611686018427387904) rfl
  have b1 : 0 ≤ r 1 ∧ r 1 ≤ 4611686018427387904 := hok.1 1 (0, 4611686018427387904) rfl
  obtain ⟨hG, hgi⟩ := hG
  have hG : True := hG
  have hh : g = gi := hh
  subst hh
  refine yt_dcut (by decide) rfl ?_ ?_
  · exact fun f hf => absurd hf List.not_mem_nil
  · rw [show xk_1083.2.1.2.1.1.length = 2 from rfl]
    show Nat.gcd (((1 * ((1 * r 0 + 0) + 0) + 0) + 0)).toNat (((1 * ((1 * r 1 + 0) + 0) + 0) + 0)).toNat = Nat.gcd (((1 * r 0 + 0) + 0)).natAbs (((1 * r 1 + 0) + 0)).natAbs
    try simp only [Int.one_mul, Int.zero_add, Int.add_zero]
    exact congr (congrArg Nat.gcd (by omega)) (by omega)
theorem xw_1083_0_1 : yt_hold xT_1083 xk_1083 xq_1083.2.2.1 xG_1083 xP_1083 xU_1083 2 xk_1083.2.1.2.2.2 (fun g0 r g => xR_1083 r g0 ∧ g = g0) (0, ([(1, 4611686018427387904), ((-4611686018427387904), (-1))], []), [([(0, 1)], 0), ([(1, (-1))], 0)], [], []) := by
  intro g0 r gi g hok hh hars hfr hG
  have b0 : 1 ≤ r 0 ∧ r 0 ≤ 4611686018427387904 := hok.1 0 (1, 4611686018427387904) rfl
  have b1 : (-4611686018427387904) ≤ r 1 ∧ r 1 ≤ (-1) := hok.1 1 ((-4611686018427387904), (-1)) rfl
  obtain ⟨hG, hgi⟩ := hG
  have hG : True := hG
  have hh : g = gi := hh
  subst hh
  refine yt_dcut (by decide) rfl ?_ ?_
  · exact fun f hf => absurd hf List.not_mem_nil
  · rw [show xk_1083.2.1.2.1.1.length = 2 from rfl]
    show Nat.gcd (((1 * ((1 * r 0 + 0) + 0) + 0) + 0)).toNat (((1 * (((-1) * r 1 + 0) + 0) + 0) + 0)).toNat = Nat.gcd (((1 * r 0 + 0) + 0)).natAbs (((1 * r 1 + 0) + 0)).natAbs
    try simp only [Int.one_mul, Int.zero_add, Int.add_zero]
    exact congr (congrArg Nat.gcd (by omega)) (by omega)
theorem xw_1083_1_0 : yt_hold xT_1083 xk_1083 xq_1083.2.2.1 xG_1083 xP_1083 xU_1083 4 ((xq_1083.2.2.1.getD 0 (0, ([], [], ([], []), [], [], ([], 0)), [], false)).2.1.2.2.1.2) (xG_1083 0) (1000, ([(1, 4611686018427387904), ((-4611686018427387904), 4611686018427387904), (1, 4611686018427387904), (0, 0)], []), [([(2, 1)], 0)], [], []) := by
  intro g0 r gi g hok hh hars hfr hG
  have b0 : 1 ≤ r 0 ∧ r 0 ≤ 4611686018427387904 := hok.1 0 (1, 4611686018427387904) rfl
  have b1 : (-4611686018427387904) ≤ r 1 ∧ r 1 ≤ 4611686018427387904 := hok.1 1 ((-4611686018427387904), 4611686018427387904) rfl
  have b2 : 1 ≤ r 2 ∧ r 2 ≤ 4611686018427387904 := hok.1 2 (1, 4611686018427387904) rfl
  have b3 : 0 ≤ r 3 ∧ r 3 ≤ 0 := hok.1 3 (0, 0) rfl
  have hG : Nat.gcd (((1 * (r 2) + 0) + 0)).toNat (((1 * (r 3) + 0) + 0)).toNat = Nat.gcd ((r 0)).natAbs ((r 1)).natAbs := hG
  have hh : g = gi := hh
  subst hh
  have hG : Nat.gcd (((1 * (r 2) + 0) + 0)).toNat (((1 * (r 3) + 0) + 0)).toNat = Nat.gcd ((r 0)).natAbs ((r 1)).natAbs := hG
  refine yt_dalt (by decide) (by decide) ?_
  rw [show xk_1083.2.1.2.1.1.length = 2 from rfl]
  show ((1 * r 2 + 0) + 0) = ((Nat.gcd (((1 * r 0 + 0) + 0)).natAbs (((1 * r 1 + 0) + 0)).natAbs : Nat) : Int)
  try simp only [Int.one_mul, Int.zero_add, Int.add_zero]
  have hg : Nat.gcd (r 2).toNat (r 3).toNat = Nat.gcd (r 0).natAbs (r 1).natAbs := by
    first
      | rfl
      | (try simp only [Int.one_mul, Int.zero_add, Int.add_zero] at hG
         exact hG)
  rw [← hg, show (r 3).toNat = 0 by omega, Nat.gcd_zero_right]
  omega
theorem xw_1083_1_1 : yt_hold xT_1083 xk_1083 xq_1083.2.2.1 xG_1083 xP_1083 xU_1083 4 ((xq_1083.2.2.1.getD 0 (0, ([], [], ([], []), [], [], ([], 0)), [], false)).2.1.2.2.1.2) (xG_1083 0) (0, ([(1, 4611686018427387904), ((-4611686018427387904), 4611686018427387904), (1, 4611686018427387903), (2, 4611686018427387904), (0, 0)], [([(3, 1), (2, (-1))], (-1))]), [([(3, 1)], 0), ([(2, 1)], 0)], [], [.inr (.inr (.inl (998, 16, [([(2, 1)], 0), ([(3, 1)], 0), ([(2, 1)], 0)], [], [])))]) := by
  intro g0 r gi g hok hh hars hfr hG
  have b0 : 1 ≤ r 0 ∧ r 0 ≤ 4611686018427387904 := hok.1 0 (1, 4611686018427387904) rfl
  have b1 : (-4611686018427387904) ≤ r 1 ∧ r 1 ≤ 4611686018427387904 := hok.1 1 ((-4611686018427387904), 4611686018427387904) rfl
  have b2 : 1 ≤ r 2 ∧ r 2 ≤ 4611686018427387903 := hok.1 2 (1, 4611686018427387903) rfl
  have b3 : 2 ≤ r 3 ∧ r 3 ≤ 4611686018427387904 := hok.1 3 (2, 4611686018427387904) rfl
  have b4 : 0 ≤ r 4 ∧ r 4 ≤ 0 := hok.1 4 (0, 0) rfl
  have f0 : 0 ≤ ((1 * r 3 + ((-1) * r 2 + 0)) + (-1)) := hok.2 _ (List.mem_of_getElem? (i := 0) rfl)
  have hG : Nat.gcd (((1 * (r 2) + 0) + 0)).toNat (((1 * (r 3) + 0) + 0)).toNat = Nat.gcd ((r 0)).natAbs ((r 1)).natAbs := hG
  obtain ⟨h0, hh, e0, k0⟩ := hh
  have k0 : ∀ j, j ∉ [] → g j = h0 j := k0
  have e0 : ((1 * r 2 + 0) + 0) = (((1 * r 2 + 0) + 0)).tmod (((1 * r 3 + 0) + 0)) := e0
  have hh : h0 = gi := hh
  subst hh
  have hG : Nat.gcd (((1 * (r 2) + 0) + 0)).toNat (((1 * (r 3) + 0) + 0)).toNat = Nat.gcd ((r 0)).natAbs ((r 1)).natAbs := hG
  refine yt_dcut (by decide) rfl ?_ ?_
  · exact fun f hf => absurd hf List.not_mem_nil
  · rw [show xk_1083.2.1.2.1.1.length = 2 from rfl]
    show Nat.gcd (((1 * ((1 * r 3 + 0) + 0) + 0) + 0)).toNat (((1 * ((1 * r 2 + 0) + 0) + 0) + 0)).toNat = Nat.gcd (((1 * r 0 + 0) + 0)).natAbs (((1 * r 1 + 0) + 0)).natAbs
    try simp only [Int.one_mul, Int.zero_add, Int.add_zero]
    first
      | done
      | (have hg : Nat.gcd (r 2).toNat (r 3).toNat = Nat.gcd (r 0).natAbs (r 1).natAbs := by
           first
             | rfl
             | (try simp only [Int.one_mul, Int.zero_add, Int.add_zero] at hG
                exact hG)
         try simp only [Int.one_mul, Int.zero_add, Int.add_zero] at e0
         have em2 : (r 2).toNat = (r 2).toNat % (r 3).toNat := by
           have em := e0
           rw [yy_tm (by omega) (by omega)] at em
           omega
         exact (congrArg (Nat.gcd (r 3).toNat) em2).trans ((yy_gs _ _).trans hg))
theorem xw_1083_1_2 : yt_hold xT_1083 xk_1083 xq_1083.2.2.1 xG_1083 xP_1083 xU_1083 4 ((xq_1083.2.2.1.getD 0 (0, ([], [], ([], []), [], [], ([], 0)), [], false)).2.1.2.2.1.2) (xG_1083 0) (0, ([(1, 4611686018427387904), ((-4611686018427387904), 4611686018427387904), (1, 4611686018427387904), (1, 4611686018427387904), (0, 4611686018427387903)], [([(4, (-1)), (2, 1), (3, (-1))], 0), ([(3, 1), (4, (-1))], (-1)), ([(3, (-1)), (2, 1)], 0)]), [([(3, 1)], 0), ([(4, 1)], 0)], [], [.inr (.inr (.inl (998, 16, [([(2, 1)], 0), ([(3, 1)], 0), ([(4, 1)], 0)], [], [])))]) := by
  intro g0 r gi g hok hh hars hfr hG
  have b0 : 1 ≤ r 0 ∧ r 0 ≤ 4611686018427387904 := hok.1 0 (1, 4611686018427387904) rfl
  have b1 : (-4611686018427387904) ≤ r 1 ∧ r 1 ≤ 4611686018427387904 := hok.1 1 ((-4611686018427387904), 4611686018427387904) rfl
  have b2 : 1 ≤ r 2 ∧ r 2 ≤ 4611686018427387904 := hok.1 2 (1, 4611686018427387904) rfl
  have b3 : 1 ≤ r 3 ∧ r 3 ≤ 4611686018427387904 := hok.1 3 (1, 4611686018427387904) rfl
  have b4 : 0 ≤ r 4 ∧ r 4 ≤ 4611686018427387903 := hok.1 4 (0, 4611686018427387903) rfl
  have f0 : 0 ≤ (((-1) * r 4 + (1 * r 2 + ((-1) * r 3 + 0))) + 0) := hok.2 _ (List.mem_of_getElem? (i := 0) rfl)
  have f1 : 0 ≤ ((1 * r 3 + ((-1) * r 4 + 0)) + (-1)) := hok.2 _ (List.mem_of_getElem? (i := 1) rfl)
  have f2 : 0 ≤ (((-1) * r 3 + (1 * r 2 + 0)) + 0) := hok.2 _ (List.mem_of_getElem? (i := 2) rfl)
  have hG : Nat.gcd (((1 * (r 2) + 0) + 0)).toNat (((1 * (r 3) + 0) + 0)).toNat = Nat.gcd ((r 0)).natAbs ((r 1)).natAbs := hG
  obtain ⟨h0, hh, e0, k0⟩ := hh
  have k0 : ∀ j, j ∉ [] → g j = h0 j := k0
  have e0 : ((1 * r 4 + 0) + 0) = (((1 * r 2 + 0) + 0)).tmod (((1 * r 3 + 0) + 0)) := e0
  have hh : h0 = gi := hh
  subst hh
  have hG : Nat.gcd (((1 * (r 2) + 0) + 0)).toNat (((1 * (r 3) + 0) + 0)).toNat = Nat.gcd ((r 0)).natAbs ((r 1)).natAbs := hG
  refine yt_dcut (by decide) rfl ?_ ?_
  · exact fun f hf => absurd hf List.not_mem_nil
  · rw [show xk_1083.2.1.2.1.1.length = 2 from rfl]
    show Nat.gcd (((1 * ((1 * r 3 + 0) + 0) + 0) + 0)).toNat (((1 * ((1 * r 4 + 0) + 0) + 0) + 0)).toNat = Nat.gcd (((1 * r 0 + 0) + 0)).natAbs (((1 * r 1 + 0) + 0)).natAbs
    try simp only [Int.one_mul, Int.zero_add, Int.add_zero]
    first
      | done
      | (have hg : Nat.gcd (r 2).toNat (r 3).toNat = Nat.gcd (r 0).natAbs (r 1).natAbs := by
           first
             | rfl
             | (try simp only [Int.one_mul, Int.zero_add, Int.add_zero] at hG
                exact hG)
         try simp only [Int.one_mul, Int.zero_add, Int.add_zero] at e0
         have em2 : (r 4).toNat = (r 2).toNat % (r 3).toNat := by
           have em := e0
           rw [yy_tm (by omega) (by omega)] at em
           omega
         exact (congrArg (Nat.gcd (r 3).toNat) em2).trans ((yy_gs _ _).trans hg))
theorem xw_1083_2_0 : yt_hold xT_1083 xk_1083 xq_1083.2.2.1 xG_1083 xP_1083 xU_1083 4 ((xq_1083.2.2.1.getD 1 (0, ([], [], ([], []), [], [], ([], 0)), [], false)).2.1.2.2.1.2) (xG_1083 1) (0, ([(1, 4611686018427387904), ((-4611686018427387904), 4611686018427387904), (0, 4611686018427387903), (1, 4611686018427387904), (0, 0)], [([(3, 1), (2, (-1))], (-1))]), [([(3, 1)], 0), ([(2, 1)], 0)], [], [.inr (.inr (.inl (998, 16, [([(2, 1)], 0), ([(3, 1)], 0), ([(2, 1)], 0)], [], [])))]) := by
  intro g0 r gi g hok hh hars hfr hG
  have b0 : 1 ≤ r 0 ∧ r 0 ≤ 4611686018427387904 := hok.1 0 (1, 4611686018427387904) rfl
  have b1 : (-4611686018427387904) ≤ r 1 ∧ r 1 ≤ 4611686018427387904 := hok.1 1 ((-4611686018427387904), 4611686018427387904) rfl
  have b2 : 0 ≤ r 2 ∧ r 2 ≤ 4611686018427387903 := hok.1 2 (0, 4611686018427387903) rfl
  have b3 : 1 ≤ r 3 ∧ r 3 ≤ 4611686018427387904 := hok.1 3 (1, 4611686018427387904) rfl
  have b4 : 0 ≤ r 4 ∧ r 4 ≤ 0 := hok.1 4 (0, 0) rfl
  have f0 : 0 ≤ ((1 * r 3 + ((-1) * r 2 + 0)) + (-1)) := hok.2 _ (List.mem_of_getElem? (i := 0) rfl)
  have hG : Nat.gcd (((1 * (r 2) + 0) + 0)).toNat (((1 * (r 3) + 0) + 0)).toNat = Nat.gcd ((r 0)).natAbs ((r 1)).natAbs := hG
  obtain ⟨h0, hh, e0, k0⟩ := hh
  have k0 : ∀ j, j ∉ [] → g j = h0 j := k0
  have e0 : ((1 * r 2 + 0) + 0) = (((1 * r 2 + 0) + 0)).tmod (((1 * r 3 + 0) + 0)) := e0
  have hh : h0 = gi := hh
  subst hh
  have hG : Nat.gcd (((1 * (r 2) + 0) + 0)).toNat (((1 * (r 3) + 0) + 0)).toNat = Nat.gcd ((r 0)).natAbs ((r 1)).natAbs := hG
  refine yt_dcut (by decide) rfl ?_ ?_
  · exact fun f hf => absurd hf List.not_mem_nil
  · rw [show xk_1083.2.1.2.1.1.length = 2 from rfl]
    show Nat.gcd (((1 * ((1 * r 3 + 0) + 0) + 0) + 0)).toNat (((1 * ((1 * r 2 + 0) + 0) + 0) + 0)).toNat = Nat.gcd (((1 * r 0 + 0) + 0)).natAbs (((1 * r 1 + 0) + 0)).natAbs
    try simp only [Int.one_mul, Int.zero_add, Int.add_zero]
    first
      | done
      | (have hg : Nat.gcd (r 2).toNat (r 3).toNat = Nat.gcd (r 0).natAbs (r 1).natAbs := by
           first
             | rfl
             | (try simp only [Int.one_mul, Int.zero_add, Int.add_zero] at hG
                exact hG)
         try simp only [Int.one_mul, Int.zero_add, Int.add_zero] at e0
         have em2 : (r 2).toNat = (r 2).toNat % (r 3).toNat := by
           have em := e0
           rw [yy_tm (by omega) (by omega)] at em
           omega
         exact (congrArg (Nat.gcd (r 3).toNat) em2).trans ((yy_gs _ _).trans hg))
theorem xw_1083_2_1 : yt_hold xT_1083 xk_1083 xq_1083.2.2.1 xG_1083 xP_1083 xU_1083 4 ((xq_1083.2.2.1.getD 1 (0, ([], [], ([], []), [], [], ([], 0)), [], false)).2.1.2.2.1.2) (xG_1083 1) (0, ([(1, 4611686018427387904), ((-4611686018427387904), 4611686018427387904), (1, 4611686018427387904), (1, 4611686018427387904), (0, 4611686018427387903)], [([(4, (-1)), (2, 1), (3, (-1))], 0), ([(3, 1), (4, (-1))], (-1)), ([(3, (-1)), (2, 1)], 0)]), [([(3, 1)], 0), ([(4, 1)], 0)], [], [.inr (.inr (.inl (998, 16, [([(2, 1)], 0), ([(3, 1)], 0), ([(4, 1)], 0)], [], [])))]) := by
  intro g0 r gi g hok hh hars hfr hG
  have b0 : 1 ≤ r 0 ∧ r 0 ≤ 4611686018427387904 := hok.1 0 (1, 4611686018427387904) rfl
  have b1 : (-4611686018427387904) ≤ r 1 ∧ r 1 ≤ 4611686018427387904 := hok.1 1 ((-4611686018427387904), 4611686018427387904) rfl
  have b2 : 1 ≤ r 2 ∧ r 2 ≤ 4611686018427387904 := hok.1 2 (1, 4611686018427387904) rfl
  have b3 : 1 ≤ r 3 ∧ r 3 ≤ 4611686018427387904 := hok.1 3 (1, 4611686018427387904) rfl
  have b4 : 0 ≤ r 4 ∧ r 4 ≤ 4611686018427387903 := hok.1 4 (0, 4611686018427387903) rfl
  have f0 : 0 ≤ (((-1) * r 4 + (1 * r 2 + ((-1) * r 3 + 0))) + 0) := hok.2 _ (List.mem_of_getElem? (i := 0) rfl)
  have f1 : 0 ≤ ((1 * r 3 + ((-1) * r 4 + 0)) + (-1)) := hok.2 _ (List.mem_of_getElem? (i := 1) rfl)
  have f2 : 0 ≤ (((-1) * r 3 + (1 * r 2 + 0)) + 0) := hok.2 _ (List.mem_of_getElem? (i := 2) rfl)
  have hG : Nat.gcd (((1 * (r 2) + 0) + 0)).toNat (((1 * (r 3) + 0) + 0)).toNat = Nat.gcd ((r 0)).natAbs ((r 1)).natAbs := hG
  obtain ⟨h0, hh, e0, k0⟩ := hh
  have k0 : ∀ j, j ∉ [] → g j = h0 j := k0
  have e0 : ((1 * r 4 + 0) + 0) = (((1 * r 2 + 0) + 0)).tmod (((1 * r 3 + 0) + 0)) := e0
  have hh : h0 = gi := hh
  subst hh
  have hG : Nat.gcd (((1 * (r 2) + 0) + 0)).toNat (((1 * (r 3) + 0) + 0)).toNat = Nat.gcd ((r 0)).natAbs ((r 1)).natAbs := hG
  refine yt_dcut (by decide) rfl ?_ ?_
  · exact fun f hf => absurd hf List.not_mem_nil
  · rw [show xk_1083.2.1.2.1.1.length = 2 from rfl]
    show Nat.gcd (((1 * ((1 * r 3 + 0) + 0) + 0) + 0)).toNat (((1 * ((1 * r 4 + 0) + 0) + 0) + 0)).toNat = Nat.gcd (((1 * r 0 + 0) + 0)).natAbs (((1 * r 1 + 0) + 0)).natAbs
    try simp only [Int.one_mul, Int.zero_add, Int.add_zero]
    first
      | done
      | (have hg : Nat.gcd (r 2).toNat (r 3).toNat = Nat.gcd (r 0).natAbs (r 1).natAbs := by
           first
             | rfl
             | (try simp only [Int.one_mul, Int.zero_add, Int.add_zero] at hG
                exact hG)
         try simp only [Int.one_mul, Int.zero_add, Int.add_zero] at e0
         have em2 : (r 4).toNat = (r 2).toNat % (r 3).toNat := by
           have em := e0
           rw [yy_tm (by omega) (by omega)] at em
           omega
         exact (congrArg (Nat.gcd (r 3).toNat) em2).trans ((yy_gs _ _).trans hg))
theorem xn_1083 : ∀ (j : Nat) (q : Nat × yt_T), xq_1083.2.2.1[j]? = some q → q.2.2.2 = false → ∀ g0 r g, xG_1083 j g0 r g
  | 0, q, hq, hf => by cases hq; cases hf
  | 1, q, hq, hf => by cases hq; cases hf
  | n + 2, q, hq, _ => by cases hq
theorem xs_1083 : ∀ j, xq_1083.2.2.2.getD j false = false → ∀ r g g', xP_1083 j r g g'
  | 0, hf => by cases hf
  | n + 1, _ => fun _ _ _ => trivial
theorem xc_1083 {l : Launch} {D : va_G} {cT : Nat → ClassId} {tys : List (ClassId × FieldType)} (hty : yx_Ty tys cT) : yt_Con l D vwCl cT tys yG yw_s2 xk_1083 xR_1083 xP_1083 := yx_sem (calls := xa_1083) (Z := xq_1083) (tb := xT_1083) (pt := xU_1083) (Ga := xG_1083) (vs := xv_1083) (fun _ _ _ h => h) 300 (by decide +kernel) yz_X12_divisor_ok hty (yl_lkX12 _) (yl_cqkX12 _) (fun _ h => absurd h List.not_mem_nil) (xn_1083) (xs_1083) (by decide +kernel) (List.forall_mem_cons.mpr ⟨xw_1083_0_0, List.forall_mem_cons.mpr ⟨xw_1083_0_1, fun _ h => absurd h List.not_mem_nil⟩⟩) (⟨List.forall_mem_cons.mpr ⟨xw_1083_1_0, List.forall_mem_cons.mpr ⟨xw_1083_1_1, List.forall_mem_cons.mpr ⟨xw_1083_1_2, fun _ h => absurd h List.not_mem_nil⟩⟩⟩, ⟨List.forall_mem_cons.mpr ⟨xw_1083_2_0, List.forall_mem_cons.mpr ⟨xw_1083_2_1, fun _ h => absurd h List.not_mem_nil⟩⟩, trivial⟩⟩)
noncomputable def xf_1084 : ys_F := (yw_f2 2, yw_r2)
noncomputable def xk_1084 : ys_K := (((yX12_divisor, cX12_divisor, 10, (some .long)), (0, 0)), ([.inl (.inr ([(0, 1)], 0)), .inl (.inr ([(1, 1)], 0))], ([((-4611686018427387904), (-1)), ((-4611686018427387904), 4611686018427387904)] ++ yw_e2, []), xf_1084), ([([(1, 4611686018427387904)], [], (xf_1084.1, xf_1084.2), some (.inl (.inr ([(2, 1)], 0))))], []))
noncomputable def xq_1084 : yt_Q := (yz_X12_divisor, (yl_flX12, yl_ciX12, yl_cjX12, yl_cpX12, yl_cqX12), [(28, ([(1, 4611686018427387904), (0, 4611686018427387904)], [], (xf_1084.1, xf_1084.2), [(4, .inl (.inr ([(2, 1)], 0))), (6, .inl (.inr ([(3, 1)], 0)))], [], ([(3, 1)], 0)), [], true), (28, ([(0, 4611686018427387904), (1, 4611686018427387904)], [], (xf_1084.1, xf_1084.2), [(4, .inl (.inr ([(2, 1)], 0))), (6, .inl (.inr ([(3, 1)], 0)))], [], ([(3, 1)], 0)), [], true)], [true])
noncomputable def xa_1084 : List yt_CE := []
noncomputable def xv_1084 : List (List yt_VC) := [[(0, ([((-4611686018427387904), (-1)), (0, 4611686018427387904)], []), [([(0, (-1))], 0), ([(1, 1)], 0)], [], []),
   (0, ([((-4611686018427387904), (-1)), ((-4611686018427387904), (-1))], []), [([(0, (-1))], 0), ([(1, (-1))], 0)], [], [])],
  [(1000, ([((-4611686018427387904), (-1)), ((-4611686018427387904), 4611686018427387904), (1, 4611686018427387904), (0, 0)], []), [([(2, 1)], 0)], [], []),
   (0, ([((-4611686018427387904), (-1)), ((-4611686018427387904), 4611686018427387904), (1, 4611686018427387903), (2, 4611686018427387904), (0, 0)], [([(3, 1), (2, (-1))], (-1))]), [([(3, 1)], 0), ([(2, 1)], 0)], [], [.inr (.inr (.inl (998, 16, [([(2, 1)], 0), ([(3, 1)], 0), ([(2, 1)], 0)], [], [])))]),
   (0, ([((-4611686018427387904), (-1)), ((-4611686018427387904), 4611686018427387904), (1, 4611686018427387904), (1, 4611686018427387904), (0, 4611686018427387903)], [([(4, (-1)), (2, 1), (3, (-1))], 0), ([(3, 1), (4, (-1))], (-1)), ([(3, (-1)), (2, 1)], 0)]), [([(3, 1)], 0), ([(4, 1)], 0)], [], [.inr (.inr (.inl (998, 16, [([(2, 1)], 0), ([(3, 1)], 0), ([(4, 1)], 0)], [], [])))])],
  [(0, ([((-4611686018427387904), (-1)), ((-4611686018427387904), 4611686018427387904), (0, 4611686018427387903), (1, 4611686018427387904), (0, 0)], [([(3, 1), (2, (-1))], (-1))]), [([(3, 1)], 0), ([(2, 1)], 0)], [], [.inr (.inr (.inl (998, 16, [([(2, 1)], 0), ([(3, 1)], 0), ([(2, 1)], 0)], [], [])))]),
   (0, ([((-4611686018427387904), (-1)), ((-4611686018427387904), 4611686018427387904), (1, 4611686018427387904), (1, 4611686018427387904), (0, 4611686018427387903)], [([(4, (-1)), (2, 1), (3, (-1))], 0), ([(3, 1), (4, (-1))], (-1)), ([(3, (-1)), (2, 1)], 0)]), [([(3, 1)], 0), ([(4, 1)], 0)], [], [.inr (.inr (.inl (998, 16, [([(2, 1)], 0), ([(3, 1)], 0), ([(4, 1)], 0)], [], [])))])]]
noncomputable def xG_1084 : Nat → yt_G → (Nat → Int) → yt_G → Prop
  | 0, g0, r, g => Nat.gcd (((1 * (r 2) + 0) + 0)).toNat (((1 * (r 3) + 0) + 0)).toNat = Nat.gcd ((r 0)).natAbs ((r 1)).natAbs
  | 1, g0, r, g => Nat.gcd (((1 * (r 2) + 0) + 0)).toNat (((1 * (r 3) + 0) + 0)).toNat = Nat.gcd ((r 0)).natAbs ((r 1)).natAbs
  | _, _, _, _ => True
noncomputable def xP_1084 : yt_Ph
  | 0, r, g0, g => (r 2) = ((Nat.gcd ((r 0)).natAbs ((r 1)).natAbs : Nat) : Int)
  | _, _, _, _ => True
noncomputable def xR_1084 : yt_Ps := fun r g0 => True
noncomputable def xT_1084 : yt_Tb := fun d => match d with
  | 998 => fun i r _ _ => yt_hwp i r
  | _ => fun _ _ _ _ => True
noncomputable def xU_1084 : Nat → yt_Ps := fun d => match d with
  | _ => fun _ _ => True
theorem xw_1084_0_0 : yt_hold xT_1084 xk_1084 xq_1084.2.2.1 xG_1084 xP_1084 xU_1084 2 xk_1084.2.1.2.2.2 (fun g0 r g => xR_1084 r g0 ∧ g = g0) (0, ([((-4611686018427387904), (-1)), (0, 4611686018427387904)], []), [([(0, (-1))], 0), ([(1, 1)], 0)], [], []) := by
  intro g0 r gi g hok hh hars hfr hG
  have b0 : (-4611686018427387904) ≤ r 0 ∧ r 0 ≤ (-1) := hok.1 0 ((-4611686018427387904), (-1)) rfl
  have b1 : 0 ≤ r 1 ∧ r 1 ≤ 4611686018427387904 := hok.1 1 (0, 4611686018427387904) rfl
  obtain ⟨hG, hgi⟩ := hG
  have hG : True := hG
  have hh : g = gi := hh
  subst hh
  refine yt_dcut (by decide) rfl ?_ ?_
  · exact fun f hf => absurd hf List.not_mem_nil
  · rw [show xk_1084.2.1.2.1.1.length = 2 from rfl]
    show Nat.gcd (((1 * (((-1) * r 0 + 0) + 0) + 0) + 0)).toNat (((1 * ((1 * r 1 + 0) + 0) + 0) + 0)).toNat = Nat.gcd (((1 * r 0 + 0) + 0)).natAbs (((1 * r 1 + 0) + 0)).natAbs
    try simp only [Int.one_mul, Int.zero_add, Int.add_zero]
    exact congr (congrArg Nat.gcd (by omega)) (by omega)
theorem xw_1084_0_1 : yt_hold xT_1084 xk_1084 xq_1084.2.2.1 xG_1084 xP_1084 xU_1084 2 xk_1084.2.1.2.2.2 (fun g0 r g => xR_1084 r g0 ∧ g = g0) (0, ([((-4611686018427387904), (-1)), ((-4611686018427387904), (-1))], []), [([(0, (-1))], 0), ([(1, (-1))], 0)], [], []) := by
  intro g0 r gi g hok hh hars hfr hG
  have b0 : (-4611686018427387904) ≤ r 0 ∧ r 0 ≤ (-1) := hok.1 0 ((-4611686018427387904), (-1)) rfl
  have b1 : (-4611686018427387904) ≤ r 1 ∧ r 1 ≤ (-1) := hok.1 1 ((-4611686018427387904), (-1)) rfl
  obtain ⟨hG, hgi⟩ := hG
  have hG : True := hG
  have hh : g = gi := hh
  subst hh
  refine yt_dcut (by decide) rfl ?_ ?_
  · exact fun f hf => absurd hf List.not_mem_nil
  · rw [show xk_1084.2.1.2.1.1.length = 2 from rfl]
    show Nat.gcd (((1 * (((-1) * r 0 + 0) + 0) + 0) + 0)).toNat (((1 * (((-1) * r 1 + 0) + 0) + 0) + 0)).toNat = Nat.gcd (((1 * r 0 + 0) + 0)).natAbs (((1 * r 1 + 0) + 0)).natAbs
    try simp only [Int.one_mul, Int.zero_add, Int.add_zero]
    exact congr (congrArg Nat.gcd (by omega)) (by omega)
theorem xw_1084_1_0 : yt_hold xT_1084 xk_1084 xq_1084.2.2.1 xG_1084 xP_1084 xU_1084 4 ((xq_1084.2.2.1.getD 0 (0, ([], [], ([], []), [], [], ([], 0)), [], false)).2.1.2.2.1.2) (xG_1084 0) (1000, ([((-4611686018427387904), (-1)), ((-4611686018427387904), 4611686018427387904), (1, 4611686018427387904), (0, 0)], []), [([(2, 1)], 0)], [], []) := by
  intro g0 r gi g hok hh hars hfr hG
  have b0 : (-4611686018427387904) ≤ r 0 ∧ r 0 ≤ (-1) := hok.1 0 ((-4611686018427387904), (-1)) rfl
  have b1 : (-4611686018427387904) ≤ r 1 ∧ r 1 ≤ 4611686018427387904 := hok.1 1 ((-4611686018427387904), 4611686018427387904) rfl
  have b2 : 1 ≤ r 2 ∧ r 2 ≤ 4611686018427387904 := hok.1 2 (1, 4611686018427387904) rfl
  have b3 : 0 ≤ r 3 ∧ r 3 ≤ 0 := hok.1 3 (0, 0) rfl
  have hG : Nat.gcd (((1 * (r 2) + 0) + 0)).toNat (((1 * (r 3) + 0) + 0)).toNat = Nat.gcd ((r 0)).natAbs ((r 1)).natAbs := hG
  have hh : g = gi := hh
  subst hh
  have hG : Nat.gcd (((1 * (r 2) + 0) + 0)).toNat (((1 * (r 3) + 0) + 0)).toNat = Nat.gcd ((r 0)).natAbs ((r 1)).natAbs := hG
  refine yt_dalt (by decide) (by decide) ?_
  rw [show xk_1084.2.1.2.1.1.length = 2 from rfl]
  show ((1 * r 2 + 0) + 0) = ((Nat.gcd (((1 * r 0 + 0) + 0)).natAbs (((1 * r 1 + 0) + 0)).natAbs : Nat) : Int)
  try simp only [Int.one_mul, Int.zero_add, Int.add_zero]
  have hg : Nat.gcd (r 2).toNat (r 3).toNat = Nat.gcd (r 0).natAbs (r 1).natAbs := by
    first
      | rfl
      | (try simp only [Int.one_mul, Int.zero_add, Int.add_zero] at hG
         exact hG)
  rw [← hg, show (r 3).toNat = 0 by omega, Nat.gcd_zero_right]
  omega
theorem xw_1084_1_1 : yt_hold xT_1084 xk_1084 xq_1084.2.2.1 xG_1084 xP_1084 xU_1084 4 ((xq_1084.2.2.1.getD 0 (0, ([], [], ([], []), [], [], ([], 0)), [], false)).2.1.2.2.1.2) (xG_1084 0) (0, ([((-4611686018427387904), (-1)), ((-4611686018427387904), 4611686018427387904), (1, 4611686018427387903), (2, 4611686018427387904), (0, 0)], [([(3, 1), (2, (-1))], (-1))]), [([(3, 1)], 0), ([(2, 1)], 0)], [], [.inr (.inr (.inl (998, 16, [([(2, 1)], 0), ([(3, 1)], 0), ([(2, 1)], 0)], [], [])))]) := by
  intro g0 r gi g hok hh hars hfr hG
  have b0 : (-4611686018427387904) ≤ r 0 ∧ r 0 ≤ (-1) := hok.1 0 ((-4611686018427387904), (-1)) rfl
  have b1 : (-4611686018427387904) ≤ r 1 ∧ r 1 ≤ 4611686018427387904 := hok.1 1 ((-4611686018427387904), 4611686018427387904) rfl
  have b2 : 1 ≤ r 2 ∧ r 2 ≤ 4611686018427387903 := hok.1 2 (1, 4611686018427387903) rfl
  have b3 : 2 ≤ r 3 ∧ r 3 ≤ 4611686018427387904 := hok.1 3 (2, 4611686018427387904) rfl
  have b4 : 0 ≤ r 4 ∧ r 4 ≤ 0 := hok.1 4 (0, 0) rfl
  have f0 : 0 ≤ ((1 * r 3 + ((-1) * r 2 + 0)) + (-1)) := hok.2 _ (List.mem_of_getElem? (i := 0) rfl)
  have hG : Nat.gcd (((1 * (r 2) + 0) + 0)).toNat (((1 * (r 3) + 0) + 0)).toNat = Nat.gcd ((r 0)).natAbs ((r 1)).natAbs := hG
  obtain ⟨h0, hh, e0, k0⟩ := hh
  have k0 : ∀ j, j ∉ [] → g j = h0 j := k0
  have e0 : ((1 * r 2 + 0) + 0) = (((1 * r 2 + 0) + 0)).tmod (((1 * r 3 + 0) + 0)) := e0
  have hh : h0 = gi := hh
  subst hh
  have hG : Nat.gcd (((1 * (r 2) + 0) + 0)).toNat (((1 * (r 3) + 0) + 0)).toNat = Nat.gcd ((r 0)).natAbs ((r 1)).natAbs := hG
  refine yt_dcut (by decide) rfl ?_ ?_
  · exact fun f hf => absurd hf List.not_mem_nil
  · rw [show xk_1084.2.1.2.1.1.length = 2 from rfl]
    show Nat.gcd (((1 * ((1 * r 3 + 0) + 0) + 0) + 0)).toNat (((1 * ((1 * r 2 + 0) + 0) + 0) + 0)).toNat = Nat.gcd (((1 * r 0 + 0) + 0)).natAbs (((1 * r 1 + 0) + 0)).natAbs
    try simp only [Int.one_mul, Int.zero_add, Int.add_zero]
    first
      | done
      | (have hg : Nat.gcd (r 2).toNat (r 3).toNat = Nat.gcd (r 0).natAbs (r 1).natAbs := by
           first
             | rfl
             | (try simp only [Int.one_mul, Int.zero_add, Int.add_zero] at hG
                exact hG)
         try simp only [Int.one_mul, Int.zero_add, Int.add_zero] at e0
         have em2 : (r 2).toNat = (r 2).toNat % (r 3).toNat := by
           have em := e0
           rw [yy_tm (by omega) (by omega)] at em
           omega
         exact (congrArg (Nat.gcd (r 3).toNat) em2).trans ((yy_gs _ _).trans hg))
theorem xw_1084_1_2 : yt_hold xT_1084 xk_1084 xq_1084.2.2.1 xG_1084 xP_1084 xU_1084 4 ((xq_1084.2.2.1.getD 0 (0, ([], [], ([], []), [], [], ([], 0)), [], false)).2.1.2.2.1.2) (xG_1084 0) (0, ([((-4611686018427387904), (-1)), ((-4611686018427387904), 4611686018427387904), (1, 4611686018427387904), (1, 4611686018427387904), (0, 4611686018427387903)], [([(4, (-1)), (2, 1), (3, (-1))], 0), ([(3, 1), (4, (-1))], (-1)), ([(3, (-1)), (2, 1)], 0)]), [([(3, 1)], 0), ([(4, 1)], 0)], [], [.inr (.inr (.inl (998, 16, [([(2, 1)], 0), ([(3, 1)], 0), ([(4, 1)], 0)], [], [])))]) := by
  intro g0 r gi g hok hh hars hfr hG
  have b0 : (-4611686018427387904) ≤ r 0 ∧ r 0 ≤ (-1) := hok.1 0 ((-4611686018427387904), (-1)) rfl
  have b1 : (-4611686018427387904) ≤ r 1 ∧ r 1 ≤ 4611686018427387904 := hok.1 1 ((-4611686018427387904), 4611686018427387904) rfl
  have b2 : 1 ≤ r 2 ∧ r 2 ≤ 4611686018427387904 := hok.1 2 (1, 4611686018427387904) rfl
  have b3 : 1 ≤ r 3 ∧ r 3 ≤ 4611686018427387904 := hok.1 3 (1, 4611686018427387904) rfl
  have b4 : 0 ≤ r 4 ∧ r 4 ≤ 4611686018427387903 := hok.1 4 (0, 4611686018427387903) rfl
  have f0 : 0 ≤ (((-1) * r 4 + (1 * r 2 + ((-1) * r 3 + 0))) + 0) := hok.2 _ (List.mem_of_getElem? (i := 0) rfl)
  have f1 : 0 ≤ ((1 * r 3 + ((-1) * r 4 + 0)) + (-1)) := hok.2 _ (List.mem_of_getElem? (i := 1) rfl)
  have f2 : 0 ≤ (((-1) * r 3 + (1 * r 2 + 0)) + 0) := hok.2 _ (List.mem_of_getElem? (i := 2) rfl)
  have hG : Nat.gcd (((1 * (r 2) + 0) + 0)).toNat (((1 * (r 3) + 0) + 0)).toNat = Nat.gcd ((r 0)).natAbs ((r 1)).natAbs := hG
  obtain ⟨h0, hh, e0, k0⟩ := hh
  have k0 : ∀ j, j ∉ [] → g j = h0 j := k0
  have e0 : ((1 * r 4 + 0) + 0) = (((1 * r 2 + 0) + 0)).tmod (((1 * r 3 + 0) + 0)) := e0
  have hh : h0 = gi := hh
  subst hh
  have hG : Nat.gcd (((1 * (r 2) + 0) + 0)).toNat (((1 * (r 3) + 0) + 0)).toNat = Nat.gcd ((r 0)).natAbs ((r 1)).natAbs := hG
  refine yt_dcut (by decide) rfl ?_ ?_
  · exact fun f hf => absurd hf List.not_mem_nil
  · rw [show xk_1084.2.1.2.1.1.length = 2 from rfl]
    show Nat.gcd (((1 * ((1 * r 3 + 0) + 0) + 0) + 0)).toNat (((1 * ((1 * r 4 + 0) + 0) + 0) + 0)).toNat = Nat.gcd (((1 * r 0 + 0) + 0)).natAbs (((1 * r 1 + 0) + 0)).natAbs
    try simp only [Int.one_mul, Int.zero_add, Int.add_zero]
    first
      | done
      | (have hg : Nat.gcd (r 2).toNat (r 3).toNat = Nat.gcd (r 0).natAbs (r 1).natAbs := by
           first
             | rfl
             | (try simp only [Int.one_mul, Int.zero_add, Int.add_zero] at hG
                exact hG)
         try simp only [Int.one_mul, Int.zero_add, Int.add_zero] at e0
         have em2 : (r 4).toNat = (r 2).toNat % (r 3).toNat := by
           have em := e0
           rw [yy_tm (by omega) (by omega)] at em
           omega
         exact (congrArg (Nat.gcd (r 3).toNat) em2).trans ((yy_gs _ _).trans hg))
theorem xw_1084_2_0 : yt_hold xT_1084 xk_1084 xq_1084.2.2.1 xG_1084 xP_1084 xU_1084 4 ((xq_1084.2.2.1.getD 1 (0, ([], [], ([], []), [], [], ([], 0)), [], false)).2.1.2.2.1.2) (xG_1084 1) (0, ([((-4611686018427387904), (-1)), ((-4611686018427387904), 4611686018427387904), (0, 4611686018427387903), (1, 4611686018427387904), (0, 0)], [([(3, 1), (2, (-1))], (-1))]), [([(3, 1)], 0), ([(2, 1)], 0)], [], [.inr (.inr (.inl (998, 16, [([(2, 1)], 0), ([(3, 1)], 0), ([(2, 1)], 0)], [], [])))]) := by
  intro g0 r gi g hok hh hars hfr hG
  have b0 : (-4611686018427387904) ≤ r 0 ∧ r 0 ≤ (-1) := hok.1 0 ((-4611686018427387904), (-1)) rfl
  have b1 : (-4611686018427387904) ≤ r 1 ∧ r 1 ≤ 4611686018427387904 := hok.1 1 ((-4611686018427387904), 4611686018427387904) rfl
  have b2 : 0 ≤ r 2 ∧ r 2 ≤ 4611686018427387903 := hok.1 2 (0, 4611686018427387903) rfl
  have b3 : 1 ≤ r 3 ∧ r 3 ≤ 4611686018427387904 := hok.1 3 (1, 4611686018427387904) rfl
  have b4 : 0 ≤ r 4 ∧ r 4 ≤ 0 := hok.1 4 (0, 0) rfl
  have f0 : 0 ≤ ((1 * r 3 + ((-1) * r 2 + 0)) + (-1)) := hok.2 _ (List.mem_of_getElem? (i := 0) rfl)
  have hG : Nat.gcd (((1 * (r 2) + 0) + 0)).toNat (((1 * (r 3) + 0) + 0)).toNat = Nat.gcd ((r 0)).natAbs ((r 1)).natAbs := hG
  obtain ⟨h0, hh, e0, k0⟩ := hh
  have k0 : ∀ j, j ∉ [] → g j = h0 j := k0
  have e0 : ((1 * r 2 + 0) + 0) = (((1 * r 2 + 0) + 0)).tmod (((1 * r 3 + 0) + 0)) := e0
  have hh : h0 = gi := hh
  subst hh
  have hG : Nat.gcd (((1 * (r 2) + 0) + 0)).toNat (((1 * (r 3) + 0) + 0)).toNat = Nat.gcd ((r 0)).natAbs ((r 1)).natAbs := hG
  refine yt_dcut (by decide) rfl ?_ ?_
  · exact fun f hf => absurd hf List.not_mem_nil
  · rw [show xk_1084.2.1.2.1.1.length = 2 from rfl]
    show Nat.gcd (((1 * ((1 * r 3 + 0) + 0) + 0) + 0)).toNat (((1 * ((1 * r 2 + 0) + 0) + 0) + 0)).toNat = Nat.gcd (((1 * r 0 + 0) + 0)).natAbs (((1 * r 1 + 0) + 0)).natAbs
    try simp only [Int.one_mul, Int.zero_add, Int.add_zero]
    first
      | done
      | (have hg : Nat.gcd (r 2).toNat (r 3).toNat = Nat.gcd (r 0).natAbs (r 1).natAbs := by
           first
             | rfl
             | (try simp only [Int.one_mul, Int.zero_add, Int.add_zero] at hG
                exact hG)
         try simp only [Int.one_mul, Int.zero_add, Int.add_zero] at e0
         have em2 : (r 2).toNat = (r 2).toNat % (r 3).toNat := by
           have em := e0
           rw [yy_tm (by omega) (by omega)] at em
           omega
         exact (congrArg (Nat.gcd (r 3).toNat) em2).trans ((yy_gs _ _).trans hg))
theorem xw_1084_2_1 : yt_hold xT_1084 xk_1084 xq_1084.2.2.1 xG_1084 xP_1084 xU_1084 4 ((xq_1084.2.2.1.getD 1 (0, ([], [], ([], []), [], [], ([], 0)), [], false)).2.1.2.2.1.2) (xG_1084 1) (0, ([((-4611686018427387904), (-1)), ((-4611686018427387904), 4611686018427387904), (1, 4611686018427387904), (1, 4611686018427387904), (0, 4611686018427387903)], [([(4, (-1)), (2, 1), (3, (-1))], 0), ([(3, 1), (4, (-1))], (-1)), ([(3, (-1)), (2, 1)], 0)]), [([(3, 1)], 0), ([(4, 1)], 0)], [], [.inr (.inr (.inl (998, 16, [([(2, 1)], 0), ([(3, 1)], 0), ([(4, 1)], 0)], [], [])))]) := by
  intro g0 r gi g hok hh hars hfr hG
  have b0 : (-4611686018427387904) ≤ r 0 ∧ r 0 ≤ (-1) := hok.1 0 ((-4611686018427387904), (-1)) rfl
  have b1 : (-4611686018427387904) ≤ r 1 ∧ r 1 ≤ 4611686018427387904 := hok.1 1 ((-4611686018427387904), 4611686018427387904) rfl
  have b2 : 1 ≤ r 2 ∧ r 2 ≤ 4611686018427387904 := hok.1 2 (1, 4611686018427387904) rfl
  have b3 : 1 ≤ r 3 ∧ r 3 ≤ 4611686018427387904 := hok.1 3 (1, 4611686018427387904) rfl
  have b4 : 0 ≤ r 4 ∧ r 4 ≤ 4611686018427387903 := hok.1 4 (0, 4611686018427387903) rfl
  have f0 : 0 ≤ (((-1) * r 4 + (1 * r 2 + ((-1) * r 3 + 0))) + 0) := hok.2 _ (List.mem_of_getElem? (i := 0) rfl)
  have f1 : 0 ≤ ((1 * r 3 + ((-1) * r 4 + 0)) + (-1)) := hok.2 _ (List.mem_of_getElem? (i := 1) rfl)
  have f2 : 0 ≤ (((-1) * r 3 + (1 * r 2 + 0)) + 0) := hok.2 _ (List.mem_of_getElem? (i := 2) rfl)
  have hG : Nat.gcd (((1 * (r 2) + 0) + 0)).toNat (((1 * (r 3) + 0) + 0)).toNat = Nat.gcd ((r 0)).natAbs ((r 1)).natAbs := hG
  obtain ⟨h0, hh, e0, k0⟩ := hh
  have k0 : ∀ j, j ∉ [] → g j = h0 j := k0
  have e0 : ((1 * r 4 + 0) + 0) = (((1 * r 2 + 0) + 0)).tmod (((1 * r 3 + 0) + 0)) := e0
  have hh : h0 = gi := hh
  subst hh
  have hG : Nat.gcd (((1 * (r 2) + 0) + 0)).toNat (((1 * (r 3) + 0) + 0)).toNat = Nat.gcd ((r 0)).natAbs ((r 1)).natAbs := hG
  refine yt_dcut (by decide) rfl ?_ ?_
  · exact fun f hf => absurd hf List.not_mem_nil
  · rw [show xk_1084.2.1.2.1.1.length = 2 from rfl]
    show Nat.gcd (((1 * ((1 * r 3 + 0) + 0) + 0) + 0)).toNat (((1 * ((1 * r 4 + 0) + 0) + 0) + 0)).toNat = Nat.gcd (((1 * r 0 + 0) + 0)).natAbs (((1 * r 1 + 0) + 0)).natAbs
    try simp only [Int.one_mul, Int.zero_add, Int.add_zero]
    first
      | done
      | (have hg : Nat.gcd (r 2).toNat (r 3).toNat = Nat.gcd (r 0).natAbs (r 1).natAbs := by
           first
             | rfl
             | (try simp only [Int.one_mul, Int.zero_add, Int.add_zero] at hG
                exact hG)
         try simp only [Int.one_mul, Int.zero_add, Int.add_zero] at e0
         have em2 : (r 4).toNat = (r 2).toNat % (r 3).toNat := by
           have em := e0
           rw [yy_tm (by omega) (by omega)] at em
           omega
         exact (congrArg (Nat.gcd (r 3).toNat) em2).trans ((yy_gs _ _).trans hg))
theorem xn_1084 : ∀ (j : Nat) (q : Nat × yt_T), xq_1084.2.2.1[j]? = some q → q.2.2.2 = false → ∀ g0 r g, xG_1084 j g0 r g
  | 0, q, hq, hf => by cases hq; cases hf
  | 1, q, hq, hf => by cases hq; cases hf
  | n + 2, q, hq, _ => by cases hq
theorem xs_1084 : ∀ j, xq_1084.2.2.2.getD j false = false → ∀ r g g', xP_1084 j r g g'
  | 0, hf => by cases hf
  | n + 1, _ => fun _ _ _ => trivial
theorem xc_1084 {l : Launch} {D : va_G} {cT : Nat → ClassId} {tys : List (ClassId × FieldType)} (hty : yx_Ty tys cT) : yt_Con l D vwCl cT tys yG yw_s2 xk_1084 xR_1084 xP_1084 := yx_sem (calls := xa_1084) (Z := xq_1084) (tb := xT_1084) (pt := xU_1084) (Ga := xG_1084) (vs := xv_1084) (fun _ _ _ h => h) 300 (by decide +kernel) yz_X12_divisor_ok hty (yl_lkX12 _) (yl_cqkX12 _) (fun _ h => absurd h List.not_mem_nil) (xn_1084) (xs_1084) (by decide +kernel) (List.forall_mem_cons.mpr ⟨xw_1084_0_0, List.forall_mem_cons.mpr ⟨xw_1084_0_1, fun _ h => absurd h List.not_mem_nil⟩⟩) (⟨List.forall_mem_cons.mpr ⟨xw_1084_1_0, List.forall_mem_cons.mpr ⟨xw_1084_1_1, List.forall_mem_cons.mpr ⟨xw_1084_1_2, fun _ h => absurd h List.not_mem_nil⟩⟩⟩, ⟨List.forall_mem_cons.mpr ⟨xw_1084_2_0, List.forall_mem_cons.mpr ⟨xw_1084_2_1, fun _ h => absurd h List.not_mem_nil⟩⟩, trivial⟩⟩)
noncomputable def xf_1085 : ys_F := (yw_f2 2, yw_r2)
noncomputable def xk_1085 : ys_K := (((yX12_divisor, cX12_divisor, 10, (some .long)), (0, 0)), ([.inl (.inr ([(0, 1)], 0)), .inl (.inr ([(1, 1)], 0))], ([((-4611686018427387904), 4611686018427387904), ((-4611686018427387904), (-1))] ++ yw_e2, []), xf_1085), ([([(1, 4611686018427387904)], [], (xf_1085.1, xf_1085.2), some (.inl (.inr ([(2, 1)], 0))))], []))
noncomputable def xq_1085 : yt_Q := (yz_X12_divisor, (yl_flX12, yl_ciX12, yl_cjX12, yl_cpX12, yl_cqX12), [(28, ([(1, 4611686018427387904), (0, 4611686018427387904)], [], (xf_1085.1, xf_1085.2), [(4, .inl (.inr ([(2, 1)], 0))), (6, .inl (.inr ([(3, 1)], 0)))], [], ([(3, 1)], 0)), [], true), (28, ([(0, 4611686018427387904), (1, 4611686018427387904)], [], (xf_1085.1, xf_1085.2), [(4, .inl (.inr ([(2, 1)], 0))), (6, .inl (.inr ([(3, 1)], 0)))], [], ([(3, 1)], 0)), [], true)], [true])
noncomputable def xa_1085 : List yt_CE := []
noncomputable def xv_1085 : List (List yt_VC) := [[(1, ([(0, 4611686018427387904), ((-4611686018427387904), (-1))], []), [([(0, 1)], 0), ([(1, (-1))], 0)], [], []),
   (0, ([((-4611686018427387904), (-1)), ((-4611686018427387904), (-1))], []), [([(0, (-1))], 0), ([(1, (-1))], 0)], [], [])],
  [(1000, ([((-4611686018427387904), 4611686018427387904), ((-4611686018427387904), (-1)), (1, 4611686018427387904), (0, 0)], []), [([(2, 1)], 0)], [], []),
   (0, ([((-4611686018427387904), 4611686018427387904), ((-4611686018427387904), (-1)), (1, 4611686018427387903), (2, 4611686018427387904), (0, 0)], [([(3, 1), (2, (-1))], (-1))]), [([(3, 1)], 0), ([(2, 1)], 0)], [], [.inr (.inr (.inl (998, 16, [([(2, 1)], 0), ([(3, 1)], 0), ([(2, 1)], 0)], [], [])))]),
   (0, ([((-4611686018427387904), 4611686018427387904), ((-4611686018427387904), (-1)), (1, 4611686018427387904), (1, 4611686018427387904), (0, 4611686018427387903)], [([(4, (-1)), (2, 1), (3, (-1))], 0), ([(3, 1), (4, (-1))], (-1)), ([(3, (-1)), (2, 1)], 0)]), [([(3, 1)], 0), ([(4, 1)], 0)], [], [.inr (.inr (.inl (998, 16, [([(2, 1)], 0), ([(3, 1)], 0), ([(4, 1)], 0)], [], [])))])],
  [(0, ([((-4611686018427387904), 4611686018427387904), ((-4611686018427387904), (-1)), (0, 4611686018427387903), (1, 4611686018427387904), (0, 0)], [([(3, 1), (2, (-1))], (-1))]), [([(3, 1)], 0), ([(2, 1)], 0)], [], [.inr (.inr (.inl (998, 16, [([(2, 1)], 0), ([(3, 1)], 0), ([(2, 1)], 0)], [], [])))]),
   (0, ([((-4611686018427387904), 4611686018427387904), ((-4611686018427387904), (-1)), (1, 4611686018427387904), (1, 4611686018427387904), (0, 4611686018427387903)], [([(4, (-1)), (2, 1), (3, (-1))], 0), ([(3, 1), (4, (-1))], (-1)), ([(3, (-1)), (2, 1)], 0)]), [([(3, 1)], 0), ([(4, 1)], 0)], [], [.inr (.inr (.inl (998, 16, [([(2, 1)], 0), ([(3, 1)], 0), ([(4, 1)], 0)], [], [])))])]]
noncomputable def xG_1085 : Nat → yt_G → (Nat → Int) → yt_G → Prop
  | 0, g0, r, g => Nat.gcd (((1 * (r 2) + 0) + 0)).toNat (((1 * (r 3) + 0) + 0)).toNat = Nat.gcd ((r 0)).natAbs ((r 1)).natAbs
  | 1, g0, r, g => Nat.gcd (((1 * (r 2) + 0) + 0)).toNat (((1 * (r 3) + 0) + 0)).toNat = Nat.gcd ((r 0)).natAbs ((r 1)).natAbs
  | _, _, _, _ => True
noncomputable def xP_1085 : yt_Ph
  | 0, r, g0, g => (r 2) = ((Nat.gcd ((r 0)).natAbs ((r 1)).natAbs : Nat) : Int)
  | _, _, _, _ => True
noncomputable def xR_1085 : yt_Ps := fun r g0 => True
noncomputable def xT_1085 : yt_Tb := fun d => match d with
  | 998 => fun i r _ _ => yt_hwp i r
  | _ => fun _ _ _ _ => True
noncomputable def xU_1085 : Nat → yt_Ps := fun d => match d with
  | _ => fun _ _ => True
theorem xw_1085_0_0 : yt_hold xT_1085 xk_1085 xq_1085.2.2.1 xG_1085 xP_1085 xU_1085 2 xk_1085.2.1.2.2.2 (fun g0 r g => xR_1085 r g0 ∧ g = g0) (1, ([(0, 4611686018427387904), ((-4611686018427387904), (-1))], []), [([(0, 1)], 0), ([(1, (-1))], 0)], [], []) := by
  intro g0 r gi g hok hh hars hfr hG
  have b0 : 0 ≤ r 0 ∧ r 0 ≤ 4611686018427387904 := hok.1 0 (0, 4611686018427387904) rfl
  have b1 : (-4611686018427387904) ≤ r 1 ∧ r 1 ≤ (-1) := hok.1 1 ((-4611686018427387904), (-1)) rfl
  obtain ⟨hG, hgi⟩ := hG
  have hG : True := hG
  have hh : g = gi := hh
  subst hh
  refine yt_dcut (by decide) rfl ?_ ?_
  · exact fun f hf => absurd hf List.not_mem_nil
  · rw [show xk_1085.2.1.2.1.1.length = 2 from rfl]
    show Nat.gcd (((1 * ((1 * r 0 + 0) + 0) + 0) + 0)).toNat (((1 * (((-1) * r 1 + 0) + 0) + 0) + 0)).toNat = Nat.gcd (((1 * r 0 + 0) + 0)).natAbs (((1 * r 1 + 0) + 0)).natAbs
    try simp only [Int.one_mul, Int.zero_add, Int.add_zero]
    exact congr (congrArg Nat.gcd (by omega)) (by omega)
theorem xw_1085_0_1 : yt_hold xT_1085 xk_1085 xq_1085.2.2.1 xG_1085 xP_1085 xU_1085 2 xk_1085.2.1.2.2.2 (fun g0 r g => xR_1085 r g0 ∧ g = g0) (0, ([((-4611686018427387904), (-1)), ((-4611686018427387904), (-1))], []), [([(0, (-1))], 0), ([(1, (-1))], 0)], [], []) := by
  intro g0 r gi g hok hh hars hfr hG
  have b0 : (-4611686018427387904) ≤ r 0 ∧ r 0 ≤ (-1) := hok.1 0 ((-4611686018427387904), (-1)) rfl
  have b1 : (-4611686018427387904) ≤ r 1 ∧ r 1 ≤ (-1) := hok.1 1 ((-4611686018427387904), (-1)) rfl
  obtain ⟨hG, hgi⟩ := hG
  have hG : True := hG
  have hh : g = gi := hh
  subst hh
  refine yt_dcut (by decide) rfl ?_ ?_
  · exact fun f hf => absurd hf List.not_mem_nil
  · rw [show xk_1085.2.1.2.1.1.length = 2 from rfl]
    show Nat.gcd (((1 * (((-1) * r 0 + 0) + 0) + 0) + 0)).toNat (((1 * (((-1) * r 1 + 0) + 0) + 0) + 0)).toNat = Nat.gcd (((1 * r 0 + 0) + 0)).natAbs (((1 * r 1 + 0) + 0)).natAbs
    try simp only [Int.one_mul, Int.zero_add, Int.add_zero]
    exact congr (congrArg Nat.gcd (by omega)) (by omega)
theorem xw_1085_1_0 : yt_hold xT_1085 xk_1085 xq_1085.2.2.1 xG_1085 xP_1085 xU_1085 4 ((xq_1085.2.2.1.getD 0 (0, ([], [], ([], []), [], [], ([], 0)), [], false)).2.1.2.2.1.2) (xG_1085 0) (1000, ([((-4611686018427387904), 4611686018427387904), ((-4611686018427387904), (-1)), (1, 4611686018427387904), (0, 0)], []), [([(2, 1)], 0)], [], []) := by
  intro g0 r gi g hok hh hars hfr hG
  have b0 : (-4611686018427387904) ≤ r 0 ∧ r 0 ≤ 4611686018427387904 := hok.1 0 ((-4611686018427387904), 4611686018427387904) rfl
  have b1 : (-4611686018427387904) ≤ r 1 ∧ r 1 ≤ (-1) := hok.1 1 ((-4611686018427387904), (-1)) rfl
  have b2 : 1 ≤ r 2 ∧ r 2 ≤ 4611686018427387904 := hok.1 2 (1, 4611686018427387904) rfl
  have b3 : 0 ≤ r 3 ∧ r 3 ≤ 0 := hok.1 3 (0, 0) rfl
  have hG : Nat.gcd (((1 * (r 2) + 0) + 0)).toNat (((1 * (r 3) + 0) + 0)).toNat = Nat.gcd ((r 0)).natAbs ((r 1)).natAbs := hG
  have hh : g = gi := hh
  subst hh
  have hG : Nat.gcd (((1 * (r 2) + 0) + 0)).toNat (((1 * (r 3) + 0) + 0)).toNat = Nat.gcd ((r 0)).natAbs ((r 1)).natAbs := hG
  refine yt_dalt (by decide) (by decide) ?_
  rw [show xk_1085.2.1.2.1.1.length = 2 from rfl]
  show ((1 * r 2 + 0) + 0) = ((Nat.gcd (((1 * r 0 + 0) + 0)).natAbs (((1 * r 1 + 0) + 0)).natAbs : Nat) : Int)
  try simp only [Int.one_mul, Int.zero_add, Int.add_zero]
  have hg : Nat.gcd (r 2).toNat (r 3).toNat = Nat.gcd (r 0).natAbs (r 1).natAbs := by
    first
      | rfl
      | (try simp only [Int.one_mul, Int.zero_add, Int.add_zero] at hG
         exact hG)
  rw [← hg, show (r 3).toNat = 0 by omega, Nat.gcd_zero_right]
  omega
theorem xw_1085_1_1 : yt_hold xT_1085 xk_1085 xq_1085.2.2.1 xG_1085 xP_1085 xU_1085 4 ((xq_1085.2.2.1.getD 0 (0, ([], [], ([], []), [], [], ([], 0)), [], false)).2.1.2.2.1.2) (xG_1085 0) (0, ([((-4611686018427387904), 4611686018427387904), ((-4611686018427387904), (-1)), (1, 4611686018427387903), (2, 4611686018427387904), (0, 0)], [([(3, 1), (2, (-1))], (-1))]), [([(3, 1)], 0), ([(2, 1)], 0)], [], [.inr (.inr (.inl (998, 16, [([(2, 1)], 0), ([(3, 1)], 0), ([(2, 1)], 0)], [], [])))]) := by
  intro g0 r gi g hok hh hars hfr hG
  have b0 : (-4611686018427387904) ≤ r 0 ∧ r 0 ≤ 4611686018427387904 := hok.1 0 ((-4611686018427387904), 4611686018427387904) rfl
  have b1 : (-4611686018427387904) ≤ r 1 ∧ r 1 ≤ (-1) := hok.1 1 ((-4611686018427387904), (-1)) rfl
  have b2 : 1 ≤ r 2 ∧ r 2 ≤ 4611686018427387903 := hok.1 2 (1, 4611686018427387903) rfl
  have b3 : 2 ≤ r 3 ∧ r 3 ≤ 4611686018427387904 := hok.1 3 (2, 4611686018427387904) rfl
  have b4 : 0 ≤ r 4 ∧ r 4 ≤ 0 := hok.1 4 (0, 0) rfl
  have f0 : 0 ≤ ((1 * r 3 + ((-1) * r 2 + 0)) + (-1)) := hok.2 _ (List.mem_of_getElem? (i := 0) rfl)
  have hG : Nat.gcd (((1 * (r 2) + 0) + 0)).toNat (((1 * (r 3) + 0) + 0)).toNat = Nat.gcd ((r 0)).natAbs ((r 1)).natAbs := hG
  obtain ⟨h0, hh, e0, k0⟩ := hh
  have k0 : ∀ j, j ∉ [] → g j = h0 j := k0
  have e0 : ((1 * r 2 + 0) + 0) = (((1 * r 2 + 0) + 0)).tmod (((1 * r 3 + 0) + 0)) := e0
  have hh : h0 = gi := hh
  subst hh
  have hG : Nat.gcd (((1 * (r 2) + 0) + 0)).toNat (((1 * (r 3) + 0) + 0)).toNat = Nat.gcd ((r 0)).natAbs ((r 1)).natAbs := hG
  refine yt_dcut (by decide) rfl ?_ ?_
  · exact fun f hf => absurd hf List.not_mem_nil
  · rw [show xk_1085.2.1.2.1.1.length = 2 from rfl]
    show Nat.gcd (((1 * ((1 * r 3 + 0) + 0) + 0) + 0)).toNat (((1 * ((1 * r 2 + 0) + 0) + 0) + 0)).toNat = Nat.gcd (((1 * r 0 + 0) + 0)).natAbs (((1 * r 1 + 0) + 0)).natAbs
    try simp only [Int.one_mul, Int.zero_add, Int.add_zero]
    first
      | done
      | (have hg : Nat.gcd (r 2).toNat (r 3).toNat = Nat.gcd (r 0).natAbs (r 1).natAbs := by
           first
             | rfl
             | (try simp only [Int.one_mul, Int.zero_add, Int.add_zero] at hG
                exact hG)
         try simp only [Int.one_mul, Int.zero_add, Int.add_zero] at e0
         have em2 : (r 2).toNat = (r 2).toNat % (r 3).toNat := by
           have em := e0
           rw [yy_tm (by omega) (by omega)] at em
           omega
         exact (congrArg (Nat.gcd (r 3).toNat) em2).trans ((yy_gs _ _).trans hg))
theorem xw_1085_1_2 : yt_hold xT_1085 xk_1085 xq_1085.2.2.1 xG_1085 xP_1085 xU_1085 4 ((xq_1085.2.2.1.getD 0 (0, ([], [], ([], []), [], [], ([], 0)), [], false)).2.1.2.2.1.2) (xG_1085 0) (0, ([((-4611686018427387904), 4611686018427387904), ((-4611686018427387904), (-1)), (1, 4611686018427387904), (1, 4611686018427387904), (0, 4611686018427387903)], [([(4, (-1)), (2, 1), (3, (-1))], 0), ([(3, 1), (4, (-1))], (-1)), ([(3, (-1)), (2, 1)], 0)]), [([(3, 1)], 0), ([(4, 1)], 0)], [], [.inr (.inr (.inl (998, 16, [([(2, 1)], 0), ([(3, 1)], 0), ([(4, 1)], 0)], [], [])))]) := by
  intro g0 r gi g hok hh hars hfr hG
  have b0 : (-4611686018427387904) ≤ r 0 ∧ r 0 ≤ 4611686018427387904 := hok.1 0 ((-4611686018427387904), 4611686018427387904) rfl
  have b1 : (-4611686018427387904) ≤ r 1 ∧ r 1 ≤ (-1) := hok.1 1 ((-4611686018427387904), (-1)) rfl
  have b2 : 1 ≤ r 2 ∧ r 2 ≤ 4611686018427387904 := hok.1 2 (1, 4611686018427387904) rfl
  have b3 : 1 ≤ r 3 ∧ r 3 ≤ 4611686018427387904 := hok.1 3 (1, 4611686018427387904) rfl
  have b4 : 0 ≤ r 4 ∧ r 4 ≤ 4611686018427387903 := hok.1 4 (0, 4611686018427387903) rfl
  have f0 : 0 ≤ (((-1) * r 4 + (1 * r 2 + ((-1) * r 3 + 0))) + 0) := hok.2 _ (List.mem_of_getElem? (i := 0) rfl)
  have f1 : 0 ≤ ((1 * r 3 + ((-1) * r 4 + 0)) + (-1)) := hok.2 _ (List.mem_of_getElem? (i := 1) rfl)
  have f2 : 0 ≤ (((-1) * r 3 + (1 * r 2 + 0)) + 0) := hok.2 _ (List.mem_of_getElem? (i := 2) rfl)
  have hG : Nat.gcd (((1 * (r 2) + 0) + 0)).toNat (((1 * (r 3) + 0) + 0)).toNat = Nat.gcd ((r 0)).natAbs ((r 1)).natAbs := hG
  obtain ⟨h0, hh, e0, k0⟩ := hh
  have k0 : ∀ j, j ∉ [] → g j = h0 j := k0
  have e0 : ((1 * r 4 + 0) + 0) = (((1 * r 2 + 0) + 0)).tmod (((1 * r 3 + 0) + 0)) := e0
  have hh : h0 = gi := hh
  subst hh
  have hG : Nat.gcd (((1 * (r 2) + 0) + 0)).toNat (((1 * (r 3) + 0) + 0)).toNat = Nat.gcd ((r 0)).natAbs ((r 1)).natAbs := hG
  refine yt_dcut (by decide) rfl ?_ ?_
  · exact fun f hf => absurd hf List.not_mem_nil
  · rw [show xk_1085.2.1.2.1.1.length = 2 from rfl]
    show Nat.gcd (((1 * ((1 * r 3 + 0) + 0) + 0) + 0)).toNat (((1 * ((1 * r 4 + 0) + 0) + 0) + 0)).toNat = Nat.gcd (((1 * r 0 + 0) + 0)).natAbs (((1 * r 1 + 0) + 0)).natAbs
    try simp only [Int.one_mul, Int.zero_add, Int.add_zero]
    first
      | done
      | (have hg : Nat.gcd (r 2).toNat (r 3).toNat = Nat.gcd (r 0).natAbs (r 1).natAbs := by
           first
             | rfl
             | (try simp only [Int.one_mul, Int.zero_add, Int.add_zero] at hG
                exact hG)
         try simp only [Int.one_mul, Int.zero_add, Int.add_zero] at e0
         have em2 : (r 4).toNat = (r 2).toNat % (r 3).toNat := by
           have em := e0
           rw [yy_tm (by omega) (by omega)] at em
           omega
         exact (congrArg (Nat.gcd (r 3).toNat) em2).trans ((yy_gs _ _).trans hg))
theorem xw_1085_2_0 : yt_hold xT_1085 xk_1085 xq_1085.2.2.1 xG_1085 xP_1085 xU_1085 4 ((xq_1085.2.2.1.getD 1 (0, ([], [], ([], []), [], [], ([], 0)), [], false)).2.1.2.2.1.2) (xG_1085 1) (0, ([((-4611686018427387904), 4611686018427387904), ((-4611686018427387904), (-1)), (0, 4611686018427387903), (1, 4611686018427387904), (0, 0)], [([(3, 1), (2, (-1))], (-1))]), [([(3, 1)], 0), ([(2, 1)], 0)], [], [.inr (.inr (.inl (998, 16, [([(2, 1)], 0), ([(3, 1)], 0), ([(2, 1)], 0)], [], [])))]) := by
  intro g0 r gi g hok hh hars hfr hG
  have b0 : (-4611686018427387904) ≤ r 0 ∧ r 0 ≤ 4611686018427387904 := hok.1 0 ((-4611686018427387904), 4611686018427387904) rfl
  have b1 : (-4611686018427387904) ≤ r 1 ∧ r 1 ≤ (-1) := hok.1 1 ((-4611686018427387904), (-1)) rfl
  have b2 : 0 ≤ r 2 ∧ r 2 ≤ 4611686018427387903 := hok.1 2 (0, 4611686018427387903) rfl
  have b3 : 1 ≤ r 3 ∧ r 3 ≤ 4611686018427387904 := hok.1 3 (1, 4611686018427387904) rfl
  have b4 : 0 ≤ r 4 ∧ r 4 ≤ 0 := hok.1 4 (0, 0) rfl
  have f0 : 0 ≤ ((1 * r 3 + ((-1) * r 2 + 0)) + (-1)) := hok.2 _ (List.mem_of_getElem? (i := 0) rfl)
  have hG : Nat.gcd (((1 * (r 2) + 0) + 0)).toNat (((1 * (r 3) + 0) + 0)).toNat = Nat.gcd ((r 0)).natAbs ((r 1)).natAbs := hG
  obtain ⟨h0, hh, e0, k0⟩ := hh
  have k0 : ∀ j, j ∉ [] → g j = h0 j := k0
  have e0 : ((1 * r 2 + 0) + 0) = (((1 * r 2 + 0) + 0)).tmod (((1 * r 3 + 0) + 0)) := e0
  have hh : h0 = gi := hh
  subst hh
  have hG : Nat.gcd (((1 * (r 2) + 0) + 0)).toNat (((1 * (r 3) + 0) + 0)).toNat = Nat.gcd ((r 0)).natAbs ((r 1)).natAbs := hG
  refine yt_dcut (by decide) rfl ?_ ?_
  · exact fun f hf => absurd hf List.not_mem_nil
  · rw [show xk_1085.2.1.2.1.1.length = 2 from rfl]
    show Nat.gcd (((1 * ((1 * r 3 + 0) + 0) + 0) + 0)).toNat (((1 * ((1 * r 2 + 0) + 0) + 0) + 0)).toNat = Nat.gcd (((1 * r 0 + 0) + 0)).natAbs (((1 * r 1 + 0) + 0)).natAbs
    try simp only [Int.one_mul, Int.zero_add, Int.add_zero]
    first
      | done
      | (have hg : Nat.gcd (r 2).toNat (r 3).toNat = Nat.gcd (r 0).natAbs (r 1).natAbs := by
           first
             | rfl
             | (try simp only [Int.one_mul, Int.zero_add, Int.add_zero] at hG
                exact hG)
         try simp only [Int.one_mul, Int.zero_add, Int.add_zero] at e0
         have em2 : (r 2).toNat = (r 2).toNat % (r 3).toNat := by
           have em := e0
           rw [yy_tm (by omega) (by omega)] at em
           omega
         exact (congrArg (Nat.gcd (r 3).toNat) em2).trans ((yy_gs _ _).trans hg))
theorem xw_1085_2_1 : yt_hold xT_1085 xk_1085 xq_1085.2.2.1 xG_1085 xP_1085 xU_1085 4 ((xq_1085.2.2.1.getD 1 (0, ([], [], ([], []), [], [], ([], 0)), [], false)).2.1.2.2.1.2) (xG_1085 1) (0, ([((-4611686018427387904), 4611686018427387904), ((-4611686018427387904), (-1)), (1, 4611686018427387904), (1, 4611686018427387904), (0, 4611686018427387903)], [([(4, (-1)), (2, 1), (3, (-1))], 0), ([(3, 1), (4, (-1))], (-1)), ([(3, (-1)), (2, 1)], 0)]), [([(3, 1)], 0), ([(4, 1)], 0)], [], [.inr (.inr (.inl (998, 16, [([(2, 1)], 0), ([(3, 1)], 0), ([(4, 1)], 0)], [], [])))]) := by
  intro g0 r gi g hok hh hars hfr hG
  have b0 : (-4611686018427387904) ≤ r 0 ∧ r 0 ≤ 4611686018427387904 := hok.1 0 ((-4611686018427387904), 4611686018427387904) rfl
  have b1 : (-4611686018427387904) ≤ r 1 ∧ r 1 ≤ (-1) := hok.1 1 ((-4611686018427387904), (-1)) rfl
  have b2 : 1 ≤ r 2 ∧ r 2 ≤ 4611686018427387904 := hok.1 2 (1, 4611686018427387904) rfl
  have b3 : 1 ≤ r 3 ∧ r 3 ≤ 4611686018427387904 := hok.1 3 (1, 4611686018427387904) rfl
  have b4 : 0 ≤ r 4 ∧ r 4 ≤ 4611686018427387903 := hok.1 4 (0, 4611686018427387903) rfl
  have f0 : 0 ≤ (((-1) * r 4 + (1 * r 2 + ((-1) * r 3 + 0))) + 0) := hok.2 _ (List.mem_of_getElem? (i := 0) rfl)
  have f1 : 0 ≤ ((1 * r 3 + ((-1) * r 4 + 0)) + (-1)) := hok.2 _ (List.mem_of_getElem? (i := 1) rfl)
  have f2 : 0 ≤ (((-1) * r 3 + (1 * r 2 + 0)) + 0) := hok.2 _ (List.mem_of_getElem? (i := 2) rfl)
  have hG : Nat.gcd (((1 * (r 2) + 0) + 0)).toNat (((1 * (r 3) + 0) + 0)).toNat = Nat.gcd ((r 0)).natAbs ((r 1)).natAbs := hG
  obtain ⟨h0, hh, e0, k0⟩ := hh
  have k0 : ∀ j, j ∉ [] → g j = h0 j := k0
  have e0 : ((1 * r 4 + 0) + 0) = (((1 * r 2 + 0) + 0)).tmod (((1 * r 3 + 0) + 0)) := e0
  have hh : h0 = gi := hh
  subst hh
  have hG : Nat.gcd (((1 * (r 2) + 0) + 0)).toNat (((1 * (r 3) + 0) + 0)).toNat = Nat.gcd ((r 0)).natAbs ((r 1)).natAbs := hG
  refine yt_dcut (by decide) rfl ?_ ?_
  · exact fun f hf => absurd hf List.not_mem_nil
  · rw [show xk_1085.2.1.2.1.1.length = 2 from rfl]
    show Nat.gcd (((1 * ((1 * r 3 + 0) + 0) + 0) + 0)).toNat (((1 * ((1 * r 4 + 0) + 0) + 0) + 0)).toNat = Nat.gcd (((1 * r 0 + 0) + 0)).natAbs (((1 * r 1 + 0) + 0)).natAbs
    try simp only [Int.one_mul, Int.zero_add, Int.add_zero]
    first
      | done
      | (have hg : Nat.gcd (r 2).toNat (r 3).toNat = Nat.gcd (r 0).natAbs (r 1).natAbs := by
           first
             | rfl
             | (try simp only [Int.one_mul, Int.zero_add, Int.add_zero] at hG
                exact hG)
         try simp only [Int.one_mul, Int.zero_add, Int.add_zero] at e0
         have em2 : (r 4).toNat = (r 2).toNat % (r 3).toNat := by
           have em := e0
           rw [yy_tm (by omega) (by omega)] at em
           omega
         exact (congrArg (Nat.gcd (r 3).toNat) em2).trans ((yy_gs _ _).trans hg))
theorem xn_1085 : ∀ (j : Nat) (q : Nat × yt_T), xq_1085.2.2.1[j]? = some q → q.2.2.2 = false → ∀ g0 r g, xG_1085 j g0 r g
  | 0, q, hq, hf => by cases hq; cases hf
  | 1, q, hq, hf => by cases hq; cases hf
  | n + 2, q, hq, _ => by cases hq
theorem xs_1085 : ∀ j, xq_1085.2.2.2.getD j false = false → ∀ r g g', xP_1085 j r g g'
  | 0, hf => by cases hf
  | n + 1, _ => fun _ _ _ => trivial
theorem xc_1085 {l : Launch} {D : va_G} {cT : Nat → ClassId} {tys : List (ClassId × FieldType)} (hty : yx_Ty tys cT) : yt_Con l D vwCl cT tys yG yw_s2 xk_1085 xR_1085 xP_1085 := yx_sem (calls := xa_1085) (Z := xq_1085) (tb := xT_1085) (pt := xU_1085) (Ga := xG_1085) (vs := xv_1085) (fun _ _ _ h => h) 300 (by decide +kernel) yz_X12_divisor_ok hty (yl_lkX12 _) (yl_cqkX12 _) (fun _ h => absurd h List.not_mem_nil) (xn_1085) (xs_1085) (by decide +kernel) (List.forall_mem_cons.mpr ⟨xw_1085_0_0, List.forall_mem_cons.mpr ⟨xw_1085_0_1, fun _ h => absurd h List.not_mem_nil⟩⟩) (⟨List.forall_mem_cons.mpr ⟨xw_1085_1_0, List.forall_mem_cons.mpr ⟨xw_1085_1_1, List.forall_mem_cons.mpr ⟨xw_1085_1_2, fun _ h => absurd h List.not_mem_nil⟩⟩⟩, ⟨List.forall_mem_cons.mpr ⟨xw_1085_2_0, List.forall_mem_cons.mpr ⟨xw_1085_2_1, fun _ h => absurd h List.not_mem_nil⟩⟩, trivial⟩⟩)
noncomputable def xf_1086 : ys_F := (yw_f511 1, yw_r511)
noncomputable def xk_1086 : ys_K := (((yX12_wide, cX12_wide, 12, (some .long)), (2, 60)), ([.inr (some 0), .inl (.inl ([(0, 1)], 0))], ([((-2147483648), 2147483647)] ++ yw_e511, []), xf_1086), ([([((-4611686018427387904), 4611686018427387904), (0, 1), ((-4000), 4000), ((-4000), 4000), ((-8000000), 8000000), ((-8000000), 8000000)], [], ((ys_fs xf_1086.1 [(0, 0, .inl (.inl ([], 0))), (0, 19, .inl (.inl ([(27, 1)], 0))), (0, 20, .inl (.inr ([(28, 1)], 0))), (0, 21, .inl (.inr ([(29, 1)], 0))), (0, 22, .inl (.inr ([(30, 1)], 0))), (0, 23, .inl (.inr ([(31, 1)], 0)))]), xf_1086.2), some (.inl (.inr ([(26, 1)], 0))))], []))
noncomputable def xq_1086 : yt_Q := (yz_X12_wide, (yl_flX12, yl_ciX12, yl_cjX12, yl_cpX12, yl_cqX12), [(200, ([(0, 40), (0, 40), (1, 1), ((-1300), 4000), ((-4000), 4000), ((-8000000), 8000000), ((-8000000), 8000000)], [([(0, 1)], (-5)), ([(0, (-1))], 5)], ((ys_fs xf_1086.1 [(0, 0, .inl (.inl ([], 0))), (0, 19, .inl (.inl ([(28, 1)], 0))), (0, 20, .inl (.inr ([(29, 1)], 0))), (0, 21, .inl (.inr ([(30, 1)], 0))), (0, 22, .inl (.inr ([(31, 1)], 0))), (0, 23, .inl (.inr ([(32, 1)], 0)))]), xf_1086.2), [(0, .inr (some 0)), (10, .inl (.inl ([(26, 1)], 0))), (11, .inl (.inl ([(27, 1)], 0)))], [], ([(27, (-1))], 40)), [([(26, 1)], 0), ([(26, (-1)), (27, 1)], 0)], true)], [true])
noncomputable def xa_1086 : List yt_CE := [(((133, true), (258, false, [])), (yw_s2, xk_1004)), (((307, false), (331, false, [0, 1, 2, 3, 4, 5, 6, 7, 8, 9, 10, 11, 12, 13, 14, 15, 16, 17, 18, 19, 20, 21, 22, 23, 24, 25, 26, 27, 28, 29, 30, 31, 32, 33, 34, 35, 36])), (yw_s511, xk_1068)), (((276, true), (332, false, [])), (yw_s2, xk_1082)), (((310, false), (334, false, [0, 1, 2, 3, 4, 5, 6, 7, 8, 9, 10, 11, 12, 13, 14, 15, 16, 17, 18, 19, 20, 21, 22, 23, 24, 25, 26, 27, 28, 29, 30, 31, 32, 33, 34, 35, 36])), (yw_s503, xk_1069)), (((252, true), (320, false, [])), (yw_s2, xk_1083)), (((252, true), (321, false, [])), (yw_s2, xk_1084)), (((252, true), (322, false, [])), (yw_s2, xk_1081)), (((252, true), (323, false, [])), (yw_s2, xk_1085))]
noncomputable def xe_1086_0_0 : yt_VC := (1000, ([((-2147483648), 2147483647), ((-2147483648), 2147483647), ((-2147483648), 2147483647), (0, 40), ((-2147483648), 2147483647), (0, 4), ((-9223372036854775808), 9223372036854775807), ((-9223372036854775808), 9223372036854775807), ((-9223372036854775808), 9223372036854775807), (0, 1), ((-4000), 4000), ((-4000), 4000), ((-8000000), 8000000), ((-8000000), 8000000), (0, 12), ((-9223372036854775808), 9223372036854775807), ((-9223372036854775808), 9223372036854775807), ((-9223372036854775808), 9223372036854775807), ((-9223372036854775808), 9223372036854775807), ((-9223372036854775808), 9223372036854775807), (0, 12), ((-2147483648), 2147483647), (0, 12), ((-2147483648), 2147483647), (0, 40), (0, 40)], []), [([], (-1)), ([(9, 1)], 0), ([(10, 1)], 0), ([(11, 1)], 0), ([(12, 1)], 0), ([(13, 1)], 0)], [], [.inr (.inr (.inl (258, 0, [([(0, 1)], 0), ([], 0), ([], 5)], [], [])))])
noncomputable def xe_1086_0_1 : yt_VC := (0, ([(5, 5), ((-2147483648), 2147483647), ((-2147483648), 2147483647), (0, 40), ((-2147483648), 2147483647), (0, 4), ((-9223372036854775808), 9223372036854775807), ((-9223372036854775808), 9223372036854775807), ((-9223372036854775808), 9223372036854775807), (0, 1), ((-4000), 4000), ((-4000), 4000), ((-8000000), 8000000), ((-8000000), 8000000), (0, 12), ((-9223372036854775808), 9223372036854775807), ((-9223372036854775808), 9223372036854775807), ((-9223372036854775808), 9223372036854775807), ((-9223372036854775808), 9223372036854775807), ((-9223372036854775808), 9223372036854775807), (0, 12), ((-2147483648), 2147483647), (0, 12), ((-2147483648), 2147483647), (0, 40), (0, 40), (1, 1), (1, 4000), ((-4000), 4000), ((-8000000), 8000000), ((-8000000), 8000000), (0, 256000000000000), (1, 16000000), (0, 16000000), (1, 4611686018427387904), (1, 4611686018427387904)], []), [([], 0), ([], 0), ([(26, 1)], 0), ([(27, 1)], 0), ([(28, 1)], 0), ([(29, 1)], 0), ([(30, 1)], 0)], [], [.inr (.inr (.inl (320, 0, [([(34, 1)], 0), ([(29, 1), (30, 1)], 0), ([(35, 1)], 0)], [], []))), .inr (.inr (.inl (320, 0, [([(27, 2)], 0), ([(28, 2)], 0), ([(34, 1)], 0)], [], []))), .inl (.inr (33, ([(28, 1)], 0), ([(28, 1)], 0))), .inl (.inr (32, ([(27, 1)], 0), ([(27, 1)], 0))), .inl (.inr (31, ([(29, (-1)), (30, 1)], 0), ([(29, (-1)), (30, 1)], 0))), .inr (.inr (.inl (331, 0, [([], 0), ([(2, 1)], 0), ([(3, 1)], 0), ([(4, 1)], 0), ([(5, 1)], 0), ([(6, 1)], 0), ([(7, 1)], 0), ([(8, 1)], 0), ([(9, 1)], 0), ([(10, 1)], 0), ([(11, 1)], 0), ([(12, 1)], 0), ([(13, 1)], 0), ([(14, 1)], 0), ([(15, 1)], 0), ([(16, 1)], 0), ([(17, 1)], 0), ([(18, 1)], 0), ([(19, 1)], 0), ([(20, 1)], 0), ([(21, 1)], 0), ([(22, 1)], 0), ([(23, 1)], 0), ([(24, 1)], 0), ([(25, 1)], 0), ([(26, 1)], 0), ([(27, 1)], 0), ([(28, 1)], 0), ([(29, 1)], 0), ([(30, 1)], 0)], [0, 1, 2, 3, 4, 5, 6, 7, 8, 9, 10, 11, 12, 13, 14, 15, 16, 17, 18, 19, 20, 21, 22, 23, 24, 25, 26, 27, 28, 29, 30, 31, 32, 33, 34, 35, 36], []))), .inr (.inr (.inl (258, 1, [([(0, 1)], 0), ([], 0), ([], 5)], [], [])))])
noncomputable def xe_1086_0_2 : yt_VC := (1000, ([(0, 0), ((-2147483648), 2147483647), ((-2147483648), 2147483647), (0, 40), ((-2147483648), 2147483647), (0, 4), ((-9223372036854775808), 9223372036854775807), ((-9223372036854775808), 9223372036854775807), ((-9223372036854775808), 9223372036854775807), (0, 1), ((-4000), 4000), ((-4000), 4000), ((-8000000), 8000000), ((-8000000), 8000000), (0, 12), ((-9223372036854775808), 9223372036854775807), ((-9223372036854775808), 9223372036854775807), ((-9223372036854775808), 9223372036854775807), ((-9223372036854775808), 9223372036854775807), ((-9223372036854775808), 9223372036854775807), (0, 12), ((-2147483648), 2147483647), (0, 12), ((-2147483648), 2147483647), (0, 40), (0, 40), (1, 1), (1, 4000), ((-4000), 4000), ((-8000000), 8000000), ((-8000000), 8000000), (0, 256000000000000), (1, 16000000), (0, 16000000), (1, 4611686018427387904), (1, 4611686018427387904), ((-4611686018427387904), 4611686018427387904)], []), [([(36, 1)], 0), ([(26, 1)], 0), ([(27, 1)], 0), ([(28, 1)], 0), ([(29, 1)], 0), ([(30, 1)], 0)], [], [.inr (.inr (.inl (332, 0, [([(31, 1)], 0), ([(33, 1), (32, 1)], 0), ([], 1), ([(36, 1)], 0)], [], []))), .inr (.inr (.inl (320, 0, [([(34, 1)], 0), ([(29, 1), (30, 1)], 0), ([(35, 1)], 0)], [], []))), .inr (.inr (.inl (320, 0, [([(27, 2)], 0), ([(28, 2)], 0), ([(34, 1)], 0)], [], []))), .inl (.inr (33, ([(28, 1)], 0), ([(28, 1)], 0))), .inl (.inr (32, ([(27, 1)], 0), ([(27, 1)], 0))), .inl (.inr (31, ([(29, (-1)), (30, 1)], 0), ([(29, (-1)), (30, 1)], 0))), .inr (.inr (.inl (331, 0, [([], 0), ([(2, 1)], 0), ([(3, 1)], 0), ([(4, 1)], 0), ([(5, 1)], 0), ([(6, 1)], 0), ([(7, 1)], 0), ([(8, 1)], 0), ([(9, 1)], 0), ([(10, 1)], 0), ([(11, 1)], 0), ([(12, 1)], 0), ([(13, 1)], 0), ([(14, 1)], 0), ([(15, 1)], 0), ([(16, 1)], 0), ([(17, 1)], 0), ([(18, 1)], 0), ([(19, 1)], 0), ([(20, 1)], 0), ([(21, 1)], 0), ([(22, 1)], 0), ([(23, 1)], 0), ([(24, 1)], 0), ([(25, 1)], 0), ([(26, 1)], 0), ([(27, 1)], 0), ([(28, 1)], 0), ([(29, 1)], 0), ([(30, 1)], 0)], [0, 1, 2, 3, 4, 5, 6, 7, 8, 9, 10, 11, 12, 13, 14, 15, 16, 17, 18, 19, 20, 21, 22, 23, 24, 25, 26, 27, 28, 29, 30, 31, 32, 33, 34, 35, 36], []))), .inr (.inr (.inl (258, 1, [([(0, 1)], 0), ([], 0), ([], 5)], [], [])))])
noncomputable def xe_1086_0_3 : yt_VC := (1000, ([(1, 1), ((-2147483648), 2147483647), ((-2147483648), 2147483647), (0, 40), ((-2147483648), 2147483647), (0, 4), ((-9223372036854775808), 9223372036854775807), ((-9223372036854775808), 9223372036854775807), ((-9223372036854775808), 9223372036854775807), (0, 1), ((-4000), 4000), ((-4000), 4000), ((-8000000), 8000000), ((-8000000), 8000000), (0, 12), ((-9223372036854775808), 9223372036854775807), ((-9223372036854775808), 9223372036854775807), ((-9223372036854775808), 9223372036854775807), ((-9223372036854775808), 9223372036854775807), ((-9223372036854775808), 9223372036854775807), (0, 12), ((-2147483648), 2147483647), (0, 12), ((-2147483648), 2147483647), (0, 40), (0, 40), (1, 1), (1, 4000), ((-4000), 4000), ((-8000000), 8000000), ((-8000000), 8000000), (0, 256000000000000), (1, 16000000), (0, 16000000), (1, 4611686018427387904), (1, 4611686018427387904), ((-4611686018427387904), 4611686018427387904)], []), [([(36, 1)], 0), ([(26, 1)], 0), ([(27, 1)], 0), ([(28, 1)], 0), ([(29, 1)], 0), ([(30, 1)], 0)], [], [.inr (.inr (.inl (332, 0, [([(31, 1)], 0), ([(33, 1), (32, 1)], 0), ([], 0), ([(36, 1)], 0)], [], []))), .inr (.inr (.inl (320, 0, [([(34, 1)], 0), ([(29, 1), (30, 1)], 0), ([(35, 1)], 0)], [], []))), .inr (.inr (.inl (320, 0, [([(27, 2)], 0), ([(28, 2)], 0), ([(34, 1)], 0)], [], []))), .inl (.inr (33, ([(28, 1)], 0), ([(28, 1)], 0))), .inl (.inr (32, ([(27, 1)], 0), ([(27, 1)], 0))), .inl (.inr (31, ([(29, (-1)), (30, 1)], 0), ([(29, (-1)), (30, 1)], 0))), .inr (.inr (.inl (331, 0, [([], 0), ([(2, 1)], 0), ([(3, 1)], 0), ([(4, 1)], 0), ([(5, 1)], 0), ([(6, 1)], 0), ([(7, 1)], 0), ([(8, 1)], 0), ([(9, 1)], 0), ([(10, 1)], 0), ([(11, 1)], 0), ([(12, 1)], 0), ([(13, 1)], 0), ([(14, 1)], 0), ([(15, 1)], 0), ([(16, 1)], 0), ([(17, 1)], 0), ([(18, 1)], 0), ([(19, 1)], 0), ([(20, 1)], 0), ([(21, 1)], 0), ([(22, 1)], 0), ([(23, 1)], 0), ([(24, 1)], 0), ([(25, 1)], 0), ([(26, 1)], 0), ([(27, 1)], 0), ([(28, 1)], 0), ([(29, 1)], 0), ([(30, 1)], 0)], [0, 1, 2, 3, 4, 5, 6, 7, 8, 9, 10, 11, 12, 13, 14, 15, 16, 17, 18, 19, 20, 21, 22, 23, 24, 25, 26, 27, 28, 29, 30, 31, 32, 33, 34, 35, 36], []))), .inr (.inr (.inl (258, 1, [([(0, 1)], 0), ([], 0), ([], 5)], [], [])))])
noncomputable def xe_1086_0_4 : yt_VC := (1000, ([(2, 2), ((-2147483648), 2147483647), ((-2147483648), 2147483647), (0, 40), ((-2147483648), 2147483647), (0, 4), ((-9223372036854775808), 9223372036854775807), ((-9223372036854775808), 9223372036854775807), ((-9223372036854775808), 9223372036854775807), (0, 1), ((-4000), 4000), ((-4000), 4000), ((-8000000), 8000000), ((-8000000), 8000000), (0, 12), ((-9223372036854775808), 9223372036854775807), ((-9223372036854775808), 9223372036854775807), ((-9223372036854775808), 9223372036854775807), ((-9223372036854775808), 9223372036854775807), ((-9223372036854775808), 9223372036854775807), (0, 12), ((-2147483648), 2147483647), (0, 12), ((-2147483648), 2147483647), (0, 40), (0, 40), (1, 1), (1, 4000), ((-4000), 4000), ((-8000000), 8000000), ((-8000000), 8000000), (0, 256000000000000), (1, 16000000), (0, 16000000), (1, 4611686018427387904), (3, 4611686018427387904), (0, 0)], [([(35, 1), (27, (-2))], (-1)), ([(27, 2)], 0)]), [([], 0), ([(26, 1)], 0), ([(27, 1)], 0), ([(28, 1)], 0), ([(29, 1)], 0), ([(30, 1)], 0)], [], [.inr (.inr (.inl (998, 1, [([(27, 2)], 0), ([(35, 1)], 0), ([], 0)], [], []))), .inr (.inr (.inl (320, 0, [([(34, 1)], 0), ([(29, 1), (30, 1)], 0), ([(35, 1)], 0)], [], []))), .inr (.inr (.inl (320, 0, [([(27, 2)], 0), ([(28, 2)], 0), ([(34, 1)], 0)], [], []))), .inl (.inr (33, ([(28, 1)], 0), ([(28, 1)], 0))), .inl (.inr (32, ([(27, 1)], 0), ([(27, 1)], 0))), .inl (.inr (31, ([(29, (-1)), (30, 1)], 0), ([(29, (-1)), (30, 1)], 0))), .inr (.inr (.inl (331, 0, [([], 0), ([(2, 1)], 0), ([(3, 1)], 0), ([(4, 1)], 0), ([(5, 1)], 0), ([(6, 1)], 0), ([(7, 1)], 0), ([(8, 1)], 0), ([(9, 1)], 0), ([(10, 1)], 0), ([(11, 1)], 0), ([(12, 1)], 0), ([(13, 1)], 0), ([(14, 1)], 0), ([(15, 1)], 0), ([(16, 1)], 0), ([(17, 1)], 0), ([(18, 1)], 0), ([(19, 1)], 0), ([(20, 1)], 0), ([(21, 1)], 0), ([(22, 1)], 0), ([(23, 1)], 0), ([(24, 1)], 0), ([(25, 1)], 0), ([(26, 1)], 0), ([(27, 1)], 0), ([(28, 1)], 0), ([(29, 1)], 0), ([(30, 1)], 0)], [0, 1, 2, 3, 4, 5, 6, 7, 8, 9, 10, 11, 12, 13, 14, 15, 16, 17, 18, 19, 20, 21, 22, 23, 24, 25, 26, 27, 28, 29, 30, 31, 32, 33, 34, 35, 36], []))), .inr (.inr (.inl (258, 1, [([(0, 1)], 0), ([], 0), ([], 5)], [], [])))])
noncomputable def xe_1086_0_5 : yt_VC := (1000, ([(2, 2), ((-2147483648), 2147483647), ((-2147483648), 2147483647), (0, 40), ((-2147483648), 2147483647), (0, 4), ((-9223372036854775808), 9223372036854775807), ((-9223372036854775808), 9223372036854775807), ((-9223372036854775808), 9223372036854775807), (0, 1), ((-4000), 4000), ((-4000), 4000), ((-8000000), 8000000), ((-8000000), 8000000), (0, 12), ((-9223372036854775808), 9223372036854775807), ((-9223372036854775808), 9223372036854775807), ((-9223372036854775808), 9223372036854775807), ((-9223372036854775808), 9223372036854775807), ((-9223372036854775808), 9223372036854775807), (0, 12), ((-2147483648), 2147483647), (0, 12), ((-2147483648), 2147483647), (0, 40), (0, 40), (1, 1), (1, 4000), ((-4000), 4000), ((-8000000), 8000000), ((-8000000), 8000000), (0, 256000000000000), (1, 16000000), (0, 16000000), (1, 4611686018427387904), (1, 8000), (1, 8000)], [([(36, (-1)), (27, 2)], 0), ([(35, (-1)), (27, 2)], 0)]), [([(36, 1)], 0), ([(26, 1)], 0), ([(27, 1)], 0), ([(28, 1)], 0), ([(29, 1)], 0), ([(30, 1)], 0)], [], [.inr (.inr (.inl (998, 1, [([(27, 2)], 0), ([(35, 1)], 0), ([(36, 1)], 0)], [], []))), .inr (.inr (.inl (320, 0, [([(34, 1)], 0), ([(29, 1), (30, 1)], 0), ([(35, 1)], 0)], [], []))), .inr (.inr (.inl (320, 0, [([(27, 2)], 0), ([(28, 2)], 0), ([(34, 1)], 0)], [], []))), .inl (.inr (33, ([(28, 1)], 0), ([(28, 1)], 0))), .inl (.inr (32, ([(27, 1)], 0), ([(27, 1)], 0))), .inl (.inr (31, ([(29, (-1)), (30, 1)], 0), ([(29, (-1)), (30, 1)], 0))), .inr (.inr (.inl (331, 0, [([], 0), ([(2, 1)], 0), ([(3, 1)], 0), ([(4, 1)], 0), ([(5, 1)], 0), ([(6, 1)], 0), ([(7, 1)], 0), ([(8, 1)], 0), ([(9, 1)], 0), ([(10, 1)], 0), ([(11, 1)], 0), ([(12, 1)], 0), ([(13, 1)], 0), ([(14, 1)], 0), ([(15, 1)], 0), ([(16, 1)], 0), ([(17, 1)], 0), ([(18, 1)], 0), ([(19, 1)], 0), ([(20, 1)], 0), ([(21, 1)], 0), ([(22, 1)], 0), ([(23, 1)], 0), ([(24, 1)], 0), ([(25, 1)], 0), ([(26, 1)], 0), ([(27, 1)], 0), ([(28, 1)], 0), ([(29, 1)], 0), ([(30, 1)], 0)], [0, 1, 2, 3, 4, 5, 6, 7, 8, 9, 10, 11, 12, 13, 14, 15, 16, 17, 18, 19, 20, 21, 22, 23, 24, 25, 26, 27, 28, 29, 30, 31, 32, 33, 34, 35, 36], []))), .inr (.inr (.inl (258, 1, [([(0, 1)], 0), ([], 0), ([], 5)], [], [])))])
noncomputable def xe_1086_0_6 : yt_VC := (1000, ([(3, 3), ((-2147483648), 2147483647), ((-2147483648), 2147483647), (0, 40), ((-2147483648), 2147483647), (0, 4), ((-9223372036854775808), 9223372036854775807), ((-9223372036854775808), 9223372036854775807), ((-9223372036854775808), 9223372036854775807), (0, 1), ((-4000), 4000), ((-4000), 4000), ((-8000000), 8000000), ((-8000000), 8000000), (0, 12), ((-9223372036854775808), 9223372036854775807), ((-9223372036854775808), 9223372036854775807), ((-9223372036854775808), 9223372036854775807), ((-9223372036854775808), 9223372036854775807), ((-9223372036854775808), 9223372036854775807), (0, 12), ((-2147483648), 2147483647), (0, 12), ((-2147483648), 2147483647), (0, 40), (0, 40), (1, 1), (1, 4000), ((-4000), 4000), ((-8000000), 8000000), ((-8000000), 8000000), (0, 256000000000000), (1, 16000000), (0, 16000000), (1, 4611686018427387904), (1, 4611686018427387904), (0, 0)], [([(35, 1), (28, (-2))], (-1)), ([(28, 2)], 0)]), [([], 0), ([(26, 1)], 0), ([(27, 1)], 0), ([(28, 1)], 0), ([(29, 1)], 0), ([(30, 1)], 0)], [], [.inr (.inr (.inl (998, 1, [([(28, 2)], 0), ([(35, 1)], 0), ([], 0)], [], []))), .inr (.inr (.inl (320, 0, [([(34, 1)], 0), ([(29, 1), (30, 1)], 0), ([(35, 1)], 0)], [], []))), .inr (.inr (.inl (320, 0, [([(27, 2)], 0), ([(28, 2)], 0), ([(34, 1)], 0)], [], []))), .inl (.inr (33, ([(28, 1)], 0), ([(28, 1)], 0))), .inl (.inr (32, ([(27, 1)], 0), ([(27, 1)], 0))), .inl (.inr (31, ([(29, (-1)), (30, 1)], 0), ([(29, (-1)), (30, 1)], 0))), .inr (.inr (.inl (331, 0, [([], 0), ([(2, 1)], 0), ([(3, 1)], 0), ([(4, 1)], 0), ([(5, 1)], 0), ([(6, 1)], 0), ([(7, 1)], 0), ([(8, 1)], 0), ([(9, 1)], 0), ([(10, 1)], 0), ([(11, 1)], 0), ([(12, 1)], 0), ([(13, 1)], 0), ([(14, 1)], 0), ([(15, 1)], 0), ([(16, 1)], 0), ([(17, 1)], 0), ([(18, 1)], 0), ([(19, 1)], 0), ([(20, 1)], 0), ([(21, 1)], 0), ([(22, 1)], 0), ([(23, 1)], 0), ([(24, 1)], 0), ([(25, 1)], 0), ([(26, 1)], 0), ([(27, 1)], 0), ([(28, 1)], 0), ([(29, 1)], 0), ([(30, 1)], 0)], [0, 1, 2, 3, 4, 5, 6, 7, 8, 9, 10, 11, 12, 13, 14, 15, 16, 17, 18, 19, 20, 21, 22, 23, 24, 25, 26, 27, 28, 29, 30, 31, 32, 33, 34, 35, 36], []))), .inr (.inr (.inl (258, 1, [([(0, 1)], 0), ([], 0), ([], 5)], [], [])))])
noncomputable def xe_1086_0_7 : yt_VC := (1000, ([(3, 3), ((-2147483648), 2147483647), ((-2147483648), 2147483647), (0, 40), ((-2147483648), 2147483647), (0, 4), ((-9223372036854775808), 9223372036854775807), ((-9223372036854775808), 9223372036854775807), ((-9223372036854775808), 9223372036854775807), (0, 1), ((-4000), 4000), ((-4000), 4000), ((-8000000), 8000000), ((-8000000), 8000000), (0, 12), ((-9223372036854775808), 9223372036854775807), ((-9223372036854775808), 9223372036854775807), ((-9223372036854775808), 9223372036854775807), ((-9223372036854775808), 9223372036854775807), ((-9223372036854775808), 9223372036854775807), (0, 12), ((-2147483648), 2147483647), (0, 12), ((-2147483648), 2147483647), (0, 40), (0, 40), (1, 1), (1, 4000), ((-4000), 4000), ((-8000000), 8000000), ((-8000000), 8000000), (0, 256000000000000), (1, 16000000), (0, 16000000), (1, 4611686018427387904), (1, 8000), (1, 8000)], [([(36, (-1)), (28, 2)], 0), ([(35, (-1)), (28, 2)], 0)]), [([(36, 1)], 0), ([(26, 1)], 0), ([(27, 1)], 0), ([(28, 1)], 0), ([(29, 1)], 0), ([(30, 1)], 0)], [], [.inr (.inr (.inl (998, 1, [([(28, 2)], 0), ([(35, 1)], 0), ([(36, 1)], 0)], [], []))), .inr (.inr (.inl (320, 0, [([(34, 1)], 0), ([(29, 1), (30, 1)], 0), ([(35, 1)], 0)], [], []))), .inr (.inr (.inl (320, 0, [([(27, 2)], 0), ([(28, 2)], 0), ([(34, 1)], 0)], [], []))), .inl (.inr (33, ([(28, 1)], 0), ([(28, 1)], 0))), .inl (.inr (32, ([(27, 1)], 0), ([(27, 1)], 0))), .inl (.inr (31, ([(29, (-1)), (30, 1)], 0), ([(29, (-1)), (30, 1)], 0))), .inr (.inr (.inl (331, 0, [([], 0), ([(2, 1)], 0), ([(3, 1)], 0), ([(4, 1)], 0), ([(5, 1)], 0), ([(6, 1)], 0), ([(7, 1)], 0), ([(8, 1)], 0), ([(9, 1)], 0), ([(10, 1)], 0), ([(11, 1)], 0), ([(12, 1)], 0), ([(13, 1)], 0), ([(14, 1)], 0), ([(15, 1)], 0), ([(16, 1)], 0), ([(17, 1)], 0), ([(18, 1)], 0), ([(19, 1)], 0), ([(20, 1)], 0), ([(21, 1)], 0), ([(22, 1)], 0), ([(23, 1)], 0), ([(24, 1)], 0), ([(25, 1)], 0), ([(26, 1)], 0), ([(27, 1)], 0), ([(28, 1)], 0), ([(29, 1)], 0), ([(30, 1)], 0)], [0, 1, 2, 3, 4, 5, 6, 7, 8, 9, 10, 11, 12, 13, 14, 15, 16, 17, 18, 19, 20, 21, 22, 23, 24, 25, 26, 27, 28, 29, 30, 31, 32, 33, 34, 35, 36], []))), .inr (.inr (.inl (258, 1, [([(0, 1)], 0), ([], 0), ([], 5)], [], [])))])
noncomputable def xe_1086_0_8 : yt_VC := (1000, ([(3, 3), ((-2147483648), 2147483647), ((-2147483648), 2147483647), (0, 40), ((-2147483648), 2147483647), (0, 4), ((-9223372036854775808), 9223372036854775807), ((-9223372036854775808), 9223372036854775807), ((-9223372036854775808), 9223372036854775807), (0, 1), ((-4000), 4000), ((-4000), 4000), ((-8000000), 8000000), ((-8000000), 8000000), (0, 12), ((-9223372036854775808), 9223372036854775807), ((-9223372036854775808), 9223372036854775807), ((-9223372036854775808), 9223372036854775807), ((-9223372036854775808), 9223372036854775807), ((-9223372036854775808), 9223372036854775807), (0, 12), ((-2147483648), 2147483647), (0, 12), ((-2147483648), 2147483647), (0, 40), (0, 40), (1, 1), (1, 4000), ((-4000), 4000), ((-8000000), 8000000), ((-8000000), 8000000), (0, 256000000000000), (1, 16000000), (0, 16000000), (1, 4611686018427387904), (1, 4611686018427387904), ((-8000), 0)], [([(28, (-2)), (36, 1)], 0), ([(28, (-2))], (-1))]), [([(36, 1)], 0), ([(26, 1)], 0), ([(27, 1)], 0), ([(28, 1)], 0), ([(29, 1)], 0), ([(30, 1)], 0)], [], [.inr (.inr (.inl (998, 1, [([(28, 2)], 0), ([(35, 1)], 0), ([(36, 1)], 0)], [], []))), .inr (.inr (.inl (320, 0, [([(34, 1)], 0), ([(29, 1), (30, 1)], 0), ([(35, 1)], 0)], [], []))), .inr (.inr (.inl (320, 0, [([(27, 2)], 0), ([(28, 2)], 0), ([(34, 1)], 0)], [], []))), .inl (.inr (33, ([(28, 1)], 0), ([(28, 1)], 0))), .inl (.inr (32, ([(27, 1)], 0), ([(27, 1)], 0))), .inl (.inr (31, ([(29, (-1)), (30, 1)], 0), ([(29, (-1)), (30, 1)], 0))), .inr (.inr (.inl (331, 0, [([], 0), ([(2, 1)], 0), ([(3, 1)], 0), ([(4, 1)], 0), ([(5, 1)], 0), ([(6, 1)], 0), ([(7, 1)], 0), ([(8, 1)], 0), ([(9, 1)], 0), ([(10, 1)], 0), ([(11, 1)], 0), ([(12, 1)], 0), ([(13, 1)], 0), ([(14, 1)], 0), ([(15, 1)], 0), ([(16, 1)], 0), ([(17, 1)], 0), ([(18, 1)], 0), ([(19, 1)], 0), ([(20, 1)], 0), ([(21, 1)], 0), ([(22, 1)], 0), ([(23, 1)], 0), ([(24, 1)], 0), ([(25, 1)], 0), ([(26, 1)], 0), ([(27, 1)], 0), ([(28, 1)], 0), ([(29, 1)], 0), ([(30, 1)], 0)], [0, 1, 2, 3, 4, 5, 6, 7, 8, 9, 10, 11, 12, 13, 14, 15, 16, 17, 18, 19, 20, 21, 22, 23, 24, 25, 26, 27, 28, 29, 30, 31, 32, 33, 34, 35, 36], []))), .inr (.inr (.inl (258, 1, [([(0, 1)], 0), ([], 0), ([], 5)], [], [])))])
noncomputable def xe_1086_0_9 : yt_VC := (1000, ([(4, 4), ((-2147483648), 2147483647), ((-2147483648), 2147483647), (0, 40), ((-2147483648), 2147483647), (0, 4), ((-9223372036854775808), 9223372036854775807), ((-9223372036854775808), 9223372036854775807), ((-9223372036854775808), 9223372036854775807), (0, 1), ((-4000), 4000), ((-4000), 4000), ((-8000000), 8000000), ((-8000000), 8000000), (0, 12), ((-9223372036854775808), 9223372036854775807), ((-9223372036854775808), 9223372036854775807), ((-9223372036854775808), 9223372036854775807), ((-9223372036854775808), 9223372036854775807), ((-9223372036854775808), 9223372036854775807), (0, 12), ((-2147483648), 2147483647), (0, 12), ((-2147483648), 2147483647), (0, 40), (0, 40), (1, 1), (1, 4000), ((-4000), 4000), ((-8000000), 8000000), ((-8000000), 8000000), (0, 256000000000000), (1, 16000000), (0, 16000000), (1, 4611686018427387904), (1, 4611686018427387904), (0, 0)], [([(35, 1), (30, (-1)), (29, (-1))], (-1)), ([(29, 1), (30, 1)], 0)]), [([], 0), ([(26, 1)], 0), ([(27, 1)], 0), ([(28, 1)], 0), ([(29, 1)], 0), ([(30, 1)], 0)], [], [.inr (.inr (.inl (998, 1, [([(29, 1), (30, 1)], 0), ([(35, 1)], 0), ([], 0)], [], []))), .inr (.inr (.inl (320, 0, [([(34, 1)], 0), ([(29, 1), (30, 1)], 0), ([(35, 1)], 0)], [], []))), .inr (.inr (.inl (320, 0, [([(27, 2)], 0), ([(28, 2)], 0), ([(34, 1)], 0)], [], []))), .inl (.inr (33, ([(28, 1)], 0), ([(28, 1)], 0))), .inl (.inr (32, ([(27, 1)], 0), ([(27, 1)], 0))), .inl (.inr (31, ([(29, (-1)), (30, 1)], 0), ([(29, (-1)), (30, 1)], 0))), .inr (.inr (.inl (331, 0, [([], 0), ([(2, 1)], 0), ([(3, 1)], 0), ([(4, 1)], 0), ([(5, 1)], 0), ([(6, 1)], 0), ([(7, 1)], 0), ([(8, 1)], 0), ([(9, 1)], 0), ([(10, 1)], 0), ([(11, 1)], 0), ([(12, 1)], 0), ([(13, 1)], 0), ([(14, 1)], 0), ([(15, 1)], 0), ([(16, 1)], 0), ([(17, 1)], 0), ([(18, 1)], 0), ([(19, 1)], 0), ([(20, 1)], 0), ([(21, 1)], 0), ([(22, 1)], 0), ([(23, 1)], 0), ([(24, 1)], 0), ([(25, 1)], 0), ([(26, 1)], 0), ([(27, 1)], 0), ([(28, 1)], 0), ([(29, 1)], 0), ([(30, 1)], 0)], [0, 1, 2, 3, 4, 5, 6, 7, 8, 9, 10, 11, 12, 13, 14, 15, 16, 17, 18, 19, 20, 21, 22, 23, 24, 25, 26, 27, 28, 29, 30, 31, 32, 33, 34, 35, 36], []))), .inr (.inr (.inl (258, 1, [([(0, 1)], 0), ([], 0), ([], 5)], [], [])))])
noncomputable def xe_1086_0_10 : yt_VC := (1000, ([(4, 4), ((-2147483648), 2147483647), ((-2147483648), 2147483647), (0, 40), ((-2147483648), 2147483647), (0, 4), ((-9223372036854775808), 9223372036854775807), ((-9223372036854775808), 9223372036854775807), ((-9223372036854775808), 9223372036854775807), (0, 1), ((-4000), 4000), ((-4000), 4000), ((-8000000), 8000000), ((-8000000), 8000000), (0, 12), ((-9223372036854775808), 9223372036854775807), ((-9223372036854775808), 9223372036854775807), ((-9223372036854775808), 9223372036854775807), ((-9223372036854775808), 9223372036854775807), ((-9223372036854775808), 9223372036854775807), (0, 12), ((-2147483648), 2147483647), (0, 12), ((-2147483648), 2147483647), (0, 40), (0, 40), (1, 1), (1, 4000), ((-4000), 4000), ((-7999999), 8000000), ((-7999999), 8000000), (0, 256000000000000), (1, 16000000), (0, 16000000), (1, 4611686018427387904), (1, 16000000), (1, 16000000)], [([(36, (-1)), (30, 1), (29, 1)], 0), ([(35, (-1)), (30, 1), (29, 1)], 0)]), [([(36, 1)], 0), ([(26, 1)], 0), ([(27, 1)], 0), ([(28, 1)], 0), ([(29, 1)], 0), ([(30, 1)], 0)], [], [.inr (.inr (.inl (998, 1, [([(29, 1), (30, 1)], 0), ([(35, 1)], 0), ([(36, 1)], 0)], [], []))), .inr (.inr (.inl (320, 0, [([(34, 1)], 0), ([(29, 1), (30, 1)], 0), ([(35, 1)], 0)], [], []))), .inr (.inr (.inl (320, 0, [([(27, 2)], 0), ([(28, 2)], 0), ([(34, 1)], 0)], [], []))), .inl (.inr (33, ([(28, 1)], 0), ([(28, 1)], 0))), .inl (.inr (32, ([(27, 1)], 0), ([(27, 1)], 0))), .inl (.inr (31, ([(29, (-1)), (30, 1)], 0), ([(29, (-1)), (30, 1)], 0))), .inr (.inr (.inl (331, 0, [([], 0), ([(2, 1)], 0), ([(3, 1)], 0), ([(4, 1)], 0), ([(5, 1)], 0), ([(6, 1)], 0), ([(7, 1)], 0), ([(8, 1)], 0), ([(9, 1)], 0), ([(10, 1)], 0), ([(11, 1)], 0), ([(12, 1)], 0), ([(13, 1)], 0), ([(14, 1)], 0), ([(15, 1)], 0), ([(16, 1)], 0), ([(17, 1)], 0), ([(18, 1)], 0), ([(19, 1)], 0), ([(20, 1)], 0), ([(21, 1)], 0), ([(22, 1)], 0), ([(23, 1)], 0), ([(24, 1)], 0), ([(25, 1)], 0), ([(26, 1)], 0), ([(27, 1)], 0), ([(28, 1)], 0), ([(29, 1)], 0), ([(30, 1)], 0)], [0, 1, 2, 3, 4, 5, 6, 7, 8, 9, 10, 11, 12, 13, 14, 15, 16, 17, 18, 19, 20, 21, 22, 23, 24, 25, 26, 27, 28, 29, 30, 31, 32, 33, 34, 35, 36], []))), .inr (.inr (.inl (258, 1, [([(0, 1)], 0), ([], 0), ([], 5)], [], [])))])
noncomputable def xe_1086_0_11 : yt_VC := (1000, ([(4, 4), ((-2147483648), 2147483647), ((-2147483648), 2147483647), (0, 40), ((-2147483648), 2147483647), (0, 4), ((-9223372036854775808), 9223372036854775807), ((-9223372036854775808), 9223372036854775807), ((-9223372036854775808), 9223372036854775807), (0, 1), ((-4000), 4000), ((-4000), 4000), ((-8000000), 8000000), ((-8000000), 8000000), (0, 12), ((-9223372036854775808), 9223372036854775807), ((-9223372036854775808), 9223372036854775807), ((-9223372036854775808), 9223372036854775807), ((-9223372036854775808), 9223372036854775807), ((-9223372036854775808), 9223372036854775807), (0, 12), ((-2147483648), 2147483647), (0, 12), ((-2147483648), 2147483647), (0, 40), (0, 40), (1, 1), (1, 4000), ((-4000), 4000), ((-8000000), 7999999), ((-8000000), 7999999), (0, 256000000000000), (1, 16000000), (0, 16000000), (1, 4611686018427387904), (1, 4611686018427387904), ((-16000000), 0)], [([(29, (-1)), (30, (-1)), (36, 1)], 0), ([(30, (-1)), (29, (-1))], (-1))]), [([(36, 1)], 0), ([(26, 1)], 0), ([(27, 1)], 0), ([(28, 1)], 0), ([(29, 1)], 0), ([(30, 1)], 0)], [], [.inr (.inr (.inl (998, 1, [([(29, 1), (30, 1)], 0), ([(35, 1)], 0), ([(36, 1)], 0)], [], []))), .inr (.inr (.inl (320, 0, [([(34, 1)], 0), ([(29, 1), (30, 1)], 0), ([(35, 1)], 0)], [], []))), .inr (.inr (.inl (320, 0, [([(27, 2)], 0), ([(28, 2)], 0), ([(34, 1)], 0)], [], []))), .inl (.inr (33, ([(28, 1)], 0), ([(28, 1)], 0))), .inl (.inr (32, ([(27, 1)], 0), ([(27, 1)], 0))), .inl (.inr (31, ([(29, (-1)), (30, 1)], 0), ([(29, (-1)), (30, 1)], 0))), .inr (.inr (.inl (331, 0, [([], 0), ([(2, 1)], 0), ([(3, 1)], 0), ([(4, 1)], 0), ([(5, 1)], 0), ([(6, 1)], 0), ([(7, 1)], 0), ([(8, 1)], 0), ([(9, 1)], 0), ([(10, 1)], 0), ([(11, 1)], 0), ([(12, 1)], 0), ([(13, 1)], 0), ([(14, 1)], 0), ([(15, 1)], 0), ([(16, 1)], 0), ([(17, 1)], 0), ([(18, 1)], 0), ([(19, 1)], 0), ([(20, 1)], 0), ([(21, 1)], 0), ([(22, 1)], 0), ([(23, 1)], 0), ([(24, 1)], 0), ([(25, 1)], 0), ([(26, 1)], 0), ([(27, 1)], 0), ([(28, 1)], 0), ([(29, 1)], 0), ([(30, 1)], 0)], [0, 1, 2, 3, 4, 5, 6, 7, 8, 9, 10, 11, 12, 13, 14, 15, 16, 17, 18, 19, 20, 21, 22, 23, 24, 25, 26, 27, 28, 29, 30, 31, 32, 33, 34, 35, 36], []))), .inr (.inr (.inl (258, 1, [([(0, 1)], 0), ([], 0), ([], 5)], [], [])))])
noncomputable def xe_1086_0_12 : yt_VC := (1000, ([(0, 5), ((-2147483648), 2147483647), ((-2147483648), 2147483647), (0, 40), ((-2147483648), 2147483647), (0, 4), ((-9223372036854775808), 9223372036854775807), ((-9223372036854775808), 9223372036854775807), ((-9223372036854775808), 9223372036854775807), (0, 1), ((-4000), 4000), ((-4000), 4000), ((-8000000), 8000000), ((-8000000), 8000000), (0, 12), ((-9223372036854775808), 9223372036854775807), ((-9223372036854775808), 9223372036854775807), ((-9223372036854775808), 9223372036854775807), ((-9223372036854775808), 9223372036854775807), ((-9223372036854775808), 9223372036854775807), (0, 12), ((-2147483648), 2147483647), (0, 12), ((-2147483648), 2147483647), (0, 40), (0, 40), (0, 0), (1, 4000), ((-4000), 4000), ((-8000000), 8000000), ((-8000000), 8000000)], []), [([], (-6)), ([(26, 1)], 0), ([(27, 1)], 0), ([(28, 1)], 0), ([(29, 1)], 0), ([(30, 1)], 0)], [], [.inr (.inr (.inl (331, 0, [([], 0), ([(2, 1)], 0), ([(3, 1)], 0), ([(4, 1)], 0), ([(5, 1)], 0), ([(6, 1)], 0), ([(7, 1)], 0), ([(8, 1)], 0), ([(9, 1)], 0), ([(10, 1)], 0), ([(11, 1)], 0), ([(12, 1)], 0), ([(13, 1)], 0), ([(14, 1)], 0), ([(15, 1)], 0), ([(16, 1)], 0), ([(17, 1)], 0), ([(18, 1)], 0), ([(19, 1)], 0), ([(20, 1)], 0), ([(21, 1)], 0), ([(22, 1)], 0), ([(23, 1)], 0), ([(24, 1)], 0), ([(25, 1)], 0), ([(26, 1)], 0), ([(27, 1)], 0), ([(28, 1)], 0), ([(29, 1)], 0), ([(30, 1)], 0)], [0, 1, 2, 3, 4, 5, 6, 7, 8, 9, 10, 11, 12, 13, 14, 15, 16, 17, 18, 19, 20, 21, 22, 23, 24, 25, 26, 27, 28, 29, 30, 31, 32, 33, 34, 35, 36], []))), .inr (.inr (.inl (258, 1, [([(0, 1)], 0), ([], 0), ([], 5)], [], [])))])
noncomputable def xe_1086_0_13 : yt_VC := (0, ([(5, 5), ((-2147483648), 2147483647), ((-2147483648), 2147483647), (1, 40), ((-2147483648), 2147483647), (0, 4), ((-9223372036854775808), 9223372036854775807), ((-9223372036854775808), 9223372036854775807), ((-9223372036854775808), 9223372036854775807), (0, 1), ((-4000), 4000), ((-4000), 4000), ((-8000000), 8000000), ((-8000000), 8000000), (0, 12), ((-9223372036854775808), 9223372036854775807), ((-9223372036854775808), 9223372036854775807), ((-9223372036854775808), 9223372036854775807), ((-9223372036854775808), 9223372036854775807), ((-9223372036854775808), 9223372036854775807), (0, 12), ((-2147483648), 2147483647), (0, 12), ((-2147483648), 2147483647), (0, 40), (0, 40), ((-1300), (-1)), ((-1300), 4000), ((-8000000), 5200000), ((-8000000), 8000000), (0, 256000000000000), (1, 1690000), (0, 16000000), (1, 4611686018427387904), (1, 4611686018427387904)], []), [([], 0), ([], 0), ([], 1), ([(26, 1)], 0), ([(27, 1)], 0), ([(28, 1)], 0), ([(29, 1)], 0)], [], [.inr (.inr (.inl (320, 0, [([(33, 1)], 0), ([(28, 1), (29, 1)], 0), ([(34, 1)], 0)], [], []))), .inr (.inr (.inl (321, 0, [([(26, 2)], 0), ([(27, 2)], 0), ([(33, 1)], 0)], [], []))), .inl (.inr (32, ([(27, 1)], 0), ([(27, 1)], 0))), .inl (.inr (31, ([(26, 1)], 0), ([(26, 1)], 0))), .inl (.inr (30, ([(28, (-1)), (29, 1)], 0), ([(28, (-1)), (29, 1)], 0))), .inr (.inr (.inl (331, 1, [([], 0), ([(2, 1)], 0), ([(3, 1)], 0), ([(4, 1)], 0), ([(5, 1)], 0), ([(6, 1)], 0), ([(7, 1)], 0), ([(8, 1)], 0), ([(9, 1)], 0), ([(10, 1)], 0), ([(11, 1)], 0), ([(12, 1)], 0), ([(13, 1)], 0), ([(14, 1)], 0), ([(15, 1)], 0), ([(16, 1)], 0), ([(17, 1)], 0), ([(18, 1)], 0), ([(19, 1)], 0), ([(20, 1)], 0), ([(21, 1)], 0), ([(22, 1)], 0), ([(23, 1)], 0), ([(24, 1)], 0), ([(25, 1)], 0), ([(26, 1)], 0), ([(27, 1)], 0), ([(28, 1)], 0), ([(29, 1)], 0)], [0, 1, 2, 3, 4, 5, 6, 7, 8, 9, 10, 11, 12, 13, 14, 15, 16, 17, 18, 19, 20, 21, 22, 23, 24, 25, 26, 27, 28, 29, 30, 31, 32, 33, 34, 35, 36], []))), .inr (.inr (.inl (258, 1, [([(0, 1)], 0), ([], 0), ([], 5)], [], [])))])
noncomputable def xe_1086_0_14 : yt_VC := (1000, ([(0, 0), ((-2147483648), 2147483647), ((-2147483648), 2147483647), (1, 40), ((-2147483648), 2147483647), (0, 4), ((-9223372036854775808), 9223372036854775807), ((-9223372036854775808), 9223372036854775807), ((-9223372036854775808), 9223372036854775807), (0, 1), ((-4000), 4000), ((-4000), 4000), ((-8000000), 8000000), ((-8000000), 8000000), (0, 12), ((-9223372036854775808), 9223372036854775807), ((-9223372036854775808), 9223372036854775807), ((-9223372036854775808), 9223372036854775807), ((-9223372036854775808), 9223372036854775807), ((-9223372036854775808), 9223372036854775807), (0, 12), ((-2147483648), 2147483647), (0, 12), ((-2147483648), 2147483647), (0, 40), (0, 40), ((-1300), (-1)), ((-1300), 4000), ((-8000000), 5200000), ((-8000000), 8000000), (0, 256000000000000), (1, 1690000), (0, 16000000), (1, 4611686018427387904), (1, 4611686018427387904), ((-4611686018427387904), 4611686018427387904)], []), [([(35, 1)], 0), ([], 1), ([(26, 1)], 0), ([(27, 1)], 0), ([(28, 1)], 0), ([(29, 1)], 0)], [], [.inr (.inr (.inl (332, 0, [([(30, 1)], 0), ([(32, 1), (31, 1)], 0), ([], 1), ([(35, 1)], 0)], [], []))), .inr (.inr (.inl (320, 0, [([(33, 1)], 0), ([(28, 1), (29, 1)], 0), ([(34, 1)], 0)], [], []))), .inr (.inr (.inl (321, 0, [([(26, 2)], 0), ([(27, 2)], 0), ([(33, 1)], 0)], [], []))), .inl (.inr (32, ([(27, 1)], 0), ([(27, 1)], 0))), .inl (.inr (31, ([(26, 1)], 0), ([(26, 1)], 0))), .inl (.inr (30, ([(28, (-1)), (29, 1)], 0), ([(28, (-1)), (29, 1)], 0))), .inr (.inr (.inl (331, 1, [([], 0), ([(2, 1)], 0), ([(3, 1)], 0), ([(4, 1)], 0), ([(5, 1)], 0), ([(6, 1)], 0), ([(7, 1)], 0), ([(8, 1)], 0), ([(9, 1)], 0), ([(10, 1)], 0), ([(11, 1)], 0), ([(12, 1)], 0), ([(13, 1)], 0), ([(14, 1)], 0), ([(15, 1)], 0), ([(16, 1)], 0), ([(17, 1)], 0), ([(18, 1)], 0), ([(19, 1)], 0), ([(20, 1)], 0), ([(21, 1)], 0), ([(22, 1)], 0), ([(23, 1)], 0), ([(24, 1)], 0), ([(25, 1)], 0), ([(26, 1)], 0), ([(27, 1)], 0), ([(28, 1)], 0), ([(29, 1)], 0)], [0, 1, 2, 3, 4, 5, 6, 7, 8, 9, 10, 11, 12, 13, 14, 15, 16, 17, 18, 19, 20, 21, 22, 23, 24, 25, 26, 27, 28, 29, 30, 31, 32, 33, 34, 35, 36], []))), .inr (.inr (.inl (258, 1, [([(0, 1)], 0), ([], 0), ([], 5)], [], [])))])
noncomputable def xe_1086_0_15 : yt_VC := (1000, ([(1, 1), ((-2147483648), 2147483647), ((-2147483648), 2147483647), (1, 40), ((-2147483648), 2147483647), (0, 4), ((-9223372036854775808), 9223372036854775807), ((-9223372036854775808), 9223372036854775807), ((-9223372036854775808), 9223372036854775807), (0, 1), ((-4000), 4000), ((-4000), 4000), ((-8000000), 8000000), ((-8000000), 8000000), (0, 12), ((-9223372036854775808), 9223372036854775807), ((-9223372036854775808), 9223372036854775807), ((-9223372036854775808), 9223372036854775807), ((-9223372036854775808), 9223372036854775807), ((-9223372036854775808), 9223372036854775807), (0, 12), ((-2147483648), 2147483647), (0, 12), ((-2147483648), 2147483647), (0, 40), (0, 40), ((-1300), (-1)), ((-1300), 4000), ((-8000000), 5200000), ((-8000000), 8000000), (0, 256000000000000), (1, 1690000), (0, 16000000), (1, 4611686018427387904), (1, 4611686018427387904), ((-4611686018427387904), 4611686018427387904)], []), [([(35, 1)], 0), ([], 1), ([(26, 1)], 0), ([(27, 1)], 0), ([(28, 1)], 0), ([(29, 1)], 0)], [], [.inr (.inr (.inl (332, 0, [([(30, 1)], 0), ([(32, 1), (31, 1)], 0), ([], 0), ([(35, 1)], 0)], [], []))), .inr (.inr (.inl (320, 0, [([(33, 1)], 0), ([(28, 1), (29, 1)], 0), ([(34, 1)], 0)], [], []))), .inr (.inr (.inl (321, 0, [([(26, 2)], 0), ([(27, 2)], 0), ([(33, 1)], 0)], [], []))), .inl (.inr (32, ([(27, 1)], 0), ([(27, 1)], 0))), .inl (.inr (31, ([(26, 1)], 0), ([(26, 1)], 0))), .inl (.inr (30, ([(28, (-1)), (29, 1)], 0), ([(28, (-1)), (29, 1)], 0))), .inr (.inr (.inl (331, 1, [([], 0), ([(2, 1)], 0), ([(3, 1)], 0), ([(4, 1)], 0), ([(5, 1)], 0), ([(6, 1)], 0), ([(7, 1)], 0), ([(8, 1)], 0), ([(9, 1)], 0), ([(10, 1)], 0), ([(11, 1)], 0), ([(12, 1)], 0), ([(13, 1)], 0), ([(14, 1)], 0), ([(15, 1)], 0), ([(16, 1)], 0), ([(17, 1)], 0), ([(18, 1)], 0), ([(19, 1)], 0), ([(20, 1)], 0), ([(21, 1)], 0), ([(22, 1)], 0), ([(23, 1)], 0), ([(24, 1)], 0), ([(25, 1)], 0), ([(26, 1)], 0), ([(27, 1)], 0), ([(28, 1)], 0), ([(29, 1)], 0)], [0, 1, 2, 3, 4, 5, 6, 7, 8, 9, 10, 11, 12, 13, 14, 15, 16, 17, 18, 19, 20, 21, 22, 23, 24, 25, 26, 27, 28, 29, 30, 31, 32, 33, 34, 35, 36], []))), .inr (.inr (.inl (258, 1, [([(0, 1)], 0), ([], 0), ([], 5)], [], [])))])
noncomputable def xe_1086_0_16 : yt_VC := (1000, ([(2, 2), ((-2147483648), 2147483647), ((-2147483648), 2147483647), (1, 40), ((-2147483648), 2147483647), (0, 4), ((-9223372036854775808), 9223372036854775807), ((-9223372036854775808), 9223372036854775807), ((-9223372036854775808), 9223372036854775807), (0, 1), ((-4000), 4000), ((-4000), 4000), ((-8000000), 8000000), ((-8000000), 8000000), (0, 12), ((-9223372036854775808), 9223372036854775807), ((-9223372036854775808), 9223372036854775807), ((-9223372036854775808), 9223372036854775807), ((-9223372036854775808), 9223372036854775807), ((-9223372036854775808), 9223372036854775807), (0, 12), ((-2147483648), 2147483647), (0, 12), ((-2147483648), 2147483647), (0, 40), (0, 40), ((-1300), (-1)), ((-1300), 4000), ((-8000000), 5200000), ((-8000000), 8000000), (0, 256000000000000), (1, 1690000), (0, 16000000), (1, 4611686018427387904), (1, 4611686018427387904), ((-2600), 0)], [([(26, (-2)), (35, 1)], 0), ([(26, (-2))], (-1))]), [([(35, 1)], 0), ([], 1), ([(26, 1)], 0), ([(27, 1)], 0), ([(28, 1)], 0), ([(29, 1)], 0)], [], [.inr (.inr (.inl (998, 1, [([(26, 2)], 0), ([(34, 1)], 0), ([(35, 1)], 0)], [], []))), .inr (.inr (.inl (320, 0, [([(33, 1)], 0), ([(28, 1), (29, 1)], 0), ([(34, 1)], 0)], [], []))), .inr (.inr (.inl (321, 0, [([(26, 2)], 0), ([(27, 2)], 0), ([(33, 1)], 0)], [], []))), .inl (.inr (32, ([(27, 1)], 0), ([(27, 1)], 0))), .inl (.inr (31, ([(26, 1)], 0), ([(26, 1)], 0))), .inl (.inr (30, ([(28, (-1)), (29, 1)], 0), ([(28, (-1)), (29, 1)], 0))), .inr (.inr (.inl (331, 1, [([], 0), ([(2, 1)], 0), ([(3, 1)], 0), ([(4, 1)], 0), ([(5, 1)], 0), ([(6, 1)], 0), ([(7, 1)], 0), ([(8, 1)], 0), ([(9, 1)], 0), ([(10, 1)], 0), ([(11, 1)], 0), ([(12, 1)], 0), ([(13, 1)], 0), ([(14, 1)], 0), ([(15, 1)], 0), ([(16, 1)], 0), ([(17, 1)], 0), ([(18, 1)], 0), ([(19, 1)], 0), ([(20, 1)], 0), ([(21, 1)], 0), ([(22, 1)], 0), ([(23, 1)], 0), ([(24, 1)], 0), ([(25, 1)], 0), ([(26, 1)], 0), ([(27, 1)], 0), ([(28, 1)], 0), ([(29, 1)], 0)], [0, 1, 2, 3, 4, 5, 6, 7, 8, 9, 10, 11, 12, 13, 14, 15, 16, 17, 18, 19, 20, 21, 22, 23, 24, 25, 26, 27, 28, 29, 30, 31, 32, 33, 34, 35, 36], []))), .inr (.inr (.inl (258, 1, [([(0, 1)], 0), ([], 0), ([], 5)], [], [])))])
noncomputable def xe_1086_0_17 : yt_VC := (1000, ([(3, 3), ((-2147483648), 2147483647), ((-2147483648), 2147483647), (1, 40), ((-2147483648), 2147483647), (0, 4), ((-9223372036854775808), 9223372036854775807), ((-9223372036854775808), 9223372036854775807), ((-9223372036854775808), 9223372036854775807), (0, 1), ((-4000), 4000), ((-4000), 4000), ((-8000000), 8000000), ((-8000000), 8000000), (0, 12), ((-9223372036854775808), 9223372036854775807), ((-9223372036854775808), 9223372036854775807), ((-9223372036854775808), 9223372036854775807), ((-9223372036854775808), 9223372036854775807), ((-9223372036854775808), 9223372036854775807), (0, 12), ((-2147483648), 2147483647), (0, 12), ((-2147483648), 2147483647), (0, 40), (0, 40), ((-1300), (-1)), ((-1300), 4000), ((-8000000), 5200000), ((-8000000), 8000000), (0, 256000000000000), (1, 1690000), (0, 16000000), (1, 4611686018427387904), (1, 4611686018427387904), (0, 0)], [([(34, 1), (27, (-2))], (-1)), ([(27, 2)], 0)]), [([], 0), ([], 1), ([(26, 1)], 0), ([(27, 1)], 0), ([(28, 1)], 0), ([(29, 1)], 0)], [], [.inr (.inr (.inl (998, 1, [([(27, 2)], 0), ([(34, 1)], 0), ([], 0)], [], []))), .inr (.inr (.inl (320, 0, [([(33, 1)], 0), ([(28, 1), (29, 1)], 0), ([(34, 1)], 0)], [], []))), .inr (.inr (.inl (321, 0, [([(26, 2)], 0), ([(27, 2)], 0), ([(33, 1)], 0)], [], []))), .inl (.inr (32, ([(27, 1)], 0), ([(27, 1)], 0))), .inl (.inr (31, ([(26, 1)], 0), ([(26, 1)], 0))), .inl (.inr (30, ([(28, (-1)), (29, 1)], 0), ([(28, (-1)), (29, 1)], 0))), .inr (.inr (.inl (331, 1, [([], 0), ([(2, 1)], 0), ([(3, 1)], 0), ([(4, 1)], 0), ([(5, 1)], 0), ([(6, 1)], 0), ([(7, 1)], 0), ([(8, 1)], 0), ([(9, 1)], 0), ([(10, 1)], 0), ([(11, 1)], 0), ([(12, 1)], 0), ([(13, 1)], 0), ([(14, 1)], 0), ([(15, 1)], 0), ([(16, 1)], 0), ([(17, 1)], 0), ([(18, 1)], 0), ([(19, 1)], 0), ([(20, 1)], 0), ([(21, 1)], 0), ([(22, 1)], 0), ([(23, 1)], 0), ([(24, 1)], 0), ([(25, 1)], 0), ([(26, 1)], 0), ([(27, 1)], 0), ([(28, 1)], 0), ([(29, 1)], 0)], [0, 1, 2, 3, 4, 5, 6, 7, 8, 9, 10, 11, 12, 13, 14, 15, 16, 17, 18, 19, 20, 21, 22, 23, 24, 25, 26, 27, 28, 29, 30, 31, 32, 33, 34, 35, 36], []))), .inr (.inr (.inl (258, 1, [([(0, 1)], 0), ([], 0), ([], 5)], [], [])))])
noncomputable def xe_1086_0_18 : yt_VC := (1000, ([(3, 3), ((-2147483648), 2147483647), ((-2147483648), 2147483647), (1, 40), ((-2147483648), 2147483647), (0, 4), ((-9223372036854775808), 9223372036854775807), ((-9223372036854775808), 9223372036854775807), ((-9223372036854775808), 9223372036854775807), (0, 1), ((-4000), 4000), ((-4000), 4000), ((-8000000), 8000000), ((-8000000), 8000000), (0, 12), ((-9223372036854775808), 9223372036854775807), ((-9223372036854775808), 9223372036854775807), ((-9223372036854775808), 9223372036854775807), ((-9223372036854775808), 9223372036854775807), ((-9223372036854775808), 9223372036854775807), (0, 12), ((-2147483648), 2147483647), (0, 12), ((-2147483648), 2147483647), (0, 40), (0, 40), ((-1300), (-1)), ((-1300), 4000), ((-8000000), 5200000), ((-8000000), 8000000), (0, 256000000000000), (1, 1690000), (0, 16000000), (1, 4611686018427387904), (1, 8000), (1, 8000)], [([(35, (-1)), (27, 2)], 0), ([(34, (-1)), (27, 2)], 0)]), [([(35, 1)], 0), ([], 1), ([(26, 1)], 0), ([(27, 1)], 0), ([(28, 1)], 0), ([(29, 1)], 0)], [], [.inr (.inr (.inl (998, 1, [([(27, 2)], 0), ([(34, 1)], 0), ([(35, 1)], 0)], [], []))), .inr (.inr (.inl (320, 0, [([(33, 1)], 0), ([(28, 1), (29, 1)], 0), ([(34, 1)], 0)], [], []))), .inr (.inr (.inl (321, 0, [([(26, 2)], 0), ([(27, 2)], 0), ([(33, 1)], 0)], [], []))), .inl (.inr (32, ([(27, 1)], 0), ([(27, 1)], 0))), .inl (.inr (31, ([(26, 1)], 0), ([(26, 1)], 0))), .inl (.inr (30, ([(28, (-1)), (29, 1)], 0), ([(28, (-1)), (29, 1)], 0))), .inr (.inr (.inl (331, 1, [([], 0), ([(2, 1)], 0), ([(3, 1)], 0), ([(4, 1)], 0), ([(5, 1)], 0), ([(6, 1)], 0), ([(7, 1)], 0), ([(8, 1)], 0), ([(9, 1)], 0), ([(10, 1)], 0), ([(11, 1)], 0), ([(12, 1)], 0), ([(13, 1)], 0), ([(14, 1)], 0), ([(15, 1)], 0), ([(16, 1)], 0), ([(17, 1)], 0), ([(18, 1)], 0), ([(19, 1)], 0), ([(20, 1)], 0), ([(21, 1)], 0), ([(22, 1)], 0), ([(23, 1)], 0), ([(24, 1)], 0), ([(25, 1)], 0), ([(26, 1)], 0), ([(27, 1)], 0), ([(28, 1)], 0), ([(29, 1)], 0)], [0, 1, 2, 3, 4, 5, 6, 7, 8, 9, 10, 11, 12, 13, 14, 15, 16, 17, 18, 19, 20, 21, 22, 23, 24, 25, 26, 27, 28, 29, 30, 31, 32, 33, 34, 35, 36], []))), .inr (.inr (.inl (258, 1, [([(0, 1)], 0), ([], 0), ([], 5)], [], [])))])
noncomputable def xe_1086_0_19 : yt_VC := (1000, ([(3, 3), ((-2147483648), 2147483647), ((-2147483648), 2147483647), (1, 40), ((-2147483648), 2147483647), (0, 4), ((-9223372036854775808), 9223372036854775807), ((-9223372036854775808), 9223372036854775807), ((-9223372036854775808), 9223372036854775807), (0, 1), ((-4000), 4000), ((-4000), 4000), ((-8000000), 8000000), ((-8000000), 8000000), (0, 12), ((-9223372036854775808), 9223372036854775807), ((-9223372036854775808), 9223372036854775807), ((-9223372036854775808), 9223372036854775807), ((-9223372036854775808), 9223372036854775807), ((-9223372036854775808), 9223372036854775807), (0, 12), ((-2147483648), 2147483647), (0, 12), ((-2147483648), 2147483647), (0, 40), (0, 40), ((-1300), (-1)), ((-1300), 4000), ((-8000000), 5200000), ((-8000000), 8000000), (0, 256000000000000), (1, 1690000), (0, 16000000), (1, 4611686018427387904), (1, 4611686018427387904), ((-2600), 0)], [([(27, (-2)), (35, 1)], 0), ([(27, (-2))], (-1))]), [([(35, 1)], 0), ([], 1), ([(26, 1)], 0), ([(27, 1)], 0), ([(28, 1)], 0), ([(29, 1)], 0)], [], [.inr (.inr (.inl (998, 1, [([(27, 2)], 0), ([(34, 1)], 0), ([(35, 1)], 0)], [], []))), .inr (.inr (.inl (320, 0, [([(33, 1)], 0), ([(28, 1), (29, 1)], 0), ([(34, 1)], 0)], [], []))), .inr (.inr (.inl (321, 0, [([(26, 2)], 0), ([(27, 2)], 0), ([(33, 1)], 0)], [], []))), .inl (.inr (32, ([(27, 1)], 0), ([(27, 1)], 0))), .inl (.inr (31, ([(26, 1)], 0), ([(26, 1)], 0))), .inl (.inr (30, ([(28, (-1)), (29, 1)], 0), ([(28, (-1)), (29, 1)], 0))), .inr (.inr (.inl (331, 1, [([], 0), ([(2, 1)], 0), ([(3, 1)], 0), ([(4, 1)], 0), ([(5, 1)], 0), ([(6, 1)], 0), ([(7, 1)], 0), ([(8, 1)], 0), ([(9, 1)], 0), ([(10, 1)], 0), ([(11, 1)], 0), ([(12, 1)], 0), ([(13, 1)], 0), ([(14, 1)], 0), ([(15, 1)], 0), ([(16, 1)], 0), ([(17, 1)], 0), ([(18, 1)], 0), ([(19, 1)], 0), ([(20, 1)], 0), ([(21, 1)], 0), ([(22, 1)], 0), ([(23, 1)], 0), ([(24, 1)], 0), ([(25, 1)], 0), ([(26, 1)], 0), ([(27, 1)], 0), ([(28, 1)], 0), ([(29, 1)], 0)], [0, 1, 2, 3, 4, 5, 6, 7, 8, 9, 10, 11, 12, 13, 14, 15, 16, 17, 18, 19, 20, 21, 22, 23, 24, 25, 26, 27, 28, 29, 30, 31, 32, 33, 34, 35, 36], []))), .inr (.inr (.inl (258, 1, [([(0, 1)], 0), ([], 0), ([], 5)], [], [])))])
noncomputable def xe_1086_0_20 : yt_VC := (1000, ([(4, 4), ((-2147483648), 2147483647), ((-2147483648), 2147483647), (1, 40), ((-2147483648), 2147483647), (0, 4), ((-9223372036854775808), 9223372036854775807), ((-9223372036854775808), 9223372036854775807), ((-9223372036854775808), 9223372036854775807), (0, 1), ((-4000), 4000), ((-4000), 4000), ((-8000000), 8000000), ((-8000000), 8000000), (0, 12), ((-9223372036854775808), 9223372036854775807), ((-9223372036854775808), 9223372036854775807), ((-9223372036854775808), 9223372036854775807), ((-9223372036854775808), 9223372036854775807), ((-9223372036854775808), 9223372036854775807), (0, 12), ((-2147483648), 2147483647), (0, 12), ((-2147483648), 2147483647), (0, 40), (0, 40), ((-1300), (-1)), ((-1300), 4000), ((-8000000), 5200000), ((-5200000), 8000000), (0, 256000000000000), (1, 1690000), (0, 16000000), (1, 4611686018427387904), (1, 4611686018427387904), (0, 0)], [([(34, 1), (29, (-1)), (28, (-1))], (-1)), ([(28, 1), (29, 1)], 0)]), [([], 0), ([], 1), ([(26, 1)], 0), ([(27, 1)], 0), ([(28, 1)], 0), ([(29, 1)], 0)], [], [.inr (.inr (.inl (998, 1, [([(28, 1), (29, 1)], 0), ([(34, 1)], 0), ([], 0)], [], []))), .inr (.inr (.inl (320, 0, [([(33, 1)], 0), ([(28, 1), (29, 1)], 0), ([(34, 1)], 0)], [], []))), .inr (.inr (.inl (321, 0, [([(26, 2)], 0), ([(27, 2)], 0), ([(33, 1)], 0)], [], []))), .inl (.inr (32, ([(27, 1)], 0), ([(27, 1)], 0))), .inl (.inr (31, ([(26, 1)], 0), ([(26, 1)], 0))), .inl (.inr (30, ([(28, (-1)), (29, 1)], 0), ([(28, (-1)), (29, 1)], 0))), .inr (.inr (.inl (331, 1, [([], 0), ([(2, 1)], 0), ([(3, 1)], 0), ([(4, 1)], 0), ([(5, 1)], 0), ([(6, 1)], 0), ([(7, 1)], 0), ([(8, 1)], 0), ([(9, 1)], 0), ([(10, 1)], 0), ([(11, 1)], 0), ([(12, 1)], 0), ([(13, 1)], 0), ([(14, 1)], 0), ([(15, 1)], 0), ([(16, 1)], 0), ([(17, 1)], 0), ([(18, 1)], 0), ([(19, 1)], 0), ([(20, 1)], 0), ([(21, 1)], 0), ([(22, 1)], 0), ([(23, 1)], 0), ([(24, 1)], 0), ([(25, 1)], 0), ([(26, 1)], 0), ([(27, 1)], 0), ([(28, 1)], 0), ([(29, 1)], 0)], [0, 1, 2, 3, 4, 5, 6, 7, 8, 9, 10, 11, 12, 13, 14, 15, 16, 17, 18, 19, 20, 21, 22, 23, 24, 25, 26, 27, 28, 29, 30, 31, 32, 33, 34, 35, 36], []))), .inr (.inr (.inl (258, 1, [([(0, 1)], 0), ([], 0), ([], 5)], [], [])))])
noncomputable def xe_1086_0_21 : yt_VC := (1000, ([(4, 4), ((-2147483648), 2147483647), ((-2147483648), 2147483647), (1, 40), ((-2147483648), 2147483647), (0, 4), ((-9223372036854775808), 9223372036854775807), ((-9223372036854775808), 9223372036854775807), ((-9223372036854775808), 9223372036854775807), (0, 1), ((-4000), 4000), ((-4000), 4000), ((-8000000), 8000000), ((-8000000), 8000000), (0, 12), ((-9223372036854775808), 9223372036854775807), ((-9223372036854775808), 9223372036854775807), ((-9223372036854775808), 9223372036854775807), ((-9223372036854775808), 9223372036854775807), ((-9223372036854775808), 9223372036854775807), (0, 12), ((-2147483648), 2147483647), (0, 12), ((-2147483648), 2147483647), (0, 40), (0, 40), ((-1300), (-1)), ((-1300), 4000), ((-7999999), 5200000), ((-5199999), 8000000), (0, 256000000000000), (1, 1690000), (0, 16000000), (1, 4611686018427387904), (1, 13200000), (1, 13200000)], [([(35, (-1)), (29, 1), (28, 1)], 0), ([(34, (-1)), (29, 1), (28, 1)], 0)]), [([(35, 1)], 0), ([], 1), ([(26, 1)], 0), ([(27, 1)], 0), ([(28, 1)], 0), ([(29, 1)], 0)], [], [.inr (.inr (.inl (998, 1, [([(28, 1), (29, 1)], 0), ([(34, 1)], 0), ([(35, 1)], 0)], [], []))), .inr (.inr (.inl (320, 0, [([(33, 1)], 0), ([(28, 1), (29, 1)], 0), ([(34, 1)], 0)], [], []))), .inr (.inr (.inl (321, 0, [([(26, 2)], 0), ([(27, 2)], 0), ([(33, 1)], 0)], [], []))), .inl (.inr (32, ([(27, 1)], 0), ([(27, 1)], 0))), .inl (.inr (31, ([(26, 1)], 0), ([(26, 1)], 0))), .inl (.inr (30, ([(28, (-1)), (29, 1)], 0), ([(28, (-1)), (29, 1)], 0))), .inr (.inr (.inl (331, 1, [([], 0), ([(2, 1)], 0), ([(3, 1)], 0), ([(4, 1)], 0), ([(5, 1)], 0), ([(6, 1)], 0), ([(7, 1)], 0), ([(8, 1)], 0), ([(9, 1)], 0), ([(10, 1)], 0), ([(11, 1)], 0), ([(12, 1)], 0), ([(13, 1)], 0), ([(14, 1)], 0), ([(15, 1)], 0), ([(16, 1)], 0), ([(17, 1)], 0), ([(18, 1)], 0), ([(19, 1)], 0), ([(20, 1)], 0), ([(21, 1)], 0), ([(22, 1)], 0), ([(23, 1)], 0), ([(24, 1)], 0), ([(25, 1)], 0), ([(26, 1)], 0), ([(27, 1)], 0), ([(28, 1)], 0), ([(29, 1)], 0)], [0, 1, 2, 3, 4, 5, 6, 7, 8, 9, 10, 11, 12, 13, 14, 15, 16, 17, 18, 19, 20, 21, 22, 23, 24, 25, 26, 27, 28, 29, 30, 31, 32, 33, 34, 35, 36], []))), .inr (.inr (.inl (258, 1, [([(0, 1)], 0), ([], 0), ([], 5)], [], [])))])
noncomputable def xe_1086_0_22 : yt_VC := (1000, ([(4, 4), ((-2147483648), 2147483647), ((-2147483648), 2147483647), (1, 40), ((-2147483648), 2147483647), (0, 4), ((-9223372036854775808), 9223372036854775807), ((-9223372036854775808), 9223372036854775807), ((-9223372036854775808), 9223372036854775807), (0, 1), ((-4000), 4000), ((-4000), 4000), ((-8000000), 8000000), ((-8000000), 8000000), (0, 12), ((-9223372036854775808), 9223372036854775807), ((-9223372036854775808), 9223372036854775807), ((-9223372036854775808), 9223372036854775807), ((-9223372036854775808), 9223372036854775807), ((-9223372036854775808), 9223372036854775807), (0, 12), ((-2147483648), 2147483647), (0, 12), ((-2147483648), 2147483647), (0, 40), (0, 40), ((-1300), (-1)), ((-1300), 4000), ((-8000000), 5200000), ((-8000000), 7999999), (0, 256000000000000), (1, 1690000), (0, 16000000), (1, 4611686018427387904), (1, 4611686018427387904), ((-16000000), 0)], [([(28, (-1)), (29, (-1)), (35, 1)], 0), ([(29, (-1)), (28, (-1))], (-1))]), [([(35, 1)], 0), ([], 1), ([(26, 1)], 0), ([(27, 1)], 0), ([(28, 1)], 0), ([(29, 1)], 0)], [], [.inr (.inr (.inl (998, 1, [([(28, 1), (29, 1)], 0), ([(34, 1)], 0), ([(35, 1)], 0)], [], []))), .inr (.inr (.inl (320, 0, [([(33, 1)], 0), ([(28, 1), (29, 1)], 0), ([(34, 1)], 0)], [], []))), .inr (.inr (.inl (321, 0, [([(26, 2)], 0), ([(27, 2)], 0), ([(33, 1)], 0)], [], []))), .inl (.inr (32, ([(27, 1)], 0), ([(27, 1)], 0))), .inl (.inr (31, ([(26, 1)], 0), ([(26, 1)], 0))), .inl (.inr (30, ([(28, (-1)), (29, 1)], 0), ([(28, (-1)), (29, 1)], 0))), .inr (.inr (.inl (331, 1, [([], 0), ([(2, 1)], 0), ([(3, 1)], 0), ([(4, 1)], 0), ([(5, 1)], 0), ([(6, 1)], 0), ([(7, 1)], 0), ([(8, 1)], 0), ([(9, 1)], 0), ([(10, 1)], 0), ([(11, 1)], 0), ([(12, 1)], 0), ([(13, 1)], 0), ([(14, 1)], 0), ([(15, 1)], 0), ([(16, 1)], 0), ([(17, 1)], 0), ([(18, 1)], 0), ([(19, 1)], 0), ([(20, 1)], 0), ([(21, 1)], 0), ([(22, 1)], 0), ([(23, 1)], 0), ([(24, 1)], 0), ([(25, 1)], 0), ([(26, 1)], 0), ([(27, 1)], 0), ([(28, 1)], 0), ([(29, 1)], 0)], [0, 1, 2, 3, 4, 5, 6, 7, 8, 9, 10, 11, 12, 13, 14, 15, 16, 17, 18, 19, 20, 21, 22, 23, 24, 25, 26, 27, 28, 29, 30, 31, 32, 33, 34, 35, 36], []))), .inr (.inr (.inl (258, 1, [([(0, 1)], 0), ([], 0), ([], 5)], [], [])))])
noncomputable def xe_1086_0_23 : yt_VC := (0, ([(5, 5), ((-2147483648), 2147483647), ((-2147483648), 2147483647), (1, 40), ((-2147483648), 2147483647), (0, 4), ((-9223372036854775808), 9223372036854775807), ((-9223372036854775808), 9223372036854775807), ((-9223372036854775808), 9223372036854775807), (0, 1), ((-4000), 4000), ((-4000), 4000), ((-8000000), 8000000), ((-8000000), 8000000), (0, 12), ((-9223372036854775808), 9223372036854775807), ((-9223372036854775808), 9223372036854775807), ((-9223372036854775808), 9223372036854775807), ((-9223372036854775808), 9223372036854775807), ((-9223372036854775808), 9223372036854775807), (0, 12), ((-2147483648), 2147483647), (0, 12), ((-2147483648), 2147483647), (0, 40), (0, 40), (1, 4000), ((-8000000), 4000000), ((-1200000), 8000000), (0, 256000000000000), (1, 16000000), (1, 4611686018427387904), (1, 4611686018427387904)], []), [([], 0), ([], 0), ([], 1), ([], 0), ([(26, 1)], 0), ([(27, 1)], 0), ([(28, 1)], 0)], [], [.inr (.inr (.inl (320, 0, [([(31, 1)], 0), ([(27, 1), (28, 1)], 0), ([(32, 1)], 0)], [], []))), .inr (.inr (.inl (322, 0, [([], 0), ([(26, 2)], 0), ([(31, 1)], 0)], [], []))), .inl (.inr (30, ([(26, 1)], 0), ([(26, 1)], 0))), .inl (.inr (29, ([(27, (-1)), (28, 1)], 0), ([(27, (-1)), (28, 1)], 0))), .inr (.inr (.inl (331, 2, [([], 0), ([(2, 1)], 0), ([(3, 1)], 0), ([(4, 1)], 0), ([(5, 1)], 0), ([(6, 1)], 0), ([(7, 1)], 0), ([(8, 1)], 0), ([(9, 1)], 0), ([(10, 1)], 0), ([(11, 1)], 0), ([(12, 1)], 0), ([(13, 1)], 0), ([(14, 1)], 0), ([(15, 1)], 0), ([(16, 1)], 0), ([(17, 1)], 0), ([(18, 1)], 0), ([(19, 1)], 0), ([(20, 1)], 0), ([(21, 1)], 0), ([(22, 1)], 0), ([(23, 1)], 0), ([(24, 1)], 0), ([(25, 1)], 0), ([(26, 1)], 0), ([(27, 1)], 0), ([(28, 1)], 0)], [0, 1, 2, 3, 4, 5, 6, 7, 8, 9, 10, 11, 12, 13, 14, 15, 16, 17, 18, 19, 20, 21, 22, 23, 24, 25, 26, 27, 28, 29, 30, 31, 32, 33, 34, 35, 36], []))), .inr (.inr (.inl (258, 1, [([(0, 1)], 0), ([], 0), ([], 5)], [], [])))])
noncomputable def xe_1086_0_24 : yt_VC := (1000, ([(0, 0), ((-2147483648), 2147483647), ((-2147483648), 2147483647), (1, 40), ((-2147483648), 2147483647), (0, 4), ((-9223372036854775808), 9223372036854775807), ((-9223372036854775808), 9223372036854775807), ((-9223372036854775808), 9223372036854775807), (0, 1), ((-4000), 4000), ((-4000), 4000), ((-8000000), 8000000), ((-8000000), 8000000), (0, 12), ((-9223372036854775808), 9223372036854775807), ((-9223372036854775808), 9223372036854775807), ((-9223372036854775808), 9223372036854775807), ((-9223372036854775808), 9223372036854775807), ((-9223372036854775808), 9223372036854775807), (0, 12), ((-2147483648), 2147483647), (0, 12), ((-2147483648), 2147483647), (0, 40), (0, 40), (1, 4000), ((-8000000), 4000000), ((-1200000), 8000000), (0, 256000000000000), (1, 16000000), (1, 4611686018427387904), (1, 4611686018427387904), ((-4611686018427387904), 4611686018427387904)], []), [([(33, 1)], 0), ([], 1), ([], 0), ([(26, 1)], 0), ([(27, 1)], 0), ([(28, 1)], 0)], [], [.inr (.inr (.inl (332, 0, [([(29, 1)], 0), ([(30, 1)], 0), ([], 1), ([(33, 1)], 0)], [], []))), .inr (.inr (.inl (320, 0, [([(31, 1)], 0), ([(27, 1), (28, 1)], 0), ([(32, 1)], 0)], [], []))), .inr (.inr (.inl (322, 0, [([], 0), ([(26, 2)], 0), ([(31, 1)], 0)], [], []))), .inl (.inr (30, ([(26, 1)], 0), ([(26, 1)], 0))), .inl (.inr (29, ([(27, (-1)), (28, 1)], 0), ([(27, (-1)), (28, 1)], 0))), .inr (.inr (.inl (331, 2, [([], 0), ([(2, 1)], 0), ([(3, 1)], 0), ([(4, 1)], 0), ([(5, 1)], 0), ([(6, 1)], 0), ([(7, 1)], 0), ([(8, 1)], 0), ([(9, 1)], 0), ([(10, 1)], 0), ([(11, 1)], 0), ([(12, 1)], 0), ([(13, 1)], 0), ([(14, 1)], 0), ([(15, 1)], 0), ([(16, 1)], 0), ([(17, 1)], 0), ([(18, 1)], 0), ([(19, 1)], 0), ([(20, 1)], 0), ([(21, 1)], 0), ([(22, 1)], 0), ([(23, 1)], 0), ([(24, 1)], 0), ([(25, 1)], 0), ([(26, 1)], 0), ([(27, 1)], 0), ([(28, 1)], 0)], [0, 1, 2, 3, 4, 5, 6, 7, 8, 9, 10, 11, 12, 13, 14, 15, 16, 17, 18, 19, 20, 21, 22, 23, 24, 25, 26, 27, 28, 29, 30, 31, 32, 33, 34, 35, 36], []))), .inr (.inr (.inl (258, 1, [([(0, 1)], 0), ([], 0), ([], 5)], [], [])))])
noncomputable def xe_1086_0_25 : yt_VC := (1000, ([(1, 1), ((-2147483648), 2147483647), ((-2147483648), 2147483647), (1, 40), ((-2147483648), 2147483647), (0, 4), ((-9223372036854775808), 9223372036854775807), ((-9223372036854775808), 9223372036854775807), ((-9223372036854775808), 9223372036854775807), (0, 1), ((-4000), 4000), ((-4000), 4000), ((-8000000), 8000000), ((-8000000), 8000000), (0, 12), ((-9223372036854775808), 9223372036854775807), ((-9223372036854775808), 9223372036854775807), ((-9223372036854775808), 9223372036854775807), ((-9223372036854775808), 9223372036854775807), ((-9223372036854775808), 9223372036854775807), (0, 12), ((-2147483648), 2147483647), (0, 12), ((-2147483648), 2147483647), (0, 40), (0, 40), (1, 4000), ((-8000000), 4000000), ((-1200000), 8000000), (0, 256000000000000), (1, 16000000), (1, 4611686018427387904), (1, 4611686018427387904), ((-4611686018427387904), 4611686018427387904)], []), [([(33, 1)], 0), ([], 1), ([], 0), ([(26, 1)], 0), ([(27, 1)], 0), ([(28, 1)], 0)], [], [.inr (.inr (.inl (332, 0, [([(29, 1)], 0), ([(30, 1)], 0), ([], 0), ([(33, 1)], 0)], [], []))), .inr (.inr (.inl (320, 0, [([(31, 1)], 0), ([(27, 1), (28, 1)], 0), ([(32, 1)], 0)], [], []))), .inr (.inr (.inl (322, 0, [([], 0), ([(26, 2)], 0), ([(31, 1)], 0)], [], []))), .inl (.inr (30, ([(26, 1)], 0), ([(26, 1)], 0))), .inl (.inr (29, ([(27, (-1)), (28, 1)], 0), ([(27, (-1)), (28, 1)], 0))), .inr (.inr (.inl (331, 2, [([], 0), ([(2, 1)], 0), ([(3, 1)], 0), ([(4, 1)], 0), ([(5, 1)], 0), ([(6, 1)], 0), ([(7, 1)], 0), ([(8, 1)], 0), ([(9, 1)], 0), ([(10, 1)], 0), ([(11, 1)], 0), ([(12, 1)], 0), ([(13, 1)], 0), ([(14, 1)], 0), ([(15, 1)], 0), ([(16, 1)], 0), ([(17, 1)], 0), ([(18, 1)], 0), ([(19, 1)], 0), ([(20, 1)], 0), ([(21, 1)], 0), ([(22, 1)], 0), ([(23, 1)], 0), ([(24, 1)], 0), ([(25, 1)], 0), ([(26, 1)], 0), ([(27, 1)], 0), ([(28, 1)], 0)], [0, 1, 2, 3, 4, 5, 6, 7, 8, 9, 10, 11, 12, 13, 14, 15, 16, 17, 18, 19, 20, 21, 22, 23, 24, 25, 26, 27, 28, 29, 30, 31, 32, 33, 34, 35, 36], []))), .inr (.inr (.inl (258, 1, [([(0, 1)], 0), ([], 0), ([], 5)], [], [])))])
noncomputable def xe_1086_0_26 : yt_VC := (1000, ([(2, 2), ((-2147483648), 2147483647), ((-2147483648), 2147483647), (1, 40), ((-2147483648), 2147483647), (0, 4), ((-9223372036854775808), 9223372036854775807), ((-9223372036854775808), 9223372036854775807), ((-9223372036854775808), 9223372036854775807), (0, 1), ((-4000), 4000), ((-4000), 4000), ((-8000000), 8000000), ((-8000000), 8000000), (0, 12), ((-9223372036854775808), 9223372036854775807), ((-9223372036854775808), 9223372036854775807), ((-9223372036854775808), 9223372036854775807), ((-9223372036854775808), 9223372036854775807), ((-9223372036854775808), 9223372036854775807), (0, 12), ((-2147483648), 2147483647), (0, 12), ((-2147483648), 2147483647), (0, 40), (0, 40), (1, 4000), ((-8000000), 4000000), ((-1200000), 8000000), (0, 256000000000000), (1, 16000000), (1, 4611686018427387904), (1, 4611686018427387904), (0, 0)], []), [([], 0), ([], 1), ([], 0), ([(26, 1)], 0), ([(27, 1)], 0), ([(28, 1)], 0)], [], [.inr (.inr (.inl (998, 1, [([], 0), ([(32, 1)], 0), ([], 0)], [], []))), .inr (.inr (.inl (320, 0, [([(31, 1)], 0), ([(27, 1), (28, 1)], 0), ([(32, 1)], 0)], [], []))), .inr (.inr (.inl (322, 0, [([], 0), ([(26, 2)], 0), ([(31, 1)], 0)], [], []))), .inl (.inr (30, ([(26, 1)], 0), ([(26, 1)], 0))), .inl (.inr (29, ([(27, (-1)), (28, 1)], 0), ([(27, (-1)), (28, 1)], 0))), .inr (.inr (.inl (331, 2, [([], 0), ([(2, 1)], 0), ([(3, 1)], 0), ([(4, 1)], 0), ([(5, 1)], 0), ([(6, 1)], 0), ([(7, 1)], 0), ([(8, 1)], 0), ([(9, 1)], 0), ([(10, 1)], 0), ([(11, 1)], 0), ([(12, 1)], 0), ([(13, 1)], 0), ([(14, 1)], 0), ([(15, 1)], 0), ([(16, 1)], 0), ([(17, 1)], 0), ([(18, 1)], 0), ([(19, 1)], 0), ([(20, 1)], 0), ([(21, 1)], 0), ([(22, 1)], 0), ([(23, 1)], 0), ([(24, 1)], 0), ([(25, 1)], 0), ([(26, 1)], 0), ([(27, 1)], 0), ([(28, 1)], 0)], [0, 1, 2, 3, 4, 5, 6, 7, 8, 9, 10, 11, 12, 13, 14, 15, 16, 17, 18, 19, 20, 21, 22, 23, 24, 25, 26, 27, 28, 29, 30, 31, 32, 33, 34, 35, 36], []))), .inr (.inr (.inl (258, 1, [([(0, 1)], 0), ([], 0), ([], 5)], [], [])))])
noncomputable def xe_1086_0_27 : yt_VC := (1000, ([(3, 3), ((-2147483648), 2147483647), ((-2147483648), 2147483647), (1, 40), ((-2147483648), 2147483647), (0, 4), ((-9223372036854775808), 9223372036854775807), ((-9223372036854775808), 9223372036854775807), ((-9223372036854775808), 9223372036854775807), (0, 1), ((-4000), 4000), ((-4000), 4000), ((-8000000), 8000000), ((-8000000), 8000000), (0, 12), ((-9223372036854775808), 9223372036854775807), ((-9223372036854775808), 9223372036854775807), ((-9223372036854775808), 9223372036854775807), ((-9223372036854775808), 9223372036854775807), ((-9223372036854775808), 9223372036854775807), (0, 12), ((-2147483648), 2147483647), (0, 12), ((-2147483648), 2147483647), (0, 40), (0, 40), (1, 4000), ((-8000000), 4000000), ((-1200000), 8000000), (0, 256000000000000), (1, 16000000), (1, 4611686018427387904), (3, 4611686018427387904), (0, 0)], [([(32, 1), (26, (-2))], (-1)), ([(26, 2)], 0)]), [([], 0), ([], 1), ([], 0), ([(26, 1)], 0), ([(27, 1)], 0), ([(28, 1)], 0)], [], [.inr (.inr (.inl (998, 1, [([(26, 2)], 0), ([(32, 1)], 0), ([], 0)], [], []))), .inr (.inr (.inl (320, 0, [([(31, 1)], 0), ([(27, 1), (28, 1)], 0), ([(32, 1)], 0)], [], []))), .inr (.inr (.inl (322, 0, [([], 0), ([(26, 2)], 0), ([(31, 1)], 0)], [], []))), .inl (.inr (30, ([(26, 1)], 0), ([(26, 1)], 0))), .inl (.inr (29, ([(27, (-1)), (28, 1)], 0), ([(27, (-1)), (28, 1)], 0))), .inr (.inr (.inl (331, 2, [([], 0), ([(2, 1)], 0), ([(3, 1)], 0), ([(4, 1)], 0), ([(5, 1)], 0), ([(6, 1)], 0), ([(7, 1)], 0), ([(8, 1)], 0), ([(9, 1)], 0), ([(10, 1)], 0), ([(11, 1)], 0), ([(12, 1)], 0), ([(13, 1)], 0), ([(14, 1)], 0), ([(15, 1)], 0), ([(16, 1)], 0), ([(17, 1)], 0), ([(18, 1)], 0), ([(19, 1)], 0), ([(20, 1)], 0), ([(21, 1)], 0), ([(22, 1)], 0), ([(23, 1)], 0), ([(24, 1)], 0), ([(25, 1)], 0), ([(26, 1)], 0), ([(27, 1)], 0), ([(28, 1)], 0)], [0, 1, 2, 3, 4, 5, 6, 7, 8, 9, 10, 11, 12, 13, 14, 15, 16, 17, 18, 19, 20, 21, 22, 23, 24, 25, 26, 27, 28, 29, 30, 31, 32, 33, 34, 35, 36], []))), .inr (.inr (.inl (258, 1, [([(0, 1)], 0), ([], 0), ([], 5)], [], [])))])
noncomputable def xe_1086_0_28 : yt_VC := (1000, ([(3, 3), ((-2147483648), 2147483647), ((-2147483648), 2147483647), (1, 40), ((-2147483648), 2147483647), (0, 4), ((-9223372036854775808), 9223372036854775807), ((-9223372036854775808), 9223372036854775807), ((-9223372036854775808), 9223372036854775807), (0, 1), ((-4000), 4000), ((-4000), 4000), ((-8000000), 8000000), ((-8000000), 8000000), (0, 12), ((-9223372036854775808), 9223372036854775807), ((-9223372036854775808), 9223372036854775807), ((-9223372036854775808), 9223372036854775807), ((-9223372036854775808), 9223372036854775807), ((-9223372036854775808), 9223372036854775807), (0, 12), ((-2147483648), 2147483647), (0, 12), ((-2147483648), 2147483647), (0, 40), (0, 40), (1, 4000), ((-8000000), 4000000), ((-1200000), 8000000), (0, 256000000000000), (1, 16000000), (1, 4611686018427387904), (1, 8000), (1, 8000)], [([(33, (-1)), (26, 2)], 0), ([(32, (-1)), (26, 2)], 0)]), [([(33, 1)], 0), ([], 1), ([], 0), ([(26, 1)], 0), ([(27, 1)], 0), ([(28, 1)], 0)], [], [.inr (.inr (.inl (998, 1, [([(26, 2)], 0), ([(32, 1)], 0), ([(33, 1)], 0)], [], []))), .inr (.inr (.inl (320, 0, [([(31, 1)], 0), ([(27, 1), (28, 1)], 0), ([(32, 1)], 0)], [], []))), .inr (.inr (.inl (322, 0, [([], 0), ([(26, 2)], 0), ([(31, 1)], 0)], [], []))), .inl (.inr (30, ([(26, 1)], 0), ([(26, 1)], 0))), .inl (.inr (29, ([(27, (-1)), (28, 1)], 0), ([(27, (-1)), (28, 1)], 0))), .inr (.inr (.inl (331, 2, [([], 0), ([(2, 1)], 0), ([(3, 1)], 0), ([(4, 1)], 0), ([(5, 1)], 0), ([(6, 1)], 0), ([(7, 1)], 0), ([(8, 1)], 0), ([(9, 1)], 0), ([(10, 1)], 0), ([(11, 1)], 0), ([(12, 1)], 0), ([(13, 1)], 0), ([(14, 1)], 0), ([(15, 1)], 0), ([(16, 1)], 0), ([(17, 1)], 0), ([(18, 1)], 0), ([(19, 1)], 0), ([(20, 1)], 0), ([(21, 1)], 0), ([(22, 1)], 0), ([(23, 1)], 0), ([(24, 1)], 0), ([(25, 1)], 0), ([(26, 1)], 0), ([(27, 1)], 0), ([(28, 1)], 0)], [0, 1, 2, 3, 4, 5, 6, 7, 8, 9, 10, 11, 12, 13, 14, 15, 16, 17, 18, 19, 20, 21, 22, 23, 24, 25, 26, 27, 28, 29, 30, 31, 32, 33, 34, 35, 36], []))), .inr (.inr (.inl (258, 1, [([(0, 1)], 0), ([], 0), ([], 5)], [], [])))])
noncomputable def xe_1086_0_29 : yt_VC := (1000, ([(4, 4), ((-2147483648), 2147483647), ((-2147483648), 2147483647), (1, 40), ((-2147483648), 2147483647), (0, 4), ((-9223372036854775808), 9223372036854775807), ((-9223372036854775808), 9223372036854775807), ((-9223372036854775808), 9223372036854775807), (0, 1), ((-4000), 4000), ((-4000), 4000), ((-8000000), 8000000), ((-8000000), 8000000), (0, 12), ((-9223372036854775808), 9223372036854775807), ((-9223372036854775808), 9223372036854775807), ((-9223372036854775808), 9223372036854775807), ((-9223372036854775808), 9223372036854775807), ((-9223372036854775808), 9223372036854775807), (0, 12), ((-2147483648), 2147483647), (0, 12), ((-2147483648), 2147483647), (0, 40), (0, 40), (1, 4000), ((-8000000), 4000000), ((-1200000), 8000000), (0, 256000000000000), (1, 16000000), (1, 4611686018427387904), (1, 4611686018427387904), (0, 0)], [([(32, 1), (28, (-1)), (27, (-1))], (-1)), ([(27, 1), (28, 1)], 0)]), [([], 0), ([], 1), ([], 0), ([(26, 1)], 0), ([(27, 1)], 0), ([(28, 1)], 0)], [], [.inr (.inr (.inl (998, 1, [([(27, 1), (28, 1)], 0), ([(32, 1)], 0), ([], 0)], [], []))), .inr (.inr (.inl (320, 0, [([(31, 1)], 0), ([(27, 1), (28, 1)], 0), ([(32, 1)], 0)], [], []))), .inr (.inr (.inl (322, 0, [([], 0), ([(26, 2)], 0), ([(31, 1)], 0)], [], []))), .inl (.inr (30, ([(26, 1)], 0), ([(26, 1)], 0))), .inl (.inr (29, ([(27, (-1)), (28, 1)], 0), ([(27, (-1)), (28, 1)], 0))), .inr (.inr (.inl (331, 2, [([], 0), ([(2, 1)], 0), ([(3, 1)], 0), ([(4, 1)], 0), ([(5, 1)], 0), ([(6, 1)], 0), ([(7, 1)], 0), ([(8, 1)], 0), ([(9, 1)], 0), ([(10, 1)], 0), ([(11, 1)], 0), ([(12, 1)], 0), ([(13, 1)], 0), ([(14, 1)], 0), ([(15, 1)], 0), ([(16, 1)], 0), ([(17, 1)], 0), ([(18, 1)], 0), ([(19, 1)], 0), ([(20, 1)], 0), ([(21, 1)], 0), ([(22, 1)], 0), ([(23, 1)], 0), ([(24, 1)], 0), ([(25, 1)], 0), ([(26, 1)], 0), ([(27, 1)], 0), ([(28, 1)], 0)], [0, 1, 2, 3, 4, 5, 6, 7, 8, 9, 10, 11, 12, 13, 14, 15, 16, 17, 18, 19, 20, 21, 22, 23, 24, 25, 26, 27, 28, 29, 30, 31, 32, 33, 34, 35, 36], []))), .inr (.inr (.inl (258, 1, [([(0, 1)], 0), ([], 0), ([], 5)], [], [])))])
noncomputable def xe_1086_0_30 : yt_VC := (1000, ([(4, 4), ((-2147483648), 2147483647), ((-2147483648), 2147483647), (1, 40), ((-2147483648), 2147483647), (0, 4), ((-9223372036854775808), 9223372036854775807), ((-9223372036854775808), 9223372036854775807), ((-9223372036854775808), 9223372036854775807), (0, 1), ((-4000), 4000), ((-4000), 4000), ((-8000000), 8000000), ((-8000000), 8000000), (0, 12), ((-9223372036854775808), 9223372036854775807), ((-9223372036854775808), 9223372036854775807), ((-9223372036854775808), 9223372036854775807), ((-9223372036854775808), 9223372036854775807), ((-9223372036854775808), 9223372036854775807), (0, 12), ((-2147483648), 2147483647), (0, 12), ((-2147483648), 2147483647), (0, 40), (0, 40), (1, 4000), ((-7999999), 4000000), ((-1200000), 8000000), (0, 256000000000000), (1, 16000000), (1, 4611686018427387904), (1, 12000000), (1, 12000000)], [([(33, (-1)), (28, 1), (27, 1)], 0), ([(32, (-1)), (28, 1), (27, 1)], 0)]), [([(33, 1)], 0), ([], 1), ([], 0), ([(26, 1)], 0), ([(27, 1)], 0), ([(28, 1)], 0)], [], [.inr (.inr (.inl (998, 1, [([(27, 1), (28, 1)], 0), ([(32, 1)], 0), ([(33, 1)], 0)], [], []))), .inr (.inr (.inl (320, 0, [([(31, 1)], 0), ([(27, 1), (28, 1)], 0), ([(32, 1)], 0)], [], []))), .inr (.inr (.inl (322, 0, [([], 0), ([(26, 2)], 0), ([(31, 1)], 0)], [], []))), .inl (.inr (30, ([(26, 1)], 0), ([(26, 1)], 0))), .inl (.inr (29, ([(27, (-1)), (28, 1)], 0), ([(27, (-1)), (28, 1)], 0))), .inr (.inr (.inl (331, 2, [([], 0), ([(2, 1)], 0), ([(3, 1)], 0), ([(4, 1)], 0), ([(5, 1)], 0), ([(6, 1)], 0), ([(7, 1)], 0), ([(8, 1)], 0), ([(9, 1)], 0), ([(10, 1)], 0), ([(11, 1)], 0), ([(12, 1)], 0), ([(13, 1)], 0), ([(14, 1)], 0), ([(15, 1)], 0), ([(16, 1)], 0), ([(17, 1)], 0), ([(18, 1)], 0), ([(19, 1)], 0), ([(20, 1)], 0), ([(21, 1)], 0), ([(22, 1)], 0), ([(23, 1)], 0), ([(24, 1)], 0), ([(25, 1)], 0), ([(26, 1)], 0), ([(27, 1)], 0), ([(28, 1)], 0)], [0, 1, 2, 3, 4, 5, 6, 7, 8, 9, 10, 11, 12, 13, 14, 15, 16, 17, 18, 19, 20, 21, 22, 23, 24, 25, 26, 27, 28, 29, 30, 31, 32, 33, 34, 35, 36], []))), .inr (.inr (.inl (258, 1, [([(0, 1)], 0), ([], 0), ([], 5)], [], [])))])
noncomputable def xe_1086_0_31 : yt_VC := (1000, ([(4, 4), ((-2147483648), 2147483647), ((-2147483648), 2147483647), (1, 40), ((-2147483648), 2147483647), (0, 4), ((-9223372036854775808), 9223372036854775807), ((-9223372036854775808), 9223372036854775807), ((-9223372036854775808), 9223372036854775807), (0, 1), ((-4000), 4000), ((-4000), 4000), ((-8000000), 8000000), ((-8000000), 8000000), (0, 12), ((-9223372036854775808), 9223372036854775807), ((-9223372036854775808), 9223372036854775807), ((-9223372036854775808), 9223372036854775807), ((-9223372036854775808), 9223372036854775807), ((-9223372036854775808), 9223372036854775807), (0, 12), ((-2147483648), 2147483647), (0, 12), ((-2147483648), 2147483647), (0, 40), (0, 40), (1, 4000), ((-8000000), 1199999), ((-1200000), 7999999), (0, 256000000000000), (1, 16000000), (1, 4611686018427387904), (1, 4611686018427387904), ((-9200000), 0)], [([(27, (-1)), (28, (-1)), (33, 1)], 0), ([(28, (-1)), (27, (-1))], (-1))]), [([(33, 1)], 0), ([], 1), ([], 0), ([(26, 1)], 0), ([(27, 1)], 0), ([(28, 1)], 0)], [], [.inr (.inr (.inl (998, 1, [([(27, 1), (28, 1)], 0), ([(32, 1)], 0), ([(33, 1)], 0)], [], []))), .inr (.inr (.inl (320, 0, [([(31, 1)], 0), ([(27, 1), (28, 1)], 0), ([(32, 1)], 0)], [], []))), .inr (.inr (.inl (322, 0, [([], 0), ([(26, 2)], 0), ([(31, 1)], 0)], [], []))), .inl (.inr (30, ([(26, 1)], 0), ([(26, 1)], 0))), .inl (.inr (29, ([(27, (-1)), (28, 1)], 0), ([(27, (-1)), (28, 1)], 0))), .inr (.inr (.inl (331, 2, [([], 0), ([(2, 1)], 0), ([(3, 1)], 0), ([(4, 1)], 0), ([(5, 1)], 0), ([(6, 1)], 0), ([(7, 1)], 0), ([(8, 1)], 0), ([(9, 1)], 0), ([(10, 1)], 0), ([(11, 1)], 0), ([(12, 1)], 0), ([(13, 1)], 0), ([(14, 1)], 0), ([(15, 1)], 0), ([(16, 1)], 0), ([(17, 1)], 0), ([(18, 1)], 0), ([(19, 1)], 0), ([(20, 1)], 0), ([(21, 1)], 0), ([(22, 1)], 0), ([(23, 1)], 0), ([(24, 1)], 0), ([(25, 1)], 0), ([(26, 1)], 0), ([(27, 1)], 0), ([(28, 1)], 0)], [0, 1, 2, 3, 4, 5, 6, 7, 8, 9, 10, 11, 12, 13, 14, 15, 16, 17, 18, 19, 20, 21, 22, 23, 24, 25, 26, 27, 28, 29, 30, 31, 32, 33, 34, 35, 36], []))), .inr (.inr (.inl (258, 1, [([(0, 1)], 0), ([], 0), ([], 5)], [], [])))])
noncomputable def xe_1086_0_32 : yt_VC := (0, ([(5, 5), ((-2147483648), 2147483647), ((-2147483648), 2147483647), (1, 40), ((-2147483648), 2147483647), (0, 4), ((-9223372036854775808), 9223372036854775807), ((-9223372036854775808), 9223372036854775807), ((-9223372036854775808), 9223372036854775807), (0, 1), ((-4000), 4000), ((-4000), 4000), ((-8000000), 8000000), ((-8000000), 8000000), (0, 12), ((-9223372036854775808), 9223372036854775807), ((-9223372036854775808), 9223372036854775807), ((-9223372036854775808), 9223372036854775807), ((-9223372036854775808), 9223372036854775807), ((-9223372036854775808), 9223372036854775807), (0, 12), ((-2147483648), 2147483647), (0, 12), ((-2147483648), 2147483647), (0, 40), (0, 40), ((-1300), (-1)), ((-8000000), 1200000), ((-4000000), 8000000), (0, 256000000000000), (1, 1690000), (1, 4611686018427387904), (1, 4611686018427387904)], []), [([], 0), ([], 0), ([], 1), ([], 0), ([(26, 1)], 0), ([(27, 1)], 0), ([(28, 1)], 0)], [], [.inr (.inr (.inl (320, 0, [([(31, 1)], 0), ([(27, 1), (28, 1)], 0), ([(32, 1)], 0)], [], []))), .inr (.inr (.inl (323, 0, [([], 0), ([(26, 2)], 0), ([(31, 1)], 0)], [], []))), .inl (.inr (30, ([(26, 1)], 0), ([(26, 1)], 0))), .inl (.inr (29, ([(27, (-1)), (28, 1)], 0), ([(27, (-1)), (28, 1)], 0))), .inr (.inr (.inl (331, 3, [([], 0), ([(2, 1)], 0), ([(3, 1)], 0), ([(4, 1)], 0), ([(5, 1)], 0), ([(6, 1)], 0), ([(7, 1)], 0), ([(8, 1)], 0), ([(9, 1)], 0), ([(10, 1)], 0), ([(11, 1)], 0), ([(12, 1)], 0), ([(13, 1)], 0), ([(14, 1)], 0), ([(15, 1)], 0), ([(16, 1)], 0), ([(17, 1)], 0), ([(18, 1)], 0), ([(19, 1)], 0), ([(20, 1)], 0), ([(21, 1)], 0), ([(22, 1)], 0), ([(23, 1)], 0), ([(24, 1)], 0), ([(25, 1)], 0), ([(26, 1)], 0), ([(27, 1)], 0), ([(28, 1)], 0)], [0, 1, 2, 3, 4, 5, 6, 7, 8, 9, 10, 11, 12, 13, 14, 15, 16, 17, 18, 19, 20, 21, 22, 23, 24, 25, 26, 27, 28, 29, 30, 31, 32, 33, 34, 35, 36], []))), .inr (.inr (.inl (258, 1, [([(0, 1)], 0), ([], 0), ([], 5)], [], [])))])
noncomputable def xe_1086_0_33 : yt_VC := (1000, ([(0, 0), ((-2147483648), 2147483647), ((-2147483648), 2147483647), (1, 40), ((-2147483648), 2147483647), (0, 4), ((-9223372036854775808), 9223372036854775807), ((-9223372036854775808), 9223372036854775807), ((-9223372036854775808), 9223372036854775807), (0, 1), ((-4000), 4000), ((-4000), 4000), ((-8000000), 8000000), ((-8000000), 8000000), (0, 12), ((-9223372036854775808), 9223372036854775807), ((-9223372036854775808), 9223372036854775807), ((-9223372036854775808), 9223372036854775807), ((-9223372036854775808), 9223372036854775807), ((-9223372036854775808), 9223372036854775807), (0, 12), ((-2147483648), 2147483647), (0, 12), ((-2147483648), 2147483647), (0, 40), (0, 40), ((-1300), (-1)), ((-8000000), 1200000), ((-4000000), 8000000), (0, 256000000000000), (1, 1690000), (1, 4611686018427387904), (1, 4611686018427387904), ((-4611686018427387904), 4611686018427387904)], []), [([(33, 1)], 0), ([], 1), ([], 0), ([(26, 1)], 0), ([(27, 1)], 0), ([(28, 1)], 0)], [], [.inr (.inr (.inl (332, 0, [([(29, 1)], 0), ([(30, 1)], 0), ([], 1), ([(33, 1)], 0)], [], []))), .inr (.inr (.inl (320, 0, [([(31, 1)], 0), ([(27, 1), (28, 1)], 0), ([(32, 1)], 0)], [], []))), .inr (.inr (.inl (323, 0, [([], 0), ([(26, 2)], 0), ([(31, 1)], 0)], [], []))), .inl (.inr (30, ([(26, 1)], 0), ([(26, 1)], 0))), .inl (.inr (29, ([(27, (-1)), (28, 1)], 0), ([(27, (-1)), (28, 1)], 0))), .inr (.inr (.inl (331, 3, [([], 0), ([(2, 1)], 0), ([(3, 1)], 0), ([(4, 1)], 0), ([(5, 1)], 0), ([(6, 1)], 0), ([(7, 1)], 0), ([(8, 1)], 0), ([(9, 1)], 0), ([(10, 1)], 0), ([(11, 1)], 0), ([(12, 1)], 0), ([(13, 1)], 0), ([(14, 1)], 0), ([(15, 1)], 0), ([(16, 1)], 0), ([(17, 1)], 0), ([(18, 1)], 0), ([(19, 1)], 0), ([(20, 1)], 0), ([(21, 1)], 0), ([(22, 1)], 0), ([(23, 1)], 0), ([(24, 1)], 0), ([(25, 1)], 0), ([(26, 1)], 0), ([(27, 1)], 0), ([(28, 1)], 0)], [0, 1, 2, 3, 4, 5, 6, 7, 8, 9, 10, 11, 12, 13, 14, 15, 16, 17, 18, 19, 20, 21, 22, 23, 24, 25, 26, 27, 28, 29, 30, 31, 32, 33, 34, 35, 36], []))), .inr (.inr (.inl (258, 1, [([(0, 1)], 0), ([], 0), ([], 5)], [], [])))])
noncomputable def xe_1086_0_34 : yt_VC := (1000, ([(1, 1), ((-2147483648), 2147483647), ((-2147483648), 2147483647), (1, 40), ((-2147483648), 2147483647), (0, 4), ((-9223372036854775808), 9223372036854775807), ((-9223372036854775808), 9223372036854775807), ((-9223372036854775808), 9223372036854775807), (0, 1), ((-4000), 4000), ((-4000), 4000), ((-8000000), 8000000), ((-8000000), 8000000), (0, 12), ((-9223372036854775808), 9223372036854775807), ((-9223372036854775808), 9223372036854775807), ((-9223372036854775808), 9223372036854775807), ((-9223372036854775808), 9223372036854775807), ((-9223372036854775808), 9223372036854775807), (0, 12), ((-2147483648), 2147483647), (0, 12), ((-2147483648), 2147483647), (0, 40), (0, 40), ((-1300), (-1)), ((-8000000), 1200000), ((-4000000), 8000000), (0, 256000000000000), (1, 1690000), (1, 4611686018427387904), (1, 4611686018427387904), ((-4611686018427387904), 4611686018427387904)], []), [([(33, 1)], 0), ([], 1), ([], 0), ([(26, 1)], 0), ([(27, 1)], 0), ([(28, 1)], 0)], [], [.inr (.inr (.inl (332, 0, [([(29, 1)], 0), ([(30, 1)], 0), ([], 0), ([(33, 1)], 0)], [], []))), .inr (.inr (.inl (320, 0, [([(31, 1)], 0), ([(27, 1), (28, 1)], 0), ([(32, 1)], 0)], [], []))), .inr (.inr (.inl (323, 0, [([], 0), ([(26, 2)], 0), ([(31, 1)], 0)], [], []))), .inl (.inr (30, ([(26, 1)], 0), ([(26, 1)], 0))), .inl (.inr (29, ([(27, (-1)), (28, 1)], 0), ([(27, (-1)), (28, 1)], 0))), .inr (.inr (.inl (331, 3, [([], 0), ([(2, 1)], 0), ([(3, 1)], 0), ([(4, 1)], 0), ([(5, 1)], 0), ([(6, 1)], 0), ([(7, 1)], 0), ([(8, 1)], 0), ([(9, 1)], 0), ([(10, 1)], 0), ([(11, 1)], 0), ([(12, 1)], 0), ([(13, 1)], 0), ([(14, 1)], 0), ([(15, 1)], 0), ([(16, 1)], 0), ([(17, 1)], 0), ([(18, 1)], 0), ([(19, 1)], 0), ([(20, 1)], 0), ([(21, 1)], 0), ([(22, 1)], 0), ([(23, 1)], 0), ([(24, 1)], 0), ([(25, 1)], 0), ([(26, 1)], 0), ([(27, 1)], 0), ([(28, 1)], 0)], [0, 1, 2, 3, 4, 5, 6, 7, 8, 9, 10, 11, 12, 13, 14, 15, 16, 17, 18, 19, 20, 21, 22, 23, 24, 25, 26, 27, 28, 29, 30, 31, 32, 33, 34, 35, 36], []))), .inr (.inr (.inl (258, 1, [([(0, 1)], 0), ([], 0), ([], 5)], [], [])))])
noncomputable def xe_1086_0_35 : yt_VC := (1000, ([(2, 2), ((-2147483648), 2147483647), ((-2147483648), 2147483647), (1, 40), ((-2147483648), 2147483647), (0, 4), ((-9223372036854775808), 9223372036854775807), ((-9223372036854775808), 9223372036854775807), ((-9223372036854775808), 9223372036854775807), (0, 1), ((-4000), 4000), ((-4000), 4000), ((-8000000), 8000000), ((-8000000), 8000000), (0, 12), ((-9223372036854775808), 9223372036854775807), ((-9223372036854775808), 9223372036854775807), ((-9223372036854775808), 9223372036854775807), ((-9223372036854775808), 9223372036854775807), ((-9223372036854775808), 9223372036854775807), (0, 12), ((-2147483648), 2147483647), (0, 12), ((-2147483648), 2147483647), (0, 40), (0, 40), ((-1300), (-1)), ((-8000000), 1200000), ((-4000000), 8000000), (0, 256000000000000), (1, 1690000), (1, 4611686018427387904), (1, 4611686018427387904), (0, 0)], []), [([], 0), ([], 1), ([], 0), ([(26, 1)], 0), ([(27, 1)], 0), ([(28, 1)], 0)], [], [.inr (.inr (.inl (998, 1, [([], 0), ([(32, 1)], 0), ([], 0)], [], []))), .inr (.inr (.inl (320, 0, [([(31, 1)], 0), ([(27, 1), (28, 1)], 0), ([(32, 1)], 0)], [], []))), .inr (.inr (.inl (323, 0, [([], 0), ([(26, 2)], 0), ([(31, 1)], 0)], [], []))), .inl (.inr (30, ([(26, 1)], 0), ([(26, 1)], 0))), .inl (.inr (29, ([(27, (-1)), (28, 1)], 0), ([(27, (-1)), (28, 1)], 0))), .inr (.inr (.inl (331, 3, [([], 0), ([(2, 1)], 0), ([(3, 1)], 0), ([(4, 1)], 0), ([(5, 1)], 0), ([(6, 1)], 0), ([(7, 1)], 0), ([(8, 1)], 0), ([(9, 1)], 0), ([(10, 1)], 0), ([(11, 1)], 0), ([(12, 1)], 0), ([(13, 1)], 0), ([(14, 1)], 0), ([(15, 1)], 0), ([(16, 1)], 0), ([(17, 1)], 0), ([(18, 1)], 0), ([(19, 1)], 0), ([(20, 1)], 0), ([(21, 1)], 0), ([(22, 1)], 0), ([(23, 1)], 0), ([(24, 1)], 0), ([(25, 1)], 0), ([(26, 1)], 0), ([(27, 1)], 0), ([(28, 1)], 0)], [0, 1, 2, 3, 4, 5, 6, 7, 8, 9, 10, 11, 12, 13, 14, 15, 16, 17, 18, 19, 20, 21, 22, 23, 24, 25, 26, 27, 28, 29, 30, 31, 32, 33, 34, 35, 36], []))), .inr (.inr (.inl (258, 1, [([(0, 1)], 0), ([], 0), ([], 5)], [], [])))])
noncomputable def xe_1086_0_36 : yt_VC := (1000, ([(3, 3), ((-2147483648), 2147483647), ((-2147483648), 2147483647), (1, 40), ((-2147483648), 2147483647), (0, 4), ((-9223372036854775808), 9223372036854775807), ((-9223372036854775808), 9223372036854775807), ((-9223372036854775808), 9223372036854775807), (0, 1), ((-4000), 4000), ((-4000), 4000), ((-8000000), 8000000), ((-8000000), 8000000), (0, 12), ((-9223372036854775808), 9223372036854775807), ((-9223372036854775808), 9223372036854775807), ((-9223372036854775808), 9223372036854775807), ((-9223372036854775808), 9223372036854775807), ((-9223372036854775808), 9223372036854775807), (0, 12), ((-2147483648), 2147483647), (0, 12), ((-2147483648), 2147483647), (0, 40), (0, 40), ((-1300), (-1)), ((-8000000), 1200000), ((-4000000), 8000000), (0, 256000000000000), (1, 1690000), (1, 4611686018427387904), (1, 4611686018427387904), ((-2600), 0)], [([(26, (-2)), (33, 1)], 0), ([(26, (-2))], (-1))]), [([(33, 1)], 0), ([], 1), ([], 0), ([(26, 1)], 0), ([(27, 1)], 0), ([(28, 1)], 0)], [], [.inr (.inr (.inl (998, 1, [([(26, 2)], 0), ([(32, 1)], 0), ([(33, 1)], 0)], [], []))), .inr (.inr (.inl (320, 0, [([(31, 1)], 0), ([(27, 1), (28, 1)], 0), ([(32, 1)], 0)], [], []))), .inr (.inr (.inl (323, 0, [([], 0), ([(26, 2)], 0), ([(31, 1)], 0)], [], []))), .inl (.inr (30, ([(26, 1)], 0), ([(26, 1)], 0))), .inl (.inr (29, ([(27, (-1)), (28, 1)], 0), ([(27, (-1)), (28, 1)], 0))), .inr (.inr (.inl (331, 3, [([], 0), ([(2, 1)], 0), ([(3, 1)], 0), ([(4, 1)], 0), ([(5, 1)], 0), ([(6, 1)], 0), ([(7, 1)], 0), ([(8, 1)], 0), ([(9, 1)], 0), ([(10, 1)], 0), ([(11, 1)], 0), ([(12, 1)], 0), ([(13, 1)], 0), ([(14, 1)], 0), ([(15, 1)], 0), ([(16, 1)], 0), ([(17, 1)], 0), ([(18, 1)], 0), ([(19, 1)], 0), ([(20, 1)], 0), ([(21, 1)], 0), ([(22, 1)], 0), ([(23, 1)], 0), ([(24, 1)], 0), ([(25, 1)], 0), ([(26, 1)], 0), ([(27, 1)], 0), ([(28, 1)], 0)], [0, 1, 2, 3, 4, 5, 6, 7, 8, 9, 10, 11, 12, 13, 14, 15, 16, 17, 18, 19, 20, 21, 22, 23, 24, 25, 26, 27, 28, 29, 30, 31, 32, 33, 34, 35, 36], []))), .inr (.inr (.inl (258, 1, [([(0, 1)], 0), ([], 0), ([], 5)], [], [])))])
noncomputable def xe_1086_0_37 : yt_VC := (1000, ([(4, 4), ((-2147483648), 2147483647), ((-2147483648), 2147483647), (1, 40), ((-2147483648), 2147483647), (0, 4), ((-9223372036854775808), 9223372036854775807), ((-9223372036854775808), 9223372036854775807), ((-9223372036854775808), 9223372036854775807), (0, 1), ((-4000), 4000), ((-4000), 4000), ((-8000000), 8000000), ((-8000000), 8000000), (0, 12), ((-9223372036854775808), 9223372036854775807), ((-9223372036854775808), 9223372036854775807), ((-9223372036854775808), 9223372036854775807), ((-9223372036854775808), 9223372036854775807), ((-9223372036854775808), 9223372036854775807), (0, 12), ((-2147483648), 2147483647), (0, 12), ((-2147483648), 2147483647), (0, 40), (0, 40), ((-1300), (-1)), ((-8000000), 1200000), ((-1200000), 8000000), (0, 256000000000000), (1, 1690000), (1, 4611686018427387904), (1, 4611686018427387904), (0, 0)], [([(32, 1), (28, (-1)), (27, (-1))], (-1)), ([(27, 1), (28, 1)], 0)]), [([], 0), ([], 1), ([], 0), ([(26, 1)], 0), ([(27, 1)], 0), ([(28, 1)], 0)], [], [.inr (.inr (.inl (998, 1, [([(27, 1), (28, 1)], 0), ([(32, 1)], 0), ([], 0)], [], []))), .inr (.inr (.inl (320, 0, [([(31, 1)], 0), ([(27, 1), (28, 1)], 0), ([(32, 1)], 0)], [], []))), .inr (.inr (.inl (323, 0, [([], 0), ([(26, 2)], 0), ([(31, 1)], 0)], [], []))), .inl (.inr (30, ([(26, 1)], 0), ([(26, 1)], 0))), .inl (.inr (29, ([(27, (-1)), (28, 1)], 0), ([(27, (-1)), (28, 1)], 0))), .inr (.inr (.inl (331, 3, [([], 0), ([(2, 1)], 0), ([(3, 1)], 0), ([(4, 1)], 0), ([(5, 1)], 0), ([(6, 1)], 0), ([(7, 1)], 0), ([(8, 1)], 0), ([(9, 1)], 0), ([(10, 1)], 0), ([(11, 1)], 0), ([(12, 1)], 0), ([(13, 1)], 0), ([(14, 1)], 0), ([(15, 1)], 0), ([(16, 1)], 0), ([(17, 1)], 0), ([(18, 1)], 0), ([(19, 1)], 0), ([(20, 1)], 0), ([(21, 1)], 0), ([(22, 1)], 0), ([(23, 1)], 0), ([(24, 1)], 0), ([(25, 1)], 0), ([(26, 1)], 0), ([(27, 1)], 0), ([(28, 1)], 0)], [0, 1, 2, 3, 4, 5, 6, 7, 8, 9, 10, 11, 12, 13, 14, 15, 16, 17, 18, 19, 20, 21, 22, 23, 24, 25, 26, 27, 28, 29, 30, 31, 32, 33, 34, 35, 36], []))), .inr (.inr (.inl (258, 1, [([(0, 1)], 0), ([], 0), ([], 5)], [], [])))])
noncomputable def xe_1086_0_38 : yt_VC := (1000, ([(4, 4), ((-2147483648), 2147483647), ((-2147483648), 2147483647), (1, 40), ((-2147483648), 2147483647), (0, 4), ((-9223372036854775808), 9223372036854775807), ((-9223372036854775808), 9223372036854775807), ((-9223372036854775808), 9223372036854775807), (0, 1), ((-4000), 4000), ((-4000), 4000), ((-8000000), 8000000), ((-8000000), 8000000), (0, 12), ((-9223372036854775808), 9223372036854775807), ((-9223372036854775808), 9223372036854775807), ((-9223372036854775808), 9223372036854775807), ((-9223372036854775808), 9223372036854775807), ((-9223372036854775808), 9223372036854775807), (0, 12), ((-2147483648), 2147483647), (0, 12), ((-2147483648), 2147483647), (0, 40), (0, 40), ((-1300), (-1)), ((-7999999), 1200000), ((-1199999), 8000000), (0, 256000000000000), (1, 1690000), (1, 4611686018427387904), (1, 9200000), (1, 9200000)], [([(33, (-1)), (28, 1), (27, 1)], 0), ([(32, (-1)), (28, 1), (27, 1)], 0)]), [([(33, 1)], 0), ([], 1), ([], 0), ([(26, 1)], 0), ([(27, 1)], 0), ([(28, 1)], 0)], [], [.inr (.inr (.inl (998, 1, [([(27, 1), (28, 1)], 0), ([(32, 1)], 0), ([(33, 1)], 0)], [], []))), .inr (.inr (.inl (320, 0, [([(31, 1)], 0), ([(27, 1), (28, 1)], 0), ([(32, 1)], 0)], [], []))), .inr (.inr (.inl (323, 0, [([], 0), ([(26, 2)], 0), ([(31, 1)], 0)], [], []))), .inl (.inr (30, ([(26, 1)], 0), ([(26, 1)], 0))), .inl (.inr (29, ([(27, (-1)), (28, 1)], 0), ([(27, (-1)), (28, 1)], 0))), .inr (.inr (.inl (331, 3, [([], 0), ([(2, 1)], 0), ([(3, 1)], 0), ([(4, 1)], 0), ([(5, 1)], 0), ([(6, 1)], 0), ([(7, 1)], 0), ([(8, 1)], 0), ([(9, 1)], 0), ([(10, 1)], 0), ([(11, 1)], 0), ([(12, 1)], 0), ([(13, 1)], 0), ([(14, 1)], 0), ([(15, 1)], 0), ([(16, 1)], 0), ([(17, 1)], 0), ([(18, 1)], 0), ([(19, 1)], 0), ([(20, 1)], 0), ([(21, 1)], 0), ([(22, 1)], 0), ([(23, 1)], 0), ([(24, 1)], 0), ([(25, 1)], 0), ([(26, 1)], 0), ([(27, 1)], 0), ([(28, 1)], 0)], [0, 1, 2, 3, 4, 5, 6, 7, 8, 9, 10, 11, 12, 13, 14, 15, 16, 17, 18, 19, 20, 21, 22, 23, 24, 25, 26, 27, 28, 29, 30, 31, 32, 33, 34, 35, 36], []))), .inr (.inr (.inl (258, 1, [([(0, 1)], 0), ([], 0), ([], 5)], [], [])))])
noncomputable def xe_1086_0_39 : yt_VC := (1000, ([(4, 4), ((-2147483648), 2147483647), ((-2147483648), 2147483647), (1, 40), ((-2147483648), 2147483647), (0, 4), ((-9223372036854775808), 9223372036854775807), ((-9223372036854775808), 9223372036854775807), ((-9223372036854775808), 9223372036854775807), (0, 1), ((-4000), 4000), ((-4000), 4000), ((-8000000), 8000000), ((-8000000), 8000000), (0, 12), ((-9223372036854775808), 9223372036854775807), ((-9223372036854775808), 9223372036854775807), ((-9223372036854775808), 9223372036854775807), ((-9223372036854775808), 9223372036854775807), ((-9223372036854775808), 9223372036854775807), (0, 12), ((-2147483648), 2147483647), (0, 12), ((-2147483648), 2147483647), (0, 40), (0, 40), ((-1300), (-1)), ((-8000000), 1200000), ((-4000000), 7999999), (0, 256000000000000), (1, 1690000), (1, 4611686018427387904), (1, 4611686018427387904), ((-12000000), 0)], [([(27, (-1)), (28, (-1)), (33, 1)], 0), ([(28, (-1)), (27, (-1))], (-1))]), [([(33, 1)], 0), ([], 1), ([], 0), ([(26, 1)], 0), ([(27, 1)], 0), ([(28, 1)], 0)], [], [.inr (.inr (.inl (998, 1, [([(27, 1), (28, 1)], 0), ([(32, 1)], 0), ([(33, 1)], 0)], [], []))), .inr (.inr (.inl (320, 0, [([(31, 1)], 0), ([(27, 1), (28, 1)], 0), ([(32, 1)], 0)], [], []))), .inr (.inr (.inl (323, 0, [([], 0), ([(26, 2)], 0), ([(31, 1)], 0)], [], []))), .inl (.inr (30, ([(26, 1)], 0), ([(26, 1)], 0))), .inl (.inr (29, ([(27, (-1)), (28, 1)], 0), ([(27, (-1)), (28, 1)], 0))), .inr (.inr (.inl (331, 3, [([], 0), ([(2, 1)], 0), ([(3, 1)], 0), ([(4, 1)], 0), ([(5, 1)], 0), ([(6, 1)], 0), ([(7, 1)], 0), ([(8, 1)], 0), ([(9, 1)], 0), ([(10, 1)], 0), ([(11, 1)], 0), ([(12, 1)], 0), ([(13, 1)], 0), ([(14, 1)], 0), ([(15, 1)], 0), ([(16, 1)], 0), ([(17, 1)], 0), ([(18, 1)], 0), ([(19, 1)], 0), ([(20, 1)], 0), ([(21, 1)], 0), ([(22, 1)], 0), ([(23, 1)], 0), ([(24, 1)], 0), ([(25, 1)], 0), ([(26, 1)], 0), ([(27, 1)], 0), ([(28, 1)], 0)], [0, 1, 2, 3, 4, 5, 6, 7, 8, 9, 10, 11, 12, 13, 14, 15, 16, 17, 18, 19, 20, 21, 22, 23, 24, 25, 26, 27, 28, 29, 30, 31, 32, 33, 34, 35, 36], []))), .inr (.inr (.inl (258, 1, [([(0, 1)], 0), ([], 0), ([], 5)], [], [])))])
noncomputable def xl_1086_0_30 : List yt_VC := xe_1086_0_30 :: xe_1086_0_31 :: xe_1086_0_32 :: xe_1086_0_33 :: xe_1086_0_34 :: xe_1086_0_35 :: xe_1086_0_36 :: xe_1086_0_37 :: xe_1086_0_38 :: xe_1086_0_39 :: []
noncomputable def xl_1086_0_0 : List yt_VC := xe_1086_0_0 :: xe_1086_0_1 :: xe_1086_0_2 :: xe_1086_0_3 :: xe_1086_0_4 :: xe_1086_0_5 :: xe_1086_0_6 :: xe_1086_0_7 :: xe_1086_0_8 :: xe_1086_0_9 :: xe_1086_0_10 :: xe_1086_0_11 :: xe_1086_0_12 :: xe_1086_0_13 :: xe_1086_0_14 :: xe_1086_0_15 :: xe_1086_0_16 :: xe_1086_0_17 :: xe_1086_0_18 :: xe_1086_0_19 :: xe_1086_0_20 :: xe_1086_0_21 :: xe_1086_0_22 :: xe_1086_0_23 :: xe_1086_0_24 :: xe_1086_0_25 :: xe_1086_0_26 :: xe_1086_0_27 :: xe_1086_0_28 :: xe_1086_0_29 :: xl_1086_0_30
noncomputable def xe_1086_1_0 : yt_VC := (1000, ([(5, 5), ((-2147483648), 2147483647), ((-2147483648), 2147483647), (0, 40), ((-2147483648), 2147483647), (0, 4), ((-9223372036854775808), 9223372036854775807), ((-9223372036854775808), 9223372036854775807), ((-9223372036854775808), 9223372036854775807), (0, 1), ((-4000), 4000), ((-4000), 4000), ((-8000000), 8000000), ((-8000000), 8000000), (0, 12), ((-9223372036854775808), 9223372036854775807), ((-9223372036854775808), 9223372036854775807), ((-9223372036854775808), 9223372036854775807), ((-9223372036854775808), 9223372036854775807), ((-9223372036854775808), 9223372036854775807), (0, 12), ((-2147483648), 2147483647), (0, 12), ((-2147483648), 2147483647), (0, 40), (0, 40), (0, 40), (0, 40), (1, 1), ((-1300), 4000), ((-4000), 4000), ((-8000000), 8000000), ((-8000000), 8000000)], [([(3, (-1)), (27, 1)], 0), ([(26, (-1)), (27, 1)], 0), ([(0, 1)], (-5)), ([(0, (-1))], 5)]), [([(26, 1)], 0), ([(28, 1)], 0), ([(29, 1)], 0), ([(30, 1)], 0), ([(31, 1)], 0), ([(32, 1)], 0)], [], [])
noncomputable def xe_1086_1_1 : yt_VC := (0, ([(5, 5), ((-2147483648), 2147483647), ((-2147483648), 2147483647), (1, 40), ((-2147483648), 2147483647), (0, 4), ((-9223372036854775808), 9223372036854775807), ((-9223372036854775808), 9223372036854775807), ((-9223372036854775808), 9223372036854775807), (0, 1), ((-4000), 4000), ((-4000), 4000), ((-8000000), 8000000), ((-8000000), 8000000), (0, 12), ((-9223372036854775808), 9223372036854775807), ((-9223372036854775808), 9223372036854775807), ((-9223372036854775808), 9223372036854775807), ((-9223372036854775808), 9223372036854775807), ((-9223372036854775808), 9223372036854775807), (0, 12), ((-2147483648), 2147483647), (0, 12), ((-2147483648), 2147483647), (0, 40), (0, 40), (0, 40), (0, 39), (1, 1), ((-1300), 4000), ((-4000), 4000), ((-8000000), 8000000), ((-8000000), 8000000)], [([(3, 1), (27, (-1))], (-1)), ([(26, (-1)), (27, 1)], 0), ([(0, 1)], (-5)), ([(0, (-1))], 5)]), [([(26, 1)], 0), ([(27, 1)], 1), ([(28, 1)], 0), ([(29, 1)], 0), ([(30, 1)], 0), ([(31, 1)], 0), ([(32, 1)], 0)], [], [.inr (.inr (.inl (334, 0, [([(27, 1)], 0), ([], 0), ([(2, 1)], 0), ([(3, 1)], 0), ([(4, 1)], 0), ([(5, 1)], 0), ([(6, 1)], 0), ([(7, 1)], 0), ([(8, 1)], 0), ([(28, 1)], 0), ([(29, 1)], 0), ([(30, 1)], 0), ([(31, 1)], 0), ([(32, 1)], 0), ([(14, 1)], 0), ([(15, 1)], 0), ([(16, 1)], 0), ([(17, 1)], 0), ([(18, 1)], 0), ([(19, 1)], 0), ([(20, 1)], 0), ([(21, 1)], 0), ([(22, 1)], 0), ([(23, 1)], 0), ([(24, 1)], 0), ([(25, 1)], 0)], [0, 1, 2, 3, 4, 5, 6, 7, 8, 9, 10, 11, 12, 13, 14, 15, 16, 17, 18, 19, 20, 21, 22, 23, 24, 25, 26, 27, 28, 29, 30, 31, 32, 33, 34, 35, 36], [])))])
noncomputable def xe_1086_1_2 : yt_VC := (0, ([(5, 5), ((-2147483648), 2147483647), ((-2147483648), 2147483647), (1, 40), ((-2147483648), 2147483647), (0, 4), ((-9223372036854775808), 9223372036854775807), ((-9223372036854775808), 9223372036854775807), ((-9223372036854775808), 9223372036854775807), (0, 1), ((-4000), 4000), ((-4000), 4000), ((-8000000), 8000000), ((-8000000), 8000000), (0, 12), ((-9223372036854775808), 9223372036854775807), ((-9223372036854775808), 9223372036854775807), ((-9223372036854775808), 9223372036854775807), ((-9223372036854775808), 9223372036854775807), ((-9223372036854775808), 9223372036854775807), (0, 12), ((-2147483648), 2147483647), (0, 12), ((-2147483648), 2147483647), (0, 40), (0, 40), (0, 40), (0, 39), (1, 1), ((-1300), 4000), ((-4000), 4000), ((-8000000), 8000000), ((-8000000), 8000000)], [([(3, 1), (27, (-1))], (-1)), ([(26, (-1)), (27, 1)], 0), ([(0, 1)], (-5)), ([(0, (-1))], 5)]), [([(26, 1)], 1), ([(27, 1)], 1), ([(28, 1)], 0), ([(29, 1)], 0), ([(30, 1)], 0), ([(31, 1)], 0), ([(32, 1)], 0)], [], [.inr (.inr (.inl (334, 1, [([(27, 1)], 0), ([], 0), ([(2, 1)], 0), ([(3, 1)], 0), ([(4, 1)], 0), ([(5, 1)], 0), ([(6, 1)], 0), ([(7, 1)], 0), ([(8, 1)], 0), ([(28, 1)], 0), ([(29, 1)], 0), ([(30, 1)], 0), ([(31, 1)], 0), ([(32, 1)], 0), ([(14, 1)], 0), ([(15, 1)], 0), ([(16, 1)], 0), ([(17, 1)], 0), ([(18, 1)], 0), ([(19, 1)], 0), ([(20, 1)], 0), ([(21, 1)], 0), ([(22, 1)], 0), ([(23, 1)], 0), ([(24, 1)], 0), ([(25, 1)], 0)], [0, 1, 2, 3, 4, 5, 6, 7, 8, 9, 10, 11, 12, 13, 14, 15, 16, 17, 18, 19, 20, 21, 22, 23, 24, 25, 26, 27, 28, 29, 30, 31, 32, 33, 34, 35, 36], [])))])
noncomputable def xl_1086_1_0 : List yt_VC := xe_1086_1_0 :: xe_1086_1_1 :: xe_1086_1_2 :: []
noncomputable def xv_1086 : List (List yt_VC) := [xl_1086_0_0, xl_1086_1_0]
noncomputable def xG_1086 : Nat → yt_G → (Nat → Int) → yt_G → Prop
  | 0, g0, r, g => (r 0) = 5 ∧ ((1 * (r 26) + 0) + 0) = ye_sc (g0 1) (g0 2) ((1 * (r 29) + 0) + 0) ((1 * (r 30) + 0) + 0) ((1 * (r 32) + 0) + 0) ((1 * (r 31) + 0) + 0) (((1 * (r 27) + 0) + 0)).toNat ∧ ((1 * (r 27) + 0) + 0) ≤ ((1 * (r 3) + 0) + 0) ∧ ((1 * (r 28) + 0) + 0) = 1 ∧ (ye_nr (g0 1) (g0 2) (g0 3) (((1 * (r 3) + 0) + 0)).toNat → ye_way (g0 1) (g0 2) (g0 3) (((1 * (r 3) + 0) + 0)).toNat (((1 * (r 28) + 0) + 0), ((1 * (r 29) + 0) + 0), ((1 * (r 30) + 0) + 0), ((1 * (r 32) + 0) + 0), ((1 * (r 31) + 0) + 0)) ∧ ye_tb (((1 * (r 28) + 0) + 0), ((1 * (r 29) + 0) + 0), ((1 * (r 30) + 0) + 0), ((1 * (r 32) + 0) + 0), ((1 * (r 31) + 0) + 0)))
  | _, _, _, _ => True
noncomputable def xP_1086 : yt_Ph
  | 0, r, g0, g => (¬ (0 ≤ (r 0) ∧ (r 0) ≤ 5) → (r 26) = -1) ∧ ((0 ≤ (r 0) ∧ (r 0) ≤ 5) → ye_nr (g0 1) (g0 2) (g0 3) (((1 * (r 3) + 0) + 0)).toNat → ∃ m : ye_T, ye_way (g0 1) (g0 2) (g0 3) (((1 * (r 3) + 0) + 0)).toNat m ∧ ye_tb m ∧ (r 26) = ye_rw (g0 1) (g0 2) (((1 * (r 3) + 0) + 0)).toNat m (r 0))
  | _, _, _, _ => True
noncomputable def xR_1086 : yt_Ps := fun r g0 => True
noncomputable def xT_1086 : yt_Tb := fun d => match d with
  | 258 => xP_1004
  | 320 => xP_1083
  | 321 => xP_1084
  | 322 => xP_1081
  | 323 => xP_1085
  | 331 => xP_1068
  | 332 => xP_1082
  | 334 => xP_1069
  | 998 => fun i r _ _ => yt_hwp i r
  | _ => fun _ _ _ _ => True
noncomputable def xU_1086 : Nat → yt_Ps := fun d => match d with
  | 258 => xR_1004
  | 320 => xR_1083
  | 321 => xR_1084
  | 322 => xR_1081
  | 323 => xR_1085
  | 331 => xR_1068
  | 332 => xR_1082
  | 334 => xR_1069
  | _ => fun _ _ => True
theorem xw_1086_0_0 : yt_hold xT_1086 xk_1086 xq_1086.2.2.1 xG_1086 xP_1086 xU_1086 26 xk_1086.2.1.2.2.2 (fun g0 r g => xR_1086 r g0 ∧ g = g0) (1000, ([((-2147483648), 2147483647), ((-2147483648), 2147483647), ((-2147483648), 2147483647), (0, 40), ((-2147483648), 2147483647), (0, 4), ((-9223372036854775808), 9223372036854775807), ((-9223372036854775808), 9223372036854775807), ((-9223372036854775808), 9223372036854775807), (0, 1), ((-4000), 4000), ((-4000), 4000), ((-8000000), 8000000), ((-8000000), 8000000), (0, 12), ((-9223372036854775808), 9223372036854775807), ((-9223372036854775808), 9223372036854775807), ((-9223372036854775808), 9223372036854775807), ((-9223372036854775808), 9223372036854775807), ((-9223372036854775808), 9223372036854775807), (0, 12), ((-2147483648), 2147483647), (0, 12), ((-2147483648), 2147483647), (0, 40), (0, 40)], []), [([], (-1)), ([(9, 1)], 0), ([(10, 1)], 0), ([(11, 1)], 0), ([(12, 1)], 0), ([(13, 1)], 0)], [], [.inr (.inr (.inl (258, 0, [([(0, 1)], 0), ([], 0), ([], 5)], [], [])))]) := by
  intro g0 r gi g hok hh hars hfr hG
  have b0 : (-2147483648) ≤ r 0 ∧ r 0 ≤ 2147483647 := hok.1 0 ((-2147483648), 2147483647) rfl
  have b3 : 0 ≤ r 3 ∧ r 3 ≤ 40 := hok.1 3 (0, 40) rfl
  obtain ⟨hG, hgi⟩ := hG
  have hG : True := hG
  obtain ⟨h0, hh, e0, k0⟩ := hh
  have k0 : ∀ j, j ∉ [] → g j = h0 j := k0
  have e0 : ¬ (((0 : Int) + 0) ≤ ((1 * r 0 + 0) + 0) ∧ ((1 * r 0 + 0) + 0) ≤ ((0 : Int) + 5)) := e0
  have hh : h0 = gi := hh
  subst hh
  refine yt_dalt (by decide) (by decide) ?_
  rw [show xk_1086.2.1.2.1.1.length = 26 from rfl]
  show (¬ (0 ≤ ((1 * r 0 + 0) + 0) ∧ ((1 * r 0 + 0) + 0) ≤ 5) → ((0 : Int) + (-1)) = -1) ∧ ((0 ≤ ((1 * r 0 + 0) + 0) ∧ ((1 * r 0 + 0) + 0) ≤ 5) → ye_nr (g0 1) (g0 2) (g0 3) (((1 * ((1 * r 3 + 0) + 0) + 0) + 0)).toNat → ∃ m : ye_T, ye_way (g0 1) (g0 2) (g0 3) (((1 * ((1 * r 3 + 0) + 0) + 0) + 0)).toNat m ∧ ye_tb m ∧ ((0 : Int) + (-1)) = ye_rw (g0 1) (g0 2) (((1 * ((1 * r 3 + 0) + 0) + 0) + 0)).toNat m ((1 * r 0 + 0) + 0))
  try simp only [Int.one_mul, Int.zero_add, Int.add_zero]
  try simp only [Int.one_mul, Int.zero_add, Int.add_zero] at e0
  exact ⟨fun _ => by first | rfl | trivial, fun q => absurd q (by omega)⟩
theorem xw_1086_0_1 : yt_hold xT_1086 xk_1086 xq_1086.2.2.1 xG_1086 xP_1086 xU_1086 26 xk_1086.2.1.2.2.2 (fun g0 r g => xR_1086 r g0 ∧ g = g0) (0, ([(5, 5), ((-2147483648), 2147483647), ((-2147483648), 2147483647), (0, 40), ((-2147483648), 2147483647), (0, 4), ((-9223372036854775808), 9223372036854775807), ((-9223372036854775808), 9223372036854775807), ((-9223372036854775808), 9223372036854775807), (0, 1), ((-4000), 4000), ((-4000), 4000), ((-8000000), 8000000), ((-8000000), 8000000), (0, 12), ((-9223372036854775808), 9223372036854775807), ((-9223372036854775808), 9223372036854775807), ((-9223372036854775808), 9223372036854775807), ((-9223372036854775808), 9223372036854775807), ((-9223372036854775808), 9223372036854775807), (0, 12), ((-2147483648), 2147483647), (0, 12), ((-2147483648), 2147483647), (0, 40), (0, 40), (1, 1), (1, 4000), ((-4000), 4000), ((-8000000), 8000000), ((-8000000), 8000000), (0, 256000000000000), (1, 16000000), (0, 16000000), (1, 4611686018427387904), (1, 4611686018427387904)], []), [([], 0), ([], 0), ([(26, 1)], 0), ([(27, 1)], 0), ([(28, 1)], 0), ([(29, 1)], 0), ([(30, 1)], 0)], [], [.inr (.inr (.inl (320, 0, [([(34, 1)], 0), ([(29, 1), (30, 1)], 0), ([(35, 1)], 0)], [], []))), .inr (.inr (.inl (320, 0, [([(27, 2)], 0), ([(28, 2)], 0), ([(34, 1)], 0)], [], []))), .inl (.inr (33, ([(28, 1)], 0), ([(28, 1)], 0))), .inl (.inr (32, ([(27, 1)], 0), ([(27, 1)], 0))), .inl (.inr (31, ([(29, (-1)), (30, 1)], 0), ([(29, (-1)), (30, 1)], 0))), .inr (.inr (.inl (331, 0, [([], 0), ([(2, 1)], 0), ([(3, 1)], 0), ([(4, 1)], 0), ([(5, 1)], 0), ([(6, 1)], 0), ([(7, 1)], 0), ([(8, 1)], 0), ([(9, 1)], 0), ([(10, 1)], 0), ([(11, 1)], 0), ([(12, 1)], 0), ([(13, 1)], 0), ([(14, 1)], 0), ([(15, 1)], 0), ([(16, 1)], 0), ([(17, 1)], 0), ([(18, 1)], 0), ([(19, 1)], 0), ([(20, 1)], 0), ([(21, 1)], 0), ([(22, 1)], 0), ([(23, 1)], 0), ([(24, 1)], 0), ([(25, 1)], 0), ([(26, 1)], 0), ([(27, 1)], 0), ([(28, 1)], 0), ([(29, 1)], 0), ([(30, 1)], 0)], [0, 1, 2, 3, 4, 5, 6, 7, 8, 9, 10, 11, 12, 13, 14, 15, 16, 17, 18, 19, 20, 21, 22, 23, 24, 25, 26, 27, 28, 29, 30, 31, 32, 33, 34, 35, 36], []))), .inr (.inr (.inl (258, 1, [([(0, 1)], 0), ([], 0), ([], 5)], [], [])))]) := by
  intro g0 r gi g hok hh hars hfr hG
  have b0 : 5 ≤ r 0 ∧ r 0 ≤ 5 := hok.1 0 (5, 5) rfl
  have b3 : 0 ≤ r 3 ∧ r 3 ≤ 40 := hok.1 3 (0, 40) rfl
  have b26 : 1 ≤ r 26 ∧ r 26 ≤ 1 := hok.1 26 (1, 1) rfl
  have b27 : 1 ≤ r 27 ∧ r 27 ≤ 4000 := hok.1 27 (1, 4000) rfl
  have b28 : (-4000) ≤ r 28 ∧ r 28 ≤ 4000 := hok.1 28 ((-4000), 4000) rfl
  have b29 : (-8000000) ≤ r 29 ∧ r 29 ≤ 8000000 := hok.1 29 ((-8000000), 8000000) rfl
  have b30 : (-8000000) ≤ r 30 ∧ r 30 ≤ 8000000 := hok.1 30 ((-8000000), 8000000) rfl
  have b31 : 0 ≤ r 31 ∧ r 31 ≤ 256000000000000 := hok.1 31 (0, 256000000000000) rfl
  have b32 : 1 ≤ r 32 ∧ r 32 ≤ 16000000 := hok.1 32 (1, 16000000) rfl
  have b33 : 0 ≤ r 33 ∧ r 33 ≤ 16000000 := hok.1 33 (0, 16000000) rfl
  have b34 : 1 ≤ r 34 ∧ r 34 ≤ 4611686018427387904 := hok.1 34 (1, 4611686018427387904) rfl
  have b35 : 1 ≤ r 35 ∧ r 35 ≤ 4611686018427387904 := hok.1 35 (1, 4611686018427387904) rfl
  obtain ⟨hG, hgi⟩ := hG
  have hG : True := hG
  obtain ⟨h0, hh, e0, k0⟩ := hh
  have k0 : ∀ j, j ∉ [] → g j = h0 j := k0
  have e0 : ((1 * r 35 + 0) + 0) = ((Nat.gcd (((1 * r 34 + 0) + 0)).natAbs (((1 * r 29 + (1 * r 30 + 0)) + 0)).natAbs : Nat) : Int) := e0
  obtain ⟨h1, hh, e1, k1⟩ := hh
  have k1 : ∀ j, j ∉ [] → h0 j = h1 j := k1
  have e1 : ((1 * r 34 + 0) + 0) = ((Nat.gcd (((2 * r 27 + 0) + 0)).natAbs (((2 * r 28 + 0) + 0)).natAbs : Nat) : Int) := e1
  obtain ⟨g2, hh, q2, e2⟩ := hh
  subst q2
  have e2 : r 33 = ((1 * r 28 + 0) + 0) * ((1 * r 28 + 0) + 0) := e2
  try simp only [Int.one_mul, Int.zero_add, Int.add_zero] at e2
  obtain ⟨g3, hh, q3, e3⟩ := hh
  subst q3
  have e3 : r 32 = ((1 * r 27 + 0) + 0) * ((1 * r 27 + 0) + 0) := e3
  try simp only [Int.one_mul, Int.zero_add, Int.add_zero] at e3
  obtain ⟨g4, hh, q4, e4⟩ := hh
  subst q4
  have e4 : r 31 = (((-1) * r 29 + (1 * r 30 + 0)) + 0) * (((-1) * r 29 + (1 * r 30 + 0)) + 0) := e4
  try simp only [Int.one_mul, Int.zero_add, Int.add_zero] at e4
  obtain ⟨h5, hh, e5, k5⟩ := hh
  have k5 : ∀ j, j ∉ [] → h1 j = h5 j := k5
  have e5 : (¬ (0 < yq_cnt (h5 3) 0 (((1 * ((1 * r 3 + 0) + 0) + 0) + 0)).toNat ∧ 0 < yq_cnt (h5 3) 1 (((1 * ((1 * r 3 + 0) + 0) + 0) + 0)).toNat) → ((1 * ((1 * r 26 + 0) + 0) + 0) + 0) = 0) ∧ ((0 < yq_cnt (h5 3) 0 (((1 * ((1 * r 3 + 0) + 0) + 0) + 0)).toNat ∧ 0 < yq_cnt (h5 3) 1 (((1 * ((1 * r 3 + 0) + 0) + 0) + 0)).toNat) → ye_nr (h5 1) (h5 2) (h5 3) (((1 * ((1 * r 3 + 0) + 0) + 0) + 0)).toNat → ye_J (h5 1) (h5 2) (h5 3) (((1 * ((1 * r 3 + 0) + 0) + 0) + 0)).toNat (((1 * ((1 * r 3 + 0) + 0) + 0) + 0)).toNat 0 (((1 * ((1 * r 26 + 0) + 0) + 0) + 0), ((1 * ((1 * r 27 + 0) + 0) + 0) + 0), ((1 * ((1 * r 28 + 0) + 0) + 0) + 0), ((1 * ((1 * r 30 + 0) + 0) + 0) + 0), ((1 * ((1 * r 29 + 0) + 0) + 0) + 0)) ∧ ye_tB (((1 * ((1 * r 26 + 0) + 0) + 0) + 0), ((1 * ((1 * r 27 + 0) + 0) + 0) + 0), ((1 * ((1 * r 28 + 0) + 0) + 0) + 0), ((1 * ((1 * r 30 + 0) + 0) + 0) + 0), ((1 * ((1 * r 29 + 0) + 0) + 0) + 0))) := e5
  obtain ⟨h6, hh, e6, k6⟩ := hh
  have k6 : ∀ j, j ∉ [] → h5 j = h6 j := k6
  have e6 : (((0 : Int) + 0) ≤ ((1 * r 0 + 0) + 0) ∧ ((1 * r 0 + 0) + 0) ≤ ((0 : Int) + 5)) := e6
  have hh : h6 = gi := hh
  subst hh
  refine yt_dcut (by decide) rfl ?_ ?_
  · rw [show xk_1086.2.1.2.1.1.length = 26 from rfl]
    refine yx_fks _ _ ?_
    refine ⟨?_, ?_, trivial⟩
    · show 0 ≤ ((1 * ((0 : Int) + 0) + 0) + 0)
      omega
    · show 0 ≤ (((-1) * ((0 : Int) + 0) + (1 * ((0 : Int) + 0) + 0)) + 0)
      omega
  · rw [show xk_1086.2.1.2.1.1.length = 26 from rfl]
    show ((1 * r 0 + 0) + 0) = 5 ∧ ((1 * ((0 : Int) + 0) + 0) + 0) = ye_sc (g0 1) (g0 2) ((1 * ((1 * r 27 + 0) + 0) + 0) + 0) ((1 * ((1 * r 28 + 0) + 0) + 0) + 0) ((1 * ((1 * r 30 + 0) + 0) + 0) + 0) ((1 * ((1 * r 29 + 0) + 0) + 0) + 0) (((1 * ((0 : Int) + 0) + 0) + 0)).toNat ∧ ((1 * ((0 : Int) + 0) + 0) + 0) ≤ ((1 * ((1 * r 3 + 0) + 0) + 0) + 0) ∧ ((1 * ((1 * r 26 + 0) + 0) + 0) + 0) = 1 ∧ (ye_nr (g0 1) (g0 2) (g0 3) (((1 * ((1 * r 3 + 0) + 0) + 0) + 0)).toNat → ye_way (g0 1) (g0 2) (g0 3) (((1 * ((1 * r 3 + 0) + 0) + 0) + 0)).toNat (((1 * ((1 * r 26 + 0) + 0) + 0) + 0), ((1 * ((1 * r 27 + 0) + 0) + 0) + 0), ((1 * ((1 * r 28 + 0) + 0) + 0) + 0), ((1 * ((1 * r 30 + 0) + 0) + 0) + 0), ((1 * ((1 * r 29 + 0) + 0) + 0) + 0)) ∧ ye_tb (((1 * ((1 * r 26 + 0) + 0) + 0) + 0), ((1 * ((1 * r 27 + 0) + 0) + 0) + 0), ((1 * ((1 * r 28 + 0) + 0) + 0) + 0), ((1 * ((1 * r 30 + 0) + 0) + 0) + 0), ((1 * ((1 * r 29 + 0) + 0) + 0) + 0)))
    try simp only [Int.one_mul, Int.zero_add, Int.add_zero]
    try simp only [Int.one_mul, Int.zero_add, Int.add_zero] at e6
    try simp only [Int.one_mul, Int.zero_add, Int.add_zero] at e5
    rw [k6 1 (by decide), k6 2 (by decide), k6 3 (by decide), hgi] at e5
    exact ⟨by omega, rfl, by omega, by omega, fun hr => ye_mw hr e5.1 e5.2⟩
theorem xw_1086_0_2 : yt_hold xT_1086 xk_1086 xq_1086.2.2.1 xG_1086 xP_1086 xU_1086 26 xk_1086.2.1.2.2.2 (fun g0 r g => xR_1086 r g0 ∧ g = g0) (1000, ([(0, 0), ((-2147483648), 2147483647), ((-2147483648), 2147483647), (0, 40), ((-2147483648), 2147483647), (0, 4), ((-9223372036854775808), 9223372036854775807), ((-9223372036854775808), 9223372036854775807), ((-9223372036854775808), 9223372036854775807), (0, 1), ((-4000), 4000), ((-4000), 4000), ((-8000000), 8000000), ((-8000000), 8000000), (0, 12), ((-9223372036854775808), 9223372036854775807), ((-9223372036854775808), 9223372036854775807), ((-9223372036854775808), 9223372036854775807), ((-9223372036854775808), 9223372036854775807), ((-9223372036854775808), 9223372036854775807), (0, 12), ((-2147483648), 2147483647), (0, 12), ((-2147483648), 2147483647), (0, 40), (0, 40), (1, 1), (1, 4000), ((-4000), 4000), ((-8000000), 8000000), ((-8000000), 8000000), (0, 256000000000000), (1, 16000000), (0, 16000000), (1, 4611686018427387904), (1, 4611686018427387904), ((-4611686018427387904), 4611686018427387904)], []), [([(36, 1)], 0), ([(26, 1)], 0), ([(27, 1)], 0), ([(28, 1)], 0), ([(29, 1)], 0), ([(30, 1)], 0)], [], [.inr (.inr (.inl (332, 0, [([(31, 1)], 0), ([(33, 1), (32, 1)], 0), ([], 1), ([(36, 1)], 0)], [], []))), .inr (.inr (.inl (320, 0, [([(34, 1)], 0), ([(29, 1), (30, 1)], 0), ([(35, 1)], 0)], [], []))), .inr (.inr (.inl (320, 0, [([(27, 2)], 0), ([(28, 2)], 0), ([(34, 1)], 0)], [], []))), .inl (.inr (33, ([(28, 1)], 0), ([(28, 1)], 0))), .inl (.inr (32, ([(27, 1)], 0), ([(27, 1)], 0))), .inl (.inr (31, ([(29, (-1)), (30, 1)], 0), ([(29, (-1)), (30, 1)], 0))), .inr (.inr (.inl (331, 0, [([], 0), ([(2, 1)], 0), ([(3, 1)], 0), ([(4, 1)], 0), ([(5, 1)], 0), ([(6, 1)], 0), ([(7, 1)], 0), ([(8, 1)], 0), ([(9, 1)], 0), ([(10, 1)], 0), ([(11, 1)], 0), ([(12, 1)], 0), ([(13, 1)], 0), ([(14, 1)], 0), ([(15, 1)], 0), ([(16, 1)], 0), ([(17, 1)], 0), ([(18, 1)], 0), ([(19, 1)], 0), ([(20, 1)], 0), ([(21, 1)], 0), ([(22, 1)], 0), ([(23, 1)], 0), ([(24, 1)], 0), ([(25, 1)], 0), ([(26, 1)], 0), ([(27, 1)], 0), ([(28, 1)], 0), ([(29, 1)], 0), ([(30, 1)], 0)], [0, 1, 2, 3, 4, 5, 6, 7, 8, 9, 10, 11, 12, 13, 14, 15, 16, 17, 18, 19, 20, 21, 22, 23, 24, 25, 26, 27, 28, 29, 30, 31, 32, 33, 34, 35, 36], []))), .inr (.inr (.inl (258, 1, [([(0, 1)], 0), ([], 0), ([], 5)], [], [])))]) := by
  intro g0 r gi g hok hh hars hfr hG
  have b0 : 0 ≤ r 0 ∧ r 0 ≤ 0 := hok.1 0 (0, 0) rfl
  have b3 : 0 ≤ r 3 ∧ r 3 ≤ 40 := hok.1 3 (0, 40) rfl
  have b26 : 1 ≤ r 26 ∧ r 26 ≤ 1 := hok.1 26 (1, 1) rfl
  have b27 : 1 ≤ r 27 ∧ r 27 ≤ 4000 := hok.1 27 (1, 4000) rfl
  have b28 : (-4000) ≤ r 28 ∧ r 28 ≤ 4000 := hok.1 28 ((-4000), 4000) rfl
  have b29 : (-8000000) ≤ r 29 ∧ r 29 ≤ 8000000 := hok.1 29 ((-8000000), 8000000) rfl
  have b30 : (-8000000) ≤ r 30 ∧ r 30 ≤ 8000000 := hok.1 30 ((-8000000), 8000000) rfl
  have b31 : 0 ≤ r 31 ∧ r 31 ≤ 256000000000000 := hok.1 31 (0, 256000000000000) rfl
  have b32 : 1 ≤ r 32 ∧ r 32 ≤ 16000000 := hok.1 32 (1, 16000000) rfl
  have b33 : 0 ≤ r 33 ∧ r 33 ≤ 16000000 := hok.1 33 (0, 16000000) rfl
  have b34 : 1 ≤ r 34 ∧ r 34 ≤ 4611686018427387904 := hok.1 34 (1, 4611686018427387904) rfl
  have b35 : 1 ≤ r 35 ∧ r 35 ≤ 4611686018427387904 := hok.1 35 (1, 4611686018427387904) rfl
  have b36 : (-4611686018427387904) ≤ r 36 ∧ r 36 ≤ 4611686018427387904 := hok.1 36 ((-4611686018427387904), 4611686018427387904) rfl
  obtain ⟨hG, hgi⟩ := hG
  have hG : True := hG
  obtain ⟨h0, hh, e0, k0⟩ := hh
  have k0 : ∀ j, j ∉ [] → g j = h0 j := k0
  have e0 : ((1 * r 36 + 0) + 0) = ye_pt ((1 * r 31 + 0) + 0) ((1 * r 33 + (1 * r 32 + 0)) + 0) ((0 : Int) + 1) := e0
  obtain ⟨h1, hh, e1, k1⟩ := hh
  have k1 : ∀ j, j ∉ [] → h0 j = h1 j := k1
  have e1 : ((1 * r 35 + 0) + 0) = ((Nat.gcd (((1 * r 34 + 0) + 0)).natAbs (((1 * r 29 + (1 * r 30 + 0)) + 0)).natAbs : Nat) : Int) := e1
  obtain ⟨h2, hh, e2, k2⟩ := hh
  have k2 : ∀ j, j ∉ [] → h1 j = h2 j := k2
  have e2 : ((1 * r 34 + 0) + 0) = ((Nat.gcd (((2 * r 27 + 0) + 0)).natAbs (((2 * r 28 + 0) + 0)).natAbs : Nat) : Int) := e2
  obtain ⟨g3, hh, q3, e3⟩ := hh
  subst q3
  have e3 : r 33 = ((1 * r 28 + 0) + 0) * ((1 * r 28 + 0) + 0) := e3
  try simp only [Int.one_mul, Int.zero_add, Int.add_zero] at e3
  obtain ⟨g4, hh, q4, e4⟩ := hh
  subst q4
  have e4 : r 32 = ((1 * r 27 + 0) + 0) * ((1 * r 27 + 0) + 0) := e4
  try simp only [Int.one_mul, Int.zero_add, Int.add_zero] at e4
  obtain ⟨g5, hh, q5, e5⟩ := hh
  subst q5
  have e5 : r 31 = (((-1) * r 29 + (1 * r 30 + 0)) + 0) * (((-1) * r 29 + (1 * r 30 + 0)) + 0) := e5
  try simp only [Int.one_mul, Int.zero_add, Int.add_zero] at e5
  obtain ⟨h6, hh, e6, k6⟩ := hh
  have k6 : ∀ j, j ∉ [] → h2 j = h6 j := k6
  have e6 : (¬ (0 < yq_cnt (h6 3) 0 (((1 * ((1 * r 3 + 0) + 0) + 0) + 0)).toNat ∧ 0 < yq_cnt (h6 3) 1 (((1 * ((1 * r 3 + 0) + 0) + 0) + 0)).toNat) → ((1 * ((1 * r 26 + 0) + 0) + 0) + 0) = 0) ∧ ((0 < yq_cnt (h6 3) 0 (((1 * ((1 * r 3 + 0) + 0) + 0) + 0)).toNat ∧ 0 < yq_cnt (h6 3) 1 (((1 * ((1 * r 3 + 0) + 0) + 0) + 0)).toNat) → ye_nr (h6 1) (h6 2) (h6 3) (((1 * ((1 * r 3 + 0) + 0) + 0) + 0)).toNat → ye_J (h6 1) (h6 2) (h6 3) (((1 * ((1 * r 3 + 0) + 0) + 0) + 0)).toNat (((1 * ((1 * r 3 + 0) + 0) + 0) + 0)).toNat 0 (((1 * ((1 * r 26 + 0) + 0) + 0) + 0), ((1 * ((1 * r 27 + 0) + 0) + 0) + 0), ((1 * ((1 * r 28 + 0) + 0) + 0) + 0), ((1 * ((1 * r 30 + 0) + 0) + 0) + 0), ((1 * ((1 * r 29 + 0) + 0) + 0) + 0)) ∧ ye_tB (((1 * ((1 * r 26 + 0) + 0) + 0) + 0), ((1 * ((1 * r 27 + 0) + 0) + 0) + 0), ((1 * ((1 * r 28 + 0) + 0) + 0) + 0), ((1 * ((1 * r 30 + 0) + 0) + 0) + 0), ((1 * ((1 * r 29 + 0) + 0) + 0) + 0))) := e6
  obtain ⟨h7, hh, e7, k7⟩ := hh
  have k7 : ∀ j, j ∉ [] → h6 j = h7 j := k7
  have e7 : (((0 : Int) + 0) ≤ ((1 * r 0 + 0) + 0) ∧ ((1 * r 0 + 0) + 0) ≤ ((0 : Int) + 5)) := e7
  have hh : h7 = gi := hh
  subst hh
  refine yt_dalt (by decide) (by decide) ?_
  rw [show xk_1086.2.1.2.1.1.length = 26 from rfl]
  show (¬ (0 ≤ ((1 * r 0 + 0) + 0) ∧ ((1 * r 0 + 0) + 0) ≤ 5) → ((1 * r 36 + 0) + 0) = -1) ∧ ((0 ≤ ((1 * r 0 + 0) + 0) ∧ ((1 * r 0 + 0) + 0) ≤ 5) → ye_nr (g0 1) (g0 2) (g0 3) (((1 * ((1 * r 3 + 0) + 0) + 0) + 0)).toNat → ∃ m : ye_T, ye_way (g0 1) (g0 2) (g0 3) (((1 * ((1 * r 3 + 0) + 0) + 0) + 0)).toNat m ∧ ye_tb m ∧ ((1 * r 36 + 0) + 0) = ye_rw (g0 1) (g0 2) (((1 * ((1 * r 3 + 0) + 0) + 0) + 0)).toNat m ((1 * r 0 + 0) + 0))
  try simp only [Int.one_mul, Int.zero_add, Int.add_zero]
  try simp only [Int.one_mul, Int.zero_add, Int.add_zero] at e7
  try simp only [Int.one_mul, Int.zero_add, Int.add_zero] at e6
  rw [k7 1 (by decide), k7 2 (by decide), k7 3 (by decide), hgi] at e6
  try simp only [Int.one_mul, Int.zero_add, Int.add_zero] at e3
  try simp only [Int.one_mul, Int.zero_add, Int.add_zero] at e4
  try simp only [Int.one_mul, Int.zero_add, Int.add_zero] at e5
  try simp only [Int.one_mul, Int.zero_add, Int.add_zero] at e0
  rw [show -1 * r 29 + r 30 = r 30 - r 29 by omega] at e5
  have sqA : r 27 * r 27 = r 32 := e4.symm
  have sqB : r 28 * r 28 = r 33 := e3.symm
  have hl : r 27 * r 27 + r 28 * r 28 = r 33 + r 32 := by
    rw [sqA, sqB]
    omega
  rw [e5, ← hl] at e0
  refine ⟨fun q => absurd (by omega) q, fun _ hr => ⟨(r 26, r 27, r 28, r 30, r 29), (ye_mw hr e6.1 e6.2).1, (ye_mw hr e6.1 e6.2).2, ?_⟩⟩
  unfold ye_rw
  try dsimp only
  rw [if_neg (show ¬ r 26 = 0 by omega)]
  rw [show r 0 = 0 by omega, (ye_w0e (show r 27 * r 27 + r 28 * r 28 ≠ 0 by rw [hl]; omega)).1]
  exact e0
theorem xw_1086_0_3 : yt_hold xT_1086 xk_1086 xq_1086.2.2.1 xG_1086 xP_1086 xU_1086 26 xk_1086.2.1.2.2.2 (fun g0 r g => xR_1086 r g0 ∧ g = g0) (1000, ([(1, 1), ((-2147483648), 2147483647), ((-2147483648), 2147483647), (0, 40), ((-2147483648), 2147483647), (0, 4), ((-9223372036854775808), 9223372036854775807), ((-9223372036854775808), 9223372036854775807), ((-9223372036854775808), 9223372036854775807), (0, 1), ((-4000), 4000), ((-4000), 4000), ((-8000000), 8000000), ((-8000000), 8000000), (0, 12), ((-9223372036854775808), 9223372036854775807), ((-9223372036854775808), 9223372036854775807), ((-9223372036854775808), 9223372036854775807), ((-9223372036854775808), 9223372036854775807), ((-9223372036854775808), 9223372036854775807), (0, 12), ((-2147483648), 2147483647), (0, 12), ((-2147483648), 2147483647), (0, 40), (0, 40), (1, 1), (1, 4000), ((-4000), 4000), ((-8000000), 8000000), ((-8000000), 8000000), (0, 256000000000000), (1, 16000000), (0, 16000000), (1, 4611686018427387904), (1, 4611686018427387904), ((-4611686018427387904), 4611686018427387904)], []), [([(36, 1)], 0), ([(26, 1)], 0), ([(27, 1)], 0), ([(28, 1)], 0), ([(29, 1)], 0), ([(30, 1)], 0)], [], [.inr (.inr (.inl (332, 0, [([(31, 1)], 0), ([(33, 1), (32, 1)], 0), ([], 0), ([(36, 1)], 0)], [], []))), .inr (.inr (.inl (320, 0, [([(34, 1)], 0), ([(29, 1), (30, 1)], 0), ([(35, 1)], 0)], [], []))), .inr (.inr (.inl (320, 0, [([(27, 2)], 0), ([(28, 2)], 0), ([(34, 1)], 0)], [], []))), .inl (.inr (33, ([(28, 1)], 0), ([(28, 1)], 0))), .inl (.inr (32, ([(27, 1)], 0), ([(27, 1)], 0))), .inl (.inr (31, ([(29, (-1)), (30, 1)], 0), ([(29, (-1)), (30, 1)], 0))), .inr (.inr (.inl (331, 0, [([], 0), ([(2, 1)], 0), ([(3, 1)], 0), ([(4, 1)], 0), ([(5, 1)], 0), ([(6, 1)], 0), ([(7, 1)], 0), ([(8, 1)], 0), ([(9, 1)], 0), ([(10, 1)], 0), ([(11, 1)], 0), ([(12, 1)], 0), ([(13, 1)], 0), ([(14, 1)], 0), ([(15, 1)], 0), ([(16, 1)], 0), ([(17, 1)], 0), ([(18, 1)], 0), ([(19, 1)], 0), ([(20, 1)], 0), ([(21, 1)], 0), ([(22, 1)], 0), ([(23, 1)], 0), ([(24, 1)], 0), ([(25, 1)], 0), ([(26, 1)], 0), ([(27, 1)], 0), ([(28, 1)], 0), ([(29, 1)], 0), ([(30, 1)], 0)], [0, 1, 2, 3, 4, 5, 6, 7, 8, 9, 10, 11, 12, 13, 14, 15, 16, 17, 18, 19, 20, 21, 22, 23, 24, 25, 26, 27, 28, 29, 30, 31, 32, 33, 34, 35, 36], []))), .inr (.inr (.inl (258, 1, [([(0, 1)], 0), ([], 0), ([], 5)], [], [])))]) := by
  intro g0 r gi g hok hh hars hfr hG
  have b0 : 1 ≤ r 0 ∧ r 0 ≤ 1 := hok.1 0 (1, 1) rfl
  have b3 : 0 ≤ r 3 ∧ r 3 ≤ 40 := hok.1 3 (0, 40) rfl
  have b26 : 1 ≤ r 26 ∧ r 26 ≤ 1 := hok.1 26 (1, 1) rfl
  have b27 : 1 ≤ r 27 ∧ r 27 ≤ 4000 := hok.1 27 (1, 4000) rfl
  have b28 : (-4000) ≤ r 28 ∧ r 28 ≤ 4000 := hok.1 28 ((-4000), 4000) rfl
  have b29 : (-8000000) ≤ r 29 ∧ r 29 ≤ 8000000 := hok.1 29 ((-8000000), 8000000) rfl
  have b30 : (-8000000) ≤ r 30 ∧ r 30 ≤ 8000000 := hok.1 30 ((-8000000), 8000000) rfl
  have b31 : 0 ≤ r 31 ∧ r 31 ≤ 256000000000000 := hok.1 31 (0, 256000000000000) rfl
  have b32 : 1 ≤ r 32 ∧ r 32 ≤ 16000000 := hok.1 32 (1, 16000000) rfl
  have b33 : 0 ≤ r 33 ∧ r 33 ≤ 16000000 := hok.1 33 (0, 16000000) rfl
  have b34 : 1 ≤ r 34 ∧ r 34 ≤ 4611686018427387904 := hok.1 34 (1, 4611686018427387904) rfl
  have b35 : 1 ≤ r 35 ∧ r 35 ≤ 4611686018427387904 := hok.1 35 (1, 4611686018427387904) rfl
  have b36 : (-4611686018427387904) ≤ r 36 ∧ r 36 ≤ 4611686018427387904 := hok.1 36 ((-4611686018427387904), 4611686018427387904) rfl
  obtain ⟨hG, hgi⟩ := hG
  have hG : True := hG
  obtain ⟨h0, hh, e0, k0⟩ := hh
  have k0 : ∀ j, j ∉ [] → g j = h0 j := k0
  have e0 : ((1 * r 36 + 0) + 0) = ye_pt ((1 * r 31 + 0) + 0) ((1 * r 33 + (1 * r 32 + 0)) + 0) ((0 : Int) + 0) := e0
  obtain ⟨h1, hh, e1, k1⟩ := hh
  have k1 : ∀ j, j ∉ [] → h0 j = h1 j := k1
  have e1 : ((1 * r 35 + 0) + 0) = ((Nat.gcd (((1 * r 34 + 0) + 0)).natAbs (((1 * r 29 + (1 * r 30 + 0)) + 0)).natAbs : Nat) : Int) := e1
  obtain ⟨h2, hh, e2, k2⟩ := hh
  have k2 : ∀ j, j ∉ [] → h1 j = h2 j := k2
  have e2 : ((1 * r 34 + 0) + 0) = ((Nat.gcd (((2 * r 27 + 0) + 0)).natAbs (((2 * r 28 + 0) + 0)).natAbs : Nat) : Int) := e2
  obtain ⟨g3, hh, q3, e3⟩ := hh
  subst q3
  have e3 : r 33 = ((1 * r 28 + 0) + 0) * ((1 * r 28 + 0) + 0) := e3
  try simp only [Int.one_mul, Int.zero_add, Int.add_zero] at e3
  obtain ⟨g4, hh, q4, e4⟩ := hh
  subst q4
  have e4 : r 32 = ((1 * r 27 + 0) + 0) * ((1 * r 27 + 0) + 0) := e4
  try simp only [Int.one_mul, Int.zero_add, Int.add_zero] at e4
  obtain ⟨g5, hh, q5, e5⟩ := hh
  subst q5
  have e5 : r 31 = (((-1) * r 29 + (1 * r 30 + 0)) + 0) * (((-1) * r 29 + (1 * r 30 + 0)) + 0) := e5
  try simp only [Int.one_mul, Int.zero_add, Int.add_zero] at e5
  obtain ⟨h6, hh, e6, k6⟩ := hh
  have k6 : ∀ j, j ∉ [] → h2 j = h6 j := k6
  have e6 : (¬ (0 < yq_cnt (h6 3) 0 (((1 * ((1 * r 3 + 0) + 0) + 0) + 0)).toNat ∧ 0 < yq_cnt (h6 3) 1 (((1 * ((1 * r 3 + 0) + 0) + 0) + 0)).toNat) → ((1 * ((1 * r 26 + 0) + 0) + 0) + 0) = 0) ∧ ((0 < yq_cnt (h6 3) 0 (((1 * ((1 * r 3 + 0) + 0) + 0) + 0)).toNat ∧ 0 < yq_cnt (h6 3) 1 (((1 * ((1 * r 3 + 0) + 0) + 0) + 0)).toNat) → ye_nr (h6 1) (h6 2) (h6 3) (((1 * ((1 * r 3 + 0) + 0) + 0) + 0)).toNat → ye_J (h6 1) (h6 2) (h6 3) (((1 * ((1 * r 3 + 0) + 0) + 0) + 0)).toNat (((1 * ((1 * r 3 + 0) + 0) + 0) + 0)).toNat 0 (((1 * ((1 * r 26 + 0) + 0) + 0) + 0), ((1 * ((1 * r 27 + 0) + 0) + 0) + 0), ((1 * ((1 * r 28 + 0) + 0) + 0) + 0), ((1 * ((1 * r 30 + 0) + 0) + 0) + 0), ((1 * ((1 * r 29 + 0) + 0) + 0) + 0)) ∧ ye_tB (((1 * ((1 * r 26 + 0) + 0) + 0) + 0), ((1 * ((1 * r 27 + 0) + 0) + 0) + 0), ((1 * ((1 * r 28 + 0) + 0) + 0) + 0), ((1 * ((1 * r 30 + 0) + 0) + 0) + 0), ((1 * ((1 * r 29 + 0) + 0) + 0) + 0))) := e6
  obtain ⟨h7, hh, e7, k7⟩ := hh
  have k7 : ∀ j, j ∉ [] → h6 j = h7 j := k7
  have e7 : (((0 : Int) + 0) ≤ ((1 * r 0 + 0) + 0) ∧ ((1 * r 0 + 0) + 0) ≤ ((0 : Int) + 5)) := e7
  have hh : h7 = gi := hh
  subst hh
  refine yt_dalt (by decide) (by decide) ?_
  rw [show xk_1086.2.1.2.1.1.length = 26 from rfl]
  show (¬ (0 ≤ ((1 * r 0 + 0) + 0) ∧ ((1 * r 0 + 0) + 0) ≤ 5) → ((1 * r 36 + 0) + 0) = -1) ∧ ((0 ≤ ((1 * r 0 + 0) + 0) ∧ ((1 * r 0 + 0) + 0) ≤ 5) → ye_nr (g0 1) (g0 2) (g0 3) (((1 * ((1 * r 3 + 0) + 0) + 0) + 0)).toNat → ∃ m : ye_T, ye_way (g0 1) (g0 2) (g0 3) (((1 * ((1 * r 3 + 0) + 0) + 0) + 0)).toNat m ∧ ye_tb m ∧ ((1 * r 36 + 0) + 0) = ye_rw (g0 1) (g0 2) (((1 * ((1 * r 3 + 0) + 0) + 0) + 0)).toNat m ((1 * r 0 + 0) + 0))
  try simp only [Int.one_mul, Int.zero_add, Int.add_zero]
  try simp only [Int.one_mul, Int.zero_add, Int.add_zero] at e7
  try simp only [Int.one_mul, Int.zero_add, Int.add_zero] at e6
  rw [k7 1 (by decide), k7 2 (by decide), k7 3 (by decide), hgi] at e6
  try simp only [Int.one_mul, Int.zero_add, Int.add_zero] at e3
  try simp only [Int.one_mul, Int.zero_add, Int.add_zero] at e4
  try simp only [Int.one_mul, Int.zero_add, Int.add_zero] at e5
  try simp only [Int.one_mul, Int.zero_add, Int.add_zero] at e0
  rw [show -1 * r 29 + r 30 = r 30 - r 29 by omega] at e5
  have sqA : r 27 * r 27 = r 32 := e4.symm
  have sqB : r 28 * r 28 = r 33 := e3.symm
  have hl : r 27 * r 27 + r 28 * r 28 = r 33 + r 32 := by
    rw [sqA, sqB]
    omega
  rw [e5, ← hl] at e0
  refine ⟨fun q => absurd (by omega) q, fun _ hr => ⟨(r 26, r 27, r 28, r 30, r 29), (ye_mw hr e6.1 e6.2).1, (ye_mw hr e6.1 e6.2).2, ?_⟩⟩
  unfold ye_rw
  try dsimp only
  rw [if_neg (show ¬ r 26 = 0 by omega)]
  rw [show r 0 = 1 by omega, (ye_w0e (show r 27 * r 27 + r 28 * r 28 ≠ 0 by rw [hl]; omega)).2]
  exact e0
theorem xw_1086_0_4 : yt_hold xT_1086 xk_1086 xq_1086.2.2.1 xG_1086 xP_1086 xU_1086 26 xk_1086.2.1.2.2.2 (fun g0 r g => xR_1086 r g0 ∧ g = g0) (1000, ([(2, 2), ((-2147483648), 2147483647), ((-2147483648), 2147483647), (0, 40), ((-2147483648), 2147483647), (0, 4), ((-9223372036854775808), 9223372036854775807), ((-9223372036854775808), 9223372036854775807), ((-9223372036854775808), 9223372036854775807), (0, 1), ((-4000), 4000), ((-4000), 4000), ((-8000000), 8000000), ((-8000000), 8000000), (0, 12), ((-9223372036854775808), 9223372036854775807), ((-9223372036854775808), 9223372036854775807), ((-9223372036854775808), 9223372036854775807), ((-9223372036854775808), 9223372036854775807), ((-9223372036854775808), 9223372036854775807), (0, 12), ((-2147483648), 2147483647), (0, 12), ((-2147483648), 2147483647), (0, 40), (0, 40), (1, 1), (1, 4000), ((-4000), 4000), ((-8000000), 8000000), ((-8000000), 8000000), (0, 256000000000000), (1, 16000000), (0, 16000000), (1, 4611686018427387904), (3, 4611686018427387904), (0, 0)], [([(35, 1), (27, (-2))], (-1)), ([(27, 2)], 0)]), [([], 0), ([(26, 1)], 0), ([(27, 1)], 0), ([(28, 1)], 0), ([(29, 1)], 0), ([(30, 1)], 0)], [], [.inr (.inr (.inl (998, 1, [([(27, 2)], 0), ([(35, 1)], 0), ([], 0)], [], []))), .inr (.inr (.inl (320, 0, [([(34, 1)], 0), ([(29, 1), (30, 1)], 0), ([(35, 1)], 0)], [], []))), .inr (.inr (.inl (320, 0, [([(27, 2)], 0), ([(28, 2)], 0), ([(34, 1)], 0)], [], []))), .inl (.inr (33, ([(28, 1)], 0), ([(28, 1)], 0))), .inl (.inr (32, ([(27, 1)], 0), ([(27, 1)], 0))), .inl (.inr (31, ([(29, (-1)), (30, 1)], 0), ([(29, (-1)), (30, 1)], 0))), .inr (.inr (.inl (331, 0, [([], 0), ([(2, 1)], 0), ([(3, 1)], 0), ([(4, 1)], 0), ([(5, 1)], 0), ([(6, 1)], 0), ([(7, 1)], 0), ([(8, 1)], 0), ([(9, 1)], 0), ([(10, 1)], 0), ([(11, 1)], 0), ([(12, 1)], 0), ([(13, 1)], 0), ([(14, 1)], 0), ([(15, 1)], 0), ([(16, 1)], 0), ([(17, 1)], 0), ([(18, 1)], 0), ([(19, 1)], 0), ([(20, 1)], 0), ([(21, 1)], 0), ([(22, 1)], 0), ([(23, 1)], 0), ([(24, 1)], 0), ([(25, 1)], 0), ([(26, 1)], 0), ([(27, 1)], 0), ([(28, 1)], 0), ([(29, 1)], 0), ([(30, 1)], 0)], [0, 1, 2, 3, 4, 5, 6, 7, 8, 9, 10, 11, 12, 13, 14, 15, 16, 17, 18, 19, 20, 21, 22, 23, 24, 25, 26, 27, 28, 29, 30, 31, 32, 33, 34, 35, 36], []))), .inr (.inr (.inl (258, 1, [([(0, 1)], 0), ([], 0), ([], 5)], [], [])))]) := by
  intro g0 r gi g hok hh hars hfr hG
  have b0 : 2 ≤ r 0 ∧ r 0 ≤ 2 := hok.1 0 (2, 2) rfl
  have b3 : 0 ≤ r 3 ∧ r 3 ≤ 40 := hok.1 3 (0, 40) rfl
  have b26 : 1 ≤ r 26 ∧ r 26 ≤ 1 := hok.1 26 (1, 1) rfl
  have b27 : 1 ≤ r 27 ∧ r 27 ≤ 4000 := hok.1 27 (1, 4000) rfl
  have b28 : (-4000) ≤ r 28 ∧ r 28 ≤ 4000 := hok.1 28 ((-4000), 4000) rfl
  have b29 : (-8000000) ≤ r 29 ∧ r 29 ≤ 8000000 := hok.1 29 ((-8000000), 8000000) rfl
  have b30 : (-8000000) ≤ r 30 ∧ r 30 ≤ 8000000 := hok.1 30 ((-8000000), 8000000) rfl
  have b31 : 0 ≤ r 31 ∧ r 31 ≤ 256000000000000 := hok.1 31 (0, 256000000000000) rfl
  have b32 : 1 ≤ r 32 ∧ r 32 ≤ 16000000 := hok.1 32 (1, 16000000) rfl
  have b33 : 0 ≤ r 33 ∧ r 33 ≤ 16000000 := hok.1 33 (0, 16000000) rfl
  have b34 : 1 ≤ r 34 ∧ r 34 ≤ 4611686018427387904 := hok.1 34 (1, 4611686018427387904) rfl
  have b35 : 3 ≤ r 35 ∧ r 35 ≤ 4611686018427387904 := hok.1 35 (3, 4611686018427387904) rfl
  have b36 : 0 ≤ r 36 ∧ r 36 ≤ 0 := hok.1 36 (0, 0) rfl
  have f0 : 0 ≤ ((1 * r 35 + ((-2) * r 27 + 0)) + (-1)) := hok.2 _ (List.mem_of_getElem? (i := 0) rfl)
  have f1 : 0 ≤ ((2 * r 27 + 0) + 0) := hok.2 _ (List.mem_of_getElem? (i := 1) rfl)
  obtain ⟨hG, hgi⟩ := hG
  have hG : True := hG
  obtain ⟨h0, hh, e0, k0⟩ := hh
  have k0 : ∀ j, j ∉ [] → g j = h0 j := k0
  have e0 : ((0 : Int) + 0) = (((2 * r 27 + 0) + 0)).tdiv (((1 * r 35 + 0) + 0)) := e0
  obtain ⟨h1, hh, e1, k1⟩ := hh
  have k1 : ∀ j, j ∉ [] → h0 j = h1 j := k1
  have e1 : ((1 * r 35 + 0) + 0) = ((Nat.gcd (((1 * r 34 + 0) + 0)).natAbs (((1 * r 29 + (1 * r 30 + 0)) + 0)).natAbs : Nat) : Int) := e1
  obtain ⟨h2, hh, e2, k2⟩ := hh
  have k2 : ∀ j, j ∉ [] → h1 j = h2 j := k2
  have e2 : ((1 * r 34 + 0) + 0) = ((Nat.gcd (((2 * r 27 + 0) + 0)).natAbs (((2 * r 28 + 0) + 0)).natAbs : Nat) : Int) := e2
  obtain ⟨g3, hh, q3, e3⟩ := hh
  subst q3
  have e3 : r 33 = ((1 * r 28 + 0) + 0) * ((1 * r 28 + 0) + 0) := e3
  try simp only [Int.one_mul, Int.zero_add, Int.add_zero] at e3
  obtain ⟨g4, hh, q4, e4⟩ := hh
  subst q4
  have e4 : r 32 = ((1 * r 27 + 0) + 0) * ((1 * r 27 + 0) + 0) := e4
  try simp only [Int.one_mul, Int.zero_add, Int.add_zero] at e4
  obtain ⟨g5, hh, q5, e5⟩ := hh
  subst q5
  have e5 : r 31 = (((-1) * r 29 + (1 * r 30 + 0)) + 0) * (((-1) * r 29 + (1 * r 30 + 0)) + 0) := e5
  try simp only [Int.one_mul, Int.zero_add, Int.add_zero] at e5
  obtain ⟨h6, hh, e6, k6⟩ := hh
  have k6 : ∀ j, j ∉ [] → h2 j = h6 j := k6
  have e6 : (¬ (0 < yq_cnt (h6 3) 0 (((1 * ((1 * r 3 + 0) + 0) + 0) + 0)).toNat ∧ 0 < yq_cnt (h6 3) 1 (((1 * ((1 * r 3 + 0) + 0) + 0) + 0)).toNat) → ((1 * ((1 * r 26 + 0) + 0) + 0) + 0) = 0) ∧ ((0 < yq_cnt (h6 3) 0 (((1 * ((1 * r 3 + 0) + 0) + 0) + 0)).toNat ∧ 0 < yq_cnt (h6 3) 1 (((1 * ((1 * r 3 + 0) + 0) + 0) + 0)).toNat) → ye_nr (h6 1) (h6 2) (h6 3) (((1 * ((1 * r 3 + 0) + 0) + 0) + 0)).toNat → ye_J (h6 1) (h6 2) (h6 3) (((1 * ((1 * r 3 + 0) + 0) + 0) + 0)).toNat (((1 * ((1 * r 3 + 0) + 0) + 0) + 0)).toNat 0 (((1 * ((1 * r 26 + 0) + 0) + 0) + 0), ((1 * ((1 * r 27 + 0) + 0) + 0) + 0), ((1 * ((1 * r 28 + 0) + 0) + 0) + 0), ((1 * ((1 * r 30 + 0) + 0) + 0) + 0), ((1 * ((1 * r 29 + 0) + 0) + 0) + 0)) ∧ ye_tB (((1 * ((1 * r 26 + 0) + 0) + 0) + 0), ((1 * ((1 * r 27 + 0) + 0) + 0) + 0), ((1 * ((1 * r 28 + 0) + 0) + 0) + 0), ((1 * ((1 * r 30 + 0) + 0) + 0) + 0), ((1 * ((1 * r 29 + 0) + 0) + 0) + 0))) := e6
  obtain ⟨h7, hh, e7, k7⟩ := hh
  have k7 : ∀ j, j ∉ [] → h6 j = h7 j := k7
  have e7 : (((0 : Int) + 0) ≤ ((1 * r 0 + 0) + 0) ∧ ((1 * r 0 + 0) + 0) ≤ ((0 : Int) + 5)) := e7
  have hh : h7 = gi := hh
  subst hh
  refine yt_dalt (by decide) (by decide) ?_
  rw [show xk_1086.2.1.2.1.1.length = 26 from rfl]
  show (¬ (0 ≤ ((1 * r 0 + 0) + 0) ∧ ((1 * r 0 + 0) + 0) ≤ 5) → ((0 : Int) + 0) = -1) ∧ ((0 ≤ ((1 * r 0 + 0) + 0) ∧ ((1 * r 0 + 0) + 0) ≤ 5) → ye_nr (g0 1) (g0 2) (g0 3) (((1 * ((1 * r 3 + 0) + 0) + 0) + 0)).toNat → ∃ m : ye_T, ye_way (g0 1) (g0 2) (g0 3) (((1 * ((1 * r 3 + 0) + 0) + 0) + 0)).toNat m ∧ ye_tb m ∧ ((0 : Int) + 0) = ye_rw (g0 1) (g0 2) (((1 * ((1 * r 3 + 0) + 0) + 0) + 0)).toNat m ((1 * r 0 + 0) + 0))
  try simp only [Int.one_mul, Int.zero_add, Int.add_zero]
  try simp only [Int.one_mul, Int.zero_add, Int.add_zero] at e7
  try simp only [Int.one_mul, Int.zero_add, Int.add_zero] at e6
  rw [k7 1 (by decide), k7 2 (by decide), k7 3 (by decide), hgi] at e6
  try simp only [Int.one_mul, Int.zero_add, Int.add_zero] at e3
  try simp only [Int.one_mul, Int.zero_add, Int.add_zero] at e4
  try simp only [Int.one_mul, Int.zero_add, Int.add_zero] at e5
  try simp only [Int.one_mul, Int.zero_add, Int.add_zero] at e1
  try simp only [Int.one_mul, Int.zero_add, Int.add_zero] at e2
  try simp only [Int.one_mul, Int.zero_add, Int.add_zero] at e0
  rw [show r 29 + r 30 = r 30 + r 29 by omega] at e1
  refine ⟨fun q => absurd (by omega) q, fun _ hr => ⟨(r 26, r 27, r 28, r 30, r 29), (ye_mw hr e6.1 e6.2).1, (ye_mw hr e6.1 e6.2).2, ?_⟩⟩
  unfold ye_rw
  try dsimp only
  rw [if_neg (show ¬ r 26 = 0 by omega)]
  rw [show r 0 = 2 by omega]
  unfold ye_wd
  rw [if_neg (by decide), if_neg (by decide), if_pos rfl]
  rw [ye_w2e (show r 27 ≠ 0 ∨ r 28 ≠ 0 by omega) e2 e1]
  exact e0
theorem xw_1086_0_5 : yt_hold xT_1086 xk_1086 xq_1086.2.2.1 xG_1086 xP_1086 xU_1086 26 xk_1086.2.1.2.2.2 (fun g0 r g => xR_1086 r g0 ∧ g = g0) (1000, ([(2, 2), ((-2147483648), 2147483647), ((-2147483648), 2147483647), (0, 40), ((-2147483648), 2147483647), (0, 4), ((-9223372036854775808), 9223372036854775807), ((-9223372036854775808), 9223372036854775807), ((-9223372036854775808), 9223372036854775807), (0, 1), ((-4000), 4000), ((-4000), 4000), ((-8000000), 8000000), ((-8000000), 8000000), (0, 12), ((-9223372036854775808), 9223372036854775807), ((-9223372036854775808), 9223372036854775807), ((-9223372036854775808), 9223372036854775807), ((-9223372036854775808), 9223372036854775807), ((-9223372036854775808), 9223372036854775807), (0, 12), ((-2147483648), 2147483647), (0, 12), ((-2147483648), 2147483647), (0, 40), (0, 40), (1, 1), (1, 4000), ((-4000), 4000), ((-8000000), 8000000), ((-8000000), 8000000), (0, 256000000000000), (1, 16000000), (0, 16000000), (1, 4611686018427387904), (1, 8000), (1, 8000)], [([(36, (-1)), (27, 2)], 0), ([(35, (-1)), (27, 2)], 0)]), [([(36, 1)], 0), ([(26, 1)], 0), ([(27, 1)], 0), ([(28, 1)], 0), ([(29, 1)], 0), ([(30, 1)], 0)], [], [.inr (.inr (.inl (998, 1, [([(27, 2)], 0), ([(35, 1)], 0), ([(36, 1)], 0)], [], []))), .inr (.inr (.inl (320, 0, [([(34, 1)], 0), ([(29, 1), (30, 1)], 0), ([(35, 1)], 0)], [], []))), .inr (.inr (.inl (320, 0, [([(27, 2)], 0), ([(28, 2)], 0), ([(34, 1)], 0)], [], []))), .inl (.inr (33, ([(28, 1)], 0), ([(28, 1)], 0))), .inl (.inr (32, ([(27, 1)], 0), ([(27, 1)], 0))), .inl (.inr (31, ([(29, (-1)), (30, 1)], 0), ([(29, (-1)), (30, 1)], 0))), .inr (.inr (.inl (331, 0, [([], 0), ([(2, 1)], 0), ([(3, 1)], 0), ([(4, 1)], 0), ([(5, 1)], 0), ([(6, 1)], 0), ([(7, 1)], 0), ([(8, 1)], 0), ([(9, 1)], 0), ([(10, 1)], 0), ([(11, 1)], 0), ([(12, 1)], 0), ([(13, 1)], 0), ([(14, 1)], 0), ([(15, 1)], 0), ([(16, 1)], 0), ([(17, 1)], 0), ([(18, 1)], 0), ([(19, 1)], 0), ([(20, 1)], 0), ([(21, 1)], 0), ([(22, 1)], 0), ([(23, 1)], 0), ([(24, 1)], 0), ([(25, 1)], 0), ([(26, 1)], 0), ([(27, 1)], 0), ([(28, 1)], 0), ([(29, 1)], 0), ([(30, 1)], 0)], [0, 1, 2, 3, 4, 5, 6, 7, 8, 9, 10, 11, 12, 13, 14, 15, 16, 17, 18, 19, 20, 21, 22, 23, 24, 25, 26, 27, 28, 29, 30, 31, 32, 33, 34, 35, 36], []))), .inr (.inr (.inl (258, 1, [([(0, 1)], 0), ([], 0), ([], 5)], [], [])))]) := by
  intro g0 r gi g hok hh hars hfr hG
  have b0 : 2 ≤ r 0 ∧ r 0 ≤ 2 := hok.1 0 (2, 2) rfl
  have b3 : 0 ≤ r 3 ∧ r 3 ≤ 40 := hok.1 3 (0, 40) rfl
  have b26 : 1 ≤ r 26 ∧ r 26 ≤ 1 := hok.1 26 (1, 1) rfl
  have b27 : 1 ≤ r 27 ∧ r 27 ≤ 4000 := hok.1 27 (1, 4000) rfl
  have b28 : (-4000) ≤ r 28 ∧ r 28 ≤ 4000 := hok.1 28 ((-4000), 4000) rfl
  have b29 : (-8000000) ≤ r 29 ∧ r 29 ≤ 8000000 := hok.1 29 ((-8000000), 8000000) rfl
  have b30 : (-8000000) ≤ r 30 ∧ r 30 ≤ 8000000 := hok.1 30 ((-8000000), 8000000) rfl
  have b31 : 0 ≤ r 31 ∧ r 31 ≤ 256000000000000 := hok.1 31 (0, 256000000000000) rfl
  have b32 : 1 ≤ r 32 ∧ r 32 ≤ 16000000 := hok.1 32 (1, 16000000) rfl
  have b33 : 0 ≤ r 33 ∧ r 33 ≤ 16000000 := hok.1 33 (0, 16000000) rfl
  have b34 : 1 ≤ r 34 ∧ r 34 ≤ 4611686018427387904 := hok.1 34 (1, 4611686018427387904) rfl
  have b35 : 1 ≤ r 35 ∧ r 35 ≤ 8000 := hok.1 35 (1, 8000) rfl
  have b36 : 1 ≤ r 36 ∧ r 36 ≤ 8000 := hok.1 36 (1, 8000) rfl
  have f0 : 0 ≤ (((-1) * r 36 + (2 * r 27 + 0)) + 0) := hok.2 _ (List.mem_of_getElem? (i := 0) rfl)
  have f1 : 0 ≤ (((-1) * r 35 + (2 * r 27 + 0)) + 0) := hok.2 _ (List.mem_of_getElem? (i := 1) rfl)
  obtain ⟨hG, hgi⟩ := hG
  have hG : True := hG
  obtain ⟨h0, hh, e0, k0⟩ := hh
  have k0 : ∀ j, j ∉ [] → g j = h0 j := k0
  have e0 : ((1 * r 36 + 0) + 0) = (((2 * r 27 + 0) + 0)).tdiv (((1 * r 35 + 0) + 0)) := e0
  obtain ⟨h1, hh, e1, k1⟩ := hh
  have k1 : ∀ j, j ∉ [] → h0 j = h1 j := k1
  have e1 : ((1 * r 35 + 0) + 0) = ((Nat.gcd (((1 * r 34 + 0) + 0)).natAbs (((1 * r 29 + (1 * r 30 + 0)) + 0)).natAbs : Nat) : Int) := e1
  obtain ⟨h2, hh, e2, k2⟩ := hh
  have k2 : ∀ j, j ∉ [] → h1 j = h2 j := k2
  have e2 : ((1 * r 34 + 0) + 0) = ((Nat.gcd (((2 * r 27 + 0) + 0)).natAbs (((2 * r 28 + 0) + 0)).natAbs : Nat) : Int) := e2
  obtain ⟨g3, hh, q3, e3⟩ := hh
  subst q3
  have e3 : r 33 = ((1 * r 28 + 0) + 0) * ((1 * r 28 + 0) + 0) := e3
  try simp only [Int.one_mul, Int.zero_add, Int.add_zero] at e3
  obtain ⟨g4, hh, q4, e4⟩ := hh
  subst q4
  have e4 : r 32 = ((1 * r 27 + 0) + 0) * ((1 * r 27 + 0) + 0) := e4
  try simp only [Int.one_mul, Int.zero_add, Int.add_zero] at e4
  obtain ⟨g5, hh, q5, e5⟩ := hh
  subst q5
  have e5 : r 31 = (((-1) * r 29 + (1 * r 30 + 0)) + 0) * (((-1) * r 29 + (1 * r 30 + 0)) + 0) := e5
  try simp only [Int.one_mul, Int.zero_add, Int.add_zero] at e5
  obtain ⟨h6, hh, e6, k6⟩ := hh
  have k6 : ∀ j, j ∉ [] → h2 j = h6 j := k6
  have e6 : (¬ (0 < yq_cnt (h6 3) 0 (((1 * ((1 * r 3 + 0) + 0) + 0) + 0)).toNat ∧ 0 < yq_cnt (h6 3) 1 (((1 * ((1 * r 3 + 0) + 0) + 0) + 0)).toNat) → ((1 * ((1 * r 26 + 0) + 0) + 0) + 0) = 0) ∧ ((0 < yq_cnt (h6 3) 0 (((1 * ((1 * r 3 + 0) + 0) + 0) + 0)).toNat ∧ 0 < yq_cnt (h6 3) 1 (((1 * ((1 * r 3 + 0) + 0) + 0) + 0)).toNat) → ye_nr (h6 1) (h6 2) (h6 3) (((1 * ((1 * r 3 + 0) + 0) + 0) + 0)).toNat → ye_J (h6 1) (h6 2) (h6 3) (((1 * ((1 * r 3 + 0) + 0) + 0) + 0)).toNat (((1 * ((1 * r 3 + 0) + 0) + 0) + 0)).toNat 0 (((1 * ((1 * r 26 + 0) + 0) + 0) + 0), ((1 * ((1 * r 27 + 0) + 0) + 0) + 0), ((1 * ((1 * r 28 + 0) + 0) + 0) + 0), ((1 * ((1 * r 30 + 0) + 0) + 0) + 0), ((1 * ((1 * r 29 + 0) + 0) + 0) + 0)) ∧ ye_tB (((1 * ((1 * r 26 + 0) + 0) + 0) + 0), ((1 * ((1 * r 27 + 0) + 0) + 0) + 0), ((1 * ((1 * r 28 + 0) + 0) + 0) + 0), ((1 * ((1 * r 30 + 0) + 0) + 0) + 0), ((1 * ((1 * r 29 + 0) + 0) + 0) + 0))) := e6
  obtain ⟨h7, hh, e7, k7⟩ := hh
  have k7 : ∀ j, j ∉ [] → h6 j = h7 j := k7
  have e7 : (((0 : Int) + 0) ≤ ((1 * r 0 + 0) + 0) ∧ ((1 * r 0 + 0) + 0) ≤ ((0 : Int) + 5)) := e7
  have hh : h7 = gi := hh
  subst hh
  refine yt_dalt (by decide) (by decide) ?_
  rw [show xk_1086.2.1.2.1.1.length = 26 from rfl]
  show (¬ (0 ≤ ((1 * r 0 + 0) + 0) ∧ ((1 * r 0 + 0) + 0) ≤ 5) → ((1 * r 36 + 0) + 0) = -1) ∧ ((0 ≤ ((1 * r 0 + 0) + 0) ∧ ((1 * r 0 + 0) + 0) ≤ 5) → ye_nr (g0 1) (g0 2) (g0 3) (((1 * ((1 * r 3 + 0) + 0) + 0) + 0)).toNat → ∃ m : ye_T, ye_way (g0 1) (g0 2) (g0 3) (((1 * ((1 * r 3 + 0) + 0) + 0) + 0)).toNat m ∧ ye_tb m ∧ ((1 * r 36 + 0) + 0) = ye_rw (g0 1) (g0 2) (((1 * ((1 * r 3 + 0) + 0) + 0) + 0)).toNat m ((1 * r 0 + 0) + 0))
  try simp only [Int.one_mul, Int.zero_add, Int.add_zero]
  try simp only [Int.one_mul, Int.zero_add, Int.add_zero] at e7
  try simp only [Int.one_mul, Int.zero_add, Int.add_zero] at e6
  rw [k7 1 (by decide), k7 2 (by decide), k7 3 (by decide), hgi] at e6
  try simp only [Int.one_mul, Int.zero_add, Int.add_zero] at e3
  try simp only [Int.one_mul, Int.zero_add, Int.add_zero] at e4
  try simp only [Int.one_mul, Int.zero_add, Int.add_zero] at e5
  try simp only [Int.one_mul, Int.zero_add, Int.add_zero] at e1
  try simp only [Int.one_mul, Int.zero_add, Int.add_zero] at e2
  try simp only [Int.one_mul, Int.zero_add, Int.add_zero] at e0
  rw [show r 29 + r 30 = r 30 + r 29 by omega] at e1
  refine ⟨fun q => absurd (by omega) q, fun _ hr => ⟨(r 26, r 27, r 28, r 30, r 29), (ye_mw hr e6.1 e6.2).1, (ye_mw hr e6.1 e6.2).2, ?_⟩⟩
  unfold ye_rw
  try dsimp only
  rw [if_neg (show ¬ r 26 = 0 by omega)]
  rw [show r 0 = 2 by omega]
  unfold ye_wd
  rw [if_neg (by decide), if_neg (by decide), if_pos rfl]
  rw [ye_w2e (show r 27 ≠ 0 ∨ r 28 ≠ 0 by omega) e2 e1]
  exact e0
theorem xw_1086_0_6 : yt_hold xT_1086 xk_1086 xq_1086.2.2.1 xG_1086 xP_1086 xU_1086 26 xk_1086.2.1.2.2.2 (fun g0 r g => xR_1086 r g0 ∧ g = g0) (1000, ([(3, 3), ((-2147483648), 2147483647), ((-2147483648), 2147483647), (0, 40), ((-2147483648), 2147483647), (0, 4), ((-9223372036854775808), 9223372036854775807), ((-9223372036854775808), 9223372036854775807), ((-9223372036854775808), 9223372036854775807), (0, 1), ((-4000), 4000), ((-4000), 4000), ((-8000000), 8000000), ((-8000000), 8000000), (0, 12), ((-9223372036854775808), 9223372036854775807), ((-9223372036854775808), 9223372036854775807), ((-9223372036854775808), 9223372036854775807), ((-9223372036854775808), 9223372036854775807), ((-9223372036854775808), 9223372036854775807), (0, 12), ((-2147483648), 2147483647), (0, 12), ((-2147483648), 2147483647), (0, 40), (0, 40), (1, 1), (1, 4000), ((-4000), 4000), ((-8000000), 8000000), ((-8000000), 8000000), (0, 256000000000000), (1, 16000000), (0, 16000000), (1, 4611686018427387904), (1, 4611686018427387904), (0, 0)], [([(35, 1), (28, (-2))], (-1)), ([(28, 2)], 0)]), [([], 0), ([(26, 1)], 0), ([(27, 1)], 0), ([(28, 1)], 0), ([(29, 1)], 0), ([(30, 1)], 0)], [], [.inr (.inr (.inl (998, 1, [([(28, 2)], 0), ([(35, 1)], 0), ([], 0)], [], []))), .inr (.inr (.inl (320, 0, [([(34, 1)], 0), ([(29, 1), (30, 1)], 0), ([(35, 1)], 0)], [], []))), .inr (.inr (.inl (320, 0, [([(27, 2)], 0), ([(28, 2)], 0), ([(34, 1)], 0)], [], []))), .inl (.inr (33, ([(28, 1)], 0), ([(28, 1)], 0))), .inl (.inr (32, ([(27, 1)], 0), ([(27, 1)], 0))), .inl (.inr (31, ([(29, (-1)), (30, 1)], 0), ([(29, (-1)), (30, 1)], 0))), .inr (.inr (.inl (331, 0, [([], 0), ([(2, 1)], 0), ([(3, 1)], 0), ([(4, 1)], 0), ([(5, 1)], 0), ([(6, 1)], 0), ([(7, 1)], 0), ([(8, 1)], 0), ([(9, 1)], 0), ([(10, 1)], 0), ([(11, 1)], 0), ([(12, 1)], 0), ([(13, 1)], 0), ([(14, 1)], 0), ([(15, 1)], 0), ([(16, 1)], 0), ([(17, 1)], 0), ([(18, 1)], 0), ([(19, 1)], 0), ([(20, 1)], 0), ([(21, 1)], 0), ([(22, 1)], 0), ([(23, 1)], 0), ([(24, 1)], 0), ([(25, 1)], 0), ([(26, 1)], 0), ([(27, 1)], 0), ([(28, 1)], 0), ([(29, 1)], 0), ([(30, 1)], 0)], [0, 1, 2, 3, 4, 5, 6, 7, 8, 9, 10, 11, 12, 13, 14, 15, 16, 17, 18, 19, 20, 21, 22, 23, 24, 25, 26, 27, 28, 29, 30, 31, 32, 33, 34, 35, 36], []))), .inr (.inr (.inl (258, 1, [([(0, 1)], 0), ([], 0), ([], 5)], [], [])))]) := by
  intro g0 r gi g hok hh hars hfr hG
  have b0 : 3 ≤ r 0 ∧ r 0 ≤ 3 := hok.1 0 (3, 3) rfl
  have b3 : 0 ≤ r 3 ∧ r 3 ≤ 40 := hok.1 3 (0, 40) rfl
  have b26 : 1 ≤ r 26 ∧ r 26 ≤ 1 := hok.1 26 (1, 1) rfl
  have b27 : 1 ≤ r 27 ∧ r 27 ≤ 4000 := hok.1 27 (1, 4000) rfl
  have b28 : (-4000) ≤ r 28 ∧ r 28 ≤ 4000 := hok.1 28 ((-4000), 4000) rfl
  have b29 : (-8000000) ≤ r 29 ∧ r 29 ≤ 8000000 := hok.1 29 ((-8000000), 8000000) rfl
  have b30 : (-8000000) ≤ r 30 ∧ r 30 ≤ 8000000 := hok.1 30 ((-8000000), 8000000) rfl
  have b31 : 0 ≤ r 31 ∧ r 31 ≤ 256000000000000 := hok.1 31 (0, 256000000000000) rfl
  have b32 : 1 ≤ r 32 ∧ r 32 ≤ 16000000 := hok.1 32 (1, 16000000) rfl
  have b33 : 0 ≤ r 33 ∧ r 33 ≤ 16000000 := hok.1 33 (0, 16000000) rfl
  have b34 : 1 ≤ r 34 ∧ r 34 ≤ 4611686018427387904 := hok.1 34 (1, 4611686018427387904) rfl
  have b35 : 1 ≤ r 35 ∧ r 35 ≤ 4611686018427387904 := hok.1 35 (1, 4611686018427387904) rfl
  have b36 : 0 ≤ r 36 ∧ r 36 ≤ 0 := hok.1 36 (0, 0) rfl
  have f0 : 0 ≤ ((1 * r 35 + ((-2) * r 28 + 0)) + (-1)) := hok.2 _ (List.mem_of_getElem? (i := 0) rfl)
  have f1 : 0 ≤ ((2 * r 28 + 0) + 0) := hok.2 _ (List.mem_of_getElem? (i := 1) rfl)
  obtain ⟨hG, hgi⟩ := hG
  have hG : True := hG
  obtain ⟨h0, hh, e0, k0⟩ := hh
  have k0 : ∀ j, j ∉ [] → g j = h0 j := k0
  have e0 : ((0 : Int) + 0) = (((2 * r 28 + 0) + 0)).tdiv (((1 * r 35 + 0) + 0)) := e0
  obtain ⟨h1, hh, e1, k1⟩ := hh
  have k1 : ∀ j, j ∉ [] → h0 j = h1 j := k1
  have e1 : ((1 * r 35 + 0) + 0) = ((Nat.gcd (((1 * r 34 + 0) + 0)).natAbs (((1 * r 29 + (1 * r 30 + 0)) + 0)).natAbs : Nat) : Int) := e1
  obtain ⟨h2, hh, e2, k2⟩ := hh
  have k2 : ∀ j, j ∉ [] → h1 j = h2 j := k2
  have e2 : ((1 * r 34 + 0) + 0) = ((Nat.gcd (((2 * r 27 + 0) + 0)).natAbs (((2 * r 28 + 0) + 0)).natAbs : Nat) : Int) := e2
  obtain ⟨g3, hh, q3, e3⟩ := hh
  subst q3
  have e3 : r 33 = ((1 * r 28 + 0) + 0) * ((1 * r 28 + 0) + 0) := e3
  try simp only [Int.one_mul, Int.zero_add, Int.add_zero] at e3
  obtain ⟨g4, hh, q4, e4⟩ := hh
  subst q4
  have e4 : r 32 = ((1 * r 27 + 0) + 0) * ((1 * r 27 + 0) + 0) := e4
  try simp only [Int.one_mul, Int.zero_add, Int.add_zero] at e4
  obtain ⟨g5, hh, q5, e5⟩ := hh
  subst q5
  have e5 : r 31 = (((-1) * r 29 + (1 * r 30 + 0)) + 0) * (((-1) * r 29 + (1 * r 30 + 0)) + 0) := e5
  try simp only [Int.one_mul, Int.zero_add, Int.add_zero] at e5
  obtain ⟨h6, hh, e6, k6⟩ := hh
  have k6 : ∀ j, j ∉ [] → h2 j = h6 j := k6
  have e6 : (¬ (0 < yq_cnt (h6 3) 0 (((1 * ((1 * r 3 + 0) + 0) + 0) + 0)).toNat ∧ 0 < yq_cnt (h6 3) 1 (((1 * ((1 * r 3 + 0) + 0) + 0) + 0)).toNat) → ((1 * ((1 * r 26 + 0) + 0) + 0) + 0) = 0) ∧ ((0 < yq_cnt (h6 3) 0 (((1 * ((1 * r 3 + 0) + 0) + 0) + 0)).toNat ∧ 0 < yq_cnt (h6 3) 1 (((1 * ((1 * r 3 + 0) + 0) + 0) + 0)).toNat) → ye_nr (h6 1) (h6 2) (h6 3) (((1 * ((1 * r 3 + 0) + 0) + 0) + 0)).toNat → ye_J (h6 1) (h6 2) (h6 3) (((1 * ((1 * r 3 + 0) + 0) + 0) + 0)).toNat (((1 * ((1 * r 3 + 0) + 0) + 0) + 0)).toNat 0 (((1 * ((1 * r 26 + 0) + 0) + 0) + 0), ((1 * ((1 * r 27 + 0) + 0) + 0) + 0), ((1 * ((1 * r 28 + 0) + 0) + 0) + 0), ((1 * ((1 * r 30 + 0) + 0) + 0) + 0), ((1 * ((1 * r 29 + 0) + 0) + 0) + 0)) ∧ ye_tB (((1 * ((1 * r 26 + 0) + 0) + 0) + 0), ((1 * ((1 * r 27 + 0) + 0) + 0) + 0), ((1 * ((1 * r 28 + 0) + 0) + 0) + 0), ((1 * ((1 * r 30 + 0) + 0) + 0) + 0), ((1 * ((1 * r 29 + 0) + 0) + 0) + 0))) := e6
  obtain ⟨h7, hh, e7, k7⟩ := hh
  have k7 : ∀ j, j ∉ [] → h6 j = h7 j := k7
  have e7 : (((0 : Int) + 0) ≤ ((1 * r 0 + 0) + 0) ∧ ((1 * r 0 + 0) + 0) ≤ ((0 : Int) + 5)) := e7
  have hh : h7 = gi := hh
  subst hh
  refine yt_dalt (by decide) (by decide) ?_
  rw [show xk_1086.2.1.2.1.1.length = 26 from rfl]
  show (¬ (0 ≤ ((1 * r 0 + 0) + 0) ∧ ((1 * r 0 + 0) + 0) ≤ 5) → ((0 : Int) + 0) = -1) ∧ ((0 ≤ ((1 * r 0 + 0) + 0) ∧ ((1 * r 0 + 0) + 0) ≤ 5) → ye_nr (g0 1) (g0 2) (g0 3) (((1 * ((1 * r 3 + 0) + 0) + 0) + 0)).toNat → ∃ m : ye_T, ye_way (g0 1) (g0 2) (g0 3) (((1 * ((1 * r 3 + 0) + 0) + 0) + 0)).toNat m ∧ ye_tb m ∧ ((0 : Int) + 0) = ye_rw (g0 1) (g0 2) (((1 * ((1 * r 3 + 0) + 0) + 0) + 0)).toNat m ((1 * r 0 + 0) + 0))
  try simp only [Int.one_mul, Int.zero_add, Int.add_zero]
  try simp only [Int.one_mul, Int.zero_add, Int.add_zero] at e7
  try simp only [Int.one_mul, Int.zero_add, Int.add_zero] at e6
  rw [k7 1 (by decide), k7 2 (by decide), k7 3 (by decide), hgi] at e6
  try simp only [Int.one_mul, Int.zero_add, Int.add_zero] at e3
  try simp only [Int.one_mul, Int.zero_add, Int.add_zero] at e4
  try simp only [Int.one_mul, Int.zero_add, Int.add_zero] at e5
  try simp only [Int.one_mul, Int.zero_add, Int.add_zero] at e1
  try simp only [Int.one_mul, Int.zero_add, Int.add_zero] at e2
  try simp only [Int.one_mul, Int.zero_add, Int.add_zero] at e0
  rw [show r 29 + r 30 = r 30 + r 29 by omega] at e1
  refine ⟨fun q => absurd (by omega) q, fun _ hr => ⟨(r 26, r 27, r 28, r 30, r 29), (ye_mw hr e6.1 e6.2).1, (ye_mw hr e6.1 e6.2).2, ?_⟩⟩
  unfold ye_rw
  try dsimp only
  rw [if_neg (show ¬ r 26 = 0 by omega)]
  rw [show r 0 = 3 by omega]
  unfold ye_wd
  rw [if_neg (by decide), if_neg (by decide), if_neg (by decide), if_pos rfl]
  rw [ye_w2e (show r 27 ≠ 0 ∨ r 28 ≠ 0 by omega) e2 e1]
  exact e0
theorem xw_1086_0_7 : yt_hold xT_1086 xk_1086 xq_1086.2.2.1 xG_1086 xP_1086 xU_1086 26 xk_1086.2.1.2.2.2 (fun g0 r g => xR_1086 r g0 ∧ g = g0) (1000, ([(3, 3), ((-2147483648), 2147483647), ((-2147483648), 2147483647), (0, 40), ((-2147483648), 2147483647), (0, 4), ((-9223372036854775808), 9223372036854775807), ((-9223372036854775808), 9223372036854775807), ((-9223372036854775808), 9223372036854775807), (0, 1), ((-4000), 4000), ((-4000), 4000), ((-8000000), 8000000), ((-8000000), 8000000), (0, 12), ((-9223372036854775808), 9223372036854775807), ((-9223372036854775808), 9223372036854775807), ((-9223372036854775808), 9223372036854775807), ((-9223372036854775808), 9223372036854775807), ((-9223372036854775808), 9223372036854775807), (0, 12), ((-2147483648), 2147483647), (0, 12), ((-2147483648), 2147483647), (0, 40), (0, 40), (1, 1), (1, 4000), ((-4000), 4000), ((-8000000), 8000000), ((-8000000), 8000000), (0, 256000000000000), (1, 16000000), (0, 16000000), (1, 4611686018427387904), (1, 8000), (1, 8000)], [([(36, (-1)), (28, 2)], 0), ([(35, (-1)), (28, 2)], 0)]), [([(36, 1)], 0), ([(26, 1)], 0), ([(27, 1)], 0), ([(28, 1)], 0), ([(29, 1)], 0), ([(30, 1)], 0)], [], [.inr (.inr (.inl (998, 1, [([(28, 2)], 0), ([(35, 1)], 0), ([(36, 1)], 0)], [], []))), .inr (.inr (.inl (320, 0, [([(34, 1)], 0), ([(29, 1), (30, 1)], 0), ([(35, 1)], 0)], [], []))), .inr (.inr (.inl (320, 0, [([(27, 2)], 0), ([(28, 2)], 0), ([(34, 1)], 0)], [], []))), .inl (.inr (33, ([(28, 1)], 0), ([(28, 1)], 0))), .inl (.inr (32, ([(27, 1)], 0), ([(27, 1)], 0))), .inl (.inr (31, ([(29, (-1)), (30, 1)], 0), ([(29, (-1)), (30, 1)], 0))), .inr (.inr (.inl (331, 0, [([], 0), ([(2, 1)], 0), ([(3, 1)], 0), ([(4, 1)], 0), ([(5, 1)], 0), ([(6, 1)], 0), ([(7, 1)], 0), ([(8, 1)], 0), ([(9, 1)], 0), ([(10, 1)], 0), ([(11, 1)], 0), ([(12, 1)], 0), ([(13, 1)], 0), ([(14, 1)], 0), ([(15, 1)], 0), ([(16, 1)], 0), ([(17, 1)], 0), ([(18, 1)], 0), ([(19, 1)], 0), ([(20, 1)], 0), ([(21, 1)], 0), ([(22, 1)], 0), ([(23, 1)], 0), ([(24, 1)], 0), ([(25, 1)], 0), ([(26, 1)], 0), ([(27, 1)], 0), ([(28, 1)], 0), ([(29, 1)], 0), ([(30, 1)], 0)], [0, 1, 2, 3, 4, 5, 6, 7, 8, 9, 10, 11, 12, 13, 14, 15, 16, 17, 18, 19, 20, 21, 22, 23, 24, 25, 26, 27, 28, 29, 30, 31, 32, 33, 34, 35, 36], []))), .inr (.inr (.inl (258, 1, [([(0, 1)], 0), ([], 0), ([], 5)], [], [])))]) := by
  intro g0 r gi g hok hh hars hfr hG
  have b0 : 3 ≤ r 0 ∧ r 0 ≤ 3 := hok.1 0 (3, 3) rfl
  have b3 : 0 ≤ r 3 ∧ r 3 ≤ 40 := hok.1 3 (0, 40) rfl
  have b26 : 1 ≤ r 26 ∧ r 26 ≤ 1 := hok.1 26 (1, 1) rfl
  have b27 : 1 ≤ r 27 ∧ r 27 ≤ 4000 := hok.1 27 (1, 4000) rfl
  have b28 : (-4000) ≤ r 28 ∧ r 28 ≤ 4000 := hok.1 28 ((-4000), 4000) rfl
  have b29 : (-8000000) ≤ r 29 ∧ r 29 ≤ 8000000 := hok.1 29 ((-8000000), 8000000) rfl
  have b30 : (-8000000) ≤ r 30 ∧ r 30 ≤ 8000000 := hok.1 30 ((-8000000), 8000000) rfl
  have b31 : 0 ≤ r 31 ∧ r 31 ≤ 256000000000000 := hok.1 31 (0, 256000000000000) rfl
  have b32 : 1 ≤ r 32 ∧ r 32 ≤ 16000000 := hok.1 32 (1, 16000000) rfl
  have b33 : 0 ≤ r 33 ∧ r 33 ≤ 16000000 := hok.1 33 (0, 16000000) rfl
  have b34 : 1 ≤ r 34 ∧ r 34 ≤ 4611686018427387904 := hok.1 34 (1, 4611686018427387904) rfl
  have b35 : 1 ≤ r 35 ∧ r 35 ≤ 8000 := hok.1 35 (1, 8000) rfl
  have b36 : 1 ≤ r 36 ∧ r 36 ≤ 8000 := hok.1 36 (1, 8000) rfl
  have f0 : 0 ≤ (((-1) * r 36 + (2 * r 28 + 0)) + 0) := hok.2 _ (List.mem_of_getElem? (i := 0) rfl)
  have f1 : 0 ≤ (((-1) * r 35 + (2 * r 28 + 0)) + 0) := hok.2 _ (List.mem_of_getElem? (i := 1) rfl)
  obtain ⟨hG, hgi⟩ := hG
  have hG : True := hG
  obtain ⟨h0, hh, e0, k0⟩ := hh
  have k0 : ∀ j, j ∉ [] → g j = h0 j := k0
  have e0 : ((1 * r 36 + 0) + 0) = (((2 * r 28 + 0) + 0)).tdiv (((1 * r 35 + 0) + 0)) := e0
  obtain ⟨h1, hh, e1, k1⟩ := hh
  have k1 : ∀ j, j ∉ [] → h0 j = h1 j := k1
  have e1 : ((1 * r 35 + 0) + 0) = ((Nat.gcd (((1 * r 34 + 0) + 0)).natAbs (((1 * r 29 + (1 * r 30 + 0)) + 0)).natAbs : Nat) : Int) := e1
  obtain ⟨h2, hh, e2, k2⟩ := hh
  have k2 : ∀ j, j ∉ [] → h1 j = h2 j := k2
  have e2 : ((1 * r 34 + 0) + 0) = ((Nat.gcd (((2 * r 27 + 0) + 0)).natAbs (((2 * r 28 + 0) + 0)).natAbs : Nat) : Int) := e2
  obtain ⟨g3, hh, q3, e3⟩ := hh
  subst q3
  have e3 : r 33 = ((1 * r 28 + 0) + 0) * ((1 * r 28 + 0) + 0) := e3
  try simp only [Int.one_mul, Int.zero_add, Int.add_zero] at e3
  obtain ⟨g4, hh, q4, e4⟩ := hh
  subst q4
  have e4 : r 32 = ((1 * r 27 + 0) + 0) * ((1 * r 27 + 0) + 0) := e4
  try simp only [Int.one_mul, Int.zero_add, Int.add_zero] at e4
  obtain ⟨g5, hh, q5, e5⟩ := hh
  subst q5
  have e5 : r 31 = (((-1) * r 29 + (1 * r 30 + 0)) + 0) * (((-1) * r 29 + (1 * r 30 + 0)) + 0) := e5
  try simp only [Int.one_mul, Int.zero_add, Int.add_zero] at e5
  obtain ⟨h6, hh, e6, k6⟩ := hh
  have k6 : ∀ j, j ∉ [] → h2 j = h6 j := k6
  have e6 : (¬ (0 < yq_cnt (h6 3) 0 (((1 * ((1 * r 3 + 0) + 0) + 0) + 0)).toNat ∧ 0 < yq_cnt (h6 3) 1 (((1 * ((1 * r 3 + 0) + 0) + 0) + 0)).toNat) → ((1 * ((1 * r 26 + 0) + 0) + 0) + 0) = 0) ∧ ((0 < yq_cnt (h6 3) 0 (((1 * ((1 * r 3 + 0) + 0) + 0) + 0)).toNat ∧ 0 < yq_cnt (h6 3) 1 (((1 * ((1 * r 3 + 0) + 0) + 0) + 0)).toNat) → ye_nr (h6 1) (h6 2) (h6 3) (((1 * ((1 * r 3 + 0) + 0) + 0) + 0)).toNat → ye_J (h6 1) (h6 2) (h6 3) (((1 * ((1 * r 3 + 0) + 0) + 0) + 0)).toNat (((1 * ((1 * r 3 + 0) + 0) + 0) + 0)).toNat 0 (((1 * ((1 * r 26 + 0) + 0) + 0) + 0), ((1 * ((1 * r 27 + 0) + 0) + 0) + 0), ((1 * ((1 * r 28 + 0) + 0) + 0) + 0), ((1 * ((1 * r 30 + 0) + 0) + 0) + 0), ((1 * ((1 * r 29 + 0) + 0) + 0) + 0)) ∧ ye_tB (((1 * ((1 * r 26 + 0) + 0) + 0) + 0), ((1 * ((1 * r 27 + 0) + 0) + 0) + 0), ((1 * ((1 * r 28 + 0) + 0) + 0) + 0), ((1 * ((1 * r 30 + 0) + 0) + 0) + 0), ((1 * ((1 * r 29 + 0) + 0) + 0) + 0))) := e6
  obtain ⟨h7, hh, e7, k7⟩ := hh
  have k7 : ∀ j, j ∉ [] → h6 j = h7 j := k7
  have e7 : (((0 : Int) + 0) ≤ ((1 * r 0 + 0) + 0) ∧ ((1 * r 0 + 0) + 0) ≤ ((0 : Int) + 5)) := e7
  have hh : h7 = gi := hh
  subst hh
  refine yt_dalt (by decide) (by decide) ?_
  rw [show xk_1086.2.1.2.1.1.length = 26 from rfl]
  show (¬ (0 ≤ ((1 * r 0 + 0) + 0) ∧ ((1 * r 0 + 0) + 0) ≤ 5) → ((1 * r 36 + 0) + 0) = -1) ∧ ((0 ≤ ((1 * r 0 + 0) + 0) ∧ ((1 * r 0 + 0) + 0) ≤ 5) → ye_nr (g0 1) (g0 2) (g0 3) (((1 * ((1 * r 3 + 0) + 0) + 0) + 0)).toNat → ∃ m : ye_T, ye_way (g0 1) (g0 2) (g0 3) (((1 * ((1 * r 3 + 0) + 0) + 0) + 0)).toNat m ∧ ye_tb m ∧ ((1 * r 36 + 0) + 0) = ye_rw (g0 1) (g0 2) (((1 * ((1 * r 3 + 0) + 0) + 0) + 0)).toNat m ((1 * r 0 + 0) + 0))
  try simp only [Int.one_mul, Int.zero_add, Int.add_zero]
  try simp only [Int.one_mul, Int.zero_add, Int.add_zero] at e7
  try simp only [Int.one_mul, Int.zero_add, Int.add_zero] at e6
  rw [k7 1 (by decide), k7 2 (by decide), k7 3 (by decide), hgi] at e6
  try simp only [Int.one_mul, Int.zero_add, Int.add_zero] at e3
  try simp only [Int.one_mul, Int.zero_add, Int.add_zero] at e4
  try simp only [Int.one_mul, Int.zero_add, Int.add_zero] at e5
  try simp only [Int.one_mul, Int.zero_add, Int.add_zero] at e1
  try simp only [Int.one_mul, Int.zero_add, Int.add_zero] at e2
  try simp only [Int.one_mul, Int.zero_add, Int.add_zero] at e0
  rw [show r 29 + r 30 = r 30 + r 29 by omega] at e1
  refine ⟨fun q => absurd (by omega) q, fun _ hr => ⟨(r 26, r 27, r 28, r 30, r 29), (ye_mw hr e6.1 e6.2).1, (ye_mw hr e6.1 e6.2).2, ?_⟩⟩
  unfold ye_rw
  try dsimp only
  rw [if_neg (show ¬ r 26 = 0 by omega)]
  rw [show r 0 = 3 by omega]
  unfold ye_wd
  rw [if_neg (by decide), if_neg (by decide), if_neg (by decide), if_pos rfl]
  rw [ye_w2e (show r 27 ≠ 0 ∨ r 28 ≠ 0 by omega) e2 e1]
  exact e0
theorem xw_1086_0_8 : yt_hold xT_1086 xk_1086 xq_1086.2.2.1 xG_1086 xP_1086 xU_1086 26 xk_1086.2.1.2.2.2 (fun g0 r g => xR_1086 r g0 ∧ g = g0) (1000, ([(3, 3), ((-2147483648), 2147483647), ((-2147483648), 2147483647), (0, 40), ((-2147483648), 2147483647), (0, 4), ((-9223372036854775808), 9223372036854775807), ((-9223372036854775808), 9223372036854775807), ((-9223372036854775808), 9223372036854775807), (0, 1), ((-4000), 4000), ((-4000), 4000), ((-8000000), 8000000), ((-8000000), 8000000), (0, 12), ((-9223372036854775808), 9223372036854775807), ((-9223372036854775808), 9223372036854775807), ((-9223372036854775808), 9223372036854775807), ((-9223372036854775808), 9223372036854775807), ((-9223372036854775808), 9223372036854775807), (0, 12), ((-2147483648), 2147483647), (0, 12), ((-2147483648), 2147483647), (0, 40), (0, 40), (1, 1), (1, 4000), ((-4000), 4000), ((-8000000), 8000000), ((-8000000), 8000000), (0, 256000000000000), (1, 16000000), (0, 16000000), (1, 4611686018427387904), (1, 4611686018427387904), ((-8000), 0)], [([(28, (-2)), (36, 1)], 0), ([(28, (-2))], (-1))]), [([(36, 1)], 0), ([(26, 1)], 0), ([(27, 1)], 0), ([(28, 1)], 0), ([(29, 1)], 0), ([(30, 1)], 0)], [], [.inr (.inr (.inl (998, 1, [([(28, 2)], 0), ([(35, 1)], 0), ([(36, 1)], 0)], [], []))), .inr (.inr (.inl (320, 0, [([(34, 1)], 0), ([(29, 1), (30, 1)], 0), ([(35, 1)], 0)], [], []))), .inr (.inr (.inl (320, 0, [([(27, 2)], 0), ([(28, 2)], 0), ([(34, 1)], 0)], [], []))), .inl (.inr (33, ([(28, 1)], 0), ([(28, 1)], 0))), .inl (.inr (32, ([(27, 1)], 0), ([(27, 1)], 0))), .inl (.inr (31, ([(29, (-1)), (30, 1)], 0), ([(29, (-1)), (30, 1)], 0))), .inr (.inr (.inl (331, 0, [([], 0), ([(2, 1)], 0), ([(3, 1)], 0), ([(4, 1)], 0), ([(5, 1)], 0), ([(6, 1)], 0), ([(7, 1)], 0), ([(8, 1)], 0), ([(9, 1)], 0), ([(10, 1)], 0), ([(11, 1)], 0), ([(12, 1)], 0), ([(13, 1)], 0), ([(14, 1)], 0), ([(15, 1)], 0), ([(16, 1)], 0), ([(17, 1)], 0), ([(18, 1)], 0), ([(19, 1)], 0), ([(20, 1)], 0), ([(21, 1)], 0), ([(22, 1)], 0), ([(23, 1)], 0), ([(24, 1)], 0), ([(25, 1)], 0), ([(26, 1)], 0), ([(27, 1)], 0), ([(28, 1)], 0), ([(29, 1)], 0), ([(30, 1)], 0)], [0, 1, 2, 3, 4, 5, 6, 7, 8, 9, 10, 11, 12, 13, 14, 15, 16, 17, 18, 19, 20, 21, 22, 23, 24, 25, 26, 27, 28, 29, 30, 31, 32, 33, 34, 35, 36], []))), .inr (.inr (.inl (258, 1, [([(0, 1)], 0), ([], 0), ([], 5)], [], [])))]) := by
  intro g0 r gi g hok hh hars hfr hG
  have b0 : 3 ≤ r 0 ∧ r 0 ≤ 3 := hok.1 0 (3, 3) rfl
  have b3 : 0 ≤ r 3 ∧ r 3 ≤ 40 := hok.1 3 (0, 40) rfl
  have b26 : 1 ≤ r 26 ∧ r 26 ≤ 1 := hok.1 26 (1, 1) rfl
  have b27 : 1 ≤ r 27 ∧ r 27 ≤ 4000 := hok.1 27 (1, 4000) rfl
  have b28 : (-4000) ≤ r 28 ∧ r 28 ≤ 4000 := hok.1 28 ((-4000), 4000) rfl
  have b29 : (-8000000) ≤ r 29 ∧ r 29 ≤ 8000000 := hok.1 29 ((-8000000), 8000000) rfl
  have b30 : (-8000000) ≤ r 30 ∧ r 30 ≤ 8000000 := hok.1 30 ((-8000000), 8000000) rfl
  have b31 : 0 ≤ r 31 ∧ r 31 ≤ 256000000000000 := hok.1 31 (0, 256000000000000) rfl
  have b32 : 1 ≤ r 32 ∧ r 32 ≤ 16000000 := hok.1 32 (1, 16000000) rfl
  have b33 : 0 ≤ r 33 ∧ r 33 ≤ 16000000 := hok.1 33 (0, 16000000) rfl
  have b34 : 1 ≤ r 34 ∧ r 34 ≤ 4611686018427387904 := hok.1 34 (1, 4611686018427387904) rfl
  have b35 : 1 ≤ r 35 ∧ r 35 ≤ 4611686018427387904 := hok.1 35 (1, 4611686018427387904) rfl
  have b36 : (-8000) ≤ r 36 ∧ r 36 ≤ 0 := hok.1 36 ((-8000), 0) rfl
  have f0 : 0 ≤ (((-2) * r 28 + (1 * r 36 + 0)) + 0) := hok.2 _ (List.mem_of_getElem? (i := 0) rfl)
  have f1 : 0 ≤ (((-2) * r 28 + 0) + (-1)) := hok.2 _ (List.mem_of_getElem? (i := 1) rfl)
  obtain ⟨hG, hgi⟩ := hG
  have hG : True := hG
  obtain ⟨h0, hh, e0, k0⟩ := hh
  have k0 : ∀ j, j ∉ [] → g j = h0 j := k0
  have e0 : ((1 * r 36 + 0) + 0) = (((2 * r 28 + 0) + 0)).tdiv (((1 * r 35 + 0) + 0)) := e0
  obtain ⟨h1, hh, e1, k1⟩ := hh
  have k1 : ∀ j, j ∉ [] → h0 j = h1 j := k1
  have e1 : ((1 * r 35 + 0) + 0) = ((Nat.gcd (((1 * r 34 + 0) + 0)).natAbs (((1 * r 29 + (1 * r 30 + 0)) + 0)).natAbs : Nat) : Int) := e1
  obtain ⟨h2, hh, e2, k2⟩ := hh
  have k2 : ∀ j, j ∉ [] → h1 j = h2 j := k2
  have e2 : ((1 * r 34 + 0) + 0) = ((Nat.gcd (((2 * r 27 + 0) + 0)).natAbs (((2 * r 28 + 0) + 0)).natAbs : Nat) : Int) := e2
  obtain ⟨g3, hh, q3, e3⟩ := hh
  subst q3
  have e3 : r 33 = ((1 * r 28 + 0) + 0) * ((1 * r 28 + 0) + 0) := e3
  try simp only [Int.one_mul, Int.zero_add, Int.add_zero] at e3
  obtain ⟨g4, hh, q4, e4⟩ := hh
  subst q4
  have e4 : r 32 = ((1 * r 27 + 0) + 0) * ((1 * r 27 + 0) + 0) := e4
  try simp only [Int.one_mul, Int.zero_add, Int.add_zero] at e4
  obtain ⟨g5, hh, q5, e5⟩ := hh
  subst q5
  have e5 : r 31 = (((-1) * r 29 + (1 * r 30 + 0)) + 0) * (((-1) * r 29 + (1 * r 30 + 0)) + 0) := e5
  try simp only [Int.one_mul, Int.zero_add, Int.add_zero] at e5
  obtain ⟨h6, hh, e6, k6⟩ := hh
  have k6 : ∀ j, j ∉ [] → h2 j = h6 j := k6
  have e6 : (¬ (0 < yq_cnt (h6 3) 0 (((1 * ((1 * r 3 + 0) + 0) + 0) + 0)).toNat ∧ 0 < yq_cnt (h6 3) 1 (((1 * ((1 * r 3 + 0) + 0) + 0) + 0)).toNat) → ((1 * ((1 * r 26 + 0) + 0) + 0) + 0) = 0) ∧ ((0 < yq_cnt (h6 3) 0 (((1 * ((1 * r 3 + 0) + 0) + 0) + 0)).toNat ∧ 0 < yq_cnt (h6 3) 1 (((1 * ((1 * r 3 + 0) + 0) + 0) + 0)).toNat) → ye_nr (h6 1) (h6 2) (h6 3) (((1 * ((1 * r 3 + 0) + 0) + 0) + 0)).toNat → ye_J (h6 1) (h6 2) (h6 3) (((1 * ((1 * r 3 + 0) + 0) + 0) + 0)).toNat (((1 * ((1 * r 3 + 0) + 0) + 0) + 0)).toNat 0 (((1 * ((1 * r 26 + 0) + 0) + 0) + 0), ((1 * ((1 * r 27 + 0) + 0) + 0) + 0), ((1 * ((1 * r 28 + 0) + 0) + 0) + 0), ((1 * ((1 * r 30 + 0) + 0) + 0) + 0), ((1 * ((1 * r 29 + 0) + 0) + 0) + 0)) ∧ ye_tB (((1 * ((1 * r 26 + 0) + 0) + 0) + 0), ((1 * ((1 * r 27 + 0) + 0) + 0) + 0), ((1 * ((1 * r 28 + 0) + 0) + 0) + 0), ((1 * ((1 * r 30 + 0) + 0) + 0) + 0), ((1 * ((1 * r 29 + 0) + 0) + 0) + 0))) := e6
  obtain ⟨h7, hh, e7, k7⟩ := hh
  have k7 : ∀ j, j ∉ [] → h6 j = h7 j := k7
  have e7 : (((0 : Int) + 0) ≤ ((1 * r 0 + 0) + 0) ∧ ((1 * r 0 + 0) + 0) ≤ ((0 : Int) + 5)) := e7
  have hh : h7 = gi := hh
  subst hh
  refine yt_dalt (by decide) (by decide) ?_
  rw [show xk_1086.2.1.2.1.1.length = 26 from rfl]
  show (¬ (0 ≤ ((1 * r 0 + 0) + 0) ∧ ((1 * r 0 + 0) + 0) ≤ 5) → ((1 * r 36 + 0) + 0) = -1) ∧ ((0 ≤ ((1 * r 0 + 0) + 0) ∧ ((1 * r 0 + 0) + 0) ≤ 5) → ye_nr (g0 1) (g0 2) (g0 3) (((1 * ((1 * r 3 + 0) + 0) + 0) + 0)).toNat → ∃ m : ye_T, ye_way (g0 1) (g0 2) (g0 3) (((1 * ((1 * r 3 + 0) + 0) + 0) + 0)).toNat m ∧ ye_tb m ∧ ((1 * r 36 + 0) + 0) = ye_rw (g0 1) (g0 2) (((1 * ((1 * r 3 + 0) + 0) + 0) + 0)).toNat m ((1 * r 0 + 0) + 0))
  try simp only [Int.one_mul, Int.zero_add, Int.add_zero]
  try simp only [Int.one_mul, Int.zero_add, Int.add_zero] at e7
  try simp only [Int.one_mul, Int.zero_add, Int.add_zero] at e6
  rw [k7 1 (by decide), k7 2 (by decide), k7 3 (by decide), hgi] at e6
  try simp only [Int.one_mul, Int.zero_add, Int.add_zero] at e3
  try simp only [Int.one_mul, Int.zero_add, Int.add_zero] at e4
  try simp only [Int.one_mul, Int.zero_add, Int.add_zero] at e5
  try simp only [Int.one_mul, Int.zero_add, Int.add_zero] at e1
  try simp only [Int.one_mul, Int.zero_add, Int.add_zero] at e2
  try simp only [Int.one_mul, Int.zero_add, Int.add_zero] at e0
  rw [show r 29 + r 30 = r 30 + r 29 by omega] at e1
  refine ⟨fun q => absurd (by omega) q, fun _ hr => ⟨(r 26, r 27, r 28, r 30, r 29), (ye_mw hr e6.1 e6.2).1, (ye_mw hr e6.1 e6.2).2, ?_⟩⟩
  unfold ye_rw
  try dsimp only
  rw [if_neg (show ¬ r 26 = 0 by omega)]
  rw [show r 0 = 3 by omega]
  unfold ye_wd
  rw [if_neg (by decide), if_neg (by decide), if_neg (by decide), if_pos rfl]
  rw [ye_w2e (show r 27 ≠ 0 ∨ r 28 ≠ 0 by omega) e2 e1]
  exact e0
theorem xw_1086_0_9 : yt_hold xT_1086 xk_1086 xq_1086.2.2.1 xG_1086 xP_1086 xU_1086 26 xk_1086.2.1.2.2.2 (fun g0 r g => xR_1086 r g0 ∧ g = g0) (1000, ([(4, 4), ((-2147483648), 2147483647), ((-2147483648), 2147483647), (0, 40), ((-2147483648), 2147483647), (0, 4), ((-9223372036854775808), 9223372036854775807), ((-9223372036854775808), 9223372036854775807), ((-9223372036854775808), 9223372036854775807), (0, 1), ((-4000), 4000), ((-4000), 4000), ((-8000000), 8000000), ((-8000000), 8000000), (0, 12), ((-9223372036854775808), 9223372036854775807), ((-9223372036854775808), 9223372036854775807), ((-9223372036854775808), 9223372036854775807), ((-9223372036854775808), 9223372036854775807), ((-9223372036854775808), 9223372036854775807), (0, 12), ((-2147483648), 2147483647), (0, 12), ((-2147483648), 2147483647), (0, 40), (0, 40), (1, 1), (1, 4000), ((-4000), 4000), ((-8000000), 8000000), ((-8000000), 8000000), (0, 256000000000000), (1, 16000000), (0, 16000000), (1, 4611686018427387904), (1, 4611686018427387904), (0, 0)], [([(35, 1), (30, (-1)), (29, (-1))], (-1)), ([(29, 1), (30, 1)], 0)]), [([], 0), ([(26, 1)], 0), ([(27, 1)], 0), ([(28, 1)], 0), ([(29, 1)], 0), ([(30, 1)], 0)], [], [.inr (.inr (.inl (998, 1, [([(29, 1), (30, 1)], 0), ([(35, 1)], 0), ([], 0)], [], []))), .inr (.inr (.inl (320, 0, [([(34, 1)], 0), ([(29, 1), (30, 1)], 0), ([(35, 1)], 0)], [], []))), .inr (.inr (.inl (320, 0, [([(27, 2)], 0), ([(28, 2)], 0), ([(34, 1)], 0)], [], []))), .inl (.inr (33, ([(28, 1)], 0), ([(28, 1)], 0))), .inl (.inr (32, ([(27, 1)], 0), ([(27, 1)], 0))), .inl (.inr (31, ([(29, (-1)), (30, 1)], 0), ([(29, (-1)), (30, 1)], 0))), .inr (.inr (.inl (331, 0, [([], 0), ([(2, 1)], 0), ([(3, 1)], 0), ([(4, 1)], 0), ([(5, 1)], 0), ([(6, 1)], 0), ([(7, 1)], 0), ([(8, 1)], 0), ([(9, 1)], 0), ([(10, 1)], 0), ([(11, 1)], 0), ([(12, 1)], 0), ([(13, 1)], 0), ([(14, 1)], 0), ([(15, 1)], 0), ([(16, 1)], 0), ([(17, 1)], 0), ([(18, 1)], 0), ([(19, 1)], 0), ([(20, 1)], 0), ([(21, 1)], 0), ([(22, 1)], 0), ([(23, 1)], 0), ([(24, 1)], 0), ([(25, 1)], 0), ([(26, 1)], 0), ([(27, 1)], 0), ([(28, 1)], 0), ([(29, 1)], 0), ([(30, 1)], 0)], [0, 1, 2, 3, 4, 5, 6, 7, 8, 9, 10, 11, 12, 13, 14, 15, 16, 17, 18, 19, 20, 21, 22, 23, 24, 25, 26, 27, 28, 29, 30, 31, 32, 33, 34, 35, 36], []))), .inr (.inr (.inl (258, 1, [([(0, 1)], 0), ([], 0), ([], 5)], [], [])))]) := by
  intro g0 r gi g hok hh hars hfr hG
  have b0 : 4 ≤ r 0 ∧ r 0 ≤ 4 := hok.1 0 (4, 4) rfl
  have b3 : 0 ≤ r 3 ∧ r 3 ≤ 40 := hok.1 3 (0, 40) rfl
  have b26 : 1 ≤ r 26 ∧ r 26 ≤ 1 := hok.1 26 (1, 1) rfl
  have b27 : 1 ≤ r 27 ∧ r 27 ≤ 4000 := hok.1 27 (1, 4000) rfl
  have b28 : (-4000) ≤ r 28 ∧ r 28 ≤ 4000 := hok.1 28 ((-4000), 4000) rfl
  have b29 : (-8000000) ≤ r 29 ∧ r 29 ≤ 8000000 := hok.1 29 ((-8000000), 8000000) rfl
  have b30 : (-8000000) ≤ r 30 ∧ r 30 ≤ 8000000 := hok.1 30 ((-8000000), 8000000) rfl
  have b31 : 0 ≤ r 31 ∧ r 31 ≤ 256000000000000 := hok.1 31 (0, 256000000000000) rfl
  have b32 : 1 ≤ r 32 ∧ r 32 ≤ 16000000 := hok.1 32 (1, 16000000) rfl
  have b33 : 0 ≤ r 33 ∧ r 33 ≤ 16000000 := hok.1 33 (0, 16000000) rfl
  have b34 : 1 ≤ r 34 ∧ r 34 ≤ 4611686018427387904 := hok.1 34 (1, 4611686018427387904) rfl
  have b35 : 1 ≤ r 35 ∧ r 35 ≤ 4611686018427387904 := hok.1 35 (1, 4611686018427387904) rfl
  have b36 : 0 ≤ r 36 ∧ r 36 ≤ 0 := hok.1 36 (0, 0) rfl
  have f0 : 0 ≤ ((1 * r 35 + ((-1) * r 30 + ((-1) * r 29 + 0))) + (-1)) := hok.2 _ (List.mem_of_getElem? (i := 0) rfl)
  have f1 : 0 ≤ ((1 * r 29 + (1 * r 30 + 0)) + 0) := hok.2 _ (List.mem_of_getElem? (i := 1) rfl)
  obtain ⟨hG, hgi⟩ := hG
  have hG : True := hG
  obtain ⟨h0, hh, e0, k0⟩ := hh
  have k0 : ∀ j, j ∉ [] → g j = h0 j := k0
  have e0 : ((0 : Int) + 0) = (((1 * r 29 + (1 * r 30 + 0)) + 0)).tdiv (((1 * r 35 + 0) + 0)) := e0
  obtain ⟨h1, hh, e1, k1⟩ := hh
  have k1 : ∀ j, j ∉ [] → h0 j = h1 j := k1
  have e1 : ((1 * r 35 + 0) + 0) = ((Nat.gcd (((1 * r 34 + 0) + 0)).natAbs (((1 * r 29 + (1 * r 30 + 0)) + 0)).natAbs : Nat) : Int) := e1
  obtain ⟨h2, hh, e2, k2⟩ := hh
  have k2 : ∀ j, j ∉ [] → h1 j = h2 j := k2
  have e2 : ((1 * r 34 + 0) + 0) = ((Nat.gcd (((2 * r 27 + 0) + 0)).natAbs (((2 * r 28 + 0) + 0)).natAbs : Nat) : Int) := e2
  obtain ⟨g3, hh, q3, e3⟩ := hh
  subst q3
  have e3 : r 33 = ((1 * r 28 + 0) + 0) * ((1 * r 28 + 0) + 0) := e3
  try simp only [Int.one_mul, Int.zero_add, Int.add_zero] at e3
  obtain ⟨g4, hh, q4, e4⟩ := hh
  subst q4
  have e4 : r 32 = ((1 * r 27 + 0) + 0) * ((1 * r 27 + 0) + 0) := e4
  try simp only [Int.one_mul, Int.zero_add, Int.add_zero] at e4
  obtain ⟨g5, hh, q5, e5⟩ := hh
  subst q5
  have e5 : r 31 = (((-1) * r 29 + (1 * r 30 + 0)) + 0) * (((-1) * r 29 + (1 * r 30 + 0)) + 0) := e5
  try simp only [Int.one_mul, Int.zero_add, Int.add_zero] at e5
  obtain ⟨h6, hh, e6, k6⟩ := hh
  have k6 : ∀ j, j ∉ [] → h2 j = h6 j := k6
  have e6 : (¬ (0 < yq_cnt (h6 3) 0 (((1 * ((1 * r 3 + 0) + 0) + 0) + 0)).toNat ∧ 0 < yq_cnt (h6 3) 1 (((1 * ((1 * r 3 + 0) + 0) + 0) + 0)).toNat) → ((1 * ((1 * r 26 + 0) + 0) + 0) + 0) = 0) ∧ ((0 < yq_cnt (h6 3) 0 (((1 * ((1 * r 3 + 0) + 0) + 0) + 0)).toNat ∧ 0 < yq_cnt (h6 3) 1 (((1 * ((1 * r 3 + 0) + 0) + 0) + 0)).toNat) → ye_nr (h6 1) (h6 2) (h6 3) (((1 * ((1 * r 3 + 0) + 0) + 0) + 0)).toNat → ye_J (h6 1) (h6 2) (h6 3) (((1 * ((1 * r 3 + 0) + 0) + 0) + 0)).toNat (((1 * ((1 * r 3 + 0) + 0) + 0) + 0)).toNat 0 (((1 * ((1 * r 26 + 0) + 0) + 0) + 0), ((1 * ((1 * r 27 + 0) + 0) + 0) + 0), ((1 * ((1 * r 28 + 0) + 0) + 0) + 0), ((1 * ((1 * r 30 + 0) + 0) + 0) + 0), ((1 * ((1 * r 29 + 0) + 0) + 0) + 0)) ∧ ye_tB (((1 * ((1 * r 26 + 0) + 0) + 0) + 0), ((1 * ((1 * r 27 + 0) + 0) + 0) + 0), ((1 * ((1 * r 28 + 0) + 0) + 0) + 0), ((1 * ((1 * r 30 + 0) + 0) + 0) + 0), ((1 * ((1 * r 29 + 0) + 0) + 0) + 0))) := e6
  obtain ⟨h7, hh, e7, k7⟩ := hh
  have k7 : ∀ j, j ∉ [] → h6 j = h7 j := k7
  have e7 : (((0 : Int) + 0) ≤ ((1 * r 0 + 0) + 0) ∧ ((1 * r 0 + 0) + 0) ≤ ((0 : Int) + 5)) := e7
  have hh : h7 = gi := hh
  subst hh
  refine yt_dalt (by decide) (by decide) ?_
  rw [show xk_1086.2.1.2.1.1.length = 26 from rfl]
  show (¬ (0 ≤ ((1 * r 0 + 0) + 0) ∧ ((1 * r 0 + 0) + 0) ≤ 5) → ((0 : Int) + 0) = -1) ∧ ((0 ≤ ((1 * r 0 + 0) + 0) ∧ ((1 * r 0 + 0) + 0) ≤ 5) → ye_nr (g0 1) (g0 2) (g0 3) (((1 * ((1 * r 3 + 0) + 0) + 0) + 0)).toNat → ∃ m : ye_T, ye_way (g0 1) (g0 2) (g0 3) (((1 * ((1 * r 3 + 0) + 0) + 0) + 0)).toNat m ∧ ye_tb m ∧ ((0 : Int) + 0) = ye_rw (g0 1) (g0 2) (((1 * ((1 * r 3 + 0) + 0) + 0) + 0)).toNat m ((1 * r 0 + 0) + 0))
  try simp only [Int.one_mul, Int.zero_add, Int.add_zero]
  try simp only [Int.one_mul, Int.zero_add, Int.add_zero] at e7
  try simp only [Int.one_mul, Int.zero_add, Int.add_zero] at e6
  rw [k7 1 (by decide), k7 2 (by decide), k7 3 (by decide), hgi] at e6
  try simp only [Int.one_mul, Int.zero_add, Int.add_zero] at e3
  try simp only [Int.one_mul, Int.zero_add, Int.add_zero] at e4
  try simp only [Int.one_mul, Int.zero_add, Int.add_zero] at e5
  try simp only [Int.one_mul, Int.zero_add, Int.add_zero] at e1
  try simp only [Int.one_mul, Int.zero_add, Int.add_zero] at e2
  try simp only [Int.one_mul, Int.zero_add, Int.add_zero] at e0
  rw [show r 29 + r 30 = r 30 + r 29 by omega] at e1
  rw [show r 29 + r 30 = r 30 + r 29 by omega] at e0
  refine ⟨fun q => absurd (by omega) q, fun _ hr => ⟨(r 26, r 27, r 28, r 30, r 29), (ye_mw hr e6.1 e6.2).1, (ye_mw hr e6.1 e6.2).2, ?_⟩⟩
  unfold ye_rw
  try dsimp only
  rw [if_neg (show ¬ r 26 = 0 by omega)]
  rw [show r 0 = 4 by omega]
  unfold ye_wd
  rw [if_neg (by decide), if_neg (by decide), if_neg (by decide), if_neg (by decide), if_pos rfl]
  rw [ye_w2e (show r 27 ≠ 0 ∨ r 28 ≠ 0 by omega) e2 e1]
  exact e0
theorem xw_1086_0_10 : yt_hold xT_1086 xk_1086 xq_1086.2.2.1 xG_1086 xP_1086 xU_1086 26 xk_1086.2.1.2.2.2 (fun g0 r g => xR_1086 r g0 ∧ g = g0) (1000, ([(4, 4), ((-2147483648), 2147483647), ((-2147483648), 2147483647), (0, 40), ((-2147483648), 2147483647), (0, 4), ((-9223372036854775808), 9223372036854775807), ((-9223372036854775808), 9223372036854775807), ((-9223372036854775808), 9223372036854775807), (0, 1), ((-4000), 4000), ((-4000), 4000), ((-8000000), 8000000), ((-8000000), 8000000), (0, 12), ((-9223372036854775808), 9223372036854775807), ((-9223372036854775808), 9223372036854775807), ((-9223372036854775808), 9223372036854775807), ((-9223372036854775808), 9223372036854775807), ((-9223372036854775808), 9223372036854775807), (0, 12), ((-2147483648), 2147483647), (0, 12), ((-2147483648), 2147483647), (0, 40), (0, 40), (1, 1), (1, 4000), ((-4000), 4000), ((-7999999), 8000000), ((-7999999), 8000000), (0, 256000000000000), (1, 16000000), (0, 16000000), (1, 4611686018427387904), (1, 16000000), (1, 16000000)], [([(36, (-1)), (30, 1), (29, 1)], 0), ([(35, (-1)), (30, 1), (29, 1)], 0)]), [([(36, 1)], 0), ([(26, 1)], 0), ([(27, 1)], 0), ([(28, 1)], 0), ([(29, 1)], 0), ([(30, 1)], 0)], [], [.inr (.inr (.inl (998, 1, [([(29, 1), (30, 1)], 0), ([(35, 1)], 0), ([(36, 1)], 0)], [], []))), .inr (.inr (.inl (320, 0, [([(34, 1)], 0), ([(29, 1), (30, 1)], 0), ([(35, 1)], 0)], [], []))), .inr (.inr (.inl (320, 0, [([(27, 2)], 0), ([(28, 2)], 0), ([(34, 1)], 0)], [], []))), .inl (.inr (33, ([(28, 1)], 0), ([(28, 1)], 0))), .inl (.inr (32, ([(27, 1)], 0), ([(27, 1)], 0))), .inl (.inr (31, ([(29, (-1)), (30, 1)], 0), ([(29, (-1)), (30, 1)], 0))), .inr (.inr (.inl (331, 0, [([], 0), ([(2, 1)], 0), ([(3, 1)], 0), ([(4, 1)], 0), ([(5, 1)], 0), ([(6, 1)], 0), ([(7, 1)], 0), ([(8, 1)], 0), ([(9, 1)], 0), ([(10, 1)], 0), ([(11, 1)], 0), ([(12, 1)], 0), ([(13, 1)], 0), ([(14, 1)], 0), ([(15, 1)], 0), ([(16, 1)], 0), ([(17, 1)], 0), ([(18, 1)], 0), ([(19, 1)], 0), ([(20, 1)], 0), ([(21, 1)], 0), ([(22, 1)], 0), ([(23, 1)], 0), ([(24, 1)], 0), ([(25, 1)], 0), ([(26, 1)], 0), ([(27, 1)], 0), ([(28, 1)], 0), ([(29, 1)], 0), ([(30, 1)], 0)], [0, 1, 2, 3, 4, 5, 6, 7, 8, 9, 10, 11, 12, 13, 14, 15, 16, 17, 18, 19, 20, 21, 22, 23, 24, 25, 26, 27, 28, 29, 30, 31, 32, 33, 34, 35, 36], []))), .inr (.inr (.inl (258, 1, [([(0, 1)], 0), ([], 0), ([], 5)], [], [])))]) := by
  intro g0 r gi g hok hh hars hfr hG
  have b0 : 4 ≤ r 0 ∧ r 0 ≤ 4 := hok.1 0 (4, 4) rfl
  have b3 : 0 ≤ r 3 ∧ r 3 ≤ 40 := hok.1 3 (0, 40) rfl
  have b26 : 1 ≤ r 26 ∧ r 26 ≤ 1 := hok.1 26 (1, 1) rfl
  have b27 : 1 ≤ r 27 ∧ r 27 ≤ 4000 := hok.1 27 (1, 4000) rfl
  have b28 : (-4000) ≤ r 28 ∧ r 28 ≤ 4000 := hok.1 28 ((-4000), 4000) rfl
  have b29 : (-7999999) ≤ r 29 ∧ r 29 ≤ 8000000 := hok.1 29 ((-7999999), 8000000) rfl
  have b30 : (-7999999) ≤ r 30 ∧ r 30 ≤ 8000000 := hok.1 30 ((-7999999), 8000000) rfl
  have b31 : 0 ≤ r 31 ∧ r 31 ≤ 256000000000000 := hok.1 31 (0, 256000000000000) rfl
  have b32 : 1 ≤ r 32 ∧ r 32 ≤ 16000000 := hok.1 32 (1, 16000000) rfl
  have b33 : 0 ≤ r 33 ∧ r 33 ≤ 16000000 := hok.1 33 (0, 16000000) rfl
  have b34 : 1 ≤ r 34 ∧ r 34 ≤ 4611686018427387904 := hok.1 34 (1, 4611686018427387904) rfl
  have b35 : 1 ≤ r 35 ∧ r 35 ≤ 16000000 := hok.1 35 (1, 16000000) rfl
  have b36 : 1 ≤ r 36 ∧ r 36 ≤ 16000000 := hok.1 36 (1, 16000000) rfl
  have f0 : 0 ≤ (((-1) * r 36 + (1 * r 30 + (1 * r 29 + 0))) + 0) := hok.2 _ (List.mem_of_getElem? (i := 0) rfl)
  have f1 : 0 ≤ (((-1) * r 35 + (1 * r 30 + (1 * r 29 + 0))) + 0) := hok.2 _ (List.mem_of_getElem? (i := 1) rfl)
  obtain ⟨hG, hgi⟩ := hG
  have hG : True := hG
  obtain ⟨h0, hh, e0, k0⟩ := hh
  have k0 : ∀ j, j ∉ [] → g j = h0 j := k0
  have e0 : ((1 * r 36 + 0) + 0) = (((1 * r 29 + (1 * r 30 + 0)) + 0)).tdiv (((1 * r 35 + 0) + 0)) := e0
  obtain ⟨h1, hh, e1, k1⟩ := hh
  have k1 : ∀ j, j ∉ [] → h0 j = h1 j := k1
  have e1 : ((1 * r 35 + 0) + 0) = ((Nat.gcd (((1 * r 34 + 0) + 0)).natAbs (((1 * r 29 + (1 * r 30 + 0)) + 0)).natAbs : Nat) : Int) := e1
  obtain ⟨h2, hh, e2, k2⟩ := hh
  have k2 : ∀ j, j ∉ [] → h1 j = h2 j := k2
  have e2 : ((1 * r 34 + 0) + 0) = ((Nat.gcd (((2 * r 27 + 0) + 0)).natAbs (((2 * r 28 + 0) + 0)).natAbs : Nat) : Int) := e2
  obtain ⟨g3, hh, q3, e3⟩ := hh
  subst q3
  have e3 : r 33 = ((1 * r 28 + 0) + 0) * ((1 * r 28 + 0) + 0) := e3
  try simp only [Int.one_mul, Int.zero_add, Int.add_zero] at e3
  obtain ⟨g4, hh, q4, e4⟩ := hh
  subst q4
  have e4 : r 32 = ((1 * r 27 + 0) + 0) * ((1 * r 27 + 0) + 0) := e4
  try simp only [Int.one_mul, Int.zero_add, Int.add_zero] at e4
  obtain ⟨g5, hh, q5, e5⟩ := hh
  subst q5
  have e5 : r 31 = (((-1) * r 29 + (1 * r 30 + 0)) + 0) * (((-1) * r 29 + (1 * r 30 + 0)) + 0) := e5
  try simp only [Int.one_mul, Int.zero_add, Int.add_zero] at e5
  obtain ⟨h6, hh, e6, k6⟩ := hh
  have k6 : ∀ j, j ∉ [] → h2 j = h6 j := k6
  have e6 : (¬ (0 < yq_cnt (h6 3) 0 (((1 * ((1 * r 3 + 0) + 0) + 0) + 0)).toNat ∧ 0 < yq_cnt (h6 3) 1 (((1 * ((1 * r 3 + 0) + 0) + 0) + 0)).toNat) → ((1 * ((1 * r 26 + 0) + 0) + 0) + 0) = 0) ∧ ((0 < yq_cnt (h6 3) 0 (((1 * ((1 * r 3 + 0) + 0) + 0) + 0)).toNat ∧ 0 < yq_cnt (h6 3) 1 (((1 * ((1 * r 3 + 0) + 0) + 0) + 0)).toNat) → ye_nr (h6 1) (h6 2) (h6 3) (((1 * ((1 * r 3 + 0) + 0) + 0) + 0)).toNat → ye_J (h6 1) (h6 2) (h6 3) (((1 * ((1 * r 3 + 0) + 0) + 0) + 0)).toNat (((1 * ((1 * r 3 + 0) + 0) + 0) + 0)).toNat 0 (((1 * ((1 * r 26 + 0) + 0) + 0) + 0), ((1 * ((1 * r 27 + 0) + 0) + 0) + 0), ((1 * ((1 * r 28 + 0) + 0) + 0) + 0), ((1 * ((1 * r 30 + 0) + 0) + 0) + 0), ((1 * ((1 * r 29 + 0) + 0) + 0) + 0)) ∧ ye_tB (((1 * ((1 * r 26 + 0) + 0) + 0) + 0), ((1 * ((1 * r 27 + 0) + 0) + 0) + 0), ((1 * ((1 * r 28 + 0) + 0) + 0) + 0), ((1 * ((1 * r 30 + 0) + 0) + 0) + 0), ((1 * ((1 * r 29 + 0) + 0) + 0) + 0))) := e6
  obtain ⟨h7, hh, e7, k7⟩ := hh
  have k7 : ∀ j, j ∉ [] → h6 j = h7 j := k7
  have e7 : (((0 : Int) + 0) ≤ ((1 * r 0 + 0) + 0) ∧ ((1 * r 0 + 0) + 0) ≤ ((0 : Int) + 5)) := e7
  have hh : h7 = gi := hh
  subst hh
  refine yt_dalt (by decide) (by decide) ?_
  rw [show xk_1086.2.1.2.1.1.length = 26 from rfl]
  show (¬ (0 ≤ ((1 * r 0 + 0) + 0) ∧ ((1 * r 0 + 0) + 0) ≤ 5) → ((1 * r 36 + 0) + 0) = -1) ∧ ((0 ≤ ((1 * r 0 + 0) + 0) ∧ ((1 * r 0 + 0) + 0) ≤ 5) → ye_nr (g0 1) (g0 2) (g0 3) (((1 * ((1 * r 3 + 0) + 0) + 0) + 0)).toNat → ∃ m : ye_T, ye_way (g0 1) (g0 2) (g0 3) (((1 * ((1 * r 3 + 0) + 0) + 0) + 0)).toNat m ∧ ye_tb m ∧ ((1 * r 36 + 0) + 0) = ye_rw (g0 1) (g0 2) (((1 * ((1 * r 3 + 0) + 0) + 0) + 0)).toNat m ((1 * r 0 + 0) + 0))
  try simp only [Int.one_mul, Int.zero_add, Int.add_zero]
  try simp only [Int.one_mul, Int.zero_add, Int.add_zero] at e7
  try simp only [Int.one_mul, Int.zero_add, Int.add_zero] at e6
  rw [k7 1 (by decide), k7 2 (by decide), k7 3 (by decide), hgi] at e6
  try simp only [Int.one_mul, Int.zero_add, Int.add_zero] at e3
  try simp only [Int.one_mul, Int.zero_add, Int.add_zero] at e4
  try simp only [Int.one_mul, Int.zero_add, Int.add_zero] at e5
  try simp only [Int.one_mul, Int.zero_add, Int.add_zero] at e1
  try simp only [Int.one_mul, Int.zero_add, Int.add_zero] at e2
  try simp only [Int.one_mul, Int.zero_add, Int.add_zero] at e0
  rw [show r 29 + r 30 = r 30 + r 29 by omega] at e1
  rw [show r 29 + r 30 = r 30 + r 29 by omega] at e0
  refine ⟨fun q => absurd (by omega) q, fun _ hr => ⟨(r 26, r 27, r 28, r 30, r 29), (ye_mw hr e6.1 e6.2).1, (ye_mw hr e6.1 e6.2).2, ?_⟩⟩
  unfold ye_rw
  try dsimp only
  rw [if_neg (show ¬ r 26 = 0 by omega)]
  rw [show r 0 = 4 by omega]
  unfold ye_wd
  rw [if_neg (by decide), if_neg (by decide), if_neg (by decide), if_neg (by decide), if_pos rfl]
  rw [ye_w2e (show r 27 ≠ 0 ∨ r 28 ≠ 0 by omega) e2 e1]
  exact e0
theorem xw_1086_0_11 : yt_hold xT_1086 xk_1086 xq_1086.2.2.1 xG_1086 xP_1086 xU_1086 26 xk_1086.2.1.2.2.2 (fun g0 r g => xR_1086 r g0 ∧ g = g0) (1000, ([(4, 4), ((-2147483648), 2147483647), ((-2147483648), 2147483647), (0, 40), ((-2147483648), 2147483647), (0, 4), ((-9223372036854775808), 9223372036854775807), ((-9223372036854775808), 9223372036854775807), ((-9223372036854775808), 9223372036854775807), (0, 1), ((-4000), 4000), ((-4000), 4000), ((-8000000), 8000000), ((-8000000), 8000000), (0, 12), ((-9223372036854775808), 9223372036854775807), ((-9223372036854775808), 9223372036854775807), ((-9223372036854775808), 9223372036854775807), ((-9223372036854775808), 9223372036854775807), ((-9223372036854775808), 9223372036854775807), (0, 12), ((-2147483648), 2147483647), (0, 12), ((-2147483648), 2147483647), (0, 40), (0, 40), (1, 1), (1, 4000), ((-4000), 4000), ((-8000000), 7999999), ((-8000000), 7999999), (0, 256000000000000), (1, 16000000), (0, 16000000), (1, 4611686018427387904), (1, 4611686018427387904), ((-16000000), 0)], [([(29, (-1)), (30, (-1)), (36, 1)], 0), ([(30, (-1)), (29, (-1))], (-1))]), [([(36, 1)], 0), ([(26, 1)], 0), ([(27, 1)], 0), ([(28, 1)], 0), ([(29, 1)], 0), ([(30, 1)], 0)], [], [.inr (.inr (.inl (998, 1, [([(29, 1), (30, 1)], 0), ([(35, 1)], 0), ([(36, 1)], 0)], [], []))), .inr (.inr (.inl (320, 0, [([(34, 1)], 0), ([(29, 1), (30, 1)], 0), ([(35, 1)], 0)], [], []))), .inr (.inr (.inl (320, 0, [([(27, 2)], 0), ([(28, 2)], 0), ([(34, 1)], 0)], [], []))), .inl (.inr (33, ([(28, 1)], 0), ([(28, 1)], 0))), .inl (.inr (32, ([(27, 1)], 0), ([(27, 1)], 0))), .inl (.inr (31, ([(29, (-1)), (30, 1)], 0), ([(29, (-1)), (30, 1)], 0))), .inr (.inr (.inl (331, 0, [([], 0), ([(2, 1)], 0), ([(3, 1)], 0), ([(4, 1)], 0), ([(5, 1)], 0), ([(6, 1)], 0), ([(7, 1)], 0), ([(8, 1)], 0), ([(9, 1)], 0), ([(10, 1)], 0), ([(11, 1)], 0), ([(12, 1)], 0), ([(13, 1)], 0), ([(14, 1)], 0), ([(15, 1)], 0), ([(16, 1)], 0), ([(17, 1)], 0), ([(18, 1)], 0), ([(19, 1)], 0), ([(20, 1)], 0), ([(21, 1)], 0), ([(22, 1)], 0), ([(23, 1)], 0), ([(24, 1)], 0), ([(25, 1)], 0), ([(26, 1)], 0), ([(27, 1)], 0), ([(28, 1)], 0), ([(29, 1)], 0), ([(30, 1)], 0)], [0, 1, 2, 3, 4, 5, 6, 7, 8, 9, 10, 11, 12, 13, 14, 15, 16, 17, 18, 19, 20, 21, 22, 23, 24, 25, 26, 27, 28, 29, 30, 31, 32, 33, 34, 35, 36], []))), .inr (.inr (.inl (258, 1, [([(0, 1)], 0), ([], 0), ([], 5)], [], [])))]) := by
  intro g0 r gi g hok hh hars hfr hG
  have b0 : 4 ≤ r 0 ∧ r 0 ≤ 4 := hok.1 0 (4, 4) rfl
  have b3 : 0 ≤ r 3 ∧ r 3 ≤ 40 := hok.1 3 (0, 40) rfl
  have b26 : 1 ≤ r 26 ∧ r 26 ≤ 1 := hok.1 26 (1, 1) rfl
  have b27 : 1 ≤ r 27 ∧ r 27 ≤ 4000 := hok.1 27 (1, 4000) rfl
  have b28 : (-4000) ≤ r 28 ∧ r 28 ≤ 4000 := hok.1 28 ((-4000), 4000) rfl
  have b29 : (-8000000) ≤ r 29 ∧ r 29 ≤ 7999999 := hok.1 29 ((-8000000), 7999999) rfl
  have b30 : (-8000000) ≤ r 30 ∧ r 30 ≤ 7999999 := hok.1 30 ((-8000000), 7999999) rfl
  have b31 : 0 ≤ r 31 ∧ r 31 ≤ 256000000000000 := hok.1 31 (0, 256000000000000) rfl
  have b32 : 1 ≤ r 32 ∧ r 32 ≤ 16000000 := hok.1 32 (1, 16000000) rfl
  have b33 : 0 ≤ r 33 ∧ r 33 ≤ 16000000 := hok.1 33 (0, 16000000) rfl
  have b34 : 1 ≤ r 34 ∧ r 34 ≤ 4611686018427387904 := hok.1 34 (1, 4611686018427387904) rfl
  have b35 : 1 ≤ r 35 ∧ r 35 ≤ 4611686018427387904 := hok.1 35 (1, 4611686018427387904) rfl
  have b36 : (-16000000) ≤ r 36 ∧ r 36 ≤ 0 := hok.1 36 ((-16000000), 0) rfl
  have f0 : 0 ≤ (((-1) * r 29 + ((-1) * r 30 + (1 * r 36 + 0))) + 0) := hok.2 _ (List.mem_of_getElem? (i := 0) rfl)
  have f1 : 0 ≤ (((-1) * r 30 + ((-1) * r 29 + 0)) + (-1)) := hok.2 _ (List.mem_of_getElem? (i := 1) rfl)
  obtain ⟨hG, hgi⟩ := hG
  have hG : True := hG
  obtain ⟨h0, hh, e0, k0⟩ := hh
  have k0 : ∀ j, j ∉ [] → g j = h0 j := k0
  have e0 : ((1 * r 36 + 0) + 0) = (((1 * r 29 + (1 * r 30 + 0)) + 0)).tdiv (((1 * r 35 + 0) + 0)) := e0
  obtain ⟨h1, hh, e1, k1⟩ := hh
  have k1 : ∀ j, j ∉ [] → h0 j = h1 j := k1
  have e1 : ((1 * r 35 + 0) + 0) = ((Nat.gcd (((1 * r 34 + 0) + 0)).natAbs (((1 * r 29 + (1 * r 30 + 0)) + 0)).natAbs : Nat) : Int) := e1
  obtain ⟨h2, hh, e2, k2⟩ := hh
  have k2 : ∀ j, j ∉ [] → h1 j = h2 j := k2
  have e2 : ((1 * r 34 + 0) + 0) = ((Nat.gcd (((2 * r 27 + 0) + 0)).natAbs (((2 * r 28 + 0) + 0)).natAbs : Nat) : Int) := e2
  obtain ⟨g3, hh, q3, e3⟩ := hh
  subst q3
  have e3 : r 33 = ((1 * r 28 + 0) + 0) * ((1 * r 28 + 0) + 0) := e3
  try simp only [Int.one_mul, Int.zero_add, Int.add_zero] at e3
  obtain ⟨g4, hh, q4, e4⟩ := hh
  subst q4
  have e4 : r 32 = ((1 * r 27 + 0) + 0) * ((1 * r 27 + 0) + 0) := e4
  try simp only [Int.one_mul, Int.zero_add, Int.add_zero] at e4
  obtain ⟨g5, hh, q5, e5⟩ := hh
  subst q5
  have e5 : r 31 = (((-1) * r 29 + (1 * r 30 + 0)) + 0) * (((-1) * r 29 + (1 * r 30 + 0)) + 0) := e5
  try simp only [Int.one_mul, Int.zero_add, Int.add_zero] at e5
  obtain ⟨h6, hh, e6, k6⟩ := hh
  have k6 : ∀ j, j ∉ [] → h2 j = h6 j := k6
  have e6 : (¬ (0 < yq_cnt (h6 3) 0 (((1 * ((1 * r 3 + 0) + 0) + 0) + 0)).toNat ∧ 0 < yq_cnt (h6 3) 1 (((1 * ((1 * r 3 + 0) + 0) + 0) + 0)).toNat) → ((1 * ((1 * r 26 + 0) + 0) + 0) + 0) = 0) ∧ ((0 < yq_cnt (h6 3) 0 (((1 * ((1 * r 3 + 0) + 0) + 0) + 0)).toNat ∧ 0 < yq_cnt (h6 3) 1 (((1 * ((1 * r 3 + 0) + 0) + 0) + 0)).toNat) → ye_nr (h6 1) (h6 2) (h6 3) (((1 * ((1 * r 3 + 0) + 0) + 0) + 0)).toNat → ye_J (h6 1) (h6 2) (h6 3) (((1 * ((1 * r 3 + 0) + 0) + 0) + 0)).toNat (((1 * ((1 * r 3 + 0) + 0) + 0) + 0)).toNat 0 (((1 * ((1 * r 26 + 0) + 0) + 0) + 0), ((1 * ((1 * r 27 + 0) + 0) + 0) + 0), ((1 * ((1 * r 28 + 0) + 0) + 0) + 0), ((1 * ((1 * r 30 + 0) + 0) + 0) + 0), ((1 * ((1 * r 29 + 0) + 0) + 0) + 0)) ∧ ye_tB (((1 * ((1 * r 26 + 0) + 0) + 0) + 0), ((1 * ((1 * r 27 + 0) + 0) + 0) + 0), ((1 * ((1 * r 28 + 0) + 0) + 0) + 0), ((1 * ((1 * r 30 + 0) + 0) + 0) + 0), ((1 * ((1 * r 29 + 0) + 0) + 0) + 0))) := e6
  obtain ⟨h7, hh, e7, k7⟩ := hh
  have k7 : ∀ j, j ∉ [] → h6 j = h7 j := k7
  have e7 : (((0 : Int) + 0) ≤ ((1 * r 0 + 0) + 0) ∧ ((1 * r 0 + 0) + 0) ≤ ((0 : Int) + 5)) := e7
  have hh : h7 = gi := hh
  subst hh
  refine yt_dalt (by decide) (by decide) ?_
  rw [show xk_1086.2.1.2.1.1.length = 26 from rfl]
  show (¬ (0 ≤ ((1 * r 0 + 0) + 0) ∧ ((1 * r 0 + 0) + 0) ≤ 5) → ((1 * r 36 + 0) + 0) = -1) ∧ ((0 ≤ ((1 * r 0 + 0) + 0) ∧ ((1 * r 0 + 0) + 0) ≤ 5) → ye_nr (g0 1) (g0 2) (g0 3) (((1 * ((1 * r 3 + 0) + 0) + 0) + 0)).toNat → ∃ m : ye_T, ye_way (g0 1) (g0 2) (g0 3) (((1 * ((1 * r 3 + 0) + 0) + 0) + 0)).toNat m ∧ ye_tb m ∧ ((1 * r 36 + 0) + 0) = ye_rw (g0 1) (g0 2) (((1 * ((1 * r 3 + 0) + 0) + 0) + 0)).toNat m ((1 * r 0 + 0) + 0))
  try simp only [Int.one_mul, Int.zero_add, Int.add_zero]
  try simp only [Int.one_mul, Int.zero_add, Int.add_zero] at e7
  try simp only [Int.one_mul, Int.zero_add, Int.add_zero] at e6
  rw [k7 1 (by decide), k7 2 (by decide), k7 3 (by decide), hgi] at e6
  try simp only [Int.one_mul, Int.zero_add, Int.add_zero] at e3
  try simp only [Int.one_mul, Int.zero_add, Int.add_zero] at e4
  try simp only [Int.one_mul, Int.zero_add, Int.add_zero] at e5
  try simp only [Int.one_mul, Int.zero_add, Int.add_zero] at e1
  try simp only [Int.one_mul, Int.zero_add, Int.add_zero] at e2
  try simp only [Int.one_mul, Int.zero_add, Int.add_zero] at e0
  rw [show r 29 + r 30 = r 30 + r 29 by omega] at e1
  rw [show r 29 + r 30 = r 30 + r 29 by omega] at e0
  refine ⟨fun q => absurd (by omega) q, fun _ hr => ⟨(r 26, r 27, r 28, r 30, r 29), (ye_mw hr e6.1 e6.2).1, (ye_mw hr e6.1 e6.2).2, ?_⟩⟩
  unfold ye_rw
  try dsimp only
  rw [if_neg (show ¬ r 26 = 0 by omega)]
  rw [show r 0 = 4 by omega]
  unfold ye_wd
  rw [if_neg (by decide), if_neg (by decide), if_neg (by decide), if_neg (by decide), if_pos rfl]
  rw [ye_w2e (show r 27 ≠ 0 ∨ r 28 ≠ 0 by omega) e2 e1]
  exact e0
theorem xw_1086_0_12 : yt_hold xT_1086 xk_1086 xq_1086.2.2.1 xG_1086 xP_1086 xU_1086 26 xk_1086.2.1.2.2.2 (fun g0 r g => xR_1086 r g0 ∧ g = g0) (1000, ([(0, 5), ((-2147483648), 2147483647), ((-2147483648), 2147483647), (0, 40), ((-2147483648), 2147483647), (0, 4), ((-9223372036854775808), 9223372036854775807), ((-9223372036854775808), 9223372036854775807), ((-9223372036854775808), 9223372036854775807), (0, 1), ((-4000), 4000), ((-4000), 4000), ((-8000000), 8000000), ((-8000000), 8000000), (0, 12), ((-9223372036854775808), 9223372036854775807), ((-9223372036854775808), 9223372036854775807), ((-9223372036854775808), 9223372036854775807), ((-9223372036854775808), 9223372036854775807), ((-9223372036854775808), 9223372036854775807), (0, 12), ((-2147483648), 2147483647), (0, 12), ((-2147483648), 2147483647), (0, 40), (0, 40), (0, 0), (1, 4000), ((-4000), 4000), ((-8000000), 8000000), ((-8000000), 8000000)], []), [([], (-6)), ([(26, 1)], 0), ([(27, 1)], 0), ([(28, 1)], 0), ([(29, 1)], 0), ([(30, 1)], 0)], [], [.inr (.inr (.inl (331, 0, [([], 0), ([(2, 1)], 0), ([(3, 1)], 0), ([(4, 1)], 0), ([(5, 1)], 0), ([(6, 1)], 0), ([(7, 1)], 0), ([(8, 1)], 0), ([(9, 1)], 0), ([(10, 1)], 0), ([(11, 1)], 0), ([(12, 1)], 0), ([(13, 1)], 0), ([(14, 1)], 0), ([(15, 1)], 0), ([(16, 1)], 0), ([(17, 1)], 0), ([(18, 1)], 0), ([(19, 1)], 0), ([(20, 1)], 0), ([(21, 1)], 0), ([(22, 1)], 0), ([(23, 1)], 0), ([(24, 1)], 0), ([(25, 1)], 0), ([(26, 1)], 0), ([(27, 1)], 0), ([(28, 1)], 0), ([(29, 1)], 0), ([(30, 1)], 0)], [0, 1, 2, 3, 4, 5, 6, 7, 8, 9, 10, 11, 12, 13, 14, 15, 16, 17, 18, 19, 20, 21, 22, 23, 24, 25, 26, 27, 28, 29, 30, 31, 32, 33, 34, 35, 36], []))), .inr (.inr (.inl (258, 1, [([(0, 1)], 0), ([], 0), ([], 5)], [], [])))]) := by
  intro g0 r gi g hok hh hars hfr hG
  have b0 : 0 ≤ r 0 ∧ r 0 ≤ 5 := hok.1 0 (0, 5) rfl
  have b3 : 0 ≤ r 3 ∧ r 3 ≤ 40 := hok.1 3 (0, 40) rfl
  have b26 : 0 ≤ r 26 ∧ r 26 ≤ 0 := hok.1 26 (0, 0) rfl
  have b27 : 1 ≤ r 27 ∧ r 27 ≤ 4000 := hok.1 27 (1, 4000) rfl
  have b28 : (-4000) ≤ r 28 ∧ r 28 ≤ 4000 := hok.1 28 ((-4000), 4000) rfl
  have b29 : (-8000000) ≤ r 29 ∧ r 29 ≤ 8000000 := hok.1 29 ((-8000000), 8000000) rfl
  have b30 : (-8000000) ≤ r 30 ∧ r 30 ≤ 8000000 := hok.1 30 ((-8000000), 8000000) rfl
  obtain ⟨hG, hgi⟩ := hG
  have hG : True := hG
  obtain ⟨h0, hh, e0, k0⟩ := hh
  have k0 : ∀ j, j ∉ [] → g j = h0 j := k0
  have e0 : (¬ (0 < yq_cnt (h0 3) 0 (((1 * ((1 * r 3 + 0) + 0) + 0) + 0)).toNat ∧ 0 < yq_cnt (h0 3) 1 (((1 * ((1 * r 3 + 0) + 0) + 0) + 0)).toNat) → ((1 * ((1 * r 26 + 0) + 0) + 0) + 0) = 0) ∧ ((0 < yq_cnt (h0 3) 0 (((1 * ((1 * r 3 + 0) + 0) + 0) + 0)).toNat ∧ 0 < yq_cnt (h0 3) 1 (((1 * ((1 * r 3 + 0) + 0) + 0) + 0)).toNat) → ye_nr (h0 1) (h0 2) (h0 3) (((1 * ((1 * r 3 + 0) + 0) + 0) + 0)).toNat → ye_J (h0 1) (h0 2) (h0 3) (((1 * ((1 * r 3 + 0) + 0) + 0) + 0)).toNat (((1 * ((1 * r 3 + 0) + 0) + 0) + 0)).toNat 0 (((1 * ((1 * r 26 + 0) + 0) + 0) + 0), ((1 * ((1 * r 27 + 0) + 0) + 0) + 0), ((1 * ((1 * r 28 + 0) + 0) + 0) + 0), ((1 * ((1 * r 30 + 0) + 0) + 0) + 0), ((1 * ((1 * r 29 + 0) + 0) + 0) + 0)) ∧ ye_tB (((1 * ((1 * r 26 + 0) + 0) + 0) + 0), ((1 * ((1 * r 27 + 0) + 0) + 0) + 0), ((1 * ((1 * r 28 + 0) + 0) + 0) + 0), ((1 * ((1 * r 30 + 0) + 0) + 0) + 0), ((1 * ((1 * r 29 + 0) + 0) + 0) + 0))) := e0
  obtain ⟨h1, hh, e1, k1⟩ := hh
  have k1 : ∀ j, j ∉ [] → h0 j = h1 j := k1
  have e1 : (((0 : Int) + 0) ≤ ((1 * r 0 + 0) + 0) ∧ ((1 * r 0 + 0) + 0) ≤ ((0 : Int) + 5)) := e1
  have hh : h1 = gi := hh
  subst hh
  refine yt_dalt (by decide) (by decide) ?_
  rw [show xk_1086.2.1.2.1.1.length = 26 from rfl]
  show (¬ (0 ≤ ((1 * r 0 + 0) + 0) ∧ ((1 * r 0 + 0) + 0) ≤ 5) → ((0 : Int) + (-6)) = -1) ∧ ((0 ≤ ((1 * r 0 + 0) + 0) ∧ ((1 * r 0 + 0) + 0) ≤ 5) → ye_nr (g0 1) (g0 2) (g0 3) (((1 * ((1 * r 3 + 0) + 0) + 0) + 0)).toNat → ∃ m : ye_T, ye_way (g0 1) (g0 2) (g0 3) (((1 * ((1 * r 3 + 0) + 0) + 0) + 0)).toNat m ∧ ye_tb m ∧ ((0 : Int) + (-6)) = ye_rw (g0 1) (g0 2) (((1 * ((1 * r 3 + 0) + 0) + 0) + 0)).toNat m ((1 * r 0 + 0) + 0))
  try simp only [Int.one_mul, Int.zero_add, Int.add_zero]
  try simp only [Int.one_mul, Int.zero_add, Int.add_zero] at e1
  try simp only [Int.one_mul, Int.zero_add, Int.add_zero] at e0
  rw [k1 1 (by decide), k1 2 (by decide), k1 3 (by decide), hgi] at e0
  refine ⟨fun q => absurd (by omega) q, fun _ hr => ⟨(r 26, r 27, r 28, r 30, r 29), (ye_mw hr e0.1 e0.2).1, (ye_mw hr e0.1 e0.2).2, ?_⟩⟩
  unfold ye_rw
  try dsimp only
  rw [if_pos (show r 26 = 0 by omega)]
theorem xw_1086_0_13 : yt_hold xT_1086 xk_1086 xq_1086.2.2.1 xG_1086 xP_1086 xU_1086 26 xk_1086.2.1.2.2.2 (fun g0 r g => xR_1086 r g0 ∧ g = g0) (0, ([(5, 5), ((-2147483648), 2147483647), ((-2147483648), 2147483647), (1, 40), ((-2147483648), 2147483647), (0, 4), ((-9223372036854775808), 9223372036854775807), ((-9223372036854775808), 9223372036854775807), ((-9223372036854775808), 9223372036854775807), (0, 1), ((-4000), 4000), ((-4000), 4000), ((-8000000), 8000000), ((-8000000), 8000000), (0, 12), ((-9223372036854775808), 9223372036854775807), ((-9223372036854775808), 9223372036854775807), ((-9223372036854775808), 9223372036854775807), ((-9223372036854775808), 9223372036854775807), ((-9223372036854775808), 9223372036854775807), (0, 12), ((-2147483648), 2147483647), (0, 12), ((-2147483648), 2147483647), (0, 40), (0, 40), ((-1300), (-1)), ((-1300), 4000), ((-8000000), 5200000), ((-8000000), 8000000), (0, 256000000000000), (1, 1690000), (0, 16000000), (1, 4611686018427387904), (1, 4611686018427387904)], []), [([], 0), ([], 0), ([], 1), ([(26, 1)], 0), ([(27, 1)], 0), ([(28, 1)], 0), ([(29, 1)], 0)], [], [.inr (.inr (.inl (320, 0, [([(33, 1)], 0), ([(28, 1), (29, 1)], 0), ([(34, 1)], 0)], [], []))), .inr (.inr (.inl (321, 0, [([(26, 2)], 0), ([(27, 2)], 0), ([(33, 1)], 0)], [], []))), .inl (.inr (32, ([(27, 1)], 0), ([(27, 1)], 0))), .inl (.inr (31, ([(26, 1)], 0), ([(26, 1)], 0))), .inl (.inr (30, ([(28, (-1)), (29, 1)], 0), ([(28, (-1)), (29, 1)], 0))), .inr (.inr (.inl (331, 1, [([], 0), ([(2, 1)], 0), ([(3, 1)], 0), ([(4, 1)], 0), ([(5, 1)], 0), ([(6, 1)], 0), ([(7, 1)], 0), ([(8, 1)], 0), ([(9, 1)], 0), ([(10, 1)], 0), ([(11, 1)], 0), ([(12, 1)], 0), ([(13, 1)], 0), ([(14, 1)], 0), ([(15, 1)], 0), ([(16, 1)], 0), ([(17, 1)], 0), ([(18, 1)], 0), ([(19, 1)], 0), ([(20, 1)], 0), ([(21, 1)], 0), ([(22, 1)], 0), ([(23, 1)], 0), ([(24, 1)], 0), ([(25, 1)], 0), ([(26, 1)], 0), ([(27, 1)], 0), ([(28, 1)], 0), ([(29, 1)], 0)], [0, 1, 2, 3, 4, 5, 6, 7, 8, 9, 10, 11, 12, 13, 14, 15, 16, 17, 18, 19, 20, 21, 22, 23, 24, 25, 26, 27, 28, 29, 30, 31, 32, 33, 34, 35, 36], []))), .inr (.inr (.inl (258, 1, [([(0, 1)], 0), ([], 0), ([], 5)], [], [])))]) := by
  intro g0 r gi g hok hh hars hfr hG
  have b0 : 5 ≤ r 0 ∧ r 0 ≤ 5 := hok.1 0 (5, 5) rfl
  have b3 : 1 ≤ r 3 ∧ r 3 ≤ 40 := hok.1 3 (1, 40) rfl
  have b26 : (-1300) ≤ r 26 ∧ r 26 ≤ (-1) := hok.1 26 ((-1300), (-1)) rfl
  have b27 : (-1300) ≤ r 27 ∧ r 27 ≤ 4000 := hok.1 27 ((-1300), 4000) rfl
  have b28 : (-8000000) ≤ r 28 ∧ r 28 ≤ 5200000 := hok.1 28 ((-8000000), 5200000) rfl
  have b29 : (-8000000) ≤ r 29 ∧ r 29 ≤ 8000000 := hok.1 29 ((-8000000), 8000000) rfl
  have b30 : 0 ≤ r 30 ∧ r 30 ≤ 256000000000000 := hok.1 30 (0, 256000000000000) rfl
  have b31 : 1 ≤ r 31 ∧ r 31 ≤ 1690000 := hok.1 31 (1, 1690000) rfl
  have b32 : 0 ≤ r 32 ∧ r 32 ≤ 16000000 := hok.1 32 (0, 16000000) rfl
  have b33 : 1 ≤ r 33 ∧ r 33 ≤ 4611686018427387904 := hok.1 33 (1, 4611686018427387904) rfl
  have b34 : 1 ≤ r 34 ∧ r 34 ≤ 4611686018427387904 := hok.1 34 (1, 4611686018427387904) rfl
  obtain ⟨hG, hgi⟩ := hG
  have hG : True := hG
  obtain ⟨h0, hh, e0, k0⟩ := hh
  have k0 : ∀ j, j ∉ [] → g j = h0 j := k0
  have e0 : ((1 * r 34 + 0) + 0) = ((Nat.gcd (((1 * r 33 + 0) + 0)).natAbs (((1 * r 28 + (1 * r 29 + 0)) + 0)).natAbs : Nat) : Int) := e0
  obtain ⟨h1, hh, e1, k1⟩ := hh
  have k1 : ∀ j, j ∉ [] → h0 j = h1 j := k1
  have e1 : ((1 * r 33 + 0) + 0) = ((Nat.gcd (((2 * r 26 + 0) + 0)).natAbs (((2 * r 27 + 0) + 0)).natAbs : Nat) : Int) := e1
  obtain ⟨g2, hh, q2, e2⟩ := hh
  subst q2
  have e2 : r 32 = ((1 * r 27 + 0) + 0) * ((1 * r 27 + 0) + 0) := e2
  try simp only [Int.one_mul, Int.zero_add, Int.add_zero] at e2
  obtain ⟨g3, hh, q3, e3⟩ := hh
  subst q3
  have e3 : r 31 = ((1 * r 26 + 0) + 0) * ((1 * r 26 + 0) + 0) := e3
  try simp only [Int.one_mul, Int.zero_add, Int.add_zero] at e3
  obtain ⟨g4, hh, q4, e4⟩ := hh
  subst q4
  have e4 : r 30 = (((-1) * r 28 + (1 * r 29 + 0)) + 0) * (((-1) * r 28 + (1 * r 29 + 0)) + 0) := e4
  try simp only [Int.one_mul, Int.zero_add, Int.add_zero] at e4
  obtain ⟨h5, hh, e5, k5⟩ := hh
  have k5 : ∀ j, j ∉ [] → h1 j = h5 j := k5
  have e5 : (¬ (0 < yq_cnt (h5 3) 0 (((1 * ((1 * r 3 + 0) + 0) + 0) + 0)).toNat ∧ 0 < yq_cnt (h5 3) 1 (((1 * ((1 * r 3 + 0) + 0) + 0) + 0)).toNat) → ((0 : Int) + 1) = 0) ∧ ((0 < yq_cnt (h5 3) 0 (((1 * ((1 * r 3 + 0) + 0) + 0) + 0)).toNat ∧ 0 < yq_cnt (h5 3) 1 (((1 * ((1 * r 3 + 0) + 0) + 0) + 0)).toNat) → ye_nr (h5 1) (h5 2) (h5 3) (((1 * ((1 * r 3 + 0) + 0) + 0) + 0)).toNat → ye_J (h5 1) (h5 2) (h5 3) (((1 * ((1 * r 3 + 0) + 0) + 0) + 0)).toNat (((1 * ((1 * r 3 + 0) + 0) + 0) + 0)).toNat 0 (((0 : Int) + 1), ((1 * ((1 * r 26 + 0) + 0) + 0) + 0), ((1 * ((1 * r 27 + 0) + 0) + 0) + 0), ((1 * ((1 * r 29 + 0) + 0) + 0) + 0), ((1 * ((1 * r 28 + 0) + 0) + 0) + 0)) ∧ ye_tB (((0 : Int) + 1), ((1 * ((1 * r 26 + 0) + 0) + 0) + 0), ((1 * ((1 * r 27 + 0) + 0) + 0) + 0), ((1 * ((1 * r 29 + 0) + 0) + 0) + 0), ((1 * ((1 * r 28 + 0) + 0) + 0) + 0))) := e5
  obtain ⟨h6, hh, e6, k6⟩ := hh
  have k6 : ∀ j, j ∉ [] → h5 j = h6 j := k6
  have e6 : (((0 : Int) + 0) ≤ ((1 * r 0 + 0) + 0) ∧ ((1 * r 0 + 0) + 0) ≤ ((0 : Int) + 5)) := e6
  have hh : h6 = gi := hh
  subst hh
  refine yt_dcut (by decide) rfl ?_ ?_
  · rw [show xk_1086.2.1.2.1.1.length = 26 from rfl]
    refine yx_fks _ _ ?_
    refine ⟨?_, ?_, trivial⟩
    · show 0 ≤ ((1 * ((0 : Int) + 0) + 0) + 0)
      omega
    · show 0 ≤ (((-1) * ((0 : Int) + 0) + (1 * ((0 : Int) + 0) + 0)) + 0)
      omega
  · rw [show xk_1086.2.1.2.1.1.length = 26 from rfl]
    show ((1 * r 0 + 0) + 0) = 5 ∧ ((1 * ((0 : Int) + 0) + 0) + 0) = ye_sc (g0 1) (g0 2) ((1 * ((1 * r 26 + 0) + 0) + 0) + 0) ((1 * ((1 * r 27 + 0) + 0) + 0) + 0) ((1 * ((1 * r 29 + 0) + 0) + 0) + 0) ((1 * ((1 * r 28 + 0) + 0) + 0) + 0) (((1 * ((0 : Int) + 0) + 0) + 0)).toNat ∧ ((1 * ((0 : Int) + 0) + 0) + 0) ≤ ((1 * ((1 * r 3 + 0) + 0) + 0) + 0) ∧ ((1 * ((0 : Int) + 1) + 0) + 0) = 1 ∧ (ye_nr (g0 1) (g0 2) (g0 3) (((1 * ((1 * r 3 + 0) + 0) + 0) + 0)).toNat → ye_way (g0 1) (g0 2) (g0 3) (((1 * ((1 * r 3 + 0) + 0) + 0) + 0)).toNat (((1 * ((0 : Int) + 1) + 0) + 0), ((1 * ((1 * r 26 + 0) + 0) + 0) + 0), ((1 * ((1 * r 27 + 0) + 0) + 0) + 0), ((1 * ((1 * r 29 + 0) + 0) + 0) + 0), ((1 * ((1 * r 28 + 0) + 0) + 0) + 0)) ∧ ye_tb (((1 * ((0 : Int) + 1) + 0) + 0), ((1 * ((1 * r 26 + 0) + 0) + 0) + 0), ((1 * ((1 * r 27 + 0) + 0) + 0) + 0), ((1 * ((1 * r 29 + 0) + 0) + 0) + 0), ((1 * ((1 * r 28 + 0) + 0) + 0) + 0)))
    try simp only [Int.one_mul, Int.zero_add, Int.add_zero]
    try simp only [Int.one_mul, Int.zero_add, Int.add_zero] at e6
    try simp only [Int.one_mul, Int.zero_add, Int.add_zero] at e5
    rw [k6 1 (by decide), k6 2 (by decide), k6 3 (by decide), hgi] at e5
    exact ⟨by omega, rfl, by omega, by omega, fun hr => ye_mw hr e5.1 e5.2⟩
theorem xw_1086_0_14 : yt_hold xT_1086 xk_1086 xq_1086.2.2.1 xG_1086 xP_1086 xU_1086 26 xk_1086.2.1.2.2.2 (fun g0 r g => xR_1086 r g0 ∧ g = g0) (1000, ([(0, 0), ((-2147483648), 2147483647), ((-2147483648), 2147483647), (1, 40), ((-2147483648), 2147483647), (0, 4), ((-9223372036854775808), 9223372036854775807), ((-9223372036854775808), 9223372036854775807), ((-9223372036854775808), 9223372036854775807), (0, 1), ((-4000), 4000), ((-4000), 4000), ((-8000000), 8000000), ((-8000000), 8000000), (0, 12), ((-9223372036854775808), 9223372036854775807), ((-9223372036854775808), 9223372036854775807), ((-9223372036854775808), 9223372036854775807), ((-9223372036854775808), 9223372036854775807), ((-9223372036854775808), 9223372036854775807), (0, 12), ((-2147483648), 2147483647), (0, 12), ((-2147483648), 2147483647), (0, 40), (0, 40), ((-1300), (-1)), ((-1300), 4000), ((-8000000), 5200000), ((-8000000), 8000000), (0, 256000000000000), (1, 1690000), (0, 16000000), (1, 4611686018427387904), (1, 4611686018427387904), ((-4611686018427387904), 4611686018427387904)], []), [([(35, 1)], 0), ([], 1), ([(26, 1)], 0), ([(27, 1)], 0), ([(28, 1)], 0), ([(29, 1)], 0)], [], [.inr (.inr (.inl (332, 0, [([(30, 1)], 0), ([(32, 1), (31, 1)], 0), ([], 1), ([(35, 1)], 0)], [], []))), .inr (.inr (.inl (320, 0, [([(33, 1)], 0), ([(28, 1), (29, 1)], 0), ([(34, 1)], 0)], [], []))), .inr (.inr (.inl (321, 0, [([(26, 2)], 0), ([(27, 2)], 0), ([(33, 1)], 0)], [], []))), .inl (.inr (32, ([(27, 1)], 0), ([(27, 1)], 0))), .inl (.inr (31, ([(26, 1)], 0), ([(26, 1)], 0))), .inl (.inr (30, ([(28, (-1)), (29, 1)], 0), ([(28, (-1)), (29, 1)], 0))), .inr (.inr (.inl (331, 1, [([], 0), ([(2, 1)], 0), ([(3, 1)], 0), ([(4, 1)], 0), ([(5, 1)], 0), ([(6, 1)], 0), ([(7, 1)], 0), ([(8, 1)], 0), ([(9, 1)], 0), ([(10, 1)], 0), ([(11, 1)], 0), ([(12, 1)], 0), ([(13, 1)], 0), ([(14, 1)], 0), ([(15, 1)], 0), ([(16, 1)], 0), ([(17, 1)], 0), ([(18, 1)], 0), ([(19, 1)], 0), ([(20, 1)], 0), ([(21, 1)], 0), ([(22, 1)], 0), ([(23, 1)], 0), ([(24, 1)], 0), ([(25, 1)], 0), ([(26, 1)], 0), ([(27, 1)], 0), ([(28, 1)], 0), ([(29, 1)], 0)], [0, 1, 2, 3, 4, 5, 6, 7, 8, 9, 10, 11, 12, 13, 14, 15, 16, 17, 18, 19, 20, 21, 22, 23, 24, 25, 26, 27, 28, 29, 30, 31, 32, 33, 34, 35, 36], []))), .inr (.inr (.inl (258, 1, [([(0, 1)], 0), ([], 0), ([], 5)], [], [])))]) := by
  intro g0 r gi g hok hh hars hfr hG
  have b0 : 0 ≤ r 0 ∧ r 0 ≤ 0 := hok.1 0 (0, 0) rfl
  have b3 : 1 ≤ r 3 ∧ r 3 ≤ 40 := hok.1 3 (1, 40) rfl
  have b26 : (-1300) ≤ r 26 ∧ r 26 ≤ (-1) := hok.1 26 ((-1300), (-1)) rfl
  have b27 : (-1300) ≤ r 27 ∧ r 27 ≤ 4000 := hok.1 27 ((-1300), 4000) rfl
  have b28 : (-8000000) ≤ r 28 ∧ r 28 ≤ 5200000 := hok.1 28 ((-8000000), 5200000) rfl
  have b29 : (-8000000) ≤ r 29 ∧ r 29 ≤ 8000000 := hok.1 29 ((-8000000), 8000000) rfl
  have b30 : 0 ≤ r 30 ∧ r 30 ≤ 256000000000000 := hok.1 30 (0, 256000000000000) rfl
  have b31 : 1 ≤ r 31 ∧ r 31 ≤ 1690000 := hok.1 31 (1, 1690000) rfl
  have b32 : 0 ≤ r 32 ∧ r 32 ≤ 16000000 := hok.1 32 (0, 16000000) rfl
  have b33 : 1 ≤ r 33 ∧ r 33 ≤ 4611686018427387904 := hok.1 33 (1, 4611686018427387904) rfl
  have b34 : 1 ≤ r 34 ∧ r 34 ≤ 4611686018427387904 := hok.1 34 (1, 4611686018427387904) rfl
  have b35 : (-4611686018427387904) ≤ r 35 ∧ r 35 ≤ 4611686018427387904 := hok.1 35 ((-4611686018427387904), 4611686018427387904) rfl
  obtain ⟨hG, hgi⟩ := hG
  have hG : True := hG
  obtain ⟨h0, hh, e0, k0⟩ := hh
  have k0 : ∀ j, j ∉ [] → g j = h0 j := k0
  have e0 : ((1 * r 35 + 0) + 0) = ye_pt ((1 * r 30 + 0) + 0) ((1 * r 32 + (1 * r 31 + 0)) + 0) ((0 : Int) + 1) := e0
  obtain ⟨h1, hh, e1, k1⟩ := hh
  have k1 : ∀ j, j ∉ [] → h0 j = h1 j := k1
  have e1 : ((1 * r 34 + 0) + 0) = ((Nat.gcd (((1 * r 33 + 0) + 0)).natAbs (((1 * r 28 + (1 * r 29 + 0)) + 0)).natAbs : Nat) : Int) := e1
  obtain ⟨h2, hh, e2, k2⟩ := hh
  have k2 : ∀ j, j ∉ [] → h1 j = h2 j := k2
  have e2 : ((1 * r 33 + 0) + 0) = ((Nat.gcd (((2 * r 26 + 0) + 0)).natAbs (((2 * r 27 + 0) + 0)).natAbs : Nat) : Int) := e2
  obtain ⟨g3, hh, q3, e3⟩ := hh
  subst q3
  have e3 : r 32 = ((1 * r 27 + 0) + 0) * ((1 * r 27 + 0) + 0) := e3
  try simp only [Int.one_mul, Int.zero_add, Int.add_zero] at e3
  obtain ⟨g4, hh, q4, e4⟩ := hh
  subst q4
  have e4 : r 31 = ((1 * r 26 + 0) + 0) * ((1 * r 26 + 0) + 0) := e4
  try simp only [Int.one_mul, Int.zero_add, Int.add_zero] at e4
  obtain ⟨g5, hh, q5, e5⟩ := hh
  subst q5
  have e5 : r 30 = (((-1) * r 28 + (1 * r 29 + 0)) + 0) * (((-1) * r 28 + (1 * r 29 + 0)) + 0) := e5
  try simp only [Int.one_mul, Int.zero_add, Int.add_zero] at e5
  obtain ⟨h6, hh, e6, k6⟩ := hh
  have k6 : ∀ j, j ∉ [] → h2 j = h6 j := k6
  have e6 : (¬ (0 < yq_cnt (h6 3) 0 (((1 * ((1 * r 3 + 0) + 0) + 0) + 0)).toNat ∧ 0 < yq_cnt (h6 3) 1 (((1 * ((1 * r 3 + 0) + 0) + 0) + 0)).toNat) → ((0 : Int) + 1) = 0) ∧ ((0 < yq_cnt (h6 3) 0 (((1 * ((1 * r 3 + 0) + 0) + 0) + 0)).toNat ∧ 0 < yq_cnt (h6 3) 1 (((1 * ((1 * r 3 + 0) + 0) + 0) + 0)).toNat) → ye_nr (h6 1) (h6 2) (h6 3) (((1 * ((1 * r 3 + 0) + 0) + 0) + 0)).toNat → ye_J (h6 1) (h6 2) (h6 3) (((1 * ((1 * r 3 + 0) + 0) + 0) + 0)).toNat (((1 * ((1 * r 3 + 0) + 0) + 0) + 0)).toNat 0 (((0 : Int) + 1), ((1 * ((1 * r 26 + 0) + 0) + 0) + 0), ((1 * ((1 * r 27 + 0) + 0) + 0) + 0), ((1 * ((1 * r 29 + 0) + 0) + 0) + 0), ((1 * ((1 * r 28 + 0) + 0) + 0) + 0)) ∧ ye_tB (((0 : Int) + 1), ((1 * ((1 * r 26 + 0) + 0) + 0) + 0), ((1 * ((1 * r 27 + 0) + 0) + 0) + 0), ((1 * ((1 * r 29 + 0) + 0) + 0) + 0), ((1 * ((1 * r 28 + 0) + 0) + 0) + 0))) := e6
  obtain ⟨h7, hh, e7, k7⟩ := hh
  have k7 : ∀ j, j ∉ [] → h6 j = h7 j := k7
  have e7 : (((0 : Int) + 0) ≤ ((1 * r 0 + 0) + 0) ∧ ((1 * r 0 + 0) + 0) ≤ ((0 : Int) + 5)) := e7
  have hh : h7 = gi := hh
  subst hh
  refine yt_dalt (by decide) (by decide) ?_
  rw [show xk_1086.2.1.2.1.1.length = 26 from rfl]
  show (¬ (0 ≤ ((1 * r 0 + 0) + 0) ∧ ((1 * r 0 + 0) + 0) ≤ 5) → ((1 * r 35 + 0) + 0) = -1) ∧ ((0 ≤ ((1 * r 0 + 0) + 0) ∧ ((1 * r 0 + 0) + 0) ≤ 5) → ye_nr (g0 1) (g0 2) (g0 3) (((1 * ((1 * r 3 + 0) + 0) + 0) + 0)).toNat → ∃ m : ye_T, ye_way (g0 1) (g0 2) (g0 3) (((1 * ((1 * r 3 + 0) + 0) + 0) + 0)).toNat m ∧ ye_tb m ∧ ((1 * r 35 + 0) + 0) = ye_rw (g0 1) (g0 2) (((1 * ((1 * r 3 + 0) + 0) + 0) + 0)).toNat m ((1 * r 0 + 0) + 0))
  try simp only [Int.one_mul, Int.zero_add, Int.add_zero]
  try simp only [Int.one_mul, Int.zero_add, Int.add_zero] at e7
  try simp only [Int.one_mul, Int.zero_add, Int.add_zero] at e6
  rw [k7 1 (by decide), k7 2 (by decide), k7 3 (by decide), hgi] at e6
  try simp only [Int.one_mul, Int.zero_add, Int.add_zero] at e3
  try simp only [Int.one_mul, Int.zero_add, Int.add_zero] at e4
  try simp only [Int.one_mul, Int.zero_add, Int.add_zero] at e5
  try simp only [Int.one_mul, Int.zero_add, Int.add_zero] at e0
  rw [show -1 * r 28 + r 29 = r 29 - r 28 by omega] at e5
  have sqA : r 26 * r 26 = r 31 := e4.symm
  have sqB : r 27 * r 27 = r 32 := e3.symm
  have hl : r 26 * r 26 + r 27 * r 27 = r 32 + r 31 := by
    rw [sqA, sqB]
    omega
  rw [e5, ← hl] at e0
  refine ⟨fun q => absurd (by omega) q, fun _ hr => ⟨((1 : Int), r 26, r 27, r 29, r 28), (ye_mw hr e6.1 e6.2).1, (ye_mw hr e6.1 e6.2).2, ?_⟩⟩
  unfold ye_rw
  try dsimp only
  try rw [if_neg (show ¬ (1 : Int) = 0 by omega)]
  rw [show r 0 = 0 by omega, (ye_w0e (show r 26 * r 26 + r 27 * r 27 ≠ 0 by rw [hl]; omega)).1]
  exact e0
theorem xw_1086_0_15 : yt_hold xT_1086 xk_1086 xq_1086.2.2.1 xG_1086 xP_1086 xU_1086 26 xk_1086.2.1.2.2.2 (fun g0 r g => xR_1086 r g0 ∧ g = g0) (1000, ([(1, 1), ((-2147483648), 2147483647), ((-2147483648), 2147483647), (1, 40), ((-2147483648), 2147483647), (0, 4), ((-9223372036854775808), 9223372036854775807), ((-9223372036854775808), 9223372036854775807), ((-9223372036854775808), 9223372036854775807), (0, 1), ((-4000), 4000), ((-4000), 4000), ((-8000000), 8000000), ((-8000000), 8000000), (0, 12), ((-9223372036854775808), 9223372036854775807), ((-9223372036854775808), 9223372036854775807), ((-9223372036854775808), 9223372036854775807), ((-9223372036854775808), 9223372036854775807), ((-9223372036854775808), 9223372036854775807), (0, 12), ((-2147483648), 2147483647), (0, 12), ((-2147483648), 2147483647), (0, 40), (0, 40), ((-1300), (-1)), ((-1300), 4000), ((-8000000), 5200000), ((-8000000), 8000000), (0, 256000000000000), (1, 1690000), (0, 16000000), (1, 4611686018427387904), (1, 4611686018427387904), ((-4611686018427387904), 4611686018427387904)], []), [([(35, 1)], 0), ([], 1), ([(26, 1)], 0), ([(27, 1)], 0), ([(28, 1)], 0), ([(29, 1)], 0)], [], [.inr (.inr (.inl (332, 0, [([(30, 1)], 0), ([(32, 1), (31, 1)], 0), ([], 0), ([(35, 1)], 0)], [], []))), .inr (.inr (.inl (320, 0, [([(33, 1)], 0), ([(28, 1), (29, 1)], 0), ([(34, 1)], 0)], [], []))), .inr (.inr (.inl (321, 0, [([(26, 2)], 0), ([(27, 2)], 0), ([(33, 1)], 0)], [], []))), .inl (.inr (32, ([(27, 1)], 0), ([(27, 1)], 0))), .inl (.inr (31, ([(26, 1)], 0), ([(26, 1)], 0))), .inl (.inr (30, ([(28, (-1)), (29, 1)], 0), ([(28, (-1)), (29, 1)], 0))), .inr (.inr (.inl (331, 1, [([], 0), ([(2, 1)], 0), ([(3, 1)], 0), ([(4, 1)], 0), ([(5, 1)], 0), ([(6, 1)], 0), ([(7, 1)], 0), ([(8, 1)], 0), ([(9, 1)], 0), ([(10, 1)], 0), ([(11, 1)], 0), ([(12, 1)], 0), ([(13, 1)], 0), ([(14, 1)], 0), ([(15, 1)], 0), ([(16, 1)], 0), ([(17, 1)], 0), ([(18, 1)], 0), ([(19, 1)], 0), ([(20, 1)], 0), ([(21, 1)], 0), ([(22, 1)], 0), ([(23, 1)], 0), ([(24, 1)], 0), ([(25, 1)], 0), ([(26, 1)], 0), ([(27, 1)], 0), ([(28, 1)], 0), ([(29, 1)], 0)], [0, 1, 2, 3, 4, 5, 6, 7, 8, 9, 10, 11, 12, 13, 14, 15, 16, 17, 18, 19, 20, 21, 22, 23, 24, 25, 26, 27, 28, 29, 30, 31, 32, 33, 34, 35, 36], []))), .inr (.inr (.inl (258, 1, [([(0, 1)], 0), ([], 0), ([], 5)], [], [])))]) := by
  intro g0 r gi g hok hh hars hfr hG
  have b0 : 1 ≤ r 0 ∧ r 0 ≤ 1 := hok.1 0 (1, 1) rfl
  have b3 : 1 ≤ r 3 ∧ r 3 ≤ 40 := hok.1 3 (1, 40) rfl
  have b26 : (-1300) ≤ r 26 ∧ r 26 ≤ (-1) := hok.1 26 ((-1300), (-1)) rfl
  have b27 : (-1300) ≤ r 27 ∧ r 27 ≤ 4000 := hok.1 27 ((-1300), 4000) rfl
  have b28 : (-8000000) ≤ r 28 ∧ r 28 ≤ 5200000 := hok.1 28 ((-8000000), 5200000) rfl
  have b29 : (-8000000) ≤ r 29 ∧ r 29 ≤ 8000000 := hok.1 29 ((-8000000), 8000000) rfl
  have b30 : 0 ≤ r 30 ∧ r 30 ≤ 256000000000000 := hok.1 30 (0, 256000000000000) rfl
  have b31 : 1 ≤ r 31 ∧ r 31 ≤ 1690000 := hok.1 31 (1, 1690000) rfl
  have b32 : 0 ≤ r 32 ∧ r 32 ≤ 16000000 := hok.1 32 (0, 16000000) rfl
  have b33 : 1 ≤ r 33 ∧ r 33 ≤ 4611686018427387904 := hok.1 33 (1, 4611686018427387904) rfl
  have b34 : 1 ≤ r 34 ∧ r 34 ≤ 4611686018427387904 := hok.1 34 (1, 4611686018427387904) rfl
  have b35 : (-4611686018427387904) ≤ r 35 ∧ r 35 ≤ 4611686018427387904 := hok.1 35 ((-4611686018427387904), 4611686018427387904) rfl
  obtain ⟨hG, hgi⟩ := hG
  have hG : True := hG
  obtain ⟨h0, hh, e0, k0⟩ := hh
  have k0 : ∀ j, j ∉ [] → g j = h0 j := k0
  have e0 : ((1 * r 35 + 0) + 0) = ye_pt ((1 * r 30 + 0) + 0) ((1 * r 32 + (1 * r 31 + 0)) + 0) ((0 : Int) + 0) := e0
  obtain ⟨h1, hh, e1, k1⟩ := hh
  have k1 : ∀ j, j ∉ [] → h0 j = h1 j := k1
  have e1 : ((1 * r 34 + 0) + 0) = ((Nat.gcd (((1 * r 33 + 0) + 0)).natAbs (((1 * r 28 + (1 * r 29 + 0)) + 0)).natAbs : Nat) : Int) := e1
  obtain ⟨h2, hh, e2, k2⟩ := hh
  have k2 : ∀ j, j ∉ [] → h1 j = h2 j := k2
  have e2 : ((1 * r 33 + 0) + 0) = ((Nat.gcd (((2 * r 26 + 0) + 0)).natAbs (((2 * r 27 + 0) + 0)).natAbs : Nat) : Int) := e2
  obtain ⟨g3, hh, q3, e3⟩ := hh
  subst q3
  have e3 : r 32 = ((1 * r 27 + 0) + 0) * ((1 * r 27 + 0) + 0) := e3
  try simp only [Int.one_mul, Int.zero_add, Int.add_zero] at e3
  obtain ⟨g4, hh, q4, e4⟩ := hh
  subst q4
  have e4 : r 31 = ((1 * r 26 + 0) + 0) * ((1 * r 26 + 0) + 0) := e4
  try simp only [Int.one_mul, Int.zero_add, Int.add_zero] at e4
  obtain ⟨g5, hh, q5, e5⟩ := hh
  subst q5
  have e5 : r 30 = (((-1) * r 28 + (1 * r 29 + 0)) + 0) * (((-1) * r 28 + (1 * r 29 + 0)) + 0) := e5
  try simp only [Int.one_mul, Int.zero_add, Int.add_zero] at e5
  obtain ⟨h6, hh, e6, k6⟩ := hh
  have k6 : ∀ j, j ∉ [] → h2 j = h6 j := k6
  have e6 : (¬ (0 < yq_cnt (h6 3) 0 (((1 * ((1 * r 3 + 0) + 0) + 0) + 0)).toNat ∧ 0 < yq_cnt (h6 3) 1 (((1 * ((1 * r 3 + 0) + 0) + 0) + 0)).toNat) → ((0 : Int) + 1) = 0) ∧ ((0 < yq_cnt (h6 3) 0 (((1 * ((1 * r 3 + 0) + 0) + 0) + 0)).toNat ∧ 0 < yq_cnt (h6 3) 1 (((1 * ((1 * r 3 + 0) + 0) + 0) + 0)).toNat) → ye_nr (h6 1) (h6 2) (h6 3) (((1 * ((1 * r 3 + 0) + 0) + 0) + 0)).toNat → ye_J (h6 1) (h6 2) (h6 3) (((1 * ((1 * r 3 + 0) + 0) + 0) + 0)).toNat (((1 * ((1 * r 3 + 0) + 0) + 0) + 0)).toNat 0 (((0 : Int) + 1), ((1 * ((1 * r 26 + 0) + 0) + 0) + 0), ((1 * ((1 * r 27 + 0) + 0) + 0) + 0), ((1 * ((1 * r 29 + 0) + 0) + 0) + 0), ((1 * ((1 * r 28 + 0) + 0) + 0) + 0)) ∧ ye_tB (((0 : Int) + 1), ((1 * ((1 * r 26 + 0) + 0) + 0) + 0), ((1 * ((1 * r 27 + 0) + 0) + 0) + 0), ((1 * ((1 * r 29 + 0) + 0) + 0) + 0), ((1 * ((1 * r 28 + 0) + 0) + 0) + 0))) := e6
  obtain ⟨h7, hh, e7, k7⟩ := hh
  have k7 : ∀ j, j ∉ [] → h6 j = h7 j := k7
  have e7 : (((0 : Int) + 0) ≤ ((1 * r 0 + 0) + 0) ∧ ((1 * r 0 + 0) + 0) ≤ ((0 : Int) + 5)) := e7
  have hh : h7 = gi := hh
  subst hh
  refine yt_dalt (by decide) (by decide) ?_
  rw [show xk_1086.2.1.2.1.1.length = 26 from rfl]
  show (¬ (0 ≤ ((1 * r 0 + 0) + 0) ∧ ((1 * r 0 + 0) + 0) ≤ 5) → ((1 * r 35 + 0) + 0) = -1) ∧ ((0 ≤ ((1 * r 0 + 0) + 0) ∧ ((1 * r 0 + 0) + 0) ≤ 5) → ye_nr (g0 1) (g0 2) (g0 3) (((1 * ((1 * r 3 + 0) + 0) + 0) + 0)).toNat → ∃ m : ye_T, ye_way (g0 1) (g0 2) (g0 3) (((1 * ((1 * r 3 + 0) + 0) + 0) + 0)).toNat m ∧ ye_tb m ∧ ((1 * r 35 + 0) + 0) = ye_rw (g0 1) (g0 2) (((1 * ((1 * r 3 + 0) + 0) + 0) + 0)).toNat m ((1 * r 0 + 0) + 0))
  try simp only [Int.one_mul, Int.zero_add, Int.add_zero]
  try simp only [Int.one_mul, Int.zero_add, Int.add_zero] at e7
  try simp only [Int.one_mul, Int.zero_add, Int.add_zero] at e6
  rw [k7 1 (by decide), k7 2 (by decide), k7 3 (by decide), hgi] at e6
  try simp only [Int.one_mul, Int.zero_add, Int.add_zero] at e3
  try simp only [Int.one_mul, Int.zero_add, Int.add_zero] at e4
  try simp only [Int.one_mul, Int.zero_add, Int.add_zero] at e5
  try simp only [Int.one_mul, Int.zero_add, Int.add_zero] at e0
  rw [show -1 * r 28 + r 29 = r 29 - r 28 by omega] at e5
  have sqA : r 26 * r 26 = r 31 := e4.symm
  have sqB : r 27 * r 27 = r 32 := e3.symm
  have hl : r 26 * r 26 + r 27 * r 27 = r 32 + r 31 := by
    rw [sqA, sqB]
    omega
  rw [e5, ← hl] at e0
  refine ⟨fun q => absurd (by omega) q, fun _ hr => ⟨((1 : Int), r 26, r 27, r 29, r 28), (ye_mw hr e6.1 e6.2).1, (ye_mw hr e6.1 e6.2).2, ?_⟩⟩
  unfold ye_rw
  try dsimp only
  try rw [if_neg (show ¬ (1 : Int) = 0 by omega)]
  rw [show r 0 = 1 by omega, (ye_w0e (show r 26 * r 26 + r 27 * r 27 ≠ 0 by rw [hl]; omega)).2]
  exact e0
theorem xw_1086_0_16 : yt_hold xT_1086 xk_1086 xq_1086.2.2.1 xG_1086 xP_1086 xU_1086 26 xk_1086.2.1.2.2.2 (fun g0 r g => xR_1086 r g0 ∧ g = g0) (1000, ([(2, 2), ((-2147483648), 2147483647), ((-2147483648), 2147483647), (1, 40), ((-2147483648), 2147483647), (0, 4), ((-9223372036854775808), 9223372036854775807), ((-9223372036854775808), 9223372036854775807), ((-9223372036854775808), 9223372036854775807), (0, 1), ((-4000), 4000), ((-4000), 4000), ((-8000000), 8000000), ((-8000000), 8000000), (0, 12), ((-9223372036854775808), 9223372036854775807), ((-9223372036854775808), 9223372036854775807), ((-9223372036854775808), 9223372036854775807), ((-9223372036854775808), 9223372036854775807), ((-9223372036854775808), 9223372036854775807), (0, 12), ((-2147483648), 2147483647), (0, 12), ((-2147483648), 2147483647), (0, 40), (0, 40), ((-1300), (-1)), ((-1300), 4000), ((-8000000), 5200000), ((-8000000), 8000000), (0, 256000000000000), (1, 1690000), (0, 16000000), (1, 4611686018427387904), (1, 4611686018427387904), ((-2600), 0)], [([(26, (-2)), (35, 1)], 0), ([(26, (-2))], (-1))]), [([(35, 1)], 0), ([], 1), ([(26, 1)], 0), ([(27, 1)], 0), ([(28, 1)], 0), ([(29, 1)], 0)], [], [.inr (.inr (.inl (998, 1, [([(26, 2)], 0), ([(34, 1)], 0), ([(35, 1)], 0)], [], []))), .inr (.inr (.inl (320, 0, [([(33, 1)], 0), ([(28, 1), (29, 1)], 0), ([(34, 1)], 0)], [], []))), .inr (.inr (.inl (321, 0, [([(26, 2)], 0), ([(27, 2)], 0), ([(33, 1)], 0)], [], []))), .inl (.inr (32, ([(27, 1)], 0), ([(27, 1)], 0))), .inl (.inr (31, ([(26, 1)], 0), ([(26, 1)], 0))), .inl (.inr (30, ([(28, (-1)), (29, 1)], 0), ([(28, (-1)), (29, 1)], 0))), .inr (.inr (.inl (331, 1, [([], 0), ([(2, 1)], 0), ([(3, 1)], 0), ([(4, 1)], 0), ([(5, 1)], 0), ([(6, 1)], 0), ([(7, 1)], 0), ([(8, 1)], 0), ([(9, 1)], 0), ([(10, 1)], 0), ([(11, 1)], 0), ([(12, 1)], 0), ([(13, 1)], 0), ([(14, 1)], 0), ([(15, 1)], 0), ([(16, 1)], 0), ([(17, 1)], 0), ([(18, 1)], 0), ([(19, 1)], 0), ([(20, 1)], 0), ([(21, 1)], 0), ([(22, 1)], 0), ([(23, 1)], 0), ([(24, 1)], 0), ([(25, 1)], 0), ([(26, 1)], 0), ([(27, 1)], 0), ([(28, 1)], 0), ([(29, 1)], 0)], [0, 1, 2, 3, 4, 5, 6, 7, 8, 9, 10, 11, 12, 13, 14, 15, 16, 17, 18, 19, 20, 21, 22, 23, 24, 25, 26, 27, 28, 29, 30, 31, 32, 33, 34, 35, 36], []))), .inr (.inr (.inl (258, 1, [([(0, 1)], 0), ([], 0), ([], 5)], [], [])))]) := by
  intro g0 r gi g hok hh hars hfr hG
  have b0 : 2 ≤ r 0 ∧ r 0 ≤ 2 := hok.1 0 (2, 2) rfl
  have b3 : 1 ≤ r 3 ∧ r 3 ≤ 40 := hok.1 3 (1, 40) rfl
  have b26 : (-1300) ≤ r 26 ∧ r 26 ≤ (-1) := hok.1 26 ((-1300), (-1)) rfl
  have b27 : (-1300) ≤ r 27 ∧ r 27 ≤ 4000 := hok.1 27 ((-1300), 4000) rfl
  have b28 : (-8000000) ≤ r 28 ∧ r 28 ≤ 5200000 := hok.1 28 ((-8000000), 5200000) rfl
  have b29 : (-8000000) ≤ r 29 ∧ r 29 ≤ 8000000 := hok.1 29 ((-8000000), 8000000) rfl
  have b30 : 0 ≤ r 30 ∧ r 30 ≤ 256000000000000 := hok.1 30 (0, 256000000000000) rfl
  have b31 : 1 ≤ r 31 ∧ r 31 ≤ 1690000 := hok.1 31 (1, 1690000) rfl
  have b32 : 0 ≤ r 32 ∧ r 32 ≤ 16000000 := hok.1 32 (0, 16000000) rfl
  have b33 : 1 ≤ r 33 ∧ r 33 ≤ 4611686018427387904 := hok.1 33 (1, 4611686018427387904) rfl
  have b34 : 1 ≤ r 34 ∧ r 34 ≤ 4611686018427387904 := hok.1 34 (1, 4611686018427387904) rfl
  have b35 : (-2600) ≤ r 35 ∧ r 35 ≤ 0 := hok.1 35 ((-2600), 0) rfl
  have f0 : 0 ≤ (((-2) * r 26 + (1 * r 35 + 0)) + 0) := hok.2 _ (List.mem_of_getElem? (i := 0) rfl)
  have f1 : 0 ≤ (((-2) * r 26 + 0) + (-1)) := hok.2 _ (List.mem_of_getElem? (i := 1) rfl)
  obtain ⟨hG, hgi⟩ := hG
  have hG : True := hG
  obtain ⟨h0, hh, e0, k0⟩ := hh
  have k0 : ∀ j, j ∉ [] → g j = h0 j := k0
  have e0 : ((1 * r 35 + 0) + 0) = (((2 * r 26 + 0) + 0)).tdiv (((1 * r 34 + 0) + 0)) := e0
  obtain ⟨h1, hh, e1, k1⟩ := hh
  have k1 : ∀ j, j ∉ [] → h0 j = h1 j := k1
  have e1 : ((1 * r 34 + 0) + 0) = ((Nat.gcd (((1 * r 33 + 0) + 0)).natAbs (((1 * r 28 + (1 * r 29 + 0)) + 0)).natAbs : Nat) : Int) := e1
  obtain ⟨h2, hh, e2, k2⟩ := hh
  have k2 : ∀ j, j ∉ [] → h1 j = h2 j := k2
  have e2 : ((1 * r 33 + 0) + 0) = ((Nat.gcd (((2 * r 26 + 0) + 0)).natAbs (((2 * r 27 + 0) + 0)).natAbs : Nat) : Int) := e2
  obtain ⟨g3, hh, q3, e3⟩ := hh
  subst q3
  have e3 : r 32 = ((1 * r 27 + 0) + 0) * ((1 * r 27 + 0) + 0) := e3
  try simp only [Int.one_mul, Int.zero_add, Int.add_zero] at e3
  obtain ⟨g4, hh, q4, e4⟩ := hh
  subst q4
  have e4 : r 31 = ((1 * r 26 + 0) + 0) * ((1 * r 26 + 0) + 0) := e4
  try simp only [Int.one_mul, Int.zero_add, Int.add_zero] at e4
  obtain ⟨g5, hh, q5, e5⟩ := hh
  subst q5
  have e5 : r 30 = (((-1) * r 28 + (1 * r 29 + 0)) + 0) * (((-1) * r 28 + (1 * r 29 + 0)) + 0) := e5
  try simp only [Int.one_mul, Int.zero_add, Int.add_zero] at e5
  obtain ⟨h6, hh, e6, k6⟩ := hh
  have k6 : ∀ j, j ∉ [] → h2 j = h6 j := k6
  have e6 : (¬ (0 < yq_cnt (h6 3) 0 (((1 * ((1 * r 3 + 0) + 0) + 0) + 0)).toNat ∧ 0 < yq_cnt (h6 3) 1 (((1 * ((1 * r 3 + 0) + 0) + 0) + 0)).toNat) → ((0 : Int) + 1) = 0) ∧ ((0 < yq_cnt (h6 3) 0 (((1 * ((1 * r 3 + 0) + 0) + 0) + 0)).toNat ∧ 0 < yq_cnt (h6 3) 1 (((1 * ((1 * r 3 + 0) + 0) + 0) + 0)).toNat) → ye_nr (h6 1) (h6 2) (h6 3) (((1 * ((1 * r 3 + 0) + 0) + 0) + 0)).toNat → ye_J (h6 1) (h6 2) (h6 3) (((1 * ((1 * r 3 + 0) + 0) + 0) + 0)).toNat (((1 * ((1 * r 3 + 0) + 0) + 0) + 0)).toNat 0 (((0 : Int) + 1), ((1 * ((1 * r 26 + 0) + 0) + 0) + 0), ((1 * ((1 * r 27 + 0) + 0) + 0) + 0), ((1 * ((1 * r 29 + 0) + 0) + 0) + 0), ((1 * ((1 * r 28 + 0) + 0) + 0) + 0)) ∧ ye_tB (((0 : Int) + 1), ((1 * ((1 * r 26 + 0) + 0) + 0) + 0), ((1 * ((1 * r 27 + 0) + 0) + 0) + 0), ((1 * ((1 * r 29 + 0) + 0) + 0) + 0), ((1 * ((1 * r 28 + 0) + 0) + 0) + 0))) := e6
  obtain ⟨h7, hh, e7, k7⟩ := hh
  have k7 : ∀ j, j ∉ [] → h6 j = h7 j := k7
  have e7 : (((0 : Int) + 0) ≤ ((1 * r 0 + 0) + 0) ∧ ((1 * r 0 + 0) + 0) ≤ ((0 : Int) + 5)) := e7
  have hh : h7 = gi := hh
  subst hh
  refine yt_dalt (by decide) (by decide) ?_
  rw [show xk_1086.2.1.2.1.1.length = 26 from rfl]
  show (¬ (0 ≤ ((1 * r 0 + 0) + 0) ∧ ((1 * r 0 + 0) + 0) ≤ 5) → ((1 * r 35 + 0) + 0) = -1) ∧ ((0 ≤ ((1 * r 0 + 0) + 0) ∧ ((1 * r 0 + 0) + 0) ≤ 5) → ye_nr (g0 1) (g0 2) (g0 3) (((1 * ((1 * r 3 + 0) + 0) + 0) + 0)).toNat → ∃ m : ye_T, ye_way (g0 1) (g0 2) (g0 3) (((1 * ((1 * r 3 + 0) + 0) + 0) + 0)).toNat m ∧ ye_tb m ∧ ((1 * r 35 + 0) + 0) = ye_rw (g0 1) (g0 2) (((1 * ((1 * r 3 + 0) + 0) + 0) + 0)).toNat m ((1 * r 0 + 0) + 0))
  try simp only [Int.one_mul, Int.zero_add, Int.add_zero]
  try simp only [Int.one_mul, Int.zero_add, Int.add_zero] at e7
  try simp only [Int.one_mul, Int.zero_add, Int.add_zero] at e6
  rw [k7 1 (by decide), k7 2 (by decide), k7 3 (by decide), hgi] at e6
  try simp only [Int.one_mul, Int.zero_add, Int.add_zero] at e3
  try simp only [Int.one_mul, Int.zero_add, Int.add_zero] at e4
  try simp only [Int.one_mul, Int.zero_add, Int.add_zero] at e5
  try simp only [Int.one_mul, Int.zero_add, Int.add_zero] at e1
  try simp only [Int.one_mul, Int.zero_add, Int.add_zero] at e2
  try simp only [Int.one_mul, Int.zero_add, Int.add_zero] at e0
  rw [show r 28 + r 29 = r 29 + r 28 by omega] at e1
  refine ⟨fun q => absurd (by omega) q, fun _ hr => ⟨((1 : Int), r 26, r 27, r 29, r 28), (ye_mw hr e6.1 e6.2).1, (ye_mw hr e6.1 e6.2).2, ?_⟩⟩
  unfold ye_rw
  try dsimp only
  try rw [if_neg (show ¬ (1 : Int) = 0 by omega)]
  rw [show r 0 = 2 by omega]
  unfold ye_wd
  rw [if_neg (by decide), if_neg (by decide), if_pos rfl]
  rw [ye_w2e (show r 26 ≠ 0 ∨ r 27 ≠ 0 by omega) e2 e1]
  exact e0
theorem xw_1086_0_17 : yt_hold xT_1086 xk_1086 xq_1086.2.2.1 xG_1086 xP_1086 xU_1086 26 xk_1086.2.1.2.2.2 (fun g0 r g => xR_1086 r g0 ∧ g = g0) (1000, ([(3, 3), ((-2147483648), 2147483647), ((-2147483648), 2147483647), (1, 40), ((-2147483648), 2147483647), (0, 4), ((-9223372036854775808), 9223372036854775807), ((-9223372036854775808), 9223372036854775807), ((-9223372036854775808), 9223372036854775807), (0, 1), ((-4000), 4000), ((-4000), 4000), ((-8000000), 8000000), ((-8000000), 8000000), (0, 12), ((-9223372036854775808), 9223372036854775807), ((-9223372036854775808), 9223372036854775807), ((-9223372036854775808), 9223372036854775807), ((-9223372036854775808), 9223372036854775807), ((-9223372036854775808), 9223372036854775807), (0, 12), ((-2147483648), 2147483647), (0, 12), ((-2147483648), 2147483647), (0, 40), (0, 40), ((-1300), (-1)), ((-1300), 4000), ((-8000000), 5200000), ((-8000000), 8000000), (0, 256000000000000), (1, 1690000), (0, 16000000), (1, 4611686018427387904), (1, 4611686018427387904), (0, 0)], [([(34, 1), (27, (-2))], (-1)), ([(27, 2)], 0)]), [([], 0), ([], 1), ([(26, 1)], 0), ([(27, 1)], 0), ([(28, 1)], 0), ([(29, 1)], 0)], [], [.inr (.inr (.inl (998, 1, [([(27, 2)], 0), ([(34, 1)], 0), ([], 0)], [], []))), .inr (.inr (.inl (320, 0, [([(33, 1)], 0), ([(28, 1), (29, 1)], 0), ([(34, 1)], 0)], [], []))), .inr (.inr (.inl (321, 0, [([(26, 2)], 0), ([(27, 2)], 0), ([(33, 1)], 0)], [], []))), .inl (.inr (32, ([(27, 1)], 0), ([(27, 1)], 0))), .inl (.inr (31, ([(26, 1)], 0), ([(26, 1)], 0))), .inl (.inr (30, ([(28, (-1)), (29, 1)], 0), ([(28, (-1)), (29, 1)], 0))), .inr (.inr (.inl (331, 1, [([], 0), ([(2, 1)], 0), ([(3, 1)], 0), ([(4, 1)], 0), ([(5, 1)], 0), ([(6, 1)], 0), ([(7, 1)], 0), ([(8, 1)], 0), ([(9, 1)], 0), ([(10, 1)], 0), ([(11, 1)], 0), ([(12, 1)], 0), ([(13, 1)], 0), ([(14, 1)], 0), ([(15, 1)], 0), ([(16, 1)], 0), ([(17, 1)], 0), ([(18, 1)], 0), ([(19, 1)], 0), ([(20, 1)], 0), ([(21, 1)], 0), ([(22, 1)], 0), ([(23, 1)], 0), ([(24, 1)], 0), ([(25, 1)], 0), ([(26, 1)], 0), ([(27, 1)], 0), ([(28, 1)], 0), ([(29, 1)], 0)], [0, 1, 2, 3, 4, 5, 6, 7, 8, 9, 10, 11, 12, 13, 14, 15, 16, 17, 18, 19, 20, 21, 22, 23, 24, 25, 26, 27, 28, 29, 30, 31, 32, 33, 34, 35, 36], []))), .inr (.inr (.inl (258, 1, [([(0, 1)], 0), ([], 0), ([], 5)], [], [])))]) := by
  intro g0 r gi g hok hh hars hfr hG
  have b0 : 3 ≤ r 0 ∧ r 0 ≤ 3 := hok.1 0 (3, 3) rfl
  have b3 : 1 ≤ r 3 ∧ r 3 ≤ 40 := hok.1 3 (1, 40) rfl
  have b26 : (-1300) ≤ r 26 ∧ r 26 ≤ (-1) := hok.1 26 ((-1300), (-1)) rfl
  have b27 : (-1300) ≤ r 27 ∧ r 27 ≤ 4000 := hok.1 27 ((-1300), 4000) rfl
  have b28 : (-8000000) ≤ r 28 ∧ r 28 ≤ 5200000 := hok.1 28 ((-8000000), 5200000) rfl
  have b29 : (-8000000) ≤ r 29 ∧ r 29 ≤ 8000000 := hok.1 29 ((-8000000), 8000000) rfl
  have b30 : 0 ≤ r 30 ∧ r 30 ≤ 256000000000000 := hok.1 30 (0, 256000000000000) rfl
  have b31 : 1 ≤ r 31 ∧ r 31 ≤ 1690000 := hok.1 31 (1, 1690000) rfl
  have b32 : 0 ≤ r 32 ∧ r 32 ≤ 16000000 := hok.1 32 (0, 16000000) rfl
  have b33 : 1 ≤ r 33 ∧ r 33 ≤ 4611686018427387904 := hok.1 33 (1, 4611686018427387904) rfl
  have b34 : 1 ≤ r 34 ∧ r 34 ≤ 4611686018427387904 := hok.1 34 (1, 4611686018427387904) rfl
  have b35 : 0 ≤ r 35 ∧ r 35 ≤ 0 := hok.1 35 (0, 0) rfl
  have f0 : 0 ≤ ((1 * r 34 + ((-2) * r 27 + 0)) + (-1)) := hok.2 _ (List.mem_of_getElem? (i := 0) rfl)
  have f1 : 0 ≤ ((2 * r 27 + 0) + 0) := hok.2 _ (List.mem_of_getElem? (i := 1) rfl)
  obtain ⟨hG, hgi⟩ := hG
  have hG : True := hG
  obtain ⟨h0, hh, e0, k0⟩ := hh
  have k0 : ∀ j, j ∉ [] → g j = h0 j := k0
  have e0 : ((0 : Int) + 0) = (((2 * r 27 + 0) + 0)).tdiv (((1 * r 34 + 0) + 0)) := e0
  obtain ⟨h1, hh, e1, k1⟩ := hh
  have k1 : ∀ j, j ∉ [] → h0 j = h1 j := k1
  have e1 : ((1 * r 34 + 0) + 0) = ((Nat.gcd (((1 * r 33 + 0) + 0)).natAbs (((1 * r 28 + (1 * r 29 + 0)) + 0)).natAbs : Nat) : Int) := e1
  obtain ⟨h2, hh, e2, k2⟩ := hh
  have k2 : ∀ j, j ∉ [] → h1 j = h2 j := k2
  have e2 : ((1 * r 33 + 0) + 0) = ((Nat.gcd (((2 * r 26 + 0) + 0)).natAbs (((2 * r 27 + 0) + 0)).natAbs : Nat) : Int) := e2
  obtain ⟨g3, hh, q3, e3⟩ := hh
  subst q3
  have e3 : r 32 = ((1 * r 27 + 0) + 0) * ((1 * r 27 + 0) + 0) := e3
  try simp only [Int.one_mul, Int.zero_add, Int.add_zero] at e3
  obtain ⟨g4, hh, q4, e4⟩ := hh
  subst q4
  have e4 : r 31 = ((1 * r 26 + 0) + 0) * ((1 * r 26 + 0) + 0) := e4
  try simp only [Int.one_mul, Int.zero_add, Int.add_zero] at e4
  obtain ⟨g5, hh, q5, e5⟩ := hh
  subst q5
  have e5 : r 30 = (((-1) * r 28 + (1 * r 29 + 0)) + 0) * (((-1) * r 28 + (1 * r 29 + 0)) + 0) := e5
  try simp only [Int.one_mul, Int.zero_add, Int.add_zero] at e5
  obtain ⟨h6, hh, e6, k6⟩ := hh
  have k6 : ∀ j, j ∉ [] → h2 j = h6 j := k6
  have e6 : (¬ (0 < yq_cnt (h6 3) 0 (((1 * ((1 * r 3 + 0) + 0) + 0) + 0)).toNat ∧ 0 < yq_cnt (h6 3) 1 (((1 * ((1 * r 3 + 0) + 0) + 0) + 0)).toNat) → ((0 : Int) + 1) = 0) ∧ ((0 < yq_cnt (h6 3) 0 (((1 * ((1 * r 3 + 0) + 0) + 0) + 0)).toNat ∧ 0 < yq_cnt (h6 3) 1 (((1 * ((1 * r 3 + 0) + 0) + 0) + 0)).toNat) → ye_nr (h6 1) (h6 2) (h6 3) (((1 * ((1 * r 3 + 0) + 0) + 0) + 0)).toNat → ye_J (h6 1) (h6 2) (h6 3) (((1 * ((1 * r 3 + 0) + 0) + 0) + 0)).toNat (((1 * ((1 * r 3 + 0) + 0) + 0) + 0)).toNat 0 (((0 : Int) + 1), ((1 * ((1 * r 26 + 0) + 0) + 0) + 0), ((1 * ((1 * r 27 + 0) + 0) + 0) + 0), ((1 * ((1 * r 29 + 0) + 0) + 0) + 0), ((1 * ((1 * r 28 + 0) + 0) + 0) + 0)) ∧ ye_tB (((0 : Int) + 1), ((1 * ((1 * r 26 + 0) + 0) + 0) + 0), ((1 * ((1 * r 27 + 0) + 0) + 0) + 0), ((1 * ((1 * r 29 + 0) + 0) + 0) + 0), ((1 * ((1 * r 28 + 0) + 0) + 0) + 0))) := e6
  obtain ⟨h7, hh, e7, k7⟩ := hh
  have k7 : ∀ j, j ∉ [] → h6 j = h7 j := k7
  have e7 : (((0 : Int) + 0) ≤ ((1 * r 0 + 0) + 0) ∧ ((1 * r 0 + 0) + 0) ≤ ((0 : Int) + 5)) := e7
  have hh : h7 = gi := hh
  subst hh
  refine yt_dalt (by decide) (by decide) ?_
  rw [show xk_1086.2.1.2.1.1.length = 26 from rfl]
  show (¬ (0 ≤ ((1 * r 0 + 0) + 0) ∧ ((1 * r 0 + 0) + 0) ≤ 5) → ((0 : Int) + 0) = -1) ∧ ((0 ≤ ((1 * r 0 + 0) + 0) ∧ ((1 * r 0 + 0) + 0) ≤ 5) → ye_nr (g0 1) (g0 2) (g0 3) (((1 * ((1 * r 3 + 0) + 0) + 0) + 0)).toNat → ∃ m : ye_T, ye_way (g0 1) (g0 2) (g0 3) (((1 * ((1 * r 3 + 0) + 0) + 0) + 0)).toNat m ∧ ye_tb m ∧ ((0 : Int) + 0) = ye_rw (g0 1) (g0 2) (((1 * ((1 * r 3 + 0) + 0) + 0) + 0)).toNat m ((1 * r 0 + 0) + 0))
  try simp only [Int.one_mul, Int.zero_add, Int.add_zero]
  try simp only [Int.one_mul, Int.zero_add, Int.add_zero] at e7
  try simp only [Int.one_mul, Int.zero_add, Int.add_zero] at e6
  rw [k7 1 (by decide), k7 2 (by decide), k7 3 (by decide), hgi] at e6
  try simp only [Int.one_mul, Int.zero_add, Int.add_zero] at e3
  try simp only [Int.one_mul, Int.zero_add, Int.add_zero] at e4
  try simp only [Int.one_mul, Int.zero_add, Int.add_zero] at e5
  try simp only [Int.one_mul, Int.zero_add, Int.add_zero] at e1
  try simp only [Int.one_mul, Int.zero_add, Int.add_zero] at e2
  try simp only [Int.one_mul, Int.zero_add, Int.add_zero] at e0
  rw [show r 28 + r 29 = r 29 + r 28 by omega] at e1
  refine ⟨fun q => absurd (by omega) q, fun _ hr => ⟨((1 : Int), r 26, r 27, r 29, r 28), (ye_mw hr e6.1 e6.2).1, (ye_mw hr e6.1 e6.2).2, ?_⟩⟩
  unfold ye_rw
  try dsimp only
  try rw [if_neg (show ¬ (1 : Int) = 0 by omega)]
  rw [show r 0 = 3 by omega]
  unfold ye_wd
  rw [if_neg (by decide), if_neg (by decide), if_neg (by decide), if_pos rfl]
  rw [ye_w2e (show r 26 ≠ 0 ∨ r 27 ≠ 0 by omega) e2 e1]
  exact e0
theorem xw_1086_0_18 : yt_hold xT_1086 xk_1086 xq_1086.2.2.1 xG_1086 xP_1086 xU_1086 26 xk_1086.2.1.2.2.2 (fun g0 r g => xR_1086 r g0 ∧ g = g0) (1000, ([(3, 3), ((-2147483648), 2147483647), ((-2147483648), 2147483647), (1, 40), ((-2147483648), 2147483647), (0, 4), ((-9223372036854775808), 9223372036854775807), ((-9223372036854775808), 9223372036854775807), ((-9223372036854775808), 9223372036854775807), (0, 1), ((-4000), 4000), ((-4000), 4000), ((-8000000), 8000000), ((-8000000), 8000000), (0, 12), ((-9223372036854775808), 9223372036854775807), ((-9223372036854775808), 9223372036854775807), ((-9223372036854775808), 9223372036854775807), ((-9223372036854775808), 9223372036854775807), ((-9223372036854775808), 9223372036854775807), (0, 12), ((-2147483648), 2147483647), (0, 12), ((-2147483648), 2147483647), (0, 40), (0, 40), ((-1300), (-1)), ((-1300), 4000), ((-8000000), 5200000), ((-8000000), 8000000), (0, 256000000000000), (1, 1690000), (0, 16000000), (1, 4611686018427387904), (1, 8000), (1, 8000)], [([(35, (-1)), (27, 2)], 0), ([(34, (-1)), (27, 2)], 0)]), [([(35, 1)], 0), ([], 1), ([(26, 1)], 0), ([(27, 1)], 0), ([(28, 1)], 0), ([(29, 1)], 0)], [], [.inr (.inr (.inl (998, 1, [([(27, 2)], 0), ([(34, 1)], 0), ([(35, 1)], 0)], [], []))), .inr (.inr (.inl (320, 0, [([(33, 1)], 0), ([(28, 1), (29, 1)], 0), ([(34, 1)], 0)], [], []))), .inr (.inr (.inl (321, 0, [([(26, 2)], 0), ([(27, 2)], 0), ([(33, 1)], 0)], [], []))), .inl (.inr (32, ([(27, 1)], 0), ([(27, 1)], 0))), .inl (.inr (31, ([(26, 1)], 0), ([(26, 1)], 0))), .inl (.inr (30, ([(28, (-1)), (29, 1)], 0), ([(28, (-1)), (29, 1)], 0))), .inr (.inr (.inl (331, 1, [([], 0), ([(2, 1)], 0), ([(3, 1)], 0), ([(4, 1)], 0), ([(5, 1)], 0), ([(6, 1)], 0), ([(7, 1)], 0), ([(8, 1)], 0), ([(9, 1)], 0), ([(10, 1)], 0), ([(11, 1)], 0), ([(12, 1)], 0), ([(13, 1)], 0), ([(14, 1)], 0), ([(15, 1)], 0), ([(16, 1)], 0), ([(17, 1)], 0), ([(18, 1)], 0), ([(19, 1)], 0), ([(20, 1)], 0), ([(21, 1)], 0), ([(22, 1)], 0), ([(23, 1)], 0), ([(24, 1)], 0), ([(25, 1)], 0), ([(26, 1)], 0), ([(27, 1)], 0), ([(28, 1)], 0), ([(29, 1)], 0)], [0, 1, 2, 3, 4, 5, 6, 7, 8, 9, 10, 11, 12, 13, 14, 15, 16, 17, 18, 19, 20, 21, 22, 23, 24, 25, 26, 27, 28, 29, 30, 31, 32, 33, 34, 35, 36], []))), .inr (.inr (.inl (258, 1, [([(0, 1)], 0), ([], 0), ([], 5)], [], [])))]) := by
  intro g0 r gi g hok hh hars hfr hG
  have b0 : 3 ≤ r 0 ∧ r 0 ≤ 3 := hok.1 0 (3, 3) rfl
  have b3 : 1 ≤ r 3 ∧ r 3 ≤ 40 := hok.1 3 (1, 40) rfl
  have b26 : (-1300) ≤ r 26 ∧ r 26 ≤ (-1) := hok.1 26 ((-1300), (-1)) rfl
  have b27 : (-1300) ≤ r 27 ∧ r 27 ≤ 4000 := hok.1 27 ((-1300), 4000) rfl
  have b28 : (-8000000) ≤ r 28 ∧ r 28 ≤ 5200000 := hok.1 28 ((-8000000), 5200000) rfl
  have b29 : (-8000000) ≤ r 29 ∧ r 29 ≤ 8000000 := hok.1 29 ((-8000000), 8000000) rfl
  have b30 : 0 ≤ r 30 ∧ r 30 ≤ 256000000000000 := hok.1 30 (0, 256000000000000) rfl
  have b31 : 1 ≤ r 31 ∧ r 31 ≤ 1690000 := hok.1 31 (1, 1690000) rfl
  have b32 : 0 ≤ r 32 ∧ r 32 ≤ 16000000 := hok.1 32 (0, 16000000) rfl
  have b33 : 1 ≤ r 33 ∧ r 33 ≤ 4611686018427387904 := hok.1 33 (1, 4611686018427387904) rfl
  have b34 : 1 ≤ r 34 ∧ r 34 ≤ 8000 := hok.1 34 (1, 8000) rfl
  have b35 : 1 ≤ r 35 ∧ r 35 ≤ 8000 := hok.1 35 (1, 8000) rfl
  have f0 : 0 ≤ (((-1) * r 35 + (2 * r 27 + 0)) + 0) := hok.2 _ (List.mem_of_getElem? (i := 0) rfl)
  have f1 : 0 ≤ (((-1) * r 34 + (2 * r 27 + 0)) + 0) := hok.2 _ (List.mem_of_getElem? (i := 1) rfl)
  obtain ⟨hG, hgi⟩ := hG
  have hG : True := hG
  obtain ⟨h0, hh, e0, k0⟩ := hh
  have k0 : ∀ j, j ∉ [] → g j = h0 j := k0
  have e0 : ((1 * r 35 + 0) + 0) = (((2 * r 27 + 0) + 0)).tdiv (((1 * r 34 + 0) + 0)) := e0
  obtain ⟨h1, hh, e1, k1⟩ := hh
  have k1 : ∀ j, j ∉ [] → h0 j = h1 j := k1
  have e1 : ((1 * r 34 + 0) + 0) = ((Nat.gcd (((1 * r 33 + 0) + 0)).natAbs (((1 * r 28 + (1 * r 29 + 0)) + 0)).natAbs : Nat) : Int) := e1
  obtain ⟨h2, hh, e2, k2⟩ := hh
  have k2 : ∀ j, j ∉ [] → h1 j = h2 j := k2
  have e2 : ((1 * r 33 + 0) + 0) = ((Nat.gcd (((2 * r 26 + 0) + 0)).natAbs (((2 * r 27 + 0) + 0)).natAbs : Nat) : Int) := e2
  obtain ⟨g3, hh, q3, e3⟩ := hh
  subst q3
  have e3 : r 32 = ((1 * r 27 + 0) + 0) * ((1 * r 27 + 0) + 0) := e3
  try simp only [Int.one_mul, Int.zero_add, Int.add_zero] at e3
  obtain ⟨g4, hh, q4, e4⟩ := hh
  subst q4
  have e4 : r 31 = ((1 * r 26 + 0) + 0) * ((1 * r 26 + 0) + 0) := e4
  try simp only [Int.one_mul, Int.zero_add, Int.add_zero] at e4
  obtain ⟨g5, hh, q5, e5⟩ := hh
  subst q5
  have e5 : r 30 = (((-1) * r 28 + (1 * r 29 + 0)) + 0) * (((-1) * r 28 + (1 * r 29 + 0)) + 0) := e5
  try simp only [Int.one_mul, Int.zero_add, Int.add_zero] at e5
  obtain ⟨h6, hh, e6, k6⟩ := hh
  have k6 : ∀ j, j ∉ [] → h2 j = h6 j := k6
  have e6 : (¬ (0 < yq_cnt (h6 3) 0 (((1 * ((1 * r 3 + 0) + 0) + 0) + 0)).toNat ∧ 0 < yq_cnt (h6 3) 1 (((1 * ((1 * r 3 + 0) + 0) + 0) + 0)).toNat) → ((0 : Int) + 1) = 0) ∧ ((0 < yq_cnt (h6 3) 0 (((1 * ((1 * r 3 + 0) + 0) + 0) + 0)).toNat ∧ 0 < yq_cnt (h6 3) 1 (((1 * ((1 * r 3 + 0) + 0) + 0) + 0)).toNat) → ye_nr (h6 1) (h6 2) (h6 3) (((1 * ((1 * r 3 + 0) + 0) + 0) + 0)).toNat → ye_J (h6 1) (h6 2) (h6 3) (((1 * ((1 * r 3 + 0) + 0) + 0) + 0)).toNat (((1 * ((1 * r 3 + 0) + 0) + 0) + 0)).toNat 0 (((0 : Int) + 1), ((1 * ((1 * r 26 + 0) + 0) + 0) + 0), ((1 * ((1 * r 27 + 0) + 0) + 0) + 0), ((1 * ((1 * r 29 + 0) + 0) + 0) + 0), ((1 * ((1 * r 28 + 0) + 0) + 0) + 0)) ∧ ye_tB (((0 : Int) + 1), ((1 * ((1 * r 26 + 0) + 0) + 0) + 0), ((1 * ((1 * r 27 + 0) + 0) + 0) + 0), ((1 * ((1 * r 29 + 0) + 0) + 0) + 0), ((1 * ((1 * r 28 + 0) + 0) + 0) + 0))) := e6
  obtain ⟨h7, hh, e7, k7⟩ := hh
  have k7 : ∀ j, j ∉ [] → h6 j = h7 j := k7
  have e7 : (((0 : Int) + 0) ≤ ((1 * r 0 + 0) + 0) ∧ ((1 * r 0 + 0) + 0) ≤ ((0 : Int) + 5)) := e7
  have hh : h7 = gi := hh
  subst hh
  refine yt_dalt (by decide) (by decide) ?_
  rw [show xk_1086.2.1.2.1.1.length = 26 from rfl]
  show (¬ (0 ≤ ((1 * r 0 + 0) + 0) ∧ ((1 * r 0 + 0) + 0) ≤ 5) → ((1 * r 35 + 0) + 0) = -1) ∧ ((0 ≤ ((1 * r 0 + 0) + 0) ∧ ((1 * r 0 + 0) + 0) ≤ 5) → ye_nr (g0 1) (g0 2) (g0 3) (((1 * ((1 * r 3 + 0) + 0) + 0) + 0)).toNat → ∃ m : ye_T, ye_way (g0 1) (g0 2) (g0 3) (((1 * ((1 * r 3 + 0) + 0) + 0) + 0)).toNat m ∧ ye_tb m ∧ ((1 * r 35 + 0) + 0) = ye_rw (g0 1) (g0 2) (((1 * ((1 * r 3 + 0) + 0) + 0) + 0)).toNat m ((1 * r 0 + 0) + 0))
  try simp only [Int.one_mul, Int.zero_add, Int.add_zero]
  try simp only [Int.one_mul, Int.zero_add, Int.add_zero] at e7
  try simp only [Int.one_mul, Int.zero_add, Int.add_zero] at e6
  rw [k7 1 (by decide), k7 2 (by decide), k7 3 (by decide), hgi] at e6
  try simp only [Int.one_mul, Int.zero_add, Int.add_zero] at e3
  try simp only [Int.one_mul, Int.zero_add, Int.add_zero] at e4
  try simp only [Int.one_mul, Int.zero_add, Int.add_zero] at e5
  try simp only [Int.one_mul, Int.zero_add, Int.add_zero] at e1
  try simp only [Int.one_mul, Int.zero_add, Int.add_zero] at e2
  try simp only [Int.one_mul, Int.zero_add, Int.add_zero] at e0
  rw [show r 28 + r 29 = r 29 + r 28 by omega] at e1
  refine ⟨fun q => absurd (by omega) q, fun _ hr => ⟨((1 : Int), r 26, r 27, r 29, r 28), (ye_mw hr e6.1 e6.2).1, (ye_mw hr e6.1 e6.2).2, ?_⟩⟩
  unfold ye_rw
  try dsimp only
  try rw [if_neg (show ¬ (1 : Int) = 0 by omega)]
  rw [show r 0 = 3 by omega]
  unfold ye_wd
  rw [if_neg (by decide), if_neg (by decide), if_neg (by decide), if_pos rfl]
  rw [ye_w2e (show r 26 ≠ 0 ∨ r 27 ≠ 0 by omega) e2 e1]
  exact e0
theorem xw_1086_0_19 : yt_hold xT_1086 xk_1086 xq_1086.2.2.1 xG_1086 xP_1086 xU_1086 26 xk_1086.2.1.2.2.2 (fun g0 r g => xR_1086 r g0 ∧ g = g0) (1000, ([(3, 3), ((-2147483648), 2147483647), ((-2147483648), 2147483647), (1, 40), ((-2147483648), 2147483647), (0, 4), ((-9223372036854775808), 9223372036854775807), ((-9223372036854775808), 9223372036854775807), ((-9223372036854775808), 9223372036854775807), (0, 1), ((-4000), 4000), ((-4000), 4000), ((-8000000), 8000000), ((-8000000), 8000000), (0, 12), ((-9223372036854775808), 9223372036854775807), ((-9223372036854775808), 9223372036854775807), ((-9223372036854775808), 9223372036854775807), ((-9223372036854775808), 9223372036854775807), ((-9223372036854775808), 9223372036854775807), (0, 12), ((-2147483648), 2147483647), (0, 12), ((-2147483648), 2147483647), (0, 40), (0, 40), ((-1300), (-1)), ((-1300), 4000), ((-8000000), 5200000), ((-8000000), 8000000), (0, 256000000000000), (1, 1690000), (0, 16000000), (1, 4611686018427387904), (1, 4611686018427387904), ((-2600), 0)], [([(27, (-2)), (35, 1)], 0), ([(27, (-2))], (-1))]), [([(35, 1)], 0), ([], 1), ([(26, 1)], 0), ([(27, 1)], 0), ([(28, 1)], 0), ([(29, 1)], 0)], [], [.inr (.inr (.inl (998, 1, [([(27, 2)], 0), ([(34, 1)], 0), ([(35, 1)], 0)], [], []))), .inr (.inr (.inl (320, 0, [([(33, 1)], 0), ([(28, 1), (29, 1)], 0), ([(34, 1)], 0)], [], []))), .inr (.inr (.inl (321, 0, [([(26, 2)], 0), ([(27, 2)], 0), ([(33, 1)], 0)], [], []))), .inl (.inr (32, ([(27, 1)], 0), ([(27, 1)], 0))), .inl (.inr (31, ([(26, 1)], 0), ([(26, 1)], 0))), .inl (.inr (30, ([(28, (-1)), (29, 1)], 0), ([(28, (-1)), (29, 1)], 0))), .inr (.inr (.inl (331, 1, [([], 0), ([(2, 1)], 0), ([(3, 1)], 0), ([(4, 1)], 0), ([(5, 1)], 0), ([(6, 1)], 0), ([(7, 1)], 0), ([(8, 1)], 0), ([(9, 1)], 0), ([(10, 1)], 0), ([(11, 1)], 0), ([(12, 1)], 0), ([(13, 1)], 0), ([(14, 1)], 0), ([(15, 1)], 0), ([(16, 1)], 0), ([(17, 1)], 0), ([(18, 1)], 0), ([(19, 1)], 0), ([(20, 1)], 0), ([(21, 1)], 0), ([(22, 1)], 0), ([(23, 1)], 0), ([(24, 1)], 0), ([(25, 1)], 0), ([(26, 1)], 0), ([(27, 1)], 0), ([(28, 1)], 0), ([(29, 1)], 0)], [0, 1, 2, 3, 4, 5, 6, 7, 8, 9, 10, 11, 12, 13, 14, 15, 16, 17, 18, 19, 20, 21, 22, 23, 24, 25, 26, 27, 28, 29, 30, 31, 32, 33, 34, 35, 36], []))), .inr (.inr (.inl (258, 1, [([(0, 1)], 0), ([], 0), ([], 5)], [], [])))]) := by
  intro g0 r gi g hok hh hars hfr hG
  have b0 : 3 ≤ r 0 ∧ r 0 ≤ 3 := hok.1 0 (3, 3) rfl
  have b3 : 1 ≤ r 3 ∧ r 3 ≤ 40 := hok.1 3 (1, 40) rfl
  have b26 : (-1300) ≤ r 26 ∧ r 26 ≤ (-1) := hok.1 26 ((-1300), (-1)) rfl
  have b27 : (-1300) ≤ r 27 ∧ r 27 ≤ 4000 := hok.1 27 ((-1300), 4000) rfl
  have b28 : (-8000000) ≤ r 28 ∧ r 28 ≤ 5200000 := hok.1 28 ((-8000000), 5200000) rfl
  have b29 : (-8000000) ≤ r 29 ∧ r 29 ≤ 8000000 := hok.1 29 ((-8000000), 8000000) rfl
  have b30 : 0 ≤ r 30 ∧ r 30 ≤ 256000000000000 := hok.1 30 (0, 256000000000000) rfl
  have b31 : 1 ≤ r 31 ∧ r 31 ≤ 1690000 := hok.1 31 (1, 1690000) rfl
  have b32 : 0 ≤ r 32 ∧ r 32 ≤ 16000000 := hok.1 32 (0, 16000000) rfl
  have b33 : 1 ≤ r 33 ∧ r 33 ≤ 4611686018427387904 := hok.1 33 (1, 4611686018427387904) rfl
  have b34 : 1 ≤ r 34 ∧ r 34 ≤ 4611686018427387904 := hok.1 34 (1, 4611686018427387904) rfl
  have b35 : (-2600) ≤ r 35 ∧ r 35 ≤ 0 := hok.1 35 ((-2600), 0) rfl
  have f0 : 0 ≤ (((-2) * r 27 + (1 * r 35 + 0)) + 0) := hok.2 _ (List.mem_of_getElem? (i := 0) rfl)
  have f1 : 0 ≤ (((-2) * r 27 + 0) + (-1)) := hok.2 _ (List.mem_of_getElem? (i := 1) rfl)
  obtain ⟨hG, hgi⟩ := hG
  have hG : True := hG
  obtain ⟨h0, hh, e0, k0⟩ := hh
  have k0 : ∀ j, j ∉ [] → g j = h0 j := k0
  have e0 : ((1 * r 35 + 0) + 0) = (((2 * r 27 + 0) + 0)).tdiv (((1 * r 34 + 0) + 0)) := e0
  obtain ⟨h1, hh, e1, k1⟩ := hh
  have k1 : ∀ j, j ∉ [] → h0 j = h1 j := k1
  have e1 : ((1 * r 34 + 0) + 0) = ((Nat.gcd (((1 * r 33 + 0) + 0)).natAbs (((1 * r 28 + (1 * r 29 + 0)) + 0)).natAbs : Nat) : Int) := e1
  obtain ⟨h2, hh, e2, k2⟩ := hh
  have k2 : ∀ j, j ∉ [] → h1 j = h2 j := k2
  have e2 : ((1 * r 33 + 0) + 0) = ((Nat.gcd (((2 * r 26 + 0) + 0)).natAbs (((2 * r 27 + 0) + 0)).natAbs : Nat) : Int) := e2
  obtain ⟨g3, hh, q3, e3⟩ := hh
  subst q3
  have e3 : r 32 = ((1 * r 27 + 0) + 0) * ((1 * r 27 + 0) + 0) := e3
  try simp only [Int.one_mul, Int.zero_add, Int.add_zero] at e3
  obtain ⟨g4, hh, q4, e4⟩ := hh
  subst q4
  have e4 : r 31 = ((1 * r 26 + 0) + 0) * ((1 * r 26 + 0) + 0) := e4
  try simp only [Int.one_mul, Int.zero_add, Int.add_zero] at e4
  obtain ⟨g5, hh, q5, e5⟩ := hh
  subst q5
  have e5 : r 30 = (((-1) * r 28 + (1 * r 29 + 0)) + 0) * (((-1) * r 28 + (1 * r 29 + 0)) + 0) := e5
  try simp only [Int.one_mul, Int.zero_add, Int.add_zero] at e5
  obtain ⟨h6, hh, e6, k6⟩ := hh
  have k6 : ∀ j, j ∉ [] → h2 j = h6 j := k6
  have e6 : (¬ (0 < yq_cnt (h6 3) 0 (((1 * ((1 * r 3 + 0) + 0) + 0) + 0)).toNat ∧ 0 < yq_cnt (h6 3) 1 (((1 * ((1 * r 3 + 0) + 0) + 0) + 0)).toNat) → ((0 : Int) + 1) = 0) ∧ ((0 < yq_cnt (h6 3) 0 (((1 * ((1 * r 3 + 0) + 0) + 0) + 0)).toNat ∧ 0 < yq_cnt (h6 3) 1 (((1 * ((1 * r 3 + 0) + 0) + 0) + 0)).toNat) → ye_nr (h6 1) (h6 2) (h6 3) (((1 * ((1 * r 3 + 0) + 0) + 0) + 0)).toNat → ye_J (h6 1) (h6 2) (h6 3) (((1 * ((1 * r 3 + 0) + 0) + 0) + 0)).toNat (((1 * ((1 * r 3 + 0) + 0) + 0) + 0)).toNat 0 (((0 : Int) + 1), ((1 * ((1 * r 26 + 0) + 0) + 0) + 0), ((1 * ((1 * r 27 + 0) + 0) + 0) + 0), ((1 * ((1 * r 29 + 0) + 0) + 0) + 0), ((1 * ((1 * r 28 + 0) + 0) + 0) + 0)) ∧ ye_tB (((0 : Int) + 1), ((1 * ((1 * r 26 + 0) + 0) + 0) + 0), ((1 * ((1 * r 27 + 0) + 0) + 0) + 0), ((1 * ((1 * r 29 + 0) + 0) + 0) + 0), ((1 * ((1 * r 28 + 0) + 0) + 0) + 0))) := e6
  obtain ⟨h7, hh, e7, k7⟩ := hh
  have k7 : ∀ j, j ∉ [] → h6 j = h7 j := k7
  have e7 : (((0 : Int) + 0) ≤ ((1 * r 0 + 0) + 0) ∧ ((1 * r 0 + 0) + 0) ≤ ((0 : Int) + 5)) := e7
  have hh : h7 = gi := hh
  subst hh
  refine yt_dalt (by decide) (by decide) ?_
  rw [show xk_1086.2.1.2.1.1.length = 26 from rfl]
  show (¬ (0 ≤ ((1 * r 0 + 0) + 0) ∧ ((1 * r 0 + 0) + 0) ≤ 5) → ((1 * r 35 + 0) + 0) = -1) ∧ ((0 ≤ ((1 * r 0 + 0) + 0) ∧ ((1 * r 0 + 0) + 0) ≤ 5) → ye_nr (g0 1) (g0 2) (g0 3) (((1 * ((1 * r 3 + 0) + 0) + 0) + 0)).toNat → ∃ m : ye_T, ye_way (g0 1) (g0 2) (g0 3) (((1 * ((1 * r 3 + 0) + 0) + 0) + 0)).toNat m ∧ ye_tb m ∧ ((1 * r 35 + 0) + 0) = ye_rw (g0 1) (g0 2) (((1 * ((1 * r 3 + 0) + 0) + 0) + 0)).toNat m ((1 * r 0 + 0) + 0))
  try simp only [Int.one_mul, Int.zero_add, Int.add_zero]
  try simp only [Int.one_mul, Int.zero_add, Int.add_zero] at e7
  try simp only [Int.one_mul, Int.zero_add, Int.add_zero] at e6
  rw [k7 1 (by decide), k7 2 (by decide), k7 3 (by decide), hgi] at e6
  try simp only [Int.one_mul, Int.zero_add, Int.add_zero] at e3
  try simp only [Int.one_mul, Int.zero_add, Int.add_zero] at e4
  try simp only [Int.one_mul, Int.zero_add, Int.add_zero] at e5
  try simp only [Int.one_mul, Int.zero_add, Int.add_zero] at e1
  try simp only [Int.one_mul, Int.zero_add, Int.add_zero] at e2
  try simp only [Int.one_mul, Int.zero_add, Int.add_zero] at e0
  rw [show r 28 + r 29 = r 29 + r 28 by omega] at e1
  refine ⟨fun q => absurd (by omega) q, fun _ hr => ⟨((1 : Int), r 26, r 27, r 29, r 28), (ye_mw hr e6.1 e6.2).1, (ye_mw hr e6.1 e6.2).2, ?_⟩⟩
  unfold ye_rw
  try dsimp only
  try rw [if_neg (show ¬ (1 : Int) = 0 by omega)]
  rw [show r 0 = 3 by omega]
  unfold ye_wd
  rw [if_neg (by decide), if_neg (by decide), if_neg (by decide), if_pos rfl]
  rw [ye_w2e (show r 26 ≠ 0 ∨ r 27 ≠ 0 by omega) e2 e1]
  exact e0
theorem xw_1086_0_20 : yt_hold xT_1086 xk_1086 xq_1086.2.2.1 xG_1086 xP_1086 xU_1086 26 xk_1086.2.1.2.2.2 (fun g0 r g => xR_1086 r g0 ∧ g = g0) (1000, ([(4, 4), ((-2147483648), 2147483647), ((-2147483648), 2147483647), (1, 40), ((-2147483648), 2147483647), (0, 4), ((-9223372036854775808), 9223372036854775807), ((-9223372036854775808), 9223372036854775807), ((-9223372036854775808), 9223372036854775807), (0, 1), ((-4000), 4000), ((-4000), 4000), ((-8000000), 8000000), ((-8000000), 8000000), (0, 12), ((-9223372036854775808), 9223372036854775807), ((-9223372036854775808), 9223372036854775807), ((-9223372036854775808), 9223372036854775807), ((-9223372036854775808), 9223372036854775807), ((-9223372036854775808), 9223372036854775807), (0, 12), ((-2147483648), 2147483647), (0, 12), ((-2147483648), 2147483647), (0, 40), (0, 40), ((-1300), (-1)), ((-1300), 4000), ((-8000000), 5200000), ((-5200000), 8000000), (0, 256000000000000), (1, 1690000), (0, 16000000), (1, 4611686018427387904), (1, 4611686018427387904), (0, 0)], [([(34, 1), (29, (-1)), (28, (-1))], (-1)), ([(28, 1), (29, 1)], 0)]), [([], 0), ([], 1), ([(26, 1)], 0), ([(27, 1)], 0), ([(28, 1)], 0), ([(29, 1)], 0)], [], [.inr (.inr (.inl (998, 1, [([(28, 1), (29, 1)], 0), ([(34, 1)], 0), ([], 0)], [], []))), .inr (.inr (.inl (320, 0, [([(33, 1)], 0), ([(28, 1), (29, 1)], 0), ([(34, 1)], 0)], [], []))), .inr (.inr (.inl (321, 0, [([(26, 2)], 0), ([(27, 2)], 0), ([(33, 1)], 0)], [], []))), .inl (.inr (32, ([(27, 1)], 0), ([(27, 1)], 0))), .inl (.inr (31, ([(26, 1)], 0), ([(26, 1)], 0))), .inl (.inr (30, ([(28, (-1)), (29, 1)], 0), ([(28, (-1)), (29, 1)], 0))), .inr (.inr (.inl (331, 1, [([], 0), ([(2, 1)], 0), ([(3, 1)], 0), ([(4, 1)], 0), ([(5, 1)], 0), ([(6, 1)], 0), ([(7, 1)], 0), ([(8, 1)], 0), ([(9, 1)], 0), ([(10, 1)], 0), ([(11, 1)], 0), ([(12, 1)], 0), ([(13, 1)], 0), ([(14, 1)], 0), ([(15, 1)], 0), ([(16, 1)], 0), ([(17, 1)], 0), ([(18, 1)], 0), ([(19, 1)], 0), ([(20, 1)], 0), ([(21, 1)], 0), ([(22, 1)], 0), ([(23, 1)], 0), ([(24, 1)], 0), ([(25, 1)], 0), ([(26, 1)], 0), ([(27, 1)], 0), ([(28, 1)], 0), ([(29, 1)], 0)], [0, 1, 2, 3, 4, 5, 6, 7, 8, 9, 10, 11, 12, 13, 14, 15, 16, 17, 18, 19, 20, 21, 22, 23, 24, 25, 26, 27, 28, 29, 30, 31, 32, 33, 34, 35, 36], []))), .inr (.inr (.inl (258, 1, [([(0, 1)], 0), ([], 0), ([], 5)], [], [])))]) := by
  intro g0 r gi g hok hh hars hfr hG
  have b0 : 4 ≤ r 0 ∧ r 0 ≤ 4 := hok.1 0 (4, 4) rfl
  have b3 : 1 ≤ r 3 ∧ r 3 ≤ 40 := hok.1 3 (1, 40) rfl
  have b26 : (-1300) ≤ r 26 ∧ r 26 ≤ (-1) := hok.1 26 ((-1300), (-1)) rfl
  have b27 : (-1300) ≤ r 27 ∧ r 27 ≤ 4000 := hok.1 27 ((-1300), 4000) rfl
  have b28 : (-8000000) ≤ r 28 ∧ r 28 ≤ 5200000 := hok.1 28 ((-8000000), 5200000) rfl
  have b29 : (-5200000) ≤ r 29 ∧ r 29 ≤ 8000000 := hok.1 29 ((-5200000), 8000000) rfl
  have b30 : 0 ≤ r 30 ∧ r 30 ≤ 256000000000000 := hok.1 30 (0, 256000000000000) rfl
  have b31 : 1 ≤ r 31 ∧ r 31 ≤ 1690000 := hok.1 31 (1, 1690000) rfl
  have b32 : 0 ≤ r 32 ∧ r 32 ≤ 16000000 := hok.1 32 (0, 16000000) rfl
  have b33 : 1 ≤ r 33 ∧ r 33 ≤ 4611686018427387904 := hok.1 33 (1, 4611686018427387904) rfl
  have b34 : 1 ≤ r 34 ∧ r 34 ≤ 4611686018427387904 := hok.1 34 (1, 4611686018427387904) rfl
  have b35 : 0 ≤ r 35 ∧ r 35 ≤ 0 := hok.1 35 (0, 0) rfl
  have f0 : 0 ≤ ((1 * r 34 + ((-1) * r 29 + ((-1) * r 28 + 0))) + (-1)) := hok.2 _ (List.mem_of_getElem? (i := 0) rfl)
  have f1 : 0 ≤ ((1 * r 28 + (1 * r 29 + 0)) + 0) := hok.2 _ (List.mem_of_getElem? (i := 1) rfl)
  obtain ⟨hG, hgi⟩ := hG
  have hG : True := hG
  obtain ⟨h0, hh, e0, k0⟩ := hh
  have k0 : ∀ j, j ∉ [] → g j = h0 j := k0
  have e0 : ((0 : Int) + 0) = (((1 * r 28 + (1 * r 29 + 0)) + 0)).tdiv (((1 * r 34 + 0) + 0)) := e0
  obtain ⟨h1, hh, e1, k1⟩ := hh
  have k1 : ∀ j, j ∉ [] → h0 j = h1 j := k1
  have e1 : ((1 * r 34 + 0) + 0) = ((Nat.gcd (((1 * r 33 + 0) + 0)).natAbs (((1 * r 28 + (1 * r 29 + 0)) + 0)).natAbs : Nat) : Int) := e1
  obtain ⟨h2, hh, e2, k2⟩ := hh
  have k2 : ∀ j, j ∉ [] → h1 j = h2 j := k2
  have e2 : ((1 * r 33 + 0) + 0) = ((Nat.gcd (((2 * r 26 + 0) + 0)).natAbs (((2 * r 27 + 0) + 0)).natAbs : Nat) : Int) := e2
  obtain ⟨g3, hh, q3, e3⟩ := hh
  subst q3
  have e3 : r 32 = ((1 * r 27 + 0) + 0) * ((1 * r 27 + 0) + 0) := e3
  try simp only [Int.one_mul, Int.zero_add, Int.add_zero] at e3
  obtain ⟨g4, hh, q4, e4⟩ := hh
  subst q4
  have e4 : r 31 = ((1 * r 26 + 0) + 0) * ((1 * r 26 + 0) + 0) := e4
  try simp only [Int.one_mul, Int.zero_add, Int.add_zero] at e4
  obtain ⟨g5, hh, q5, e5⟩ := hh
  subst q5
  have e5 : r 30 = (((-1) * r 28 + (1 * r 29 + 0)) + 0) * (((-1) * r 28 + (1 * r 29 + 0)) + 0) := e5
  try simp only [Int.one_mul, Int.zero_add, Int.add_zero] at e5
  obtain ⟨h6, hh, e6, k6⟩ := hh
  have k6 : ∀ j, j ∉ [] → h2 j = h6 j := k6
  have e6 : (¬ (0 < yq_cnt (h6 3) 0 (((1 * ((1 * r 3 + 0) + 0) + 0) + 0)).toNat ∧ 0 < yq_cnt (h6 3) 1 (((1 * ((1 * r 3 + 0) + 0) + 0) + 0)).toNat) → ((0 : Int) + 1) = 0) ∧ ((0 < yq_cnt (h6 3) 0 (((1 * ((1 * r 3 + 0) + 0) + 0) + 0)).toNat ∧ 0 < yq_cnt (h6 3) 1 (((1 * ((1 * r 3 + 0) + 0) + 0) + 0)).toNat) → ye_nr (h6 1) (h6 2) (h6 3) (((1 * ((1 * r 3 + 0) + 0) + 0) + 0)).toNat → ye_J (h6 1) (h6 2) (h6 3) (((1 * ((1 * r 3 + 0) + 0) + 0) + 0)).toNat (((1 * ((1 * r 3 + 0) + 0) + 0) + 0)).toNat 0 (((0 : Int) + 1), ((1 * ((1 * r 26 + 0) + 0) + 0) + 0), ((1 * ((1 * r 27 + 0) + 0) + 0) + 0), ((1 * ((1 * r 29 + 0) + 0) + 0) + 0), ((1 * ((1 * r 28 + 0) + 0) + 0) + 0)) ∧ ye_tB (((0 : Int) + 1), ((1 * ((1 * r 26 + 0) + 0) + 0) + 0), ((1 * ((1 * r 27 + 0) + 0) + 0) + 0), ((1 * ((1 * r 29 + 0) + 0) + 0) + 0), ((1 * ((1 * r 28 + 0) + 0) + 0) + 0))) := e6
  obtain ⟨h7, hh, e7, k7⟩ := hh
  have k7 : ∀ j, j ∉ [] → h6 j = h7 j := k7
  have e7 : (((0 : Int) + 0) ≤ ((1 * r 0 + 0) + 0) ∧ ((1 * r 0 + 0) + 0) ≤ ((0 : Int) + 5)) := e7
  have hh : h7 = gi := hh
  subst hh
  refine yt_dalt (by decide) (by decide) ?_
  rw [show xk_1086.2.1.2.1.1.length = 26 from rfl]
  show (¬ (0 ≤ ((1 * r 0 + 0) + 0) ∧ ((1 * r 0 + 0) + 0) ≤ 5) → ((0 : Int) + 0) = -1) ∧ ((0 ≤ ((1 * r 0 + 0) + 0) ∧ ((1 * r 0 + 0) + 0) ≤ 5) → ye_nr (g0 1) (g0 2) (g0 3) (((1 * ((1 * r 3 + 0) + 0) + 0) + 0)).toNat → ∃ m : ye_T, ye_way (g0 1) (g0 2) (g0 3) (((1 * ((1 * r 3 + 0) + 0) + 0) + 0)).toNat m ∧ ye_tb m ∧ ((0 : Int) + 0) = ye_rw (g0 1) (g0 2) (((1 * ((1 * r 3 + 0) + 0) + 0) + 0)).toNat m ((1 * r 0 + 0) + 0))
  try simp only [Int.one_mul, Int.zero_add, Int.add_zero]
  try simp only [Int.one_mul, Int.zero_add, Int.add_zero] at e7
  try simp only [Int.one_mul, Int.zero_add, Int.add_zero] at e6
  rw [k7 1 (by decide), k7 2 (by decide), k7 3 (by decide), hgi] at e6
  try simp only [Int.one_mul, Int.zero_add, Int.add_zero] at e3
  try simp only [Int.one_mul, Int.zero_add, Int.add_zero] at e4
  try simp only [Int.one_mul, Int.zero_add, Int.add_zero] at e5
  try simp only [Int.one_mul, Int.zero_add, Int.add_zero] at e1
  try simp only [Int.one_mul, Int.zero_add, Int.add_zero] at e2
  try simp only [Int.one_mul, Int.zero_add, Int.add_zero] at e0
  rw [show r 28 + r 29 = r 29 + r 28 by omega] at e1
  rw [show r 28 + r 29 = r 29 + r 28 by omega] at e0
  refine ⟨fun q => absurd (by omega) q, fun _ hr => ⟨((1 : Int), r 26, r 27, r 29, r 28), (ye_mw hr e6.1 e6.2).1, (ye_mw hr e6.1 e6.2).2, ?_⟩⟩
  unfold ye_rw
  try dsimp only
  try rw [if_neg (show ¬ (1 : Int) = 0 by omega)]
  rw [show r 0 = 4 by omega]
  unfold ye_wd
  rw [if_neg (by decide), if_neg (by decide), if_neg (by decide), if_neg (by decide), if_pos rfl]
  rw [ye_w2e (show r 26 ≠ 0 ∨ r 27 ≠ 0 by omega) e2 e1]
  exact e0
theorem xw_1086_0_21 : yt_hold xT_1086 xk_1086 xq_1086.2.2.1 xG_1086 xP_1086 xU_1086 26 xk_1086.2.1.2.2.2 (fun g0 r g => xR_1086 r g0 ∧ g = g0) (1000, ([(4, 4), ((-2147483648), 2147483647), ((-2147483648), 2147483647), (1, 40), ((-2147483648), 2147483647), (0, 4), ((-9223372036854775808), 9223372036854775807), ((-9223372036854775808), 9223372036854775807), ((-9223372036854775808), 9223372036854775807), (0, 1), ((-4000), 4000), ((-4000), 4000), ((-8000000), 8000000), ((-8000000), 8000000), (0, 12), ((-9223372036854775808), 9223372036854775807), ((-9223372036854775808), 9223372036854775807), ((-9223372036854775808), 9223372036854775807), ((-9223372036854775808), 9223372036854775807), ((-9223372036854775808), 9223372036854775807), (0, 12), ((-2147483648), 2147483647), (0, 12), ((-2147483648), 2147483647), (0, 40), (0, 40), ((-1300), (-1)), ((-1300), 4000), ((-7999999), 5200000), ((-5199999), 8000000), (0, 256000000000000), (1, 1690000), (0, 16000000), (1, 4611686018427387904), (1, 13200000), (1, 13200000)], [([(35, (-1)), (29, 1), (28, 1)], 0), ([(34, (-1)), (29, 1), (28, 1)], 0)]), [([(35, 1)], 0), ([], 1), ([(26, 1)], 0), ([(27, 1)], 0), ([(28, 1)], 0), ([(29, 1)], 0)], [], [.inr (.inr (.inl (998, 1, [([(28, 1), (29, 1)], 0), ([(34, 1)], 0), ([(35, 1)], 0)], [], []))), .inr (.inr (.inl (320, 0, [([(33, 1)], 0), ([(28, 1), (29, 1)], 0), ([(34, 1)], 0)], [], []))), .inr (.inr (.inl (321, 0, [([(26, 2)], 0), ([(27, 2)], 0), ([(33, 1)], 0)], [], []))), .inl (.inr (32, ([(27, 1)], 0), ([(27, 1)], 0))), .inl (.inr (31, ([(26, 1)], 0), ([(26, 1)], 0))), .inl (.inr (30, ([(28, (-1)), (29, 1)], 0), ([(28, (-1)), (29, 1)], 0))), .inr (.inr (.inl (331, 1, [([], 0), ([(2, 1)], 0), ([(3, 1)], 0), ([(4, 1)], 0), ([(5, 1)], 0), ([(6, 1)], 0), ([(7, 1)], 0), ([(8, 1)], 0), ([(9, 1)], 0), ([(10, 1)], 0), ([(11, 1)], 0), ([(12, 1)], 0), ([(13, 1)], 0), ([(14, 1)], 0), ([(15, 1)], 0), ([(16, 1)], 0), ([(17, 1)], 0), ([(18, 1)], 0), ([(19, 1)], 0), ([(20, 1)], 0), ([(21, 1)], 0), ([(22, 1)], 0), ([(23, 1)], 0), ([(24, 1)], 0), ([(25, 1)], 0), ([(26, 1)], 0), ([(27, 1)], 0), ([(28, 1)], 0), ([(29, 1)], 0)], [0, 1, 2, 3, 4, 5, 6, 7, 8, 9, 10, 11, 12, 13, 14, 15, 16, 17, 18, 19, 20, 21, 22, 23, 24, 25, 26, 27, 28, 29, 30, 31, 32, 33, 34, 35, 36], []))), .inr (.inr (.inl (258, 1, [([(0, 1)], 0), ([], 0), ([], 5)], [], [])))]) := by
  intro g0 r gi g hok hh hars hfr hG
  have b0 : 4 ≤ r 0 ∧ r 0 ≤ 4 := hok.1 0 (4, 4) rfl
  have b3 : 1 ≤ r 3 ∧ r 3 ≤ 40 := hok.1 3 (1, 40) rfl
  have b26 : (-1300) ≤ r 26 ∧ r 26 ≤ (-1) := hok.1 26 ((-1300), (-1)) rfl
  have b27 : (-1300) ≤ r 27 ∧ r 27 ≤ 4000 := hok.1 27 ((-1300), 4000) rfl
  have b28 : (-7999999) ≤ r 28 ∧ r 28 ≤ 5200000 := hok.1 28 ((-7999999), 5200000) rfl
  have b29 : (-5199999) ≤ r 29 ∧ r 29 ≤ 8000000 := hok.1 29 ((-5199999), 8000000) rfl
  have b30 : 0 ≤ r 30 ∧ r 30 ≤ 256000000000000 := hok.1 30 (0, 256000000000000) rfl
  have b31 : 1 ≤ r 31 ∧ r 31 ≤ 1690000 := hok.1 31 (1, 1690000) rfl
  have b32 : 0 ≤ r 32 ∧ r 32 ≤ 16000000 := hok.1 32 (0, 16000000) rfl
  have b33 : 1 ≤ r 33 ∧ r 33 ≤ 4611686018427387904 := hok.1 33 (1, 4611686018427387904) rfl
  have b34 : 1 ≤ r 34 ∧ r 34 ≤ 13200000 := hok.1 34 (1, 13200000) rfl
  have b35 : 1 ≤ r 35 ∧ r 35 ≤ 13200000 := hok.1 35 (1, 13200000) rfl
  have f0 : 0 ≤ (((-1) * r 35 + (1 * r 29 + (1 * r 28 + 0))) + 0) := hok.2 _ (List.mem_of_getElem? (i := 0) rfl)
  have f1 : 0 ≤ (((-1) * r 34 + (1 * r 29 + (1 * r 28 + 0))) + 0) := hok.2 _ (List.mem_of_getElem? (i := 1) rfl)
  obtain ⟨hG, hgi⟩ := hG
  have hG : True := hG
  obtain ⟨h0, hh, e0, k0⟩ := hh
  have k0 : ∀ j, j ∉ [] → g j = h0 j := k0
  have e0 : ((1 * r 35 + 0) + 0) = (((1 * r 28 + (1 * r 29 + 0)) + 0)).tdiv (((1 * r 34 + 0) + 0)) := e0
  obtain ⟨h1, hh, e1, k1⟩ := hh
  have k1 : ∀ j, j ∉ [] → h0 j = h1 j := k1
  have e1 : ((1 * r 34 + 0) + 0) = ((Nat.gcd (((1 * r 33 + 0) + 0)).natAbs (((1 * r 28 + (1 * r 29 + 0)) + 0)).natAbs : Nat) : Int) := e1
  obtain ⟨h2, hh, e2, k2⟩ := hh
  have k2 : ∀ j, j ∉ [] → h1 j = h2 j := k2
  have e2 : ((1 * r 33 + 0) + 0) = ((Nat.gcd (((2 * r 26 + 0) + 0)).natAbs (((2 * r 27 + 0) + 0)).natAbs : Nat) : Int) := e2
  obtain ⟨g3, hh, q3, e3⟩ := hh
  subst q3
  have e3 : r 32 = ((1 * r 27 + 0) + 0) * ((1 * r 27 + 0) + 0) := e3
  try simp only [Int.one_mul, Int.zero_add, Int.add_zero] at e3
  obtain ⟨g4, hh, q4, e4⟩ := hh
  subst q4
  have e4 : r 31 = ((1 * r 26 + 0) + 0) * ((1 * r 26 + 0) + 0) := e4
  try simp only [Int.one_mul, Int.zero_add, Int.add_zero] at e4
  obtain ⟨g5, hh, q5, e5⟩ := hh
  subst q5
  have e5 : r 30 = (((-1) * r 28 + (1 * r 29 + 0)) + 0) * (((-1) * r 28 + (1 * r 29 + 0)) + 0) := e5
  try simp only [Int.one_mul, Int.zero_add, Int.add_zero] at e5
  obtain ⟨h6, hh, e6, k6⟩ := hh
  have k6 : ∀ j, j ∉ [] → h2 j = h6 j := k6
  have e6 : (¬ (0 < yq_cnt (h6 3) 0 (((1 * ((1 * r 3 + 0) + 0) + 0) + 0)).toNat ∧ 0 < yq_cnt (h6 3) 1 (((1 * ((1 * r 3 + 0) + 0) + 0) + 0)).toNat) → ((0 : Int) + 1) = 0) ∧ ((0 < yq_cnt (h6 3) 0 (((1 * ((1 * r 3 + 0) + 0) + 0) + 0)).toNat ∧ 0 < yq_cnt (h6 3) 1 (((1 * ((1 * r 3 + 0) + 0) + 0) + 0)).toNat) → ye_nr (h6 1) (h6 2) (h6 3) (((1 * ((1 * r 3 + 0) + 0) + 0) + 0)).toNat → ye_J (h6 1) (h6 2) (h6 3) (((1 * ((1 * r 3 + 0) + 0) + 0) + 0)).toNat (((1 * ((1 * r 3 + 0) + 0) + 0) + 0)).toNat 0 (((0 : Int) + 1), ((1 * ((1 * r 26 + 0) + 0) + 0) + 0), ((1 * ((1 * r 27 + 0) + 0) + 0) + 0), ((1 * ((1 * r 29 + 0) + 0) + 0) + 0), ((1 * ((1 * r 28 + 0) + 0) + 0) + 0)) ∧ ye_tB (((0 : Int) + 1), ((1 * ((1 * r 26 + 0) + 0) + 0) + 0), ((1 * ((1 * r 27 + 0) + 0) + 0) + 0), ((1 * ((1 * r 29 + 0) + 0) + 0) + 0), ((1 * ((1 * r 28 + 0) + 0) + 0) + 0))) := e6
  obtain ⟨h7, hh, e7, k7⟩ := hh
  have k7 : ∀ j, j ∉ [] → h6 j = h7 j := k7
  have e7 : (((0 : Int) + 0) ≤ ((1 * r 0 + 0) + 0) ∧ ((1 * r 0 + 0) + 0) ≤ ((0 : Int) + 5)) := e7
  have hh : h7 = gi := hh
  subst hh
  refine yt_dalt (by decide) (by decide) ?_
  rw [show xk_1086.2.1.2.1.1.length = 26 from rfl]
  show (¬ (0 ≤ ((1 * r 0 + 0) + 0) ∧ ((1 * r 0 + 0) + 0) ≤ 5) → ((1 * r 35 + 0) + 0) = -1) ∧ ((0 ≤ ((1 * r 0 + 0) + 0) ∧ ((1 * r 0 + 0) + 0) ≤ 5) → ye_nr (g0 1) (g0 2) (g0 3) (((1 * ((1 * r 3 + 0) + 0) + 0) + 0)).toNat → ∃ m : ye_T, ye_way (g0 1) (g0 2) (g0 3) (((1 * ((1 * r 3 + 0) + 0) + 0) + 0)).toNat m ∧ ye_tb m ∧ ((1 * r 35 + 0) + 0) = ye_rw (g0 1) (g0 2) (((1 * ((1 * r 3 + 0) + 0) + 0) + 0)).toNat m ((1 * r 0 + 0) + 0))
  try simp only [Int.one_mul, Int.zero_add, Int.add_zero]
  try simp only [Int.one_mul, Int.zero_add, Int.add_zero] at e7
  try simp only [Int.one_mul, Int.zero_add, Int.add_zero] at e6
  rw [k7 1 (by decide), k7 2 (by decide), k7 3 (by decide), hgi] at e6
  try simp only [Int.one_mul, Int.zero_add, Int.add_zero] at e3
  try simp only [Int.one_mul, Int.zero_add, Int.add_zero] at e4
  try simp only [Int.one_mul, Int.zero_add, Int.add_zero] at e5
  try simp only [Int.one_mul, Int.zero_add, Int.add_zero] at e1
  try simp only [Int.one_mul, Int.zero_add, Int.add_zero] at e2
  try simp only [Int.one_mul, Int.zero_add, Int.add_zero] at e0
  rw [show r 28 + r 29 = r 29 + r 28 by omega] at e1
  rw [show r 28 + r 29 = r 29 + r 28 by omega] at e0
  refine ⟨fun q => absurd (by omega) q, fun _ hr => ⟨((1 : Int), r 26, r 27, r 29, r 28), (ye_mw hr e6.1 e6.2).1, (ye_mw hr e6.1 e6.2).2, ?_⟩⟩
  unfold ye_rw
  try dsimp only
  try rw [if_neg (show ¬ (1 : Int) = 0 by omega)]
  rw [show r 0 = 4 by omega]
  unfold ye_wd
  rw [if_neg (by decide), if_neg (by decide), if_neg (by decide), if_neg (by decide), if_pos rfl]
  rw [ye_w2e (show r 26 ≠ 0 ∨ r 27 ≠ 0 by omega) e2 e1]
  exact e0
theorem xw_1086_0_22 : yt_hold xT_1086 xk_1086 xq_1086.2.2.1 xG_1086 xP_1086 xU_1086 26 xk_1086.2.1.2.2.2 (fun g0 r g => xR_1086 r g0 ∧ g = g0) (1000, ([(4, 4), ((-2147483648), 2147483647), ((-2147483648), 2147483647), (1, 40), ((-2147483648), 2147483647), (0, 4), ((-9223372036854775808), 9223372036854775807), ((-9223372036854775808), 9223372036854775807), ((-9223372036854775808), 9223372036854775807), (0, 1), ((-4000), 4000), ((-4000), 4000), ((-8000000), 8000000), ((-8000000), 8000000), (0, 12), ((-9223372036854775808), 9223372036854775807), ((-9223372036854775808), 9223372036854775807), ((-9223372036854775808), 9223372036854775807), ((-9223372036854775808), 9223372036854775807), ((-9223372036854775808), 9223372036854775807), (0, 12), ((-2147483648), 2147483647), (0, 12), ((-2147483648), 2147483647), (0, 40), (0, 40), ((-1300), (-1)), ((-1300), 4000), ((-8000000), 5200000), ((-8000000), 7999999), (0, 256000000000000), (1, 1690000), (0, 16000000), (1, 4611686018427387904), (1, 4611686018427387904), ((-16000000), 0)], [([(28, (-1)), (29, (-1)), (35, 1)], 0), ([(29, (-1)), (28, (-1))], (-1))]), [([(35, 1)], 0), ([], 1), ([(26, 1)], 0), ([(27, 1)], 0), ([(28, 1)], 0), ([(29, 1)], 0)], [], [.inr (.inr (.inl (998, 1, [([(28, 1), (29, 1)], 0), ([(34, 1)], 0), ([(35, 1)], 0)], [], []))), .inr (.inr (.inl (320, 0, [([(33, 1)], 0), ([(28, 1), (29, 1)], 0), ([(34, 1)], 0)], [], []))), .inr (.inr (.inl (321, 0, [([(26, 2)], 0), ([(27, 2)], 0), ([(33, 1)], 0)], [], []))), .inl (.inr (32, ([(27, 1)], 0), ([(27, 1)], 0))), .inl (.inr (31, ([(26, 1)], 0), ([(26, 1)], 0))), .inl (.inr (30, ([(28, (-1)), (29, 1)], 0), ([(28, (-1)), (29, 1)], 0))), .inr (.inr (.inl (331, 1, [([], 0), ([(2, 1)], 0), ([(3, 1)], 0), ([(4, 1)], 0), ([(5, 1)], 0), ([(6, 1)], 0), ([(7, 1)], 0), ([(8, 1)], 0), ([(9, 1)], 0), ([(10, 1)], 0), ([(11, 1)], 0), ([(12, 1)], 0), ([(13, 1)], 0), ([(14, 1)], 0), ([(15, 1)], 0), ([(16, 1)], 0), ([(17, 1)], 0), ([(18, 1)], 0), ([(19, 1)], 0), ([(20, 1)], 0), ([(21, 1)], 0), ([(22, 1)], 0), ([(23, 1)], 0), ([(24, 1)], 0), ([(25, 1)], 0), ([(26, 1)], 0), ([(27, 1)], 0), ([(28, 1)], 0), ([(29, 1)], 0)], [0, 1, 2, 3, 4, 5, 6, 7, 8, 9, 10, 11, 12, 13, 14, 15, 16, 17, 18, 19, 20, 21, 22, 23, 24, 25, 26, 27, 28, 29, 30, 31, 32, 33, 34, 35, 36], []))), .inr (.inr (.inl (258, 1, [([(0, 1)], 0), ([], 0), ([], 5)], [], [])))]) := by
  intro g0 r gi g hok hh hars hfr hG
  have b0 : 4 ≤ r 0 ∧ r 0 ≤ 4 := hok.1 0 (4, 4) rfl
  have b3 : 1 ≤ r 3 ∧ r 3 ≤ 40 := hok.1 3 (1, 40) rfl
  have b26 : (-1300) ≤ r 26 ∧ r 26 ≤ (-1) := hok.1 26 ((-1300), (-1)) rfl
  have b27 : (-1300) ≤ r 27 ∧ r 27 ≤ 4000 := hok.1 27 ((-1300), 4000) rfl
  have b28 : (-8000000) ≤ r 28 ∧ r 28 ≤ 5200000 := hok.1 28 ((-8000000), 5200000) rfl
  have b29 : (-8000000) ≤ r 29 ∧ r 29 ≤ 7999999 := hok.1 29 ((-8000000), 7999999) rfl
  have b30 : 0 ≤ r 30 ∧ r 30 ≤ 256000000000000 := hok.1 30 (0, 256000000000000) rfl
  have b31 : 1 ≤ r 31 ∧ r 31 ≤ 1690000 := hok.1 31 (1, 1690000) rfl
  have b32 : 0 ≤ r 32 ∧ r 32 ≤ 16000000 := hok.1 32 (0, 16000000) rfl
  have b33 : 1 ≤ r 33 ∧ r 33 ≤ 4611686018427387904 := hok.1 33 (1, 4611686018427387904) rfl
  have b34 : 1 ≤ r 34 ∧ r 34 ≤ 4611686018427387904 := hok.1 34 (1, 4611686018427387904) rfl
  have b35 : (-16000000) ≤ r 35 ∧ r 35 ≤ 0 := hok.1 35 ((-16000000), 0) rfl
  have f0 : 0 ≤ (((-1) * r 28 + ((-1) * r 29 + (1 * r 35 + 0))) + 0) := hok.2 _ (List.mem_of_getElem? (i := 0) rfl)
  have f1 : 0 ≤ (((-1) * r 29 + ((-1) * r 28 + 0)) + (-1)) := hok.2 _ (List.mem_of_getElem? (i := 1) rfl)
  obtain ⟨hG, hgi⟩ := hG
  have hG : True := hG
  obtain ⟨h0, hh, e0, k0⟩ := hh
  have k0 : ∀ j, j ∉ [] → g j = h0 j := k0
  have e0 : ((1 * r 35 + 0) + 0) = (((1 * r 28 + (1 * r 29 + 0)) + 0)).tdiv (((1 * r 34 + 0) + 0)) := e0
  obtain ⟨h1, hh, e1, k1⟩ := hh
  have k1 : ∀ j, j ∉ [] → h0 j = h1 j := k1
  have e1 : ((1 * r 34 + 0) + 0) = ((Nat.gcd (((1 * r 33 + 0) + 0)).natAbs (((1 * r 28 + (1 * r 29 + 0)) + 0)).natAbs : Nat) : Int) := e1
  obtain ⟨h2, hh, e2, k2⟩ := hh
  have k2 : ∀ j, j ∉ [] → h1 j = h2 j := k2
  have e2 : ((1 * r 33 + 0) + 0) = ((Nat.gcd (((2 * r 26 + 0) + 0)).natAbs (((2 * r 27 + 0) + 0)).natAbs : Nat) : Int) := e2
  obtain ⟨g3, hh, q3, e3⟩ := hh
  subst q3
  have e3 : r 32 = ((1 * r 27 + 0) + 0) * ((1 * r 27 + 0) + 0) := e3
  try simp only [Int.one_mul, Int.zero_add, Int.add_zero] at e3
  obtain ⟨g4, hh, q4, e4⟩ := hh
  subst q4
  have e4 : r 31 = ((1 * r 26 + 0) + 0) * ((1 * r 26 + 0) + 0) := e4
  try simp only [Int.one_mul, Int.zero_add, Int.add_zero] at e4
  obtain ⟨g5, hh, q5, e5⟩ := hh
  subst q5
  have e5 : r 30 = (((-1) * r 28 + (1 * r 29 + 0)) + 0) * (((-1) * r 28 + (1 * r 29 + 0)) + 0) := e5
  try simp only [Int.one_mul, Int.zero_add, Int.add_zero] at e5
  obtain ⟨h6, hh, e6, k6⟩ := hh
  have k6 : ∀ j, j ∉ [] → h2 j = h6 j := k6
  have e6 : (¬ (0 < yq_cnt (h6 3) 0 (((1 * ((1 * r 3 + 0) + 0) + 0) + 0)).toNat ∧ 0 < yq_cnt (h6 3) 1 (((1 * ((1 * r 3 + 0) + 0) + 0) + 0)).toNat) → ((0 : Int) + 1) = 0) ∧ ((0 < yq_cnt (h6 3) 0 (((1 * ((1 * r 3 + 0) + 0) + 0) + 0)).toNat ∧ 0 < yq_cnt (h6 3) 1 (((1 * ((1 * r 3 + 0) + 0) + 0) + 0)).toNat) → ye_nr (h6 1) (h6 2) (h6 3) (((1 * ((1 * r 3 + 0) + 0) + 0) + 0)).toNat → ye_J (h6 1) (h6 2) (h6 3) (((1 * ((1 * r 3 + 0) + 0) + 0) + 0)).toNat (((1 * ((1 * r 3 + 0) + 0) + 0) + 0)).toNat 0 (((0 : Int) + 1), ((1 * ((1 * r 26 + 0) + 0) + 0) + 0), ((1 * ((1 * r 27 + 0) + 0) + 0) + 0), ((1 * ((1 * r 29 + 0) + 0) + 0) + 0), ((1 * ((1 * r 28 + 0) + 0) + 0) + 0)) ∧ ye_tB (((0 : Int) + 1), ((1 * ((1 * r 26 + 0) + 0) + 0) + 0), ((1 * ((1 * r 27 + 0) + 0) + 0) + 0), ((1 * ((1 * r 29 + 0) + 0) + 0) + 0), ((1 * ((1 * r 28 + 0) + 0) + 0) + 0))) := e6
  obtain ⟨h7, hh, e7, k7⟩ := hh
  have k7 : ∀ j, j ∉ [] → h6 j = h7 j := k7
  have e7 : (((0 : Int) + 0) ≤ ((1 * r 0 + 0) + 0) ∧ ((1 * r 0 + 0) + 0) ≤ ((0 : Int) + 5)) := e7
  have hh : h7 = gi := hh
  subst hh
  refine yt_dalt (by decide) (by decide) ?_
  rw [show xk_1086.2.1.2.1.1.length = 26 from rfl]
  show (¬ (0 ≤ ((1 * r 0 + 0) + 0) ∧ ((1 * r 0 + 0) + 0) ≤ 5) → ((1 * r 35 + 0) + 0) = -1) ∧ ((0 ≤ ((1 * r 0 + 0) + 0) ∧ ((1 * r 0 + 0) + 0) ≤ 5) → ye_nr (g0 1) (g0 2) (g0 3) (((1 * ((1 * r 3 + 0) + 0) + 0) + 0)).toNat → ∃ m : ye_T, ye_way (g0 1) (g0 2) (g0 3) (((1 * ((1 * r 3 + 0) + 0) + 0) + 0)).toNat m ∧ ye_tb m ∧ ((1 * r 35 + 0) + 0) = ye_rw (g0 1) (g0 2) (((1 * ((1 * r 3 + 0) + 0) + 0) + 0)).toNat m ((1 * r 0 + 0) + 0))
  try simp only [Int.one_mul, Int.zero_add, Int.add_zero]
  try simp only [Int.one_mul, Int.zero_add, Int.add_zero] at e7
  try simp only [Int.one_mul, Int.zero_add, Int.add_zero] at e6
  rw [k7 1 (by decide), k7 2 (by decide), k7 3 (by decide), hgi] at e6
  try simp only [Int.one_mul, Int.zero_add, Int.add_zero] at e3
  try simp only [Int.one_mul, Int.zero_add, Int.add_zero] at e4
  try simp only [Int.one_mul, Int.zero_add, Int.add_zero] at e5
  try simp only [Int.one_mul, Int.zero_add, Int.add_zero] at e1
  try simp only [Int.one_mul, Int.zero_add, Int.add_zero] at e2
  try simp only [Int.one_mul, Int.zero_add, Int.add_zero] at e0
  rw [show r 28 + r 29 = r 29 + r 28 by omega] at e1
  rw [show r 28 + r 29 = r 29 + r 28 by omega] at e0
  refine ⟨fun q => absurd (by omega) q, fun _ hr => ⟨((1 : Int), r 26, r 27, r 29, r 28), (ye_mw hr e6.1 e6.2).1, (ye_mw hr e6.1 e6.2).2, ?_⟩⟩
  unfold ye_rw
  try dsimp only
  try rw [if_neg (show ¬ (1 : Int) = 0 by omega)]
  rw [show r 0 = 4 by omega]
  unfold ye_wd
  rw [if_neg (by decide), if_neg (by decide), if_neg (by decide), if_neg (by decide), if_pos rfl]
  rw [ye_w2e (show r 26 ≠ 0 ∨ r 27 ≠ 0 by omega) e2 e1]
  exact e0
theorem xw_1086_0_23 : yt_hold xT_1086 xk_1086 xq_1086.2.2.1 xG_1086 xP_1086 xU_1086 26 xk_1086.2.1.2.2.2 (fun g0 r g => xR_1086 r g0 ∧ g = g0) (0, ([(5, 5), ((-2147483648), 2147483647), ((-2147483648), 2147483647), (1, 40), ((-2147483648), 2147483647), (0, 4), ((-9223372036854775808), 9223372036854775807), ((-9223372036854775808), 9223372036854775807), ((-9223372036854775808), 9223372036854775807), (0, 1), ((-4000), 4000), ((-4000), 4000), ((-8000000), 8000000), ((-8000000), 8000000), (0, 12), ((-9223372036854775808), 9223372036854775807), ((-9223372036854775808), 9223372036854775807), ((-9223372036854775808), 9223372036854775807), ((-9223372036854775808), 9223372036854775807), ((-9223372036854775808), 9223372036854775807), (0, 12), ((-2147483648), 2147483647), (0, 12), ((-2147483648), 2147483647), (0, 40), (0, 40), (1, 4000), ((-8000000), 4000000), ((-1200000), 8000000), (0, 256000000000000), (1, 16000000), (1, 4611686018427387904), (1, 4611686018427387904)], []), [([], 0), ([], 0), ([], 1), ([], 0), ([(26, 1)], 0), ([(27, 1)], 0), ([(28, 1)], 0)], [], [.inr (.inr (.inl (320, 0, [([(31, 1)], 0), ([(27, 1), (28, 1)], 0), ([(32, 1)], 0)], [], []))), .inr (.inr (.inl (322, 0, [([], 0), ([(26, 2)], 0), ([(31, 1)], 0)], [], []))), .inl (.inr (30, ([(26, 1)], 0), ([(26, 1)], 0))), .inl (.inr (29, ([(27, (-1)), (28, 1)], 0), ([(27, (-1)), (28, 1)], 0))), .inr (.inr (.inl (331, 2, [([], 0), ([(2, 1)], 0), ([(3, 1)], 0), ([(4, 1)], 0), ([(5, 1)], 0), ([(6, 1)], 0), ([(7, 1)], 0), ([(8, 1)], 0), ([(9, 1)], 0), ([(10, 1)], 0), ([(11, 1)], 0), ([(12, 1)], 0), ([(13, 1)], 0), ([(14, 1)], 0), ([(15, 1)], 0), ([(16, 1)], 0), ([(17, 1)], 0), ([(18, 1)], 0), ([(19, 1)], 0), ([(20, 1)], 0), ([(21, 1)], 0), ([(22, 1)], 0), ([(23, 1)], 0), ([(24, 1)], 0), ([(25, 1)], 0), ([(26, 1)], 0), ([(27, 1)], 0), ([(28, 1)], 0)], [0, 1, 2, 3, 4, 5, 6, 7, 8, 9, 10, 11, 12, 13, 14, 15, 16, 17, 18, 19, 20, 21, 22, 23, 24, 25, 26, 27, 28, 29, 30, 31, 32, 33, 34, 35, 36], []))), .inr (.inr (.inl (258, 1, [([(0, 1)], 0), ([], 0), ([], 5)], [], [])))]) := by
  intro g0 r gi g hok hh hars hfr hG
  have b0 : 5 ≤ r 0 ∧ r 0 ≤ 5 := hok.1 0 (5, 5) rfl
  have b3 : 1 ≤ r 3 ∧ r 3 ≤ 40 := hok.1 3 (1, 40) rfl
  have b26 : 1 ≤ r 26 ∧ r 26 ≤ 4000 := hok.1 26 (1, 4000) rfl
  have b27 : (-8000000) ≤ r 27 ∧ r 27 ≤ 4000000 := hok.1 27 ((-8000000), 4000000) rfl
  have b28 : (-1200000) ≤ r 28 ∧ r 28 ≤ 8000000 := hok.1 28 ((-1200000), 8000000) rfl
  have b29 : 0 ≤ r 29 ∧ r 29 ≤ 256000000000000 := hok.1 29 (0, 256000000000000) rfl
  have b30 : 1 ≤ r 30 ∧ r 30 ≤ 16000000 := hok.1 30 (1, 16000000) rfl
  have b31 : 1 ≤ r 31 ∧ r 31 ≤ 4611686018427387904 := hok.1 31 (1, 4611686018427387904) rfl
  have b32 : 1 ≤ r 32 ∧ r 32 ≤ 4611686018427387904 := hok.1 32 (1, 4611686018427387904) rfl
  obtain ⟨hG, hgi⟩ := hG
  have hG : True := hG
  obtain ⟨h0, hh, e0, k0⟩ := hh
  have k0 : ∀ j, j ∉ [] → g j = h0 j := k0
  have e0 : ((1 * r 32 + 0) + 0) = ((Nat.gcd (((1 * r 31 + 0) + 0)).natAbs (((1 * r 27 + (1 * r 28 + 0)) + 0)).natAbs : Nat) : Int) := e0
  obtain ⟨h1, hh, e1, k1⟩ := hh
  have k1 : ∀ j, j ∉ [] → h0 j = h1 j := k1
  have e1 : ((1 * r 31 + 0) + 0) = ((Nat.gcd (((0 : Int) + 0)).natAbs (((2 * r 26 + 0) + 0)).natAbs : Nat) : Int) := e1
  obtain ⟨g2, hh, q2, e2⟩ := hh
  subst q2
  have e2 : r 30 = ((1 * r 26 + 0) + 0) * ((1 * r 26 + 0) + 0) := e2
  try simp only [Int.one_mul, Int.zero_add, Int.add_zero] at e2
  obtain ⟨g3, hh, q3, e3⟩ := hh
  subst q3
  have e3 : r 29 = (((-1) * r 27 + (1 * r 28 + 0)) + 0) * (((-1) * r 27 + (1 * r 28 + 0)) + 0) := e3
  try simp only [Int.one_mul, Int.zero_add, Int.add_zero] at e3
  obtain ⟨h4, hh, e4, k4⟩ := hh
  have k4 : ∀ j, j ∉ [] → h1 j = h4 j := k4
  have e4 : (¬ (0 < yq_cnt (h4 3) 0 (((1 * ((1 * r 3 + 0) + 0) + 0) + 0)).toNat ∧ 0 < yq_cnt (h4 3) 1 (((1 * ((1 * r 3 + 0) + 0) + 0) + 0)).toNat) → ((0 : Int) + 1) = 0) ∧ ((0 < yq_cnt (h4 3) 0 (((1 * ((1 * r 3 + 0) + 0) + 0) + 0)).toNat ∧ 0 < yq_cnt (h4 3) 1 (((1 * ((1 * r 3 + 0) + 0) + 0) + 0)).toNat) → ye_nr (h4 1) (h4 2) (h4 3) (((1 * ((1 * r 3 + 0) + 0) + 0) + 0)).toNat → ye_J (h4 1) (h4 2) (h4 3) (((1 * ((1 * r 3 + 0) + 0) + 0) + 0)).toNat (((1 * ((1 * r 3 + 0) + 0) + 0) + 0)).toNat 0 (((0 : Int) + 1), ((0 : Int) + 0), ((1 * ((1 * r 26 + 0) + 0) + 0) + 0), ((1 * ((1 * r 28 + 0) + 0) + 0) + 0), ((1 * ((1 * r 27 + 0) + 0) + 0) + 0)) ∧ ye_tB (((0 : Int) + 1), ((0 : Int) + 0), ((1 * ((1 * r 26 + 0) + 0) + 0) + 0), ((1 * ((1 * r 28 + 0) + 0) + 0) + 0), ((1 * ((1 * r 27 + 0) + 0) + 0) + 0))) := e4
  obtain ⟨h5, hh, e5, k5⟩ := hh
  have k5 : ∀ j, j ∉ [] → h4 j = h5 j := k5
  have e5 : (((0 : Int) + 0) ≤ ((1 * r 0 + 0) + 0) ∧ ((1 * r 0 + 0) + 0) ≤ ((0 : Int) + 5)) := e5
  have hh : h5 = gi := hh
  subst hh
  refine yt_dcut (by decide) rfl ?_ ?_
  · rw [show xk_1086.2.1.2.1.1.length = 26 from rfl]
    refine yx_fks _ _ ?_
    refine ⟨?_, ?_, trivial⟩
    · show 0 ≤ ((1 * ((0 : Int) + 0) + 0) + 0)
      omega
    · show 0 ≤ (((-1) * ((0 : Int) + 0) + (1 * ((0 : Int) + 0) + 0)) + 0)
      omega
  · rw [show xk_1086.2.1.2.1.1.length = 26 from rfl]
    show ((1 * r 0 + 0) + 0) = 5 ∧ ((1 * ((0 : Int) + 0) + 0) + 0) = ye_sc (g0 1) (g0 2) ((1 * ((0 : Int) + 0) + 0) + 0) ((1 * ((1 * r 26 + 0) + 0) + 0) + 0) ((1 * ((1 * r 28 + 0) + 0) + 0) + 0) ((1 * ((1 * r 27 + 0) + 0) + 0) + 0) (((1 * ((0 : Int) + 0) + 0) + 0)).toNat ∧ ((1 * ((0 : Int) + 0) + 0) + 0) ≤ ((1 * ((1 * r 3 + 0) + 0) + 0) + 0) ∧ ((1 * ((0 : Int) + 1) + 0) + 0) = 1 ∧ (ye_nr (g0 1) (g0 2) (g0 3) (((1 * ((1 * r 3 + 0) + 0) + 0) + 0)).toNat → ye_way (g0 1) (g0 2) (g0 3) (((1 * ((1 * r 3 + 0) + 0) + 0) + 0)).toNat (((1 * ((0 : Int) + 1) + 0) + 0), ((1 * ((0 : Int) + 0) + 0) + 0), ((1 * ((1 * r 26 + 0) + 0) + 0) + 0), ((1 * ((1 * r 28 + 0) + 0) + 0) + 0), ((1 * ((1 * r 27 + 0) + 0) + 0) + 0)) ∧ ye_tb (((1 * ((0 : Int) + 1) + 0) + 0), ((1 * ((0 : Int) + 0) + 0) + 0), ((1 * ((1 * r 26 + 0) + 0) + 0) + 0), ((1 * ((1 * r 28 + 0) + 0) + 0) + 0), ((1 * ((1 * r 27 + 0) + 0) + 0) + 0)))
    try simp only [Int.one_mul, Int.zero_add, Int.add_zero]
    try simp only [Int.one_mul, Int.zero_add, Int.add_zero] at e5
    try simp only [Int.one_mul, Int.zero_add, Int.add_zero] at e4
    rw [k5 1 (by decide), k5 2 (by decide), k5 3 (by decide), hgi] at e4
    exact ⟨by omega, rfl, by omega, by omega, fun hr => ye_mw hr e4.1 e4.2⟩
theorem xw_1086_0_24 : yt_hold xT_1086 xk_1086 xq_1086.2.2.1 xG_1086 xP_1086 xU_1086 26 xk_1086.2.1.2.2.2 (fun g0 r g => xR_1086 r g0 ∧ g = g0) (1000, ([(0, 0), ((-2147483648), 2147483647), ((-2147483648), 2147483647), (1, 40), ((-2147483648), 2147483647), (0, 4), ((-9223372036854775808), 9223372036854775807), ((-9223372036854775808), 9223372036854775807), ((-9223372036854775808), 9223372036854775807), (0, 1), ((-4000), 4000), ((-4000), 4000), ((-8000000), 8000000), ((-8000000), 8000000), (0, 12), ((-9223372036854775808), 9223372036854775807), ((-9223372036854775808), 9223372036854775807), ((-9223372036854775808), 9223372036854775807), ((-9223372036854775808), 9223372036854775807), ((-9223372036854775808), 9223372036854775807), (0, 12), ((-2147483648), 2147483647), (0, 12), ((-2147483648), 2147483647), (0, 40), (0, 40), (1, 4000), ((-8000000), 4000000), ((-1200000), 8000000), (0, 256000000000000), (1, 16000000), (1, 4611686018427387904), (1, 4611686018427387904), ((-4611686018427387904), 4611686018427387904)], []), [([(33, 1)], 0), ([], 1), ([], 0), ([(26, 1)], 0), ([(27, 1)], 0), ([(28, 1)], 0)], [], [.inr (.inr (.inl (332, 0, [([(29, 1)], 0), ([(30, 1)], 0), ([], 1), ([(33, 1)], 0)], [], []))), .inr (.inr (.inl (320, 0, [([(31, 1)], 0), ([(27, 1), (28, 1)], 0), ([(32, 1)], 0)], [], []))), .inr (.inr (.inl (322, 0, [([], 0), ([(26, 2)], 0), ([(31, 1)], 0)], [], []))), .inl (.inr (30, ([(26, 1)], 0), ([(26, 1)], 0))), .inl (.inr (29, ([(27, (-1)), (28, 1)], 0), ([(27, (-1)), (28, 1)], 0))), .inr (.inr (.inl (331, 2, [([], 0), ([(2, 1)], 0), ([(3, 1)], 0), ([(4, 1)], 0), ([(5, 1)], 0), ([(6, 1)], 0), ([(7, 1)], 0), ([(8, 1)], 0), ([(9, 1)], 0), ([(10, 1)], 0), ([(11, 1)], 0), ([(12, 1)], 0), ([(13, 1)], 0), ([(14, 1)], 0), ([(15, 1)], 0), ([(16, 1)], 0), ([(17, 1)], 0), ([(18, 1)], 0), ([(19, 1)], 0), ([(20, 1)], 0), ([(21, 1)], 0), ([(22, 1)], 0), ([(23, 1)], 0), ([(24, 1)], 0), ([(25, 1)], 0), ([(26, 1)], 0), ([(27, 1)], 0), ([(28, 1)], 0)], [0, 1, 2, 3, 4, 5, 6, 7, 8, 9, 10, 11, 12, 13, 14, 15, 16, 17, 18, 19, 20, 21, 22, 23, 24, 25, 26, 27, 28, 29, 30, 31, 32, 33, 34, 35, 36], []))), .inr (.inr (.inl (258, 1, [([(0, 1)], 0), ([], 0), ([], 5)], [], [])))]) := by
  intro g0 r gi g hok hh hars hfr hG
  have b0 : 0 ≤ r 0 ∧ r 0 ≤ 0 := hok.1 0 (0, 0) rfl
  have b3 : 1 ≤ r 3 ∧ r 3 ≤ 40 := hok.1 3 (1, 40) rfl
  have b26 : 1 ≤ r 26 ∧ r 26 ≤ 4000 := hok.1 26 (1, 4000) rfl
  have b27 : (-8000000) ≤ r 27 ∧ r 27 ≤ 4000000 := hok.1 27 ((-8000000), 4000000) rfl
  have b28 : (-1200000) ≤ r 28 ∧ r 28 ≤ 8000000 := hok.1 28 ((-1200000), 8000000) rfl
  have b29 : 0 ≤ r 29 ∧ r 29 ≤ 256000000000000 := hok.1 29 (0, 256000000000000) rfl
  have b30 : 1 ≤ r 30 ∧ r 30 ≤ 16000000 := hok.1 30 (1, 16000000) rfl
  have b31 : 1 ≤ r 31 ∧ r 31 ≤ 4611686018427387904 := hok.1 31 (1, 4611686018427387904) rfl
  have b32 : 1 ≤ r 32 ∧ r 32 ≤ 4611686018427387904 := hok.1 32 (1, 4611686018427387904) rfl
  have b33 : (-4611686018427387904) ≤ r 33 ∧ r 33 ≤ 4611686018427387904 := hok.1 33 ((-4611686018427387904), 4611686018427387904) rfl
  obtain ⟨hG, hgi⟩ := hG
  have hG : True := hG
  obtain ⟨h0, hh, e0, k0⟩ := hh
  have k0 : ∀ j, j ∉ [] → g j = h0 j := k0
  have e0 : ((1 * r 33 + 0) + 0) = ye_pt ((1 * r 29 + 0) + 0) ((1 * r 30 + 0) + 0) ((0 : Int) + 1) := e0
  obtain ⟨h1, hh, e1, k1⟩ := hh
  have k1 : ∀ j, j ∉ [] → h0 j = h1 j := k1
  have e1 : ((1 * r 32 + 0) + 0) = ((Nat.gcd (((1 * r 31 + 0) + 0)).natAbs (((1 * r 27 + (1 * r 28 + 0)) + 0)).natAbs : Nat) : Int) := e1
  obtain ⟨h2, hh, e2, k2⟩ := hh
  have k2 : ∀ j, j ∉ [] → h1 j = h2 j := k2
  have e2 : ((1 * r 31 + 0) + 0) = ((Nat.gcd (((0 : Int) + 0)).natAbs (((2 * r 26 + 0) + 0)).natAbs : Nat) : Int) := e2
  obtain ⟨g3, hh, q3, e3⟩ := hh
  subst q3
  have e3 : r 30 = ((1 * r 26 + 0) + 0) * ((1 * r 26 + 0) + 0) := e3
  try simp only [Int.one_mul, Int.zero_add, Int.add_zero] at e3
  obtain ⟨g4, hh, q4, e4⟩ := hh
  subst q4
  have e4 : r 29 = (((-1) * r 27 + (1 * r 28 + 0)) + 0) * (((-1) * r 27 + (1 * r 28 + 0)) + 0) := e4
  try simp only [Int.one_mul, Int.zero_add, Int.add_zero] at e4
  obtain ⟨h5, hh, e5, k5⟩ := hh
  have k5 : ∀ j, j ∉ [] → h2 j = h5 j := k5
  have e5 : (¬ (0 < yq_cnt (h5 3) 0 (((1 * ((1 * r 3 + 0) + 0) + 0) + 0)).toNat ∧ 0 < yq_cnt (h5 3) 1 (((1 * ((1 * r 3 + 0) + 0) + 0) + 0)).toNat) → ((0 : Int) + 1) = 0) ∧ ((0 < yq_cnt (h5 3) 0 (((1 * ((1 * r 3 + 0) + 0) + 0) + 0)).toNat ∧ 0 < yq_cnt (h5 3) 1 (((1 * ((1 * r 3 + 0) + 0) + 0) + 0)).toNat) → ye_nr (h5 1) (h5 2) (h5 3) (((1 * ((1 * r 3 + 0) + 0) + 0) + 0)).toNat → ye_J (h5 1) (h5 2) (h5 3) (((1 * ((1 * r 3 + 0) + 0) + 0) + 0)).toNat (((1 * ((1 * r 3 + 0) + 0) + 0) + 0)).toNat 0 (((0 : Int) + 1), ((0 : Int) + 0), ((1 * ((1 * r 26 + 0) + 0) + 0) + 0), ((1 * ((1 * r 28 + 0) + 0) + 0) + 0), ((1 * ((1 * r 27 + 0) + 0) + 0) + 0)) ∧ ye_tB (((0 : Int) + 1), ((0 : Int) + 0), ((1 * ((1 * r 26 + 0) + 0) + 0) + 0), ((1 * ((1 * r 28 + 0) + 0) + 0) + 0), ((1 * ((1 * r 27 + 0) + 0) + 0) + 0))) := e5
  obtain ⟨h6, hh, e6, k6⟩ := hh
  have k6 : ∀ j, j ∉ [] → h5 j = h6 j := k6
  have e6 : (((0 : Int) + 0) ≤ ((1 * r 0 + 0) + 0) ∧ ((1 * r 0 + 0) + 0) ≤ ((0 : Int) + 5)) := e6
  have hh : h6 = gi := hh
  subst hh
  refine yt_dalt (by decide) (by decide) ?_
  rw [show xk_1086.2.1.2.1.1.length = 26 from rfl]
  show (¬ (0 ≤ ((1 * r 0 + 0) + 0) ∧ ((1 * r 0 + 0) + 0) ≤ 5) → ((1 * r 33 + 0) + 0) = -1) ∧ ((0 ≤ ((1 * r 0 + 0) + 0) ∧ ((1 * r 0 + 0) + 0) ≤ 5) → ye_nr (g0 1) (g0 2) (g0 3) (((1 * ((1 * r 3 + 0) + 0) + 0) + 0)).toNat → ∃ m : ye_T, ye_way (g0 1) (g0 2) (g0 3) (((1 * ((1 * r 3 + 0) + 0) + 0) + 0)).toNat m ∧ ye_tb m ∧ ((1 * r 33 + 0) + 0) = ye_rw (g0 1) (g0 2) (((1 * ((1 * r 3 + 0) + 0) + 0) + 0)).toNat m ((1 * r 0 + 0) + 0))
  try simp only [Int.one_mul, Int.zero_add, Int.add_zero]
  try simp only [Int.one_mul, Int.zero_add, Int.add_zero] at e6
  try simp only [Int.one_mul, Int.zero_add, Int.add_zero] at e5
  rw [k6 1 (by decide), k6 2 (by decide), k6 3 (by decide), hgi] at e5
  try simp only [Int.one_mul, Int.zero_add, Int.add_zero] at e3
  try simp only [Int.one_mul, Int.zero_add, Int.add_zero] at e4
  try simp only [Int.one_mul, Int.zero_add, Int.add_zero] at e0
  rw [show -1 * r 27 + r 28 = r 28 - r 27 by omega] at e4
  have sqA : (0 : Int) * (0 : Int) = 0 := by
    first
      | rfl
      | (rw [show (0 : Int) = 0 by omega] <;> rfl)
  have sqB : r 26 * r 26 = r 30 := e3.symm
  have hl : (0 : Int) * (0 : Int) + r 26 * r 26 = r 30 := by
    rw [sqA, sqB]
    omega
  rw [e4, ← hl] at e0
  refine ⟨fun q => absurd (by omega) q, fun _ hr => ⟨((1 : Int), (0 : Int), r 26, r 28, r 27), (ye_mw hr e5.1 e5.2).1, (ye_mw hr e5.1 e5.2).2, ?_⟩⟩
  unfold ye_rw
  try dsimp only
  try rw [if_neg (show ¬ (1 : Int) = 0 by omega)]
  rw [show r 0 = 0 by omega, (ye_w0e (show (0 : Int) * (0 : Int) + r 26 * r 26 ≠ 0 by rw [hl]; omega)).1]
  exact e0
theorem xw_1086_0_25 : yt_hold xT_1086 xk_1086 xq_1086.2.2.1 xG_1086 xP_1086 xU_1086 26 xk_1086.2.1.2.2.2 (fun g0 r g => xR_1086 r g0 ∧ g = g0) (1000, ([(1, 1), ((-2147483648), 2147483647), ((-2147483648), 2147483647), (1, 40), ((-2147483648), 2147483647), (0, 4), ((-9223372036854775808), 9223372036854775807), ((-9223372036854775808), 9223372036854775807), ((-9223372036854775808), 9223372036854775807), (0, 1), ((-4000), 4000), ((-4000), 4000), ((-8000000), 8000000), ((-8000000), 8000000), (0, 12), ((-9223372036854775808), 9223372036854775807), ((-9223372036854775808), 9223372036854775807), ((-9223372036854775808), 9223372036854775807), ((-9223372036854775808), 9223372036854775807), ((-9223372036854775808), 9223372036854775807), (0, 12), ((-2147483648), 2147483647), (0, 12), ((-2147483648), 2147483647), (0, 40), (0, 40), (1, 4000), ((-8000000), 4000000), ((-1200000), 8000000), (0, 256000000000000), (1, 16000000), (1, 4611686018427387904), (1, 4611686018427387904), ((-4611686018427387904), 4611686018427387904)], []), [([(33, 1)], 0), ([], 1), ([], 0), ([(26, 1)], 0), ([(27, 1)], 0), ([(28, 1)], 0)], [], [.inr (.inr (.inl (332, 0, [([(29, 1)], 0), ([(30, 1)], 0), ([], 0), ([(33, 1)], 0)], [], []))), .inr (.inr (.inl (320, 0, [([(31, 1)], 0), ([(27, 1), (28, 1)], 0), ([(32, 1)], 0)], [], []))), .inr (.inr (.inl (322, 0, [([], 0), ([(26, 2)], 0), ([(31, 1)], 0)], [], []))), .inl (.inr (30, ([(26, 1)], 0), ([(26, 1)], 0))), .inl (.inr (29, ([(27, (-1)), (28, 1)], 0), ([(27, (-1)), (28, 1)], 0))), .inr (.inr (.inl (331, 2, [([], 0), ([(2, 1)], 0), ([(3, 1)], 0), ([(4, 1)], 0), ([(5, 1)], 0), ([(6, 1)], 0), ([(7, 1)], 0), ([(8, 1)], 0), ([(9, 1)], 0), ([(10, 1)], 0), ([(11, 1)], 0), ([(12, 1)], 0), ([(13, 1)], 0), ([(14, 1)], 0), ([(15, 1)], 0), ([(16, 1)], 0), ([(17, 1)], 0), ([(18, 1)], 0), ([(19, 1)], 0), ([(20, 1)], 0), ([(21, 1)], 0), ([(22, 1)], 0), ([(23, 1)], 0), ([(24, 1)], 0), ([(25, 1)], 0), ([(26, 1)], 0), ([(27, 1)], 0), ([(28, 1)], 0)], [0, 1, 2, 3, 4, 5, 6, 7, 8, 9, 10, 11, 12, 13, 14, 15, 16, 17, 18, 19, 20, 21, 22, 23, 24, 25, 26, 27, 28, 29, 30, 31, 32, 33, 34, 35, 36], []))), .inr (.inr (.inl (258, 1, [([(0, 1)], 0), ([], 0), ([], 5)], [], [])))]) := by
  intro g0 r gi g hok hh hars hfr hG
  have b0 : 1 ≤ r 0 ∧ r 0 ≤ 1 := hok.1 0 (1, 1) rfl
  have b3 : 1 ≤ r 3 ∧ r 3 ≤ 40 := hok.1 3 (1, 40) rfl
  have b26 : 1 ≤ r 26 ∧ r 26 ≤ 4000 := hok.1 26 (1, 4000) rfl
  have b27 : (-8000000) ≤ r 27 ∧ r 27 ≤ 4000000 := hok.1 27 ((-8000000), 4000000) rfl
  have b28 : (-1200000) ≤ r 28 ∧ r 28 ≤ 8000000 := hok.1 28 ((-1200000), 8000000) rfl
  have b29 : 0 ≤ r 29 ∧ r 29 ≤ 256000000000000 := hok.1 29 (0, 256000000000000) rfl
  have b30 : 1 ≤ r 30 ∧ r 30 ≤ 16000000 := hok.1 30 (1, 16000000) rfl
  have b31 : 1 ≤ r 31 ∧ r 31 ≤ 4611686018427387904 := hok.1 31 (1, 4611686018427387904) rfl
  have b32 : 1 ≤ r 32 ∧ r 32 ≤ 4611686018427387904 := hok.1 32 (1, 4611686018427387904) rfl
  have b33 : (-4611686018427387904) ≤ r 33 ∧ r 33 ≤ 4611686018427387904 := hok.1 33 ((-4611686018427387904), 4611686018427387904) rfl
  obtain ⟨hG, hgi⟩ := hG
  have hG : True := hG
  obtain ⟨h0, hh, e0, k0⟩ := hh
  have k0 : ∀ j, j ∉ [] → g j = h0 j := k0
  have e0 : ((1 * r 33 + 0) + 0) = ye_pt ((1 * r 29 + 0) + 0) ((1 * r 30 + 0) + 0) ((0 : Int) + 0) := e0
  obtain ⟨h1, hh, e1, k1⟩ := hh
  have k1 : ∀ j, j ∉ [] → h0 j = h1 j := k1
  have e1 : ((1 * r 32 + 0) + 0) = ((Nat.gcd (((1 * r 31 + 0) + 0)).natAbs (((1 * r 27 + (1 * r 28 + 0)) + 0)).natAbs : Nat) : Int) := e1
  obtain ⟨h2, hh, e2, k2⟩ := hh
  have k2 : ∀ j, j ∉ [] → h1 j = h2 j := k2
  have e2 : ((1 * r 31 + 0) + 0) = ((Nat.gcd (((0 : Int) + 0)).natAbs (((2 * r 26 + 0) + 0)).natAbs : Nat) : Int) := e2
  obtain ⟨g3, hh, q3, e3⟩ := hh
  subst q3
  have e3 : r 30 = ((1 * r 26 + 0) + 0) * ((1 * r 26 + 0) + 0) := e3
  try simp only [Int.one_mul, Int.zero_add, Int.add_zero] at e3
  obtain ⟨g4, hh, q4, e4⟩ := hh
  subst q4
  have e4 : r 29 = (((-1) * r 27 + (1 * r 28 + 0)) + 0) * (((-1) * r 27 + (1 * r 28 + 0)) + 0) := e4
  try simp only [Int.one_mul, Int.zero_add, Int.add_zero] at e4
  obtain ⟨h5, hh, e5, k5⟩ := hh
  have k5 : ∀ j, j ∉ [] → h2 j = h5 j := k5
  have e5 : (¬ (0 < yq_cnt (h5 3) 0 (((1 * ((1 * r 3 + 0) + 0) + 0) + 0)).toNat ∧ 0 < yq_cnt (h5 3) 1 (((1 * ((1 * r 3 + 0) + 0) + 0) + 0)).toNat) → ((0 : Int) + 1) = 0) ∧ ((0 < yq_cnt (h5 3) 0 (((1 * ((1 * r 3 + 0) + 0) + 0) + 0)).toNat ∧ 0 < yq_cnt (h5 3) 1 (((1 * ((1 * r 3 + 0) + 0) + 0) + 0)).toNat) → ye_nr (h5 1) (h5 2) (h5 3) (((1 * ((1 * r 3 + 0) + 0) + 0) + 0)).toNat → ye_J (h5 1) (h5 2) (h5 3) (((1 * ((1 * r 3 + 0) + 0) + 0) + 0)).toNat (((1 * ((1 * r 3 + 0) + 0) + 0) + 0)).toNat 0 (((0 : Int) + 1), ((0 : Int) + 0), ((1 * ((1 * r 26 + 0) + 0) + 0) + 0), ((1 * ((1 * r 28 + 0) + 0) + 0) + 0), ((1 * ((1 * r 27 + 0) + 0) + 0) + 0)) ∧ ye_tB (((0 : Int) + 1), ((0 : Int) + 0), ((1 * ((1 * r 26 + 0) + 0) + 0) + 0), ((1 * ((1 * r 28 + 0) + 0) + 0) + 0), ((1 * ((1 * r 27 + 0) + 0) + 0) + 0))) := e5
  obtain ⟨h6, hh, e6, k6⟩ := hh
  have k6 : ∀ j, j ∉ [] → h5 j = h6 j := k6
  have e6 : (((0 : Int) + 0) ≤ ((1 * r 0 + 0) + 0) ∧ ((1 * r 0 + 0) + 0) ≤ ((0 : Int) + 5)) := e6
  have hh : h6 = gi := hh
  subst hh
  refine yt_dalt (by decide) (by decide) ?_
  rw [show xk_1086.2.1.2.1.1.length = 26 from rfl]
  show (¬ (0 ≤ ((1 * r 0 + 0) + 0) ∧ ((1 * r 0 + 0) + 0) ≤ 5) → ((1 * r 33 + 0) + 0) = -1) ∧ ((0 ≤ ((1 * r 0 + 0) + 0) ∧ ((1 * r 0 + 0) + 0) ≤ 5) → ye_nr (g0 1) (g0 2) (g0 3) (((1 * ((1 * r 3 + 0) + 0) + 0) + 0)).toNat → ∃ m : ye_T, ye_way (g0 1) (g0 2) (g0 3) (((1 * ((1 * r 3 + 0) + 0) + 0) + 0)).toNat m ∧ ye_tb m ∧ ((1 * r 33 + 0) + 0) = ye_rw (g0 1) (g0 2) (((1 * ((1 * r 3 + 0) + 0) + 0) + 0)).toNat m ((1 * r 0 + 0) + 0))
  try simp only [Int.one_mul, Int.zero_add, Int.add_zero]
  try simp only [Int.one_mul, Int.zero_add, Int.add_zero] at e6
  try simp only [Int.one_mul, Int.zero_add, Int.add_zero] at e5
  rw [k6 1 (by decide), k6 2 (by decide), k6 3 (by decide), hgi] at e5
  try simp only [Int.one_mul, Int.zero_add, Int.add_zero] at e3
  try simp only [Int.one_mul, Int.zero_add, Int.add_zero] at e4
  try simp only [Int.one_mul, Int.zero_add, Int.add_zero] at e0
  rw [show -1 * r 27 + r 28 = r 28 - r 27 by omega] at e4
  have sqA : (0 : Int) * (0 : Int) = 0 := by
    first
      | rfl
      | (rw [show (0 : Int) = 0 by omega] <;> rfl)
  have sqB : r 26 * r 26 = r 30 := e3.symm
  have hl : (0 : Int) * (0 : Int) + r 26 * r 26 = r 30 := by
    rw [sqA, sqB]
    omega
  rw [e4, ← hl] at e0
  refine ⟨fun q => absurd (by omega) q, fun _ hr => ⟨((1 : Int), (0 : Int), r 26, r 28, r 27), (ye_mw hr e5.1 e5.2).1, (ye_mw hr e5.1 e5.2).2, ?_⟩⟩
  unfold ye_rw
  try dsimp only
  try rw [if_neg (show ¬ (1 : Int) = 0 by omega)]
  rw [show r 0 = 1 by omega, (ye_w0e (show (0 : Int) * (0 : Int) + r 26 * r 26 ≠ 0 by rw [hl]; omega)).2]
  exact e0
theorem xw_1086_0_26 : yt_hold xT_1086 xk_1086 xq_1086.2.2.1 xG_1086 xP_1086 xU_1086 26 xk_1086.2.1.2.2.2 (fun g0 r g => xR_1086 r g0 ∧ g = g0) (1000, ([(2, 2), ((-2147483648), 2147483647), ((-2147483648), 2147483647), (1, 40), ((-2147483648), 2147483647), (0, 4), ((-9223372036854775808), 9223372036854775807), ((-9223372036854775808), 9223372036854775807), ((-9223372036854775808), 9223372036854775807), (0, 1), ((-4000), 4000), ((-4000), 4000), ((-8000000), 8000000), ((-8000000), 8000000), (0, 12), ((-9223372036854775808), 9223372036854775807), ((-9223372036854775808), 9223372036854775807), ((-9223372036854775808), 9223372036854775807), ((-9223372036854775808), 9223372036854775807), ((-9223372036854775808), 9223372036854775807), (0, 12), ((-2147483648), 2147483647), (0, 12), ((-2147483648), 2147483647), (0, 40), (0, 40), (1, 4000), ((-8000000), 4000000), ((-1200000), 8000000), (0, 256000000000000), (1, 16000000), (1, 4611686018427387904), (1, 4611686018427387904), (0, 0)], []), [([], 0), ([], 1), ([], 0), ([(26, 1)], 0), ([(27, 1)], 0), ([(28, 1)], 0)], [], [.inr (.inr (.inl (998, 1, [([], 0), ([(32, 1)], 0), ([], 0)], [], []))), .inr (.inr (.inl (320, 0, [([(31, 1)], 0), ([(27, 1), (28, 1)], 0), ([(32, 1)], 0)], [], []))), .inr (.inr (.inl (322, 0, [([], 0), ([(26, 2)], 0), ([(31, 1)], 0)], [], []))), .inl (.inr (30, ([(26, 1)], 0), ([(26, 1)], 0))), .inl (.inr (29, ([(27, (-1)), (28, 1)], 0), ([(27, (-1)), (28, 1)], 0))), .inr (.inr (.inl (331, 2, [([], 0), ([(2, 1)], 0), ([(3, 1)], 0), ([(4, 1)], 0), ([(5, 1)], 0), ([(6, 1)], 0), ([(7, 1)], 0), ([(8, 1)], 0), ([(9, 1)], 0), ([(10, 1)], 0), ([(11, 1)], 0), ([(12, 1)], 0), ([(13, 1)], 0), ([(14, 1)], 0), ([(15, 1)], 0), ([(16, 1)], 0), ([(17, 1)], 0), ([(18, 1)], 0), ([(19, 1)], 0), ([(20, 1)], 0), ([(21, 1)], 0), ([(22, 1)], 0), ([(23, 1)], 0), ([(24, 1)], 0), ([(25, 1)], 0), ([(26, 1)], 0), ([(27, 1)], 0), ([(28, 1)], 0)], [0, 1, 2, 3, 4, 5, 6, 7, 8, 9, 10, 11, 12, 13, 14, 15, 16, 17, 18, 19, 20, 21, 22, 23, 24, 25, 26, 27, 28, 29, 30, 31, 32, 33, 34, 35, 36], []))), .inr (.inr (.inl (258, 1, [([(0, 1)], 0), ([], 0), ([], 5)], [], [])))]) := by
  intro g0 r gi g hok hh hars hfr hG
  have b0 : 2 ≤ r 0 ∧ r 0 ≤ 2 := hok.1 0 (2, 2) rfl
  have b3 : 1 ≤ r 3 ∧ r 3 ≤ 40 := hok.1 3 (1, 40) rfl
  have b26 : 1 ≤ r 26 ∧ r 26 ≤ 4000 := hok.1 26 (1, 4000) rfl
  have b27 : (-8000000) ≤ r 27 ∧ r 27 ≤ 4000000 := hok.1 27 ((-8000000), 4000000) rfl
  have b28 : (-1200000) ≤ r 28 ∧ r 28 ≤ 8000000 := hok.1 28 ((-1200000), 8000000) rfl
  have b29 : 0 ≤ r 29 ∧ r 29 ≤ 256000000000000 := hok.1 29 (0, 256000000000000) rfl
  have b30 : 1 ≤ r 30 ∧ r 30 ≤ 16000000 := hok.1 30 (1, 16000000) rfl
  have b31 : 1 ≤ r 31 ∧ r 31 ≤ 4611686018427387904 := hok.1 31 (1, 4611686018427387904) rfl
  have b32 : 1 ≤ r 32 ∧ r 32 ≤ 4611686018427387904 := hok.1 32 (1, 4611686018427387904) rfl
  have b33 : 0 ≤ r 33 ∧ r 33 ≤ 0 := hok.1 33 (0, 0) rfl
  obtain ⟨hG, hgi⟩ := hG
  have hG : True := hG
  obtain ⟨h0, hh, e0, k0⟩ := hh
  have k0 : ∀ j, j ∉ [] → g j = h0 j := k0
  have e0 : ((0 : Int) + 0) = (((0 : Int) + 0)).tdiv (((1 * r 32 + 0) + 0)) := e0
  obtain ⟨h1, hh, e1, k1⟩ := hh
  have k1 : ∀ j, j ∉ [] → h0 j = h1 j := k1
  have e1 : ((1 * r 32 + 0) + 0) = ((Nat.gcd (((1 * r 31 + 0) + 0)).natAbs (((1 * r 27 + (1 * r 28 + 0)) + 0)).natAbs : Nat) : Int) := e1
  obtain ⟨h2, hh, e2, k2⟩ := hh
  have k2 : ∀ j, j ∉ [] → h1 j = h2 j := k2
  have e2 : ((1 * r 31 + 0) + 0) = ((Nat.gcd (((0 : Int) + 0)).natAbs (((2 * r 26 + 0) + 0)).natAbs : Nat) : Int) := e2
  obtain ⟨g3, hh, q3, e3⟩ := hh
  subst q3
  have e3 : r 30 = ((1 * r 26 + 0) + 0) * ((1 * r 26 + 0) + 0) := e3
  try simp only [Int.one_mul, Int.zero_add, Int.add_zero] at e3
  obtain ⟨g4, hh, q4, e4⟩ := hh
  subst q4
  have e4 : r 29 = (((-1) * r 27 + (1 * r 28 + 0)) + 0) * (((-1) * r 27 + (1 * r 28 + 0)) + 0) := e4
  try simp only [Int.one_mul, Int.zero_add, Int.add_zero] at e4
  obtain ⟨h5, hh, e5, k5⟩ := hh
  have k5 : ∀ j, j ∉ [] → h2 j = h5 j := k5
  have e5 : (¬ (0 < yq_cnt (h5 3) 0 (((1 * ((1 * r 3 + 0) + 0) + 0) + 0)).toNat ∧ 0 < yq_cnt (h5 3) 1 (((1 * ((1 * r 3 + 0) + 0) + 0) + 0)).toNat) → ((0 : Int) + 1) = 0) ∧ ((0 < yq_cnt (h5 3) 0 (((1 * ((1 * r 3 + 0) + 0) + 0) + 0)).toNat ∧ 0 < yq_cnt (h5 3) 1 (((1 * ((1 * r 3 + 0) + 0) + 0) + 0)).toNat) → ye_nr (h5 1) (h5 2) (h5 3) (((1 * ((1 * r 3 + 0) + 0) + 0) + 0)).toNat → ye_J (h5 1) (h5 2) (h5 3) (((1 * ((1 * r 3 + 0) + 0) + 0) + 0)).toNat (((1 * ((1 * r 3 + 0) + 0) + 0) + 0)).toNat 0 (((0 : Int) + 1), ((0 : Int) + 0), ((1 * ((1 * r 26 + 0) + 0) + 0) + 0), ((1 * ((1 * r 28 + 0) + 0) + 0) + 0), ((1 * ((1 * r 27 + 0) + 0) + 0) + 0)) ∧ ye_tB (((0 : Int) + 1), ((0 : Int) + 0), ((1 * ((1 * r 26 + 0) + 0) + 0) + 0), ((1 * ((1 * r 28 + 0) + 0) + 0) + 0), ((1 * ((1 * r 27 + 0) + 0) + 0) + 0))) := e5
  obtain ⟨h6, hh, e6, k6⟩ := hh
  have k6 : ∀ j, j ∉ [] → h5 j = h6 j := k6
  have e6 : (((0 : Int) + 0) ≤ ((1 * r 0 + 0) + 0) ∧ ((1 * r 0 + 0) + 0) ≤ ((0 : Int) + 5)) := e6
  have hh : h6 = gi := hh
  subst hh
  refine yt_dalt (by decide) (by decide) ?_
  rw [show xk_1086.2.1.2.1.1.length = 26 from rfl]
  show (¬ (0 ≤ ((1 * r 0 + 0) + 0) ∧ ((1 * r 0 + 0) + 0) ≤ 5) → ((0 : Int) + 0) = -1) ∧ ((0 ≤ ((1 * r 0 + 0) + 0) ∧ ((1 * r 0 + 0) + 0) ≤ 5) → ye_nr (g0 1) (g0 2) (g0 3) (((1 * ((1 * r 3 + 0) + 0) + 0) + 0)).toNat → ∃ m : ye_T, ye_way (g0 1) (g0 2) (g0 3) (((1 * ((1 * r 3 + 0) + 0) + 0) + 0)).toNat m ∧ ye_tb m ∧ ((0 : Int) + 0) = ye_rw (g0 1) (g0 2) (((1 * ((1 * r 3 + 0) + 0) + 0) + 0)).toNat m ((1 * r 0 + 0) + 0))
  try simp only [Int.one_mul, Int.zero_add, Int.add_zero]
  try simp only [Int.one_mul, Int.zero_add, Int.add_zero] at e6
  try simp only [Int.one_mul, Int.zero_add, Int.add_zero] at e5
  rw [k6 1 (by decide), k6 2 (by decide), k6 3 (by decide), hgi] at e5
  try simp only [Int.one_mul, Int.zero_add, Int.add_zero] at e3
  try simp only [Int.one_mul, Int.zero_add, Int.add_zero] at e4
  try simp only [Int.one_mul, Int.zero_add, Int.add_zero] at e1
  try simp only [Int.one_mul, Int.zero_add, Int.add_zero] at e2
  try simp only [Int.one_mul, Int.zero_add, Int.add_zero] at e0
  rw [show r 27 + r 28 = r 28 + r 27 by omega] at e1
  have e2 : r 31 = ((Nat.gcd (2 * (0 : Int)).natAbs (2 * r 26).natAbs : Nat) : Int) := e2
  have e0 : (0 : Int) = (2 * (0 : Int)).tdiv (r 32) := e0
  refine ⟨fun q => absurd (by omega) q, fun _ hr => ⟨((1 : Int), (0 : Int), r 26, r 28, r 27), (ye_mw hr e5.1 e5.2).1, (ye_mw hr e5.1 e5.2).2, ?_⟩⟩
  unfold ye_rw
  try dsimp only
  try rw [if_neg (show ¬ (1 : Int) = 0 by omega)]
  rw [show r 0 = 2 by omega]
  unfold ye_wd
  rw [if_neg (by decide), if_neg (by decide), if_pos rfl]
  rw [ye_w2e (show (0 : Int) ≠ 0 ∨ r 26 ≠ 0 by omega) e2 e1]
  exact e0
theorem xw_1086_0_27 : yt_hold xT_1086 xk_1086 xq_1086.2.2.1 xG_1086 xP_1086 xU_1086 26 xk_1086.2.1.2.2.2 (fun g0 r g => xR_1086 r g0 ∧ g = g0) (1000, ([(3, 3), ((-2147483648), 2147483647), ((-2147483648), 2147483647), (1, 40), ((-2147483648), 2147483647), (0, 4), ((-9223372036854775808), 9223372036854775807), ((-9223372036854775808), 9223372036854775807), ((-9223372036854775808), 9223372036854775807), (0, 1), ((-4000), 4000), ((-4000), 4000), ((-8000000), 8000000), ((-8000000), 8000000), (0, 12), ((-9223372036854775808), 9223372036854775807), ((-9223372036854775808), 9223372036854775807), ((-9223372036854775808), 9223372036854775807), ((-9223372036854775808), 9223372036854775807), ((-9223372036854775808), 9223372036854775807), (0, 12), ((-2147483648), 2147483647), (0, 12), ((-2147483648), 2147483647), (0, 40), (0, 40), (1, 4000), ((-8000000), 4000000), ((-1200000), 8000000), (0, 256000000000000), (1, 16000000), (1, 4611686018427387904), (3, 4611686018427387904), (0, 0)], [([(32, 1), (26, (-2))], (-1)), ([(26, 2)], 0)]), [([], 0), ([], 1), ([], 0), ([(26, 1)], 0), ([(27, 1)], 0), ([(28, 1)], 0)], [], [.inr (.inr (.inl (998, 1, [([(26, 2)], 0), ([(32, 1)], 0), ([], 0)], [], []))), .inr (.inr (.inl (320, 0, [([(31, 1)], 0), ([(27, 1), (28, 1)], 0), ([(32, 1)], 0)], [], []))), .inr (.inr (.inl (322, 0, [([], 0), ([(26, 2)], 0), ([(31, 1)], 0)], [], []))), .inl (.inr (30, ([(26, 1)], 0), ([(26, 1)], 0))), .inl (.inr (29, ([(27, (-1)), (28, 1)], 0), ([(27, (-1)), (28, 1)], 0))), .inr (.inr (.inl (331, 2, [([], 0), ([(2, 1)], 0), ([(3, 1)], 0), ([(4, 1)], 0), ([(5, 1)], 0), ([(6, 1)], 0), ([(7, 1)], 0), ([(8, 1)], 0), ([(9, 1)], 0), ([(10, 1)], 0), ([(11, 1)], 0), ([(12, 1)], 0), ([(13, 1)], 0), ([(14, 1)], 0), ([(15, 1)], 0), ([(16, 1)], 0), ([(17, 1)], 0), ([(18, 1)], 0), ([(19, 1)], 0), ([(20, 1)], 0), ([(21, 1)], 0), ([(22, 1)], 0), ([(23, 1)], 0), ([(24, 1)], 0), ([(25, 1)], 0), ([(26, 1)], 0), ([(27, 1)], 0), ([(28, 1)], 0)], [0, 1, 2, 3, 4, 5, 6, 7, 8, 9, 10, 11, 12, 13, 14, 15, 16, 17, 18, 19, 20, 21, 22, 23, 24, 25, 26, 27, 28, 29, 30, 31, 32, 33, 34, 35, 36], []))), .inr (.inr (.inl (258, 1, [([(0, 1)], 0), ([], 0), ([], 5)], [], [])))]) := by
  intro g0 r gi g hok hh hars hfr hG
  have b0 : 3 ≤ r 0 ∧ r 0 ≤ 3 := hok.1 0 (3, 3) rfl
  have b3 : 1 ≤ r 3 ∧ r 3 ≤ 40 := hok.1 3 (1, 40) rfl
  have b26 : 1 ≤ r 26 ∧ r 26 ≤ 4000 := hok.1 26 (1, 4000) rfl
  have b27 : (-8000000) ≤ r 27 ∧ r 27 ≤ 4000000 := hok.1 27 ((-8000000), 4000000) rfl
  have b28 : (-1200000) ≤ r 28 ∧ r 28 ≤ 8000000 := hok.1 28 ((-1200000), 8000000) rfl
  have b29 : 0 ≤ r 29 ∧ r 29 ≤ 256000000000000 := hok.1 29 (0, 256000000000000) rfl
  have b30 : 1 ≤ r 30 ∧ r 30 ≤ 16000000 := hok.1 30 (1, 16000000) rfl
  have b31 : 1 ≤ r 31 ∧ r 31 ≤ 4611686018427387904 := hok.1 31 (1, 4611686018427387904) rfl
  have b32 : 3 ≤ r 32 ∧ r 32 ≤ 4611686018427387904 := hok.1 32 (3, 4611686018427387904) rfl
  have b33 : 0 ≤ r 33 ∧ r 33 ≤ 0 := hok.1 33 (0, 0) rfl
  have f0 : 0 ≤ ((1 * r 32 + ((-2) * r 26 + 0)) + (-1)) := hok.2 _ (List.mem_of_getElem? (i := 0) rfl)
  have f1 : 0 ≤ ((2 * r 26 + 0) + 0) := hok.2 _ (List.mem_of_getElem? (i := 1) rfl)
  obtain ⟨hG, hgi⟩ := hG
  have hG : True := hG
  obtain ⟨h0, hh, e0, k0⟩ := hh
  have k0 : ∀ j, j ∉ [] → g j = h0 j := k0
  have e0 : ((0 : Int) + 0) = (((2 * r 26 + 0) + 0)).tdiv (((1 * r 32 + 0) + 0)) := e0
  obtain ⟨h1, hh, e1, k1⟩ := hh
  have k1 : ∀ j, j ∉ [] → h0 j = h1 j := k1
  have e1 : ((1 * r 32 + 0) + 0) = ((Nat.gcd (((1 * r 31 + 0) + 0)).natAbs (((1 * r 27 + (1 * r 28 + 0)) + 0)).natAbs : Nat) : Int) := e1
  obtain ⟨h2, hh, e2, k2⟩ := hh
  have k2 : ∀ j, j ∉ [] → h1 j = h2 j := k2
  have e2 : ((1 * r 31 + 0) + 0) = ((Nat.gcd (((0 : Int) + 0)).natAbs (((2 * r 26 + 0) + 0)).natAbs : Nat) : Int) := e2
  obtain ⟨g3, hh, q3, e3⟩ := hh
  subst q3
  have e3 : r 30 = ((1 * r 26 + 0) + 0) * ((1 * r 26 + 0) + 0) := e3
  try simp only [Int.one_mul, Int.zero_add, Int.add_zero] at e3
  obtain ⟨g4, hh, q4, e4⟩ := hh
  subst q4
  have e4 : r 29 = (((-1) * r 27 + (1 * r 28 + 0)) + 0) * (((-1) * r 27 + (1 * r 28 + 0)) + 0) := e4
  try simp only [Int.one_mul, Int.zero_add, Int.add_zero] at e4
  obtain ⟨h5, hh, e5, k5⟩ := hh
  have k5 : ∀ j, j ∉ [] → h2 j = h5 j := k5
  have e5 : (¬ (0 < yq_cnt (h5 3) 0 (((1 * ((1 * r 3 + 0) + 0) + 0) + 0)).toNat ∧ 0 < yq_cnt (h5 3) 1 (((1 * ((1 * r 3 + 0) + 0) + 0) + 0)).toNat) → ((0 : Int) + 1) = 0) ∧ ((0 < yq_cnt (h5 3) 0 (((1 * ((1 * r 3 + 0) + 0) + 0) + 0)).toNat ∧ 0 < yq_cnt (h5 3) 1 (((1 * ((1 * r 3 + 0) + 0) + 0) + 0)).toNat) → ye_nr (h5 1) (h5 2) (h5 3) (((1 * ((1 * r 3 + 0) + 0) + 0) + 0)).toNat → ye_J (h5 1) (h5 2) (h5 3) (((1 * ((1 * r 3 + 0) + 0) + 0) + 0)).toNat (((1 * ((1 * r 3 + 0) + 0) + 0) + 0)).toNat 0 (((0 : Int) + 1), ((0 : Int) + 0), ((1 * ((1 * r 26 + 0) + 0) + 0) + 0), ((1 * ((1 * r 28 + 0) + 0) + 0) + 0), ((1 * ((1 * r 27 + 0) + 0) + 0) + 0)) ∧ ye_tB (((0 : Int) + 1), ((0 : Int) + 0), ((1 * ((1 * r 26 + 0) + 0) + 0) + 0), ((1 * ((1 * r 28 + 0) + 0) + 0) + 0), ((1 * ((1 * r 27 + 0) + 0) + 0) + 0))) := e5
  obtain ⟨h6, hh, e6, k6⟩ := hh
  have k6 : ∀ j, j ∉ [] → h5 j = h6 j := k6
  have e6 : (((0 : Int) + 0) ≤ ((1 * r 0 + 0) + 0) ∧ ((1 * r 0 + 0) + 0) ≤ ((0 : Int) + 5)) := e6
  have hh : h6 = gi := hh
  subst hh
  refine yt_dalt (by decide) (by decide) ?_
  rw [show xk_1086.2.1.2.1.1.length = 26 from rfl]
  show (¬ (0 ≤ ((1 * r 0 + 0) + 0) ∧ ((1 * r 0 + 0) + 0) ≤ 5) → ((0 : Int) + 0) = -1) ∧ ((0 ≤ ((1 * r 0 + 0) + 0) ∧ ((1 * r 0 + 0) + 0) ≤ 5) → ye_nr (g0 1) (g0 2) (g0 3) (((1 * ((1 * r 3 + 0) + 0) + 0) + 0)).toNat → ∃ m : ye_T, ye_way (g0 1) (g0 2) (g0 3) (((1 * ((1 * r 3 + 0) + 0) + 0) + 0)).toNat m ∧ ye_tb m ∧ ((0 : Int) + 0) = ye_rw (g0 1) (g0 2) (((1 * ((1 * r 3 + 0) + 0) + 0) + 0)).toNat m ((1 * r 0 + 0) + 0))
  try simp only [Int.one_mul, Int.zero_add, Int.add_zero]
  try simp only [Int.one_mul, Int.zero_add, Int.add_zero] at e6
  try simp only [Int.one_mul, Int.zero_add, Int.add_zero] at e5
  rw [k6 1 (by decide), k6 2 (by decide), k6 3 (by decide), hgi] at e5
  try simp only [Int.one_mul, Int.zero_add, Int.add_zero] at e3
  try simp only [Int.one_mul, Int.zero_add, Int.add_zero] at e4
  try simp only [Int.one_mul, Int.zero_add, Int.add_zero] at e1
  try simp only [Int.one_mul, Int.zero_add, Int.add_zero] at e2
  try simp only [Int.one_mul, Int.zero_add, Int.add_zero] at e0
  rw [show r 27 + r 28 = r 28 + r 27 by omega] at e1
  have e2 : r 31 = ((Nat.gcd (2 * (0 : Int)).natAbs (2 * r 26).natAbs : Nat) : Int) := e2
  refine ⟨fun q => absurd (by omega) q, fun _ hr => ⟨((1 : Int), (0 : Int), r 26, r 28, r 27), (ye_mw hr e5.1 e5.2).1, (ye_mw hr e5.1 e5.2).2, ?_⟩⟩
  unfold ye_rw
  try dsimp only
  try rw [if_neg (show ¬ (1 : Int) = 0 by omega)]
  rw [show r 0 = 3 by omega]
  unfold ye_wd
  rw [if_neg (by decide), if_neg (by decide), if_neg (by decide), if_pos rfl]
  rw [ye_w2e (show (0 : Int) ≠ 0 ∨ r 26 ≠ 0 by omega) e2 e1]
  exact e0
theorem xw_1086_0_28 : yt_hold xT_1086 xk_1086 xq_1086.2.2.1 xG_1086 xP_1086 xU_1086 26 xk_1086.2.1.2.2.2 (fun g0 r g => xR_1086 r g0 ∧ g = g0) (1000, ([(3, 3), ((-2147483648), 2147483647), ((-2147483648), 2147483647), (1, 40), ((-2147483648), 2147483647), (0, 4), ((-9223372036854775808), 9223372036854775807), ((-9223372036854775808), 9223372036854775807), ((-9223372036854775808), 9223372036854775807), (0, 1), ((-4000), 4000), ((-4000), 4000), ((-8000000), 8000000), ((-8000000), 8000000), (0, 12), ((-9223372036854775808), 9223372036854775807), ((-9223372036854775808), 9223372036854775807), ((-9223372036854775808), 9223372036854775807), ((-9223372036854775808), 9223372036854775807), ((-9223372036854775808), 9223372036854775807), (0, 12), ((-2147483648), 2147483647), (0, 12), ((-2147483648), 2147483647), (0, 40), (0, 40), (1, 4000), ((-8000000), 4000000), ((-1200000), 8000000), (0, 256000000000000), (1, 16000000), (1, 4611686018427387904), (1, 8000), (1, 8000)], [([(33, (-1)), (26, 2)], 0), ([(32, (-1)), (26, 2)], 0)]), [([(33, 1)], 0), ([], 1), ([], 0), ([(26, 1)], 0), ([(27, 1)], 0), ([(28, 1)], 0)], [], [.inr (.inr (.inl (998, 1, [([(26, 2)], 0), ([(32, 1)], 0), ([(33, 1)], 0)], [], []))), .inr (.inr (.inl (320, 0, [([(31, 1)], 0), ([(27, 1), (28, 1)], 0), ([(32, 1)], 0)], [], []))), .inr (.inr (.inl (322, 0, [([], 0), ([(26, 2)], 0), ([(31, 1)], 0)], [], []))), .inl (.inr (30, ([(26, 1)], 0), ([(26, 1)], 0))), .inl (.inr (29, ([(27, (-1)), (28, 1)], 0), ([(27, (-1)), (28, 1)], 0))), .inr (.inr (.inl (331, 2, [([], 0), ([(2, 1)], 0), ([(3, 1)], 0), ([(4, 1)], 0), ([(5, 1)], 0), ([(6, 1)], 0), ([(7, 1)], 0), ([(8, 1)], 0), ([(9, 1)], 0), ([(10, 1)], 0), ([(11, 1)], 0), ([(12, 1)], 0), ([(13, 1)], 0), ([(14, 1)], 0), ([(15, 1)], 0), ([(16, 1)], 0), ([(17, 1)], 0), ([(18, 1)], 0), ([(19, 1)], 0), ([(20, 1)], 0), ([(21, 1)], 0), ([(22, 1)], 0), ([(23, 1)], 0), ([(24, 1)], 0), ([(25, 1)], 0), ([(26, 1)], 0), ([(27, 1)], 0), ([(28, 1)], 0)], [0, 1, 2, 3, 4, 5, 6, 7, 8, 9, 10, 11, 12, 13, 14, 15, 16, 17, 18, 19, 20, 21, 22, 23, 24, 25, 26, 27, 28, 29, 30, 31, 32, 33, 34, 35, 36], []))), .inr (.inr (.inl (258, 1, [([(0, 1)], 0), ([], 0), ([], 5)], [], [])))]) := by
  intro g0 r gi g hok hh hars hfr hG
  have b0 : 3 ≤ r 0 ∧ r 0 ≤ 3 := hok.1 0 (3, 3) rfl
  have b3 : 1 ≤ r 3 ∧ r 3 ≤ 40 := hok.1 3 (1, 40) rfl
  have b26 : 1 ≤ r 26 ∧ r 26 ≤ 4000 := hok.1 26 (1, 4000) rfl
  have b27 : (-8000000) ≤ r 27 ∧ r 27 ≤ 4000000 := hok.1 27 ((-8000000), 4000000) rfl
  have b28 : (-1200000) ≤ r 28 ∧ r 28 ≤ 8000000 := hok.1 28 ((-1200000), 8000000) rfl
  have b29 : 0 ≤ r 29 ∧ r 29 ≤ 256000000000000 := hok.1 29 (0, 256000000000000) rfl
  have b30 : 1 ≤ r 30 ∧ r 30 ≤ 16000000 := hok.1 30 (1, 16000000) rfl
  have b31 : 1 ≤ r 31 ∧ r 31 ≤ 4611686018427387904 := hok.1 31 (1, 4611686018427387904) rfl
  have b32 : 1 ≤ r 32 ∧ r 32 ≤ 8000 := hok.1 32 (1, 8000) rfl
  have b33 : 1 ≤ r 33 ∧ r 33 ≤ 8000 := hok.1 33 (1, 8000) rfl
  have f0 : 0 ≤ (((-1) * r 33 + (2 * r 26 + 0)) + 0) := hok.2 _ (List.mem_of_getElem? (i := 0) rfl)
  have f1 : 0 ≤ (((-1) * r 32 + (2 * r 26 + 0)) + 0) := hok.2 _ (List.mem_of_getElem? (i := 1) rfl)
  obtain ⟨hG, hgi⟩ := hG
  have hG : True := hG
  obtain ⟨h0, hh, e0, k0⟩ := hh
  have k0 : ∀ j, j ∉ [] → g j = h0 j := k0
  have e0 : ((1 * r 33 + 0) + 0) = (((2 * r 26 + 0) + 0)).tdiv (((1 * r 32 + 0) + 0)) := e0
  obtain ⟨h1, hh, e1, k1⟩ := hh
  have k1 : ∀ j, j ∉ [] → h0 j = h1 j := k1
  have e1 : ((1 * r 32 + 0) + 0) = ((Nat.gcd (((1 * r 31 + 0) + 0)).natAbs (((1 * r 27 + (1 * r 28 + 0)) + 0)).natAbs : Nat) : Int) := e1
  obtain ⟨h2, hh, e2, k2⟩ := hh
  have k2 : ∀ j, j ∉ [] → h1 j = h2 j := k2
  have e2 : ((1 * r 31 + 0) + 0) = ((Nat.gcd (((0 : Int) + 0)).natAbs (((2 * r 26 + 0) + 0)).natAbs : Nat) : Int) := e2
  obtain ⟨g3, hh, q3, e3⟩ := hh
  subst q3
  have e3 : r 30 = ((1 * r 26 + 0) + 0) * ((1 * r 26 + 0) + 0) := e3
  try simp only [Int.one_mul, Int.zero_add, Int.add_zero] at e3
  obtain ⟨g4, hh, q4, e4⟩ := hh
  subst q4
  have e4 : r 29 = (((-1) * r 27 + (1 * r 28 + 0)) + 0) * (((-1) * r 27 + (1 * r 28 + 0)) + 0) := e4
  try simp only [Int.one_mul, Int.zero_add, Int.add_zero] at e4
  obtain ⟨h5, hh, e5, k5⟩ := hh
  have k5 : ∀ j, j ∉ [] → h2 j = h5 j := k5
  have e5 : (¬ (0 < yq_cnt (h5 3) 0 (((1 * ((1 * r 3 + 0) + 0) + 0) + 0)).toNat ∧ 0 < yq_cnt (h5 3) 1 (((1 * ((1 * r 3 + 0) + 0) + 0) + 0)).toNat) → ((0 : Int) + 1) = 0) ∧ ((0 < yq_cnt (h5 3) 0 (((1 * ((1 * r 3 + 0) + 0) + 0) + 0)).toNat ∧ 0 < yq_cnt (h5 3) 1 (((1 * ((1 * r 3 + 0) + 0) + 0) + 0)).toNat) → ye_nr (h5 1) (h5 2) (h5 3) (((1 * ((1 * r 3 + 0) + 0) + 0) + 0)).toNat → ye_J (h5 1) (h5 2) (h5 3) (((1 * ((1 * r 3 + 0) + 0) + 0) + 0)).toNat (((1 * ((1 * r 3 + 0) + 0) + 0) + 0)).toNat 0 (((0 : Int) + 1), ((0 : Int) + 0), ((1 * ((1 * r 26 + 0) + 0) + 0) + 0), ((1 * ((1 * r 28 + 0) + 0) + 0) + 0), ((1 * ((1 * r 27 + 0) + 0) + 0) + 0)) ∧ ye_tB (((0 : Int) + 1), ((0 : Int) + 0), ((1 * ((1 * r 26 + 0) + 0) + 0) + 0), ((1 * ((1 * r 28 + 0) + 0) + 0) + 0), ((1 * ((1 * r 27 + 0) + 0) + 0) + 0))) := e5
  obtain ⟨h6, hh, e6, k6⟩ := hh
  have k6 : ∀ j, j ∉ [] → h5 j = h6 j := k6
  have e6 : (((0 : Int) + 0) ≤ ((1 * r 0 + 0) + 0) ∧ ((1 * r 0 + 0) + 0) ≤ ((0 : Int) + 5)) := e6
  have hh : h6 = gi := hh
  subst hh
  refine yt_dalt (by decide) (by decide) ?_
  rw [show xk_1086.2.1.2.1.1.length = 26 from rfl]
  show (¬ (0 ≤ ((1 * r 0 + 0) + 0) ∧ ((1 * r 0 + 0) + 0) ≤ 5) → ((1 * r 33 + 0) + 0) = -1) ∧ ((0 ≤ ((1 * r 0 + 0) + 0) ∧ ((1 * r 0 + 0) + 0) ≤ 5) → ye_nr (g0 1) (g0 2) (g0 3) (((1 * ((1 * r 3 + 0) + 0) + 0) + 0)).toNat → ∃ m : ye_T, ye_way (g0 1) (g0 2) (g0 3) (((1 * ((1 * r 3 + 0) + 0) + 0) + 0)).toNat m ∧ ye_tb m ∧ ((1 * r 33 + 0) + 0) = ye_rw (g0 1) (g0 2) (((1 * ((1 * r 3 + 0) + 0) + 0) + 0)).toNat m ((1 * r 0 + 0) + 0))
  try simp only [Int.one_mul, Int.zero_add, Int.add_zero]
  try simp only [Int.one_mul, Int.zero_add, Int.add_zero] at e6
  try simp only [Int.one_mul, Int.zero_add, Int.add_zero] at e5
  rw [k6 1 (by decide), k6 2 (by decide), k6 3 (by decide), hgi] at e5
  try simp only [Int.one_mul, Int.zero_add, Int.add_zero] at e3
  try simp only [Int.one_mul, Int.zero_add, Int.add_zero] at e4
  try simp only [Int.one_mul, Int.zero_add, Int.add_zero] at e1
  try simp only [Int.one_mul, Int.zero_add, Int.add_zero] at e2
  try simp only [Int.one_mul, Int.zero_add, Int.add_zero] at e0
  rw [show r 27 + r 28 = r 28 + r 27 by omega] at e1
  have e2 : r 31 = ((Nat.gcd (2 * (0 : Int)).natAbs (2 * r 26).natAbs : Nat) : Int) := e2
  refine ⟨fun q => absurd (by omega) q, fun _ hr => ⟨((1 : Int), (0 : Int), r 26, r 28, r 27), (ye_mw hr e5.1 e5.2).1, (ye_mw hr e5.1 e5.2).2, ?_⟩⟩
  unfold ye_rw
  try dsimp only
  try rw [if_neg (show ¬ (1 : Int) = 0 by omega)]
  rw [show r 0 = 3 by omega]
  unfold ye_wd
  rw [if_neg (by decide), if_neg (by decide), if_neg (by decide), if_pos rfl]
  rw [ye_w2e (show (0 : Int) ≠ 0 ∨ r 26 ≠ 0 by omega) e2 e1]
  exact e0
theorem xw_1086_0_29 : yt_hold xT_1086 xk_1086 xq_1086.2.2.1 xG_1086 xP_1086 xU_1086 26 xk_1086.2.1.2.2.2 (fun g0 r g => xR_1086 r g0 ∧ g = g0) (1000, ([(4, 4), ((-2147483648), 2147483647), ((-2147483648), 2147483647), (1, 40), ((-2147483648), 2147483647), (0, 4), ((-9223372036854775808), 9223372036854775807), ((-9223372036854775808), 9223372036854775807), ((-9223372036854775808), 9223372036854775807), (0, 1), ((-4000), 4000), ((-4000), 4000), ((-8000000), 8000000), ((-8000000), 8000000), (0, 12), ((-9223372036854775808), 9223372036854775807), ((-9223372036854775808), 9223372036854775807), ((-9223372036854775808), 9223372036854775807), ((-9223372036854775808), 9223372036854775807), ((-9223372036854775808), 9223372036854775807), (0, 12), ((-2147483648), 2147483647), (0, 12), ((-2147483648), 2147483647), (0, 40), (0, 40), (1, 4000), ((-8000000), 4000000), ((-1200000), 8000000), (0, 256000000000000), (1, 16000000), (1, 4611686018427387904), (1, 4611686018427387904), (0, 0)], [([(32, 1), (28, (-1)), (27, (-1))], (-1)), ([(27, 1), (28, 1)], 0)]), [([], 0), ([], 1), ([], 0), ([(26, 1)], 0), ([(27, 1)], 0), ([(28, 1)], 0)], [], [.inr (.inr (.inl (998, 1, [([(27, 1), (28, 1)], 0), ([(32, 1)], 0), ([], 0)], [], []))), .inr (.inr (.inl (320, 0, [([(31, 1)], 0), ([(27, 1), (28, 1)], 0), ([(32, 1)], 0)], [], []))), .inr (.inr (.inl (322, 0, [([], 0), ([(26, 2)], 0), ([(31, 1)], 0)], [], []))), .inl (.inr (30, ([(26, 1)], 0), ([(26, 1)], 0))), .inl (.inr (29, ([(27, (-1)), (28, 1)], 0), ([(27, (-1)), (28, 1)], 0))), .inr (.inr (.inl (331, 2, [([], 0), ([(2, 1)], 0), ([(3, 1)], 0), ([(4, 1)], 0), ([(5, 1)], 0), ([(6, 1)], 0), ([(7, 1)], 0), ([(8, 1)], 0), ([(9, 1)], 0), ([(10, 1)], 0), ([(11, 1)], 0), ([(12, 1)], 0), ([(13, 1)], 0), ([(14, 1)], 0), ([(15, 1)], 0), ([(16, 1)], 0), ([(17, 1)], 0), ([(18, 1)], 0), ([(19, 1)], 0), ([(20, 1)], 0), ([(21, 1)], 0), ([(22, 1)], 0), ([(23, 1)], 0), ([(24, 1)], 0), ([(25, 1)], 0), ([(26, 1)], 0), ([(27, 1)], 0), ([(28, 1)], 0)], [0, 1, 2, 3, 4, 5, 6, 7, 8, 9, 10, 11, 12, 13, 14, 15, 16, 17, 18, 19, 20, 21, 22, 23, 24, 25, 26, 27, 28, 29, 30, 31, 32, 33, 34, 35, 36], []))), .inr (.inr (.inl (258, 1, [([(0, 1)], 0), ([], 0), ([], 5)], [], [])))]) := by
  intro g0 r gi g hok hh hars hfr hG
  have b0 : 4 ≤ r 0 ∧ r 0 ≤ 4 := hok.1 0 (4, 4) rfl
  have b3 : 1 ≤ r 3 ∧ r 3 ≤ 40 := hok.1 3 (1, 40) rfl
  have b26 : 1 ≤ r 26 ∧ r 26 ≤ 4000 := hok.1 26 (1, 4000) rfl
  have b27 : (-8000000) ≤ r 27 ∧ r 27 ≤ 4000000 := hok.1 27 ((-8000000), 4000000) rfl
  have b28 : (-1200000) ≤ r 28 ∧ r 28 ≤ 8000000 := hok.1 28 ((-1200000), 8000000) rfl
  have b29 : 0 ≤ r 29 ∧ r 29 ≤ 256000000000000 := hok.1 29 (0, 256000000000000) rfl
  have b30 : 1 ≤ r 30 ∧ r 30 ≤ 16000000 := hok.1 30 (1, 16000000) rfl
  have b31 : 1 ≤ r 31 ∧ r 31 ≤ 4611686018427387904 := hok.1 31 (1, 4611686018427387904) rfl
  have b32 : 1 ≤ r 32 ∧ r 32 ≤ 4611686018427387904 := hok.1 32 (1, 4611686018427387904) rfl
  have b33 : 0 ≤ r 33 ∧ r 33 ≤ 0 := hok.1 33 (0, 0) rfl
  have f0 : 0 ≤ ((1 * r 32 + ((-1) * r 28 + ((-1) * r 27 + 0))) + (-1)) := hok.2 _ (List.mem_of_getElem? (i := 0) rfl)
  have f1 : 0 ≤ ((1 * r 27 + (1 * r 28 + 0)) + 0) := hok.2 _ (List.mem_of_getElem? (i := 1) rfl)
  obtain ⟨hG, hgi⟩ := hG
  have hG : True := hG
  obtain ⟨h0, hh, e0, k0⟩ := hh
  have k0 : ∀ j, j ∉ [] → g j = h0 j := k0
  have e0 : ((0 : Int) + 0) = (((1 * r 27 + (1 * r 28 + 0)) + 0)).tdiv (((1 * r 32 + 0) + 0)) := e0
  obtain ⟨h1, hh, e1, k1⟩ := hh
  have k1 : ∀ j, j ∉ [] → h0 j = h1 j := k1
  have e1 : ((1 * r 32 + 0) + 0) = ((Nat.gcd (((1 * r 31 + 0) + 0)).natAbs (((1 * r 27 + (1 * r 28 + 0)) + 0)).natAbs : Nat) : Int) := e1
  obtain ⟨h2, hh, e2, k2⟩ := hh
  have k2 : ∀ j, j ∉ [] → h1 j = h2 j := k2
  have e2 : ((1 * r 31 + 0) + 0) = ((Nat.gcd (((0 : Int) + 0)).natAbs (((2 * r 26 + 0) + 0)).natAbs : Nat) : Int) := e2
  obtain ⟨g3, hh, q3, e3⟩ := hh
  subst q3
  have e3 : r 30 = ((1 * r 26 + 0) + 0) * ((1 * r 26 + 0) + 0) := e3
  try simp only [Int.one_mul, Int.zero_add, Int.add_zero] at e3
  obtain ⟨g4, hh, q4, e4⟩ := hh
  subst q4
  have e4 : r 29 = (((-1) * r 27 + (1 * r 28 + 0)) + 0) * (((-1) * r 27 + (1 * r 28 + 0)) + 0) := e4
  try simp only [Int.one_mul, Int.zero_add, Int.add_zero] at e4
  obtain ⟨h5, hh, e5, k5⟩ := hh
  have k5 : ∀ j, j ∉ [] → h2 j = h5 j := k5
  have e5 : (¬ (0 < yq_cnt (h5 3) 0 (((1 * ((1 * r 3 + 0) + 0) + 0) + 0)).toNat ∧ 0 < yq_cnt (h5 3) 1 (((1 * ((1 * r 3 + 0) + 0) + 0) + 0)).toNat) → ((0 : Int) + 1) = 0) ∧ ((0 < yq_cnt (h5 3) 0 (((1 * ((1 * r 3 + 0) + 0) + 0) + 0)).toNat ∧ 0 < yq_cnt (h5 3) 1 (((1 * ((1 * r 3 + 0) + 0) + 0) + 0)).toNat) → ye_nr (h5 1) (h5 2) (h5 3) (((1 * ((1 * r 3 + 0) + 0) + 0) + 0)).toNat → ye_J (h5 1) (h5 2) (h5 3) (((1 * ((1 * r 3 + 0) + 0) + 0) + 0)).toNat (((1 * ((1 * r 3 + 0) + 0) + 0) + 0)).toNat 0 (((0 : Int) + 1), ((0 : Int) + 0), ((1 * ((1 * r 26 + 0) + 0) + 0) + 0), ((1 * ((1 * r 28 + 0) + 0) + 0) + 0), ((1 * ((1 * r 27 + 0) + 0) + 0) + 0)) ∧ ye_tB (((0 : Int) + 1), ((0 : Int) + 0), ((1 * ((1 * r 26 + 0) + 0) + 0) + 0), ((1 * ((1 * r 28 + 0) + 0) + 0) + 0), ((1 * ((1 * r 27 + 0) + 0) + 0) + 0))) := e5
  obtain ⟨h6, hh, e6, k6⟩ := hh
  have k6 : ∀ j, j ∉ [] → h5 j = h6 j := k6
  have e6 : (((0 : Int) + 0) ≤ ((1 * r 0 + 0) + 0) ∧ ((1 * r 0 + 0) + 0) ≤ ((0 : Int) + 5)) := e6
  have hh : h6 = gi := hh
  subst hh
  refine yt_dalt (by decide) (by decide) ?_
  rw [show xk_1086.2.1.2.1.1.length = 26 from rfl]
  show (¬ (0 ≤ ((1 * r 0 + 0) + 0) ∧ ((1 * r 0 + 0) + 0) ≤ 5) → ((0 : Int) + 0) = -1) ∧ ((0 ≤ ((1 * r 0 + 0) + 0) ∧ ((1 * r 0 + 0) + 0) ≤ 5) → ye_nr (g0 1) (g0 2) (g0 3) (((1 * ((1 * r 3 + 0) + 0) + 0) + 0)).toNat → ∃ m : ye_T, ye_way (g0 1) (g0 2) (g0 3) (((1 * ((1 * r 3 + 0) + 0) + 0) + 0)).toNat m ∧ ye_tb m ∧ ((0 : Int) + 0) = ye_rw (g0 1) (g0 2) (((1 * ((1 * r 3 + 0) + 0) + 0) + 0)).toNat m ((1 * r 0 + 0) + 0))
  try simp only [Int.one_mul, Int.zero_add, Int.add_zero]
  try simp only [Int.one_mul, Int.zero_add, Int.add_zero] at e6
  try simp only [Int.one_mul, Int.zero_add, Int.add_zero] at e5
  rw [k6 1 (by decide), k6 2 (by decide), k6 3 (by decide), hgi] at e5
  try simp only [Int.one_mul, Int.zero_add, Int.add_zero] at e3
  try simp only [Int.one_mul, Int.zero_add, Int.add_zero] at e4
  try simp only [Int.one_mul, Int.zero_add, Int.add_zero] at e1
  try simp only [Int.one_mul, Int.zero_add, Int.add_zero] at e2
  try simp only [Int.one_mul, Int.zero_add, Int.add_zero] at e0
  rw [show r 27 + r 28 = r 28 + r 27 by omega] at e1
  have e2 : r 31 = ((Nat.gcd (2 * (0 : Int)).natAbs (2 * r 26).natAbs : Nat) : Int) := e2
  rw [show r 27 + r 28 = r 28 + r 27 by omega] at e0
  refine ⟨fun q => absurd (by omega) q, fun _ hr => ⟨((1 : Int), (0 : Int), r 26, r 28, r 27), (ye_mw hr e5.1 e5.2).1, (ye_mw hr e5.1 e5.2).2, ?_⟩⟩
  unfold ye_rw
  try dsimp only
  try rw [if_neg (show ¬ (1 : Int) = 0 by omega)]
  rw [show r 0 = 4 by omega]
  unfold ye_wd
  rw [if_neg (by decide), if_neg (by decide), if_neg (by decide), if_neg (by decide), if_pos rfl]
  rw [ye_w2e (show (0 : Int) ≠ 0 ∨ r 26 ≠ 0 by omega) e2 e1]
  exact e0
theorem xw_1086_0_30 : yt_hold xT_1086 xk_1086 xq_1086.2.2.1 xG_1086 xP_1086 xU_1086 26 xk_1086.2.1.2.2.2 (fun g0 r g => xR_1086 r g0 ∧ g = g0) (1000, ([(4, 4), ((-2147483648), 2147483647), ((-2147483648), 2147483647), (1, 40), ((-2147483648), 2147483647), (0, 4), ((-9223372036854775808), 9223372036854775807), ((-9223372036854775808), 9223372036854775807), ((-9223372036854775808), 9223372036854775807), (0, 1), ((-4000), 4000), ((-4000), 4000), ((-8000000), 8000000), ((-8000000), 8000000), (0, 12), ((-9223372036854775808), 9223372036854775807), ((-9223372036854775808), 9223372036854775807), ((-9223372036854775808), 9223372036854775807), ((-9223372036854775808), 9223372036854775807), ((-9223372036854775808), 9223372036854775807), (0, 12), ((-2147483648), 2147483647), (0, 12), ((-2147483648), 2147483647), (0, 40), (0, 40), (1, 4000), ((-7999999), 4000000), ((-1200000), 8000000), (0, 256000000000000), (1, 16000000), (1, 4611686018427387904), (1, 12000000), (1, 12000000)], [([(33, (-1)), (28, 1), (27, 1)], 0), ([(32, (-1)), (28, 1), (27, 1)], 0)]), [([(33, 1)], 0), ([], 1), ([], 0), ([(26, 1)], 0), ([(27, 1)], 0), ([(28, 1)], 0)], [], [.inr (.inr (.inl (998, 1, [([(27, 1), (28, 1)], 0), ([(32, 1)], 0), ([(33, 1)], 0)], [], []))), .inr (.inr (.inl (320, 0, [([(31, 1)], 0), ([(27, 1), (28, 1)], 0), ([(32, 1)], 0)], [], []))), .inr (.inr (.inl (322, 0, [([], 0), ([(26, 2)], 0), ([(31, 1)], 0)], [], []))), .inl (.inr (30, ([(26, 1)], 0), ([(26, 1)], 0))), .inl (.inr (29, ([(27, (-1)), (28, 1)], 0), ([(27, (-1)), (28, 1)], 0))), .inr (.inr (.inl (331, 2, [([], 0), ([(2, 1)], 0), ([(3, 1)], 0), ([(4, 1)], 0), ([(5, 1)], 0), ([(6, 1)], 0), ([(7, 1)], 0), ([(8, 1)], 0), ([(9, 1)], 0), ([(10, 1)], 0), ([(11, 1)], 0), ([(12, 1)], 0), ([(13, 1)], 0), ([(14, 1)], 0), ([(15, 1)], 0), ([(16, 1)], 0), ([(17, 1)], 0), ([(18, 1)], 0), ([(19, 1)], 0), ([(20, 1)], 0), ([(21, 1)], 0), ([(22, 1)], 0), ([(23, 1)], 0), ([(24, 1)], 0), ([(25, 1)], 0), ([(26, 1)], 0), ([(27, 1)], 0), ([(28, 1)], 0)], [0, 1, 2, 3, 4, 5, 6, 7, 8, 9, 10, 11, 12, 13, 14, 15, 16, 17, 18, 19, 20, 21, 22, 23, 24, 25, 26, 27, 28, 29, 30, 31, 32, 33, 34, 35, 36], []))), .inr (.inr (.inl (258, 1, [([(0, 1)], 0), ([], 0), ([], 5)], [], [])))]) := by
  intro g0 r gi g hok hh hars hfr hG
  have b0 : 4 ≤ r 0 ∧ r 0 ≤ 4 := hok.1 0 (4, 4) rfl
  have b3 : 1 ≤ r 3 ∧ r 3 ≤ 40 := hok.1 3 (1, 40) rfl
  have b26 : 1 ≤ r 26 ∧ r 26 ≤ 4000 := hok.1 26 (1, 4000) rfl
  have b27 : (-7999999) ≤ r 27 ∧ r 27 ≤ 4000000 := hok.1 27 ((-7999999), 4000000) rfl
  have b28 : (-1200000) ≤ r 28 ∧ r 28 ≤ 8000000 := hok.1 28 ((-1200000), 8000000) rfl
  have b29 : 0 ≤ r 29 ∧ r 29 ≤ 256000000000000 := hok.1 29 (0, 256000000000000) rfl
  have b30 : 1 ≤ r 30 ∧ r 30 ≤ 16000000 := hok.1 30 (1, 16000000) rfl
  have b31 : 1 ≤ r 31 ∧ r 31 ≤ 4611686018427387904 := hok.1 31 (1, 4611686018427387904) rfl
  have b32 : 1 ≤ r 32 ∧ r 32 ≤ 12000000 := hok.1 32 (1, 12000000) rfl
  have b33 : 1 ≤ r 33 ∧ r 33 ≤ 12000000 := hok.1 33 (1, 12000000) rfl
  have f0 : 0 ≤ (((-1) * r 33 + (1 * r 28 + (1 * r 27 + 0))) + 0) := hok.2 _ (List.mem_of_getElem? (i := 0) rfl)
  have f1 : 0 ≤ (((-1) * r 32 + (1 * r 28 + (1 * r 27 + 0))) + 0) := hok.2 _ (List.mem_of_getElem? (i := 1) rfl)
  obtain ⟨hG, hgi⟩ := hG
  have hG : True := hG
  obtain ⟨h0, hh, e0, k0⟩ := hh
  have k0 : ∀ j, j ∉ [] → g j = h0 j := k0
  have e0 : ((1 * r 33 + 0) + 0) = (((1 * r 27 + (1 * r 28 + 0)) + 0)).tdiv (((1 * r 32 + 0) + 0)) := e0
  obtain ⟨h1, hh, e1, k1⟩ := hh
  have k1 : ∀ j, j ∉ [] → h0 j = h1 j := k1
  have e1 : ((1 * r 32 + 0) + 0) = ((Nat.gcd (((1 * r 31 + 0) + 0)).natAbs (((1 * r 27 + (1 * r 28 + 0)) + 0)).natAbs : Nat) : Int) := e1
  obtain ⟨h2, hh, e2, k2⟩ := hh
  have k2 : ∀ j, j ∉ [] → h1 j = h2 j := k2
  have e2 : ((1 * r 31 + 0) + 0) = ((Nat.gcd (((0 : Int) + 0)).natAbs (((2 * r 26 + 0) + 0)).natAbs : Nat) : Int) := e2
  obtain ⟨g3, hh, q3, e3⟩ := hh
  subst q3
  have e3 : r 30 = ((1 * r 26 + 0) + 0) * ((1 * r 26 + 0) + 0) := e3
  try simp only [Int.one_mul, Int.zero_add, Int.add_zero] at e3
  obtain ⟨g4, hh, q4, e4⟩ := hh
  subst q4
  have e4 : r 29 = (((-1) * r 27 + (1 * r 28 + 0)) + 0) * (((-1) * r 27 + (1 * r 28 + 0)) + 0) := e4
  try simp only [Int.one_mul, Int.zero_add, Int.add_zero] at e4
  obtain ⟨h5, hh, e5, k5⟩ := hh
  have k5 : ∀ j, j ∉ [] → h2 j = h5 j := k5
  have e5 : (¬ (0 < yq_cnt (h5 3) 0 (((1 * ((1 * r 3 + 0) + 0) + 0) + 0)).toNat ∧ 0 < yq_cnt (h5 3) 1 (((1 * ((1 * r 3 + 0) + 0) + 0) + 0)).toNat) → ((0 : Int) + 1) = 0) ∧ ((0 < yq_cnt (h5 3) 0 (((1 * ((1 * r 3 + 0) + 0) + 0) + 0)).toNat ∧ 0 < yq_cnt (h5 3) 1 (((1 * ((1 * r 3 + 0) + 0) + 0) + 0)).toNat) → ye_nr (h5 1) (h5 2) (h5 3) (((1 * ((1 * r 3 + 0) + 0) + 0) + 0)).toNat → ye_J (h5 1) (h5 2) (h5 3) (((1 * ((1 * r 3 + 0) + 0) + 0) + 0)).toNat (((1 * ((1 * r 3 + 0) + 0) + 0) + 0)).toNat 0 (((0 : Int) + 1), ((0 : Int) + 0), ((1 * ((1 * r 26 + 0) + 0) + 0) + 0), ((1 * ((1 * r 28 + 0) + 0) + 0) + 0), ((1 * ((1 * r 27 + 0) + 0) + 0) + 0)) ∧ ye_tB (((0 : Int) + 1), ((0 : Int) + 0), ((1 * ((1 * r 26 + 0) + 0) + 0) + 0), ((1 * ((1 * r 28 + 0) + 0) + 0) + 0), ((1 * ((1 * r 27 + 0) + 0) + 0) + 0))) := e5
  obtain ⟨h6, hh, e6, k6⟩ := hh
  have k6 : ∀ j, j ∉ [] → h5 j = h6 j := k6
  have e6 : (((0 : Int) + 0) ≤ ((1 * r 0 + 0) + 0) ∧ ((1 * r 0 + 0) + 0) ≤ ((0 : Int) + 5)) := e6
  have hh : h6 = gi := hh
  subst hh
  refine yt_dalt (by decide) (by decide) ?_
  rw [show xk_1086.2.1.2.1.1.length = 26 from rfl]
  show (¬ (0 ≤ ((1 * r 0 + 0) + 0) ∧ ((1 * r 0 + 0) + 0) ≤ 5) → ((1 * r 33 + 0) + 0) = -1) ∧ ((0 ≤ ((1 * r 0 + 0) + 0) ∧ ((1 * r 0 + 0) + 0) ≤ 5) → ye_nr (g0 1) (g0 2) (g0 3) (((1 * ((1 * r 3 + 0) + 0) + 0) + 0)).toNat → ∃ m : ye_T, ye_way (g0 1) (g0 2) (g0 3) (((1 * ((1 * r 3 + 0) + 0) + 0) + 0)).toNat m ∧ ye_tb m ∧ ((1 * r 33 + 0) + 0) = ye_rw (g0 1) (g0 2) (((1 * ((1 * r 3 + 0) + 0) + 0) + 0)).toNat m ((1 * r 0 + 0) + 0))
  try simp only [Int.one_mul, Int.zero_add, Int.add_zero]
  try simp only [Int.one_mul, Int.zero_add, Int.add_zero] at e6
  try simp only [Int.one_mul, Int.zero_add, Int.add_zero] at e5
  rw [k6 1 (by decide), k6 2 (by decide), k6 3 (by decide), hgi] at e5
  try simp only [Int.one_mul, Int.zero_add, Int.add_zero] at e3
  try simp only [Int.one_mul, Int.zero_add, Int.add_zero] at e4
  try simp only [Int.one_mul, Int.zero_add, Int.add_zero] at e1
  try simp only [Int.one_mul, Int.zero_add, Int.add_zero] at e2
  try simp only [Int.one_mul, Int.zero_add, Int.add_zero] at e0
  rw [show r 27 + r 28 = r 28 + r 27 by omega] at e1
  have e2 : r 31 = ((Nat.gcd (2 * (0 : Int)).natAbs (2 * r 26).natAbs : Nat) : Int) := e2
  rw [show r 27 + r 28 = r 28 + r 27 by omega] at e0
  refine ⟨fun q => absurd (by omega) q, fun _ hr => ⟨((1 : Int), (0 : Int), r 26, r 28, r 27), (ye_mw hr e5.1 e5.2).1, (ye_mw hr e5.1 e5.2).2, ?_⟩⟩
  unfold ye_rw
  try dsimp only
  try rw [if_neg (show ¬ (1 : Int) = 0 by omega)]
  rw [show r 0 = 4 by omega]
  unfold ye_wd
  rw [if_neg (by decide), if_neg (by decide), if_neg (by decide), if_neg (by decide), if_pos rfl]
  rw [ye_w2e (show (0 : Int) ≠ 0 ∨ r 26 ≠ 0 by omega) e2 e1]
  exact e0
theorem xw_1086_0_31 : yt_hold xT_1086 xk_1086 xq_1086.2.2.1 xG_1086 xP_1086 xU_1086 26 xk_1086.2.1.2.2.2 (fun g0 r g => xR_1086 r g0 ∧ g = g0) (1000, ([(4, 4), ((-2147483648), 2147483647), ((-2147483648), 2147483647), (1, 40), ((-2147483648), 2147483647), (0, 4), ((-9223372036854775808), 9223372036854775807), ((-9223372036854775808), 9223372036854775807), ((-9223372036854775808), 9223372036854775807), (0, 1), ((-4000), 4000), ((-4000), 4000), ((-8000000), 8000000), ((-8000000), 8000000), (0, 12), ((-9223372036854775808), 9223372036854775807), ((-9223372036854775808), 9223372036854775807), ((-9223372036854775808), 9223372036854775807), ((-9223372036854775808), 9223372036854775807), ((-9223372036854775808), 9223372036854775807), (0, 12), ((-2147483648), 2147483647), (0, 12), ((-2147483648), 2147483647), (0, 40), (0, 40), (1, 4000), ((-8000000), 1199999), ((-1200000), 7999999), (0, 256000000000000), (1, 16000000), (1, 4611686018427387904), (1, 4611686018427387904), ((-9200000), 0)], [([(27, (-1)), (28, (-1)), (33, 1)], 0), ([(28, (-1)), (27, (-1))], (-1))]), [([(33, 1)], 0), ([], 1), ([], 0), ([(26, 1)], 0), ([(27, 1)], 0), ([(28, 1)], 0)], [], [.inr (.inr (.inl (998, 1, [([(27, 1), (28, 1)], 0), ([(32, 1)], 0), ([(33, 1)], 0)], [], []))), .inr (.inr (.inl (320, 0, [([(31, 1)], 0), ([(27, 1), (28, 1)], 0), ([(32, 1)], 0)], [], []))), .inr (.inr (.inl (322, 0, [([], 0), ([(26, 2)], 0), ([(31, 1)], 0)], [], []))), .inl (.inr (30, ([(26, 1)], 0), ([(26, 1)], 0))), .inl (.inr (29, ([(27, (-1)), (28, 1)], 0), ([(27, (-1)), (28, 1)], 0))), .inr (.inr (.inl (331, 2, [([], 0), ([(2, 1)], 0), ([(3, 1)], 0), ([(4, 1)], 0), ([(5, 1)], 0), ([(6, 1)], 0), ([(7, 1)], 0), ([(8, 1)], 0), ([(9, 1)], 0), ([(10, 1)], 0), ([(11, 1)], 0), ([(12, 1)], 0), ([(13, 1)], 0), ([(14, 1)], 0), ([(15, 1)], 0), ([(16, 1)], 0), ([(17, 1)], 0), ([(18, 1)], 0), ([(19, 1)], 0), ([(20, 1)], 0), ([(21, 1)], 0), ([(22, 1)], 0), ([(23, 1)], 0), ([(24, 1)], 0), ([(25, 1)], 0), ([(26, 1)], 0), ([(27, 1)], 0), ([(28, 1)], 0)], [0, 1, 2, 3, 4, 5, 6, 7, 8, 9, 10, 11, 12, 13, 14, 15, 16, 17, 18, 19, 20, 21, 22, 23, 24, 25, 26, 27, 28, 29, 30, 31, 32, 33, 34, 35, 36], []))), .inr (.inr (.inl (258, 1, [([(0, 1)], 0), ([], 0), ([], 5)], [], [])))]) := by
  intro g0 r gi g hok hh hars hfr hG
  have b0 : 4 ≤ r 0 ∧ r 0 ≤ 4 := hok.1 0 (4, 4) rfl
  have b3 : 1 ≤ r 3 ∧ r 3 ≤ 40 := hok.1 3 (1, 40) rfl
  have b26 : 1 ≤ r 26 ∧ r 26 ≤ 4000 := hok.1 26 (1, 4000) rfl
  have b27 : (-8000000) ≤ r 27 ∧ r 27 ≤ 1199999 := hok.1 27 ((-8000000), 1199999) rfl
  have b28 : (-1200000) ≤ r 28 ∧ r 28 ≤ 7999999 := hok.1 28 ((-1200000), 7999999) rfl
  have b29 : 0 ≤ r 29 ∧ r 29 ≤ 256000000000000 := hok.1 29 (0, 256000000000000) rfl
  have b30 : 1 ≤ r 30 ∧ r 30 ≤ 16000000 := hok.1 30 (1, 16000000) rfl
  have b31 : 1 ≤ r 31 ∧ r 31 ≤ 4611686018427387904 := hok.1 31 (1, 4611686018427387904) rfl
  have b32 : 1 ≤ r 32 ∧ r 32 ≤ 4611686018427387904 := hok.1 32 (1, 4611686018427387904) rfl
  have b33 : (-9200000) ≤ r 33 ∧ r 33 ≤ 0 := hok.1 33 ((-9200000), 0) rfl
  have f0 : 0 ≤ (((-1) * r 27 + ((-1) * r 28 + (1 * r 33 + 0))) + 0) := hok.2 _ (List.mem_of_getElem? (i := 0) rfl)
  have f1 : 0 ≤ (((-1) * r 28 + ((-1) * r 27 + 0)) + (-1)) := hok.2 _ (List.mem_of_getElem? (i := 1) rfl)
  obtain ⟨hG, hgi⟩ := hG
  have hG : True := hG
  obtain ⟨h0, hh, e0, k0⟩ := hh
  have k0 : ∀ j, j ∉ [] → g j = h0 j := k0
  have e0 : ((1 * r 33 + 0) + 0) = (((1 * r 27 + (1 * r 28 + 0)) + 0)).tdiv (((1 * r 32 + 0) + 0)) := e0
  obtain ⟨h1, hh, e1, k1⟩ := hh
  have k1 : ∀ j, j ∉ [] → h0 j = h1 j := k1
  have e1 : ((1 * r 32 + 0) + 0) = ((Nat.gcd (((1 * r 31 + 0) + 0)).natAbs (((1 * r 27 + (1 * r 28 + 0)) + 0)).natAbs : Nat) : Int) := e1
  obtain ⟨h2, hh, e2, k2⟩ := hh
  have k2 : ∀ j, j ∉ [] → h1 j = h2 j := k2
  have e2 : ((1 * r 31 + 0) + 0) = ((Nat.gcd (((0 : Int) + 0)).natAbs (((2 * r 26 + 0) + 0)).natAbs : Nat) : Int) := e2
  obtain ⟨g3, hh, q3, e3⟩ := hh
  subst q3
  have e3 : r 30 = ((1 * r 26 + 0) + 0) * ((1 * r 26 + 0) + 0) := e3
  try simp only [Int.one_mul, Int.zero_add, Int.add_zero] at e3
  obtain ⟨g4, hh, q4, e4⟩ := hh
  subst q4
  have e4 : r 29 = (((-1) * r 27 + (1 * r 28 + 0)) + 0) * (((-1) * r 27 + (1 * r 28 + 0)) + 0) := e4
  try simp only [Int.one_mul, Int.zero_add, Int.add_zero] at e4
  obtain ⟨h5, hh, e5, k5⟩ := hh
  have k5 : ∀ j, j ∉ [] → h2 j = h5 j := k5
  have e5 : (¬ (0 < yq_cnt (h5 3) 0 (((1 * ((1 * r 3 + 0) + 0) + 0) + 0)).toNat ∧ 0 < yq_cnt (h5 3) 1 (((1 * ((1 * r 3 + 0) + 0) + 0) + 0)).toNat) → ((0 : Int) + 1) = 0) ∧ ((0 < yq_cnt (h5 3) 0 (((1 * ((1 * r 3 + 0) + 0) + 0) + 0)).toNat ∧ 0 < yq_cnt (h5 3) 1 (((1 * ((1 * r 3 + 0) + 0) + 0) + 0)).toNat) → ye_nr (h5 1) (h5 2) (h5 3) (((1 * ((1 * r 3 + 0) + 0) + 0) + 0)).toNat → ye_J (h5 1) (h5 2) (h5 3) (((1 * ((1 * r 3 + 0) + 0) + 0) + 0)).toNat (((1 * ((1 * r 3 + 0) + 0) + 0) + 0)).toNat 0 (((0 : Int) + 1), ((0 : Int) + 0), ((1 * ((1 * r 26 + 0) + 0) + 0) + 0), ((1 * ((1 * r 28 + 0) + 0) + 0) + 0), ((1 * ((1 * r 27 + 0) + 0) + 0) + 0)) ∧ ye_tB (((0 : Int) + 1), ((0 : Int) + 0), ((1 * ((1 * r 26 + 0) + 0) + 0) + 0), ((1 * ((1 * r 28 + 0) + 0) + 0) + 0), ((1 * ((1 * r 27 + 0) + 0) + 0) + 0))) := e5
  obtain ⟨h6, hh, e6, k6⟩ := hh
  have k6 : ∀ j, j ∉ [] → h5 j = h6 j := k6
  have e6 : (((0 : Int) + 0) ≤ ((1 * r 0 + 0) + 0) ∧ ((1 * r 0 + 0) + 0) ≤ ((0 : Int) + 5)) := e6
  have hh : h6 = gi := hh
  subst hh
  refine yt_dalt (by decide) (by decide) ?_
  rw [show xk_1086.2.1.2.1.1.length = 26 from rfl]
  show (¬ (0 ≤ ((1 * r 0 + 0) + 0) ∧ ((1 * r 0 + 0) + 0) ≤ 5) → ((1 * r 33 + 0) + 0) = -1) ∧ ((0 ≤ ((1 * r 0 + 0) + 0) ∧ ((1 * r 0 + 0) + 0) ≤ 5) → ye_nr (g0 1) (g0 2) (g0 3) (((1 * ((1 * r 3 + 0) + 0) + 0) + 0)).toNat → ∃ m : ye_T, ye_way (g0 1) (g0 2) (g0 3) (((1 * ((1 * r 3 + 0) + 0) + 0) + 0)).toNat m ∧ ye_tb m ∧ ((1 * r 33 + 0) + 0) = ye_rw (g0 1) (g0 2) (((1 * ((1 * r 3 + 0) + 0) + 0) + 0)).toNat m ((1 * r 0 + 0) + 0))
  try simp only [Int.one_mul, Int.zero_add, Int.add_zero]
  try simp only [Int.one_mul, Int.zero_add, Int.add_zero] at e6
  try simp only [Int.one_mul, Int.zero_add, Int.add_zero] at e5
  rw [k6 1 (by decide), k6 2 (by decide), k6 3 (by decide), hgi] at e5
  try simp only [Int.one_mul, Int.zero_add, Int.add_zero] at e3
  try simp only [Int.one_mul, Int.zero_add, Int.add_zero] at e4
  try simp only [Int.one_mul, Int.zero_add, Int.add_zero] at e1
  try simp only [Int.one_mul, Int.zero_add, Int.add_zero] at e2
  try simp only [Int.one_mul, Int.zero_add, Int.add_zero] at e0
  rw [show r 27 + r 28 = r 28 + r 27 by omega] at e1
  have e2 : r 31 = ((Nat.gcd (2 * (0 : Int)).natAbs (2 * r 26).natAbs : Nat) : Int) := e2
  rw [show r 27 + r 28 = r 28 + r 27 by omega] at e0
  refine ⟨fun q => absurd (by omega) q, fun _ hr => ⟨((1 : Int), (0 : Int), r 26, r 28, r 27), (ye_mw hr e5.1 e5.2).1, (ye_mw hr e5.1 e5.2).2, ?_⟩⟩
  unfold ye_rw
  try dsimp only
  try rw [if_neg (show ¬ (1 : Int) = 0 by omega)]
  rw [show r 0 = 4 by omega]
  unfold ye_wd
  rw [if_neg (by decide), if_neg (by decide), if_neg (by decide), if_neg (by decide), if_pos rfl]
  rw [ye_w2e (show (0 : Int) ≠ 0 ∨ r 26 ≠ 0 by omega) e2 e1]
  exact e0
theorem xw_1086_0_32 : yt_hold xT_1086 xk_1086 xq_1086.2.2.1 xG_1086 xP_1086 xU_1086 26 xk_1086.2.1.2.2.2 (fun g0 r g => xR_1086 r g0 ∧ g = g0) (0, ([(5, 5), ((-2147483648), 2147483647), ((-2147483648), 2147483647), (1, 40), ((-2147483648), 2147483647), (0, 4), ((-9223372036854775808), 9223372036854775807), ((-9223372036854775808), 9223372036854775807), ((-9223372036854775808), 9223372036854775807), (0, 1), ((-4000), 4000), ((-4000), 4000), ((-8000000), 8000000), ((-8000000), 8000000), (0, 12), ((-9223372036854775808), 9223372036854775807), ((-9223372036854775808), 9223372036854775807), ((-9223372036854775808), 9223372036854775807), ((-9223372036854775808), 9223372036854775807), ((-9223372036854775808), 9223372036854775807), (0, 12), ((-2147483648), 2147483647), (0, 12), ((-2147483648), 2147483647), (0, 40), (0, 40), ((-1300), (-1)), ((-8000000), 1200000), ((-4000000), 8000000), (0, 256000000000000), (1, 1690000), (1, 4611686018427387904), (1, 4611686018427387904)], []), [([], 0), ([], 0), ([], 1), ([], 0), ([(26, 1)], 0), ([(27, 1)], 0), ([(28, 1)], 0)], [], [.inr (.inr (.inl (320, 0, [([(31, 1)], 0), ([(27, 1), (28, 1)], 0), ([(32, 1)], 0)], [], []))), .inr (.inr (.inl (323, 0, [([], 0), ([(26, 2)], 0), ([(31, 1)], 0)], [], []))), .inl (.inr (30, ([(26, 1)], 0), ([(26, 1)], 0))), .inl (.inr (29, ([(27, (-1)), (28, 1)], 0), ([(27, (-1)), (28, 1)], 0))), .inr (.inr (.inl (331, 3, [([], 0), ([(2, 1)], 0), ([(3, 1)], 0), ([(4, 1)], 0), ([(5, 1)], 0), ([(6, 1)], 0), ([(7, 1)], 0), ([(8, 1)], 0), ([(9, 1)], 0), ([(10, 1)], 0), ([(11, 1)], 0), ([(12, 1)], 0), ([(13, 1)], 0), ([(14, 1)], 0), ([(15, 1)], 0), ([(16, 1)], 0), ([(17, 1)], 0), ([(18, 1)], 0), ([(19, 1)], 0), ([(20, 1)], 0), ([(21, 1)], 0), ([(22, 1)], 0), ([(23, 1)], 0), ([(24, 1)], 0), ([(25, 1)], 0), ([(26, 1)], 0), ([(27, 1)], 0), ([(28, 1)], 0)], [0, 1, 2, 3, 4, 5, 6, 7, 8, 9, 10, 11, 12, 13, 14, 15, 16, 17, 18, 19, 20, 21, 22, 23, 24, 25, 26, 27, 28, 29, 30, 31, 32, 33, 34, 35, 36], []))), .inr (.inr (.inl (258, 1, [([(0, 1)], 0), ([], 0), ([], 5)], [], [])))]) := by
  intro g0 r gi g hok hh hars hfr hG
  have b0 : 5 ≤ r 0 ∧ r 0 ≤ 5 := hok.1 0 (5, 5) rfl
  have b3 : 1 ≤ r 3 ∧ r 3 ≤ 40 := hok.1 3 (1, 40) rfl
  have b26 : (-1300) ≤ r 26 ∧ r 26 ≤ (-1) := hok.1 26 ((-1300), (-1)) rfl
  have b27 : (-8000000) ≤ r 27 ∧ r 27 ≤ 1200000 := hok.1 27 ((-8000000), 1200000) rfl
  have b28 : (-4000000) ≤ r 28 ∧ r 28 ≤ 8000000 := hok.1 28 ((-4000000), 8000000) rfl
  have b29 : 0 ≤ r 29 ∧ r 29 ≤ 256000000000000 := hok.1 29 (0, 256000000000000) rfl
  have b30 : 1 ≤ r 30 ∧ r 30 ≤ 1690000 := hok.1 30 (1, 1690000) rfl
  have b31 : 1 ≤ r 31 ∧ r 31 ≤ 4611686018427387904 := hok.1 31 (1, 4611686018427387904) rfl
  have b32 : 1 ≤ r 32 ∧ r 32 ≤ 4611686018427387904 := hok.1 32 (1, 4611686018427387904) rfl
  obtain ⟨hG, hgi⟩ := hG
  have hG : True := hG
  obtain ⟨h0, hh, e0, k0⟩ := hh
  have k0 : ∀ j, j ∉ [] → g j = h0 j := k0
  have e0 : ((1 * r 32 + 0) + 0) = ((Nat.gcd (((1 * r 31 + 0) + 0)).natAbs (((1 * r 27 + (1 * r 28 + 0)) + 0)).natAbs : Nat) : Int) := e0
  obtain ⟨h1, hh, e1, k1⟩ := hh
  have k1 : ∀ j, j ∉ [] → h0 j = h1 j := k1
  have e1 : ((1 * r 31 + 0) + 0) = ((Nat.gcd (((0 : Int) + 0)).natAbs (((2 * r 26 + 0) + 0)).natAbs : Nat) : Int) := e1
  obtain ⟨g2, hh, q2, e2⟩ := hh
  subst q2
  have e2 : r 30 = ((1 * r 26 + 0) + 0) * ((1 * r 26 + 0) + 0) := e2
  try simp only [Int.one_mul, Int.zero_add, Int.add_zero] at e2
  obtain ⟨g3, hh, q3, e3⟩ := hh
  subst q3
  have e3 : r 29 = (((-1) * r 27 + (1 * r 28 + 0)) + 0) * (((-1) * r 27 + (1 * r 28 + 0)) + 0) := e3
  try simp only [Int.one_mul, Int.zero_add, Int.add_zero] at e3
  obtain ⟨h4, hh, e4, k4⟩ := hh
  have k4 : ∀ j, j ∉ [] → h1 j = h4 j := k4
  have e4 : (¬ (0 < yq_cnt (h4 3) 0 (((1 * ((1 * r 3 + 0) + 0) + 0) + 0)).toNat ∧ 0 < yq_cnt (h4 3) 1 (((1 * ((1 * r 3 + 0) + 0) + 0) + 0)).toNat) → ((0 : Int) + 1) = 0) ∧ ((0 < yq_cnt (h4 3) 0 (((1 * ((1 * r 3 + 0) + 0) + 0) + 0)).toNat ∧ 0 < yq_cnt (h4 3) 1 (((1 * ((1 * r 3 + 0) + 0) + 0) + 0)).toNat) → ye_nr (h4 1) (h4 2) (h4 3) (((1 * ((1 * r 3 + 0) + 0) + 0) + 0)).toNat → ye_J (h4 1) (h4 2) (h4 3) (((1 * ((1 * r 3 + 0) + 0) + 0) + 0)).toNat (((1 * ((1 * r 3 + 0) + 0) + 0) + 0)).toNat 0 (((0 : Int) + 1), ((0 : Int) + 0), ((1 * ((1 * r 26 + 0) + 0) + 0) + 0), ((1 * ((1 * r 28 + 0) + 0) + 0) + 0), ((1 * ((1 * r 27 + 0) + 0) + 0) + 0)) ∧ ye_tB (((0 : Int) + 1), ((0 : Int) + 0), ((1 * ((1 * r 26 + 0) + 0) + 0) + 0), ((1 * ((1 * r 28 + 0) + 0) + 0) + 0), ((1 * ((1 * r 27 + 0) + 0) + 0) + 0))) := e4
  obtain ⟨h5, hh, e5, k5⟩ := hh
  have k5 : ∀ j, j ∉ [] → h4 j = h5 j := k5
  have e5 : (((0 : Int) + 0) ≤ ((1 * r 0 + 0) + 0) ∧ ((1 * r 0 + 0) + 0) ≤ ((0 : Int) + 5)) := e5
  have hh : h5 = gi := hh
  subst hh
  refine yt_dcut (by decide) rfl ?_ ?_
  · rw [show xk_1086.2.1.2.1.1.length = 26 from rfl]
    refine yx_fks _ _ ?_
    refine ⟨?_, ?_, trivial⟩
    · show 0 ≤ ((1 * ((0 : Int) + 0) + 0) + 0)
      omega
    · show 0 ≤ (((-1) * ((0 : Int) + 0) + (1 * ((0 : Int) + 0) + 0)) + 0)
      omega
  · rw [show xk_1086.2.1.2.1.1.length = 26 from rfl]
    show ((1 * r 0 + 0) + 0) = 5 ∧ ((1 * ((0 : Int) + 0) + 0) + 0) = ye_sc (g0 1) (g0 2) ((1 * ((0 : Int) + 0) + 0) + 0) ((1 * ((1 * r 26 + 0) + 0) + 0) + 0) ((1 * ((1 * r 28 + 0) + 0) + 0) + 0) ((1 * ((1 * r 27 + 0) + 0) + 0) + 0) (((1 * ((0 : Int) + 0) + 0) + 0)).toNat ∧ ((1 * ((0 : Int) + 0) + 0) + 0) ≤ ((1 * ((1 * r 3 + 0) + 0) + 0) + 0) ∧ ((1 * ((0 : Int) + 1) + 0) + 0) = 1 ∧ (ye_nr (g0 1) (g0 2) (g0 3) (((1 * ((1 * r 3 + 0) + 0) + 0) + 0)).toNat → ye_way (g0 1) (g0 2) (g0 3) (((1 * ((1 * r 3 + 0) + 0) + 0) + 0)).toNat (((1 * ((0 : Int) + 1) + 0) + 0), ((1 * ((0 : Int) + 0) + 0) + 0), ((1 * ((1 * r 26 + 0) + 0) + 0) + 0), ((1 * ((1 * r 28 + 0) + 0) + 0) + 0), ((1 * ((1 * r 27 + 0) + 0) + 0) + 0)) ∧ ye_tb (((1 * ((0 : Int) + 1) + 0) + 0), ((1 * ((0 : Int) + 0) + 0) + 0), ((1 * ((1 * r 26 + 0) + 0) + 0) + 0), ((1 * ((1 * r 28 + 0) + 0) + 0) + 0), ((1 * ((1 * r 27 + 0) + 0) + 0) + 0)))
    try simp only [Int.one_mul, Int.zero_add, Int.add_zero]
    try simp only [Int.one_mul, Int.zero_add, Int.add_zero] at e5
    try simp only [Int.one_mul, Int.zero_add, Int.add_zero] at e4
    rw [k5 1 (by decide), k5 2 (by decide), k5 3 (by decide), hgi] at e4
    exact ⟨by omega, rfl, by omega, by omega, fun hr => ye_mw hr e4.1 e4.2⟩
theorem xw_1086_0_33 : yt_hold xT_1086 xk_1086 xq_1086.2.2.1 xG_1086 xP_1086 xU_1086 26 xk_1086.2.1.2.2.2 (fun g0 r g => xR_1086 r g0 ∧ g = g0) (1000, ([(0, 0), ((-2147483648), 2147483647), ((-2147483648), 2147483647), (1, 40), ((-2147483648), 2147483647), (0, 4), ((-9223372036854775808), 9223372036854775807), ((-9223372036854775808), 9223372036854775807), ((-9223372036854775808), 9223372036854775807), (0, 1), ((-4000), 4000), ((-4000), 4000), ((-8000000), 8000000), ((-8000000), 8000000), (0, 12), ((-9223372036854775808), 9223372036854775807), ((-9223372036854775808), 9223372036854775807), ((-9223372036854775808), 9223372036854775807), ((-9223372036854775808), 9223372036854775807), ((-9223372036854775808), 9223372036854775807), (0, 12), ((-2147483648), 2147483647), (0, 12), ((-2147483648), 2147483647), (0, 40), (0, 40), ((-1300), (-1)), ((-8000000), 1200000), ((-4000000), 8000000), (0, 256000000000000), (1, 1690000), (1, 4611686018427387904), (1, 4611686018427387904), ((-4611686018427387904), 4611686018427387904)], []), [([(33, 1)], 0), ([], 1), ([], 0), ([(26, 1)], 0), ([(27, 1)], 0), ([(28, 1)], 0)], [], [.inr (.inr (.inl (332, 0, [([(29, 1)], 0), ([(30, 1)], 0), ([], 1), ([(33, 1)], 0)], [], []))), .inr (.inr (.inl (320, 0, [([(31, 1)], 0), ([(27, 1), (28, 1)], 0), ([(32, 1)], 0)], [], []))), .inr (.inr (.inl (323, 0, [([], 0), ([(26, 2)], 0), ([(31, 1)], 0)], [], []))), .inl (.inr (30, ([(26, 1)], 0), ([(26, 1)], 0))), .inl (.inr (29, ([(27, (-1)), (28, 1)], 0), ([(27, (-1)), (28, 1)], 0))), .inr (.inr (.inl (331, 3, [([], 0), ([(2, 1)], 0), ([(3, 1)], 0), ([(4, 1)], 0), ([(5, 1)], 0), ([(6, 1)], 0), ([(7, 1)], 0), ([(8, 1)], 0), ([(9, 1)], 0), ([(10, 1)], 0), ([(11, 1)], 0), ([(12, 1)], 0), ([(13, 1)], 0), ([(14, 1)], 0), ([(15, 1)], 0), ([(16, 1)], 0), ([(17, 1)], 0), ([(18, 1)], 0), ([(19, 1)], 0), ([(20, 1)], 0), ([(21, 1)], 0), ([(22, 1)], 0), ([(23, 1)], 0), ([(24, 1)], 0), ([(25, 1)], 0), ([(26, 1)], 0), ([(27, 1)], 0), ([(28, 1)], 0)], [0, 1, 2, 3, 4, 5, 6, 7, 8, 9, 10, 11, 12, 13, 14, 15, 16, 17, 18, 19, 20, 21, 22, 23, 24, 25, 26, 27, 28, 29, 30, 31, 32, 33, 34, 35, 36], []))), .inr (.inr (.inl (258, 1, [([(0, 1)], 0), ([], 0), ([], 5)], [], [])))]) := by
  intro g0 r gi g hok hh hars hfr hG
  have b0 : 0 ≤ r 0 ∧ r 0 ≤ 0 := hok.1 0 (0, 0) rfl
  have b3 : 1 ≤ r 3 ∧ r 3 ≤ 40 := hok.1 3 (1, 40) rfl
  have b26 : (-1300) ≤ r 26 ∧ r 26 ≤ (-1) := hok.1 26 ((-1300), (-1)) rfl
  have b27 : (-8000000) ≤ r 27 ∧ r 27 ≤ 1200000 := hok.1 27 ((-8000000), 1200000) rfl
  have b28 : (-4000000) ≤ r 28 ∧ r 28 ≤ 8000000 := hok.1 28 ((-4000000), 8000000) rfl
  have b29 : 0 ≤ r 29 ∧ r 29 ≤ 256000000000000 := hok.1 29 (0, 256000000000000) rfl
  have b30 : 1 ≤ r 30 ∧ r 30 ≤ 1690000 := hok.1 30 (1, 1690000) rfl
  have b31 : 1 ≤ r 31 ∧ r 31 ≤ 4611686018427387904 := hok.1 31 (1, 4611686018427387904) rfl
  have b32 : 1 ≤ r 32 ∧ r 32 ≤ 4611686018427387904 := hok.1 32 (1, 4611686018427387904) rfl
  have b33 : (-4611686018427387904) ≤ r 33 ∧ r 33 ≤ 4611686018427387904 := hok.1 33 ((-4611686018427387904), 4611686018427387904) rfl
  obtain ⟨hG, hgi⟩ := hG
  have hG : True := hG
  obtain ⟨h0, hh, e0, k0⟩ := hh
  have k0 : ∀ j, j ∉ [] → g j = h0 j := k0
  have e0 : ((1 * r 33 + 0) + 0) = ye_pt ((1 * r 29 + 0) + 0) ((1 * r 30 + 0) + 0) ((0 : Int) + 1) := e0
  obtain ⟨h1, hh, e1, k1⟩ := hh
  have k1 : ∀ j, j ∉ [] → h0 j = h1 j := k1
  have e1 : ((1 * r 32 + 0) + 0) = ((Nat.gcd (((1 * r 31 + 0) + 0)).natAbs (((1 * r 27 + (1 * r 28 + 0)) + 0)).natAbs : Nat) : Int) := e1
  obtain ⟨h2, hh, e2, k2⟩ := hh
  have k2 : ∀ j, j ∉ [] → h1 j = h2 j := k2
  have e2 : ((1 * r 31 + 0) + 0) = ((Nat.gcd (((0 : Int) + 0)).natAbs (((2 * r 26 + 0) + 0)).natAbs : Nat) : Int) := e2
  obtain ⟨g3, hh, q3, e3⟩ := hh
  subst q3
  have e3 : r 30 = ((1 * r 26 + 0) + 0) * ((1 * r 26 + 0) + 0) := e3
  try simp only [Int.one_mul, Int.zero_add, Int.add_zero] at e3
  obtain ⟨g4, hh, q4, e4⟩ := hh
  subst q4
  have e4 : r 29 = (((-1) * r 27 + (1 * r 28 + 0)) + 0) * (((-1) * r 27 + (1 * r 28 + 0)) + 0) := e4
  try simp only [Int.one_mul, Int.zero_add, Int.add_zero] at e4
  obtain ⟨h5, hh, e5, k5⟩ := hh
  have k5 : ∀ j, j ∉ [] → h2 j = h5 j := k5
  have e5 : (¬ (0 < yq_cnt (h5 3) 0 (((1 * ((1 * r 3 + 0) + 0) + 0) + 0)).toNat ∧ 0 < yq_cnt (h5 3) 1 (((1 * ((1 * r 3 + 0) + 0) + 0) + 0)).toNat) → ((0 : Int) + 1) = 0) ∧ ((0 < yq_cnt (h5 3) 0 (((1 * ((1 * r 3 + 0) + 0) + 0) + 0)).toNat ∧ 0 < yq_cnt (h5 3) 1 (((1 * ((1 * r 3 + 0) + 0) + 0) + 0)).toNat) → ye_nr (h5 1) (h5 2) (h5 3) (((1 * ((1 * r 3 + 0) + 0) + 0) + 0)).toNat → ye_J (h5 1) (h5 2) (h5 3) (((1 * ((1 * r 3 + 0) + 0) + 0) + 0)).toNat (((1 * ((1 * r 3 + 0) + 0) + 0) + 0)).toNat 0 (((0 : Int) + 1), ((0 : Int) + 0), ((1 * ((1 * r 26 + 0) + 0) + 0) + 0), ((1 * ((1 * r 28 + 0) + 0) + 0) + 0), ((1 * ((1 * r 27 + 0) + 0) + 0) + 0)) ∧ ye_tB (((0 : Int) + 1), ((0 : Int) + 0), ((1 * ((1 * r 26 + 0) + 0) + 0) + 0), ((1 * ((1 * r 28 + 0) + 0) + 0) + 0), ((1 * ((1 * r 27 + 0) + 0) + 0) + 0))) := e5
  obtain ⟨h6, hh, e6, k6⟩ := hh
  have k6 : ∀ j, j ∉ [] → h5 j = h6 j := k6
  have e6 : (((0 : Int) + 0) ≤ ((1 * r 0 + 0) + 0) ∧ ((1 * r 0 + 0) + 0) ≤ ((0 : Int) + 5)) := e6
  have hh : h6 = gi := hh
  subst hh
  refine yt_dalt (by decide) (by decide) ?_
  rw [show xk_1086.2.1.2.1.1.length = 26 from rfl]
  show (¬ (0 ≤ ((1 * r 0 + 0) + 0) ∧ ((1 * r 0 + 0) + 0) ≤ 5) → ((1 * r 33 + 0) + 0) = -1) ∧ ((0 ≤ ((1 * r 0 + 0) + 0) ∧ ((1 * r 0 + 0) + 0) ≤ 5) → ye_nr (g0 1) (g0 2) (g0 3) (((1 * ((1 * r 3 + 0) + 0) + 0) + 0)).toNat → ∃ m : ye_T, ye_way (g0 1) (g0 2) (g0 3) (((1 * ((1 * r 3 + 0) + 0) + 0) + 0)).toNat m ∧ ye_tb m ∧ ((1 * r 33 + 0) + 0) = ye_rw (g0 1) (g0 2) (((1 * ((1 * r 3 + 0) + 0) + 0) + 0)).toNat m ((1 * r 0 + 0) + 0))
  try simp only [Int.one_mul, Int.zero_add, Int.add_zero]
  try simp only [Int.one_mul, Int.zero_add, Int.add_zero] at e6
  try simp only [Int.one_mul, Int.zero_add, Int.add_zero] at e5
  rw [k6 1 (by decide), k6 2 (by decide), k6 3 (by decide), hgi] at e5
  try simp only [Int.one_mul, Int.zero_add, Int.add_zero] at e3
  try simp only [Int.one_mul, Int.zero_add, Int.add_zero] at e4
  try simp only [Int.one_mul, Int.zero_add, Int.add_zero] at e0
  rw [show -1 * r 27 + r 28 = r 28 - r 27 by omega] at e4
  have sqA : (0 : Int) * (0 : Int) = 0 := by
    first
      | rfl
      | (rw [show (0 : Int) = 0 by omega] <;> rfl)
  have sqB : r 26 * r 26 = r 30 := e3.symm
  have hl : (0 : Int) * (0 : Int) + r 26 * r 26 = r 30 := by
    rw [sqA, sqB]
    omega
  rw [e4, ← hl] at e0
  refine ⟨fun q => absurd (by omega) q, fun _ hr => ⟨((1 : Int), (0 : Int), r 26, r 28, r 27), (ye_mw hr e5.1 e5.2).1, (ye_mw hr e5.1 e5.2).2, ?_⟩⟩
  unfold ye_rw
  try dsimp only
  try rw [if_neg (show ¬ (1 : Int) = 0 by omega)]
  rw [show r 0 = 0 by omega, (ye_w0e (show (0 : Int) * (0 : Int) + r 26 * r 26 ≠ 0 by rw [hl]; omega)).1]
  exact e0
theorem xw_1086_0_34 : yt_hold xT_1086 xk_1086 xq_1086.2.2.1 xG_1086 xP_1086 xU_1086 26 xk_1086.2.1.2.2.2 (fun g0 r g => xR_1086 r g0 ∧ g = g0) (1000, ([(1, 1), ((-2147483648), 2147483647), ((-2147483648), 2147483647), (1, 40), ((-2147483648), 2147483647), (0, 4), ((-9223372036854775808), 9223372036854775807), ((-9223372036854775808), 9223372036854775807), ((-9223372036854775808), 9223372036854775807), (0, 1), ((-4000), 4000), ((-4000), 4000), ((-8000000), 8000000), ((-8000000), 8000000), (0, 12), ((-9223372036854775808), 9223372036854775807), ((-9223372036854775808), 9223372036854775807), ((-9223372036854775808), 9223372036854775807), ((-9223372036854775808), 9223372036854775807), ((-9223372036854775808), 9223372036854775807), (0, 12), ((-2147483648), 2147483647), (0, 12), ((-2147483648), 2147483647), (0, 40), (0, 40), ((-1300), (-1)), ((-8000000), 1200000), ((-4000000), 8000000), (0, 256000000000000), (1, 1690000), (1, 4611686018427387904), (1, 4611686018427387904), ((-4611686018427387904), 4611686018427387904)], []), [([(33, 1)], 0), ([], 1), ([], 0), ([(26, 1)], 0), ([(27, 1)], 0), ([(28, 1)], 0)], [], [.inr (.inr (.inl (332, 0, [([(29, 1)], 0), ([(30, 1)], 0), ([], 0), ([(33, 1)], 0)], [], []))), .inr (.inr (.inl (320, 0, [([(31, 1)], 0), ([(27, 1), (28, 1)], 0), ([(32, 1)], 0)], [], []))), .inr (.inr (.inl (323, 0, [([], 0), ([(26, 2)], 0), ([(31, 1)], 0)], [], []))), .inl (.inr (30, ([(26, 1)], 0), ([(26, 1)], 0))), .inl (.inr (29, ([(27, (-1)), (28, 1)], 0), ([(27, (-1)), (28, 1)], 0))), .inr (.inr (.inl (331, 3, [([], 0), ([(2, 1)], 0), ([(3, 1)], 0), ([(4, 1)], 0), ([(5, 1)], 0), ([(6, 1)], 0), ([(7, 1)], 0), ([(8, 1)], 0), ([(9, 1)], 0), ([(10, 1)], 0), ([(11, 1)], 0), ([(12, 1)], 0), ([(13, 1)], 0), ([(14, 1)], 0), ([(15, 1)], 0), ([(16, 1)], 0), ([(17, 1)], 0), ([(18, 1)], 0), ([(19, 1)], 0), ([(20, 1)], 0), ([(21, 1)], 0), ([(22, 1)], 0), ([(23, 1)], 0), ([(24, 1)], 0), ([(25, 1)], 0), ([(26, 1)], 0), ([(27, 1)], 0), ([(28, 1)], 0)], [0, 1, 2, 3, 4, 5, 6, 7, 8, 9, 10, 11, 12, 13, 14, 15, 16, 17, 18, 19, 20, 21, 22, 23, 24, 25, 26, 27, 28, 29, 30, 31, 32, 33, 34, 35, 36], []))), .inr (.inr (.inl (258, 1, [([(0, 1)], 0), ([], 0), ([], 5)], [], [])))]) := by
  intro g0 r gi g hok hh hars hfr hG
  have b0 : 1 ≤ r 0 ∧ r 0 ≤ 1 := hok.1 0 (1, 1) rfl
  have b3 : 1 ≤ r 3 ∧ r 3 ≤ 40 := hok.1 3 (1, 40) rfl
  have b26 : (-1300) ≤ r 26 ∧ r 26 ≤ (-1) := hok.1 26 ((-1300), (-1)) rfl
  have b27 : (-8000000) ≤ r 27 ∧ r 27 ≤ 1200000 := hok.1 27 ((-8000000), 1200000) rfl
  have b28 : (-4000000) ≤ r 28 ∧ r 28 ≤ 8000000 := hok.1 28 ((-4000000), 8000000) rfl
  have b29 : 0 ≤ r 29 ∧ r 29 ≤ 256000000000000 := hok.1 29 (0, 256000000000000) rfl
  have b30 : 1 ≤ r 30 ∧ r 30 ≤ 1690000 := hok.1 30 (1, 1690000) rfl
  have b31 : 1 ≤ r 31 ∧ r 31 ≤ 4611686018427387904 := hok.1 31 (1, 4611686018427387904) rfl
  have b32 : 1 ≤ r 32 ∧ r 32 ≤ 4611686018427387904 := hok.1 32 (1, 4611686018427387904) rfl
  have b33 : (-4611686018427387904) ≤ r 33 ∧ r 33 ≤ 4611686018427387904 := hok.1 33 ((-4611686018427387904), 4611686018427387904) rfl
  obtain ⟨hG, hgi⟩ := hG
  have hG : True := hG
  obtain ⟨h0, hh, e0, k0⟩ := hh
  have k0 : ∀ j, j ∉ [] → g j = h0 j := k0
  have e0 : ((1 * r 33 + 0) + 0) = ye_pt ((1 * r 29 + 0) + 0) ((1 * r 30 + 0) + 0) ((0 : Int) + 0) := e0
  obtain ⟨h1, hh, e1, k1⟩ := hh
  have k1 : ∀ j, j ∉ [] → h0 j = h1 j := k1
  have e1 : ((1 * r 32 + 0) + 0) = ((Nat.gcd (((1 * r 31 + 0) + 0)).natAbs (((1 * r 27 + (1 * r 28 + 0)) + 0)).natAbs : Nat) : Int) := e1
  obtain ⟨h2, hh, e2, k2⟩ := hh
  have k2 : ∀ j, j ∉ [] → h1 j = h2 j := k2
  have e2 : ((1 * r 31 + 0) + 0) = ((Nat.gcd (((0 : Int) + 0)).natAbs (((2 * r 26 + 0) + 0)).natAbs : Nat) : Int) := e2
  obtain ⟨g3, hh, q3, e3⟩ := hh
  subst q3
  have e3 : r 30 = ((1 * r 26 + 0) + 0) * ((1 * r 26 + 0) + 0) := e3
  try simp only [Int.one_mul, Int.zero_add, Int.add_zero] at e3
  obtain ⟨g4, hh, q4, e4⟩ := hh
  subst q4
  have e4 : r 29 = (((-1) * r 27 + (1 * r 28 + 0)) + 0) * (((-1) * r 27 + (1 * r 28 + 0)) + 0) := e4
  try simp only [Int.one_mul, Int.zero_add, Int.add_zero] at e4
  obtain ⟨h5, hh, e5, k5⟩ := hh
  have k5 : ∀ j, j ∉ [] → h2 j = h5 j := k5
  have e5 : (¬ (0 < yq_cnt (h5 3) 0 (((1 * ((1 * r 3 + 0) + 0) + 0) + 0)).toNat ∧ 0 < yq_cnt (h5 3) 1 (((1 * ((1 * r 3 + 0) + 0) + 0) + 0)).toNat) → ((0 : Int) + 1) = 0) ∧ ((0 < yq_cnt (h5 3) 0 (((1 * ((1 * r 3 + 0) + 0) + 0) + 0)).toNat ∧ 0 < yq_cnt (h5 3) 1 (((1 * ((1 * r 3 + 0) + 0) + 0) + 0)).toNat) → ye_nr (h5 1) (h5 2) (h5 3) (((1 * ((1 * r 3 + 0) + 0) + 0) + 0)).toNat → ye_J (h5 1) (h5 2) (h5 3) (((1 * ((1 * r 3 + 0) + 0) + 0) + 0)).toNat (((1 * ((1 * r 3 + 0) + 0) + 0) + 0)).toNat 0 (((0 : Int) + 1), ((0 : Int) + 0), ((1 * ((1 * r 26 + 0) + 0) + 0) + 0), ((1 * ((1 * r 28 + 0) + 0) + 0) + 0), ((1 * ((1 * r 27 + 0) + 0) + 0) + 0)) ∧ ye_tB (((0 : Int) + 1), ((0 : Int) + 0), ((1 * ((1 * r 26 + 0) + 0) + 0) + 0), ((1 * ((1 * r 28 + 0) + 0) + 0) + 0), ((1 * ((1 * r 27 + 0) + 0) + 0) + 0))) := e5
  obtain ⟨h6, hh, e6, k6⟩ := hh
  have k6 : ∀ j, j ∉ [] → h5 j = h6 j := k6
  have e6 : (((0 : Int) + 0) ≤ ((1 * r 0 + 0) + 0) ∧ ((1 * r 0 + 0) + 0) ≤ ((0 : Int) + 5)) := e6
  have hh : h6 = gi := hh
  subst hh
  refine yt_dalt (by decide) (by decide) ?_
  rw [show xk_1086.2.1.2.1.1.length = 26 from rfl]
  show (¬ (0 ≤ ((1 * r 0 + 0) + 0) ∧ ((1 * r 0 + 0) + 0) ≤ 5) → ((1 * r 33 + 0) + 0) = -1) ∧ ((0 ≤ ((1 * r 0 + 0) + 0) ∧ ((1 * r 0 + 0) + 0) ≤ 5) → ye_nr (g0 1) (g0 2) (g0 3) (((1 * ((1 * r 3 + 0) + 0) + 0) + 0)).toNat → ∃ m : ye_T, ye_way (g0 1) (g0 2) (g0 3) (((1 * ((1 * r 3 + 0) + 0) + 0) + 0)).toNat m ∧ ye_tb m ∧ ((1 * r 33 + 0) + 0) = ye_rw (g0 1) (g0 2) (((1 * ((1 * r 3 + 0) + 0) + 0) + 0)).toNat m ((1 * r 0 + 0) + 0))
  try simp only [Int.one_mul, Int.zero_add, Int.add_zero]
  try simp only [Int.one_mul, Int.zero_add, Int.add_zero] at e6
  try simp only [Int.one_mul, Int.zero_add, Int.add_zero] at e5
  rw [k6 1 (by decide), k6 2 (by decide), k6 3 (by decide), hgi] at e5
  try simp only [Int.one_mul, Int.zero_add, Int.add_zero] at e3
  try simp only [Int.one_mul, Int.zero_add, Int.add_zero] at e4
  try simp only [Int.one_mul, Int.zero_add, Int.add_zero] at e0
  rw [show -1 * r 27 + r 28 = r 28 - r 27 by omega] at e4
  have sqA : (0 : Int) * (0 : Int) = 0 := by
    first
      | rfl
      | (rw [show (0 : Int) = 0 by omega] <;> rfl)
  have sqB : r 26 * r 26 = r 30 := e3.symm
  have hl : (0 : Int) * (0 : Int) + r 26 * r 26 = r 30 := by
    rw [sqA, sqB]
    omega
  rw [e4, ← hl] at e0
  refine ⟨fun q => absurd (by omega) q, fun _ hr => ⟨((1 : Int), (0 : Int), r 26, r 28, r 27), (ye_mw hr e5.1 e5.2).1, (ye_mw hr e5.1 e5.2).2, ?_⟩⟩
  unfold ye_rw
  try dsimp only
  try rw [if_neg (show ¬ (1 : Int) = 0 by omega)]
  rw [show r 0 = 1 by omega, (ye_w0e (show (0 : Int) * (0 : Int) + r 26 * r 26 ≠ 0 by rw [hl]; omega)).2]
  exact e0
theorem xw_1086_0_35 : yt_hold xT_1086 xk_1086 xq_1086.2.2.1 xG_1086 xP_1086 xU_1086 26 xk_1086.2.1.2.2.2 (fun g0 r g => xR_1086 r g0 ∧ g = g0) (1000, ([(2, 2), ((-2147483648), 2147483647), ((-2147483648), 2147483647), (1, 40), ((-2147483648), 2147483647), (0, 4), ((-9223372036854775808), 9223372036854775807), ((-9223372036854775808), 9223372036854775807), ((-9223372036854775808), 9223372036854775807), (0, 1), ((-4000), 4000), ((-4000), 4000), ((-8000000), 8000000), ((-8000000), 8000000), (0, 12), ((-9223372036854775808), 9223372036854775807), ((-9223372036854775808), 9223372036854775807), ((-9223372036854775808), 9223372036854775807), ((-9223372036854775808), 9223372036854775807), ((-9223372036854775808), 9223372036854775807), (0, 12), ((-2147483648), 2147483647), (0, 12), ((-2147483648), 2147483647), (0, 40), (0, 40), ((-1300), (-1)), ((-8000000), 1200000), ((-4000000), 8000000), (0, 256000000000000), (1, 1690000), (1, 4611686018427387904), (1, 4611686018427387904), (0, 0)], []), [([], 0), ([], 1), ([], 0), ([(26, 1)], 0), ([(27, 1)], 0), ([(28, 1)], 0)], [], [.inr (.inr (.inl (998, 1, [([], 0), ([(32, 1)], 0), ([], 0)], [], []))), .inr (.inr (.inl (320, 0, [([(31, 1)], 0), ([(27, 1), (28, 1)], 0), ([(32, 1)], 0)], [], []))), .inr (.inr (.inl (323, 0, [([], 0), ([(26, 2)], 0), ([(31, 1)], 0)], [], []))), .inl (.inr (30, ([(26, 1)], 0), ([(26, 1)], 0))), .inl (.inr (29, ([(27, (-1)), (28, 1)], 0), ([(27, (-1)), (28, 1)], 0))), .inr (.inr (.inl (331, 3, [([], 0), ([(2, 1)], 0), ([(3, 1)], 0), ([(4, 1)], 0), ([(5, 1)], 0), ([(6, 1)], 0), ([(7, 1)], 0), ([(8, 1)], 0), ([(9, 1)], 0), ([(10, 1)], 0), ([(11, 1)], 0), ([(12, 1)], 0), ([(13, 1)], 0), ([(14, 1)], 0), ([(15, 1)], 0), ([(16, 1)], 0), ([(17, 1)], 0), ([(18, 1)], 0), ([(19, 1)], 0), ([(20, 1)], 0), ([(21, 1)], 0), ([(22, 1)], 0), ([(23, 1)], 0), ([(24, 1)], 0), ([(25, 1)], 0), ([(26, 1)], 0), ([(27, 1)], 0), ([(28, 1)], 0)], [0, 1, 2, 3, 4, 5, 6, 7, 8, 9, 10, 11, 12, 13, 14, 15, 16, 17, 18, 19, 20, 21, 22, 23, 24, 25, 26, 27, 28, 29, 30, 31, 32, 33, 34, 35, 36], []))), .inr (.inr (.inl (258, 1, [([(0, 1)], 0), ([], 0), ([], 5)], [], [])))]) := by
  intro g0 r gi g hok hh hars hfr hG
  have b0 : 2 ≤ r 0 ∧ r 0 ≤ 2 := hok.1 0 (2, 2) rfl
  have b3 : 1 ≤ r 3 ∧ r 3 ≤ 40 := hok.1 3 (1, 40) rfl
  have b26 : (-1300) ≤ r 26 ∧ r 26 ≤ (-1) := hok.1 26 ((-1300), (-1)) rfl
  have b27 : (-8000000) ≤ r 27 ∧ r 27 ≤ 1200000 := hok.1 27 ((-8000000), 1200000) rfl
  have b28 : (-4000000) ≤ r 28 ∧ r 28 ≤ 8000000 := hok.1 28 ((-4000000), 8000000) rfl
  have b29 : 0 ≤ r 29 ∧ r 29 ≤ 256000000000000 := hok.1 29 (0, 256000000000000) rfl
  have b30 : 1 ≤ r 30 ∧ r 30 ≤ 1690000 := hok.1 30 (1, 1690000) rfl
  have b31 : 1 ≤ r 31 ∧ r 31 ≤ 4611686018427387904 := hok.1 31 (1, 4611686018427387904) rfl
  have b32 : 1 ≤ r 32 ∧ r 32 ≤ 4611686018427387904 := hok.1 32 (1, 4611686018427387904) rfl
  have b33 : 0 ≤ r 33 ∧ r 33 ≤ 0 := hok.1 33 (0, 0) rfl
  obtain ⟨hG, hgi⟩ := hG
  have hG : True := hG
  obtain ⟨h0, hh, e0, k0⟩ := hh
  have k0 : ∀ j, j ∉ [] → g j = h0 j := k0
  have e0 : ((0 : Int) + 0) = (((0 : Int) + 0)).tdiv (((1 * r 32 + 0) + 0)) := e0
  obtain ⟨h1, hh, e1, k1⟩ := hh
  have k1 : ∀ j, j ∉ [] → h0 j = h1 j := k1
  have e1 : ((1 * r 32 + 0) + 0) = ((Nat.gcd (((1 * r 31 + 0) + 0)).natAbs (((1 * r 27 + (1 * r 28 + 0)) + 0)).natAbs : Nat) : Int) := e1
  obtain ⟨h2, hh, e2, k2⟩ := hh
  have k2 : ∀ j, j ∉ [] → h1 j = h2 j := k2
  have e2 : ((1 * r 31 + 0) + 0) = ((Nat.gcd (((0 : Int) + 0)).natAbs (((2 * r 26 + 0) + 0)).natAbs : Nat) : Int) := e2
  obtain ⟨g3, hh, q3, e3⟩ := hh
  subst q3
  have e3 : r 30 = ((1 * r 26 + 0) + 0) * ((1 * r 26 + 0) + 0) := e3
  try simp only [Int.one_mul, Int.zero_add, Int.add_zero] at e3
  obtain ⟨g4, hh, q4, e4⟩ := hh
  subst q4
  have e4 : r 29 = (((-1) * r 27 + (1 * r 28 + 0)) + 0) * (((-1) * r 27 + (1 * r 28 + 0)) + 0) := e4
  try simp only [Int.one_mul, Int.zero_add, Int.add_zero] at e4
  obtain ⟨h5, hh, e5, k5⟩ := hh
  have k5 : ∀ j, j ∉ [] → h2 j = h5 j := k5
  have e5 : (¬ (0 < yq_cnt (h5 3) 0 (((1 * ((1 * r 3 + 0) + 0) + 0) + 0)).toNat ∧ 0 < yq_cnt (h5 3) 1 (((1 * ((1 * r 3 + 0) + 0) + 0) + 0)).toNat) → ((0 : Int) + 1) = 0) ∧ ((0 < yq_cnt (h5 3) 0 (((1 * ((1 * r 3 + 0) + 0) + 0) + 0)).toNat ∧ 0 < yq_cnt (h5 3) 1 (((1 * ((1 * r 3 + 0) + 0) + 0) + 0)).toNat) → ye_nr (h5 1) (h5 2) (h5 3) (((1 * ((1 * r 3 + 0) + 0) + 0) + 0)).toNat → ye_J (h5 1) (h5 2) (h5 3) (((1 * ((1 * r 3 + 0) + 0) + 0) + 0)).toNat (((1 * ((1 * r 3 + 0) + 0) + 0) + 0)).toNat 0 (((0 : Int) + 1), ((0 : Int) + 0), ((1 * ((1 * r 26 + 0) + 0) + 0) + 0), ((1 * ((1 * r 28 + 0) + 0) + 0) + 0), ((1 * ((1 * r 27 + 0) + 0) + 0) + 0)) ∧ ye_tB (((0 : Int) + 1), ((0 : Int) + 0), ((1 * ((1 * r 26 + 0) + 0) + 0) + 0), ((1 * ((1 * r 28 + 0) + 0) + 0) + 0), ((1 * ((1 * r 27 + 0) + 0) + 0) + 0))) := e5
  obtain ⟨h6, hh, e6, k6⟩ := hh
  have k6 : ∀ j, j ∉ [] → h5 j = h6 j := k6
  have e6 : (((0 : Int) + 0) ≤ ((1 * r 0 + 0) + 0) ∧ ((1 * r 0 + 0) + 0) ≤ ((0 : Int) + 5)) := e6
  have hh : h6 = gi := hh
  subst hh
  refine yt_dalt (by decide) (by decide) ?_
  rw [show xk_1086.2.1.2.1.1.length = 26 from rfl]
  show (¬ (0 ≤ ((1 * r 0 + 0) + 0) ∧ ((1 * r 0 + 0) + 0) ≤ 5) → ((0 : Int) + 0) = -1) ∧ ((0 ≤ ((1 * r 0 + 0) + 0) ∧ ((1 * r 0 + 0) + 0) ≤ 5) → ye_nr (g0 1) (g0 2) (g0 3) (((1 * ((1 * r 3 + 0) + 0) + 0) + 0)).toNat → ∃ m : ye_T, ye_way (g0 1) (g0 2) (g0 3) (((1 * ((1 * r 3 + 0) + 0) + 0) + 0)).toNat m ∧ ye_tb m ∧ ((0 : Int) + 0) = ye_rw (g0 1) (g0 2) (((1 * ((1 * r 3 + 0) + 0) + 0) + 0)).toNat m ((1 * r 0 + 0) + 0))
  try simp only [Int.one_mul, Int.zero_add, Int.add_zero]
  try simp only [Int.one_mul, Int.zero_add, Int.add_zero] at e6
  try simp only [Int.one_mul, Int.zero_add, Int.add_zero] at e5
  rw [k6 1 (by decide), k6 2 (by decide), k6 3 (by decide), hgi] at e5
  try simp only [Int.one_mul, Int.zero_add, Int.add_zero] at e3
  try simp only [Int.one_mul, Int.zero_add, Int.add_zero] at e4
  try simp only [Int.one_mul, Int.zero_add, Int.add_zero] at e1
  try simp only [Int.one_mul, Int.zero_add, Int.add_zero] at e2
  try simp only [Int.one_mul, Int.zero_add, Int.add_zero] at e0
  rw [show r 27 + r 28 = r 28 + r 27 by omega] at e1
  have e2 : r 31 = ((Nat.gcd (2 * (0 : Int)).natAbs (2 * r 26).natAbs : Nat) : Int) := e2
  have e0 : (0 : Int) = (2 * (0 : Int)).tdiv (r 32) := e0
  refine ⟨fun q => absurd (by omega) q, fun _ hr => ⟨((1 : Int), (0 : Int), r 26, r 28, r 27), (ye_mw hr e5.1 e5.2).1, (ye_mw hr e5.1 e5.2).2, ?_⟩⟩
  unfold ye_rw
  try dsimp only
  try rw [if_neg (show ¬ (1 : Int) = 0 by omega)]
  rw [show r 0 = 2 by omega]
  unfold ye_wd
  rw [if_neg (by decide), if_neg (by decide), if_pos rfl]
  rw [ye_w2e (show (0 : Int) ≠ 0 ∨ r 26 ≠ 0 by omega) e2 e1]
  exact e0
theorem xw_1086_0_36 : yt_hold xT_1086 xk_1086 xq_1086.2.2.1 xG_1086 xP_1086 xU_1086 26 xk_1086.2.1.2.2.2 (fun g0 r g => xR_1086 r g0 ∧ g = g0) (1000, ([(3, 3), ((-2147483648), 2147483647), ((-2147483648), 2147483647), (1, 40), ((-2147483648), 2147483647), (0, 4), ((-9223372036854775808), 9223372036854775807), ((-9223372036854775808), 9223372036854775807), ((-9223372036854775808), 9223372036854775807), (0, 1), ((-4000), 4000), ((-4000), 4000), ((-8000000), 8000000), ((-8000000), 8000000), (0, 12), ((-9223372036854775808), 9223372036854775807), ((-9223372036854775808), 9223372036854775807), ((-9223372036854775808), 9223372036854775807), ((-9223372036854775808), 9223372036854775807), ((-9223372036854775808), 9223372036854775807), (0, 12), ((-2147483648), 2147483647), (0, 12), ((-2147483648), 2147483647), (0, 40), (0, 40), ((-1300), (-1)), ((-8000000), 1200000), ((-4000000), 8000000), (0, 256000000000000), (1, 1690000), (1, 4611686018427387904), (1, 4611686018427387904), ((-2600), 0)], [([(26, (-2)), (33, 1)], 0), ([(26, (-2))], (-1))]), [([(33, 1)], 0), ([], 1), ([], 0), ([(26, 1)], 0), ([(27, 1)], 0), ([(28, 1)], 0)], [], [.inr (.inr (.inl (998, 1, [([(26, 2)], 0), ([(32, 1)], 0), ([(33, 1)], 0)], [], []))), .inr (.inr (.inl (320, 0, [([(31, 1)], 0), ([(27, 1), (28, 1)], 0), ([(32, 1)], 0)], [], []))), .inr (.inr (.inl (323, 0, [([], 0), ([(26, 2)], 0), ([(31, 1)], 0)], [], []))), .inl (.inr (30, ([(26, 1)], 0), ([(26, 1)], 0))), .inl (.inr (29, ([(27, (-1)), (28, 1)], 0), ([(27, (-1)), (28, 1)], 0))), .inr (.inr (.inl (331, 3, [([], 0), ([(2, 1)], 0), ([(3, 1)], 0), ([(4, 1)], 0), ([(5, 1)], 0), ([(6, 1)], 0), ([(7, 1)], 0), ([(8, 1)], 0), ([(9, 1)], 0), ([(10, 1)], 0), ([(11, 1)], 0), ([(12, 1)], 0), ([(13, 1)], 0), ([(14, 1)], 0), ([(15, 1)], 0), ([(16, 1)], 0), ([(17, 1)], 0), ([(18, 1)], 0), ([(19, 1)], 0), ([(20, 1)], 0), ([(21, 1)], 0), ([(22, 1)], 0), ([(23, 1)], 0), ([(24, 1)], 0), ([(25, 1)], 0), ([(26, 1)], 0), ([(27, 1)], 0), ([(28, 1)], 0)], [0, 1, 2, 3, 4, 5, 6, 7, 8, 9, 10, 11, 12, 13, 14, 15, 16, 17, 18, 19, 20, 21, 22, 23, 24, 25, 26, 27, 28, 29, 30, 31, 32, 33, 34, 35, 36], []))), .inr (.inr (.inl (258, 1, [([(0, 1)], 0), ([], 0), ([], 5)], [], [])))]) := by
  intro g0 r gi g hok hh hars hfr hG
  have b0 : 3 ≤ r 0 ∧ r 0 ≤ 3 := hok.1 0 (3, 3) rfl
  have b3 : 1 ≤ r 3 ∧ r 3 ≤ 40 := hok.1 3 (1, 40) rfl
  have b26 : (-1300) ≤ r 26 ∧ r 26 ≤ (-1) := hok.1 26 ((-1300), (-1)) rfl
  have b27 : (-8000000) ≤ r 27 ∧ r 27 ≤ 1200000 := hok.1 27 ((-8000000), 1200000) rfl
  have b28 : (-4000000) ≤ r 28 ∧ r 28 ≤ 8000000 := hok.1 28 ((-4000000), 8000000) rfl
  have b29 : 0 ≤ r 29 ∧ r 29 ≤ 256000000000000 := hok.1 29 (0, 256000000000000) rfl
  have b30 : 1 ≤ r 30 ∧ r 30 ≤ 1690000 := hok.1 30 (1, 1690000) rfl
  have b31 : 1 ≤ r 31 ∧ r 31 ≤ 4611686018427387904 := hok.1 31 (1, 4611686018427387904) rfl
  have b32 : 1 ≤ r 32 ∧ r 32 ≤ 4611686018427387904 := hok.1 32 (1, 4611686018427387904) rfl
  have b33 : (-2600) ≤ r 33 ∧ r 33 ≤ 0 := hok.1 33 ((-2600), 0) rfl
  have f0 : 0 ≤ (((-2) * r 26 + (1 * r 33 + 0)) + 0) := hok.2 _ (List.mem_of_getElem? (i := 0) rfl)
  have f1 : 0 ≤ (((-2) * r 26 + 0) + (-1)) := hok.2 _ (List.mem_of_getElem? (i := 1) rfl)
  obtain ⟨hG, hgi⟩ := hG
  have hG : True := hG
  obtain ⟨h0, hh, e0, k0⟩ := hh
  have k0 : ∀ j, j ∉ [] → g j = h0 j := k0
  have e0 : ((1 * r 33 + 0) + 0) = (((2 * r 26 + 0) + 0)).tdiv (((1 * r 32 + 0) + 0)) := e0
  obtain ⟨h1, hh, e1, k1⟩ := hh
  have k1 : ∀ j, j ∉ [] → h0 j = h1 j := k1
  have e1 : ((1 * r 32 + 0) + 0) = ((Nat.gcd (((1 * r 31 + 0) + 0)).natAbs (((1 * r 27 + (1 * r 28 + 0)) + 0)).natAbs : Nat) : Int) := e1
  obtain ⟨h2, hh, e2, k2⟩ := hh
  have k2 : ∀ j, j ∉ [] → h1 j = h2 j := k2
  have e2 : ((1 * r 31 + 0) + 0) = ((Nat.gcd (((0 : Int) + 0)).natAbs (((2 * r 26 + 0) + 0)).natAbs : Nat) : Int) := e2
  obtain ⟨g3, hh, q3, e3⟩ := hh
  subst q3
  have e3 : r 30 = ((1 * r 26 + 0) + 0) * ((1 * r 26 + 0) + 0) := e3
  try simp only [Int.one_mul, Int.zero_add, Int.add_zero] at e3
  obtain ⟨g4, hh, q4, e4⟩ := hh
  subst q4
  have e4 : r 29 = (((-1) * r 27 + (1 * r 28 + 0)) + 0) * (((-1) * r 27 + (1 * r 28 + 0)) + 0) := e4
  try simp only [Int.one_mul, Int.zero_add, Int.add_zero] at e4
  obtain ⟨h5, hh, e5, k5⟩ := hh
  have k5 : ∀ j, j ∉ [] → h2 j = h5 j := k5
  have e5 : (¬ (0 < yq_cnt (h5 3) 0 (((1 * ((1 * r 3 + 0) + 0) + 0) + 0)).toNat ∧ 0 < yq_cnt (h5 3) 1 (((1 * ((1 * r 3 + 0) + 0) + 0) + 0)).toNat) → ((0 : Int) + 1) = 0) ∧ ((0 < yq_cnt (h5 3) 0 (((1 * ((1 * r 3 + 0) + 0) + 0) + 0)).toNat ∧ 0 < yq_cnt (h5 3) 1 (((1 * ((1 * r 3 + 0) + 0) + 0) + 0)).toNat) → ye_nr (h5 1) (h5 2) (h5 3) (((1 * ((1 * r 3 + 0) + 0) + 0) + 0)).toNat → ye_J (h5 1) (h5 2) (h5 3) (((1 * ((1 * r 3 + 0) + 0) + 0) + 0)).toNat (((1 * ((1 * r 3 + 0) + 0) + 0) + 0)).toNat 0 (((0 : Int) + 1), ((0 : Int) + 0), ((1 * ((1 * r 26 + 0) + 0) + 0) + 0), ((1 * ((1 * r 28 + 0) + 0) + 0) + 0), ((1 * ((1 * r 27 + 0) + 0) + 0) + 0)) ∧ ye_tB (((0 : Int) + 1), ((0 : Int) + 0), ((1 * ((1 * r 26 + 0) + 0) + 0) + 0), ((1 * ((1 * r 28 + 0) + 0) + 0) + 0), ((1 * ((1 * r 27 + 0) + 0) + 0) + 0))) := e5
  obtain ⟨h6, hh, e6, k6⟩ := hh
  have k6 : ∀ j, j ∉ [] → h5 j = h6 j := k6
  have e6 : (((0 : Int) + 0) ≤ ((1 * r 0 + 0) + 0) ∧ ((1 * r 0 + 0) + 0) ≤ ((0 : Int) + 5)) := e6
  have hh : h6 = gi := hh
  subst hh
  refine yt_dalt (by decide) (by decide) ?_
  rw [show xk_1086.2.1.2.1.1.length = 26 from rfl]
  show (¬ (0 ≤ ((1 * r 0 + 0) + 0) ∧ ((1 * r 0 + 0) + 0) ≤ 5) → ((1 * r 33 + 0) + 0) = -1) ∧ ((0 ≤ ((1 * r 0 + 0) + 0) ∧ ((1 * r 0 + 0) + 0) ≤ 5) → ye_nr (g0 1) (g0 2) (g0 3) (((1 * ((1 * r 3 + 0) + 0) + 0) + 0)).toNat → ∃ m : ye_T, ye_way (g0 1) (g0 2) (g0 3) (((1 * ((1 * r 3 + 0) + 0) + 0) + 0)).toNat m ∧ ye_tb m ∧ ((1 * r 33 + 0) + 0) = ye_rw (g0 1) (g0 2) (((1 * ((1 * r 3 + 0) + 0) + 0) + 0)).toNat m ((1 * r 0 + 0) + 0))
  try simp only [Int.one_mul, Int.zero_add, Int.add_zero]
  try simp only [Int.one_mul, Int.zero_add, Int.add_zero] at e6
  try simp only [Int.one_mul, Int.zero_add, Int.add_zero] at e5
  rw [k6 1 (by decide), k6 2 (by decide), k6 3 (by decide), hgi] at e5
  try simp only [Int.one_mul, Int.zero_add, Int.add_zero] at e3
  try simp only [Int.one_mul, Int.zero_add, Int.add_zero] at e4
  try simp only [Int.one_mul, Int.zero_add, Int.add_zero] at e1
  try simp only [Int.one_mul, Int.zero_add, Int.add_zero] at e2
  try simp only [Int.one_mul, Int.zero_add, Int.add_zero] at e0
  rw [show r 27 + r 28 = r 28 + r 27 by omega] at e1
  have e2 : r 31 = ((Nat.gcd (2 * (0 : Int)).natAbs (2 * r 26).natAbs : Nat) : Int) := e2
  refine ⟨fun q => absurd (by omega) q, fun _ hr => ⟨((1 : Int), (0 : Int), r 26, r 28, r 27), (ye_mw hr e5.1 e5.2).1, (ye_mw hr e5.1 e5.2).2, ?_⟩⟩
  unfold ye_rw
  try dsimp only
  try rw [if_neg (show ¬ (1 : Int) = 0 by omega)]
  rw [show r 0 = 3 by omega]
  unfold ye_wd
  rw [if_neg (by decide), if_neg (by decide), if_neg (by decide), if_pos rfl]
  rw [ye_w2e (show (0 : Int) ≠ 0 ∨ r 26 ≠ 0 by omega) e2 e1]
  exact e0
theorem xw_1086_0_37 : yt_hold xT_1086 xk_1086 xq_1086.2.2.1 xG_1086 xP_1086 xU_1086 26 xk_1086.2.1.2.2.2 (fun g0 r g => xR_1086 r g0 ∧ g = g0) (1000, ([(4, 4), ((-2147483648), 2147483647), ((-2147483648), 2147483647), (1, 40), ((-2147483648), 2147483647), (0, 4), ((-9223372036854775808), 9223372036854775807), ((-9223372036854775808), 9223372036854775807), ((-9223372036854775808), 9223372036854775807), (0, 1), ((-4000), 4000), ((-4000), 4000), ((-8000000), 8000000), ((-8000000), 8000000), (0, 12), ((-9223372036854775808), 9223372036854775807), ((-9223372036854775808), 9223372036854775807), ((-9223372036854775808), 9223372036854775807), ((-9223372036854775808), 9223372036854775807), ((-9223372036854775808), 9223372036854775807), (0, 12), ((-2147483648), 2147483647), (0, 12), ((-2147483648), 2147483647), (0, 40), (0, 40), ((-1300), (-1)), ((-8000000), 1200000), ((-1200000), 8000000), (0, 256000000000000), (1, 1690000), (1, 4611686018427387904), (1, 4611686018427387904), (0, 0)], [([(32, 1), (28, (-1)), (27, (-1))], (-1)), ([(27, 1), (28, 1)], 0)]), [([], 0), ([], 1), ([], 0), ([(26, 1)], 0), ([(27, 1)], 0), ([(28, 1)], 0)], [], [.inr (.inr (.inl (998, 1, [([(27, 1), (28, 1)], 0), ([(32, 1)], 0), ([], 0)], [], []))), .inr (.inr (.inl (320, 0, [([(31, 1)], 0), ([(27, 1), (28, 1)], 0), ([(32, 1)], 0)], [], []))), .inr (.inr (.inl (323, 0, [([], 0), ([(26, 2)], 0), ([(31, 1)], 0)], [], []))), .inl (.inr (30, ([(26, 1)], 0), ([(26, 1)], 0))), .inl (.inr (29, ([(27, (-1)), (28, 1)], 0), ([(27, (-1)), (28, 1)], 0))), .inr (.inr (.inl (331, 3, [([], 0), ([(2, 1)], 0), ([(3, 1)], 0), ([(4, 1)], 0), ([(5, 1)], 0), ([(6, 1)], 0), ([(7, 1)], 0), ([(8, 1)], 0), ([(9, 1)], 0), ([(10, 1)], 0), ([(11, 1)], 0), ([(12, 1)], 0), ([(13, 1)], 0), ([(14, 1)], 0), ([(15, 1)], 0), ([(16, 1)], 0), ([(17, 1)], 0), ([(18, 1)], 0), ([(19, 1)], 0), ([(20, 1)], 0), ([(21, 1)], 0), ([(22, 1)], 0), ([(23, 1)], 0), ([(24, 1)], 0), ([(25, 1)], 0), ([(26, 1)], 0), ([(27, 1)], 0), ([(28, 1)], 0)], [0, 1, 2, 3, 4, 5, 6, 7, 8, 9, 10, 11, 12, 13, 14, 15, 16, 17, 18, 19, 20, 21, 22, 23, 24, 25, 26, 27, 28, 29, 30, 31, 32, 33, 34, 35, 36], []))), .inr (.inr (.inl (258, 1, [([(0, 1)], 0), ([], 0), ([], 5)], [], [])))]) := by
  intro g0 r gi g hok hh hars hfr hG
  have b0 : 4 ≤ r 0 ∧ r 0 ≤ 4 := hok.1 0 (4, 4) rfl
  have b3 : 1 ≤ r 3 ∧ r 3 ≤ 40 := hok.1 3 (1, 40) rfl
  have b26 : (-1300) ≤ r 26 ∧ r 26 ≤ (-1) := hok.1 26 ((-1300), (-1)) rfl
  have b27 : (-8000000) ≤ r 27 ∧ r 27 ≤ 1200000 := hok.1 27 ((-8000000), 1200000) rfl
  have b28 : (-1200000) ≤ r 28 ∧ r 28 ≤ 8000000 := hok.1 28 ((-1200000), 8000000) rfl
  have b29 : 0 ≤ r 29 ∧ r 29 ≤ 256000000000000 := hok.1 29 (0, 256000000000000) rfl
  have b30 : 1 ≤ r 30 ∧ r 30 ≤ 1690000 := hok.1 30 (1, 1690000) rfl
  have b31 : 1 ≤ r 31 ∧ r 31 ≤ 4611686018427387904 := hok.1 31 (1, 4611686018427387904) rfl
  have b32 : 1 ≤ r 32 ∧ r 32 ≤ 4611686018427387904 := hok.1 32 (1, 4611686018427387904) rfl
  have b33 : 0 ≤ r 33 ∧ r 33 ≤ 0 := hok.1 33 (0, 0) rfl
  have f0 : 0 ≤ ((1 * r 32 + ((-1) * r 28 + ((-1) * r 27 + 0))) + (-1)) := hok.2 _ (List.mem_of_getElem? (i := 0) rfl)
  have f1 : 0 ≤ ((1 * r 27 + (1 * r 28 + 0)) + 0) := hok.2 _ (List.mem_of_getElem? (i := 1) rfl)
  obtain ⟨hG, hgi⟩ := hG
  have hG : True := hG
  obtain ⟨h0, hh, e0, k0⟩ := hh
  have k0 : ∀ j, j ∉ [] → g j = h0 j := k0
  have e0 : ((0 : Int) + 0) = (((1 * r 27 + (1 * r 28 + 0)) + 0)).tdiv (((1 * r 32 + 0) + 0)) := e0
  obtain ⟨h1, hh, e1, k1⟩ := hh
  have k1 : ∀ j, j ∉ [] → h0 j = h1 j := k1
  have e1 : ((1 * r 32 + 0) + 0) = ((Nat.gcd (((1 * r 31 + 0) + 0)).natAbs (((1 * r 27 + (1 * r 28 + 0)) + 0)).natAbs : Nat) : Int) := e1
  obtain ⟨h2, hh, e2, k2⟩ := hh
  have k2 : ∀ j, j ∉ [] → h1 j = h2 j := k2
  have e2 : ((1 * r 31 + 0) + 0) = ((Nat.gcd (((0 : Int) + 0)).natAbs (((2 * r 26 + 0) + 0)).natAbs : Nat) : Int) := e2
  obtain ⟨g3, hh, q3, e3⟩ := hh
  subst q3
  have e3 : r 30 = ((1 * r 26 + 0) + 0) * ((1 * r 26 + 0) + 0) := e3
  try simp only [Int.one_mul, Int.zero_add, Int.add_zero] at e3
  obtain ⟨g4, hh, q4, e4⟩ := hh
  subst q4
  have e4 : r 29 = (((-1) * r 27 + (1 * r 28 + 0)) + 0) * (((-1) * r 27 + (1 * r 28 + 0)) + 0) := e4
  try simp only [Int.one_mul, Int.zero_add, Int.add_zero] at e4
  obtain ⟨h5, hh, e5, k5⟩ := hh
  have k5 : ∀ j, j ∉ [] → h2 j = h5 j := k5
  have e5 : (¬ (0 < yq_cnt (h5 3) 0 (((1 * ((1 * r 3 + 0) + 0) + 0) + 0)).toNat ∧ 0 < yq_cnt (h5 3) 1 (((1 * ((1 * r 3 + 0) + 0) + 0) + 0)).toNat) → ((0 : Int) + 1) = 0) ∧ ((0 < yq_cnt (h5 3) 0 (((1 * ((1 * r 3 + 0) + 0) + 0) + 0)).toNat ∧ 0 < yq_cnt (h5 3) 1 (((1 * ((1 * r 3 + 0) + 0) + 0) + 0)).toNat) → ye_nr (h5 1) (h5 2) (h5 3) (((1 * ((1 * r 3 + 0) + 0) + 0) + 0)).toNat → ye_J (h5 1) (h5 2) (h5 3) (((1 * ((1 * r 3 + 0) + 0) + 0) + 0)).toNat (((1 * ((1 * r 3 + 0) + 0) + 0) + 0)).toNat 0 (((0 : Int) + 1), ((0 : Int) + 0), ((1 * ((1 * r 26 + 0) + 0) + 0) + 0), ((1 * ((1 * r 28 + 0) + 0) + 0) + 0), ((1 * ((1 * r 27 + 0) + 0) + 0) + 0)) ∧ ye_tB (((0 : Int) + 1), ((0 : Int) + 0), ((1 * ((1 * r 26 + 0) + 0) + 0) + 0), ((1 * ((1 * r 28 + 0) + 0) + 0) + 0), ((1 * ((1 * r 27 + 0) + 0) + 0) + 0))) := e5
  obtain ⟨h6, hh, e6, k6⟩ := hh
  have k6 : ∀ j, j ∉ [] → h5 j = h6 j := k6
  have e6 : (((0 : Int) + 0) ≤ ((1 * r 0 + 0) + 0) ∧ ((1 * r 0 + 0) + 0) ≤ ((0 : Int) + 5)) := e6
  have hh : h6 = gi := hh
  subst hh
  refine yt_dalt (by decide) (by decide) ?_
  rw [show xk_1086.2.1.2.1.1.length = 26 from rfl]
  show (¬ (0 ≤ ((1 * r 0 + 0) + 0) ∧ ((1 * r 0 + 0) + 0) ≤ 5) → ((0 : Int) + 0) = -1) ∧ ((0 ≤ ((1 * r 0 + 0) + 0) ∧ ((1 * r 0 + 0) + 0) ≤ 5) → ye_nr (g0 1) (g0 2) (g0 3) (((1 * ((1 * r 3 + 0) + 0) + 0) + 0)).toNat → ∃ m : ye_T, ye_way (g0 1) (g0 2) (g0 3) (((1 * ((1 * r 3 + 0) + 0) + 0) + 0)).toNat m ∧ ye_tb m ∧ ((0 : Int) + 0) = ye_rw (g0 1) (g0 2) (((1 * ((1 * r 3 + 0) + 0) + 0) + 0)).toNat m ((1 * r 0 + 0) + 0))
  try simp only [Int.one_mul, Int.zero_add, Int.add_zero]
  try simp only [Int.one_mul, Int.zero_add, Int.add_zero] at e6
  try simp only [Int.one_mul, Int.zero_add, Int.add_zero] at e5
  rw [k6 1 (by decide), k6 2 (by decide), k6 3 (by decide), hgi] at e5
  try simp only [Int.one_mul, Int.zero_add, Int.add_zero] at e3
  try simp only [Int.one_mul, Int.zero_add, Int.add_zero] at e4
  try simp only [Int.one_mul, Int.zero_add, Int.add_zero] at e1
  try simp only [Int.one_mul, Int.zero_add, Int.add_zero] at e2
  try simp only [Int.one_mul, Int.zero_add, Int.add_zero] at e0
  rw [show r 27 + r 28 = r 28 + r 27 by omega] at e1
  have e2 : r 31 = ((Nat.gcd (2 * (0 : Int)).natAbs (2 * r 26).natAbs : Nat) : Int) := e2
  rw [show r 27 + r 28 = r 28 + r 27 by omega] at e0
  refine ⟨fun q => absurd (by omega) q, fun _ hr => ⟨((1 : Int), (0 : Int), r 26, r 28, r 27), (ye_mw hr e5.1 e5.2).1, (ye_mw hr e5.1 e5.2).2, ?_⟩⟩
  unfold ye_rw
  try dsimp only
  try rw [if_neg (show ¬ (1 : Int) = 0 by omega)]
  rw [show r 0 = 4 by omega]
  unfold ye_wd
  rw [if_neg (by decide), if_neg (by decide), if_neg (by decide), if_neg (by decide), if_pos rfl]
  rw [ye_w2e (show (0 : Int) ≠ 0 ∨ r 26 ≠ 0 by omega) e2 e1]
  exact e0
theorem xw_1086_0_38 : yt_hold xT_1086 xk_1086 xq_1086.2.2.1 xG_1086 xP_1086 xU_1086 26 xk_1086.2.1.2.2.2 (fun g0 r g => xR_1086 r g0 ∧ g = g0) (1000, ([(4, 4), ((-2147483648), 2147483647), ((-2147483648), 2147483647), (1, 40), ((-2147483648), 2147483647), (0, 4), ((-9223372036854775808), 9223372036854775807), ((-9223372036854775808), 9223372036854775807), ((-9223372036854775808), 9223372036854775807), (0, 1), ((-4000), 4000), ((-4000), 4000), ((-8000000), 8000000), ((-8000000), 8000000), (0, 12), ((-9223372036854775808), 9223372036854775807), ((-9223372036854775808), 9223372036854775807), ((-9223372036854775808), 9223372036854775807), ((-9223372036854775808), 9223372036854775807), ((-9223372036854775808), 9223372036854775807), (0, 12), ((-2147483648), 2147483647), (0, 12), ((-2147483648), 2147483647), (0, 40), (0, 40), ((-1300), (-1)), ((-7999999), 1200000), ((-1199999), 8000000), (0, 256000000000000), (1, 1690000), (1, 4611686018427387904), (1, 9200000), (1, 9200000)], [([(33, (-1)), (28, 1), (27, 1)], 0), ([(32, (-1)), (28, 1), (27, 1)], 0)]), [([(33, 1)], 0), ([], 1), ([], 0), ([(26, 1)], 0), ([(27, 1)], 0), ([(28, 1)], 0)], [], [.inr (.inr (.inl (998, 1, [([(27, 1), (28, 1)], 0), ([(32, 1)], 0), ([(33, 1)], 0)], [], []))), .inr (.inr (.inl (320, 0, [([(31, 1)], 0), ([(27, 1), (28, 1)], 0), ([(32, 1)], 0)], [], []))), .inr (.inr (.inl (323, 0, [([], 0), ([(26, 2)], 0), ([(31, 1)], 0)], [], []))), .inl (.inr (30, ([(26, 1)], 0), ([(26, 1)], 0))), .inl (.inr (29, ([(27, (-1)), (28, 1)], 0), ([(27, (-1)), (28, 1)], 0))), .inr (.inr (.inl (331, 3, [([], 0), ([(2, 1)], 0), ([(3, 1)], 0), ([(4, 1)], 0), ([(5, 1)], 0), ([(6, 1)], 0), ([(7, 1)], 0), ([(8, 1)], 0), ([(9, 1)], 0), ([(10, 1)], 0), ([(11, 1)], 0), ([(12, 1)], 0), ([(13, 1)], 0), ([(14, 1)], 0), ([(15, 1)], 0), ([(16, 1)], 0), ([(17, 1)], 0), ([(18, 1)], 0), ([(19, 1)], 0), ([(20, 1)], 0), ([(21, 1)], 0), ([(22, 1)], 0), ([(23, 1)], 0), ([(24, 1)], 0), ([(25, 1)], 0), ([(26, 1)], 0), ([(27, 1)], 0), ([(28, 1)], 0)], [0, 1, 2, 3, 4, 5, 6, 7, 8, 9, 10, 11, 12, 13, 14, 15, 16, 17, 18, 19, 20, 21, 22, 23, 24, 25, 26, 27, 28, 29, 30, 31, 32, 33, 34, 35, 36], []))), .inr (.inr (.inl (258, 1, [([(0, 1)], 0), ([], 0), ([], 5)], [], [])))]) := by
  intro g0 r gi g hok hh hars hfr hG
  have b0 : 4 ≤ r 0 ∧ r 0 ≤ 4 := hok.1 0 (4, 4) rfl
  have b3 : 1 ≤ r 3 ∧ r 3 ≤ 40 := hok.1 3 (1, 40) rfl
  have b26 : (-1300) ≤ r 26 ∧ r 26 ≤ (-1) := hok.1 26 ((-1300), (-1)) rfl
  have b27 : (-7999999) ≤ r 27 ∧ r 27 ≤ 1200000 := hok.1 27 ((-7999999), 1200000) rfl
  have b28 : (-1199999) ≤ r 28 ∧ r 28 ≤ 8000000 := hok.1 28 ((-1199999), 8000000) rfl
  have b29 : 0 ≤ r 29 ∧ r 29 ≤ 256000000000000 := hok.1 29 (0, 256000000000000) rfl
  have b30 : 1 ≤ r 30 ∧ r 30 ≤ 1690000 := hok.1 30 (1, 1690000) rfl
  have b31 : 1 ≤ r 31 ∧ r 31 ≤ 4611686018427387904 := hok.1 31 (1, 4611686018427387904) rfl
  have b32 : 1 ≤ r 32 ∧ r 32 ≤ 9200000 := hok.1 32 (1, 9200000) rfl
  have b33 : 1 ≤ r 33 ∧ r 33 ≤ 9200000 := hok.1 33 (1, 9200000) rfl
  have f0 : 0 ≤ (((-1) * r 33 + (1 * r 28 + (1 * r 27 + 0))) + 0) := hok.2 _ (List.mem_of_getElem? (i := 0) rfl)
  have f1 : 0 ≤ (((-1) * r 32 + (1 * r 28 + (1 * r 27 + 0))) + 0) := hok.2 _ (List.mem_of_getElem? (i := 1) rfl)
  obtain ⟨hG, hgi⟩ := hG
  have hG : True := hG
  obtain ⟨h0, hh, e0, k0⟩ := hh
  have k0 : ∀ j, j ∉ [] → g j = h0 j := k0
  have e0 : ((1 * r 33 + 0) + 0) = (((1 * r 27 + (1 * r 28 + 0)) + 0)).tdiv (((1 * r 32 + 0) + 0)) := e0
  obtain ⟨h1, hh, e1, k1⟩ := hh
  have k1 : ∀ j, j ∉ [] → h0 j = h1 j := k1
  have e1 : ((1 * r 32 + 0) + 0) = ((Nat.gcd (((1 * r 31 + 0) + 0)).natAbs (((1 * r 27 + (1 * r 28 + 0)) + 0)).natAbs : Nat) : Int) := e1
  obtain ⟨h2, hh, e2, k2⟩ := hh
  have k2 : ∀ j, j ∉ [] → h1 j = h2 j := k2
  have e2 : ((1 * r 31 + 0) + 0) = ((Nat.gcd (((0 : Int) + 0)).natAbs (((2 * r 26 + 0) + 0)).natAbs : Nat) : Int) := e2
  obtain ⟨g3, hh, q3, e3⟩ := hh
  subst q3
  have e3 : r 30 = ((1 * r 26 + 0) + 0) * ((1 * r 26 + 0) + 0) := e3
  try simp only [Int.one_mul, Int.zero_add, Int.add_zero] at e3
  obtain ⟨g4, hh, q4, e4⟩ := hh
  subst q4
  have e4 : r 29 = (((-1) * r 27 + (1 * r 28 + 0)) + 0) * (((-1) * r 27 + (1 * r 28 + 0)) + 0) := e4
  try simp only [Int.one_mul, Int.zero_add, Int.add_zero] at e4
  obtain ⟨h5, hh, e5, k5⟩ := hh
  have k5 : ∀ j, j ∉ [] → h2 j = h5 j := k5
  have e5 : (¬ (0 < yq_cnt (h5 3) 0 (((1 * ((1 * r 3 + 0) + 0) + 0) + 0)).toNat ∧ 0 < yq_cnt (h5 3) 1 (((1 * ((1 * r 3 + 0) + 0) + 0) + 0)).toNat) → ((0 : Int) + 1) = 0) ∧ ((0 < yq_cnt (h5 3) 0 (((1 * ((1 * r 3 + 0) + 0) + 0) + 0)).toNat ∧ 0 < yq_cnt (h5 3) 1 (((1 * ((1 * r 3 + 0) + 0) + 0) + 0)).toNat) → ye_nr (h5 1) (h5 2) (h5 3) (((1 * ((1 * r 3 + 0) + 0) + 0) + 0)).toNat → ye_J (h5 1) (h5 2) (h5 3) (((1 * ((1 * r 3 + 0) + 0) + 0) + 0)).toNat (((1 * ((1 * r 3 + 0) + 0) + 0) + 0)).toNat 0 (((0 : Int) + 1), ((0 : Int) + 0), ((1 * ((1 * r 26 + 0) + 0) + 0) + 0), ((1 * ((1 * r 28 + 0) + 0) + 0) + 0), ((1 * ((1 * r 27 + 0) + 0) + 0) + 0)) ∧ ye_tB (((0 : Int) + 1), ((0 : Int) + 0), ((1 * ((1 * r 26 + 0) + 0) + 0) + 0), ((1 * ((1 * r 28 + 0) + 0) + 0) + 0), ((1 * ((1 * r 27 + 0) + 0) + 0) + 0))) := e5
  obtain ⟨h6, hh, e6, k6⟩ := hh
  have k6 : ∀ j, j ∉ [] → h5 j = h6 j := k6
  have e6 : (((0 : Int) + 0) ≤ ((1 * r 0 + 0) + 0) ∧ ((1 * r 0 + 0) + 0) ≤ ((0 : Int) + 5)) := e6
  have hh : h6 = gi := hh
  subst hh
  refine yt_dalt (by decide) (by decide) ?_
  rw [show xk_1086.2.1.2.1.1.length = 26 from rfl]
  show (¬ (0 ≤ ((1 * r 0 + 0) + 0) ∧ ((1 * r 0 + 0) + 0) ≤ 5) → ((1 * r 33 + 0) + 0) = -1) ∧ ((0 ≤ ((1 * r 0 + 0) + 0) ∧ ((1 * r 0 + 0) + 0) ≤ 5) → ye_nr (g0 1) (g0 2) (g0 3) (((1 * ((1 * r 3 + 0) + 0) + 0) + 0)).toNat → ∃ m : ye_T, ye_way (g0 1) (g0 2) (g0 3) (((1 * ((1 * r 3 + 0) + 0) + 0) + 0)).toNat m ∧ ye_tb m ∧ ((1 * r 33 + 0) + 0) = ye_rw (g0 1) (g0 2) (((1 * ((1 * r 3 + 0) + 0) + 0) + 0)).toNat m ((1 * r 0 + 0) + 0))
  try simp only [Int.one_mul, Int.zero_add, Int.add_zero]
  try simp only [Int.one_mul, Int.zero_add, Int.add_zero] at e6
  try simp only [Int.one_mul, Int.zero_add, Int.add_zero] at e5
  rw [k6 1 (by decide), k6 2 (by decide), k6 3 (by decide), hgi] at e5
  try simp only [Int.one_mul, Int.zero_add, Int.add_zero] at e3
  try simp only [Int.one_mul, Int.zero_add, Int.add_zero] at e4
  try simp only [Int.one_mul, Int.zero_add, Int.add_zero] at e1
  try simp only [Int.one_mul, Int.zero_add, Int.add_zero] at e2
  try simp only [Int.one_mul, Int.zero_add, Int.add_zero] at e0
  rw [show r 27 + r 28 = r 28 + r 27 by omega] at e1
  have e2 : r 31 = ((Nat.gcd (2 * (0 : Int)).natAbs (2 * r 26).natAbs : Nat) : Int) := e2
  rw [show r 27 + r 28 = r 28 + r 27 by omega] at e0
  refine ⟨fun q => absurd (by omega) q, fun _ hr => ⟨((1 : Int), (0 : Int), r 26, r 28, r 27), (ye_mw hr e5.1 e5.2).1, (ye_mw hr e5.1 e5.2).2, ?_⟩⟩
  unfold ye_rw
  try dsimp only
  try rw [if_neg (show ¬ (1 : Int) = 0 by omega)]
  rw [show r 0 = 4 by omega]
  unfold ye_wd
  rw [if_neg (by decide), if_neg (by decide), if_neg (by decide), if_neg (by decide), if_pos rfl]
  rw [ye_w2e (show (0 : Int) ≠ 0 ∨ r 26 ≠ 0 by omega) e2 e1]
  exact e0
theorem xw_1086_0_39 : yt_hold xT_1086 xk_1086 xq_1086.2.2.1 xG_1086 xP_1086 xU_1086 26 xk_1086.2.1.2.2.2 (fun g0 r g => xR_1086 r g0 ∧ g = g0) (1000, ([(4, 4), ((-2147483648), 2147483647), ((-2147483648), 2147483647), (1, 40), ((-2147483648), 2147483647), (0, 4), ((-9223372036854775808), 9223372036854775807), ((-9223372036854775808), 9223372036854775807), ((-9223372036854775808), 9223372036854775807), (0, 1), ((-4000), 4000), ((-4000), 4000), ((-8000000), 8000000), ((-8000000), 8000000), (0, 12), ((-9223372036854775808), 9223372036854775807), ((-9223372036854775808), 9223372036854775807), ((-9223372036854775808), 9223372036854775807), ((-9223372036854775808), 9223372036854775807), ((-9223372036854775808), 9223372036854775807), (0, 12), ((-2147483648), 2147483647), (0, 12), ((-2147483648), 2147483647), (0, 40), (0, 40), ((-1300), (-1)), ((-8000000), 1200000), ((-4000000), 7999999), (0, 256000000000000), (1, 1690000), (1, 4611686018427387904), (1, 4611686018427387904), ((-12000000), 0)], [([(27, (-1)), (28, (-1)), (33, 1)], 0), ([(28, (-1)), (27, (-1))], (-1))]), [([(33, 1)], 0), ([], 1), ([], 0), ([(26, 1)], 0), ([(27, 1)], 0), ([(28, 1)], 0)], [], [.inr (.inr (.inl (998, 1, [([(27, 1), (28, 1)], 0), ([(32, 1)], 0), ([(33, 1)], 0)], [], []))), .inr (.inr (.inl (320, 0, [([(31, 1)], 0), ([(27, 1), (28, 1)], 0), ([(32, 1)], 0)], [], []))), .inr (.inr (.inl (323, 0, [([], 0), ([(26, 2)], 0), ([(31, 1)], 0)], [], []))), .inl (.inr (30, ([(26, 1)], 0), ([(26, 1)], 0))), .inl (.inr (29, ([(27, (-1)), (28, 1)], 0), ([(27, (-1)), (28, 1)], 0))), .inr (.inr (.inl (331, 3, [([], 0), ([(2, 1)], 0), ([(3, 1)], 0), ([(4, 1)], 0), ([(5, 1)], 0), ([(6, 1)], 0), ([(7, 1)], 0), ([(8, 1)], 0), ([(9, 1)], 0), ([(10, 1)], 0), ([(11, 1)], 0), ([(12, 1)], 0), ([(13, 1)], 0), ([(14, 1)], 0), ([(15, 1)], 0), ([(16, 1)], 0), ([(17, 1)], 0), ([(18, 1)], 0), ([(19, 1)], 0), ([(20, 1)], 0), ([(21, 1)], 0), ([(22, 1)], 0), ([(23, 1)], 0), ([(24, 1)], 0), ([(25, 1)], 0), ([(26, 1)], 0), ([(27, 1)], 0), ([(28, 1)], 0)], [0, 1, 2, 3, 4, 5, 6, 7, 8, 9, 10, 11, 12, 13, 14, 15, 16, 17, 18, 19, 20, 21, 22, 23, 24, 25, 26, 27, 28, 29, 30, 31, 32, 33, 34, 35, 36], []))), .inr (.inr (.inl (258, 1, [([(0, 1)], 0), ([], 0), ([], 5)], [], [])))]) := by
  intro g0 r gi g hok hh hars hfr hG
  have b0 : 4 ≤ r 0 ∧ r 0 ≤ 4 := hok.1 0 (4, 4) rfl
  have b3 : 1 ≤ r 3 ∧ r 3 ≤ 40 := hok.1 3 (1, 40) rfl
  have b26 : (-1300) ≤ r 26 ∧ r 26 ≤ (-1) := hok.1 26 ((-1300), (-1)) rfl
  have b27 : (-8000000) ≤ r 27 ∧ r 27 ≤ 1200000 := hok.1 27 ((-8000000), 1200000) rfl
  have b28 : (-4000000) ≤ r 28 ∧ r 28 ≤ 7999999 := hok.1 28 ((-4000000), 7999999) rfl
  have b29 : 0 ≤ r 29 ∧ r 29 ≤ 256000000000000 := hok.1 29 (0, 256000000000000) rfl
  have b30 : 1 ≤ r 30 ∧ r 30 ≤ 1690000 := hok.1 30 (1, 1690000) rfl
  have b31 : 1 ≤ r 31 ∧ r 31 ≤ 4611686018427387904 := hok.1 31 (1, 4611686018427387904) rfl
  have b32 : 1 ≤ r 32 ∧ r 32 ≤ 4611686018427387904 := hok.1 32 (1, 4611686018427387904) rfl
  have b33 : (-12000000) ≤ r 33 ∧ r 33 ≤ 0 := hok.1 33 ((-12000000), 0) rfl
  have f0 : 0 ≤ (((-1) * r 27 + ((-1) * r 28 + (1 * r 33 + 0))) + 0) := hok.2 _ (List.mem_of_getElem? (i := 0) rfl)
  have f1 : 0 ≤ (((-1) * r 28 + ((-1) * r 27 + 0)) + (-1)) := hok.2 _ (List.mem_of_getElem? (i := 1) rfl)
  obtain ⟨hG, hgi⟩ := hG
  have hG : True := hG
  obtain ⟨h0, hh, e0, k0⟩ := hh
  have k0 : ∀ j, j ∉ [] → g j = h0 j := k0
  have e0 : ((1 * r 33 + 0) + 0) = (((1 * r 27 + (1 * r 28 + 0)) + 0)).tdiv (((1 * r 32 + 0) + 0)) := e0
  obtain ⟨h1, hh, e1, k1⟩ := hh
  have k1 : ∀ j, j ∉ [] → h0 j = h1 j := k1
  have e1 : ((1 * r 32 + 0) + 0) = ((Nat.gcd (((1 * r 31 + 0) + 0)).natAbs (((1 * r 27 + (1 * r 28 + 0)) + 0)).natAbs : Nat) : Int) := e1
  obtain ⟨h2, hh, e2, k2⟩ := hh
  have k2 : ∀ j, j ∉ [] → h1 j = h2 j := k2
  have e2 : ((1 * r 31 + 0) + 0) = ((Nat.gcd (((0 : Int) + 0)).natAbs (((2 * r 26 + 0) + 0)).natAbs : Nat) : Int) := e2
  obtain ⟨g3, hh, q3, e3⟩ := hh
  subst q3
  have e3 : r 30 = ((1 * r 26 + 0) + 0) * ((1 * r 26 + 0) + 0) := e3
  try simp only [Int.one_mul, Int.zero_add, Int.add_zero] at e3
  obtain ⟨g4, hh, q4, e4⟩ := hh
  subst q4
  have e4 : r 29 = (((-1) * r 27 + (1 * r 28 + 0)) + 0) * (((-1) * r 27 + (1 * r 28 + 0)) + 0) := e4
  try simp only [Int.one_mul, Int.zero_add, Int.add_zero] at e4
  obtain ⟨h5, hh, e5, k5⟩ := hh
  have k5 : ∀ j, j ∉ [] → h2 j = h5 j := k5
  have e5 : (¬ (0 < yq_cnt (h5 3) 0 (((1 * ((1 * r 3 + 0) + 0) + 0) + 0)).toNat ∧ 0 < yq_cnt (h5 3) 1 (((1 * ((1 * r 3 + 0) + 0) + 0) + 0)).toNat) → ((0 : Int) + 1) = 0) ∧ ((0 < yq_cnt (h5 3) 0 (((1 * ((1 * r 3 + 0) + 0) + 0) + 0)).toNat ∧ 0 < yq_cnt (h5 3) 1 (((1 * ((1 * r 3 + 0) + 0) + 0) + 0)).toNat) → ye_nr (h5 1) (h5 2) (h5 3) (((1 * ((1 * r 3 + 0) + 0) + 0) + 0)).toNat → ye_J (h5 1) (h5 2) (h5 3) (((1 * ((1 * r 3 + 0) + 0) + 0) + 0)).toNat (((1 * ((1 * r 3 + 0) + 0) + 0) + 0)).toNat 0 (((0 : Int) + 1), ((0 : Int) + 0), ((1 * ((1 * r 26 + 0) + 0) + 0) + 0), ((1 * ((1 * r 28 + 0) + 0) + 0) + 0), ((1 * ((1 * r 27 + 0) + 0) + 0) + 0)) ∧ ye_tB (((0 : Int) + 1), ((0 : Int) + 0), ((1 * ((1 * r 26 + 0) + 0) + 0) + 0), ((1 * ((1 * r 28 + 0) + 0) + 0) + 0), ((1 * ((1 * r 27 + 0) + 0) + 0) + 0))) := e5
  obtain ⟨h6, hh, e6, k6⟩ := hh
  have k6 : ∀ j, j ∉ [] → h5 j = h6 j := k6
  have e6 : (((0 : Int) + 0) ≤ ((1 * r 0 + 0) + 0) ∧ ((1 * r 0 + 0) + 0) ≤ ((0 : Int) + 5)) := e6
  have hh : h6 = gi := hh
  subst hh
  refine yt_dalt (by decide) (by decide) ?_
  rw [show xk_1086.2.1.2.1.1.length = 26 from rfl]
  show (¬ (0 ≤ ((1 * r 0 + 0) + 0) ∧ ((1 * r 0 + 0) + 0) ≤ 5) → ((1 * r 33 + 0) + 0) = -1) ∧ ((0 ≤ ((1 * r 0 + 0) + 0) ∧ ((1 * r 0 + 0) + 0) ≤ 5) → ye_nr (g0 1) (g0 2) (g0 3) (((1 * ((1 * r 3 + 0) + 0) + 0) + 0)).toNat → ∃ m : ye_T, ye_way (g0 1) (g0 2) (g0 3) (((1 * ((1 * r 3 + 0) + 0) + 0) + 0)).toNat m ∧ ye_tb m ∧ ((1 * r 33 + 0) + 0) = ye_rw (g0 1) (g0 2) (((1 * ((1 * r 3 + 0) + 0) + 0) + 0)).toNat m ((1 * r 0 + 0) + 0))
  try simp only [Int.one_mul, Int.zero_add, Int.add_zero]
  try simp only [Int.one_mul, Int.zero_add, Int.add_zero] at e6
  try simp only [Int.one_mul, Int.zero_add, Int.add_zero] at e5
  rw [k6 1 (by decide), k6 2 (by decide), k6 3 (by decide), hgi] at e5
  try simp only [Int.one_mul, Int.zero_add, Int.add_zero] at e3
  try simp only [Int.one_mul, Int.zero_add, Int.add_zero] at e4
  try simp only [Int.one_mul, Int.zero_add, Int.add_zero] at e1
  try simp only [Int.one_mul, Int.zero_add, Int.add_zero] at e2
  try simp only [Int.one_mul, Int.zero_add, Int.add_zero] at e0
  rw [show r 27 + r 28 = r 28 + r 27 by omega] at e1
  have e2 : r 31 = ((Nat.gcd (2 * (0 : Int)).natAbs (2 * r 26).natAbs : Nat) : Int) := e2
  rw [show r 27 + r 28 = r 28 + r 27 by omega] at e0
  refine ⟨fun q => absurd (by omega) q, fun _ hr => ⟨((1 : Int), (0 : Int), r 26, r 28, r 27), (ye_mw hr e5.1 e5.2).1, (ye_mw hr e5.1 e5.2).2, ?_⟩⟩
  unfold ye_rw
  try dsimp only
  try rw [if_neg (show ¬ (1 : Int) = 0 by omega)]
  rw [show r 0 = 4 by omega]
  unfold ye_wd
  rw [if_neg (by decide), if_neg (by decide), if_neg (by decide), if_neg (by decide), if_pos rfl]
  rw [ye_w2e (show (0 : Int) ≠ 0 ∨ r 26 ≠ 0 by omega) e2 e1]
  exact e0
theorem xw_1086_1_0 : yt_hold xT_1086 xk_1086 xq_1086.2.2.1 xG_1086 xP_1086 xU_1086 33 ((xq_1086.2.2.1.getD 0 (0, ([], [], ([], []), [], [], ([], 0)), [], false)).2.1.2.2.1.2) (xG_1086 0) (1000, ([(5, 5), ((-2147483648), 2147483647), ((-2147483648), 2147483647), (0, 40), ((-2147483648), 2147483647), (0, 4), ((-9223372036854775808), 9223372036854775807), ((-9223372036854775808), 9223372036854775807), ((-9223372036854775808), 9223372036854775807), (0, 1), ((-4000), 4000), ((-4000), 4000), ((-8000000), 8000000), ((-8000000), 8000000), (0, 12), ((-9223372036854775808), 9223372036854775807), ((-9223372036854775808), 9223372036854775807), ((-9223372036854775808), 9223372036854775807), ((-9223372036854775808), 9223372036854775807), ((-9223372036854775808), 9223372036854775807), (0, 12), ((-2147483648), 2147483647), (0, 12), ((-2147483648), 2147483647), (0, 40), (0, 40), (0, 40), (0, 40), (1, 1), ((-1300), 4000), ((-4000), 4000), ((-8000000), 8000000), ((-8000000), 8000000)], [([(3, (-1)), (27, 1)], 0), ([(26, (-1)), (27, 1)], 0), ([(0, 1)], (-5)), ([(0, (-1))], 5)]), [([(26, 1)], 0), ([(28, 1)], 0), ([(29, 1)], 0), ([(30, 1)], 0), ([(31, 1)], 0), ([(32, 1)], 0)], [], []) := by
  intro g0 r gi g hok hh hars hfr hG
  have b0 : 5 ≤ r 0 ∧ r 0 ≤ 5 := hok.1 0 (5, 5) rfl
  have b3 : 0 ≤ r 3 ∧ r 3 ≤ 40 := hok.1 3 (0, 40) rfl
  have b26 : 0 ≤ r 26 ∧ r 26 ≤ 40 := hok.1 26 (0, 40) rfl
  have b27 : 0 ≤ r 27 ∧ r 27 ≤ 40 := hok.1 27 (0, 40) rfl
  have b28 : 1 ≤ r 28 ∧ r 28 ≤ 1 := hok.1 28 (1, 1) rfl
  have b29 : (-1300) ≤ r 29 ∧ r 29 ≤ 4000 := hok.1 29 ((-1300), 4000) rfl
  have b30 : (-4000) ≤ r 30 ∧ r 30 ≤ 4000 := hok.1 30 ((-4000), 4000) rfl
  have b31 : (-8000000) ≤ r 31 ∧ r 31 ≤ 8000000 := hok.1 31 ((-8000000), 8000000) rfl
  have b32 : (-8000000) ≤ r 32 ∧ r 32 ≤ 8000000 := hok.1 32 ((-8000000), 8000000) rfl
  have f0 : 0 ≤ (((-1) * r 3 + (1 * r 27 + 0)) + 0) := hok.2 _ (List.mem_of_getElem? (i := 0) rfl)
  have f1 : 0 ≤ (((-1) * r 26 + (1 * r 27 + 0)) + 0) := hok.2 _ (List.mem_of_getElem? (i := 1) rfl)
  have f2 : 0 ≤ ((1 * r 0 + 0) + (-5)) := hok.2 _ (List.mem_of_getElem? (i := 2) rfl)
  have f3 : 0 ≤ (((-1) * r 0 + 0) + 5) := hok.2 _ (List.mem_of_getElem? (i := 3) rfl)
  have hG : (r 0) = 5 ∧ ((1 * (r 26) + 0) + 0) = ye_sc (g0 1) (g0 2) ((1 * (r 29) + 0) + 0) ((1 * (r 30) + 0) + 0) ((1 * (r 32) + 0) + 0) ((1 * (r 31) + 0) + 0) (((1 * (r 27) + 0) + 0)).toNat ∧ ((1 * (r 27) + 0) + 0) ≤ ((1 * (r 3) + 0) + 0) ∧ ((1 * (r 28) + 0) + 0) = 1 ∧ (ye_nr (g0 1) (g0 2) (g0 3) (((1 * (r 3) + 0) + 0)).toNat → ye_way (g0 1) (g0 2) (g0 3) (((1 * (r 3) + 0) + 0)).toNat (((1 * (r 28) + 0) + 0), ((1 * (r 29) + 0) + 0), ((1 * (r 30) + 0) + 0), ((1 * (r 32) + 0) + 0), ((1 * (r 31) + 0) + 0)) ∧ ye_tb (((1 * (r 28) + 0) + 0), ((1 * (r 29) + 0) + 0), ((1 * (r 30) + 0) + 0), ((1 * (r 32) + 0) + 0), ((1 * (r 31) + 0) + 0))) := hG
  have hh : g = gi := hh
  subst hh
  have hG : (r 0) = 5 ∧ ((1 * (r 26) + 0) + 0) = ye_sc (g0 1) (g0 2) ((1 * (r 29) + 0) + 0) ((1 * (r 30) + 0) + 0) ((1 * (r 32) + 0) + 0) ((1 * (r 31) + 0) + 0) (((1 * (r 27) + 0) + 0)).toNat ∧ ((1 * (r 27) + 0) + 0) ≤ ((1 * (r 3) + 0) + 0) ∧ ((1 * (r 28) + 0) + 0) = 1 ∧ (ye_nr (g0 1) (g0 2) (g0 3) (((1 * (r 3) + 0) + 0)).toNat → ye_way (g0 1) (g0 2) (g0 3) (((1 * (r 3) + 0) + 0)).toNat (((1 * (r 28) + 0) + 0), ((1 * (r 29) + 0) + 0), ((1 * (r 30) + 0) + 0), ((1 * (r 32) + 0) + 0), ((1 * (r 31) + 0) + 0)) ∧ ye_tb (((1 * (r 28) + 0) + 0), ((1 * (r 29) + 0) + 0), ((1 * (r 30) + 0) + 0), ((1 * (r 32) + 0) + 0), ((1 * (r 31) + 0) + 0))) := hG
  refine yt_dalt (by decide) (by decide) ?_
  rw [show xk_1086.2.1.2.1.1.length = 26 from rfl]
  show (¬ (0 ≤ ((1 * r 0 + 0) + 0) ∧ ((1 * r 0 + 0) + 0) ≤ 5) → ((1 * r 26 + 0) + 0) = -1) ∧ ((0 ≤ ((1 * r 0 + 0) + 0) ∧ ((1 * r 0 + 0) + 0) ≤ 5) → ye_nr (g0 1) (g0 2) (g0 3) (((1 * ((1 * r 3 + 0) + 0) + 0) + 0)).toNat → ∃ m : ye_T, ye_way (g0 1) (g0 2) (g0 3) (((1 * ((1 * r 3 + 0) + 0) + 0) + 0)).toNat m ∧ ye_tb m ∧ ((1 * r 26 + 0) + 0) = ye_rw (g0 1) (g0 2) (((1 * ((1 * r 3 + 0) + 0) + 0) + 0)).toNat m ((1 * r 0 + 0) + 0))
  try simp only [Int.one_mul, Int.zero_add, Int.add_zero]
  try simp only [Int.one_mul, Int.zero_add, Int.add_zero] at hG
  obtain ⟨h1, h2, h3, h4, h5⟩ := hG
  rw [show r 27 = r 3 by omega] at h2
  refine ⟨fun q => absurd (by omega) q, fun _ hr => ⟨_, (h5 hr).1, (h5 hr).2, ?_⟩⟩
  unfold ye_rw
  try dsimp only
  rw [if_neg (show ¬ r 28 = 0 by omega), h1]
  unfold ye_wd
  rw [if_neg (by decide), if_neg (by decide), if_neg (by decide), if_neg (by decide), if_neg (by decide)]
  exact h2
theorem xw_1086_1_1 : yt_hold xT_1086 xk_1086 xq_1086.2.2.1 xG_1086 xP_1086 xU_1086 33 ((xq_1086.2.2.1.getD 0 (0, ([], [], ([], []), [], [], ([], 0)), [], false)).2.1.2.2.1.2) (xG_1086 0) (0, ([(5, 5), ((-2147483648), 2147483647), ((-2147483648), 2147483647), (1, 40), ((-2147483648), 2147483647), (0, 4), ((-9223372036854775808), 9223372036854775807), ((-9223372036854775808), 9223372036854775807), ((-9223372036854775808), 9223372036854775807), (0, 1), ((-4000), 4000), ((-4000), 4000), ((-8000000), 8000000), ((-8000000), 8000000), (0, 12), ((-9223372036854775808), 9223372036854775807), ((-9223372036854775808), 9223372036854775807), ((-9223372036854775808), 9223372036854775807), ((-9223372036854775808), 9223372036854775807), ((-9223372036854775808), 9223372036854775807), (0, 12), ((-2147483648), 2147483647), (0, 12), ((-2147483648), 2147483647), (0, 40), (0, 40), (0, 40), (0, 39), (1, 1), ((-1300), 4000), ((-4000), 4000), ((-8000000), 8000000), ((-8000000), 8000000)], [([(3, 1), (27, (-1))], (-1)), ([(26, (-1)), (27, 1)], 0), ([(0, 1)], (-5)), ([(0, (-1))], 5)]), [([(26, 1)], 0), ([(27, 1)], 1), ([(28, 1)], 0), ([(29, 1)], 0), ([(30, 1)], 0), ([(31, 1)], 0), ([(32, 1)], 0)], [], [.inr (.inr (.inl (334, 0, [([(27, 1)], 0), ([], 0), ([(2, 1)], 0), ([(3, 1)], 0), ([(4, 1)], 0), ([(5, 1)], 0), ([(6, 1)], 0), ([(7, 1)], 0), ([(8, 1)], 0), ([(28, 1)], 0), ([(29, 1)], 0), ([(30, 1)], 0), ([(31, 1)], 0), ([(32, 1)], 0), ([(14, 1)], 0), ([(15, 1)], 0), ([(16, 1)], 0), ([(17, 1)], 0), ([(18, 1)], 0), ([(19, 1)], 0), ([(20, 1)], 0), ([(21, 1)], 0), ([(22, 1)], 0), ([(23, 1)], 0), ([(24, 1)], 0), ([(25, 1)], 0)], [0, 1, 2, 3, 4, 5, 6, 7, 8, 9, 10, 11, 12, 13, 14, 15, 16, 17, 18, 19, 20, 21, 22, 23, 24, 25, 26, 27, 28, 29, 30, 31, 32, 33, 34, 35, 36], [])))]) := by
  intro g0 r gi g hok hh hars hfr hG
  have b0 : 5 ≤ r 0 ∧ r 0 ≤ 5 := hok.1 0 (5, 5) rfl
  have b3 : 1 ≤ r 3 ∧ r 3 ≤ 40 := hok.1 3 (1, 40) rfl
  have b26 : 0 ≤ r 26 ∧ r 26 ≤ 40 := hok.1 26 (0, 40) rfl
  have b27 : 0 ≤ r 27 ∧ r 27 ≤ 39 := hok.1 27 (0, 39) rfl
  have b28 : 1 ≤ r 28 ∧ r 28 ≤ 1 := hok.1 28 (1, 1) rfl
  have b29 : (-1300) ≤ r 29 ∧ r 29 ≤ 4000 := hok.1 29 ((-1300), 4000) rfl
  have b30 : (-4000) ≤ r 30 ∧ r 30 ≤ 4000 := hok.1 30 ((-4000), 4000) rfl
  have b31 : (-8000000) ≤ r 31 ∧ r 31 ≤ 8000000 := hok.1 31 ((-8000000), 8000000) rfl
  have b32 : (-8000000) ≤ r 32 ∧ r 32 ≤ 8000000 := hok.1 32 ((-8000000), 8000000) rfl
  have f0 : 0 ≤ ((1 * r 3 + ((-1) * r 27 + 0)) + (-1)) := hok.2 _ (List.mem_of_getElem? (i := 0) rfl)
  have f1 : 0 ≤ (((-1) * r 26 + (1 * r 27 + 0)) + 0) := hok.2 _ (List.mem_of_getElem? (i := 1) rfl)
  have f2 : 0 ≤ ((1 * r 0 + 0) + (-5)) := hok.2 _ (List.mem_of_getElem? (i := 2) rfl)
  have f3 : 0 ≤ (((-1) * r 0 + 0) + 5) := hok.2 _ (List.mem_of_getElem? (i := 3) rfl)
  have hG : (r 0) = 5 ∧ ((1 * (r 26) + 0) + 0) = ye_sc (g0 1) (g0 2) ((1 * (r 29) + 0) + 0) ((1 * (r 30) + 0) + 0) ((1 * (r 32) + 0) + 0) ((1 * (r 31) + 0) + 0) (((1 * (r 27) + 0) + 0)).toNat ∧ ((1 * (r 27) + 0) + 0) ≤ ((1 * (r 3) + 0) + 0) ∧ ((1 * (r 28) + 0) + 0) = 1 ∧ (ye_nr (g0 1) (g0 2) (g0 3) (((1 * (r 3) + 0) + 0)).toNat → ye_way (g0 1) (g0 2) (g0 3) (((1 * (r 3) + 0) + 0)).toNat (((1 * (r 28) + 0) + 0), ((1 * (r 29) + 0) + 0), ((1 * (r 30) + 0) + 0), ((1 * (r 32) + 0) + 0), ((1 * (r 31) + 0) + 0)) ∧ ye_tb (((1 * (r 28) + 0) + 0), ((1 * (r 29) + 0) + 0), ((1 * (r 30) + 0) + 0), ((1 * (r 32) + 0) + 0), ((1 * (r 31) + 0) + 0))) := hG
  obtain ⟨h0, hh, e0, k0⟩ := hh
  have k0 : ∀ j, j ∉ [] → g j = h0 j := k0
  have e0 : ¬ (ye_d (h0 1) (h0 2) ((1 * ((1 * r 29 + 0) + 0) + 0) + 0) ((1 * ((1 * r 30 + 0) + 0) + 0) + 0) (((1 * r 27 + 0) + 0)).toNat = ((1 * ((1 * r 32 + 0) + 0) + 0) + 0) ∨ ye_d (h0 1) (h0 2) ((1 * ((1 * r 29 + 0) + 0) + 0) + 0) ((1 * ((1 * r 30 + 0) + 0) + 0) + 0) (((1 * r 27 + 0) + 0)).toNat = ((1 * ((1 * r 31 + 0) + 0) + 0) + 0)) := e0
  have hh : h0 = gi := hh
  subst hh
  have hG : (r 0) = 5 ∧ ((1 * (r 26) + 0) + 0) = ye_sc (g0 1) (g0 2) ((1 * (r 29) + 0) + 0) ((1 * (r 30) + 0) + 0) ((1 * (r 32) + 0) + 0) ((1 * (r 31) + 0) + 0) (((1 * (r 27) + 0) + 0)).toNat ∧ ((1 * (r 27) + 0) + 0) ≤ ((1 * (r 3) + 0) + 0) ∧ ((1 * (r 28) + 0) + 0) = 1 ∧ (ye_nr (g0 1) (g0 2) (g0 3) (((1 * (r 3) + 0) + 0)).toNat → ye_way (g0 1) (g0 2) (g0 3) (((1 * (r 3) + 0) + 0)).toNat (((1 * (r 28) + 0) + 0), ((1 * (r 29) + 0) + 0), ((1 * (r 30) + 0) + 0), ((1 * (r 32) + 0) + 0), ((1 * (r 31) + 0) + 0)) ∧ ye_tb (((1 * (r 28) + 0) + 0), ((1 * (r 29) + 0) + 0), ((1 * (r 30) + 0) + 0), ((1 * (r 32) + 0) + 0), ((1 * (r 31) + 0) + 0))) := hG
  refine yt_dcut (by decide) rfl ?_ ?_
  · rw [show xk_1086.2.1.2.1.1.length = 26 from rfl]
    refine yx_fks _ _ ?_
    refine ⟨?_, ?_, trivial⟩
    · show 0 ≤ ((1 * ((1 * r 26 + 0) + 0) + 0) + 0)
      try simp only [Int.one_mul, Int.zero_add, Int.add_zero] at hG
      obtain ⟨h1, h2, h3, h4, h5⟩ := hG
      have k := ye_sc_b (x := g0 1) (y := g0 2) (a := (r 29)) (b := (r 30)) (l := (r 32)) (h := (r 31)) (r 27).toNat
      omega
    · show 0 ≤ (((-1) * ((1 * r 26 + 0) + 0) + (1 * ((1 * r 27 + 0) + 1) + 0)) + 0)
      try simp only [Int.one_mul, Int.zero_add, Int.add_zero] at hG
      obtain ⟨h1, h2, h3, h4, h5⟩ := hG
      have k := ye_sc_b (x := g0 1) (y := g0 2) (a := (r 29)) (b := (r 30)) (l := (r 32)) (h := (r 31)) (r 27).toNat
      omega
  · rw [show xk_1086.2.1.2.1.1.length = 26 from rfl]
    show ((1 * r 0 + 0) + 0) = 5 ∧ ((1 * ((1 * r 26 + 0) + 0) + 0) + 0) = ye_sc (g0 1) (g0 2) ((1 * ((1 * r 29 + 0) + 0) + 0) + 0) ((1 * ((1 * r 30 + 0) + 0) + 0) + 0) ((1 * ((1 * r 32 + 0) + 0) + 0) + 0) ((1 * ((1 * r 31 + 0) + 0) + 0) + 0) (((1 * ((1 * r 27 + 0) + 1) + 0) + 0)).toNat ∧ ((1 * ((1 * r 27 + 0) + 1) + 0) + 0) ≤ ((1 * ((1 * r 3 + 0) + 0) + 0) + 0) ∧ ((1 * ((1 * r 28 + 0) + 0) + 0) + 0) = 1 ∧ (ye_nr (g0 1) (g0 2) (g0 3) (((1 * ((1 * r 3 + 0) + 0) + 0) + 0)).toNat → ye_way (g0 1) (g0 2) (g0 3) (((1 * ((1 * r 3 + 0) + 0) + 0) + 0)).toNat (((1 * ((1 * r 28 + 0) + 0) + 0) + 0), ((1 * ((1 * r 29 + 0) + 0) + 0) + 0), ((1 * ((1 * r 30 + 0) + 0) + 0) + 0), ((1 * ((1 * r 32 + 0) + 0) + 0) + 0), ((1 * ((1 * r 31 + 0) + 0) + 0) + 0)) ∧ ye_tb (((1 * ((1 * r 28 + 0) + 0) + 0) + 0), ((1 * ((1 * r 29 + 0) + 0) + 0) + 0), ((1 * ((1 * r 30 + 0) + 0) + 0) + 0), ((1 * ((1 * r 32 + 0) + 0) + 0) + 0), ((1 * ((1 * r 31 + 0) + 0) + 0) + 0)))
    try simp only [Int.one_mul, Int.zero_add, Int.add_zero]
    try simp only [Int.one_mul, Int.zero_add, Int.add_zero] at hG
    obtain ⟨h1, h2, h3, h4, h5⟩ := hG
    try simp only [Int.one_mul, Int.zero_add, Int.add_zero] at e0
    rw [hfr 1 (by decide), hfr 2 (by decide)] at e0
    rw [ye_sc_s (j := r 27) (by omega) (by omega), ← h2, if_neg e0]
    exact ⟨h1, by omega, by omega, h4, h5⟩
theorem xw_1086_1_2 : yt_hold xT_1086 xk_1086 xq_1086.2.2.1 xG_1086 xP_1086 xU_1086 33 ((xq_1086.2.2.1.getD 0 (0, ([], [], ([], []), [], [], ([], 0)), [], false)).2.1.2.2.1.2) (xG_1086 0) (0, ([(5, 5), ((-2147483648), 2147483647), ((-2147483648), 2147483647), (1, 40), ((-2147483648), 2147483647), (0, 4), ((-9223372036854775808), 9223372036854775807), ((-9223372036854775808), 9223372036854775807), ((-9223372036854775808), 9223372036854775807), (0, 1), ((-4000), 4000), ((-4000), 4000), ((-8000000), 8000000), ((-8000000), 8000000), (0, 12), ((-9223372036854775808), 9223372036854775807), ((-9223372036854775808), 9223372036854775807), ((-9223372036854775808), 9223372036854775807), ((-9223372036854775808), 9223372036854775807), ((-9223372036854775808), 9223372036854775807), (0, 12), ((-2147483648), 2147483647), (0, 12), ((-2147483648), 2147483647), (0, 40), (0, 40), (0, 40), (0, 39), (1, 1), ((-1300), 4000), ((-4000), 4000), ((-8000000), 8000000), ((-8000000), 8000000)], [([(3, 1), (27, (-1))], (-1)), ([(26, (-1)), (27, 1)], 0), ([(0, 1)], (-5)), ([(0, (-1))], 5)]), [([(26, 1)], 1), ([(27, 1)], 1), ([(28, 1)], 0), ([(29, 1)], 0), ([(30, 1)], 0), ([(31, 1)], 0), ([(32, 1)], 0)], [], [.inr (.inr (.inl (334, 1, [([(27, 1)], 0), ([], 0), ([(2, 1)], 0), ([(3, 1)], 0), ([(4, 1)], 0), ([(5, 1)], 0), ([(6, 1)], 0), ([(7, 1)], 0), ([(8, 1)], 0), ([(28, 1)], 0), ([(29, 1)], 0), ([(30, 1)], 0), ([(31, 1)], 0), ([(32, 1)], 0), ([(14, 1)], 0), ([(15, 1)], 0), ([(16, 1)], 0), ([(17, 1)], 0), ([(18, 1)], 0), ([(19, 1)], 0), ([(20, 1)], 0), ([(21, 1)], 0), ([(22, 1)], 0), ([(23, 1)], 0), ([(24, 1)], 0), ([(25, 1)], 0)], [0, 1, 2, 3, 4, 5, 6, 7, 8, 9, 10, 11, 12, 13, 14, 15, 16, 17, 18, 19, 20, 21, 22, 23, 24, 25, 26, 27, 28, 29, 30, 31, 32, 33, 34, 35, 36], [])))]) := by
  intro g0 r gi g hok hh hars hfr hG
  have b0 : 5 ≤ r 0 ∧ r 0 ≤ 5 := hok.1 0 (5, 5) rfl
  have b3 : 1 ≤ r 3 ∧ r 3 ≤ 40 := hok.1 3 (1, 40) rfl
  have b26 : 0 ≤ r 26 ∧ r 26 ≤ 40 := hok.1 26 (0, 40) rfl
  have b27 : 0 ≤ r 27 ∧ r 27 ≤ 39 := hok.1 27 (0, 39) rfl
  have b28 : 1 ≤ r 28 ∧ r 28 ≤ 1 := hok.1 28 (1, 1) rfl
  have b29 : (-1300) ≤ r 29 ∧ r 29 ≤ 4000 := hok.1 29 ((-1300), 4000) rfl
  have b30 : (-4000) ≤ r 30 ∧ r 30 ≤ 4000 := hok.1 30 ((-4000), 4000) rfl
  have b31 : (-8000000) ≤ r 31 ∧ r 31 ≤ 8000000 := hok.1 31 ((-8000000), 8000000) rfl
  have b32 : (-8000000) ≤ r 32 ∧ r 32 ≤ 8000000 := hok.1 32 ((-8000000), 8000000) rfl
  have f0 : 0 ≤ ((1 * r 3 + ((-1) * r 27 + 0)) + (-1)) := hok.2 _ (List.mem_of_getElem? (i := 0) rfl)
  have f1 : 0 ≤ (((-1) * r 26 + (1 * r 27 + 0)) + 0) := hok.2 _ (List.mem_of_getElem? (i := 1) rfl)
  have f2 : 0 ≤ ((1 * r 0 + 0) + (-5)) := hok.2 _ (List.mem_of_getElem? (i := 2) rfl)
  have f3 : 0 ≤ (((-1) * r 0 + 0) + 5) := hok.2 _ (List.mem_of_getElem? (i := 3) rfl)
  have hG : (r 0) = 5 ∧ ((1 * (r 26) + 0) + 0) = ye_sc (g0 1) (g0 2) ((1 * (r 29) + 0) + 0) ((1 * (r 30) + 0) + 0) ((1 * (r 32) + 0) + 0) ((1 * (r 31) + 0) + 0) (((1 * (r 27) + 0) + 0)).toNat ∧ ((1 * (r 27) + 0) + 0) ≤ ((1 * (r 3) + 0) + 0) ∧ ((1 * (r 28) + 0) + 0) = 1 ∧ (ye_nr (g0 1) (g0 2) (g0 3) (((1 * (r 3) + 0) + 0)).toNat → ye_way (g0 1) (g0 2) (g0 3) (((1 * (r 3) + 0) + 0)).toNat (((1 * (r 28) + 0) + 0), ((1 * (r 29) + 0) + 0), ((1 * (r 30) + 0) + 0), ((1 * (r 32) + 0) + 0), ((1 * (r 31) + 0) + 0)) ∧ ye_tb (((1 * (r 28) + 0) + 0), ((1 * (r 29) + 0) + 0), ((1 * (r 30) + 0) + 0), ((1 * (r 32) + 0) + 0), ((1 * (r 31) + 0) + 0))) := hG
  obtain ⟨h0, hh, e0, k0⟩ := hh
  have k0 : ∀ j, j ∉ [] → g j = h0 j := k0
  have e0 : (ye_d (h0 1) (h0 2) ((1 * ((1 * r 29 + 0) + 0) + 0) + 0) ((1 * ((1 * r 30 + 0) + 0) + 0) + 0) (((1 * r 27 + 0) + 0)).toNat = ((1 * ((1 * r 32 + 0) + 0) + 0) + 0) ∨ ye_d (h0 1) (h0 2) ((1 * ((1 * r 29 + 0) + 0) + 0) + 0) ((1 * ((1 * r 30 + 0) + 0) + 0) + 0) (((1 * r 27 + 0) + 0)).toNat = ((1 * ((1 * r 31 + 0) + 0) + 0) + 0)) := e0
  have hh : h0 = gi := hh
  subst hh
  have hG : (r 0) = 5 ∧ ((1 * (r 26) + 0) + 0) = ye_sc (g0 1) (g0 2) ((1 * (r 29) + 0) + 0) ((1 * (r 30) + 0) + 0) ((1 * (r 32) + 0) + 0) ((1 * (r 31) + 0) + 0) (((1 * (r 27) + 0) + 0)).toNat ∧ ((1 * (r 27) + 0) + 0) ≤ ((1 * (r 3) + 0) + 0) ∧ ((1 * (r 28) + 0) + 0) = 1 ∧ (ye_nr (g0 1) (g0 2) (g0 3) (((1 * (r 3) + 0) + 0)).toNat → ye_way (g0 1) (g0 2) (g0 3) (((1 * (r 3) + 0) + 0)).toNat (((1 * (r 28) + 0) + 0), ((1 * (r 29) + 0) + 0), ((1 * (r 30) + 0) + 0), ((1 * (r 32) + 0) + 0), ((1 * (r 31) + 0) + 0)) ∧ ye_tb (((1 * (r 28) + 0) + 0), ((1 * (r 29) + 0) + 0), ((1 * (r 30) + 0) + 0), ((1 * (r 32) + 0) + 0), ((1 * (r 31) + 0) + 0))) := hG
  refine yt_dcut (by decide) rfl ?_ ?_
  · rw [show xk_1086.2.1.2.1.1.length = 26 from rfl]
    refine yx_fks _ _ ?_
    refine ⟨?_, ?_, trivial⟩
    · show 0 ≤ ((1 * ((1 * r 26 + 0) + 1) + 0) + 0)
      try simp only [Int.one_mul, Int.zero_add, Int.add_zero] at hG
      obtain ⟨h1, h2, h3, h4, h5⟩ := hG
      have k := ye_sc_b (x := g0 1) (y := g0 2) (a := (r 29)) (b := (r 30)) (l := (r 32)) (h := (r 31)) (r 27).toNat
      omega
    · show 0 ≤ (((-1) * ((1 * r 26 + 0) + 1) + (1 * ((1 * r 27 + 0) + 1) + 0)) + 0)
      try simp only [Int.one_mul, Int.zero_add, Int.add_zero] at hG
      obtain ⟨h1, h2, h3, h4, h5⟩ := hG
      have k := ye_sc_b (x := g0 1) (y := g0 2) (a := (r 29)) (b := (r 30)) (l := (r 32)) (h := (r 31)) (r 27).toNat
      omega
  · rw [show xk_1086.2.1.2.1.1.length = 26 from rfl]
    show ((1 * r 0 + 0) + 0) = 5 ∧ ((1 * ((1 * r 26 + 0) + 1) + 0) + 0) = ye_sc (g0 1) (g0 2) ((1 * ((1 * r 29 + 0) + 0) + 0) + 0) ((1 * ((1 * r 30 + 0) + 0) + 0) + 0) ((1 * ((1 * r 32 + 0) + 0) + 0) + 0) ((1 * ((1 * r 31 + 0) + 0) + 0) + 0) (((1 * ((1 * r 27 + 0) + 1) + 0) + 0)).toNat ∧ ((1 * ((1 * r 27 + 0) + 1) + 0) + 0) ≤ ((1 * ((1 * r 3 + 0) + 0) + 0) + 0) ∧ ((1 * ((1 * r 28 + 0) + 0) + 0) + 0) = 1 ∧ (ye_nr (g0 1) (g0 2) (g0 3) (((1 * ((1 * r 3 + 0) + 0) + 0) + 0)).toNat → ye_way (g0 1) (g0 2) (g0 3) (((1 * ((1 * r 3 + 0) + 0) + 0) + 0)).toNat (((1 * ((1 * r 28 + 0) + 0) + 0) + 0), ((1 * ((1 * r 29 + 0) + 0) + 0) + 0), ((1 * ((1 * r 30 + 0) + 0) + 0) + 0), ((1 * ((1 * r 32 + 0) + 0) + 0) + 0), ((1 * ((1 * r 31 + 0) + 0) + 0) + 0)) ∧ ye_tb (((1 * ((1 * r 28 + 0) + 0) + 0) + 0), ((1 * ((1 * r 29 + 0) + 0) + 0) + 0), ((1 * ((1 * r 30 + 0) + 0) + 0) + 0), ((1 * ((1 * r 32 + 0) + 0) + 0) + 0), ((1 * ((1 * r 31 + 0) + 0) + 0) + 0)))
    try simp only [Int.one_mul, Int.zero_add, Int.add_zero]
    try simp only [Int.one_mul, Int.zero_add, Int.add_zero] at hG
    obtain ⟨h1, h2, h3, h4, h5⟩ := hG
    try simp only [Int.one_mul, Int.zero_add, Int.add_zero] at e0
    rw [hfr 1 (by decide), hfr 2 (by decide)] at e0
    rw [ye_sc_s (j := r 27) (by omega) (by omega), ← h2, if_pos e0]
    exact ⟨h1, by omega, by omega, h4, h5⟩
theorem xn_1086 : ∀ (j : Nat) (q : Nat × yt_T), xq_1086.2.2.1[j]? = some q → q.2.2.2 = false → ∀ g0 r g, xG_1086 j g0 r g
  | 0, q, hq, hf => by cases hq; cases hf
  | n + 1, q, hq, _ => by cases hq
theorem xs_1086 : ∀ j, xq_1086.2.2.2.getD j false = false → ∀ r g g', xP_1086 j r g g'
  | 0, hf => by cases hf
  | n + 1, _ => fun _ _ _ => trivial
theorem xc_1086 {l : Launch} {D : va_G} {cT : Nat → ClassId} {tys : List (ClassId × FieldType)} (hty : yx_Ty tys cT) : yt_Con l D vwCl cT tys yG yw_s511 xk_1086 xR_1086 xP_1086 := yx_sem (calls := xa_1086) (Z := xq_1086) (tb := xT_1086) (pt := xU_1086) (Ga := xG_1086) (vs := xv_1086) (fun _ _ _ h => h) 300 (by decide +kernel) yz_X12_wide_ok hty (yl_lkX12 _) (yl_cqkX12 _) (List.forall_mem_cons.mpr ⟨⟨xc_1004 hty, yg_CLs yl_wX12_133 yd_yX12_in, fun _ _ _ => trivial⟩, List.forall_mem_cons.mpr ⟨⟨xc_1068 hty, yg_CLv rfl rfl rfl yl_wX12_307 yd_yX12_findWay, fun _ _ _ => trivial⟩, List.forall_mem_cons.mpr ⟨⟨xc_1082 hty, yg_CLs yl_wX12_276 yd_yX12_part, fun _ _ _ => trivial⟩, List.forall_mem_cons.mpr ⟨⟨xc_1069 hty, yg_CLv rfl rfl rfl yl_wX12_310 yd_yX12_isSide, fun _ _ _ => trivial⟩, List.forall_mem_cons.mpr ⟨⟨xc_1083 hty, yg_CLs yl_wX12_252 yd_yX12_divisor, fun _ _ _ => trivial⟩, List.forall_mem_cons.mpr ⟨⟨xc_1084 hty, yg_CLs yl_wX12_252 yd_yX12_divisor, fun _ _ _ => trivial⟩, List.forall_mem_cons.mpr ⟨⟨xc_1081 hty, yg_CLs yl_wX12_252 yd_yX12_divisor, fun _ _ _ => trivial⟩, List.forall_mem_cons.mpr ⟨⟨xc_1085 hty, yg_CLs yl_wX12_252 yd_yX12_divisor, fun _ _ _ => trivial⟩, fun _ h => absurd h List.not_mem_nil⟩⟩⟩⟩⟩⟩⟩⟩) (xn_1086) (xs_1086) (by decide +kernel) (List.forall_mem_cons.mpr ⟨xw_1086_0_0, List.forall_mem_cons.mpr ⟨xw_1086_0_1, List.forall_mem_cons.mpr ⟨xw_1086_0_2, List.forall_mem_cons.mpr ⟨xw_1086_0_3, List.forall_mem_cons.mpr ⟨xw_1086_0_4, List.forall_mem_cons.mpr ⟨xw_1086_0_5, List.forall_mem_cons.mpr ⟨xw_1086_0_6, List.forall_mem_cons.mpr ⟨xw_1086_0_7, List.forall_mem_cons.mpr ⟨xw_1086_0_8, List.forall_mem_cons.mpr ⟨xw_1086_0_9, List.forall_mem_cons.mpr ⟨xw_1086_0_10, List.forall_mem_cons.mpr ⟨xw_1086_0_11, List.forall_mem_cons.mpr ⟨xw_1086_0_12, List.forall_mem_cons.mpr ⟨xw_1086_0_13, List.forall_mem_cons.mpr ⟨xw_1086_0_14, List.forall_mem_cons.mpr ⟨xw_1086_0_15, List.forall_mem_cons.mpr ⟨xw_1086_0_16, List.forall_mem_cons.mpr ⟨xw_1086_0_17, List.forall_mem_cons.mpr ⟨xw_1086_0_18, List.forall_mem_cons.mpr ⟨xw_1086_0_19, List.forall_mem_cons.mpr ⟨xw_1086_0_20, List.forall_mem_cons.mpr ⟨xw_1086_0_21, List.forall_mem_cons.mpr ⟨xw_1086_0_22, List.forall_mem_cons.mpr ⟨xw_1086_0_23, List.forall_mem_cons.mpr ⟨xw_1086_0_24, List.forall_mem_cons.mpr ⟨xw_1086_0_25, List.forall_mem_cons.mpr ⟨xw_1086_0_26, List.forall_mem_cons.mpr ⟨xw_1086_0_27, List.forall_mem_cons.mpr ⟨xw_1086_0_28, List.forall_mem_cons.mpr ⟨xw_1086_0_29, List.forall_mem_cons.mpr ⟨xw_1086_0_30, List.forall_mem_cons.mpr ⟨xw_1086_0_31, List.forall_mem_cons.mpr ⟨xw_1086_0_32, List.forall_mem_cons.mpr ⟨xw_1086_0_33, List.forall_mem_cons.mpr ⟨xw_1086_0_34, List.forall_mem_cons.mpr ⟨xw_1086_0_35, List.forall_mem_cons.mpr ⟨xw_1086_0_36, List.forall_mem_cons.mpr ⟨xw_1086_0_37, List.forall_mem_cons.mpr ⟨xw_1086_0_38, List.forall_mem_cons.mpr ⟨xw_1086_0_39, fun _ h => absurd h List.not_mem_nil⟩⟩⟩⟩⟩⟩⟩⟩⟩⟩⟩⟩⟩⟩⟩⟩⟩⟩⟩⟩⟩⟩⟩⟩⟩⟩⟩⟩⟩⟩⟩⟩⟩⟩⟩⟩⟩⟩⟩⟩) (⟨List.forall_mem_cons.mpr ⟨xw_1086_1_0, List.forall_mem_cons.mpr ⟨xw_1086_1_1, List.forall_mem_cons.mpr ⟨xw_1086_1_2, fun _ h => absurd h List.not_mem_nil⟩⟩⟩, trivial⟩)
noncomputable def xf_1087 : ys_F := (yw_f519 3, yw_r519)
noncomputable def xk_1087 : ys_K := (((yX12_write, cX12_write, 5, (some .int)), (2, 45)), ([.inr (some 0), .inl (.inl ([(0, 1)], 0)), .inl (.inl ([(1, 1)], 0)), .inl (.inr ([(2, 1)], 0))], ([((-2147483648), 2147483647), ((-2147483648), 2147483647), ((-9223372036854775808), 9223372036854775807)] ++ yw_e519, []), xf_1087), ([([((-3), 0), ((-2147483648), 0)], [], ((ys_fs xf_1087.1 [(0, 0, .inl (.inl ([], 0))), (0, 1, .inl (.inl ([(29, 1)], 0)))]), xf_1087.2), some (.inl (.inl ([(28, 1)], 0))))], [1]))
noncomputable def xq_1087 : yt_Q := (yz_X12_write, (yl_flX12, yl_ciX12, yl_cjX12, yl_cpX12, yl_cqX12), [], [true])
noncomputable def xa_1087 : List yt_CE := [(((157, true), (0, false, [])), (yw_s2, xk_1023)), (((141, false), (0, false, [0, 4, 5, 6, 7, 1, 2, 3, 8, 9, 10, 11, 12, 13, 14, 15, 16, 17, 18, 19, 20, 21, 22, 23, 24, 25, 26, 27, 28, 29, 30, 31, 32, 33, 34, 35, 36])), (yw_s500, xk_1002)), (((133, true), (0, false, [])), (yw_s2, xk_1001)), (((160, true), (96, false, [])), (yw_s2, xk_1024))]
noncomputable def xv_1087 : List (List yt_VC) := [[(1000, ([((-2147483648), (-1)), ((-2147483648), 2147483647), ((-9223372036854775808), 9223372036854775807), ((-2147483648), 2147483647), ((-2147483648), 2147483647), (0, 40), ((-2147483648), 2147483647), (0, 4), ((-9223372036854775808), 9223372036854775807), ((-9223372036854775808), 9223372036854775807), ((-9223372036854775808), 9223372036854775807), (0, 1), ((-4000), 4000), ((-4000), 4000), ((-8000000), 8000000), ((-8000000), 8000000), (0, 12), ((-9223372036854775808), 9223372036854775807), ((-9223372036854775808), 9223372036854775807), ((-9223372036854775808), 9223372036854775807), ((-9223372036854775808), 9223372036854775807), ((-9223372036854775808), 9223372036854775807), (0, 12), ((-2147483648), 2147483647), (0, 12), ((-2147483648), 2147483647), (0, 40), (0, 40), ((-2147483648), 0)], []), [([], (-1)), ([(28, 1)], 0)], [], []),
   (1000, ([(4, 2147483647), ((-2147483648), 2147483647), ((-9223372036854775808), 9223372036854775807), ((-2147483648), 2147483647), ((-2147483648), 2147483647), (0, 40), ((-2147483648), 2147483647), (0, 4), ((-9223372036854775808), 9223372036854775807), ((-9223372036854775808), 9223372036854775807), ((-9223372036854775808), 9223372036854775807), (0, 1), ((-4000), 4000), ((-4000), 4000), ((-8000000), 8000000), ((-8000000), 8000000), (0, 12), ((-9223372036854775808), 9223372036854775807), ((-9223372036854775808), 9223372036854775807), ((-9223372036854775808), 9223372036854775807), ((-9223372036854775808), 9223372036854775807), ((-9223372036854775808), 9223372036854775807), (0, 12), ((-2147483648), 2147483647), (0, 12), ((-2147483648), 2147483647), (0, 40), (0, 40), ((-2147483648), 0)], []), [([], (-1)), ([(28, 1)], 0)], [], []),
   (1000, ([(0, 3), ((-2147483648), (-1)), ((-9223372036854775808), 9223372036854775807), ((-2147483648), 2147483647), ((-2147483648), 2147483647), (0, 40), ((-2147483648), 2147483647), (0, 4), ((-9223372036854775808), 9223372036854775807), ((-9223372036854775808), 9223372036854775807), ((-9223372036854775808), 9223372036854775807), (0, 1), ((-4000), 4000), ((-4000), 4000), ((-8000000), 8000000), ((-8000000), 8000000), (0, 12), ((-9223372036854775808), 9223372036854775807), ((-9223372036854775808), 9223372036854775807), ((-9223372036854775808), 9223372036854775807), ((-9223372036854775808), 9223372036854775807), ((-9223372036854775808), 9223372036854775807), (0, 12), ((-2147483648), 2147483647), (0, 12), ((-2147483648), 2147483647), (0, 40), (0, 40), (0, 2147483647), (0, 100), ((-2147483648), 0)], []), [([], (-3)), ([(30, 1)], 0)], [], [.inl (.inl (3, ([(0, 1)], 0), 29)), .inl (.inl (2, ([(0, 1)], 0), 28))]),
   (1000, ([(0, 3), (0, 2147483647), ((-9223372036854775808), 9223372036854775807), ((-2147483648), 2147483647), ((-2147483648), 2147483647), (0, 40), ((-2147483648), 2147483647), (0, 4), ((-9223372036854775808), 9223372036854775807), ((-9223372036854775808), 9223372036854775807), ((-9223372036854775808), 9223372036854775807), (0, 1), ((-4000), 4000), ((-4000), 4000), ((-8000000), 8000000), ((-8000000), 8000000), (0, 12), ((-9223372036854775808), 9223372036854775807), ((-9223372036854775808), 9223372036854775807), ((-9223372036854775808), 9223372036854775807), ((-9223372036854775808), 9223372036854775807), ((-9223372036854775808), 9223372036854775807), (0, 12), ((-2147483648), 2147483647), (0, 12), ((-2147483648), 2147483647), (0, 40), (0, 40), (0, 2147483647), (0, 100), ((-2147483648), 0)], [([(1, 1), (29, (-1))], 0)]), [([], (-3)), ([(30, 1)], 0)], [], [.inl (.inl (3, ([(0, 1)], 0), 29)), .inl (.inl (2, ([(0, 1)], 0), 28))]),
   (1000, ([(0, 3), (0, 99), ((-9223372036854775808), 9223372036854775807), ((-2147483648), 2147483647), ((-2147483648), 2147483647), (0, 40), ((-2147483648), 2147483647), (0, 4), ((-9223372036854775808), 9223372036854775807), ((-9223372036854775808), 9223372036854775807), ((-9223372036854775808), 9223372036854775807), (0, 1), ((-4000), 4000), ((-4000), 4000), ((-8000000), 8000000), ((-8000000), 8000000), (0, 12), ((-9223372036854775808), 9223372036854775807), ((-9223372036854775808), 9223372036854775807), ((-9223372036854775808), 9223372036854775807), ((-9223372036854775808), 9223372036854775807), ((-9223372036854775808), 9223372036854775807), (0, 12), ((-2147483648), 2147483647), (0, 12), ((-2147483648), 2147483647), (0, 40), (0, 40), (0, 2147483647), (0, 100), ((-9223372036854775808), 9223372036854775807), ((-2147483648), 0)], [([(1, (-1)), (29, 1)], (-1))]), [([], 0), ([(31, 1)], 0)], [], [.inr (.inl (1, ([(1, 1), (0, 100)], 0), ([(30, 1)], 0))), .inr (.inr (.inl (96, 0, [([(28, 1)], 0), ([(2, 1)], 0), ([(30, 1)], 0)], [], []))), .inl (.inl (3, ([(0, 1)], 0), 29)), .inl (.inl (2, ([(0, 1)], 0), 28))]),
   (1000, ([(0, 3), ((-2147483648), 2147483647), ((-9223372036854775808), 9223372036854775807), ((-2147483648), 2147483647), ((-2147483648), 2147483647), (0, 40), ((-2147483648), 2147483647), (0, 4), ((-9223372036854775808), 9223372036854775807), ((-9223372036854775808), 9223372036854775807), ((-9223372036854775808), 9223372036854775807), (0, 1), ((-4000), 4000), ((-4000), 4000), ((-8000000), 8000000), ((-8000000), 8000000), (0, 12), ((-9223372036854775808), 9223372036854775807), ((-9223372036854775808), 9223372036854775807), ((-9223372036854775808), 9223372036854775807), ((-9223372036854775808), 9223372036854775807), ((-9223372036854775808), 9223372036854775807), (0, 12), ((-2147483648), 2147483647), (0, 12), ((-2147483648), 2147483647), (0, 40), (0, 40), ((-2147483648), (-1)), ((-2147483648), 0)], []), [([], (-2)), ([(29, 1)], 0)], [], [.inl (.inl (2, ([(0, 1)], 0), 28))])]]
noncomputable def xG_1087 : Nat → yt_G → (Nat → Int) → yt_G → Prop
  | _, _, _, _ => True
noncomputable def xP_1087 : yt_Ph
  | 0, r, g0, g => (r 28) = yq_wm (r 0) (r 1) (yq_at (r 0) ((g0 2) 0) ((g0 2) 1) ((g0 2) 2) ((g0 2) 3)) (yq_at (r 0) ((g0 3) 0) ((g0 3) 1) ((g0 3) 2) ((g0 3) 3)) ∧ (g 1) = yq_mw (r 0) (r 1) (r 2) (yq_at (r 0) ((g0 2) 0) ((g0 2) 1) ((g0 2) 2) ((g0 2) 3)) (yq_at (r 0) ((g0 3) 0) ((g0 3) 1) ((g0 3) 2) ((g0 3) 3)) (g0 1)
  | _, _, _, _ => True
noncomputable def xR_1087 : yt_Ps := fun r g0 => True
noncomputable def xT_1087 : yt_Tb := fun d => match d with
  | 96 => xP_1024
  | _ => fun _ _ _ _ => True
noncomputable def xU_1087 : Nat → yt_Ps := fun d => match d with
  | 96 => xR_1024
  | _ => fun _ _ => True
theorem xw_1087_0_0 : yt_hold xT_1087 xk_1087 xq_1087.2.2.1 xG_1087 xP_1087 xU_1087 28 xk_1087.2.1.2.2.2 (fun g0 r g => xR_1087 r g0 ∧ g = g0) (1000, ([((-2147483648), (-1)), ((-2147483648), 2147483647), ((-9223372036854775808), 9223372036854775807), ((-2147483648), 2147483647), ((-2147483648), 2147483647), (0, 40), ((-2147483648), 2147483647), (0, 4), ((-9223372036854775808), 9223372036854775807), ((-9223372036854775808), 9223372036854775807), ((-9223372036854775808), 9223372036854775807), (0, 1), ((-4000), 4000), ((-4000), 4000), ((-8000000), 8000000), ((-8000000), 8000000), (0, 12), ((-9223372036854775808), 9223372036854775807), ((-9223372036854775808), 9223372036854775807), ((-9223372036854775808), 9223372036854775807), ((-9223372036854775808), 9223372036854775807), ((-9223372036854775808), 9223372036854775807), (0, 12), ((-2147483648), 2147483647), (0, 12), ((-2147483648), 2147483647), (0, 40), (0, 40), ((-2147483648), 0)], []), [([], (-1)), ([(28, 1)], 0)], [], []) := by
  intro g0 r gi g hok hh hars hfr hG
  have b0 : (-2147483648) ≤ r 0 ∧ r 0 ≤ (-1) := hok.1 0 ((-2147483648), (-1)) rfl
  have b1 : (-2147483648) ≤ r 1 ∧ r 1 ≤ 2147483647 := hok.1 1 ((-2147483648), 2147483647) rfl
  have b28 : (-2147483648) ≤ r 28 ∧ r 28 ≤ 0 := hok.1 28 ((-2147483648), 0) rfl
  obtain ⟨hG, hgi⟩ := hG
  have hG : True := hG
  have hh : g = gi := hh
  subst hh
  refine yt_dalt (by decide) (by decide) ?_
  rw [show xk_1087.2.1.2.1.1.length = 28 from rfl]
  show ((0 : Int) + (-1)) = yq_wm ((1 * r 0 + 0) + 0) ((1 * r 1 + 0) + 0) (yq_at ((1 * r 0 + 0) + 0) ((g0 2) 0) ((g0 2) 1) ((g0 2) 2) ((g0 2) 3)) (yq_at ((1 * r 0 + 0) + 0) ((g0 3) 0) ((g0 3) 1) ((g0 3) 2) ((g0 3) 3)) ∧ (g 1) = yq_mw ((1 * r 0 + 0) + 0) ((1 * r 1 + 0) + 0) ((1 * r 2 + 0) + 0) (yq_at ((1 * r 0 + 0) + 0) ((g0 2) 0) ((g0 2) 1) ((g0 2) 2) ((g0 2) 3)) (yq_at ((1 * r 0 + 0) + 0) ((g0 3) 0) ((g0 3) 1) ((g0 3) 2) ((g0 3) 3)) (g0 1)
  try simp only [Int.one_mul, Int.zero_add, Int.add_zero]
  refine ⟨?_, ?_⟩
  · unfold yq_wm
    rw [if_neg (by omega)] <;> omega
  · unfold yq_mw
    rw [if_neg (by omega)]
    rw [hgi]
theorem xw_1087_0_1 : yt_hold xT_1087 xk_1087 xq_1087.2.2.1 xG_1087 xP_1087 xU_1087 28 xk_1087.2.1.2.2.2 (fun g0 r g => xR_1087 r g0 ∧ g = g0) (1000, ([(4, 2147483647), ((-2147483648), 2147483647), ((-9223372036854775808), 9223372036854775807), ((-2147483648), 2147483647), ((-2147483648), 2147483647), (0, 40), ((-2147483648), 2147483647), (0, 4), ((-9223372036854775808), 9223372036854775807), ((-9223372036854775808), 9223372036854775807), ((-9223372036854775808), 9223372036854775807), (0, 1), ((-4000), 4000), ((-4000), 4000), ((-8000000), 8000000), ((-8000000), 8000000), (0, 12), ((-9223372036854775808), 9223372036854775807), ((-9223372036854775808), 9223372036854775807), ((-9223372036854775808), 9223372036854775807), ((-9223372036854775808), 9223372036854775807), ((-9223372036854775808), 9223372036854775807), (0, 12), ((-2147483648), 2147483647), (0, 12), ((-2147483648), 2147483647), (0, 40), (0, 40), ((-2147483648), 0)], []), [([], (-1)), ([(28, 1)], 0)], [], []) := by
  intro g0 r gi g hok hh hars hfr hG
  have b0 : 4 ≤ r 0 ∧ r 0 ≤ 2147483647 := hok.1 0 (4, 2147483647) rfl
  have b1 : (-2147483648) ≤ r 1 ∧ r 1 ≤ 2147483647 := hok.1 1 ((-2147483648), 2147483647) rfl
  have b28 : (-2147483648) ≤ r 28 ∧ r 28 ≤ 0 := hok.1 28 ((-2147483648), 0) rfl
  obtain ⟨hG, hgi⟩ := hG
  have hG : True := hG
  have hh : g = gi := hh
  subst hh
  refine yt_dalt (by decide) (by decide) ?_
  rw [show xk_1087.2.1.2.1.1.length = 28 from rfl]
  show ((0 : Int) + (-1)) = yq_wm ((1 * r 0 + 0) + 0) ((1 * r 1 + 0) + 0) (yq_at ((1 * r 0 + 0) + 0) ((g0 2) 0) ((g0 2) 1) ((g0 2) 2) ((g0 2) 3)) (yq_at ((1 * r 0 + 0) + 0) ((g0 3) 0) ((g0 3) 1) ((g0 3) 2) ((g0 3) 3)) ∧ (g 1) = yq_mw ((1 * r 0 + 0) + 0) ((1 * r 1 + 0) + 0) ((1 * r 2 + 0) + 0) (yq_at ((1 * r 0 + 0) + 0) ((g0 2) 0) ((g0 2) 1) ((g0 2) 2) ((g0 2) 3)) (yq_at ((1 * r 0 + 0) + 0) ((g0 3) 0) ((g0 3) 1) ((g0 3) 2) ((g0 3) 3)) (g0 1)
  try simp only [Int.one_mul, Int.zero_add, Int.add_zero]
  refine ⟨?_, ?_⟩
  · unfold yq_wm
    rw [if_neg (by omega)] <;> omega
  · unfold yq_mw
    rw [if_neg (by omega)]
    rw [hgi]
theorem xw_1087_0_2 : yt_hold xT_1087 xk_1087 xq_1087.2.2.1 xG_1087 xP_1087 xU_1087 28 xk_1087.2.1.2.2.2 (fun g0 r g => xR_1087 r g0 ∧ g = g0) (1000, ([(0, 3), ((-2147483648), (-1)), ((-9223372036854775808), 9223372036854775807), ((-2147483648), 2147483647), ((-2147483648), 2147483647), (0, 40), ((-2147483648), 2147483647), (0, 4), ((-9223372036854775808), 9223372036854775807), ((-9223372036854775808), 9223372036854775807), ((-9223372036854775808), 9223372036854775807), (0, 1), ((-4000), 4000), ((-4000), 4000), ((-8000000), 8000000), ((-8000000), 8000000), (0, 12), ((-9223372036854775808), 9223372036854775807), ((-9223372036854775808), 9223372036854775807), ((-9223372036854775808), 9223372036854775807), ((-9223372036854775808), 9223372036854775807), ((-9223372036854775808), 9223372036854775807), (0, 12), ((-2147483648), 2147483647), (0, 12), ((-2147483648), 2147483647), (0, 40), (0, 40), (0, 2147483647), (0, 100), ((-2147483648), 0)], []), [([], (-3)), ([(30, 1)], 0)], [], [.inl (.inl (3, ([(0, 1)], 0), 29)), .inl (.inl (2, ([(0, 1)], 0), 28))]) := by
  intro g0 r gi g hok hh hars hfr hG
  have b0 : 0 ≤ r 0 ∧ r 0 ≤ 3 := hok.1 0 (0, 3) rfl
  have b1 : (-2147483648) ≤ r 1 ∧ r 1 ≤ (-1) := hok.1 1 ((-2147483648), (-1)) rfl
  have b28 : 0 ≤ r 28 ∧ r 28 ≤ 2147483647 := hok.1 28 (0, 2147483647) rfl
  have b29 : 0 ≤ r 29 ∧ r 29 ≤ 100 := hok.1 29 (0, 100) rfl
  have b30 : (-2147483648) ≤ r 30 ∧ r 30 ≤ 0 := hok.1 30 ((-2147483648), 0) rfl
  obtain ⟨hG, hgi⟩ := hG
  have hG : True := hG
  obtain ⟨g0, hh, q0, e0⟩ := hh
  subst q0
  have e0 : r 29 = g 3 (((1 * r 0 + 0) + 0)).toNat := e0
  rw [show (((1 * r 0 + 0) + 0)).toNat = (r 0).toNat by omega] at e0
  obtain ⟨g1, hh, q1, e1⟩ := hh
  subst q1
  have e1 : r 28 = g 2 (((1 * r 0 + 0) + 0)).toNat := e1
  rw [show (((1 * r 0 + 0) + 0)).toNat = (r 0).toNat by omega] at e1
  have hh : g = gi := hh
  subst hh
  refine yt_dalt (by decide) (by decide) ?_
  rw [show xk_1087.2.1.2.1.1.length = 28 from rfl]
  show ((0 : Int) + (-3)) = yq_wm ((1 * r 0 + 0) + 0) ((1 * r 1 + 0) + 0) (yq_at ((1 * r 0 + 0) + 0) ((g0 2) 0) ((g0 2) 1) ((g0 2) 2) ((g0 2) 3)) (yq_at ((1 * r 0 + 0) + 0) ((g0 3) 0) ((g0 3) 1) ((g0 3) 2) ((g0 3) 3)) ∧ (g 1) = yq_mw ((1 * r 0 + 0) + 0) ((1 * r 1 + 0) + 0) ((1 * r 2 + 0) + 0) (yq_at ((1 * r 0 + 0) + 0) ((g0 2) 0) ((g0 2) 1) ((g0 2) 2) ((g0 2) 3)) (yq_at ((1 * r 0 + 0) + 0) ((g0 3) 0) ((g0 3) 1) ((g0 3) 2) ((g0 3) 3)) (g0 1)
  try simp only [Int.one_mul, Int.zero_add, Int.add_zero]
  rw [hgi] at e1
  rw [hgi] at e0
  rcases (show r 0 = 0 ∨ r 0 = 1 ∨ r 0 = 2 ∨ r 0 = 3 by omega) with q0 | q0 | q0 | q0
  · rw [show (r 0).toNat = 0 by omega] at e1 e0
    rw [q0]
    simp only [yq_at0]
    refine ⟨?_, ?_⟩
    · unfold yq_wm
      repeat' split
      all_goals omega
    · unfold yq_mw
      rw [if_neg (by omega)]
      rw [hgi]
  · rw [show (r 0).toNat = 1 by omega] at e1 e0
    rw [q0]
    simp only [yq_at1]
    refine ⟨?_, ?_⟩
    · unfold yq_wm
      repeat' split
      all_goals omega
    · unfold yq_mw
      rw [if_neg (by omega)]
      rw [hgi]
  · rw [show (r 0).toNat = 2 by omega] at e1 e0
    rw [q0]
    simp only [yq_at2]
    refine ⟨?_, ?_⟩
    · unfold yq_wm
      repeat' split
      all_goals omega
    · unfold yq_mw
      rw [if_neg (by omega)]
      rw [hgi]
  · rw [show (r 0).toNat = 3 by omega] at e1 e0
    rw [q0]
    simp only [yq_at3]
    refine ⟨?_, ?_⟩
    · unfold yq_wm
      repeat' split
      all_goals omega
    · unfold yq_mw
      rw [if_neg (by omega)]
      rw [hgi]
theorem xw_1087_0_3 : yt_hold xT_1087 xk_1087 xq_1087.2.2.1 xG_1087 xP_1087 xU_1087 28 xk_1087.2.1.2.2.2 (fun g0 r g => xR_1087 r g0 ∧ g = g0) (1000, ([(0, 3), (0, 2147483647), ((-9223372036854775808), 9223372036854775807), ((-2147483648), 2147483647), ((-2147483648), 2147483647), (0, 40), ((-2147483648), 2147483647), (0, 4), ((-9223372036854775808), 9223372036854775807), ((-9223372036854775808), 9223372036854775807), ((-9223372036854775808), 9223372036854775807), (0, 1), ((-4000), 4000), ((-4000), 4000), ((-8000000), 8000000), ((-8000000), 8000000), (0, 12), ((-9223372036854775808), 9223372036854775807), ((-9223372036854775808), 9223372036854775807), ((-9223372036854775808), 9223372036854775807), ((-9223372036854775808), 9223372036854775807), ((-9223372036854775808), 9223372036854775807), (0, 12), ((-2147483648), 2147483647), (0, 12), ((-2147483648), 2147483647), (0, 40), (0, 40), (0, 2147483647), (0, 100), ((-2147483648), 0)], [([(1, 1), (29, (-1))], 0)]), [([], (-3)), ([(30, 1)], 0)], [], [.inl (.inl (3, ([(0, 1)], 0), 29)), .inl (.inl (2, ([(0, 1)], 0), 28))]) := by
  intro g0 r gi g hok hh hars hfr hG
  have b0 : 0 ≤ r 0 ∧ r 0 ≤ 3 := hok.1 0 (0, 3) rfl
  have b1 : 0 ≤ r 1 ∧ r 1 ≤ 2147483647 := hok.1 1 (0, 2147483647) rfl
  have b28 : 0 ≤ r 28 ∧ r 28 ≤ 2147483647 := hok.1 28 (0, 2147483647) rfl
  have b29 : 0 ≤ r 29 ∧ r 29 ≤ 100 := hok.1 29 (0, 100) rfl
  have b30 : (-2147483648) ≤ r 30 ∧ r 30 ≤ 0 := hok.1 30 ((-2147483648), 0) rfl
  have f0 : 0 ≤ ((1 * r 1 + ((-1) * r 29 + 0)) + 0) := hok.2 _ (List.mem_of_getElem? (i := 0) rfl)
  obtain ⟨hG, hgi⟩ := hG
  have hG : True := hG
  obtain ⟨g0, hh, q0, e0⟩ := hh
  subst q0
  have e0 : r 29 = g 3 (((1 * r 0 + 0) + 0)).toNat := e0
  rw [show (((1 * r 0 + 0) + 0)).toNat = (r 0).toNat by omega] at e0
  obtain ⟨g1, hh, q1, e1⟩ := hh
  subst q1
  have e1 : r 28 = g 2 (((1 * r 0 + 0) + 0)).toNat := e1
  rw [show (((1 * r 0 + 0) + 0)).toNat = (r 0).toNat by omega] at e1
  have hh : g = gi := hh
  subst hh
  refine yt_dalt (by decide) (by decide) ?_
  rw [show xk_1087.2.1.2.1.1.length = 28 from rfl]
  show ((0 : Int) + (-3)) = yq_wm ((1 * r 0 + 0) + 0) ((1 * r 1 + 0) + 0) (yq_at ((1 * r 0 + 0) + 0) ((g0 2) 0) ((g0 2) 1) ((g0 2) 2) ((g0 2) 3)) (yq_at ((1 * r 0 + 0) + 0) ((g0 3) 0) ((g0 3) 1) ((g0 3) 2) ((g0 3) 3)) ∧ (g 1) = yq_mw ((1 * r 0 + 0) + 0) ((1 * r 1 + 0) + 0) ((1 * r 2 + 0) + 0) (yq_at ((1 * r 0 + 0) + 0) ((g0 2) 0) ((g0 2) 1) ((g0 2) 2) ((g0 2) 3)) (yq_at ((1 * r 0 + 0) + 0) ((g0 3) 0) ((g0 3) 1) ((g0 3) 2) ((g0 3) 3)) (g0 1)
  try simp only [Int.one_mul, Int.zero_add, Int.add_zero]
  rw [hgi] at e1
  rw [hgi] at e0
  rcases (show r 0 = 0 ∨ r 0 = 1 ∨ r 0 = 2 ∨ r 0 = 3 by omega) with q0 | q0 | q0 | q0
  · rw [show (r 0).toNat = 0 by omega] at e1 e0
    rw [q0]
    simp only [yq_at0]
    refine ⟨?_, ?_⟩
    · unfold yq_wm
      repeat' split
      all_goals omega
    · unfold yq_mw
      rw [if_neg (by omega)]
      rw [hgi]
  · rw [show (r 0).toNat = 1 by omega] at e1 e0
    rw [q0]
    simp only [yq_at1]
    refine ⟨?_, ?_⟩
    · unfold yq_wm
      repeat' split
      all_goals omega
    · unfold yq_mw
      rw [if_neg (by omega)]
      rw [hgi]
  · rw [show (r 0).toNat = 2 by omega] at e1 e0
    rw [q0]
    simp only [yq_at2]
    refine ⟨?_, ?_⟩
    · unfold yq_wm
      repeat' split
      all_goals omega
    · unfold yq_mw
      rw [if_neg (by omega)]
      rw [hgi]
  · rw [show (r 0).toNat = 3 by omega] at e1 e0
    rw [q0]
    simp only [yq_at3]
    refine ⟨?_, ?_⟩
    · unfold yq_wm
      repeat' split
      all_goals omega
    · unfold yq_mw
      rw [if_neg (by omega)]
      rw [hgi]
theorem xw_1087_0_4 : yt_hold xT_1087 xk_1087 xq_1087.2.2.1 xG_1087 xP_1087 xU_1087 28 xk_1087.2.1.2.2.2 (fun g0 r g => xR_1087 r g0 ∧ g = g0) (1000, ([(0, 3), (0, 99), ((-9223372036854775808), 9223372036854775807), ((-2147483648), 2147483647), ((-2147483648), 2147483647), (0, 40), ((-2147483648), 2147483647), (0, 4), ((-9223372036854775808), 9223372036854775807), ((-9223372036854775808), 9223372036854775807), ((-9223372036854775808), 9223372036854775807), (0, 1), ((-4000), 4000), ((-4000), 4000), ((-8000000), 8000000), ((-8000000), 8000000), (0, 12), ((-9223372036854775808), 9223372036854775807), ((-9223372036854775808), 9223372036854775807), ((-9223372036854775808), 9223372036854775807), ((-9223372036854775808), 9223372036854775807), ((-9223372036854775808), 9223372036854775807), (0, 12), ((-2147483648), 2147483647), (0, 12), ((-2147483648), 2147483647), (0, 40), (0, 40), (0, 2147483647), (0, 100), ((-9223372036854775808), 9223372036854775807), ((-2147483648), 0)], [([(1, (-1)), (29, 1)], (-1))]), [([], 0), ([(31, 1)], 0)], [], [.inr (.inl (1, ([(1, 1), (0, 100)], 0), ([(30, 1)], 0))), .inr (.inr (.inl (96, 0, [([(28, 1)], 0), ([(2, 1)], 0), ([(30, 1)], 0)], [], []))), .inl (.inl (3, ([(0, 1)], 0), 29)), .inl (.inl (2, ([(0, 1)], 0), 28))]) := by
  intro g0 r gi g hok hh hars hfr hG
  have b0 : 0 ≤ r 0 ∧ r 0 ≤ 3 := hok.1 0 (0, 3) rfl
  have b1 : 0 ≤ r 1 ∧ r 1 ≤ 99 := hok.1 1 (0, 99) rfl
  have b28 : 0 ≤ r 28 ∧ r 28 ≤ 2147483647 := hok.1 28 (0, 2147483647) rfl
  have b29 : 0 ≤ r 29 ∧ r 29 ≤ 100 := hok.1 29 (0, 100) rfl
  have b30 : (-9223372036854775808) ≤ r 30 ∧ r 30 ≤ 9223372036854775807 := hok.1 30 ((-9223372036854775808), 9223372036854775807) rfl
  have b31 : (-2147483648) ≤ r 31 ∧ r 31 ≤ 0 := hok.1 31 ((-2147483648), 0) rfl
  have f0 : 0 ≤ (((-1) * r 1 + (1 * r 29 + 0)) + (-1)) := hok.2 _ (List.mem_of_getElem? (i := 0) rfl)
  obtain ⟨hG, hgi⟩ := hG
  have hG : True := hG
  obtain ⟨h0, hh, e0⟩ := hh
  have e0 : g = ys_gup h0 1 (((1 * r 1 + (100 * r 0 + 0)) + 0)).toNat ((1 * r 30 + 0) + 0) := e0
  obtain ⟨h1, hh, e1, k1⟩ := hh
  have k1 : ∀ j, j ∉ [] → h0 j = h1 j := k1
  have e1 : ((1 * r 30 + 0) + 0) = yq_cut ((1 * r 28 + 0) + 0) ((1 * r 2 + 0) + 0) := e1
  obtain ⟨g2, hh, q2, e2⟩ := hh
  subst q2
  have e2 : r 29 = h1 3 (((1 * r 0 + 0) + 0)).toNat := e2
  rw [show (((1 * r 0 + 0) + 0)).toNat = (r 0).toNat by omega] at e2
  obtain ⟨g3, hh, q3, e3⟩ := hh
  subst q3
  have e3 : r 28 = h1 2 (((1 * r 0 + 0) + 0)).toNat := e3
  rw [show (((1 * r 0 + 0) + 0)).toNat = (r 0).toNat by omega] at e3
  have hh : h1 = gi := hh
  subst hh
  refine yt_dalt (by decide) (by decide) ?_
  rw [show xk_1087.2.1.2.1.1.length = 28 from rfl]
  show ((0 : Int) + 0) = yq_wm ((1 * r 0 + 0) + 0) ((1 * r 1 + 0) + 0) (yq_at ((1 * r 0 + 0) + 0) ((g0 2) 0) ((g0 2) 1) ((g0 2) 2) ((g0 2) 3)) (yq_at ((1 * r 0 + 0) + 0) ((g0 3) 0) ((g0 3) 1) ((g0 3) 2) ((g0 3) 3)) ∧ (g 1) = yq_mw ((1 * r 0 + 0) + 0) ((1 * r 1 + 0) + 0) ((1 * r 2 + 0) + 0) (yq_at ((1 * r 0 + 0) + 0) ((g0 2) 0) ((g0 2) 1) ((g0 2) 2) ((g0 2) 3)) (yq_at ((1 * r 0 + 0) + 0) ((g0 3) 0) ((g0 3) 1) ((g0 3) 2) ((g0 3) 3)) (g0 1)
  try simp only [Int.one_mul, Int.zero_add, Int.add_zero]
  try simp only [Int.one_mul, Int.zero_add, Int.add_zero] at e0
  try simp only [Int.one_mul, Int.zero_add, Int.add_zero] at e1
  rw [hgi] at e3
  rw [hgi] at e2
  rcases (show r 0 = 0 ∨ r 0 = 1 ∨ r 0 = 2 ∨ r 0 = 3 by omega) with q0 | q0 | q0 | q0
  · rw [show (r 0).toNat = 0 by omega] at e3 e2
    rw [q0]
    simp only [yq_at0]
    refine ⟨?_, ?_⟩
    · unfold yq_wm
      repeat' split
      all_goals omega
    · unfold yq_mw
      rw [if_pos (by omega)]
      rw [e0, yq_gup_self, k1 1 (by decide), hgi]
      rw [e1, ← e3] <;> (congr 1 <;> omega)
  · rw [show (r 0).toNat = 1 by omega] at e3 e2
    rw [q0]
    simp only [yq_at1]
    refine ⟨?_, ?_⟩
    · unfold yq_wm
      repeat' split
      all_goals omega
    · unfold yq_mw
      rw [if_pos (by omega)]
      rw [e0, yq_gup_self, k1 1 (by decide), hgi]
      rw [e1, ← e3] <;> (congr 1 <;> omega)
  · rw [show (r 0).toNat = 2 by omega] at e3 e2
    rw [q0]
    simp only [yq_at2]
    refine ⟨?_, ?_⟩
    · unfold yq_wm
      repeat' split
      all_goals omega
    · unfold yq_mw
      rw [if_pos (by omega)]
      rw [e0, yq_gup_self, k1 1 (by decide), hgi]
      rw [e1, ← e3] <;> (congr 1 <;> omega)
  · rw [show (r 0).toNat = 3 by omega] at e3 e2
    rw [q0]
    simp only [yq_at3]
    refine ⟨?_, ?_⟩
    · unfold yq_wm
      repeat' split
      all_goals omega
    · unfold yq_mw
      rw [if_pos (by omega)]
      rw [e0, yq_gup_self, k1 1 (by decide), hgi]
      rw [e1, ← e3] <;> (congr 1 <;> omega)
theorem xw_1087_0_5 : yt_hold xT_1087 xk_1087 xq_1087.2.2.1 xG_1087 xP_1087 xU_1087 28 xk_1087.2.1.2.2.2 (fun g0 r g => xR_1087 r g0 ∧ g = g0) (1000, ([(0, 3), ((-2147483648), 2147483647), ((-9223372036854775808), 9223372036854775807), ((-2147483648), 2147483647), ((-2147483648), 2147483647), (0, 40), ((-2147483648), 2147483647), (0, 4), ((-9223372036854775808), 9223372036854775807), ((-9223372036854775808), 9223372036854775807), ((-9223372036854775808), 9223372036854775807), (0, 1), ((-4000), 4000), ((-4000), 4000), ((-8000000), 8000000), ((-8000000), 8000000), (0, 12), ((-9223372036854775808), 9223372036854775807), ((-9223372036854775808), 9223372036854775807), ((-9223372036854775808), 9223372036854775807), ((-9223372036854775808), 9223372036854775807), ((-9223372036854775808), 9223372036854775807), (0, 12), ((-2147483648), 2147483647), (0, 12), ((-2147483648), 2147483647), (0, 40), (0, 40), ((-2147483648), (-1)), ((-2147483648), 0)], []), [([], (-2)), ([(29, 1)], 0)], [], [.inl (.inl (2, ([(0, 1)], 0), 28))]) := by
  intro g0 r gi g hok hh hars hfr hG
  have b0 : 0 ≤ r 0 ∧ r 0 ≤ 3 := hok.1 0 (0, 3) rfl
  have b1 : (-2147483648) ≤ r 1 ∧ r 1 ≤ 2147483647 := hok.1 1 ((-2147483648), 2147483647) rfl
  have b28 : (-2147483648) ≤ r 28 ∧ r 28 ≤ (-1) := hok.1 28 ((-2147483648), (-1)) rfl
  have b29 : (-2147483648) ≤ r 29 ∧ r 29 ≤ 0 := hok.1 29 ((-2147483648), 0) rfl
  obtain ⟨hG, hgi⟩ := hG
  have hG : True := hG
  obtain ⟨g0, hh, q0, e0⟩ := hh
  subst q0
  have e0 : r 28 = g 2 (((1 * r 0 + 0) + 0)).toNat := e0
  rw [show (((1 * r 0 + 0) + 0)).toNat = (r 0).toNat by omega] at e0
  have hh : g = gi := hh
  subst hh
  refine yt_dalt (by decide) (by decide) ?_
  rw [show xk_1087.2.1.2.1.1.length = 28 from rfl]
  show ((0 : Int) + (-2)) = yq_wm ((1 * r 0 + 0) + 0) ((1 * r 1 + 0) + 0) (yq_at ((1 * r 0 + 0) + 0) ((g0 2) 0) ((g0 2) 1) ((g0 2) 2) ((g0 2) 3)) (yq_at ((1 * r 0 + 0) + 0) ((g0 3) 0) ((g0 3) 1) ((g0 3) 2) ((g0 3) 3)) ∧ (g 1) = yq_mw ((1 * r 0 + 0) + 0) ((1 * r 1 + 0) + 0) ((1 * r 2 + 0) + 0) (yq_at ((1 * r 0 + 0) + 0) ((g0 2) 0) ((g0 2) 1) ((g0 2) 2) ((g0 2) 3)) (yq_at ((1 * r 0 + 0) + 0) ((g0 3) 0) ((g0 3) 1) ((g0 3) 2) ((g0 3) 3)) (g0 1)
  try simp only [Int.one_mul, Int.zero_add, Int.add_zero]
  rw [hgi] at e0
  rcases (show r 0 = 0 ∨ r 0 = 1 ∨ r 0 = 2 ∨ r 0 = 3 by omega) with q0 | q0 | q0 | q0
  · rw [show (r 0).toNat = 0 by omega] at e0
    rw [q0]
    simp only [yq_at0]
    refine ⟨?_, ?_⟩
    · unfold yq_wm
      repeat' split
      all_goals omega
    · unfold yq_mw
      rw [if_neg (by omega)]
      rw [hgi]
  · rw [show (r 0).toNat = 1 by omega] at e0
    rw [q0]
    simp only [yq_at1]
    refine ⟨?_, ?_⟩
    · unfold yq_wm
      repeat' split
      all_goals omega
    · unfold yq_mw
      rw [if_neg (by omega)]
      rw [hgi]
  · rw [show (r 0).toNat = 2 by omega] at e0
    rw [q0]
    simp only [yq_at2]
    refine ⟨?_, ?_⟩
    · unfold yq_wm
      repeat' split
      all_goals omega
    · unfold yq_mw
      rw [if_neg (by omega)]
      rw [hgi]
  · rw [show (r 0).toNat = 3 by omega] at e0
    rw [q0]
    simp only [yq_at3]
    refine ⟨?_, ?_⟩
    · unfold yq_wm
      repeat' split
      all_goals omega
    · unfold yq_mw
      rw [if_neg (by omega)]
      rw [hgi]
theorem xn_1087 : ∀ (j : Nat) (q : Nat × yt_T), xq_1087.2.2.1[j]? = some q → q.2.2.2 = false → ∀ g0 r g, xG_1087 j g0 r g
  | n + 0, q, hq, _ => by cases hq
theorem xs_1087 : ∀ j, xq_1087.2.2.2.getD j false = false → ∀ r g g', xP_1087 j r g g'
  | 0, hf => by cases hf
  | n + 1, _ => fun _ _ _ => trivial
theorem xc_1087 {l : Launch} {D : va_G} {cT : Nat → ClassId} {tys : List (ClassId × FieldType)} (hty : yx_Ty tys cT) : yt_Con l D vwCl cT tys yG yw_s519 xk_1087 xR_1087 xP_1087 := yx_sem (calls := xa_1087) (Z := xq_1087) (tb := xT_1087) (pt := xU_1087) (Ga := xG_1087) (vs := xv_1087) (fun _ _ _ _ => trivial) 300 (by decide +kernel) yz_X12_write_ok hty (yl_lkX12 _) (yl_cqkX12 _) (List.forall_mem_cons.mpr ⟨⟨xc_1023 hty, yg_CLs yl_wX12_157 yd_yX12_isSheet, fun _ _ _ => trivial⟩, List.forall_mem_cons.mpr ⟨⟨xc_1002 hty, yg_CLv rfl rfl rfl yl_wX12_141 yd_yX12_told, fun _ _ _ => trivial⟩, List.forall_mem_cons.mpr ⟨⟨xc_1001 hty, yg_CLs yl_wX12_133 yd_yX12_in, fun _ _ _ => trivial⟩, List.forall_mem_cons.mpr ⟨⟨xc_1024 hty, yg_CLs yl_wX12_160 yd_yX12_cut, fun _ _ _ => trivial⟩, fun _ h => absurd h List.not_mem_nil⟩⟩⟩⟩) (xn_1087) (xs_1087) (by decide +kernel) (List.forall_mem_cons.mpr ⟨xw_1087_0_0, List.forall_mem_cons.mpr ⟨xw_1087_0_1, List.forall_mem_cons.mpr ⟨xw_1087_0_2, List.forall_mem_cons.mpr ⟨xw_1087_0_3, List.forall_mem_cons.mpr ⟨xw_1087_0_4, List.forall_mem_cons.mpr ⟨xw_1087_0_5, fun _ h => absurd h List.not_mem_nil⟩⟩⟩⟩⟩⟩) (trivial)
