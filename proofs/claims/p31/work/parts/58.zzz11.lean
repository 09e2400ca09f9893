/-! the product of the steps -/
noncomputable def yy_py (ax at_ sg wr wh : Nat → Int) (x y : Int) : Nat → Int × Int
  | 0 => (1, 1)
  | k + 1 => if yq_says (ax k) (at_ k) (sg k) x y = 1 then ((yy_py ax at_ sg wr wh x y k).1 * (wh k - wr k), (yy_py ax at_ sg wr wh x y k).2 * wr k) else ((yy_py ax at_ sg wr wh x y k).1 * wr k, (yy_py ax at_ sg wr wh x y k).2 * (wh k - wr k))
noncomputable def yy_bo : Nat → Nat
  | 0 => 1
  | k + 1 => yy_bo k * 70368744177664
theorem yy_bo_ok : ((List.range 13).all fun k => decide (yy_bo k < 65536 ^ 40)) = true := by decide +kernel
theorem yy_bo_l {k : Nat} (h : k ≤ 12) : ((yy_bo k : Nat) : Int) < 65536 ^ 40 := by
  have k1 := of_decide_eq_true (List.all_eq_true.mp yy_bo_ok k (List.mem_range.mpr (by omega)))
  have e : (65536 : Int) ^ 40 = ((65536 ^ 40 : Nat) : Int) := rfl
  rw [e]
  exact Int.ofNat_lt.mpr k1
theorem yy_b80 {n : Nat} (h : n = 40 ∨ n = 80) : (65536 : Int) ^ 40 ≤ 65536 ^ n := by
  rcases h with z | z
  · rw [z]
    exact Int.le_refl _
  · rw [z]
    decide +kernel
noncomputable def yy_vc (kept en : Int) (wr wh : Nat → Int) : Prop := (en = 1 → kept = 1) ∧ ∀ j : Nat, (j : Int) < kept → 0 ≤ wr j ∧ wr j ≤ wh j ∧ wh j ≤ 70368744177664
theorem yy_mub {p f : Int} {B : Nat} (h0 : 0 ≤ p) (h1 : p ≤ (B : Int)) (f0 : 0 ≤ f) (f1 : f ≤ 70368744177664) : 0 ≤ p * f ∧ p * f ≤ ((B * 70368744177664 : Nat) : Int) := by
  refine ⟨Int.mul_nonneg h0 f0, ?_⟩
  have k1 : p * f ≤ (B : Int) * f := Int.mul_le_mul_of_nonneg_right h1 f0
  have k2 : (B : Int) * f ≤ (B : Int) * 70368744177664 := Int.mul_le_mul_of_nonneg_left f1 (by omega)
  rw [Int.natCast_mul]
  exact Int.le_trans k1 k2
theorem yy_py_b {ax at_ sg wr wh : Nat → Int} {x y : Int} : ∀ k : Nat, (∀ j : Nat, j < k → 0 ≤ wr j ∧ wr j ≤ wh j ∧ wh j ≤ 70368744177664) → (0 ≤ (yy_py ax at_ sg wr wh x y k).1 ∧ (yy_py ax at_ sg wr wh x y k).1 ≤ ((yy_bo k : Nat) : Int)) ∧ (0 ≤ (yy_py ax at_ sg wr wh x y k).2 ∧ (yy_py ax at_ sg wr wh x y k).2 ≤ ((yy_bo k : Nat) : Int))
  | 0, _ => ⟨⟨show (0 : Int) ≤ 1 by decide, show (1 : Int) ≤ ((yy_bo 0 : Nat) : Int) by decide⟩, ⟨show (0 : Int) ≤ 1 by decide, show (1 : Int) ≤ ((yy_bo 0 : Nat) : Int) by decide⟩⟩
  | k + 1, h => by
    have q := yy_py_b (ax := ax) (at_ := at_) (sg := sg) (x := x) (y := y) k (fun j hj => h j (by omega))
    have hk := h k (by omega)
    have w1 := yy_mub q.1.1 q.1.2 (f := wh k - wr k) (by omega) (by omega)
    have w2 := yy_mub q.1.1 q.1.2 (f := wr k) (by omega) (by omega)
    have w3 := yy_mub q.2.1 q.2.2 (f := wh k - wr k) (by omega) (by omega)
    have w4 := yy_mub q.2.1 q.2.2 (f := wr k) (by omega) (by omega)
    by_cases z : yq_says (ax k) (at_ k) (sg k) x y = 1
    · rw [show yy_py ax at_ sg wr wh x y (k + 1) = ((yy_py ax at_ sg wr wh x y k).1 * (wh k - wr k), (yy_py ax at_ sg wr wh x y k).2 * wr k) from if_pos z]
      exact ⟨w1, w4⟩
    · rw [show yy_py ax at_ sg wr wh x y (k + 1) = ((yy_py ax at_ sg wr wh x y k).1 * wr k, (yy_py ax at_ sg wr wh x y k).2 * (wh k - wr k)) from if_neg z]
      exact ⟨w2, w3⟩
/-- one multiplication, its factor small enough -/
theorem yy_mu {o d : Nat → Int} {n k : Nat} {f p : Int} (hn : n = 40 ∨ n = 80) (hk : k + 1 ≤ 12) (h : yy_mw o d n f) (f0 : 0 ≤ f) (f1 : f ≤ 70368744177664) (ho : yy_dg o n) (hp : yy_V o n = p) (p0 : 0 ≤ p) (p1 : p ≤ ((yy_bo k : Nat) : Int)) : yy_dg d n ∧ yy_V d n = p * f := by
  obtain ⟨a1, c, a2, a3⟩ := h f0 f1 ho
  refine ⟨a1, ?_⟩
  rw [hp] at a3
  have m := yy_mub p0 p1 f0 f1
  have b1 := yy_bo_l hk
  have b2 := yy_b80 hn
  exact yy_no a3 (yy_V_b n a1).1 a2 (yy_pw n) (Int.lt_of_lt_of_le (Int.lt_of_le_of_lt m.2 b1) b2)
noncomputable def yy_vi (ax at_ sg wr wh : Nat → Int) (x y : Int) (n : Nat) (a b : Nat → Int) (k : Nat) : Prop := yy_dg a n ∧ yy_dg b n ∧ yy_V a n = (yy_py ax at_ sg wr wh x y k).1 ∧ yy_V b n = (yy_py ax at_ sg wr wh x y k).2
theorem yy_vi1 {ax at_ sg wr wh a b a' b' : Nat → Int} {x y : Int} {n k : Nat} (hn : n = 40 ∨ n = 80) (hk : k + 1 ≤ 12) (h : yy_vi ax at_ sg wr wh x y n a b k) (hb : ∀ j : Nat, j < k + 1 → 0 ≤ wr j ∧ wr j ≤ wh j ∧ wh j ≤ 70368744177664) (hs : yq_says (ax k) (at_ k) (sg k) x y = 1) (h1 : yy_mw a a' n (wh k - wr k)) (h2 : yy_mw b b' n (wr k)) : yy_vi ax at_ sg wr wh x y n a' b' (k + 1) := by
  obtain ⟨a1, a2, a3, a4⟩ := h
  have q := yy_py_b (ax := ax) (at_ := at_) (sg := sg) (x := x) (y := y) k (fun j hj => hb j (by omega))
  have w := hb k (by omega)
  have m1 := yy_mu hn hk h1 (by omega) (by omega) a1 a3 q.1.1 q.1.2
  have m2 := yy_mu hn hk h2 (by omega) (by omega) a2 a4 q.2.1 q.2.2
  refine ⟨m1.1, m2.1, ?_, ?_⟩
  · rw [m1.2, show yy_py ax at_ sg wr wh x y (k + 1) = ((yy_py ax at_ sg wr wh x y k).1 * (wh k - wr k), (yy_py ax at_ sg wr wh x y k).2 * wr k) from if_pos hs]
  · rw [m2.2, show yy_py ax at_ sg wr wh x y (k + 1) = ((yy_py ax at_ sg wr wh x y k).1 * (wh k - wr k), (yy_py ax at_ sg wr wh x y k).2 * wr k) from if_pos hs]
theorem yy_vi2 {ax at_ sg wr wh a b a' b' : Nat → Int} {x y : Int} {n k : Nat} (hn : n = 40 ∨ n = 80) (hk : k + 1 ≤ 12) (h : yy_vi ax at_ sg wr wh x y n a b k) (hb : ∀ j : Nat, j < k + 1 → 0 ≤ wr j ∧ wr j ≤ wh j ∧ wh j ≤ 70368744177664) (hs : ¬ yq_says (ax k) (at_ k) (sg k) x y = 1) (h1 : yy_mw b b' n (wh k - wr k)) (h2 : yy_mw a a' n (wr k)) : yy_vi ax at_ sg wr wh x y n a' b' (k + 1) := by
  obtain ⟨a1, a2, a3, a4⟩ := h
  have q := yy_py_b (ax := ax) (at_ := at_) (sg := sg) (x := x) (y := y) k (fun j hj => hb j (by omega))
  have w := hb k (by omega)
  have m1 := yy_mu hn hk h2 (by omega) (by omega) a1 a3 q.1.1 q.1.2
  have m2 := yy_mu hn hk h1 (by omega) (by omega) a2 a4 q.2.1 q.2.2
  refine ⟨m1.1, m2.1, ?_, ?_⟩
  · rw [m1.2, show yy_py ax at_ sg wr wh x y (k + 1) = ((yy_py ax at_ sg wr wh x y k).1 * wr k, (yy_py ax at_ sg wr wh x y k).2 * (wh k - wr k)) from if_neg hs]
  · rw [m2.2, show yy_py ax at_ sg wr wh x y (k + 1) = ((yy_py ax at_ sg wr wh x y k).1 * wr k, (yy_py ax at_ sg wr wh x y k).2 * (wh k - wr k)) from if_neg hs]
noncomputable def yy_vt (kept en : Int) (ax at_ sg wr wh : Nat → Int) (x y : Int) : Int := if en = 1 then yq_says (ax 0) (at_ 0) (sg 0) x y else yy_cp (yy_py ax at_ sg wr wh x y kept.toNat).1 (yy_py ax at_ sg wr wh x y kept.toNat).2
theorem yy_py_e {ax at_ sg wr wh AX AT SG WR WH : Nat → Int} {x y : Int} : ∀ k : Nat, (∀ j : Nat, j < k → ax j = AX j ∧ at_ j = AT j ∧ sg j = SG j ∧ wr j = WR j ∧ wh j = WH j) → yy_py ax at_ sg wr wh x y k = yy_py AX AT SG WR WH x y k
  | 0, _ => rfl
  | k + 1, h => by
    obtain ⟨h1, h2, h3, h4, h5⟩ := h k (by omega)
    show (if yq_says (ax k) (at_ k) (sg k) x y = 1 then ((yy_py ax at_ sg wr wh x y k).1 * (wh k - wr k), (yy_py ax at_ sg wr wh x y k).2 * wr k) else ((yy_py ax at_ sg wr wh x y k).1 * wr k, (yy_py ax at_ sg wr wh x y k).2 * (wh k - wr k))) = (if yq_says (AX k) (AT k) (SG k) x y = 1 then ((yy_py AX AT SG WR WH x y k).1 * (WH k - WR k), (yy_py AX AT SG WR WH x y k).2 * WR k) else ((yy_py AX AT SG WR WH x y k).1 * WR k, (yy_py AX AT SG WR WH x y k).2 * (WH k - WR k)))
    rw [yy_py_e k (fun j hj => h j (by omega)), h1, h2, h3, h4, h5]
theorem yy_vt_e {kept en x y : Int} {ax at_ sg wr wh AX AT SG WR WH : Nat → Int} (hv : en = 1 → kept = 1) (h : ∀ j : Nat, (j : Int) < kept → ax j = AX j ∧ at_ j = AT j ∧ sg j = SG j ∧ wr j = WR j ∧ wh j = WH j) : yy_vt kept en ax at_ sg wr wh x y = yy_vt kept en AX AT SG WR WH x y := by
  unfold yy_vt
  by_cases z : en = 1
  · have k := hv z
    obtain ⟨h1, h2, h3, _, _⟩ := h 0 (by omega)
    rw [if_pos z, if_pos z, h1, h2, h3]
  · rw [if_neg z, if_neg z, yy_py_e _ (fun j hj => h j (by omega))]
theorem yy_vc_e {kept en : Int} {wr wh WR WH : Nat → Int} (h : yy_vc kept en wr wh) (h1 : ∀ j : Nat, (j : Int) < kept → wr j = WR j) (h2 : ∀ j : Nat, (j : Int) < kept → wh j = WH j) : yy_vc kept en WR WH := ⟨h.1, fun j hj => by rw [← h1 j hj, ← h2 j hj]; exact h.2 j hj⟩
theorem yy_run_v {px py pc pw : Nat → Int} {n : Nat} (hn : n ≤ 40) (h : ∀ j : Nat, j < n → 1 ≤ pw j ∧ pw j ≤ 1000) : ∀ k : Nat, yy_vc (yy_run px py pc pw n k).1 (yy_run px py pc pw n k).2.1 (yy_run px py pc pw n k).2.2.2.2.2.1 (yy_run px py pc pw n k).2.2.2.2.2.2.1
  | 0 => ⟨fun z => absurd (show (0 : Int) = 1 from z) (by decide), fun j hj => absurd (show (j : Int) < 0 from hj) (by omega)⟩
  | k + 1 => by
    have ih := yy_run_v (px := px) (py := py) (pc := pc) hn h k
    have hm := yy_run_m (px := px) (py := py) (pc := pc) h k
    have hk := (yy_run_k (px := px) (py := py) (pc := pc) (pw := pw) (n := n) k).1
    by_cases z : (yy_run px py pc pw n k).2.1 = 0
    · rw [show yy_run px py pc pw n (k + 1) = yy_rd px py pc n (yy_run px py pc pw n k) from if_pos z]
      generalize yy_run px py pc pw n k = s at *
      have hmb : yy_mb s.2.2.2.2.2.2.2 n := fun j hj => ⟨by have := (hm j hj).1; omega, (hm j hj).2⟩
      have hT := yy_tot_b n hmb
      have hE : 0 ≤ (yy_c px py pc s.2.2.2.2.2.2.2 n).1 := by
        rw [yy_c_v hmb]
        exact (yy_ws_b n hmb).1
      have hT2 : yq_tot s.2.2.2.2.2.2.2 n ≤ 70368744177664 := by omega
      unfold yy_rd
      generalize (yy_c px py pc s.2.2.2.2.2.2.2 n).1 = E at *
      generalize (yy_c px py pc s.2.2.2.2.2.2.2 n).2 = q at *
      generalize yq_tot s.2.2.2.2.2.2.2 n = T at *
      have st : ∀ (u : Int) (f : Nat → Int) (w : Int) (j : Nat), j = u.toNat → yq_set f u.toNat w j = w := fun u f w j e => if_pos e
      have sn : ∀ (u : Int) (f : Nat → Int) (w : Int) (j : Nat), j ≠ u.toNat → yq_set f u.toNat w j = f j := fun u f w j e => if_neg e
      have kp : ∀ (u en : Int) (m : Nat → Int), 0 ≤ u → (en = 1 → u = 0) → (0 < u → u = s.1) → E ≤ T → yy_vc (yy_kp u en s q E T m).1 (yy_kp u en s q E T m).2.1 (yy_kp u en s q E T m).2.2.2.2.2.1 (yy_kp u en s q E T m).2.2.2.2.2.2.1 := fun u en m u0 u1 u2 le => by
        refine ⟨fun w => ?_, fun j hj => ?_⟩
        · have w2 := u1 w
          show u + 1 = 1
          omega
        · have hj : (j : Int) < u + 1 := hj
          show 0 ≤ yq_set s.2.2.2.2.2.1 u.toNat E j ∧ yq_set s.2.2.2.2.2.1 u.toNat E j ≤ yq_set s.2.2.2.2.2.2.1 u.toNat T j ∧ yq_set s.2.2.2.2.2.2.1 u.toNat T j ≤ 70368744177664
          by_cases w : j = u.toNat
          · rw [st _ _ _ _ w, st _ _ _ _ w]
            omega
          · rw [sn _ _ _ _ w, sn _ _ _ _ w]
            exact ih.2 j (by have := u2 (by omega); omega)
      unfold yy_r1
      by_cases c1 : E = 0
      · rw [if_pos c1]
        exact kp 0 1 _ (by decide) (fun _ => rfl) (fun w => absurd w (by decide)) (by omega)
      · rw [if_neg c1]
        by_cases c2 : T ≤ 2 * E
        · rw [if_pos c2]
          exact ⟨fun w => absurd (show (2 : Int) = 1 from w) (by decide), ih.2⟩
        · rw [if_neg c2]
          by_cases c3 : yy_ft (yy_nm (yy_W px py pc q) s.2.2.2.2.2.2.2 n E T) n = true
          · rw [if_pos c3]
            exact kp s.1 0 _ hk (fun w => absurd w (by decide)) (fun _ => rfl) (by omega)
          · rw [if_neg c3]
            exact kp s.1 3 _ hk (fun w => absurd w (by decide)) (fun _ => rfl) (by omega)
    · rw [show yy_run px py pc pw n (k + 1) = yy_run px py pc pw n k from if_neg z]
      exact ih
theorem yy_rep_v {kept en : Int} {ax at_ sg wr wh m : Nat → Int} {n : Nat} {s : yy_S} (h : yy_rep kept en ax at_ sg wr wh m n s) (hv : yy_vc s.1 s.2.1 s.2.2.2.2.2.1 s.2.2.2.2.2.2.1) : yy_vc kept en wr wh := by
  obtain ⟨h1, h2, h3, _⟩ := h
  refine ⟨fun z => ?_, fun j hj => ?_⟩
  · rw [h1]
    exact hv.1 (by rw [← h2]; exact z)
  · rw [(h3 j hj).2.2.2.1, (h3 j hj).2.2.2.2]
    exact hv.2 j (by rw [← h1]; exact hj)
theorem yy_1d {o : Nat → Int} : yy_dg (yq_set (yq_fl 40 0 o) 0 1) 40 ∧ yy_V (yq_set (yq_fl 40 0 o) 0 1) 40 = 1 := by
  have z : ∀ j : Nat, 0 < j → j < 40 → yq_set (yq_fl 40 0 o) 0 1 j = 0 := fun j h1 h2 => by
    unfold yq_set yq_fl
    rw [if_neg (by omega), if_pos h2]
  have e : yq_set (yq_fl 40 0 o) 0 1 0 = 1 := if_pos rfl
  refine ⟨fun j hj => ?_, yy_V_1 e 39 z⟩
  by_cases q : j = 0
  · rw [q, e]
    decide
  · rw [z j (by omega) hj]
    decide
theorem yy_1m {d : Nat → Int} (h : ∀ j : Nat, (j : Int) < 80 → d j = if j = 0 then 1 else 0) : yy_dg d 80 ∧ yy_V d 80 = 1 := by
  refine ⟨fun j hj => ?_, yy_V_1 (h 0 (by decide)) 79 fun j h1 h2 => ?_⟩
  · rw [h j (by omega)]
    split <;> decide
  · rw [h j (by omega)]
    exact if_neg (by omega)

