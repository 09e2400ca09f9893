/-! what the reference finds of the meeting -/
noncomputable def yr_R (P U L : Nat → Int) (k : Nat) (i N D : Int) : Prop := P k = i ∧ yr_fr (U k) (L k) N D
noncomputable def yr_DM (x y : Nat → Int) (s a b d e : Nat) (K M : Int) (P U L : Nat → Int) (PX PY PL : Int) : Prop := K = yr_k s ∧ M = yr_m s ∧ (∀ k : Nat, (k : Int) < yr_m s → yr_R P U L k (yr_w a b d e k) (yr_n x y s a b d e k).1 (yr_n x y s a b d e k).2) ∧ yr_fr PX PL (yr_p x y s a b d e).1 (yr_p x y s a b d e).2.2 ∧ yr_fr PY PL (yr_p x y s a b d e).2.1 (yr_p x y s a b d e).2.2
/-- rows written one by one -/
theorem yr_st (f : Nat → Int) (k : Nat) (z : Int) : yq_set f k z k = z := if_pos rfl
theorem yr_sn {f : Nat → Int} {k j : Nat} {z : Int} (h : j ≠ k) : yq_set f k z j = f j := if_neg h
theorem yr_f1 : yr_fr 1 1 1 1 := ⟨by decide, by decide⟩
theorem yr_fp (z : Int) : yr_fr z 1 z 1 := ⟨by decide, rfl⟩
noncomputable def yr_tp (g k M : Int) (W T U : Nat → Int) : Int := if 0 ≤ k ∧ k < M then (if g = 1 then W k.toNat else if g = 2 then T k.toNat else if g = 3 then U k.toNat else -1000000) else -1000000
theorem yr_tp1 {w k K M : Int} {W T U : Nat → Int} {X1 X2 Y1 Y2 : Int} (hk : k = w - 10) (h : 10 ≤ w ∧ w ≤ 13) : yr_tp 1 k M W T U = yr_tl w K M W T U X1 X2 Y1 Y2 := by
  unfold yr_tp yr_tl
  rw [if_neg (show ¬ w = 0 by omega), if_neg (show ¬ w = 1 by omega), if_pos (show w ≤ 13 by omega), if_pos (show (1 : Int) = 1 from rfl), hk]
  by_cases q : w - 10 < M
  · rw [if_pos (show 0 ≤ w - 10 ∧ w - 10 < M by omega), if_pos q]
  · rw [if_neg (show ¬ (0 ≤ w - 10 ∧ w - 10 < M) by omega), if_neg q]
theorem yr_tp2 {w k K M : Int} {W T U : Nat → Int} {X1 X2 Y1 Y2 : Int} (hk : k = w - 20) (h : 20 ≤ w ∧ w ≤ 23) : yr_tp 2 k M W T U = yr_tl w K M W T U X1 X2 Y1 Y2 := by
  unfold yr_tp yr_tl
  rw [if_neg (show ¬ w = 0 by omega), if_neg (show ¬ w = 1 by omega), if_neg (show ¬ w ≤ 13 by omega), if_pos (show w ≤ 23 by omega), if_neg (show ¬ (2 : Int) = 1 by decide), if_pos (show (2 : Int) = 2 from rfl), hk]
  by_cases q : w - 20 < M
  · rw [if_pos (show 0 ≤ w - 20 ∧ w - 20 < M by omega), if_pos q]
  · rw [if_neg (show ¬ (0 ≤ w - 20 ∧ w - 20 < M) by omega), if_neg q]
theorem yr_tp3 {w k K M : Int} {W T U : Nat → Int} {X1 X2 Y1 Y2 : Int} (hk : k = w - 30) (h : 30 ≤ w ∧ w ≤ 33) : yr_tp 3 k M W T U = yr_tl w K M W T U X1 X2 Y1 Y2 := by
  unfold yr_tp yr_tl
  rw [if_neg (show ¬ w = 0 by omega), if_neg (show ¬ w = 1 by omega), if_neg (show ¬ w ≤ 13 by omega), if_neg (show ¬ w ≤ 23 by omega), if_pos (show w ≤ 33 by omega), if_neg (show ¬ (3 : Int) = 1 by decide), if_neg (show ¬ (3 : Int) = 2 by decide), if_pos (show (3 : Int) = 3 from rfl), hk]
  by_cases q : w - 30 < M
  · rw [if_pos (show 0 ≤ w - 30 ∧ w - 30 < M by omega), if_pos q]
  · rw [if_neg (show ¬ (0 ≤ w - 30 ∧ w - 30 < M) by omega), if_neg q]
theorem yr_Ri {P U L : Nat → Int} {k : Nat} {i j N D up low : Int} (h : P k = i ∧ U k = yr_s up low ∧ L k = yq_abs low) (hi : i = j) (hl : low ≠ 0) (he : up * D = N * low) : yr_R P U L k j N D := ⟨h.1.trans hi, by rw [h.2.1, h.2.2]; exact yr_fr_s hl he⟩
noncomputable def yr_rb (x y P U L : Nat → Int) (k0 k1 k2 p a b : Nat) : Prop := yr_R P U L k0 (p : Int) 1 1 ∧ yr_R P U L k1 (a : Int) (yh_dot x y b a p) (yh_dot x y a b b) ∧ yr_R P U L k2 (b : Int) (yh_dot x y a b p) (yh_dot x y a b b)
noncomputable def yr_rw (x y P U L : Nat → Int) (k0 k1 k2 k3 p a b c : Nat) : Prop := yr_R P U L k0 (p : Int) 1 1 ∧ yr_R P U L k1 (a : Int) (yq_ar x y p b c) (yq_ar x y a b c) ∧ yr_R P U L k2 (b : Int) (yq_ar x y a p c) (yq_ar x y a b c) ∧ yr_R P U L k3 (c : Int) (yq_ar x y a b p) (yq_ar x y a b c)
noncomputable def yr_ma (x y c P U L : Nat → Int) (p a b d : Int) : Prop := (c p.toNat = 1 → (d < 0 → yr_rb x y P U L 0 1 2 p.toNat a.toNat b.toNat) ∧ (0 ≤ d → yr_rw x y P U L 0 1 2 3 p.toNat a.toNat b.toNat d.toNat)) ∧ (c p.toNat ≠ 1 → (d < 0 → yr_rb x y P U L 2 0 1 p.toNat a.toNat b.toNat) ∧ (0 ≤ d → yr_rw x y P U L 3 0 1 2 p.toNat a.toNat b.toNat d.toNat))
section YRM
variable {x y P U L : Nat → Int} {p a b c d : Nat}
theorem yr_DM1 {i k : Nat} (h0 : yr_R P U L 0 (i : Int) 1 1) (h1 : yr_R P U L 1 (k : Int) 1 1) : yr_DM x y 1 i k 0 0 1 2 P U L (x i) (y i) 1 := by
  refine ⟨rfl, rfl, fun q hq => ?_, yr_fp _, yr_fp _⟩
  have hq : (q : Int) < 2 := hq
  rcases (show q = 0 ∨ q = 1 by omega) with z | z
  · subst z
    exact h0
  · subst z
    exact h1
theorem yr_DM2 (h : yr_rb x y P U L 0 1 2 p a b) : yr_DM x y 2 p a b 0 2 3 P U L (x p) (y p) 1 := by
  refine ⟨rfl, rfl, fun q hq => ?_, yr_fp _, yr_fp _⟩
  have hq : (q : Int) < 3 := hq
  rcases (show q = 0 ∨ q = 1 ∨ q = 2 by omega) with z | z | z
  · subst z
    exact h.1
  · subst z
    exact h.2.1
  · subst z
    exact h.2.2
theorem yr_DM3 (h : yr_rb x y P U L 2 0 1 p a b) : yr_DM x y 3 a b p 0 2 3 P U L (x p) (y p) 1 := by
  refine ⟨rfl, rfl, fun q hq => ?_, yr_fp _, yr_fp _⟩
  have hq : (q : Int) < 3 := hq
  rcases (show q = 0 ∨ q = 1 ∨ q = 2 by omega) with z | z | z
  · subst z
    exact h.2.1
  · subst z
    exact h.2.2
  · subst z
    exact h.1
theorem yr_DM4 (h : yr_rw x y P U L 0 1 2 3 p a b c) : yr_DM x y 4 p a b c 3 4 P U L (x p) (y p) 1 := by
  refine ⟨rfl, rfl, fun q hq => ?_, yr_fp _, yr_fp _⟩
  have hq : (q : Int) < 4 := hq
  rcases (show q = 0 ∨ q = 1 ∨ q = 2 ∨ q = 3 by omega) with z | z | z | z
  · subst z
    exact h.1
  · subst z
    exact h.2.1
  · subst z
    exact h.2.2.1
  · subst z
    exact h.2.2.2
theorem yr_DM5 (h : yr_rw x y P U L 3 0 1 2 p a b c) : yr_DM x y 5 a b c p 3 4 P U L (x p) (y p) 1 := by
  refine ⟨rfl, rfl, fun q hq => ?_, yr_fp _, yr_fp _⟩
  have hq : (q : Int) < 4 := hq
  rcases (show q = 0 ∨ q = 1 ∨ q = 2 ∨ q = 3 by omega) with z | z | z | z
  · subst z
    exact h.2.1
  · subst z
    exact h.2.2.1
  · subst z
    exact h.2.2.2
  · subst z
    exact h.1
theorem yr_DM6 {A B C D PX PY PL : Int} (hA : A = yq_ar x y c d a) (hB : B = yq_ar x y c d b) (hC : C = yq_ar x y a b c) (hD : D = yq_ar x y a b d) (h : ye_xg x y a b c d) (r0 : P 0 = (a : Int) ∧ U 0 = yr_s (-B) (A - B) ∧ L 0 = yq_abs (A - B)) (r1 : P 1 = (b : Int) ∧ U 1 = yr_s A (A - B) ∧ L 1 = yq_abs (A - B)) (r2 : P 2 = (c : Int) ∧ U 2 = yr_s (-D) (C - D) ∧ L 2 = yq_abs (C - D)) (r3 : P 3 = (d : Int) ∧ U 3 = yr_s C (C - D) ∧ L 3 = yq_abs (C - D)) (hp : PX = yr_s ((-B) * x a + A * x b) (A - B) ∧ PY = yr_s ((-B) * y a + A * y b) (A - B) ∧ PL = yq_abs (A - B)) : yr_DM x y 6 a b c d 4 4 P U L PX PY PL := by
  obtain ⟨g1, g2⟩ := h
  rw [← hC, ← hD] at g1
  rw [← hA, ← hB] at g2
  obtain ⟨u1, u2, u3, u4⟩ := yr_fx g2
  obtain ⟨v1, v2, v3, v4⟩ := yr_fx g1
  obtain ⟨p1, p2, p3⟩ := hp
  refine ⟨rfl, rfl, fun q hq => ?_, ?_, ?_⟩
  · have hq : (q : Int) < 4 := hq
    rcases (show q = 0 ∨ q = 1 ∨ q = 2 ∨ q = 3 by omega) with z | z | z | z
    · subst z
      show yr_R P U L 0 (a : Int) (yq_abs (yq_ar x y c d b)) (yq_abs (yq_ar x y c d a) + yq_abs (yq_ar x y c d b))
      rw [← hA, ← hB]
      exact yr_Ri r0 rfl u3 u1
    · subst z
      show yr_R P U L 1 (b : Int) (yq_abs (yq_ar x y c d a)) (yq_abs (yq_ar x y c d a) + yq_abs (yq_ar x y c d b))
      rw [← hA, ← hB]
      exact yr_Ri r1 rfl u3 u2
    · subst z
      show yr_R P U L 2 (c : Int) (yq_abs (yq_ar x y a b d)) (yq_abs (yq_ar x y a b c) + yq_abs (yq_ar x y a b d))
      rw [← hC, ← hD]
      exact yr_Ri r2 rfl v3 v1
    · subst z
      show yr_R P U L 3 (d : Int) (yq_abs (yq_ar x y a b c)) (yq_abs (yq_ar x y a b c) + yq_abs (yq_ar x y a b d))
      rw [← hC, ← hD]
      exact yr_Ri r3 rfl v3 v2
  · show yr_fr PX PL (x a * yq_abs (yq_ar x y c d b) + x b * yq_abs (yq_ar x y c d a)) (yq_abs (yq_ar x y c d a) + yq_abs (yq_ar x y c d b))
    rw [← hA, ← hB, p1, p3]
    exact yr_fr_s u3 (yr_fxp u1 u2)
  · show yr_fr PY PL (y a * yq_abs (yq_ar x y c d b) + y b * yq_abs (yq_ar x y c d a)) (yq_abs (yq_ar x y c d a) + yq_abs (yq_ar x y c d b))
    rw [← hA, ← hB, p2, p3]
    exact yr_fr_s u3 (yr_fxp u1 u2)
end YRM
/-- what the reference tells, from what it found -/
theorem yr_DM_w {x y c : Nat → Int} {n s a b d e : Nat} {K M : Int} {P U L : Nat → Int} {PX PY PL w : Int} (hF : yr_F x y c n s a b d e) (h : yr_DM x y s a b d e K M P U L PX PY PL) : (w = 0 → K = yr_as x y s a b d e w) ∧ (w = 1 → M = yr_as x y s a b d e w) ∧ (10 ≤ w → w ≤ 13 → w - 10 < M → P (w - 10).toNat = yr_as x y s a b d e w) ∧ (10 ≤ w → w ≤ 13 → ¬ w - 10 < M → -1000000 = yr_as x y s a b d e w) ∧ (20 ≤ w → w ≤ 23 → ¬ w - 20 < M → -1000000 = yr_as x y s a b d e w) ∧ (30 ≤ w → w ≤ 33 → ¬ w - 30 < M → -1000000 = yr_as x y s a b d e w) := by
  obtain ⟨h1, h2, h3, h4, h5⟩ := h
  unfold yr_as yr_tl
  refine ⟨fun q => ?_, fun q => ?_, fun q1 q2 q3 => ?_, fun q1 q2 q3 => ?_, fun q1 q2 q3 => ?_, fun q1 q2 q3 => ?_⟩
  · rw [if_pos q, h1]
  · rw [if_neg (show ¬ w = 0 by omega), if_pos q, h2]
  · rw [if_neg (show ¬ w = 0 by omega), if_neg (show ¬ w = 1 by omega), if_pos (show w ≤ 13 by omega), if_pos (show w - 10 < yr_m s by omega)]
    exact (h3 _ (by omega)).1
  · rw [if_neg (show ¬ w = 0 by omega), if_neg (show ¬ w = 1 by omega), if_pos (show w ≤ 13 by omega), if_neg (show ¬ w - 10 < yr_m s by omega)]
  · rw [if_neg (show ¬ w = 0 by omega), if_neg (show ¬ w = 1 by omega), if_neg (show ¬ w ≤ 13 by omega), if_pos (show w ≤ 23 by omega), if_neg (show ¬ w - 20 < yr_m s by omega)]
  · rw [if_neg (show ¬ w = 0 by omega), if_neg (show ¬ w = 1 by omega), if_neg (show ¬ w ≤ 13 by omega), if_neg (show ¬ w ≤ 23 by omega), if_pos (show w ≤ 33 by omega), if_neg (show ¬ w - 30 < yr_m s by omega)]
/-- the fraction that is asked for: its two numbers as the reference holds them -/
noncomputable def yr_af (x y : Nat → Int) (s a b d e : Nat) (w up low : Int) : Prop := ((20 ≤ w ∧ w ≤ 23 ∧ w - 20 < yr_m s) ∧ yr_fr up low (yr_n x y s a b d e (w - 20).toNat).1 (yr_n x y s a b d e (w - 20).toNat).2) ∨ ((30 ≤ w ∧ w ≤ 33 ∧ w - 30 < yr_m s) ∧ yr_fr up low (yr_n x y s a b d e (w - 30).toNat).1 (yr_n x y s a b d e (w - 30).toNat).2) ∨ ((40 ≤ w ∧ w ≤ 41) ∧ yr_fr up low (yr_p x y s a b d e).1 (yr_p x y s a b d e).2.2) ∨ ((42 ≤ w ∧ w ≤ 43) ∧ yr_fr up low (yr_p x y s a b d e).2.1 (yr_p x y s a b d e).2.2)
theorem yr_af_1 {x y c : Nat → Int} {n s a b d e : Nat} {w up low : Int} (hF : yr_F x y c n s a b d e) (h : yr_af x y s a b d e w up low) (hw : (20 ≤ w ∧ w ≤ 23) ∨ w = 40 ∨ w = 42) : yr_pt up low 1 = yr_as x y s a b d e w := by
  unfold yr_as yr_tl
  rcases h with ⟨q1, q2⟩ | ⟨q1, q2⟩ | ⟨q1, q2⟩ | ⟨q1, q2⟩
  · rw [if_neg (show ¬ w = 0 by omega), if_neg (show ¬ w = 1 by omega), if_neg (show ¬ w ≤ 13 by omega), if_pos (show w ≤ 23 by omega), if_pos (show w - 20 < yr_m s by omega)]
    exact (yr_fr_t (yr_nz hF.1 _) q2).1
  · omega
  · rw [if_neg (show ¬ w = 0 by omega), if_neg (show ¬ w = 1 by omega), if_neg (show ¬ w ≤ 13 by omega), if_neg (show ¬ w ≤ 23 by omega), if_neg (show ¬ w ≤ 33 by omega), if_pos (show w = 40 by omega)]
    exact (yr_fr_t (yr_pz hF.1) q2).1
  · rw [if_neg (show ¬ w = 0 by omega), if_neg (show ¬ w = 1 by omega), if_neg (show ¬ w ≤ 13 by omega), if_neg (show ¬ w ≤ 23 by omega), if_neg (show ¬ w ≤ 33 by omega), if_neg (show ¬ w = 40 by omega), if_neg (show ¬ w = 41 by omega), if_pos (show w = 42 by omega)]
    exact (yr_fr_t (yr_pz hF.1) q2).1
theorem yr_af_0 {x y c : Nat → Int} {n s a b d e : Nat} {w up low : Int} (hF : yr_F x y c n s a b d e) (h : yr_af x y s a b d e w up low) (hw : (30 ≤ w ∧ w ≤ 33) ∨ w = 41 ∨ w = 43) : yr_pt up low 0 = yr_as x y s a b d e w := by
  unfold yr_as yr_tl
  rcases h with ⟨q1, q2⟩ | ⟨q1, q2⟩ | ⟨q1, q2⟩ | ⟨q1, q2⟩
  · omega
  · rw [if_neg (show ¬ w = 0 by omega), if_neg (show ¬ w = 1 by omega), if_neg (show ¬ w ≤ 13 by omega), if_neg (show ¬ w ≤ 23 by omega), if_pos (show w ≤ 33 by omega), if_pos (show w - 30 < yr_m s by omega)]
    exact (yr_fr_t (yr_nz hF.1 _) q2).2
  · rw [if_neg (show ¬ w = 0 by omega), if_neg (show ¬ w = 1 by omega), if_neg (show ¬ w ≤ 13 by omega), if_neg (show ¬ w ≤ 23 by omega), if_neg (show ¬ w ≤ 33 by omega), if_neg (show ¬ w = 40 by omega), if_pos (show w = 41 by omega)]
    exact (yr_fr_t (yr_pz hF.1) q2).2
  · rw [if_neg (show ¬ w = 0 by omega), if_neg (show ¬ w = 1 by omega), if_neg (show ¬ w ≤ 13 by omega), if_neg (show ¬ w ≤ 23 by omega), if_neg (show ¬ w ≤ 33 by omega), if_neg (show ¬ w = 40 by omega), if_neg (show ¬ w = 41 by omega), if_neg (show ¬ w = 42 by omega)]
    exact (yr_fr_t (yr_pz hF.1) q2).2

