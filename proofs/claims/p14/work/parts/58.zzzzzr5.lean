/-! what the class's search leaves -/
noncomputable def yr_4 (a b c d : Int) : Nat → Int := fun k => if k = 0 then a else if k = 1 then b else if k = 2 then c else d
noncomputable def yr_oS (x y f g : Nat → Int) (m k : Int) (W : Nat → Int) : Prop := ∃ i j : Nat, yr_qS x y f g m k i j ∧ ye_b2 (yr_qS x y f g m k) i j ∧ W 0 = f i ∧ W 1 = g j
noncomputable def yr_oB (x y f g : Nat → Int) (m k : Int) (W : Nat → Int) : Prop := ∃ i j l : Nat, yr_qB x y f g m k i j l ∧ ye_b3 (yr_qB x y f g m k) i j l ∧ W 0 = f i ∧ W 1 = g j ∧ W 2 = g l
noncomputable def yr_oD (x y f g : Nat → Int) (m k : Int) (W : Nat → Int) : Prop := ∃ i j l : Nat, yr_qD x y f g m k i j l ∧ ye_b3 (yr_qD x y f g m k) i j l ∧ W 0 = f i ∧ W 1 = f j ∧ W 2 = g l
noncomputable def yr_oW (x y f g : Nat → Int) (m k : Int) (W : Nat → Int) : Prop := ∃ i j l o : Nat, ((i : Int) < m ∧ j < l ∧ (l : Int) < k) ∧ ye_b3 (yr_qW x y f g m k) i j l ∧ yr_qO x y f g k i j l o ∧ ye_b1 (yr_qO x y f g k i j l) o ∧ W 0 = f i ∧ W 1 = g j ∧ W 2 = g l ∧ W 3 = g o
noncomputable def yr_oV (x y f g : Nat → Int) (m k : Int) (W : Nat → Int) : Prop := ∃ i j l o : Nat, (i < j ∧ j < l ∧ (l : Int) < m) ∧ ye_b3 (yr_qV x y f g m k) i j l ∧ yr_qI x y g k (f i).toNat (f j).toNat (f l).toNat o ∧ ye_b1 (yr_qI x y g k (f i).toNat (f j).toNat (f l).toNat) o ∧ W 0 = f i ∧ W 1 = f j ∧ W 2 = f l ∧ W 3 = g o
noncomputable def yr_oX (x y f g : Nat → Int) (m k : Int) (W : Nat → Int) : Prop := ∃ i j l o : Nat, (i < j ∧ (j : Int) < m ∧ (l : Int) < k) ∧ ye_b3 (yr_qX x y f g m k) i j l ∧ yr_qC x y g k (f i).toNat (f j).toNat l o ∧ ye_b1 (yr_qC x y g k (f i).toNat (f j).toNat l) o ∧ W 0 = f i ∧ W 1 = f j ∧ W 2 = g l ∧ W 3 = g o
noncomputable def yr_pa (x y : Nat → Int) (a : Nat) (X1 X2 Y1 Y2 : Int) : Prop := X1 = x a ∧ X2 = 1 ∧ Y1 = y a ∧ Y2 = 1
noncomputable def yr_sb (x y : Nat → Int) (i j k : Nat) (t u t' u' : Int) : Prop := t = yr_t (yh_dot x y k j i) (yh_dot x y j k k) ∧ u = yr_u (yh_dot x y k j i) (yh_dot x y j k k) ∧ t' = yr_t (yh_dot x y j k i) (yh_dot x y j k k) ∧ u' = yr_u (yh_dot x y j k i) (yh_dot x y j k k)
noncomputable def yr_sw (x y : Nat → Int) (i j k l : Nat) (t u t' u' t'' u'' : Int) : Prop := t = yr_t (yq_ar x y i k l) (yq_ar x y j k l) ∧ u = yr_u (yq_ar x y i k l) (yq_ar x y j k l) ∧ t' = yr_t (yq_ar x y j i l) (yq_ar x y j k l) ∧ u' = yr_u (yq_ar x y j i l) (yq_ar x y j k l) ∧ t'' = yr_t (yq_ar x y j k i) (yq_ar x y j k l) ∧ u'' = yr_u (yq_ar x y j k i) (yq_ar x y j k l)
noncomputable def yr_se (x y : Nat → Int) (o o' i j : Nat) (t u t' u' : Int) : Prop := t = yr_t (yq_abs (yq_ar x y o o' j)) (yq_abs (yq_ar x y o o' i) + yq_abs (yq_ar x y o o' j)) ∧ u = yr_u (yq_abs (yq_ar x y o o' j)) (yq_abs (yq_ar x y o o' i) + yq_abs (yq_ar x y o o' j)) ∧ t' = yr_t (yq_abs (yq_ar x y o o' i)) (yq_abs (yq_ar x y o o' i) + yq_abs (yq_ar x y o o' j)) ∧ u' = yr_u (yq_abs (yq_ar x y o o' i)) (yq_abs (yq_ar x y o o' i) + yq_abs (yq_ar x y o o' j))
noncomputable def yr_xp (x y : Nat → Int) (a b d e : Nat) (X1 X2 Y1 Y2 : Int) : Prop := X1 = yr_t (x a * yq_abs (yq_ar x y d e b) + x b * yq_abs (yq_ar x y d e a)) (yq_abs (yq_ar x y d e a) + yq_abs (yq_ar x y d e b)) ∧ X2 = yr_u (x a * yq_abs (yq_ar x y d e b) + x b * yq_abs (yq_ar x y d e a)) (yq_abs (yq_ar x y d e a) + yq_abs (yq_ar x y d e b)) ∧ Y1 = yr_t (y a * yq_abs (yq_ar x y d e b) + y b * yq_abs (yq_ar x y d e a)) (yq_abs (yq_ar x y d e a) + yq_abs (yq_ar x y d e b)) ∧ Y2 = yr_u (y a * yq_abs (yq_ar x y d e b) + y b * yq_abs (yq_ar x y d e a)) (yq_abs (yq_ar x y d e a) + yq_abs (yq_ar x y d e b))
theorem yr_pa_p {x y : Nat → Int} {a : Nat} {X1 X2 Y1 Y2 : Int} (h : yr_pa x y a X1 X2 Y1 Y2) : X1 = yr_t (x a) 1 ∧ X2 = yr_u (x a) 1 ∧ Y1 = yr_t (y a) 1 ∧ Y2 = yr_u (y a) 1 := by
  obtain ⟨p1, p2, p3, p4⟩ := h
  exact ⟨p1.trans (yr_1 _).1.symm, p2.trans (yr_1 _).2.symm, p3.trans (yr_1 _).1.symm, p4.trans (yr_1 _).2.symm⟩
theorem yr_one {t u : Int} (h : t = 1 ∧ u = 1) : t = yr_t 1 1 ∧ u = yr_u 1 1 := ⟨h.1.trans (yr_1 1).1.symm, h.2.trans (yr_1 1).2.symm⟩
theorem yr_ti {z : Int} (h : 0 ≤ z) : z = ((z.toNat : Nat) : Int) := by omega
section YRD
variable {x y c f g W : Nat → Int} {n : Nat} {m k t0 u0 t1 u1 t2 u2 t3 u3 X1 X2 Y1 Y2 : Int}
theorem yr_D1 (hf : yr_en c n 1 f m) (hg : yr_en c n 0 g k) (h : yr_oS x y f g m k W) (s0 : t0 = 1 ∧ u0 = 1) (s1 : t1 = 1 ∧ u1 = 1) (pl : yr_pa x y (W 1).toNat X1 X2 Y1 Y2) : yr_DC x y c n 1 2 W (yr_4 t0 t1 t2 t3) (yr_4 u0 u1 u2 u3) X1 X2 Y1 Y2 := by
  obtain ⟨i, j, h1, h2, h3, h4⟩ := h
  have F := yr_cS1 hf hg h1 h2
  have a1 := yr_ti (hf.1 i h1.1).1
  have a2 := yr_ti (hg.1 j h1.2.1).1
  have e := F.1.2.2
  rw [h4] at pl
  have pl2 : yr_pa x y (f i).toNat X1 X2 Y1 Y2 := ⟨pl.1.trans e.1.symm, pl.2.1, pl.2.2.1.trans e.2.symm, pl.2.2.2⟩
  refine ⟨1, (f i).toNat, (g j).toNat, 0, 0, yr_F1 F.1 F.2, rfl, rfl, fun q hq => ?_, yr_pa_p pl2⟩
  have hq : (q : Int) < 2 := hq
  rcases (show q = 0 ∨ q = 1 by omega) with z | z
  · subst z
    exact ⟨h3.trans a1, yr_one s0⟩
  · subst z
    exact ⟨h4.trans a2, yr_one s1⟩
theorem yr_D2 (hf : yr_en c n 1 f m) (hg : yr_en c n 0 g k) (nS : ∀ i j, ¬ yr_qS x y f g m k i j) (h : yr_oB x y f g m k W) (s0 : t0 = 1 ∧ u0 = 1) (pl : yr_pa x y (W 0).toNat X1 X2 Y1 Y2) (sb : yr_sb x y (W 0).toNat (W 1).toNat (W 2).toNat t1 u1 t2 u2) : yr_DC x y c n 2 3 W (yr_4 t0 t1 t2 t3) (yr_4 u0 u1 u2 u3) X1 X2 Y1 Y2 := by
  obtain ⟨i, j, l, h1, h2, h3, h4, h5⟩ := h
  have F := yr_cB1 hf hg h1 h2
  have a1 := yr_ti (hf.1 i h1.1).1
  have a2 := yr_ti (hg.1 j (by have := h1.2.1; have := h1.2.2.1; omega)).1
  have a3 := yr_ti (hg.1 l h1.2.2.1).1
  rw [h3] at pl
  rw [h3, h4, h5] at sb
  refine ⟨2, (f i).toNat, (g j).toNat, (g l).toNat, 0, yr_F2 (yr_cS0 hf hg nS) F.1 F.2, rfl, rfl, fun q hq => ?_, yr_pa_p pl⟩
  have hq : (q : Int) < 3 := hq
  rcases (show q = 0 ∨ q = 1 ∨ q = 2 by omega) with z | z | z
  · subst z
    exact ⟨h3.trans a1, yr_one s0⟩
  · subst z
    exact ⟨h4.trans a2, sb.1, sb.2.1⟩
  · subst z
    exact ⟨h5.trans a3, sb.2.2.1, sb.2.2.2⟩
theorem yr_D3 (hf : yr_en c n 1 f m) (hg : yr_en c n 0 g k) (nS : ∀ i j, ¬ yr_qS x y f g m k i j) (nB : ∀ i j l, ¬ yr_qB x y f g m k i j l) (h : yr_oD x y f g m k W) (s2 : t2 = 1 ∧ u2 = 1) (pl : yr_pa x y (W 2).toNat X1 X2 Y1 Y2) (sb : yr_sb x y (W 2).toNat (W 0).toNat (W 1).toNat t0 u0 t1 u1) : yr_DC x y c n 2 3 W (yr_4 t0 t1 t2 t3) (yr_4 u0 u1 u2 u3) X1 X2 Y1 Y2 := by
  obtain ⟨i, j, l, h1, h2, h3, h4, h5⟩ := h
  have F := yr_cD1 hf hg h1 h2
  have a1 := yr_ti (hf.1 i (by have := h1.1; have := h1.2.1; omega)).1
  have a2 := yr_ti (hf.1 j h1.2.1).1
  have a3 := yr_ti (hg.1 l h1.2.2.1).1
  rw [h5] at pl
  rw [h3, h4, h5] at sb
  refine ⟨3, (f i).toNat, (f j).toNat, (g l).toNat, 0, yr_F3 (yr_cS0 hf hg nS) (yr_cB0 hf hg nB) F.1 F.2, rfl, rfl, fun q hq => ?_, yr_pa_p pl⟩
  have hq : (q : Int) < 3 := hq
  rcases (show q = 0 ∨ q = 1 ∨ q = 2 by omega) with z | z | z
  · subst z
    exact ⟨h3.trans a1, sb.1, sb.2.1⟩
  · subst z
    exact ⟨h4.trans a2, sb.2.2.1, sb.2.2.2⟩
  · subst z
    exact ⟨h5.trans a3, yr_one s2⟩
theorem yr_D4 (hf : yr_en c n 1 f m) (hg : yr_en c n 0 g k) (nS : ∀ i j, ¬ yr_qS x y f g m k i j) (nB : ∀ i j l, ¬ yr_qB x y f g m k i j l) (nD : ∀ i j l, ¬ yr_qD x y f g m k i j l) (h : yr_oW x y f g m k W) (s0 : t0 = 1 ∧ u0 = 1) (pl : yr_pa x y (W 0).toNat X1 X2 Y1 Y2) (sw : yr_sw x y (W 0).toNat (W 1).toNat (W 2).toNat (W 3).toNat t1 u1 t2 u2 t3 u3) : yr_DC x y c n 3 4 W (yr_4 t0 t1 t2 t3) (yr_4 u0 u1 u2 u3) X1 X2 Y1 Y2 := by
  obtain ⟨i, j, l, o, ⟨b1, b2, b3⟩, h1, h2, h8, h3, h4, h5, h6⟩ := h
  have F := yr_cW1 hf hg b1 b2 b3 h1 h2 h8
  have a1 := yr_ti (hf.1 i b1).1
  have a2 := yr_ti (hg.1 j (by omega)).1
  have a3 := yr_ti (hg.1 l b3).1
  have a4 := yr_ti (hg.1 o h2.2.1).1
  rw [h3] at pl
  rw [h3, h4, h5, h6] at sw
  obtain ⟨w1, w2, w3, w4, w5, w6⟩ := sw
  refine ⟨4, (f i).toNat, (g j).toNat, (g l).toNat, (g o).toNat, yr_F4 (yr_cS0 hf hg nS) (yr_cB0 hf hg nB) (yr_cD0 hf hg nD) F.1 F.2, rfl, rfl, fun q hq => ?_, yr_pa_p pl⟩
  have hq : (q : Int) < 4 := hq
  rcases (show q = 0 ∨ q = 1 ∨ q = 2 ∨ q = 3 by omega) with z | z | z | z
  · subst z
    exact ⟨h3.trans a1, yr_one s0⟩
  · subst z
    exact ⟨h4.trans a2, w1, w2⟩
  · subst z
    exact ⟨h5.trans a3, w3, w4⟩
  · subst z
    exact ⟨h6.trans a4, w5, w6⟩
theorem yr_D5 (hf : yr_en c n 1 f m) (hg : yr_en c n 0 g k) (nS : ∀ i j, ¬ yr_qS x y f g m k i j) (nB : ∀ i j l, ¬ yr_qB x y f g m k i j l) (nD : ∀ i j l, ¬ yr_qD x y f g m k i j l) (nW : ∀ i j l, ¬ yr_qW x y f g m k i j l) (h : yr_oV x y f g m k W) (s3 : t3 = 1 ∧ u3 = 1) (pl : yr_pa x y (W 3).toNat X1 X2 Y1 Y2) (sw : yr_sw x y (W 3).toNat (W 0).toNat (W 1).toNat (W 2).toNat t0 u0 t1 u1 t2 u2) : yr_DC x y c n 3 4 W (yr_4 t0 t1 t2 t3) (yr_4 u0 u1 u2 u3) X1 X2 Y1 Y2 := by
  obtain ⟨i, j, l, o, ⟨b1, b2, b3⟩, h1, h2, h8, h3, h4, h5, h6⟩ := h
  have F := yr_cV1 hf hg b1 b2 b3 h1 h2 h8
  have a1 := yr_ti (hf.1 i (by omega)).1
  have a2 := yr_ti (hf.1 j (by omega)).1
  have a3 := yr_ti (hf.1 l b3).1
  have a4 := yr_ti (hg.1 o h2.1).1
  rw [h6] at pl
  rw [h3, h4, h5, h6] at sw
  obtain ⟨w1, w2, w3, w4, w5, w6⟩ := sw
  refine ⟨5, (f i).toNat, (f j).toNat, (f l).toNat, (g o).toNat, yr_F5 (yr_cS0 hf hg nS) (yr_cB0 hf hg nB) (yr_cD0 hf hg nD) (yr_cW0 hf hg nW) F.1 F.2, rfl, rfl, fun q hq => ?_, yr_pa_p pl⟩
  have hq : (q : Int) < 4 := hq
  rcases (show q = 0 ∨ q = 1 ∨ q = 2 ∨ q = 3 by omega) with z | z | z | z
  · subst z
    exact ⟨h3.trans a1, w1, w2⟩
  · subst z
    exact ⟨h4.trans a2, w3, w4⟩
  · subst z
    exact ⟨h5.trans a3, w5, w6⟩
  · subst z
    exact ⟨h6.trans a4, yr_one s3⟩
theorem yr_D6 (hf : yr_en c n 1 f m) (hg : yr_en c n 0 g k) (nS : ∀ i j, ¬ yr_qS x y f g m k i j) (nB : ∀ i j l, ¬ yr_qB x y f g m k i j l) (nD : ∀ i j l, ¬ yr_qD x y f g m k i j l) (nW : ∀ i j l, ¬ yr_qW x y f g m k i j l) (nV : ∀ i j l, ¬ yr_qV x y f g m k i j l) (h : yr_oX x y f g m k W) (s1 : yr_se x y (W 2).toNat (W 3).toNat (W 0).toNat (W 1).toNat t0 u0 t1 u1) (s2 : yr_se x y (W 0).toNat (W 1).toNat (W 2).toNat (W 3).toNat t2 u2 t3 u3) (pl : yr_xp x y (W 0).toNat (W 1).toNat (W 2).toNat (W 3).toNat X1 X2 Y1 Y2) : yr_DC x y c n 4 4 W (yr_4 t0 t1 t2 t3) (yr_4 u0 u1 u2 u3) X1 X2 Y1 Y2 := by
  obtain ⟨i, j, l, o, ⟨b1, b2, b3⟩, h1, h2, h8, h3, h4, h5, h6⟩ := h
  have F := yr_cX1 hf hg b1 b2 b3 h1 h2 h8
  have a1 := yr_ti (hf.1 i (by omega)).1
  have a2 := yr_ti (hf.1 j b2).1
  have a3 := yr_ti (hg.1 l b3).1
  have a4 := yr_ti (hg.1 o h2.2.1).1
  rw [h3, h4, h5, h6] at pl s1 s2
  refine ⟨6, (f i).toNat, (f j).toNat, (g l).toNat, (g o).toNat, yr_F6 (yr_cS0 hf hg nS) (yr_cB0 hf hg nB) (yr_cD0 hf hg nD) (yr_cW0 hf hg nW) (yr_cV0 hf hg nV) F.1 F.2, rfl, rfl, fun q hq => ?_, pl⟩
  have hq : (q : Int) < 4 := hq
  rcases (show q = 0 ∨ q = 1 ∨ q = 2 ∨ q = 3 by omega) with z | z | z | z
  · subst z
    exact ⟨h3.trans a1, s1.1, s1.2.1⟩
  · subst z
    exact ⟨h4.trans a2, s1.2.2.1, s1.2.2.2⟩
  · subst z
    exact ⟨h5.trans a3, s2.1, s2.2.1⟩
  · subst z
    exact ⟨h6.trans a4, s2.2.2.1, s2.2.2.2⟩
theorem yr_D0 (hf : yr_en c n 1 f m) (hg : yr_en c n 0 g k) (nS : ∀ i j, ¬ yr_qS x y f g m k i j) (nB : ∀ i j l, ¬ yr_qB x y f g m k i j l) (nD : ∀ i j l, ¬ yr_qD x y f g m k i j l) (nW : ∀ i j l, ¬ yr_qW x y f g m k i j l) (nV : ∀ i j l, ¬ yr_qV x y f g m k i j l) (nX : ∀ i j l, ¬ yr_qX x y f g m k i j l) : ye_nm x y (ye_Y c n) (ye_N c n) := ye_me (yr_cS0 hf hg nS) (yr_cB0 hf hg nB) (yr_cD0 hf hg nD) (yr_cW0 hf hg nW) (yr_cV0 hf hg nV) (yr_cX0 hf hg nX)
end YRD
