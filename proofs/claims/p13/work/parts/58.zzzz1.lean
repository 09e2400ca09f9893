/-! the widest way: one point before an edge of the other colour -/
noncomputable def ye_h (x y : Nat → Int) (v a b e : Nat) : Int := (x e - x v) * (y b - y a) - (y e - y v) * (x b - x a)
noncomputable def ye_s (x y : Nat → Int) (v a b e : Nat) : Int := (x e - x v) * (x b - x a) + (y e - y v) * (y b - y a)
theorem ye_iW (x y : Nat → Int) (v a b : Nat) : yh_far x y a b = yh_dot x y a v b + yh_dot x y b v a := by
  unfold yh_far yh_dot
  grind
theorem ye_iz (x y : Nat → Int) (v a b e : Nat) : yq_ar x y v a e * yh_far x y a b = yq_ar x y v a b * ye_s x y v a b e + yh_dot x y a v b * ye_h x y v a b e := by
  unfold yh_far yh_dot yq_ar ye_s ye_h
  grind
theorem ye_iy (x y : Nat → Int) (v a b e : Nat) : yq_ar x y v b e * yh_far x y a b = yq_ar x y v a b * ye_s x y v a b e - yh_dot x y b v a * ye_h x y v a b e := by
  unfold yh_far yh_dot yq_ar ye_s ye_h
  grind
theorem ye_ia (x y : Nat → Int) (v a b : Nat) : yh_far x y v a * yh_far x y a b = yh_dot x y a v b * yh_dot x y a v b + yq_ar x y v a b * yq_ar x y v a b := by
  unfold yh_far yh_dot yq_ar
  grind
theorem ye_ib (x y : Nat → Int) (v a b : Nat) : yh_far x y v b * yh_far x y a b = yh_dot x y b v a * yh_dot x y b v a + yq_ar x y v a b * yq_ar x y v a b := by
  unfold yh_far yh_dot yq_ar
  grind
theorem ye_ie (x y : Nat → Int) (v a b e : Nat) : yh_far x y v e * yh_far x y a b = ye_s x y v a b e * ye_s x y v a b e + ye_h x y v a b e * ye_h x y v a b e := by
  unfold yh_far ye_s ye_h
  grind
theorem ye_iae (x y : Nat → Int) (v a b e : Nat) : yh_dot x y v a e * yh_far x y a b = yq_ar x y v a b * ye_h x y v a b e - yh_dot x y a v b * ye_s x y v a b e := by
  unfold yh_far yh_dot yq_ar ye_s ye_h
  grind
theorem ye_ibe (x y : Nat → Int) (v a b e : Nat) : yh_dot x y v b e * yh_far x y a b = yh_dot x y b v a * ye_s x y v a b e + yq_ar x y v a b * ye_h x y v a b e := by
  unfold yh_far yh_dot yq_ar ye_s ye_h
  grind
theorem ye_if (x y : Nat → Int) (v a e : Nat) : yh_far x y a e = yh_far x y v e - 2 * yh_dot x y v a e + yh_far x y v a := by
  unfold yh_far yh_dot
  grind
theorem ye_id1 (x y : Nat → Int) (v a e : Nat) : yh_dot x y a v e = yh_far x y v a - yh_dot x y v a e := by
  unfold yh_far yh_dot
  grind
theorem ye_id2 (x y : Nat → Int) (v a e : Nat) : yh_dot x y e v a = yh_far x y v e - yh_dot x y v a e := by
  unfold yh_far yh_dot
  grind
theorem ye_ic (x y : Nat → Int) (a b c : Nat) : yq_ar x y b c a = yq_ar x y a b c := by
  unfold yq_ar
  grind
theorem ye_in (x y : Nat → Int) (a b c : Nat) : yq_ar x y a c b = -yq_ar x y a b c := by
  unfold yq_ar
  grind
theorem ye_ix (x y : Nat → Int) (a b c : Nat) : yq_ar x y b a c = -yq_ar x y a b c := by
  unfold yq_ar
  grind
theorem ye_ids (x y : Nat → Int) (v a b : Nat) : yh_dot x y v b a = yh_dot x y v a b := by
  unfold yh_dot
  grind
theorem ye_ifs (x y : Nat → Int) (a b : Nat) : yh_far x y b a = yh_far x y a b := by
  unfold yh_far
  grind
theorem ye_ih (x y : Nat → Int) (v a b e : Nat) : yq_ar x y e a b = yq_ar x y v a b - ye_h x y v a b e := by
  unfold yq_ar ye_h
  grind
theorem ye_is1 (x y : Nat → Int) (v a b e : Nat) : yh_dot x y a e b = ye_s x y v a b e + yh_dot x y a v b := by
  unfold yh_dot ye_s
  grind
theorem ye_is2 (x y : Nat → Int) (v a b e : Nat) : yh_dot x y b e a = yh_dot x y b v a - ye_s x y v a b e := by
  unfold yh_dot ye_s
  grind
theorem ye_idd (x y : Nat → Int) (v a b e : Nat) : yh_dot x y e a b * yh_far x y a b = (yq_ar x y v a b - ye_h x y v a b e) * (yq_ar x y v a b - ye_h x y v a b e) - (ye_s x y v a b e + yh_dot x y a v b) * (yh_dot x y b v a - ye_s x y v a b e) := by
  unfold yh_dot ye_s ye_h yq_ar yh_far
  grind
theorem ye_far0 {x y : Nat → Int} {a b : Nat} (h : yh_far x y a b = 0) : x b = x a ∧ y b = y a := by
  unfold yh_far at h
  have k1 := ye_sq (x b - x a)
  have k2 := ye_sq (y b - y a)
  constructor
  · by_cases q : x b - x a = 0
    · omega
    · have := ye_sqp q
      omega
  · by_cases q : y b - y a = 0
    · omega
    · have := ye_sqp q
      omega
theorem ye_farp {x y : Nat → Int} {a b : Nat} : 0 ≤ yh_far x y a b := by
  unfold yh_far
  have k1 := ye_sq (x b - x a)
  have k2 := ye_sq (y b - y a)
  omega
/-- p lies strictly between a and b -/
noncomputable def ye_bt (x y : Nat → Int) (p a b : Nat) : Prop := yq_ar x y a b p = 0 ∧ yh_dot x y p a b < 0
noncomputable def ye_wi (x y : Nat → Int) (p a b c : Nat) : Prop := (0 < yq_ar x y a b p ∧ 0 < yq_ar x y b c p ∧ 0 < yq_ar x y c a p) ∨ (yq_ar x y a b p < 0 ∧ yq_ar x y b c p < 0 ∧ yq_ar x y c a p < 0)
noncomputable def ye_xg (x y : Nat → Int) (a b c d : Nat) : Prop := ((0 < yq_ar x y a b c ∧ yq_ar x y a b d < 0) ∨ (yq_ar x y a b c < 0 ∧ 0 < yq_ar x y a b d)) ∧ ((0 < yq_ar x y c d a ∧ yq_ar x y c d b < 0) ∨ (yq_ar x y c d a < 0 ∧ 0 < yq_ar x y c d b))
noncomputable def ye_at (x y : Nat → Int) (a b : Nat) : Prop := x a = x b ∧ y a = y b
/-- a place of the edge's colour does not lie before it -/
theorem ye_v2i {x y : Nat → Int} {v a b e : Nat} (hc : 0 < yq_ar x y v a b) (hp : 0 < yh_dot x y a v b) (hq : 0 < yh_dot x y b v a)
    (m1 : yq_ar x y v a b * yq_ar x y v a b ≤ yh_far x y v e * yh_far x y a b)
    (m2 : 0 < yh_dot x y a v e → 0 < yh_dot x y e v a → yq_ar x y v a b * yq_ar x y v a b * yh_far x y a e ≤ yq_ar x y v a e * yq_ar x y v a e * yh_far x y a b)
    (m3 : 0 < yh_dot x y b v e → 0 < yh_dot x y e v b → yq_ar x y v a b * yq_ar x y v a b * yh_far x y b e ≤ yq_ar x y v b e * yq_ar x y v b e * yh_far x y a b)
    (n1 : ¬ ye_at x y v e) (n2 : ¬ ye_bt x y v a e) (n3 : ¬ ye_bt x y v b e) (n4 : ¬ ye_wi x y v a b e) : yq_ar x y v a b ≤ ye_h x y v a b e := by
  have iW := ye_iW x y v a b
  have iz := ye_iz x y v a b e
  have iy := ye_iy x y v a b e
  have ia := ye_ia x y v a b
  have ib := ye_ib x y v a b
  have ie := ye_ie x y v a b e
  have iae := ye_iae x y v a b e
  have ibe := ye_ibe x y v a b e
  have f1 := ye_if x y v a e
  have f2 := ye_if x y v b e
  have d1 := ye_id1 x y v a e
  have d2 := ye_id2 x y v a e
  have d3 := ye_id1 x y v b e
  have d4 := ye_id2 x y v b e
  have hW : 0 < yh_far x y a b := by omega
  have r1 : yq_ar x y a e v = yq_ar x y v a e := by rw [ye_ic x y v a e]
  have r2 : yq_ar x y b e v = yq_ar x y v b e := by rw [ye_ic x y v b e]
  have r3 : yq_ar x y a b v = yq_ar x y v a b := by rw [ye_ic x y v a b]
  have r4 : yq_ar x y e a v = -yq_ar x y v a e := by rw [ye_ic x y v e a, ye_in]
  have zero : ¬ (ye_s x y v a b e = 0 ∧ ye_h x y v a b e = 0) := fun ⟨h1, h2⟩ => by
    rw [h1, h2] at ie
    have h3 := ye_far0 (x := x) (y := y) (a := v) (b := e) (ye_mz hW (by omega))
    exact n1 ⟨h3.1.symm, h3.2.symm⟩
  by_cases hH : yq_ar x y v a b ≤ ye_h x y v a b e
  · exact hH
  · exfalso
    by_cases hS : 0 ≤ ye_s x y v a b e
    · rcases Int.lt_trichotomy (yq_ar x y v a e) 0 with hz | hz | hz
      · have k1 : yq_ar x y v a e * yh_far x y a b < 0 := by
          have := ye_ml hz hW
          rw [Int.zero_mul] at this
          exact this
        have k2 := ye_t3 (zo := yq_ar x y v b e) hp hq hc hW hS (by omega) iy
        exact n4 (Or.inl ⟨by omega, by omega, by omega⟩)
      · have k1 : yq_ar x y v a e * yh_far x y a b = 0 := by rw [hz, Int.zero_mul]
        rcases ye_t2 hp hc hW hS (by omega) iae with k | k
        · exact zero k
        · exact n2 ⟨by omega, k⟩
      · rcases ye_t1 hp hc hW hS (by omega) iz hz ia ie iae with ⟨k1, k2, k3⟩ | k
        · have := m2 (by omega) (by omega)
          rw [f1] at this
          omega
        · omega
    · have iy' : -yq_ar x y v b e * yh_far x y a b = yq_ar x y v a b * -ye_s x y v a b e + yh_dot x y b v a * ye_h x y v a b e := by
        rw [Int.neg_mul, iy, Int.mul_neg]
        omega
      have iz' : -yq_ar x y v a e * yh_far x y a b = yq_ar x y v a b * -ye_s x y v a b e - yh_dot x y a v b * ye_h x y v a b e := by
        rw [Int.neg_mul, iz, Int.mul_neg]
        omega
      have ie' : yh_far x y v e * yh_far x y a b = -ye_s x y v a b e * -ye_s x y v a b e + ye_h x y v a b e * ye_h x y v a b e := by
        rw [Int.neg_mul_neg]
        exact ie
      have ibe' : yh_dot x y v b e * yh_far x y a b = yq_ar x y v a b * ye_h x y v a b e - yh_dot x y b v a * -ye_s x y v a b e := by
        rw [Int.mul_neg]
        omega
      rcases Int.lt_trichotomy (-yq_ar x y v b e) 0 with hz | hz | hz
      · have k1 : -yq_ar x y v b e * yh_far x y a b < 0 := by
          have := ye_ml hz hW
          rw [Int.zero_mul] at this
          exact this
        have k2 := ye_t3 (zo := -yq_ar x y v a e) hq hp hc hW (S := -ye_s x y v a b e) (by omega) (by omega) iz'
        exact n4 (Or.inl ⟨by omega, by omega, by omega⟩)
      · have k1 : -yq_ar x y v b e * yh_far x y a b = 0 := by rw [hz, Int.zero_mul]
        rcases ye_t2 hq hc hW (S := -ye_s x y v a b e) (by omega) (by omega) ibe' with k | k
        · exact zero ⟨by omega, k.2⟩
        · exact n3 ⟨by omega, k⟩
      · rcases ye_t1 hq hc hW (S := -ye_s x y v a b e) (by omega) (by omega) iy' hz ib ie' ibe' with ⟨k1, k2, k3⟩ | k
        · have h5 := m3 (by omega) (by omega)
          rw [f2] at h5
          rw [Int.neg_mul_neg] at k3
          omega
        · omega
/-- a place of the point's colour does not lie nearer to the edge -/
theorem ye_v2j {x y : Nat → Int} {v a b e : Nat} (hc : 0 < yq_ar x y v a b) (hp : 0 < yh_dot x y a v b) (hq : 0 < yh_dot x y b v a)
    (m1 : 0 < yh_dot x y a e b → 0 < yh_dot x y b e a → yq_ar x y v a b * yq_ar x y v a b * yh_far x y a b ≤ yq_ar x y e a b * yq_ar x y e a b * yh_far x y a b)
    (m2 : 0 < yh_dot x y v b e → 0 < yh_dot x y e b v → yq_ar x y v a b * yq_ar x y v a b * yh_far x y v e ≤ yq_ar x y b v e * yq_ar x y b v e * yh_far x y a b)
    (m3 : yq_ar x y v a b * yq_ar x y v a b ≤ yh_far x y b e * yh_far x y a b)
    (m4 : 0 < yh_dot x y v a e → 0 < yh_dot x y e a v → yq_ar x y v a b * yq_ar x y v a b * yh_far x y v e ≤ yq_ar x y a v e * yq_ar x y a v e * yh_far x y a b)
    (m5 : yq_ar x y v a b * yq_ar x y v a b ≤ yh_far x y a e * yh_far x y a b)
    (n1 : ¬ ye_at x y a e) (n2 : ¬ ye_at x y b e) (n3 : ¬ ye_bt x y e a b) (n4 : ¬ ye_bt x y a v e) (n5 : ¬ ye_bt x y b v e) (n6 : ¬ ye_xg x y a b v e) : ye_h x y v a b e ≤ 0 := by
  have iW := ye_iW x y v a b
  have iz := ye_iz x y v a b e
  have iy := ye_iy x y v a b e
  have ia := ye_ia x y v a b
  have ib := ye_ib x y v a b
  have ie := ye_ie x y v a b e
  have iae := ye_iae x y v a b e
  have ibe := ye_ibe x y v a b e
  have f1 := ye_if x y v a e
  have f2 := ye_if x y v b e
  have hW : 0 < yh_far x y a b := by omega
  have ih := ye_ih x y v a b e
  have s1 := ye_is1 x y v a b e
  have s2 := ye_is2 x y v a b e
  have q1 : yh_dot x y e b v = yh_far x y v e - yh_dot x y v b e := by rw [ye_ids, ye_id2]
  have q2 : yh_dot x y e a v = yh_far x y v e - yh_dot x y v a e := by rw [ye_ids, ye_id2]
  have r1 : yq_ar x y b v e = -yq_ar x y v b e := ye_ix x y v b e
  have r2 : yq_ar x y a v e = -yq_ar x y v a e := ye_ix x y v a e
  by_cases hH : ye_h x y v a b e ≤ 0
  · exact hH
  · exfalso
    by_cases c1 : ye_h x y v a b e < yq_ar x y v a b ∧ 0 < ye_s x y v a b e + yh_dot x y a v b ∧ ye_s x y v a b e < yh_dot x y b v a
    · have h := ye_mlei hW (m1 (by omega) (by omega))
      rw [ih] at h
      have := ye_sql (a := yq_ar x y v a b - ye_h x y v a b e) (b := yq_ar x y v a b) (by omega) (by omega)
      omega
    · by_cases c2 : yh_dot x y b v a ≤ ye_s x y v a b e ∧ 0 < yq_ar x y v b e
      · rcases ye_t4 hq hc hW c2.1 (by omega) iy c2.2 ib ie ibe with ⟨k1, k2, k3⟩ | k
        · have h := m2 k1 (by omega)
          rw [r1, Int.neg_mul_neg] at h
          omega
        · rw [f2] at m3
          omega
      · by_cases c3 : yh_dot x y a v b ≤ -ye_s x y v a b e ∧ yq_ar x y v a e < 0
        · have iz' : -yq_ar x y v a e * yh_far x y a b = yq_ar x y v a b * -ye_s x y v a b e - yh_dot x y a v b * ye_h x y v a b e := by
            rw [Int.neg_mul, iz, Int.mul_neg]
            omega
          have ie' : yh_far x y v e * yh_far x y a b = -ye_s x y v a b e * -ye_s x y v a b e + ye_h x y v a b e * ye_h x y v a b e := by
            rw [Int.neg_mul_neg]
            exact ie
          have iae' : yh_dot x y v a e * yh_far x y a b = yh_dot x y a v b * -ye_s x y v a b e + yq_ar x y v a b * ye_h x y v a b e := by
            rw [Int.mul_neg]
            omega
          rcases ye_t4 hp hc hW c3.1 (by omega) iz' (by omega) ia ie' iae' with ⟨k1, k2, k3⟩ | k
          · have h := m4 k1 (by omega)
            rw [r2] at h
            omega
          · rw [f1] at m5
            omega
        · -- behind the edge, or on it
          have hz0 : 0 ≤ yq_ar x y v a e := by
            by_cases w : 0 ≤ yq_ar x y v a e
            · exact w
            · exfalso
              have k1 : yq_ar x y v a e * yh_far x y a b < 0 := by
                have := ye_ml (show yq_ar x y v a e < 0 by omega) hW
                rw [Int.zero_mul] at this
                exact this
              have k2 : 0 < yh_dot x y a v b * ye_h x y v a b e := Int.mul_pos hp (by omega)
              have k3 : yq_ar x y v a b * ye_s x y v a b e < 0 := by omega
              have k4 : ye_s x y v a b e < 0 := ye_mn hc (by rw [Int.mul_comm]; exact k3)
              by_cases w2 : ye_h x y v a b e < yq_ar x y v a b
              · omega
              · have k5 := ye_mle (show yq_ar x y v a b ≤ ye_h x y v a b e by omega) (show 0 ≤ yh_dot x y a v b by omega)
                have k6 : yq_ar x y v a b * yh_dot x y a v b < yq_ar x y v a b * -ye_s x y v a b e := by
                  rw [Int.mul_neg]
                  have := Int.mul_comm (ye_h x y v a b e) (yh_dot x y a v b)
                  omega
                have k7 : yh_dot x y a v b < -ye_s x y v a b e := ye_mli (c := yq_ar x y v a b) (by omega) (by rw [Int.mul_comm, Int.mul_comm (-ye_s x y v a b e)]; exact k6)
                omega
          have hy0 : yq_ar x y v b e ≤ 0 := by
            by_cases w : yq_ar x y v b e ≤ 0
            · exact w
            · exfalso
              have k1 : 0 < yq_ar x y v b e * yh_far x y a b := Int.mul_pos (by omega) hW
              have k2 : 0 < yh_dot x y b v a * ye_h x y v a b e := Int.mul_pos hq (by omega)
              have k3 : 0 < yq_ar x y v a b * ye_s x y v a b e := by omega
              have k4 : 0 < ye_s x y v a b e := ye_mp hc (by rw [Int.mul_comm]; exact k3)
              by_cases w2 : ye_h x y v a b e < yq_ar x y v a b
              · omega
              · have k5 := ye_mle (show yq_ar x y v a b ≤ ye_h x y v a b e by omega) (show 0 ≤ yh_dot x y b v a by omega)
                have k6 : yq_ar x y v a b * yh_dot x y b v a < yq_ar x y v a b * ye_s x y v a b e := by
                  have := Int.mul_comm (ye_h x y v a b e) (yh_dot x y b v a)
                  omega
                have k7 : yh_dot x y b v a < ye_s x y v a b e := ye_mli (c := yq_ar x y v a b) (by omega) (by rw [Int.mul_comm, Int.mul_comm (ye_s x y v a b e)]; exact k6)
                omega
          have hHc : yq_ar x y v a b ≤ ye_h x y v a b e := by
            by_cases w : yq_ar x y v a b ≤ ye_h x y v a b e
            · exact w
            · exfalso
              by_cases w1 : 0 < ye_s x y v a b e + yh_dot x y a v b
              · have w2 : yh_dot x y b v a ≤ ye_s x y v a b e := by omega
                have k1 := ye_ml (show ye_h x y v a b e < yq_ar x y v a b by omega) hq
                have k2 := ye_mle w2 (show 0 ≤ yq_ar x y v a b by omega)
                have k3 : yq_ar x y v b e * yh_far x y a b ≤ 0 := by
                  have := ye_mle hy0 (show 0 ≤ yh_far x y a b by omega)
                  rw [Int.zero_mul] at this
                  exact this
                have e1 := Int.mul_comm (ye_h x y v a b e) (yh_dot x y b v a)
                have e2 := Int.mul_comm (yq_ar x y v a b) (yh_dot x y b v a)
                have e3 := Int.mul_comm (yq_ar x y v a b) (ye_s x y v a b e)
                omega
              · have k1 := ye_ml (show ye_h x y v a b e < yq_ar x y v a b by omega) hp
                have k2 := ye_mle (show yh_dot x y a v b ≤ -ye_s x y v a b e by omega) (show 0 ≤ yq_ar x y v a b by omega)
                have k3 : 0 ≤ yq_ar x y v a e * yh_far x y a b := Int.mul_nonneg hz0 (by omega)
                rw [Int.neg_mul] at k2
                have e1 := Int.mul_comm (ye_h x y v a b e) (yh_dot x y a v b)
                have e2 := Int.mul_comm (yq_ar x y v a b) (yh_dot x y a v b)
                have e3 := Int.mul_comm (yq_ar x y v a b) (ye_s x y v a b e)
                omega
          have g1 : yq_ar x y a b v = yq_ar x y v a b := by rw [ye_ic x y v a b]
          have g2 : yq_ar x y a b e = yq_ar x y v a b - ye_h x y v a b e := by rw [← ih, ye_ic x y e a b]
          have g3 : yq_ar x y v e a = -yq_ar x y v a e := ye_in x y v a e
          have g4 : yq_ar x y v e b = -yq_ar x y v b e := ye_in x y v b e
          by_cases w : ye_h x y v a b e = yq_ar x y v a b
          · -- on the line of the edge
            have k1 : yq_ar x y v a e * yh_far x y a b = yq_ar x y v a b * (ye_s x y v a b e + yh_dot x y a v b) := by
              rw [iz, w]
              grind
            have k2 : yq_ar x y v b e * yh_far x y a b = yq_ar x y v a b * (ye_s x y v a b e - yh_dot x y b v a) := by
              rw [iy, w]
              grind
            have k3 : 0 ≤ ye_s x y v a b e + yh_dot x y a v b := ye_mlei hc (by
              rw [Int.zero_mul, Int.mul_comm, ← k1]
              exact Int.mul_nonneg hz0 (by omega))
            have k4 : ye_s x y v a b e - yh_dot x y b v a ≤ 0 := ye_mlei hc (by
              rw [Int.zero_mul, Int.mul_comm, ← k2]
              have := ye_mle hy0 (show 0 ≤ yh_far x y a b by omega)
              rw [Int.zero_mul] at this
              exact this)
            have idd := ye_idd x y v a b e
            rw [w, Int.sub_self, Int.mul_zero, Int.zero_sub] at idd
            by_cases w1 : ye_s x y v a b e + yh_dot x y a v b = 0
            · have k5 : yh_far x y a e * yh_far x y a b = 0 := by
                have ee : yh_far x y a e * yh_far x y a b = yh_far x y v e * yh_far x y a b - 2 * (yh_dot x y v a e * yh_far x y a b) + yh_far x y v a * yh_far x y a b := by
                  rw [f1]
                  grind
                rw [ee, ie, iae, ia, w, show ye_s x y v a b e = -yh_dot x y a v b by omega]
                grind
              have k6 := ye_far0 (ye_mz hW k5)
              exact n1 ⟨k6.1.symm, k6.2.symm⟩
            · by_cases w2 : yh_dot x y b v a - ye_s x y v a b e = 0
              · have k5 : yh_far x y b e * yh_far x y a b = 0 := by
                  have ee : yh_far x y b e * yh_far x y a b = yh_far x y v e * yh_far x y a b - 2 * (yh_dot x y v b e * yh_far x y a b) + yh_far x y v b * yh_far x y a b := by
                    rw [f2]
                    grind
                  rw [ee, ie, ibe, ib, w, show ye_s x y v a b e = yh_dot x y b v a by omega]
                  grind
                have k6 := ye_far0 (ye_mz hW k5)
                exact n2 ⟨k6.1.symm, k6.2.symm⟩
              · have k5 : 0 < (ye_s x y v a b e + yh_dot x y a v b) * (yh_dot x y b v a - ye_s x y v a b e) := Int.mul_pos (by omega) (by omega)
                exact n3 ⟨by omega, ye_mn hW (by omega)⟩
          · by_cases w1 : yq_ar x y v a e = 0
            · have k1 : yq_ar x y v a b * -ye_s x y v a b e = yh_dot x y a v b * ye_h x y v a b e := by
                rw [w1, Int.zero_mul] at iz
                rw [Int.mul_neg]
                omega
              have iae' : yh_dot x y v a e * yh_far x y a b = yh_dot x y a v b * -ye_s x y v a b e + yq_ar x y v a b * ye_h x y v a b e := by
                rw [Int.mul_neg]
                omega
              have k2 := ye_t5 hc hW (by omega) k1 ia iae'
              refine n4 ⟨?_, ?_⟩
              · rw [g3]
                omega
              · have := ye_id1 x y v a e
                omega
            · by_cases w2 : yq_ar x y v b e = 0
              · have k1 : yq_ar x y v a b * ye_s x y v a b e = yh_dot x y b v a * ye_h x y v a b e := by
                  rw [w2, Int.zero_mul] at iy
                  omega
                have k2 := ye_t5 hc hW (by omega) k1 ib ibe
                refine n5 ⟨?_, ?_⟩
                · rw [g4]
                  omega
                · have := ye_id1 x y v b e
                  omega
              · exact n6 ⟨Or.inl ⟨by omega, by omega⟩, Or.inr ⟨by omega, by omega⟩⟩
/-- the nearest pair of points -/
theorem ye_v1 {x y : Nat → Int} {v a e : Nat} (m1 : yh_far x y v a ≤ yh_far x y v e) (m2 : 0 < yh_dot x y a v e → 0 < yh_dot x y e v a → yh_far x y v a * yh_far x y a e ≤ yq_ar x y v a e * yq_ar x y v a e) : yh_dot x y a v e ≤ 0 := by
  have d1 := ye_id1 x y v a e
  have d2 := ye_id2 x y v a e
  by_cases h : yh_dot x y a v e ≤ 0
  · exact h
  · exfalso
    by_cases h2 : 0 < yh_dot x y e v a
    · have k1 := m2 (by omega) h2
      have k2 : yh_far x y v a * yh_far x y a e = yq_ar x y v a e * yq_ar x y v a e + yh_dot x y a v e * yh_dot x y a v e := by
        unfold yh_far yq_ar yh_dot
        grind
      have k3 := ye_sqp (show yh_dot x y a v e ≠ 0 by omega)
      omega
    · omega
