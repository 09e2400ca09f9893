/-! points between, within, crossing: shares -/
theorem yr_bt0 {x y : Nat → Int} {p a b : Nat} (h : ye_bt x y p a b) : yh_dot x y a b b ≠ 0 := fun z => by
  have k1 := ye_sq (x b - x a)
  have k2 := ye_sq (y b - y a)
  unfold yh_dot at z
  have e1 : (x b - x a) * (x b - x a) = 0 := by omega
  have e2 : (y b - y a) * (y b - y a) = 0 := by omega
  have d1 : x b = x a := by rcases Int.mul_eq_zero.mp e1 with q | q <;> omega
  have d2 : y b = y a := by rcases Int.mul_eq_zero.mp e2 with q | q <;> omega
  have h2 := h.2
  unfold yh_dot at h2
  rw [d1, d2] at h2
  have k3 := ye_sq (x a - x p)
  have k4 := ye_sq (y a - y p)
  omega
theorem yr_wi0 {x y : Nat → Int} {p a b c : Nat} (h : ye_wi x y p a b c) : yq_ar x y a b c ≠ 0 := by
  rw [yq_ar_sum x y a b c p]
  rcases h with ⟨h1, h2, h3⟩ | ⟨h1, h2, h3⟩ <;> omega
theorem yr_dF (x y : Nat → Int) (p a b : Nat) : yh_dot x y a b p = ((x a - x p) * (x a - x p) + (y a - y p) * (y a - y p)) - yh_dot x y p a b := by
  unfold yh_dot
  grind
theorem yr_dE (x y : Nat → Int) (p a b : Nat) : yh_dot x y p a b * yh_dot x y p a b + yq_ar x y a b p * yq_ar x y a b p = ((x a - x p) * (x a - x p) + (y a - y p) * (y a - y p)) * ((x b - x p) * (x b - x p) + (y b - y p) * (y b - y p)) := by
  unfold yh_dot yq_ar
  grind
theorem yr_ab {A B D : Int} (hD : 0 ≤ D) (hA : D < A) (hB : D < B) : D * D < A * B := by
  have k1 := Int.mul_pos (show 0 < A - D by omega) (show 0 < B - D by omega)
  have k2 := Int.mul_nonneg hD (show 0 ≤ A - D by omega)
  have k3 := Int.mul_nonneg hD (show 0 ≤ B - D by omega)
  have e : A * B = (A - D) * (B - D) + D * (A - D) + D * (B - D) + D * D := by grind
  omega
theorem yr_bt_i {x y : Nat → Int} {p a b : Nat} (h0 : yq_ar x y a b p = 0) (h1 : 0 < yh_dot x y a b p) (h2 : 0 < yh_dot x y b a p) : ye_bt x y p a b := by
  refine ⟨h0, ?_⟩
  by_cases q : yh_dot x y p a b < 0
  · exact q
  · exfalso
    have E := yr_dE x y p a b
    have F1 := yr_dF x y p a b
    have F2 := yr_dF x y p b a
    rw [ye_ids x y p a b] at F2
    rw [h0, Int.zero_mul, Int.add_zero] at E
    have k := yr_ab (D := yh_dot x y p a b) (A := (x a - x p) * (x a - x p) + (y a - y p) * (y a - y p)) (B := (x b - x p) * (x b - x p) + (y b - y p) * (y b - y p)) (by omega) (by omega) (by omega)
    omega
theorem yr_bt_d {x y : Nat → Int} {p a b : Nat} (h : ye_bt x y p a b) : 0 < yh_dot x y a b p ∧ 0 < yh_dot x y b a p := by
  have F1 := yr_dF x y p a b
  have F2 := yr_dF x y p b a
  rw [ye_ids x y p a b] at F2
  have h2 := h.2
  have k1 := ye_sq (x a - x p)
  have k2 := ye_sq (y a - y p)
  have k3 := ye_sq (x b - x p)
  have k4 := ye_sq (y b - y p)
  omega
theorem yr_fb {x y : Nat → Int} {p a b : Nat} (h : yq_ar x y a b p = 0) : (x b - x p) * yh_dot x y a b b = yh_dot x y b a p * (x b - x a) ∧ (y b - y p) * yh_dot x y a b b = yh_dot x y b a p * (y b - y a) ∧ (x p - x a) * yh_dot x y a b b = yh_dot x y a b p * (x b - x a) ∧ (y p - y a) * yh_dot x y a b b = yh_dot x y a b p * (y b - y a) := by
  have k1 : (x b - x p) * yh_dot x y a b b - yh_dot x y b a p * (x b - x a) = (y b - y a) * yq_ar x y a b p := by
    unfold yh_dot yq_ar
    grind
  have k2 : (y b - y p) * yh_dot x y a b b - yh_dot x y b a p * (y b - y a) = -(x b - x a) * yq_ar x y a b p := by
    unfold yh_dot yq_ar
    grind
  have k3 : (x p - x a) * yh_dot x y a b b - yh_dot x y a b p * (x b - x a) = -(y b - y a) * yq_ar x y a b p := by
    unfold yh_dot yq_ar
    grind
  have k4 : (y p - y a) * yh_dot x y a b b - yh_dot x y a b p * (y b - y a) = (x b - x a) * yq_ar x y a b p := by
    unfold yh_dot yq_ar
    grind
  rw [h, Int.mul_zero] at k1 k2 k3 k4
  exact ⟨Int.sub_eq_zero.mp k1, Int.sub_eq_zero.mp k2, Int.sub_eq_zero.mp k3, Int.sub_eq_zero.mp k4⟩
theorem yr_fx {A B : Int} (h : (0 < A ∧ B < 0) ∨ (A < 0 ∧ 0 < B)) : (-B) * (yq_abs A + yq_abs B) = yq_abs B * (A - B) ∧ A * (yq_abs A + yq_abs B) = yq_abs A * (A - B) ∧ A - B ≠ 0 ∧ yq_abs A + yq_abs B ≠ 0 := by
  rcases h with ⟨h1, h2⟩ | ⟨h1, h2⟩
  · have e1 : yq_abs A = A := if_neg (by omega)
    have e2 : yq_abs B = -B := if_pos h2
    rw [e1, e2]
    exact ⟨by grind, by grind, by omega, by omega⟩
  · have e1 : yq_abs A = -A := if_pos h1
    have e2 : yq_abs B = B := if_neg (by omega)
    rw [e1, e2]
    exact ⟨by grind, by grind, by omega, by omega⟩
theorem yr_fxp {A B P Q u v : Int} (h1 : (-B) * (P + Q) = Q * (A - B)) (h2 : A * (P + Q) = P * (A - B)) : ((-B) * u + A * v) * (P + Q) = (u * Q + v * P) * (A - B) := by
  have e : ((-B) * u + A * v) * (P + Q) = ((-B) * (P + Q)) * u + (A * (P + Q)) * v := by grind
  rw [e, h1, h2]
  grind
