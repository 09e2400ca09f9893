/-! the widest way: numbers -/
theorem ye_ml {a b c : Int} (h : a < b) (hc : 0 < c) : a * c < b * c := by
  have h1 : 0 < (b - a) * c := Int.mul_pos (by omega) hc
  rw [Int.sub_mul] at h1
  omega
theorem ye_mle {a b c : Int} (h : a ≤ b) (hc : 0 ≤ c) : a * c ≤ b * c := by
  have h1 : 0 ≤ (b - a) * c := Int.mul_nonneg (by omega) hc
  rw [Int.sub_mul] at h1
  omega
theorem ye_mli {a b c : Int} (hc : 0 ≤ c) (h : a * c < b * c) : a < b := by
  by_cases q : a < b
  · exact q
  · have := ye_mle (show b ≤ a by omega) hc
    omega
theorem ye_mlei {a b c : Int} (hc : 0 < c) (h : a * c ≤ b * c) : a ≤ b := by
  by_cases q : a ≤ b
  · exact q
  · have := ye_ml (show b < a by omega) hc
    omega
theorem ye_mp {a c : Int} (hc : 0 < c) (h : 0 < a * c) : 0 < a := ye_mli (c := c) (by omega) (by rw [Int.zero_mul]; exact h)
theorem ye_mn {a c : Int} (hc : 0 < c) (h : a * c < 0) : a < 0 := ye_mli (c := c) (by omega) (by rw [Int.zero_mul]; exact h)
theorem ye_mz {a c : Int} (hc : 0 < c) (h : a * c = 0) : a = 0 := by
  rcases Int.mul_eq_zero.mp h with q | q
  · exact q
  · omega
theorem ye_sq (a : Int) : 0 ≤ a * a := by
  by_cases q : 0 ≤ a
  · exact Int.mul_nonneg q q
  · have h := Int.mul_nonneg (a := -a) (b := -a) (by omega) (by omega)
    rw [Int.neg_mul_neg] at h
    exact h
theorem ye_sqp {a : Int} (h : a ≠ 0) : 0 < a * a := by
  by_cases q : 0 ≤ a
  · exact Int.mul_pos (by omega) (by omega)
  · have h := Int.mul_pos (a := -a) (b := -a) (by omega) (by omega)
    rw [Int.neg_mul_neg] at h
    exact h
theorem ye_sql {a b : Int} (h0 : 0 ≤ a) (h : a < b) : a * a < b * b := by
  have h1 := ye_mle (show a ≤ b by omega) h0
  have h2 := ye_ml h (show 0 < b by omega)
  rw [Int.mul_comm a b] at h2
  omega
/-- nearer: a yes before the edge -/
theorem ye_t1 {p c S H W z aa ee ae : Int} (hp : 0 < p) (hc : 0 < c) (hW : 0 < W) (hS : 0 ≤ S) (hH : H < c) (hz : z * W = c * S + p * H) (hz0 : 0 < z) (h1 : aa * W = p * p + c * c) (h2 : ee * W = S * S + H * H) (h3 : ae * W = c * H - p * S) : (ae < aa ∧ ae < ee ∧ z * z * W < c * c * (ee - 2 * ae + aa)) ∨ ee * W < c * c := by
  have hm0 : 0 < z * W := Int.mul_pos hz0 hW
  have hmk : z * W < c * (S + p) := by
    have k1 := ye_ml hH hp
    have k2 : c * (S + p) = c * S + c * p := by grind
    have k3 : H * p = p * H := Int.mul_comm H p
    omega
  have hsq := ye_sql (by omega) hmk
  have hD : 0 < S + p := by omega
  have hD2 : 0 < (S + p) * (S + p) := Int.mul_pos hD hD
  have hvv : (ee - 2 * ae + aa) * W = (S + p) * (S + p) + (H - c) * (H - c) := by
    have e : (ee - 2 * ae + aa) * W = ee * W - 2 * (ae * W) + aa * W := by grind
    rw [e, h1, h2, h3]
    grind
  have hvv0 : 0 ≤ ee - 2 * ae + aa := by
    have k := ye_sq (H - c)
    exact ye_mlei hW (by rw [Int.zero_mul, hvv]; omega)
  have hkk : c * (S + p) * (c * (S + p)) = c * c * ((S + p) * (S + p)) := by grind
  have hmm : z * W * (z * W) = (p * p * ee + 2 * (p * S * ae) + S * S * aa) * W := by
    have e : (p * p * ee + 2 * (p * S * ae) + S * S * aa) * W = p * p * (ee * W) + 2 * (p * S * (ae * W)) + S * S * (aa * W) := by grind
    rw [e, h1, h2, h3, hz]
    grind
  by_cases ha : ae < aa
  · by_cases he : ae < ee
    · refine Or.inl ⟨ha, he, ?_⟩
      refine ye_mli (c := W) (by omega) ?_
      have e1 : z * z * W * W = z * W * (z * W) := by grind
      have e2 : c * c * (ee - 2 * ae + aa) * W = c * c * ((ee - 2 * ae + aa) * W) := by grind
      rw [e1, e2, hvv]
      have k1 : c * c * ((S + p) * (S + p) + (H - c) * (H - c)) = c * c * ((S + p) * (S + p)) + c * c * ((H - c) * (H - c)) := by grind
      have k2 : 0 ≤ c * c * ((H - c) * (H - c)) := Int.mul_nonneg (ye_sq c) (ye_sq _)
      omega
    · refine Or.inr ?_
      have e1 : p * p * ee + 2 * (p * S * ae) + S * S * aa = (S + p) * (S + p) * ee + 2 * ((S + p) * S * (ae - ee)) + S * S * (ee - 2 * ae + aa) := by grind
      have k1 : 0 ≤ (S + p) * S * (ae - ee) := Int.mul_nonneg (Int.mul_nonneg (by omega) hS) (by omega)
      have k2 : 0 ≤ S * S * (ee - 2 * ae + aa) := Int.mul_nonneg (ye_sq S) hvv0
      have k3 : (S + p) * (S + p) * ee * W ≤ z * W * (z * W) := by
        rw [hmm]
        exact ye_mle (by omega) (by omega)
      have k4 : ee * W * ((S + p) * (S + p)) < c * c * ((S + p) * (S + p)) := by
        have e2 : ee * W * ((S + p) * (S + p)) = (S + p) * (S + p) * ee * W := by grind
        omega
      exact ye_mli (by omega) k4
  · exfalso
    have e1 : p * p * ee + 2 * (p * S * ae) + S * S * aa = (S + p) * (S + p) * aa + 2 * ((S + p) * p * (ae - aa)) + p * p * (ee - 2 * ae + aa) := by grind
    have k1 : 0 ≤ (S + p) * p * (ae - aa) := Int.mul_nonneg (Int.mul_nonneg (by omega) (by omega)) (by omega)
    have k2 : 0 ≤ p * p * (ee - 2 * ae + aa) := Int.mul_nonneg (ye_sq p) hvv0
    have k3 : (S + p) * (S + p) * aa * W ≤ z * W * (z * W) := by
      rw [hmm]
      exact ye_mle (by omega) (by omega)
    have e2 : (S + p) * (S + p) * aa * W = (S + p) * (S + p) * (aa * W) := by grind
    have e3 : (S + p) * (S + p) * (p * p + c * c) = (S + p) * (S + p) * (p * p) + c * c * ((S + p) * (S + p)) := by grind
    have k4 : 0 ≤ (S + p) * (S + p) * (p * p) := Int.mul_nonneg (ye_sq _) (ye_sq p)
    rw [h1] at e2
    omega
/-- on the way itself -/
theorem ye_t2 {p c S H W ae : Int} (hp : 0 < p) (hc : 0 < c) (hW : 0 < W) (hS : 0 ≤ S) (hz : c * S + p * H = 0) (h3 : ae * W = c * H - p * S) : (S = 0 ∧ H = 0) ∨ ae < 0 := by
  by_cases q : S = 0
  · refine Or.inl ⟨q, ?_⟩
    rw [q, Int.mul_zero, Int.zero_add, Int.mul_comm] at hz
    exact ye_mz hp hz
  · have k1 : 0 < c * S := Int.mul_pos hc (by omega)
    have k2 : H < 0 := ye_mn hp (by rw [Int.mul_comm]; omega)
    have k3 : 0 < p * S := Int.mul_pos hp (by omega)
    have k4 : c * H < 0 := by
      have := ye_ml k2 hc
      rw [Int.zero_mul, Int.mul_comm] at this
      exact this
    exact Or.inr (ye_mn hW (by omega))
theorem ye_t3 {p q c S H W zo : Int} (hp : 0 < p) (hq : 0 < q) (hc : 0 < c) (hW : 0 < W) (hS : 0 ≤ S) (hz : c * S + p * H < 0) (h : zo * W = c * S - q * H) : 0 < zo := by
  have k1 : 0 ≤ c * S := Int.mul_nonneg (by omega) hS
  have k2 : H < 0 := ye_mn hp (by rw [Int.mul_comm]; omega)
  have k4 : q * H < 0 := by
    have := ye_ml k2 hq
    rw [Int.zero_mul, Int.mul_comm] at this
    exact this
  exact ye_mp hW (by omega)
/-- nearer: an end of the edge before a no beyond -/
theorem ye_t4 {q c S H W z bb ee be : Int} (hq : 0 < q) (hc : 0 < c) (hW : 0 < W) (hS : q ≤ S) (hH : 0 < H) (hz : z * W = c * S - q * H) (hz0 : 0 < z) (h1 : bb * W = q * q + c * c) (h2 : ee * W = S * S + H * H) (h3 : be * W = q * S + c * H) : (0 < be ∧ be < ee ∧ z * z * W < c * c * ee) ∨ (ee - 2 * be + bb) * W < c * c := by
  have hm0 : 0 < z * W := Int.mul_pos hz0 hW
  have hqH : 0 < q * H := Int.mul_pos hq hH
  have hcS : 0 < c * S := Int.mul_pos hc (by omega)
  have hsq := ye_sql (a := z * W) (b := c * S) (by omega) (by omega)
  have hbe : 0 < be := ye_mp hW (by
    have k1 : 0 < q * S := Int.mul_pos hq (by omega)
    have k2 : 0 < c * H := Int.mul_pos hc hH
    omega)
  have hee : 0 ≤ ee := ye_mlei hW (by
    rw [Int.zero_mul, h2]
    have k1 := ye_sq S
    have k2 := ye_sq H
    omega)
  by_cases he : be < ee
  · refine Or.inl ⟨hbe, he, ye_mli (c := W) (by omega) ?_⟩
    have e1 : z * z * W * W = z * W * (z * W) := by grind
    have e2 : c * c * ee * W = c * c * (ee * W) := by grind
    rw [e1, e2, h2]
    have k1 : c * c * (S * S + H * H) = c * S * (c * S) + c * c * (H * H) := by grind
    have k2 : 0 ≤ c * c * (H * H) := Int.mul_nonneg (ye_sq c) (ye_sq H)
    omega
  · refine Or.inr ?_
    have hmm : z * W * (z * W) = (S * S * bb - 2 * (S * q * be) + q * q * ee) * W := by
      have e : (S * S * bb - 2 * (S * q * be) + q * q * ee) * W = S * S * (bb * W) - 2 * (S * q * (be * W)) + q * q * (ee * W) := by grind
      rw [e, h1, h2, h3, hz]
      grind
    have e1 : S * S * bb - 2 * (S * q * be) + q * q * ee = S * S * (ee - 2 * be + bb) + 2 * (S * (S - q) * (be - ee)) + (S - q) * (S - q) * ee := by grind
    have k1 : 0 ≤ S * (S - q) * (be - ee) := Int.mul_nonneg (Int.mul_nonneg (by omega) (by omega)) (by omega)
    have k2 : 0 ≤ (S - q) * (S - q) * ee := Int.mul_nonneg (ye_sq _) hee
    have k3 : S * S * (ee - 2 * be + bb) * W ≤ z * W * (z * W) := by
      rw [hmm]
      exact ye_mle (by omega) (by omega)
    have hSS : 0 < S * S := Int.mul_pos (by omega) (by omega)
    refine ye_mli (c := S * S) (by omega) ?_
    have e2 : (ee - 2 * be + bb) * W * (S * S) = S * S * (ee - 2 * be + bb) * W := by grind
    have e3 : c * c * (S * S) = c * S * (c * S) := by grind
    omega
/-- behind the edge: an end lies on the way to it -/
theorem ye_t5 {q c S H W bb be : Int} (hc : 0 < c) (hW : 0 < W) (hH : c < H) (hz : c * S = q * H) (h1 : bb * W = q * q + c * c) (h3 : be * W = q * S + c * H) : bb < be := by
  refine ye_mli (c := c * W) (by have := Int.mul_pos hc hW; omega) ?_
  have e1 : bb * (c * W) = (q * q + c * c) * c := by
    rw [← h1]
    grind
  have e2 : be * (c * W) = (q * q + c * c) * H := by
    have e : be * (c * W) = c * (be * W) := by grind
    have e3 : c * (q * S + c * H) = q * (c * S) + c * c * H := by grind
    rw [e, h3, e3, hz]
    grind
  rw [e1, e2]
  have k : 0 < q * q + c * c := by
    have k1 := ye_sq q
    have k2 := Int.mul_pos hc hc
    omega
  have := ye_ml hH k
  rw [Int.mul_comm c, Int.mul_comm H] at this
  exact this
