/-! the class's way of multiplying -/
noncomputable def yy_mi (o d : Nat → Int) (f k c : Int) : Prop := (∀ j : Nat, k ≤ (j : Int) → d j = o j) ∧ yy_dg d k.toNat ∧ (0 ≤ c ∧ c ≤ f) ∧ yy_V d k.toNat + c * 65536 ^ k.toNat = yy_V o k.toNat * f
theorem yy_mi0 {o : Nat → Int} {f : Int} (hf : 0 ≤ f) : yy_mi o o f 0 0 := ⟨fun _ _ => rfl, fun j hj => absurd hj (Nat.not_lt_zero j), ⟨Int.le_refl 0, hf⟩, by
  show 0 + 0 * 65536 ^ (0 : Int).toNat = 0 * f
  rw [Int.zero_mul, Int.zero_mul]
  rfl⟩
theorem yy_mis {o d : Nat → Int} {f k c p q c' : Int} (h : yy_mi o d f k c) (hk : 0 ≤ k) (hf : 0 ≤ f) (ho : 0 ≤ o k.toNat ∧ o k.toNat ≤ 65535) (hp : p = d k.toNat * f + c) (hq : q = p % 65536) (hc : c' = p / 65536) : yy_mi o (yq_set d k.toNat q) f (k + 1) c' := by
  obtain ⟨h1, h2, h3, h4⟩ := h
  have e0 : d k.toNat = o k.toNat := h1 _ (by omega)
  rw [e0] at hp
  have m1 : 0 ≤ o k.toNat * f := Int.mul_nonneg ho.1 hf
  have m2 : o k.toNat * f ≤ 65535 * f := Int.mul_le_mul_of_nonneg_right ho.2 hf
  have sp : p = q + 65536 * c' := by omega
  refine ⟨fun j hj => ?_, fun j hj => ?_, by omega, ?_⟩
  · have e : yq_set d k.toNat q j = d j := if_neg (by omega)
    rw [e]
    exact h1 j (by omega)
  · by_cases z : j = k.toNat
    · have e : yq_set d k.toNat q j = q := if_pos z
      rw [e]
      omega
    · have e : yq_set d k.toNat q j = d j := if_neg z
      rw [e]
      exact h2 j (by omega)
  · rw [show (k + 1).toNat = k.toNat + 1 by omega]
    have e1 : yy_V (yq_set d k.toNat q) k.toNat = yy_V d k.toNat := yy_V_e _ fun j hj => if_neg (by omega)
    have e2 : yq_set d k.toNat q k.toNat = q := if_pos rfl
    show yy_V (yq_set d k.toNat q) k.toNat + yq_set d k.toNat q k.toNat * 65536 ^ k.toNat + c' * 65536 ^ (k.toNat + 1) = (yy_V o k.toNat + o k.toNat * 65536 ^ k.toNat) * f
    rw [e1, e2, Int.pow_succ]
    have h5 : yy_V d k.toNat = yy_V o k.toNat * f - c * 65536 ^ k.toNat := by omega
    rw [h5]
    have h6 : q = o k.toNat * f + c - 65536 * c' := by omega
    rw [h6]
    grind
theorem yy_no {v c Q t : Int} (h : v + c * Q = t) (hv : 0 ≤ v) (hc : 0 ≤ c) (hQ : 0 < Q) (ht : t < Q) : v = t := by
  by_cases z : c = 0
  · rw [z, Int.zero_mul] at h
    omega
  · have k : 1 * Q ≤ c * Q := Int.mul_le_mul_of_nonneg_right (by omega) (by omega)
    omega
