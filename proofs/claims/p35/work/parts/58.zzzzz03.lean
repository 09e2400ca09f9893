/-! from the row to the answer -/
theorem yf_K_C {x y c R : Nat → Int} {n : Nat} (h : yf_ro c R n) : yf_K x y c R n (yq_cnt c 1 n).toNat = yf_C x y c n := yf_K_e fun k hk => (yf_ro_i h k (by
  have := yq_cnt_nn c 1 n
  omega)).1
/-- one yes alone -/
theorem yf_one {x y c R : Nat → Int} {n m : Nat} (h : yf_ro c R n) (hm : (m : Int) = yq_cnt c 1 n) (hS : ¬ yf_S x y c n) (t : Nat) : yf_K x y c R n m (fun k => k = t) := fun j hj hc ⟨⟨a, a1, a2⟩, ⟨b, b1, b2⟩, ⟨d, d1, d2⟩, ⟨e, e1, e2⟩⟩ => by
  have u1 : a = t := a1.2
  have u2 : b = t := b1.2
  have u3 : d = t := d1.2
  have u4 : e = t := e1.2
  have a2 : x (R a).toNat ≤ x j := a2
  have b2 : x j ≤ x (R b).toNat := b2
  have d2 : y (R d).toNat ≤ y j := d2
  have e2 : y j ≤ y (R e).toNat := e2
  obtain ⟨q1, q2, q3⟩ := yf_ro_i h t (by
    have := a1.1
    omega)
  rw [u1, q1, Int.toNat_natCast] at a2
  rw [u2, q1, Int.toNat_natCast] at b2
  rw [u3, q1, Int.toNat_natCast] at d2
  rw [u4, q1, Int.toNat_natCast] at e2
  exact hS ⟨yf_ix c t n, j, q2, hj, q3, hc, by omega, by omega⟩
theorem yf_sing {x y c R : Nat → Int} {n m : Nat} (h : yf_ro c R n) (hm : (m : Int) = yq_cnt c 1 n) (hS : ¬ yf_S x y c n) : ∀ t : Nat, yf_cv (yf_K x y c R n m) t (fun i => i < t)
  | 0 => fun i hi => absurd hi (Nat.not_lt_zero i)
  | t + 1 => ⟨fun k => k = t, yf_one h hm hS t, yf_cv_m t _ _ (fun i hi => by
      have h1 : i < t + 1 := hi.1
      have h2 : ¬ i = t := hi.2
      show i < t
      omega) (yf_sing h hm hS t)⟩
