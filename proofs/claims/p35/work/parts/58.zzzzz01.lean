/-! the row of the yes -/
def yf_ix (c : Nat → Int) (k : Int) : Nat → Nat
  | 0 => 0
  | n + 1 => if c n = 1 ∧ yq_cnt c 1 n = k then n else yf_ix c k n
def yf_ro (c R : Nat → Int) (n : Nat) : Prop := ∀ j : Nat, j < n → c j = 1 → R (yq_cnt c 1 j).toNat = (j : Int)
theorem yf_ro_s {c R : Nat → Int} {i : Int} (h : yf_ro c R i.toNat) (hi : 0 ≤ i) (hc : c i.toNat ≠ 1) : yf_ro c R (i + 1).toNat := fun j hj h1 => by
  by_cases q : j = i.toNat
  · rw [q] at h1
    exact absurd h1 hc
  · exact h j (by omega) h1
theorem yf_ro_w {c R R' : Nat → Int} {i : Int} (h : yf_ro c R i.toNat) (hi : 0 ≤ i) (hw : R' = yq_set R (yq_cnt c 1 i.toNat).toNat i) : yf_ro c R' (i + 1).toNat := fun j hj h1 => by
  rw [hw]
  unfold yq_set
  by_cases q : j = i.toNat
  · rw [q, if_pos rfl]
    omega
  · have h2 : yq_cnt c 1 j < yq_cnt c 1 i.toNat := by
      have h3 := yq_cnt_le c 1 (m := j + 1) (n := i.toNat) (by omega)
      have h4 : yq_cnt c 1 (j + 1) = yq_cnt c 1 j + if c j = 1 then 1 else 0 := rfl
      rw [if_pos h1] at h4
      omega
    have h5 := yq_cnt_nn c 1 j
    rw [if_neg (by omega)]
    exact h j (by omega) h1
theorem yf_ro_i {c R : Nat → Int} : ∀ {n : Nat}, yf_ro c R n → ∀ k : Nat, (k : Int) < yq_cnt c 1 n → R k = (yf_ix c k n : Int) ∧ yf_ix c k n < n ∧ c (yf_ix c k n) = 1
  | 0, _, k, hk => by
    have : yq_cnt c 1 0 = 0 := rfl
    omega
  | n + 1, h, k, hk => by
    have e : yq_cnt c 1 (n + 1) = yq_cnt c 1 n + if c n = 1 then 1 else 0 := rfl
    have u : yf_ix c k (n + 1) = if c n = 1 ∧ yq_cnt c 1 n = (k : Int) then n else yf_ix c k n := rfl
    by_cases q : c n = 1 ∧ yq_cnt c 1 n = (k : Int)
    · rw [u, if_pos q]
      have h1 := h n (by omega) q.1
      rw [q.2, show ((k : Int)).toNat = k by omega] at h1
      exact ⟨h1, by omega, q.1⟩
    · rw [u, if_neg q]
      have h2 : (k : Int) < yq_cnt c 1 n := by
        by_cases z : c n = 1
        · rw [if_pos z] at e
          have : yq_cnt c 1 n ≠ (k : Int) := fun w => q ⟨z, w⟩
          omega
        · rw [if_neg z] at e
          omega
      obtain ⟨h3, h4, h5⟩ := yf_ro_i (n := n) (fun j hj h1 => h j (by omega) h1) k h2
      exact ⟨h3, by omega, h5⟩
