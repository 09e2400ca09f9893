/-! the reference: two loops -/
def yf_Q (P : Nat → Nat → Prop) (a b : Nat) : Prop := ∀ i j : Nat, (i < a ∨ (i = a ∧ j < b)) → ¬ P i j
def yf_T (x y c : Nat → Int) (n i j : Nat) : Prop := i < n ∧ j < n ∧ c i = 1 ∧ c j = 0 ∧ x i = x j ∧ y i = y j
theorem yf_Q_o {P : Nat → Nat → Prop} {a b : Nat} (h : yf_Q P a b) (hn : ∀ j : Nat, b ≤ j → ¬ P a j) : yf_Q P (a + 1) 0 := fun i j hj => by
  by_cases z : i = a ∧ b ≤ j
  · rw [z.1]
    exact hn j z.2
  · exact h i j (by omega)
theorem yf_Q_s {P : Nat → Nat → Prop} {a b : Nat} (h : yf_Q P a b) (hp : ¬ P a b) : yf_Q P a (b + 1) := fun i j hj => by
  by_cases z : i = a ∧ j = b
  · rw [z.1, z.2]
    exact hp
  · exact h i j (by omega)
theorem yf_Q_e {x y c : Nat → Int} {n a b : Nat} (h : yf_Q (yf_T x y c n) a b) (ha : n ≤ a) : ¬ yf_S x y c n := fun ⟨i, j, q⟩ => h i j (Or.inl (by have := q.1; omega)) q
