/-! the reference: the least box, and whether it is clear -/
def yf_lx (f : Nat → Int) (s : Nat) (lo hi : Int) (k : Nat) : Prop := (∀ i : Nat, i < k → yf_b s i → lo ≤ f i ∧ f i ≤ hi) ∧ (lo = 1000 ∨ ∃ i : Nat, i < k ∧ yf_b s i ∧ f i = lo) ∧ (hi = -1000 ∨ ∃ i : Nat, i < k ∧ yf_b s i ∧ f i = hi)
theorem yf_lx_0 {f : Nat → Int} {s : Nat} : yf_lx f s 1000 (-1000) 0 := ⟨fun i hi => absurd hi (Nat.not_lt_zero i), Or.inl rfl, Or.inl rfl⟩
theorem yf_lx_n {f : Nat → Int} {s k : Nat} {lo hi : Int} (h : yf_lx f s lo hi k) (hb : ¬ yf_b s k) : yf_lx f s lo hi (k + 1) := by
  obtain ⟨h1, h2, h3⟩ := h
  refine ⟨fun i hi hs => ?_, ?_, ?_⟩
  · by_cases z : i = k
    · rw [z] at hs
      exact absurd hs hb
    · exact h1 i (by omega) hs
  · rcases h2 with q | ⟨i, q1, q2⟩
    · exact Or.inl q
    · exact Or.inr ⟨i, by omega, q2⟩
  · rcases h3 with q | ⟨i, q1, q2⟩
    · exact Or.inl q
    · exact Or.inr ⟨i, by omega, q2⟩
theorem yf_lx_s {f : Nat → Int} {s k : Nat} {lo hi lo' hi' z : Int} (h : yf_lx f s lo hi k) (hb : yf_b s k) (hz : z = f k) (h1 : (lo' = z ∧ z < lo) ∨ (lo' = lo ∧ lo ≤ z)) (h2 : (hi' = z ∧ hi < z) ∨ (hi' = hi ∧ z ≤ hi)) : yf_lx f s lo' hi' (k + 1) := by
  obtain ⟨g1, g2, g3⟩ := h
  refine ⟨fun i hi hs => ?_, ?_, ?_⟩
  · by_cases e : i = k
    · rw [e, ← hz]
      clear g1 g2 g3
      omega
    · have := g1 i (by omega) hs
      clear g1 g2 g3
      omega
  · rcases h1 with ⟨q, -⟩ | ⟨q, -⟩
    · exact Or.inr ⟨k, by omega, hb, by omega⟩
    · rw [q]
      rcases g2 with w | ⟨i, w1, w2⟩
      · exact Or.inl w
      · exact Or.inr ⟨i, by omega, w2⟩
  · rcases h2 with ⟨q, -⟩ | ⟨q, -⟩
    · exact Or.inr ⟨k, by omega, hb, by omega⟩
    · rw [q]
      rcases g3 with w | ⟨i, w1, w2⟩
      · exact Or.inl w
      · exact Or.inr ⟨i, by omega, w2⟩
theorem yf_lx_i {f : Nat → Int} {s m : Nat} {lo hi z : Int} (h : yf_lx f s lo hi m) (hf : ∀ i, -300 ≤ f i ∧ f i ≤ 1000) (hz : -300 ≤ z ∧ z ≤ 1000) : (lo ≤ z ∧ z ≤ hi) ↔ ((∃ k, (k < m ∧ yf_b s k) ∧ f k ≤ z) ∧ ∃ k, (k < m ∧ yf_b s k) ∧ z ≤ f k) := by
  obtain ⟨h1, h2, h3⟩ := h
  constructor
  · intro ⟨q1, q2⟩
    rcases h3 with w | ⟨i, w1, w2, w3⟩
    · omega
    · refine ⟨?_, i, ⟨w1, w2⟩, by omega⟩
      rcases h2 with u | ⟨j, u1, u2, u3⟩
      · have k1 := (h1 i w1 w2).1
        have k2 := (hf i).2
        exact ⟨i, ⟨w1, w2⟩, by omega⟩
      · exact ⟨j, ⟨u1, u2⟩, by omega⟩
  · intro ⟨⟨a, a1, a2⟩, b, b1, b2⟩
    have k1 := (h1 a a1.1 a1.2).1
    have k2 := (h1 b b1.1 b1.2).2
    omega
def yf_cr (x y c : Nat → Int) (lo hi bo to : Int) (z : Int) (k : Nat) : Prop := (z = 1 ∧ ∀ j : Nat, j < k → c j = 0 → ¬ ((lo ≤ x j ∧ x j ≤ hi) ∧ bo ≤ y j ∧ y j ≤ to)) ∨ (z = 0 ∧ ∃ j : Nat, j < k ∧ c j = 0 ∧ (lo ≤ x j ∧ x j ≤ hi) ∧ bo ≤ y j ∧ y j ≤ to)
theorem yf_cr_0 {x y c : Nat → Int} {lo hi bo to z : Int} (h : z = 1) : yf_cr x y c lo hi bo to z 0 := Or.inl ⟨h, fun j hj => absurd hj (Nat.not_lt_zero j)⟩
theorem yf_cr_s {x y c : Nat → Int} {lo hi bo to z z' : Int} {k : Nat} (h : yf_cr x y c lo hi bo to z k) (h1 : z = 1 → ((z' = 1 ∧ (c k = 0 → ¬ ((lo ≤ x k ∧ x k ≤ hi) ∧ bo ≤ y k ∧ y k ≤ to))) ∨ (z' = 0 ∧ c k = 0 ∧ (lo ≤ x k ∧ x k ≤ hi) ∧ bo ≤ y k ∧ y k ≤ to))) (h0 : z = 0 → z' = 0) : yf_cr x y c lo hi bo to z' (k + 1) := by
  rcases h with ⟨q1, q2⟩ | ⟨q1, j, q2, q3⟩
  · rcases h1 q1 with ⟨w1, w2⟩ | ⟨w1, w2⟩
    · refine Or.inl ⟨w1, fun j hj hc => ?_⟩
      by_cases e : j = k
      · rw [e] at hc ⊢
        exact w2 hc
      · exact q2 j (by omega) hc
    · exact Or.inr ⟨w1, k, by omega, w2⟩
  · exact Or.inr ⟨h0 q1, j, by omega, q3⟩
theorem yf_cr_e {x y c R : Nat → Int} {n m s : Nat} {lo hi bo to z : Int} (h : yf_cr x y c lo hi bo to z n) (hX : yf_lx (fun k => x (R k).toNat) s lo hi m) (hY : yf_lx (fun k => y (R k).toNat) s bo to m) (hx : ∀ i, -300 ≤ x i ∧ x i ≤ 1000) (hy : ∀ i, -300 ≤ y i ∧ y i ≤ 1000) : (z = 1 ∧ yf_K x y c R n m (yf_b s)) ∨ (z = 0 ∧ ¬ yf_K x y c R n m (yf_b s)) := by
  rcases h with ⟨q1, q2⟩ | ⟨q1, j, j1, j2, j3, j4⟩
  · refine Or.inl ⟨q1, fun j hj hc ⟨a, b, d, e⟩ => q2 j hj hc ⟨(yf_lx_i hX (fun i => hx _) (hx j)).mpr ⟨a, b⟩, (yf_lx_i hY (fun i => hy _) (hy j)).mpr ⟨d, e⟩⟩⟩
  · refine Or.inr ⟨q1, fun hc => ?_⟩
    obtain ⟨a, b⟩ := (yf_lx_i hX (fun i => hx _) (hx j)).mp j3
    obtain ⟨d, e⟩ := (yf_lx_i hY (fun i => hy _) (hy j)).mp j4
    exact hc j j1 j2 ⟨a, b, d, e⟩
