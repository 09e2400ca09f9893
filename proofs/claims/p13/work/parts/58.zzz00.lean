/-! ways of parting: the class's sets and the reference's are those that a line parts -/
noncomputable def yw_cr (ax ay bx by_ : Int) : Int := ax * by_ - ay * bx
noncomputable def yw_dt (ax ay bx by_ : Int) : Int := ax * bx + ay * by_
theorem yw_plu (ax ay bx by_ cx cy ux uy : Int) : yw_cr ax ay cx cy * yw_dt ux uy bx by_ = yw_cr ax ay bx by_ * yw_dt ux uy cx cy + yw_cr bx by_ cx cy * yw_dt ux uy ax ay := by
  unfold yw_cr yw_dt
  grind
theorem yw_lag (ax ay bx by_ wx wy : Int) : yw_dt ax ay bx by_ * yw_dt wx wy wx wy = yw_dt ax ay wx wy * yw_dt bx by_ wx wy + yw_cr wx wy ax ay * yw_cr wx wy bx by_ := by
  unfold yw_cr yw_dt
  grind
theorem yw_neg (ax ay bx by_ : Int) : yw_cr bx by_ ax ay = -yw_cr ax ay bx by_ := by
  unfold yw_cr
  grind
theorem yw_pp {a b : Int} (hb : 0 < b) (h : 0 < a * b) : 0 < a := Int.pos_of_mul_pos_left h hb
theorem yw_sg {a b c d : Int} (h : a * b = c * d) (hb : 0 < b) (hd : 0 < d) : (0 < a ↔ 0 < c) ∧ (a < 0 ↔ c < 0) ∧ (a = 0 ↔ c = 0) := by
  have key : ∀ {a b c d : Int}, a * b = c * d → 0 < b → 0 < d → 0 < a → 0 < c := fun {a b c d} h hb hd ha => by
    have h1 : 0 < a * b := Int.mul_pos ha hb
    rw [h] at h1
    exact yh_pos hd (by rw [Int.mul_comm]; exact h1)
  have p1 : 0 < a ↔ 0 < c := ⟨key h hb hd, key h.symm hd hb⟩
  have hn : -a * b = -c * d := by rw [Int.neg_mul, Int.neg_mul, h]
  have p2 : 0 < -a ↔ 0 < -c := ⟨key hn hb hd, key hn.symm hd hb⟩
  refine ⟨p1, ⟨fun z => by have := p2.mp (by omega); omega, fun z => by have := p2.mpr (by omega); omega⟩, ⟨fun z => ?_, fun z => ?_⟩⟩
  · have q1 := p1
    have q2 := p2
    omega
  · have q1 := p1
    have q2 := p2
    omega
/-- a least one of finitely many -/
theorem yw_min {W : Nat → Prop} {R : Nat → Nat → Prop} (ht : ∀ a b, W a → W b → R a b ∨ R b a) (htr : ∀ a b c, W a → W b → W c → R a b → R b c → R a c) : ∀ N : Nat, (∀ q, q < N → ¬ W q) ∨ ∃ q0, q0 < N ∧ W q0 ∧ ∀ q, q < N → W q → R q0 q
  | 0 => Or.inl fun q hq => absurd hq (Nat.not_lt_zero q)
  | N + 1 => by
    rcases yw_min ht htr N with h | ⟨q0, h1, h2, h3⟩
    · by_cases hw : W N
      · refine Or.inr ⟨N, Nat.lt_succ_self N, hw, fun q hq hq2 => ?_⟩
        by_cases e : q = N
        · rw [e]
          rcases ht N N hw hw with z | z <;> exact z
        · exact absurd hq2 (h q (by omega))
      · refine Or.inl fun q hq hq2 => ?_
        by_cases e : q = N
        · rw [e] at hq2
          exact hw hq2
        · exact h q (by omega) hq2
    · by_cases hw : W N
      · rcases ht q0 N h2 hw with z | z
        · refine Or.inr ⟨q0, by omega, h2, fun q hq hq2 => ?_⟩
          by_cases e : q = N
          · rw [e]
            exact z
          · exact h3 q (by omega) hq2
        · refine Or.inr ⟨N, Nat.lt_succ_self N, hw, fun q hq hq2 => ?_⟩
          by_cases e : q = N
          · rw [e]
            rcases ht N N hw hw with z | z <;> exact z
          · exact htr N q0 q hw h2 hq2 z (h3 q (by omega) hq2)
      · refine Or.inr ⟨q0, by omega, h2, fun q hq hq2 => ?_⟩
        by_cases e : q = N
        · rw [e] at hq2
          exact absurd hq2 hw
        · exact h3 q (by omega) hq2
noncomputable def yw_eq (n : Nat) (p q : Nat → Bool) : Prop := ∀ j : Nat, j < n → p j = q j
noncomputable def yw_sep (x y : Nat → Int) (n : Nat) (p : Nat → Bool) : Prop := ∃ A B : Int, ∀ i j : Nat, i < n → j < n → p i = true → p j = false → A * x j + B * y j < A * x i + B * y i
/-- the class's sets along the way from i to k -/
noncomputable def yw_lb (x y : Nat → Int) (i k : Nat) : Nat → Bool := fun j => decide (0 < yq_ar x y i k j ∨ (yq_ar x y i k j = 0 ∧ yh_dot x y i k j ≤ 0))
noncomputable def yw_rb (x y : Nat → Int) (i k : Nat) : Nat → Bool := fun j => decide (yq_ar x y i k j < 0 ∨ (yq_ar x y i k j = 0 ∧ yh_dot x y i k j ≤ 0))
noncomputable def yw_C (x y : Nat → Int) (n : Nat) (p : Nat → Bool) : Prop := yw_eq n p (fun _ => false) ∨ yw_eq n p (fun _ => true) ∨ ∃ i k : Nat, i < n ∧ k < n ∧ ¬ (x i = x k ∧ y i = y k) ∧ (yw_eq n p (yw_lb x y i k) ∨ yw_eq n p (fun j => !yw_lb x y i k j) ∨ yw_eq n p (yw_rb x y i k) ∨ yw_eq n p (fun j => !yw_rb x y i k j))
/-- the reference's sets -/
noncomputable def yw_fu (x y : Nat → Int) (a b j : Nat) : Int := (x b - x a) * x j + (y b - y a) * y j
noncomputable def yw_up (x y : Nat → Int) (a b i : Nat) : Nat → Bool := fun j => decide (0 < yq_ar x y a b j ∨ (yq_ar x y a b j = 0 ∧ yw_fu x y a b j ≤ yw_fu x y a b i))
noncomputable def yw_ah (x y : Nat → Int) (a b i : Nat) : Nat → Bool := fun j => decide (0 < yq_ar x y a b j ∨ (yq_ar x y a b j = 0 ∧ yw_fu x y a b j < yw_fu x y a b i))
noncomputable def yw_fr (x y : Nat → Int) (a b i : Nat) : Nat → Bool := fun j => decide (0 < yq_ar x y a b j ∨ (yq_ar x y a b j = 0 ∧ yw_fu x y a b i ≤ yw_fu x y a b j))
noncomputable def yw_bh (x y : Nat → Int) (a b i : Nat) : Nat → Bool := fun j => decide (0 < yq_ar x y a b j ∨ (yq_ar x y a b j = 0 ∧ yw_fu x y a b i < yw_fu x y a b j))
noncomputable def yw_R (x y : Nat → Int) (n : Nat) (p : Nat → Bool) : Prop := yw_eq n p (fun _ => false) ∨ yw_eq n p (fun _ => true) ∨ ∃ a b i : Nat, a < n ∧ b < n ∧ i < n ∧ ¬ (x a = x b ∧ y a = y b) ∧ yq_ar x y a b i = 0 ∧ (yw_eq n p (yw_up x y a b i) ∨ yw_eq n p (yw_ah x y a b i) ∨ yw_eq n p (yw_fr x y a b i) ∨ yw_eq n p (yw_bh x y a b i))
theorem yw_arn (x y : Nat → Int) (i k j : Nat) : yq_ar x y k i j = -yq_ar x y i k j := by
  unfold yq_ar
  grind
theorem yw_ari (x y : Nat → Int) (i k : Nat) : yq_ar x y i k i = 0 := by
  unfold yq_ar
  grind
theorem yw_fud (x y : Nat → Int) (i k j : Nat) : yh_dot x y i k j = yw_fu x y i k j - yw_fu x y i k i := by
  unfold yh_dot yw_fu
  grind
theorem yw_fun (x y : Nat → Int) (i k j : Nat) : yw_fu x y k i j = -yw_fu x y i k j := by
  unfold yw_fu
  grind
theorem yw_dec {P Q : Prop} [Decidable P] [Decidable Q] (h : P ↔ Q) : decide P = decide Q := by
  by_cases q : Q
  · rw [decide_eq_true q, decide_eq_true (h.mpr q)]
  · rw [decide_eq_false q, decide_eq_false (fun z => q (h.mp z))]
theorem yw_decn {P Q : Prop} [Decidable P] [Decidable Q] (h : P ↔ ¬ Q) : decide P = !decide Q := by
  by_cases q : Q
  · rw [decide_eq_true q, decide_eq_false (fun z => h.mp z q)]
    rfl
  · rw [decide_eq_false q, decide_eq_true (h.mpr q)]
    rfl
/-- the class's sets are among the reference's -/
theorem yw_CR {x y : Nat → Int} {n : Nat} {p : Nat → Bool} (h : yw_C x y n p) : yw_R x y n p := by
  rcases h with h | h | ⟨i, k, hi, hk, hs, h⟩
  · exact Or.inl h
  · exact Or.inr (Or.inl h)
  · refine Or.inr (Or.inr ?_)
    have hs' : ¬ (x k = x i ∧ y k = y i) := fun z => hs ⟨z.1.symm, z.2.symm⟩
    rcases h with h | h | h | h
    · refine ⟨i, k, i, hi, hk, hi, hs, yw_ari x y i k, Or.inl fun j hj => (h j hj).trans (yw_dec ?_)⟩
      rw [yw_fud]
      omega
    · refine ⟨k, i, i, hk, hi, hi, hs', by rw [yw_arn, yw_ari]; rfl, Or.inr (Or.inl fun j hj => (h j hj).trans ?_)⟩
      refine (yw_decn ?_).symm
      have a1 := yw_arn x y i k j
      have f1 := yw_fun x y i k j
      have f2 := yw_fun x y i k i
      have d1 := yw_fud x y i k j
      omega
    · refine ⟨k, i, i, hk, hi, hi, hs', by rw [yw_arn, yw_ari]; rfl, Or.inr (Or.inr (Or.inl fun j hj => (h j hj).trans (yw_dec ?_)))⟩
      have a1 := yw_arn x y i k j
      have f1 := yw_fun x y i k j
      have f2 := yw_fun x y i k i
      have d1 := yw_fud x y i k j
      omega
    · refine ⟨i, k, i, hi, hk, hi, hs, yw_ari x y i k, Or.inr (Or.inr (Or.inr fun j hj => (h j hj).trans ?_))⟩
      refine (yw_decn ?_).symm
      rw [yw_fud]
      omega
/-- places not too far -/
noncomputable def yw_nr (x y : Nat → Int) (n : Nat) : Prop := ∀ j : Nat, j < n → -300 ≤ x j ∧ x j ≤ 1000 ∧ -300 ≤ y j ∧ y j ≤ 1000
theorem yw_mb {a b A B : Int} (h1 : -A ≤ a) (h2 : a ≤ A) (h3 : -B ≤ b) (h4 : b ≤ B) : -(A * B) ≤ a * b ∧ a * b ≤ A * B := by
  have hA : 0 ≤ A := by omega
  have hB : 0 ≤ B := by omega
  have k1 : 0 ≤ (A - a) * (B + b) := Int.mul_nonneg (by omega) (by omega)
  have k2 : 0 ≤ (A + a) * (B - b) := Int.mul_nonneg (by omega) (by omega)
  have k3 : 0 ≤ (A - a) * (B - b) := Int.mul_nonneg (by omega) (by omega)
  have k4 : 0 ≤ (A + a) * (B + b) := Int.mul_nonneg (by omega) (by omega)
  have e1 : (A - a) * (B + b) = A * B + A * b - a * B - a * b := by grind
  have e2 : (A + a) * (B - b) = A * B - A * b + a * B - a * b := by grind
  have e3 : (A - a) * (B - b) = A * B - A * b - a * B + a * b := by grind
  have e4 : (A + a) * (B + b) = A * B + A * b + a * B + a * b := by grind
  omega
theorem yw_fub {x y : Nat → Int} {n a b i j : Nat} (h : yw_nr x y n) (ha : a < n) (hb : b < n) (hi : i < n) (hj : j < n) : yw_fu x y a b i - yw_fu x y a b j ≤ 4000000 := by
  have h1 := h a ha
  have h2 := h b hb
  have h3 := h i hi
  have h4 := h j hj
  have e : yw_fu x y a b i - yw_fu x y a b j = (x b - x a) * (x i - x j) + (y b - y a) * (y i - y j) := by
    unfold yw_fu
    grind
  have k1 := yw_mb (a := x b - x a) (b := x i - x j) (A := 1300) (B := 1300) (by omega) (by omega) (by omega) (by omega)
  have k2 := yw_mb (a := y b - y a) (b := y i - y j) (A := 1300) (B := 1300) (by omega) (by omega) (by omega) (by omega)
  omega
/-- what the reference takes, a line parts: side and way together -/
theorem yw_lin {x y : Nat → Int} {n a b : Nat} {s : Int} {p : Nat → Bool} (hnr : yw_nr x y n) (ha : a < n) (hb : b < n) (hs : s = 1 ∨ s = -1) (h : ∀ i j : Nat, i < n → j < n → p i = true → p j = false → yq_ar x y a b j < yq_ar x y a b i ∨ (yq_ar x y a b j = yq_ar x y a b i ∧ s * yw_fu x y a b j < s * yw_fu x y a b i)) : yw_sep x y n p := by
  refine ⟨-(y b - y a) * 10000000 + s * (x b - x a), (x b - x a) * 10000000 + s * (y b - y a), fun i j hi hj h1 h2 => ?_⟩
  have e : ∀ k : Nat, (-(y b - y a) * 10000000 + s * (x b - x a)) * x k + ((x b - x a) * 10000000 + s * (y b - y a)) * y k = 10000000 * (yq_ar x y a b k + ((x b - x a) * y a - (y b - y a) * x a)) + s * yw_fu x y a b k := fun k => by
    unfold yq_ar yw_fu
    grind
  rw [e i, e j]
  have b1 := yw_fub hnr ha hb hi hj
  have b2 := yw_fub hnr ha hb hj hi
  rcases h i j hi hj h1 h2 with q | ⟨q1, q2⟩
  · rcases hs with z | z
    · rw [z]
      omega
    · rw [z]
      omega
  · rw [q1]
    omega
theorem yw_RS {x y : Nat → Int} {n : Nat} {p : Nat → Bool} (hnr : yw_nr x y n) (h : yw_R x y n p) : (yw_eq n p (fun _ => false) ∨ yw_eq n p (fun _ => true)) ∨ yw_sep x y n p := by
  rcases h with h | h | ⟨a, b, i, ha, hb, hi, hs, ho, h⟩
  · exact Or.inl (Or.inl h)
  · exact Or.inl (Or.inr h)
  · refine Or.inr ?_
    rcases h with h | h | h | h
    · refine yw_lin hnr ha hb (Or.inr rfl) fun k l hk hl h1 h2 => ?_
      rw [h k hk] at h1
      rw [h l hl] at h2
      have q1 := of_decide_eq_true h1
      have q2 := of_decide_eq_false h2
      omega
    · refine yw_lin hnr ha hb (Or.inr rfl) fun k l hk hl h1 h2 => ?_
      rw [h k hk] at h1
      rw [h l hl] at h2
      have q1 := of_decide_eq_true h1
      have q2 := of_decide_eq_false h2
      omega
    · refine yw_lin hnr ha hb (Or.inl rfl) fun k l hk hl h1 h2 => ?_
      rw [h k hk] at h1
      rw [h l hl] at h2
      have q1 := of_decide_eq_true h1
      have q2 := of_decide_eq_false h2
      omega
    · refine yw_lin hnr ha hb (Or.inl rfl) fun k l hk hl h1 h2 => ?_
      rw [h k hk] at h1
      rw [h l hl] at h2
      have q1 := of_decide_eq_true h1
      have q2 := of_decide_eq_false h2
      omega
theorem yw_dtp {wx wy : Int} (h : ¬ (wx = 0 ∧ wy = 0)) : 0 < yw_dt wx wy wx wy := by
  unfold yw_dt
  have h1 : 0 ≤ wx * wx := by
    by_cases q : 0 ≤ wx
    · exact Int.mul_nonneg q q
    · have := Int.mul_nonneg (show 0 ≤ -wx by omega) (show 0 ≤ -wx by omega)
      rw [Int.neg_mul_neg] at this
      exact this
  have h2 : 0 ≤ wy * wy := by
    by_cases q : 0 ≤ wy
    · exact Int.mul_nonneg q q
    · have := Int.mul_nonneg (show 0 ≤ -wy by omega) (show 0 ≤ -wy by omega)
      rw [Int.neg_mul_neg] at this
      exact this
  have h3 : wx * wx = 0 → wx = 0 := fun z => by
    rcases Int.mul_eq_zero.mp z with q | q <;> exact q
  have h4 : wy * wy = 0 → wy = 0 := fun z => by
    rcases Int.mul_eq_zero.mp z with q | q <;> exact q
  by_cases q1 : wx * wx = 0
  · by_cases q2 : wy * wy = 0
    · exact absurd ⟨h3 q1, h4 q2⟩ h
    · omega
  · omega
/-- a parted set is among the class's: turn the line until it touches both -/
theorem yw_SC {x y : Nat → Int} {n : Nat} {p : Nat → Bool} (h : yw_sep x y n p) : yw_C x y n p := by
  obtain ⟨A, B, hAB⟩ := h
  by_cases h0 : ∃ i : Nat, i < n ∧ p i = true
  · by_cases h1 : ∃ j : Nat, j < n ∧ p j = false
    · obtain ⟨i0, hi0, pi0⟩ := h0
      obtain ⟨j0, hj0, pj0⟩ := h1
      have hn : 0 < n := by omega
      -- pairs, as numbers
      have hW := yw_min (W := fun q => q / n < n ∧ p (q / n) = true ∧ p (q % n) = false) (R := fun q r => 0 ≤ yw_cr (x (q / n) - x (q % n)) (y (q / n) - y (q % n)) (x (r / n) - x (r % n)) (y (r / n) - y (r % n))) (fun a b _ _ => by
          show 0 ≤ yw_cr _ _ _ _ ∨ 0 ≤ yw_cr _ _ _ _
          have k := yw_neg (x (a / n) - x (a % n)) (y (a / n) - y (a % n)) (x (b / n) - x (b % n)) (y (b / n) - y (b % n))
          omega) (fun a b c ha hb hc h1 h2 => by
          have ka := hAB (a / n) (a % n) ha.1 (Nat.mod_lt a hn) ha.2.1 ha.2.2
          have kb := hAB (b / n) (b % n) hb.1 (Nat.mod_lt b hn) hb.2.1 hb.2.2
          have kc := hAB (c / n) (c % n) hc.1 (Nat.mod_lt c hn) hc.2.1 hc.2.2
          have da : 0 < yw_dt A B (x (a / n) - x (a % n)) (y (a / n) - y (a % n)) := by
            unfold yw_dt
            rw [Int.mul_sub, Int.mul_sub]
            omega
          have db : 0 < yw_dt A B (x (b / n) - x (b % n)) (y (b / n) - y (b % n)) := by
            unfold yw_dt
            rw [Int.mul_sub, Int.mul_sub]
            omega
          have dc : 0 < yw_dt A B (x (c / n) - x (c % n)) (y (c / n) - y (c % n)) := by
            unfold yw_dt
            rw [Int.mul_sub, Int.mul_sub]
            omega
          have k := yw_plu (x (a / n) - x (a % n)) (y (a / n) - y (a % n)) (x (b / n) - x (b % n)) (y (b / n) - y (b % n)) (x (c / n) - x (c % n)) (y (c / n) - y (c % n)) A B
          have m1 := Int.mul_nonneg h1 (Int.le_of_lt dc)
          have m2 := Int.mul_nonneg h2 (Int.le_of_lt da)
          show 0 ≤ yw_cr _ _ _ _
          apply Int.le_of_not_gt
          intro z
          have m3 := Int.mul_pos (show 0 < -yw_cr (x (a / n) - x (a % n)) (y (a / n) - y (a % n)) (x (c / n) - x (c % n)) (y (c / n) - y (c % n)) by omega) db
          rw [Int.neg_mul] at m3
          omega) (n * n)
      rcases hW with hW | ⟨q0, hq0, ⟨hq1, hq2, hq3⟩, hq4⟩
      · have e1 : (i0 * n + j0) / n = i0 := by
          rw [Nat.mul_comm, Nat.mul_add_div hn, Nat.div_eq_of_lt hj0, Nat.add_zero]
        have e2 : (i0 * n + j0) % n = j0 := by
          rw [Nat.mul_comm, Nat.mul_add_mod, Nat.mod_eq_of_lt hj0]
        have e3 : i0 * n + j0 < n * n := by
          have : (i0 + 1) * n ≤ n * n := Nat.mul_le_mul_right n (by omega)
          rw [Nat.add_mul] at this
          omega
        exact absurd ⟨by rw [e1]; exact hi0, by rw [e1]; exact pi0, by rw [e2]; exact pj0⟩ (hW (i0 * n + j0) e3)
      · obtain ⟨I, hI⟩ : ∃ I, I = q0 / n := ⟨_, rfl⟩
        obtain ⟨J, hJ⟩ : ∃ J, J = q0 % n := ⟨_, rfl⟩
        have hJn : J < n := by rw [hJ]; exact Nat.mod_lt q0 hn
        rw [← hI] at hq1 hq2
        rw [← hJ] at hq3
        have hall : ∀ i j : Nat, i < n → j < n → p i = true → p j = false → 0 ≤ yw_cr (x I - x J) (y I - y J) (x i - x j) (y i - y j) := fun i j hi hj h1 h2 => by
          have e1 : (i * n + j) / n = i := by
            rw [Nat.mul_comm, Nat.mul_add_div hn, Nat.div_eq_of_lt hj, Nat.add_zero]
          have e2 : (i * n + j) % n = j := by
            rw [Nat.mul_comm, Nat.mul_add_mod, Nat.mod_eq_of_lt hj]
          have e3 : i * n + j < n * n := by
            have : (i + 1) * n ≤ n * n := Nat.mul_le_mul_right n (by omega)
            rw [Nat.add_mul] at this
            omega
          have k := hq4 (i * n + j) e3 ⟨by rw [e1]; exact hi, by rw [e1]; exact h1, by rw [e2]; exact h2⟩
          rw [e1, e2, ← hI, ← hJ] at k
          exact k
        have hIJ := hAB I J hq1 hJn hq2 hq3
        -- the last of the others on the line
        have hK := yw_min (W := fun j => p j = false ∧ yw_cr (x I - x J) (y I - y J) (x j - x J) (y j - y J) = 0) (R := fun a b => yw_dt (x I - x J) (y I - y J) (x b - x J) (y b - y J) ≤ yw_dt (x I - x J) (y I - y J) (x a - x J) (y a - y J)) (fun a b _ _ => by
          show _ ≤ _ ∨ _ ≤ _
          omega) (fun a b c _ _ _ h1 h2 => Int.le_trans h2 h1) n
        rcases hK with hK | ⟨K, hK0, ⟨hK1, hK2⟩, hK3⟩
        · exact absurd ⟨hq3, by unfold yw_cr; grind⟩ (hK J hJn)
        · have hIK := hAB I K hq1 hK0 hq2 hK1
          have dw : 0 < yw_dt A B (x I - x J) (y I - y J) := by
            unfold yw_dt
            rw [Int.mul_sub, Int.mul_sub]
            omega
          have dv : 0 < yw_dt A B (x I - x K) (y I - y K) := by
            unfold yw_dt
            rw [Int.mul_sub, Int.mul_sub]
            omega
          have hw0 : 0 < yw_dt (x I - x J) (y I - y J) (x I - x J) (y I - y J) := yw_dtp fun z => by
            rw [z.1, z.2] at dw
            unfold yw_dt at dw
            omega
          have cvw : yw_cr (x I - x J) (y I - y J) (x I - x K) (y I - y K) = 0 := by
            have e : yw_cr (x I - x J) (y I - y J) (x I - x K) (y I - y K) = -yw_cr (x I - x J) (y I - y J) (x K - x J) (y K - y J) := by
              unfold yw_cr
              grind
            omega
          refine Or.inr (Or.inr ⟨K, I, hK0, hq1, fun z => ?_, Or.inr (Or.inr (Or.inr fun k hk => ?_))⟩)
          · rw [z.1, z.2] at hIK
            omega
          · -- where k lies
            have ec : yw_cr (x I - x J) (y I - y J) (x k - x K) (y k - y K) = yw_cr (x I - x J) (y I - y J) (x k - x J) (y k - y J) := by
              have e : yw_cr (x I - x J) (y I - y J) (x k - x K) (y k - y K) = yw_cr (x I - x J) (y I - y J) (x k - x J) (y k - y J) - yw_cr (x I - x J) (y I - y J) (x K - x J) (y K - y J) := by
                unfold yw_cr
                grind
              omega
            have har : yq_ar x y K I k = yw_cr (x I - x K) (y I - y K) (x k - x K) (y k - y K) := rfl
            have hdo : yh_dot x y K I k = yw_dt (x I - x K) (y I - y K) (x k - x K) (y k - y K) := rfl
            have s1 := yw_sg (a := yq_ar x y K I k) (b := yw_dt A B (x I - x J) (y I - y J)) (c := yw_cr (x I - x J) (y I - y J) (x k - x J) (y k - y J)) (d := yw_dt A B (x I - x K) (y I - y K)) (by
              have k1 := yw_plu (x I - x K) (y I - y K) (x I - x J) (y I - y J) (x k - x K) (y k - y K) A B
              have k2 := yw_neg (x I - x J) (y I - y J) (x I - x K) (y I - y K)
              rw [har, k1, k2, cvw, ec]
              omega) dw dv
            have hvw : 0 < yw_dt (x I - x K) (y I - y K) (x I - x J) (y I - y J) := by
              have k1 := yw_lag A B (x I - x K) (y I - y K) (x I - x J) (y I - y J)
              rw [cvw, Int.mul_zero, Int.add_zero] at k1
              have k2 : 0 < yw_dt (x I - x K) (y I - y K) (x I - x J) (y I - y J) * yw_dt A B (x I - x J) (y I - y J) := by
                rw [Int.mul_comm, ← k1]
                exact Int.mul_pos dv hw0
              exact yh_pos dw (by rw [Int.mul_comm]; exact k2)
            have onl : yw_cr (x I - x J) (y I - y J) (x k - x J) (y k - y J) = 0 → (0 < yh_dot x y K I k ↔ 0 < yw_dt (x k - x K) (y k - y K) (x I - x J) (y I - y J)) := fun z => by
              have k1 := yw_lag (x I - x K) (y I - y K) (x k - x K) (y k - y K) (x I - x J) (y I - y J)
              rw [cvw, Int.zero_mul, Int.add_zero, Int.mul_comm (yw_dt (x I - x K) (y I - y K) (x I - x J) (y I - y J))] at k1
              rw [hdo]
              exact (yw_sg k1 hw0 hvw).1
            cases hp : p k
            · -- not in the set
              have k1 := hall I k hq1 hk hq2 hp
              have e1 : yw_cr (x I - x J) (y I - y J) (x I - x k) (y I - y k) = -yw_cr (x I - x J) (y I - y J) (x k - x J) (y k - y J) := by
                unfold yw_cr
                grind
              show false = !yw_rb x y K I k
              have : yw_rb x y K I k = true := by
                refine decide_eq_true ?_
                by_cases z : yw_cr (x I - x J) (y I - y J) (x k - x J) (y k - y J) = 0
                · refine Or.inr ⟨s1.2.2.mpr z, ?_⟩
                  have k2 := hK3 k hk ⟨hp, z⟩
                  apply Int.le_of_not_gt
                  intro z2
                  have k3 := (onl z).mp z2
                  have e2 : yw_dt (x k - x K) (y k - y K) (x I - x J) (y I - y J) = yw_dt (x I - x J) (y I - y J) (x k - x J) (y k - y J) - yw_dt (x I - x J) (y I - y J) (x K - x J) (y K - y J) := by
                    unfold yw_dt
                    grind
                  omega
                · exact Or.inl (s1.2.1.mpr (by omega))
              rw [this]
              rfl
            · have k1 := hall k J hk hJn hp hq3
              show true = !yw_rb x y K I k
              have : yw_rb x y K I k = false := by
                refine decide_eq_false fun z => ?_
                rcases z with z | ⟨z1, z2⟩
                · have := s1.2.1.mp z
                  omega
                · have z3 := s1.2.2.mp z1
                  have k2 := hAB k K hk hK0 hp hK1
                  have du : 0 < yw_dt A B (x k - x K) (y k - y K) := by
                    unfold yw_dt
                    rw [Int.mul_sub, Int.mul_sub]
                    omega
                  have k3 := yw_lag A B (x k - x K) (y k - y K) (x I - x J) (y I - y J)
                  rw [ec, z3, Int.mul_zero, Int.add_zero] at k3
                  have k4 : 0 < yw_dt (x k - x K) (y k - y K) (x I - x J) (y I - y J) := by
                    have k5 : 0 < yw_dt (x k - x K) (y k - y K) (x I - x J) (y I - y J) * yw_dt A B (x I - x J) (y I - y J) := by
                      rw [Int.mul_comm, ← k3]
                      exact Int.mul_pos du hw0
                    exact yh_pos dw (by rw [Int.mul_comm]; exact k5)
                  have k6 := (onl z3).mpr k4
                  omega
              rw [this]
              rfl
    · refine Or.inr (Or.inl fun j hj => ?_)
      cases hp : p j
      · exact absurd ⟨j, hj, hp⟩ h1
      · rfl
  · refine Or.inl fun j hj => ?_
    cases hp : p j
    · rfl
    · exact absurd ⟨j, hj, hp⟩ h0
theorem yw_iff {x y : Nat → Int} {n : Nat} {p : Nat → Bool} (hnr : yw_nr x y n) : yw_C x y n p ↔ yw_R x y n p := by
  refine ⟨yw_CR, fun h => ?_⟩
  rcases yw_RS hnr h with (q | q) | q
  · exact Or.inl q
  · exact Or.inr (Or.inl q)
  · exact yw_SC q
