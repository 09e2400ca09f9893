/-! ways of parting: the class's sets and the reference's are those that a line parts -/
def yw_cr (ax ay bx by_ : Int) : Int := ax * by_ - ay * bx
def yw_dt (ax ay bx by_ : Int) : Int := ax * bx + ay * by_
theorem yw_plu (ax ay bx by_ cx cy ux uy : Int) : yw_cr ax ay cx cy * yw_dt ux uy bx by_ = yw_cr ax ay bx by_ * yw_dt ux uy cx cy + yw_cr bx by_ cx cy * yw_dt ux uy ax ay := by
  unfold yw_cr yw_dt
  grind
theorem yw_lag (ax ay bx by_ wx wy : Int) : yw_dt ax ay bx by_ * yw_dt wx wy wx wy = yw_dt ax ay wx wy * yw_dt bx by_ wx wy + yw_cr wx wy ax ay * yw_cr wx wy bx by_ := by
  unfold yw_cr yw_dt
  grind
theorem yw_neg (ax ay bx by_ : Int) : yw_cr bx by_ ax ay = -yw_cr ax ay bx by_ := by
  unfold yw_cr
  grind
theorem yw_pp {a b : Int} (hb : 0 < b) (h : 0 < a * b) : 0 < a := Int.pos_of_mul_pos_left h hb
theorem yw_sg {a b c d : Int} (h : a * b = c * d) (hb : 0 < b) (hd : 0 < d) : (0 < a ↔ 0 < c) ∧ (a < 0 ↔ c < 0) ∧ (a = 0 ↔ c = 0) := by
  have key : ∀ {a b c d : Int}, a * b = c * d → 0 < b → 0 < d → 0 < a → 0 < c := fun {a b c d} h hb hd ha => by
    have h1 : 0 < a * b := Int.mul_pos ha hb
    rw [h] at h1
    exact yh_pos hd (by rw [Int.mul_comm]; exact h1)
  have p1 : 0 < a ↔ 0 < c := ⟨key h hb hd, key h.symm hd hb⟩
  have hn : -a * b = -c * d := by rw [Int.neg_mul, Int.neg_mul, h]
  have p2 : 0 < -a ↔ 0 < -c := ⟨key hn hb hd, key hn.symm hd hb⟩
  refine ⟨p1, ⟨fun z => by have := p2.mp (by omega); omega, fun z => by have := p2.mpr (by omega); omega⟩, ⟨fun z => ?_, fun z => ?_⟩⟩
  · have q1 := p1
    have q2 := p2
    omega
  · have q1 := p1
    have q2 := p2
    omega
/-- a least one of finitely many -/
theorem yw_min {W : Nat → Prop} {R : Nat → Nat → Prop} (ht : ∀ a b, W a → W b → R a b ∨ R b a) (htr : ∀ a b c, W a → W b → W c → R a b → R b c → R a c) : ∀ N : Nat, (∀ q, q < N → ¬ W q) ∨ ∃ q0, q0 < N ∧ W q0 ∧ ∀ q, q < N → W q → R q0 q
  | 0 => Or.inl fun q hq => absurd hq (Nat.not_lt_zero q)
  | N + 1 => by
    rcases yw_min ht htr N with h | ⟨q0, h1, h2, h3⟩
    · by_cases hw : W N
      · refine Or.inr ⟨N, Nat.lt_succ_self N, hw, fun q hq hq2 => ?_⟩
        by_cases e : q = N
        · rw [e]
          rcases ht N N hw hw with z | z <;> exact z
        · exact absurd hq2 (h q (by omega))
      · refine Or.inl fun q hq hq2 => ?_
        by_cases e : q = N
        · rw [e] at hq2
          exact hw hq2
        · exact h q (by omega) hq2
    · by_cases hw : W N
      · rcases ht q0 N h2 hw with z | z
        · refine Or.inr ⟨q0, by omega, h2, fun q hq hq2 => ?_⟩
          by_cases e : q = N
          · rw [e]
            exact z
          · exact h3 q (by omega) hq2
        · refine Or.inr ⟨N, Nat.lt_succ_self N, hw, fun q hq hq2 => ?_⟩
          by_cases e : q = N
          · rw [e]
            rcases ht N N hw hw with z | z <;> exact z
          · exact htr N q0 q hw h2 hq2 z (h3 q (by omega) hq2)
      · refine Or.inr ⟨q0, by omega, h2, fun q hq hq2 => ?_⟩
        by_cases e : q = N
        · rw [e] at hq2
          exact absurd hq2 hw
        · exact h3 q (by omega) hq2
def yw_eq (n : Nat) (p q : Nat → Bool) : Prop := ∀ j : Nat, j < n → p j = q j
def yw_sep (x y : Nat → Int) (n : Nat) (p : Nat → Bool) : Prop := ∃ A B : Int, ∀ i j : Nat, i < n → j < n → p i = true → p j = false → A * x j + B * y j < A * x i + B * y i
/-- the class's sets along the way from i to k -/
def yw_lb (x y : Nat → Int) (i k : Nat) : Nat → Bool := fun j => decide (0 < yq_ar x y i k j ∨ (yq_ar x y i k j = 0 ∧ yh_dot x y i k j ≤ 0))
def yw_rb (x y : Nat → Int) (i k : Nat) : Nat → Bool := fun j => decide (yq_ar x y i k j < 0 ∨ (yq_ar x y i k j = 0 ∧ yh_dot x y i k j ≤ 0))
def yw_C (x y : Nat → Int) (n : Nat) (p : Nat → Bool) : Prop := yw_eq n p (fun _ => false) ∨ yw_eq n p (fun _ => true) ∨ ∃ i k : Nat, i < n ∧ k < n ∧ ¬ (x i = x k ∧ y i = y k) ∧ (yw_eq n p (yw_lb x y i k) ∨ yw_eq n p (fun j => !yw_lb x y i k j) ∨ yw_eq n p (yw_rb x y i k) ∨ yw_eq n p (fun j => !yw_rb x y i k j))
/-- the reference's sets -/
def yw_fu (x y : Nat → Int) (a b j : Nat) : Int := (x b - x a) * x j + (y b - y a) * y j
def yw_up (x y : Nat → Int) (a b i : Nat) : Nat → Bool := fun j => decide (0 < yq_ar x y a b j ∨ (yq_ar x y a b j = 0 ∧ yw_fu x y a b j ≤ yw_fu x y a b i))
def yw_ah (x y : Nat → Int) (a b i : Nat) : Nat → Bool := fun j => decide (0 < yq_ar x y a b j ∨ (yq_ar x y a b j = 0 ∧ yw_fu x y a b j < yw_fu x y a b i))
def yw_fr (x y : Nat → Int) (a b i : Nat) : Nat → Bool := fun j => decide (0 < yq_ar x y a b j ∨ (yq_ar x y a b j = 0 ∧ yw_fu x y a b i ≤ yw_fu x y a b j))
def yw_bh (x y : Nat → Int) (a b i : Nat) : Nat → Bool := fun j => decide (0 < yq_ar x y a b j ∨ (yq_ar x y a b j = 0 ∧ yw_fu x y a b i < yw_fu x y a b j))
def yw_R (x y : Nat → Int) (n : Nat) (p : Nat → Bool) : Prop := yw_eq n p (fun _ => false) ∨ yw_eq n p (fun _ => true) ∨ ∃ a b i : Nat, a < n ∧ b < n ∧ i < n ∧ ¬ (x a = x b ∧ y a = y b) ∧ yq_ar x y a b i = 0 ∧ (yw_eq n p (yw_up x y a b i) ∨ yw_eq n p (yw_ah x y a b i) ∨ yw_eq n p (yw_fr x y a b i) ∨ yw_eq n p (yw_bh x y a b i))
theorem yw_arn (x y : Nat → Int) (i k j : Nat) : yq_ar x y k i j = -yq_ar x y i k j := by
  unfold yq_ar
  grind
theorem yw_ari (x y : Nat → Int) (i k : Nat) : yq_ar x y i k i = 0 := by
  unfold yq_ar
  grind
theorem yw_fud (x y : Nat → Int) (i k j : Nat) : yh_dot x y i k j = yw_fu x y i k j - yw_fu x y i k i := by
  unfold yh_dot yw_fu
  grind
theorem yw_fun (x y : Nat → Int) (i k j : Nat) : yw_fu x y k i j = -yw_fu x y i k j := by
  unfold yw_fu
  grind
theorem yw_dec {P Q : Prop} [Decidable P] [Decidable Q] (h : P ↔ Q) : decide P = decide Q := by
  by_cases q : Q
  · rw [decide_eq_true q, decide_eq_true (h.mpr q)]
  · rw [decide_eq_false q, decide_eq_false (fun z => q (h.mp z))]
theorem yw_decn {P Q : Prop} [Decidable P] [Decidable Q] (h : P ↔ ¬ Q) : decide P = !decide Q := by
  by_cases q : Q
  · rw [decide_eq_true q, decide_eq_false (fun z => h.mp z q)]
    rfl
  · rw [decide_eq_false q, decide_eq_true (h.mpr q)]
    rfl
/-- the class's sets are among the reference's -/
theorem yw_CR {x y : Nat → Int} {n : Nat} {p : Nat → Bool} (h : yw_C x y n p) : yw_R x y n p := by
  rcases h with h | h | ⟨i, k, hi, hk, hs, h⟩
  · exact Or.inl h
  · exact Or.inr (Or.inl h)
  · refine Or.inr (Or.inr ?_)
    have hs' : ¬ (x k = x i ∧ y k = y i) := fun z => hs ⟨z.1.symm, z.2.symm⟩
    rcases h with h | h | h | h
    · refine ⟨i, k, i, hi, hk, hi, hs, yw_ari x y i k, Or.inl fun j hj => (h j hj).trans (yw_dec ?_)⟩
      rw [yw_fud]
      omega
    · refine ⟨k, i, i, hk, hi, hi, hs', by rw [yw_arn, yw_ari]; rfl, Or.inr (Or.inl fun j hj => (h j hj).trans ?_)⟩
      refine (yw_decn ?_).symm
      rw [yw_arn, yw_fun, yw_fun, yw_fud]
      omega
    · refine ⟨k, i, i, hk, hi, hi, hs', by rw [yw_arn, yw_ari]; rfl, Or.inr (Or.inr (Or.inl fun j hj => (h j hj).trans (yw_dec ?_)))⟩
      rw [yw_arn, yw_fun, yw_fun, yw_fud]
      omega
    · refine ⟨i, k, i, hi, hk, hi, hs, yw_ari x y i k, Or.inr (Or.inr (Or.inr fun j hj => (h j hj).trans ?_))⟩
      refine (yw_decn ?_).symm
      rw [yw_fud]
      omega
/-- places not too far -/
def yw_nr (x y : Nat → Int) (n : Nat) : Prop := ∀ j : Nat, j < n → -300 ≤ x j ∧ x j ≤ 1000 ∧ -300 ≤ y j ∧ y j ≤ 1000
theorem yw_mb {a b A B : Int} (h1 : -A ≤ a) (h2 : a ≤ A) (h3 : -B ≤ b) (h4 : b ≤ B) : -(A * B) ≤ a * b ∧ a * b ≤ A * B := by
  have hA : 0 ≤ A := by omega
  have hB : 0 ≤ B := by omega
  have k1 : 0 ≤ (A - a) * (B + b) := Int.mul_nonneg (by omega) (by omega)
  have k2 : 0 ≤ (A + a) * (B - b) := Int.mul_nonneg (by omega) (by omega)
  have k3 : 0 ≤ (A - a) * (B - b) := Int.mul_nonneg (by omega) (by omega)
  have k4 : 0 ≤ (A + a) * (B + b) := Int.mul_nonneg (by omega) (by omega)
  have e1 : (A - a) * (B + b) = A * B + A * b - a * B - a * b := by grind
  have e2 : (A + a) * (B - b) = A * B - A * b + a * B - a * b := by grind
  have e3 : (A - a) * (B - b) = A * B - A * b - a * B + a * b := by grind
  have e4 : (A + a) * (B + b) = A * B + A * b + a * B + a * b := by grind
  omega
theorem yw_fub {x y : Nat → Int} {n a b i j : Nat} (h : yw_nr x y n) (ha : a < n) (hb : b < n) (hi : i < n) (hj : j < n) : yw_fu x y a b i - yw_fu x y a b j ≤ 4000000 := by
  have h1 := h a ha
  have h2 := h b hb
  have h3 := h i hi
  have h4 := h j hj
  have e : yw_fu x y a b i - yw_fu x y a b j = (x b - x a) * (x i - x j) + (y b - y a) * (y i - y j) := by
    unfold yw_fu
    grind
  have k1 := yw_mb (a := x b - x a) (b := x i - x j) (A := 1300) (B := 1300) (by omega) (by omega) (by omega) (by omega)
  have k2 := yw_mb (a := y b - y a) (b := y i - y j) (A := 1300) (B := 1300) (by omega) (by omega) (by omega) (by omega)
  omega
/-- what the reference takes, a line parts: side and way together -/
theorem yw_lin {x y : Nat → Int} {n a b : Nat} {s : Int} {p : Nat → Bool} (hnr : yw_nr x y n) (ha : a < n) (hb : b < n) (hs : s = 1 ∨ s = -1) (h : ∀ i j : Nat, i < n → j < n → p i = true → p j = false → yq_ar x y a b j < yq_ar x y a b i ∨ (yq_ar x y a b j = yq_ar x y a b i ∧ s * yw_fu x y a b j < s * yw_fu x y a b i)) : yw_sep x y n p := by
  refine ⟨-(y b - y a) * 10000000 + s * (x b - x a), (x b - x a) * 10000000 + s * (y b - y a), fun i j hi hj h1 h2 => ?_⟩
  have e : ∀ k : Nat, (-(y b - y a) * 10000000 + s * (x b - x a)) * x k + ((x b - x a) * 10000000 + s * (y b - y a)) * y k = 10000000 * (yq_ar x y a b k + ((x b - x a) * y a - (y b - y a) * x a)) + s * yw_fu x y a b k := fun k => by
    unfold yq_ar yw_fu
    grind
  rw [e i, e j]
  have b1 := yw_fub hnr ha hb hi hj
  have b2 := yw_fub hnr ha hb hj hi
  rcases h i j hi hj h1 h2 with q | ⟨q1, q2⟩
  · rcases hs with z | z
    · rw [z]
      omega
    · rw [z]
      omega
  · rw [q1]
    omega
theorem yw_RS {x y : Nat → Int} {n : Nat} {p : Nat → Bool} (hnr : yw_nr x y n) (h : yw_R x y n p) : (yw_eq n p (fun _ => false) ∨ yw_eq n p (fun _ => true)) ∨ yw_sep x y n p := by
  rcases h with h | h | ⟨a, b, i, ha, hb, hi, hs, ho, h⟩
  · exact Or.inl (Or.inl h)
  · exact Or.inl (Or.inr h)
  · refine Or.inr ?_
    rcases h with h | h | h | h
    · refine yw_lin hnr ha hb (Or.inr rfl) fun k l hk hl h1 h2 => ?_
      rw [h k hk] at h1
      rw [h l hl] at h2
      have q1 := of_decide_eq_true h1
      have q2 := of_decide_eq_false h2
      omega
    · refine yw_lin hnr ha hb (Or.inr rfl) fun k l hk hl h1 h2 => ?_
      rw [h k hk] at h1
      rw [h l hl] at h2
      have q1 := of_decide_eq_true h1
      have q2 := of_decide_eq_false h2
      omega
    · refine yw_lin hnr ha hb (Or.inl rfl) fun k l hk hl h1 h2 => ?_
      rw [h k hk] at h1
      rw [h l hl] at h2
      have q1 := of_decide_eq_true h1
      have q2 := of_decide_eq_false h2
      omega
    · refine yw_lin hnr ha hb (Or.inl rfl) fun k l hk hl h1 h2 => ?_
      rw [h k hk] at h1
      rw [h l hl] at h2
      have q1 := of_decide_eq_true h1
      have q2 := of_decide_eq_false h2
      omega
theorem yw_dtp {wx wy : Int} (h : ¬ (wx = 0 ∧ wy = 0)) : 0 < yw_dt wx wy wx wy := by
  unfold yw_dt
  have h1 : 0 ≤ wx * wx := by
    by_cases q : 0 ≤ wx
    · exact Int.mul_nonneg q q
    · have := Int.mul_nonneg (show 0 ≤ -wx by omega) (show 0 ≤ -wx by omega)
      rw [Int.neg_mul_neg] at this
      exact this
  have h2 : 0 ≤ wy * wy := by
    by_cases q : 0 ≤ wy
    · exact Int.mul_nonneg q q
    · have := Int.mul_nonneg (show 0 ≤ -wy by omega) (show 0 ≤ -wy by omega)
      rw [Int.neg_mul_neg] at this
      exact this
  have h3 : wx * wx = 0 → wx = 0 := fun z => by
    rcases Int.mul_eq_zero.mp z with q | q <;> exact q
  have h4 : wy * wy = 0 → wy = 0 := fun z => by
    rcases Int.mul_eq_zero.mp z with q | q <;> exact q
  by_cases q1 : wx * wx = 0
  · by_cases q2 : wy * wy = 0
    · exact absurd ⟨h3 q1, h4 q2⟩ h
    · omega
  · omega
/-- a parted set is among the class's: turn the line until it touches both -/
theorem yw_SC {x y : Nat → Int} {n : Nat} {p : Nat → Bool} (h : yw_sep x y n p) : yw_C x y n p := by
  obtain ⟨A, B, hAB⟩ := h
  by_cases h0 : ∃ i : Nat, i < n ∧ p i = true
  · by_cases h1 : ∃ j : Nat, j < n ∧ p j = false
    · obtain ⟨i0, hi0, pi0⟩ := h0
      obtain ⟨j0, hj0, pj0⟩ := h1
      have hn : 0 < n := by omega
      -- pairs, as numbers
      have hW := yw_min (W := fun q => q / n < n ∧ p (q / n) = true ∧ p (q % n) = false) (R := fun q r => 0 ≤ yw_cr (x (q / n) - x (q % n)) (y (q / n) - y (q % n)) (x (r / n) - x (r % n)) (y (r / n) - y (r % n))) (fun a b _ _ => by
          show 0 ≤ yw_cr _ _ _ _ ∨ 0 ≤ yw_cr _ _ _ _
          have k := yw_neg (x (a / n) - x (a % n)) (y (a / n) - y (a % n)) (x (b / n) - x (b % n)) (y (b / n) - y (b % n))
          omega) (fun a b c ha hb hc h1 h2 => by
          have ka := hAB (a / n) (a % n) ha.1 (Nat.mod_lt a hn) ha.2.1 ha.2.2
          have kb := hAB (b / n) (b % n) hb.1 (Nat.mod_lt b hn) hb.2.1 hb.2.2
          have kc := hAB (c / n) (c % n) hc.1 (Nat.mod_lt c hn) hc.2.1 hc.2.2
          have da : 0 < yw_dt A B (x (a / n) - x (a % n)) (y (a / n) - y (a % n)) := by
            unfold yw_dt
            rw [Int.mul_sub, Int.mul_sub]
            omega
          have db : 0 < yw_dt A B (x (b / n) - x (b % n)) (y (b / n) - y (b % n)) := by
            unfold yw_dt
            rw [Int.mul_sub, Int.mul_sub]
            omega
          have dc : 0 < yw_dt A B (x (c / n) - x (c % n)) (y (c / n) - y (c % n)) := by
            unfold yw_dt
            rw [Int.mul_sub, Int.mul_sub]
            omega
          have k := yw_plu (x (a / n) - x (a % n)) (y (a / n) - y (a % n)) (x (b / n) - x (b % n)) (y (b / n) - y (b % n)) (x (c / n) - x (c % n)) (y (c / n) - y (c % n)) A B
          have m1 := Int.mul_nonneg h1 (Int.le_of_lt dc)
          have m2 := Int.mul_nonneg h2 (Int.le_of_lt da)
          show 0 ≤ yw_cr _ _ _ _
          apply Int.le_of_not_gt
          intro z
          have m3 := Int.mul_pos (show 0 < -yw_cr (x (a / n) - x (a % n)) (y (a / n) - y (a % n)) (x (c / n) - x (c % n)) (y (c / n) - y (c % n)) by omega) db
          rw [Int.neg_mul] at m3
          omega) (n * n)
      rcases hW with hW | ⟨q0, hq0, ⟨hq1, hq2, hq3⟩, hq4⟩
      · have e1 : (i0 * n + j0) / n = i0 := by
          rw [Nat.mul_comm, Nat.mul_add_div hn, Nat.div_eq_of_lt hj0, Nat.add_zero]
        have e2 : (i0 * n + j0) % n = j0 := by
          rw [Nat.mul_comm, Nat.mul_add_mod, Nat.mod_eq_of_lt hj0]
        have e3 : i0 * n + j0 < n * n := by
          have : (i0 + 1) * n ≤ n * n := Nat.mul_le_mul_right n (by omega)
          rw [Nat.add_mul] at this
          omega
        exact absurd ⟨by rw [e1]; exact hi0, by rw [e1]; exact pi0, by rw [e2]; exact pj0⟩ (hW (i0 * n + j0) e3)
      · obtain ⟨I, hI⟩ : ∃ I, I = q0 / n := ⟨_, rfl⟩
        obtain ⟨J, hJ⟩ : ∃ J, J = q0 % n := ⟨_, rfl⟩
        have hJn : J < n := by rw [hJ]; exact Nat.mod_lt q0 hn
        rw [← hI] at hq1 hq2
        rw [← hJ] at hq3
        have hall : ∀ i j : Nat, i < n → j < n → p i = true → p j = false → 0 ≤ yw_cr (x I - x J) (y I - y J) (x i - x j) (y i - y j) := fun i j hi hj h1 h2 => by
          have e1 : (i * n + j) / n = i := by
            rw [Nat.mul_comm, Nat.mul_add_div hn, Nat.div_eq_of_lt hj, Nat.add_zero]
          have e2 : (i * n + j) % n = j := by
            rw [Nat.mul_comm, Nat.mul_add_mod, Nat.mod_eq_of_lt hj]
          have e3 : i * n + j < n * n := by
            have : (i + 1) * n ≤ n * n := Nat.mul_le_mul_right n (by omega)
            rw [Nat.add_mul] at this
            omega
          have k := hq4 (i * n + j) e3 ⟨by rw [e1]; exact hi, by rw [e1]; exact h1, by rw [e2]; exact h2⟩
          rw [e1, e2, ← hI, ← hJ] at k
          exact k
        have hIJ := hAB I J hq1 hJn hq2 hq3
        -- the last of the others on the line
        have hK := yw_min (W := fun j => p j = false ∧ yw_cr (x I - x J) (y I - y J) (x j - x J) (y j - y J) = 0) (R := fun a b => yw_dt (x I - x J) (y I - y J) (x b - x J) (y b - y J) ≤ yw_dt (x I - x J) (y I - y J) (x a - x J) (y a - y J)) (fun a b _ _ => by
          show _ ≤ _ ∨ _ ≤ _
          omega) (fun a b c _ _ _ h1 h2 => Int.le_trans h2 h1) n
        rcases hK with hK | ⟨K, hK0, ⟨hK1, hK2⟩, hK3⟩
        · exact absurd ⟨hq3, by unfold yw_cr; grind⟩ (hK J hJn)
        · have hIK := hAB I K hq1 hK0 hq2 hK1
          have dw : 0 < yw_dt A B (x I - x J) (y I - y J) := by
            unfold yw_dt
            rw [Int.mul_sub, Int.mul_sub]
            omega
          have dv : 0 < yw_dt A B (x I - x K) (y I - y K) := by
            unfold yw_dt
            rw [Int.mul_sub, Int.mul_sub]
            omega
          have hw0 : 0 < yw_dt (x I - x J) (y I - y J) (x I - x J) (y I - y J) := yw_dtp fun z => by
            rw [z.1, z.2] at dw
            unfold yw_dt at dw
            omega
          have cvw : yw_cr (x I - x J) (y I - y J) (x I - x K) (y I - y K) = 0 := by
            have e : yw_cr (x I - x J) (y I - y J) (x I - x K) (y I - y K) = -yw_cr (x I - x J) (y I - y J) (x K - x J) (y K - y J) := by
              unfold yw_cr
              grind
            omega
          refine Or.inr (Or.inr ⟨K, I, hK0, hq1, fun z => ?_, Or.inr (Or.inr (Or.inr fun k hk => ?_))⟩)
          · rw [z.1, z.2] at hIK
            omega
          · -- where k lies
            have ec : yw_cr (x I - x J) (y I - y J) (x k - x K) (y k - y K) = yw_cr (x I - x J) (y I - y J) (x k - x J) (y k - y J) := by
              have e : yw_cr (x I - x J) (y I - y J) (x k - x K) (y k - y K) = yw_cr (x I - x J) (y I - y J) (x k - x J) (y k - y J) - yw_cr (x I - x J) (y I - y J) (x K - x J) (y K - y J) := by
                unfold yw_cr
                grind
              omega
            have har : yq_ar x y K I k = yw_cr (x I - x K) (y I - y K) (x k - x K) (y k - y K) := rfl
            have hdo : yh_dot x y K I k = yw_dt (x I - x K) (y I - y K) (x k - x K) (y k - y K) := rfl
            have s1 := yw_sg (a := yq_ar x y K I k) (b := yw_dt A B (x I - x J) (y I - y J)) (c := yw_cr (x I - x J) (y I - y J) (x k - x J) (y k - y J)) (d := yw_dt A B (x I - x K) (y I - y K)) (by
              have k1 := yw_plu (x I - x K) (y I - y K) (x I - x J) (y I - y J) (x k - x K) (y k - y K) A B
              have k2 := yw_neg (x I - x J) (y I - y J) (x I - x K) (y I - y K)
              rw [har, k1, k2, cvw, ec]
              omega) dw dv
            have hvw : 0 < yw_dt (x I - x K) (y I - y K) (x I - x J) (y I - y J) := by
              have k1 := yw_lag A B (x I - x K) (y I - y K) (x I - x J) (y I - y J)
              rw [cvw, Int.mul_zero, Int.add_zero] at k1
              have k2 : 0 < yw_dt (x I - x K) (y I - y K) (x I - x J) (y I - y J) * yw_dt A B (x I - x J) (y I - y J) := by
                rw [Int.mul_comm, ← k1]
                exact Int.mul_pos dv hw0
              exact yh_pos dw (by rw [Int.mul_comm]; exact k2)
            have onl : yw_cr (x I - x J) (y I - y J) (x k - x J) (y k - y J) = 0 → (0 < yh_dot x y K I k ↔ 0 < yw_dt (x k - x K) (y k - y K) (x I - x J) (y I - y J)) := fun z => by
              have k1 := yw_lag (x I - x K) (y I - y K) (x k - x K) (y k - y K) (x I - x J) (y I - y J)
              rw [cvw, Int.zero_mul, Int.add_zero, Int.mul_comm (yw_dt (x I - x K) (y I - y K) (x I - x J) (y I - y J))] at k1
              rw [hdo]
              exact (yw_sg k1 hw0 hvw).1
            cases hp : p k
            · -- not in the set
              have k1 := hall I k hq1 hk hq2 hp
              have e1 : yw_cr (x I - x J) (y I - y J) (x I - x k) (y I - y k) = -yw_cr (x I - x J) (y I - y J) (x k - x J) (y k - y J) := by
                unfold yw_cr
                grind
              show false = !yw_rb x y K I k
              have : yw_rb x y K I k = true := by
                refine decide_eq_true ?_
                by_cases z : yw_cr (x I - x J) (y I - y J) (x k - x J) (y k - y J) = 0
                · refine Or.inr ⟨s1.2.2.mpr z, ?_⟩
                  have k2 := hK3 k hk ⟨hp, z⟩
                  apply Int.le_of_not_gt
                  intro z2
                  have k3 := (onl z).mp z2
                  have e2 : yw_dt (x k - x K) (y k - y K) (x I - x J) (y I - y J) = yw_dt (x I - x J) (y I - y J) (x k - x J) (y k - y J) - yw_dt (x I - x J) (y I - y J) (x K - x J) (y K - y J) := by
                    unfold yw_dt
                    grind
                  omega
                · exact Or.inl (s1.2.1.mpr (by omega))
              rw [this]
              rfl
            · have k1 := hall k J hk hJn hp hq3
              show true = !yw_rb x y K I k
              have : yw_rb x y K I k = false := by
                refine decide_eq_false fun z => ?_
                rcases z with z | ⟨z1, z2⟩
                · have := s1.2.1.mp z
                  omega
                · have z3 := s1.2.2.mp z1
                  have k2 := hAB k K hk hK0 hp hK1
                  have du : 0 < yw_dt A B (x k - x K) (y k - y K) := by
                    unfold yw_dt
                    rw [Int.mul_sub, Int.mul_sub]
                    omega
                  have k3 := yw_lag A B (x k - x K) (y k - y K) (x I - x J) (y I - y J)
                  rw [ec, z3, Int.mul_zero, Int.add_zero] at k3
                  have k4 : 0 < yw_dt (x k - x K) (y k - y K) (x I - x J) (y I - y J) := by
                    have k5 : 0 < yw_dt (x k - x K) (y k - y K) (x I - x J) (y I - y J) * yw_dt A B (x I - x J) (y I - y J) := by
                      rw [Int.mul_comm, ← k3]
                      exact Int.mul_pos du hw0
                    exact yh_pos dw (by rw [Int.mul_comm]; exact k5)
                  have k6 := (onl z3).mpr k4
                  omega
              rw [this]
              rfl
    · refine Or.inr (Or.inl fun j hj => ?_)
      cases hp : p j
      · exact absurd ⟨j, hj, hp⟩ h1
      · rfl
  · refine Or.inl fun j hj => ?_
    cases hp : p j
    · rfl
    · exact absurd ⟨j, hj, hp⟩ h0
theorem yw_iff {x y : Nat → Int} {n : Nat} {p : Nat → Bool} (hnr : yw_nr x y n) : yw_C x y n p ↔ yw_R x y n p := by
  refine ⟨yw_CR, fun h => ?_⟩
  rcases yw_RS hnr h with (q | q) | q
  · exact Or.inl q
  · exact Or.inr (Or.inl q)
  · exact yw_SC q
/-! sets as bits of rows of longs -/
def yw_mk (m : Nat → Int) (s : Nat) : Bool := (Int64.ofInt (m (s / 64))).toBitVec.getLsbD (s % 64)
theorem yw_and63 {z w : Int} (h0 : 0 ≤ z) (h1 : z ≤ 4095) (hw0 : 0 ≤ w) (hw : w ≤ 63) (h : Int32.ofInt w = Int32.ofInt z &&& Int32.ofInt 63) : w = z % 64 := by
  have h7 := yb_andi z.toNat 63
  rw [show ((63 : Nat) : Int) = 63 from rfl, show ((z.toNat : Nat) : Int) = z by omega, show z.toNat &&& 63 = z.toNat % 64 from Nat.and_two_pow_sub_one_eq_mod z.toNat 6] at h7
  have h8 := yb_i32 (by omega) (by omega) (by omega) (by omega) (h.trans h7)
  omega
theorem yw_hi {s w1 w2 : Int} (h0 : 0 ≤ s) (h1 : s ≤ 4095) (a0 : -2147483648 ≤ w1) (a1 : w1 ≤ 2147483647) (b0 : 0 ≤ w2) (b1 : w2 ≤ 63) (e1 : Int32.ofInt w1 = Int32.ofInt s >>> (Int32.ofInt 6 &&& 31)) (e2 : Int32.ofInt w2 = Int32.ofInt w1 &&& Int32.ofInt 63) : w2 = s / 64 := by
  have h2 := yb_shr h0 h1 (by decide) (by decide) a0 a1 e1
  rw [show (((2 : Nat) ^ (6 : Int).toNat : Nat) : Int) = 64 from rfl] at h2
  have h3 := yw_and63 (by omega) (by omega) b0 b1 e2
  omega
def yw_ck1 : Bool := (List.range 64).all fun b => decide ((Int64.ofInt 1 <<< ((Int32.ofInt (b : Int)).toInt64 &&& 63)).toBitVec.toNat = 2 ^ b)
theorem yw_ck1_ok : yw_ck1 = true := by decide +kernel
def yw_ck2 : Bool := (List.range 64).all fun b => decide ((((Int32.ofInt (b : Int)).toInt64 &&& 63).toBitVec.smod 64).toNat = b)
theorem yw_ck2_ok : yw_ck2 = true := by decide +kernel
theorem yw_one {z b : Int} (h0 : 0 ≤ b) (h1 : b ≤ 63) (e : Int64.ofInt z = Int64.ofInt 1 <<< ((Int32.ofInt b).toInt64 &&& 63)) (i : Nat) : (Int64.ofInt z).toBitVec.getLsbD i = decide (b.toNat = i) := by
  have h := of_decide_eq_true (List.all_eq_true.mp yw_ck1_ok b.toNat (List.mem_range.mpr (by omega)))
  rw [show ((b.toNat : Nat) : Int) = b by omega, ← e] at h
  rw [← BitVec.testBit_toNat, h, Nat.testBit_two_pow]
theorem yw_mkw {m m' : Nat → Int} {s0 w1 w2 b x z y : Int} (hs0 : 0 ≤ s0) (hs : s0 ≤ 4095) (a0 : -2147483648 ≤ w1) (a1 : w1 ≤ 2147483647) (c0 : 0 ≤ w2) (c1 : w2 ≤ 63) (d0 : 0 ≤ b) (d1 : b ≤ 63) (e1 : Int32.ofInt w1 = Int32.ofInt s0 >>> (Int32.ofInt 6 &&& 31)) (e2 : Int32.ofInt w2 = Int32.ofInt w1 &&& Int32.ofInt 63) (e3 : Int32.ofInt b = Int32.ofInt s0 &&& Int32.ofInt 63) (e4 : Int64.ofInt z = Int64.ofInt 1 <<< ((Int32.ofInt b).toInt64 &&& 63)) (hx : x = m w2.toNat) (e5 : Int64.ofInt y = Int64.ofInt x ||| Int64.ofInt z) (hm : m' = yq_set m w2.toNat y) : ∀ s : Nat, s < 4096 → yw_mk m' s = (yw_mk m s || decide (s = s0.toNat)) := by
  intro s hs4
  have q1 := yw_hi hs0 hs a0 a1 c0 c1 e1 e2
  have q2 := yw_and63 hs0 hs d0 d1 e3
  unfold yw_mk
  rw [hm]
  unfold yq_set
  by_cases h : s / 64 = w2.toNat
  · rw [if_pos h, e5, show (Int64.ofInt x ||| Int64.ofInt z).toBitVec = (Int64.ofInt x).toBitVec ||| (Int64.ofInt z).toBitVec from rfl, BitVec.getLsbD_or, yw_one d0 d1 e4, hx, h]
    congr 1
    exact yw_dec (by omega)
  · rw [if_neg h, show (decide (s = s0.toNat) : Bool) = false from decide_eq_false (by omega), Bool.or_false]
theorem yw_mkr {m : Nat → Int} {s0 w1 w2 b x q t : Int} (hs0 : 0 ≤ s0) (hs : s0 ≤ 4095) (a0 : -2147483648 ≤ w1) (a1 : w1 ≤ 2147483647) (c0 : 0 ≤ w2) (c1 : w2 ≤ 63) (d0 : 0 ≤ b) (d1 : b ≤ 63) (t0 : 0 ≤ t) (t1 : t ≤ 1) (e1 : Int32.ofInt w1 = Int32.ofInt s0 >>> (Int32.ofInt 6 &&& 31)) (e2 : Int32.ofInt w2 = Int32.ofInt w1 &&& Int32.ofInt 63) (hx : x = m w2.toNat) (e3 : Int32.ofInt b = Int32.ofInt s0 &&& Int32.ofInt 63) (e4 : Int64.ofInt q = Int64.ofInt x >>> ((Int32.ofInt b).toInt64 &&& 63)) (e5 : Int64.ofInt t = Int64.ofInt q &&& Int64.ofInt 1) : t = if yw_mk m s0.toNat = true then 1 else 0 := by
  have q1 := yw_hi hs0 hs a0 a1 c0 c1 e1 e2
  have q2 := yw_and63 hs0 hs d0 d1 e3
  have h := of_decide_eq_true (List.all_eq_true.mp yw_ck2_ok b.toNat (List.mem_range.mpr (by omega)))
  rw [show ((b.toNat : Nat) : Int) = b by omega] at h
  have hq : (Int64.ofInt q).toBitVec.getLsbD 0 = yw_mk m s0.toNat := by
    rw [e4, show (Int64.ofInt x >>> ((Int32.ofInt b).toInt64 &&& 63)).toBitVec = BitVec.sshiftRight' (Int64.ofInt x).toBitVec (((Int32.ofInt b).toInt64 &&& 63).toBitVec.smod 64) from rfl, BitVec.getLsbD_sshiftRight', h]
    unfold yw_mk
    rw [show (decide (64 ≤ 0) : Bool) = false from rfl, if_pos (by omega), hx, show s0.toNat / 64 = w2.toNat by omega, show s0.toNat % 64 = b.toNat by omega, Nat.add_zero]
    rfl
  have ht : (Int64.ofInt t).toBitVec.getLsbD 0 = (yw_mk m s0.toNat && true) := by
    rw [e5, show (Int64.ofInt q &&& Int64.ofInt 1).toBitVec = (Int64.ofInt q).toBitVec &&& (Int64.ofInt 1).toBitVec from rfl, BitVec.getLsbD_and, hq]
    rfl
  rw [Bool.and_true] at ht
  rw [← ht]
  rcases (show t = 0 ∨ t = 1 by omega) with z | z
  · rw [z]
    rfl
  · rw [z]
    rfl
/-! sets of the first n, as numbers -/
theorem yw_tbe {p : Nat → Bool} {n u : Nat} (hu : u < 2 ^ n) (h : ∀ j : Nat, j < n → u.testBit j = p j) : u = yb_st p n := Nat.eq_of_testBit_eq fun i => by
  rw [yb_tb]
  by_cases q : i < n
  · rw [decide_eq_true q, Bool.true_and]
    exact h i q
  · rw [decide_eq_false q, Bool.false_and]
    exact Nat.testBit_lt_two_pow (Nat.lt_of_lt_of_le hu (Nat.pow_le_pow_right (by decide) (by omega)))
theorem yw_st_i {p q : Nat → Bool} {n : Nat} (h : yb_st p n = yb_st q n) : yw_eq n p q := fun j hj => by
  have k := congrArg (fun u => Nat.testBit u j) h
  have k : (yb_st p n).testBit j = (yb_st q n).testBit j := k
  rw [yb_tb, yb_tb, decide_eq_true hj, Bool.true_and, Bool.true_and] at k
  exact k
theorem yw_or2 (p q : Nat → Bool) (n : Nat) : yb_st p n ||| yb_st q n = yb_st (fun j => p j || q j) n := Nat.eq_of_testBit_eq fun i => by
  rw [Nat.testBit_or, yb_tb, yb_tb, yb_tb]
  cases decide (i < n) <;> cases p i <;> cases q i <;> rfl
theorem yw_orst {p q : Nat → Bool} {n : Nat} {x y z : Int} (hn : n ≤ 12) (ha : x = ((yb_st p n : Nat) : Int)) (hb : y = ((yb_st q n : Nat) : Int)) (hz0 : 0 ≤ z) (hz : z ≤ 4095) (h : Int32.ofInt z = Int32.ofInt x ||| Int32.ofInt y) : z = ((yb_st (fun j => p j || q j) n : Nat) : Int) := by
  have h2 := yb_ore ha hb (yb_lt hn) (yb_lt hn) hz0 hz h
  rw [yw_or2] at h2
  exact h2
theorem yw_not32 (a : Nat) : (Int32.ofInt (-1 - (a : Int))).toBitVec = ~~~ BitVec.ofNat 32 a := by
  rw [Int32.toBitVec_ofInt, show (-1 - (a : Int)) = Int.negSucc a by omega, BitVec.ofInt_negSucc_eq_not_ofNat]
theorem yw_cmp {p : Nat → Bool} {n : Nat} {x y z : Int} (hn : n ≤ 12) (ha : x = ((yb_st (fun _ => true) n : Nat) : Int)) (hb : y = -1 - ((yb_st p n : Nat) : Int)) (hz0 : 0 ≤ z) (hz : z ≤ 4095) (h : Int32.ofInt z = Int32.ofInt x &&& Int32.ofInt y) : z = ((yb_st (fun j => !p j) n : Nat) : Int) := by
  have hl := yb_lt (p := p) hn
  have hz1 : z.toNat < 2 ^ 12 := by omega
  have key : z.toNat = yb_st (fun j => !p j) n := by
    have e : (Int32.ofInt z).toBitVec = BitVec.ofNat 32 (yb_st (fun _ => true) n) &&& ~~~ BitVec.ofNat 32 (yb_st p n) := by
      rw [h, ha, hb, show (Int32.ofInt ((yb_st (fun _ => true) n : Nat) : Int) &&& Int32.ofInt (-1 - ((yb_st p n : Nat) : Int))).toBitVec = (Int32.ofInt ((yb_st (fun _ => true) n : Nat) : Int)).toBitVec &&& (Int32.ofInt (-1 - ((yb_st p n : Nat) : Int))).toBitVec from rfl, yw_not32, Int32.toBitVec_ofInt, BitVec.ofInt_natCast]
    have e2 : (Int32.ofInt z).toBitVec = BitVec.ofNat 32 z.toNat := by
      rw [show z = ((z.toNat : Nat) : Int) by omega, Int32.toBitVec_ofInt, BitVec.ofInt_natCast]
      rfl
    apply Nat.eq_of_testBit_eq
    intro i
    by_cases hi : i < 32
    · have k := congrArg (fun b => BitVec.getLsbD b i) (e2.symm.trans e)
      have k : (BitVec.ofNat 32 z.toNat).getLsbD i = (BitVec.ofNat 32 (yb_st (fun _ => true) n) &&& ~~~ BitVec.ofNat 32 (yb_st p n)).getLsbD i := k
      rw [BitVec.getLsbD_and, BitVec.getLsbD_not, BitVec.getLsbD_ofNat, BitVec.getLsbD_ofNat, BitVec.getLsbD_ofNat, decide_eq_true hi, Bool.true_and, Bool.true_and, Bool.true_and, Bool.true_and, yb_tb, yb_tb] at k
      rw [k, yb_tb]
      cases decide (i < n) <;> cases p i <;> rfl
    · rw [Nat.testBit_lt_two_pow (Nat.lt_of_lt_of_le hz1 (Nat.pow_le_pow_right (by decide) (by omega))), Nat.testBit_lt_two_pow (Nat.lt_of_lt_of_le (show yb_st (fun j => !p j) n < 2 ^ 12 from yb_lt hn) (Nat.pow_le_pow_right (by decide) (by omega)))]
  omega
/-- bits beyond the first n -/
theorem yw_fit {n s z r : Int} (h0 : 0 ≤ n) (h12 : n ≤ 12) (s0 : -2147483648 ≤ s) (s1 : s ≤ 2147483647) (z0 : 0 ≤ z) (z1 : z ≤ 4096) (r0 : -2147483648 ≤ r) (r1 : r ≤ 2147483647) (e1 : Int32.ofInt z = Int32.ofInt 1 <<< (Int32.ofInt n &&& 31)) (e2 : Int32.ofInt r = Int32.ofInt s &&& Int32.ofInt (-z)) : r = 0 ↔ (0 ≤ s ∧ s < ((2 ^ n.toNat : Nat) : Int)) := by
  have hz := yb_shl h0 h12 z0 z1 e1
  have hp := yb_p12 (j := n.toNat) (by omega)
  have hp1 : 1 ≤ 2 ^ n.toNat := Nat.one_le_two_pow
  have ez : -z = -1 - ((2 ^ n.toNat - 1 : Nat) : Int) := by omega
  obtain ⟨X, hX⟩ : ∃ X : BitVec 32, X = (Int32.ofInt s).toBitVec := ⟨_, rfl⟩
  have er : (Int32.ofInt r).toBitVec = X &&& ~~~ BitVec.ofNat 32 (2 ^ n.toNat - 1) := by
    rw [e2, ez, hX, ← yw_not32]
    rfl
  have hs : s = X.toInt := by
    rw [hX]
    exact (Int32.toInt_ofInt_of_le (by omega) (by omega)).symm
  have hr : r = 0 ↔ X &&& ~~~ BitVec.ofNat 32 (2 ^ n.toNat - 1) = 0#32 := by
    rw [← er]
    constructor
    · intro z
      rw [z]
      rfl
    · intro z
      have k := congrArg BitVec.toInt z
      have k : (Int32.ofInt r).toInt = 0 := k
      rw [Int32.toInt_ofInt_of_le (by omega) (by omega)] at k
      exact k
  have hX2 : X &&& ~~~ BitVec.ofNat 32 (2 ^ n.toNat - 1) = 0#32 ↔ X.toNat < 2 ^ n.toNat := by
    constructor
    · intro z
      apply Nat.lt_pow_two_of_testBit
      intro i hi
      by_cases h32 : i < 32
      · have k := congrArg (fun b => BitVec.getLsbD b i) z
        have k : (X &&& ~~~ BitVec.ofNat 32 (2 ^ n.toNat - 1)).getLsbD i = (0#32).getLsbD i := k
        rw [BitVec.getLsbD_and, BitVec.getLsbD_not, BitVec.getLsbD_ofNat, decide_eq_true h32, Bool.true_and, Bool.true_and, Nat.testBit_two_pow_sub_one, decide_eq_false (show ¬ i < n.toNat by omega), Bool.not_false, Bool.and_true] at k
        rw [BitVec.testBit_toNat, k]
        exact BitVec.getLsbD_zero
      · exact Nat.testBit_lt_two_pow (Nat.lt_of_lt_of_le X.isLt (Nat.pow_le_pow_right (by decide) (by omega)))
    · intro z
      apply BitVec.eq_of_getLsbD_eq
      intro i hi
      rw [BitVec.getLsbD_and, BitVec.getLsbD_not, BitVec.getLsbD_ofNat, Nat.testBit_two_pow_sub_one, BitVec.getLsbD_zero, decide_eq_true hi, Bool.true_and, Bool.true_and]
      by_cases q : i < n.toNat
      · rw [decide_eq_true q]
        cases X.getLsbD i <;> rfl
      · rw [← BitVec.testBit_toNat, Nat.testBit_lt_two_pow (Nat.lt_of_lt_of_le z (Nat.pow_le_pow_right (by decide) (by omega)))]
        rfl
  rw [hr, hX2]
  have hlt := X.isLt
  have hti : X.toInt = if 2 * X.toNat < 2 ^ 32 then (X.toNat : Int) else (X.toNat : Int) - ((2 ^ 32 : Nat) : Int) := BitVec.toInt_eq_toNat_cond X
  rw [hs, hti]
  split <;> omega
theorem yw_sh1 {z j : Int} (h0 : 0 ≤ j) (h1 : j ≤ 12) (z0 : -2147483648 ≤ z) (z1 : z ≤ 2147483647) (h : Int32.ofInt z = Int32.ofInt 1 <<< (Int32.ofInt j &&& 31)) : 0 ≤ z ∧ z ≤ 4096 := by
  have h2 := List.all_eq_true.mp yb_ck1_ok j.toNat (List.mem_range.mpr (by omega))
  have h3 := of_decide_eq_true h2
  rw [show ((j.toNat : Nat) : Int) = j by omega] at h3
  have h4 := yb_p12 (j := j.toNat) (by omega)
  have hn : 0 ≤ ((2 ^ j.toNat : Nat) : Int) := Int.natCast_nonneg _
  have h5 := yb_i32 (by omega) (by omega) (by omega) (by omega) (h.trans h3)
  omega
theorem yw_dor {A B : Prop} [Decidable A] [Decidable B] : decide (A ∨ B) = (decide A || decide B) := by
  by_cases h : A
  · rw [decide_eq_true h, decide_eq_true (Or.inl h)]
    rfl
  · by_cases h2 : B
    · rw [decide_eq_true h2, decide_eq_true (Or.inr h2), Bool.or_true]
    · rw [decide_eq_false h, decide_eq_false h2, decide_eq_false (fun z => z.elim h h2)]
      rfl
/-- the sets of the pairs before i, k -/
def yw_P (x y : Nat → Int) (n i k : Nat) (p : Nat → Bool) : Prop := yw_eq n p (fun _ => false) ∨ yw_eq n p (fun _ => true) ∨ ∃ a b : Nat, a < n ∧ b < n ∧ (a < i ∨ (a = i ∧ b < k)) ∧ ¬ (x a = x b ∧ y a = y b) ∧ (yw_eq n p (yw_lb x y a b) ∨ yw_eq n p (fun j => !yw_lb x y a b j) ∨ yw_eq n p (yw_rb x y a b) ∨ yw_eq n p (fun j => !yw_rb x y a b j))
def yw_M (x y : Nat → Int) (n i k : Nat) (m : Nat → Int) : Prop := ∀ s : Nat, s < 4096 → (yw_mk m s = true ↔ ∃ p : Nat → Bool, s = yb_st p n ∧ yw_P x y n i k p)
theorem yw_M0 {x y m m' : Nat → Int} {n : Nat} (h0 : ∀ s : Nat, s < 4096 → yw_mk m s = false) (h : ∀ s : Nat, s < 4096 → yw_mk m' s = (yw_mk m s || (decide (s = yb_st (fun _ => false) n) || decide (s = yb_st (fun j => !(fun _ => false) j) n)))) : yw_M x y n 0 0 m' := fun s hs => by
  rw [h s hs, h0 s hs, Bool.false_or, Bool.or_eq_true]
  constructor
  · intro z
    rcases z with z | z
    · exact ⟨_, of_decide_eq_true z, Or.inl fun _ _ => rfl⟩
    · exact ⟨_, of_decide_eq_true z, Or.inr (Or.inl fun _ _ => rfl)⟩
  · rintro ⟨p, e, q⟩
    rcases q with q | q | ⟨a, b, _, _, q, _⟩
    · exact Or.inl (decide_eq_true (e.trans (yb_st_eq n q)))
    · exact Or.inr (decide_eq_true (e.trans (yb_st_eq n q)))
    · omega
theorem yw_Mn {x y m : Nat → Int} {n i k : Nat} (h : yw_M x y n i k m) (hs : x i = x k ∧ y i = y k) : yw_M x y n i (k + 1) m := fun s h4 => by
  rw [h s h4]
  constructor
  · rintro ⟨p, e, q⟩
    refine ⟨p, e, ?_⟩
    rcases q with q | q | ⟨a, b, h1, h2, h3, h5⟩
    · exact Or.inl q
    · exact Or.inr (Or.inl q)
    · exact Or.inr (Or.inr ⟨a, b, h1, h2, by omega, h5⟩)
  · rintro ⟨p, e, q⟩
    refine ⟨p, e, ?_⟩
    rcases q with q | q | ⟨a, b, h1, h2, h3, h5, h6⟩
    · exact Or.inl q
    · exact Or.inr (Or.inl q)
    · by_cases z : a = i ∧ b = k
      · rw [z.1, z.2] at h5
        exact absurd hs h5
      · exact Or.inr (Or.inr ⟨a, b, h1, h2, by omega, h5, h6⟩)
theorem yw_Ms {x y m m' : Nat → Int} {n i k : Nat} (hi : i < n) (hk : k < n) (h : yw_M x y n i k m) (hs : ¬ (x i = x k ∧ y i = y k)) (h' : ∀ s : Nat, s < 4096 → yw_mk m' s = (yw_mk m s || ((decide (s = yb_st (yw_lb x y i k) n) || decide (s = yb_st (fun j => !yw_lb x y i k j) n)) || (decide (s = yb_st (yw_rb x y i k) n) || decide (s = yb_st (fun j => !yw_rb x y i k j) n))))) : yw_M x y n i (k + 1) m' := fun s h4 => by
  rw [h' s h4, Bool.or_eq_true, Bool.or_eq_true, Bool.or_eq_true, Bool.or_eq_true, h s h4]
  constructor
  · intro z
    rcases z with ⟨p, e, q⟩ | (z | z) | (z | z)
    · refine ⟨p, e, ?_⟩
      rcases q with q | q | ⟨a, b, h1, h2, h3, h5⟩
      · exact Or.inl q
      · exact Or.inr (Or.inl q)
      · exact Or.inr (Or.inr ⟨a, b, h1, h2, by omega, h5⟩)
    · exact ⟨_, of_decide_eq_true z, Or.inr (Or.inr ⟨i, k, hi, hk, by omega, hs, Or.inl fun _ _ => rfl⟩)⟩
    · exact ⟨_, of_decide_eq_true z, Or.inr (Or.inr ⟨i, k, hi, hk, by omega, hs, Or.inr (Or.inl fun _ _ => rfl)⟩)⟩
    · exact ⟨_, of_decide_eq_true z, Or.inr (Or.inr ⟨i, k, hi, hk, by omega, hs, Or.inr (Or.inr (Or.inl fun _ _ => rfl))⟩)⟩
    · exact ⟨_, of_decide_eq_true z, Or.inr (Or.inr ⟨i, k, hi, hk, by omega, hs, Or.inr (Or.inr (Or.inr fun _ _ => rfl))⟩)⟩
  · rintro ⟨p, e, q⟩
    rcases q with q | q | ⟨a, b, h1, h2, h3, h5, h6⟩
    · exact Or.inl ⟨p, e, Or.inl q⟩
    · exact Or.inl ⟨p, e, Or.inr (Or.inl q)⟩
    · by_cases z : a = i ∧ b = k
      · rw [z.1, z.2] at h6
        rcases h6 with q | q | q | q
        · exact Or.inr (Or.inl (Or.inl (decide_eq_true (e.trans (yb_st_eq n q)))))
        · exact Or.inr (Or.inl (Or.inr (decide_eq_true (e.trans (yb_st_eq n q)))))
        · exact Or.inr (Or.inr (Or.inl (decide_eq_true (e.trans (yb_st_eq n q)))))
        · exact Or.inr (Or.inr (Or.inr (decide_eq_true (e.trans (yb_st_eq n q)))))
      · exact Or.inl ⟨p, e, Or.inr (Or.inr ⟨a, b, h1, h2, by omega, h5, h6⟩)⟩
theorem yw_Mr {x y m : Nat → Int} {n i : Nat} (h : yw_M x y n i n m) : yw_M x y n (i + 1) 0 m := fun s h4 => by
  rw [h s h4]
  constructor
  · rintro ⟨p, e, q⟩
    refine ⟨p, e, ?_⟩
    rcases q with q | q | ⟨a, b, h1, h2, h3, h5⟩
    · exact Or.inl q
    · exact Or.inr (Or.inl q)
    · exact Or.inr (Or.inr ⟨a, b, h1, h2, by omega, h5⟩)
  · rintro ⟨p, e, q⟩
    refine ⟨p, e, ?_⟩
    rcases q with q | q | ⟨a, b, h1, h2, h3, h5⟩
    · exact Or.inl q
    · exact Or.inr (Or.inl q)
    · exact Or.inr (Or.inr ⟨a, b, h1, h2, by omega, h5⟩)
def yw_MC (x y : Nat → Int) (n : Nat) (m : Nat → Int) : Prop := ∀ s : Nat, s < 4096 → (yw_mk m s = true ↔ ∃ p : Nat → Bool, s = yb_st p n ∧ yw_C x y n p)
theorem yw_Me {x y m : Nat → Int} {n : Nat} (h : yw_M x y n n 0 m) : yw_MC x y n m := fun s h4 => by
  rw [h s h4]
  constructor
  · rintro ⟨p, e, q⟩
    refine ⟨p, e, ?_⟩
    rcases q with q | q | ⟨a, b, h1, h2, h3, h5⟩
    · exact Or.inl q
    · exact Or.inr (Or.inl q)
    · exact Or.inr (Or.inr ⟨a, b, h1, h2, h5⟩)
  · rintro ⟨p, e, q⟩
    refine ⟨p, e, ?_⟩
    rcases q with q | q | ⟨a, b, h1, h2, h5⟩
    · exact Or.inl q
    · exact Or.inr (Or.inl q)
    · exact Or.inr (Or.inr ⟨a, b, h1, h2, by omega, h5⟩)
theorem yw_st0 : ∀ n : Nat, ((yb_st (fun _ => false) n : Nat) : Int) = 0
  | 0 => rfl
  | n + 1 => by
    have h := yw_st0 n
    show ((yb_st (fun _ => false) n + (if false = true then 2 ^ n else 0) : Nat) : Int) = 0
    rw [if_neg (by decide), Nat.add_zero]
    exact h
def yw_is (n s N : Int) (a : Int) : Int := if (0 ≤ n ∧ n ≤ 12 ∧ n ≤ N) ∧ (0 ≤ s ∧ s < ((2 ^ n.toNat : Nat) : Int)) then a else -1
/-! the reference's sets -/
def yw_m (ch : Nat → Int) (k : Int) (j : Nat) : Prop := ∃ i : Nat, (i : Int) < k ∧ (ch i).toNat = j
theorem yw_m0 {ch : Nat → Int} {j : Nat} : ¬ yw_m ch 0 j := fun ⟨i, h, _⟩ => by omega
theorem yw_ms {ch : Nat → Int} {k : Int} (h0 : 0 ≤ k) (j : Nat) : yw_m ch (k + 1) j ↔ (yw_m ch k j ∨ j = (ch k.toNat).toNat) := by
  constructor
  · rintro ⟨i, h, e⟩
    by_cases q : (i : Int) < k
    · exact Or.inl ⟨i, q, e⟩
    · refine Or.inr ?_
      rw [← e, show k.toNat = i by omega]
  · rintro (⟨i, h, e⟩ | e)
    · exact ⟨i, by omega, e⟩
    · exact ⟨k.toNat, by omega, e.symm⟩
theorem yw_mw {al : Nat → Int} {o p : Int} (h0 : 0 ≤ o) (j : Nat) : yw_m (yq_set al o.toNat p) (o + 1) j ↔ (yw_m al o j ∨ j = p.toNat) := by
  rw [yw_ms h0]
  have h1 : yq_set al o.toNat p o.toNat = p := if_pos rfl
  rw [h1]
  have h2 : yw_m (yq_set al o.toNat p) o j ↔ yw_m al o j := by
    constructor
    · rintro ⟨i, h, e⟩
      refine ⟨i, h, ?_⟩
      have h3 : yq_set al o.toNat p i = al i := if_neg (by omega)
      rw [← h3]
      exact e
    · rintro ⟨i, h, e⟩
      refine ⟨i, h, ?_⟩
      have h3 : yq_set al o.toNat p i = al i := if_neg (by omega)
      rw [h3]
      exact e
  rw [h2]
/-- choose -/
theorem yw_ch0 {ch : Nat → Int} {s : Nat} (j : Nat) : yw_m ch 0 j ↔ (j < (0 : Int).toNat ∧ s.testBit j = true) := ⟨fun h => absurd h yw_m0, fun h => absurd h.1 (Nat.not_lt_zero j)⟩
theorem yw_chn {ch : Nat → Int} {cm k : Int} {s : Nat} (hk : 0 ≤ k) (h : ∀ j : Nat, yw_m ch cm j ↔ (j < k.toNat ∧ s.testBit j = true)) (hb : ¬ s.testBit k.toNat = true) (j : Nat) : yw_m ch cm j ↔ (j < (k + 1).toNat ∧ s.testBit j = true) := by
  rw [h j]
  constructor
  · exact fun q => ⟨by omega, q.2⟩
  · intro q
    refine ⟨?_, q.2⟩
    by_cases z : j = k.toNat
    · rw [z] at q
      exact absurd q.2 hb
    · omega
theorem yw_chs {ch : Nat → Int} {cm k : Int} {s : Nat} (hc : 0 ≤ cm) (hk : 0 ≤ k) (h : ∀ j : Nat, yw_m ch cm j ↔ (j < k.toNat ∧ s.testBit j = true)) (hb : s.testBit k.toNat = true) (j : Nat) : yw_m (yq_set ch cm.toNat k) (cm + 1) j ↔ (j < (k + 1).toNat ∧ s.testBit j = true) := by
  rw [yw_mw hc, h j]
  constructor
  · rintro (q | q)
    · exact ⟨by omega, q.2⟩
    · rw [q]
      exact ⟨by omega, hb⟩
  · intro q
    by_cases z : j = k.toNat
    · exact Or.inr z
    · exact Or.inl ⟨by omega, q.2⟩
theorem yw_che {ch : Nat → Int} {cm : Int} {s : Nat} (hs : s < 4096) (h : ∀ j : Nat, yw_m ch cm j ↔ (j < (12 : Int).toNat ∧ s.testBit j = true)) (j : Nat) : yw_m ch cm j ↔ s.testBit j = true := by
  rw [h j]
  refine ⟨fun q => q.2, fun q => ⟨?_, q⟩⟩
  apply Nat.lt_of_not_le
  intro z
  have z2 : 12 ≤ j := z
  rw [Nat.testBit_lt_two_pow (Nat.lt_of_lt_of_le hs (Nat.pow_le_pow_right (n := 2) (by decide) z2))] at q
  cases q
/-- numbers and what their bits are -/
def yw_bits (s : Nat) (Q : Nat → Prop) : Prop := ∀ j : Nat, s.testBit j = true ↔ Q j
def yw_B (z : Int) (Q : Nat → Prop) : Prop := 0 ≤ z ∧ z ≤ 4095 ∧ yw_bits z.toNat Q
theorem yw_bi {s : Nat} {P Q : Nat → Prop} (e : ∀ j : Nat, P j ↔ Q j) : yw_bits s P ↔ yw_bits s Q := ⟨fun h j => (h j).trans (e j), fun h j => (h j).trans (e j).symm⟩
theorem yw_B0 {Q : Nat → Prop} (h : ∀ j : Nat, ¬ Q j) : yw_B 0 Q := ⟨by decide, by decide, fun j => by
  rw [show (0 : Int).toNat = 0 from rfl, Nat.zero_testBit]
  exact ⟨fun z => absurd z (by decide), fun z => absurd z (h j)⟩⟩
theorem yw_Bc {z : Int} {P Q : Nat → Prop} (h : yw_B z P) (e : ∀ j : Nat, P j ↔ Q j) : yw_B z Q := ⟨h.1, h.2.1, fun j => (h.2.2 j).trans (e j)⟩
theorem yw_Bs {z w z' p : Int} {P : Nat → Prop} (h : yw_B z P) (p0 : 0 ≤ p) (p1 : p ≤ 11) (w0 : 0 ≤ w) (w1 : w ≤ 4096) (e1 : Int32.ofInt w = Int32.ofInt 1 <<< (Int32.ofInt p &&& 31)) (z0 : 0 ≤ z') (z1 : z' ≤ 4095) (e2 : Int32.ofInt z' = Int32.ofInt z ||| Int32.ofInt w) : yw_B z' (fun j => P j ∨ j = p.toNat) := by
  have h1 := yb_shl p0 (by omega) w0 w1 e1
  have h2 := yb_ore (a := z.toNat) (b := 2 ^ p.toNat) (by have := h.1; omega) h1 (by have := h.2.1; omega) (yb_pw (by omega)) z0 z1 e2
  refine ⟨z0, z1, fun j => ?_⟩
  rw [show z'.toNat = z.toNat ||| 2 ^ p.toNat by omega, Nat.testBit_or, Bool.or_eq_true, h.2.2 j, Nat.testBit_two_pow, decide_eq_true_iff]
  exact ⟨fun q => q.imp id Eq.symm, fun q => q.imp id Eq.symm⟩
theorem yw_Bz {z z' : Int} {P : Nat → Prop} (h : yw_B z P) (z0 : 0 ≤ z') (z1 : z' ≤ 4095) (e2 : Int32.ofInt z' = Int32.ofInt z ||| Int32.ofInt 0) : yw_B z' P := by
  have h2 := yb_ore (a := z.toNat) (b := 0) (by have := h.1; omega) rfl (by have := h.2.1; omega) (by decide) z0 z1 e2
  rw [Nat.or_zero] at h2
  rw [show z' = z by have := h.1; omega]
  exact h
theorem yw_add {z z' w p k : Int} {D q : Nat → Prop} {al : Nat → Int} (h : yw_B z (fun j => D j ∨ (yw_m al k j ∧ q j))) (hk : 0 ≤ k) (hp : p = al k.toNat) (p0 : 0 ≤ p) (p1 : p ≤ 11) (hq : q p.toNat) (w0 : 0 ≤ w) (w1 : w ≤ 4096) (e1 : Int32.ofInt w = Int32.ofInt 1 <<< (Int32.ofInt p &&& 31)) (z0 : 0 ≤ z') (z1 : z' ≤ 4095) (e2 : Int32.ofInt z' = Int32.ofInt z ||| Int32.ofInt w) : yw_B z' (fun j => D j ∨ (yw_m al (k + 1) j ∧ q j)) := by
  refine yw_Bc (yw_Bs h p0 p1 w0 w1 e1 z0 z1 e2) fun j => ?_
  rw [yw_ms hk, ← hp]
  constructor
  · rintro ((a | ⟨a, b⟩) | a)
    · exact Or.inl a
    · exact Or.inr ⟨Or.inl a, b⟩
    · rw [a]
      exact Or.inr ⟨Or.inr rfl, hq⟩
  · rintro (a | ⟨a | a, b⟩)
    · exact Or.inl (Or.inl a)
    · exact Or.inl (Or.inr ⟨a, b⟩)
    · exact Or.inr a
theorem yw_skp {z z' p k : Int} {D q : Nat → Prop} {al : Nat → Int} (h : yw_B z (fun j => D j ∨ (yw_m al k j ∧ q j))) (hk : 0 ≤ k) (hp : p = al k.toNat) (hq : ¬ q p.toNat) (z0 : 0 ≤ z') (z1 : z' ≤ 4095) (e2 : Int32.ofInt z' = Int32.ofInt z ||| Int32.ofInt 0) : yw_B z' (fun j => D j ∨ (yw_m al (k + 1) j ∧ q j)) := by
  refine yw_Bc (yw_Bz h z0 z1 e2) fun j => ?_
  rw [yw_ms hk, ← hp]
  constructor
  · rintro (a | ⟨a, b⟩)
    · exact Or.inl a
    · exact Or.inr ⟨Or.inl a, b⟩
  · rintro (a | ⟨a | a, b⟩)
    · exact Or.inl a
    · exact Or.inr ⟨a, b⟩
    · rw [a] at b
      exact absurd b hq
theorem yw_aln {al ch : Nat → Int} {o p k : Int} {q : Nat → Prop} (h : ∀ j : Nat, yw_m al o j ↔ (yw_m ch k j ∧ q j)) (hk : 0 ≤ k) (hp : p = ch k.toNat) (hq : ¬ q p.toNat) (j : Nat) : yw_m al o j ↔ (yw_m ch (k + 1) j ∧ q j) := by
  rw [h j, yw_ms hk, ← hp]
  constructor
  · exact fun a => ⟨Or.inl a.1, a.2⟩
  · rintro ⟨a | a, b⟩
    · exact ⟨a, b⟩
    · rw [a] at b
      exact absurd b hq
theorem yw_als {al ch : Nat → Int} {o p k : Int} {q : Nat → Prop} (h : ∀ j : Nat, yw_m al o j ↔ (yw_m ch k j ∧ q j)) (ho : 0 ≤ o) (hk : 0 ≤ k) (hp : p = ch k.toNat) (hq : q p.toNat) (j : Nat) : yw_m (yq_set al o.toNat p) (o + 1) j ↔ (yw_m ch (k + 1) j ∧ q j) := by
  rw [yw_mw ho, h j, yw_ms hk, ← hp]
  constructor
  · rintro (a | a)
    · exact ⟨Or.inl a.1, a.2⟩
    · rw [a]
      exact ⟨Or.inr rfl, hq⟩
  · rintro ⟨a | a, b⟩
    · exact Or.inl ⟨a, b⟩
    · exact Or.inr a
theorem yw_w1 {G : Nat → Int} {z : Int} {Q : Nat → Prop} (h : yw_B z Q) (s : Nat) : yq_set G z.toNat 1 s = 1 ↔ (G s = 1 ∨ yw_bits s Q) := by
  unfold yq_set
  by_cases q : s = z.toNat
  · rw [if_pos q, q]
    exact ⟨fun _ => Or.inr h.2.2, fun _ => rfl⟩
  · rw [if_neg q]
    refine ⟨Or.inl, fun a => a.elim id fun a => absurd (Nat.eq_of_testBit_eq fun i => ?_) q⟩
    have k := (a i).trans (h.2.2 i).symm
    cases e1 : s.testBit i
    · cases e2 : z.toNat.testBit i
      · rfl
      · exact absurd (e1.symm.trans (k.mpr e2)) (by decide)
    · exact (k.mp e1).symm
def yw_D (x y : Nat → Int) (c : Nat → Prop) (a b : Nat) : Nat → Prop := fun j => c j ∧ 0 < yq_ar x y a b j
def yw_4 (x y : Nat → Int) (c : Nat → Prop) (a b i s : Nat) : Prop := yw_bits s (fun j => c j ∧ yw_up x y a b i j = true) ∨ yw_bits s (fun j => c j ∧ yw_ah x y a b i j = true) ∨ yw_bits s (fun j => c j ∧ yw_fr x y a b i j = true) ∨ yw_bits s (fun j => c j ∧ yw_bh x y a b i j = true)
theorem yw_Fe {c al A E F : Prop} (e : al ↔ (c ∧ E)) : ((c ∧ A) ∨ (al ∧ F)) ↔ (c ∧ (A ∨ (E ∧ F))) := by
  rw [e]
  constructor
  · rintro (⟨h1, h2⟩ | ⟨⟨h1, h2⟩, h3⟩)
    · exact ⟨h1, Or.inl h2⟩
    · exact ⟨h1, Or.inr ⟨h2, h3⟩⟩
  · rintro ⟨h1, h2 | ⟨h2, h3⟩⟩
    · exact Or.inl ⟨h1, h2⟩
    · exact Or.inr ⟨⟨h1, h2⟩, h3⟩
theorem yw_dti {P c : Prop} [Decidable P] : (c ∧ decide P = true) ↔ (c ∧ P) := by
  rw [decide_eq_true_iff]
theorem yw_4e {x y : Nat → Int} {c al : Nat → Prop} {a b i s : Nat} (he : ∀ j : Nat, al j ↔ (c j ∧ yq_ar x y a b j = 0)) : yw_4 x y c a b i s ↔ (yw_bits s (fun j => yw_D x y c a b j ∨ (al j ∧ yw_fu x y a b j ≤ yw_fu x y a b i)) ∨ yw_bits s (fun j => yw_D x y c a b j ∨ (al j ∧ yw_fu x y a b j < yw_fu x y a b i)) ∨ yw_bits s (fun j => yw_D x y c a b j ∨ (al j ∧ yw_fu x y a b i ≤ yw_fu x y a b j)) ∨ yw_bits s (fun j => yw_D x y c a b j ∨ (al j ∧ yw_fu x y a b i < yw_fu x y a b j))) := by
  unfold yw_4
  rw [yw_bi (s := s) (P := fun j => yw_D x y c a b j ∨ (al j ∧ yw_fu x y a b j ≤ yw_fu x y a b i)) fun j => (yw_Fe (he j)).trans yw_dti.symm,
    yw_bi (s := s) (P := fun j => yw_D x y c a b j ∨ (al j ∧ yw_fu x y a b j < yw_fu x y a b i)) fun j => (yw_Fe (he j)).trans yw_dti.symm,
    yw_bi (s := s) (P := fun j => yw_D x y c a b j ∨ (al j ∧ yw_fu x y a b i ≤ yw_fu x y a b j)) fun j => (yw_Fe (he j)).trans yw_dti.symm,
    yw_bi (s := s) (P := fun j => yw_D x y c a b j ∨ (al j ∧ yw_fu x y a b i < yw_fu x y a b j)) fun j => (yw_Fe (he j)).trans yw_dti.symm]
  exact Iff.rfl
theorem yw_T4 {al : Nat → Int} {k : Int} {P O B1 B2 B3 B4 : Prop} {Q : Nat → Prop} (h0 : 0 ≤ k) (hP : P ↔ (O ∨ ∃ i : Nat, yw_m al k i ∧ Q i)) (hQ : Q (al k.toNat).toNat ↔ (B1 ∨ B2 ∨ B3 ∨ B4)) : ((((P ∨ B1) ∨ B2) ∨ B3) ∨ B4) ↔ (O ∨ ∃ i : Nat, yw_m al (k + 1) i ∧ Q i) := by
  rw [hP]
  constructor
  · intro h
    by_cases q : B1 ∨ B2 ∨ B3 ∨ B4
    · exact Or.inr ⟨_, (yw_ms h0 _).mpr (Or.inr rfl), hQ.mpr q⟩
    · rcases h with (((h | h) | h) | h) | h
      · rcases h with h | ⟨i, h1, h2⟩
        · exact Or.inl h
        · exact Or.inr ⟨i, (yw_ms h0 _).mpr (Or.inl h1), h2⟩
      · exact absurd (Or.inl h) q
      · exact absurd (Or.inr (Or.inl h)) q
      · exact absurd (Or.inr (Or.inr (Or.inl h))) q
      · exact absurd (Or.inr (Or.inr (Or.inr h))) q
  · rintro (h | ⟨i, h1, h2⟩)
    · exact Or.inl (Or.inl (Or.inl (Or.inl (Or.inl h))))
    · rcases (yw_ms h0 _).mp h1 with h3 | h3
      · exact Or.inl (Or.inl (Or.inl (Or.inl (Or.inr ⟨i, h3, h2⟩))))
      · rw [h3] at h2
        rcases hQ.mp h2 with h | h | h | h
        · exact Or.inl (Or.inl (Or.inl (Or.inr h)))
        · exact Or.inl (Or.inl (Or.inr h))
        · exact Or.inl (Or.inr h)
        · exact Or.inr h
theorem yw_Te {al : Nat → Int} {k : Int} {P O : Prop} {c E Q : Nat → Prop} (hP : P ↔ (O ∨ ∃ i : Nat, yw_m al k i ∧ Q i)) (he : ∀ j : Nat, yw_m al k j ↔ (c j ∧ E j)) : P ↔ (O ∨ ∃ i : Nat, c i ∧ E i ∧ Q i) := by
  rw [hP]
  constructor
  · rintro (h | ⟨i, h1, h2⟩)
    · exact Or.inl h
    · exact Or.inr ⟨i, ((he i).mp h1).1, ((he i).mp h1).2, h2⟩
  · rintro (h | ⟨i, h1, h2, h3⟩)
    · exact Or.inl h
    · exact Or.inr ⟨i, (he i).mpr ⟨h1, h2⟩, h3⟩
def yw_RR (x y : Nat → Int) (c : Nat → Prop) (S s : Nat) : Prop := s = 0 ∨ s = S ∨ ∃ a b : Nat, c a ∧ c b ∧ ¬ (x a = x b ∧ y a = y b) ∧ ∃ i : Nat, c i ∧ yq_ar x y a b i = 0 ∧ yw_4 x y c a b i s
def yw_RP (x y : Nat → Int) (ch : Nat → Int) (cm : Int) (S : Nat) (I K : Int) (s : Nat) : Prop := s = 0 ∨ s = S ∨ ∃ p q : Nat, (p : Int) < cm ∧ (q : Int) < cm ∧ ((p : Int) < I ∨ ((p : Int) = I ∧ (q : Int) < K)) ∧ ¬ (x (ch p).toNat = x (ch q).toNat ∧ y (ch p).toNat = y (ch q).toNat) ∧ ∃ i : Nat, yw_m ch cm i ∧ yq_ar x y (ch p).toNat (ch q).toNat i = 0 ∧ yw_4 x y (yw_m ch cm) (ch p).toNat (ch q).toNat i s
theorem yw_RP0 {x y ch G : Nat → Int} {cm : Int} {S s : Nat} (h : G s = 0) : yq_set (yq_set G 0 1) S 1 s = 1 ↔ yw_RP x y ch cm S 0 0 s := by
  unfold yq_set
  by_cases q : s = S
  · rw [if_pos q]
    exact ⟨fun _ => Or.inr (Or.inl q), fun _ => rfl⟩
  · rw [if_neg q]
    by_cases q0 : s = 0
    · rw [if_pos q0]
      exact ⟨fun _ => Or.inl q0, fun _ => rfl⟩
    · rw [if_neg q0, h]
      refine ⟨fun z => absurd z (by decide), ?_⟩
      rintro (z | z | ⟨p, r, _, _, z, _⟩)
      · exact absurd z q0
      · exact absurd z q
      · omega
theorem yw_RPn {x y ch : Nat → Int} {cm I K : Int} {S s : Nat} (hI : 0 ≤ I) (hK : 0 ≤ K) (hs : x (ch I.toNat).toNat = x (ch K.toNat).toNat ∧ y (ch I.toNat).toNat = y (ch K.toNat).toNat) : yw_RP x y ch cm S I K s ↔ yw_RP x y ch cm S I (K + 1) s := by
  constructor
  · rintro (z | z | ⟨p, r, h1, h2, h3, h4⟩)
    · exact Or.inl z
    · exact Or.inr (Or.inl z)
    · exact Or.inr (Or.inr ⟨p, r, h1, h2, by omega, h4⟩)
  · rintro (z | z | ⟨p, r, h1, h2, h3, h4, h5⟩)
    · exact Or.inl z
    · exact Or.inr (Or.inl z)
    · by_cases q : (p : Int) = I ∧ (r : Int) = K
      · rw [show p = I.toNat by omega, show r = K.toNat by omega] at h4
        exact absurd hs h4
      · exact Or.inr (Or.inr ⟨p, r, h1, h2, by omega, h4, h5⟩)
theorem yw_RPs {x y ch : Nat → Int} {cm I K : Int} {S s : Nat} {P P' : Prop} (hI : 0 ≤ I) (hK : 0 ≤ K) (hI2 : I < cm) (hK2 : K < cm) (h : P ↔ yw_RP x y ch cm S I K s) (hs : ¬ (x (ch I.toNat).toNat = x (ch K.toNat).toNat ∧ y (ch I.toNat).toNat = y (ch K.toNat).toNat)) (h' : P' ↔ (P ∨ ∃ i : Nat, yw_m ch cm i ∧ yq_ar x y (ch I.toNat).toNat (ch K.toNat).toNat i = 0 ∧ yw_4 x y (yw_m ch cm) (ch I.toNat).toNat (ch K.toNat).toNat i s)) : P' ↔ yw_RP x y ch cm S I (K + 1) s := by
  rw [h', h]
  constructor
  · rintro ((z | z | ⟨p, r, h1, h2, h3, h4⟩) | z)
    · exact Or.inl z
    · exact Or.inr (Or.inl z)
    · exact Or.inr (Or.inr ⟨p, r, h1, h2, by omega, h4⟩)
    · exact Or.inr (Or.inr ⟨I.toNat, K.toNat, by omega, by omega, by omega, hs, z⟩)
  · rintro (z | z | ⟨p, r, h1, h2, h3, h4, h5⟩)
    · exact Or.inl (Or.inl z)
    · exact Or.inl (Or.inr (Or.inl z))
    · by_cases q : (p : Int) = I ∧ (r : Int) = K
      · rw [show p = I.toNat by omega, show r = K.toNat by omega] at h5
        exact Or.inr h5
      · exact Or.inl (Or.inr (Or.inr ⟨p, r, h1, h2, by omega, h4, h5⟩))
theorem yw_RPr {x y ch : Nat → Int} {cm I : Int} {S s : Nat} : yw_RP x y ch cm S I cm s ↔ yw_RP x y ch cm S (I + 1) 0 s := by
  constructor
  · rintro (z | z | ⟨p, r, h1, h2, h3, h4⟩)
    · exact Or.inl z
    · exact Or.inr (Or.inl z)
    · exact Or.inr (Or.inr ⟨p, r, h1, h2, by omega, h4⟩)
  · rintro (z | z | ⟨p, r, h1, h2, h3, h4⟩)
    · exact Or.inl z
    · exact Or.inr (Or.inl z)
    · exact Or.inr (Or.inr ⟨p, r, h1, h2, by omega, h4⟩)
theorem yw_4c {x y : Nat → Int} {c d : Nat → Prop} {a b i s : Nat} (e : ∀ j : Nat, c j ↔ d j) : yw_4 x y c a b i s ↔ yw_4 x y d a b i s := by
  rw [show c = d from funext fun j => propext (e j)]
theorem yw_RPe {x y ch : Nat → Int} {cm : Int} {S s : Nat} {c : Nat → Prop} (e : ∀ j : Nat, yw_m ch cm j ↔ c j) : yw_RP x y ch cm S cm 0 s ↔ yw_RR x y c S s := by
  have e2 : yw_m ch cm = c := funext fun j => propext (e j)
  constructor
  · rintro (z | z | ⟨p, r, h1, h2, h3, h4, h5⟩)
    · exact Or.inl z
    · exact Or.inr (Or.inl z)
    · rw [e2] at h5
      exact Or.inr (Or.inr ⟨_, _, (e _).mp ⟨p, h1, rfl⟩, (e _).mp ⟨r, h2, rfl⟩, h4, h5⟩)
  · rintro (z | z | ⟨a, b, h1, h2, h4, h5⟩)
    · exact Or.inl z
    · exact Or.inr (Or.inl z)
    · obtain ⟨p, p1, p2⟩ := (e _).mpr h1
      obtain ⟨r, r1, r2⟩ := (e _).mpr h2
      rw [← p2, ← r2] at h4 h5
      rw [← e2] at h5
      exact Or.inr (Or.inr ⟨p, r, p1, r1, by omega, h4, h5⟩)
/-- all of the first n -/
theorem yw_alb {n : Nat} (j : Nat) : (2 ^ n - 1).testBit j = true ↔ j < n := by
  rw [Nat.testBit_two_pow_sub_one, decide_eq_true_iff]
theorem yw_RRC {x y : Nat → Int} {n s : Nat} (hnr : yw_nr x y n) (hs : s < 2 ^ n) : yw_RR x y (fun j => (2 ^ n - 1).testBit j = true) (2 ^ n - 1) s ↔ ∃ p : Nat → Bool, s = yb_st p n ∧ yw_C x y n p := by
  have bt : ∀ (p q : Nat → Bool), s = yb_st p n → yw_eq n p q → yw_bits s (fun j => (2 ^ n - 1).testBit j = true ∧ q j = true) := fun p q e h j => by
    rw [e, yb_tb, Bool.and_eq_true, decide_eq_true_iff, yw_alb]
    constructor
    · exact fun z => ⟨z.1, by rw [← h j z.1]; exact z.2⟩
    · exact fun z => ⟨z.1, by rw [h j z.1]; exact z.2⟩
  have tb : ∀ q : Nat → Bool, yw_bits s (fun j => (2 ^ n - 1).testBit j = true ∧ q j = true) → yw_eq n (fun j => s.testBit j) q := fun q h j hj => by
    have k := h j
    show s.testBit j = q j
    cases e1 : s.testBit j
    · cases e2 : q j
      · rfl
      · exact absurd (e1.symm.trans (k.mpr ⟨yw_alb _ |>.mpr hj, e2⟩)) (by decide)
    · exact (k.mp e1).2.symm
  have hall := yb_all n
  constructor
  · intro h
    refine ⟨fun j => s.testBit j, yw_tbe hs fun _ _ => rfl, (yw_iff hnr).mpr ?_⟩
    rcases h with z | z | ⟨a, b, h1, h2, h3, i, h4, h5, h6⟩
    · refine Or.inl fun j _ => ?_
      show s.testBit j = false
      rw [z, Nat.zero_testBit]
    · refine Or.inr (Or.inl fun j hj => ?_)
      show s.testBit j = true
      rw [z]
      exact (yw_alb _).mpr hj
    · refine Or.inr (Or.inr ⟨a, b, i, (yw_alb _).mp h1, (yw_alb _).mp h2, (yw_alb _).mp h4, h3, h5, ?_⟩)
      rcases h6 with q | q | q | q
      · exact Or.inl (tb _ q)
      · exact Or.inr (Or.inl (tb _ q))
      · exact Or.inr (Or.inr (Or.inl (tb _ q)))
      · exact Or.inr (Or.inr (Or.inr (tb _ q)))
  · rintro ⟨p, e, h⟩
    rcases (yw_iff hnr).mp h with z | z | ⟨a, b, i, h1, h2, h4, h3, h5, h6⟩
    · refine Or.inl ?_
      have k1 := yb_st_eq n z
      have k2 := yw_st0 n
      omega
    · refine Or.inr (Or.inl ?_)
      have k1 := yb_st_eq n z
      omega
    · refine Or.inr (Or.inr ⟨a, b, (yw_alb _).mpr h1, (yw_alb _).mpr h2, h3, i, (yw_alb _).mpr h4, h5, ?_⟩)
      rcases h6 with q | q | q | q
      · exact Or.inl (bt _ _ e q)
      · exact Or.inr (Or.inl (bt _ _ e q))
      · exact Or.inr (Or.inr (Or.inl (bt _ _ e q)))
      · exact Or.inr (Or.inr (Or.inr (bt _ _ e q)))
/-- what is asked, and what is answered -/
def yw_ok (N n s : Int) : Prop := (0 ≤ n ∧ n ≤ 12 ∧ n ≤ N) ∧ (0 ≤ s ∧ s < ((2 ^ n.toNat : Nat) : Int))
def yw_way (x y : Nat → Int) (n s : Int) : Prop := ∃ p : Nat → Bool, s.toNat = yb_st p n.toNat ∧ yw_C x y n.toNat p
def yw_ans (x y : Nat → Int) (N n s a : Int) : Prop := (¬ yw_ok N n s → a = -1) ∧ (yw_ok N n s → (a = 0 ∨ a = 1) ∧ (a = 1 ↔ yw_way x y n s))
theorem yw_Ce {x y X Y : Nat → Int} {n : Nat} {p : Nat → Bool} (hx : ∀ j : Nat, j < n → x j = X j) (hy : ∀ j : Nat, j < n → y j = Y j) (h : yw_C x y n p) : yw_C X Y n p := by
  rcases h with h | h | ⟨i, k, h1, h2, h3, h4⟩
  · exact Or.inl h
  · exact Or.inr (Or.inl h)
  · have ea : ∀ j : Nat, j < n → yq_ar x y i k j = yq_ar X Y i k j := fun j hj => by
      unfold yq_ar
      rw [hx i h1, hx k h2, hx j hj, hy i h1, hy k h2, hy j hj]
    have ed : ∀ j : Nat, j < n → yh_dot x y i k j = yh_dot X Y i k j := fun j hj => by
      unfold yh_dot
      rw [hx i h1, hx k h2, hx j hj, hy i h1, hy k h2, hy j hj]
    have el : ∀ j : Nat, j < n → yw_lb x y i k j = yw_lb X Y i k j := fun j hj => by
      unfold yw_lb
      rw [ea j hj, ed j hj]
    have er : ∀ j : Nat, j < n → yw_rb x y i k j = yw_rb X Y i k j := fun j hj => by
      unfold yw_rb
      rw [ea j hj, ed j hj]
    refine Or.inr (Or.inr ⟨i, k, h1, h2, by rw [← hx i h1, ← hx k h2, ← hy i h1, ← hy k h2]; exact h3, ?_⟩)
    rcases h4 with q | q | q | q
    · exact Or.inl fun j hj => (q j hj).trans (el j hj)
    · exact Or.inr (Or.inl fun j hj => (q j hj).trans (congrArg (!·) (el j hj)))
    · exact Or.inr (Or.inr (Or.inl fun j hj => (q j hj).trans (er j hj)))
    · exact Or.inr (Or.inr (Or.inr fun j hj => (q j hj).trans (congrArg (!·) (er j hj))))
theorem yw_way_e {x y X Y : Nat → Int} {n s : Int} (hx : ∀ j : Nat, j < n.toNat → x j = X j) (hy : ∀ j : Nat, j < n.toNat → y j = Y j) : yw_way x y n s ↔ yw_way X Y n s := ⟨fun ⟨p, e, h⟩ => ⟨p, e, yw_Ce hx hy h⟩, fun ⟨p, e, h⟩ => ⟨p, e, yw_Ce (fun j hj => (hx j hj).symm) (fun j hj => (hy j hj).symm) h⟩⟩
theorem yw_ans_u {x y X Y : Nat → Int} {N n s a b : Int} (hx : ∀ j : Nat, (j : Int) < N → x j = X j) (hy : ∀ j : Nat, (j : Int) < N → y j = Y j) (h1 : yw_ans x y N n s a) (h2 : yw_ans X Y N n s b) : a = b := by
  by_cases ok : yw_ok N n s
  · obtain ⟨a1, a2⟩ := h1.2 ok
    obtain ⟨b1, b2⟩ := h2.2 ok
    have ok1 := ok.1
    have e := a2.trans ((yw_way_e (fun j hj => hx j (by omega)) (fun j hj => hy j (by omega))).trans b2.symm)
    rcases a1 with z | z
    · rcases b1 with w | w
      · omega
      · have := e.mpr w
        omega
    · have := e.mp z
      omega
  · rw [h1.1 ok, h2.1 ok]
def yw_ck3 : Bool := (List.range 13).all fun b => decide (Int64.ofInt 1 <<< ((Int32.ofInt (b : Int)).toInt64 &&& 63) = Int64.ofInt ((2 ^ b : Nat) : Int))
theorem yw_ck3_ok : yw_ck3 = true := by decide +kernel
theorem yw_l1 {z n : Int} (h0 : 0 ≤ n) (h1 : n ≤ 12) (z0 : 0 ≤ z) (z1 : z ≤ 4096) (e : Int64.ofInt z = Int64.ofInt 1 <<< ((Int32.ofInt n).toInt64 &&& 63)) : z = ((2 ^ n.toNat : Nat) : Int) := by
  have h := of_decide_eq_true (List.all_eq_true.mp yw_ck3_ok n.toNat (List.mem_range.mpr (by omega)))
  rw [show ((n.toNat : Nat) : Int) = n by omega, ← e] at h
  have h2 := congrArg Int64.toInt h
  have hp := yb_p12 (j := n.toNat) (by omega)
  have hn : 0 ≤ ((2 ^ n.toNat : Nat) : Int) := Int.natCast_nonneg _
  rw [Int64.toInt_ofInt_of_le (by omega) (by omega), Int64.toInt_ofInt_of_le (by omega) (by omega)] at h2
  exact h2
/-! the least wrong -/
def yw_wr (c w : Nat → Int) (s : Nat) : Nat → Int
  | 0 => 0
  | n + 1 => yw_wr c w s n + if (if s.testBit n = true then (1 : Int) else 0) = c n then 0 else w n
theorem yw_wr_s {c w : Nat → Int} {s : Nat} {i m : Int} (h : 0 ≤ i) (hm : m = i + 1) : yw_wr c w s m.toNat = yw_wr c w s i.toNat + if (if s.testBit i.toNat = true then (1 : Int) else 0) = c i.toNat then 0 else w i.toNat := by
  rw [show m.toNat = i.toNat + 1 by omega]
  rfl
theorem yw_wr_b {c w : Nat → Int} {s : Nat} (hw : ∀ j : Nat, 0 ≤ w j ∧ w j ≤ 1000) : ∀ n : Nat, 0 ≤ yw_wr c w s n ∧ yw_wr c w s n ≤ 1000 * (n : Int)
  | 0 => ⟨Int.le_refl 0, Int.le_refl 0⟩
  | n + 1 => by
    have h := yw_wr_b (c := c) (s := s) hw n
    have h2 := hw n
    show 0 ≤ yw_wr c w s n + (if (if s.testBit n = true then (1 : Int) else 0) = c n then 0 else w n) ∧ yw_wr c w s n + (if (if s.testBit n = true then (1 : Int) else 0) = c n then 0 else w n) ≤ 1000 * ((n + 1 : Nat) : Int)
    generalize (if s.testBit n = true then (1 : Int) else 0) = z
    split <;> omega
theorem yw_wr_e {c w C W : Nat → Int} {s : Nat} : ∀ n : Nat, (∀ j : Nat, j < n → c j = C j) → (∀ j : Nat, j < n → w j = W j) → yw_wr c w s n = yw_wr C W s n
  | 0, _, _ => rfl
  | n + 1, hc, hw => by
    show yw_wr c w s n + (if (if s.testBit n = true then (1 : Int) else 0) = c n then 0 else w n) = yw_wr C W s n + (if (if s.testBit n = true then (1 : Int) else 0) = C n then 0 else W n)
    rw [yw_wr_e n (fun j hj => hc j (by omega)) (fun j hj => hw j (by omega)), hc n (by omega), hw n (by omega)]
def yw_bst (P : Nat → Prop) (f : Nat → Int) (k : Nat) (l : Int) (t : Nat) : Prop := t < k ∧ P t ∧ l = f t ∧ ∀ s : Nat, s < k → P s → (f t < f s ∨ (f t = f s ∧ t ≤ s))
theorem yw_bst_u {P Q : Nat → Prop} {f g : Nat → Int} {k t t' : Nat} {l l' : Int} (hP : ∀ s : Nat, s < k → (P s ↔ Q s)) (hf : ∀ s : Nat, s < k → f s = g s) (h : yw_bst P f k l t) (h' : yw_bst Q g k l' t') : l = l' ∧ t = t' := by
  obtain ⟨a1, a2, a3, a4⟩ := h
  obtain ⟨b1, b2, b3, b4⟩ := h'
  have c1 := a4 t' b1 ((hP t' b1).mpr b2)
  have c2 := b4 t a1 ((hP t a1).mp a2)
  rw [hf t a1, hf t' b1] at c1
  rw [hf t a1] at a3
  have e : t = t' := by omega
  rw [← e] at b3
  exact ⟨by omega, e⟩
theorem yw_bst_c {P Q : Nat → Prop} {f : Nat → Int} {k t : Nat} {l : Int} (hP : ∀ s : Nat, s < k → (P s ↔ Q s)) (h : yw_bst P f k l t) : yw_bst Q f k l t := ⟨h.1, (hP t h.1).mp h.2.1, h.2.2.1, fun s hs q => h.2.2.2 s hs ((hP s hs).mpr q)⟩
def yw_BI (P : Nat → Prop) (f : Nat → Int) (i k l t : Int) : Prop := (k = 0 ∧ l = i) ∨ (1 ≤ k ∧ 0 ≤ t ∧ yw_bst P f k.toNat l t.toNat)
theorem yw_BI0 {P : Nat → Prop} {f : Nat → Int} {i t : Int} : yw_BI P f i 0 i t := Or.inl ⟨rfl, rfl⟩
theorem yw_BIn {P : Nat → Prop} {f : Nat → Int} {i k l t : Int} (h : yw_BI P f i k l t) (hk : 0 ≤ k) (h0 : P 0) (hi : f 0 < i) (hn : ¬ P k.toNat ∨ l ≤ f k.toNat) : yw_BI P f i (k + 1) l t := by
  rcases h with ⟨e1, e2⟩ | ⟨e1, e2, a1, a2, a3, a4⟩
  · rw [e1, show (0 : Int).toNat = 0 from rfl] at hn
    rcases hn with hn | hn
    · exact absurd h0 hn
    · omega
  · refine Or.inr ⟨by omega, e2, by omega, a2, a3, fun s hs q => ?_⟩
    by_cases z : s < k.toNat
    · exact a4 s z q
    · rw [show s = k.toNat by omega] at q ⊢
      rcases hn with hn | hn
      · exact absurd q hn
      · omega
theorem yw_BIs {P : Nat → Prop} {f : Nat → Int} {i k l t : Int} (h : yw_BI P f i k l t) (hk : 0 ≤ k) (hp : P k.toNat) (hl : f k.toNat < l) : yw_BI P f i (k + 1) (f k.toNat) k := by
  refine Or.inr ⟨by omega, hk, by omega, hp, rfl, fun s hs q => ?_⟩
  by_cases z : s = k.toNat
  · rw [z]
    omega
  · rcases h with ⟨e1, e2⟩ | ⟨e1, e2, a1, a2, a3, a4⟩
    · omega
    · have := a4 s (by omega) q
      omega
theorem yw_BIe {P : Nat → Prop} {f : Nat → Int} {i k l t : Int} {n : Nat} (h : yw_BI P f i k l t) (hk : k = (n : Int)) (hn : 1 ≤ n) : 0 ≤ t ∧ yw_bst P f n l t.toNat := by
  rcases h with ⟨e1, e2⟩ | ⟨e1, e2, a⟩
  · omega
  · rw [show k.toNat = n by omega] at a
    exact ⟨e2, a⟩
def yw_wy (x y : Nat → Int) (n s : Nat) : Prop := ∃ p : Nat → Bool, s = yb_st p n ∧ yw_C x y n p
theorem yw_wy0 {x y : Nat → Int} {n : Nat} : yw_wy x y n 0 := ⟨fun _ => false, by have := yw_st0 n; omega, Or.inl fun _ _ => rfl⟩
theorem yw_wy_e {x y X Y : Nat → Int} {n s : Nat} (hx : ∀ j : Nat, j < n → x j = X j) (hy : ∀ j : Nat, j < n → y j = Y j) : yw_wy x y n s ↔ yw_wy X Y n s := ⟨fun ⟨p, e, h⟩ => ⟨p, e, yw_Ce hx hy h⟩, fun ⟨p, e, h⟩ => ⟨p, e, yw_Ce (fun j hj => (hx j hj).symm) (fun j hj => (hy j hj).symm) h⟩⟩
def yw_bok (N n w : Int) : Prop := (0 ≤ n ∧ n ≤ 12 ∧ n ≤ N) ∧ (0 ≤ w ∧ w ≤ 1)
def yw_bans (x y c v : Nat → Int) (N n w a : Int) : Prop := (¬ yw_bok N n w → a = -1) ∧ (yw_bok N n w → ∃ (l : Int) (t : Nat), yw_bst (yw_wy x y n.toNat) (fun s => yw_wr c v s n.toNat) (2 ^ n.toNat) l t ∧ a = if w = 0 then l else (t : Int))
theorem yw_bans_u {x y c v X Y C V : Nat → Int} {N n w a b : Int} (hx : ∀ j : Nat, (j : Int) < N → x j = X j) (hy : ∀ j : Nat, (j : Int) < N → y j = Y j) (hc : ∀ j : Nat, (j : Int) < N → c j = C j) (hv : ∀ j : Nat, (j : Int) < N → v j = V j) (h1 : yw_bans x y c v N n w a) (h2 : yw_bans X Y C V N n w b) : a = b := by
  by_cases ok : yw_bok N n w
  · obtain ⟨l, t, a1, a2⟩ := h1.2 ok
    obtain ⟨l', t', b1, b2⟩ := h2.2 ok
    have ok1 := ok.1
    obtain ⟨e1, e2⟩ := yw_bst_u (fun s _ => yw_wy_e (fun j hj => hx j (by omega)) (fun j hj => hy j (by omega))) (fun s _ => yw_wr_e _ (fun j hj => hc j (by omega)) (fun j hj => hv j (by omega))) a1 b1
    rw [a2, b2, e1, e2]
  · rw [h1.1 ok, h2.1 ok]
/-! how many bits a long has -/
def yw_U (z : Int) : Nat := (z % 18446744073709551616).toNat
theorem yw_Ub (z : Int) : (Int64.ofInt z).toBitVec.toNat = yw_U z := by
  rw [Int64.toBitVec_ofInt, BitVec.toNat_ofInt]
  rfl
theorem yw_Us {z x k : Int} {n : Nat} (hk : (((Int32.ofInt k).toInt64.toUInt64 &&& Int64.toUInt64 63).toBitVec % 64).toNat = n) (h : Int64.ofInt z = ((Int64.ofInt x).toUInt64 >>> ((Int32.ofInt k).toInt64.toUInt64 &&& Int64.toUInt64 63)).toInt64) : yw_U z = yw_U x / 2 ^ n := by
  rw [← yw_Ub z, h, show (((Int64.ofInt x).toUInt64 >>> ((Int32.ofInt k).toInt64.toUInt64 &&& Int64.toUInt64 63)).toInt64).toBitVec = (Int64.ofInt x).toBitVec >>> (((Int32.ofInt k).toInt64.toUInt64 &&& Int64.toUInt64 63).toBitVec % 64) from rfl, BitVec.ushiftRight_eq', BitVec.toNat_ushiftRight, hk, Nat.shiftRight_eq_div_pow, yw_Ub]
theorem yw_Ua {z x c : Int} (h : Int64.ofInt z = Int64.ofInt x &&& Int64.ofInt c) : yw_U z = yw_U x &&& yw_U c := by
  rw [← yw_Ub z, h, show (Int64.ofInt x &&& Int64.ofInt c).toBitVec = (Int64.ofInt x).toBitVec &&& (Int64.ofInt c).toBitVec from rfl, BitVec.toNat_and, yw_Ub, yw_Ub]
theorem yw_bme (x : Int) : x.bmod Int64.size % 18446744073709551616 = x % 18446744073709551616 := by
  rw [show (18446744073709551616 : Int) = ((Int64.size : Nat) : Int) from rfl]
  exact Int.bmod_emod
theorem yw_Up {z x y : Int} (h : z = (x + y).bmod Int64.size) : yw_U z = (yw_U x + yw_U y) % 18446744073709551616 := by
  have h2 := yw_bme (x + y)
  rw [← h] at h2
  unfold yw_U
  omega
theorem yw_Um {z x y : Int} (h : z = (x - y).bmod Int64.size) (hl : yw_U y ≤ yw_U x) : yw_U z = yw_U x - yw_U y := by
  have h2 := yw_bme (x - y)
  rw [← h] at h2
  unfold yw_U at *
  omega
def yw_m5 : Nat → Nat
  | 0 => 0
  | k + 1 => 85 + 256 * yw_m5 k
def yw_m3 : Nat → Nat
  | 0 => 0
  | k + 1 => 51 + 256 * yw_m3 k
def yw_mf : Nat → Nat
  | 0 => 0
  | k + 1 => 15 + 256 * yw_mf k
def yw_t1 (k x : Nat) : Nat := x - (x / 2 &&& yw_m5 k)
def yw_t2 (k x : Nat) : Nat := (x &&& yw_m3 k) + (x / 4 &&& yw_m3 k)
def yw_t3 (k x : Nat) : Nat := (x + x / 16) &&& yw_mf k
def yw_b1 (a : Nat) : Nat := a - (a / 2 &&& 85)
def yw_b2 (a : Nat) : Nat := (a &&& 51) + (a / 4 &&& 51)
def yw_b3 (a : Nat) : Nat := (a + a / 16) &&& 15
def yw_p8 (a : Nat) : Nat := yw_b3 (yw_b2 (yw_b1 a))
theorem yw_an {a m y M : Nat} (ha : a < 256) (hm : m < 256) : (a + 256 * y) &&& (m + 256 * M) = (a &&& m) + 256 * (y &&& M) := by
  have h1 := Nat.and_mod_two_pow (a := a + 256 * y) (b := m + 256 * M) (n := 8)
  have h2 := Nat.and_div_two_pow (a := a + 256 * y) (b := m + 256 * M) (n := 8)
  rw [show (2 : Nat) ^ 8 = 256 from rfl] at h1 h2
  rw [show (a + 256 * y) % 256 = a by omega, show (m + 256 * M) % 256 = m by omega] at h1
  rw [show (a + 256 * y) / 256 = y by omega, show (m + 256 * M) / 256 = M by omega] at h2
  rw [← h1, ← h2]
  exact (Nat.mod_add_div _ 256).symm
def yw_c1 : Bool := (List.range 256).all fun a => (List.range 4).all fun b => decide (((a / 2 + 128 * (b % 2)) &&& 85) = (a / 2 &&& 85)) && decide (((a / 4 + 64 * b) &&& 51) = (a / 4 &&& 51))
theorem yw_c1_ok : yw_c1 = true := by decide +kernel
theorem yw_c1_e {a b : Nat} (ha : a < 256) (hb : b < 4) : ((a / 2 + 128 * (b % 2)) &&& 85) = (a / 2 &&& 85) ∧ ((a / 4 + 64 * b) &&& 51) = (a / 4 &&& 51) := by
  have h := List.all_eq_true.mp (List.all_eq_true.mp yw_c1_ok a (List.mem_range.mpr ha)) b (List.mem_range.mpr hb)
  rw [Bool.and_eq_true] at h
  exact ⟨of_decide_eq_true h.1, of_decide_eq_true h.2⟩
def yw_c5 : Bool := (List.range 256).all fun a => decide (yw_b1 a < 256) && (decide (yw_b2 (yw_b1 a) ≤ 68) && (decide (yw_b2 (yw_b1 a) % 16 ≤ 4) && (decide (yw_p8 a ≤ 8) && decide ((yw_p8 a : Int) = yb_ct (fun j => a.testBit j) 8))))
theorem yw_c5_ok : yw_c5 = true := by decide +kernel
theorem yw_c5_e {a : Nat} (ha : a < 256) : yw_b1 a < 256 ∧ yw_b2 (yw_b1 a) ≤ 68 ∧ yw_b2 (yw_b1 a) % 16 ≤ 4 ∧ yw_p8 a ≤ 8 ∧ (yw_p8 a : Int) = yb_ct (fun j => a.testBit j) 8 := by
  have h := List.all_eq_true.mp yw_c5_ok a (List.mem_range.mpr ha)
  rw [Bool.and_eq_true, Bool.and_eq_true, Bool.and_eq_true, Bool.and_eq_true] at h
  exact ⟨of_decide_eq_true h.1, of_decide_eq_true h.2.1, of_decide_eq_true h.2.2.1, of_decide_eq_true h.2.2.2.1, of_decide_eq_true h.2.2.2.2⟩
theorem yw_t1s {k a y : Nat} (ha : a < 256) : yw_t1 (k + 1) (a + 256 * y) = yw_b1 a + 256 * yw_t1 k y := by
  have h1 := (yw_c1_e (b := y % 2) ha (by omega)).1
  rw [Nat.mod_mod] at h1
  have h2 := Nat.and_le_left (n := a / 2) (m := 85)
  have h3 := Nat.and_le_left (n := y / 2) (m := yw_m5 k)
  unfold yw_t1 yw_b1
  show (a + 256 * y) - ((a + 256 * y) / 2 &&& (85 + 256 * yw_m5 k)) = _
  rw [show (a + 256 * y) / 2 = (a / 2 + 128 * (y % 2)) + 256 * (y / 2) by omega, yw_an (by omega) (by decide), h1]
  omega
theorem yw_t2s {k a y : Nat} (ha : a < 256) : yw_t2 (k + 1) (a + 256 * y) = yw_b2 a + 256 * yw_t2 k y := by
  have h1 := (yw_c1_e (b := y % 4) ha (by omega)).2
  unfold yw_t2 yw_b2
  show ((a + 256 * y) &&& (51 + 256 * yw_m3 k)) + ((a + 256 * y) / 4 &&& (51 + 256 * yw_m3 k)) = _
  rw [show (a + 256 * y) / 4 = (a / 4 + 64 * (y % 4)) + 256 * (y / 4) by omega, yw_an ha (by decide), yw_an (by omega) (by decide), h1]
  omega
theorem yw_t3s {k a y : Nat} (ha : a ≤ 68) (hy : y % 16 ≤ 4) : yw_t3 (k + 1) (a + 256 * y) = yw_b3 a + 256 * yw_t3 k y := by
  have h1 := Nat.and_two_pow_sub_one_eq_mod (a + a / 16 + 16 * (y % 16)) 4
  have h2 := Nat.and_two_pow_sub_one_eq_mod (a + a / 16) 4
  rw [show (2 : Nat) ^ 4 - 1 = 15 from rfl, show (2 : Nat) ^ 4 = 16 from rfl] at h1 h2
  unfold yw_t3 yw_b3
  show ((a + 256 * y) + (a + 256 * y) / 16) &&& (15 + 256 * yw_mf k) = _
  rw [show (a + 256 * y) + (a + 256 * y) / 16 = (a + a / 16 + 16 * (y % 16)) + 256 * (y + y / 16) by omega, yw_an (by omega) (by decide), h1, h2, show (a + a / 16 + 16 * (y % 16)) % 16 = (a + a / 16) % 16 by omega]
theorem yw_sp (x : Nat) : x = x % 256 + 256 * (x / 256) := (Nat.mod_add_div x 256).symm
theorem yw_lo : ∀ k x : Nat, yw_t2 k (yw_t1 k x) % 16 ≤ 4
  | 0, x => by
    unfold yw_t2
    show ((yw_t1 0 x &&& 0) + (yw_t1 0 x / 4 &&& 0)) % 16 ≤ 4
    rw [Nat.and_zero, Nat.and_zero]
    decide
  | k + 1, x => by
    have h := yw_c5_e (a := x % 256) (by omega)
    rw [yw_sp x, yw_t1s (by omega), yw_t2s h.1]
    omega
def yw_pk : Nat → Nat → Nat
  | 0, _ => 0
  | k + 1, x => yw_p8 (x % 256) + 256 * yw_pk k (x / 256)
def yw_sm : Nat → Nat → Nat
  | 0, _ => 0
  | k + 1, x => yw_p8 (x % 256) + yw_sm k (x / 256)
theorem yw_gk : ∀ k x : Nat, yw_t3 k (yw_t2 k (yw_t1 k x)) = yw_pk k x
  | 0, x => by
    unfold yw_t3
    show _ &&& 0 = 0
    rw [Nat.and_zero]
  | k + 1, x => by
    have h := yw_c5_e (a := x % 256) (by omega)
    have e : yw_t3 (k + 1) (yw_t2 (k + 1) (yw_t1 (k + 1) (x % 256 + 256 * (x / 256)))) = yw_p8 (x % 256) + 256 * yw_pk k (x / 256) := by
      rw [yw_t1s (by omega), yw_t2s h.1, yw_t3s h.2.1 (yw_lo _ _), yw_gk k]
      rfl
    rw [← yw_sp x] at e
    exact e
theorem yw_cta (p : Nat → Bool) (a : Nat) : ∀ b : Nat, yb_ct p (a + b) = yb_ct p a + yb_ct (fun j => p (a + j)) b
  | 0 => (Int.add_zero _).symm
  | b + 1 => by
    show yb_ct p (a + b) + (if p (a + b) = true then 1 else 0) = yb_ct p a + (yb_ct (fun j => p (a + j)) b + if p (a + b) = true then 1 else 0)
    rw [yw_cta p a b, Int.add_assoc]
theorem yw_smc : ∀ k x : Nat, (yw_sm k x : Int) = yb_ct (fun j => x.testBit j) (8 * k)
  | 0, _ => rfl
  | k + 1, x => by
    have h := (yw_c5_e (a := x % 256) (by omega)).2.2.2.2
    rw [show 8 * (k + 1) = 8 + 8 * k by omega, yw_cta]
    have e1 : yb_ct (fun j => x.testBit j) 8 = yb_ct (fun j => (x % 256).testBit j) 8 := yb_ct_eq 8 fun j hj => by
      show x.testBit j = (x % 256).testBit j
      rw [show (256 : Nat) = 2 ^ 8 from rfl, Nat.testBit_mod_two_pow, decide_eq_true hj, Bool.true_and]
    have e2 : (fun j => x.testBit (8 + j)) = fun j => (x / 256).testBit j := funext fun j => by
      rw [show x / 256 = x >>> 8 from (Nat.shiftRight_eq_div_pow x 8).symm, Nat.testBit_shiftRight]
    rw [e1, ← h, e2, ← yw_smc k]
    show ((yw_p8 (x % 256) + yw_sm k (x / 256) : Nat) : Int) = _
    omega
theorem yw_fin {p0 p1 p2 p3 p4 p5 p6 p7 v a b c d e f : Nat} (h0 : p0 ≤ 8) (h1 : p1 ≤ 8) (h2 : p2 ≤ 8) (h3 : p3 ≤ 8) (h4 : p4 ≤ 8) (h5 : p5 ≤ 8) (h6 : p6 ≤ 8) (h7 : p7 ≤ 8) (hv : v = p0 + 256 * (p1 + 256 * (p2 + 256 * (p3 + 256 * (p4 + 256 * (p5 + 256 * (p6 + 256 * (p7 + 256 * 0)))))))) (ha : a = v / 256) (hb : b = (v + a) % 18446744073709551616) (hc : c = b / 65536) (hd : d = (b + c) % 18446744073709551616) (he : e = d / 4294967296) (hf : f = (d + e) % 18446744073709551616) : f % 128 = p0 + p1 + p2 + p3 + p4 + p5 + p6 + p7 := by
  have a' : a = p1 + 256 * (p2 + 256 * (p3 + 256 * (p4 + 256 * (p5 + 256 * (p6 + 256 * p7))))) := by omega
  have b' : b = (p0 + p1) + 256 * (p1 + p2) + 65536 * (p2 + p3) + 16777216 * (p3 + p4) + 4294967296 * (p4 + p5) + 1099511627776 * (p5 + p6) + 281474976710656 * (p6 + p7) + 72057594037927936 * p7 := by omega
  have c' : c = (p2 + p3) + 256 * (p3 + p4) + 65536 * (p4 + p5) + 16777216 * (p5 + p6) + 4294967296 * (p6 + p7) + 1099511627776 * p7 := by omega
  have d' : d = (p0 + p1 + p2 + p3) + 256 * (p1 + p2 + p3 + p4) + 65536 * (p2 + p3 + p4 + p5) + 16777216 * (p3 + p4 + p5 + p6) + 4294967296 * (p4 + p5 + p6 + p7) + 1099511627776 * (p5 + p6 + p7) + 281474976710656 * (p6 + p7) + 72057594037927936 * p7 := by omega
  have e' : e = (p4 + p5 + p6 + p7) + 256 * (p5 + p6 + p7) + 65536 * (p6 + p7) + 16777216 * p7 := by omega
  omega
theorem yw_i7 {r15 r16 r17 : Int} (h0 : 0 ≤ r17) (h1 : r17 ≤ 127) (e16 : r16 = (Int32.ofInt r15).toInt) (e17 : Int32.ofInt r17 = Int32.ofInt r16 &&& Int32.ofInt 127) : r17 = ((yw_U r15 % 128 : Nat) : Int) := by
  rw [e16, Int32.ofInt_toInt] at e17
  have k := congrArg (fun z : Int32 => z.toBitVec.toNat) e17
  have k : (Int32.ofInt r17).toBitVec.toNat = (Int32.ofInt r15 &&& Int32.ofInt 127).toBitVec.toNat := k
  rw [show (Int32.ofInt r15 &&& Int32.ofInt 127).toBitVec = (Int32.ofInt r15).toBitVec &&& (Int32.ofInt 127).toBitVec from rfl, BitVec.toNat_and, Int32.toBitVec_ofInt, Int32.toBitVec_ofInt, BitVec.toNat_ofInt, BitVec.toNat_ofInt, show (Int32.ofInt 127).toBitVec.toNat = 2 ^ 7 - 1 from rfl, Nat.and_two_pow_sub_one_eq_mod] at k
  unfold yw_U
  omega
theorem yw_bc {r0 r1 r2 r3 r4 r5 r6 r7 r8 r9 r10 r11 r12 r13 r14 r15 r16 r17 : Int} (b4 : 0 ≤ r4) (c4 : r4 ≤ 3689348814741910323) (b6 : 0 ≤ r6) (c6 : r6 ≤ 3689348814741910323) (b17 : 0 ≤ r17) (c17 : r17 ≤ 127)
    (e1 : Int64.ofInt r1 = ((Int64.ofInt r0).toUInt64 >>> ((Int32.ofInt 1).toInt64.toUInt64 &&& Int64.toUInt64 63)).toInt64) (e2 : Int64.ofInt r2 = Int64.ofInt r1 &&& Int64.ofInt 6148914691236517205) (e3 : r3 = (r0 - r2).bmod Int64.size)
    (e4 : Int64.ofInt r4 = Int64.ofInt r3 &&& Int64.ofInt 3689348814741910323) (e5 : Int64.ofInt r5 = ((Int64.ofInt r3).toUInt64 >>> ((Int32.ofInt 2).toInt64.toUInt64 &&& Int64.toUInt64 63)).toInt64) (e6 : Int64.ofInt r6 = Int64.ofInt r5 &&& Int64.ofInt 3689348814741910323)
    (e7 : Int64.ofInt r7 = ((Int64.ofInt (r6 + r4)).toUInt64 >>> ((Int32.ofInt 4).toInt64.toUInt64 &&& Int64.toUInt64 63)).toInt64) (e8 : r8 = (r6 + r4 + r7).bmod Int64.size) (e9 : Int64.ofInt r9 = Int64.ofInt r8 &&& Int64.ofInt 1085102592571150095)
    (e10 : Int64.ofInt r10 = ((Int64.ofInt r9).toUInt64 >>> ((Int32.ofInt 8).toInt64.toUInt64 &&& Int64.toUInt64 63)).toInt64) (e11 : r11 = (r9 + r10).bmod Int64.size) (e12 : Int64.ofInt r12 = ((Int64.ofInt r11).toUInt64 >>> ((Int32.ofInt 16).toInt64.toUInt64 &&& Int64.toUInt64 63)).toInt64) (e13 : r13 = (r11 + r12).bmod Int64.size)
    (e14 : Int64.ofInt r14 = ((Int64.ofInt r13).toUInt64 >>> ((Int32.ofInt 32).toInt64.toUInt64 &&& Int64.toUInt64 63)).toInt64) (e15 : r15 = (r13 + r14).bmod Int64.size) (e16 : r16 = (Int32.ofInt r15).toInt) (e17 : Int32.ofInt r17 = Int32.ofInt r16 &&& Int32.ofInt 127) : r17 = yb_ct (fun j => (Int64.ofInt r0).toBitVec.getLsbD j) 64 := by
  have u1 := yw_Us (n := 1) (by decide +kernel) e1
  have u2 := yw_Ua e2
  rw [show yw_U 6148914691236517205 = yw_m5 8 by decide +kernel, u1, show (2 : Nat) ^ 1 = 2 from rfl] at u2
  have u3 := yw_Um e3 (by
    have h := Nat.and_le_left (n := yw_U r0 / 2) (m := yw_m5 8)
    omega)
  rw [u2] at u3
  have u3 : yw_U r3 = yw_t1 8 (yw_U r0) := u3
  have u4 := yw_Ua e4
  rw [show yw_U 3689348814741910323 = yw_m3 8 by decide +kernel] at u4
  have u5 := yw_Us (n := 2) (by decide +kernel) e5
  have u6 := yw_Ua e6
  rw [show yw_U 3689348814741910323 = yw_m3 8 by decide +kernel, u5, show (2 : Nat) ^ 2 = 4 from rfl] at u6
  have us : yw_U (r6 + r4) = yw_U r4 + yw_U r6 := by
    unfold yw_U
    omega
  have ul : yw_U (r6 + r4) ≤ 7378697629483820646 := by
    unfold yw_U
    omega
  rw [u4, u6, u3] at us
  have us : yw_U (r6 + r4) = yw_t2 8 (yw_t1 8 (yw_U r0)) := us
  have u7 := yw_Us (n := 4) (by decide +kernel) e7
  have u8 := yw_Up e8
  rw [u7, show (2 : Nat) ^ 4 = 16 from rfl, Nat.mod_eq_of_lt (by omega)] at u8
  have u9 := yw_Ua e9
  rw [show yw_U 1085102592571150095 = yw_mf 8 by decide +kernel, u8, us] at u9
  have u9 : yw_U r9 = yw_t3 8 (yw_t2 8 (yw_t1 8 (yw_U r0))) := u9
  rw [yw_gk] at u9
  have u10 := yw_Us (n := 8) (by decide +kernel) e10
  have u11 := yw_Up e11
  have u12 := yw_Us (n := 16) (by decide +kernel) e12
  have u13 := yw_Up e13
  have u14 := yw_Us (n := 32) (by decide +kernel) e14
  have u15 := yw_Up e15
  have hp : ∀ z : Nat, yw_p8 (z % 256) ≤ 8 := fun z => (yw_c5_e (a := z % 256) (by omega)).2.2.2.1
  have hf := yw_fin (hp _) (hp _) (hp _) (hp _) (hp _) (hp _) (hp _) (hp _) (show yw_U r9 = yw_p8 (yw_U r0 % 256) + 256 * (yw_p8 (yw_U r0 / 256 % 256) + 256 * (yw_p8 (yw_U r0 / 256 / 256 % 256) + 256 * (yw_p8 (yw_U r0 / 256 / 256 / 256 % 256) + 256 * (yw_p8 (yw_U r0 / 256 / 256 / 256 / 256 % 256) + 256 * (yw_p8 (yw_U r0 / 256 / 256 / 256 / 256 / 256 % 256) + 256 * (yw_p8 (yw_U r0 / 256 / 256 / 256 / 256 / 256 / 256 % 256) + 256 * (yw_p8 (yw_U r0 / 256 / 256 / 256 / 256 / 256 / 256 / 256 % 256) + 256 * 0))))))) from u9) u10 u11 u12 u13 u14 u15
  have hs : yw_U r15 % 128 = yw_sm 8 (yw_U r0) := by
    rw [hf]
    show _ = yw_p8 (yw_U r0 % 256) + (yw_p8 (yw_U r0 / 256 % 256) + (yw_p8 (yw_U r0 / 256 / 256 % 256) + (yw_p8 (yw_U r0 / 256 / 256 / 256 % 256) + (yw_p8 (yw_U r0 / 256 / 256 / 256 / 256 % 256) + (yw_p8 (yw_U r0 / 256 / 256 / 256 / 256 / 256 % 256) + (yw_p8 (yw_U r0 / 256 / 256 / 256 / 256 / 256 / 256 % 256) + (yw_p8 (yw_U r0 / 256 / 256 / 256 / 256 / 256 / 256 / 256 % 256) + 0)))))))
    omega
  rw [yw_i7 b17 c17 e16 e17, hs, yw_smc 8]
  refine yb_ct_eq _ fun j _ => ?_
  show (yw_U r0).testBit j = (Int64.ofInt r0).toBitVec.getLsbD j
  rw [← yw_Ub, BitVec.testBit_toNat]
theorem yw_tal {m : Nat → Int} {w s b : Int} (hw : 0 ≤ w) (h : s = yb_ct (yw_mk m) (64 * w.toNat)) (hb : b = yb_ct (fun j => (Int64.ofInt (m w.toNat)).toBitVec.getLsbD j) 64) : s + b = yb_ct (yw_mk m) (64 * (w + 1).toNat) := by
  rw [show 64 * (w + 1).toNat = 64 * w.toNat + 64 by omega, yw_cta, ← h, hb]
  congr 1
  refine yb_ct_eq _ fun j hj => ?_
  show _ = (Int64.ofInt (m ((64 * w.toNat + j) / 64))).toBitVec.getLsbD ((64 * w.toNat + j) % 64)
  rw [show (64 * w.toNat + j) / 64 = w.toNat by omega, show (64 * w.toNat + j) % 64 = j by omega]
theorem yw_RRw {x y : Nat → Int} {n s : Nat} (hnr : yw_nr x y n) : yw_RR x y (fun j => (2 ^ n - 1).testBit j = true) (2 ^ n - 1) s ↔ yw_wy x y n s := by
  by_cases hs : s < 2 ^ n
  · exact yw_RRC hnr hs
  · have h1 : 1 ≤ 2 ^ n := Nat.one_le_two_pow
    constructor
    · rintro (z | z | ⟨a, b, _, _, _, i, _, _, h⟩)
      · exfalso
        omega
      · exfalso
        omega
      · have key : ∀ q : Nat → Bool, yw_bits s (fun j => (2 ^ n - 1).testBit j = true ∧ q j = true) → s < 2 ^ n := fun q k => Nat.lt_pow_two_of_testBit s fun j hj => by
          cases e : s.testBit j
          · rfl
          · have := (yw_alb _).mp ((k j).mp e).1
            omega
        rcases h with h | h | h | h <;> exact absurd (key _ h) hs
    · rintro ⟨p, e, _⟩
      have := yb_st_lt p n
      omega
def yw_wok (N n : Int) : Prop := 0 ≤ n ∧ n ≤ 12 ∧ n ≤ N
def yw_wans (x y : Nat → Int) (N n a : Int) : Prop := (¬ yw_wok N n → a = -1) ∧ (yw_wok N n → ∃ q : Nat → Bool, (∀ s : Nat, s < 4096 → (q s = true ↔ yw_wy x y n.toNat s)) ∧ a = yb_ct q 4096)
theorem yw_wans_u {x y X Y : Nat → Int} {N n a b : Int} (hx : ∀ j : Nat, (j : Int) < N → x j = X j) (hy : ∀ j : Nat, (j : Int) < N → y j = Y j) (h1 : yw_wans x y N n a) (h2 : yw_wans X Y N n b) : a = b := by
  by_cases ok : yw_wok N n
  · obtain ⟨q, a1, a2⟩ := h1.2 ok
    obtain ⟨q', b1, b2⟩ := h2.2 ok
    have o3 := ok.2.2
    rw [a2, b2]
    refine yb_ct_eq _ fun s hs => ?_
    have k := (a1 s hs).trans ((yw_wy_e (fun j hj => hx j (by omega)) (fun j hj => hy j (by omega))).trans (b1 s hs).symm)
    cases e1 : q s
    · cases e2 : q' s
      · rfl
      · exact absurd (e1.symm.trans (k.mpr e2)) (by decide)
    · exact (k.mp e1).symm
  · rw [h1.1 ok, h2.1 ok]
theorem yw_cds {f : Nat → Int} {i m a b : Int} (hi : 0 ≤ i) (hm : m = i + 1) (h : a = yb_ct (fun s => decide (f s = 1)) i.toNat) (hb : (f i.toNat = 1 ∧ b = a + 1) ∨ (f i.toNat ≠ 1 ∧ b = a)) : b = yb_ct (fun s => decide (f s = 1)) m.toNat := by
  rw [show m.toNat = i.toNat + 1 by omega]
  show b = yb_ct (fun s => decide (f s = 1)) i.toNat + if decide (f i.toNat = 1) = true then 1 else 0
  rw [← h]
  rcases hb with ⟨z, e⟩ | ⟨z, e⟩
  · rw [if_pos (decide_eq_true z), e]
  · rw [if_neg (fun q => z (of_decide_eq_true q)), e, Int.add_zero]
/-! shattering -/
theorem yw_linc {x y : Nat → Int} {n a b : Nat} {s : Int} {c p : Nat → Prop} (hnr : yw_nr x y n) (hc : ∀ j : Nat, c j → j < n) (ha : a < n) (hb : b < n) (hs : s = 1 ∨ s = -1) (h : ∀ i j : Nat, c i → c j → p i → ¬ p j → yq_ar x y a b j < yq_ar x y a b i ∨ (yq_ar x y a b j = yq_ar x y a b i ∧ s * yw_fu x y a b j < s * yw_fu x y a b i)) : ∃ A B : Int, ∀ i j : Nat, c i → c j → p i → ¬ p j → A * x j + B * y j < A * x i + B * y i := by
  refine ⟨-(y b - y a) * 10000000 + s * (x b - x a), (x b - x a) * 10000000 + s * (y b - y a), fun i j hi hj h1 h2 => ?_⟩
  have e : ∀ k : Nat, (-(y b - y a) * 10000000 + s * (x b - x a)) * x k + ((x b - x a) * 10000000 + s * (y b - y a)) * y k = 10000000 * (yq_ar x y a b k + ((x b - x a) * y a - (y b - y a) * x a)) + s * yw_fu x y a b k := fun k => by
    unfold yq_ar yw_fu
    grind
  rw [e i, e j]
  have b1 := yw_fub hnr ha hb (hc i hi) (hc j hj)
  have b2 := yw_fub hnr ha hb (hc j hj) (hc i hi)
  rcases h i j hi hj h1 h2 with q | ⟨q1, q2⟩
  · rcases hs with z | z
    · rw [z]
      omega
    · rw [z]
      omega
  · rw [q1]
    omega
theorem yw_bf {b : Bool} {P : Prop} (h : b = true → P) (hn : ¬ P) : b = false := by
  cases e : b
  · rfl
  · exact absurd (h e) hn
theorem yw_RRs {x y : Nat → Int} {c : Nat → Prop} {S s n : Nat} (hnr : yw_nr x y n) (hc : ∀ j : Nat, c j → j < n) (h : yw_RR x y c S s) : s = 0 ∨ s = S ∨ ∃ A B : Int, ∀ i j : Nat, c i → c j → s.testBit i = true → ¬ s.testBit j = true → A * x j + B * y j < A * x i + B * y i := by
  rcases h with h | h | ⟨a, b, h1, h2, _, i, h4, h5, h6⟩
  · exact Or.inl h
  · exact Or.inr (Or.inl h)
  · refine Or.inr (Or.inr ?_)
    rcases h6 with h | h | h | h
    · refine yw_linc (p := fun j => s.testBit j = true) hnr hc (hc a h1) (hc b h2) (Or.inr rfl) fun k l hk hl q1 q2 => ?_
      have z1 := of_decide_eq_true ((h k).mp q1).2
      have z2 := of_decide_eq_false (yw_bf (fun z => (h l).mpr ⟨hl, z⟩) q2)
      omega
    · refine yw_linc (p := fun j => s.testBit j = true) hnr hc (hc a h1) (hc b h2) (Or.inr rfl) fun k l hk hl q1 q2 => ?_
      have z1 := of_decide_eq_true ((h k).mp q1).2
      have z2 := of_decide_eq_false (yw_bf (fun z => (h l).mpr ⟨hl, z⟩) q2)
      omega
    · refine yw_linc (p := fun j => s.testBit j = true) hnr hc (hc a h1) (hc b h2) (Or.inl rfl) fun k l hk hl q1 q2 => ?_
      have z1 := of_decide_eq_true ((h k).mp q1).2
      have z2 := of_decide_eq_false (yw_bf (fun z => (h l).mpr ⟨hl, z⟩) q2)
      omega
    · refine yw_linc (p := fun j => s.testBit j = true) hnr hc (hc a h1) (hc b h2) (Or.inl rfl) fun k l hk hl q1 q2 => ?_
      have z1 := of_decide_eq_true ((h k).mp q1).2
      have z2 := of_decide_eq_false (yw_bf (fun z => (h l).mpr ⟨hl, z⟩) q2)
      omega
theorem yw_pos {L : Nat → Int} (h0 : L 0 + L 1 + L 2 + L 3 = 0) (hn : ∃ i : Nat, i < 4 ∧ L i ≠ 0) : ∃ i : Nat, i < 4 ∧ 0 < L i := by
  by_cases q0 : 0 < L 0
  · exact ⟨0, by decide, q0⟩
  · by_cases q1 : 0 < L 1
    · exact ⟨1, by decide, q1⟩
    · by_cases q2 : 0 < L 2
      · exact ⟨2, by decide, q2⟩
      · by_cases q3 : 0 < L 3
        · exact ⟨3, by decide, q3⟩
        · exfalso
          obtain ⟨i, hi, h⟩ := hn
          rcases (show i = 0 ∨ i = 1 ∨ i = 2 ∨ i = 3 by omega) with z | z | z | z
          · rw [z] at h
            omega
          · rw [z] at h
            omega
          · rw [z] at h
            omega
          · rw [z] at h
            omega
theorem yw_ngt {L : Nat → Int} (h0 : L 0 + L 1 + L 2 + L 3 = 0) (hn : ∃ i : Nat, i < 4 ∧ L i ≠ 0) : ∃ i : Nat, i < 4 ∧ L i < 0 := by
  obtain ⟨i, hi, h⟩ := yw_pos (L := fun i => -L i) (by show -L 0 + -L 1 + -L 2 + -L 3 = 0; omega) (by
    obtain ⟨i, hi, h⟩ := hn
    exact ⟨i, hi, by show -L i ≠ 0; omega⟩)
  have h : 0 < -L i := h
  exact ⟨i, hi, by omega⟩
theorem yw_rad {L F : Nat → Int} (h0 : L 0 + L 1 + L 2 + L 3 = 0) (h1 : L 0 * F 0 + L 1 * F 1 + L 2 * F 2 + L 3 * F 3 = 0) (hn : ∃ i : Nat, i < 4 ∧ L i ≠ 0) (hs : ∀ i j : Nat, i < 4 → j < 4 → 0 < L i → L j < 0 → F j < F i) : False := by
  rcases yw_min (W := fun q => 0 < L q) (R := fun a b => F a ≤ F b) (fun a b _ _ => by show F a ≤ F b ∨ F b ≤ F a; omega) (fun a b d _ _ _ p q => Int.le_trans p q) 4 with q | ⟨m, hm, hp, hmin⟩
  · obtain ⟨i, hi, h⟩ := yw_pos h0 hn
    exact q i hi h
  · have hp : 0 < L m := hp
    have key : ∀ i : Nat, i < 4 → 0 ≤ L i * (F i - F m) := fun i hi => by
      by_cases z : 0 < L i
      · have k : F m ≤ F i := hmin i hi z
        exact Int.mul_nonneg (by omega) (by omega)
      · by_cases z2 : L i < 0
        · have k := hs m i hm hi hp z2
          have e : L i * (F i - F m) = (-L i) * (F m - F i) := by grind
          rw [e]
          exact Int.mul_nonneg (by omega) (by omega)
        · rw [show L i = 0 by omega, Int.zero_mul]
          exact Int.le_refl 0
    obtain ⟨j, hj, hl⟩ := yw_ngt h0 hn
    have hj2 : 0 < L j * (F j - F m) := by
      have k := hs m j hm hj hp hl
      have e : L j * (F j - F m) = (-L j) * (F m - F j) := by grind
      rw [e]
      exact Int.mul_pos (by omega) (by omega)
    have e : L 0 * (F 0 - F m) + L 1 * (F 1 - F m) + L 2 * (F 2 - F m) + L 3 * (F 3 - F m) = (L 0 * F 0 + L 1 * F 1 + L 2 * F 2 + L 3 * F 3) - (L 0 + L 1 + L 2 + L 3) * F m := by grind
    rw [h0, h1, Int.zero_mul] at e
    have k0 := key 0 (by decide)
    have k1 := key 1 (by decide)
    have k2 := key 2 (by decide)
    have k3 := key 3 (by decide)
    rcases (show j = 0 ∨ j = 1 ∨ j = 2 ∨ j = 3 by omega) with z | z | z | z
    · rw [z] at hj2
      omega
    · rw [z] at hj2
      omega
    · rw [z] at hj2
      omega
    · rw [z] at hj2
      omega
theorem yw_cl (Q : Nat → Prop) : ∃ P : Nat → Bool, ∀ j : Nat, P j = true ↔ Q j := ⟨fun j => @decide (Q j) (Classical.propDecidable _), fun j => ⟨fun h => @of_decide_eq_true _ (Classical.propDecidable _) h, fun h => @decide_eq_true _ (Classical.propDecidable _) h⟩⟩
theorem yw_nsh {x y : Nat → Int} {c : Nat → Prop} {S : Nat} {I : Nat → Nat} {L : Nat → Int} (hnr : yw_nr x y 12) (hc : ∀ j : Nat, c j → j < 12) (hS : ∀ j : Nat, S.testBit j = true ↔ c j) (hI : ∀ i : Nat, i < 4 → c (I i)) (hd : ∀ i j : Nat, i < 4 → j < 4 → 0 < L i → L j < 0 → I i ≠ I j) (h0 : L 0 + L 1 + L 2 + L 3 = 0) (hx : L 0 * x (I 0) + L 1 * x (I 1) + L 2 * x (I 2) + L 3 * x (I 3) = 0) (hy : L 0 * y (I 0) + L 1 * y (I 1) + L 2 * y (I 2) + L 3 * y (I 3) = 0) (hn : ∃ i : Nat, i < 4 ∧ L i ≠ 0) : ∃ s : Nat, s < 4096 ∧ (∀ j : Nat, s.testBit j = true → S.testBit j = true) ∧ ¬ yw_RR x y c S s := by
  obtain ⟨P, hP⟩ := yw_cl (fun j => ∃ i : Nat, i < 4 ∧ 0 < L i ∧ j = I i)
  have tb : ∀ j : Nat, (yb_st P 12).testBit j = true ↔ ∃ i : Nat, i < 4 ∧ 0 < L i ∧ j = I i := fun j => by
    rw [yb_tb, Bool.and_eq_true, decide_eq_true_iff, hP j]
    constructor
    · exact fun z => z.2
    · rintro ⟨i, h1, h2, h3⟩
      exact ⟨by rw [h3]; exact hc _ (hI i h1), i, h1, h2, h3⟩
  refine ⟨yb_st P 12, yb_lt (by decide), fun j hj => ?_, fun h => ?_⟩
  · obtain ⟨i, h1, h2, h3⟩ := (tb j).mp hj
    rw [h3]
    exact (hS _).mpr (hI i h1)
  · rcases yw_RRs hnr hc h with z | z | ⟨A, B, z⟩
    · obtain ⟨i, h1, h2⟩ := yw_pos h0 hn
      have k := (tb (I i)).mpr ⟨i, h1, h2, rfl⟩
      rw [z, Nat.zero_testBit] at k
      cases k
    · obtain ⟨j, h1, h2⟩ := yw_ngt h0 hn
      have k := (hS (I j)).mpr (hI j h1)
      rw [← z] at k
      obtain ⟨i, h3, h4, h5⟩ := (tb _).mp k
      exact hd i j h3 h1 h4 h2 h5.symm
    · refine yw_rad (L := L) (F := fun i => A * x (I i) + B * y (I i)) h0 ?_ hn fun i j h1 h2 h3 h4 => z (I i) (I j) (hI i h1) (hI j h2) ((tb _).mpr ⟨i, h1, h3, rfl⟩) fun k => ?_
      · show L 0 * (A * x (I 0) + B * y (I 0)) + L 1 * (A * x (I 1) + B * y (I 1)) + L 2 * (A * x (I 2) + B * y (I 2)) + L 3 * (A * x (I 3) + B * y (I 3)) = 0
        have e : L 0 * (A * x (I 0) + B * y (I 0)) + L 1 * (A * x (I 1) + B * y (I 1)) + L 2 * (A * x (I 2) + B * y (I 2)) + L 3 * (A * x (I 3) + B * y (I 3)) = A * (L 0 * x (I 0) + L 1 * x (I 1) + L 2 * x (I 2) + L 3 * x (I 3)) + B * (L 0 * y (I 0) + L 1 * y (I 1) + L 2 * y (I 2) + L 3 * y (I 3)) := by grind
        rw [e, hx, hy, Int.mul_zero, Int.mul_zero]
        rfl
      · obtain ⟨i', h5, h6, h7⟩ := (tb _).mp k
        exact hd i' j h5 h2 h6 h4 h7.symm
def yw_L4 (a b c d : Int) : Nat → Int
  | 0 => a
  | 1 => b
  | 2 => c
  | _ => d
def yw_I4 (a b c d : Nat) : Nat → Nat
  | 0 => a
  | 1 => b
  | 2 => c
  | _ => d
def yw_NS (x y : Nat → Int) (c : Nat → Prop) (S : Nat) : Prop := ∃ s : Nat, s < 4096 ∧ (∀ j : Nat, s.testBit j = true → S.testBit j = true) ∧ ¬ yw_RR x y c S s
theorem yw_I4c {c : Nat → Prop} {a b d e : Nat} (h1 : c a) (h2 : c b) (h3 : c d) (h4 : c e) (i : Nat) (hi : i < 4) : c (yw_I4 a b d e i) := by
  rcases (show i = 0 ∨ i = 1 ∨ i = 2 ∨ i = 3 by omega) with z | z | z | z
  · rw [z]
    exact h1
  · rw [z]
    exact h2
  · rw [z]
    exact h3
  · rw [z]
    exact h4
theorem yw_I4d {a b d e : Nat} {l1 l2 l3 l4 : Int} (h1 : a ≠ b) (h2 : a ≠ d) (h3 : b ≠ d) (h4 : l4 = 0 ∨ (a ≠ e ∧ b ≠ e ∧ d ≠ e)) (i j : Nat) (hi : i < 4) (hj : j < 4) (p : 0 < yw_L4 l1 l2 l3 l4 i) (q : yw_L4 l1 l2 l3 l4 j < 0) : yw_I4 a b d e i ≠ yw_I4 a b d e j := by
  rcases (show i = 0 ∨ i = 1 ∨ i = 2 ∨ i = 3 by omega) with z | z | z | z <;> rcases (show j = 0 ∨ j = 1 ∨ j = 2 ∨ j = 3 by omega) with w | w | w | w <;> rw [z] at p ⊢ <;> rw [w] at q ⊢ <;> simp only [yw_L4, yw_I4] at p q ⊢ <;> omega
theorem yw_ns2 {x y : Nat → Int} {c : Nat → Prop} {S a b : Nat} (hnr : yw_nr x y 12) (hc : ∀ j : Nat, c j → j < 12) (hS : ∀ j : Nat, S.testBit j = true ↔ c j) (ha : c a) (hb : c b) (hab : a ≠ b) (h : x a = x b ∧ y a = y b) : yw_NS x y c S := by
  refine yw_nsh (I := yw_I4 a b a a) (L := yw_L4 1 (-1) 0 0) hnr hc hS (yw_I4c ha hb ha ha) (fun i j hi hj p q => ?_) rfl ?_ ?_ ⟨0, by decide, by show (1 : Int) ≠ 0; decide⟩
  · rcases (show i = 0 ∨ i = 1 ∨ i = 2 ∨ i = 3 by omega) with z | z | z | z <;> rcases (show j = 0 ∨ j = 1 ∨ j = 2 ∨ j = 3 by omega) with w | w | w | w <;> rw [z] at p ⊢ <;> rw [w] at q ⊢ <;> simp only [yw_L4, yw_I4] at p q ⊢ <;> omega
  · show 1 * x a + -1 * x b + 0 * x a + 0 * x a = 0
    omega
  · show 1 * y a + -1 * y b + 0 * y a + 0 * y a = 0
    omega
theorem yw_ns3 {x y : Nat → Int} {c : Nat → Prop} {S a b d : Nat} (hnr : yw_nr x y 12) (hc : ∀ j : Nat, c j → j < 12) (hS : ∀ j : Nat, S.testBit j = true ↔ c j) (ha : c a) (hb : c b) (hd : c d) (hab : a ≠ b) (had : a ≠ d) (hbd : b ≠ d) (h : yq_ar x y a b d = 0) : yw_NS x y c S := by
  by_cases hs : x a = x b ∧ y a = y b
  · exact yw_ns2 hnr hc hS ha hb hab hs
  · have hD : 0 < yw_dt (x b - x a) (y b - y a) (x b - x a) (y b - y a) := yw_dtp (by omega)
    refine yw_nsh (I := yw_I4 a b d a) (L := yw_L4 (yw_dt (x d - x a) (y d - y a) (x b - x a) (y b - y a) - yw_dt (x b - x a) (y b - y a) (x b - x a) (y b - y a)) (-yw_dt (x d - x a) (y d - y a) (x b - x a) (y b - y a)) (yw_dt (x b - x a) (y b - y a) (x b - x a) (y b - y a)) 0) hnr hc hS (yw_I4c ha hb hd ha) (yw_I4d hab had hbd (Or.inl rfl)) ?_ ?_ ?_ ⟨2, by decide, by show yw_dt (x b - x a) (y b - y a) (x b - x a) (y b - y a) ≠ 0; omega⟩
    · show (yw_dt (x d - x a) (y d - y a) (x b - x a) (y b - y a) - yw_dt (x b - x a) (y b - y a) (x b - x a) (y b - y a)) + -yw_dt (x d - x a) (y d - y a) (x b - x a) (y b - y a) + yw_dt (x b - x a) (y b - y a) (x b - x a) (y b - y a) + 0 = 0
      omega
    · show (yw_dt (x d - x a) (y d - y a) (x b - x a) (y b - y a) - yw_dt (x b - x a) (y b - y a) (x b - x a) (y b - y a)) * x a + -yw_dt (x d - x a) (y d - y a) (x b - x a) (y b - y a) * x b + yw_dt (x b - x a) (y b - y a) (x b - x a) (y b - y a) * x d + 0 * x a = 0
      have e : (yw_dt (x d - x a) (y d - y a) (x b - x a) (y b - y a) - yw_dt (x b - x a) (y b - y a) (x b - x a) (y b - y a)) * x a + -yw_dt (x d - x a) (y d - y a) (x b - x a) (y b - y a) * x b + yw_dt (x b - x a) (y b - y a) (x b - x a) (y b - y a) * x d + 0 * x a = -(y b - y a) * yq_ar x y a b d := by
        unfold yw_dt yq_ar
        grind
      rw [e, h, Int.mul_zero]
    · show (yw_dt (x d - x a) (y d - y a) (x b - x a) (y b - y a) - yw_dt (x b - x a) (y b - y a) (x b - x a) (y b - y a)) * y a + -yw_dt (x d - x a) (y d - y a) (x b - x a) (y b - y a) * y b + yw_dt (x b - x a) (y b - y a) (x b - x a) (y b - y a) * y d + 0 * y a = 0
      have e : (yw_dt (x d - x a) (y d - y a) (x b - x a) (y b - y a) - yw_dt (x b - x a) (y b - y a) (x b - x a) (y b - y a)) * y a + -yw_dt (x d - x a) (y d - y a) (x b - x a) (y b - y a) * y b + yw_dt (x b - x a) (y b - y a) (x b - x a) (y b - y a) * y d + 0 * y a = (x b - x a) * yq_ar x y a b d := by
        unfold yw_dt yq_ar
        grind
      rw [e, h, Int.mul_zero]
theorem yw_ns4 {x y : Nat → Int} {c : Nat → Prop} {S a b d e : Nat} (hnr : yw_nr x y 12) (hc : ∀ j : Nat, c j → j < 12) (hS : ∀ j : Nat, S.testBit j = true ↔ c j) (ha : c a) (hb : c b) (hd : c d) (he : c e) (hab : a ≠ b) (had : a ≠ d) (hae : a ≠ e) (hbd : b ≠ d) (hbe : b ≠ e) (hde : d ≠ e) : yw_NS x y c S := by
  by_cases h : yq_ar x y a b d = 0
  · exact yw_ns3 hnr hc hS ha hb hd hab had hbd h
  · refine yw_nsh (I := yw_I4 a b d e) (L := yw_L4 (yq_ar x y b d e) (-yq_ar x y a d e) (yq_ar x y a b e) (-yq_ar x y a b d)) hnr hc hS (yw_I4c ha hb hd he) (yw_I4d hab had hbd (Or.inr ⟨hae, hbe, hde⟩)) ?_ ?_ ?_ ⟨3, by decide, by show -yq_ar x y a b d ≠ 0; omega⟩
    · show yq_ar x y b d e + -yq_ar x y a d e + yq_ar x y a b e + -yq_ar x y a b d = 0
      unfold yq_ar
      grind
    · show yq_ar x y b d e * x a + -yq_ar x y a d e * x b + yq_ar x y a b e * x d + -yq_ar x y a b d * x e = 0
      unfold yq_ar
      grind
    · show yq_ar x y b d e * y a + -yq_ar x y a d e * y b + yq_ar x y a b e * y d + -yq_ar x y a b d * y e = 0
      unfold yq_ar
      grind
def yw_shc (x y : Nat → Int) (c : Nat → Prop) : Prop := (∀ a b : Nat, c a → c b → a ≠ b → ¬ (x a = x b ∧ y a = y b)) ∧ (∀ a b d : Nat, c a → c b → c d → a ≠ b → a ≠ d → b ≠ d → yq_ar x y a b d ≠ 0) ∧ (∀ a b d e : Nat, c a → c b → c d → c e → a ≠ b → a ≠ d → a ≠ e → b ≠ d → b ≠ e → d ≠ e → False)
theorem yw_fuv {x y : Nat → Int} {u v : Nat} (h : ¬ (x u = x v ∧ y u = y v)) : yw_fu x y u v u < yw_fu x y u v v := by
  have k := yw_dtp (wx := x v - x u) (wy := y v - y u) (by omega)
  have e : yw_fu x y u v v - yw_fu x y u v u = yw_dt (x v - x u) (y v - y u) (x v - x u) (y v - y u) := by
    unfold yw_fu yw_dt
    grind
  omega
theorem yw_arv (x y : Nat → Int) (i k : Nat) : yq_ar x y i k k = 0 := by
  unfold yq_ar
  grind
/-- two of three, the third to the right -/
theorem yw_two {x y : Nat → Int} {c : Nat → Prop} {S s u v w : Nat} (hu : c u) (hv : c v) (hall : ∀ j : Nat, c j → j = u ∨ j = v ∨ j = w) (hne : ¬ (x u = x v ∧ y u = y v)) (hw : yq_ar x y u v w < 0) (su : s.testBit u = true) (sv : s.testBit v = true) (sw : ¬ s.testBit w = true) (sc : ∀ j : Nat, s.testBit j = true → c j) : yw_RR x y c S s := by
  refine Or.inr (Or.inr ⟨u, v, hu, hv, hne, v, hv, yw_arv x y u v, Or.inl fun j => ⟨fun z => ⟨sc j z, ?_⟩, fun z => ?_⟩⟩)
  · refine decide_eq_true (Or.inr ?_)
    rcases hall j (sc j z) with q | q | q
    · rw [q]
      exact ⟨yw_ari x y u v, Int.le_of_lt (yw_fuv hne)⟩
    · rw [q]
      exact ⟨yw_arv x y u v, Int.le_refl _⟩
    · rw [q] at z
      exact absurd z sw
  · have z2 := of_decide_eq_true z.2
    rcases hall j z.1 with q | q | q
    · rw [q]
      exact su
    · rw [q]
      exact sv
    · rw [q] at z2
      omega
/-- one of three (or of two), the others on the line -/
theorem yw_one1 {x y : Nat → Int} {c : Nat → Prop} {S s u v w : Nat} (hu : c u) (hv : c v) (hall : ∀ j : Nat, c j → j = u ∨ j = v ∨ j = w) (hne : ¬ (x u = x v ∧ y u = y v)) (hw : 0 < yq_ar x y u v w) (su : ¬ s.testBit u = true) (sv : ¬ s.testBit v = true) (sw : s.testBit w = true) (sc : ∀ j : Nat, s.testBit j = true → c j) : yw_RR x y c S s := by
  refine Or.inr (Or.inr ⟨u, v, hu, hv, hne, u, hu, yw_ari x y u v, Or.inr (Or.inl fun j => ⟨fun z => ⟨sc j z, ?_⟩, fun z => ?_⟩)⟩)
  · refine decide_eq_true (Or.inl ?_)
    rcases hall j (sc j z) with q | q | q
    · rw [q] at z
      exact absurd z su
    · rw [q] at z
      exact absurd z sv
    · rw [q]
      exact hw
  · have z2 := of_decide_eq_true z.2
    have k := yw_fuv hne
    rcases hall j z.1 with q | q | q
    · rw [q] at z2
      have k2 := yw_ari x y u v
      omega
    · rw [q] at z2
      have k2 := yw_arv x y u v
      omega
    · rw [q]
      exact sw
theorem yw_ear {P Q : Prop} (h : ¬ (P → Q)) : P ∧ ¬ Q := by
  by_cases p : P
  · exact ⟨p, fun q => h fun _ => q⟩
  · exact absurd (fun z => absurd z p) h
theorem yw_shr {x y : Nat → Int} {c : Nat → Prop} {S : Nat} (hnr : yw_nr x y 12) (hc : ∀ j : Nat, c j → j < 12) (hS : ∀ j : Nat, S.testBit j = true ↔ c j) : (∀ s : Nat, s < 4096 → (∀ j : Nat, s.testBit j = true → S.testBit j = true) → yw_RR x y c S s) ↔ yw_shc x y c := by
  constructor
  · intro h
    have no : ¬ yw_NS x y c S := fun ⟨s, h1, h2, h3⟩ => h3 (h s h1 h2)
    exact ⟨fun a b ha hb hab q => no (yw_ns2 hnr hc hS ha hb hab q), fun a b d ha hb hd h1 h2 h3 q => no (yw_ns3 hnr hc hS ha hb hd h1 h2 h3 q), fun a b d e ha hb hd he h1 h2 h3 h4 h5 h6 => no (yw_ns4 hnr hc hS ha hb hd he h1 h2 h3 h4 h5 h6)⟩
  · rintro ⟨g1, g2, g3⟩ s hs sub
    have sc : ∀ j : Nat, s.testBit j = true → c j := fun j z => (hS j).mp (sub j z)
    by_cases s0 : s = 0
    · exact Or.inl s0
    · by_cases s1 : s = S
      · exact Or.inr (Or.inl s1)
      · have ea : ∃ a : Nat, s.testBit a = true := by
          apply Classical.byContradiction
          intro z
          refine s0 (Nat.eq_of_testBit_eq fun i => ?_)
          rw [Nat.zero_testBit]
          cases e : s.testBit i
          · rfl
          · exact absurd ⟨i, e⟩ z
        have eb : ∃ b : Nat, c b ∧ ¬ s.testBit b = true := by
          apply Classical.byContradiction
          intro z
          refine s1 (Nat.eq_of_testBit_eq fun i => ?_)
          cases e : s.testBit i
          · cases e2 : S.testBit i
            · rfl
            · exact absurd ⟨i, (hS i).mp e2, by rw [e]; decide⟩ z
          · exact (sub i e).symm
        obtain ⟨a, sa⟩ := ea
        obtain ⟨b, cb, sb⟩ := eb
        have ca := sc a sa
        have hab : a ≠ b := fun z => sb (by rw [← z]; exact sa)
        by_cases th : ∃ d : Nat, c d ∧ d ≠ a ∧ d ≠ b
        · obtain ⟨d, cd, hda, hdb⟩ := th
          have hall : ∀ j : Nat, c j → j = a ∨ j = b ∨ j = d := fun j hj => by
            by_cases z1 : j = a
            · exact Or.inl z1
            · by_cases z2 : j = b
              · exact Or.inr (Or.inl z2)
              · by_cases z3 : j = d
                · exact Or.inr (Or.inr z3)
                · exact (g3 a b d j ca cb cd hj hab (Ne.symm hda) (Ne.symm z1) (Ne.symm hdb) (Ne.symm z2) (Ne.symm z3)).elim
          have har := g2 a b d ca cb cd hab (Ne.symm hda) (Ne.symm hdb)
          by_cases sd : s.testBit d = true
          · by_cases sg : yq_ar x y a d b < 0
            · exact yw_two ca cd (fun j hj => by have := hall j hj; omega) (g1 a d ca cd (Ne.symm hda)) sg sa sd sb sc
            · have e1 : yq_ar x y d a b = yq_ar x y a b d := by
                unfold yq_ar
                grind
              have e2 : yq_ar x y a d b = -yq_ar x y a b d := by
                unfold yq_ar
                grind
              exact yw_two cd ca (fun j hj => by have := hall j hj; omega) (g1 d a cd ca hda) (by omega) sd sa sb sc
          · by_cases sg : 0 < yq_ar x y b d a
            · exact yw_one1 cb cd (fun j hj => by have := hall j hj; omega) (g1 b d cb cd (Ne.symm hdb)) sg sb sd sa sc
            · have e1 : yq_ar x y d b a = -yq_ar x y a b d := by
                unfold yq_ar
                grind
              have e2 : yq_ar x y b d a = yq_ar x y a b d := by
                unfold yq_ar
                grind
              exact yw_one1 cd cb (fun j hj => by have := hall j hj; omega) (g1 d b cd cb hdb) (by omega) sd sb sa sc
        · have hall : ∀ j : Nat, c j → j = a ∨ j = b := fun j hj => by
            by_cases z1 : j = a
            · exact Or.inl z1
            · by_cases z2 : j = b
              · exact Or.inr z2
              · exact absurd ⟨j, hj, z1, z2⟩ th
          have hne := g1 a b ca cb hab
          have k := yw_fuv hne
          refine Or.inr (Or.inr ⟨a, b, ca, cb, hne, a, ca, yw_ari x y a b, Or.inl fun j => ⟨fun z => ⟨sc j z, ?_⟩, fun z => ?_⟩⟩)
          · rcases hall j (sc j z) with q | q
            · rw [q]
              exact decide_eq_true (Or.inr ⟨yw_ari x y a b, Int.le_refl _⟩)
            · rw [q] at z
              exact absurd z sb
          · rcases hall j z.1 with q | q
            · rw [q]
              exact sa
            · have z2 := of_decide_eq_true z.2
              rw [q] at z2
              have k2 := yw_arv x y a b
              omega
/-- how many, and which -/
theorem yw_pcl {S e1 e2 e3 e4 : Nat} (h12 : e1 ≠ e2) (h13 : e1 ≠ e3) (h14 : e1 ≠ e4) (h23 : e2 ≠ e3) (h24 : e2 ≠ e4) (h34 : e3 ≠ e4) : ∀ n : Nat, (e1 < n → S.testBit e1 = true) → (e2 < n → S.testBit e2 = true) → (e3 < n → S.testBit e3 = true) → (e4 < n → S.testBit e4 = true) → (if e1 < n then (1 : Int) else 0) + (if e2 < n then 1 else 0) + (if e3 < n then 1 else 0) + (if e4 < n then 1 else 0) ≤ yb_pc S n
  | 0, _, _, _, _ => by
    rw [if_neg (Nat.not_lt_zero _), if_neg (Nat.not_lt_zero _), if_neg (Nat.not_lt_zero _), if_neg (Nat.not_lt_zero _)]
    exact Int.le_refl 0
  | n + 1, a1, a2, a3, a4 => by
    have h := yw_pcl h12 h13 h14 h23 h24 h34 n (fun z => a1 (by omega)) (fun z => a2 (by omega)) (fun z => a3 (by omega)) (fun z => a4 (by omega))
    have st : ∀ e : Nat, (if e < n + 1 then (1 : Int) else 0) = (if e < n then 1 else 0) + (if e = n then 1 else 0) := fun e => by
      by_cases z1 : e < n
      · rw [if_pos z1, if_pos (by omega), if_neg (by omega)]
        rfl
      · by_cases z2 : e = n
        · rw [if_neg z1, if_pos (by omega), if_pos z2]
          rfl
        · rw [if_neg z1, if_neg (by omega), if_neg z2]
          rfl
    rw [st e1, st e2, st e3, st e4]
    show _ ≤ yb_pc S n + if S.testBit n = true then 1 else 0
    have up : (if e1 = n then (1 : Int) else 0) + (if e2 = n then 1 else 0) + (if e3 = n then 1 else 0) + (if e4 = n then 1 else 0) ≤ if S.testBit n = true then 1 else 0 := by
      by_cases z1 : e1 = n
      · rw [if_pos z1, if_neg (by omega), if_neg (by omega), if_neg (by omega), if_pos (by rw [← z1]; exact a1 (by omega))]
        decide
      · by_cases z2 : e2 = n
        · rw [if_neg z1, if_pos z2, if_neg (by omega), if_neg (by omega), if_pos (by rw [← z2]; exact a2 (by omega))]
          decide
        · by_cases z3 : e3 = n
          · rw [if_neg z1, if_neg z2, if_pos z3, if_neg (by omega), if_pos (by rw [← z3]; exact a3 (by omega))]
            decide
          · by_cases z4 : e4 = n
            · rw [if_neg z1, if_neg z2, if_neg z3, if_pos z4, if_pos (by rw [← z4]; exact a4 (by omega))]
              decide
            · rw [if_neg z1, if_neg z2, if_neg z3, if_neg z4]
              split <;> decide
    omega
theorem yw_pch {S e1 e2 e3 : Nat} : ∀ n : Nat, (∀ j : Nat, j < n → S.testBit j = true → j = e1 ∨ j = e2 ∨ j = e3) → yb_pc S n ≤ (if e1 < n then (1 : Int) else 0) + (if e2 < n then 1 else 0) + (if e3 < n then 1 else 0)
  | 0, _ => by
    rw [if_neg (Nat.not_lt_zero _), if_neg (Nat.not_lt_zero _), if_neg (Nat.not_lt_zero _)]
    exact Int.le_refl 0
  | n + 1, h => by
    have k := yw_pch n (fun j hj => h j (by omega))
    have st : ∀ e : Nat, (if e < n + 1 then (1 : Int) else 0) = (if e < n then 1 else 0) + (if e = n then 1 else 0) := fun e => by
      by_cases z1 : e < n
      · rw [if_pos z1, if_pos (by omega), if_neg (by omega)]
        rfl
      · by_cases z2 : e = n
        · rw [if_neg z1, if_pos (by omega), if_pos z2]
          rfl
        · rw [if_neg z1, if_neg (by omega), if_neg z2]
          rfl
    have nn : ∀ e : Nat, (0 : Int) ≤ if e = n then 1 else 0 := fun e => by
      split <;> decide
    rw [st e1, st e2, st e3]
    show yb_pc S n + (if S.testBit n = true then 1 else 0) ≤ _
    have n1 := nn e1
    have n2 := nn e2
    have n3 := nn e3
    by_cases z : S.testBit n = true
    · rw [if_pos z]
      rcases h n (by omega) z with q | q | q
      · rw [if_pos q.symm] at n1 ⊢
        omega
      · rw [if_pos q.symm] at n2 ⊢
        omega
      · rw [if_pos q.symm] at n3 ⊢
        omega
    · rw [if_neg z]
      omega
def yw_nx (S : Nat) (a N r : Int) : Prop := (a ≤ r ∧ r < N ∧ r < 12 ∧ S.testBit r.toNat = true ∧ ∀ j : Nat, a ≤ (j : Int) → (j : Int) < r → ¬ S.testBit j = true) ∨ (r = 0 ∧ ∀ j : Nat, a ≤ (j : Int) → (j : Int) < N → j < 12 → ¬ S.testBit j = true)
theorem yw_shx {x y : Nat → Int} {S : Nat} {N f s t : Int} (hS : ∀ j : Nat, S.testBit j = true → (j : Int) < N ∧ j < 12) (h1 : yw_nx S 0 N f) (h2 : yw_nx S (f + 1) N s) (h3 : yw_nx S (s + 1) N t) : (3 < yb_pc S 12 → ¬ yw_shc x y (fun j => S.testBit j = true)) ∧ (yb_pc S 12 = 3 → (yw_shc x y (fun j => S.testBit j = true) ↔ yq_ar x y f.toNat s.toNat t.toNat ≠ 0)) ∧ (yb_pc S 12 = 2 → (yw_shc x y (fun j => S.testBit j = true) ↔ ¬ (x f.toNat = x s.toNat ∧ y f.toNat = y s.toNat))) ∧ (yb_pc S 12 < 2 → yw_shc x y (fun j => S.testBit j = true)) := by
  have two : ∀ a b : Nat, S.testBit a = true → S.testBit b = true → a ≠ b → 2 ≤ yb_pc S 12 := fun a b ha hb hab => by
    have k := yw_pcl (S := S) (e1 := a) (e2 := b) (e3 := 100) (e4 := 101) hab (by have := (hS a ha).2; omega) (by have := (hS a ha).2; omega) (by have := (hS b hb).2; omega) (by have := (hS b hb).2; omega) (by decide) 12 (fun _ => ha) (fun _ => hb) (fun z => absurd z (by decide)) (fun z => absurd z (by decide))
    rw [if_pos (hS a ha).2, if_pos (hS b hb).2, if_neg (by decide), if_neg (by decide)] at k
    omega
  have three : ∀ a b d : Nat, S.testBit a = true → S.testBit b = true → S.testBit d = true → a ≠ b → a ≠ d → b ≠ d → 3 ≤ yb_pc S 12 := fun a b d ha hb hd hab had hbd => by
    have k := yw_pcl (S := S) (e1 := a) (e2 := b) (e3 := d) (e4 := 101) hab had (by have := (hS a ha).2; omega) hbd (by have := (hS b hb).2; omega) (by have := (hS d hd).2; omega) 12 (fun _ => ha) (fun _ => hb) (fun _ => hd) (fun z => absurd z (by decide))
    rw [if_pos (hS a ha).2, if_pos (hS b hb).2, if_pos (hS d hd).2, if_neg (by decide)] at k
    omega
  have four : ∀ a b d e : Nat, S.testBit a = true → S.testBit b = true → S.testBit d = true → S.testBit e = true → a ≠ b → a ≠ d → a ≠ e → b ≠ d → b ≠ e → d ≠ e → 4 ≤ yb_pc S 12 := fun a b d e ha hb hd he h1 h2 h3 h4 h5 h6 => by
    have k := yw_pcl (S := S) h1 h2 h3 h4 h5 h6 12 (fun _ => ha) (fun _ => hb) (fun _ => hd) (fun _ => he)
    rw [if_pos (hS a ha).2, if_pos (hS b hb).2, if_pos (hS d hd).2, if_pos (hS e he).2] at k
    omega
  have low : yb_pc S 12 < 2 → yw_shc x y (fun j => S.testBit j = true) := fun z => ⟨fun a b ha hb hab => by have := two a b ha hb hab; omega, fun a b d ha hb _ hab _ _ => by have := two a b ha hb hab; omega, fun a b d e ha hb _ _ hab _ _ _ _ _ => by have := two a b ha hb hab; omega⟩
  -- the first is there as soon as there is one
  by_cases c2 : yb_pc S 12 < 2
  · exact ⟨fun z => by omega, fun z => by omega, fun z => by omega, low⟩
  · have f1 : 0 ≤ f ∧ f < 12 ∧ S.testBit f.toNat = true ∧ ∀ j : Nat, (j : Int) < f → ¬ S.testBit j = true := by
      rcases h1 with ⟨a1, a2, a3, a4, a5⟩ | ⟨a1, a2⟩
      · exact ⟨a1, a3, a4, fun j hj => a5 j (by omega) hj⟩
      · have k := yw_pch (S := S) (e1 := 100) (e2 := 100) (e3 := 100) 12 fun j hj z => absurd z (a2 j (by omega) (hS j z).1 hj)
        rw [if_neg (by decide)] at k
        omega
    obtain ⟨f0, f12, fb, fl⟩ := f1
    have s1 : f + 1 ≤ s ∧ s < 12 ∧ S.testBit s.toNat = true ∧ ∀ j : Nat, f + 1 ≤ (j : Int) → (j : Int) < s → ¬ S.testBit j = true := by
      rcases h2 with ⟨a1, a2, a3, a4, a5⟩ | ⟨a1, a2⟩
      · exact ⟨a1, a3, a4, a5⟩
      · have k := yw_pch (S := S) (e1 := f.toNat) (e2 := 100) (e3 := 100) 12 fun j hj z => by
          by_cases q : (j : Int) < f
          · exact absurd z (fl j q)
          · by_cases q2 : (j : Int) = f
            · exact Or.inl (by omega)
            · exact absurd z (a2 j (by omega) (hS j z).1 hj)
        rw [if_pos (by omega), if_neg (by decide)] at k
        omega
    obtain ⟨s0, s12, sb, sl⟩ := s1
    have hfs : f.toNat ≠ s.toNat := by omega
    by_cases c3 : yb_pc S 12 = 2
    · refine ⟨fun z => by omega, fun z => by omega, fun _ => ⟨fun z => z.1 _ _ fb sb hfs, fun z => ⟨?_, ?_, ?_⟩⟩, low⟩
      · intro a b ha hb hab q
        have m1 : ∀ j : Nat, S.testBit j = true → j = f.toNat ∨ j = s.toNat := fun j hj => by
          apply Classical.byContradiction
          intro w
          have := three f.toNat s.toNat j fb sb hj hfs (by omega) (by omega)
          omega
        rcases m1 a ha with p1 | p1
        · rcases m1 b hb with p2 | p2
          · exact hab (by omega)
          · rw [p1, p2] at q
            exact z q
        · rcases m1 b hb with p2 | p2
          · rw [p1, p2] at q
            exact z ⟨q.1.symm, q.2.symm⟩
          · exact hab (by omega)
      · intro a b d ha hb hd h1 h2 h3
        have := three a b d ha hb hd h1 h2 h3
        omega
      · intro a b d e ha hb hd _ h1 h2 _ h3 _ _
        have := three a b d ha hb hd h1 h2 h3
        omega
    · have t1 : s + 1 ≤ t ∧ t < 12 ∧ S.testBit t.toNat = true := by
        rcases h3 with ⟨a1, a2, a3, a4, a5⟩ | ⟨a1, a2⟩
        · exact ⟨a1, a3, a4⟩
        · have k := yw_pch (S := S) (e1 := f.toNat) (e2 := s.toNat) (e3 := 100) 12 fun j hj z => by
            by_cases q : (j : Int) < f
            · exact absurd z (fl j q)
            · by_cases q2 : (j : Int) = f
              · exact Or.inl (by omega)
              · by_cases q3 : (j : Int) < s
                · exact absurd z (sl j (by omega) q3)
                · by_cases q4 : (j : Int) = s
                  · exact Or.inr (Or.inl (by omega))
                  · exact absurd z (a2 j (by omega) (hS j z).1 hj)
          rw [if_pos (by omega), if_pos (by omega), if_neg (by decide)] at k
          omega
      obtain ⟨t0, t12, tb⟩ := t1
      have hft : f.toNat ≠ t.toNat := by omega
      have hst : s.toNat ≠ t.toNat := by omega
      refine ⟨fun z w => ?_, fun z => ⟨fun w => w.2.1 _ _ _ fb sb tb hfs hft hst, fun w => ⟨?_, ?_, ?_⟩⟩, fun z => by omega, low⟩
      · have ex : ∃ e : Nat, S.testBit e = true ∧ e ≠ f.toNat ∧ e ≠ s.toNat ∧ e ≠ t.toNat := by
          apply Classical.byContradiction
          intro q
          have k := yw_pch (S := S) (e1 := f.toNat) (e2 := s.toNat) (e3 := t.toNat) 12 fun j hj zj => by
            apply Classical.byContradiction
            intro q2
            exact q ⟨j, zj, by omega, by omega, by omega⟩
          rw [if_pos (by omega), if_pos (by omega), if_pos (by omega)] at k
          omega
        obtain ⟨e, e1, e2, e3, e4⟩ := ex
        exact w.2.2 _ _ _ _ fb sb tb e1 hfs hft (Ne.symm e2) hst (Ne.symm e3) (Ne.symm e4)
      · intro a b ha hb hab q
        have m1 : ∀ j : Nat, S.testBit j = true → j = f.toNat ∨ j = s.toNat ∨ j = t.toNat := fun j hj => by
          apply Classical.byContradiction
          intro w
          have := four f.toNat s.toNat t.toNat j fb sb tb hj hfs hft (by omega) hst (by omega) (by omega)
          omega
        have zero : ∀ u v e : Nat, x u = x v ∧ y u = y v → yq_ar x y u v e = 0 := fun u v e k => by
          unfold yq_ar
          rw [k.1, k.2]
          grind
        have q' : x b = x a ∧ y b = y a := ⟨q.1.symm, q.2.symm⟩
        have p1 : yq_ar x y s.toNat f.toNat t.toNat = -yq_ar x y f.toNat s.toNat t.toNat := by unfold yq_ar; grind
        have p2 : yq_ar x y f.toNat t.toNat s.toNat = -yq_ar x y f.toNat s.toNat t.toNat := by unfold yq_ar; grind
        have p3 : yq_ar x y s.toNat t.toNat f.toNat = yq_ar x y f.toNat s.toNat t.toNat := by unfold yq_ar; grind
        rcases m1 a ha with w1 | w1 | w1
        · rcases m1 b hb with w2 | w2 | w2
          · exact hab (by omega)
          · rw [w1, w2] at q
            exact w (zero _ _ _ q)
          · rw [w1, w2] at q
            have := zero _ _ s.toNat q
            omega
        · rcases m1 b hb with w2 | w2 | w2
          · rw [w1, w2] at q
            have := zero _ _ t.toNat q
            omega
          · exact hab (by omega)
          · rw [w1, w2] at q
            have := zero _ _ f.toNat q
            omega
        · rcases m1 b hb with w2 | w2 | w2
          · rw [w1, w2] at q'
            have := zero _ _ s.toNat q'
            omega
          · rw [w1, w2] at q'
            have := zero _ _ f.toNat q'
            omega
          · exact hab (by omega)
      · intro a b d ha hb hd h1 h2 h3 q
        have m1 : ∀ j : Nat, S.testBit j = true → j = f.toNat ∨ j = s.toNat ∨ j = t.toNat := fun j hj => by
          apply Classical.byContradiction
          intro w
          have := four f.toNat s.toNat t.toNat j fb sb tb hj hfs hft (by omega) hst (by omega) (by omega)
          omega
        have p1 : yq_ar x y s.toNat f.toNat t.toNat = -yq_ar x y f.toNat s.toNat t.toNat := by unfold yq_ar; grind
        have p2 : yq_ar x y f.toNat t.toNat s.toNat = -yq_ar x y f.toNat s.toNat t.toNat := by unfold yq_ar; grind
        have p3 : yq_ar x y s.toNat t.toNat f.toNat = yq_ar x y f.toNat s.toNat t.toNat := by unfold yq_ar; grind
        have p4 : yq_ar x y t.toNat f.toNat s.toNat = yq_ar x y f.toNat s.toNat t.toNat := by unfold yq_ar; grind
        have p5 : yq_ar x y t.toNat s.toNat f.toNat = -yq_ar x y f.toNat s.toNat t.toNat := by unfold yq_ar; grind
        rcases m1 a ha with w1 | w1 | w1 <;> rcases m1 b hb with w2 | w2 | w2 <;> rcases m1 d hd with w3 | w3 | w3 <;> first | (exfalso; omega) | (rw [w1, w2, w3] at q; omega)
      · intro a b d e ha hb hd he h1 h2 h3 h4 h5 h6
        have := four a b d e ha hb hd he h1 h2 h3 h4 h5 h6
        omega
theorem yw_sbs {s z y r : Int} (s0 : 0 ≤ s) (s1 : s ≤ 4095) (z0 : 0 ≤ z) (z1 : z ≤ 4095) (hy : y = -1 - z) (r0 : 0 ≤ r) (r1 : r ≤ 4095) (e : Int32.ofInt r = Int32.ofInt s &&& Int32.ofInt y) : r = 0 ↔ ∀ j : Nat, s.toNat.testBit j = true → z.toNat.testBit j = true := by
  have k1 : (Int32.ofInt r).toBitVec = BitVec.ofNat 32 s.toNat &&& ~~~ BitVec.ofNat 32 z.toNat := by
    rw [e, hy, show (Int32.ofInt s &&& Int32.ofInt (-1 - z)).toBitVec = (Int32.ofInt s).toBitVec &&& (Int32.ofInt (-1 - z)).toBitVec from rfl, show (-1 - z) = -1 - ((z.toNat : Nat) : Int) by omega, yw_not32, show (Int32.ofInt s) = Int32.ofInt ((s.toNat : Nat) : Int) by rw [show ((s.toNat : Nat) : Int) = s by omega], Int32.toBitVec_ofInt, BitVec.ofInt_natCast]
  have k2 : (Int32.ofInt r).toBitVec = BitVec.ofNat 32 r.toNat := by
    rw [show (Int32.ofInt r) = Int32.ofInt ((r.toNat : Nat) : Int) by rw [show ((r.toNat : Nat) : Int) = r by omega], Int32.toBitVec_ofInt, BitVec.ofInt_natCast]
  have tb : ∀ i : Nat, i < 32 → r.toNat.testBit i = (s.toNat.testBit i && !z.toNat.testBit i) := fun i hi => by
    have k := congrArg (fun b => BitVec.getLsbD b i) (k2.symm.trans k1)
    have k : (BitVec.ofNat 32 r.toNat).getLsbD i = (BitVec.ofNat 32 s.toNat &&& ~~~ BitVec.ofNat 32 z.toNat).getLsbD i := k
    rw [BitVec.getLsbD_and, BitVec.getLsbD_not, BitVec.getLsbD_ofNat, BitVec.getLsbD_ofNat, BitVec.getLsbD_ofNat, decide_eq_true hi, Bool.true_and, Bool.true_and, Bool.true_and, Bool.true_and] at k
    exact k
  have hi : ∀ w : Nat, w < 4096 → ∀ i : Nat, ¬ i < 32 → w.testBit i = false := fun w hw i hi => Nat.testBit_lt_two_pow (Nat.lt_of_lt_of_le (show w < 2 ^ 12 from hw) (Nat.pow_le_pow_right (by decide) (by omega)))
  constructor
  · intro h j hj
    by_cases q : j < 32
    · have k := tb j q
      rw [h, hj, show (0 : Int).toNat = 0 from rfl, Nat.zero_testBit, Bool.true_and] at k
      cases e2 : z.toNat.testBit j
      · rw [e2] at k
        cases k
      · rfl
    · rw [hi s.toNat (by omega) j q] at hj
      cases hj
  · intro h
    have z3 : r.toNat = 0 := Nat.eq_of_testBit_eq fun i => by
      rw [Nat.zero_testBit]
      by_cases q : i < 32
      · rw [tb i q]
        cases e1 : s.toNat.testBit i
        · rfl
        · rw [h i e1]
          rfl
      · exact hi r.toNat (by omega) i q
    omega
def yw_sok (N s : Int) : Prop := 0 ≤ s ∧ s < ((2 ^ (min N 12).toNat : Nat) : Int)
def yw_sans (x y : Nat → Int) (N s a : Int) : Prop := (¬ yw_sok N s → a = -1) ∧ (yw_sok N s → (a = 0 ∨ a = 1) ∧ (a = 1 ↔ yw_shc x y (fun j => s.toNat.testBit j = true)))
theorem yw_sb {N s : Int} (h : yw_sok N s) (j : Nat) (hj : s.toNat.testBit j = true) : (j : Int) < N ∧ j < 12 := by
  have k : j < (min N 12).toNat := by
    apply Nat.lt_of_not_le
    intro z
    rw [Nat.testBit_lt_two_pow (Nat.lt_of_lt_of_le (show s.toNat < 2 ^ (min N 12).toNat by have := h.2; have := h.1; omega) (Nat.pow_le_pow_right (by decide) z))] at hj
    cases hj
  omega
theorem yw_t4 {N s : Int} (h : yw_sok N s) : s ≤ 4095 := by
  have h1 := yb_p12 (j := (min N 12).toNat) (by omega)
  have := h.2
  omega
theorem yw_shc_e {x y X Y : Nat → Int} {c : Nat → Prop} (hx : ∀ j : Nat, c j → x j = X j) (hy : ∀ j : Nat, c j → y j = Y j) (h : yw_shc x y c) : yw_shc X Y c := ⟨fun a b ha hb hab q => h.1 a b ha hb hab (by rw [hx a ha, hx b hb, hy a ha, hy b hb]; exact q), fun a b d ha hb hd h1 h2 h3 q => h.2.1 a b d ha hb hd h1 h2 h3 (by
  unfold yq_ar at q ⊢
  rw [hx a ha, hx b hb, hx d hd, hy a ha, hy b hb, hy d hd]
  exact q), h.2.2⟩
theorem yw_sans_u {x y X Y : Nat → Int} {N s a b : Int} (hx : ∀ j : Nat, (j : Int) < N → x j = X j) (hy : ∀ j : Nat, (j : Int) < N → y j = Y j) (h1 : yw_sans x y N s a) (h2 : yw_sans X Y N s b) : a = b := by
  by_cases ok : yw_sok N s
  · obtain ⟨a1, a2⟩ := h1.2 ok
    obtain ⟨b1, b2⟩ := h2.2 ok
    have e : a = 1 ↔ b = 1 := ⟨fun z => b2.mpr (yw_shc_e (fun j hj => hx j (yw_sb ok j hj).1) (fun j hj => hy j (yw_sb ok j hj).1) (a2.mp z)), fun z => a2.mpr (yw_shc_e (fun j hj => (hx j (yw_sb ok j hj).1).symm) (fun j hj => (hy j (yw_sb ok j hj).1).symm) (b2.mp z))⟩
    rcases a1 with z | z
    · rcases b1 with w | w
      · omega
      · have := e.mpr w
        omega
    · have := e.mp z
      omega
  · rw [h1.1 ok, h2.1 ok]
/-! vote: large numbers by their digits -/
def yy_V (d : Nat → Int) : Nat → Int
  | 0 => 0
  | n + 1 => yy_V d n + d n * 65536 ^ n
def yy_dg (d : Nat → Int) (n : Nat) : Prop := ∀ j : Nat, j < n → 0 ≤ d j ∧ d j ≤ 65535
theorem yy_pw (n : Nat) : (0 : Int) < 65536 ^ n := Int.pow_pos (by decide)
theorem yy_V_b {d : Nat → Int} : ∀ n : Nat, yy_dg d n → 0 ≤ yy_V d n ∧ yy_V d n < 65536 ^ n
  | 0, _ => ⟨Int.le_refl 0, by decide⟩
  | n + 1, h => by
    have k := yy_V_b n (fun j hj => h j (by omega))
    have hp := yy_pw n
    have h2 := h n (by omega)
    have m1 : 0 ≤ d n * 65536 ^ n := Int.mul_nonneg h2.1 (by omega)
    have m2 : d n * 65536 ^ n ≤ 65535 * 65536 ^ n := Int.mul_le_mul_of_nonneg_right h2.2 (by omega)
    show 0 ≤ yy_V d n + d n * 65536 ^ n ∧ yy_V d n + d n * 65536 ^ n < 65536 ^ (n + 1)
    rw [Int.pow_succ]
    generalize (65536 : Int) ^ n = P at *
    generalize d n * P = Q at *
    omega
theorem yy_V_e {a b : Nat → Int} : ∀ n : Nat, (∀ j : Nat, j < n → a j = b j) → yy_V a n = yy_V b n
  | 0, _ => rfl
  | n + 1, h => by
    show yy_V a n + a n * 65536 ^ n = yy_V b n + b n * 65536 ^ n
    rw [yy_V_e n (fun j hj => h j (by omega)), h n (by omega)]
theorem yy_V_lt {a b : Nat → Int} {d : Nat} : ∀ n : Nat, yy_dg a n → yy_dg b n → d < n → a d < b d → (∀ j : Nat, d < j → j < n → a j = b j) → yy_V a n < yy_V b n
  | 0, _, _, h, _, _ => absurd h (Nat.not_lt_zero d)
  | n + 1, ha, hb, hd, hl, he => by
    show yy_V a n + a n * 65536 ^ n < yy_V b n + b n * 65536 ^ n
    by_cases q : d = n
    · rw [q] at hl
      have k1 := yy_V_b n (fun j hj => ha j (by omega))
      have k2 := yy_V_b n (fun j hj => hb j (by omega))
      have hp := yy_pw n
      have m : (a n + 1) * 65536 ^ n ≤ b n * 65536 ^ n := Int.mul_le_mul_of_nonneg_right (by omega) (by omega)
      rw [Int.add_mul, Int.one_mul] at m
      omega
    · have k := yy_V_lt n (fun j hj => ha j (by omega)) (fun j hj => hb j (by omega)) (by omega) hl (fun j h1 h2 => he j h1 (by omega))
      rw [he n (by omega) (by omega)]
      omega
def yy_cp (p q : Int) : Int := if q < p then 1 else if p < q then 0 else 2
theorem yy_cp_g {a b : Nat → Int} {n : Nat} {d : Int} (ha : yy_dg a n) (hb : yy_dg b n) (h0 : 0 ≤ d) (hd : d < (n : Int)) (he : ∀ j : Nat, d < (j : Int) → j < n → a j = b j) (hl : b d.toNat < a d.toNat) : yy_cp (yy_V a n) (yy_V b n) = 1 := by
  have k := yy_V_lt n hb ha (d := d.toNat) (by omega) hl (fun j h1 h2 => (he j (by omega) h2).symm)
  unfold yy_cp
  rw [if_pos k]
theorem yy_cp_l {a b : Nat → Int} {n : Nat} {d : Int} (ha : yy_dg a n) (hb : yy_dg b n) (h0 : 0 ≤ d) (hd : d < (n : Int)) (he : ∀ j : Nat, d < (j : Int) → j < n → a j = b j) (hl : a d.toNat < b d.toNat) : yy_cp (yy_V a n) (yy_V b n) = 0 := by
  have k := yy_V_lt n ha hb (d := d.toNat) (by omega) hl (fun j h1 h2 => he j (by omega) h2)
  unfold yy_cp
  rw [if_neg (by omega), if_pos k]
theorem yy_cp_e {a b : Nat → Int} {n : Nat} (he : ∀ j : Nat, (-1 : Int) < (j : Int) → j < n → a j = b j) : yy_cp (yy_V a n) (yy_V b n) = 2 := by
  rw [yy_V_e n (fun j hj => he j (by omega) hj)]
  unfold yy_cp
  rw [if_neg (Int.lt_irrefl _), if_neg (Int.lt_irrefl _)]
theorem yy_V_1 {d : Nat → Int} (h0 : d 0 = 1) : ∀ n : Nat, (∀ j : Nat, 0 < j → j < n + 1 → d j = 0) → yy_V d (n + 1) = 1
  | 0, _ => by
    show 0 + d 0 * 65536 ^ 0 = 1
    rw [h0]
    rfl
  | n + 1, h => by
    show yy_V d (n + 1) + d (n + 1) * 65536 ^ (n + 1) = 1
    rw [yy_V_1 h0 n (fun j h1 h2 => h j h1 (by omega)), h (n + 1) (by omega) (by omega), Int.zero_mul, Int.add_zero]
/-! the bits of longs -/
theorem yy_la {z x : Int} (h0 : 0 ≤ x) (h1 : x ≤ 9223372036854775807) (z0 : 0 ≤ z) (z1 : z ≤ 65535) (e : Int64.ofInt z = Int64.ofInt x &&& Int64.ofInt 65535) : z = x % 65536 := by
  have k := yw_Ua e
  rw [show yw_U 65535 = 2 ^ 16 - 1 by decide +kernel, Nat.and_two_pow_sub_one_eq_mod, show (2 : Nat) ^ 16 = 65536 from rfl] at k
  unfold yw_U at k
  omega
theorem yy_sr {z x k : Int} {n : Nat} (hk : k = (n : Int)) (hn : n < 64) (x0 : -9223372036854775808 ≤ x) (x1 : x ≤ 9223372036854775807) (z0 : -9223372036854775808 ≤ z) (z1 : z ≤ 9223372036854775807) (e : Int64.ofInt z = Int64.ofInt x >>> ((Int32.ofInt k).toInt64 &&& 63)) : z = x / ((2 ^ n : Nat) : Int) := by
  have h := of_decide_eq_true (List.all_eq_true.mp yw_ck2_ok n (List.mem_range.mpr hn))
  rw [← hk] at h
  have k2 := congrArg (fun q : Int64 => q.toBitVec.toInt) e
  have k2 : (Int64.ofInt z).toBitVec.toInt = (Int64.ofInt x >>> ((Int32.ofInt k).toInt64 &&& 63)).toBitVec.toInt := k2
  rw [show (Int64.ofInt x >>> ((Int32.ofInt k).toInt64 &&& 63)).toBitVec = BitVec.sshiftRight' (Int64.ofInt x).toBitVec (((Int32.ofInt k).toInt64 &&& 63).toBitVec.smod 64) from rfl, BitVec.sshiftRight_eq', h, BitVec.toInt_sshiftRight, show (Int64.ofInt z).toBitVec.toInt = z from Int64.toInt_ofInt_of_le (by omega) (by omega), show (Int64.ofInt x).toBitVec.toInt = x from Int64.toInt_ofInt_of_le (by omega) (by omega), Int.shiftRight_eq_div_pow] at k2
  exact k2
/-! the class's way of multiplying -/
def yy_mi (o d : Nat → Int) (f k c : Int) : Prop := (∀ j : Nat, k ≤ (j : Int) → d j = o j) ∧ yy_dg d k.toNat ∧ (0 ≤ c ∧ c ≤ f) ∧ yy_V d k.toNat + c * 65536 ^ k.toNat = yy_V o k.toNat * f
theorem yy_mi0 {o : Nat → Int} {f : Int} (hf : 0 ≤ f) : yy_mi o o f 0 0 := ⟨fun _ _ => rfl, fun j hj => absurd hj (Nat.not_lt_zero j), ⟨Int.le_refl 0, hf⟩, by
  show 0 + 0 * 65536 ^ (0 : Int).toNat = 0 * f
  rw [Int.zero_mul, Int.zero_mul]
  rfl⟩
theorem yy_mis {o d : Nat → Int} {f k c p q c' : Int} (h : yy_mi o d f k c) (hk : 0 ≤ k) (hf : 0 ≤ f) (ho : 0 ≤ o k.toNat ∧ o k.toNat ≤ 65535) (hp : p = d k.toNat * f + c) (hq : q = p % 65536) (hc : c' = p / 65536) : yy_mi o (yq_set d k.toNat q) f (k + 1) c' := by
  obtain ⟨h1, h2, h3, h4⟩ := h
  have e0 : d k.toNat = o k.toNat := h1 _ (by omega)
  rw [e0] at hp
  have m1 : 0 ≤ o k.toNat * f := Int.mul_nonneg ho.1 hf
  have m2 : o k.toNat * f ≤ 65535 * f := Int.mul_le_mul_of_nonneg_right ho.2 hf
  have sp : p = q + 65536 * c' := by omega
  refine ⟨fun j hj => ?_, fun j hj => ?_, by omega, ?_⟩
  · have e : yq_set d k.toNat q j = d j := if_neg (by omega)
    rw [e]
    exact h1 j (by omega)
  · by_cases z : j = k.toNat
    · have e : yq_set d k.toNat q j = q := if_pos z
      rw [e]
      omega
    · have e : yq_set d k.toNat q j = d j := if_neg z
      rw [e]
      exact h2 j (by omega)
  · rw [show (k + 1).toNat = k.toNat + 1 by omega]
    have e1 : yy_V (yq_set d k.toNat q) k.toNat = yy_V d k.toNat := yy_V_e _ fun j hj => if_neg (by omega)
    have e2 : yq_set d k.toNat q k.toNat = q := if_pos rfl
    show yy_V (yq_set d k.toNat q) k.toNat + yq_set d k.toNat q k.toNat * 65536 ^ k.toNat + c' * 65536 ^ (k.toNat + 1) = (yy_V o k.toNat + o k.toNat * 65536 ^ k.toNat) * f
    rw [e1, e2, Int.pow_succ]
    have h5 : yy_V d k.toNat = yy_V o k.toNat * f - c * 65536 ^ k.toNat := by omega
    rw [h5]
    have h6 : q = o k.toNat * f + c - 65536 * c' := by omega
    rw [h6]
    grind
theorem yy_no {v c Q t : Int} (h : v + c * Q = t) (hv : 0 ≤ v) (hc : 0 ≤ c) (hQ : 0 < Q) (ht : t < Q) : v = t := by
  by_cases z : c = 0
  · rw [z, Int.zero_mul] at h
    omega
  · have k : 1 * Q ≤ c * Q := Int.mul_le_mul_of_nonneg_right (by omega) (by omega)
    omega
/-! the reference's way -/
def yy_p1 (o : Nat → Int) : Nat → Int
  | 0 => 0
  | n + 1 => o n
def yy_p2 (o : Nat → Int) : Nat → Int
  | 0 => 0
  | n + 1 => yy_p1 o n
def yy_bd (b : Int) (k : Nat) : Int := b / ((2 ^ (16 * k) : Nat) : Int) % 65536
def yy_cv (o : Nat → Int) (b : Int) (i : Nat) : Nat → Int
  | 0 => 0
  | k + 1 => yy_cv o b i k + if k ≤ i then o (i - k) * yy_bd b k else 0
theorem yy_cv3 {o : Nat → Int} {b : Int} : ∀ i : Nat, yy_cv o b i 3 = o i * yy_bd b 0 + yy_p1 o i * yy_bd b 1 + yy_p2 o i * yy_bd b 2
  | 0 => by
    show ((0 + if 0 ≤ 0 then o (0 - 0) * yy_bd b 0 else 0) + if 1 ≤ 0 then o (0 - 1) * yy_bd b 1 else 0) + (if 2 ≤ 0 then o (0 - 2) * yy_bd b 2 else 0) = o 0 * yy_bd b 0 + 0 * yy_bd b 1 + 0 * yy_bd b 2
    rw [if_pos (Nat.le_refl 0), if_neg (by decide), if_neg (by decide), Int.zero_mul, Int.zero_mul, Int.zero_add]
  | 1 => by
    show ((0 + if 0 ≤ 1 then o (1 - 0) * yy_bd b 0 else 0) + if 1 ≤ 1 then o (1 - 1) * yy_bd b 1 else 0) + (if 2 ≤ 1 then o (1 - 2) * yy_bd b 2 else 0) = o 1 * yy_bd b 0 + o 0 * yy_bd b 1 + 0 * yy_bd b 2
    rw [if_pos (by decide), if_pos (by decide), if_neg (by decide), Int.zero_mul, Int.zero_add]
  | i + 2 => by
    show ((0 + if 0 ≤ i + 2 then o (i + 2 - 0) * yy_bd b 0 else 0) + if 1 ≤ i + 2 then o (i + 2 - 1) * yy_bd b 1 else 0) + (if 2 ≤ i + 2 then o (i + 2 - 2) * yy_bd b 2 else 0) = o (i + 2) * yy_bd b 0 + o (i + 1) * yy_bd b 1 + o i * yy_bd b 2
    rw [if_pos (by omega), if_pos (by omega), if_pos (by omega), Int.zero_add]
    rfl
theorem yy_cvs {o : Nat → Int} {b : Int} {i k : Nat} (h : i < k) (hk : k ≤ 3) : yy_cv o b i 3 = yy_cv o b i k := by
  have st : ∀ q : Nat, i < q → yy_cv o b i (q + 1) = yy_cv o b i q := fun q hq => by
    show yy_cv o b i q + (if q ≤ i then o (i - q) * yy_bd b q else 0) = yy_cv o b i q
    rw [if_neg (by omega), Int.add_zero]
  rcases (show k = 1 ∨ k = 2 ∨ k = 3 by omega) with z | z | z
  · rw [z]
    rw [z] at h
    rw [st 2 (by omega), st 1 (by omega)]
  · rw [z]
    rw [z] at h
    rw [st 2 (by omega)]
  · rw [z]
def yy_rs (o : Nat → Int) (b : Int) (n : Nat) : Int := yy_p1 o n * (yy_bd b 1 + yy_bd b 2 * 65536) + yy_p2 o n * yy_bd b 2
def yy_wn (o : Nat → Int) (b : Int) : Nat → Int
  | 0 => 0
  | n + 1 => yy_wn o b n + yy_cv o b n 3 * 65536 ^ n
theorem yy_bds {b : Int} (h0 : 0 ≤ b) (h1 : b ≤ 70368744177664) : b = yy_bd b 0 + yy_bd b 1 * 65536 + yy_bd b 2 * 4294967296 := by
  unfold yy_bd
  rw [show ((2 ^ (16 * 0) : Nat) : Int) = 1 from rfl, show ((2 ^ (16 * 1) : Nat) : Int) = 65536 from rfl, show ((2 ^ (16 * 2) : Nat) : Int) = 4294967296 from rfl]
  omega
theorem yy_bdb (b : Int) (k : Nat) : 0 ≤ yy_bd b k ∧ yy_bd b k ≤ 65535 := by
  unfold yy_bd
  omega
theorem yy_wnr {o : Nat → Int} {b : Int} (h0 : 0 ≤ b) (h1 : b ≤ 70368744177664) : ∀ n : Nat, yy_wn o b n + yy_rs o b n * 65536 ^ n = yy_V o n * b
  | 0 => by
    show 0 + (0 * (yy_bd b 1 + yy_bd b 2 * 65536) + 0 * yy_bd b 2) * 65536 ^ 0 = 0 * b
    rw [Int.zero_mul, Int.zero_mul, Int.zero_mul]
    rfl
  | n + 1 => by
    have k := yy_wnr h0 h1 (o := o) n
    have e := yy_bds h0 h1
    have c3 := yy_cv3 (o := o) (b := b) n
    show yy_wn o b n + yy_cv o b n 3 * 65536 ^ n + (o n * (yy_bd b 1 + yy_bd b 2 * 65536) + yy_p1 o n * yy_bd b 2) * 65536 ^ (n + 1) = (yy_V o n + o n * 65536 ^ n) * b
    rw [c3, Int.pow_succ]
    unfold yy_rs at k
    generalize yy_bd b 0 = b0 at *
    generalize yy_bd b 1 = b1 at *
    generalize yy_bd b 2 = b2 at *
    generalize (65536 : Int) ^ n = P at *
    rw [Int.add_mul (yy_V o n), ← k, e]
    grind
theorem yy_rs_n {o : Nat → Int} {b : Int} {n : Nat} (h : ∀ j : Nat, j < n → 0 ≤ o j) : 0 ≤ yy_rs o b n := by
  have b1 := (yy_bdb b 1).1
  have b2 := (yy_bdb b 2).1
  have p1 : ∀ m : Nat, m ≤ n → 0 ≤ yy_p1 o m := fun m hm => by
    cases m with
    | zero => exact Int.le_refl 0
    | succ q => exact h q (by omega)
  have p2 : 0 ≤ yy_p2 o n := by
    cases n with
    | zero => exact Int.le_refl 0
    | succ q => exact p1 q (by omega)
  unfold yy_rs
  exact Int.add_nonneg (Int.mul_nonneg (p1 n (Nat.le_refl n)) (by omega)) (Int.mul_nonneg p2 b2)
theorem yy_cvb {o : Nat → Int} {b : Int} {i : Nat} (h : ∀ j : Nat, j ≤ i → 0 ≤ o j ∧ o j ≤ 65535) : ∀ k : Nat, 0 ≤ yy_cv o b i k ∧ yy_cv o b i k ≤ (k : Int) * 4294836225
  | 0 => ⟨Int.le_refl 0, Int.le_refl 0⟩
  | k + 1 => by
    have q := yy_cvb (b := b) h k
    have hb := yy_bdb b k
    show 0 ≤ yy_cv o b i k + (if k ≤ i then o (i - k) * yy_bd b k else 0) ∧ yy_cv o b i k + (if k ≤ i then o (i - k) * yy_bd b k else 0) ≤ ((k + 1 : Nat) : Int) * 4294836225
    by_cases z : k ≤ i
    · rw [if_pos z]
      have ho := h (i - k) (by omega)
      have m := yw_mb (a := o (i - k)) (b := yy_bd b k) (A := 65535) (B := 65535) (by omega) ho.2 (by omega) hb.2
      have m0 : 0 ≤ o (i - k) * yy_bd b k := Int.mul_nonneg ho.1 hb.1
      omega
    · rw [if_neg z]
      omega
/-- the outer loop -/
def yy_ti (o d : Nat → Int) (b i c : Int) : Prop := yy_dg d i.toNat ∧ (0 ≤ c ∧ c ≤ 300000) ∧ yy_V d i.toNat + c * 65536 ^ i.toNat = yy_wn o b i.toNat
theorem yy_ti0 {o d : Nat → Int} {b : Int} : yy_ti o d b 0 0 := ⟨fun j hj => absurd hj (Nat.not_lt_zero j), by omega, by
  show 0 + 0 * 65536 ^ (0 : Int).toNat = 0
  rw [Int.zero_mul]
  rfl⟩
theorem yy_tis {o d : Nat → Int} {b i c v q c' : Int} (h : yy_ti o d b i c) (hi : 0 ≤ i) (ho : ∀ j : Nat, j ≤ i.toNat → 0 ≤ o j ∧ o j ≤ 65535) (hv : v = c + yy_cv o b i.toNat 3) (hq : q = v % 65536) (hc : c' = v / 65536) : yy_ti o (yq_set d i.toNat q) b (i + 1) c' := by
  obtain ⟨h1, h2, h3⟩ := h
  have cb := yy_cvb (b := b) ho 3
  refine ⟨fun j hj => ?_, by omega, ?_⟩
  · by_cases z : j = i.toNat
    · have e : yq_set d i.toNat q j = q := if_pos z
      rw [e]
      omega
    · have e : yq_set d i.toNat q j = d j := if_neg z
      rw [e]
      exact h1 j (by omega)
  · rw [show (i + 1).toNat = i.toNat + 1 by omega]
    have e1 : yy_V (yq_set d i.toNat q) i.toNat = yy_V d i.toNat := yy_V_e _ fun j hj => if_neg (by omega)
    have e2 : yq_set d i.toNat q i.toNat = q := if_pos rfl
    show yy_V (yq_set d i.toNat q) i.toNat + yq_set d i.toNat q i.toNat * 65536 ^ i.toNat + c' * 65536 ^ (i.toNat + 1) = yy_wn o b i.toNat + yy_cv o b i.toNat 3 * 65536 ^ i.toNat
    rw [e1, e2, Int.pow_succ, ← h3]
    have h6 : q = c + yy_cv o b i.toNat 3 - 65536 * c' := by omega
    rw [h6]
    grind
/-- what a multiplication says -/
def yy_mw (o d : Nat → Int) (n : Nat) (f : Int) : Prop := 0 ≤ f → f ≤ 70368744177664 → yy_dg o n → yy_dg d n ∧ ∃ c : Int, 0 ≤ c ∧ yy_V d n + c * 65536 ^ n = yy_V o n * f
theorem yy_te {o d : Nat → Int} {b c : Int} {n : Nat} (h : yy_ti o d b (n : Int) c) (h0 : 0 ≤ b) (h1 : b ≤ 70368744177664) (ho : yy_dg o n) : yy_dg d n ∧ ∃ c : Int, 0 ≤ c ∧ yy_V d n + c * 65536 ^ n = yy_V o n * b := by
  obtain ⟨a1, a2, a3⟩ := h
  rw [show ((n : Int)).toNat = n by omega] at a1 a3
  have k := yy_wnr (o := o) h0 h1 n
  have r0 := yy_rs_n (o := o) (b := b) (n := n) fun j hj => (ho j hj).1
  refine ⟨a1, c + yy_rs o b n, by omega, ?_⟩
  rw [Int.add_mul]
  omega
/-! the product of the steps -/
def yy_py (ax at_ sg wr wh : Nat → Int) (x y : Int) : Nat → Int × Int
  | 0 => (1, 1)
  | k + 1 => if yq_says (ax k) (at_ k) (sg k) x y = 1 then ((yy_py ax at_ sg wr wh x y k).1 * (wh k - wr k), (yy_py ax at_ sg wr wh x y k).2 * wr k) else ((yy_py ax at_ sg wr wh x y k).1 * wr k, (yy_py ax at_ sg wr wh x y k).2 * (wh k - wr k))
def yy_bo : Nat → Nat
  | 0 => 1
  | k + 1 => yy_bo k * 70368744177664
theorem yy_bo_ok : ((List.range 13).all fun k => decide (yy_bo k < 65536 ^ 40)) = true := by decide +kernel
theorem yy_bo_l {k : Nat} (h : k ≤ 12) : ((yy_bo k : Nat) : Int) < 65536 ^ 40 := by
  have k1 := of_decide_eq_true (List.all_eq_true.mp yy_bo_ok k (List.mem_range.mpr (by omega)))
  have e : (65536 : Int) ^ 40 = ((65536 ^ 40 : Nat) : Int) := rfl
  rw [e]
  exact Int.ofNat_lt.mpr k1
theorem yy_b80 {n : Nat} (h : n = 40 ∨ n = 80) : (65536 : Int) ^ 40 ≤ 65536 ^ n := by
  rcases h with z | z
  · rw [z]
    exact Int.le_refl _
  · rw [z]
    decide +kernel
def yy_vc (kept en : Int) (wr wh : Nat → Int) : Prop := (en = 1 → kept = 1) ∧ ∀ j : Nat, (j : Int) < kept → 0 ≤ wr j ∧ wr j ≤ wh j ∧ wh j ≤ 70368744177664
theorem yy_mub {p f : Int} {B : Nat} (h0 : 0 ≤ p) (h1 : p ≤ (B : Int)) (f0 : 0 ≤ f) (f1 : f ≤ 70368744177664) : 0 ≤ p * f ∧ p * f ≤ ((B * 70368744177664 : Nat) : Int) := by
  refine ⟨Int.mul_nonneg h0 f0, ?_⟩
  have k1 : p * f ≤ (B : Int) * f := Int.mul_le_mul_of_nonneg_right h1 f0
  have k2 : (B : Int) * f ≤ (B : Int) * 70368744177664 := Int.mul_le_mul_of_nonneg_left f1 (by omega)
  rw [Int.natCast_mul]
  exact Int.le_trans k1 k2
theorem yy_py_b {ax at_ sg wr wh : Nat → Int} {x y : Int} : ∀ k : Nat, (∀ j : Nat, j < k → 0 ≤ wr j ∧ wr j ≤ wh j ∧ wh j ≤ 70368744177664) → (0 ≤ (yy_py ax at_ sg wr wh x y k).1 ∧ (yy_py ax at_ sg wr wh x y k).1 ≤ ((yy_bo k : Nat) : Int)) ∧ (0 ≤ (yy_py ax at_ sg wr wh x y k).2 ∧ (yy_py ax at_ sg wr wh x y k).2 ≤ ((yy_bo k : Nat) : Int))
  | 0, _ => ⟨⟨by decide, by decide⟩, ⟨by decide, by decide⟩⟩
  | k + 1, h => by
    have q := yy_py_b (ax := ax) (at_ := at_) (sg := sg) (x := x) (y := y) k (fun j hj => h j (by omega))
    have hk := h k (by omega)
    have w1 := yy_mub q.1.1 q.1.2 (f := wh k - wr k) (by omega) (by omega)
    have w2 := yy_mub q.1.1 q.1.2 (f := wr k) (by omega) (by omega)
    have w3 := yy_mub q.2.1 q.2.2 (f := wh k - wr k) (by omega) (by omega)
    have w4 := yy_mub q.2.1 q.2.2 (f := wr k) (by omega) (by omega)
    by_cases z : yq_says (ax k) (at_ k) (sg k) x y = 1
    · rw [show yy_py ax at_ sg wr wh x y (k + 1) = ((yy_py ax at_ sg wr wh x y k).1 * (wh k - wr k), (yy_py ax at_ sg wr wh x y k).2 * wr k) from if_pos z]
      exact ⟨w1, w4⟩
    · rw [show yy_py ax at_ sg wr wh x y (k + 1) = ((yy_py ax at_ sg wr wh x y k).1 * wr k, (yy_py ax at_ sg wr wh x y k).2 * (wh k - wr k)) from if_neg z]
      exact ⟨w2, w3⟩
/-- one multiplication, its factor small enough -/
theorem yy_mu {o d : Nat → Int} {n k : Nat} {f p : Int} (hn : n = 40 ∨ n = 80) (hk : k + 1 ≤ 12) (h : yy_mw o d n f) (f0 : 0 ≤ f) (f1 : f ≤ 70368744177664) (ho : yy_dg o n) (hp : yy_V o n = p) (p0 : 0 ≤ p) (p1 : p ≤ ((yy_bo k : Nat) : Int)) : yy_dg d n ∧ yy_V d n = p * f := by
  obtain ⟨a1, c, a2, a3⟩ := h f0 f1 ho
  refine ⟨a1, ?_⟩
  rw [hp] at a3
  have m := yy_mub p0 p1 f0 f1
  have b1 := yy_bo_l hk
  have b2 := yy_b80 hn
  exact yy_no a3 (yy_V_b n a1).1 a2 (yy_pw n) (Int.lt_of_lt_of_le (Int.lt_of_le_of_lt m.2 b1) b2)
def yy_vi (ax at_ sg wr wh : Nat → Int) (x y : Int) (n : Nat) (a b : Nat → Int) (k : Nat) : Prop := yy_dg a n ∧ yy_dg b n ∧ yy_V a n = (yy_py ax at_ sg wr wh x y k).1 ∧ yy_V b n = (yy_py ax at_ sg wr wh x y k).2
theorem yy_vi1 {ax at_ sg wr wh a b a' b' : Nat → Int} {x y : Int} {n k : Nat} (hn : n = 40 ∨ n = 80) (hk : k + 1 ≤ 12) (h : yy_vi ax at_ sg wr wh x y n a b k) (hb : ∀ j : Nat, j < k + 1 → 0 ≤ wr j ∧ wr j ≤ wh j ∧ wh j ≤ 70368744177664) (hs : yq_says (ax k) (at_ k) (sg k) x y = 1) (h1 : yy_mw a a' n (wh k - wr k)) (h2 : yy_mw b b' n (wr k)) : yy_vi ax at_ sg wr wh x y n a' b' (k + 1) := by
  obtain ⟨a1, a2, a3, a4⟩ := h
  have q := yy_py_b (ax := ax) (at_ := at_) (sg := sg) (x := x) (y := y) k (fun j hj => hb j (by omega))
  have w := hb k (by omega)
  have m1 := yy_mu hn hk h1 (by omega) (by omega) a1 a3 q.1.1 q.1.2
  have m2 := yy_mu hn hk h2 (by omega) (by omega) a2 a4 q.2.1 q.2.2
  refine ⟨m1.1, m2.1, ?_, ?_⟩
  · rw [m1.2, show yy_py ax at_ sg wr wh x y (k + 1) = ((yy_py ax at_ sg wr wh x y k).1 * (wh k - wr k), (yy_py ax at_ sg wr wh x y k).2 * wr k) from if_pos hs]
  · rw [m2.2, show yy_py ax at_ sg wr wh x y (k + 1) = ((yy_py ax at_ sg wr wh x y k).1 * (wh k - wr k), (yy_py ax at_ sg wr wh x y k).2 * wr k) from if_pos hs]
theorem yy_vi2 {ax at_ sg wr wh a b a' b' : Nat → Int} {x y : Int} {n k : Nat} (hn : n = 40 ∨ n = 80) (hk : k + 1 ≤ 12) (h : yy_vi ax at_ sg wr wh x y n a b k) (hb : ∀ j : Nat, j < k + 1 → 0 ≤ wr j ∧ wr j ≤ wh j ∧ wh j ≤ 70368744177664) (hs : ¬ yq_says (ax k) (at_ k) (sg k) x y = 1) (h1 : yy_mw b b' n (wh k - wr k)) (h2 : yy_mw a a' n (wr k)) : yy_vi ax at_ sg wr wh x y n a' b' (k + 1) := by
  obtain ⟨a1, a2, a3, a4⟩ := h
  have q := yy_py_b (ax := ax) (at_ := at_) (sg := sg) (x := x) (y := y) k (fun j hj => hb j (by omega))
  have w := hb k (by omega)
  have m1 := yy_mu hn hk h2 (by omega) (by omega) a1 a3 q.1.1 q.1.2
  have m2 := yy_mu hn hk h1 (by omega) (by omega) a2 a4 q.2.1 q.2.2
  refine ⟨m1.1, m2.1, ?_, ?_⟩
  · rw [m1.2, show yy_py ax at_ sg wr wh x y (k + 1) = ((yy_py ax at_ sg wr wh x y k).1 * wr k, (yy_py ax at_ sg wr wh x y k).2 * (wh k - wr k)) from if_neg hs]
  · rw [m2.2, show yy_py ax at_ sg wr wh x y (k + 1) = ((yy_py ax at_ sg wr wh x y k).1 * wr k, (yy_py ax at_ sg wr wh x y k).2 * (wh k - wr k)) from if_neg hs]
def yy_vt (kept en : Int) (ax at_ sg wr wh : Nat → Int) (x y : Int) : Int := if en = 1 then yq_says (ax 0) (at_ 0) (sg 0) x y else yy_cp (yy_py ax at_ sg wr wh x y kept.toNat).1 (yy_py ax at_ sg wr wh x y kept.toNat).2
theorem yy_py_e {ax at_ sg wr wh AX AT SG WR WH : Nat → Int} {x y : Int} : ∀ k : Nat, (∀ j : Nat, j < k → ax j = AX j ∧ at_ j = AT j ∧ sg j = SG j ∧ wr j = WR j ∧ wh j = WH j) → yy_py ax at_ sg wr wh x y k = yy_py AX AT SG WR WH x y k
  | 0, _ => rfl
  | k + 1, h => by
    obtain ⟨h1, h2, h3, h4, h5⟩ := h k (by omega)
    show (if yq_says (ax k) (at_ k) (sg k) x y = 1 then ((yy_py ax at_ sg wr wh x y k).1 * (wh k - wr k), (yy_py ax at_ sg wr wh x y k).2 * wr k) else ((yy_py ax at_ sg wr wh x y k).1 * wr k, (yy_py ax at_ sg wr wh x y k).2 * (wh k - wr k))) = (if yq_says (AX k) (AT k) (SG k) x y = 1 then ((yy_py AX AT SG WR WH x y k).1 * (WH k - WR k), (yy_py AX AT SG WR WH x y k).2 * WR k) else ((yy_py AX AT SG WR WH x y k).1 * WR k, (yy_py AX AT SG WR WH x y k).2 * (WH k - WR k)))
    rw [yy_py_e k (fun j hj => h j (by omega)), h1, h2, h3, h4, h5]
theorem yy_vt_e {kept en x y : Int} {ax at_ sg wr wh AX AT SG WR WH : Nat → Int} (hv : en = 1 → kept = 1) (h : ∀ j : Nat, (j : Int) < kept → ax j = AX j ∧ at_ j = AT j ∧ sg j = SG j ∧ wr j = WR j ∧ wh j = WH j) : yy_vt kept en ax at_ sg wr wh x y = yy_vt kept en AX AT SG WR WH x y := by
  unfold yy_vt
  by_cases z : en = 1
  · have k := hv z
    obtain ⟨h1, h2, h3, _, _⟩ := h 0 (by omega)
    rw [if_pos z, if_pos z, h1, h2, h3]
  · rw [if_neg z, if_neg z, yy_py_e _ (fun j hj => h j (by omega))]
theorem yy_vc_e {kept en : Int} {wr wh WR WH : Nat → Int} (h : yy_vc kept en wr wh) (h1 : ∀ j : Nat, (j : Int) < kept → wr j = WR j) (h2 : ∀ j : Nat, (j : Int) < kept → wh j = WH j) : yy_vc kept en WR WH := ⟨h.1, fun j hj => by rw [← h1 j hj, ← h2 j hj]; exact h.2 j hj⟩
theorem yy_run_v {px py pc pw : Nat → Int} {n : Nat} (hn : n ≤ 40) (h : ∀ j : Nat, j < n → 1 ≤ pw j ∧ pw j ≤ 1000) : ∀ k : Nat, yy_vc (yy_run px py pc pw n k).1 (yy_run px py pc pw n k).2.1 (yy_run px py pc pw n k).2.2.2.2.2.1 (yy_run px py pc pw n k).2.2.2.2.2.2.1
  | 0 => ⟨fun z => absurd (show (0 : Int) = 1 from z) (by decide), fun j hj => absurd (show (j : Int) < 0 from hj) (by omega)⟩
  | k + 1 => by
    have ih := yy_run_v (px := px) (py := py) (pc := pc) hn h k
    have hm := yy_run_m (px := px) (py := py) (pc := pc) h k
    have hk := (yy_run_k (px := px) (py := py) (pc := pc) (pw := pw) (n := n) k).1
    by_cases z : (yy_run px py pc pw n k).2.1 = 0
    · rw [show yy_run px py pc pw n (k + 1) = yy_rd px py pc n (yy_run px py pc pw n k) from if_pos z]
      generalize yy_run px py pc pw n k = s at *
      have hmb : yy_mb s.2.2.2.2.2.2.2 n := fun j hj => ⟨by have := (hm j hj).1; omega, (hm j hj).2⟩
      have hT := yy_tot_b n hmb
      have hE : 0 ≤ (yy_c px py pc s.2.2.2.2.2.2.2 n).1 := by
        rw [yy_c_v hmb]
        exact (yy_ws_b n hmb).1
      have hT2 : yq_tot s.2.2.2.2.2.2.2 n ≤ 70368744177664 := by omega
      unfold yy_rd
      generalize (yy_c px py pc s.2.2.2.2.2.2.2 n).1 = E at *
      generalize (yy_c px py pc s.2.2.2.2.2.2.2 n).2 = q at *
      generalize yq_tot s.2.2.2.2.2.2.2 n = T at *
      have st : ∀ (u : Int) (f : Nat → Int) (w : Int) (j : Nat), j = u.toNat → yq_set f u.toNat w j = w := fun u f w j e => if_pos e
      have sn : ∀ (u : Int) (f : Nat → Int) (w : Int) (j : Nat), j ≠ u.toNat → yq_set f u.toNat w j = f j := fun u f w j e => if_neg e
      have kp : ∀ (u en : Int) (m : Nat → Int), 0 ≤ u → (en = 1 → u = 0) → (0 < u → u = s.1) → E ≤ T → yy_vc (yy_kp u en s q E T m).1 (yy_kp u en s q E T m).2.1 (yy_kp u en s q E T m).2.2.2.2.2.1 (yy_kp u en s q E T m).2.2.2.2.2.2.1 := fun u en m u0 u1 u2 le => by
        refine ⟨fun w => ?_, fun j hj => ?_⟩
        · have w2 := u1 w
          show u + 1 = 1
          omega
        · have hj : (j : Int) < u + 1 := hj
          show 0 ≤ yq_set s.2.2.2.2.2.1 u.toNat E j ∧ yq_set s.2.2.2.2.2.1 u.toNat E j ≤ yq_set s.2.2.2.2.2.2.1 u.toNat T j ∧ yq_set s.2.2.2.2.2.2.1 u.toNat T j ≤ 70368744177664
          by_cases w : j = u.toNat
          · rw [st _ _ _ _ w, st _ _ _ _ w]
            omega
          · rw [sn _ _ _ _ w, sn _ _ _ _ w]
            exact ih.2 j (by have := u2 (by omega); omega)
      unfold yy_r1
      by_cases c1 : E = 0
      · rw [if_pos c1]
        exact kp 0 1 _ (by decide) (fun _ => rfl) (fun w => absurd w (by decide)) (by omega)
      · rw [if_neg c1]
        by_cases c2 : T ≤ 2 * E
        · rw [if_pos c2]
          exact ⟨fun w => absurd (show (2 : Int) = 1 from w) (by decide), ih.2⟩
        · rw [if_neg c2]
          by_cases c3 : yy_ft (yy_nm (yy_W px py pc q) s.2.2.2.2.2.2.2 n E T) n = true
          · rw [if_pos c3]
            exact kp s.1 0 _ hk (fun w => absurd w (by decide)) (fun _ => rfl) (by omega)
          · rw [if_neg c3]
            exact kp s.1 3 _ hk (fun w => absurd w (by decide)) (fun _ => rfl) (by omega)
    · rw [show yy_run px py pc pw n (k + 1) = yy_run px py pc pw n k from if_neg z]
      exact ih
theorem yy_rep_v {kept en : Int} {ax at_ sg wr wh m : Nat → Int} {n : Nat} {s : yy_S} (h : yy_rep kept en ax at_ sg wr wh m n s) (hv : yy_vc s.1 s.2.1 s.2.2.2.2.2.1 s.2.2.2.2.2.2.1) : yy_vc kept en wr wh := by
  obtain ⟨h1, h2, h3, _⟩ := h
  refine ⟨fun z => ?_, fun j hj => ?_⟩
  · rw [h1]
    exact hv.1 (by rw [← h2]; exact z)
  · rw [(h3 j hj).2.2.2.1, (h3 j hj).2.2.2.2]
    exact hv.2 j (by rw [← h1]; exact hj)
theorem yy_1d {o : Nat → Int} : yy_dg (yq_set (yq_fl 40 0 o) 0 1) 40 ∧ yy_V (yq_set (yq_fl 40 0 o) 0 1) 40 = 1 := by
  have z : ∀ j : Nat, 0 < j → j < 40 → yq_set (yq_fl 40 0 o) 0 1 j = 0 := fun j h1 h2 => by
    unfold yq_set yq_fl
    rw [if_neg (by omega), if_pos h2]
  have e : yq_set (yq_fl 40 0 o) 0 1 0 = 1 := if_pos rfl
  refine ⟨fun j hj => ?_, yy_V_1 e 39 z⟩
  by_cases q : j = 0
  · rw [q, e]
    decide
  · rw [z j (by omega) hj]
    decide
theorem yy_1m {d : Nat → Int} (h : ∀ j : Nat, (j : Int) < 80 → d j = if j = 0 then 1 else 0) : yy_dg d 80 ∧ yy_V d 80 = 1 := by
  refine ⟨fun j hj => ?_, yy_V_1 (h 0 (by decide)) 79 fun j h1 h2 => ?_⟩
  · rw [h j (by omega)]
    split <;> decide
  · rw [h j (by omega)]
    exact if_neg (by omega)
