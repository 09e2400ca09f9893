/-! the reference's way -/
noncomputable def yy_p1 (o : Nat → Int) : Nat → Int
  | 0 => 0
  | n + 1 => o n
noncomputable def yy_p2 (o : Nat → Int) : Nat → Int
  | 0 => 0
  | n + 1 => yy_p1 o n
noncomputable def yy_bd (b : Int) (k : Nat) : Int := b / ((2 ^ (16 * k) : Nat) : Int) % 65536
noncomputable def yy_cv (o : Nat → Int) (b : Int) (i : Nat) : Nat → Int
  | 0 => 0
  | k + 1 => yy_cv o b i k + if k ≤ i then o (i - k) * yy_bd b k else 0
theorem yy_cv3 {o : Nat → Int} {b : Int} : ∀ i : Nat, yy_cv o b i 3 = o i * yy_bd b 0 + yy_p1 o i * yy_bd b 1 + yy_p2 o i * yy_bd b 2
  | 0 => by
    show ((0 + if 0 ≤ 0 then o (0 - 0) * yy_bd b 0 else 0) + if 1 ≤ 0 then o (0 - 1) * yy_bd b 1 else 0) + (if 2 ≤ 0 then o (0 - 2) * yy_bd b 2 else 0) = o 0 * yy_bd b 0 + 0 * yy_bd b 1 + 0 * yy_bd b 2
    rw [if_pos (Nat.le_refl 0), if_neg (by decide), if_neg (by decide), Int.zero_mul, Int.zero_mul, Int.zero_add]
  | 1 => by
    show ((0 + if 0 ≤ 1 then o (1 - 0) * yy_bd b 0 else 0) + if 1 ≤ 1 then o (1 - 1) * yy_bd b 1 else 0) + (if 2 ≤ 1 then o (1 - 2) * yy_bd b 2 else 0) = o 1 * yy_bd b 0 + o 0 * yy_bd b 1 + 0 * yy_bd b 2
    rw [if_pos (by decide), if_pos (by decide), if_neg (by decide), Int.zero_mul, Int.zero_add]
  | i + 2 => by
    show ((0 + if 0 ≤ i + 2 then o (i + 2 - 0) * yy_bd b 0 else 0) + if 1 ≤ i + 2 then o (i + 2 - 1) * yy_bd b 1 else 0) + (if 2 ≤ i + 2 then o (i + 2 - 2) * yy_bd b 2 else 0) = o (i + 2) * yy_bd b 0 + o (i + 1) * yy_bd b 1 + o i * yy_bd b 2
    rw [if_pos (by omega), if_pos (by omega), if_pos (by omega), Int.zero_add]
    rfl
theorem yy_cvs {o : Nat → Int} {b : Int} {i k : Nat} (h : i < k) (hk : k ≤ 3) : yy_cv o b i 3 = yy_cv o b i k := by
  have st : ∀ q : Nat, i < q → yy_cv o b i (q + 1) = yy_cv o b i q := fun q hq => by
    show yy_cv o b i q + (if q ≤ i then o (i - q) * yy_bd b q else 0) = yy_cv o b i q
    rw [if_neg (by omega), Int.add_zero]
  rcases (show k = 1 ∨ k = 2 ∨ k = 3 by omega) with z | z | z
  · rw [z]
    rw [z] at h
    rw [st 2 (by omega), st 1 (by omega)]
  · rw [z]
    rw [z] at h
    rw [st 2 (by omega)]
  · rw [z]
noncomputable def yy_rs (o : Nat → Int) (b : Int) (n : Nat) : Int := yy_p1 o n * (yy_bd b 1 + yy_bd b 2 * 65536) + yy_p2 o n * yy_bd b 2
noncomputable def yy_wn (o : Nat → Int) (b : Int) : Nat → Int
  | 0 => 0
  | n + 1 => yy_wn o b n + yy_cv o b n 3 * 65536 ^ n
theorem yy_bds {b : Int} (h0 : 0 ≤ b) (h1 : b ≤ 70368744177664) : b = yy_bd b 0 + yy_bd b 1 * 65536 + yy_bd b 2 * 4294967296 := by
  unfold yy_bd
  rw [show ((2 ^ (16 * 0) : Nat) : Int) = 1 from rfl, show ((2 ^ (16 * 1) : Nat) : Int) = 65536 from rfl, show ((2 ^ (16 * 2) : Nat) : Int) = 4294967296 from rfl]
  omega
theorem yy_bdb (b : Int) (k : Nat) : 0 ≤ yy_bd b k ∧ yy_bd b k ≤ 65535 := by
  unfold yy_bd
  omega
theorem yy_wnr {o : Nat → Int} {b : Int} (h0 : 0 ≤ b) (h1 : b ≤ 70368744177664) : ∀ n : Nat, yy_wn o b n + yy_rs o b n * 65536 ^ n = yy_V o n * b
  | 0 => by
    show 0 + (0 * (yy_bd b 1 + yy_bd b 2 * 65536) + 0 * yy_bd b 2) * 65536 ^ 0 = 0 * b
    rw [Int.zero_mul, Int.zero_mul, Int.zero_mul]
    rfl
  | n + 1 => by
    have k := yy_wnr h0 h1 (o := o) n
    have e := yy_bds h0 h1
    have c3 := yy_cv3 (o := o) (b := b) n
    show yy_wn o b n + yy_cv o b n 3 * 65536 ^ n + (o n * (yy_bd b 1 + yy_bd b 2 * 65536) + yy_p1 o n * yy_bd b 2) * 65536 ^ (n + 1) = (yy_V o n + o n * 65536 ^ n) * b
    rw [c3, Int.pow_succ]
    unfold yy_rs at k
    generalize yy_bd b 0 = b0 at *
    generalize yy_bd b 1 = b1 at *
    generalize yy_bd b 2 = b2 at *
    generalize (65536 : Int) ^ n = P at *
    rw [Int.add_mul (yy_V o n), ← k, e]
    grind
theorem yy_rs_n {o : Nat → Int} {b : Int} {n : Nat} (h : ∀ j : Nat, j < n → 0 ≤ o j) : 0 ≤ yy_rs o b n := by
  have b1 := (yy_bdb b 1).1
  have b2 := (yy_bdb b 2).1
  have p1 : ∀ m : Nat, m ≤ n → 0 ≤ yy_p1 o m := fun m hm => by
    cases m with
    | zero => exact Int.le_refl 0
    | succ q => exact h q (by omega)
  have p2 : 0 ≤ yy_p2 o n := by
    cases n with
    | zero => exact Int.le_refl 0
    | succ q => exact p1 q (by omega)
  unfold yy_rs
  exact Int.add_nonneg (Int.mul_nonneg (p1 n (Nat.le_refl n)) (by omega)) (Int.mul_nonneg p2 b2)
theorem yy_cvb {o : Nat → Int} {b : Int} {i : Nat} (h : ∀ j : Nat, j ≤ i → 0 ≤ o j ∧ o j ≤ 65535) : ∀ k : Nat, 0 ≤ yy_cv o b i k ∧ yy_cv o b i k ≤ (k : Int) * 4294836225
  | 0 => ⟨Int.le_refl 0, Int.le_refl 0⟩
  | k + 1 => by
    have q := yy_cvb (b := b) h k
    have hb := yy_bdb b k
    show 0 ≤ yy_cv o b i k + (if k ≤ i then o (i - k) * yy_bd b k else 0) ∧ yy_cv o b i k + (if k ≤ i then o (i - k) * yy_bd b k else 0) ≤ ((k + 1 : Nat) : Int) * 4294836225
    by_cases z : k ≤ i
    · rw [if_pos z]
      have ho := h (i - k) (by omega)
      have m := yw_mb (a := o (i - k)) (b := yy_bd b k) (A := 65535) (B := 65535) (by omega) ho.2 (by omega) hb.2
      have m0 : 0 ≤ o (i - k) * yy_bd b k := Int.mul_nonneg ho.1 hb.1
      omega
    · rw [if_neg z]
      omega
/-- the outer loop -/
noncomputable def yy_ti (o d : Nat → Int) (b i c : Int) : Prop := yy_dg d i.toNat ∧ (0 ≤ c ∧ c ≤ 300000) ∧ yy_V d i.toNat + c * 65536 ^ i.toNat = yy_wn o b i.toNat
theorem yy_ti0 {o d : Nat → Int} {b : Int} : yy_ti o d b 0 0 := ⟨fun j hj => absurd hj (Nat.not_lt_zero j), by omega, by
  show 0 + 0 * 65536 ^ (0 : Int).toNat = 0
  rw [Int.zero_mul]
  rfl⟩
theorem yy_tis {o d : Nat → Int} {b i c v q c' : Int} (h : yy_ti o d b i c) (hi : 0 ≤ i) (ho : ∀ j : Nat, j ≤ i.toNat → 0 ≤ o j ∧ o j ≤ 65535) (hv : v = c + yy_cv o b i.toNat 3) (hq : q = v % 65536) (hc : c' = v / 65536) : yy_ti o (yq_set d i.toNat q) b (i + 1) c' := by
  obtain ⟨h1, h2, h3⟩ := h
  have cb := yy_cvb (b := b) ho 3
  refine ⟨fun j hj => ?_, by omega, ?_⟩
  · by_cases z : j = i.toNat
    · have e : yq_set d i.toNat q j = q := if_pos z
      rw [e]
      omega
    · have e : yq_set d i.toNat q j = d j := if_neg z
      rw [e]
      exact h1 j (by omega)
  · rw [show (i + 1).toNat = i.toNat + 1 by omega]
    have e1 : yy_V (yq_set d i.toNat q) i.toNat = yy_V d i.toNat := yy_V_e _ fun j hj => if_neg (by omega)
    have e2 : yq_set d i.toNat q i.toNat = q := if_pos rfl
    show yy_V (yq_set d i.toNat q) i.toNat + yq_set d i.toNat q i.toNat * 65536 ^ i.toNat + c' * 65536 ^ (i.toNat + 1) = yy_wn o b i.toNat + yy_cv o b i.toNat 3 * 65536 ^ i.toNat
    rw [e1, e2, Int.pow_succ, ← h3]
    have h6 : q = c + yy_cv o b i.toNat 3 - 65536 * c' := by omega
    rw [h6]
    grind
/-- what a multiplication says -/
noncomputable def yy_mw (o d : Nat → Int) (n : Nat) (f : Int) : Prop := 0 ≤ f → f ≤ 70368744177664 → yy_dg o n → yy_dg d n ∧ ∃ c : Int, 0 ≤ c ∧ yy_V d n + c * 65536 ^ n = yy_V o n * f
theorem yy_te {o d : Nat → Int} {b c : Int} {n : Nat} (h : yy_ti o d b (n : Int) c) (h0 : 0 ≤ b) (h1 : b ≤ 70368744177664) (ho : yy_dg o n) : yy_dg d n ∧ ∃ c : Int, 0 ≤ c ∧ yy_V d n + c * 65536 ^ n = yy_V o n * b := by
  obtain ⟨a1, a2, a3⟩ := h
  rw [show ((n : Int)).toNat = n by omega] at a1 a3
  have k := yy_wnr (o := o) h0 h1 n
  have r0 := yy_rs_n (o := o) (b := b) (n := n) fun j hj => (ho j hj).1
  refine ⟨a1, c + yy_rs o b n, by omega, ?_⟩
  rw [Int.add_mul]
  omega
