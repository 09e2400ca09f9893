/-! vote: large numbers by their digits -/
noncomputable def yy_V (d : Nat → Int) : Nat → Int
  | 0 => 0
  | n + 1 => yy_V d n + d n * 65536 ^ n
noncomputable def yy_dg (d : Nat → Int) (n : Nat) : Prop := ∀ j : Nat, j < n → 0 ≤ d j ∧ d j ≤ 65535
theorem yy_pw (n : Nat) : (0 : Int) < 65536 ^ n := Int.pow_pos (by decide)
theorem yy_V_b {d : Nat → Int} : ∀ n : Nat, yy_dg d n → 0 ≤ yy_V d n ∧ yy_V d n < 65536 ^ n
  | 0, _ => ⟨Int.le_refl 0, show (0 : Int) < 65536 ^ 0 by decide⟩
  | n + 1, h => by
    have k := yy_V_b n (fun j hj => h j (by omega))
    have hp := yy_pw n
    have h2 := h n (by omega)
    have m1 : 0 ≤ d n * 65536 ^ n := Int.mul_nonneg h2.1 (by omega)
    have m2 : d n * 65536 ^ n ≤ 65535 * 65536 ^ n := Int.mul_le_mul_of_nonneg_right h2.2 (by omega)
    show 0 ≤ yy_V d n + d n * 65536 ^ n ∧ yy_V d n + d n * 65536 ^ n < 65536 ^ (n + 1)
    rw [Int.pow_succ]
    generalize (65536 : Int) ^ n = P at *
    generalize d n * P = Q at *
    omega
theorem yy_V_e {a b : Nat → Int} : ∀ n : Nat, (∀ j : Nat, j < n → a j = b j) → yy_V a n = yy_V b n
  | 0, _ => rfl
  | n + 1, h => by
    show yy_V a n + a n * 65536 ^ n = yy_V b n + b n * 65536 ^ n
    rw [yy_V_e n (fun j hj => h j (by omega)), h n (by omega)]
theorem yy_V_lt {a b : Nat → Int} {d : Nat} : ∀ n : Nat, yy_dg a n → yy_dg b n → d < n → a d < b d → (∀ j : Nat, d < j → j < n → a j = b j) → yy_V a n < yy_V b n
  | 0, _, _, h, _, _ => absurd h (Nat.not_lt_zero d)
  | n + 1, ha, hb, hd, hl, he => by
    show yy_V a n + a n * 65536 ^ n < yy_V b n + b n * 65536 ^ n
    by_cases q : d = n
    · rw [q] at hl
      have k1 := yy_V_b n (fun j hj => ha j (by omega))
      have k2 := yy_V_b n (fun j hj => hb j (by omega))
      have hp := yy_pw n
      have m : (a n + 1) * 65536 ^ n ≤ b n * 65536 ^ n := Int.mul_le_mul_of_nonneg_right (by omega) (by omega)
      rw [Int.add_mul, Int.one_mul] at m
      omega
    · have k := yy_V_lt n (fun j hj => ha j (by omega)) (fun j hj => hb j (by omega)) (by omega) hl (fun j h1 h2 => he j h1 (by omega))
      rw [he n (by omega) (by omega)]
      omega
noncomputable def yy_cp (p q : Int) : Int := if q < p then 1 else if p < q then 0 else 2
theorem yy_cp_g {a b : Nat → Int} {n : Nat} {d : Int} (ha : yy_dg a n) (hb : yy_dg b n) (h0 : 0 ≤ d) (hd : d < (n : Int)) (he : ∀ j : Nat, d < (j : Int) → j < n → a j = b j) (hl : b d.toNat < a d.toNat) : yy_cp (yy_V a n) (yy_V b n) = 1 := by
  have k := yy_V_lt n hb ha (d := d.toNat) (by omega) hl (fun j h1 h2 => (he j (by omega) h2).symm)
  unfold yy_cp
  rw [if_pos k]
theorem yy_cp_l {a b : Nat → Int} {n : Nat} {d : Int} (ha : yy_dg a n) (hb : yy_dg b n) (h0 : 0 ≤ d) (hd : d < (n : Int)) (he : ∀ j : Nat, d < (j : Int) → j < n → a j = b j) (hl : a d.toNat < b d.toNat) : yy_cp (yy_V a n) (yy_V b n) = 0 := by
  have k := yy_V_lt n ha hb (d := d.toNat) (by omega) hl (fun j h1 h2 => he j (by omega) h2)
  unfold yy_cp
  rw [if_neg (by omega), if_pos k]
theorem yy_cp_e {a b : Nat → Int} {n : Nat} (he : ∀ j : Nat, (-1 : Int) < (j : Int) → j < n → a j = b j) : yy_cp (yy_V a n) (yy_V b n) = 2 := by
  rw [yy_V_e n (fun j hj => he j (by omega) hj)]
  unfold yy_cp
  rw [if_neg (Int.lt_irrefl _), if_neg (Int.lt_irrefl _)]
theorem yy_V_1 {d : Nat → Int} (h0 : d 0 = 1) : ∀ n : Nat, (∀ j : Nat, 0 < j → j < n + 1 → d j = 0) → yy_V d (n + 1) = 1
  | 0, _ => by
    show 0 + d 0 * 65536 ^ 0 = 1
    rw [h0]
    rfl
  | n + 1, h => by
    show yy_V d (n + 1) + d (n + 1) * 65536 ^ (n + 1) = 1
    rw [yy_V_1 h0 n (fun j h1 h2 => h j h1 (by omega)), h (n + 1) (by omega) (by omega), Int.zero_mul, Int.add_zero]
