/-! the corners of a hull: the next one, and that none comes twice -/
noncomputable def yh_at (x y : Nat → Int) (a b : Nat) : Prop := x a = x b ∧ y a = y b
noncomputable def yh_far (x y : Nat → Int) (a b : Nat) : Int := (x b - x a) * (x b - x a) + (y b - y a) * (y b - y a)
noncomputable def yh_f (x y : Nat → Int) (p q : Int) (v k : Nat) : Int := p * (x k - x v) + q * (y k - y v)
noncomputable def yh_dot (x y : Nat → Int) (v a b : Nat) : Int := (x a - x v) * (x b - x v) + (y a - y v) * (y b - y v)
/-- all others lie on one side of some line through v -/
noncomputable def yh_ext (x y : Nat → Int) (C : Nat → Prop) (v : Nat) : Prop := ∃ p q : Int, ∀ k, C k → ¬ yh_at x y k v → 0 < yh_f x y p q v k
noncomputable def yh_suc (x y : Nat → Int) (C : Nat → Prop) (v w : Nat) : Prop := C w ∧ ¬ yh_at x y w v ∧ ∀ k, C k → ¬ yh_at x y k v → 0 < yq_ar x y v w k ∨ (yq_ar x y v w k = 0 ∧ yh_far x y v k ≤ yh_far x y v w)
theorem yh_plu (x y : Nat → Int) (p q : Int) (v a b c : Nat) : yh_f x y p q v b * yq_ar x y v a c = yh_f x y p q v a * yq_ar x y v b c + yh_f x y p q v c * yq_ar x y v a b := by
  unfold yh_f yq_ar
  grind
theorem yh_neg (x y : Nat → Int) (v a b : Nat) : yq_ar x y v a b = -yq_ar x y v b a := by
  unfold yq_ar
  grind
theorem yh_self (x y : Nat → Int) (v a : Nat) : yq_ar x y v a a = 0 := by
  unfold yq_ar
  grind
theorem yh_pos {a b : Int} (ha : 0 < a) (h : 0 < a * b) : 0 < b := by
  by_cases hb : 0 < b
  · exact hb
  · have := Int.mul_le_mul_of_nonneg_left (show b ≤ 0 by omega) (Int.le_of_lt ha)
    omega
theorem yh_zero {a b : Int} (ha : 0 < a) (h : a * b = 0) : b = 0 := by
  rcases Int.mul_eq_zero.mp h with e | e
  · omega
  · exact e
theorem yh_tr {x y : Nat → Int} {p q : Int} {v a b c : Nat} (fa : 0 < yh_f x y p q v a) (fb : 0 < yh_f x y p q v b) (fc : 0 < yh_f x y p q v c) (h1 : 0 ≤ yq_ar x y v a b) (h2 : 0 ≤ yq_ar x y v b c) (h3 : 0 < yq_ar x y v a b ∨ 0 < yq_ar x y v b c) : 0 < yq_ar x y v a c := by
  refine yh_pos fb ?_
  rw [yh_plu]
  rcases h3 with h | h
  · have u1 := Int.mul_nonneg (Int.le_of_lt fa) h2
    have u2 := Int.mul_pos fc h
    omega
  · have u1 := Int.mul_pos fa h
    have u2 := Int.mul_nonneg (Int.le_of_lt fc) h1
    omega
theorem yh_tr0 {x y : Nat → Int} {p q : Int} {v a b c : Nat} (fb : 0 < yh_f x y p q v b) (h1 : yq_ar x y v a b = 0) (h2 : yq_ar x y v b c = 0) : yq_ar x y v a c = 0 := by
  refine yh_zero fb ?_
  rw [yh_plu, h1, h2]
  omega
/-- what a walk over the first n has found -/
noncomputable def yh_scan (x y : Nat → Int) (C : Nat → Prop) (v n : Nat) (w : Int) : Prop := (w < 0 ∧ ∀ k, k < n → C k → yh_at x y k v) ∨ (0 ≤ w ∧ C w.toNat ∧ ¬ yh_at x y w.toNat v ∧ ∀ k, k < n → C k → ¬ yh_at x y k v → 0 < yq_ar x y v w.toNat k ∨ (yq_ar x y v w.toNat k = 0 ∧ yh_far x y v k ≤ yh_far x y v w.toNat))
theorem yh_scan0 {x y : Nat → Int} {C : Nat → Prop} {v : Nat} {w : Int} (h : w < 0) : yh_scan x y C v 0 w := Or.inl ⟨h, fun k hk => absurd hk (Nat.not_lt_zero k)⟩
theorem yh_skip {x y : Nat → Int} {C : Nat → Prop} {v n : Nat} {w : Int} (h : yh_scan x y C v n w) (hn : C n → ¬ yh_at x y n v → 0 ≤ w ∧ (0 < yq_ar x y v w.toNat n ∨ (yq_ar x y v w.toNat n = 0 ∧ yh_far x y v n ≤ yh_far x y v w.toNat))) : yh_scan x y C v (n + 1) w := by
  rcases h with ⟨h1, h2⟩ | ⟨h1, h2, h3, h4⟩
  · refine Or.inl ⟨h1, fun k hk hC => ?_⟩
    by_cases e : k = n
    · subst e
      apply Classical.byContradiction
      intro hna
      have := (hn hC hna).1
      omega
    · exact h2 k (by omega) hC
  · refine Or.inr ⟨h1, h2, h3, fun k hk hC hna => ?_⟩
    by_cases e : k = n
    · subst e
      exact (hn hC hna).2
    · exact h4 k (by omega) hC hna
theorem yh_take {x y : Nat → Int} {C : Nat → Prop} {v n : Nat} {w : Int} (he : yh_ext x y C v) (h : yh_scan x y C v n w) (hC : C n) (hna : ¬ yh_at x y n v) (hw : 0 ≤ w → yq_ar x y v w.toNat n < 0 ∨ (yq_ar x y v w.toNat n = 0 ∧ yh_far x y v w.toNat < yh_far x y v n)) : yh_scan x y C v (n + 1) (n : Int) := by
  obtain ⟨p, q, hf⟩ := he
  have fn := hf n hC hna
  refine Or.inr ⟨by omega, hC, hna, fun k hk hCk hnk => ?_⟩
  show 0 < yq_ar x y v n k ∨ (yq_ar x y v n k = 0 ∧ yh_far x y v k ≤ yh_far x y v n)
  by_cases e : k = n
  · subst e
    exact Or.inr ⟨yh_self x y v k, Int.le_refl _⟩
  · have fk := hf k hCk hnk
    rcases h with ⟨h1, h2⟩ | ⟨h1, h2, h3, h4⟩
    · exact absurd (h2 k (by omega) hCk) hnk
    · have fw := hf w.toNat h2 h3
      have e1 := yh_neg x y v n w.toNat
      rcases hw h1 with g | ⟨g1, g2⟩
      · left
        rcases h4 k (by omega) hCk hnk with u | ⟨u, -⟩
        · exact yh_tr fn fw fk (by omega) (by omega) (Or.inr u)
        · exact yh_tr fn fw fk (by omega) (by omega) (Or.inl (by omega))
      · rcases h4 k (by omega) hCk hnk with u | ⟨u1, u2⟩
        · left
          exact yh_tr fn fw fk (by omega) (by omega) (Or.inr u)
        · right
          exact ⟨yh_tr0 fw (by omega) u1, by omega⟩
/-- two in one direction, the nearer first -/
theorem yh_par {x y : Nat → Int} {p q : Int} {v a b : Nat} (fa : 0 < yh_f x y p q v a) (fb : 0 < yh_f x y p q v b) (hc : yq_ar x y v b a = 0) (hl : yh_far x y v a ≤ yh_far x y v b) : yh_far x y v a ≤ yh_dot x y v a b ∧ yh_dot x y v a b ≤ yh_far x y v b ∧ 0 < yh_far x y v a ∧ (yh_dot x y v a b = yh_far x y v b → yh_at x y a b) := by
  have i1 : yh_f x y p q v b * yh_far x y v a = yh_f x y p q v a * yh_dot x y v a b := by
    unfold yh_f yh_far yh_dot
    unfold yq_ar at hc
    grind
  have i2 : yh_f x y p q v a * yh_far x y v b = yh_f x y p q v b * yh_dot x y v a b := by
    unfold yh_f yh_far yh_dot
    unfold yq_ar at hc
    grind
  have i3 : yh_f x y p q v b * (x a - x v) = yh_f x y p q v a * (x b - x v) := by
    unfold yh_f
    unfold yq_ar at hc
    grind
  have i4 : yh_f x y p q v b * (y a - y v) = yh_f x y p q v a * (y b - y v) := by
    unfold yh_f
    unfold yq_ar at hc
    grind
  generalize hfa : yh_f x y p q v a = FA at *
  generalize hfb : yh_f x y p q v b = FB at *
  have na : 0 < yh_far x y v a := by
    have n1 : 0 ≤ (x a - x v) * (x a - x v) := by
      rcases Int.le_total 0 (x a - x v) with u | u
      · exact Int.mul_nonneg u u
      · have := Int.mul_nonneg (show 0 ≤ -(x a - x v) by omega) (show 0 ≤ -(x a - x v) by omega)
        rw [Int.neg_mul_neg] at this
        exact this
    have n2 : 0 ≤ (y a - y v) * (y a - y v) := by
      rcases Int.le_total 0 (y a - y v) with u | u
      · exact Int.mul_nonneg u u
      · have := Int.mul_nonneg (show 0 ≤ -(y a - y v) by omega) (show 0 ≤ -(y a - y v) by omega)
        rw [Int.neg_mul_neg] at this
        exact this
    unfold yh_far
    rcases Int.lt_or_le 0 ((x a - x v) * (x a - x v) + (y a - y v) * (y a - y v)) with u | u
    · exact u
    · have z1 : (x a - x v) * (x a - x v) = 0 := by omega
      have z2 : (y a - y v) * (y a - y v) = 0 := by omega
      have z3 : x a - x v = 0 := by rcases Int.mul_eq_zero.mp z1 with e | e <;> exact e
      have z4 : y a - y v = 0 := by rcases Int.mul_eq_zero.mp z2 with e | e <;> exact e
      unfold yh_f at hfa
      rw [z3, z4, Int.mul_zero, Int.mul_zero] at hfa
      omega
  generalize hA : yh_far x y v a = A at *
  generalize hB : yh_far x y v b = B at *
  generalize hD : yh_dot x y v a b = D at *
  have dp : 0 < D := by
    refine yh_pos fa ?_
    rw [← i1]
    exact Int.mul_pos fb na
  have k1 : A ≤ D := by
    rcases Int.lt_or_le D A with u | u
    · exfalso
      have u1 := Int.mul_lt_mul_of_pos_left u fa
      rw [← i1] at u1
      have u2 : FB < FA := by
        rcases Int.lt_or_le FB FA with w | w
        · exact w
        · have := Int.mul_le_mul_of_nonneg_right w (Int.le_of_lt na)
          omega
      have u3 := Int.mul_lt_mul_of_pos_right u2 dp
      rw [← i2] at u3
      have u4 : B < D := by
        rcases Int.lt_or_le B D with w | w
        · exact w
        · have := Int.mul_le_mul_of_nonneg_left w (Int.le_of_lt fa)
          omega
      omega
    · exact u
  have k2 : D ≤ B := by
    rcases Int.lt_or_le B D with u | u
    · exfalso
      have u1 := Int.mul_lt_mul_of_pos_left u fb
      rw [← i2] at u1
      have u2 : FB < FA := by
        rcases Int.lt_or_le FB FA with w | w
        · exact w
        · have := Int.mul_le_mul_of_nonneg_right w (show 0 ≤ B by omega)
          omega
      have u3 := Int.mul_lt_mul_of_pos_right u2 dp
      rw [← i1] at u3
      have u4 : D < A := by
        rcases Int.lt_or_le D A with w | w
        · exact w
        · have := Int.mul_le_mul_of_nonneg_left w (Int.le_of_lt fb)
          omega
      omega
    · exact u
  refine ⟨k1, k2, na, fun e => ?_⟩
  rw [e] at i2
  have e2 : FA = FB := by
    have : (FA - FB) * B = 0 := by rw [Int.sub_mul, i2, Int.sub_self]
    rcases Int.mul_eq_zero.mp this with w | w
    · omega
    · omega
  rw [e2] at i3 i4
  have e3 : FB * ((x a - x v) - (x b - x v)) = 0 := by rw [Int.mul_sub, i3, Int.sub_self]
  have e4 : FB * ((y a - y v) - (y b - y v)) = 0 := by rw [Int.mul_sub, i4, Int.sub_self]
  have e5 := yh_zero fb e3
  have e6 := yh_zero fb e4
  exact ⟨by omega, by omega⟩
theorem yh_cong {x y : Nat → Int} {v w w' k : Nat} (h : yh_at x y w w') : yq_ar x y v w k = yq_ar x y v w' k ∧ yh_far x y v w = yh_far x y v w' := by
  unfold yq_ar yh_far
  rw [h.1, h.2]
  exact ⟨rfl, rfl⟩
/-- no two have the same next -/
theorem yh_inj {x y : Nat → Int} {C : Nat → Prop} {v1 v2 w1 w2 : Nat} (h1 : yh_suc x y C v1 w1) (h2 : yh_suc x y C v2 w2) (hw : yh_at x y w1 w2) (x1 : yh_ext x y C v1) (x2 : yh_ext x y C v2) (c1 : C v1) (c2 : C v2) : yh_at x y v1 v2 := by
  apply Classical.byContradiction
  intro hn
  have hn2 : ¬ yh_at x y v2 v1 := fun h => hn ⟨h.1.symm, h.2.symm⟩
  obtain ⟨a1, a2, a3⟩ := h1
  obtain ⟨b1, b2, b3⟩ := h2
  have u1 := a3 v2 c2 hn2
  have u2 := b3 v1 c1 hn
  obtain ⟨e1, e2⟩ := yh_cong (v := v1) (k := v2) hw
  have e0 : yq_ar x y v1 w2 v2 = -yq_ar x y v2 w2 v1 := by
    unfold yq_ar
    grind
  have z1 : yq_ar x y v1 w1 v2 = 0 := by
    rcases u1 with u1 | ⟨u1, -⟩ <;> rcases u2 with u2 | ⟨u2, -⟩ <;> omega
  have z2 : yq_ar x y v2 w2 v1 = 0 := by omega
  have l1 : yh_far x y v1 v2 ≤ yh_far x y v1 w1 := by
    rcases u1 with u1 | ⟨-, u1⟩
    · omega
    · exact u1
  have l2 : yh_far x y v2 v1 ≤ yh_far x y v2 w2 := by
    rcases u2 with u2 | ⟨-, u2⟩
    · omega
    · exact u2
  obtain ⟨p, q, f1⟩ := x1
  obtain ⟨p', q', f2⟩ := x2
  obtain ⟨m1, -, m2, -⟩ := yh_par (f1 v2 c2 hn2) (f1 w1 a1 a2) z1 l1
  obtain ⟨n1, -, n2, -⟩ := yh_par (f2 v1 c1 hn) (f2 w2 b1 b2) z2 l2
  have d1 : yh_far x y v2 w1 = yh_far x y v1 w1 - 2 * yh_dot x y v1 v2 w1 + yh_far x y v1 v2 := by
    unfold yh_far yh_dot
    grind
  have d2 : yh_far x y v1 w2 = yh_far x y v2 w2 - 2 * yh_dot x y v2 v1 w2 + yh_far x y v2 v1 := by
    unfold yh_far yh_dot
    grind
  have e3 := (yh_cong (v := v2) (k := v1) hw).2
  omega
/-- the next of one at the edge lies at the edge -/
theorem yh_nxt {x y : Nat → Int} {C : Nat → Prop} {v w : Nat} (hb : ∀ k, -300 ≤ x k ∧ x k ≤ 1000 ∧ -300 ≤ y k ∧ y k ≤ 1000) (h1 : yh_suc x y C v w) (x1 : yh_ext x y C v) : yh_ext x y C w := by
  obtain ⟨a1, a2, a3⟩ := h1
  obtain ⟨p, q, hf⟩ := x1
  refine ⟨-(10000000 * (y w - y v)) - (x w - x v), 10000000 * (x w - x v) - (y w - y v), fun k hk hn => ?_⟩
  have e1 : yh_f x y (-(10000000 * (y w - y v)) - (x w - x v)) (10000000 * (x w - x v) - (y w - y v)) w k = 10000000 * yq_ar x y v w k - ((x w - x v) * (x k - x w) + (y w - y v) * (y k - y w)) := by
    unfold yh_f yq_ar
    grind
  rw [e1]
  have b1 := hb k
  have b2 := hb w
  have b3 := hb v
  have q1 := yt_pr_ok (lx := -1300) (hx := 1300) (ly := -1300) (hy := 1300) (x := x w - x v) (y := x k - x w) (by omega) (by omega) (by omega) (by omega)
  have q2 := yt_pr_ok (lx := -1300) (hx := 1300) (ly := -1300) (hy := 1300) (x := y w - y v) (y := y k - y w) (by omega) (by omega) (by omega) (by omega)
  rw [show yt_pr (-1300) 1300 (-1300) 1300 = (-1690000, 1690000) by decide] at q1 q2
  dsimp only at q1 q2
  have e2 : (x w - x v) * (x k - x w) + (y w - y v) * (y k - y w) = yh_dot x y v k w - yh_far x y v w := by
    unfold yh_dot yh_far
    grind
  by_cases hkv : yh_at x y k v
  · have z1 : yq_ar x y v w k = 0 := by
      unfold yq_ar
      rw [hkv.1, hkv.2, Int.sub_self, Int.sub_self, Int.mul_zero, Int.mul_zero]
      rfl
    have fw := hf w a1 a2
    obtain ⟨-, -, m2, -⟩ := yh_par fw fw (yh_self x y v w) (Int.le_refl _)
    have z2 : yh_dot x y v k w = 0 := by
      unfold yh_dot
      rw [hkv.1, hkv.2, Int.sub_self, Int.sub_self, Int.zero_mul, Int.zero_mul]
      rfl
    omega
  · rcases a3 k hk hkv with u | ⟨u1, u2⟩
    · omega
    · obtain ⟨-, m1, -, m3⟩ := yh_par (hf k hk hkv) (hf w a1 a2) u1 u2
      have : yh_dot x y v k w ≠ yh_far x y v w := fun e => hn (m3 e)
      omega
/-- the lowest of the leftmost lies at the edge -/
theorem yh_fst {x y : Nat → Int} {C : Nat → Prop} {v : Nat} (hb : ∀ k, -300 ≤ x k ∧ x k ≤ 1000 ∧ -300 ≤ y k ∧ y k ≤ 1000) (h : ∀ k, C k → x v < x k ∨ (x v = x k ∧ y v ≤ y k)) : yh_ext x y C v := by
  refine ⟨2000, 1, fun k hk hn => ?_⟩
  unfold yh_f
  have b1 := hb k
  have b2 := hb v
  rcases h k hk with u | ⟨u1, u2⟩
  · omega
  · have : y k ≠ y v := fun e => hn ⟨u1.symm, e⟩
    omega
/-- m + 1 different ones below n: m is below n -/
theorem yh_pig : ∀ (n m : Nat) (f : Nat → Nat), (∀ i, i ≤ m → f i < n) → (∀ i j, i ≤ m → j ≤ m → f i = f j → i = j) → m < n
  | 0, m, f, h, _ => absurd (h 0 (Nat.zero_le _)) (Nat.not_lt_zero _)
  | n + 1, 0, f, h, _ => Nat.succ_pos n
  | n + 1, m + 1, f, h, hi => by
    have := yh_pig n m (fun i => if f i = n then f (m + 1) else f i) (fun i hm => by
      try dsimp only
      have a1 := h i (by omega)
      have a2 := h (m + 1) (Nat.le_refl _)
      split
      · rename_i e
        have : f (m + 1) ≠ n := fun e2 => by
          have := hi i (m + 1) (by omega) (Nat.le_refl _) (e.trans e2.symm)
          omega
        omega
      · rename_i e
        omega) (fun i j h1 h2 he => by
      try dsimp only at he
      split at he
      · rename_i e1
        split at he
        · rename_i e2
          exact hi i j (by omega) (by omega) (e1.trans e2.symm)
        · have := hi (m + 1) j (Nat.le_refl _) (by omega) he
          omega
      · split at he
        · have := hi i (m + 1) (by omega) (Nat.le_refl _) he
          omega
        · exact hi i j (by omega) (by omega) he)
    omega
noncomputable def yh_C (pc : Nat → Int) (c n : Int) : Nat → Prop := fun k => (k : Int) < n ∧ pc k = c
/-- the lowest of the leftmost among the first n -/
noncomputable def yh_low (x y : Nat → Int) (C : Nat → Prop) (n : Nat) (w : Int) : Prop := (w < 0 ∧ ∀ j, j < n → ¬ C j) ∨ (0 ≤ w ∧ C w.toNat ∧ ∀ j, j < n → C j → x w.toNat < x j ∨ (x w.toNat = x j ∧ y w.toNat ≤ y j))
theorem yh_low0 {x y : Nat → Int} {C : Nat → Prop} {w : Int} (h : w < 0) : yh_low x y C 0 w := Or.inl ⟨h, fun j hj => absurd hj (Nat.not_lt_zero j)⟩
theorem yh_lows {x y : Nat → Int} {C : Nat → Prop} {n : Nat} {w : Int} (h : yh_low x y C n w) (hn : C n → 0 ≤ w ∧ (x w.toNat < x n ∨ (x w.toNat = x n ∧ y w.toNat ≤ y n))) : yh_low x y C (n + 1) w := by
  rcases h with ⟨h1, h2⟩ | ⟨h1, h2, h3⟩
  · refine Or.inl ⟨h1, fun j hj hC => ?_⟩
    by_cases e : j = n
    · subst e
      have := (hn hC).1
      omega
    · exact h2 j (by omega) hC
  · refine Or.inr ⟨h1, h2, fun j hj hC => ?_⟩
    by_cases e : j = n
    · subst e
      exact (hn hC).2
    · exact h3 j (by omega) hC
theorem yh_lowt {x y : Nat → Int} {C : Nat → Prop} {n : Nat} {w w' : Int} (h : yh_low x y C n w) (hC : C n) (hw' : w' = (n : Int)) (hw : 0 ≤ w → x n < x w.toNat ∨ (x n = x w.toNat ∧ y n ≤ y w.toNat)) : yh_low x y C (n + 1) w' := by
  subst hw'
  refine Or.inr ⟨by omega, hC, fun j hj hCj => ?_⟩
  show x n < x j ∨ (x n = x j ∧ y n ≤ y j)
  by_cases e : j = n
  · subst e
    exact Or.inr ⟨rfl, Int.le_refl _⟩
  · rcases h with ⟨h1, h2⟩ | ⟨h1, h2, h3⟩
    · exact absurd hCj (h2 j (by omega))
    · rcases h3 j (by omega) hCj with u | ⟨u1, u2⟩ <;> rcases hw h1 with v | ⟨v1, v2⟩ <;> omega
/-- the way so far: m corners ahead of the one at hand, all at the edge, each the next of the one before, none twice -/
noncomputable def yh_walk (x y : Nat → Int) (C : Nat → Prop) (m a b : Nat) : Prop := ∃ f : Nat → Nat, f 0 = a ∧ f m = b ∧ (∀ i, i ≤ m → C (f i) ∧ yh_ext x y C (f i)) ∧ (∀ i, i < m → yh_suc x y C (f i) (f (i + 1))) ∧ ∀ i j, i ≤ m → j ≤ m → yh_at x y (f i) (f j) → i = j
theorem yh_walk0 {x y : Nat → Int} {C : Nat → Prop} {a : Nat} (hC : C a) (he : yh_ext x y C a) : yh_walk x y C 0 a a := ⟨fun _ => a, rfl, rfl, fun _ _ => ⟨hC, he⟩, fun i hi => absurd hi (Nat.not_lt_zero i), fun i j hi hj _ => by omega⟩
theorem yh_walk_e {x y : Nat → Int} {C : Nat → Prop} {m a b : Nat} (h : yh_walk x y C m a b) : C b ∧ yh_ext x y C b := by
  obtain ⟨f, -, h2, h3, -⟩ := h
  have := h3 m (Nat.le_refl _)
  rw [h2] at this
  exact this
theorem yh_walk_lt {x y pc : Nat → Int} {c n : Int} {m a b : Nat} (h : yh_walk x y (yh_C pc c n) m a b) : (m : Int) < n := by
  obtain ⟨f, -, -, h3, -, h5⟩ := h
  have h0 := (h3 0 (Nat.zero_le _)).1.1
  have := yh_pig n.toNat m f (fun i hi => by
    have := (h3 i hi).1.1
    omega) (fun i j hi hj e => h5 i j hi hj (by rw [e]; exact ⟨rfl, rfl⟩))
  omega
theorem yh_walks {x y pc : Nat → Int} {c n : Int} {m a b N : Nat} {w : Int} (hb : ∀ k, -300 ≤ x k ∧ x k ≤ 1000 ∧ -300 ≤ y k ∧ y k ≤ 1000) (h : yh_walk x y (yh_C pc c n) m a b) (hs : yh_scan x y (yh_C pc c n) b N w) (hN : n ≤ (N : Int)) (hw : 0 ≤ w) (hna : ¬ yh_at x y w.toNat a) : yh_walk x y (yh_C pc c n) (m + 1) a w.toNat := by
  obtain ⟨f, h1, h2, h3, h4, h5⟩ := h
  rcases hs with ⟨s1, -⟩ | ⟨-, s2, s3, s4⟩
  · omega
  · have hsuc : yh_suc x y (yh_C pc c n) b w.toNat := ⟨s2, s3, fun k hk hkb => s4 k (by have := hk.1; omega) hk hkb⟩
    have hext := yh_nxt hb hsuc (h2 ▸ (h3 m (Nat.le_refl _)).2)
    have hcb := (h3 m (Nat.le_refl _)).1
    have hxb := (h3 m (Nat.le_refl _)).2
    rw [h2] at hcb hxb
    have key : ∀ i, i ≤ m → ¬ yh_at x y (f i) w.toNat := by
      intro i hi hat
      cases i with
      | zero =>
        rw [h1] at hat
        exact hna ⟨hat.1.symm, hat.2.symm⟩
      | succ i =>
        have u1 := h4 i (by omega)
        have u2 := yh_inj u1 hsuc hat (h3 i (by omega)).2 hxb (h3 i (by omega)).1 hcb
        rw [← h2] at u2
        have := h5 i m (by omega) (Nat.le_refl _) u2
        omega
    refine ⟨fun i => if i ≤ m then f i else w.toNat, ?_, ?_, fun i hi => ?_, fun i hi => ?_, fun i j hi hj hat => ?_⟩
    · show (if 0 ≤ m then f 0 else w.toNat) = a
      rw [if_pos (Nat.zero_le _)]
      exact h1
    · show (if m + 1 ≤ m then f (m + 1) else w.toNat) = w.toNat
      rw [if_neg (by omega)]
    · try dsimp only
      split
      · rename_i e
        exact h3 i e
      · exact ⟨s2, hext⟩
    · show yh_suc x y (yh_C pc c n) (if i ≤ m then f i else w.toNat) (if i + 1 ≤ m then f (i + 1) else w.toNat)
      rw [if_pos (show i ≤ m by omega)]
      by_cases e : i = m
      · subst e
        rw [if_neg (by omega), h2]
        exact hsuc
      · rw [if_pos (by omega)]
        exact h4 i (by omega)
    · try dsimp only at hat
      split at hat
      · split at hat
        · exact h5 i j (by omega) (by omega) hat
        · exact absurd hat (key i (by omega))
      · split at hat
        · exact absurd ⟨hat.1.symm, hat.2.symm⟩ (key j (by omega))
        · omega
