/-! the widest way: it is the widest, and the only one -/
theorem ye_cmp {x y : Nat → Int} {Y N : Nat → Prop} {A B lo hi A' B' L' H' : Int} (h : ye_ce x y Y N A B lo hi) (h1 : ∀ j, Y j → L' ≤ A' * x j + B' * y j) (h2 : ∀ j, N j → A' * x j + B' * y j ≤ H') (h3 : H' < L') : (L' - H') * (L' - H') * (A * A + B * B) ≤ (lo - hi) * (lo - hi) * (A' * A' + B' * B') ∧ ((lo - hi) * (lo - hi) * (A' * A' + B' * B') ≤ (L' - H') * (L' - H') * (A * A + B * B) → A * B' = B * A' ∧ 0 < A * A' + B * B') := by
  obtain ⟨c1, c2, c3, T, M, hT, hM, c6, c7⟩ := h
  have k := c7 A' B' L' H' h1 h2
  have hg : 0 < T * (L' - H') := Int.mul_pos hT (by omega)
  have hG : 0 < T * (lo - hi) := Int.mul_pos hT (by omega)
  have hd : 0 < A * A' + B * B' := ye_mp hM (by rw [Int.mul_comm]; omega)
  have hn : 0 < A * A + B * B := ye_mp hM (by rw [Int.mul_comm]; omega)
  have hTT : 0 < T * T := Int.mul_pos hT hT
  have s1 : T * (L' - H') * (T * (L' - H')) ≤ M * (A * A' + B * B') * (M * (A * A' + B * B')) := by
    have a1 := ye_mle k (show 0 ≤ T * (L' - H') by omega)
    have a2 := ye_mle k (show 0 ≤ M * (A * A' + B * B') by omega)
    have a3 := Int.mul_comm (T * (L' - H')) (M * (A * A' + B * B'))
    omega
  have s2 := ye_mle s1 (show 0 ≤ A * A + B * B by omega)
  have e1 : T * (L' - H') * (T * (L' - H')) * (A * A + B * B) = (L' - H') * (L' - H') * (A * A + B * B) * (T * T) := by grind
  have e2 : M * (A * A' + B * B') * (M * (A * A' + B * B')) * (A * A + B * B) = M * (A * A + B * B) * (M * (A * A + B * B)) * (A' * A' + B' * B') - (A * B' - B * A') * (A * B' - B * A') * (M * M * (A * A + B * B)) := by grind
  have e3 : M * (A * A + B * B) * (M * (A * A + B * B)) * (A' * A' + B' * B') = (lo - hi) * (lo - hi) * (A' * A' + B' * B') * (T * T) := by
    rw [← c6]
    grind
  have hMn : 0 < M * M * (A * A + B * B) := Int.mul_pos (Int.mul_pos hM hM) hn
  have hsq := Int.mul_nonneg (ye_sq (A * B' - B * A')) (show 0 ≤ M * M * (A * A + B * B) by omega)
  refine ⟨ye_mlei hTT (by omega), fun hle => ⟨?_, hd⟩⟩
  have k3 := ye_mle hle (show 0 ≤ T * T by omega)
  by_cases q : A * B' - B * A' = 0
  · omega
  · have := Int.mul_pos (ye_sqp q) hMn
    omega
/-- extremes of a direction -/
noncomputable def ye_ex (x y : Nat → Int) (Y N : Nat → Prop) (a b l h : Int) : Prop := (∀ j, Y j → l ≤ a * x j + b * y j) ∧ (∃ j, Y j ∧ a * x j + b * y j = l) ∧ (∀ j, N j → a * x j + b * y j ≤ h) ∧ ∃ j, N j ∧ a * x j + b * y j = h
noncomputable def ye_W (x y : Nat → Int) (Y N : Nat → Prop) (a b l h : Int) : Prop := ye_ex x y Y N a b l h ∧ h < l ∧ ∀ A B lo hi : Int, ye_tr x y Y N A B → (∀ j, Y j → lo ≤ A * x j + B * y j) → (∀ j, N j → A * x j + B * y j ≤ hi) → hi < lo → (lo - hi) * (lo - hi) * (a * a + b * b) ≤ (l - h) * (l - h) * (A * A + B * B)
theorem ye_sep_nm {x y : Nat → Int} {Y N : Nat → Prop} {A B lo hi : Int} (h1 : ∀ j, Y j → lo ≤ A * x j + B * y j) (h2 : ∀ j, N j → A * x j + B * y j ≤ hi) (h3 : hi < lo) : ye_nm x y Y N := by
  have bt : ∀ (s : Int) (p a b : Nat), s * (A * (x a - x p) + B * (y a - y p)) < 0 → s * (A * (x b - x p) + B * (y b - y p)) < 0 → ¬ ye_bt x y p a b := fun s p a b g1 g2 ⟨z1, z2⟩ => by
    have e : (s * (A * (x a - x p) + B * (y a - y p))) * (s * (A * (x b - x p) + B * (y b - y p))) * yh_far x y p b = (s * (A * (x b - x p) + B * (y b - y p))) * (s * (A * (x b - x p) + B * (y b - y p))) * yh_dot x y p a b + s * s * (A * (x b - x p) + B * (y b - y p)) * (A * (y b - y p) - B * (x b - x p)) * yq_ar x y a b p := by
      unfold yh_far yh_dot yq_ar
      grind
    rw [z1, Int.mul_zero, Int.add_zero] at e
    have k1 : 0 < (s * (A * (x a - x p) + B * (y a - y p))) * (s * (A * (x b - x p) + B * (y b - y p))) := Int.mul_pos_of_neg_of_neg g1 g2
    have k2 := Int.mul_nonneg (Int.le_of_lt k1) (ye_farp (x := x) (y := y) (a := p) (b := b))
    have k3 : 0 < (s * (A * (x b - x p) + B * (y b - y p))) * (s * (A * (x b - x p) + B * (y b - y p))) := Int.mul_pos_of_neg_of_neg g2 g2
    have k4 := ye_ml z2 k3
    rw [Int.zero_mul, Int.mul_comm] at k4
    omega
  have wi : ∀ (s : Int) (p a b c : Nat), s * (A * (x a - x p) + B * (y a - y p)) < 0 → s * (A * (x b - x p) + B * (y b - y p)) < 0 → s * (A * (x c - x p) + B * (y c - y p)) < 0 → ¬ ye_wi x y p a b c := fun s p a b c g1 g2 g3 z => by
    have e : (s * (A * (x a - x p) + B * (y a - y p))) * yq_ar x y b c p + (s * (A * (x b - x p) + B * (y b - y p))) * yq_ar x y c a p + (s * (A * (x c - x p) + B * (y c - y p))) * yq_ar x y a b p = 0 := by
      unfold yq_ar
      grind
    rcases z with ⟨z1, z2, z3⟩ | ⟨z1, z2, z3⟩
    · have k1 := ye_ml g1 z2
      have k2 := ye_ml g2 z3
      have k3 := ye_ml g3 z1
      rw [Int.zero_mul] at k1 k2 k3
      omega
    · have k1 := Int.mul_pos_of_neg_of_neg g1 z2
      have k2 := Int.mul_pos_of_neg_of_neg g2 z3
      have k3 := Int.mul_pos_of_neg_of_neg g3 z1
      omega
  have dn : ∀ p a : Nat, Y p → N a → 1 * (A * (x a - x p) + B * (y a - y p)) < 0 := fun p a hp ha => by
    have k1 := h1 p hp
    have k2 := h2 a ha
    rw [Int.one_mul, Int.mul_sub, Int.mul_sub]
    omega
  have dp : ∀ p a : Nat, N p → Y a → -1 * (A * (x a - x p) + B * (y a - y p)) < 0 := fun p a hp ha => by
    have k1 := h1 a ha
    have k2 := h2 p hp
    rw [Int.mul_sub, Int.mul_sub]
    omega
  refine ⟨fun i k hi hk z => ?_, fun p a b hp ha hb => bt 1 p a b (dn p a hp ha) (dn p b hp hb), fun p a b hp ha hb => bt (-1) p a b (dp p a hp ha) (dp p b hp hb), fun p a b c hp ha hb hc => wi 1 p a b c (dn p a hp ha) (dn p b hp hb) (dn p c hp hc), fun p a b c hp ha hb hc => wi (-1) p a b c (dp p a hp ha) (dp p b hp hb) (dp p c hp hc), fun a b c d ha hb hc hd z => ?_⟩
  · have k1 := h1 i hi
    have k2 := h2 k hk
    rw [z.1, z.2] at k1
    omega
  · have ga := h1 a ha
    have gb := h1 b hb
    have gc := h2 c hc
    have gd := h2 d hd
    have e0 : yq_ar x y c d a - yq_ar x y c d b = yq_ar x y a b d - yq_ar x y a b c := by
      unfold yq_ar
      grind
    have e : yq_ar x y c d a * (A * x b + B * y b) - yq_ar x y c d b * (A * x a + B * y a) = yq_ar x y a b d * (A * x c + B * y c) - yq_ar x y a b c * (A * x d + B * y d) := by
      unfold yq_ar
      grind
    rcases z.2 with ⟨t1, t2⟩ | ⟨t1, t2⟩
    · have s : yq_ar x y a b c < 0 ∧ 0 < yq_ar x y a b d := by
        rcases z.1 with q | q <;> omega
      have k1 := ye_mle gb (show 0 ≤ yq_ar x y c d a by omega)
      have k2 := ye_mle ga (show 0 ≤ -yq_ar x y c d b by omega)
      have k3 := ye_mle gc (show 0 ≤ yq_ar x y a b d by omega)
      have k4 := ye_mle gd (show 0 ≤ -yq_ar x y a b c by omega)
      rw [Int.mul_neg, Int.mul_neg] at k2 k4
      have k5 := ye_ml h3 (show 0 < yq_ar x y c d a - yq_ar x y c d b by omega)
      have f1 : lo * (yq_ar x y c d a - yq_ar x y c d b) = lo * yq_ar x y c d a - lo * yq_ar x y c d b := Int.mul_sub _ _ _
      have f2 : hi * (yq_ar x y c d a - yq_ar x y c d b) = hi * yq_ar x y a b d - hi * yq_ar x y a b c := by rw [e0, Int.mul_sub]
      have m1 := Int.mul_comm (yq_ar x y c d a) (A * x b + B * y b)
      have m2 := Int.mul_comm (yq_ar x y c d b) (A * x a + B * y a)
      have m3 := Int.mul_comm (yq_ar x y a b d) (A * x c + B * y c)
      have m4 := Int.mul_comm (yq_ar x y a b c) (A * x d + B * y d)
      omega
    · have s : 0 < yq_ar x y a b c ∧ yq_ar x y a b d < 0 := by
        rcases z.1 with q | q <;> omega
      have k1 := ye_mle gb (show 0 ≤ -yq_ar x y c d a by omega)
      have k2 := ye_mle ga (show 0 ≤ yq_ar x y c d b by omega)
      have k3 := ye_mle gc (show 0 ≤ -yq_ar x y a b d by omega)
      have k4 := ye_mle gd (show 0 ≤ yq_ar x y a b c by omega)
      rw [Int.mul_neg, Int.mul_neg] at k1 k3
      have k5 := ye_ml h3 (show 0 < -(yq_ar x y c d a - yq_ar x y c d b) by omega)
      have f1 : lo * -(yq_ar x y c d a - yq_ar x y c d b) = -(lo * yq_ar x y c d a) + lo * yq_ar x y c d b := by grind
      have f2 : hi * -(yq_ar x y c d a - yq_ar x y c d b) = -(hi * yq_ar x y a b d) + hi * yq_ar x y a b c := by
        rw [e0]
        grind
      have m1 := Int.mul_comm (yq_ar x y c d a) (A * x b + B * y b)
      have m2 := Int.mul_comm (yq_ar x y c d b) (A * x a + B * y a)
      have m3 := Int.mul_comm (yq_ar x y a b d) (A * x c + B * y c)
      have m4 := Int.mul_comm (yq_ar x y a b c) (A * x d + B * y d)
      omega
/-- two widest ways are one -/
theorem ye_pp {A B a b a' b' : Int} (h1 : A * b = B * a) (h2 : 0 < A * a + B * b) (h3 : A * b' = B * a') (h4 : 0 < A * a' + B * b') (hn : 0 < A * A + B * B) : a * b' = b * a' ∧ 0 < a * a' + b * b' := by
  have k1 : (A * A + B * B) * a = (A * a + B * b) * A := by
    have e : (A * A + B * B) * a = A * A * a + B * (B * a) := by grind
    rw [e, ← h1]
    grind
  have k2 : (A * A + B * B) * b = (A * a + B * b) * B := by
    have e : (A * A + B * B) * b = A * (A * b) + B * B * b := by grind
    rw [e, h1]
    grind
  have k3 : (A * A + B * B) * a' = (A * a' + B * b') * A := by
    have e : (A * A + B * B) * a' = A * A * a' + B * (B * a') := by grind
    rw [e, ← h3]
    grind
  have k4 : (A * A + B * B) * b' = (A * a' + B * b') * B := by
    have e : (A * A + B * B) * b' = A * (A * b') + B * B * b' := by grind
    rw [e, h3]
    grind
  have hnn : 0 < (A * A + B * B) * (A * A + B * B) := Int.mul_pos hn hn
  constructor
  · have e1 : (a * b' - b * a') * ((A * A + B * B) * (A * A + B * B)) = (A * A + B * B) * a * ((A * A + B * B) * b') - (A * A + B * B) * b * ((A * A + B * B) * a') := by grind
    rw [k1, k2, k3, k4] at e1
    have e2 : (A * a + B * b) * A * ((A * a' + B * b') * B) - (A * a + B * b) * B * ((A * a' + B * b') * A) = 0 := by grind
    have := ye_mz hnn (e1.trans e2)
    omega
  · have e1 : (a * a' + b * b') * ((A * A + B * B) * (A * A + B * B)) = (A * A + B * B) * a * ((A * A + B * B) * a') + (A * A + B * B) * b * ((A * A + B * B) * b') := by grind
    rw [k1, k2, k3, k4] at e1
    have e2 : (A * a + B * b) * A * ((A * a' + B * b') * A) + (A * a + B * b) * B * ((A * a' + B * b') * B) = (A * a + B * b) * (A * a' + B * b') * (A * A + B * B) := by grind
    have k5 := Int.mul_pos (Int.mul_pos h2 h4) hn
    exact ye_mp hnn (by rw [e1, e2]; exact k5)
theorem ye_uni {x y : Nat → Int} {Y N : Nat → Prop} {n : Nat} (hY : ∀ j, Y j → j < n) (hN : ∀ j, N j → j < n) {a b l h a' b' l' h' : Int} (w : ye_W x y Y N a b l h) (w' : ye_W x y Y N a' b' l' h') : ∃ s t : Int, 0 < s ∧ 0 < t ∧ t * a = s * a' ∧ t * b = s * b' ∧ t * l = s * l' ∧ t * h = s * h' := by
  obtain ⟨⟨y1, ⟨j1, j2, j3⟩, y2, ⟨j4, j5, j6⟩⟩, y3, y4⟩ := w
  obtain ⟨⟨z1, ⟨i1, i2, i3⟩, z2, ⟨i4, i5, i6⟩⟩, z3, z4⟩ := w'
  obtain ⟨A, B, lo, hi, k1, k2⟩ := ye_main hY hN j2 j5 (ye_sep_nm y1 y2 y3)
  have c1 := (ye_cmp k2 y1 y2 y3).2 (y4 A B lo hi k1 k2.1 k2.2.1 k2.2.2.1)
  have c2 := (ye_cmp k2 z1 z2 z3).2 (z4 A B lo hi k1 k2.1 k2.2.1 k2.2.2.1)
  have hn : 0 < A * A + B * B := by
    have q1 := ye_sq A
    have q2 := ye_sq B
    by_cases z : A = 0
    · by_cases z' : B = 0
      · have := c1.2
        rw [z, z', Int.zero_mul, Int.zero_mul] at this
        omega
      · have := ye_sqp z'
        omega
    · have := ye_sqp z
      omega
  obtain ⟨p1, p2⟩ := ye_pp c1.1 c1.2 c2.1 c2.2 hn
  have ht : 0 < a' * a' + b' * b' := by
    have q1 := ye_sq a'
    have q2 := ye_sq b'
    by_cases z : a' = 0
    · by_cases z' : b' = 0
      · rw [z, z', Int.mul_zero, Int.mul_zero] at p2
        omega
      · have := ye_sqp z'
        omega
    · have := ye_sqp z
      omega
  have g1 : (a' * a' + b' * b') * a = (a * a' + b * b') * a' := by
    have e : (a' * a' + b' * b') * a = a' * a' * a + b' * (a * b') := by grind
    rw [e, p1]
    grind
  have g2 : (a' * a' + b' * b') * b = (a * a' + b * b') * b' := by
    have e : (a' * a' + b' * b') * b = a' * (b * a') + b' * b' * b := by grind
    rw [e, ← p1]
    grind
  have gg : ∀ j : Nat, (a' * a' + b' * b') * (a * x j + b * y j) = (a * a' + b * b') * (a' * x j + b' * y j) := fun j => by
    have e : (a' * a' + b' * b') * (a * x j + b * y j) = (a' * a' + b' * b') * a * x j + (a' * a' + b' * b') * b * y j := by grind
    rw [e, g1, g2]
    grind
  refine ⟨a * a' + b * b', a' * a' + b' * b', p2, ht, g1, g2, ?_, ?_⟩
  · have u1 := ye_mle (z1 j1 j2) (show 0 ≤ a * a' + b * b' by omega)
    have u2 := ye_mle (y1 i1 i2) (show 0 ≤ a' * a' + b' * b' by omega)
    have v1 := gg j1
    have v2 := gg i1
    rw [j3] at v1
    rw [i3] at v2
    have m1 := Int.mul_comm l' (a * a' + b * b')
    have m2 := Int.mul_comm (a' * x j1 + b' * y j1) (a * a' + b * b')
    have m3 := Int.mul_comm l (a' * a' + b' * b')
    have m4 := Int.mul_comm (a * x i1 + b * y i1) (a' * a' + b' * b')
    omega
  · have u1 := ye_mle (z2 j4 j5) (show 0 ≤ a * a' + b * b' by omega)
    have u2 := ye_mle (y2 i4 i5) (show 0 ≤ a' * a' + b' * b' by omega)
    have v1 := gg j4
    have v2 := gg i4
    rw [j6] at v1
    rw [i6] at v2
    have m1 := Int.mul_comm h' (a * a' + b * b')
    have m2 := Int.mul_comm (a' * x j4 + b' * y j4) (a * a' + b * b')
    have m3 := Int.mul_comm h (a' * a' + b' * b')
    have m4 := Int.mul_comm (a * x i4 + b * y i4) (a' * a' + b' * b')
    omega
/-- none of the tried parts them: then none does, and they meet -/
theorem ye_non {x y : Nat → Int} {Y N : Nat → Prop} {n : Nat} (hY : ∀ j, Y j → j < n) (hN : ∀ j, N j → j < n) {i0 k0 : Nat} (hi : Y i0) (hk : N k0) (h : ∀ A B lo hi : Int, ye_tr x y Y N A B → (∀ j, Y j → lo ≤ A * x j + B * y j) → (∀ j, N j → A * x j + B * y j ≤ hi) → ¬ hi < lo) : ¬ ye_nm x y Y N := fun z => by
  obtain ⟨A, B, lo, hi', k1, k2⟩ := ye_main hY hN hi hk z
  exact h A B lo hi' k1 k2.1 k2.2.1 k2.2.2.1

