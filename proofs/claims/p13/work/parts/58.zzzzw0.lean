/-! the widest way: how the class looks for it -/
noncomputable def ye_d (x y : Nat → Int) (A B : Int) (j : Nat) : Int := A * x j + B * y j
noncomputable def ye_lo (x y c : Nat → Int) (A B s : Int) : Nat → Int
  | 0 => s
  | n + 1 => if c n = 1 then (if ye_d x y A B n < ye_lo x y c A B s n then ye_d x y A B n else ye_lo x y c A B s n) else ye_lo x y c A B s n
noncomputable def ye_hi (x y c : Nat → Int) (A B s : Int) : Nat → Int
  | 0 => s
  | n + 1 => if c n = 1 then ye_hi x y c A B s n else (if ye_hi x y c A B s n < ye_d x y A B n then ye_d x y A B n else ye_hi x y c A B s n)
theorem ye_lo_s {x y c : Nat → Int} {A B s j m : Int} (hj : 0 ≤ j) (hm : m = j + 1) : ye_lo x y c A B s m.toNat = if c j.toNat = 1 then (if ye_d x y A B j.toNat < ye_lo x y c A B s j.toNat then ye_d x y A B j.toNat else ye_lo x y c A B s j.toNat) else ye_lo x y c A B s j.toNat := by
  rw [show m.toNat = j.toNat + 1 by omega]
  rfl
theorem ye_hi_s {x y c : Nat → Int} {A B s j m : Int} (hj : 0 ≤ j) (hm : m = j + 1) : ye_hi x y c A B s m.toNat = if c j.toNat = 1 then ye_hi x y c A B s j.toNat else (if ye_hi x y c A B s j.toNat < ye_d x y A B j.toNat then ye_d x y A B j.toNat else ye_hi x y c A B s j.toNat) := by
  rw [show m.toNat = j.toNat + 1 by omega]
  rfl
theorem ye_lo_m {x y c : Nat → Int} {A B s : Int} (m : Nat) : ∀ d : Nat, ye_lo x y c A B s (m + d) ≤ ye_lo x y c A B s m
  | 0 => Int.le_refl _
  | d + 1 => by
    have h := ye_lo_m (x := x) (y := y) (c := c) (A := A) (B := B) (s := s) m d
    show (if c (m + d) = 1 then (if ye_d x y A B (m + d) < ye_lo x y c A B s (m + d) then ye_d x y A B (m + d) else ye_lo x y c A B s (m + d)) else ye_lo x y c A B s (m + d)) ≤ _
    repeat' split
    all_goals omega
theorem ye_hi_m {x y c : Nat → Int} {A B s : Int} (m : Nat) : ∀ d : Nat, ye_hi x y c A B s m ≤ ye_hi x y c A B s (m + d)
  | 0 => Int.le_refl _
  | d + 1 => by
    have h := ye_hi_m (x := x) (y := y) (c := c) (A := A) (B := B) (s := s) m d
    show _ ≤ (if c (m + d) = 1 then ye_hi x y c A B s (m + d) else (if ye_hi x y c A B s (m + d) < ye_d x y A B (m + d) then ye_d x y A B (m + d) else ye_hi x y c A B s (m + d)))
    repeat' split
    all_goals omega
theorem ye_lo_l {x y c : Nat → Int} {A B s : Int} : ∀ (n j : Nat), j < n → c j = 1 → ye_lo x y c A B s n ≤ ye_d x y A B j
  | 0, j, h, _ => absurd h (Nat.not_lt_zero j)
  | n + 1, j, h, hc => by
    show (if c n = 1 then (if ye_d x y A B n < ye_lo x y c A B s n then ye_d x y A B n else ye_lo x y c A B s n) else ye_lo x y c A B s n) ≤ _
    by_cases e : j = n
    · rw [e] at hc ⊢
      rw [if_pos hc]
      split <;> omega
    · have := ye_lo_l (x := x) (y := y) (A := A) (B := B) (s := s) n j (by omega) hc
      repeat' split
      all_goals omega
theorem ye_hi_l {x y c : Nat → Int} {A B s : Int} : ∀ (n j : Nat), j < n → c j ≠ 1 → ye_d x y A B j ≤ ye_hi x y c A B s n
  | 0, j, h, _ => absurd h (Nat.not_lt_zero j)
  | n + 1, j, h, hc => by
    show _ ≤ (if c n = 1 then ye_hi x y c A B s n else (if ye_hi x y c A B s n < ye_d x y A B n then ye_d x y A B n else ye_hi x y c A B s n))
    by_cases e : j = n
    · rw [e] at hc ⊢
      rw [if_neg hc]
      split <;> omega
    · have := ye_hi_l (x := x) (y := y) (A := A) (B := B) (s := s) n j (by omega) hc
      repeat' split
      all_goals omega
theorem ye_lo_a {x y c : Nat → Int} {A B s : Int} : ∀ n : Nat, ye_lo x y c A B s n = s ∨ ∃ j, j < n ∧ c j = 1 ∧ ye_d x y A B j = ye_lo x y c A B s n
  | 0 => Or.inl rfl
  | n + 1 => by
    have h := ye_lo_a (x := x) (y := y) (c := c) (A := A) (B := B) (s := s) n
    have e : ye_lo x y c A B s (n + 1) = if c n = 1 then (if ye_d x y A B n < ye_lo x y c A B s n then ye_d x y A B n else ye_lo x y c A B s n) else ye_lo x y c A B s n := rfl
    rw [e]
    have old : ∀ z, z = ye_lo x y c A B s n → (z = s ∨ ∃ j, j < n + 1 ∧ c j = 1 ∧ ye_d x y A B j = z) := fun z hz => by
      rw [hz]
      rcases h with h | ⟨j, h1, h2, h3⟩
      · exact Or.inl h
      · exact Or.inr ⟨j, by omega, h2, h3⟩
    by_cases q : c n = 1
    · rw [if_pos q]
      by_cases q2 : ye_d x y A B n < ye_lo x y c A B s n
      · rw [if_pos q2]
        exact Or.inr ⟨n, by omega, q, rfl⟩
      · rw [if_neg q2]
        exact old _ rfl
    · rw [if_neg q]
      exact old _ rfl
theorem ye_hi_a {x y c : Nat → Int} {A B s : Int} : ∀ n : Nat, ye_hi x y c A B s n = s ∨ ∃ j, j < n ∧ c j ≠ 1 ∧ ye_d x y A B j = ye_hi x y c A B s n
  | 0 => Or.inl rfl
  | n + 1 => by
    have h := ye_hi_a (x := x) (y := y) (c := c) (A := A) (B := B) (s := s) n
    have e : ye_hi x y c A B s (n + 1) = if c n = 1 then ye_hi x y c A B s n else (if ye_hi x y c A B s n < ye_d x y A B n then ye_d x y A B n else ye_hi x y c A B s n) := rfl
    rw [e]
    have old : ∀ z, z = ye_hi x y c A B s n → (z = s ∨ ∃ j, j < n + 1 ∧ c j ≠ 1 ∧ ye_d x y A B j = z) := fun z hz => by
      rw [hz]
      rcases h with h | ⟨j, h1, h2, h3⟩
      · exact Or.inl h
      · exact Or.inr ⟨j, by omega, h2, h3⟩
    by_cases q : c n = 1
    · rw [if_pos q]
      exact old _ rfl
    · rw [if_neg q]
      by_cases q2 : ye_hi x y c A B s n < ye_d x y A B n
      · rw [if_pos q2]
        exact Or.inr ⟨n, by omega, q, rfl⟩
      · rw [if_neg q2]
        exact old _ rfl
abbrev ye_T : Type := Int × Int × Int × Int × Int
noncomputable def ye_L (x y c : Nat → Int) (A B : Int) (n : Nat) : Int := ye_lo x y c A B 1000000 n
noncomputable def ye_U (x y c : Nat → Int) (A B : Int) (n : Nat) : Int := ye_hi x y c A B (-1000000) n
/-- wider than what is kept -/
noncomputable def ye_g (g A B G a b : Int) : Prop := G * G * (A * A + B * B) < g * g * (a * a + b * b)
noncomputable def ye_try (x y c : Nat → Int) (n : Nat) (A B : Int) (t : ye_T) : ye_T := if ye_U x y c A B n < ye_L x y c A B n ∧ (t.1 = 0 ∨ (t.2.2.2.1 - t.2.2.2.2) * (t.2.2.2.1 - t.2.2.2.2) * (A * A + B * B) < (ye_L x y c A B n - ye_U x y c A B n) * (ye_L x y c A B n - ye_U x y c A B n) * (t.2.1 * t.2.1 + t.2.2.1 * t.2.2.1)) then (1, A, B, ye_L x y c A B n, ye_U x y c A B n) else t
noncomputable def ye_pair (x y c : Nat → Int) (n i k : Nat) (t : ye_T) : ye_T := if x i = x k ∧ y i = y k then t else if c i = c k then ye_try x y c n (y k - y i) (-(x k - x i)) (ye_try x y c n (-(y k - y i)) (x k - x i) t) else if c k = 1 then ye_try x y c n (x k - x i) (y k - y i) t else ye_try x y c n (-(x k - x i)) (-(y k - y i)) t
noncomputable def ye_ok (x y c : Nat → Int) (n : Nat) (t : ye_T) : Prop := t.1 = 0 ∨ (t.1 = 1 ∧ t.2.2.2.1 = ye_L x y c t.2.1 t.2.2.1 n ∧ t.2.2.2.2 = ye_U x y c t.2.1 t.2.2.1 n ∧ t.2.2.2.2 < t.2.2.2.1)
noncomputable def ye_nb (x y c : Nat → Int) (n : Nat) (t : ye_T) (A B : Int) : Prop := ye_U x y c A B n < ye_L x y c A B n → t.1 = 1 ∧ (ye_L x y c A B n - ye_U x y c A B n) * (ye_L x y c A B n - ye_U x y c A B n) * (t.2.1 * t.2.1 + t.2.2.1 * t.2.2.1) ≤ (t.2.2.2.1 - t.2.2.2.2) * (t.2.2.2.1 - t.2.2.2.2) * (A * A + B * B)
theorem ye_try_no {x y c : Nat → Int} {n i : Nat} {A B : Int} {t : ye_T} (hi : i ≤ n) (h : ye_lo x y c A B 1000000 i ≤ ye_hi x y c A B (-1000000) i) : ye_try x y c n A B t = t := by
  unfold ye_try ye_L ye_U
  refine if_neg fun z => ?_
  have h1 := z.1
  have m1 := ye_lo_m (x := x) (y := y) (c := c) (A := A) (B := B) (s := 1000000) i (n - i)
  have m2 := ye_hi_m (x := x) (y := y) (c := c) (A := A) (B := B) (s := -1000000) i (n - i)
  rw [show i + (n - i) = n by omega] at m1 m2
  omega
theorem ye_try_ok {x y c : Nat → Int} {n : Nat} {A B : Int} {t : ye_T} (h : ye_ok x y c n t) : ye_ok x y c n (ye_try x y c n A B t) := by
  unfold ye_try
  split
  · rename_i q
    exact Or.inr ⟨rfl, rfl, rfl, q.1⟩
  · exact h
theorem ye_try_self {x y c : Nat → Int} {n : Nat} {A B : Int} {t : ye_T} (h : ye_ok x y c n t) : ye_nb x y c n (ye_try x y c n A B t) A B := by
  intro hs
  unfold ye_try
  by_cases q : t.1 = 0 ∨ (t.2.2.2.1 - t.2.2.2.2) * (t.2.2.2.1 - t.2.2.2.2) * (A * A + B * B) < (ye_L x y c A B n - ye_U x y c A B n) * (ye_L x y c A B n - ye_U x y c A B n) * (t.2.1 * t.2.1 + t.2.2.1 * t.2.2.1)
  · rw [if_pos ⟨hs, q⟩]
    exact ⟨rfl, Int.le_refl _⟩
  · rw [if_neg (fun z => q z.2)]
    refine ⟨?_, ?_⟩
    · rcases h with h | h
      · exact absurd (Or.inl h) q
      · exact h.1
    · have q2 : ¬ ((t.2.2.2.1 - t.2.2.2.2) * (t.2.2.2.1 - t.2.2.2.2) * (A * A + B * B) < (ye_L x y c A B n - ye_U x y c A B n) * (ye_L x y c A B n - ye_U x y c A B n) * (t.2.1 * t.2.1 + t.2.2.1 * t.2.2.1)) := fun z => q (Or.inr z)
      omega
/-- u / U ≤ g / G < w / W: u / U ≤ w / W -/
theorem ye_frt {u U g G w W : Int} (hU : 0 ≤ U) (hW : 0 ≤ W) (hg : 0 ≤ g) (hG : 0 ≤ G) (h1 : u * G ≤ g * U) (h2 : g * W < w * G) : u * W ≤ w * U := by
  have hG2 : 0 < G := by
    by_cases q : G = 0
    · rw [q, Int.mul_zero] at h2
      have := Int.mul_nonneg hg hW
      omega
    · omega
  refine ye_mlei hG2 ?_
  have k1 := ye_mle h1 hW
  have k2 := ye_mle (Int.le_of_lt h2) hU
  have e1 : u * W * G = u * G * W := by grind
  have e2 : w * U * G = w * G * U := by grind
  have e3 : g * U * W = g * W * U := by grind
  omega
theorem ye_ss (a b : Int) : 0 ≤ a * a + b * b := by
  have h1 := ye_sq a
  have h2 := ye_sq b
  omega
theorem ye_try_keep {x y c : Nat → Int} {n : Nat} {A B A' B' : Int} {t : ye_T} (h : ye_nb x y c n t A' B') : ye_nb x y c n (ye_try x y c n A B t) A' B' := by
  intro hs
  obtain ⟨h1, h2⟩ := h hs
  unfold ye_try
  by_cases q : ye_U x y c A B n < ye_L x y c A B n ∧ (t.1 = 0 ∨ (t.2.2.2.1 - t.2.2.2.2) * (t.2.2.2.1 - t.2.2.2.2) * (A * A + B * B) < (ye_L x y c A B n - ye_U x y c A B n) * (ye_L x y c A B n - ye_U x y c A B n) * (t.2.1 * t.2.1 + t.2.2.1 * t.2.2.1))
  · rw [if_pos q]
    refine ⟨rfl, ?_⟩
    rcases q.2 with z | z
    · omega
    · exact ye_frt (ye_ss A' B') (ye_ss A B) (ye_sq _) (ye_ss _ _) h2 z
  · rw [if_neg q]
    exact ⟨h1, h2⟩
/-- the directions that a pair of points is tried in -/
noncomputable def ye_tp (x y c : Nat → Int) (i k : Nat) (A B : Int) : Prop := ¬ (x i = x k ∧ y i = y k) ∧ ((c i = c k ∧ ((A = -(y k - y i) ∧ B = x k - x i) ∨ (A = y k - y i ∧ B = -(x k - x i)))) ∨ (c i ≠ c k ∧ c k = 1 ∧ A = x k - x i ∧ B = y k - y i) ∨ (c i ≠ c k ∧ c k ≠ 1 ∧ A = -(x k - x i) ∧ B = -(y k - y i)))
theorem ye_pair_ok {x y c : Nat → Int} {n i k : Nat} {t : ye_T} (h : ye_ok x y c n t) : ye_ok x y c n (ye_pair x y c n i k t) := by
  unfold ye_pair
  split
  · exact h
  · split
    · exact ye_try_ok (ye_try_ok h)
    · split
      · exact ye_try_ok h
      · exact ye_try_ok h
theorem ye_pair_keep {x y c : Nat → Int} {n i k : Nat} {A' B' : Int} {t : ye_T} (h : ye_nb x y c n t A' B') : ye_nb x y c n (ye_pair x y c n i k t) A' B' := by
  unfold ye_pair
  split
  · exact h
  · split
    · exact ye_try_keep (ye_try_keep h)
    · split
      · exact ye_try_keep h
      · exact ye_try_keep h
theorem ye_pair_self {x y c : Nat → Int} {n i k : Nat} {A B : Int} {t : ye_T} (h : ye_ok x y c n t) (hp : ye_tp x y c i k A B) : ye_nb x y c n (ye_pair x y c n i k t) A B := by
  unfold ye_pair
  rw [if_neg hp.1]
  rcases hp.2 with ⟨h1, ⟨h2, h3⟩ | ⟨h2, h3⟩⟩ | ⟨h1, h2, h3, h4⟩ | ⟨h1, h2, h3, h4⟩
  · rw [if_pos h1, h2, h3]
    exact ye_try_keep (ye_try_self h)
  · rw [if_pos h1, h2, h3]
    exact ye_try_self (ye_try_ok h)
  · rw [if_neg h1, if_pos h2, h3, h4]
    exact ye_try_self h
  · rw [if_neg h1, if_neg h2, h3, h4]
    exact ye_try_self h
/-- all pairs before i, k are tried -/
noncomputable def ye_I (x y c : Nat → Int) (n i k : Nat) (t : ye_T) : Prop := ye_ok x y c n t ∧ ∀ (p q : Nat) (A B : Int), p < q → q < n → (p < i ∨ (p = i ∧ q < k)) → ye_tp x y c p q A B → ye_nb x y c n t A B
theorem ye_I_0 {x y c : Nat → Int} {n : Nat} {t : ye_T} (h : t.1 = 0) : ye_I x y c n 0 0 t := ⟨Or.inl h, fun p q A B _ _ h => absurd h (by omega)⟩
theorem ye_I_s {x y c : Nat → Int} {n i k : Nat} {t : ye_T} (h : ye_I x y c n i k t) : ye_I x y c n i (k + 1) (ye_pair x y c n i k t) := by
  refine ⟨ye_pair_ok h.1, fun p q A B h1 h2 h3 h4 => ?_⟩
  by_cases e : p = i ∧ q = k
  · rw [e.1, e.2] at h4
    exact ye_pair_self h.1 h4
  · exact ye_pair_keep (h.2 p q A B h1 h2 (by omega) h4)
theorem ye_I_m {x y c : Nat → Int} {n i k i' k' : Nat} {t : ye_T} (h : ye_I x y c n i k t) (hm : ∀ p q : Nat, p < q → q < n → (p < i' ∨ (p = i' ∧ q < k')) → p < i ∨ (p = i ∧ q < k)) : ye_I x y c n i' k' t := ⟨h.1, fun p q A B h1 h2 h3 h4 => h.2 p q A B h1 h2 (hm p q h1 h2 h3) h4⟩
noncomputable def ye_Y (c : Nat → Int) (n : Nat) (j : Nat) : Prop := j < n ∧ c j = 1
noncomputable def ye_N (c : Nat → Int) (n : Nat) (j : Nat) : Prop := j < n ∧ c j = 0
/-- places near, colours yes or no -/
noncomputable def ye_nr (x y c : Nat → Int) (n : Nat) : Prop := ∀ j : Nat, j < n → -300 ≤ x j ∧ x j ≤ 300 ∧ -300 ≤ y j ∧ y j ≤ 300 ∧ (c j = 0 ∨ c j = 1)
/-- colours yes or no -/
noncomputable def ye_c2 (c : Nat → Int) (n : Nat) : Prop := ∀ j : Nat, j < n → c j = 0 ∨ c j = 1
theorem ye_db {x y c : Nat → Int} {n j : Nat} {A B : Int} (h : ye_nr x y c n) (hj : j < n) (hA : -600 ≤ A ∧ A ≤ 600) (hB : -600 ≤ B ∧ B ≤ 600) : -360000 ≤ ye_d x y A B j ∧ ye_d x y A B j ≤ 360000 := by
  have h1 := h j hj
  have k1 := yw_mb (a := A) (b := x j) (A := 600) (B := 300) (by omega) (by omega) (by omega) (by omega)
  have k2 := yw_mb (a := B) (b := y j) (A := 600) (B := 300) (by omega) (by omega) (by omega) (by omega)
  unfold ye_d
  omega
theorem ye_Lx {x y c : Nat → Int} {n : Nat} {A B : Int} (h : ye_nr x y c n) (hA : -600 ≤ A ∧ A ≤ 600) (hB : -600 ≤ B ∧ B ≤ 600) (hy : ∃ j, ye_Y c n j) : (∀ j, ye_Y c n j → ye_L x y c A B n ≤ A * x j + B * y j) ∧ ∃ j, ye_Y c n j ∧ A * x j + B * y j = ye_L x y c A B n := by
  refine ⟨fun j hj => ye_lo_l n j hj.1 hj.2, ?_⟩
  obtain ⟨i, hi⟩ := hy
  rcases ye_lo_a (x := x) (y := y) (c := c) (A := A) (B := B) (s := 1000000) n with q | ⟨j, q1, q2, q3⟩
  · have k1 := ye_lo_l (x := x) (y := y) (A := A) (B := B) (s := 1000000) n i hi.1 hi.2
    have k2 := ye_db h hi.1 hA hB
    omega
  · exact ⟨j, ⟨q1, q2⟩, q3⟩
theorem ye_Ux {x y c : Nat → Int} {n : Nat} {A B : Int} (h : ye_nr x y c n) (hA : -600 ≤ A ∧ A ≤ 600) (hB : -600 ≤ B ∧ B ≤ 600) (hy : ∃ j, ye_N c n j) : (∀ j, ye_N c n j → A * x j + B * y j ≤ ye_U x y c A B n) ∧ ∃ j, ye_N c n j ∧ A * x j + B * y j = ye_U x y c A B n := by
  refine ⟨fun j hj => ye_hi_l n j hj.1 (by rw [hj.2]; decide), ?_⟩
  obtain ⟨i, hi⟩ := hy
  rcases ye_hi_a (x := x) (y := y) (c := c) (A := A) (B := B) (s := -1000000) n with q | ⟨j, q1, q2, q3⟩
  · have k1 := ye_hi_l (x := x) (y := y) (c := c) (A := A) (B := B) (s := -1000000) n i hi.1 (by rw [hi.2]; decide)
    have k2 := ye_db h hi.1 hA hB
    omega
  · have k3 := (h j q1).2.2.2.2
    exact ⟨j, ⟨q1, by omega⟩, q3⟩
/-- what is tried by the nearest pair is tried by the class -/
theorem ye_tr_tp {x y c : Nat → Int} {n : Nat} {A B : Int} (h : ye_tr x y (ye_Y c n) (ye_N c n) A B) (hz : ¬ (A = 0 ∧ B = 0)) : ∃ p q : Nat, p < q ∧ q < n ∧ ye_tp x y c p q A B := by
  rcases h with ⟨i, k, h1, h2, h3, h4⟩ | ⟨i, j, h1, h2, h3, h4⟩
  · have e1 := h1.2
    have e2 := h2.2
    have hne : i ≠ k := fun e => by
      rw [e, e2] at e1
      omega
    have hs : ¬ (x i = x k ∧ y i = y k) := fun z => hz ⟨by omega, by omega⟩
    by_cases q : i < k
    · exact ⟨i, k, q, h2.1, hs, Or.inr (Or.inr ⟨by omega, by omega, by omega, by omega⟩)⟩
    · exact ⟨k, i, by omega, h1.1, fun z => hs ⟨z.1.symm, z.2.symm⟩, Or.inr (Or.inl ⟨by omega, e1, h3, h4⟩)⟩
  · have hc : c i = c j := by
      rcases h1 with ⟨g1, g2⟩ | ⟨g1, g2⟩
      · rw [g1.2, g2.2]
      · rw [g1.2, g2.2]
    have hn : i < n ∧ j < n := by
      rcases h1 with ⟨g1, g2⟩ | ⟨g1, g2⟩
      · exact ⟨g1.1, g2.1⟩
      · exact ⟨g1.1, g2.1⟩
    have hne : i ≠ j := fun e => h2 (by rw [e]; exact ⟨rfl, rfl⟩)
    by_cases q : i < j
    · exact ⟨i, j, q, hn.2, h2, Or.inl ⟨hc, Or.inr ⟨h3, h4⟩⟩⟩
    · exact ⟨j, i, by omega, hn.1, fun z => h2 ⟨z.1.symm, z.2.symm⟩, Or.inl ⟨hc.symm, Or.inl ⟨by omega, by omega⟩⟩⟩
theorem ye_tp_b {x y c : Nat → Int} {n p q : Nat} {A B : Int} (h : ye_nr x y c n) (hp : p < n) (hq : q < n) (ht : ye_tp x y c p q A B) : (-600 ≤ A ∧ A ≤ 600) ∧ -600 ≤ B ∧ B ≤ 600 := by
  have h1 := h p hp
  have h2 := h q hq
  rcases ht.2 with ⟨_, ⟨h3, h4⟩ | ⟨h3, h4⟩⟩ | ⟨_, _, h3, h4⟩ | ⟨_, _, h3, h4⟩
  all_goals omega
theorem ye_sqm {a b : Int} (h0 : 0 ≤ a) (h : a ≤ b) : a * a ≤ b * b := by
  have h1 := ye_mle h h0
  have h2 := ye_mle h (show 0 ≤ b by omega)
  rw [Int.mul_comm a b] at h2
  omega
/-- what the class has found: the widest way, or that there is none -/
theorem ye_cl1 {x y c : Nat → Int} {n : Nat} {t : ye_T} (h : ye_nr x y c n) (hy : ∃ j, ye_Y c n j) (hn : ∃ j, ye_N c n j) (hb : t.1 = 1 → (-600 ≤ t.2.1 ∧ t.2.1 ≤ 600) ∧ -600 ≤ t.2.2.1 ∧ t.2.2.1 ≤ 600) (hI : ye_I x y c n n n t) (h1 : t.1 = 1) : ye_W x y (ye_Y c n) (ye_N c n) t.2.1 t.2.2.1 t.2.2.2.1 t.2.2.2.2 := by
  obtain ⟨ho, hI⟩ := hI
  rcases ho with ho | ⟨_, o2, o3, o4⟩
  · omega
  · obtain ⟨hA, hB⟩ := hb h1
    have l := ye_Lx h hA hB hy
    have u := ye_Ux h hA hB hn
    rw [← o2] at l
    rw [← o3] at u
    refine ⟨⟨l.1, l.2, u.1, u.2⟩, o4, fun A B lo hi g1 g2 g3 g4 => ?_⟩
    have hz : ¬ (A = 0 ∧ B = 0) := fun z => by
      obtain ⟨j, hj⟩ := hy
      obtain ⟨k, hk⟩ := hn
      have k1 := g2 j hj
      have k2 := g3 k hk
      rw [z.1, z.2, Int.zero_mul, Int.zero_mul] at k1 k2
      omega
    obtain ⟨p, q, p1, p2, p3⟩ := ye_tr_tp g1 hz
    obtain ⟨bA, bB⟩ := ye_tp_b h (show p < n by omega) p2 p3
    have l' := ye_Lx h bA bB hy
    have u' := ye_Ux h bA bB hn
    obtain ⟨j, hj, ej⟩ := l'.2
    obtain ⟨k, hk, ek⟩ := u'.2
    have k1 := g2 j hj
    have k2 := g3 k hk
    have key := (hI p q A B p1 p2 (by omega) p3 (by omega)).2
    have k3 := ye_sqm (a := lo - hi) (b := ye_L x y c A B n - ye_U x y c A B n) (by omega) (by omega)
    have k4 := ye_mle k3 (ye_ss t.2.1 t.2.2.1)
    omega
theorem ye_cl0 {x y c : Nat → Int} {n : Nat} {t : ye_T} (h : ye_nr x y c n) (hy : ∃ j, ye_Y c n j) (hn : ∃ j, ye_N c n j) (hI : ye_I x y c n n n t) (h0 : t.1 = 0) : ¬ ye_nm x y (ye_Y c n) (ye_N c n) := by
  obtain ⟨j, hj⟩ := hy
  obtain ⟨k, hk⟩ := hn
  refine ye_non (fun j hj => hj.1) (fun j hj => hj.1) hj hk (fun A B lo hi g1 g2 g3 g4 => ?_)
  have hz : ¬ (A = 0 ∧ B = 0) := fun z => by
    have k1 := g2 j hj
    have k2 := g3 k hk
    rw [z.1, z.2, Int.zero_mul, Int.zero_mul] at k1 k2
    omega
  obtain ⟨p, q, p1, p2, p3⟩ := ye_tr_tp g1 hz
  obtain ⟨bA, bB⟩ := ye_tp_b h (show p < n by omega) p2 p3
  obtain ⟨j', hj', ej⟩ := (ye_Lx h bA bB ⟨j, hj⟩).2
  obtain ⟨k', hk', ek⟩ := (ye_Ux h bA bB ⟨k, hk⟩).2
  have k1 := g2 j' hj'
  have k2 := g3 k' hk'
  have key := (hI.2 p q A B p1 p2 (by omega) p3 (by omega)).1
  omega
/-- both colours -/
theorem ye_cnt1 {c : Nat → Int} : ∀ n : Nat, 0 < yq_cnt c 1 n → ∃ j, ye_Y c n j
  | 0, h => absurd (show (0 : Int) < 0 from h) (by decide)
  | n + 1, h => by
    have h : 0 < yq_cnt c 1 n + if c n = 1 then 1 else 0 := h
    by_cases q : c n = 1
    · exact ⟨n, by omega, q⟩
    · rw [if_neg q] at h
      obtain ⟨j, hj⟩ := ye_cnt1 (c := c) n (by omega)
      exact ⟨j, by have := hj.1; omega, hj.2⟩
theorem ye_cnt0 {c : Nat → Int} : ∀ n : Nat, (∀ j, j < n → c j = 0 ∨ c j = 1) → yq_cnt c 1 n < (n : Int) → ∃ j, ye_N c n j
  | 0, _, h => absurd (show (0 : Int) < ((0 : Nat) : Int) from h) (by decide)
  | n + 1, hc, h => by
    have h : (yq_cnt c 1 n + if c n = 1 then 1 else 0) < ((n + 1 : Nat) : Int) := h
    by_cases q : c n = 1
    · rw [if_pos q] at h
      obtain ⟨j, hj⟩ := ye_cnt0 (c := c) n (fun j hj => hc j (by omega)) (by omega)
      exact ⟨j, by have := hj.1; omega, hj.2⟩
    · exact ⟨n, by omega, by have := hc n (by omega); omega⟩
theorem ye_cntY {c : Nat → Int} : ∀ n : Nat, ¬ 0 < yq_cnt c 1 n → ∀ j, ¬ ye_Y c n j
  | 0, _, j, h => absurd h.1 (Nat.not_lt_zero j)
  | n + 1, h, j, hj => by
    have h : ¬ 0 < yq_cnt c 1 n + if c n = 1 then 1 else 0 := h
    have k := yq_cnt_nn c 1 n
    by_cases q : c n = 1
    · rw [if_pos q] at h
      omega
    · rw [if_neg q] at h
      by_cases e : j = n
      · rw [e] at hj
        exact q hj.2
      · exact ye_cntY n (by omega) j ⟨by have := hj.1; omega, hj.2⟩
theorem ye_cntN {c : Nat → Int} : ∀ n : Nat, ¬ yq_cnt c 1 n < (n : Int) → ∀ j, ¬ ye_N c n j
  | 0, _, j, h => absurd h.1 (Nat.not_lt_zero j)
  | n + 1, h, j, hj => by
    have h : ¬ (yq_cnt c 1 n + if c n = 1 then 1 else 0) < ((n + 1 : Nat) : Int) := h
    have k := yq_cnt_ub c 1 n
    by_cases q : c n = 1
    · rw [if_pos q] at h
      by_cases e : j = n
      · rw [e] at hj
        have := hj.2
        omega
      · exact ye_cntN n (by omega) j ⟨by have := hj.1; omega, hj.2⟩
    · rw [if_neg q] at h
      omega
noncomputable def ye_bo (c : Nat → Int) (n : Nat) : Prop := 0 < yq_cnt c 1 n ∧ yq_cnt c 1 n < (n : Int)
/-- what is kept of the way, when it is of now -/
noncomputable def ye_way (x y c : Nat → Int) (n : Nat) (t : ye_T) : Prop := (¬ ye_bo c n → t.1 = 0) ∧ (ye_bo c n → ye_I x y c n n n t)
/-- looked for anew, unless it is of now -/
noncomputable def ye_fd (x y c : Nat → Int) (n : Nat) (ch s : Int) (t : ye_T) (s' : Int) (t' : ye_T) : Prop := (s = ch ∧ s' = s ∧ t' = t) ∨ (s ≠ ch ∧ s' = ch ∧ ye_way x y c n t')
theorem ye_fd_w {x y c : Nat → Int} {n : Nat} {ch s s' : Int} {t t' : ye_T} (h : s = ch → ye_way x y c n t) (hf : ye_fd x y c n ch s t s' t') : s' = ch ∧ ye_way x y c n t' := by
  rcases hf with ⟨h1, h2, h3⟩ | ⟨h1, h2, h3⟩
  · rw [h3]
    exact ⟨by omega, h h1⟩
  · exact ⟨h2, h3⟩
theorem ye_th {x y c : Nat → Int} {n : Nat} {t : ye_T} (h : ye_way x y c n t) : t.1 = 0 ∨ t.1 = 1 := by
  by_cases b : ye_bo c n
  · rcases (h.2 b).1 with q | q
    · exact Or.inl q
    · exact Or.inr q.1
  · exact Or.inl (h.1 b)
/-- parted: the class and the colours that meet -/
theorem ye_par1 {x y c : Nat → Int} {n : Nat} {t : ye_T} (hr : ye_nr x y c n) (hb : t.1 = 1 → (-600 ≤ t.2.1 ∧ t.2.1 ≤ 600) ∧ -600 ≤ t.2.2.1 ∧ t.2.2.1 ≤ 600) (b : ye_bo c n) (h : ye_way x y c n t) : (t.1 = 1 ∧ ye_nm x y (ye_Y c n) (ye_N c n)) ∨ (t.1 = 0 ∧ ¬ ye_nm x y (ye_Y c n) (ye_N c n)) := by
  have hy := ye_cnt1 n b.1
  have hn := ye_cnt0 n (fun j hj => (hr j hj).2.2.2.2) b.2
  rcases ye_th h with q | q
  · exact Or.inr ⟨q, ye_cl0 hr hy hn (h.2 b) q⟩
  · obtain ⟨⟨w1, _, w2, _⟩, w3, _⟩ := ye_cl1 hr hy hn hb (h.2 b) q
    exact Or.inl ⟨q, ye_sep_nm w1 w2 w3⟩
theorem ye_par0 {x y c : Nat → Int} {n : Nat} (b : ¬ ye_bo c n) : ye_nm x y (ye_Y c n) (ye_N c n) := by
  by_cases q : 0 < yq_cnt c 1 n
  · have z := ye_cntN n (fun h => b ⟨q, h⟩)
    exact ⟨fun i k _ h => absurd h (z k), fun p a _ _ h => absurd h (z a), fun p _ _ h => absurd h (z p), fun p a _ _ _ h => absurd h (z a), fun p _ _ _ h => absurd h (z p), fun _ _ c _ _ _ h => absurd h (z c)⟩
  · have z := ye_cntY n q
    exact ⟨fun i k h => absurd h (z i), fun p _ _ h => absurd h (z p), fun p a _ _ h => absurd h (z a), fun p _ _ _ h => absurd h (z p), fun p a _ _ _ h => absurd h (z a), fun a _ _ _ h => absurd h (z a)⟩
/-- the same points -/
theorem ye_YN {c C : Nat → Int} {n : Nat} (hc : ∀ j : Nat, j < n → c j = C j) : ye_Y c n = ye_Y C n ∧ ye_N c n = ye_N C n := by
  constructor
  · exact funext fun j => propext ⟨fun h => ⟨h.1, (hc j h.1) ▸ h.2⟩, fun h => ⟨h.1, (hc j h.1).trans h.2⟩⟩
  · exact funext fun j => propext ⟨fun h => ⟨h.1, (hc j h.1) ▸ h.2⟩, fun h => ⟨h.1, (hc j h.1).trans h.2⟩⟩
theorem ye_dot_eq {x y X Y : Nat → Int} {a b c : Nat} (ha : x a = X a) (hb : x b = X b) (hc : x c = X c) (ha' : y a = Y a) (hb' : y b = Y b) (hc' : y c = Y c) : yh_dot x y a b c = yh_dot X Y a b c := by
  unfold yh_dot
  rw [ha, hb, hc, ha', hb', hc']
theorem ye_nm_c {x y X Y : Nat → Int} {P Q : Nat → Prop} {n : Nat} (hP : ∀ j, P j → j < n) (hQ : ∀ j, Q j → j < n) (hx : ∀ j : Nat, j < n → x j = X j) (hy : ∀ j : Nat, j < n → y j = Y j) (h : ye_nm x y P Q) : ye_nm X Y P Q := by
  obtain ⟨h1, h2, h3, h4, h5, h6⟩ := h
  have ar : ∀ a b c : Nat, a < n → b < n → c < n → yq_ar X Y a b c = yq_ar x y a b c := fun a b c ha hb hc => (yq_ar_eq (hx a ha) (hx b hb) (hx c hc) (hy a ha) (hy b hb) (hy c hc)).symm
  have dt : ∀ a b c : Nat, a < n → b < n → c < n → yh_dot X Y a b c = yh_dot x y a b c := fun a b c ha hb hc => (ye_dot_eq (hx a ha) (hx b hb) (hx c hc) (hy a ha) (hy b hb) (hy c hc)).symm
  refine ⟨fun i k hi hk z => h1 i k hi hk ?_, fun p a b hp ha hb z => h2 p a b hp ha hb ?_, fun p a b hp ha hb z => h3 p a b hp ha hb ?_, fun p a b c hp ha hb hc z => h4 p a b c hp ha hb hc ?_, fun p a b c hp ha hb hc z => h5 p a b c hp ha hb hc ?_, fun a b c d ha hb hc hd z => h6 a b c d ha hb hc hd ?_⟩
  · unfold ye_at at z ⊢
    rw [hx i (hP i hi), hx k (hQ k hk), hy i (hP i hi), hy k (hQ k hk)]
    exact z
  · unfold ye_bt at z ⊢
    rw [ar a b p (hQ a ha) (hQ b hb) (hP p hp), dt p a b (hP p hp) (hQ a ha) (hQ b hb)] at z
    exact z
  · unfold ye_bt at z ⊢
    rw [ar a b p (hP a ha) (hP b hb) (hQ p hp), dt p a b (hQ p hp) (hP a ha) (hP b hb)] at z
    exact z
  · unfold ye_wi at z ⊢
    rw [ar a b p (hQ a ha) (hQ b hb) (hP p hp), ar b c p (hQ b hb) (hQ c hc) (hP p hp), ar c a p (hQ c hc) (hQ a ha) (hP p hp)] at z
    exact z
  · unfold ye_wi at z ⊢
    rw [ar a b p (hP a ha) (hP b hb) (hQ p hp), ar b c p (hP b hb) (hP c hc) (hQ p hp), ar c a p (hP c hc) (hP a ha) (hQ p hp)] at z
    exact z
  · unfold ye_xg at z ⊢
    rw [ar a b c (hP a ha) (hP b hb) (hQ c hc), ar a b d (hP a ha) (hP b hb) (hQ d hd), ar c d a (hQ c hc) (hQ d hd) (hP a ha), ar c d b (hQ c hc) (hQ d hd) (hP b hb)] at z
    exact z
/-- from the ordered rows to all -/
theorem ye_bts {x y : Nat → Int} {p a b : Nat} (h : ye_bt x y p a b) : ye_bt x y p b a := by
  obtain ⟨h1, h2⟩ := h
  refine ⟨?_, by rw [ye_ids]; exact h2⟩
  have := ye_ix x y a b p
  omega
theorem ye_btn {x y : Nat → Int} {p a : Nat} : ¬ ye_bt x y p a a := fun h => by
  have h2 := h.2
  unfold yh_dot at h2
  have k1 := ye_sq (x a - x p)
  have k2 := ye_sq (y a - y p)
  omega
theorem ye_wir {x y : Nat → Int} {p a b c : Nat} (h : ye_wi x y p a b c) : ye_wi x y p b c a := by
  rcases h with ⟨h1, h2, h3⟩ | ⟨h1, h2, h3⟩
  · exact Or.inl ⟨h2, h3, h1⟩
  · exact Or.inr ⟨h2, h3, h1⟩
theorem ye_wis {x y : Nat → Int} {p a b c : Nat} (h : ye_wi x y p a b c) : ye_wi x y p b a c := by
  have k1 := ye_ix x y a b p
  have k2 := ye_ix x y b c p
  have k3 := ye_ix x y c a p
  rcases h with ⟨h1, h2, h3⟩ | ⟨h1, h2, h3⟩
  · exact Or.inr ⟨by omega, by omega, by omega⟩
  · exact Or.inl ⟨by omega, by omega, by omega⟩
theorem ye_win {x y : Nat → Int} {p a c : Nat} : ¬ ye_wi x y p a a c := fun h => by
  have k : yq_ar x y a a p = 0 := by
    unfold yq_ar
    rw [Int.sub_self, Int.sub_self, Int.zero_mul, Int.zero_mul]
    rfl
  rcases h with ⟨h1, _, _⟩ | ⟨h1, _, _⟩
  · omega
  · omega
theorem ye_wio {x y : Nat → Int} {p : Nat} {P : Nat → Prop} (h : ∀ a b c : Nat, P a → P b → P c → a < b → b < c → ¬ ye_wi x y p a b c) : ∀ a b c : Nat, P a → P b → P c → ¬ ye_wi x y p a b c := fun a b c ha hb hc z => by
  by_cases e1 : a = b
  · rw [e1] at z
    exact ye_win z
  · by_cases e2 : b = c
    · rw [e2] at z
      exact ye_win (ye_wir z)
    · by_cases e3 : a = c
      · rw [e3] at z
        exact ye_win (ye_wir (ye_wir z))
      · by_cases q1 : a < b
        · by_cases q2 : b < c
          · exact h a b c ha hb hc q1 q2 z
          · by_cases q3 : a < c
            · exact h a c b ha hc hb q3 (by omega) (ye_wis (ye_wir (ye_wir z)))
            · exact h c a b hc ha hb (by omega) q1 (ye_wir (ye_wir z))
        · by_cases q2 : a < c
          · exact h b a c hb ha hc (by omega) q2 (ye_wis z)
          · by_cases q3 : b < c
            · exact h b c a hb hc ha q3 (by omega) (ye_wir z)
            · exact h c b a hc hb ha (by omega) (by omega) (ye_wis (ye_wir z))
theorem ye_xg1 {x y : Nat → Int} {a b c d : Nat} (h : ye_xg x y a b c d) : ye_xg x y b a c d := by
  have k1 := ye_ix x y a b c
  have k2 := ye_ix x y a b d
  unfold ye_xg at h ⊢
  omega
theorem ye_xg2 {x y : Nat → Int} {a b c d : Nat} (h : ye_xg x y a b c d) : ye_xg x y a b d c := by
  have k1 := ye_ix x y c d a
  have k2 := ye_ix x y c d b
  unfold ye_xg at h ⊢
  omega
theorem ye_xgn {x y : Nat → Int} {a c d : Nat} : ¬ ye_xg x y a a c d := fun h => by
  have k : ∀ p : Nat, yq_ar x y a a p = 0 := fun p => by
    unfold yq_ar
    rw [Int.sub_self, Int.sub_self, Int.zero_mul, Int.zero_mul]
    rfl
  have k1 := k c
  have k2 := k d
  unfold ye_xg at h
  omega
theorem ye_xgm {x y : Nat → Int} {a b c : Nat} : ¬ ye_xg x y a b c c := fun h => by
  have k : ∀ p : Nat, yq_ar x y c c p = 0 := fun p => by
    unfold yq_ar
    rw [Int.sub_self, Int.sub_self, Int.zero_mul, Int.zero_mul]
    rfl
  have k1 := k a
  have k2 := k b
  unfold ye_xg at h
  omega
/-- the rows that the reference looks through -/
noncomputable def ye_nS (x y : Nat → Int) (Y N : Nat → Prop) : Prop := ∀ i k, Y i → N k → ¬ ye_at x y i k
noncomputable def ye_nB (x y : Nat → Int) (Y N : Nat → Prop) : Prop := ∀ p a b, Y p → N a → N b → a < b → ¬ ye_bt x y p a b
noncomputable def ye_nW (x y : Nat → Int) (Y N : Nat → Prop) : Prop := ∀ p a b c, Y p → N a → N b → N c → a < b → b < c → ¬ ye_wi x y p a b c
noncomputable def ye_nX (x y : Nat → Int) (Y N : Nat → Prop) : Prop := ∀ a b c d, Y a → Y b → a < b → N c → N d → c < d → ¬ ye_xg x y a b c d
theorem ye_nm_i {x y : Nat → Int} {Y N : Nat → Prop} (h1 : ye_nS x y Y N) (h2 : ye_nB x y Y N) (h3 : ye_nB x y N Y) (h4 : ye_nW x y Y N) (h5 : ye_nW x y N Y) (h6 : ye_nX x y Y N) : ye_nm x y Y N := by
  have bb : ∀ (P Q : Nat → Prop), ye_nB x y P Q → ∀ p a b, P p → Q a → Q b → ¬ ye_bt x y p a b := fun P Q h p a b hp ha hb z => by
    by_cases e : a = b
    · rw [e] at z
      exact ye_btn z
    · by_cases q : a < b
      · exact h p a b hp ha hb q z
      · exact h p b a hp hb ha (by omega) (ye_bts z)
  refine ⟨h1, bb Y N h2, bb N Y h3, fun p a b c hp ha hb hc => ye_wio (P := N) (fun a b c ha hb hc => h4 p a b c hp ha hb hc) a b c ha hb hc, fun p a b c hp ha hb hc => ye_wio (P := Y) (fun a b c ha hb hc => h5 p a b c hp ha hb hc) a b c ha hb hc, fun a b c d ha hb hc hd z => ?_⟩
  by_cases e1 : a = b
  · rw [e1] at z
    exact ye_xgn z
  · by_cases e2 : c = d
    · rw [e2] at z
      exact ye_xgm z
    · by_cases q1 : a < b
      · by_cases q2 : c < d
        · exact h6 a b c d ha hb q1 hc hd q2 z
        · exact h6 a b d c ha hb q1 hd hc (by omega) (ye_xg2 z)
      · by_cases q2 : c < d
        · exact h6 b a c d hb ha (by omega) hc hd q2 (ye_xg1 z)
        · exact h6 b a d c hb ha (by omega) hd hc (by omega) (ye_xg1 (ye_xg2 z))
