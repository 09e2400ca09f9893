/-! the reference's search -/
noncomputable def ye_cc (c : Nat → Int) : Nat → Int := fun j => if c j = 0 then 0 else 1
theorem ye_cce {x y c : Nat → Int} {n : Nat} (h : ye_nr x y c n) : ∀ j : Nat, j < n → ye_cc c j = c j := fun j hj => by
  have k := (h j hj).2.2.2.2
  unfold ye_cc
  split <;> omega
theorem ye_ccs {c : Nat → Int} {j : Nat} : ye_cc c j = 1 ↔ c j ≠ 0 := by
  unfold ye_cc
  split <;> omega
theorem ye_dB {x y : Nat → Int} {A B : Int} {j : Nat} (hx : -300 ≤ x j ∧ x j ≤ 1000) (hy : -300 ≤ y j ∧ y j ≤ 1000) (hA : -4000 ≤ A ∧ A ≤ 4000) (hB : -4000 ≤ B ∧ B ≤ 4000) : -8000000 ≤ ye_d x y A B j ∧ ye_d x y A B j ≤ 8000000 := by
  have k1 := yw_mb (a := A) (b := x j) (A := 4000) (B := 1000) (by omega) (by omega) (by omega) (by omega)
  have k2 := yw_mb (a := B) (b := y j) (A := 4000) (B := 1000) (by omega) (by omega) (by omega) (by omega)
  unfold ye_d
  omega
/-- with both colours the start of the search does not matter -/
theorem ye_loS {x y c : Nat → Int} {n : Nat} {A B s : Int} (h : ye_nr x y c n) (hA : -600 ≤ A ∧ A ≤ 600) (hB : -600 ≤ B ∧ B ≤ 600) (hs : 1000000 ≤ s) (hy : ∃ j, ye_Y c n j) : ye_lo x y c A B s n = ye_L x y c A B n := by
  obtain ⟨i, hi⟩ := hy
  have b := ye_db h hi.1 hA hB
  have k1 := ye_lo_l (x := x) (y := y) (A := A) (B := B) (s := s) n i hi.1 hi.2
  have k2 := ye_lo_l (x := x) (y := y) (A := A) (B := B) (s := 1000000) n i hi.1 hi.2
  unfold ye_L
  rcases ye_lo_a (x := x) (y := y) (c := c) (A := A) (B := B) (s := s) n with q | ⟨j, q1, q2, q3⟩
  · omega
  · rcases ye_lo_a (x := x) (y := y) (c := c) (A := A) (B := B) (s := 1000000) n with p | ⟨j', p1, p2, p3⟩
    · omega
    · have k3 := ye_lo_l (x := x) (y := y) (A := A) (B := B) (s := s) n j' p1 p2
      have k4 := ye_lo_l (x := x) (y := y) (A := A) (B := B) (s := 1000000) n j q1 q2
      omega
theorem ye_hiS {x y c : Nat → Int} {n : Nat} {A B s : Int} (h : ye_nr x y c n) (hA : -600 ≤ A ∧ A ≤ 600) (hB : -600 ≤ B ∧ B ≤ 600) (hs : s ≤ -1000000) (hy : ∃ j, ye_N c n j) : ye_hi x y c A B s n = ye_U x y c A B n := by
  obtain ⟨i, hi⟩ := hy
  have hi1 : c i ≠ 1 := by
    have := hi.2
    omega
  have b := ye_db h hi.1 hA hB
  have k1 := ye_hi_l (x := x) (y := y) (A := A) (B := B) (s := s) n i hi.1 hi1
  have k2 := ye_hi_l (x := x) (y := y) (A := A) (B := B) (s := -1000000) n i hi.1 hi1
  unfold ye_U
  rcases ye_hi_a (x := x) (y := y) (c := c) (A := A) (B := B) (s := s) n with q | ⟨j, q1, q2, q3⟩
  · omega
  · rcases ye_hi_a (x := x) (y := y) (c := c) (A := A) (B := B) (s := -1000000) n with p | ⟨j', p1, p2, p3⟩
    · omega
    · have k3 := ye_hi_l (x := x) (y := y) (A := A) (B := B) (s := s) n j' p1 p2
      have k4 := ye_hi_l (x := x) (y := y) (A := A) (B := B) (s := -1000000) n j q1 q2
      omega
/-- the numbers of a found way -/
noncomputable def ye_tB (t : ye_T) : Prop := t.1 = 1 → ((-600 ≤ t.2.1 ∧ t.2.1 ≤ 600) ∧ -600 ≤ t.2.2.1 ∧ t.2.2.1 ≤ 600) ∧ (-360000 ≤ t.2.2.2.1 ∧ t.2.2.2.1 ≤ 360000) ∧ -360000 ≤ t.2.2.2.2 ∧ t.2.2.2.2 ≤ 360000
theorem ye_try_z {x y c : Nat → Int} {n : Nat} {t : ye_T} (hy : ∃ j, ye_Y c n j) (hn : ∃ j, ye_N c n j) : ye_try x y c n 0 0 t = t := by
  obtain ⟨i, hi⟩ := hy
  obtain ⟨k, hk⟩ := hn
  have k1 := ye_lo_l (x := x) (y := y) (A := 0) (B := 0) (s := 1000000) n i hi.1 hi.2
  have k2 := ye_hi_l (x := x) (y := y) (c := c) (A := 0) (B := 0) (s := -1000000) n k hk.1 (by rw [hk.2]; decide)
  have z : ∀ j, ye_d x y 0 0 j = 0 := fun j => by
    unfold ye_d
    rw [Int.zero_mul, Int.zero_mul]
    rfl
  rw [z] at k1 k2
  unfold ye_try ye_L ye_U
  exact if_neg fun q => by
    have := q.1
    omega
theorem ye_try_B {x y c : Nat → Int} {n : Nat} {A B : Int} {t : ye_T} (h : ye_nr x y c n) (hA : -600 ≤ A ∧ A ≤ 600) (hB : -600 ≤ B ∧ B ≤ 600) (hy : ∃ j, ye_Y c n j) (hn : ∃ j, ye_N c n j) (ht : ye_tB t) : ye_tB (ye_try x y c n A B t) := by
  unfold ye_try
  split
  · intro _
    obtain ⟨j, hj, ej⟩ := (ye_Lx h hA hB hy).2
    obtain ⟨k, hk, ek⟩ := (ye_Ux h hA hB hn).2
    have b1 := ye_db h hj.1 hA hB
    have b2 := ye_db h hk.1 hA hB
    unfold ye_d at b1 b2
    exact ⟨⟨hA, hB⟩, ⟨by show -360000 ≤ ye_L x y c A B n; omega, by show ye_L x y c A B n ≤ 360000; omega⟩, by show -360000 ≤ ye_U x y c A B n; omega, by show ye_U x y c A B n ≤ 360000; omega⟩
  · exact ht
/-- the directions that the reference tries for a pair -/
noncomputable def ye_rp (x y : Nat → Int) (p q : Nat) (A B : Int) : Prop := ∃ g : Int, 0 < g ∧ ((g * A = x q - x p ∧ g * B = y q - y p) ∨ (g * A = -(y q - y p) ∧ g * B = x q - x p))
noncomputable def ye_J (x y c : Nat → Int) (n i k : Nat) (t : ye_T) : Prop := ye_ok x y c n t ∧ ∀ p q : Nat, p < n → q < n → (p < i ∨ (p = i ∧ q < k)) → (x p = x q ∧ y p = y q) ∨ ((∃ A B g : Int, 0 < g ∧ g * A = x q - x p ∧ g * B = y q - y p ∧ ye_nb x y c n t A B) ∧ ∃ A B g : Int, 0 < g ∧ g * A = -(y q - y p) ∧ g * B = x q - x p ∧ ye_nb x y c n t A B)
theorem ye_J_0 {x y c : Nat → Int} {n : Nat} {t : ye_T} (h : t.1 = 0) : ye_J x y c n 0 0 t := ⟨Or.inl h, fun p q _ _ h => absurd h (by omega)⟩
theorem ye_J_z {x y c : Nat → Int} {n i k k' : Nat} {t : ye_T} (h : ye_J x y c n i k t) (hk : k' = k + 1) (hz : x i = x k ∧ y i = y k) : ye_J x y c n i k' t := by
  refine ⟨h.1, fun p q h1 h2 h3 => ?_⟩
  by_cases e : p = i ∧ q = k
  · rw [e.1, e.2]
    exact Or.inl hz
  · exact h.2 p q h1 h2 (by omega)
theorem ye_J_s {x y c : Nat → Int} {n i k k' : Nat} {A B A' B' g : Int} {t : ye_T} (h : ye_J x y c n i k t) (hk : k' = k + 1) (hg : 0 < g) (e1 : g * A = x k - x i) (e2 : g * B = y k - y i) (e3 : g * A' = -(y k - y i)) (e4 : g * B' = x k - x i) : ye_J x y c n i k' (ye_try x y c n A' B' (ye_try x y c n A B t)) := by
  refine ⟨ye_try_ok (ye_try_ok h.1), fun p q h1 h2 h3 => ?_⟩
  by_cases e : p = i ∧ q = k
  · rw [e.1, e.2]
    exact Or.inr ⟨⟨A, B, g, hg, e1, e2, ye_try_keep (ye_try_self h.1)⟩, A', B', g, hg, e3, e4, ye_try_self (ye_try_ok h.1)⟩
  · rcases h.2 p q h1 h2 (by omega) with z | ⟨⟨a, b, d, z1, z2, z3, z4⟩, a', b', d', y1, y2, y3, y4⟩
    · exact Or.inl z
    · exact Or.inr ⟨⟨a, b, d, z1, z2, z3, ye_try_keep (ye_try_keep z4)⟩, a', b', d', y1, y2, y3, ye_try_keep (ye_try_keep y4)⟩
theorem ye_J_m {x y c : Nat → Int} {n i k i' k' : Nat} {t : ye_T} (h : ye_J x y c n i k t) (hm : ∀ p q : Nat, p < n → q < n → (p < i' ∨ (p = i' ∧ q < k')) → p < i ∨ (p = i ∧ q < k)) : ye_J x y c n i' k' t := ⟨h.1, fun p q h1 h2 h3 => h.2 p q h1 h2 (hm p q h1 h2 h3)⟩
/-- a direction and its multiples -/
theorem ye_nb_s {x y c : Nat → Int} {n : Nat} {A B g a b : Int} {t : ye_T} (hr : ye_nr x y c n) (hy : ∃ j, ye_Y c n j) (hn : ∃ j, ye_N c n j) (hA : -600 ≤ a ∧ a ≤ 600) (hB : -600 ≤ b ∧ b ≤ 600) (hg : 0 < g) (e1 : g * A = a) (e2 : g * B = b) (h : ye_nb x y c n t A B) : ye_nb x y c n t a b := by
  have ab : ∀ z w : Int, g * z = w → -600 ≤ w → w ≤ 600 → -600 ≤ z ∧ z ≤ 600 := fun z w e h1 h2 => by
    constructor
    · by_cases q : 0 ≤ z
      · omega
      · have k := ye_mle (show 1 ≤ g by omega) (show 0 ≤ -z by omega)
        rw [Int.one_mul, Int.mul_neg] at k
        omega
    · by_cases q : z ≤ 0
      · omega
      · have k := ye_mle (show 1 ≤ g by omega) (show 0 ≤ z by omega)
        rw [Int.one_mul] at k
        omega
  have bA := ab A a e1 hA.1 hA.2
  have bB := ab B b e2 hB.1 hB.2
  have sc : ∀ j : Nat, a * x j + b * y j = g * (A * x j + B * y j) := fun j => by
    rw [← e1, ← e2]
    grind
  obtain ⟨l1, j, hj, l2⟩ := ye_Lx hr hA hB hy
  obtain ⟨l1', j', hj', l2'⟩ := ye_Lx hr bA bB hy
  obtain ⟨u1, k, hk, u2⟩ := ye_Ux hr hA hB hn
  obtain ⟨u1', k', hk', u2'⟩ := ye_Ux hr bA bB hn
  have eL : ye_L x y c a b n = g * ye_L x y c A B n := by
    have q1 := l1 j' hj'
    have q2 := ye_mle (l1' j hj) (show 0 ≤ g by omega)
    rw [sc j', l2'] at q1
    rw [sc j] at l2
    rw [Int.mul_comm _ g, Int.mul_comm _ g] at q2
    omega
  have eU : ye_U x y c a b n = g * ye_U x y c A B n := by
    have q1 := u1 k' hk'
    have q2 := ye_mle (u1' k hk) (show 0 ≤ g by omega)
    rw [sc k', u2'] at q1
    rw [sc k] at u2
    rw [Int.mul_comm _ g, Int.mul_comm _ g] at q2
    omega
  intro hs
  rw [eL, eU] at hs
  obtain ⟨h1, h2⟩ := h (ye_mli (c := g) (by omega) (by rw [Int.mul_comm, Int.mul_comm _ g]; exact hs))
  refine ⟨h1, ?_⟩
  rw [eL, eU, ← e1, ← e2]
  have k1 := ye_mle h2 (show 0 ≤ g * g by exact ye_sq g)
  have f1 : (g * ye_L x y c A B n - g * ye_U x y c A B n) * (g * ye_L x y c A B n - g * ye_U x y c A B n) * (t.2.1 * t.2.1 + t.2.2.1 * t.2.2.1) = (ye_L x y c A B n - ye_U x y c A B n) * (ye_L x y c A B n - ye_U x y c A B n) * (t.2.1 * t.2.1 + t.2.2.1 * t.2.2.1) * (g * g) := by grind
  have f2 : (t.2.2.2.1 - t.2.2.2.2) * (t.2.2.2.1 - t.2.2.2.2) * (g * A * (g * A) + g * B * (g * B)) = (t.2.2.2.1 - t.2.2.2.2) * (t.2.2.2.1 - t.2.2.2.2) * (A * A + B * B) * (g * g) := by grind
  rw [f1, f2]
  exact k1
/-- what the reference has tried, it has tried for the class too -/
theorem ye_J_I {x y c : Nat → Int} {n : Nat} {t : ye_T} (hr : ye_nr x y c n) (hy : ∃ j, ye_Y c n j) (hn : ∃ j, ye_N c n j) (h : ye_J x y c n n 0 t) : ye_I x y c n n n t := by
  refine ⟨h.1, fun p q A B h1 h2 h3 h4 => ?_⟩
  obtain ⟨bA, bB⟩ := ye_tp_b hr (show p < n by omega) h2 h4
  have ns : ¬ (x q = x p ∧ y q = y p) := fun z => h4.1 ⟨z.1.symm, z.2.symm⟩
  have pq : (∃ A B g : Int, 0 < g ∧ g * A = x q - x p ∧ g * B = y q - y p ∧ ye_nb x y c n t A B) ∧ ∃ A B g : Int, 0 < g ∧ g * A = -(y q - y p) ∧ g * B = x q - x p ∧ ye_nb x y c n t A B := by
    rcases h.2 p q (by omega) h2 (by omega) with z | z
    · exact absurd z h4.1
    · exact z
  have qp : (∃ A B g : Int, 0 < g ∧ g * A = x p - x q ∧ g * B = y p - y q ∧ ye_nb x y c n t A B) ∧ ∃ A B g : Int, 0 < g ∧ g * A = -(y p - y q) ∧ g * B = x p - x q ∧ ye_nb x y c n t A B := by
    rcases h.2 q p h2 (by omega) (by omega) with z | z
    · exact absurd z ns
    · exact z
  rcases h4.2 with ⟨_, ⟨e1, e2⟩ | ⟨e1, e2⟩⟩ | ⟨_, _, e1, e2⟩ | ⟨_, _, e1, e2⟩
  · obtain ⟨a, b, g, z1, z2, z3, z4⟩ := pq.2
    exact ye_nb_s hr hy hn bA bB z1 (by omega) (by omega) z4
  · obtain ⟨a, b, g, z1, z2, z3, z4⟩ := qp.2
    exact ye_nb_s hr hy hn bA bB z1 (by omega) (by omega) z4
  · obtain ⟨a, b, g, z1, z2, z3, z4⟩ := pq.1
    exact ye_nb_s hr hy hn bA bB z1 (by omega) (by omega) z4
  · obtain ⟨a, b, g, z1, z2, z3, z4⟩ := qp.1
    exact ye_nb_s hr hy hn bA bB z1 (by omega) (by omega) z4
theorem ye_b2e {x y c : Nat → Int} {n : Nat} (h : ye_nr x y c n) (h0 : ∃ j : Nat, j < n ∧ c j = 0) (h1 : ∃ j : Nat, j < n ∧ c j ≠ 0) : (∃ j, ye_Y c n j) ∧ ∃ j, ye_N c n j := by
  obtain ⟨j, j1, j2⟩ := h0
  obtain ⟨k, k1, k2⟩ := h1
  exact ⟨⟨k, k1, by have := (h k k1).2.2.2.2; omega⟩, j, j1, j2⟩
theorem ye_mS2 {x y c : Nat → Int} {n : Nat} {A B lo hi : Int} (hr : ye_nr x y c n) (hA : -600 ≤ A ∧ A ≤ 600) (hB : -600 ≤ B ∧ B ≤ 600) (hy : ∃ j, ye_Y c n j) (hn : ∃ j, ye_N c n j) (e1 : hi = ye_hi x y (ye_cc c) A B (-9223372036854775808) n) (e2 : lo = ye_lo x y (ye_cc c) A B 9223372036854775807 n) : lo = ye_L x y c A B n ∧ hi = ye_U x y c A B n := by
  have q := ye_cce hr
  rw [ye_lo_eq n (fun _ _ => rfl) (fun _ _ => rfl) q, ye_loS hr hA hB (by decide) hy] at e2
  rw [ye_hi_eq n (fun _ _ => rfl) (fun _ _ => rfl) q, ye_hiS hr hA hB (by decide) hn] at e1
  exact ⟨e2, e1⟩
theorem ye_bmm {g A B : Int} (hg : -720000 ≤ g ∧ g ≤ 720000) (hA : -600 ≤ A ∧ A ≤ 600) (hB : -600 ≤ B ∧ B ≤ 600) : (g * g * (A * A + B * B)).bmod Int64.size = g * g * (A * A + B * B) := by
  have k1 := yw_mb (a := g) (b := g) (A := 720000) (B := 720000) (by omega) (by omega) (by omega) (by omega)
  have k2 := yw_mb (a := A) (b := A) (A := 600) (B := 600) (by omega) (by omega) (by omega) (by omega)
  have k3 := yw_mb (a := B) (b := B) (A := 600) (B := 600) (by omega) (by omega) (by omega) (by omega)
  have k4 := yw_mb (a := g * g) (b := A * A + B * B) (A := 518400000000) (B := 720000) (by omega) (by omega) (by omega) (by omega)
  exact yy_bm (by omega) (by omega)
theorem ye_cntz {c : Nat → Int} {z : Int} : ∀ n : Nat, 0 < yq_cnt c z n → ∃ j : Nat, j < n ∧ c j = z
  | 0, h => absurd (show (0 : Int) < 0 from h) (by decide)
  | n + 1, h => by
    have h : 0 < yq_cnt c z n + if c n = z then 1 else 0 := h
    by_cases q : c n = z
    · exact ⟨n, by omega, q⟩
    · rw [if_neg q] at h
      obtain ⟨j, h1, h2⟩ := ye_cntz (c := c) (z := z) n (by omega)
      exact ⟨j, by omega, h2⟩
theorem ye_b01 {x y c : Nat → Int} {n : Nat} (h : ye_nr x y c n) : ye_bo c n ↔ (0 < yq_cnt c 0 n ∧ 0 < yq_cnt c 1 n) := by
  have k : ∀ m : Nat, m ≤ n → yq_cnt c 1 m + yq_cnt c 0 m = (m : Int) := fun m => by
    induction m with
    | zero => exact fun _ => rfl
    | succ m ih =>
      intro hm
      have h1 := ih (by omega)
      have h2 := (h m (by omega)).2.2.2.2
      show (yq_cnt c 1 m + if c m = 1 then 1 else 0) + (yq_cnt c 0 m + if c m = 0 then 1 else 0) = ((m + 1 : Nat) : Int)
      split <;> split <;> omega
  have k2 := k n (Nat.le_refl n)
  unfold ye_bo
  omega
/-- the divided numbers of a pair -/
theorem ye_gd {u v g a b : Int} (hg : g = ((Nat.gcd u.natAbs v.natAbs : Nat) : Int)) (h0 : 0 < g) (ha : a = u.tdiv g) (hb : b = v.tdiv g) : g * a = u ∧ g * b = v := by
  have d1 : g ∣ u := by
    rw [hg]
    exact Int.ofNat_dvd_left.mpr (Nat.gcd_dvd_left _ _)
  have d2 : g ∣ v := by
    rw [hg]
    exact Int.ofNat_dvd_left.mpr (Nat.gcd_dvd_right _ _)
  rw [ha, hb]
  exact ⟨Int.mul_tdiv_cancel' d1, Int.mul_tdiv_cancel' d2⟩
theorem ye_gd2 {u v g a b : Int} (hg : g = ((Nat.gcd u.natAbs v.natAbs : Nat) : Int)) (ha : a = (-v).tdiv g) (hb : b = u.tdiv g) : g * a = -v ∧ g * b = u := by
  have d1 : g ∣ u := by
    rw [hg]
    exact Int.ofNat_dvd_left.mpr (Nat.gcd_dvd_left _ _)
  have d2 : g ∣ -v := by
    rw [hg]
    refine Int.ofNat_dvd_left.mpr ?_
    rw [Int.natAbs_neg]
    exact Nat.gcd_dvd_right _ _
  rw [ha, hb]
  exact ⟨Int.mul_tdiv_cancel' d2, Int.mul_tdiv_cancel' d1⟩
theorem ye_ab {g z w : Int} (hg : 0 < g) (e : g * z = w) (h1 : -600 ≤ w) (h2 : w ≤ 600) : -600 ≤ z ∧ z ≤ 600 := by
  constructor
  · by_cases q : 0 ≤ z
    · omega
    · have k := ye_mle (show 1 ≤ g by omega) (show 0 ≤ -z by omega)
      rw [Int.one_mul, Int.mul_neg] at k
      omega
  · by_cases q : z ≤ 0
    · omega
    · have k := ye_mle (show 1 ≤ g by omega) (show 0 ≤ z by omega)
      rw [Int.one_mul] at k
      omega
/-- a step of the reference's search -/
theorem ye_Jt {x y c : Nat → Int} {n i k k' : Nat} {A B A' B' g : Int} {t0 t m : ye_T} (hr : ye_nr x y c n) (hi : i < n) (hk : k < n) (hkk : k' = k + 1) (hY : ∃ j, ye_Y c n j) (hN : ∃ j, ye_N c n j) (J : ye_J x y c n i k t0) (hg : 0 < g) (e1 : g * A = x k - x i) (e2 : g * B = y k - y i) (e3 : g * A' = -(y k - y i)) (e4 : g * B' = x k - x i) (et : t = ye_try x y c n A B t0) (tb : ye_tB t) (em : (-600 ≤ A' ∧ A' ≤ 600) → (-600 ≤ B' ∧ B' ≤ 600) → ye_tB t → m = ye_try x y c n A' B' t) : ye_J x y c n i k' m ∧ ye_tB m := by
  have h1 := hr i hi
  have h2 := hr k hk
  have bA := ye_ab hg e3 (by omega) (by omega)
  have bB := ye_ab hg e4 (by omega) (by omega)
  have e := em bA bB tb
  constructor
  · rw [e, et]
    exact ye_J_s J hkk hg e1 e2 e3 e4
  · rw [e]
    exact ye_try_B hr bA bB hY hN tb
theorem ye_Ju {x y c : Nat → Int} {n i k : Nat} {A B g : Int} {t m : ye_T} (hr : ye_nr x y c n) (hi : i < n) (hk : k < n) (hY : ∃ j, ye_Y c n j) (hN : ∃ j, ye_N c n j) (hg : 0 < g) (e1 : g * A = x k - x i) (e2 : g * B = y k - y i) (tb : ye_tB t) (em : (-600 ≤ A ∧ A ≤ 600) → (-600 ≤ B ∧ B ≤ 600) → ye_tB t → m = ye_try x y c n A B t) : ye_tB m ∧ m = ye_try x y c n A B t := by
  have h1 := hr i hi
  have h2 := hr k hk
  have bA := ye_ab hg e1 (by omega) (by omega)
  have bB := ye_ab hg e2 (by omega) (by omega)
  have e := em bA bB tb
  refine ⟨?_, e⟩
  rw [e]
  exact ye_try_B hr bA bB hY hN tb
theorem ye_e01 {c : Nat → Int} {n : Nat} (h : 0 < yq_cnt c 0 n ∧ 0 < yq_cnt c 1 n) : (∃ j : Nat, j < n ∧ c j = 0) ∧ ∃ j : Nat, j < n ∧ c j ≠ 0 := by
  obtain ⟨j, j1, j2⟩ := ye_cntz n h.2
  exact ⟨ye_cntz n h.1, j, j1, by omega⟩
/-- what the reference answers: part, with its divisor -/
noncomputable def ye_pt (u v w : Int) : Int := if w = 0 then v.tdiv ((Nat.gcd u.natAbs v.natAbs : Nat) : Int) else u.tdiv ((Nat.gcd u.natAbs v.natAbs : Nat) : Int)
/-- the reference's found way is the class's kind of one -/
theorem ye_mw {x y c : Nat → Int} {n : Nat} {m : ye_T} (hr : ye_nr x y c n) (h0 : ¬ (0 < yq_cnt c 0 n ∧ 0 < yq_cnt c 1 n) → m.1 = 0) (h1 : (0 < yq_cnt c 0 n ∧ 0 < yq_cnt c 1 n) → ye_nr x y c n → ye_J x y c n n 0 m ∧ ye_tB m) : ye_way x y c n m ∧ ye_tb m := by
  have k := ye_b01 hr
  refine ⟨⟨fun b => h0 (fun z => b (k.mpr z)), fun b => ?_⟩, ?_⟩
  · obtain ⟨hY, hN⟩ := ye_b2e hr (ye_e01 (k.mp b)).1 (ye_e01 (k.mp b)).2
    exact ye_J_I hr hY hN (h1 (k.mp b) hr).1
  · intro z
    by_cases b : ye_bo c n
    · exact ((h1 (k.mp b) hr).2 z).1
    · have := h0 (fun w => b (k.mpr w))
      omega
theorem ye_w0e {x y : Nat → Int} {n : Nat} {a b l h : Int} (hn : a * a + b * b ≠ 0) : ye_wd x y n a b l h 0 = ye_pt ((l - h) * (l - h)) (a * a + b * b) 1 ∧ ye_wd x y n a b l h 1 = ye_pt ((l - h) * (l - h)) (a * a + b * b) 0 := by
  unfold ye_wd ye_pt
  rw [if_pos rfl, if_neg (by decide), if_pos rfl, if_neg (by decide), if_pos rfl, ye_qe (Or.inr hn)]
  exact ⟨rfl, rfl⟩
theorem ye_w2e {a b l h d1 d : Int} (hab : a ≠ 0 ∨ b ≠ 0) (e1 : d1 = ((Nat.gcd (2 * a).natAbs (2 * b).natAbs : Nat) : Int)) (e2 : d = ((Nat.gcd d1.natAbs (l + h).natAbs : Nat) : Int)) : ye_q (ye_q (2 * a) (2 * b)) (l + h) = d := by
  have z : 2 * a ≠ 0 ∨ 2 * b ≠ 0 := by omega
  have e : ye_q (2 * a) (2 * b) = d1 := by rw [ye_qe z, e1]
  have p := ye_qp (2 * a) (2 * b)
  rw [e, ye_qe (Or.inl (by omega)), e2]
theorem ye_wu2 {x y c X Y C : Nat → Int} {n : Nat} {t m : ye_T} {w : Int} (hr : ye_nr x y c n) (hx : ∀ j : Nat, j < n → x j = X j) (hy : ∀ j : Nat, j < n → y j = Y j) (hc : ∀ j : Nat, j < n → c j = C j) (ht : ye_tb t) (hm : ye_tb m) (h1 : ye_way x y c n t) (h2 : ye_way X Y C n m) : ye_rw x y n t w = ye_rw X Y n m w := by
  by_cases b : ye_bo c n
  · exact ye_same_w hr b hx hy hc ht hm h1 h2
  · have h2' : ye_way x y c n m := ye_way_c (fun j hj => (hx j hj).symm) (fun j hj => (hy j hj).symm) (fun j hj => (hc j hj).symm) h2
    unfold ye_rw
    rw [if_pos (h1.1 b), if_pos (h2'.1 b)]
theorem ye_su {x y c X Y C : Nat → Int} {n : Nat} {N i : Int} {t m : ye_T} (hN : N.toNat = n) (hr : ye_nr x y c n) (hx : ∀ j : Nat, j < n → x j = X j) (hy : ∀ j : Nat, j < n → y j = Y j) (hc : ∀ j : Nat, j < n → c j = C j) (ht : ye_tb t) (hm : ye_tb m) (h1 : ye_way x y c n t) (h2 : ye_way X Y C n m) : ye_rs x y N i t = ye_rs X Y N i m := by
  by_cases b : ye_bo c n
  · exact ye_same_s hN hr b hx hy hc ht hm h1 h2
  · have h2' : ye_way x y c n m := ye_way_c (fun j hj => (hx j hj).symm) (fun j hj => (hy j hj).symm) (fun j hj => (hc j hj).symm) h2
    unfold ye_rs
    rw [if_pos (Or.inl (h1.1 b)), if_pos (Or.inl (h2'.1 b))]
