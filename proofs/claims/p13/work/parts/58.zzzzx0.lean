/-! the widest way: what is told of it -/
noncomputable def ye_q (u v : Int) : Int := yy_mx (Nat.gcd u.natAbs v.natAbs)
theorem ye_qp (u v : Int) : 1 ≤ ye_q u v := yy_mx_p _
theorem ye_gp {u v : Int} (h : u ≠ 0 ∨ v ≠ 0) : 0 < Nat.gcd u.natAbs v.natAbs := by
  rcases h with h | h
  · exact Nat.gcd_pos_of_pos_left _ (by omega)
  · exact Nat.gcd_pos_of_pos_right _ (by omega)
theorem ye_qe {u v : Int} (h : u ≠ 0 ∨ v ≠ 0) : ye_q u v = ((Nat.gcd u.natAbs v.natAbs : Nat) : Int) := yy_mxp (ye_gp h)
theorem ye_q1 (u v : Int) : ye_q u v ∣ u := by
  unfold ye_q yy_mx
  split
  · exact Int.one_dvd u
  · exact Int.ofNat_dvd_left.mpr (Nat.gcd_dvd_left _ _)
theorem ye_q2 (u v : Int) : ye_q u v ∣ v := by
  unfold ye_q yy_mx
  split
  · exact Int.one_dvd v
  · exact Int.ofNat_dvd_left.mpr (Nat.gcd_dvd_right _ _)
theorem ye_gsc {t s u v U V : Int} (h1 : t * u = s * U) (h2 : t * v = s * V) : t.natAbs * Nat.gcd u.natAbs v.natAbs = s.natAbs * Nat.gcd U.natAbs V.natAbs := by
  rw [← Nat.gcd_mul_left, ← Nat.gcd_mul_left, ← Int.natAbs_mul, ← Int.natAbs_mul, ← Int.natAbs_mul, ← Int.natAbs_mul, h1, h2]
theorem ye_nz {t s u U : Int} (ht : 0 < t) (hs : 0 < s) (h : t * u = s * U) (hu : u ≠ 0) : U ≠ 0 := fun z => by
  rw [z, Int.mul_zero] at h
  rcases Int.mul_eq_zero.mp h with q | q
  · omega
  · exact hu q
theorem ye_qs {t s u v U V : Int} (ht : 0 < t) (hs : 0 < s) (h1 : t * u = s * U) (h2 : t * v = s * V) (h : u ≠ 0 ∨ v ≠ 0) : t * ye_q u v = s * ye_q U V := by
  have h' : U ≠ 0 ∨ V ≠ 0 := h.elim (fun q => Or.inl (ye_nz ht hs h1 q)) (fun q => Or.inr (ye_nz ht hs h2 q))
  rw [ye_qe h, ye_qe h']
  have k := ye_gsc h1 h2
  have k2 : ((t.natAbs * Nat.gcd u.natAbs v.natAbs : Nat) : Int) = ((s.natAbs * Nat.gcd U.natAbs V.natAbs : Nat) : Int) := by rw [k]
  rw [Int.natCast_mul, Int.natCast_mul, show ((t.natAbs : Nat) : Int) = t by omega, show ((s.natAbs : Nat) : Int) = s by omega] at k2
  exact k2
theorem ye_red {v g V G s t : Int} (ht : 0 < t) (hg : 1 ≤ g) (hG : 1 ≤ G) (h1 : t * v = s * V) (h2 : t * g = s * G) (d1 : g ∣ v) (d2 : G ∣ V) : v.tdiv g = V.tdiv G := by
  obtain ⟨k, hk⟩ := d1
  obtain ⟨K, hK⟩ := d2
  rw [hk, hK, Int.mul_tdiv_cancel_left _ (by omega), Int.mul_tdiv_cancel_left _ (by omega)]
  have e : (t * g) * k = (t * g) * K := by
    have e1 : (t * g) * k = t * (g * k) := by grind
    have e2 : (t * g) * K = s * (G * K) := by
      rw [h2]
      grind
    rw [e1, e2, ← hk, ← hK, h1]
  have hz : t * g ≠ 0 := by
    have := Int.mul_pos ht (show 0 < g by omega)
    omega
  exact Int.eq_of_mul_eq_mul_left hz e
/-- how many lie on the sides -/
noncomputable def ye_sc (x y : Nat → Int) (a b l h : Int) : Nat → Int
  | 0 => 0
  | n + 1 => ye_sc x y a b l h n + if ye_d x y a b n = l ∨ ye_d x y a b n = h then 1 else 0
theorem ye_sc_s {x y : Nat → Int} {a b l h j m : Int} (hj : 0 ≤ j) (hm : m = j + 1) : ye_sc x y a b l h m.toNat = ye_sc x y a b l h j.toNat + if ye_d x y a b j.toNat = l ∨ ye_d x y a b j.toNat = h then 1 else 0 := by
  rw [show m.toNat = j.toNat + 1 by omega]
  rfl
theorem ye_sc_b {x y : Nat → Int} {a b l h : Int} : ∀ n : Nat, 0 ≤ ye_sc x y a b l h n ∧ ye_sc x y a b l h n ≤ (n : Int)
  | 0 => ⟨Int.le_refl 0, Int.le_refl 0⟩
  | n + 1 => by
    have k := ye_sc_b (x := x) (y := y) (a := a) (b := b) (l := l) (h := h) n
    show 0 ≤ ye_sc x y a b l h n + (if ye_d x y a b n = l ∨ ye_d x y a b n = h then 1 else 0) ∧ ye_sc x y a b l h n + (if ye_d x y a b n = l ∨ ye_d x y a b n = h then 1 else 0) ≤ ((n + 1 : Nat) : Int)
    split <;> omega
theorem ye_mul_iff {t s u U : Int} (ht : 0 < t) (hs : 0 < s) {l L : Int} (h1 : t * u = s * U) (h2 : t * l = s * L) : u = l ↔ U = L := by
  constructor
  · intro e
    rw [e, h2] at h1
    exact (Int.eq_of_mul_eq_mul_left (by omega) h1).symm
  · intro e
    rw [e, ← h2] at h1
    exact Int.eq_of_mul_eq_mul_left (by omega) h1
theorem ye_sd {x y X Y : Nat → Int} {a b l h a' b' l' h' s t : Int} {j : Nat} (hs : 0 < s) (ht : 0 < t) (hx : x j = X j) (hy : y j = Y j) (e1 : t * a = s * a') (e2 : t * b = s * b') (e3 : t * l = s * l') (e4 : t * h = s * h') : (ye_d x y a b j = l ∨ ye_d x y a b j = h) ↔ (ye_d X Y a' b' j = l' ∨ ye_d X Y a' b' j = h') := by
  have e : t * ye_d x y a b j = s * ye_d X Y a' b' j := by
    unfold ye_d
    have f : t * (a * x j + b * y j) = (t * a) * x j + (t * b) * y j := by grind
    rw [f, e1, e2, hx, hy]
    grind
  rw [ye_mul_iff ht hs e e3, ye_mul_iff ht hs e e4]
theorem ye_sc_eq {x y X Y : Nat → Int} {a b l h a' b' l' h' s t : Int} (hs : 0 < s) (ht : 0 < t) (e1 : t * a = s * a') (e2 : t * b = s * b') (e3 : t * l = s * l') (e4 : t * h = s * h') : ∀ n : Nat, (∀ j : Nat, j < n → x j = X j) → (∀ j : Nat, j < n → y j = Y j) → ye_sc x y a b l h n = ye_sc X Y a' b' l' h' n
  | 0, _, _ => rfl
  | n + 1, hx, hy => by
    show (ye_sc x y a b l h n + if ye_d x y a b n = l ∨ ye_d x y a b n = h then 1 else 0) = (ye_sc X Y a' b' l' h' n + if ye_d X Y a' b' n = l' ∨ ye_d X Y a' b' n = h' then 1 else 0)
    rw [ye_sc_eq hs ht e1 e2 e3 e4 n (fun j hj => hx j (by omega)) (fun j hj => hy j (by omega))]
    have k := ye_sd (l := l) (h := h) (l' := l') (h' := h') hs ht (hx n (by omega)) (hy n (by omega)) e1 e2 e3 e4
    by_cases q : ye_d x y a b n = l ∨ ye_d x y a b n = h
    · rw [if_pos q, if_pos (k.mp q)]
    · rw [if_neg q, if_neg (fun z => q (k.mpr z))]
/-- what wide tells: its number, from the direction and its sides -/
noncomputable def ye_wd (x y : Nat → Int) (n : Nat) (a b l h w : Int) : Int :=
  if w = 0 then ((l - h) * (l - h)).tdiv (ye_q ((l - h) * (l - h)) (a * a + b * b))
  else if w = 1 then (a * a + b * b).tdiv (ye_q ((l - h) * (l - h)) (a * a + b * b))
  else if w = 2 then (2 * a).tdiv (ye_q (ye_q (2 * a) (2 * b)) (l + h))
  else if w = 3 then (2 * b).tdiv (ye_q (ye_q (2 * a) (2 * b)) (l + h))
  else if w = 4 then (l + h).tdiv (ye_q (ye_q (2 * a) (2 * b)) (l + h))
  else ye_sc x y a b l h n
theorem ye_wd_u {x y X Y : Nat → Int} {n : Nat} {a b l h a' b' l' h' s t w : Int} (hs : 0 < s) (ht : 0 < t) (hab : a ≠ 0 ∨ b ≠ 0) (e1 : t * a = s * a') (e2 : t * b = s * b') (e3 : t * l = s * l') (e4 : t * h = s * h') (hx : ∀ j : Nat, j < n → x j = X j) (hy : ∀ j : Nat, j < n → y j = Y j) : ye_wd x y n a b l h w = ye_wd X Y n a' b' l' h' w := by
  have g1 : t * t * ((l - h) * (l - h)) = s * s * ((l' - h') * (l' - h')) := by
    have f : t * t * ((l - h) * (l - h)) = (t * l - t * h) * (t * l - t * h) := by grind
    rw [f, e3, e4]
    grind
  have g2 : t * t * (a * a + b * b) = s * s * (a' * a' + b' * b') := by
    have f : t * t * (a * a + b * b) = (t * a) * (t * a) + (t * b) * (t * b) := by grind
    rw [f, e1, e2]
    grind
  have htt : 0 < t * t := Int.mul_pos ht ht
  have hss : 0 < s * s := Int.mul_pos hs hs
  have hn : a * a + b * b ≠ 0 := by
    have k1 := ye_sq a
    have k2 := ye_sq b
    rcases hab with q | q
    · have := ye_sqp q
      omega
    · have := ye_sqp q
      omega
  have q1 := ye_qs htt hss g1 g2 (Or.inr hn)
  have m1 : t * (2 * a) = s * (2 * a') := by
    have f : t * (2 * a) = 2 * (t * a) := by grind
    rw [f, e1]
    grind
  have m2 : t * (2 * b) = s * (2 * b') := by
    have f : t * (2 * b) = 2 * (t * b) := by grind
    rw [f, e2]
    grind
  have m3 : t * (l + h) = s * (l' + h') := by
    have f : t * (l + h) = t * l + t * h := by grind
    rw [f, e3, e4]
    grind
  have q2 := ye_qs ht hs m1 m2 (by omega)
  have p2 := ye_qp (2 * a) (2 * b)
  have q3 := ye_qs ht hs q2 m3 (Or.inl (by omega))
  have da : ∀ u v w' : Int, u ∣ v → v ∣ w' → u ∣ w' := fun u v w' h1 h2 => Int.dvd_trans h1 h2
  unfold ye_wd
  rw [ye_red htt (ye_qp _ _) (ye_qp _ _) g1 q1 (ye_q1 _ _) (ye_q1 _ _), ye_red htt (ye_qp _ _) (ye_qp _ _) g2 q1 (ye_q2 _ _) (ye_q2 _ _), ye_red ht (ye_qp _ _) (ye_qp _ _) m1 q3 (da _ _ _ (ye_q1 _ _) (ye_q1 _ _)) (da _ _ _ (ye_q1 _ _) (ye_q1 _ _)), ye_red ht (ye_qp _ _) (ye_qp _ _) m2 q3 (da _ _ _ (ye_q1 _ _) (ye_q2 _ _)) (da _ _ _ (ye_q1 _ _) (ye_q2 _ _)), ye_red ht (ye_qp _ _) (ye_qp _ _) m3 q3 (ye_q2 _ _) (ye_q2 _ _), ye_sc_eq hs ht e1 e2 e3 e4 n hx hy]

