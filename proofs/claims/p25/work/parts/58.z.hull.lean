/-! the corners of a hull: the next one, and that none comes twice -/
def yh_at (x y : Nat → Int) (a b : Nat) : Prop := x a = x b ∧ y a = y b
def yh_far (x y : Nat → Int) (a b : Nat) : Int := (x b - x a) * (x b - x a) + (y b - y a) * (y b - y a)
def yh_f (x y : Nat → Int) (p q : Int) (v k : Nat) : Int := p * (x k - x v) + q * (y k - y v)
def yh_dot (x y : Nat → Int) (v a b : Nat) : Int := (x a - x v) * (x b - x v) + (y a - y v) * (y b - y v)
/-- all others lie on one side of some line through v -/
def yh_ext (x y : Nat → Int) (C : Nat → Prop) (v : Nat) : Prop := ∃ p q : Int, ∀ k, C k → ¬ yh_at x y k v → 0 < yh_f x y p q v k
def yh_suc (x y : Nat → Int) (C : Nat → Prop) (v w : Nat) : Prop := C w ∧ ¬ yh_at x y w v ∧ ∀ k, C k → ¬ yh_at x y k v → 0 < yq_ar x y v w k ∨ (yq_ar x y v w k = 0 ∧ yh_far x y v k ≤ yh_far x y v w)
theorem yh_plu (x y : Nat → Int) (p q : Int) (v a b c : Nat) : yh_f x y p q v b * yq_ar x y v a c = yh_f x y p q v a * yq_ar x y v b c + yh_f x y p q v c * yq_ar x y v a b := sorry
theorem yh_neg (x y : Nat → Int) (v a b : Nat) : yq_ar x y v a b = -yq_ar x y v b a := sorry
theorem yh_self (x y : Nat → Int) (v a : Nat) : yq_ar x y v a a = 0 := sorry
theorem yh_pos {a b : Int} (ha : 0 < a) (h : 0 < a * b) : 0 < b := sorry
theorem yh_zero {a b : Int} (ha : 0 < a) (h : a * b = 0) : b = 0 := sorry
theorem yh_tr {x y : Nat → Int} {p q : Int} {v a b c : Nat} (fa : 0 < yh_f x y p q v a) (fb : 0 < yh_f x y p q v b) (fc : 0 < yh_f x y p q v c) (h1 : 0 ≤ yq_ar x y v a b) (h2 : 0 ≤ yq_ar x y v b c) (h3 : 0 < yq_ar x y v a b ∨ 0 < yq_ar x y v b c) : 0 < yq_ar x y v a c := sorry
theorem yh_tr0 {x y : Nat → Int} {p q : Int} {v a b c : Nat} (fb : 0 < yh_f x y p q v b) (h1 : yq_ar x y v a b = 0) (h2 : yq_ar x y v b c = 0) : yq_ar x y v a c = 0 := sorry
/-- what a walk over the first n has found -/
def yh_scan (x y : Nat → Int) (C : Nat → Prop) (v n : Nat) (w : Int) : Prop := (w < 0 ∧ ∀ k, k < n → C k → yh_at x y k v) ∨ (0 ≤ w ∧ C w.toNat ∧ ¬ yh_at x y w.toNat v ∧ ∀ k, k < n → C k → ¬ yh_at x y k v → 0 < yq_ar x y v w.toNat k ∨ (yq_ar x y v w.toNat k = 0 ∧ yh_far x y v k ≤ yh_far x y v w.toNat))
theorem yh_scan0 {x y : Nat → Int} {C : Nat → Prop} {v : Nat} {w : Int} (h : w < 0) : yh_scan x y C v 0 w := sorry
theorem yh_skip {x y : Nat → Int} {C : Nat → Prop} {v n : Nat} {w : Int} (h : yh_scan x y C v n w) (hn : C n → ¬ yh_at x y n v → 0 ≤ w ∧ (0 < yq_ar x y v w.toNat n ∨ (yq_ar x y v w.toNat n = 0 ∧ yh_far x y v n ≤ yh_far x y v w.toNat))) : yh_scan x y C v (n + 1) w := sorry
theorem yh_take {x y : Nat → Int} {C : Nat → Prop} {v n : Nat} {w : Int} (he : yh_ext x y C v) (h : yh_scan x y C v n w) (hC : C n) (hna : ¬ yh_at x y n v) (hw : 0 ≤ w → yq_ar x y v w.toNat n < 0 ∨ (yq_ar x y v w.toNat n = 0 ∧ yh_far x y v w.toNat < yh_far x y v n)) : yh_scan x y C v (n + 1) (n : Int) := sorry
/-- two in one direction, the nearer first -/
theorem yh_par {x y : Nat → Int} {p q : Int} {v a b : Nat} (fa : 0 < yh_f x y p q v a) (fb : 0 < yh_f x y p q v b) (hc : yq_ar x y v b a = 0) (hl : yh_far x y v a ≤ yh_far x y v b) : yh_far x y v a ≤ yh_dot x y v a b ∧ yh_dot x y v a b ≤ yh_far x y v b ∧ 0 < yh_far x y v a ∧ (yh_dot x y v a b = yh_far x y v b → yh_at x y a b) := sorry
theorem yh_cong {x y : Nat → Int} {v w w' k : Nat} (h : yh_at x y w w') : yq_ar x y v w k = yq_ar x y v w' k ∧ yh_far x y v w = yh_far x y v w' := sorry
/-- no two have the same next -/
theorem yh_inj {x y : Nat → Int} {C : Nat → Prop} {v1 v2 w1 w2 : Nat} (h1 : yh_suc x y C v1 w1) (h2 : yh_suc x y C v2 w2) (hw : yh_at x y w1 w2) (x1 : yh_ext x y C v1) (x2 : yh_ext x y C v2) (c1 : C v1) (c2 : C v2) : yh_at x y v1 v2 := sorry
/-- the next of one at the edge lies at the edge -/
theorem yh_nxt {x y : Nat → Int} {C : Nat → Prop} {v w : Nat} (hb : ∀ k, -300 ≤ x k ∧ x k ≤ 1000 ∧ -300 ≤ y k ∧ y k ≤ 1000) (h1 : yh_suc x y C v w) (x1 : yh_ext x y C v) : yh_ext x y C w := sorry
/-- the lowest of the leftmost lies at the edge -/
theorem yh_fst {x y : Nat → Int} {C : Nat → Prop} {v : Nat} (hb : ∀ k, -300 ≤ x k ∧ x k ≤ 1000 ∧ -300 ≤ y k ∧ y k ≤ 1000) (h : ∀ k, C k → x v < x k ∨ (x v = x k ∧ y v ≤ y k)) : yh_ext x y C v := sorry
/-- m + 1 different ones below n: m is below n -/
theorem yh_pig : ∀ (n m : Nat) (f : Nat → Nat), (∀ i, i ≤ m → f i < n) → (∀ i j, i ≤ m → j ≤ m → f i = f j → i = j) → m < n := sorry
def yh_C (pc : Nat → Int) (c n : Int) : Nat → Prop := fun k => (k : Int) < n ∧ pc k = c
/-- the lowest of the leftmost among the first n -/
def yh_low (x y : Nat → Int) (C : Nat → Prop) (n : Nat) (w : Int) : Prop := (w < 0 ∧ ∀ j, j < n → ¬ C j) ∨ (0 ≤ w ∧ C w.toNat ∧ ∀ j, j < n → C j → x w.toNat < x j ∨ (x w.toNat = x j ∧ y w.toNat ≤ y j))
theorem yh_low0 {x y : Nat → Int} {C : Nat → Prop} {w : Int} (h : w < 0) : yh_low x y C 0 w := sorry
theorem yh_lows {x y : Nat → Int} {C : Nat → Prop} {n : Nat} {w : Int} (h : yh_low x y C n w) (hn : C n → 0 ≤ w ∧ (x w.toNat < x n ∨ (x w.toNat = x n ∧ y w.toNat ≤ y n))) : yh_low x y C (n + 1) w := sorry
theorem yh_lowt {x y : Nat → Int} {C : Nat → Prop} {n : Nat} {w w' : Int} (h : yh_low x y C n w) (hC : C n) (hw' : w' = (n : Int)) (hw : 0 ≤ w → x n < x w.toNat ∨ (x n = x w.toNat ∧ y n ≤ y w.toNat)) : yh_low x y C (n + 1) w' := sorry
/-- the way so far: m corners ahead of the one at hand, all at the edge, each the next of the one before, none twice -/
def yh_walk (x y : Nat → Int) (C : Nat → Prop) (m a b : Nat) : Prop := ∃ f : Nat → Nat, f 0 = a ∧ f m = b ∧ (∀ i, i ≤ m → C (f i) ∧ yh_ext x y C (f i)) ∧ (∀ i, i < m → yh_suc x y C (f i) (f (i + 1))) ∧ ∀ i j, i ≤ m → j ≤ m → yh_at x y (f i) (f j) → i = j
theorem yh_walk0 {x y : Nat → Int} {C : Nat → Prop} {a : Nat} (hC : C a) (he : yh_ext x y C a) : yh_walk x y C 0 a a := sorry
theorem yh_walk_e {x y : Nat → Int} {C : Nat → Prop} {m a b : Nat} (h : yh_walk x y C m a b) : C b ∧ yh_ext x y C b := sorry
theorem yh_walk_lt {x y pc : Nat → Int} {c n : Int} {m a b : Nat} (h : yh_walk x y (yh_C pc c n) m a b) : (m : Int) < n := sorry
theorem yh_walks {x y pc : Nat → Int} {c n : Int} {m a b N : Nat} {w : Int} (hb : ∀ k, -300 ≤ x k ∧ x k ≤ 1000 ∧ -300 ≤ y k ∧ y k ≤ 1000) (h : yh_walk x y (yh_C pc c n) m a b) (hs : yh_scan x y (yh_C pc c n) b N w) (hN : n ≤ (N : Int)) (hw : 0 ≤ w) (hna : ¬ yh_at x y w.toNat a) : yh_walk x y (yh_C pc c n) (m + 1) a w.toNat := sorry
