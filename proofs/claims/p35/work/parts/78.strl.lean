/-! sums of masses, and what fits -/
def yq_ws (px py pc m : Nat → Int) (ax at_ sg : Int) : Nat → Int
  | 0 => 0
  | n + 1 => yq_ws px py pc m ax at_ sg n + if yq_says ax at_ sg (px n) (py n) = pc n then 0 else m n
def yq_rs (px py pc m : Nat → Int) (ax at_ sg : Int) : Nat → Int
  | 0 => 0
  | n + 1 => yq_rs px py pc m ax at_ sg n + if yq_says ax at_ sg (px n) (py n) = pc n then m n else 0
def yq_tot (m : Nat → Int) : Nat → Int
  | 0 => 0
  | n + 1 => yq_tot m n + m n
theorem yq_ws_s (px py pc m : Nat → Int) (ax at_ sg : Int) {x : Int} (hx : 0 ≤ x) {y : Int} (hy : y = x + 1) : yq_ws px py pc m ax at_ sg y.toNat = yq_ws px py pc m ax at_ sg x.toNat + if yq_says ax at_ sg (px x.toNat) (py x.toNat) = pc x.toNat then 0 else m x.toNat := by
  have : y.toNat = x.toNat + 1 := by omega
  rw [this]
  rfl
theorem yq_rs_s (px py pc m : Nat → Int) (ax at_ sg : Int) {x : Int} (hx : 0 ≤ x) {y : Int} (hy : y = x + 1) : yq_rs px py pc m ax at_ sg y.toNat = yq_rs px py pc m ax at_ sg x.toNat + if yq_says ax at_ sg (px x.toNat) (py x.toNat) = pc x.toNat then m x.toNat else 0 := by
  have : y.toNat = x.toNat + 1 := by omega
  rw [this]
  rfl
theorem yq_tot_s (m : Nat → Int) {x : Int} (hx : 0 ≤ x) {y : Int} (hy : y = x + 1) : yq_tot m y.toNat = yq_tot m x.toNat + m x.toNat := by
  have : y.toNat = x.toNat + 1 := by omega
  rw [this]
  rfl
theorem yq_tws (px py pc m : Nat → Int) (ax at_ sg : Int) : ∀ n, yq_tot m n = yq_ws px py pc m ax at_ sg n + yq_rs px py pc m ax at_ sg n
  | 0 => rfl
  | n + 1 => by
    have := yq_tws px py pc m ax at_ sg n
    show yq_tot m n + m n = (yq_ws px py pc m ax at_ sg n + if yq_says ax at_ sg (px n) (py n) = pc n then 0 else m n) + (yq_rs px py pc m ax at_ sg n + if yq_says ax at_ sg (px n) (py n) = pc n then m n else 0)
    split <;> omega
theorem yq_tot_b (m : Nat → Int) (hm : ∀ k, 0 ≤ m k ∧ m k ≤ 1099511627776) : ∀ n : Nat, 0 ≤ yq_tot m n ∧ yq_tot m n ≤ (n : Int) * 1099511627776
  | 0 => ⟨Int.le_refl 0, Int.le_refl 0⟩
  | n + 1 => by
    have := yq_tot_b m hm n
    have h := hm n
    show 0 ≤ yq_tot m n + m n ∧ yq_tot m n + m n ≤ ((n + 1 : Nat) : Int) * 1099511627776
    omega
theorem yq_rs_n (px py pc m : Nat → Int) (ax at_ sg : Int) (hm : ∀ k, 0 ≤ m k ∧ m k ≤ 1099511627776) : ∀ n : Nat, 0 ≤ yq_rs px py pc m ax at_ sg n
  | 0 => Int.le_refl 0
  | n + 1 => by
    have := yq_rs_n px py pc m ax at_ sg hm n
    have h := hm n
    show 0 ≤ yq_rs px py pc m ax at_ sg n + if yq_says ax at_ sg (px n) (py n) = pc n then m n else 0
    split <;> omega
theorem yq_ws_t (px py pc m : Nat → Int) (ax at_ sg : Int) (hm : ∀ k, 0 ≤ m k ∧ m k ≤ 1099511627776) (n : Nat) : yq_ws px py pc m ax at_ sg n ≤ yq_tot m n := by
  have h1 := yq_tws px py pc m ax at_ sg n
  have h2 := yq_rs_n px py pc m ax at_ sg hm n
  omega
theorem yq_ws_n (px py pc m : Nat → Int) (ax at_ sg : Int) (hm : ∀ k, 0 ≤ m k ∧ m k ≤ 1099511627776) : ∀ n : Nat, 0 ≤ yq_ws px py pc m ax at_ sg n
  | 0 => Int.le_refl 0
  | n + 1 => by
    have := yq_ws_n px py pc m ax at_ sg hm n
    have h := hm n
    show 0 ≤ yq_ws px py pc m ax at_ sg n + if yq_says ax at_ sg (px n) (py n) = pc n then 0 else m n
    split <;> omega
theorem yq_ws_b (px py pc m : Nat → Int) (ax at_ sg : Int) (hm : ∀ k, 0 ≤ m k ∧ m k ≤ 1099511627776) (n : Nat) : 0 ≤ yq_ws px py pc m ax at_ sg n ∧ yq_ws px py pc m ax at_ sg n ≤ (n : Int) * 1099511627776 := by
  have h1 := yq_ws_t px py pc m ax at_ sg hm n
  have h2 := yq_ws_n px py pc m ax at_ sg hm n
  have h3 := yq_tot_b m hm n
  omega
def yq_fit (px py pc m : Nat → Int) (ax at_ sg d1 d2 b1 b2 : Int) (j : Nat) : Prop := (yq_says ax at_ sg (px j) (py j) ≠ pc j → (m j).tdiv d1 ≤ (1099511627776 : Int).tdiv b1) ∧ (yq_says ax at_ sg (px j) (py j) = pc j → (m j).tdiv d2 ≤ (1099511627776 : Int).tdiv b2)
theorem yq_fit_c {px py pc m m' : Nat → Int} {ax at_ sg d1 d2 b1 b2 : Int} {j : Nat} (h : m' j = m j) (hf : yq_fit px py pc m ax at_ sg d1 d2 b1 b2 j) : yq_fit px py pc m' ax at_ sg d1 d2 b1 b2 j := by
  unfold yq_fit
  rw [h]
  exact hf
theorem yq_dm {x d b : Int} (hx : 0 ≤ x) (hd : 1 ≤ d) (hb : b ≤ x.tdiv d) : d * b ≤ x := by
  rw [Int.tdiv_eq_ediv_of_nonneg hx] at hb
  have h1 := Int.mul_le_mul_of_nonneg_left hb (show 0 ≤ d by omega)
  have h2 := Int.mul_ediv_self_le (x := x) (k := d) (by omega)
  omega
theorem yq_self {x : Int} (h0 : 0 ≤ x) (h : x ≤ 1099511627776) : x.bmod Int64.size = x := Int.bmod_eq_of_le (by show -((Int64.size : Int) / 2) ≤ x; rw [show ((Int64.size : Nat) : Int) = 18446744073709551616 from rfl]; omega) (by show x < ((Int64.size : Int) + 1) / 2; rw [show ((Int64.size : Nat) : Int) = 18446744073709551616 from rfl]; omega)
theorem yq_bm2 {a b : Int} (ha : 1 ≤ a) (hb : 1 ≤ b) (h : a * b ≤ 1099511627776) : (a * b).bmod Int64.size = a * b ∧ 1 ≤ a * b := by
  have h1 : 0 < a * b := Int.mul_pos (by omega) (by omega)
  exact ⟨yq_self (by omega) h, by omega⟩
theorem yq_fm {m b : Int} (hm : 0 ≤ m) (hb : 1 ≤ b) (h : m ≤ (1099511627776 : Int).tdiv b) : 0 ≤ m * b ∧ m * b ≤ 1099511627776 ∧ (m * b).bmod Int64.size = m * b := by
  have h1 := yq_dm (x := 1099511627776) (by omega) hb h
  have h2 : 0 ≤ m * b := Int.mul_nonneg hm (by omega)
  rw [Int.mul_comm] at h1
  exact ⟨h2, h1, yq_self h2 h1⟩
