/-! sums of masses, and what fits -/
def yq_ws (px py pc m : Nat → Int) (ax at_ sg : Int) : Nat → Int
  | 0 => 0
  | n + 1 => yq_ws px py pc m ax at_ sg n + if yq_says ax at_ sg (px n) (py n) = pc n then 0 else m n
def yq_rs (px py pc m : Nat → Int) (ax at_ sg : Int) : Nat → Int
  | 0 => 0
  | n + 1 => yq_rs px py pc m ax at_ sg n + if yq_says ax at_ sg (px n) (py n) = pc n then m n else 0
def yq_tot (m : Nat → Int) : Nat → Int
  | 0 => 0
  | n + 1 => yq_tot m n + m n
theorem yq_ws_s (px py pc m : Nat → Int) (ax at_ sg : Int) {x : Int} (hx : 0 ≤ x) {y : Int} (hy : y = x + 1) : yq_ws px py pc m ax at_ sg y.toNat = yq_ws px py pc m ax at_ sg x.toNat + if yq_says ax at_ sg (px x.toNat) (py x.toNat) = pc x.toNat then 0 else m x.toNat := sorry
theorem yq_rs_s (px py pc m : Nat → Int) (ax at_ sg : Int) {x : Int} (hx : 0 ≤ x) {y : Int} (hy : y = x + 1) : yq_rs px py pc m ax at_ sg y.toNat = yq_rs px py pc m ax at_ sg x.toNat + if yq_says ax at_ sg (px x.toNat) (py x.toNat) = pc x.toNat then m x.toNat else 0 := sorry
theorem yq_tot_s (m : Nat → Int) {x : Int} (hx : 0 ≤ x) {y : Int} (hy : y = x + 1) : yq_tot m y.toNat = yq_tot m x.toNat + m x.toNat := sorry
theorem yq_tws (px py pc m : Nat → Int) (ax at_ sg : Int) : ∀ n, yq_tot m n = yq_ws px py pc m ax at_ sg n + yq_rs px py pc m ax at_ sg n := sorry
theorem yq_tot_b (m : Nat → Int) (hm : ∀ k, 0 ≤ m k ∧ m k ≤ 1099511627776) : ∀ n : Nat, 0 ≤ yq_tot m n ∧ yq_tot m n ≤ (n : Int) * 1099511627776 := sorry
theorem yq_rs_n (px py pc m : Nat → Int) (ax at_ sg : Int) (hm : ∀ k, 0 ≤ m k ∧ m k ≤ 1099511627776) : ∀ n : Nat, 0 ≤ yq_rs px py pc m ax at_ sg n := sorry
theorem yq_ws_t (px py pc m : Nat → Int) (ax at_ sg : Int) (hm : ∀ k, 0 ≤ m k ∧ m k ≤ 1099511627776) (n : Nat) : yq_ws px py pc m ax at_ sg n ≤ yq_tot m n := sorry
theorem yq_ws_n (px py pc m : Nat → Int) (ax at_ sg : Int) (hm : ∀ k, 0 ≤ m k ∧ m k ≤ 1099511627776) : ∀ n : Nat, 0 ≤ yq_ws px py pc m ax at_ sg n := sorry
theorem yq_ws_b (px py pc m : Nat → Int) (ax at_ sg : Int) (hm : ∀ k, 0 ≤ m k ∧ m k ≤ 1099511627776) (n : Nat) : 0 ≤ yq_ws px py pc m ax at_ sg n ∧ yq_ws px py pc m ax at_ sg n ≤ (n : Int) * 1099511627776 := sorry
def yq_fit (px py pc m : Nat → Int) (ax at_ sg d1 d2 b1 b2 : Int) (j : Nat) : Prop := (yq_says ax at_ sg (px j) (py j) ≠ pc j → (m j).tdiv d1 ≤ (1099511627776 : Int).tdiv b1) ∧ (yq_says ax at_ sg (px j) (py j) = pc j → (m j).tdiv d2 ≤ (1099511627776 : Int).tdiv b2)
theorem yq_fit_c {px py pc m m' : Nat → Int} {ax at_ sg d1 d2 b1 b2 : Int} {j : Nat} (h : m' j = m j) (hf : yq_fit px py pc m ax at_ sg d1 d2 b1 b2 j) : yq_fit px py pc m' ax at_ sg d1 d2 b1 b2 j := sorry
theorem yq_dm {x d b : Int} (hx : 0 ≤ x) (hd : 1 ≤ d) (hb : b ≤ x.tdiv d) : d * b ≤ x := sorry
theorem yq_self {x : Int} (h0 : 0 ≤ x) (h : x ≤ 1099511627776) : x.bmod Int64.size = x := sorry
theorem yq_bm2 {a b : Int} (ha : 1 ≤ a) (hb : 1 ≤ b) (h : a * b ≤ 1099511627776) : (a * b).bmod Int64.size = a * b ∧ 1 ≤ a * b := sorry
theorem yq_fm {m b : Int} (hm : 0 ≤ m) (hb : 1 ≤ b) (h : m ≤ (1099511627776 : Int).tdiv b) : 0 ≤ m * b ∧ m * b ≤ 1099511627776 ∧ (m * b).bmod Int64.size = m * b := sorry
