/-! steps of the class -/
theorem yf_N_i {P : Nat → Nat → Prop} {n a : Nat} (h : yq_hN P n a 0) : yq_hN P n a (a + 1) := fun i k h1 h2 h3 => h i k h1 h2 (by omega)
theorem yf_N_o {P : Nat → Nat → Prop} {n a b : Nat} (h : yq_hN P n a b) (hb : n ≤ b) : yq_hN P n (a + 1) 0 := fun i k h1 h2 h3 => h i k h1 h2 (by omega)
theorem yf_N_s {P : Nat → Nat → Prop} {n a b : Nat} (h : yq_hN P n a b) (hp : ¬ P a b) : yq_hN P n a (b + 1) := fun i k h1 h2 h3 => by
  by_cases z : i = a ∧ k = b
  · rw [z.1, z.2]
    exact hp
  · exact h i k h1 h2 (by omega)
theorem yf_N_S {x y c : Nat → Int} {n : Nat} (h : ∀ i k : Nat, i < k → k < n → ¬ (c i ≠ c k ∧ x i = x k ∧ y i = y k)) : ¬ yf_S x y c n := fun ⟨i, j, hi, hj, q1, q2, q3, q4⟩ => by
  by_cases z : i < j
  · exact h i j z hj ⟨by omega, q3, q4⟩
  · by_cases w : j < i
    · exact h j i w hi ⟨by omega, q3.symm, q4.symm⟩
    · rw [show i = j by omega] at q1
      omega
theorem yf_S_P {x y c : Nat → Int} {n a b : Nat} (hc : ∀ j : Nat, 0 ≤ c j ∧ c j ≤ 1) (ha : a < n) (hb : b < n) (hp : c a ≠ c b ∧ x a = x b ∧ y a = y b) : yf_S x y c n := by
  have h1 := hc a
  have h2 := hc b
  have h3 := hp.1
  by_cases z : c a = 1
  · exact ⟨a, b, ha, hb, z, by omega, hp.2.1, hp.2.2⟩
  · exact ⟨b, a, hb, ha, by omega, by omega, hp.2.1.symm, hp.2.2.symm⟩
theorem yf_ro_e {c R : Nat → Int} {m i n : Int} (h1 : m = yq_cnt c 1 i.toNat) (h2 : yf_ro c R i.toNat) (hn : yq_cnt c 1 n.toNat ≤ m) (hi : i ≤ n) : m = yq_cnt c 1 n.toNat ∧ yf_ro c R n.toNat := by
  have h3 := yq_cnt_le c 1 (m := i.toNat) (n := n.toNat) (by omega)
  refine ⟨by omega, fun j hj hc => ?_⟩
  by_cases z : j < i.toNat
  · exact h2 j z hc
  · exfalso
    have h4 := yq_cnt_le c 1 (m := i.toNat) (n := j) (by omega)
    have h5 := yq_cnt_le c 1 (m := j + 1) (n := n.toNat) (by omega)
    have h6 : yq_cnt c 1 (j + 1) = yq_cnt c 1 j + if c j = 1 then 1 else 0 := rfl
    rw [if_pos hc] at h6
    omega
theorem yf_fc_0 {x y c : Nat → Int} {f t h : Int} (h1 : -301 < h) (h2 : h < 301) : yf_fc x y c f t h (-301) 301 0 := ⟨h1, h2, fun j hj => absurd hj (Nat.not_lt_zero j), Or.inl rfl, Or.inl rfl⟩
theorem yf_wi_i {x y R : Nat → Int} {f t fl ce : Int} {k : Nat} : yf_wi x y R f t fl ce k = true ↔ (f ≤ x (R k).toNat ∧ x (R k).toNat ≤ t ∧ fl < y (R k).toNat ∧ y (R k).toNat < ce) := decide_eq_true_iff
/-- nothing of the one beside the other -/
theorem yf_sub {a b w z : Int} (ha : 0 ≤ a) (hb : 0 ≤ b) (hz : z = 0) (h1 : Int32.ofInt w = Int32.ofInt b ^^^ Int32.ofInt (-1)) (h2 : Int32.ofInt z = Int32.ofInt a &&& Int32.ofInt w) (ha1 : a ≤ 4095) (i : Nat) (hi : yf_b a.toNat i) : yf_b b.toNat i := by
  rw [h1, hz] at h2
  have hi12 := yf_ge (m := 12) (s := a.toNat) (by omega) hi
  have ea : a = ((a.toNat : Nat) : Int) := by omega
  have eb : b = ((b.toNat : Nat) : Int) := by omega
  rw [ea, eb] at h2
  have h3 := congrArg (fun v : Int32 => v.toBitVec.getLsbD i) h2
  have m1 : BitVec.ofInt 32 (-1) = BitVec.allOnes 32 := by decide
  have z0 : BitVec.ofInt 32 0 = 0#32 := by decide
  simp only [Int32.toBitVec_and, Int32.toBitVec_xor, Int32.toBitVec_ofInt, m1, z0, BitVec.ofInt_natCast, BitVec.getLsbD_and, BitVec.getLsbD_xor, BitVec.getLsbD_ofNat, BitVec.getLsbD_allOnes, BitVec.getLsbD_zero] at h3
  unfold yf_b at hi ⊢
  rw [hi] at h3
  have q32 : decide (i < 32) = true := decide_eq_true (by omega)
  rw [q32] at h3
  cases hq : b.toNat.testBit i
  · rw [hq] at h3
    simp at h3
  · rfl
/-- twice a power -/
def yf_ck2 : Bool := (List.range 12).all fun j => decide (Int32.ofInt 2 <<< (Int32.ofInt (j : Int) &&& 31) = Int32.ofInt ((2 ^ (j + 1) : Nat) : Int))
theorem yf_ck2_ok : yf_ck2 = true := by decide +kernel
theorem yf_shl2 {z j : Int} (h0 : 0 ≤ j) (h1 : j ≤ 11) (hz0 : -2147483648 ≤ z) (hz : z ≤ 2147483647) (h : Int32.ofInt z = Int32.ofInt 2 <<< (Int32.ofInt j &&& 31)) : z = ((2 ^ (j.toNat + 1) : Nat) : Int) := by
  have k := of_decide_eq_true (List.all_eq_true.mp yf_ck2_ok j.toNat (List.mem_range.mpr (by omega)))
  rw [show ((j.toNat : Nat) : Int) = j by omega] at k
  rw [k] at h
  have hp := yb_p12 (j := j.toNat + 1) (by omega)
  have hp0 := Nat.two_pow_pos (j.toNat + 1)
  exact yb_i32 hz0 hz (by omega) (by omega) h
theorem yf_cvm {cv b z cv' : Int} (h : cv.toNat % 2 ^ (b.toNat + 1) = 2 ^ b.toNat - 1) (h0 : 0 ≤ cv) (hz : z = ((2 ^ (b.toNat + 1) : Nat) : Int)) (hc : cv' = cv + z) : cv'.toNat % 2 ^ (b.toNat + 1) = 2 ^ b.toNat - 1 ∧ cv'.toNat = cv.toNat + 2 ^ (b.toNat + 1) := by
  have e : cv'.toNat = cv.toNat + 2 ^ (b.toNat + 1) := by omega
  refine ⟨?_, e⟩
  rw [e, Nat.add_mod_right]
  exact h
theorem yf_m0 {b : Nat} : (2 ^ b - 1) % 2 ^ (b + 1) = 2 ^ b - 1 := Nat.mod_eq_of_lt (by
  have h1 := Nat.pow_lt_pow_right (a := 2) (by decide) (Nat.lt_succ_self b)
  have h2 := Nat.two_pow_pos b
  omega)
