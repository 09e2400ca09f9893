/-! sets as bits of rows of longs -/
noncomputable def yw_mk (m : Nat → Int) (s : Nat) : Bool := (Int64.ofInt (m (s / 64))).toBitVec.getLsbD (s % 64)
theorem yw_and63 {z w : Int} (h0 : 0 ≤ z) (h1 : z ≤ 4095) (hw0 : 0 ≤ w) (hw : w ≤ 63) (h : Int32.ofInt w = Int32.ofInt z &&& Int32.ofInt 63) : w = z % 64 := by
  have h7 := yb_andi z.toNat 63
  rw [show ((63 : Nat) : Int) = 63 from rfl, show ((z.toNat : Nat) : Int) = z by omega, show z.toNat &&& 63 = z.toNat % 64 from Nat.and_two_pow_sub_one_eq_mod z.toNat 6] at h7
  have h8 := yb_i32 (by omega) (by omega) (by omega) (by omega) (h.trans h7)
  omega
theorem yw_hi {s w1 w2 : Int} (h0 : 0 ≤ s) (h1 : s ≤ 4095) (a0 : -2147483648 ≤ w1) (a1 : w1 ≤ 2147483647) (b0 : 0 ≤ w2) (b1 : w2 ≤ 63) (e1 : Int32.ofInt w1 = Int32.ofInt s >>> (Int32.ofInt 6 &&& 31)) (e2 : Int32.ofInt w2 = Int32.ofInt w1 &&& Int32.ofInt 63) : w2 = s / 64 := by
  have h2 := yb_shr h0 h1 (by decide) (by decide) a0 a1 e1
  rw [show (((2 : Nat) ^ (6 : Int).toNat : Nat) : Int) = 64 from rfl] at h2
  have h3 := yw_and63 (by omega) (by omega) b0 b1 e2
  omega
noncomputable def yw_ck1 : Bool := (List.range 64).all fun b => decide ((Int64.ofInt 1 <<< ((Int32.ofInt (b : Int)).toInt64 &&& 63)).toBitVec.toNat = 2 ^ b)
theorem yw_ck1_ok : yw_ck1 = true := by decide +kernel
noncomputable def yw_ck2 : Bool := (List.range 64).all fun b => decide ((((Int32.ofInt (b : Int)).toInt64 &&& 63).toBitVec.smod 64).toNat = b)
theorem yw_ck2_ok : yw_ck2 = true := by decide +kernel
theorem yw_one {z b : Int} (h0 : 0 ≤ b) (h1 : b ≤ 63) (e : Int64.ofInt z = Int64.ofInt 1 <<< ((Int32.ofInt b).toInt64 &&& 63)) (i : Nat) : (Int64.ofInt z).toBitVec.getLsbD i = decide (b.toNat = i) := by
  have h := of_decide_eq_true (List.all_eq_true.mp yw_ck1_ok b.toNat (List.mem_range.mpr (by omega)))
  rw [show ((b.toNat : Nat) : Int) = b by omega, ← e] at h
  rw [← BitVec.testBit_toNat, h, Nat.testBit_two_pow]
theorem yw_mkw {m m' : Nat → Int} {s0 w1 w2 b x z y : Int} (hs0 : 0 ≤ s0) (hs : s0 ≤ 4095) (a0 : -2147483648 ≤ w1) (a1 : w1 ≤ 2147483647) (c0 : 0 ≤ w2) (c1 : w2 ≤ 63) (d0 : 0 ≤ b) (d1 : b ≤ 63) (e1 : Int32.ofInt w1 = Int32.ofInt s0 >>> (Int32.ofInt 6 &&& 31)) (e2 : Int32.ofInt w2 = Int32.ofInt w1 &&& Int32.ofInt 63) (e3 : Int32.ofInt b = Int32.ofInt s0 &&& Int32.ofInt 63) (e4 : Int64.ofInt z = Int64.ofInt 1 <<< ((Int32.ofInt b).toInt64 &&& 63)) (hx : x = m w2.toNat) (e5 : Int64.ofInt y = Int64.ofInt x ||| Int64.ofInt z) (hm : m' = yq_set m w2.toNat y) : ∀ s : Nat, s < 4096 → yw_mk m' s = (yw_mk m s || decide (s = s0.toNat)) := by
  intro s hs4
  have q1 := yw_hi hs0 hs a0 a1 c0 c1 e1 e2
  have q2 := yw_and63 hs0 hs d0 d1 e3
  unfold yw_mk
  rw [hm]
  unfold yq_set
  by_cases h : s / 64 = w2.toNat
  · rw [if_pos h, e5, show (Int64.ofInt x ||| Int64.ofInt z).toBitVec = (Int64.ofInt x).toBitVec ||| (Int64.ofInt z).toBitVec from rfl, BitVec.getLsbD_or, yw_one d0 d1 e4, hx, h]
    congr 1
    exact yw_dec (by omega)
  · rw [if_neg h, show (decide (s = s0.toNat) : Bool) = false from decide_eq_false (by omega), Bool.or_false]
theorem yw_mkr {m : Nat → Int} {s0 w1 w2 b x q t : Int} (hs0 : 0 ≤ s0) (hs : s0 ≤ 4095) (a0 : -2147483648 ≤ w1) (a1 : w1 ≤ 2147483647) (c0 : 0 ≤ w2) (c1 : w2 ≤ 63) (d0 : 0 ≤ b) (d1 : b ≤ 63) (t0 : 0 ≤ t) (t1 : t ≤ 1) (e1 : Int32.ofInt w1 = Int32.ofInt s0 >>> (Int32.ofInt 6 &&& 31)) (e2 : Int32.ofInt w2 = Int32.ofInt w1 &&& Int32.ofInt 63) (hx : x = m w2.toNat) (e3 : Int32.ofInt b = Int32.ofInt s0 &&& Int32.ofInt 63) (e4 : Int64.ofInt q = Int64.ofInt x >>> ((Int32.ofInt b).toInt64 &&& 63)) (e5 : Int64.ofInt t = Int64.ofInt q &&& Int64.ofInt 1) : t = if yw_mk m s0.toNat = true then 1 else 0 := by
  have q1 := yw_hi hs0 hs a0 a1 c0 c1 e1 e2
  have q2 := yw_and63 hs0 hs d0 d1 e3
  have h := of_decide_eq_true (List.all_eq_true.mp yw_ck2_ok b.toNat (List.mem_range.mpr (by omega)))
  rw [show ((b.toNat : Nat) : Int) = b by omega] at h
  have hq : (Int64.ofInt q).toBitVec.getLsbD 0 = yw_mk m s0.toNat := by
    rw [e4, show (Int64.ofInt x >>> ((Int32.ofInt b).toInt64 &&& 63)).toBitVec = BitVec.sshiftRight' (Int64.ofInt x).toBitVec (((Int32.ofInt b).toInt64 &&& 63).toBitVec.smod 64) from rfl, BitVec.getLsbD_sshiftRight', h]
    unfold yw_mk
    rw [show (decide (64 ≤ 0) : Bool) = false from rfl, if_pos (by omega), hx, show s0.toNat / 64 = w2.toNat by omega, show s0.toNat % 64 = b.toNat by omega, Nat.add_zero]
    rfl
  have ht : (Int64.ofInt t).toBitVec.getLsbD 0 = (yw_mk m s0.toNat && true) := by
    rw [e5, show (Int64.ofInt q &&& Int64.ofInt 1).toBitVec = (Int64.ofInt q).toBitVec &&& (Int64.ofInt 1).toBitVec from rfl, BitVec.getLsbD_and, hq]
    rfl
  rw [Bool.and_true] at ht
  rw [← ht]
  rcases (show t = 0 ∨ t = 1 by omega) with z | z
  · rw [z]
    rfl
  · rw [z]
    rfl
