/-! how many bits a long has -/
noncomputable def yw_U (z : Int) : Nat := (z % 18446744073709551616).toNat
theorem yw_Ub (z : Int) : (Int64.ofInt z).toBitVec.toNat = yw_U z := by
  rw [Int64.toBitVec_ofInt, BitVec.toNat_ofInt]
  rfl
theorem yw_Us {z x k : Int} {n : Nat} (hk : (((Int32.ofInt k).toInt64.toUInt64 &&& Int64.toUInt64 63).toBitVec % 64).toNat = n) (h : Int64.ofInt z = ((Int64.ofInt x).toUInt64 >>> ((Int32.ofInt k).toInt64.toUInt64 &&& Int64.toUInt64 63)).toInt64) : yw_U z = yw_U x / 2 ^ n := by
  rw [← yw_Ub z, h, show (((Int64.ofInt x).toUInt64 >>> ((Int32.ofInt k).toInt64.toUInt64 &&& Int64.toUInt64 63)).toInt64).toBitVec = (Int64.ofInt x).toBitVec >>> (((Int32.ofInt k).toInt64.toUInt64 &&& Int64.toUInt64 63).toBitVec % 64) from rfl, BitVec.ushiftRight_eq', BitVec.toNat_ushiftRight, hk, Nat.shiftRight_eq_div_pow, yw_Ub]
theorem yw_Ua {z x c : Int} (h : Int64.ofInt z = Int64.ofInt x &&& Int64.ofInt c) : yw_U z = yw_U x &&& yw_U c := by
  rw [← yw_Ub z, h, show (Int64.ofInt x &&& Int64.ofInt c).toBitVec = (Int64.ofInt x).toBitVec &&& (Int64.ofInt c).toBitVec from rfl, BitVec.toNat_and, yw_Ub, yw_Ub]
theorem yw_bme (x : Int) : x.bmod Int64.size % 18446744073709551616 = x % 18446744073709551616 := by
  rw [show (18446744073709551616 : Int) = ((Int64.size : Nat) : Int) from rfl]
  exact Int.bmod_emod
theorem yw_Up {z x y : Int} (h : z = (x + y).bmod Int64.size) : yw_U z = (yw_U x + yw_U y) % 18446744073709551616 := by
  have h2 := yw_bme (x + y)
  rw [← h] at h2
  unfold yw_U
  omega
theorem yw_Um {z x y : Int} (h : z = (x - y).bmod Int64.size) (hl : yw_U y ≤ yw_U x) : yw_U z = yw_U x - yw_U y := by
  have h2 := yw_bme (x - y)
  rw [← h] at h2
  unfold yw_U at *
  omega
noncomputable def yw_m5 : Nat → Nat
  | 0 => 0
  | k + 1 => 85 + 256 * yw_m5 k
noncomputable def yw_m3 : Nat → Nat
  | 0 => 0
  | k + 1 => 51 + 256 * yw_m3 k
noncomputable def yw_mf : Nat → Nat
  | 0 => 0
  | k + 1 => 15 + 256 * yw_mf k
noncomputable def yw_t1 (k x : Nat) : Nat := x - (x / 2 &&& yw_m5 k)
noncomputable def yw_t2 (k x : Nat) : Nat := (x &&& yw_m3 k) + (x / 4 &&& yw_m3 k)
noncomputable def yw_t3 (k x : Nat) : Nat := (x + x / 16) &&& yw_mf k
noncomputable def yw_b1 (a : Nat) : Nat := a - (a / 2 &&& 85)
noncomputable def yw_b2 (a : Nat) : Nat := (a &&& 51) + (a / 4 &&& 51)
noncomputable def yw_b3 (a : Nat) : Nat := (a + a / 16) &&& 15
noncomputable def yw_p8 (a : Nat) : Nat := yw_b3 (yw_b2 (yw_b1 a))
theorem yw_an {a m y M : Nat} (ha : a < 256) (hm : m < 256) : (a + 256 * y) &&& (m + 256 * M) = (a &&& m) + 256 * (y &&& M) := by
  have h1 := Nat.and_mod_two_pow (a := a + 256 * y) (b := m + 256 * M) (n := 8)
  have h2 := Nat.and_div_two_pow (a := a + 256 * y) (b := m + 256 * M) (n := 8)
  rw [show (2 : Nat) ^ 8 = 256 from rfl] at h1 h2
  rw [show (a + 256 * y) % 256 = a by omega, show (m + 256 * M) % 256 = m by omega] at h1
  rw [show (a + 256 * y) / 256 = y by omega, show (m + 256 * M) / 256 = M by omega] at h2
  rw [← h1, ← h2]
  exact (Nat.mod_add_div _ 256).symm
noncomputable def yw_c1 : Bool := (List.range 256).all fun a => (List.range 4).all fun b => decide (((a / 2 + 128 * (b % 2)) &&& 85) = (a / 2 &&& 85)) && decide (((a / 4 + 64 * b) &&& 51) = (a / 4 &&& 51))
theorem yw_c1_ok : yw_c1 = true := by decide +kernel
theorem yw_c1_e {a b : Nat} (ha : a < 256) (hb : b < 4) : ((a / 2 + 128 * (b % 2)) &&& 85) = (a / 2 &&& 85) ∧ ((a / 4 + 64 * b) &&& 51) = (a / 4 &&& 51) := by
  have h := List.all_eq_true.mp (List.all_eq_true.mp yw_c1_ok a (List.mem_range.mpr ha)) b (List.mem_range.mpr hb)
  rw [Bool.and_eq_true] at h
  exact ⟨of_decide_eq_true h.1, of_decide_eq_true h.2⟩
noncomputable def yw_c5 : Bool := (List.range 256).all fun a => decide (yw_b1 a < 256) && (decide (yw_b2 (yw_b1 a) ≤ 68) && (decide (yw_b2 (yw_b1 a) % 16 ≤ 4) && (decide (yw_p8 a ≤ 8) && decide ((yw_p8 a : Int) = yb_ct (fun j => a.testBit j) 8))))
theorem yw_c5_ok : yw_c5 = true := by decide +kernel
theorem yw_c5_e {a : Nat} (ha : a < 256) : yw_b1 a < 256 ∧ yw_b2 (yw_b1 a) ≤ 68 ∧ yw_b2 (yw_b1 a) % 16 ≤ 4 ∧ yw_p8 a ≤ 8 ∧ (yw_p8 a : Int) = yb_ct (fun j => a.testBit j) 8 := by
  have h := List.all_eq_true.mp yw_c5_ok a (List.mem_range.mpr ha)
  rw [Bool.and_eq_true, Bool.and_eq_true, Bool.and_eq_true, Bool.and_eq_true] at h
  exact ⟨of_decide_eq_true h.1, of_decide_eq_true h.2.1, of_decide_eq_true h.2.2.1, of_decide_eq_true h.2.2.2.1, of_decide_eq_true h.2.2.2.2⟩
theorem yw_t1s {k a y : Nat} (ha : a < 256) : yw_t1 (k + 1) (a + 256 * y) = yw_b1 a + 256 * yw_t1 k y := by
  have h1 := (yw_c1_e (b := y % 2) ha (by omega)).1
  rw [Nat.mod_mod] at h1
  have h2 := Nat.and_le_left (n := a / 2) (m := 85)
  have h3 := Nat.and_le_left (n := y / 2) (m := yw_m5 k)
  unfold yw_t1 yw_b1
  show (a + 256 * y) - ((a + 256 * y) / 2 &&& (85 + 256 * yw_m5 k)) = _
  rw [show (a + 256 * y) / 2 = (a / 2 + 128 * (y % 2)) + 256 * (y / 2) by omega, yw_an (by omega) (by decide), h1]
  omega
theorem yw_t2s {k a y : Nat} (ha : a < 256) : yw_t2 (k + 1) (a + 256 * y) = yw_b2 a + 256 * yw_t2 k y := by
  have h1 := (yw_c1_e (b := y % 4) ha (by omega)).2
  unfold yw_t2 yw_b2
  show ((a + 256 * y) &&& (51 + 256 * yw_m3 k)) + ((a + 256 * y) / 4 &&& (51 + 256 * yw_m3 k)) = _
  rw [show (a + 256 * y) / 4 = (a / 4 + 64 * (y % 4)) + 256 * (y / 4) by omega, yw_an ha (by decide), yw_an (by omega) (by decide), h1]
  omega
theorem yw_t3s {k a y : Nat} (ha : a ≤ 68) (hy : y % 16 ≤ 4) : yw_t3 (k + 1) (a + 256 * y) = yw_b3 a + 256 * yw_t3 k y := by
  have h1 := Nat.and_two_pow_sub_one_eq_mod (a + a / 16 + 16 * (y % 16)) 4
  have h2 := Nat.and_two_pow_sub_one_eq_mod (a + a / 16) 4
  rw [show (2 : Nat) ^ 4 - 1 = 15 from rfl, show (2 : Nat) ^ 4 = 16 from rfl] at h1 h2
  unfold yw_t3 yw_b3
  show ((a + 256 * y) + (a + 256 * y) / 16) &&& (15 + 256 * yw_mf k) = _
  rw [show (a + 256 * y) + (a + 256 * y) / 16 = (a + a / 16 + 16 * (y % 16)) + 256 * (y + y / 16) by omega, yw_an (by omega) (by decide), h1, h2, show (a + a / 16 + 16 * (y % 16)) % 16 = (a + a / 16) % 16 by omega]
theorem yw_sp (x : Nat) : x = x % 256 + 256 * (x / 256) := (Nat.mod_add_div x 256).symm
theorem yw_lo : ∀ k x : Nat, yw_t2 k (yw_t1 k x) % 16 ≤ 4
  | 0, x => by
    unfold yw_t2
    show ((yw_t1 0 x &&& 0) + (yw_t1 0 x / 4 &&& 0)) % 16 ≤ 4
    rw [Nat.and_zero, Nat.and_zero]
    decide
  | k + 1, x => by
    have h := yw_c5_e (a := x % 256) (by omega)
    rw [yw_sp x, yw_t1s (by omega), yw_t2s h.1]
    omega
noncomputable def yw_pk : Nat → Nat → Nat
  | 0, _ => 0
  | k + 1, x => yw_p8 (x % 256) + 256 * yw_pk k (x / 256)
noncomputable def yw_sm : Nat → Nat → Nat
  | 0, _ => 0
  | k + 1, x => yw_p8 (x % 256) + yw_sm k (x / 256)
theorem yw_gk : ∀ k x : Nat, yw_t3 k (yw_t2 k (yw_t1 k x)) = yw_pk k x
  | 0, x => by
    unfold yw_t3
    show _ &&& 0 = 0
    rw [Nat.and_zero]
  | k + 1, x => by
    have h := yw_c5_e (a := x % 256) (by omega)
    have e : yw_t3 (k + 1) (yw_t2 (k + 1) (yw_t1 (k + 1) (x % 256 + 256 * (x / 256)))) = yw_p8 (x % 256) + 256 * yw_pk k (x / 256) := by
      rw [yw_t1s (by omega), yw_t2s h.1, yw_t3s h.2.1 (yw_lo _ _), yw_gk k]
      rfl
    rw [← yw_sp x] at e
    exact e
theorem yw_cta (p : Nat → Bool) (a : Nat) : ∀ b : Nat, yb_ct p (a + b) = yb_ct p a + yb_ct (fun j => p (a + j)) b
  | 0 => (Int.add_zero _).symm
  | b + 1 => by
    show yb_ct p (a + b) + (if p (a + b) = true then 1 else 0) = yb_ct p a + (yb_ct (fun j => p (a + j)) b + if p (a + b) = true then 1 else 0)
    rw [yw_cta p a b, Int.add_assoc]
theorem yw_smc : ∀ k x : Nat, (yw_sm k x : Int) = yb_ct (fun j => x.testBit j) (8 * k)
  | 0, _ => rfl
  | k + 1, x => by
    have h := (yw_c5_e (a := x % 256) (by omega)).2.2.2.2
    rw [show 8 * (k + 1) = 8 + 8 * k by omega, yw_cta]
    have e1 : yb_ct (fun j => x.testBit j) 8 = yb_ct (fun j => (x % 256).testBit j) 8 := yb_ct_eq 8 fun j hj => by
      show x.testBit j = (x % 256).testBit j
      rw [show (256 : Nat) = 2 ^ 8 from rfl, Nat.testBit_mod_two_pow, decide_eq_true hj, Bool.true_and]
    have e2 : (fun j => x.testBit (8 + j)) = fun j => (x / 256).testBit j := funext fun j => by
      rw [show x / 256 = x >>> 8 from (Nat.shiftRight_eq_div_pow x 8).symm, Nat.testBit_shiftRight]
    rw [e1, ← h, e2, ← yw_smc k]
    show ((yw_p8 (x % 256) + yw_sm k (x / 256) : Nat) : Int) = _
    omega
theorem yw_fa {p q v a : Nat} (hp : p ≤ 8) (hv : v = p + 256 * q) (ha : a = v / 256) : a = q := by omega
theorem yw_fb {v a b : Nat} (h : v + a < 18446744073709551616) (hb : b = (v + a) % 18446744073709551616) : b = v + a := by rw [hb, Nat.mod_eq_of_lt h]
theorem yw_fc {p q b c : Nat} (hp : p < 65536) (hb : b = p + 65536 * q) (hc : c = b / 65536) : c = q := by omega
theorem yw_fe {p q d e : Nat} (hp : p < 4294967296) (hd : d = p + 4294967296 * q) (he : e = d / 4294967296) : e = q := by omega
theorem yw_fg {p q f : Nat} (hp : p < 128) (hf : f = p + 128 * q) : f % 128 = p := by omega
theorem yw_zl1 {p0 p1 p2 p3 p4 p5 p6 p7 : Nat} (h0 : p0 ≤ 8) (h1 : p1 ≤ 8) (h2 : p2 ≤ 8) (h3 : p3 ≤ 8) (h4 : p4 ≤ 8) (h5 : p5 ≤ 8) (h6 : p6 ≤ 8) (h7 : p7 ≤ 8) : p0 + 256 * (p1 + 256 * (p2 + 256 * (p3 + 256 * (p4 + 256 * (p5 + 256 * (p6 + 256 * (p7 + 256 * 0))))))) + (p1 + 256 * (p2 + 256 * (p3 + 256 * (p4 + 256 * (p5 + 256 * (p6 + 256 * (p7 + 256 * 0))))))) < 18446744073709551616 := by omega
theorem yw_zl2 (p0 p1 p2 p3 p4 p5 p6 p7 : Nat) : p0 + 256 * (p1 + 256 * (p2 + 256 * (p3 + 256 * (p4 + 256 * (p5 + 256 * (p6 + 256 * (p7 + 256 * 0))))))) + (p1 + 256 * (p2 + 256 * (p3 + 256 * (p4 + 256 * (p5 + 256 * (p6 + 256 * (p7 + 256 * 0))))))) = (p0 + p1 + 256 * (p1 + p2)) + 65536 * ((p2 + p3) + 256 * (p3 + p4) + 65536 * (p4 + p5) + 16777216 * (p5 + p6) + 4294967296 * (p6 + p7) + 1099511627776 * p7) := by omega
theorem yw_zl3 {p0 p1 p2 : Nat} (h0 : p0 ≤ 8) (h1 : p1 ≤ 8) (h2 : p2 ≤ 8) : p0 + p1 + 256 * (p1 + p2) < 65536 := by omega
theorem yw_zl4 {p0 p1 p2 p3 p4 p5 p6 p7 : Nat} (h0 : p0 ≤ 8) (h1 : p1 ≤ 8) (h2 : p2 ≤ 8) (h3 : p3 ≤ 8) (h4 : p4 ≤ 8) (h5 : p5 ≤ 8) (h6 : p6 ≤ 8) (h7 : p7 ≤ 8) : (p0 + p1 + 256 * (p1 + p2)) + 65536 * ((p2 + p3) + 256 * (p3 + p4) + 65536 * (p4 + p5) + 16777216 * (p5 + p6) + 4294967296 * (p6 + p7) + 1099511627776 * p7) + ((p2 + p3) + 256 * (p3 + p4) + 65536 * (p4 + p5) + 16777216 * (p5 + p6) + 4294967296 * (p6 + p7) + 1099511627776 * p7) < 18446744073709551616 := by omega
theorem yw_zl5 (p0 p1 p2 p3 p4 p5 p6 p7 : Nat) : (p0 + p1 + 256 * (p1 + p2)) + 65536 * ((p2 + p3) + 256 * (p3 + p4) + 65536 * (p4 + p5) + 16777216 * (p5 + p6) + 4294967296 * (p6 + p7) + 1099511627776 * p7) + ((p2 + p3) + 256 * (p3 + p4) + 65536 * (p4 + p5) + 16777216 * (p5 + p6) + 4294967296 * (p6 + p7) + 1099511627776 * p7) = ((p0 + p1 + p2 + p3) + 256 * (p1 + p2 + p3 + p4) + 65536 * (p2 + p3 + p4 + p5) + 16777216 * (p3 + p4 + p5 + p6)) + 4294967296 * ((p4 + p5 + p6 + p7) + 256 * (p5 + p6 + p7) + 65536 * (p6 + p7) + 16777216 * p7) := by omega
theorem yw_zl6 {p0 p1 p2 p3 p4 p5 p6 p7 : Nat} (h0 : p0 ≤ 8) (h1 : p1 ≤ 8) (h2 : p2 ≤ 8) (h3 : p3 ≤ 8) (h4 : p4 ≤ 8) (h5 : p5 ≤ 8) (h6 : p6 ≤ 8) (h7 : p7 ≤ 8) : (p0 + p1 + p2 + p3) + 256 * (p1 + p2 + p3 + p4) + 65536 * (p2 + p3 + p4 + p5) + 16777216 * (p3 + p4 + p5 + p6) < 4294967296 := by omega
theorem yw_zl7 {p0 p1 p2 p3 p4 p5 p6 p7 : Nat} (h0 : p0 ≤ 8) (h1 : p1 ≤ 8) (h2 : p2 ≤ 8) (h3 : p3 ≤ 8) (h4 : p4 ≤ 8) (h5 : p5 ≤ 8) (h6 : p6 ≤ 8) (h7 : p7 ≤ 8) : ((p0 + p1 + p2 + p3) + 256 * (p1 + p2 + p3 + p4) + 65536 * (p2 + p3 + p4 + p5) + 16777216 * (p3 + p4 + p5 + p6)) + 4294967296 * ((p4 + p5 + p6 + p7) + 256 * (p5 + p6 + p7) + 65536 * (p6 + p7) + 16777216 * p7) + ((p4 + p5 + p6 + p7) + 256 * (p5 + p6 + p7) + 65536 * (p6 + p7) + 16777216 * p7) < 18446744073709551616 := by omega
theorem yw_zl8 (p0 p1 p2 p3 p4 p5 p6 p7 : Nat) : ((p0 + p1 + p2 + p3) + 256 * (p1 + p2 + p3 + p4) + 65536 * (p2 + p3 + p4 + p5) + 16777216 * (p3 + p4 + p5 + p6)) + 4294967296 * ((p4 + p5 + p6 + p7) + 256 * (p5 + p6 + p7) + 65536 * (p6 + p7) + 16777216 * p7) + ((p4 + p5 + p6 + p7) + 256 * (p5 + p6 + p7) + 65536 * (p6 + p7) + 16777216 * p7) = (p0 + p1 + p2 + p3 + p4 + p5 + p6 + p7) + 128 * (2 * (p1 + p2 + p3 + p4 + p5 + p6 + p7) + 512 * (p2 + p3 + p4 + p5 + p6 + p7) + 131072 * (p3 + p4 + p5 + p6 + p7) + 33554432 * (p4 + p5 + p6 + p7) + 8589934592 * (p5 + p6 + p7) + 2199023255552 * (p6 + p7) + 562949953421312 * p7) := by omega
theorem yw_zl9 {p0 p1 p2 p3 p4 p5 p6 p7 : Nat} (h0 : p0 ≤ 8) (h1 : p1 ≤ 8) (h2 : p2 ≤ 8) (h3 : p3 ≤ 8) (h4 : p4 ≤ 8) (h5 : p5 ≤ 8) (h6 : p6 ≤ 8) (h7 : p7 ≤ 8) : p0 + p1 + p2 + p3 + p4 + p5 + p6 + p7 < 128 := by omega
theorem yw_as (p0 p1 p2 p3 p4 p5 p6 p7 : Nat) : p0 + p1 + p2 + p3 + p4 + p5 + p6 + p7 = p0 + (p1 + (p2 + (p3 + (p4 + (p5 + (p6 + (p7 + 0))))))) := by omega
theorem yw_us {r4 r6 : Int} (b4 : 0 ≤ r4) (c4 : r4 ≤ 3689348814741910323) (b6 : 0 ≤ r6) (c6 : r6 ≤ 3689348814741910323) : yw_U (r6 + r4) = yw_U r4 + yw_U r6 ∧ yw_U (r6 + r4) ≤ 7378697629483820646 := by
  unfold yw_U
  omega
theorem yw_zl16 {z : Nat} (h : z ≤ 7378697629483820646) : z + z / 16 < 18446744073709551616 := by omega
theorem yw_fin {p0 p1 p2 p3 p4 p5 p6 p7 v a b c d e f : Nat} (h0 : p0 ≤ 8) (h1 : p1 ≤ 8) (h2 : p2 ≤ 8) (h3 : p3 ≤ 8) (h4 : p4 ≤ 8) (h5 : p5 ≤ 8) (h6 : p6 ≤ 8) (h7 : p7 ≤ 8) (hv : v = p0 + 256 * (p1 + 256 * (p2 + 256 * (p3 + 256 * (p4 + 256 * (p5 + 256 * (p6 + 256 * (p7 + 256 * 0)))))))) (ha : a = v / 256) (hb : b = (v + a) % 18446744073709551616) (hc : c = b / 65536) (hd : d = (b + c) % 18446744073709551616) (he : e = d / 4294967296) (hf : f = (d + e) % 18446744073709551616) : f % 128 = p0 + p1 + p2 + p3 + p4 + p5 + p6 + p7 := by
  have a' := yw_fa h0 hv ha
  have b' := yw_fb (by rw [a', hv]; exact yw_zl1 h0 h1 h2 h3 h4 h5 h6 h7) hb
  rw [a', hv, yw_zl2 p0 p1 p2 p3 p4 p5 p6 p7] at b'
  have c' := yw_fc (yw_zl3 h0 h1 h2) b' hc
  have d' := yw_fb (by rw [c', b']; exact yw_zl4 h0 h1 h2 h3 h4 h5 h6 h7) hd
  rw [c', b', yw_zl5 p0 p1 p2 p3 p4 p5 p6 p7] at d'
  have e' := yw_fe (yw_zl6 h0 h1 h2 h3 h4 h5 h6 h7) d' he
  have f' := yw_fb (by rw [e', d']; exact yw_zl7 h0 h1 h2 h3 h4 h5 h6 h7) hf
  rw [e', d', yw_zl8 p0 p1 p2 p3 p4 p5 p6 p7] at f'
  exact yw_fg (yw_zl9 h0 h1 h2 h3 h4 h5 h6 h7) f'
theorem yw_i7 {r15 r16 r17 : Int} (h0 : 0 ≤ r17) (h1 : r17 ≤ 127) (e16 : r16 = (Int32.ofInt r15).toInt) (e17 : Int32.ofInt r17 = Int32.ofInt r16 &&& Int32.ofInt 127) : r17 = ((yw_U r15 % 128 : Nat) : Int) := by
  rw [e16, Int32.ofInt_toInt] at e17
  have k := congrArg (fun z : Int32 => z.toBitVec.toNat) e17
  have k : (Int32.ofInt r17).toBitVec.toNat = (Int32.ofInt r15 &&& Int32.ofInt 127).toBitVec.toNat := k
  rw [show (Int32.ofInt r15 &&& Int32.ofInt 127).toBitVec = (Int32.ofInt r15).toBitVec &&& (Int32.ofInt 127).toBitVec from rfl, BitVec.toNat_and, Int32.toBitVec_ofInt, Int32.toBitVec_ofInt, BitVec.toNat_ofInt, BitVec.toNat_ofInt, show (Int32.ofInt 127).toBitVec.toNat = 2 ^ 7 - 1 from rfl, Nat.and_two_pow_sub_one_eq_mod] at k
  unfold yw_U
  omega
theorem yw_bc {r0 r1 r2 r3 r4 r5 r6 r7 r8 r9 r10 r11 r12 r13 r14 r15 r16 r17 : Int} (b4 : 0 ≤ r4) (c4 : r4 ≤ 3689348814741910323) (b6 : 0 ≤ r6) (c6 : r6 ≤ 3689348814741910323) (b17 : 0 ≤ r17) (c17 : r17 ≤ 127)
    (e1 : Int64.ofInt r1 = ((Int64.ofInt r0).toUInt64 >>> ((Int32.ofInt 1).toInt64.toUInt64 &&& Int64.toUInt64 63)).toInt64) (e2 : Int64.ofInt r2 = Int64.ofInt r1 &&& Int64.ofInt 6148914691236517205) (e3 : r3 = (r0 - r2).bmod Int64.size)
    (e4 : Int64.ofInt r4 = Int64.ofInt r3 &&& Int64.ofInt 3689348814741910323) (e5 : Int64.ofInt r5 = ((Int64.ofInt r3).toUInt64 >>> ((Int32.ofInt 2).toInt64.toUInt64 &&& Int64.toUInt64 63)).toInt64) (e6 : Int64.ofInt r6 = Int64.ofInt r5 &&& Int64.ofInt 3689348814741910323)
    (e7 : Int64.ofInt r7 = ((Int64.ofInt (r6 + r4)).toUInt64 >>> ((Int32.ofInt 4).toInt64.toUInt64 &&& Int64.toUInt64 63)).toInt64) (e8 : r8 = (r6 + r4 + r7).bmod Int64.size) (e9 : Int64.ofInt r9 = Int64.ofInt r8 &&& Int64.ofInt 1085102592571150095)
    (e10 : Int64.ofInt r10 = ((Int64.ofInt r9).toUInt64 >>> ((Int32.ofInt 8).toInt64.toUInt64 &&& Int64.toUInt64 63)).toInt64) (e11 : r11 = (r9 + r10).bmod Int64.size) (e12 : Int64.ofInt r12 = ((Int64.ofInt r11).toUInt64 >>> ((Int32.ofInt 16).toInt64.toUInt64 &&& Int64.toUInt64 63)).toInt64) (e13 : r13 = (r11 + r12).bmod Int64.size)
    (e14 : Int64.ofInt r14 = ((Int64.ofInt r13).toUInt64 >>> ((Int32.ofInt 32).toInt64.toUInt64 &&& Int64.toUInt64 63)).toInt64) (e15 : r15 = (r13 + r14).bmod Int64.size) (e16 : r16 = (Int32.ofInt r15).toInt) (e17 : Int32.ofInt r17 = Int32.ofInt r16 &&& Int32.ofInt 127) : r17 = yb_ct (fun j => (Int64.ofInt r0).toBitVec.getLsbD j) 64 := by
  have u1 := yw_Us (n := 1) (by decide +kernel) e1
  have u2 := yw_Ua e2
  rw [show yw_U 6148914691236517205 = yw_m5 8 by decide +kernel, u1, show (2 : Nat) ^ 1 = 2 from rfl] at u2
  have u3 := yw_Um e3 (by
    have h := Nat.and_le_left (n := yw_U r0 / 2) (m := yw_m5 8)
    omega)
  rw [u2] at u3
  have u3 : yw_U r3 = yw_t1 8 (yw_U r0) := u3
  have u4 := yw_Ua e4
  rw [show yw_U 3689348814741910323 = yw_m3 8 by decide +kernel] at u4
  have u5 := yw_Us (n := 2) (by decide +kernel) e5
  have u6 := yw_Ua e6
  rw [show yw_U 3689348814741910323 = yw_m3 8 by decide +kernel, u5, show (2 : Nat) ^ 2 = 4 from rfl] at u6
  have us := (yw_us b4 c4 b6 c6).1
  have ul := (yw_us b4 c4 b6 c6).2
  rw [u4, u6, u3] at us
  have us : yw_U (r6 + r4) = yw_t2 8 (yw_t1 8 (yw_U r0)) := us
  have u7 := yw_Us (n := 4) (by decide +kernel) e7
  have u8 := yw_Up e8
  rw [u7, show (2 : Nat) ^ 4 = 16 from rfl, Nat.mod_eq_of_lt (yw_zl16 ul)] at u8
  have u9 := yw_Ua e9
  rw [show yw_U 1085102592571150095 = yw_mf 8 by decide +kernel, u8, us] at u9
  have u9 : yw_U r9 = yw_t3 8 (yw_t2 8 (yw_t1 8 (yw_U r0))) := u9
  rw [yw_gk] at u9
  have u10 := yw_Us (n := 8) (by decide +kernel) e10
  have u11 := yw_Up e11
  have u12 := yw_Us (n := 16) (by decide +kernel) e12
  have u13 := yw_Up e13
  have u14 := yw_Us (n := 32) (by decide +kernel) e14
  have u15 := yw_Up e15
  have hp : ∀ z : Nat, yw_p8 (z % 256) ≤ 8 := fun z => (yw_c5_e (a := z % 256) (by omega)).2.2.2.1
  have hf := yw_fin (hp _) (hp _) (hp _) (hp _) (hp _) (hp _) (hp _) (hp _) (show yw_U r9 = yw_p8 (yw_U r0 % 256) + 256 * (yw_p8 (yw_U r0 / 256 % 256) + 256 * (yw_p8 (yw_U r0 / 256 / 256 % 256) + 256 * (yw_p8 (yw_U r0 / 256 / 256 / 256 % 256) + 256 * (yw_p8 (yw_U r0 / 256 / 256 / 256 / 256 % 256) + 256 * (yw_p8 (yw_U r0 / 256 / 256 / 256 / 256 / 256 % 256) + 256 * (yw_p8 (yw_U r0 / 256 / 256 / 256 / 256 / 256 / 256 % 256) + 256 * (yw_p8 (yw_U r0 / 256 / 256 / 256 / 256 / 256 / 256 / 256 % 256) + 256 * 0))))))) from u9) u10 u11 u12 u13 u14 u15
  have hs : yw_U r15 % 128 = yw_sm 8 (yw_U r0) := by
    rw [hf]
    show _ = yw_p8 (yw_U r0 % 256) + (yw_p8 (yw_U r0 / 256 % 256) + (yw_p8 (yw_U r0 / 256 / 256 % 256) + (yw_p8 (yw_U r0 / 256 / 256 / 256 % 256) + (yw_p8 (yw_U r0 / 256 / 256 / 256 / 256 % 256) + (yw_p8 (yw_U r0 / 256 / 256 / 256 / 256 / 256 % 256) + (yw_p8 (yw_U r0 / 256 / 256 / 256 / 256 / 256 / 256 % 256) + (yw_p8 (yw_U r0 / 256 / 256 / 256 / 256 / 256 / 256 / 256 % 256) + 0)))))))
    exact yw_as _ _ _ _ _ _ _ _
  rw [yw_i7 b17 c17 e16 e17, hs, yw_smc 8]
  refine yb_ct_eq _ fun j _ => ?_
  show (yw_U r0).testBit j = (Int64.ofInt r0).toBitVec.getLsbD j
  rw [← yw_Ub, BitVec.testBit_toNat]
theorem yw_tal {m : Nat → Int} {w s b : Int} (hw : 0 ≤ w) (h : s = yb_ct (yw_mk m) (64 * w.toNat)) (hb : b = yb_ct (fun j => (Int64.ofInt (m w.toNat)).toBitVec.getLsbD j) 64) : s + b = yb_ct (yw_mk m) (64 * (w + 1).toNat) := by
  rw [show 64 * (w + 1).toNat = 64 * w.toNat + 64 by omega, yw_cta, ← h, hb]
  congr 1
  refine yb_ct_eq _ fun j hj => ?_
  show _ = (Int64.ofInt (m ((64 * w.toNat + j) / 64))).toBitVec.getLsbD ((64 * w.toNat + j) % 64)
  rw [show (64 * w.toNat + j) / 64 = w.toNat by omega, show (64 * w.toNat + j) % 64 = j by omega]
theorem yw_RRw {x y : Nat → Int} {n s : Nat} (hnr : yw_nr x y n) : yw_RR x y (fun j => (2 ^ n - 1).testBit j = true) (2 ^ n - 1) s ↔ yw_wy x y n s := by
  by_cases hs : s < 2 ^ n
  · exact yw_RRC hnr hs
  · have h1 : 1 ≤ 2 ^ n := Nat.one_le_two_pow
    constructor
    · rintro (z | z | ⟨a, b, _, _, _, i, _, _, h⟩)
      · exfalso
        omega
      · exfalso
        omega
      · have key : ∀ q : Nat → Bool, yw_bits s (fun j => (2 ^ n - 1).testBit j = true ∧ q j = true) → s < 2 ^ n := fun q k => Nat.lt_pow_two_of_testBit s fun j hj => by
          cases e : s.testBit j
          · rfl
          · have := (yw_alb _).mp ((k j).mp e).1
            omega
        rcases h with h | h | h | h <;> exact absurd (key _ h) hs
    · rintro ⟨p, e, _⟩
      have := yb_st_lt p n
      omega
noncomputable def yw_wok (N n : Int) : Prop := 0 ≤ n ∧ n ≤ 12 ∧ n ≤ N
noncomputable def yw_wans (x y : Nat → Int) (N n a : Int) : Prop := (¬ yw_wok N n → a = -1) ∧ (yw_wok N n → ∃ q : Nat → Bool, (∀ s : Nat, s < 4096 → (q s = true ↔ yw_wy x y n.toNat s)) ∧ a = yb_ct q 4096)
theorem yw_wans_u {x y X Y : Nat → Int} {N n a b : Int} (hx : ∀ j : Nat, (j : Int) < N → x j = X j) (hy : ∀ j : Nat, (j : Int) < N → y j = Y j) (h1 : yw_wans x y N n a) (h2 : yw_wans X Y N n b) : a = b := by
  by_cases ok : yw_wok N n
  · obtain ⟨q, a1, a2⟩ := h1.2 ok
    obtain ⟨q', b1, b2⟩ := h2.2 ok
    have o3 := ok.2.2
    rw [a2, b2]
    refine yb_ct_eq _ fun s hs => ?_
    have k := (a1 s hs).trans ((yw_wy_e (fun j hj => hx j (by omega)) (fun j hj => hy j (by omega))).trans (b1 s hs).symm)
    cases e1 : q s
    · cases e2 : q' s
      · rfl
      · exact absurd (e1.symm.trans (k.mpr e2)) (by decide)
    · exact (k.mp e1).symm
  · rw [h1.1 ok, h2.1 ok]
theorem yw_cds {f : Nat → Int} {i m a b : Int} (hi : 0 ≤ i) (hm : m = i + 1) (h : a = yb_ct (fun s => decide (f s = 1)) i.toNat) (hb : (f i.toNat = 1 ∧ b = a + 1) ∨ (f i.toNat ≠ 1 ∧ b = a)) : b = yb_ct (fun s => decide (f s = 1)) m.toNat := by
  rw [show m.toNat = i.toNat + 1 by omega]
  show b = yb_ct (fun s => decide (f s = 1)) i.toNat + if decide (f i.toNat = 1) = true then 1 else 0
  rw [← h]
  rcases hb with ⟨z, e⟩ | ⟨z, e⟩
  · rw [if_pos (decide_eq_true z), e]
  · rw [if_neg (fun q => z (of_decide_eq_true q)), e, Int.add_zero]
