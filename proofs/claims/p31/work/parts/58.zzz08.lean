/-! the bits of longs -/
theorem yy_la {z x : Int} (h0 : 0 ≤ x) (h1 : x ≤ 9223372036854775807) (z0 : 0 ≤ z) (z1 : z ≤ 65535) (e : Int64.ofInt z = Int64.ofInt x &&& Int64.ofInt 65535) : z = x % 65536 := by
  have k := yw_Ua e
  rw [show yw_U 65535 = 2 ^ 16 - 1 by decide +kernel, Nat.and_two_pow_sub_one_eq_mod, show (2 : Nat) ^ 16 = 65536 from rfl] at k
  unfold yw_U at k
  omega
theorem yy_sr {z x k : Int} {n : Nat} (hk : k = (n : Int)) (hn : n < 64) (x0 : -9223372036854775808 ≤ x) (x1 : x ≤ 9223372036854775807) (z0 : -9223372036854775808 ≤ z) (z1 : z ≤ 9223372036854775807) (e : Int64.ofInt z = Int64.ofInt x >>> ((Int32.ofInt k).toInt64 &&& 63)) : z = x / ((2 ^ n : Nat) : Int) := by
  have h := of_decide_eq_true (List.all_eq_true.mp yw_ck2_ok n (List.mem_range.mpr hn))
  rw [← hk] at h
  have k2 := congrArg (fun q : Int64 => q.toBitVec.toInt) e
  have k2 : (Int64.ofInt z).toBitVec.toInt = (Int64.ofInt x >>> ((Int32.ofInt k).toInt64 &&& 63)).toBitVec.toInt := k2
  rw [show (Int64.ofInt x >>> ((Int32.ofInt k).toInt64 &&& 63)).toBitVec = BitVec.sshiftRight' (Int64.ofInt x).toBitVec (((Int32.ofInt k).toInt64 &&& 63).toBitVec.smod 64) from rfl, BitVec.sshiftRight_eq', h, BitVec.toInt_sshiftRight, show (Int64.ofInt z).toBitVec.toInt = z from Int64.toInt_ofInt_of_le (by omega) (by omega), show (Int64.ofInt x).toBitVec.toInt = x from Int64.toInt_ofInt_of_le (by omega) (by omega), Int.shiftRight_eq_div_pow] at k2
  exact k2
