/-! division, shifts, one number -/
def ys_nz (v : ys_E) (y : ys_L) : Bool := ys_geb v y 1 || ys_geb v (ys_scale (-1) y) 1
theorem ys_nz_ok {r : Nat → Int} {v : ys_E} (h : ys_ok r v) {y : ys_L} (hz : ys_nz v y = true) : ys_ev r y ≠ 0 := sorry
/-- a number not below 0 over a constant above 0: the bounds of the quotient -/
def ys_qb (w : Bool) (v : ys_E) (x y : ys_L) : Option (Int × Int) := match y.1, ys_low v x, ys_high v x with
  | [], some l, some u => if 1 ≤ y.2 && (0 ≤ l && (y.2 ≤ ys_mx w && ys_inr w v x)) then some (l / y.2, u / y.2) else none
  | _, _, _ => none
theorem ys_qb_ok {r : Nat → Int} {w : Bool} {v : ys_E} (h : ys_ok r v) {x y : ys_L} {q : Int × Int} (hq : ys_qb w v x y = some q) : y.1 = [] ∧ 1 ≤ y.2 ∧ y.2 ≤ ys_mx w ∧ 0 ≤ ys_ev r x ∧ ys_inr w v x = true ∧ q.1 ≤ ys_ev r x / y.2 ∧ ys_ev r x / y.2 ≤ q.2 ∧ 0 ≤ q.1 := sorry
def ys_fdiv (w : Bool) (b : ys_B) (x y : ys_L) : Option (ys_B × ys_L) :=
  if ys_inr w b.1 y && ys_nz b.1 y then (match ys_qb w b.1 x y with
    | some q => if q.1 = q.2 then some (b, ys_cst q.1) else some (ys_new b q)
    | none => some (ys_new b (ys_mn w, ys_mx w)))
  else none
def ys_frem (w : Bool) (b : ys_B) (x y : ys_L) : Option (ys_B × ys_L) :=
  if ys_inr w b.1 y && ys_nz b.1 y then (match ys_qb w b.1 x y with
    | some q => if q.1 = q.2 then some (ys_nm w b (ys_sub x (ys_cst (q.1 * y.2)))) else some (ys_new b (0, y.2 - 1))
    | none => some (ys_new b (ys_mn w, ys_mx w)))
  else none
theorem ys_div32 {x y : Int} (hx : 0 ≤ x) (hx2 : x ≤ 2147483647) (hy : 1 ≤ y) (hy2 : y ≤ 2147483647) : Int32.ofInt x / Int32.ofInt y = Int32.ofInt (x / y) := sorry
theorem ys_div64 {x y : Int} (hx : 0 ≤ x) (hx2 : x ≤ 9223372036854775807) (hy : 1 ≤ y) (hy2 : y ≤ 9223372036854775807) : Int64.ofInt x / Int64.ofInt y = Int64.ofInt (x / y) := sorry
theorem ys_ne32 {y : Int} (h : y ≠ 0) (h1 : ys_mn false ≤ y ∧ y ≤ ys_mx false) : ¬ Int32.ofInt y = 0 := sorry
theorem ys_ne64 {y : Int} (h : y ≠ 0) (h1 : ys_mn true ≤ y ∧ y ≤ ys_mx true) : ¬ Int64.ofInt y = 0 := sorry
theorem ys_fdiv32 : ys_B32 (ys_fdiv false) (fun x y => x / y) (fun y => ¬ y = 0) := sorry
theorem ys_fdiv64 : ys_B64 (ys_fdiv true) (fun x y => x / y) (fun y => ¬ y = 0) := sorry
theorem ys_frem32 : ys_B32 (ys_frem false) (fun x y => x - x / y * y) (fun y => ¬ y = 0) := sorry
theorem ys_frem64 : ys_B64 (ys_frem true) (fun x y => x - x / y * y) (fun y => ¬ y = 0) := sorry
/-! shifts to the left of a constant -/
def ys_shb (w : Bool) (v : ys_E) (x y : ys_L) : Option (Int × Int) := match x.1, ys_low v y, ys_high v y with
  | [], some l, some u => if 0 ≤ x.2 && (0 ≤ l && (u ≤ 30 && (x.2 * 2 ^ u.toNat ≤ ys_mx w))) then some (x.2 * 2 ^ l.toNat, x.2 * 2 ^ u.toNat) else none
  | _, _, _ => none
theorem ys_shb_ok {r : Nat → Int} {w : Bool} {v : ys_E} (h : ys_ok r v) {x y : ys_L} {q : Int × Int} (hq : ys_shb w v x y = some q) : x.1 = [] ∧ ∃ n k : Nat, x.2 = (n : Int) ∧ ys_ev r y = (k : Int) ∧ k ≤ 30 ∧ q.1 ≤ ((n * 2 ^ k : Nat) : Int) ∧ ((n * 2 ^ k : Nat) : Int) ≤ q.2 ∧ q.2 ≤ ys_mx w := sorry
def ys_fshl (w : Bool) (b : ys_B) (x y : ys_L) : Option (ys_B × ys_L) := match ys_shb w b.1 x y with
  | some q => some (ys_nw b q)
  | none => some (ys_new b (ys_mn w, ys_mx w))
theorem ys_31 {k : Nat} (hk : k ≤ 30) : (((Int32.ofInt (k : Int)) &&& 31).toBitVec.smod 32).toNat = k := sorry
theorem ys_63 {k : Nat} (hk : k ≤ 30) : (((Int32.ofInt (k : Int)).toInt64 &&& 63).toBitVec.smod 64).toNat = k := sorry
theorem ys_shl32 {n k : Nat} (hk : k ≤ 30) (h : n * 2 ^ k ≤ 2147483647) : Int32.ofInt (n : Int) <<< (Int32.ofInt (k : Int) &&& 31) = Int32.ofInt ((n * 2 ^ k : Nat) : Int) := sorry
theorem ys_shl64 {n k : Nat} (hk : k ≤ 30) (h : n * 2 ^ k ≤ 9223372036854775807) : Int64.ofInt (n : Int) <<< ((Int32.ofInt (k : Int)).toInt64 &&& 63) = Int64.ofInt ((n * 2 ^ k : Nat) : Int) := sorry
theorem ys_fshl32 : ys_B32 (ys_fshl false) (fun x y => x <<< (y &&& 31)) (fun _ => True) := sorry
def ys_fshr (b : ys_B) (x _ : ys_L) : Option (ys_B × ys_L) := match ys_nnb false b.1 x with
  | some u => some (ys_nw b (0, u))
  | none => some (ys_new b (ys_mn false, ys_mx false))
theorem ys_fshr32 : ys_B32 ys_fshr (fun x y => x >>> (y &&& 31)) (fun _ => True) := sorry
/-- a long, shifted by an int -/
def ys_BLI (F : ys_B → ys_L → ys_L → Option (ys_B × ys_L)) (op : Int64 → Int32 → Int64) : Prop := ∀ (r : Nat → Int) (b : ys_B) (x y : ys_L) (o : ys_B × ys_L), ys_okB r b → ys_scB b → ys_stb b.1.length x → ys_stb b.1.length y → F b x y = some o → ys_Op r b o (fun z => Int64.ofInt z = op (Int64.ofInt (ys_ev r x)) (Int32.ofInt (ys_ev r y)))
theorem ys_fshl64 : ys_BLI (ys_fshl true) (fun x y => x <<< (y.toInt64 &&& 63)) := sorry
theorem ys_fanyLI (op : Int64 → Int32 → Int64) : ys_BLI (ys_fany true) op := sorry
/-! one number -/
def ys_fneg (w : Bool) (b : ys_B) (x : ys_L) : ys_B × ys_L := ys_nm w b (ys_scale (-1) x)
theorem ys_fneg32 {r : Nat → Int} {b : ys_B} {x : ys_L} (h : ys_okB r b) (hs : ys_scB b) (hx : ys_stb b.1.length x) : ys_Op r b (ys_fneg false b x) (fun z => Int32.ofInt z = -Int32.ofInt (ys_ev r x)) := sorry
theorem ys_fneg64 {r : Nat → Int} {b : ys_B} {x : ys_L} (h : ys_okB r b) (hs : ys_scB b) (hx : ys_stb b.1.length x) : ys_Op r b (ys_fneg true b x) (fun z => Int64.ofInt z = -Int64.ofInt (ys_ev r x)) := sorry
theorem ys_l2i (z : Int) : (Int64.ofInt z).toInt32 = Int32.ofInt z := sorry
theorem ys_fl2i {r : Nat → Int} {b : ys_B} {x : ys_L} (h : ys_okB r b) (hs : ys_scB b) (hx : ys_stb b.1.length x) : ys_Op r b (ys_nm false b x) (fun z => Int32.ofInt z = (Int64.ofInt (ys_ev r x)).toInt32) := sorry
theorem ys_i2l {r : Nat → Int} {v : ys_E} (h : ys_ok r v) {x : ys_L} (hi : ys_inr false v x = true) : (Int32.ofInt (ys_ev r x)).toInt64 = Int64.ofInt (ys_ev r x) := sorry
/-- cut to a byte (7) or a short (15) -/
def ys_fcut (k : Nat) (b : ys_B) (x : ys_L) : ys_B × ys_L := if ys_geb b.1 x (-(2 ^ k)) && ys_geb b.1 (ys_scale (-1) x) (-(2 ^ k - 1)) then (b, x) else ys_new b (-(2 ^ k), 2 ^ k - 1)
theorem ys_fi2b {r : Nat → Int} {b : ys_B} {x : ys_L} (h : ys_okB r b) (hs : ys_scB b) (hx : ys_stb b.1.length x) : ys_Op r b (ys_fcut 7 b x) (fun z => Int32.ofInt z = (Int32.ofInt (ys_ev r x)).toInt8.toInt32) := sorry
theorem ys_fi2s {r : Nat → Int} {b : ys_B} {x : ys_L} (h : ys_okB r b) (hs : ys_scB b) (hx : ys_stb b.1.length x) : ys_Op r b (ys_fcut 15 b x) (fun z => Int32.ofInt z = (Int32.ofInt (ys_ev r x)).toInt16.toInt32) := sorry
/-! what a comparison tells -/
def ys_ne (v : ys_E) (x y : ys_L) : List ys_L := if ys_geb v (ys_sub x y) 0 then [ys_add (ys_sub x y) ([], -1)] else if ys_geb v (ys_sub y x) 0 then [ys_add (ys_sub y x) ([], -1)] else []
def ys_cf (v : ys_E) (c : ClassFile.Cond) (x y : ys_L) : List ys_L := match c with
  | .eq => [ys_sub x y, ys_sub y x]
  | .ne => ys_ne v x y
  | .lt => [ys_add (ys_sub y x) ([], -1)]
  | .ge => [ys_sub x y]
  | .gt => [ys_add (ys_sub x y) ([], -1)]
  | .le => [ys_sub y x]
def ys_ch (c : ClassFile.Cond) (x y : Int) : Prop := match c with
  | .eq => x = y
  | .ne => ¬ x = y
  | .lt => x < y
  | .ge => y ≤ x
  | .gt => y < x
  | .le => x ≤ y
def ys_cn (c : ClassFile.Cond) : ClassFile.Cond := match c with
  | .eq => .ne
  | .ne => .eq
  | .lt => .ge
  | .ge => .lt
  | .gt => .le
  | .le => .gt
theorem ys_cn_ok {c : ClassFile.Cond} {x y : Int} (h : ¬ ys_ch c x y) : ys_ch (ys_cn c) x y := sorry
theorem ys_m1 (r : Nat → Int) (e : ys_L) : ys_ev r (ys_add e ([], -1)) = ys_ev r e - 1 := sorry
theorem ys_fk1 {r : Nat → Int} {f : ys_L} (h : 0 ≤ ys_ev r f) : ys_fk r [f] := sorry
theorem ys_cf_ok {r : Nat → Int} {v : ys_E} (hv : ys_ok r v) {c : ClassFile.Cond} {x y : ys_L} (h : ys_ch c (ys_ev r x) (ys_ev r y)) : ys_fk r (ys_cf v c x y) := sorry
/-- the ways of a comparison -/
def ys_cfs (v : ys_E) (c : ClassFile.Cond) (x y : ys_L) : List (List ys_L) := match c with
  | .ne => [[ys_add (ys_sub x y) ([], -1)], [ys_add (ys_sub y x) ([], -1)]]
  | c => [ys_cf v c x y]
theorem ys_cfs_ok {r : Nat → Int} {v : ys_E} (hv : ys_ok r v) {c : ClassFile.Cond} {x y : ys_L} (h : ys_ch c (ys_ev r x) (ys_ev r y)) : ∃ fs ∈ ys_cfs v c x y, ys_fk r fs := sorry
