/-! what the machine's arithmetic does to linear numbers -/
def ys_mn (w : Bool) : Int := match w with
  | false => -2147483648
  | true => -9223372036854775808
def ys_mx (w : Bool) : Int := match w with
  | false => 2147483647
  | true => 9223372036854775807
theorem ys_mn_f : ys_mn false = -2147483648 := sorry
theorem ys_mx_f : ys_mx false = 2147483647 := sorry
theorem ys_mn_t : ys_mn true = -9223372036854775808 := sorry
theorem ys_mx_t : ys_mx true = 9223372036854775807 := sorry
def ys_inr (w : Bool) (v : ys_E) (e : ys_L) : Bool := ys_geb v e (ys_mn w) && ys_geb v (ys_scale (-1) e) (-(ys_mx w))
theorem ys_inr_ok {r : Nat → Int} {v : ys_E} (h : ys_ok r v) {w : Bool} {e : ys_L} (hz : ys_inr w v e = true) : ys_mn w ≤ ys_ev r e ∧ ys_ev r e ≤ ys_mx w := sorry
theorem ys_inr32 {r : Nat → Int} {v : ys_E} (h : ys_ok r v) {e : ys_L} (hz : ys_inr false v e = true) : (Int32.ofInt (ys_ev r e)).toInt = ys_ev r e := sorry
theorem ys_inr64 {r : Nat → Int} {v : ys_E} (h : ys_ok r v) {e : ys_L} (hz : ys_inr true v e = true) : (Int64.ofInt (ys_ev r e)).toInt = ys_ev r e := sorry
def ys_new (b : ys_B) (q : Int × Int) : ys_B × ys_L := ((b.1 ++ [q], b.2), ys_sym b.1.length)
/-- bounds that meet: a constant -/
def ys_ce (v : ys_E) (e : ys_L) : ys_L := match e.1 with
  | [] => e
  | _ => (match ys_low v e, ys_high v e with
    | some l, some u => if l = u then ([], l) else e
    | _, _ => e)
theorem ys_ce_ev {r : Nat → Int} {v : ys_E} (h : ys_ok r v) (e : ys_L) : ys_ev r (ys_ce v e) = ys_ev r e := sorry
def ys_nm (w : Bool) (b : ys_B) (e : ys_L) : ys_B × ys_L := if ys_inr w b.1 e = true then (b, ys_ce b.1 e) else ys_new b (ys_mn w, ys_mx w)
theorem ys_ce_st {n : Nat} {v : ys_E} {e : ys_L} (h : ys_stb n e) : ys_stb n (ys_ce v e) := sorry
/-- a result: the numbers so far stay, its own has what is asked -/
def ys_Op (r : Nat → Int) (b : ys_B) (o : ys_B × ys_L) (P : Int → Prop) : Prop := ∃ r' : Nat → Int, (∀ i, i < b.1.length → r' i = r i) ∧ ys_okB r' o.1 ∧ b.1.length ≤ o.1.1.length ∧ ys_scB o.1 ∧ ys_stb o.1.1.length o.2 ∧ P (ys_ev r' o.2)
theorem ys_Op_same {r : Nat → Int} {b : ys_B} {e : ys_L} {P : Int → Prop} (h : ys_okB r b) (hs : ys_scB b) (he : ys_stb b.1.length e) (hp : P (ys_ev r e)) : ys_Op r b (b, e) P := sorry
def ys_up (r : Nat → Int) (n : Nat) (z : Int) : Nat → Int := fun i => if i = n then z else r i
theorem ys_up_lt {r : Nat → Int} {n : Nat} {z : Int} : ∀ i, i < n → ys_up r n z i = r i := sorry
theorem ys_up_at {r : Nat → Int} {n : Nat} {z : Int} : ys_up r n z n = z := sorry
theorem ys_new_ok {r : Nat → Int} {b : ys_B} {q : Int × Int} {z : Int} (h : ys_okB r b) (hs : ys_scB b) (hz : q.1 ≤ z ∧ z ≤ q.2) : ys_okB (ys_up r b.1.length z) (b.1 ++ [q], b.2) := sorry
theorem ys_scB_new {b : ys_B} {q : Int × Int} (hs : ys_scB b) : ys_scB (b.1 ++ [q], b.2) := sorry
theorem ys_Op_new {r : Nat → Int} {b : ys_B} {q : Int × Int} {P : Int → Prop} (z : Int) (h : ys_okB r b) (hs : ys_scB b) (hz : q.1 ≤ z ∧ z ≤ q.2) (hp : P z) : ys_Op r b (ys_new b q) P := sorry
theorem ys_r32 (x : Int32) : ys_mn false ≤ x.toInt ∧ x.toInt ≤ ys_mx false := sorry
theorem ys_r64 (x : Int64) : ys_mn true ≤ x.toInt ∧ x.toInt ≤ ys_mx true := sorry
/-- one number alone is no symbol -/
def ys_nw (b : ys_B) (q : Int × Int) : ys_B × ys_L := if q.1 = q.2 then (b, ([], q.1)) else ys_new b q
theorem ys_Op_nw {r : Nat → Int} {b : ys_B} {q : Int × Int} {P : Int → Prop} (z : Int) (h : ys_okB r b) (hs : ys_scB b) (hz : q.1 ≤ z ∧ z ≤ q.2) (hp : P z) : ys_Op r b (ys_nw b q) P := sorry
theorem ys_Op_nw32 {r : Nat → Int} {b : ys_B} {q : Int × Int} (h : ys_okB r b) (hs : ys_scB b) (x : Int32) (hx : q.1 ≤ x.toInt ∧ x.toInt ≤ q.2) : ys_Op r b (ys_nw b q) (fun z => Int32.ofInt z = x) := sorry
theorem ys_Op_nw64 {r : Nat → Int} {b : ys_B} {q : Int × Int} (h : ys_okB r b) (hs : ys_scB b) (x : Int64) (hx : q.1 ≤ x.toInt ∧ x.toInt ≤ q.2) : ys_Op r b (ys_nw b q) (fun z => Int64.ofInt z = x) := sorry
theorem ys_Op_any32 {r : Nat → Int} {b : ys_B} (h : ys_okB r b) (hs : ys_scB b) (x : Int32) : ys_Op r b (ys_new b (ys_mn false, ys_mx false)) (fun z => Int32.ofInt z = x) := sorry
theorem ys_Op_any64 {r : Nat → Int} {b : ys_B} (h : ys_okB r b) (hs : ys_scB b) (x : Int64) : ys_Op r b (ys_new b (ys_mn true, ys_mx true)) (fun z => Int64.ofInt z = x) := sorry
theorem ys_Op_in32 {r : Nat → Int} {b : ys_B} {q : Int × Int} (h : ys_okB r b) (hs : ys_scB b) (x : Int32) (hx : q.1 ≤ x.toInt ∧ x.toInt ≤ q.2) : ys_Op r b (ys_new b q) (fun z => Int32.ofInt z = x) := sorry
theorem ys_Op_in64 {r : Nat → Int} {b : ys_B} {q : Int × Int} (h : ys_okB r b) (hs : ys_scB b) (x : Int64) (hx : q.1 ≤ x.toInt ∧ x.toInt ≤ q.2) : ys_Op r b (ys_new b q) (fun z => Int64.ofInt z = x) := sorry
theorem ys_Op_nm32 {r : Nat → Int} {b : ys_B} {e : ys_L} (h : ys_okB r b) (hs : ys_scB b) (he : ys_stb b.1.length e) {x : Int32} (hx : Int32.ofInt (ys_ev r e) = x) : ys_Op r b (ys_nm false b e) (fun z => Int32.ofInt z = x) := sorry
theorem ys_Op_nm64 {r : Nat → Int} {b : ys_B} {e : ys_L} (h : ys_okB r b) (hs : ys_scB b) (he : ys_stb b.1.length e) {x : Int64} (hx : Int64.ofInt (ys_ev r e) = x) : ys_Op r b (ys_nm true b e) (fun z => Int64.ofInt z = x) := sorry
/-- an operation on two numbers of one width: what it does to linear numbers is what it does to the machine's -/
def ys_B32 (F : ys_B → ys_L → ys_L → Option (ys_B × ys_L)) (op : Int32 → Int32 → Int32) (ok : Int32 → Prop) : Prop := ∀ (r : Nat → Int) (b : ys_B) (x y : ys_L) (o : ys_B × ys_L), ys_okB r b → ys_scB b → ys_stb b.1.length x → ys_stb b.1.length y → F b x y = some o → ok (Int32.ofInt (ys_ev r y)) ∧ ys_Op r b o (fun z => Int32.ofInt z = op (Int32.ofInt (ys_ev r x)) (Int32.ofInt (ys_ev r y)))
def ys_B64 (F : ys_B → ys_L → ys_L → Option (ys_B × ys_L)) (op : Int64 → Int64 → Int64) (ok : Int64 → Prop) : Prop := ∀ (r : Nat → Int) (b : ys_B) (x y : ys_L) (o : ys_B × ys_L), ys_okB r b → ys_scB b → ys_stb b.1.length x → ys_stb b.1.length y → F b x y = some o → ok (Int64.ofInt (ys_ev r y)) ∧ ys_Op r b o (fun z => Int64.ofInt z = op (Int64.ofInt (ys_ev r x)) (Int64.ofInt (ys_ev r y)))
def ys_fadd (w : Bool) (b : ys_B) (x y : ys_L) : Option (ys_B × ys_L) := some (ys_nm w b (ys_add x y))
def ys_fsub (w : Bool) (b : ys_B) (x y : ys_L) : Option (ys_B × ys_L) := some (ys_nm w b (ys_sub x y))
def ys_fmul (w : Bool) (b : ys_B) (x y : ys_L) : Option (ys_B × ys_L) := some (match x.1, y.1 with
  | [], _ => ys_nm w b (ys_scale x.2 y)
  | _, [] => ys_nm w b (ys_scale y.2 x)
  | _, _ => ys_new b (ys_mn w, ys_mx w))
def ys_fany (w : Bool) (b : ys_B) (_ _ : ys_L) : Option (ys_B × ys_L) := some (ys_new b (ys_mn w, ys_mx w))
theorem ys_fadd32 : ys_B32 (ys_fadd false) (fun x y => x + y) (fun _ => True) := sorry
theorem ys_fsub32 : ys_B32 (ys_fsub false) (fun x y => x - y) (fun _ => True) := sorry
theorem ys_fadd64 : ys_B64 (ys_fadd true) (fun x y => x + y) (fun _ => True) := sorry
theorem ys_fsub64 : ys_B64 (ys_fsub true) (fun x y => x - y) (fun _ => True) := sorry
theorem ys_ev_nil (r : Nat → Int) {x : ys_L} (h : x.1 = []) : ys_ev r x = x.2 := sorry
theorem ys_fmul32 : ys_B32 (ys_fmul false) (fun x y => x * y) (fun _ => True) := sorry
theorem ys_fmul64 : ys_B64 (ys_fmul true) (fun x y => x * y) (fun _ => True) := sorry
theorem ys_fany32 (op : Int32 → Int32 → Int32) : ys_B32 (ys_fany false) op (fun _ => True) := sorry
theorem ys_fany64 (op : Int64 → Int64 → Int64) : ys_B64 (ys_fany true) op (fun _ => True) := sorry
/-! and: with a number not below 0 -/
def ys_nnb (w : Bool) (v : ys_E) (y : ys_L) : Option Int := if ys_geb v y 0 && ys_inr w v y then ys_high v y else none
def ys_fand (w : Bool) (b : ys_B) (x y : ys_L) : Option (ys_B × ys_L) := if y = ([], -1) then some (b, x) else if x = ([], -1) then some (b, y) else match ys_nnb w b.1 x, ys_nnb w b.1 y with
  | some u, some t => some (ys_nw b (0, if u ≤ t then u else t))
  | some u, none => some (ys_nw b (0, u))
  | none, some t => some (ys_nw b (0, t))
  | none, none => some (ys_new b (ys_mn w, ys_mx w))
theorem ys_toNat32 {y : Int32} (h : 0 ≤ y.toInt) : (y.toBitVec.toNat : Int) = y.toInt := sorry
theorem ys_toNat64 {y : Int64} (h : 0 ≤ y.toInt) : (y.toBitVec.toNat : Int) = y.toInt := sorry
theorem ys_ofNat32 {y : Int32} (h : y.toBitVec.toNat < 2 ^ 31) : y.toInt = (y.toBitVec.toNat : Int) := sorry
theorem ys_ofNat64 {y : Int64} (h : y.toBitVec.toNat < 2 ^ 63) : y.toInt = (y.toBitVec.toNat : Int) := sorry
theorem ys_and32 (x : Int32) {y : Int32} (h : 0 ≤ y.toInt) : 0 ≤ (x &&& y).toInt ∧ (x &&& y).toInt ≤ y.toInt := sorry
theorem ys_and64 (x : Int64) {y : Int64} (h : 0 ≤ y.toInt) : 0 ≤ (x &&& y).toInt ∧ (x &&& y).toInt ≤ y.toInt := sorry
theorem ys_andm32 (x : Int32) : x &&& -1 = x := sorry
theorem ys_nnb32 {r : Nat → Int} {v : ys_E} (h : ys_ok r v) {y : ys_L} {u : Int} (hu : ys_nnb false v y = some u) : (Int32.ofInt (ys_ev r y)).toInt = ys_ev r y ∧ 0 ≤ ys_ev r y ∧ ys_ev r y ≤ u := sorry
theorem ys_fand32 : ys_B32 (ys_fand false) (fun x y => x &&& y) (fun _ => True) := sorry
theorem ys_andm64 (x : Int64) : x &&& -1 = x := sorry
theorem ys_nnb64 {r : Nat → Int} {v : ys_E} (h : ys_ok r v) {y : ys_L} {u : Int} (hu : ys_nnb true v y = some u) : (Int64.ofInt (ys_ev r y)).toInt = ys_ev r y ∧ 0 ≤ ys_ev r y ∧ ys_ev r y ≤ u := sorry
theorem ys_fand64 : ys_B64 (ys_fand true) (fun x y => x &&& y) (fun _ => True) := sorry
/-! or, exclusive or: of numbers not below 0, below a power of two -/
def ys_p2 (m : Int) : Nat := Nat.log2 m.toNat + 1
def ys_for (b : ys_B) (x y : ys_L) : Option (ys_B × ys_L) :=
  match (if ys_geb b.1 x 0 && ys_inr false b.1 x && (ys_geb b.1 y 0 && ys_inr false b.1 y) then (match ys_high b.1 x, ys_high b.1 y with
    | some u, some t => some (ys_p2 (if u ≤ t then t else u))
    | _, _ => none) else none) with
  | some k => if k ≤ 31 then some (ys_nw b (0, 2 ^ k - 1)) else some (ys_new b (ys_mn false, ys_mx false))
  | none => some (ys_new b (ys_mn false, ys_mx false))
def ys_fxor (b : ys_B) (x y : ys_L) : Option (ys_B × ys_L) := if y = ([], -1) then some (ys_nm false b (ys_sub ([], -1) x)) else ys_for b x y
theorem ys_p2_lt {m z : Int} (h : z ≤ m) : z.toNat < 2 ^ ys_p2 m := sorry
theorem ys_for32 (op : Int32 → Int32 → Int32) (hop : ∀ (x y : Int32) (k : Nat), x.toBitVec.toNat < 2 ^ k → y.toBitVec.toNat < 2 ^ k → (op x y).toBitVec.toNat < 2 ^ k) : ys_B32 ys_for op (fun _ => True) := sorry
theorem ys_or32 : ys_B32 ys_for (fun x y => x ||| y) (fun _ => True) := sorry
theorem ys_xor32 : ys_B32 ys_for (fun x y => x ^^^ y) (fun _ => True) := sorry
theorem ys_not32 (z : Int) : Int32.ofInt z ^^^ -1 = Int32.ofInt (-1 - z) := sorry
theorem ys_fxor32 : ys_B32 ys_fxor (fun x y => x ^^^ y) (fun _ => True) := sorry
