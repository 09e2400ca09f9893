/-! one step of the second engine -/
def yt_un (w : Bool) (v : ys_V) : Option ys_L := match w, v with
  | false, .inl (.inl z) => some z
  | true, .inl (.inr z) => some z
  | _, _ => none
theorem yt_un_ok {w : Bool} {v : ys_V} {z : ys_L} (h : yt_un w v = some z) : v = yt_mk w z := sorry
theorem yt_mk_sti {n : Nat} {w : Bool} {x : ys_L} (h : ys_stV n (yt_mk w x)) : ys_stb n x := sorry
def yt_hbin (w : Bool) (F : ys_B → ys_L → ys_L → Option (List yt_Br)) (h : List yt_Ev) (pc : Nat) (b : ys_B) (fds : ys_F) (lv : List (Nat × ys_V)) (sv : List ys_V) : Option (List yt_U) := match sv with
  | vy :: vx :: t => (match yt_un w vy, yt_un w vx with
    | some y, some x => (match F b x y with
      | some brs => some (yt_num w (pc + 1) b fds lv t h x y brs)
      | none => none)
    | _, _ => none)
  | _ => none
def yt_hone (w : Bool) (k : Nat) (F : ys_B → ys_L → Option (List yt_Br)) (fr lo : Nat) (h : List yt_Ev) (pc : Nat) (b : ys_B) (fds : ys_F) (lv : List (Nat × ys_V)) (sv : List ys_V) : Option (List yt_U) := match sv with
  | vx :: t => (match yt_un w vx with
    | some x => (match F b x with
      | some brs => if decide (1 ≤ fr) && decide ((t.map ys_cat).sum + k ≤ lo) then some (yt_num w (pc + 3) b fds lv t h x x brs) else none
      | none => none)
    | none => none)
  | _ => none
/-- the greater of two longs -/
def yt_bmax (b : ys_B) (x y : ys_L) : Option (List yt_Br) := if ys_inr true b.1 x && ys_inr true b.1 y then some [((0, 0), [yt_m1 (ys_sub x y)], x, false), ((0, 0), [ys_sub y x], y, false)] else none
def yt_hmx (fr lo : Nat) (h : List yt_Ev) (pc : Nat) (b : ys_B) (fds : ys_F) (lv : List (Nat × ys_V)) (sv : List ys_V) : Option (List yt_U) := match sv with
  | vy :: vx :: t => (match yt_un true vy, yt_un true vx with
    | some y, some x => (match yt_bmax b x y with
      | some brs => if decide (1 ≤ fr) && decide ((t.map ys_cat).sum + 15 ≤ lo) then some (yt_num true (pc + 3) b fds lv t h x y brs) else none
      | none => none)
    | _, _ => none)
  | _ => none
def yt_Cq (own : String) (Ts : List Cond) (v : Nat) : Prop := match v / 100000 with
  | 3 => Cond.methodLink own (v - 300000) Lib.Math.abs.name ∈ Ts ∧ Cond.static Lib.Math.abs.name ∈ Ts ∧ Cond.initialized "java/lang/Math" ∈ Ts ∧ Cond.code Lib.Math.abs.name Lib.Math.abs.code 1 (some .int) ∈ Ts
  | 4 => Cond.methodLink own (v - 400000) Lib.MathLoose.abs_long.x ∈ Ts ∧ Cond.static Lib.MathLoose.abs_long.x ∈ Ts ∧ Cond.initialized "java/lang/Math" ∈ Ts ∧ Cond.code Lib.MathLoose.abs_long.x Lib.MathLoose.abs_long.code 2 (some .long) ∈ Ts
  | 5 => Cond.methodLink own (v - 500000) Lib.MathLoose.max_long.x ∈ Ts ∧ Cond.static Lib.MathLoose.max_long.x ∈ Ts ∧ Cond.initialized "java/lang/Math" ∈ Ts ∧ Cond.code Lib.MathLoose.max_long.x Lib.MathLoose.max_long.code 4 (some .long) ∈ Ts
  | 7 => True
  | _ => False
abbrev yt_O : Type := Nat × List ys_L × List Nat
/-- the words of products that go round, and of quotients -/
def yt_hwp : Nat → (Nat → Int) → Prop
  | 0, r => r 2 = (r 0 * r 1).bmod Int64.size
  | 1, r => r 2 = (r 0).tdiv (r 1)
  | 2, r => r 1 = (Int32.ofInt (r 0)).toInt
  | 3, r => r 1 = (Int32.ofInt (r 0)).toInt8.toInt
  | 4, r => r 1 = (Int32.ofInt (r 0)).toInt16.toInt
  | 5, r => r 2 = (r 0 + r 1).bmod Int64.size
  | 6, r => r 1 = (Int32.ofInt (-(r 0))).toInt
  | 7, r => Int64.ofInt (r 2) = Int64.ofInt (r 0) &&& Int64.ofInt (r 1)
  | 8, r => Int64.ofInt (r 2) = Int64.ofInt (r 0) ||| Int64.ofInt (r 1)
  | 9, r => Int64.ofInt (r 2) = Int64.ofInt (r 0) <<< ((Int32.ofInt (r 1)).toInt64 &&& 63)
  | 15, r => Int32.ofInt (r 2) = Int32.ofInt (r 0) + Int32.ofInt (r 1)
  | 16, r => r 2 = (r 0).tmod (r 1)
  | 20, r => Int32.ofInt (r 2) = Int32.ofInt (r 0) ^^^ Int32.ofInt (r 1)
  | 17, r => Int64.ofInt (r 2) = Int64.ofInt (r 0) >>> ((Int32.ofInt (r 1)).toInt64 &&& 63)
  | 18, r => Int64.ofInt (r 2) = ((Int64.ofInt (r 0)).toUInt64 >>> ((Int32.ofInt (r 1)).toInt64.toUInt64 &&& Int64.toUInt64 63)).toInt64
  | 19, r => r 2 = (r 0 - r 1).bmod Int64.size
  | 10, r => Int32.ofInt (r 2) = Int32.ofInt (r 0) <<< (Int32.ofInt (r 1) &&& 31)
  | 11, r => Int32.ofInt (r 2) = Int32.ofInt (r 0) ||| Int32.ofInt (r 1)
  | 12, r => Int32.ofInt (r 2) = Int32.ofInt (r 0) &&& Int32.ofInt (r 1)
  | 13, r => Int32.ofInt (r 2) = Int32.ofInt (r 0) >>> (Int32.ofInt (r 1) &&& 31)
  | 14, r => Int32.ofInt (r 2) = ((Int32.ofInt (r 0)).toUInt32 >>> ((Int32.ofInt (r 1)).toUInt32 &&& Int32.toUInt32 31)).toInt32
  | _, _ => False
def yt_Hw (tb : yt_Tb) : Prop := ∀ (i : Nat) (r : Nat → Int) (g : yt_G), yt_hwp i r → tb 998 i r g g
def yt_dvh (x y : ys_L) (u : yt_U) : yt_U := match u.2.1.2.2.2 with
  | v :: _ => (match yt_un true v with
    | some z => (u.1, u.2.1, .inr (.inr (.inl (998, 1, [x, y, z], [], []))) :: u.2.2)
    | none => u)
  | [] => u
def yt_rmh (x y : ys_L) (u : yt_U) : yt_U := match u.2.1.2.2.2 with
  | v :: _ => (match yt_un true v with
    | some z => (u.1, u.2.1, .inr (.inr (.inl (998, 16, [x, y, z], [], []))) :: u.2.2)
    | none => u)
  | [] => u
/-- a product of longs that may go round: its word is that of a call, number 998 -/
def yt_hwm (h : List yt_Ev) (pc : Nat) (b : ys_B) (fds : ys_F) (lv : List (Nat × ys_V)) (sv : List ys_V) : Option (List yt_U) := match sv with
  | vy :: vx :: t => (match yt_un true vy, yt_un true vx with
    | some y, some x => if x.1 = [] ∧ ys_inr true b.1 (ys_scale x.2 y) = true then none else if y.1 = [] then none else some [(pc + 1, ((b.1 ++ [(ys_mn true, ys_mx true)], b.2), fds, lv, yt_mk true (ys_sym b.1.length) :: t), .inr (.inr (.inl (998, 0, [x, y, ys_sym b.1.length], [], []))) :: h)]
    | _, _ => none)
  | _ => none
/-- a sum of longs that may go round -/
def yt_hwa (h : List yt_Ev) (pc : Nat) (b : ys_B) (fds : ys_F) (lv : List (Nat × ys_V)) (sv : List ys_V) : Option (List yt_U) := match sv with
  | vy :: vx :: t => (match yt_un true vy, yt_un true vx with
    | some y, some x => if ys_inr true b.1 (ys_add x y) then none else some [(pc + 1, ((b.1 ++ [(ys_mn true, ys_mx true)], b.2), fds, lv, yt_mk true (ys_sym b.1.length) :: t), .inr (.inr (.inl (998, 5, [x, y, ys_sym b.1.length], [], []))) :: h)]
    | _, _ => none)
  | _ => none
def yt_hws (h : List yt_Ev) (pc : Nat) (b : ys_B) (fds : ys_F) (lv : List (Nat × ys_V)) (sv : List ys_V) : Option (List yt_U) := match sv with
  | vy :: vx :: t => (match yt_un true vy, yt_un true vx with
    | some y, some x => if ys_inr true b.1 (ys_sub x y) then none else some [(pc + 1, ((b.1 ++ [(ys_mn true, ys_mx true)], b.2), fds, lv, yt_mk true (ys_sym b.1.length) :: t), .inr (.inr (.inl (998, 19, [x, y, ys_sym b.1.length], [], []))) :: h)]
    | _, _ => none)
  | _ => none
def yt_inv (fr lo : Nat) (mods : List Nat) (sh : List ys_C) (idx : Nat) (st : Bool) (h : List yt_Ev) (pc : Nat) (b : ys_B) (fds : ys_F) (lv : List (Nat × ys_V)) (sv : List ys_V) : List yt_CE → Option (List yt_U × List yt_O)
  | [] => none
  | C :: t => if C.1.1 = (idx, st) then (match yt_hcall fr lo mods C h pc b fds lv sv with
    | some o => if sh.length = fds.1.length then some (o.2, if C.1.2.2.1 = true then [(C.1.2.1, o.1, C.1.2.2.2)] else []) else none
    | none => yt_inv fr lo mods sh idx st h pc b fds lv sv t) else yt_inv fr lo mods sh idx st h pc b fds lv sv t
def yt_p (x : Option (List yt_U)) : Option (List yt_U × List yt_O) := match x with
  | some y => some (y, [])
  | none => none
def yt_pl (h : List yt_Ev) (x : Option (List (Nat × ys_S))) : Option (List yt_U × List yt_O) := match x with
  | some y => some (y.map (fun q => (q.1, q.2, h)), [])
  | none => none
theorem yt_p_ok {x : Option (List yt_U)} {o : List yt_U × List yt_O} (h : yt_p x = some o) : x = some o.1 := sorry
theorem yt_pl_ok {e : List yt_Ev} {x : Option (List (Nat × ys_S))} {o : List yt_U × List yt_O} (h : yt_pl e x = some o) : ∃ y, x = some y ∧ o.1 = y.map fun q => (q.1, q.2, e) := sorry
def yt_K0 (K : ys_K) : ys_K := (K.1, K.2.1, ([], []))
def yt_nc (F : ys_B → ys_L → ys_L → Option (List yt_Br)) (b : ys_B) (x y : ys_L) : Option (List yt_Br) := if y.1 = [] then none else F b x y
def yt_nc2 (F : ys_B → ys_L → ys_L → Option (List yt_Br)) (b : ys_B) (x y : ys_L) : Option (List yt_Br) := if x.1 = [] then none else if y.1 = [] then none else F b x y
theorem yt_nc_ok {F : ys_B → ys_L → ys_L → Option (List yt_Br)} {b : ys_B} {x y : ys_L} {o : List yt_Br} (h : yt_nc F b x y = some o) : F b x y = some o := sorry
theorem yt_nc2_ok {F : ys_B → ys_L → ys_L → Option (List yt_Br)} {b : ys_B} {x y : ys_L} {o : List yt_Br} (h : yt_nc2 F b x y = some o) : F b x y = some o := sorry
def yt_hdv (h : List yt_Ev) (pc : Nat) (b : ys_B) (fds : ys_F) (lv : List (Nat × ys_V)) (sv : List ys_V) : Option (List yt_U) := match sv with
  | vy :: vx :: t => (match yt_un true vy, yt_un true vx with
    | some y, some x => (match yt_nc yt_bdiv b x y with
      | some brs => some ((yt_num true (pc + 1) b fds lv t h x y brs).map (yt_dvh x y))
      | none => none)
    | _, _ => none)
  | _ => none
def yt_bah (x y : ys_L) (u : yt_U) : yt_U := match u.2.1.2.2.2 with
  | v :: _ => (match yt_un false v with
    | some z => (u.1, u.2.1, .inr (.inr (.inl (998, 12, [x, y, z], [], []))) :: u.2.2)
    | none => u)
  | [] => u
def yt_hba (h : List yt_Ev) (pc : Nat) (b : ys_B) (fds : ys_F) (lv : List (Nat × ys_V)) (sv : List ys_V) : Option (List yt_U) := match sv with
  | vy :: vx :: t => (match yt_un false vy, yt_un false vx with
    | some y, some x => (match yt_nc2 yt_band b x y with
      | some brs => some ((yt_num false (pc + 1) b fds lv t h x y brs).map (yt_bah x y))
      | none => none)
    | _, _ => none)
  | _ => none
def yt_hrm (h : List yt_Ev) (pc : Nat) (b : ys_B) (fds : ys_F) (lv : List (Nat × ys_V)) (sv : List ys_V) : Option (List yt_U) := match sv with
  | vy :: vx :: t => (match yt_un true vy, yt_un true vx with
    | some y, some x => (match yt_nc yt_brem b x y with
      | some brs => some ((yt_num true (pc + 1) b fds lv t h x y brs).map (yt_rmh x y))
      | none => none)
    | _, _ => none)
  | _ => none
/-- a cast that may cut: its word is that of a call, number 998 -/
def yt_hct (w : Bool) (i : Nat) (q : Int × Int) (h : List yt_Ev) (pc : Nat) (b : ys_B) (fds : ys_F) (lv : List (Nat × ys_V)) (sv : List ys_V) : Option (List yt_U) := match sv with
  | vx :: t => (match yt_un w vx with
    | some x => if ys_geb b.1 x q.1 && ys_geb b.1 (ys_scale (-1) x) (-q.2) then none else some [(pc + 1, ((b.1 ++ [q], b.2), fds, lv, yt_mk false (ys_sym b.1.length) :: t), .inr (.inr (.inl (998, i, [x, ys_sym b.1.length], [], []))) :: h)]
    | none => none)
  | _ => none
def yt_hng (h : List yt_Ev) (pc : Nat) (b : ys_B) (fds : ys_F) (lv : List (Nat × ys_V)) (sv : List ys_V) : Option (List yt_U) := match sv with
  | vx :: t => (match yt_un false vx with
    | some x => if ys_inr false b.1 (ys_scale (-1) x) then none else some [(pc + 1, ((b.1 ++ [(ys_mn false, ys_mx false)], b.2), fds, lv, yt_mk false (ys_sym b.1.length) :: t), .inr (.inr (.inl (998, 6, [x, ys_sym b.1.length], [], []))) :: h)]
    | none => none)
  | _ => none
/-- two longs, or a long and an int: what comes out is told as the word of a call, number 998 -/
def yt_hbe (i : Nat) (F : ys_B → ys_L → ys_L → Option (ys_B × ys_L)) (h : List yt_Ev) (pc : Nat) (b : ys_B) (fds : ys_F) (lv : List (Nat × ys_V)) (sv : List ys_V) : Option (List yt_U) := match sv with
  | .inl (.inr y) :: .inl (.inr x) :: t => (match F b x y with
    | some o => some [(pc + 1, (o.1, fds, lv, .inl (.inr o.2) :: t), .inr (.inr (.inl (998, i, [x, y, o.2], [], []))) :: h)]
    | none => none)
  | _ => none
def yt_hbi (i : Nat) (F : ys_B → ys_L → ys_L → Option (ys_B × ys_L)) (h : List yt_Ev) (pc : Nat) (b : ys_B) (fds : ys_F) (lv : List (Nat × ys_V)) (sv : List ys_V) : Option (List yt_U) := match sv with
  | .inl (.inl y) :: .inl (.inl x) :: t => (match F b x y with
    | some o => some [(pc + 1, (o.1, fds, lv, .inl (.inl o.2) :: t), .inr (.inr (.inl (998, i, [x, y, o.2], [], []))) :: h)]
    | none => none)
  | _ => none
def yt_hbs (i : Nat) (F : ys_B → ys_L → ys_L → Option (ys_B × ys_L)) (h : List yt_Ev) (pc : Nat) (b : ys_B) (fds : ys_F) (lv : List (Nat × ys_V)) (sv : List ys_V) : Option (List yt_U) := match sv with
  | .inl (.inl y) :: .inl (.inr x) :: t => (match F b x y with
    | some o => some [(pc + 1, (o.1, fds, lv, .inl (.inr o.2) :: t), .inr (.inr (.inl (998, i, [x, y, o.2], [], []))) :: h)]
    | none => none)
  | _ => none
def yt_rnd (F : ys_B → ys_L → ys_L → Option (ys_B × ys_L)) (b : ys_B) (x y : ys_L) : Option (ys_B × ys_L) := if ys_inr false b.1 (ys_add x y) then none else F b x y
theorem yt_rnd_ok {F : ys_B → ys_L → ys_L → Option (ys_B × ys_L)} {op : Int32 → Int32 → Int32} {ok : Int32 → Prop} (h : ys_B32 F op ok) : ys_B32 (yt_rnd F) op ok := sorry
def yt_step (sh : List ys_C) (fl : ys_FL) (ci cj : List (Nat × Int)) (calls : List yt_CE) (cps cqs : List Nat) (K : ys_K) (nx : Nat → Option (Instr × Nat)) (h : List yt_Ev) (pc : Nat) (b : ys_B) (fds : ys_F) (lv : List (Nat × ys_V)) (sv : List ys_V) (i : Instr) (n : Nat) : Option (List yt_U × List yt_O) := match i with
  | .iaload => ys_g1 n 1 (yt_p (yt_hld 0 false sh h pc b fds lv sv))
  | .laload => ys_g1 n 1 (yt_p (yt_hld 1 true sh h pc b fds lv sv))
  | .baload => ys_g1 n 1 (ys_or (yt_p (yt_hld 2 false sh h pc b fds lv sv)) (yt_p (yt_hld 3 false sh h pc b fds lv sv)))
  | .iastore => ys_g1 n 1 (yt_p (yt_hst 0 false (-9223372036854775808, 9223372036854775808) sh K.2.2.2 h pc b fds lv sv))
  | .lastore => ys_g1 n 1 (yt_p (yt_hst 1 true (-9223372036854775808, 9223372036854775808) sh K.2.2.2 h pc b fds lv sv))
  | .bastore => ys_g1 n 1 (ys_or (yt_p (yt_hst 2 false (-128, 127) sh K.2.2.2 h pc b fds lv sv)) (yt_p (yt_hst 3 false (0, 1) sh K.2.2.2 h pc b fds lv sv)))
  | .lrem => ys_or (ys_g1 n 1 (yt_p (yt_hrm h pc b fds lv sv))) (yt_pl h (ys_stp sh fl ci cj [] cps (yt_K0 K) nx pc b fds lv sv .lrem n))
  | .ldiv => ys_or (ys_g1 n 1 (yt_p (yt_hdv h pc b fds lv sv))) (yt_pl h (ys_stp sh fl ci cj [] cps (yt_K0 K) nx pc b fds lv sv .ldiv n))
  | .lmul => ys_or (ys_or (ys_g1 n 1 (yt_p (yt_hbin true (yt_nc2 (yt_bmul true)) h pc b fds lv sv))) (ys_g1 n 1 (yt_p (yt_hwm h pc b fds lv sv)))) (yt_pl h (ys_stp sh fl ci cj [] cps (yt_K0 K) nx pc b fds lv sv .lmul n))
  | .ladd => ys_or (ys_g1 n 1 (yt_p (yt_hwa h pc b fds lv sv))) (yt_pl h (ys_stp sh fl ci cj [] cps (yt_K0 K) nx pc b fds lv sv .ladd n))
  | .land => ys_g1 n 1 (yt_p (yt_hbe 7 (ys_cfo64 (fun x y => x &&& y) (ys_fand true)) h pc b fds lv sv))
  | .lor => ys_g1 n 1 (yt_p (yt_hbe 8 (ys_cfo64 (fun x y => x ||| y) (ys_fany true)) h pc b fds lv sv))
  | .lshl => ys_g1 n 1 (yt_p (yt_hbs 9 (ys_cfoLI (fun x y => x <<< (y.toInt64 &&& 63)) (ys_fshl true)) h pc b fds lv sv))
  | .lsub => ys_or (ys_g1 n 1 (yt_p (yt_hws h pc b fds lv sv))) (yt_pl h (ys_stp sh fl ci cj [] cps (yt_K0 K) nx pc b fds lv sv .lsub n))
  | .lshr => ys_g1 n 1 (yt_p (yt_hbs 17 (ys_cfoLI (fun x y => x >>> (y.toInt64 &&& 63)) (ys_fany true)) h pc b fds lv sv))
  | .lushr => ys_g1 n 1 (yt_p (yt_hbs 18 (ys_cfoLI (fun x y => (x.toUInt64 >>> (y.toInt64.toUInt64 &&& Int64.toUInt64 63)).toInt64) (ys_fany true)) h pc b fds lv sv))
  | .imul => ys_or (ys_g1 n 1 (yt_p (yt_hbin false (yt_nc2 (yt_bmul false)) h pc b fds lv sv))) (yt_pl h (ys_stp sh fl ci cj [] cps (yt_K0 K) nx pc b fds lv sv .imul n))
  | .l2i => ys_or (ys_g1 n 1 (yt_p (yt_hct true 2 (ys_mn false, ys_mx false) h pc b fds lv sv))) (yt_pl h (ys_stp sh fl ci cj [] cps (yt_K0 K) nx pc b fds lv sv .l2i n))
  | .ineg => ys_or (ys_g1 n 1 (yt_p (yt_hng h pc b fds lv sv))) (yt_pl h (ys_stp sh fl ci cj [] cps (yt_K0 K) nx pc b fds lv sv .ineg n))
  | .i2b => ys_or (ys_g1 n 1 (yt_p (yt_hct false 3 (-128, 127) h pc b fds lv sv))) (yt_pl h (ys_stp sh fl ci cj [] cps (yt_K0 K) nx pc b fds lv sv .i2b n))
  | .i2s => ys_or (ys_g1 n 1 (yt_p (yt_hct false 4 (-32768, 32767) h pc b fds lv sv))) (yt_pl h (ys_stp sh fl ci cj [] cps (yt_K0 K) nx pc b fds lv sv .i2s n))
  | .iadd => if (cqs.contains 700000 || cqs.contains 700001) then ys_or (ys_g1 n 1 (yt_p (yt_hbi 15 (yt_rnd (ys_fadd false)) h pc b fds lv sv))) (yt_pl h (ys_stp sh fl ci cj [] cps (yt_K0 K) nx pc b fds lv sv .iadd n)) else yt_pl h (ys_stp sh fl ci cj [] cps (yt_K0 K) nx pc b fds lv sv .iadd n)
  | .ishl => ys_g1 n 1 (yt_p (yt_hbi 10 (ys_cfo32 (fun x y => x <<< (y &&& 31)) (ys_fshl false)) h pc b fds lv sv))
  | .ior => ys_g1 n 1 (yt_p (yt_hbi 11 (ys_cfo32 (fun x y => x ||| y) ys_for) h pc b fds lv sv))
  | .ixor => ys_g1 n 1 (yt_p (yt_hbi 20 (ys_cfo32 (fun x y => x ^^^ y) ys_fxor) h pc b fds lv sv))
  | .ishr => ys_g1 n 1 (yt_p (yt_hbi 13 (ys_cfo32 (fun x y => x >>> (y &&& 31)) ys_fshr) h pc b fds lv sv))
  | .iushr => ys_g1 n 1 (yt_p (yt_hbi 14 (ys_cfo32 (fun x y => (x.toUInt32 >>> (y.toUInt32 &&& Int32.toUInt32 31)).toInt32) (ys_fany false)) h pc b fds lv sv))
  | .iand => if cqs.contains 700000 then ys_g1 n 1 (yt_p (yt_hbi 12 (ys_cfo32 (fun x y => x &&& y) (ys_fand false)) h pc b fds lv sv)) else ys_or (ys_g1 n 1 (yt_p (yt_hba h pc b fds lv sv))) (ys_g1 n 1 (yt_p (yt_hbi 12 (ys_cfo32 (fun x y => x &&& y) (ys_fand false)) h pc b fds lv sv)))
  | .invokevirtual k => ys_g1 n 3 (yt_inv K.1.2.1 K.1.2.2 K.2.2.2 sh k false h pc b fds lv sv calls)
  | .invokestatic k => if 100000 ≤ k then none else if cps.contains k then (if 1 ≤ K.1.2.1 then ys_g1 n 3 (yt_p (yt_hcp K.1.2.2 sh K.2.2.2 h pc b fds lv sv)) else none) else if cqs.contains (300000 + k) then ys_g1 n 3 (yt_p (yt_hone false 13 (yt_babs false) K.1.2.1 K.1.2.2 h pc b fds lv sv)) else if cqs.contains (400000 + k) then ys_g1 n 3 (yt_p (yt_hone true 13 (yt_babs true) K.1.2.1 K.1.2.2 h pc b fds lv sv)) else if cqs.contains (500000 + k) then ys_g1 n 3 (yt_p (yt_hmx K.1.2.1 K.1.2.2 h pc b fds lv sv)) else if cps.contains (100000 + k) || cps.contains (200000 + k) then yt_pl h (ys_stp sh fl ci cj [] cps (yt_K0 K) nx pc b fds lv sv (.invokestatic k) n) else ys_g1 n 3 (yt_inv K.1.2.1 K.1.2.2 K.2.2.2 sh k true h pc b fds lv sv calls)
  | i => if ys_isr i = true then none else yt_pl h (ys_stp sh fl ci cj [] cps (yt_K0 K) nx pc b fds lv sv i n)
theorem yt_brem_okd {b : ys_B} {x y : ys_L} {brs : List yt_Br} (hs : yt_brem b x y = some brs) (hx : ys_stb b.1.length x) (hy : ys_stb b.1.length y) {r : Nat → Int} (hb : ys_okB r b) : ys_ev r y ≠ 0 ∧ (ys_mn true ≤ ys_ev r y ∧ ys_ev r y ≤ ys_mx true) ∧ (∀ br ∈ brs, yt_bst b.1.length br) ∧ ∃ br ∈ brs, ∃ z, yt_sel true b.1.length r x y (.long (Int64.ofInt (ys_ev r x) - Int64.ofInt (ys_ev r x) / Int64.ofInt (ys_ev r y) * Int64.ofInt (ys_ev r y))) br z ∧ br.2.2.2 = false ∧ ys_ev (ys_up r b.1.length z) br.2.2.1 = (ys_ev r x).tmod (ys_ev r y) := sorry
theorem yt_bdiv_okd {b : ys_B} {x y : ys_L} {brs : List yt_Br} (hs : yt_bdiv b x y = some brs) (hx : ys_stb b.1.length x) (hy : ys_stb b.1.length y) {r : Nat → Int} (hb : ys_okB r b) : ys_ev r y ≠ 0 ∧ (ys_mn true ≤ ys_ev r y ∧ ys_ev r y ≤ ys_mx true) ∧ (∀ br ∈ brs, yt_bst b.1.length br) ∧ ∃ br ∈ brs, ∃ z, yt_sel true b.1.length r x y (.long (Int64.ofInt (ys_ev r x) / Int64.ofInt (ys_ev r y))) br z ∧ br.2.2.2 = false ∧ ys_ev (ys_up r b.1.length z) br.2.2.1 = (ys_ev r x).tdiv (ys_ev r y) := sorry
section YTS
variable {p : Program} {l : Launch} {e : Env} {R : Room} {s : State} {m : MethodId} {args : Array Value} {below : List Frame} {meth : Method} {c : Code} {Q : State → Prop} {kc kz : Nat} {D : va_G} {cl : List vw_C} {ad : Nat → Nat} {cT : Nat → ClassId} {sh : List ys_C} {A : Nat → Prop} {H0 : Heap} {nL : Nat} {mods : List Nat} {g0 : yt_G} {r0 : Nat → Int} {E : Nat} {tb : yt_Tb} {gi : yt_G} {h : List yt_Ev} {pc : Nat} {b : ys_B} {fds : ys_F} {lv : List (Nat × ys_V)} {sv : List ys_V} {succ : List yt_U} {cc : ByteArray} {own : String} {Ts : List Cond} {tys : List (ClassId × FieldType)}
theorem yt_kbin {w : Bool} {F : ys_B → ys_L → ys_L → Option (List yt_Br)} {OK : (Nat → Int) → ys_L → ys_L → Prop} {V : (Nat → Int) → ys_L → ys_L → Value} (hF : ∀ (r : Nat → Int) (x y : ys_L) (brs : List yt_Br), F b x y = some brs → ys_stb b.1.length x → ys_stb b.1.length y → ys_okB r b → OK r x y ∧ (∀ br ∈ brs, yt_bst b.1.length br) ∧ ∃ br ∈ brs, ∃ z, yt_sel w b.1.length r x y (V r x y) br z) (hrow : ∀ (r : Nat → Int) (x y : ys_L) (H : Heap) (locs : List Loc) (ls : Array Slot) (rest : List Value), OK r x y → W p l e R s m args below meth c H locs kc kz Q (F0 m (pc + 1) ls (V r x y :: rest)) → W p l e R s m args below meth c H locs kc kz Q (F0 m pc ls (yt_vl w (ys_ev r y) :: yt_vl w (ys_ev r x) :: rest))) (hs : yt_hbin w F h pc b fds lv sv = some succ) (k : ∀ q ∈ succ, yt_X p l e R s m args below meth c Q kc kz D cl ad cT sh A H0 nL mods g0 r0 E tb gi q.2.2 q.1 q.2.1) : yt_X p l e R s m args below meth c Q kc kz D cl ad cT sh A H0 nL mods g0 r0 E tb gi h pc (b, fds, lv, sv) := sorry
theorem yt_kone {w : Bool} {kk fr lo : Nat} {F : ys_B → ys_L → Option (List yt_Br)} {V : (Nat → Int) → ys_L → Value} (hfr : fr ≤ R.frames) (hlo : lo ≤ R.locals) (hF : ∀ (r : Nat → Int) (x : ys_L) (brs : List yt_Br), F b x = some brs → ys_stb b.1.length x → ys_okB r b → (∀ br ∈ brs, yt_bst b.1.length br) ∧ ∃ br ∈ brs, ∃ z, yt_sel w b.1.length r x x (V r x) br z) (hrow : ∀ (r : Nat → Int) (x : ys_L) (H : Heap) (locs : List Loc) (ls : Array Slot) (rest : List Value), ls.size = nL → 1 ≤ R.frames → (rest.map fun v => v.category).sum + kk ≤ R.locals → W p l e R s m args below meth c H locs kc kz Q (F0 m (pc + 3) ls (V r x :: rest)) → W p l e R s m args below meth c H locs kc kz Q (F0 m pc ls (yt_vl w (ys_ev r x) :: rest))) (hs : yt_hone w kk F fr lo h pc b fds lv sv = some succ) (k : ∀ q ∈ succ, yt_X p l e R s m args below meth c Q kc kz D cl ad cT sh A H0 nL mods g0 r0 E tb gi q.2.2 q.1 q.2.1) : yt_X p l e R s m args below meth c Q kc kz D cl ad cT sh A H0 nL mods g0 r0 E tb gi h pc (b, fds, lv, sv) := sorry
theorem yt_kmx {fr lo idx : Nat} (hexec : p.tables.exec = Jvm.exec) (hb : c.code = cc) (hml : c.maxLocals = nL) (hts : ∀ w ∈ Ts, w.before args s = true) (hown : s.vm.findClass own = some m.cls) (hfr : fr ≤ R.frames) (hlo : lo ≤ R.locals) (hkk : kc ≤ R.cells ∧ kz ≤ R.slots) (hw : Cond.methodLink own idx Lib.MathLoose.max_long.x ∈ Ts ∧ Cond.static Lib.MathLoose.max_long.x ∈ Ts ∧ Cond.initialized "java/lang/Math" ∈ Ts ∧ Cond.code Lib.MathLoose.max_long.x Lib.MathLoose.max_long.code 4 (some .long) ∈ Ts) (hd : decode cc pc = .ok (.invokestatic idx, 3)) (hs : yt_hmx fr lo h pc b fds lv sv = some succ) (k : ∀ q ∈ succ, yt_X p l e R s m args below meth c Q kc kz D cl ad cT sh A H0 nL mods g0 r0 E tb gi q.2.2 q.1 q.2.1) : yt_X p l e R s m args below meth c Q kc kz D cl ad cT sh A H0 nL mods g0 r0 E tb gi h pc (b, fds, lv, sv) := sorry
theorem yt_knumd {pc' : Nat} {x y : ys_L} {brs : List yt_Br} {t : List ys_V} {r : Nat → Int} {g : yt_G} {H : Heap} {locs : List Loc} {ls : Array Slot} {st : List Value} {V : Value} (hw : yt_Hw tb) (hrep : ys_rep D cl ad cT sh A H0 nL [] g r0 r E (b, fds, lv, t) H locs ls st) (hh : yt_h tb r gi h g) (hsc : ∀ v ∈ h, yt_sc b.1.length v) (hm : ∀ k, k ∉ mods → g k = g0 k) (hx : ys_stb b.1.length x) (hy : ys_stb b.1.length y) (hst : ∀ br ∈ brs, yt_bst b.1.length br) (hsel : ∃ br ∈ brs, ∃ z, yt_sel true b.1.length r x y V br z ∧ br.2.2.2 = false ∧ ys_ev (ys_up r b.1.length z) br.2.2.1 = (ys_ev r x).tdiv (ys_ev r y)) (k : ∀ q ∈ (yt_num true pc' b fds lv t h x y brs).map (yt_dvh x y), yt_X p l e R s m args below meth c Q kc kz D cl ad cT sh A H0 nL mods g0 r0 E tb gi q.2.2 q.1 q.2.1) : W p l e R s m args below meth c H locs kc kz Q (F0 m pc' ls (V :: st)) := sorry
theorem yt_knumr {pc' : Nat} {x y : ys_L} {brs : List yt_Br} {t : List ys_V} {r : Nat → Int} {g : yt_G} {H : Heap} {locs : List Loc} {ls : Array Slot} {st : List Value} {V : Value} (hw : yt_Hw tb) (hrep : ys_rep D cl ad cT sh A H0 nL [] g r0 r E (b, fds, lv, t) H locs ls st) (hh : yt_h tb r gi h g) (hsc : ∀ v ∈ h, yt_sc b.1.length v) (hm : ∀ k, k ∉ mods → g k = g0 k) (hx : ys_stb b.1.length x) (hy : ys_stb b.1.length y) (hst : ∀ br ∈ brs, yt_bst b.1.length br) (hsel : ∃ br ∈ brs, ∃ z, yt_sel true b.1.length r x y V br z ∧ br.2.2.2 = false ∧ ys_ev (ys_up r b.1.length z) br.2.2.1 = (ys_ev r x).tmod (ys_ev r y)) (k : ∀ q ∈ (yt_num true pc' b fds lv t h x y brs).map (yt_rmh x y), yt_X p l e R s m args below meth c Q kc kz D cl ad cT sh A H0 nL mods g0 r0 E tb gi q.2.2 q.1 q.2.1) : W p l e R s m args below meth c H locs kc kz Q (F0 m pc' ls (V :: st)) := sorry
theorem yt_kdv (hw : yt_Hw tb) (hexec : p.tables.exec = Jvm.exec) (hb : c.code = cc) (hd : decode cc pc = .ok (.ldiv, 1)) (hs : yt_hdv h pc b fds lv sv = some succ) (k : ∀ q ∈ succ, yt_X p l e R s m args below meth c Q kc kz D cl ad cT sh A H0 nL mods g0 r0 E tb gi q.2.2 q.1 q.2.1) : yt_X p l e R s m args below meth c Q kc kz D cl ad cT sh A H0 nL mods g0 r0 E tb gi h pc (b, fds, lv, sv) := sorry
theorem yt_band_fl {b : ys_B} {x y : ys_L} {brs : List yt_Br} (hs : yt_band b x y = some brs) : ∀ br ∈ brs, br.2.2.2 = false := sorry
theorem yt_knuma {pc' : Nat} {x y : ys_L} {brs : List yt_Br} {t : List ys_V} {r : Nat → Int} {g : yt_G} {H : Heap} {locs : List Loc} {ls : Array Slot} {st : List Value} {V : Value} (hw : yt_Hw tb) (hrep : ys_rep D cl ad cT sh A H0 nL [] g r0 r E (b, fds, lv, t) H locs ls st) (hh : yt_h tb r gi h g) (hsc : ∀ v ∈ h, yt_sc b.1.length v) (hm : ∀ k, k ∉ mods → g k = g0 k) (hx : ys_stb b.1.length x) (hy : ys_stb b.1.length y) (hst : ∀ br ∈ brs, yt_bst b.1.length br) (hsel : ∃ br ∈ brs, ∃ z, yt_sel false b.1.length r x y V br z ∧ br.2.2.2 = false) (hVa : V = .int (Int32.ofInt (ys_ev r x) &&& Int32.ofInt (ys_ev r y))) (k : ∀ q ∈ (yt_num false pc' b fds lv t h x y brs).map (yt_bah x y), yt_X p l e R s m args below meth c Q kc kz D cl ad cT sh A H0 nL mods g0 r0 E tb gi q.2.2 q.1 q.2.1) : W p l e R s m args below meth c H locs kc kz Q (F0 m pc' ls (V :: st)) := sorry
theorem yt_kba (hw : yt_Hw tb) (hexec : p.tables.exec = Jvm.exec) (hb : c.code = cc) (hd : decode cc pc = .ok (.iand, 1)) (hs : yt_hba h pc b fds lv sv = some succ) (k : ∀ q ∈ succ, yt_X p l e R s m args below meth c Q kc kz D cl ad cT sh A H0 nL mods g0 r0 E tb gi q.2.2 q.1 q.2.1) : yt_X p l e R s m args below meth c Q kc kz D cl ad cT sh A H0 nL mods g0 r0 E tb gi h pc (b, fds, lv, sv) := sorry
theorem yt_krm (hw : yt_Hw tb) (hexec : p.tables.exec = Jvm.exec) (hb : c.code = cc) (hd : decode cc pc = .ok (.lrem, 1)) (hs : yt_hrm h pc b fds lv sv = some succ) (k : ∀ q ∈ succ, yt_X p l e R s m args below meth c Q kc kz D cl ad cT sh A H0 nL mods g0 r0 E tb gi q.2.2 q.1 q.2.1) : yt_X p l e R s m args below meth c Q kc kz D cl ad cT sh A H0 nL mods g0 r0 E tb gi h pc (b, fds, lv, sv) := sorry
theorem yt_kwm (hw : yt_Hw tb) (hexec : p.tables.exec = Jvm.exec) (hb : c.code = cc) (hd : decode cc pc = .ok (.lmul, 1)) (hs : yt_hwm h pc b fds lv sv = some succ) (k : ∀ q ∈ succ, yt_X p l e R s m args below meth c Q kc kz D cl ad cT sh A H0 nL mods g0 r0 E tb gi q.2.2 q.1 q.2.1) : yt_X p l e R s m args below meth c Q kc kz D cl ad cT sh A H0 nL mods g0 r0 E tb gi h pc (b, fds, lv, sv) := sorry
theorem yt_kwa (hw : yt_Hw tb) (hexec : p.tables.exec = Jvm.exec) (hb : c.code = cc) (hd : decode cc pc = .ok (.ladd, 1)) (hs : yt_hwa h pc b fds lv sv = some succ) (k : ∀ q ∈ succ, yt_X p l e R s m args below meth c Q kc kz D cl ad cT sh A H0 nL mods g0 r0 E tb gi q.2.2 q.1 q.2.1) : yt_X p l e R s m args below meth c Q kc kz D cl ad cT sh A H0 nL mods g0 r0 E tb gi h pc (b, fds, lv, sv) := sorry
theorem yt_kws (hw : yt_Hw tb) (hexec : p.tables.exec = Jvm.exec) (hb : c.code = cc) (hd : decode cc pc = .ok (.lsub, 1)) (hs : yt_hws h pc b fds lv sv = some succ) (k : ∀ q ∈ succ, yt_X p l e R s m args below meth c Q kc kz D cl ad cT sh A H0 nL mods g0 r0 E tb gi q.2.2 q.1 q.2.1) : yt_X p l e R s m args below meth c Q kc kz D cl ad cT sh A H0 nL mods g0 r0 E tb gi h pc (b, fds, lv, sv) := sorry
theorem yt_kbe {F : ys_B → ys_L → ys_L → Option (ys_B × ys_L)} {op : Int64 → Int64 → Int64} {i : Nat} (hF : ys_B64 F op (fun _ => True)) (hw : yt_Hw tb) (hwi : ∀ r : Nat → Int, Int64.ofInt (r 2) = op (Int64.ofInt (r 0)) (Int64.ofInt (r 1)) → yt_hwp i r) (hrow : ∀ (X : Int64) (Y : Int64) (H : Heap) (locs : List Loc) (ls : Array Slot) (rest : List Value), W p l e R s m args below meth c H locs kc kz Q (F0 m (pc + 1) ls (.long (op X Y) :: rest)) → W p l e R s m args below meth c H locs kc kz Q (F0 m pc ls (.long Y :: .long X :: rest))) (hs : yt_hbe i F h pc b fds lv sv = some succ) (k : ∀ q ∈ succ, yt_X p l e R s m args below meth c Q kc kz D cl ad cT sh A H0 nL mods g0 r0 E tb gi q.2.2 q.1 q.2.1) : yt_X p l e R s m args below meth c Q kc kz D cl ad cT sh A H0 nL mods g0 r0 E tb gi h pc (b, fds, lv, sv) := sorry
theorem yt_kbi {F : ys_B → ys_L → ys_L → Option (ys_B × ys_L)} {op : Int32 → Int32 → Int32} {i : Nat} (hF : ys_B32 F op (fun _ => True)) (hw : yt_Hw tb) (hwi : ∀ r : Nat → Int, Int32.ofInt (r 2) = op (Int32.ofInt (r 0)) (Int32.ofInt (r 1)) → yt_hwp i r) (hrow : ∀ (X : Int32) (Y : Int32) (H : Heap) (locs : List Loc) (ls : Array Slot) (rest : List Value), W p l e R s m args below meth c H locs kc kz Q (F0 m (pc + 1) ls (.int (op X Y) :: rest)) → W p l e R s m args below meth c H locs kc kz Q (F0 m pc ls (.int Y :: .int X :: rest))) (hs : yt_hbi i F h pc b fds lv sv = some succ) (k : ∀ q ∈ succ, yt_X p l e R s m args below meth c Q kc kz D cl ad cT sh A H0 nL mods g0 r0 E tb gi q.2.2 q.1 q.2.1) : yt_X p l e R s m args below meth c Q kc kz D cl ad cT sh A H0 nL mods g0 r0 E tb gi h pc (b, fds, lv, sv) := sorry
theorem yt_kbs {F : ys_B → ys_L → ys_L → Option (ys_B × ys_L)} {op : Int64 → Int32 → Int64} {i : Nat} (hF : ys_BLI F op) (hw : yt_Hw tb) (hwi : ∀ r : Nat → Int, Int64.ofInt (r 2) = op (Int64.ofInt (r 0)) (Int32.ofInt (r 1)) → yt_hwp i r) (hrow : ∀ (X : Int64) (Y : Int32) (H : Heap) (locs : List Loc) (ls : Array Slot) (rest : List Value), W p l e R s m args below meth c H locs kc kz Q (F0 m (pc + 1) ls (.long (op X Y) :: rest)) → W p l e R s m args below meth c H locs kc kz Q (F0 m pc ls (.int Y :: .long X :: rest))) (hs : yt_hbs i F h pc b fds lv sv = some succ) (k : ∀ q ∈ succ, yt_X p l e R s m args below meth c Q kc kz D cl ad cT sh A H0 nL mods g0 r0 E tb gi q.2.2 q.1 q.2.1) : yt_X p l e R s m args below meth c Q kc kz D cl ad cT sh A H0 nL mods g0 r0 E tb gi h pc (b, fds, lv, sv) := sorry
theorem yt_kct {w : Bool} {i : Nat} {q : Int × Int} {f : Int → Int} (hw : yt_Hw tb) (hrow : ∀ (z : Int) (H : Heap) (locs : List Loc) (ls : Array Slot) (rest : List Value), W p l e R s m args below meth c H locs kc kz Q (F0 m (pc + 1) ls (.int (Int32.ofInt (f z)) :: rest)) → W p l e R s m args below meth c H locs kc kz Q (F0 m pc ls (yt_vl w z :: rest))) (hf : ∀ z, q.1 ≤ f z ∧ f z ≤ q.2) (hwi : ∀ r : Nat → Int, r 1 = f (r 0) → yt_hwp i r) (hs : yt_hct w i q h pc b fds lv sv = some succ) (k : ∀ q ∈ succ, yt_X p l e R s m args below meth c Q kc kz D cl ad cT sh A H0 nL mods g0 r0 E tb gi q.2.2 q.1 q.2.1) : yt_X p l e R s m args below meth c Q kc kz D cl ad cT sh A H0 nL mods g0 r0 E tb gi h pc (b, fds, lv, sv) := sorry
theorem yt_kng {f : Int → Int} (hw : yt_Hw tb) (hrow : ∀ (z : Int) (H : Heap) (locs : List Loc) (ls : Array Slot) (rest : List Value), W p l e R s m args below meth c H locs kc kz Q (F0 m (pc + 1) ls (.int (Int32.ofInt (f z)) :: rest)) → W p l e R s m args below meth c H locs kc kz Q (F0 m pc ls (yt_vl false z :: rest))) (hf : ∀ z, ys_mn false ≤ f z ∧ f z ≤ ys_mx false) (hwi : ∀ r : Nat → Int, r 1 = f (r 0) → yt_hwp 6 r) (hs : yt_hng h pc b fds lv sv = some succ) (k : ∀ q ∈ succ, yt_X p l e R s m args below meth c Q kc kz D cl ad cT sh A H0 nL mods g0 r0 E tb gi q.2.2 q.1 q.2.1) : yt_X p l e R s m args below meth c Q kc kz D cl ad cT sh A H0 nL mods g0 r0 E tb gi h pc (b, fds, lv, sv) := sorry
theorem yt_abs64 {z : Int} (h : ys_mn true ≤ z ∧ z ≤ ys_mx true) : (0 ≤ z → (if 0 < Int64.ofInt z then Int64.ofInt z else -Int64.ofInt z) = Int64.ofInt z) ∧ (z < 0 → (if 0 < Int64.ofInt z then Int64.ofInt z else -Int64.ofInt z) = Int64.ofInt (-z)) := sorry
theorem yt_abs32 {z : Int} (h : ys_mn false ≤ z ∧ z ≤ ys_mx false) : (0 ≤ z → (if 0 ≤ Int32.ofInt z then Int32.ofInt z else 0 - Int32.ofInt z) = Int32.ofInt z) ∧ (z < 0 → (if 0 ≤ Int32.ofInt z then Int32.ofInt z else 0 - Int32.ofInt z) = Int32.ofInt (-z)) := sorry
variable {G : List Cond} {pt : Nat → yt_Ps} {calls : List yt_CE} {K : ys_K} {fl : ys_FL} {ci cj : List (Nat × Int)} {cps cqs : List Nat} {nx : Nat → Option (Instr × Nat)}
theorem yt_kinv {idx : Nat} {st : Bool} {fr lo : Nat} {o : List yt_U × List yt_O} (S : CallFix p m c cc nL s args Ts own) (hK : va_K D cl tys s) (hA0 : ∀ q, H0.size ≤ q → A q) (hfr : fr ≤ R.frames) (hlo : lo ≤ R.locals) (hkk : kc ≤ R.cells ∧ kz ≤ R.slots) (hd : decode cc pc = .ok (if st = true then .invokestatic idx else .invokevirtual idx, 3)) (hob : ∀ q ∈ o.2, ∀ (r : Nat → Int) (g : yt_G), ys_okB r b → (∀ i, i < E → r i = r0 i) → yt_h tb r gi h g → pt q.1 (ys_val r 0 q.2.1) (yt_sub q.2.2 g)) (k : ∀ q ∈ o.1, yt_X p l e R s m args below meth c Q kc kz D cl ad cT sh A H0 nL mods g0 r0 E tb gi q.2.2 q.1 q.2.1) : ∀ (cs : List yt_CE), (∀ C ∈ cs, yt_Con l D cl cT tys G C.2.1 C.2.2 (pt C.1.2.1) (tb C.1.2.1) ∧ ys_CL own Ts cl C.2.1 G (if C.1.1.2 = true then .invokestatic C.1.1.1 else .invokevirtual C.1.1.1) C.2.2 ∧ yt_shok C.1.2.2.2 C.2.1 sh = true ∧ (C.1.2.2.1 = false → ∀ r g, pt C.1.2.1 r g)) → yt_inv fr lo mods sh idx st h pc b fds lv sv cs = some o → yt_X p l e R s m args below meth c Q kc kz D cl ad cT sh A H0 nL mods g0 r0 E tb gi h pc (b, fds, lv, sv) := sorry
set_option maxHeartbeats 4000000 in
theorem yt_step_ok {i : Instr} {n : Nat} {o : List yt_U × List yt_O} (hw : yt_Hw tb) (S : CallFix p m c cc nL s args Ts own) (hnL : K.1.1.2.2.1 = nL) (hmods : K.2.2.2 = mods) (hfr : K.1.2.1 ≤ R.frames) (hlo : K.1.2.2 ≤ R.locals) (hkk : kc ≤ R.cells ∧ kz ≤ R.slots) (hA0 : ∀ q, H0.size ≤ q → A q) (hK : va_K D cl tys s) (hty : ys_Ty tys cT sh) (hLk : ys_Lk own Ts cl fl ci cj cps) (hCq : ∀ v, v ∈ cqs → yt_Cq own Ts v) (hcalls : ∀ C ∈ calls, yt_Con l D cl cT tys G C.2.1 C.2.2 (pt C.1.2.1) (tb C.1.2.1) ∧ ys_CL own Ts cl C.2.1 G (if C.1.1.2 = true then .invokestatic C.1.1.1 else .invokevirtual C.1.1.1) C.2.2 ∧ yt_shok C.1.2.2.2 C.2.1 sh = true ∧ (C.1.2.2.1 = false → ∀ r g, pt C.1.2.1 r g)) (hnx : ∀ pc i, nx pc = some i → decode cc pc = .ok i) (hd : decode cc pc = .ok (i, n)) (hs : yt_step sh fl ci cj calls cps cqs K nx h pc b fds lv sv i n = some o) (hob : ∀ q ∈ o.2, ∀ (r : Nat → Int) (g : yt_G), ys_okB r b → (∀ i, i < E → r i = r0 i) → yt_h tb r gi h g → pt q.1 (ys_val r 0 q.2.1) (yt_sub q.2.2 g)) (k : ∀ q ∈ o.1, yt_X p l e R s m args below meth c Q kc kz D cl ad cT sh A H0 nL mods g0 r0 E tb gi q.2.2 q.1 q.2.1) : yt_X p l e R s m args below meth c Q kc kz D cl ad cT sh A H0 nL mods g0 r0 E tb gi h pc (b, fds, lv, sv) := sorry
end YTS

