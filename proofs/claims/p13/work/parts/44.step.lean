/-! one step of the second engine -/
noncomputable def yt_un (w : Bool) (v : ys_V) : Option ys_L := match w, v with
  | false, .inl (.inl z) => some z
  | true, .inl (.inr z) => some z
  | _, _ => none
theorem yt_un_ok {w : Bool} {v : ys_V} {z : ys_L} (h : yt_un w v = some z) : v = yt_mk w z := by
  unfold yt_un at h
  split at h
  · cases Option.some.inj h
    rfl
  · cases Option.some.inj h
    rfl
  · cases h
theorem yt_mk_sti {n : Nat} {w : Bool} {x : ys_L} (h : ys_stV n (yt_mk w x)) : ys_stb n x := by
  cases w <;> exact h
noncomputable def yt_hbin (w : Bool) (F : ys_B → ys_L → ys_L → Option (List yt_Br)) (h : List yt_Ev) (pc : Nat) (b : ys_B) (fds : ys_F) (lv : List (Nat × ys_V)) (sv : List ys_V) : Option (List yt_U) := match sv with
  | vy :: vx :: t => (match yt_un w vy, yt_un w vx with
    | some y, some x => (match F b x y with
      | some brs => some (yt_num w (pc + 1) b fds lv t h x y brs)
      | none => none)
    | _, _ => none)
  | _ => none
noncomputable def yt_hone (w : Bool) (k : Nat) (F : ys_B → ys_L → Option (List yt_Br)) (fr lo : Nat) (h : List yt_Ev) (pc : Nat) (b : ys_B) (fds : ys_F) (lv : List (Nat × ys_V)) (sv : List ys_V) : Option (List yt_U) := match sv with
  | vx :: t => (match yt_un w vx with
    | some x => (match F b x with
      | some brs => if decide (1 ≤ fr) && decide ((t.map ys_cat).sum + k ≤ lo) then some (yt_num w (pc + 3) b fds lv t h x x brs) else none
      | none => none)
    | none => none)
  | _ => none
/-- the greater of two longs -/
noncomputable def yt_bmax (b : ys_B) (x y : ys_L) : Option (List yt_Br) := if ys_inr true b.1 x && ys_inr true b.1 y then some [((0, 0), [yt_m1 (ys_sub x y)], x, false), ((0, 0), [ys_sub y x], y, false)] else none
noncomputable def yt_hmx (fr lo : Nat) (h : List yt_Ev) (pc : Nat) (b : ys_B) (fds : ys_F) (lv : List (Nat × ys_V)) (sv : List ys_V) : Option (List yt_U) := match sv with
  | vy :: vx :: t => (match yt_un true vy, yt_un true vx with
    | some y, some x => (match yt_bmax b x y with
      | some brs => if decide (1 ≤ fr) && decide ((t.map ys_cat).sum + 15 ≤ lo) then some (yt_num true (pc + 3) b fds lv t h x y brs) else none
      | none => none)
    | _, _ => none)
  | _ => none
noncomputable def yt_Cq (own : String) (Ts : List Cond) (v : Nat) : Prop := match v / 100000 with
  | 3 => Cond.methodLink own (v - 300000) Lib.Math.abs.name ∈ Ts ∧ Cond.static Lib.Math.abs.name ∈ Ts ∧ Cond.initialized "java/lang/Math" ∈ Ts ∧ Cond.code Lib.Math.abs.name Lib.Math.abs.code 1 (some .int) ∈ Ts
  | 4 => Cond.methodLink own (v - 400000) Lib.MathLoose.abs_long.x ∈ Ts ∧ Cond.static Lib.MathLoose.abs_long.x ∈ Ts ∧ Cond.initialized "java/lang/Math" ∈ Ts ∧ Cond.code Lib.MathLoose.abs_long.x Lib.MathLoose.abs_long.code 2 (some .long) ∈ Ts
  | 5 => Cond.methodLink own (v - 500000) Lib.MathLoose.max_long.x ∈ Ts ∧ Cond.static Lib.MathLoose.max_long.x ∈ Ts ∧ Cond.initialized "java/lang/Math" ∈ Ts ∧ Cond.code Lib.MathLoose.max_long.x Lib.MathLoose.max_long.code 4 (some .long) ∈ Ts
  | 7 => True
  | _ => False
abbrev yt_O : Type := Nat × List ys_L × List Nat
/-- the words of products that go round, and of quotients -/
noncomputable def yt_hwp : Nat → (Nat → Int) → Prop
  | 0, r => r 2 = (r 0 * r 1).bmod Int64.size
  | 1, r => r 2 = (r 0).tdiv (r 1)
  | 2, r => r 1 = (Int32.ofInt (r 0)).toInt
  | 3, r => r 1 = (Int32.ofInt (r 0)).toInt8.toInt
  | 4, r => r 1 = (Int32.ofInt (r 0)).toInt16.toInt
  | 5, r => r 2 = (r 0 + r 1).bmod Int64.size
  | 6, r => r 1 = (Int32.ofInt (-(r 0))).toInt
  | 7, r => Int64.ofInt (r 2) = Int64.ofInt (r 0) &&& Int64.ofInt (r 1)
  | 8, r => Int64.ofInt (r 2) = Int64.ofInt (r 0) ||| Int64.ofInt (r 1)
  | 9, r => Int64.ofInt (r 2) = Int64.ofInt (r 0) <<< ((Int32.ofInt (r 1)).toInt64 &&& 63)
  | 15, r => Int32.ofInt (r 2) = Int32.ofInt (r 0) + Int32.ofInt (r 1)
  | 16, r => r 2 = (r 0).tmod (r 1)
  | 17, r => Int64.ofInt (r 2) = Int64.ofInt (r 0) >>> ((Int32.ofInt (r 1)).toInt64 &&& 63)
  | 18, r => Int64.ofInt (r 2) = ((Int64.ofInt (r 0)).toUInt64 >>> ((Int32.ofInt (r 1)).toInt64.toUInt64 &&& Int64.toUInt64 63)).toInt64
  | 19, r => r 2 = (r 0 - r 1).bmod Int64.size
  | 10, r => Int32.ofInt (r 2) = Int32.ofInt (r 0) <<< (Int32.ofInt (r 1) &&& 31)
  | 11, r => Int32.ofInt (r 2) = Int32.ofInt (r 0) ||| Int32.ofInt (r 1)
  | 12, r => Int32.ofInt (r 2) = Int32.ofInt (r 0) &&& Int32.ofInt (r 1)
  | 13, r => Int32.ofInt (r 2) = Int32.ofInt (r 0) >>> (Int32.ofInt (r 1) &&& 31)
  | 14, r => Int32.ofInt (r 2) = ((Int32.ofInt (r 0)).toUInt32 >>> ((Int32.ofInt (r 1)).toUInt32 &&& Int32.toUInt32 31)).toInt32
  | _, _ => False
noncomputable def yt_Hw (tb : yt_Tb) : Prop := ∀ (i : Nat) (r : Nat → Int) (g : yt_G), yt_hwp i r → tb 998 i r g g
noncomputable def yt_dvh (x y : ys_L) (u : yt_U) : yt_U := match u.2.1.2.2.2 with
  | v :: _ => (match yt_un true v with
    | some z => (u.1, u.2.1, .inr (.inr (.inl (998, 1, [x, y, z], [], []))) :: u.2.2)
    | none => u)
  | [] => u
noncomputable def yt_rmh (x y : ys_L) (u : yt_U) : yt_U := match u.2.1.2.2.2 with
  | v :: _ => (match yt_un true v with
    | some z => (u.1, u.2.1, .inr (.inr (.inl (998, 16, [x, y, z], [], []))) :: u.2.2)
    | none => u)
  | [] => u
/-- a product of longs that may go round: its word is that of a call, number 998 -/
noncomputable def yt_hwm (h : List yt_Ev) (pc : Nat) (b : ys_B) (fds : ys_F) (lv : List (Nat × ys_V)) (sv : List ys_V) : Option (List yt_U) := match sv with
  | vy :: vx :: t => (match yt_un true vy, yt_un true vx with
    | some y, some x => if x.1 = [] ∧ ys_inr true b.1 (ys_scale x.2 y) = true then none else if y.1 = [] then none else some [(pc + 1, ((b.1 ++ [(ys_mn true, ys_mx true)], b.2), fds, lv, yt_mk true (ys_sym b.1.length) :: t), .inr (.inr (.inl (998, 0, [x, y, ys_sym b.1.length], [], []))) :: h)]
    | _, _ => none)
  | _ => none
/-- a sum of longs that may go round -/
noncomputable def yt_hwa (h : List yt_Ev) (pc : Nat) (b : ys_B) (fds : ys_F) (lv : List (Nat × ys_V)) (sv : List ys_V) : Option (List yt_U) := match sv with
  | vy :: vx :: t => (match yt_un true vy, yt_un true vx with
    | some y, some x => if ys_inr true b.1 (ys_add x y) then none else some [(pc + 1, ((b.1 ++ [(ys_mn true, ys_mx true)], b.2), fds, lv, yt_mk true (ys_sym b.1.length) :: t), .inr (.inr (.inl (998, 5, [x, y, ys_sym b.1.length], [], []))) :: h)]
    | _, _ => none)
  | _ => none
noncomputable def yt_hws (h : List yt_Ev) (pc : Nat) (b : ys_B) (fds : ys_F) (lv : List (Nat × ys_V)) (sv : List ys_V) : Option (List yt_U) := match sv with
  | vy :: vx :: t => (match yt_un true vy, yt_un true vx with
    | some y, some x => if ys_inr true b.1 (ys_sub x y) then none else some [(pc + 1, ((b.1 ++ [(ys_mn true, ys_mx true)], b.2), fds, lv, yt_mk true (ys_sym b.1.length) :: t), .inr (.inr (.inl (998, 19, [x, y, ys_sym b.1.length], [], []))) :: h)]
    | _, _ => none)
  | _ => none
noncomputable def yt_inv (fr lo : Nat) (mods : List Nat) (sh : List ys_C) (idx : Nat) (st : Bool) (h : List yt_Ev) (pc : Nat) (b : ys_B) (fds : ys_F) (lv : List (Nat × ys_V)) (sv : List ys_V) : List yt_CE → Option (List yt_U × List yt_O)
  | [] => none
  | C :: t => if C.1.1 = (idx, st) then (match yt_hcall fr lo mods C h pc b fds lv sv with
    | some o => if sh.length = fds.1.length then some (o.2, if C.1.2.2.1 = true then [(C.1.2.1, o.1, C.1.2.2.2)] else []) else none
    | none => yt_inv fr lo mods sh idx st h pc b fds lv sv t) else yt_inv fr lo mods sh idx st h pc b fds lv sv t
noncomputable def yt_p (x : Option (List yt_U)) : Option (List yt_U × List yt_O) := match x with
  | some y => some (y, [])
  | none => none
noncomputable def yt_pl (h : List yt_Ev) (x : Option (List (Nat × ys_S))) : Option (List yt_U × List yt_O) := match x with
  | some y => some (y.map (fun q => (q.1, q.2, h)), [])
  | none => none
theorem yt_p_ok {x : Option (List yt_U)} {o : List yt_U × List yt_O} (h : yt_p x = some o) : x = some o.1 := by
  unfold yt_p at h
  split at h
  · cases Option.some.inj h
    rfl
  · cases h
theorem yt_pl_ok {e : List yt_Ev} {x : Option (List (Nat × ys_S))} {o : List yt_U × List yt_O} (h : yt_pl e x = some o) : ∃ y, x = some y ∧ o.1 = y.map fun q => (q.1, q.2, e) := by
  unfold yt_pl at h
  split at h
  · rename_i y
    cases Option.some.inj h
    exact ⟨y, rfl, rfl⟩
  · cases h
noncomputable def yt_K0 (K : ys_K) : ys_K := (K.1, K.2.1, ([], []))
noncomputable def yt_nc (F : ys_B → ys_L → ys_L → Option (List yt_Br)) (b : ys_B) (x y : ys_L) : Option (List yt_Br) := if y.1 = [] then none else F b x y
noncomputable def yt_nc2 (F : ys_B → ys_L → ys_L → Option (List yt_Br)) (b : ys_B) (x y : ys_L) : Option (List yt_Br) := if x.1 = [] then none else if y.1 = [] then none else F b x y
theorem yt_nc_ok {F : ys_B → ys_L → ys_L → Option (List yt_Br)} {b : ys_B} {x y : ys_L} {o : List yt_Br} (h : yt_nc F b x y = some o) : F b x y = some o := by
  unfold yt_nc at h
  split at h
  · cases h
  · exact h
theorem yt_nc2_ok {F : ys_B → ys_L → ys_L → Option (List yt_Br)} {b : ys_B} {x y : ys_L} {o : List yt_Br} (h : yt_nc2 F b x y = some o) : F b x y = some o := by
  unfold yt_nc2 at h
  split at h
  · cases h
  · split at h
    · cases h
    · exact h
noncomputable def yt_hdv (h : List yt_Ev) (pc : Nat) (b : ys_B) (fds : ys_F) (lv : List (Nat × ys_V)) (sv : List ys_V) : Option (List yt_U) := match sv with
  | vy :: vx :: t => (match yt_un true vy, yt_un true vx with
    | some y, some x => (match yt_nc yt_bdiv b x y with
      | some brs => some ((yt_num true (pc + 1) b fds lv t h x y brs).map (yt_dvh x y))
      | none => none)
    | _, _ => none)
  | _ => none
noncomputable def yt_hrm (h : List yt_Ev) (pc : Nat) (b : ys_B) (fds : ys_F) (lv : List (Nat × ys_V)) (sv : List ys_V) : Option (List yt_U) := match sv with
  | vy :: vx :: t => (match yt_un true vy, yt_un true vx with
    | some y, some x => (match yt_nc yt_brem b x y with
      | some brs => some ((yt_num true (pc + 1) b fds lv t h x y brs).map (yt_rmh x y))
      | none => none)
    | _, _ => none)
  | _ => none
/-- a cast that may cut: its word is that of a call, number 998 -/
noncomputable def yt_hct (w : Bool) (i : Nat) (q : Int × Int) (h : List yt_Ev) (pc : Nat) (b : ys_B) (fds : ys_F) (lv : List (Nat × ys_V)) (sv : List ys_V) : Option (List yt_U) := match sv with
  | vx :: t => (match yt_un w vx with
    | some x => if ys_geb b.1 x q.1 && ys_geb b.1 (ys_scale (-1) x) (-q.2) then none else some [(pc + 1, ((b.1 ++ [q], b.2), fds, lv, yt_mk false (ys_sym b.1.length) :: t), .inr (.inr (.inl (998, i, [x, ys_sym b.1.length], [], []))) :: h)]
    | none => none)
  | _ => none
noncomputable def yt_hng (h : List yt_Ev) (pc : Nat) (b : ys_B) (fds : ys_F) (lv : List (Nat × ys_V)) (sv : List ys_V) : Option (List yt_U) := match sv with
  | vx :: t => (match yt_un false vx with
    | some x => if ys_inr false b.1 (ys_scale (-1) x) then none else some [(pc + 1, ((b.1 ++ [(ys_mn false, ys_mx false)], b.2), fds, lv, yt_mk false (ys_sym b.1.length) :: t), .inr (.inr (.inl (998, 6, [x, ys_sym b.1.length], [], []))) :: h)]
    | none => none)
  | _ => none
/-- two longs, or a long and an int: what comes out is told as the word of a call, number 998 -/
noncomputable def yt_hbe (i : Nat) (F : ys_B → ys_L → ys_L → Option (ys_B × ys_L)) (h : List yt_Ev) (pc : Nat) (b : ys_B) (fds : ys_F) (lv : List (Nat × ys_V)) (sv : List ys_V) : Option (List yt_U) := match sv with
  | .inl (.inr y) :: .inl (.inr x) :: t => (match F b x y with
    | some o => some [(pc + 1, (o.1, fds, lv, .inl (.inr o.2) :: t), .inr (.inr (.inl (998, i, [x, y, o.2], [], []))) :: h)]
    | none => none)
  | _ => none
noncomputable def yt_hbi (i : Nat) (F : ys_B → ys_L → ys_L → Option (ys_B × ys_L)) (h : List yt_Ev) (pc : Nat) (b : ys_B) (fds : ys_F) (lv : List (Nat × ys_V)) (sv : List ys_V) : Option (List yt_U) := match sv with
  | .inl (.inl y) :: .inl (.inl x) :: t => (match F b x y with
    | some o => some [(pc + 1, (o.1, fds, lv, .inl (.inl o.2) :: t), .inr (.inr (.inl (998, i, [x, y, o.2], [], []))) :: h)]
    | none => none)
  | _ => none
noncomputable def yt_hbs (i : Nat) (F : ys_B → ys_L → ys_L → Option (ys_B × ys_L)) (h : List yt_Ev) (pc : Nat) (b : ys_B) (fds : ys_F) (lv : List (Nat × ys_V)) (sv : List ys_V) : Option (List yt_U) := match sv with
  | .inl (.inl y) :: .inl (.inr x) :: t => (match F b x y with
    | some o => some [(pc + 1, (o.1, fds, lv, .inl (.inr o.2) :: t), .inr (.inr (.inl (998, i, [x, y, o.2], [], []))) :: h)]
    | none => none)
  | _ => none
noncomputable def yt_rnd (F : ys_B → ys_L → ys_L → Option (ys_B × ys_L)) (b : ys_B) (x y : ys_L) : Option (ys_B × ys_L) := if ys_inr false b.1 (ys_add x y) then none else F b x y
theorem yt_rnd_ok {F : ys_B → ys_L → ys_L → Option (ys_B × ys_L)} {op : Int32 → Int32 → Int32} {ok : Int32 → Prop} (h : ys_B32 F op ok) : ys_B32 (yt_rnd F) op ok := fun r b x y o a1 a2 a3 a4 hs => by
  unfold yt_rnd at hs
  split at hs
  · cases hs
  · exact h r b x y o a1 a2 a3 a4 hs
noncomputable def yt_step (sh : List ys_C) (fl : ys_FL) (ci cj : List (Nat × Int)) (calls : List yt_CE) (cps cqs : List Nat) (K : ys_K) (nx : Nat → Option (Instr × Nat)) (h : List yt_Ev) (pc : Nat) (b : ys_B) (fds : ys_F) (lv : List (Nat × ys_V)) (sv : List ys_V) (i : Instr) (n : Nat) : Option (List yt_U × List yt_O) := match i with
  | .iaload => ys_g1 n 1 (yt_p (yt_hld 0 false sh h pc b fds lv sv))
  | .laload => ys_g1 n 1 (yt_p (yt_hld 1 true sh h pc b fds lv sv))
  | .baload => ys_g1 n 1 (ys_or (yt_p (yt_hld 2 false sh h pc b fds lv sv)) (yt_p (yt_hld 3 false sh h pc b fds lv sv)))
  | .iastore => ys_g1 n 1 (yt_p (yt_hst 0 false (-9223372036854775808, 9223372036854775808) sh K.2.2.2 h pc b fds lv sv))
  | .lastore => ys_g1 n 1 (yt_p (yt_hst 1 true (-9223372036854775808, 9223372036854775808) sh K.2.2.2 h pc b fds lv sv))
  | .bastore => ys_g1 n 1 (ys_or (yt_p (yt_hst 2 false (-128, 127) sh K.2.2.2 h pc b fds lv sv)) (yt_p (yt_hst 3 false (0, 1) sh K.2.2.2 h pc b fds lv sv)))
  | .lrem => ys_or (ys_g1 n 1 (yt_p (yt_hrm h pc b fds lv sv))) (yt_pl h (ys_stp sh fl ci cj [] cps (yt_K0 K) nx pc b fds lv sv .lrem n))
  | .ldiv => ys_or (ys_g1 n 1 (yt_p (yt_hdv h pc b fds lv sv))) (yt_pl h (ys_stp sh fl ci cj [] cps (yt_K0 K) nx pc b fds lv sv .ldiv n))
  | .lmul => ys_or (ys_or (ys_g1 n 1 (yt_p (yt_hbin true (yt_nc2 (yt_bmul true)) h pc b fds lv sv))) (ys_g1 n 1 (yt_p (yt_hwm h pc b fds lv sv)))) (yt_pl h (ys_stp sh fl ci cj [] cps (yt_K0 K) nx pc b fds lv sv .lmul n))
  | .ladd => ys_or (ys_g1 n 1 (yt_p (yt_hwa h pc b fds lv sv))) (yt_pl h (ys_stp sh fl ci cj [] cps (yt_K0 K) nx pc b fds lv sv .ladd n))
  | .land => ys_g1 n 1 (yt_p (yt_hbe 7 (ys_cfo64 (fun x y => x &&& y) (ys_fand true)) h pc b fds lv sv))
  | .lor => ys_g1 n 1 (yt_p (yt_hbe 8 (ys_cfo64 (fun x y => x ||| y) (ys_fany true)) h pc b fds lv sv))
  | .lshl => ys_g1 n 1 (yt_p (yt_hbs 9 (ys_cfoLI (fun x y => x <<< (y.toInt64 &&& 63)) (ys_fshl true)) h pc b fds lv sv))
  | .lsub => ys_or (ys_g1 n 1 (yt_p (yt_hws h pc b fds lv sv))) (yt_pl h (ys_stp sh fl ci cj [] cps (yt_K0 K) nx pc b fds lv sv .lsub n))
  | .lshr => ys_g1 n 1 (yt_p (yt_hbs 17 (ys_cfoLI (fun x y => x >>> (y.toInt64 &&& 63)) (ys_fany true)) h pc b fds lv sv))
  | .lushr => ys_g1 n 1 (yt_p (yt_hbs 18 (ys_cfoLI (fun x y => (x.toUInt64 >>> (y.toInt64.toUInt64 &&& Int64.toUInt64 63)).toInt64) (ys_fany true)) h pc b fds lv sv))
  | .imul => ys_or (ys_g1 n 1 (yt_p (yt_hbin false (yt_nc2 (yt_bmul false)) h pc b fds lv sv))) (yt_pl h (ys_stp sh fl ci cj [] cps (yt_K0 K) nx pc b fds lv sv .imul n))
  | .l2i => ys_or (ys_g1 n 1 (yt_p (yt_hct true 2 (ys_mn false, ys_mx false) h pc b fds lv sv))) (yt_pl h (ys_stp sh fl ci cj [] cps (yt_K0 K) nx pc b fds lv sv .l2i n))
  | .ineg => ys_or (ys_g1 n 1 (yt_p (yt_hng h pc b fds lv sv))) (yt_pl h (ys_stp sh fl ci cj [] cps (yt_K0 K) nx pc b fds lv sv .ineg n))
  | .i2b => ys_or (ys_g1 n 1 (yt_p (yt_hct false 3 (-128, 127) h pc b fds lv sv))) (yt_pl h (ys_stp sh fl ci cj [] cps (yt_K0 K) nx pc b fds lv sv .i2b n))
  | .i2s => ys_or (ys_g1 n 1 (yt_p (yt_hct false 4 (-32768, 32767) h pc b fds lv sv))) (yt_pl h (ys_stp sh fl ci cj [] cps (yt_K0 K) nx pc b fds lv sv .i2s n))
  | .iadd => if cqs.contains 700000 then ys_or (ys_g1 n 1 (yt_p (yt_hbi 15 (yt_rnd (ys_fadd false)) h pc b fds lv sv))) (yt_pl h (ys_stp sh fl ci cj [] cps (yt_K0 K) nx pc b fds lv sv .iadd n)) else yt_pl h (ys_stp sh fl ci cj [] cps (yt_K0 K) nx pc b fds lv sv .iadd n)
  | .ishl => ys_g1 n 1 (yt_p (yt_hbi 10 (ys_cfo32 (fun x y => x <<< (y &&& 31)) (ys_fshl false)) h pc b fds lv sv))
  | .ior => ys_g1 n 1 (yt_p (yt_hbi 11 (ys_cfo32 (fun x y => x ||| y) ys_for) h pc b fds lv sv))
  | .ishr => ys_g1 n 1 (yt_p (yt_hbi 13 (ys_cfo32 (fun x y => x >>> (y &&& 31)) ys_fshr) h pc b fds lv sv))
  | .iushr => ys_g1 n 1 (yt_p (yt_hbi 14 (ys_cfo32 (fun x y => (x.toUInt32 >>> (y.toUInt32 &&& Int32.toUInt32 31)).toInt32) (ys_fany false)) h pc b fds lv sv))
  | .iand => if cqs.contains 700000 then ys_g1 n 1 (yt_p (yt_hbi 12 (ys_cfo32 (fun x y => x &&& y) (ys_fand false)) h pc b fds lv sv)) else ys_or (ys_g1 n 1 (yt_p (yt_hbin false (yt_nc2 yt_band) h pc b fds lv sv))) (ys_g1 n 1 (yt_p (yt_hbi 12 (ys_cfo32 (fun x y => x &&& y) (ys_fand false)) h pc b fds lv sv)))
  | .invokevirtual k => ys_g1 n 3 (yt_inv K.1.2.1 K.1.2.2 K.2.2.2 sh k false h pc b fds lv sv calls)
  | .invokestatic k => if 100000 ≤ k then none else if cps.contains k then (if 1 ≤ K.1.2.1 then ys_g1 n 3 (yt_p (yt_hcp K.1.2.2 sh K.2.2.2 h pc b fds lv sv)) else none) else if cqs.contains (300000 + k) then ys_g1 n 3 (yt_p (yt_hone false 13 (yt_babs false) K.1.2.1 K.1.2.2 h pc b fds lv sv)) else if cqs.contains (400000 + k) then ys_g1 n 3 (yt_p (yt_hone true 13 (yt_babs true) K.1.2.1 K.1.2.2 h pc b fds lv sv)) else if cqs.contains (500000 + k) then ys_g1 n 3 (yt_p (yt_hmx K.1.2.1 K.1.2.2 h pc b fds lv sv)) else if cps.contains (100000 + k) || cps.contains (200000 + k) then yt_pl h (ys_stp sh fl ci cj [] cps (yt_K0 K) nx pc b fds lv sv (.invokestatic k) n) else ys_g1 n 3 (yt_inv K.1.2.1 K.1.2.2 K.2.2.2 sh k true h pc b fds lv sv calls)
  | i => if ys_isr i = true then none else yt_pl h (ys_stp sh fl ci cj [] cps (yt_K0 K) nx pc b fds lv sv i n)
theorem yt_brem_okd {b : ys_B} {x y : ys_L} {brs : List yt_Br} (hs : yt_brem b x y = some brs) (hx : ys_stb b.1.length x) (hy : ys_stb b.1.length y) {r : Nat → Int} (hb : ys_okB r b) : ys_ev r y ≠ 0 ∧ (ys_mn true ≤ ys_ev r y ∧ ys_ev r y ≤ ys_mx true) ∧ (∀ br ∈ brs, yt_bst b.1.length br) ∧ ∃ br ∈ brs, ∃ z, yt_sel true b.1.length r x y (.long (Int64.ofInt (ys_ev r x) - Int64.ofInt (ys_ev r x) / Int64.ofInt (ys_ev r y) * Int64.ofInt (ys_ev r y))) br z ∧ br.2.2.2 = false ∧ ys_ev (ys_up r b.1.length z) br.2.2.1 = (ys_ev r x).tmod (ys_ev r y) := by
  have sx := ys_stb_mono hx (Nat.le_succ _)
  have sy := ys_stb_mono hy (Nat.le_succ _)
  have sn : ys_stb (b.1.length + 1) (ys_sym b.1.length) := ys_stb_sym (Nat.lt_succ_self _)
  unfold yt_brem at hs
  split at hs
  · rename_i ly hyy hl hu
    split at hs
    · rename_i hc
      rw [Bool.and_eq_true] at hc
      have rx := ys_inr_ok hb.1 hc.1
      have ry := ys_inr_ok hb.1 hc.2
      rw [ys_mn_t, ys_mx_t] at rx ry
      have l1 := ys_low_le hb.1 hl
      have l2 := ys_high_le hb.1 hu
      have hrem := yt_rem64 rx ry
      rw [hrem]
      split at hs
      · rename_i hp
        cases Option.some.inj hs
        refine ⟨by omega, ys_inr_ok hb.1 hc.2, ?_, ?_⟩
        · intro br hbr
          rcases List.mem_cons.mp hbr with q | hbr
          · rw [q]
            exact ⟨yt_all2 sx (ys_stb_m1 (ys_stb_sub sy sx)), sx⟩
          rcases List.mem_cons.mp hbr with q | hbr
          · rw [q]
            exact ⟨yt_all3 (ys_stb_sub sx sy) (ys_stb_m1 (ys_stb_sub sy sn)) (ys_stb_sub (ys_stb_sub sx sy) sn), sn⟩
          · rw [List.mem_singleton.mp hbr]
            exact ⟨yt_all3 (ys_stb_m1 (ys_stb_scale _ sx)) (ys_stb_m1 (ys_stb_add sn sy)) (ys_stb_sub sn sx), sn⟩
        · by_cases h0 : 0 ≤ ys_ev r x
          · have e1 : (ys_ev r x).tmod (ys_ev r y) = ys_ev r x % ys_ev r y := Int.tmod_eq_emod_of_nonneg h0
            have e2 := Int.emod_nonneg (ys_ev r x) (b := ys_ev r y) (by omega)
            have e3 := Int.emod_lt_of_pos (ys_ev r x) (b := ys_ev r y) (by omega)
            by_cases hlt : ys_ev r x < ys_ev r y
            · refine ⟨_, List.mem_cons_self, 0, ⟨⟨Int.le_refl 0, Int.le_refl 0⟩, yt_fk2 ?_ ?_, ?_, fun z => by cases z⟩, rfl, ?_⟩
              · rw [yt_up_ev hx]; exact h0
              · rw [yt_m1_ev, ys_sub_ev, yt_up_ev hx, yt_up_ev hy]; omega
              · show Value.long (Int64.ofInt (ys_ev _ x)) = _
                rw [yt_up_ev hx, e1, Int.emod_eq_of_lt h0 hlt]
              · show ys_ev _ x = _
                rw [yt_up_ev hx, e1, Int.emod_eq_of_lt h0 hlt]
            · have e4 := yt_emod_big (x := ys_ev r x) (y := ys_ev r y) (by omega) (by omega)
              refine ⟨_, List.mem_cons_of_mem _ List.mem_cons_self, ys_ev r x % ys_ev r y, ⟨⟨e2, by show _ ≤ hyy; omega⟩, yt_fk3 ?_ ?_ ?_, ?_, fun z => by cases z⟩, rfl, ?_⟩
              · rw [ys_sub_ev, yt_up_ev hx, yt_up_ev hy]; omega
              · rw [yt_m1_ev, ys_sub_ev, yt_up_ev hy, yt_up_sym]; omega
              · rw [ys_sub_ev, ys_sub_ev, yt_up_ev hx, yt_up_ev hy, yt_up_sym]; omega
              · show Value.long (Int64.ofInt (ys_ev _ (ys_sym b.1.length))) = _
                rw [yt_up_sym, e1]
              · show ys_ev _ (ys_sym b.1.length) = _
                rw [yt_up_sym, e1]
          · have e1 : (ys_ev r x).tmod (ys_ev r y) = -((-ys_ev r x) % ys_ev r y) := by
              have := Int.neg_tmod (-ys_ev r x) (ys_ev r y)
              rw [Int.neg_neg, Int.tmod_eq_emod_of_nonneg (show 0 ≤ -ys_ev r x by omega)] at this
              exact this
            have e2 := Int.emod_nonneg (-ys_ev r x) (b := ys_ev r y) (by omega)
            have e3 := Int.emod_lt_of_pos (-ys_ev r x) (b := ys_ev r y) (by omega)
            have e4 : (-ys_ev r x) % ys_ev r y ≤ -ys_ev r x := by
              by_cases hlt : -ys_ev r x < ys_ev r y
              · rw [Int.emod_eq_of_lt (by omega) hlt]
                omega
              · have := yt_emod_big (x := -ys_ev r x) (y := ys_ev r y) (by omega) (by omega)
                omega
            refine ⟨_, List.mem_cons_of_mem _ (List.mem_cons_of_mem _ List.mem_cons_self), -((-ys_ev r x) % ys_ev r y), ⟨⟨by show -hyy ≤ _; omega, by show _ ≤ (0 : Int); omega⟩, yt_fk3 ?_ ?_ ?_, ?_, fun z => by cases z⟩, rfl, ?_⟩
            · rw [yt_m1_ev, yt_ng_ev, yt_up_ev hx]; omega
            · rw [yt_m1_ev, ys_add_ev, yt_up_ev hy, yt_up_sym]; omega
            · rw [ys_sub_ev, yt_up_ev hx, yt_up_sym]; omega
            · show Value.long (Int64.ofInt (ys_ev _ (ys_sym b.1.length))) = _
              rw [yt_up_sym, e1]
            · show ys_ev _ (ys_sym b.1.length) = _
              rw [yt_up_sym, e1]
      · split at hs
        · rename_i hp
          cases Option.some.inj hs
          refine ⟨by omega, ys_inr_ok hb.1 hc.2, ?_, ?_⟩
          · intro br hbr
            rcases List.mem_cons.mp hbr with q | hbr
            · rw [q]
              exact ⟨yt_all3 sx (ys_stb_m1 (ys_stb_sub (ys_stb_scale _ sy) sn)) (ys_stb_sub sx sn), sn⟩
            · rw [List.mem_singleton.mp hbr]
              exact ⟨yt_all3 (ys_stb_m1 (ys_stb_scale _ sx)) (ys_stb_m1 (ys_stb_sub sn sy)) (ys_stb_sub sn sx), sn⟩
          · have e0 : (ys_ev r x).tmod (ys_ev r y) = (ys_ev r x).tmod (-ys_ev r y) := (Int.tmod_neg _ _).symm
            rw [e0]
            by_cases h0 : 0 ≤ ys_ev r x
            · have e1 : (ys_ev r x).tmod (-ys_ev r y) = ys_ev r x % (-ys_ev r y) := Int.tmod_eq_emod_of_nonneg h0
              have e2 := Int.emod_nonneg (ys_ev r x) (b := -ys_ev r y) (by omega)
              have e3 := Int.emod_lt_of_pos (ys_ev r x) (b := -ys_ev r y) (by omega)
              have e4 : ys_ev r x % (-ys_ev r y) ≤ ys_ev r x := by
                by_cases hlt : ys_ev r x < -ys_ev r y
                · rw [Int.emod_eq_of_lt h0 hlt]
                  omega
                · have := yt_emod_big (x := ys_ev r x) (y := -ys_ev r y) (by omega) (by omega)
                  omega
              refine ⟨_, List.mem_cons_self, ys_ev r x % (-ys_ev r y), ⟨⟨e2, by show _ ≤ -ly; omega⟩, yt_fk3 ?_ ?_ ?_, ?_, fun z => by cases z⟩, rfl, ?_⟩
              · rw [yt_up_ev hx]; exact h0
              · rw [yt_m1_ev, ys_sub_ev, yt_ng_ev, yt_up_ev hy, yt_up_sym]; omega
              · rw [ys_sub_ev, yt_up_ev hx, yt_up_sym]; omega
              · show Value.long (Int64.ofInt (ys_ev _ (ys_sym b.1.length))) = _
                rw [yt_up_sym, e1]
              · show ys_ev _ (ys_sym b.1.length) = _
                rw [yt_up_sym, e1]
            · have e1 : (ys_ev r x).tmod (-ys_ev r y) = -((-ys_ev r x) % (-ys_ev r y)) := by
                have := Int.neg_tmod (-ys_ev r x) (-ys_ev r y)
                rw [Int.neg_neg, Int.tmod_eq_emod_of_nonneg (show 0 ≤ -ys_ev r x by omega)] at this
                exact this
              have e2 := Int.emod_nonneg (-ys_ev r x) (b := -ys_ev r y) (by omega)
              have e3 := Int.emod_lt_of_pos (-ys_ev r x) (b := -ys_ev r y) (by omega)
              have e4 : (-ys_ev r x) % (-ys_ev r y) ≤ -ys_ev r x := by
                by_cases hlt : -ys_ev r x < -ys_ev r y
                · rw [Int.emod_eq_of_lt (by omega) hlt]
                  omega
                · have := yt_emod_big (x := -ys_ev r x) (y := -ys_ev r y) (by omega) (by omega)
                  omega
              refine ⟨_, List.mem_cons_of_mem _ List.mem_cons_self, -((-ys_ev r x) % (-ys_ev r y)), ⟨⟨by show ly ≤ _; omega, by show _ ≤ (0 : Int); omega⟩, yt_fk3 ?_ ?_ ?_, ?_, fun z => by cases z⟩, rfl, ?_⟩
              · rw [yt_m1_ev, yt_ng_ev, yt_up_ev hx]; omega
              · rw [yt_m1_ev, ys_sub_ev, yt_up_ev hy, yt_up_sym]; omega
              · rw [ys_sub_ev, yt_up_ev hx, yt_up_sym]; omega
              · show Value.long (Int64.ofInt (ys_ev _ (ys_sym b.1.length))) = _
                rw [yt_up_sym, e1]
              · show ys_ev _ (ys_sym b.1.length) = _
                rw [yt_up_sym, e1]
        · cases hs
    · cases hs
  · cases hs
theorem yt_bdiv_okd {b : ys_B} {x y : ys_L} {brs : List yt_Br} (hs : yt_bdiv b x y = some brs) (hx : ys_stb b.1.length x) (hy : ys_stb b.1.length y) {r : Nat → Int} (hb : ys_okB r b) : ys_ev r y ≠ 0 ∧ (ys_mn true ≤ ys_ev r y ∧ ys_ev r y ≤ ys_mx true) ∧ (∀ br ∈ brs, yt_bst b.1.length br) ∧ ∃ br ∈ brs, ∃ z, yt_sel true b.1.length r x y (.long (Int64.ofInt (ys_ev r x) / Int64.ofInt (ys_ev r y))) br z ∧ br.2.2.2 = false ∧ ys_ev (ys_up r b.1.length z) br.2.2.1 = (ys_ev r x).tdiv (ys_ev r y) := by
  have sx := ys_stb_mono hx (Nat.le_succ _)
  have sy := ys_stb_mono hy (Nat.le_succ _)
  have sn : ys_stb (b.1.length + 1) (ys_sym b.1.length) := ys_stb_sym (Nat.lt_succ_self _)
  unfold yt_bdiv at hs
  split at hs
  · rename_i ly lx hxx hl hlx hu
    split at hs
    · rename_i hc
      rw [Bool.and_eq_true, Bool.and_eq_true, decide_eq_true_eq] at hc
      obtain ⟨c1, c2, hp⟩ := hc
      have rx := ys_inr_ok hb.1 c1
      have ry := ys_inr_ok hb.1 c2
      rw [ys_mn_t, ys_mx_t] at rx ry
      have l1 := ys_low_le hb.1 hl
      have l2 := ys_high_le hb.1 hu
      have l3 := ys_low_le hb.1 hlx
      rw [yt_div64 rx ry]
      cases Option.some.inj hs
      refine ⟨by omega, ys_inr_ok hb.1 c2, ?_, ?_⟩
      · intro br hbr
        rcases List.mem_cons.mp hbr with q | hbr
        · rw [q]
          exact ⟨yt_all2 sx (ys_stb_m1 (ys_stb_sub sy sx)), ys_stb_cst 0⟩
        rcases List.mem_cons.mp hbr with q | hbr
        · rw [q]
          exact ⟨yt_all2 (ys_stb_sub sx sy) (ys_stb_sub sx sn), sn⟩
        · rw [List.mem_singleton.mp hbr]
          exact ⟨yt_all2 (ys_stb_m1 (ys_stb_scale _ sx)) (ys_stb_sub sn sx), sn⟩
      · by_cases h0 : 0 ≤ ys_ev r x
        · have e1 : (ys_ev r x).tdiv (ys_ev r y) = ys_ev r x / ys_ev r y := Int.tdiv_eq_ediv_of_nonneg h0
          by_cases hlt : ys_ev r x < ys_ev r y
          · refine ⟨_, List.mem_cons_self, 0, ⟨⟨Int.le_refl 0, Int.le_refl 0⟩, yt_fk2 ?_ ?_, ?_, fun z => by cases z⟩, rfl, ?_⟩
            · rw [yt_up_ev hx]; exact h0
            · rw [yt_m1_ev, ys_sub_ev, yt_up_ev hx, yt_up_ev hy]; omega
            · show Value.long (Int64.ofInt (ys_ev _ (([], 0) : ys_L))) = _
              rw [ys_ev0, e1, Int.ediv_eq_zero_of_lt h0 hlt]
            · show ys_ev _ (([], 0) : ys_L) = _
              rw [ys_ev0, e1, Int.ediv_eq_zero_of_lt h0 hlt]
          · have e2 : 1 ≤ ys_ev r x / ys_ev r y := Int.le_ediv_of_mul_le (by omega) (by omega)
            have e3 := Int.ediv_le_self (ys_ev r y) h0
            refine ⟨_, List.mem_cons_of_mem _ List.mem_cons_self, ys_ev r x / ys_ev r y, ⟨⟨e2, by show _ ≤ hxx; omega⟩, yt_fk2 ?_ ?_, ?_, fun z => by cases z⟩, rfl, ?_⟩
            · rw [ys_sub_ev, yt_up_ev hx, yt_up_ev hy]; omega
            · rw [ys_sub_ev, yt_up_ev hx, yt_up_sym]; omega
            · show Value.long (Int64.ofInt (ys_ev _ (ys_sym b.1.length))) = _
              rw [yt_up_sym, e1]
            · show ys_ev _ (ys_sym b.1.length) = _
              rw [yt_up_sym, e1]
        · have e1 : (ys_ev r x).tdiv (ys_ev r y) = -((-ys_ev r x) / ys_ev r y) := by
            have := Int.neg_tdiv (-ys_ev r x) (ys_ev r y)
            rw [Int.neg_neg, Int.tdiv_eq_ediv_of_nonneg (show 0 ≤ -ys_ev r x by omega)] at this
            exact this
          have e2 := Int.ediv_nonneg (a := -ys_ev r x) (b := ys_ev r y) (by omega) (by omega)
          have e3 := Int.ediv_le_self (a := -ys_ev r x) (ys_ev r y) (by omega)
          refine ⟨_, List.mem_cons_of_mem _ (List.mem_cons_of_mem _ List.mem_cons_self), -((-ys_ev r x) / ys_ev r y), ⟨⟨by show lx ≤ _; omega, by show _ ≤ (0 : Int); omega⟩, yt_fk2 ?_ ?_, ?_, fun z => by cases z⟩, rfl, ?_⟩
          · rw [yt_m1_ev, yt_ng_ev, yt_up_ev hx]; omega
          · rw [ys_sub_ev, yt_up_ev hx, yt_up_sym]; omega
          · show Value.long (Int64.ofInt (ys_ev _ (ys_sym b.1.length))) = _
            rw [yt_up_sym, e1]
          · show ys_ev _ (ys_sym b.1.length) = _
            rw [yt_up_sym, e1]
    · cases hs
  · cases hs
section YTS
variable {p : Program} {l : Launch} {e : Env} {R : Room} {s : State} {m : MethodId} {args : Array Value} {below : List Frame} {meth : Method} {c : Code} {Q : State → Prop} {kc kz : Nat} {D : va_G} {cl : List vw_C} {ad : Nat → Nat} {cT : Nat → ClassId} {sh : List ys_C} {A : Nat → Prop} {H0 : Heap} {nL : Nat} {mods : List Nat} {g0 : yt_G} {r0 : Nat → Int} {E : Nat} {tb : yt_Tb} {gi : yt_G} {h : List yt_Ev} {pc : Nat} {b : ys_B} {fds : ys_F} {lv : List (Nat × ys_V)} {sv : List ys_V} {succ : List yt_U} {cc : ByteArray} {own : String} {Ts : List Cond} {tys : List (ClassId × FieldType)}
theorem yt_kbin {w : Bool} {F : ys_B → ys_L → ys_L → Option (List yt_Br)} {OK : (Nat → Int) → ys_L → ys_L → Prop} {V : (Nat → Int) → ys_L → ys_L → Value} (hF : ∀ (r : Nat → Int) (x y : ys_L) (brs : List yt_Br), F b x y = some brs → ys_stb b.1.length x → ys_stb b.1.length y → ys_okB r b → OK r x y ∧ (∀ br ∈ brs, yt_bst b.1.length br) ∧ ∃ br ∈ brs, ∃ z, yt_sel w b.1.length r x y (V r x y) br z) (hrow : ∀ (r : Nat → Int) (x y : ys_L) (H : Heap) (locs : List Loc) (ls : Array Slot) (rest : List Value), OK r x y → W p l e R s m args below meth c H locs kc kz Q (F0 m (pc + 1) ls (V r x y :: rest)) → W p l e R s m args below meth c H locs kc kz Q (F0 m pc ls (yt_vl w (ys_ev r y) :: yt_vl w (ys_ev r x) :: rest))) (hs : yt_hbin w F h pc b fds lv sv = some succ) (k : ∀ q ∈ succ, yt_X p l e R s m args below meth c Q kc kz D cl ad cT sh A H0 nL mods g0 r0 E tb gi q.2.2 q.1 q.2.1) : yt_X p l e R s m args below meth c Q kc kz D cl ad cT sh A H0 nL mods g0 r0 E tb gi h pc (b, fds, lv, sv) := by
  unfold yt_hbin at hs
  split at hs
  · rename_i vy vx t
    split at hs
    · rename_i y x hy hx
      split at hs
      · rename_i brs hb
        have hs := (Option.some.inj hs).symm
        subst hs
        intro r g H locs ls st hrep hh hsc hm
        obtain ⟨st1, e1, g1, sy⟩ := ys_rep_pop hrep
        obtain ⟨st2, e2, g2, sx⟩ := ys_rep_pop g1
        rw [yt_un_ok hy, yt_mk_den] at e1
        rw [yt_un_ok hx, yt_mk_den] at e2
        rw [yt_un_ok hy] at sy
        rw [yt_un_ok hx] at sx
        subst e1; subst e2
        have sx := yt_mk_sti sx
        have sy := yt_mk_sti sy
        obtain ⟨h1, h2, h3⟩ := hF r x y brs hb sx sy hrep.1
        exact hrow r x y H locs ls st2 h1 (yt_knum g2 hh hsc hm sx sy h2 h3 k)
      · cases hs
    · cases hs
  · cases hs
theorem yt_kone {w : Bool} {kk fr lo : Nat} {F : ys_B → ys_L → Option (List yt_Br)} {V : (Nat → Int) → ys_L → Value} (hfr : fr ≤ R.frames) (hlo : lo ≤ R.locals) (hF : ∀ (r : Nat → Int) (x : ys_L) (brs : List yt_Br), F b x = some brs → ys_stb b.1.length x → ys_okB r b → (∀ br ∈ brs, yt_bst b.1.length br) ∧ ∃ br ∈ brs, ∃ z, yt_sel w b.1.length r x x (V r x) br z) (hrow : ∀ (r : Nat → Int) (x : ys_L) (H : Heap) (locs : List Loc) (ls : Array Slot) (rest : List Value), ls.size = nL → 1 ≤ R.frames → (rest.map fun v => v.category).sum + kk ≤ R.locals → W p l e R s m args below meth c H locs kc kz Q (F0 m (pc + 3) ls (V r x :: rest)) → W p l e R s m args below meth c H locs kc kz Q (F0 m pc ls (yt_vl w (ys_ev r x) :: rest))) (hs : yt_hone w kk F fr lo h pc b fds lv sv = some succ) (k : ∀ q ∈ succ, yt_X p l e R s m args below meth c Q kc kz D cl ad cT sh A H0 nL mods g0 r0 E tb gi q.2.2 q.1 q.2.1) : yt_X p l e R s m args below meth c Q kc kz D cl ad cT sh A H0 nL mods g0 r0 E tb gi h pc (b, fds, lv, sv) := by
  unfold yt_hone at hs
  split at hs
  · rename_i vx t
    split at hs
    · rename_i x hx
      split at hs
      · rename_i brs hb
        split at hs
        · rename_i hc
          rw [Bool.and_eq_true, decide_eq_true_eq, decide_eq_true_eq] at hc
          have hs := (Option.some.inj hs).symm
          subst hs
          intro r g H locs ls st hrep hh hsc hm
          obtain ⟨st1, e1, g1, sx⟩ := ys_rep_pop hrep
          rw [yt_un_ok hx, yt_mk_den] at e1
          rw [yt_un_ok hx] at sx
          subst e1
          have sx := yt_mk_sti sx
          obtain ⟨h2, h3⟩ := hF r x brs hb sx hrep.1
          refine hrow r x H locs ls st1 g1.2.2.2.2.1.1 (Nat.le_trans hc.1 hfr) ?_ (yt_knum g1 hh hsc hm sx sx h2 h3 k)
          rw [g1.2.2.2.2.2, ys_cats]
          exact Nat.le_trans hc.2 hlo
        · cases hs
      · cases hs
    · cases hs
  · cases hs
theorem yt_kmx {fr lo idx : Nat} (hexec : p.tables.exec = Jvm.exec) (hb : c.code = cc) (hml : c.maxLocals = nL) (hts : ∀ w ∈ Ts, w.before args s = true) (hown : s.vm.findClass own = some m.cls) (hfr : fr ≤ R.frames) (hlo : lo ≤ R.locals) (hkk : kc ≤ R.cells ∧ kz ≤ R.slots) (hw : Cond.methodLink own idx Lib.MathLoose.max_long.x ∈ Ts ∧ Cond.static Lib.MathLoose.max_long.x ∈ Ts ∧ Cond.initialized "java/lang/Math" ∈ Ts ∧ Cond.code Lib.MathLoose.max_long.x Lib.MathLoose.max_long.code 4 (some .long) ∈ Ts) (hd : decode cc pc = .ok (.invokestatic idx, 3)) (hs : yt_hmx fr lo h pc b fds lv sv = some succ) (k : ∀ q ∈ succ, yt_X p l e R s m args below meth c Q kc kz D cl ad cT sh A H0 nL mods g0 r0 E tb gi q.2.2 q.1 q.2.1) : yt_X p l e R s m args below meth c Q kc kz D cl ad cT sh A H0 nL mods g0 r0 E tb gi h pc (b, fds, lv, sv) := by
  unfold yt_hmx at hs
  split at hs
  · rename_i vy vx t
    split at hs
    · rename_i y x hy hx
      split at hs
      · rename_i brs hbr
        split at hs
        · rename_i hc
          rw [Bool.and_eq_true, decide_eq_true_eq, decide_eq_true_eq] at hc
          have hs := (Option.some.inj hs).symm
          subst hs
          intro r g H locs ls st hrep hh hsc hm
          obtain ⟨st1, e1, g1, sy⟩ := ys_rep_pop hrep
          obtain ⟨st2, e2, g2, sx⟩ := ys_rep_pop g1
          rw [yt_un_ok hy, yt_mk_den] at e1
          rw [yt_un_ok hx, yt_mk_den] at e2
          rw [yt_un_ok hy] at sy
          rw [yt_un_ok hx] at sx
          subst e1; subst e2
          have sx := yt_mk_sti sx
          have sy := yt_mk_sti sy
          have sx1 := ys_stb_mono sx (Nat.le_succ _)
          have sy1 := ys_stb_mono sy (Nat.le_succ _)
          unfold yt_bmax at hbr
          split at hbr
          · rename_i hi
            rw [Bool.and_eq_true] at hi
            have ex := ys_inr64 hrep.1.1 hi.1
            have ey := ys_inr64 hrep.1.1 hi.2
            have hbr := (Option.some.inj hbr).symm
            subst hbr
            obtain ⟨w1, w2, w3, w4⟩ := hw
            refine va_mmax_long hexec hb (hml.trans g2.2.2.2.2.1.1.symm) hown (hts _ w1) (hts _ w2) (hts _ w3) (hts _ w4) (Nat.le_trans hc.1 hfr) (by rw [g2.2.2.2.2.2, ys_cats]; exact Nat.le_trans hc.2 hlo) hkk.1 hkk.2 hd (x := Int64.ofInt (ys_ev r x)) (y := Int64.ofInt (ys_ev r y)) ?_
            refine yt_knum g2 hh hsc hm sx sy (fun br hbr => ?_) ?_ k
            · rcases List.mem_cons.mp hbr with q | hbr
              · rw [q]
                exact ⟨yt_all1 (ys_stb_m1 (ys_stb_sub sx1 sy1)), sx1⟩
              · rw [List.mem_singleton.mp hbr]
                exact ⟨yt_all1 (ys_stb_sub sy1 sx1), sy1⟩
            · by_cases hlt : Int64.ofInt (ys_ev r y) < Int64.ofInt (ys_ev r x)
              · rw [if_pos hlt]
                rw [Int64.lt_iff_toInt_lt, ex, ey] at hlt
                refine ⟨_, List.mem_cons_self, 0, ⟨Int.le_refl 0, Int.le_refl 0⟩, ys_fk1 ?_, ?_, fun z => by cases z⟩
                · rw [yt_m1_ev, ys_sub_ev, yt_up_ev sx, yt_up_ev sy]; omega
                · show Value.long (Int64.ofInt (ys_ev _ x)) = _
                  rw [yt_up_ev sx]
              · rw [if_neg hlt]
                rw [Int64.lt_iff_toInt_lt, ex, ey] at hlt
                refine ⟨_, List.mem_cons_of_mem _ List.mem_cons_self, 0, ⟨Int.le_refl 0, Int.le_refl 0⟩, ys_fk1 ?_, ?_, fun z => by cases z⟩
                · rw [ys_sub_ev, yt_up_ev sx, yt_up_ev sy]; omega
                · show Value.long (Int64.ofInt (ys_ev _ y)) = _
                  rw [yt_up_ev sy]
          · cases hbr
        · cases hs
      · cases hs
    · cases hs
  · cases hs
theorem yt_knumd {pc' : Nat} {x y : ys_L} {brs : List yt_Br} {t : List ys_V} {r : Nat → Int} {g : yt_G} {H : Heap} {locs : List Loc} {ls : Array Slot} {st : List Value} {V : Value} (hw : yt_Hw tb) (hrep : ys_rep D cl ad cT sh A H0 nL [] g r0 r E (b, fds, lv, t) H locs ls st) (hh : yt_h tb r gi h g) (hsc : ∀ v ∈ h, yt_sc b.1.length v) (hm : ∀ k, k ∉ mods → g k = g0 k) (hx : ys_stb b.1.length x) (hy : ys_stb b.1.length y) (hst : ∀ br ∈ brs, yt_bst b.1.length br) (hsel : ∃ br ∈ brs, ∃ z, yt_sel true b.1.length r x y V br z ∧ br.2.2.2 = false ∧ ys_ev (ys_up r b.1.length z) br.2.2.1 = (ys_ev r x).tdiv (ys_ev r y)) (k : ∀ q ∈ (yt_num true pc' b fds lv t h x y brs).map (yt_dvh x y), yt_X p l e R s m args below meth c Q kc kz D cl ad cT sh A H0 nL mods g0 r0 E tb gi q.2.2 q.1 q.2.1) : W p l e R s m args below meth c H locs kc kz Q (F0 m pc' ls (V :: st)) := by
  obtain ⟨br, hbr, z, ⟨hz, hf, hV, -⟩, hfl, hdv⟩ := hsel
  obtain ⟨hs1, hs2⟩ := hst br hbr
  have hok := ys_new_ok hrep.1 hrep.2.1.1 hz
  have hl0 : (b.1 ++ [br.1]).length = b.1.length + 1 := by rw [List.length_append, List.length_singleton]
  obtain ⟨b', eb, hb'⟩ := ys_ass_ok br.2.1 hok hf
  have hl : b'.1.length = b.1.length + 1 := (ys_ass_len _ eb).trans hl0
  have hsc' := ys_ass_sc (n := b.1.length + 1) br.2.1 hl0 (ys_scB_new hrep.2.1.1) hs1 eb
  have g3 := ys_rep_ext hrep (r' := ys_up r b.1.length z) (b' := b') ys_up_lt hb' (by rw [hl]; omega) hsc'
  have hmem : ((pc', (b', fds, lv, yt_mk true br.2.2.1 :: t), .inr (.inr (.inl (998, 1, [x, y, br.2.2.1], [], []))) :: h) : yt_U) ∈ (yt_num true pc' b fds lv t h x y brs).map (yt_dvh x y) := by
    refine List.mem_map.mpr ⟨(pc', (b', fds, lv, yt_mk true br.2.2.1 :: t), h), List.mem_flatMap.mpr ⟨br, hbr, ?_⟩, rfl⟩
    rw [eb, hfl]
    exact List.mem_cons_self
  have hcg : ∀ i, i < b.1.length → r i = ys_up r b.1.length z i := fun i hi => (ys_up_lt i hi).symm
  have hle : b.1.length ≤ b'.1.length := by rw [hl]; omega
  have k1 := k _ hmem (ys_up r b.1.length z) g H locs ls _ (ys_rep_push g3 (yt_mk true br.2.2.1) (yt_mk_st (by rw [hl]; exact hs2))) ⟨g, yt_h_cong hcg hsc hh, hw 1 _ _ (by
    show ys_ev (ys_up r b.1.length z) br.2.2.1 = (ys_ev (ys_up r b.1.length z) x).tdiv (ys_ev (ys_up r b.1.length z) y)
    rw [yt_up_ev hx, yt_up_ev hy]
    exact hdv), fun _ _ => rfl⟩ (fun v hv => by
      rcases List.mem_cons.mp hv with q | q
      · rw [q]
        show ∀ u ∈ [x, y, br.2.2.1], ys_stb b'.1.length u
        exact yt_all3 (ys_stb_mono hx hle) (ys_stb_mono hy hle) (by rw [hl]; exact hs2)
      · exact yt_sc_mono hle (hsc v q)) hm
  rw [yt_mk_den, hV] at k1
  exact k1
theorem yt_knumr {pc' : Nat} {x y : ys_L} {brs : List yt_Br} {t : List ys_V} {r : Nat → Int} {g : yt_G} {H : Heap} {locs : List Loc} {ls : Array Slot} {st : List Value} {V : Value} (hw : yt_Hw tb) (hrep : ys_rep D cl ad cT sh A H0 nL [] g r0 r E (b, fds, lv, t) H locs ls st) (hh : yt_h tb r gi h g) (hsc : ∀ v ∈ h, yt_sc b.1.length v) (hm : ∀ k, k ∉ mods → g k = g0 k) (hx : ys_stb b.1.length x) (hy : ys_stb b.1.length y) (hst : ∀ br ∈ brs, yt_bst b.1.length br) (hsel : ∃ br ∈ brs, ∃ z, yt_sel true b.1.length r x y V br z ∧ br.2.2.2 = false ∧ ys_ev (ys_up r b.1.length z) br.2.2.1 = (ys_ev r x).tmod (ys_ev r y)) (k : ∀ q ∈ (yt_num true pc' b fds lv t h x y brs).map (yt_rmh x y), yt_X p l e R s m args below meth c Q kc kz D cl ad cT sh A H0 nL mods g0 r0 E tb gi q.2.2 q.1 q.2.1) : W p l e R s m args below meth c H locs kc kz Q (F0 m pc' ls (V :: st)) := by
  obtain ⟨br, hbr, z, ⟨hz, hf, hV, -⟩, hfl, hdv⟩ := hsel
  obtain ⟨hs1, hs2⟩ := hst br hbr
  have hok := ys_new_ok hrep.1 hrep.2.1.1 hz
  have hl0 : (b.1 ++ [br.1]).length = b.1.length + 1 := by rw [List.length_append, List.length_singleton]
  obtain ⟨b', eb, hb'⟩ := ys_ass_ok br.2.1 hok hf
  have hl : b'.1.length = b.1.length + 1 := (ys_ass_len _ eb).trans hl0
  have hsc' := ys_ass_sc (n := b.1.length + 1) br.2.1 hl0 (ys_scB_new hrep.2.1.1) hs1 eb
  have g3 := ys_rep_ext hrep (r' := ys_up r b.1.length z) (b' := b') ys_up_lt hb' (by rw [hl]; omega) hsc'
  have hmem : ((pc', (b', fds, lv, yt_mk true br.2.2.1 :: t), .inr (.inr (.inl (998, 16, [x, y, br.2.2.1], [], []))) :: h) : yt_U) ∈ (yt_num true pc' b fds lv t h x y brs).map (yt_rmh x y) := by
    refine List.mem_map.mpr ⟨(pc', (b', fds, lv, yt_mk true br.2.2.1 :: t), h), List.mem_flatMap.mpr ⟨br, hbr, ?_⟩, rfl⟩
    rw [eb, hfl]
    exact List.mem_cons_self
  have hcg : ∀ i, i < b.1.length → r i = ys_up r b.1.length z i := fun i hi => (ys_up_lt i hi).symm
  have hle : b.1.length ≤ b'.1.length := by rw [hl]; omega
  have k1 := k _ hmem (ys_up r b.1.length z) g H locs ls _ (ys_rep_push g3 (yt_mk true br.2.2.1) (yt_mk_st (by rw [hl]; exact hs2))) ⟨g, yt_h_cong hcg hsc hh, hw 16 _ _ (by
    show ys_ev (ys_up r b.1.length z) br.2.2.1 = (ys_ev (ys_up r b.1.length z) x).tmod (ys_ev (ys_up r b.1.length z) y)
    rw [yt_up_ev hx, yt_up_ev hy]
    exact hdv), fun _ _ => rfl⟩ (fun v hv => by
      rcases List.mem_cons.mp hv with q | q
      · rw [q]
        show ∀ u ∈ [x, y, br.2.2.1], ys_stb b'.1.length u
        exact yt_all3 (ys_stb_mono hx hle) (ys_stb_mono hy hle) (by rw [hl]; exact hs2)
      · exact yt_sc_mono hle (hsc v q)) hm
  rw [yt_mk_den, hV] at k1
  exact k1
theorem yt_kdv (hw : yt_Hw tb) (hexec : p.tables.exec = Jvm.exec) (hb : c.code = cc) (hd : decode cc pc = .ok (.ldiv, 1)) (hs : yt_hdv h pc b fds lv sv = some succ) (k : ∀ q ∈ succ, yt_X p l e R s m args below meth c Q kc kz D cl ad cT sh A H0 nL mods g0 r0 E tb gi q.2.2 q.1 q.2.1) : yt_X p l e R s m args below meth c Q kc kz D cl ad cT sh A H0 nL mods g0 r0 E tb gi h pc (b, fds, lv, sv) := by
  unfold yt_hdv at hs
  split at hs
  · rename_i vy vx t
    split at hs
    · rename_i y x hy hx
      split at hs
      · rename_i brs hbr
        have hs := (Option.some.inj hs).symm
        subst hs
        intro r g H locs ls st hrep hh hsc hm
        obtain ⟨st1, e1, g1, sy⟩ := ys_rep_pop hrep
        obtain ⟨st2, e2, g2, sx⟩ := ys_rep_pop g1
        rw [yt_un_ok hy, yt_mk_den] at e1
        rw [yt_un_ok hx, yt_mk_den] at e2
        rw [yt_un_ok hy] at sy
        rw [yt_un_ok hx] at sx
        subst e1; subst e2
        have sx := yt_mk_sti sx
        have sy := yt_mk_sti sy
        obtain ⟨h1, h2, h3, h4⟩ := yt_bdiv_okd (yt_nc_ok hbr) sx sy hrep.1
        exact lv_ldiv hexec hb hd (ys_ne64 h1 h2) (yt_knumd hw g2 hh hsc hm sx sy h3 h4 k)
      · cases hs
    · cases hs
  · cases hs
theorem yt_krm (hw : yt_Hw tb) (hexec : p.tables.exec = Jvm.exec) (hb : c.code = cc) (hd : decode cc pc = .ok (.lrem, 1)) (hs : yt_hrm h pc b fds lv sv = some succ) (k : ∀ q ∈ succ, yt_X p l e R s m args below meth c Q kc kz D cl ad cT sh A H0 nL mods g0 r0 E tb gi q.2.2 q.1 q.2.1) : yt_X p l e R s m args below meth c Q kc kz D cl ad cT sh A H0 nL mods g0 r0 E tb gi h pc (b, fds, lv, sv) := by
  unfold yt_hrm at hs
  split at hs
  · rename_i vy vx t
    split at hs
    · rename_i y x hy hx
      split at hs
      · rename_i brs hbr
        have hs := (Option.some.inj hs).symm
        subst hs
        intro r g H locs ls st hrep hh hsc hm
        obtain ⟨st1, e1, g1, sy⟩ := ys_rep_pop hrep
        obtain ⟨st2, e2, g2, sx⟩ := ys_rep_pop g1
        rw [yt_un_ok hy, yt_mk_den] at e1
        rw [yt_un_ok hx, yt_mk_den] at e2
        rw [yt_un_ok hy] at sy
        rw [yt_un_ok hx] at sx
        subst e1; subst e2
        have sx := yt_mk_sti sx
        have sy := yt_mk_sti sy
        obtain ⟨h1, h2, h3, h4⟩ := yt_brem_okd (yt_nc_ok hbr) sx sy hrep.1
        exact lv_lrem hexec hb hd (ys_ne64 h1 h2) (yt_knumr hw g2 hh hsc hm sx sy h3 h4 k)
      · cases hs
    · cases hs
  · cases hs
theorem yt_kwm (hw : yt_Hw tb) (hexec : p.tables.exec = Jvm.exec) (hb : c.code = cc) (hd : decode cc pc = .ok (.lmul, 1)) (hs : yt_hwm h pc b fds lv sv = some succ) (k : ∀ q ∈ succ, yt_X p l e R s m args below meth c Q kc kz D cl ad cT sh A H0 nL mods g0 r0 E tb gi q.2.2 q.1 q.2.1) : yt_X p l e R s m args below meth c Q kc kz D cl ad cT sh A H0 nL mods g0 r0 E tb gi h pc (b, fds, lv, sv) := by
  unfold yt_hwm at hs
  split at hs
  · rename_i vy vx t
    split at hs
    · rename_i y x hy hx
      split at hs
      · cases hs
      · split at hs
        · cases hs
        · have hs := (Option.some.inj hs).symm
          subst hs
          intro r g H locs ls st hrep hh hsc hm
          obtain ⟨st1, e1, g1, sy⟩ := ys_rep_pop hrep
          obtain ⟨st2, e2, g2, sx⟩ := ys_rep_pop g1
          rw [yt_un_ok hy, yt_mk_den] at e1
          rw [yt_un_ok hx, yt_mk_den] at e2
          rw [yt_un_ok hy] at sy
          rw [yt_un_ok hx] at sx
          subst e1; subst e2
          have sx := yt_mk_sti sx
          have sy := yt_mk_sti sy
          refine lv_lmul hexec hb hd ?_
          rw [← Int64.ofInt_mul]
          obtain ⟨z, hz⟩ : ∃ z : Int, z = (Int64.ofInt (ys_ev r x * ys_ev r y)).toInt := ⟨_, rfl⟩
          have hrg := ys_r64 (Int64.ofInt (ys_ev r x * ys_ev r y))
          rw [← hz] at hrg
          have hok := ys_new_ok (q := (ys_mn true, ys_mx true)) hrep.1 hrep.2.1.1 hrg
          have hll : b.1.length ≤ (b.1 ++ [(ys_mn true, ys_mx true)]).length := by rw [List.length_append]; omega
          have hlt : b.1.length < (b.1 ++ [(ys_mn true, ys_mx true)]).length := by rw [List.length_append, List.length_singleton]; omega
          have g3 := ys_rep_ext g2 (r' := ys_up r b.1.length z) (b' := (b.1 ++ [(ys_mn true, ys_mx true)], b.2)) ys_up_lt hok hll (ys_scB_new hrep.2.1.1)
          have hcg : ∀ i, i < b.1.length → r i = ys_up r b.1.length z i := fun i hi => (ys_up_lt i hi).symm
          have k1 := k _ List.mem_cons_self (ys_up r b.1.length z) g H locs ls _ (ys_rep_push g3 (yt_mk true (ys_sym b.1.length)) (yt_mk_st (ys_stb_sym hlt))) ⟨g, yt_h_cong hcg hsc hh, hw 0 _ _ (by
            show ys_ev (ys_up r b.1.length z) (ys_sym b.1.length) = (ys_ev (ys_up r b.1.length z) x * ys_ev (ys_up r b.1.length z) y).bmod Int64.size
            rw [yt_up_sym, yt_up_ev sx, yt_up_ev sy, hz, Int64.toInt_ofInt]), fun _ _ => rfl⟩ (fun v hv => by
              rcases List.mem_cons.mp hv with q | q
              · rw [q]
                show ∀ u ∈ [x, y, ys_sym b.1.length], ys_stb (b.1 ++ [(ys_mn true, ys_mx true)]).length u
                exact yt_all3 (ys_stb_mono sx hll) (ys_stb_mono sy hll) (ys_stb_sym hlt)
              · exact yt_sc_mono hll (hsc v q)) hm
          rw [yt_mk_den, yt_up_sym, hz] at k1
          have e5 : yt_vl true (Int64.ofInt (ys_ev r x * ys_ev r y)).toInt = .long (Int64.ofInt (ys_ev r x * ys_ev r y)) := congrArg Value.long (Int64.ofInt_toInt _)
          rw [e5] at k1
          exact k1
    · cases hs
  · cases hs
theorem yt_kwa (hw : yt_Hw tb) (hexec : p.tables.exec = Jvm.exec) (hb : c.code = cc) (hd : decode cc pc = .ok (.ladd, 1)) (hs : yt_hwa h pc b fds lv sv = some succ) (k : ∀ q ∈ succ, yt_X p l e R s m args below meth c Q kc kz D cl ad cT sh A H0 nL mods g0 r0 E tb gi q.2.2 q.1 q.2.1) : yt_X p l e R s m args below meth c Q kc kz D cl ad cT sh A H0 nL mods g0 r0 E tb gi h pc (b, fds, lv, sv) := by
  unfold yt_hwa at hs
  split at hs
  · rename_i vy vx t
    split at hs
    · rename_i y x hy hx
      split at hs
      · cases hs
      · · have hs := (Option.some.inj hs).symm
          subst hs
          intro r g H locs ls st hrep hh hsc hm
          obtain ⟨st1, e1, g1, sy⟩ := ys_rep_pop hrep
          obtain ⟨st2, e2, g2, sx⟩ := ys_rep_pop g1
          rw [yt_un_ok hy, yt_mk_den] at e1
          rw [yt_un_ok hx, yt_mk_den] at e2
          rw [yt_un_ok hy] at sy
          rw [yt_un_ok hx] at sx
          subst e1; subst e2
          have sx := yt_mk_sti sx
          have sy := yt_mk_sti sy
          refine lv_ladd hexec hb hd ?_
          rw [← Int64.ofInt_add]
          obtain ⟨z, hz⟩ : ∃ z : Int, z = (Int64.ofInt (ys_ev r x + ys_ev r y)).toInt := ⟨_, rfl⟩
          have hrg := ys_r64 (Int64.ofInt (ys_ev r x + ys_ev r y))
          rw [← hz] at hrg
          have hok := ys_new_ok (q := (ys_mn true, ys_mx true)) hrep.1 hrep.2.1.1 hrg
          have hll : b.1.length ≤ (b.1 ++ [(ys_mn true, ys_mx true)]).length := by rw [List.length_append]; omega
          have hlt : b.1.length < (b.1 ++ [(ys_mn true, ys_mx true)]).length := by rw [List.length_append, List.length_singleton]; omega
          have g3 := ys_rep_ext g2 (r' := ys_up r b.1.length z) (b' := (b.1 ++ [(ys_mn true, ys_mx true)], b.2)) ys_up_lt hok hll (ys_scB_new hrep.2.1.1)
          have hcg : ∀ i, i < b.1.length → r i = ys_up r b.1.length z i := fun i hi => (ys_up_lt i hi).symm
          have k1 := k _ List.mem_cons_self (ys_up r b.1.length z) g H locs ls _ (ys_rep_push g3 (yt_mk true (ys_sym b.1.length)) (yt_mk_st (ys_stb_sym hlt))) ⟨g, yt_h_cong hcg hsc hh, hw 5 _ _ (by
            show ys_ev (ys_up r b.1.length z) (ys_sym b.1.length) = (ys_ev (ys_up r b.1.length z) x + ys_ev (ys_up r b.1.length z) y).bmod Int64.size
            rw [yt_up_sym, yt_up_ev sx, yt_up_ev sy, hz, Int64.toInt_ofInt]), fun _ _ => rfl⟩ (fun v hv => by
              rcases List.mem_cons.mp hv with q | q
              · rw [q]
                show ∀ u ∈ [x, y, ys_sym b.1.length], ys_stb (b.1 ++ [(ys_mn true, ys_mx true)]).length u
                exact yt_all3 (ys_stb_mono sx hll) (ys_stb_mono sy hll) (ys_stb_sym hlt)
              · exact yt_sc_mono hll (hsc v q)) hm
          rw [yt_mk_den, yt_up_sym, hz] at k1
          have e5 : yt_vl true (Int64.ofInt (ys_ev r x + ys_ev r y)).toInt = .long (Int64.ofInt (ys_ev r x + ys_ev r y)) := congrArg Value.long (Int64.ofInt_toInt _)
          rw [e5] at k1
          exact k1
    · cases hs
  · cases hs
theorem yt_kws (hw : yt_Hw tb) (hexec : p.tables.exec = Jvm.exec) (hb : c.code = cc) (hd : decode cc pc = .ok (.lsub, 1)) (hs : yt_hws h pc b fds lv sv = some succ) (k : ∀ q ∈ succ, yt_X p l e R s m args below meth c Q kc kz D cl ad cT sh A H0 nL mods g0 r0 E tb gi q.2.2 q.1 q.2.1) : yt_X p l e R s m args below meth c Q kc kz D cl ad cT sh A H0 nL mods g0 r0 E tb gi h pc (b, fds, lv, sv) := by
  unfold yt_hws at hs
  split at hs
  · rename_i vy vx t
    split at hs
    · rename_i y x hy hx
      split at hs
      · cases hs
      · · have hs := (Option.some.inj hs).symm
          subst hs
          intro r g H locs ls st hrep hh hsc hm
          obtain ⟨st1, e1, g1, sy⟩ := ys_rep_pop hrep
          obtain ⟨st2, e2, g2, sx⟩ := ys_rep_pop g1
          rw [yt_un_ok hy, yt_mk_den] at e1
          rw [yt_un_ok hx, yt_mk_den] at e2
          rw [yt_un_ok hy] at sy
          rw [yt_un_ok hx] at sx
          subst e1; subst e2
          have sx := yt_mk_sti sx
          have sy := yt_mk_sti sy
          refine lv_lsub hexec hb hd ?_
          rw [← Int64.ofInt_sub]
          obtain ⟨z, hz⟩ : ∃ z : Int, z = (Int64.ofInt (ys_ev r x - ys_ev r y)).toInt := ⟨_, rfl⟩
          have hrg := ys_r64 (Int64.ofInt (ys_ev r x - ys_ev r y))
          rw [← hz] at hrg
          have hok := ys_new_ok (q := (ys_mn true, ys_mx true)) hrep.1 hrep.2.1.1 hrg
          have hll : b.1.length ≤ (b.1 ++ [(ys_mn true, ys_mx true)]).length := by rw [List.length_append]; omega
          have hlt : b.1.length < (b.1 ++ [(ys_mn true, ys_mx true)]).length := by rw [List.length_append, List.length_singleton]; omega
          have g3 := ys_rep_ext g2 (r' := ys_up r b.1.length z) (b' := (b.1 ++ [(ys_mn true, ys_mx true)], b.2)) ys_up_lt hok hll (ys_scB_new hrep.2.1.1)
          have hcg : ∀ i, i < b.1.length → r i = ys_up r b.1.length z i := fun i hi => (ys_up_lt i hi).symm
          have k1 := k _ List.mem_cons_self (ys_up r b.1.length z) g H locs ls _ (ys_rep_push g3 (yt_mk true (ys_sym b.1.length)) (yt_mk_st (ys_stb_sym hlt))) ⟨g, yt_h_cong hcg hsc hh, hw 19 _ _ (by
            show ys_ev (ys_up r b.1.length z) (ys_sym b.1.length) = (ys_ev (ys_up r b.1.length z) x - ys_ev (ys_up r b.1.length z) y).bmod Int64.size
            rw [yt_up_sym, yt_up_ev sx, yt_up_ev sy, hz, Int64.toInt_ofInt]), fun _ _ => rfl⟩ (fun v hv => by
              rcases List.mem_cons.mp hv with q | q
              · rw [q]
                show ∀ u ∈ [x, y, ys_sym b.1.length], ys_stb (b.1 ++ [(ys_mn true, ys_mx true)]).length u
                exact yt_all3 (ys_stb_mono sx hll) (ys_stb_mono sy hll) (ys_stb_sym hlt)
              · exact yt_sc_mono hll (hsc v q)) hm
          rw [yt_mk_den, yt_up_sym, hz] at k1
          have e5 : yt_vl true (Int64.ofInt (ys_ev r x - ys_ev r y)).toInt = .long (Int64.ofInt (ys_ev r x - ys_ev r y)) := congrArg Value.long (Int64.ofInt_toInt _)
          rw [e5] at k1
          exact k1
    · cases hs
  · cases hs
theorem yt_kbe {F : ys_B → ys_L → ys_L → Option (ys_B × ys_L)} {op : Int64 → Int64 → Int64} {i : Nat} (hF : ys_B64 F op (fun _ => True)) (hw : yt_Hw tb) (hwi : ∀ r : Nat → Int, Int64.ofInt (r 2) = op (Int64.ofInt (r 0)) (Int64.ofInt (r 1)) → yt_hwp i r) (hrow : ∀ (X : Int64) (Y : Int64) (H : Heap) (locs : List Loc) (ls : Array Slot) (rest : List Value), W p l e R s m args below meth c H locs kc kz Q (F0 m (pc + 1) ls (.long (op X Y) :: rest)) → W p l e R s m args below meth c H locs kc kz Q (F0 m pc ls (.long Y :: .long X :: rest))) (hs : yt_hbe i F h pc b fds lv sv = some succ) (k : ∀ q ∈ succ, yt_X p l e R s m args below meth c Q kc kz D cl ad cT sh A H0 nL mods g0 r0 E tb gi q.2.2 q.1 q.2.1) : yt_X p l e R s m args below meth c Q kc kz D cl ad cT sh A H0 nL mods g0 r0 E tb gi h pc (b, fds, lv, sv) := by
  unfold yt_hbe at hs
  split at hs
  · rename_i y x t
    split at hs
    · rename_i o ho
      have hs := (Option.some.inj hs).symm
      subst hs
      intro r g H locs ls st hrep hh hsc hm
      obtain ⟨st1, e1, g1, sy⟩ := ys_rep_pop hrep
      obtain ⟨st2, e2, g2, sx⟩ := ys_rep_pop g1
      subst e1; subst e2
      obtain ⟨-, r', hag, hb, hl, hsc2, hst, hval⟩ := hF r b x y o hrep.1 hrep.2.1.1 sx sy ho
      refine hrow _ _ _ _ _ _ ?_
      have hcg : ∀ i, i < b.1.length → r i = r' i := fun i hi => (hag i hi).symm
      have k1 := k _ List.mem_cons_self r' g H locs ls _ (ys_rep_push (ys_rep_ext g2 hag hb hl hsc2) (.inl (.inr o.2)) hst) ⟨g, yt_h_cong hcg hsc hh, hw i _ _ (hwi _ (by
          show Int64.ofInt (ys_ev r' o.2) = op (Int64.ofInt (ys_ev r' x)) (Int64.ofInt (ys_ev r' y))
          rw [← sx r r' hcg, ← sy r r' hcg]
          exact hval)), fun _ _ => rfl⟩ (fun v hv => by
            rcases List.mem_cons.mp hv with q | q
            · rw [q]
              show ∀ u ∈ [x, y, o.2], ys_stb o.1.1.length u
              exact yt_all3 (ys_stb_mono sx hl) (ys_stb_mono sy hl) hst
            · exact yt_sc_mono hl (hsc v q)) hm
      have e3 : ys_den ad r' (.inl (.inr o.2)) = .long (op (Int64.ofInt (ys_ev r x)) (Int64.ofInt (ys_ev r y))) := congrArg Value.long hval
      rw [e3] at k1
      exact k1
    · cases hs
  · cases hs
theorem yt_kbi {F : ys_B → ys_L → ys_L → Option (ys_B × ys_L)} {op : Int32 → Int32 → Int32} {i : Nat} (hF : ys_B32 F op (fun _ => True)) (hw : yt_Hw tb) (hwi : ∀ r : Nat → Int, Int32.ofInt (r 2) = op (Int32.ofInt (r 0)) (Int32.ofInt (r 1)) → yt_hwp i r) (hrow : ∀ (X : Int32) (Y : Int32) (H : Heap) (locs : List Loc) (ls : Array Slot) (rest : List Value), W p l e R s m args below meth c H locs kc kz Q (F0 m (pc + 1) ls (.int (op X Y) :: rest)) → W p l e R s m args below meth c H locs kc kz Q (F0 m pc ls (.int Y :: .int X :: rest))) (hs : yt_hbi i F h pc b fds lv sv = some succ) (k : ∀ q ∈ succ, yt_X p l e R s m args below meth c Q kc kz D cl ad cT sh A H0 nL mods g0 r0 E tb gi q.2.2 q.1 q.2.1) : yt_X p l e R s m args below meth c Q kc kz D cl ad cT sh A H0 nL mods g0 r0 E tb gi h pc (b, fds, lv, sv) := by
  unfold yt_hbi at hs
  split at hs
  · rename_i y x t
    split at hs
    · rename_i o ho
      have hs := (Option.some.inj hs).symm
      subst hs
      intro r g H locs ls st hrep hh hsc hm
      obtain ⟨st1, e1, g1, sy⟩ := ys_rep_pop hrep
      obtain ⟨st2, e2, g2, sx⟩ := ys_rep_pop g1
      subst e1; subst e2
      obtain ⟨-, r', hag, hb, hl, hsc2, hst, hval⟩ := hF r b x y o hrep.1 hrep.2.1.1 sx sy ho
      refine hrow _ _ _ _ _ _ ?_
      have hcg : ∀ i, i < b.1.length → r i = r' i := fun i hi => (hag i hi).symm
      have k1 := k _ List.mem_cons_self r' g H locs ls _ (ys_rep_push (ys_rep_ext g2 hag hb hl hsc2) (.inl (.inl o.2)) hst) ⟨g, yt_h_cong hcg hsc hh, hw i _ _ (hwi _ (by
          show Int32.ofInt (ys_ev r' o.2) = op (Int32.ofInt (ys_ev r' x)) (Int32.ofInt (ys_ev r' y))
          rw [← sx r r' hcg, ← sy r r' hcg]
          exact hval)), fun _ _ => rfl⟩ (fun v hv => by
            rcases List.mem_cons.mp hv with q | q
            · rw [q]
              show ∀ u ∈ [x, y, o.2], ys_stb o.1.1.length u
              exact yt_all3 (ys_stb_mono sx hl) (ys_stb_mono sy hl) hst
            · exact yt_sc_mono hl (hsc v q)) hm
      have e3 : ys_den ad r' (.inl (.inl o.2)) = .int (op (Int32.ofInt (ys_ev r x)) (Int32.ofInt (ys_ev r y))) := congrArg Value.int hval
      rw [e3] at k1
      exact k1
    · cases hs
  · cases hs
theorem yt_kbs {F : ys_B → ys_L → ys_L → Option (ys_B × ys_L)} {op : Int64 → Int32 → Int64} {i : Nat} (hF : ys_BLI F op) (hw : yt_Hw tb) (hwi : ∀ r : Nat → Int, Int64.ofInt (r 2) = op (Int64.ofInt (r 0)) (Int32.ofInt (r 1)) → yt_hwp i r) (hrow : ∀ (X : Int64) (Y : Int32) (H : Heap) (locs : List Loc) (ls : Array Slot) (rest : List Value), W p l e R s m args below meth c H locs kc kz Q (F0 m (pc + 1) ls (.long (op X Y) :: rest)) → W p l e R s m args below meth c H locs kc kz Q (F0 m pc ls (.int Y :: .long X :: rest))) (hs : yt_hbs i F h pc b fds lv sv = some succ) (k : ∀ q ∈ succ, yt_X p l e R s m args below meth c Q kc kz D cl ad cT sh A H0 nL mods g0 r0 E tb gi q.2.2 q.1 q.2.1) : yt_X p l e R s m args below meth c Q kc kz D cl ad cT sh A H0 nL mods g0 r0 E tb gi h pc (b, fds, lv, sv) := by
  unfold yt_hbs at hs
  split at hs
  · rename_i y x t
    split at hs
    · rename_i o ho
      have hs := (Option.some.inj hs).symm
      subst hs
      intro r g H locs ls st hrep hh hsc hm
      obtain ⟨st1, e1, g1, sy⟩ := ys_rep_pop hrep
      obtain ⟨st2, e2, g2, sx⟩ := ys_rep_pop g1
      subst e1; subst e2
      obtain ⟨r', hag, hb, hl, hsc2, hst, hval⟩ := hF r b x y o hrep.1 hrep.2.1.1 sx sy ho
      refine hrow _ _ _ _ _ _ ?_
      have hcg : ∀ i, i < b.1.length → r i = r' i := fun i hi => (hag i hi).symm
      have k1 := k _ List.mem_cons_self r' g H locs ls _ (ys_rep_push (ys_rep_ext g2 hag hb hl hsc2) (.inl (.inr o.2)) hst) ⟨g, yt_h_cong hcg hsc hh, hw i _ _ (hwi _ (by
          show Int64.ofInt (ys_ev r' o.2) = op (Int64.ofInt (ys_ev r' x)) (Int32.ofInt (ys_ev r' y))
          rw [← sx r r' hcg, ← sy r r' hcg]
          exact hval)), fun _ _ => rfl⟩ (fun v hv => by
            rcases List.mem_cons.mp hv with q | q
            · rw [q]
              show ∀ u ∈ [x, y, o.2], ys_stb o.1.1.length u
              exact yt_all3 (ys_stb_mono sx hl) (ys_stb_mono sy hl) hst
            · exact yt_sc_mono hl (hsc v q)) hm
      have e3 : ys_den ad r' (.inl (.inr o.2)) = .long (op (Int64.ofInt (ys_ev r x)) (Int32.ofInt (ys_ev r y))) := congrArg Value.long hval
      rw [e3] at k1
      exact k1
    · cases hs
  · cases hs
theorem yt_kct {w : Bool} {i : Nat} {q : Int × Int} {f : Int → Int} (hw : yt_Hw tb) (hrow : ∀ (z : Int) (H : Heap) (locs : List Loc) (ls : Array Slot) (rest : List Value), W p l e R s m args below meth c H locs kc kz Q (F0 m (pc + 1) ls (.int (Int32.ofInt (f z)) :: rest)) → W p l e R s m args below meth c H locs kc kz Q (F0 m pc ls (yt_vl w z :: rest))) (hf : ∀ z, q.1 ≤ f z ∧ f z ≤ q.2) (hwi : ∀ r : Nat → Int, r 1 = f (r 0) → yt_hwp i r) (hs : yt_hct w i q h pc b fds lv sv = some succ) (k : ∀ q ∈ succ, yt_X p l e R s m args below meth c Q kc kz D cl ad cT sh A H0 nL mods g0 r0 E tb gi q.2.2 q.1 q.2.1) : yt_X p l e R s m args below meth c Q kc kz D cl ad cT sh A H0 nL mods g0 r0 E tb gi h pc (b, fds, lv, sv) := by
  unfold yt_hct at hs
  split at hs
  · rename_i vx t
    split at hs
    · rename_i x hx
      split at hs
      · cases hs
      · have hs := (Option.some.inj hs).symm
        subst hs
        intro r g H locs ls st hrep hh hsc hm
        obtain ⟨st1, e1, g1, sx⟩ := ys_rep_pop hrep
        rw [yt_un_ok hx, yt_mk_den] at e1
        rw [yt_un_ok hx] at sx
        subst e1
        have sx := yt_mk_sti sx
        refine hrow (ys_ev r x) H locs ls st1 ?_
        have hok := ys_new_ok (q := q) hrep.1 hrep.2.1.1 (hf (ys_ev r x))
        have hll : b.1.length ≤ (b.1 ++ [q]).length := by rw [List.length_append]; omega
        have hlt : b.1.length < (b.1 ++ [q]).length := by rw [List.length_append, List.length_singleton]; omega
        have g3 := ys_rep_ext g1 (r' := ys_up r b.1.length (f (ys_ev r x))) (b' := (b.1 ++ [q], b.2)) ys_up_lt hok hll (ys_scB_new hrep.2.1.1)
        have hcg : ∀ j, j < b.1.length → r j = ys_up r b.1.length (f (ys_ev r x)) j := fun j hj => (ys_up_lt j hj).symm
        have k1 := k _ List.mem_cons_self (ys_up r b.1.length (f (ys_ev r x))) g H locs ls _ (ys_rep_push g3 (yt_mk false (ys_sym b.1.length)) (yt_mk_st (ys_stb_sym hlt))) ⟨g, yt_h_cong hcg hsc hh, hw i _ _ (hwi _ (by
          show ys_ev (ys_up r b.1.length (f (ys_ev r x))) (ys_sym b.1.length) = f (ys_ev (ys_up r b.1.length (f (ys_ev r x))) x)
          rw [yt_up_sym, yt_up_ev sx])), fun _ _ => rfl⟩ (fun v hv => by
            rcases List.mem_cons.mp hv with z1 | z1
            · rw [z1]
              show ∀ u ∈ [x, ys_sym b.1.length], ys_stb (b.1 ++ [q]).length u
              intro u hu
              rcases List.mem_cons.mp hu with z2 | z2
              · rw [z2]
                exact ys_stb_mono sx hll
              · rcases List.mem_cons.mp z2 with z3 | z3
                · rw [z3]
                  exact ys_stb_sym hlt
                · cases z3
            · exact yt_sc_mono hll (hsc v z1)) hm
        rw [yt_mk_den, yt_up_sym] at k1
        exact k1
    · cases hs
  · cases hs
theorem yt_kng {f : Int → Int} (hw : yt_Hw tb) (hrow : ∀ (z : Int) (H : Heap) (locs : List Loc) (ls : Array Slot) (rest : List Value), W p l e R s m args below meth c H locs kc kz Q (F0 m (pc + 1) ls (.int (Int32.ofInt (f z)) :: rest)) → W p l e R s m args below meth c H locs kc kz Q (F0 m pc ls (yt_vl false z :: rest))) (hf : ∀ z, ys_mn false ≤ f z ∧ f z ≤ ys_mx false) (hwi : ∀ r : Nat → Int, r 1 = f (r 0) → yt_hwp 6 r) (hs : yt_hng h pc b fds lv sv = some succ) (k : ∀ q ∈ succ, yt_X p l e R s m args below meth c Q kc kz D cl ad cT sh A H0 nL mods g0 r0 E tb gi q.2.2 q.1 q.2.1) : yt_X p l e R s m args below meth c Q kc kz D cl ad cT sh A H0 nL mods g0 r0 E tb gi h pc (b, fds, lv, sv) := by
  unfold yt_hng at hs
  split at hs
  · rename_i vx t
    split at hs
    · rename_i x hx
      split at hs
      · cases hs
      · have hs := (Option.some.inj hs).symm
        subst hs
        intro r g H locs ls st hrep hh hsc hm
        obtain ⟨st1, e1, g1, sx⟩ := ys_rep_pop hrep
        rw [yt_un_ok hx, yt_mk_den] at e1
        rw [yt_un_ok hx] at sx
        subst e1
        have sx := yt_mk_sti sx
        refine hrow (ys_ev r x) H locs ls st1 ?_
        have hok := ys_new_ok (q := (ys_mn false, ys_mx false)) hrep.1 hrep.2.1.1 (hf (ys_ev r x))
        have hll : b.1.length ≤ (b.1 ++ [(ys_mn false, ys_mx false)]).length := by rw [List.length_append]; omega
        have hlt : b.1.length < (b.1 ++ [(ys_mn false, ys_mx false)]).length := by rw [List.length_append, List.length_singleton]; omega
        have g3 := ys_rep_ext g1 (r' := ys_up r b.1.length (f (ys_ev r x))) (b' := (b.1 ++ [(ys_mn false, ys_mx false)], b.2)) ys_up_lt hok hll (ys_scB_new hrep.2.1.1)
        have hcg : ∀ j, j < b.1.length → r j = ys_up r b.1.length (f (ys_ev r x)) j := fun j hj => (ys_up_lt j hj).symm
        have k1 := k _ List.mem_cons_self (ys_up r b.1.length (f (ys_ev r x))) g H locs ls _ (ys_rep_push g3 (yt_mk false (ys_sym b.1.length)) (yt_mk_st (ys_stb_sym hlt))) ⟨g, yt_h_cong hcg hsc hh, hw 6 _ _ (hwi _ (by
          show ys_ev (ys_up r b.1.length (f (ys_ev r x))) (ys_sym b.1.length) = f (ys_ev (ys_up r b.1.length (f (ys_ev r x))) x)
          rw [yt_up_sym, yt_up_ev sx])), fun _ _ => rfl⟩ (fun v hv => by
            rcases List.mem_cons.mp hv with z1 | z1
            · rw [z1]
              show ∀ u ∈ [x, ys_sym b.1.length], ys_stb (b.1 ++ [(ys_mn false, ys_mx false)]).length u
              intro u hu
              rcases List.mem_cons.mp hu with z2 | z2
              · rw [z2]
                exact ys_stb_mono sx hll
              · rcases List.mem_cons.mp z2 with z3 | z3
                · rw [z3]
                  exact ys_stb_sym hlt
                · cases z3
            · exact yt_sc_mono hll (hsc v z1)) hm
        rw [yt_mk_den, yt_up_sym] at k1
        exact k1
    · cases hs
  · cases hs
theorem yt_abs64 {z : Int} (h : ys_mn true ≤ z ∧ z ≤ ys_mx true) : (0 ≤ z → (if 0 < Int64.ofInt z then Int64.ofInt z else -Int64.ofInt z) = Int64.ofInt z) ∧ (z < 0 → (if 0 < Int64.ofInt z then Int64.ofInt z else -Int64.ofInt z) = Int64.ofInt (-z)) := by
  rw [ys_mn_t, ys_mx_t] at h
  have e : (Int64.ofInt z).toInt = z := Int64.toInt_ofInt_of_le (by omega) (by omega)
  have e0 : (0 : Int64).toInt = 0 := rfl
  refine ⟨fun h0 => ?_, fun h0 => ?_⟩
  · split
    · rfl
    · rename_i hn
      rw [Int64.lt_iff_toInt_lt, e, e0] at hn
      have : z = 0 := by omega
      rw [this]
      rfl
  · rw [if_neg (by rw [Int64.lt_iff_toInt_lt, e, e0]; omega), Int64.ofInt_neg]
theorem yt_abs32 {z : Int} (h : ys_mn false ≤ z ∧ z ≤ ys_mx false) : (0 ≤ z → (if 0 ≤ Int32.ofInt z then Int32.ofInt z else 0 - Int32.ofInt z) = Int32.ofInt z) ∧ (z < 0 → (if 0 ≤ Int32.ofInt z then Int32.ofInt z else 0 - Int32.ofInt z) = Int32.ofInt (-z)) := by
  rw [ys_mn_f, ys_mx_f] at h
  have e : (Int32.ofInt z).toInt = z := Int32.toInt_ofInt_of_le (by omega) (by omega)
  have e0 : (0 : Int32).toInt = 0 := rfl
  refine ⟨fun h0 => ?_, fun h0 => ?_⟩
  · rw [if_pos (by rw [Int32.le_iff_toInt_le, e, e0]; exact h0)]
  · rw [if_neg (by rw [Int32.le_iff_toInt_le, e, e0]; omega), Int32.ofInt_neg, Int32.zero_sub]
variable {G : List Cond} {pt : Nat → yt_Ps} {calls : List yt_CE} {K : ys_K} {fl : ys_FL} {ci cj : List (Nat × Int)} {cps cqs : List Nat} {nx : Nat → Option (Instr × Nat)}
theorem yt_kinv {idx : Nat} {st : Bool} {fr lo : Nat} {o : List yt_U × List yt_O} (S : CallFix p m c cc nL s args Ts own) (hK : va_K D cl tys s) (hA0 : ∀ q, H0.size ≤ q → A q) (hfr : fr ≤ R.frames) (hlo : lo ≤ R.locals) (hkk : kc ≤ R.cells ∧ kz ≤ R.slots) (hd : decode cc pc = .ok (if st = true then .invokestatic idx else .invokevirtual idx, 3)) (hob : ∀ q ∈ o.2, ∀ (r : Nat → Int) (g : yt_G), ys_okB r b → (∀ i, i < E → r i = r0 i) → yt_h tb r gi h g → pt q.1 (ys_val r 0 q.2.1) (yt_sub q.2.2 g)) (k : ∀ q ∈ o.1, yt_X p l e R s m args below meth c Q kc kz D cl ad cT sh A H0 nL mods g0 r0 E tb gi q.2.2 q.1 q.2.1) : ∀ (cs : List yt_CE), (∀ C ∈ cs, yt_Con l D cl cT tys G C.2.1 C.2.2 (pt C.1.2.1) (tb C.1.2.1) ∧ ys_CL own Ts cl C.2.1 G (if C.1.1.2 = true then .invokestatic C.1.1.1 else .invokevirtual C.1.1.1) C.2.2 ∧ yt_shok C.1.2.2.2 C.2.1 sh = true ∧ (C.1.2.2.1 = false → ∀ r g, pt C.1.2.1 r g)) → yt_inv fr lo mods sh idx st h pc b fds lv sv cs = some o → yt_X p l e R s m args below meth c Q kc kz D cl ad cT sh A H0 nL mods g0 r0 E tb gi h pc (b, fds, lv, sv)
  | [], _, hs => by cases hs
  | C :: t, hc, hs => by
    have ht : ∀ x ∈ t, yt_Con l D cl cT tys G x.2.1 x.2.2 (pt x.1.2.1) (tb x.1.2.1) ∧ ys_CL own Ts cl x.2.1 G (if x.1.1.2 = true then .invokestatic x.1.1.1 else .invokevirtual x.1.1.1) x.2.2 ∧ yt_shok x.1.2.2.2 x.2.1 sh = true ∧ (x.1.2.2.1 = false → ∀ r g, pt x.1.2.1 r g) := fun x hx => hc x (List.mem_cons_of_mem _ hx)
    unfold yt_inv at hs
    split at hs
    · rename_i he
      split at hs
      · rename_i x hx
        split at hs
        · rename_i hl
          have hs := (Option.some.inj hs).symm
          subst hs
          obtain ⟨h1, h2, h3, h4⟩ := hc C List.mem_cons_self
          rw [he] at h2
          refine yt_kcall (t := x.1) (succ := x.2) S hK hA0 h1 h2 h3 hl hd hfr hlo hkk hx (fun r g q1 q2 q3 => ?_) k
          cases hp : C.1.2.2.1 with
          | false => exact h4 hp _ _
          | true => exact hob (C.1.2.1, x.1, C.1.2.2.2) (by rw [hp]; exact List.mem_cons_self) r g q1 q2 q3
        · cases hs
      · exact yt_kinv S hK hA0 hfr hlo hkk hd hob k t ht hs
    · exact yt_kinv S hK hA0 hfr hlo hkk hd hob k t ht hs
set_option maxHeartbeats 4000000 in
theorem yt_step_ok {i : Instr} {n : Nat} {o : List yt_U × List yt_O} (hw : yt_Hw tb) (S : CallFix p m c cc nL s args Ts own) (hnL : K.1.1.2.2.1 = nL) (hmods : K.2.2.2 = mods) (hfr : K.1.2.1 ≤ R.frames) (hlo : K.1.2.2 ≤ R.locals) (hkk : kc ≤ R.cells ∧ kz ≤ R.slots) (hA0 : ∀ q, H0.size ≤ q → A q) (hK : va_K D cl tys s) (hty : ys_Ty tys cT sh) (hLk : ys_Lk own Ts cl fl ci cj cps) (hCq : ∀ v, v ∈ cqs → yt_Cq own Ts v) (hcalls : ∀ C ∈ calls, yt_Con l D cl cT tys G C.2.1 C.2.2 (pt C.1.2.1) (tb C.1.2.1) ∧ ys_CL own Ts cl C.2.1 G (if C.1.1.2 = true then .invokestatic C.1.1.1 else .invokevirtual C.1.1.1) C.2.2 ∧ yt_shok C.1.2.2.2 C.2.1 sh = true ∧ (C.1.2.2.1 = false → ∀ r g, pt C.1.2.1 r g)) (hnx : ∀ pc i, nx pc = some i → decode cc pc = .ok i) (hd : decode cc pc = .ok (i, n)) (hs : yt_step sh fl ci cj calls cps cqs K nx h pc b fds lv sv i n = some o) (hob : ∀ q ∈ o.2, ∀ (r : Nat → Int) (g : yt_G), ys_okB r b → (∀ i, i < E → r i = r0 i) → yt_h tb r gi h g → pt q.1 (ys_val r 0 q.2.1) (yt_sub q.2.2 g)) (k : ∀ q ∈ o.1, yt_X p l e R s m args below meth c Q kc kz D cl ad cT sh A H0 nL mods g0 r0 E tb gi q.2.2 q.1 q.2.1) : yt_X p l e R s m args below meth c Q kc kz D cl ad cT sh A H0 nL mods g0 r0 E tb gi h pc (b, fds, lv, sv) := by
  subst hnL
  subst hmods
  have hexec := S.1
  have hb := S.2.1
  have hml := S.2.2.1
  have hown := S.2.2.2.1
  have hts := S.2.2.2.2
  obtain ⟨t0, t1, t2, t3, t4, t5⟩ := hty
  have hpl : ∀ {j : Instr}, decode cc pc = .ok (j, n) → ys_isr j = false → yt_pl h (ys_stp sh fl ci cj [] cps (yt_K0 K) nx pc b fds lv sv j n) = some o → yt_X p l e R s m args below meth c Q kc kz D cl ad cT sh A H0 K.1.1.2.2.1 K.2.2.2 g0 r0 E tb gi h pc (b, fds, lv, sv) := by
    intro j hdj hj hp
    obtain ⟨y, h1, h2⟩ := yt_pl_ok hp
    exact yt_plain (K := yt_K0 K) S rfl rfl hfr hlo hkk hA0 hK ⟨t0, t1, t2, t3, t4, t5⟩ hLk hnx hdj h1 hj (fun q hq => k (q.1, q.2, h) (by rw [h2]; exact List.mem_map.mpr ⟨q, hq, rfl⟩))
  cases i with
  | iaload =>
    obtain ⟨e0, hs1⟩ := ys_g1_ok hs
    subst e0
    exact yt_kild hexec hb hK t0 hd (yt_p_ok hs1) k
  | laload =>
    obtain ⟨e0, hs1⟩ := ys_g1_ok hs
    subst e0
    exact yt_klld hexec hb hK t1 hd (yt_p_ok hs1) k
  | baload =>
    obtain ⟨e0, hs1⟩ := ys_g1_ok hs
    subst e0
    rcases ys_or_ok hs1 with hs2 | hs2
    · exact yt_kbld hexec hb hK t2 hd (yt_p_ok hs2) k
    · exact yt_kzld hexec hb hK t3 hd (yt_p_ok hs2) k
  | iastore =>
    obtain ⟨e0, hs1⟩ := ys_g1_ok hs
    subst e0
    exact yt_kist hexec hb hK t0 hd (yt_p_ok hs1) k
  | lastore =>
    obtain ⟨e0, hs1⟩ := ys_g1_ok hs
    subst e0
    exact yt_klst hexec hb hK t1 hd (yt_p_ok hs1) k
  | bastore =>
    obtain ⟨e0, hs1⟩ := ys_g1_ok hs
    subst e0
    rcases ys_or_ok hs1 with hs2 | hs2
    · exact yt_kbst hexec hb hK t2 hd (yt_p_ok hs2) k
    · exact yt_kzst hexec hb hK t3 hd (yt_p_ok hs2) k
  | lrem =>
    rcases ys_or_ok hs with hs1 | hs1
    · obtain ⟨e0, hs2⟩ := ys_g1_ok hs1
      subst e0
      exact yt_krm hw hexec hb hd (yt_p_ok hs2) k
    · exact hpl hd rfl hs1
  | lsub =>
    rcases ys_or_ok hs with hs1 | hs1
    · obtain ⟨e0, hs2⟩ := ys_g1_ok hs1
      subst e0
      exact yt_kws hw hexec hb hd (yt_p_ok hs2) k
    · exact hpl hd rfl hs1
  | lshr =>
    obtain ⟨e0, hs1⟩ := ys_g1_ok hs
    subst e0
    exact yt_kbs (op := fun x y => x >>> (y.toInt64 &&& 63)) (i := 17) (ys_cfoLI_ok (ys_fanyLI _)) hw (fun r h => h) (fun X Y H locs ls rest kk => lv_lshr hexec hb hd rfl kk) (yt_p_ok hs1) k
  | lushr =>
    obtain ⟨e0, hs1⟩ := ys_g1_ok hs
    subst e0
    exact yt_kbs (op := fun x y => (x.toUInt64 >>> (y.toInt64.toUInt64 &&& Int64.toUInt64 63)).toInt64) (i := 18) (ys_cfoLI_ok (ys_fanyLI _)) hw (fun r h => h) (fun X Y H locs ls rest kk => lv_lushr hexec hb hd rfl kk) (yt_p_ok hs1) k
  | ldiv =>
    rcases ys_or_ok hs with hs1 | hs1
    · obtain ⟨e0, hs2⟩ := ys_g1_ok hs1
      subst e0
      exact yt_kdv hw hexec hb hd (yt_p_ok hs2) k
    · exact hpl hd rfl hs1
  | lmul =>
    rcases ys_or_ok hs with hs1 | hs1
    · rcases ys_or_ok hs1 with hs1 | hs1
      · obtain ⟨e0, hs2⟩ := ys_g1_ok hs1
        subst e0
        refine yt_kbin (OK := fun _ _ _ => True) (V := fun r x y => yt_vl true (ys_ev r x * ys_ev r y)) (fun r x y brs hF sx sy hbb => ⟨trivial, yt_bmul_ok (yt_nc2_ok hF) hbb⟩) (fun r x y H locs ls rest _ kk => lv_lmul hexec hb hd ?_) (yt_p_ok hs2) k
        rw [← Int64.ofInt_mul]
        exact kk
      · obtain ⟨e0, hs2⟩ := ys_g1_ok hs1
        subst e0
        exact yt_kwm hw hexec hb hd (yt_p_ok hs2) k
    · exact hpl hd rfl hs1
  | ladd =>
    rcases ys_or_ok hs with hs1 | hs1
    · obtain ⟨e0, hs2⟩ := ys_g1_ok hs1
      subst e0
      exact yt_kwa hw hexec hb hd (yt_p_ok hs2) k
    · exact hpl hd rfl hs1
  | land =>
    obtain ⟨e0, hs1⟩ := ys_g1_ok hs
    subst e0
    exact yt_kbe (op := fun x y => x &&& y) (i := 7) (ys_cfo64_ok ys_fand64) hw (fun r h => h) (fun X Y H locs ls rest kk => lv_land hexec hb hd kk) (yt_p_ok hs1) k
  | lor =>
    obtain ⟨e0, hs1⟩ := ys_g1_ok hs
    subst e0
    exact yt_kbe (op := fun x y => x ||| y) (i := 8) (ys_cfo64_ok (ys_fany64 _)) hw (fun r h => h) (fun X Y H locs ls rest kk => lv_lor hexec hb hd kk) (yt_p_ok hs1) k
  | lshl =>
    obtain ⟨e0, hs1⟩ := ys_g1_ok hs
    subst e0
    exact yt_kbs (op := fun x y => x <<< (y.toInt64 &&& 63)) (i := 9) (ys_cfoLI_ok ys_fshl64) hw (fun r h => h) (fun X Y H locs ls rest kk => lv_lshl hexec hb hd rfl kk) (yt_p_ok hs1) k
  | imul =>
    rcases ys_or_ok hs with hs1 | hs1
    · obtain ⟨e0, hs2⟩ := ys_g1_ok hs1
      subst e0
      refine yt_kbin (OK := fun _ _ _ => True) (V := fun r x y => yt_vl false (ys_ev r x * ys_ev r y)) (fun r x y brs hF sx sy hbb => ⟨trivial, yt_bmul_ok (yt_nc2_ok hF) hbb⟩) (fun r x y H locs ls rest _ kk => lv_imul hexec hb hd ?_) (yt_p_ok hs2) k
      rw [← Int32.ofInt_mul]
      exact kk
    · exact hpl hd rfl hs1
  | l2i =>
    rcases ys_or_ok hs with hs1 | hs1
    · obtain ⟨e0, hs2⟩ := ys_g1_ok hs1
      subst e0
      refine yt_kct (w := true) (i := 2) (q := (ys_mn false, ys_mx false)) (f := fun z => (Int32.ofInt z).toInt) hw (fun z H locs ls rest kk => lv_l2i hexec hb hd (v := Int32.ofInt (Int32.ofInt z).toInt) (by rw [ys_l2i, Int32.ofInt_toInt]) kk) (fun z => ?_) (fun r h => h) (yt_p_ok hs2) k
      have h1 := Int32.le_toInt (Int32.ofInt z)
      have h2 := Int32.toInt_lt (Int32.ofInt z)
      exact ⟨by show (-2147483648 : Int) ≤ _; simpa using h1, by show _ ≤ (2147483647 : Int); omega⟩
    · exact hpl hd rfl hs1
  | ineg =>
    rcases ys_or_ok hs with hs1 | hs1
    · obtain ⟨e0, hs2⟩ := ys_g1_ok hs1
      subst e0
      refine yt_kng (f := fun z => (Int32.ofInt (-z)).toInt) hw (fun z H locs ls rest kk => lv_ineg hexec hb hd (by
        have e7 : -Int32.ofInt z = Int32.ofInt (Int32.ofInt (-z)).toInt := by rw [Int32.ofInt_toInt, Int32.ofInt_neg]
        rw [e7]
        exact kk)) (fun z => ?_) (fun r h => h) (yt_p_ok hs2) k
      have h1 := Int32.le_toInt (Int32.ofInt (-z))
      have h2 := Int32.toInt_lt (Int32.ofInt (-z))
      exact ⟨by show (-2147483648 : Int) ≤ _; simpa using h1, by show _ ≤ (2147483647 : Int); omega⟩
    · exact hpl hd rfl hs1
  | i2b =>
    rcases ys_or_ok hs with hs1 | hs1
    · obtain ⟨e0, hs2⟩ := ys_g1_ok hs1
      subst e0
      refine yt_kct (w := false) (i := 3) (q := (-128, 127)) (f := fun z => (Int32.ofInt z).toInt8.toInt) hw (fun z H locs ls rest kk => lv_i2b hexec hb hd (v := Int32.ofInt (Int32.ofInt z).toInt8.toInt) (by rw [← Int8.toInt_toInt32, Int32.ofInt_toInt]) kk) (fun z => ?_) (fun r h => h) (yt_p_ok hs2) k
      · have h1 := (Int32.ofInt z).toInt8.le_toInt
        have h2 := (Int32.ofInt z).toInt8.toInt_lt
        exact ⟨by show (-128 : Int) ≤ _; simpa using h1, by show _ ≤ (127 : Int); omega⟩
    · exact hpl hd rfl hs1
  | i2s =>
    rcases ys_or_ok hs with hs1 | hs1
    · obtain ⟨e0, hs2⟩ := ys_g1_ok hs1
      subst e0
      refine yt_kct (w := false) (i := 4) (q := (-32768, 32767)) (f := fun z => (Int32.ofInt z).toInt16.toInt) hw (fun z H locs ls rest kk => lv_i2s hexec hb hd (v := Int32.ofInt (Int32.ofInt z).toInt16.toInt) (by rw [← Int16.toInt_toInt32, Int32.ofInt_toInt]) kk) (fun z => ?_) (fun r h => h) (yt_p_ok hs2) k
      · have h1 := (Int32.ofInt z).toInt16.le_toInt
        have h2 := (Int32.ofInt z).toInt16.toInt_lt
        exact ⟨by show (-32768 : Int) ≤ _; simpa using h1, by show _ ≤ (32767 : Int); omega⟩
    · exact hpl hd rfl hs1
  | iadd =>
    have hs : (if cqs.contains 700000 = true then ys_or (ys_g1 n 1 (yt_p (yt_hbi 15 (yt_rnd (ys_fadd false)) h pc b fds lv sv))) (yt_pl h (ys_stp sh fl ci cj [] cps (yt_K0 K) nx pc b fds lv sv .iadd n)) else yt_pl h (ys_stp sh fl ci cj [] cps (yt_K0 K) nx pc b fds lv sv .iadd n)) = some o := hs
    split at hs
    · rcases ys_or_ok hs with hs1 | hs1
      · obtain ⟨e0, hs2⟩ := ys_g1_ok hs1
        subst e0
        exact yt_kbi (op := fun x y => x + y) (i := 15) (yt_rnd_ok ys_fadd32) hw (fun r h => h) (fun X Y H locs ls rest kk => lv_iadd hexec hb hd kk) (yt_p_ok hs2) k
      · exact hpl hd rfl hs1
    · exact hpl hd rfl hs
  | ishl =>
    obtain ⟨e0, hs1⟩ := ys_g1_ok hs
    subst e0
    exact yt_kbi (op := fun x y => x <<< (y &&& 31)) (i := 10) (ys_cfo32_ok ys_fshl32) hw (fun r h => h) (fun X Y H locs ls rest kk => lv_ishl hexec hb hd kk) (yt_p_ok hs1) k
  | ior =>
    obtain ⟨e0, hs1⟩ := ys_g1_ok hs
    subst e0
    exact yt_kbi (op := fun x y => x ||| y) (i := 11) (ys_cfo32_ok ys_or32) hw (fun r h => h) (fun X Y H locs ls rest kk => lv_ior hexec hb hd kk) (yt_p_ok hs1) k
  | ishr =>
    obtain ⟨e0, hs1⟩ := ys_g1_ok hs
    subst e0
    exact yt_kbi (op := fun x y => x >>> (y &&& 31)) (i := 13) (ys_cfo32_ok ys_fshr32) hw (fun r h => h) (fun X Y H locs ls rest kk => lv_ishr hexec hb hd kk) (yt_p_ok hs1) k
  | iushr =>
    obtain ⟨e0, hs1⟩ := ys_g1_ok hs
    subst e0
    exact yt_kbi (op := fun x y => (x.toUInt32 >>> (y.toUInt32 &&& Int32.toUInt32 31)).toInt32) (i := 14) (ys_cfo32_ok (ys_fany32 _)) hw (fun r h => h) (fun X Y H locs ls rest kk => lv_iushr hexec hb hd rfl kk) (yt_p_ok hs1) k
  | iand =>
    have hs : (if cqs.contains 700000 = true then ys_g1 n 1 (yt_p (yt_hbi 12 (ys_cfo32 (fun x y => x &&& y) (ys_fand false)) h pc b fds lv sv)) else ys_or (ys_g1 n 1 (yt_p (yt_hbin false (yt_nc2 yt_band) h pc b fds lv sv))) (ys_g1 n 1 (yt_p (yt_hbi 12 (ys_cfo32 (fun x y => x &&& y) (ys_fand false)) h pc b fds lv sv)))) = some o := hs
    split at hs
    · obtain ⟨e0, hs2⟩ := ys_g1_ok hs
      subst e0
      exact yt_kbi (op := fun x y => x &&& y) (i := 12) (ys_cfo32_ok ys_fand32) hw (fun r h => h) (fun X Y H locs ls rest kk => lv_iand hexec hb hd kk) (yt_p_ok hs2) k
    · rcases ys_or_ok hs with hs1 | hs1
      · obtain ⟨e0, hs2⟩ := ys_g1_ok hs1
        subst e0
        exact yt_kbin (OK := fun _ _ _ => True) (V := fun r x y => .int (Int32.ofInt (ys_ev r x) &&& Int32.ofInt (ys_ev r y))) (fun r x y brs hF sx sy hbb => ⟨trivial, yt_band_ok (yt_nc2_ok hF) sx sy hbb⟩) (fun r x y H locs ls rest _ kk => lv_iand hexec hb hd kk) (yt_p_ok hs2) k
      · obtain ⟨e0, hs2⟩ := ys_g1_ok hs1
        subst e0
        exact yt_kbi (op := fun x y => x &&& y) (i := 12) (ys_cfo32_ok ys_fand32) hw (fun r h => h) (fun X Y H locs ls rest kk => lv_iand hexec hb hd kk) (yt_p_ok hs2) k
  | invokevirtual idx =>
    obtain ⟨e0, hs1⟩ := ys_g1_ok hs
    subst e0
    exact yt_kinv (st := false) S hK hA0 hfr hlo hkk hd hob k calls hcalls hs1
  | invokestatic idx =>
    unfold yt_step at hs
    dsimp only at hs
    split at hs
    · cases hs
    · split at hs
      · rename_i hc
        split at hs
        · rename_i hf1
          obtain ⟨e0, hs1⟩ := ys_g1_ok hs
          subst e0
          have hq := hLk.2.2.2 idx (List.contains_iff_mem.mp hc)
          unfold ys_Cp at hq
          rw [show idx / 100000 = 0 by omega] at hq
          obtain ⟨w1, w2, w3, w4⟩ := hq
          exact yt_kcp hexec hb hml hts hown hK t0 t1 (Nat.le_trans hf1 hfr) hlo w1 w2 w3 w4 hd (yt_p_ok hs1) k
        · cases hs
      · split at hs
        · rename_i hc
          obtain ⟨e0, hs1⟩ := ys_g1_ok hs
          subst e0
          have hq := hCq _ (List.contains_iff_mem.mp hc)
          unfold yt_Cq at hq
          rw [show (300000 + idx) / 100000 = 3 by omega, show 300000 + idx - 300000 = idx by omega] at hq
          obtain ⟨w1, w2, w3, w4⟩ := hq
          refine yt_kone (w := false) (V := fun r x => .int (if 0 ≤ Int32.ofInt (ys_ev r x) then Int32.ofInt (ys_ev r x) else 0 - Int32.ofInt (ys_ev r x))) hfr hlo (fun r x brs hF sx hbb => ?_) (fun r x H locs ls rest h1 h2 h3 kk => va_mabs hexec hb (hml.trans h1.symm) hown (hts _ w1) (hts _ w2) (hts _ w3) (hts _ w4) h2 h3 hkk.1 hkk.2 hd kk) (yt_p_ok hs1) k
          have hr : ys_mn false ≤ ys_ev r x ∧ ys_ev r x ≤ ys_mx false := by
            unfold yt_babs at hF
            split at hF
            · rename_i hi
              exact ys_inr_ok hbb.1 hi
            · cases hF
          obtain ⟨a1, a2⟩ := yt_abs32 hr
          refine (yt_babs_ok hF sx hbb (fun h0 => ?_) (fun h0 => ?_) (fun h0 => ?_)).2
          · rw [a1 h0]; rfl
          · rw [a2 h0]; rfl
          · rw [h0]; rfl
        · split at hs
          · rename_i hc
            obtain ⟨e0, hs1⟩ := ys_g1_ok hs
            subst e0
            have hq := hCq _ (List.contains_iff_mem.mp hc)
            unfold yt_Cq at hq
            rw [show (400000 + idx) / 100000 = 4 by omega, show 400000 + idx - 400000 = idx by omega] at hq
            obtain ⟨w1, w2, w3, w4⟩ := hq
            refine yt_kone (w := true) (V := fun r x => .long (if 0 < Int64.ofInt (ys_ev r x) then Int64.ofInt (ys_ev r x) else -Int64.ofInt (ys_ev r x))) hfr hlo (fun r x brs hF sx hbb => ?_) (fun r x H locs ls rest h1 h2 h3 kk => va_mabs_long hexec hb (hml.trans h1.symm) hown (hts _ w1) (hts _ w2) (hts _ w3) (hts _ w4) h2 h3 hkk.1 hkk.2 hd kk) (yt_p_ok hs1) k
            have hr : ys_mn true ≤ ys_ev r x ∧ ys_ev r x ≤ ys_mx true := by
              unfold yt_babs at hF
              split at hF
              · rename_i hi
                exact ys_inr_ok hbb.1 hi
              · cases hF
            obtain ⟨a1, a2⟩ := yt_abs64 hr
            refine (yt_babs_ok hF sx hbb (fun h0 => ?_) (fun h0 => ?_) (fun h0 => ?_)).2
            · rw [a1 h0]; rfl
            · rw [a2 h0]; rfl
            · rw [h0]; rfl
          · split at hs
            · rename_i hc
              obtain ⟨e0, hs1⟩ := ys_g1_ok hs
              subst e0
              have hq := hCq _ (List.contains_iff_mem.mp hc)
              unfold yt_Cq at hq
              rw [show (500000 + idx) / 100000 = 5 by omega, show 500000 + idx - 500000 = idx by omega] at hq
              exact yt_kmx hexec hb hml hts hown hfr hlo hkk hq hd (yt_p_ok hs1) k
            · split at hs
              · exact hpl hd rfl hs
              · obtain ⟨e0, hs1⟩ := ys_g1_ok hs
                subst e0
                exact yt_kinv (st := true) S hK hA0 hfr hlo hkk hd hob k calls hcalls hs1
  | ireturn => cases hs
  | lreturn => cases hs
  | return_ => cases hs
  | freturn => exact hpl hd rfl hs
  | _ => exact hpl hd rfl hs
end YTS
