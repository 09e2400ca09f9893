/-! a straight run over a growing world -/
def ys_all2 {α : Type} (f : α → α → Bool) : List α → List α → Bool
  | [], [] => true
  | a :: t, b :: u => f a b && ys_all2 f t u
  | _, _ => false
theorem ys_all2_ok {α : Type} {f : α → α → Bool} (h : ∀ a b, f a b = true → a = b) : ∀ x y : List α, ys_all2 f x y = true → x = y := sorry
def ys_vE (a b : ys_V) : Bool := decide (a = b)
def ys_FE (a b : ys_F) : Bool := ys_all2 (ys_all2 ys_vE) a.1 b.1 && decide (a.2 = b.2)
theorem ys_FE_ok {a b : ys_F} (h : ys_FE a b = true) : a = b := sorry
def ys_lE (a b : Nat × ys_V) : Bool := decide (a.1 = b.1) && ys_vE a.2 b.2
theorem ys_lE_ok (a b : Nat × ys_V) (h : ys_lE a b = true) : a = b := sorry
def ys_atk (a : ArrayType) : Nat := match a with
  | .int => 0
  | .long => 1
  | .byte => 2
  | .boolean => 3
  | _ => 9
abbrev ys_Y : Type := Nat × Nat × List ys_C × Nat × ys_F × List (Nat × ys_V) × List ys_V
abbrev ys_X : Type := (ys_FL × List (Nat × Int) × List (Nat × Int) × List Nat) × (List (Nat × (Nat × Nat)) × List (Nat × (Nat × List ys_V)) × List (Nat × Nat) × List ArrayType) × (List (Nat × Nat) × List Nat × List (Nat × (ys_KN × Option String)))
def ys_shk (n : Nat) (sh : List ys_C) : Bool := sh.all (fun x => match x with
  | .inr a => decide (a.1 < n)
  | .inl _ => true)
/-- the frame of numbers: name, code, places, frames, places below, how many cells there may be -/
def ys_K0 (y : MethodName) (cc : ByteArray) (nL fr lo N : Nat) : ys_K := (((y, cc, nL, none), (fr, lo)), ([], ([], []), ([], [])), ([], List.range N))
def ys_icm (fr lo RC RS N kc kz : Nat) (sh : List ys_C) (fds : ys_F) (lv : List (Nat × ys_V)) (k0 : Nat) (sv : List ys_V) (idx : Nat) : List (Nat × (ys_KN × Option String)) → Option ys_KN
  | [] => none
  | q :: t => if q.1 = idx ∧ k0 = q.2.1.2.2.1 ∧ sh = q.2.1.2.2.2.1.1 ∧ ys_FE fds q.2.1.2.2.2.1.2 = true ∧ ys_z0 q.2.1.2.2.2.1.2.1 = true ∧ ys_z0 q.2.1.2.2.2.2.2.1 = true ∧ lv.all (fun q => ys_rfV sh.length q.2) = true ∧ sv.all (ys_rfV sh.length) = true ∧ (sv.map ys_cat).sum ≤ 8 ∧ q.2.1.2.1.1 + 1 ≤ fr ∧ 8 + (q.2.1.1.2.2 + 11) + q.2.1.2.1.2.1 ≤ lo ∧ kc + q.2.1.2.1.2.2.1 ≤ RC ∧ kz + q.2.1.2.1.2.2.2 ≤ RS ∧ q.2.1.2.2.2.2.1.length ≤ N then some q.2.1 else ys_icm fr lo RC RS N kc kz sh fds lv k0 sv idx t
def ys_YE (a b : ys_Y) : Bool := decide (a.1 = b.1) && (decide (a.2.1 = b.2.1) && (decide (a.2.2.1 = b.2.2.1) && (decide (a.2.2.2.1 = b.2.2.2.1) && (ys_FE a.2.2.2.2.1 b.2.2.2.2.1 && (ys_all2 ys_lE a.2.2.2.2.2.1 b.2.2.2.2.2.1 && ys_all2 ys_vE a.2.2.2.2.2.2 b.2.2.2.2.2.2)))))
theorem ys_YE_ok {a b : ys_Y} (h : ys_YE a b = true) : a = b := sorry
def ys_stN (X : ys_X) (y : MethodName) (cc : ByteArray) (nL fr lo RC RS N nt : Nat) (nx : Nat → Option (Instr × Nat)) (Y : ys_Y) (i : Instr) (len : Nat) : Option ys_Y := match Y with
  | (kc, kz, sh, pc, fds, lv, sv) => match i with
    | .new idx => (match X.2.1.2.1.lookup idx with
      | some (ci, row) => if len = 3 ∧ ys_rfS sh (([], []), fds, lv, sv) = true ∧ sh.length < N ∧ N ≤ 1000 ∧ kc + 1 ≤ RC ∧ kz + row.length ≤ RS then some (kc + 1, kz + row.length, sh ++ [.inl ci], pc + 3, (fds.1 ++ [row], fds.2 ++ [((0, 0), [])]), lv, .inr (some sh.length) :: sv) else none
      | none => none)
    | .newarray a => (match sv with
      | .inl (.inl ([], z)) :: t => if len = 2 ∧ 0 ≤ z ∧ z.toNat ≤ 100000 ∧ X.2.1.2.2.2.any (fun x => decide (x = a)) = true ∧ ys_atk a < 4 ∧ ys_rfS sh (([], []), fds, lv, .inl (.inl ([], ((z.toNat : Nat) : Int))) :: t) = true ∧ sh.length < N ∧ N ≤ 1000 ∧ kc + 1 ≤ RC ∧ kz + z.toNat ≤ RS then some (kc + 1, kz + z.toNat, sh ++ [.inr (ys_atk a, z.toNat, [])], pc + 2, (fds.1 ++ [[]], fds.2 ++ [((0, 0), [])]), lv, .inr (some sh.length) :: t) else none
      | _ => none)
    | .anewarray idx => (match sv, X.2.1.2.2.1.lookup idx with
      | .inl (.inl ([], z)) :: t, some kd => if len = 3 ∧ 0 ≤ z ∧ z.toNat ≤ 100000 ∧ ys_rfS sh (([], []), fds, lv, .inl (.inl ([], ((z.toNat : Nat) : Int))) :: t) = true ∧ sh.length < N ∧ N ≤ 1000 ∧ kc + 1 ≤ RC ∧ kz + z.toNat ≤ RS then some (kc + 1, kz + z.toNat, sh ++ [.inr (kd, z.toNat, [])], pc + 3, (fds.1 ++ [[]], fds.2 ++ [((0, 0), [])]), lv, .inr (some sh.length) :: t) else none
      | _, _ => none)
    | .aastore => (match sv with
      | .inr (some v) :: .inl (.inl ([], z)) :: .inr (some k0) :: t => (match sh[k0]?, sh[v]? with
        | some (.inr (kd, n, tg)), some (.inl ci) => if len = 1 ∧ z = ((tg.length : Nat) : Int) ∧ tg.length < n ∧ n ≤ 100000 ∧ X.2.2.1.contains (kd, ci) = true then some (kc, kz, sh.set k0 (.inr (kd, n, tg ++ [v])), pc + 1, fds, lv, t) else none
        | _, _ => none)
      | _ => none)
    | .invokespecial idx => (match sv with
      | .inr (some k0) :: t => if X.2.2.2.1.contains idx = true then (if len = 3 ∧ 1 ≤ fr ∧ (t.map ys_cat).sum + 12 ≤ lo then some (kc, kz, sh, pc + 3, fds, lv, t) else none) else (match ys_icm fr lo RC RS N kc kz sh fds lv k0 t idx X.2.2.2.2 with
        | some K => if len = 3 then some (kc + K.2.1.2.2.1, kz + K.2.1.2.2.2, K.2.2.2.2.1, pc + 3, K.2.2.2.2.2, lv, t) else none
        | none => none)
      | _ => none)
    | .putfield idx => (match X.2.1.1.lookup idx, sv with
      | some (ci, j), .inr (some v) :: .inr (some k0) :: t => if len = 3 ∧ sh[k0]? = some (.inl ci) ∧ j < (fds.1.getD k0 []).length then some (kc, kz, sh, pc + 3, (ys_fset fds.1 k0 j (.inr (some v)), fds.2), lv, t) else none
      | some _, _ => none
      | none, _ => (match ys_stp sh X.1.1 X.1.2.1 X.1.2.2.1 [] X.1.2.2.2 (ys_K0 y cc nL fr lo N) nx pc ([], []) fds lv sv (.putfield idx) len with
        | some [q] => if q.2.1 = ([], []) ∧ kc ≤ RC ∧ kz ≤ RS ∧ ys_shk nt sh = true then some (kc, kz, sh, q.1, q.2.2.1, q.2.2.2.1, q.2.2.2.2) else none
        | _ => none))
    | i => if ys_isr i = true then none else (match ys_stp sh X.1.1 X.1.2.1 X.1.2.2.1 [] X.1.2.2.2 (ys_K0 y cc nL fr lo N) nx pc ([], []) fds lv sv i len with
        | some [q] => if q.2.1 = ([], []) ∧ kc ≤ RC ∧ kz ≤ RS ∧ ys_shk nt sh = true then some (kc, kz, sh, q.1, q.2.2.1, q.2.2.2.1, q.2.2.2.2) else none
        | _ => none)
def ys_runN (X : ys_X) (y : MethodName) (cc : ByteArray) (nL fr lo RC RS N nt n0 : Nat) (nx : Nat → Option (Instr × Nat)) (Tg : ys_Y) : Nat → ys_Y → Bool
  | 0, _ => false
  | f + 1, Y => if Y.2.2.2.1 = Tg.2.2.2.1 then ys_YE Y Tg else (match nx Y.2.2.2.1 with
    | some (i, len) => decide (n0 ≤ Y.2.2.1.length) && (match ys_stN X y cc nL fr lo RC RS N nt nx Y i len with
      | some Y' => ys_runN X y cc nL fr lo RC RS N nt n0 nx Tg f Y'
      | none => false)
    | none => false)
/-- the kinds of arrays -/
def ys_TL (tyl : List FieldType) (tys : List (ClassId × FieldType)) (cT : Nat → ClassId) : Prop := (∀ (kd : Nat) (t : FieldType), tyl[kd]? = some t → tys[kd]? = some (cT kd, t)) ∧ tyl[0]? = some .int ∧ tyl[1]? = some .long ∧ tyl[2]? = some .byte ∧ tyl[3]? = some .boolean ∧ ∀ kd, 4 ≤ kd → kd < tyl.length → ∃ C, tyl[kd]? = some (.object C)
theorem ys_TL_ty {tyl : List FieldType} {tys : List (ClassId × FieldType)} {cT : Nat → ClassId} {sh : List ys_C} (h : ys_TL tyl tys cT) (hs : ys_shk tyl.length sh = true) : ys_Ty tys cT sh := sorry
section YNR
variable (l : Launch) (D : va_G) (cl : List vw_C) (cT : Nat → ClassId) (tys : List (ClassId × FieldType)) (G : List Cond) (NN : ys_NN) (AA : List String)
def ys_LN (tyl : List FieldType) (own : String) (Ts : List Cond) (X : ys_X) : Prop := ys_Lk own Ts cl X.1.1 X.1.2.1 X.1.2.2.1 X.1.2.2.2 ∧ (∀ q ∈ X.2.1.1, ys_Ff own Ts cl q.1 q.2.1 q.2.2) ∧ (∀ q ∈ X.2.1.2.1, ys_Nl own Ts cl q.1 q.2.1 q.2.2) ∧ (∀ q ∈ X.2.1.2.2.1, 4 ≤ q.2 ∧ ∃ C, tyl[q.2]? = some (.object C) ∧ Cond.classLink own q.1 C ∈ Ts ∧ C ∈ AA) ∧ (∀ a ∈ X.2.1.2.2.2, Cond.arrayClass (newarray.typeOf a) ∈ Ts) ∧ (∀ q ∈ X.2.2.1, 4 ≤ q.1 ∧ ∃ (C : String) (T : u_T) (N : Nat), cl[q.2]? = some (C, T, N) ∧ tyl[q.1]? = some (.object C)) ∧ (∀ i ∈ X.2.2.2.1, Cond.methodLink own i objectInit ∈ Ts ∧ Cond.instanceMethod objectInit ∈ Ts ∧ Cond.code objectInit ⟨#[0xb1]⟩ 1 none ∈ Ts) ∧ ∀ q ∈ X.2.2.2.2, ys_ConN l D cl cT tys G NN AA q.2.1 ∧ ys_CLN G NN own Ts q.1 q.2.1 q.2.2
end YNR
section YNZ
variable {p : Program} {l : Launch} {e : Env} {R : Room} {s : State} {m : MethodId} {args : Array Value} {below : List Frame} {meth : Method} {c : Code} {Q : State → Prop} {kc kz : Nat} {D : va_G} {cl : List vw_C} {cT : Nat → ClassId} {sh : List ys_C} {A : Nat → Prop} {H0 : Heap} {nL : Nat} {g0 : Nat → Nat → Int} {r0 : Nat → Int} {E : Nat} {pc : Nat} {fds : ys_F} {lv : List (Nat × ys_V)} {sv : List ys_V} {cc : ByteArray} {own : String} {Ts : List Cond} {tys : List (ClassId × FieldType)}
variable {n0 : Nat} {ad0 : Nat → Nat} {G : List Cond} {NN : ys_NN} {AA : List String} {X : ys_X} {tyl : List FieldType} {fr lo RC RS N : Nat} {y : MethodName} {nx : Nat → Option (Instr × Nat)}
theorem ys_icm_ok {k0 idx : Nat} {K : ys_KN} : ∀ (x : List (Nat × (ys_KN × Option String))), ys_icm fr lo RC RS N kc kz sh fds lv k0 sv idx x = some K → ∃ prv, (idx, (K, prv)) ∈ x ∧ k0 = K.2.2.1 ∧ sh = K.2.2.2.1.1 ∧ fds = K.2.2.2.1.2 ∧ ys_z0 K.2.2.2.1.2.1 = true ∧ ys_z0 K.2.2.2.2.2.1 = true ∧ lv.all (fun q => ys_rfV sh.length q.2) = true ∧ sv.all (ys_rfV sh.length) = true ∧ (sv.map ys_cat).sum ≤ 8 ∧ K.2.1.1 + 1 ≤ fr ∧ 8 + (K.1.2.2 + 11) + K.2.1.2.1 ≤ lo ∧ kc + K.2.1.2.2.1 ≤ RC ∧ kz + K.2.1.2.2.2 ≤ RS ∧ K.2.2.2.2.1.length ≤ N := sorry
theorem ys_genN {i : Instr} {len : Nat} {Y' : ys_Y} (S : CallFix p m c cc nL s args Ts own) (hK : va_K D cl tys s) (hA0 : ∀ q, H0.size ≤ q → A q) (hTL : ys_TL tyl tys cT) (hLk : ys_Lk own Ts cl X.1.1 X.1.2.1 X.1.2.2.1 X.1.2.2.2) (hR : fr ≤ R.frames ∧ lo ≤ R.locals ∧ RC ≤ R.cells ∧ RS ≤ R.slots) (hnx : ∀ pc i, nx pc = some i → decode cc pc = .ok i) (hd : decode cc pc = .ok (i, len)) (hi : ys_isr i = false)
    (hs : (match ys_stp sh X.1.1 X.1.2.1 X.1.2.2.1 [] X.1.2.2.2 (ys_K0 y cc nL fr lo N) nx pc ([], []) fds lv sv i len with
        | some [q] => if q.2.1 = ([], []) ∧ kc ≤ RC ∧ kz ≤ RS ∧ ys_shk tyl.length sh = true then some (kc, kz, sh, q.1, q.2.2.1, q.2.2.2.1, q.2.2.2.2) else none
        | _ => none) = some Y') (k : ys_N p l e R s m args below meth c Q D cl cT A H0 nL (List.range N) g0 r0 E n0 ad0 Y'.1 Y'.2.1 Y'.2.2.1 Y'.2.2.2.1 (([], []), Y'.2.2.2.2)) : ys_N p l e R s m args below meth c Q D cl cT A H0 nL (List.range N) g0 r0 E n0 ad0 kc kz sh pc (([], []), fds, lv, sv) := sorry
set_option maxHeartbeats 4000000 in
theorem ys_stN_ok {i : Instr} {len : Nat} {Y' : ys_Y} (S : CallFix p m c cc nL s args Ts own) (hin : meth.name = "<init>" ∨ X.2.1.1 = []) (hK : va_K D cl tys s) (hNW : ys_NW NN AA s) (hA0 : ∀ q, H0.size ≤ q → A q) (hTL : ys_TL tyl tys cT) (hLN : ys_LN l D cl cT tys G NN AA tyl own Ts X) (hR : fr ≤ R.frames ∧ lo ≤ R.locals ∧ RC ≤ R.cells ∧ RS ≤ R.slots) (hnx : ∀ pc i, nx pc = some i → decode cc pc = .ok i) (hd : decode cc pc = .ok (i, len)) (hn0 : n0 ≤ sh.length)
    (hs : ys_stN X y cc nL fr lo RC RS N tyl.length nx (kc, kz, sh, pc, fds, lv, sv) i len = some Y') (k : ys_N p l e R s m args below meth c Q D cl cT A H0 nL (List.range N) g0 r0 E n0 ad0 Y'.1 Y'.2.1 Y'.2.2.1 Y'.2.2.2.1 (([], []), Y'.2.2.2.2)) : ys_N p l e R s m args below meth c Q D cl cT A H0 nL (List.range N) g0 r0 E n0 ad0 kc kz sh pc (([], []), fds, lv, sv) := sorry
theorem ys_runN_ok {Tg : ys_Y} (S : CallFix p m c cc nL s args Ts own) (hin : meth.name = "<init>" ∨ X.2.1.1 = []) (hK : va_K D cl tys s) (hNW : ys_NW NN AA s) (hA0 : ∀ q, H0.size ≤ q → A q) (hTL : ys_TL tyl tys cT) (hLN : ys_LN l D cl cT tys G NN AA tyl own Ts X) (hR : fr ≤ R.frames ∧ lo ≤ R.locals ∧ RC ≤ R.cells ∧ RS ≤ R.slots) (hnx : ∀ pc i, nx pc = some i → decode cc pc = .ok i)
    (k : ys_N p l e R s m args below meth c Q D cl cT A H0 nL (List.range N) g0 r0 E n0 ad0 Tg.1 Tg.2.1 Tg.2.2.1 Tg.2.2.2.1 (([], []), Tg.2.2.2.2)) : ∀ (f : Nat) (Y : ys_Y), ys_runN X y cc nL fr lo RC RS N tyl.length n0 nx Tg f Y = true → ys_N p l e R s m args below meth c Q D cl cT A H0 nL (List.range N) g0 r0 E n0 ad0 Y.1 Y.2.1 Y.2.2.1 Y.2.2.2.1 (([], []), Y.2.2.2.2) := sorry
end YNZ
/-- a constructor, from its code -/
def ys_chkN (X : ys_X) (K : ys_KN) (code : List (Nat × (Instr × Nat))) (pcR : Nat) (lvR : List (Nat × ys_V)) (nt f : Nat) : Bool := decide (code.lookup pcR = some (.return_, 1)) && (decide (1 ≤ K.1.2.2) && (ys_z0 K.2.2.2.1.2.1 && (ys_z0 K.2.2.2.2.2.1 && ys_runN X K.1.1 K.1.2.1 K.1.2.2 K.2.1.1 K.2.1.2.1 K.2.1.2.2.1 K.2.1.2.2.2 K.2.2.2.2.1.length nt K.2.2.2.1.1.length (fun pc => code.lookup pc) (K.2.1.2.2.1, K.2.1.2.2.2, K.2.2.2.2.1, pcR, K.2.2.2.2.2, lvR, []) f (0, 0, K.2.2.2.1.1, 0, K.2.2.2.1.2, [(0, .inr (some K.2.2.1))], []))))
theorem ys_ctor {l : Launch} {D : va_G} {cl : List vw_C} {cT : Nat → ClassId} {tys : List (ClassId × FieldType)} {G : List Cond} {NN : ys_NN} {AA : List String} {tyl : List FieldType} {X : ys_X} {K : ys_KN} {code : List (Nat × (Instr × Nat))} {pcR : Nat} {lvR : List (Nat × ys_V)} (f : Nat) (hy : plainName K.1.1.cls = true) (hin : K.1.1.name = "<init>") (hcode : ∀ q ∈ code, decode K.1.2.1 q.1 = .ok q.2) (hTL : ys_TL tyl tys cT) (hLN : ys_LN l D cl cT tys G NN AA tyl K.1.1.cls (ys_wsN G K) X) (hchk : ys_chkN X K code pcR lvR tyl.length f = true) : ys_ConN l D cl cT tys G NN AA K := sorry
