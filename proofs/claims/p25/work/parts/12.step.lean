/-! one step, whatever the instruction -/
def ys_cfo32 (op : Int32 → Int32 → Int32) (F : ys_B → ys_L → ys_L → Option (ys_B × ys_L)) (b : ys_B) (x y : ys_L) : Option (ys_B × ys_L) := match x.1, y.1 with
  | [], [] => some (b, ([], (op (Int32.ofInt x.2) (Int32.ofInt y.2)).toInt))
  | _, _ => F b x y
def ys_cfo64 (op : Int64 → Int64 → Int64) (F : ys_B → ys_L → ys_L → Option (ys_B × ys_L)) (b : ys_B) (x y : ys_L) : Option (ys_B × ys_L) := match x.1, y.1 with
  | [], [] => some (b, ([], (op (Int64.ofInt x.2) (Int64.ofInt y.2)).toInt))
  | _, _ => F b x y
def ys_cfoLI (op : Int64 → Int32 → Int64) (F : ys_B → ys_L → ys_L → Option (ys_B × ys_L)) (b : ys_B) (x y : ys_L) : Option (ys_B × ys_L) := match x.1, y.1 with
  | [], [] => some (b, ([], (op (Int64.ofInt x.2) (Int32.ofInt y.2)).toInt))
  | _, _ => F b x y
theorem ys_cfo32_ok {op : Int32 → Int32 → Int32} {F : ys_B → ys_L → ys_L → Option (ys_B × ys_L)} (h : ys_B32 F op (fun _ => True)) : ys_B32 (ys_cfo32 op F) op (fun _ => True) := sorry
theorem ys_cfo64_ok {op : Int64 → Int64 → Int64} {F : ys_B → ys_L → ys_L → Option (ys_B × ys_L)} (h : ys_B64 F op (fun _ => True)) : ys_B64 (ys_cfo64 op F) op (fun _ => True) := sorry
theorem ys_cfoLI_ok {op : Int64 → Int32 → Int64} {F : ys_B → ys_L → ys_L → Option (ys_B × ys_L)} (h : ys_BLI F op) : ys_BLI (ys_cfoLI op F) op := sorry
def ys_g1 {α : Type} (n k : Nat) (x : Option α) : Option α := if n = k then x else none
theorem ys_g1_ok {α : Type} {n k : Nat} {x : Option α} {y : α} (h : ys_g1 n k x = some y) : n = k ∧ x = some y := sorry
abbrev ys_CA : Type := List ((Nat × Bool) × ys_K)
def ys_hinv (fr lo : Nat) (mods : List Nat) (idx : Nat) (st : Bool) (pc : Nat) (b : ys_B) (fds : ys_F) (lv : List (Nat × ys_V)) (sv : List ys_V) : ys_CA → Option (List (Nat × ys_S))
  | [] => none
  | q :: t => if q.1 = (idx, st) then (match ys_hcall fr lo mods q.2 pc b fds lv sv with
    | some x => some x
    | none => ys_hinv fr lo mods idx st pc b fds lv sv t) else ys_hinv fr lo mods idx st pc b fds lv sv t
def ys_hldc (tab : List (Nat × Int)) (idx : Nat) (w : Bool) (pc : Nat) (b : ys_B) (fds : ys_F) (lv : List (Nat × ys_V)) (sv : List ys_V) : Option (List (Nat × ys_S)) := match tab.lookup idx with
  | some z => some [(pc, b, fds, lv, (if w then .inl (.inr ([], z)) else .inl (.inl ([], z))) :: sv)]
  | none => none
def ys_iret (K : ys_K) (b : ys_B) (fds : ys_F) (sv : List ys_V) : Option (List (Nat × ys_S)) := match sv with
  | [.inl (.inl x)] => if (decide (K.1.1.2.2.2 = some .int) || (decide (K.1.1.2.2.2 = some .boolean) && (ys_geb b.1 x 0 && ys_geb b.1 (ys_scale (-1) x) (-1)))) && ys_hret K.2.1.2.1.1.length K b fds (some (.inl (.inl x))) then some [] else none
  | _ => none
def ys_lret (K : ys_K) (b : ys_B) (fds : ys_F) (sv : List ys_V) : Option (List (Nat × ys_S)) := match sv with
  | [.inl (.inr x)] => if decide (K.1.1.2.2.2 = some .long) && ys_hret K.2.1.2.1.1.length K b fds (some (.inl (.inr x))) then some [] else none
  | _ => none
def ys_vret (K : ys_K) (b : ys_B) (fds : ys_F) (sv : List ys_V) : Option (List (Nat × ys_S)) := match sv with
  | [] => if decide (K.1.1.2.2.2 = none) && ys_hret K.2.1.2.1.1.length K b fds none then some [] else none
  | _ => none
def ys_or {α : Type} (x y : Option α) : Option α := match x with
  | some z => some z
  | none => y
def ys_stp (sh : List ys_C) (fl : ys_FL) (ci cj : List (Nat × Int)) (calls : ys_CA) (cps : List Nat) (K : ys_K) (nx : Nat → Option (Instr × Nat)) (pc : Nat) (b : ys_B) (fds : ys_F) (lv : List (Nat × ys_V)) (sv : List ys_V) (i : Instr) (n : Nat) : Option (List (Nat × ys_S)) := match i with
  | .iconst z => ys_g1 n 1 (ys_hpush (pc + 1) b fds lv sv (.inl (.inl ([], z))))
  | .lconst z => ys_g1 n 1 (ys_hpush (pc + 1) b fds lv sv (.inl (.inr ([], ((z : Nat) : Int)))))
  | .bipush z => if -128 ≤ z ∧ z ≤ 127 then ys_g1 n 2 (ys_hpush (pc + 2) b fds lv sv (.inl (.inl ([], z)))) else none
  | .sipush z => if -32768 ≤ z ∧ z ≤ 32767 then ys_g1 n 3 (ys_hpush (pc + 3) b fds lv sv (.inl (.inl ([], z)))) else none
  | .ldc k => ys_g1 n 2 (ys_hldc ci k false (pc + 2) b fds lv sv)
  | .ldc_w k => ys_g1 n 3 (ys_hldc ci k false (pc + 3) b fds lv sv)
  | .ldc2_w k => ys_g1 n 3 (ys_hldc cj k true (pc + 3) b fds lv sv)
  | .iload_n k => ys_g1 n 1 (ys_hload 0 k (pc + 1) b fds lv sv)
  | .iload k => ys_g1 n 2 (ys_hload 0 k (pc + 2) b fds lv sv)
  | .lload_n k => ys_g1 n 1 (ys_hload 1 k (pc + 1) b fds lv sv)
  | .lload k => ys_g1 n 2 (ys_hload 1 k (pc + 2) b fds lv sv)
  | .aload_n k => ys_g1 n 1 (ys_hload 2 k (pc + 1) b fds lv sv)
  | .aload k => ys_g1 n 2 (ys_hload 2 k (pc + 2) b fds lv sv)
  | .istore_n k => ys_g1 n 1 (ys_hstore 0 K.1.1.2.2.1 k (pc + 1) b fds lv sv)
  | .istore k => ys_g1 n 2 (ys_hstore 0 K.1.1.2.2.1 k (pc + 2) b fds lv sv)
  | .lstore_n k => ys_g1 n 1 (ys_hstore 1 K.1.1.2.2.1 k (pc + 1) b fds lv sv)
  | .lstore k => ys_g1 n 2 (ys_hstore 1 K.1.1.2.2.1 k (pc + 2) b fds lv sv)
  | .astore_n k => ys_g1 n 1 (ys_hstore 2 K.1.1.2.2.1 k (pc + 1) b fds lv sv)
  | .astore k => ys_g1 n 2 (ys_hstore 2 K.1.1.2.2.1 k (pc + 2) b fds lv sv)
  | .iinc k z => ys_g1 n 3 (ys_hinc K.1.1.2.2.1 k z pc b fds lv sv)
  | .iadd => ys_g1 n 1 (ys_hb32 (ys_fadd false) pc b fds lv sv)
  | .isub => ys_g1 n 1 (ys_hb32 (ys_fsub false) pc b fds lv sv)
  | .imul => ys_g1 n 1 (ys_hb32 (ys_fmul false) pc b fds lv sv)
  | .iand => ys_g1 n 1 (ys_hb32 (ys_cfo32 (fun x y => x &&& y) (ys_fand false)) pc b fds lv sv)
  | .ior => ys_g1 n 1 (ys_hb32 (ys_cfo32 (fun x y => x ||| y) ys_for) pc b fds lv sv)
  | .ixor => ys_g1 n 1 (ys_hb32 (ys_cfo32 (fun x y => x ^^^ y) ys_fxor) pc b fds lv sv)
  | .ishl => ys_g1 n 1 (ys_hb32 (ys_cfo32 (fun x y => x <<< (y &&& 31)) (ys_fshl false)) pc b fds lv sv)
  | .ishr => ys_g1 n 1 (ys_hb32 (ys_cfo32 (fun x y => x >>> (y &&& 31)) ys_fshr) pc b fds lv sv)
  | .iushr => ys_g1 n 1 (ys_hb32 (ys_cfo32 (fun x y => (x.toUInt32 >>> (y.toUInt32 &&& Int32.toUInt32 31)).toInt32) (ys_fany false)) pc b fds lv sv)
  | .idiv => ys_g1 n 1 (ys_hqs (ys_fdiv false) pc b fds lv sv)
  | .irem => ys_g1 n 1 (ys_hqs (ys_frem false) pc b fds lv sv)
  | .ineg => ys_g1 n 1 (ys_hu32 (ys_fneg false) pc b fds lv sv)
  | .i2b => ys_g1 n 1 (ys_hu32 (ys_fcut 7) pc b fds lv sv)
  | .i2s => ys_g1 n 1 (ys_hu32 (ys_fcut 15) pc b fds lv sv)
  | .i2l => ys_g1 n 1 (ys_hi2l pc b fds lv sv)
  | .l2i => ys_g1 n 1 (ys_hl2i pc b fds lv sv)
  | .ladd => ys_g1 n 1 (ys_hb64 (ys_fadd true) pc b fds lv sv)
  | .lsub => ys_g1 n 1 (ys_hb64 (ys_fsub true) pc b fds lv sv)
  | .lmul => ys_g1 n 1 (ys_hb64 (ys_fmul true) pc b fds lv sv)
  | .land => ys_g1 n 1 (ys_hb64 (ys_cfo64 (fun x y => x &&& y) (ys_fand true)) pc b fds lv sv)
  | .lor => ys_g1 n 1 (ys_hb64 (ys_cfo64 (fun x y => x ||| y) (ys_fany true)) pc b fds lv sv)
  | .lxor => ys_g1 n 1 (ys_hb64 (ys_cfo64 (fun x y => x ^^^ y) (ys_fany true)) pc b fds lv sv)
  | .ldiv => ys_g1 n 1 (ys_hb64 (ys_fdiv true) pc b fds lv sv)
  | .lrem => ys_g1 n 1 (ys_hb64 (ys_frem true) pc b fds lv sv)
  | .lneg => ys_g1 n 1 (ys_hu64 (ys_fneg true) pc b fds lv sv)
  | .lshl => ys_g1 n 1 (ys_hbLI (ys_cfoLI (fun x y => x <<< (y.toInt64 &&& 63)) (ys_fshl true)) pc b fds lv sv)
  | .lshr => ys_g1 n 1 (ys_hbLI (ys_cfoLI (fun x y => x >>> (y.toInt64 &&& 63)) (ys_fany true)) pc b fds lv sv)
  | .lushr => ys_g1 n 1 (ys_hbLI (ys_cfoLI (fun x y => (x.toUInt64 >>> (y.toInt64.toUInt64 &&& Int64.toUInt64 63)).toInt64) (ys_fany true)) pc b fds lv sv)
  | .lcmp => ys_g1 n 1 (ys_hlcmp (nx (pc + 1)) pc b fds lv sv)
  | .if_icmp cd off => ys_g1 n 3 (ys_hcmp cd off pc b fds lv sv)
  | .ifCond cd off => ys_g1 n 3 (ys_hif cd off pc b fds lv sv)
  | .goto off => ys_g1 n 3 (ys_hgoto off pc b fds lv sv)
  | .tableswitch dflt lo hi offs => ys_htab dflt lo hi offs pc b fds lv sv
  | .lookupswitch dflt ps => ys_hlook dflt ps pc b fds lv sv
  | .dup => ys_g1 n 1 (ys_hdup pc b fds lv sv)
  | .dup2 => ys_g1 n 1 (ys_hdup2 pc b fds lv sv)
  | .pop => ys_g1 n 1 (ys_hpop pc b fds lv sv)
  | .pop2 => ys_g1 n 1 (ys_hpop2 pc b fds lv sv)
  | .getfield k => ys_g1 n 3 (ys_hget sh fl k pc b fds lv sv)
  | .putfield k => ys_g1 n 3 (ys_hput sh fl k pc b fds lv sv)
  | .iaload => ys_g1 n 1 (ys_hiald sh pc b fds lv sv)
  | .laload => ys_g1 n 1 (ys_hlald sh pc b fds lv sv)
  | .baload => ys_g1 n 1 (ys_or (ys_hbald sh pc b fds lv sv) (ys_hzald sh pc b fds lv sv))
  | .aaload => ys_g1 n 1 (ys_haald sh pc b fds lv sv)
  | .iastore => ys_g1 n 1 (ys_hiast sh K.2.2.2 pc b fds lv sv)
  | .lastore => ys_g1 n 1 (ys_hlast sh K.2.2.2 pc b fds lv sv)
  | .bastore => ys_g1 n 1 (ys_or (ys_hbast sh K.2.2.2 pc b fds lv sv) (ys_hzast sh K.2.2.2 pc b fds lv sv))
  | .arraylength => ys_g1 n 1 (ys_halen sh pc b fds lv sv)
  | .invokevirtual k => ys_g1 n 3 (ys_hinv K.1.2.1 K.1.2.2 K.2.2.2 k false pc b fds lv sv calls)
  | .invokestatic k => if 100000 ≤ k then none else if cps.contains k && decide (1 ≤ K.1.2.1) then ys_g1 n 3 (ys_hcopy K.1.2.2 sh K.2.2.2 pc b fds lv sv) else if cps.contains (100000 + k) then ys_g1 n 3 (ys_hmm true K.1.2.1 K.1.2.2 pc b fds lv sv) else if cps.contains (200000 + k) then ys_g1 n 3 (ys_hmm false K.1.2.1 K.1.2.2 pc b fds lv sv) else ys_g1 n 3 (ys_hinv K.1.2.1 K.1.2.2 K.2.2.2 k true pc b fds lv sv calls)
  | .ireturn => ys_g1 n 1 (ys_iret K b fds sv)
  | .lreturn => ys_g1 n 1 (ys_lret K b fds sv)
  | .return_ => ys_g1 n 1 (ys_vret K b fds sv)
  | _ => none
def ys_Ty (tys : List (ClassId × FieldType)) (cT : Nat → ClassId) (sh : List ys_C) : Prop := tys[0]? = some (cT 0, .int) ∧ tys[1]? = some (cT 1, .long) ∧ tys[2]? = some (cT 2, .byte) ∧ tys[3]? = some (cT 3, .boolean) ∧ (∀ (k : Nat) (y : Nat × Nat × List Nat), sh[k]? = some (.inr y) → ∃ t, tys[y.1]? = some (cT y.1, t)) ∧ ∀ (k : Nat) (y : Nat × Nat × List Nat), sh[k]? = some (.inr y) → 4 ≤ y.1 → ∃ C, tys[y.1]? = some (cT y.1, .object C)
/-- what the code's links say -/
def ys_Lk (own : String) (Ts : List Cond) (cl : List vw_C) (fl : ys_FL) (ci cj : List (Nat × Int)) (cps : List Nat) : Prop := (∀ idx c j tk, fl.lookup idx = some (c, j, tk) → ys_Fl own Ts cl idx c j tk) ∧ (∀ idx z, ci.lookup idx = some z → Cond.constant own idx (Int32.ofInt z) ∈ Ts) ∧ (∀ idx z, cj.lookup idx = some z → Cond.constantLong own idx (Int64.ofInt z) ∈ Ts) ∧ ∀ v, v ∈ cps → ys_Cp own Ts v
section YSD
variable {p : Program} {l : Launch} {e : Env} {R : Room} {s : State} {m : MethodId} {args : Array Value} {below : List Frame} {meth : Method} {c : Code} {Q : State → Prop} {kc kz : Nat} {D : va_G} {cl : List vw_C} {ad : Nat → Nat} {cT : Nat → ClassId} {sh : List ys_C} {A : Nat → Prop} {H0 : Heap} {nL : Nat} {mods : List Nat} {g0 : Nat → Nat → Int} {r0 : Nat → Int} {E : Nat} {pc : Nat} {b : ys_B} {fds : ys_F} {lv : List (Nat × ys_V)} {sv : List ys_V} {succ : List (Nat × ys_S)} {cc : ByteArray} {own : String} {Ts : List Cond} {tys : List (ClassId × FieldType)}
variable {G : List Cond} {K : ys_K} {fl : ys_FL} {ci cj : List (Nat × Int)} {calls : ys_CA} {cps : List Nat} {nx : Nat → Option (Instr × Nat)} {rr : Nat → Int}
theorem ys_kinv {idx : Nat} {st : Bool} {fr lo : Nat} (S : CallFix p m c cc nL s args Ts own) (hK : va_K D cl tys s) (hA0 : ∀ q, H0.size ≤ q → A q) (hfr : fr ≤ R.frames) (hlo : lo ≤ R.locals) (hkk : kc ≤ R.cells ∧ kz ≤ R.slots) (hd : decode cc pc = .ok (if st = true then .invokestatic idx else .invokevirtual idx, 3)) (k : ∀ q ∈ succ, ys_W p l e R s m args below meth c Q kc kz D cl ad cT sh A H0 nL mods g0 r0 E q.1 q.2) : ∀ (cs : ys_CA), (∀ q ∈ cs, ys_Con l D cl ad cT sh tys G q.2 ∧ ys_CL own Ts cl sh G (if q.1.2 = true then .invokestatic q.1.1 else .invokevirtual q.1.1) q.2) → ys_hinv fr lo mods idx st pc b fds lv sv cs = some succ → ys_W p l e R s m args below meth c Q kc kz D cl ad cT sh A H0 nL mods g0 r0 E pc (b, fds, lv, sv) := sorry
theorem ys_bip {z : Int} (h1 : -128 ≤ z) (h2 : z ≤ 127) : (Int8.ofInt z).toInt32 = Int32.ofInt z := sorry
theorem ys_sip {z : Int} (h1 : -32768 ≤ z) (h2 : z ≤ 32767) : (Int16.ofInt z).toInt32 = Int32.ofInt z := sorry
theorem ys_ev0 (r : Nat → Int) (z : Int) : ys_ev r (([], z) : ys_L) = z := sorry
theorem ys_or_ok {α : Type} {x y : Option α} {z : α} (h : ys_or x y = some z) : x = some z ∨ y = some z := sorry
def ys_isr (i : Instr) : Bool := match i with
  | .ireturn => true
  | .lreturn => true
  | .return_ => true
  | _ => false
set_option maxHeartbeats 4000000 in
theorem ys_stp_gen {i : Instr} {n : Nat} (S : CallFix p m c cc nL s args Ts own) (hnL : K.1.1.2.2.1 = nL) (hmods : K.2.2.2 = mods) (hfr : K.1.2.1 ≤ R.frames) (hlo : K.1.2.2 ≤ R.locals) (hkk : kc ≤ R.cells ∧ kz ≤ R.slots) (hA0 : ∀ q, H0.size ≤ q → A q) (hK : va_K D cl tys s) (hty : ys_Ty tys cT sh) (hLk : ys_Lk own Ts cl fl ci cj cps) (hcalls : ∀ q ∈ calls, ys_Con l D cl ad cT sh tys G q.2 ∧ ys_CL own Ts cl sh G (if q.1.2 = true then .invokestatic q.1.1 else .invokevirtual q.1.1) q.2) (hnx : ∀ pc i, nx pc = some i → decode cc pc = .ok i) (hd : decode cc pc = .ok (i, n))
    (hs : ys_stp sh fl ci cj calls cps K nx pc b fds lv sv i n = some succ) (hret : ys_isr i = true → ys_W p l e R s m args below meth c Q kc kz D cl ad cT sh A H0 nL mods g0 r0 E pc (b, fds, lv, sv))
    (k : ∀ q ∈ succ, ys_W p l e R s m args below meth c Q kc kz D cl ad cT sh A H0 nL mods g0 r0 E q.1 q.2) : ys_W p l e R s m args below meth c Q kc kz D cl ad cT sh A H0 nL mods g0 r0 E pc (b, fds, lv, sv) := sorry
set_option maxHeartbeats 4000000 in
theorem ys_stp_ok {{i : Instr}} {{n : Nat}} (S : CallFix p m c K.1.1.2.1 K.1.1.2.2.1 s args (ys_ws G K) own) (hr : meth.sig.returnType = K.1.1.2.2.2) (hlocks : meth.locks = false) (hK : va_K D cl tys s) (hty : ys_Ty tys cT sh) (hLk : ys_Lk own (ys_ws G K) cl fl ci cj cps) (hcalls : ∀ q ∈ calls, ys_Con l D cl ad cT sh tys G q.2 ∧ ys_CL own (ys_ws G K) cl sh G (if q.1.2 = true then .invokestatic q.1.1 else .invokevirtual q.1.1) q.2) (hnx : ∀ pc i, nx pc = some i → decode K.1.1.2.1 pc = .ok i) (hE : K.2.1.2.1.1.length ≤ E) (hrr : ∀ i, i < K.2.1.2.1.1.length → r0 i = rr i) (hd : decode K.1.1.2.1 pc = .ok (i, n))
    (hs : ys_stp sh fl ci cj calls cps K nx pc b fds lv sv i n = some succ)
    (k : ∀ q ∈ succ, ys_W p l e (ys_rm K) s m args below meth c (MQ below (ys_Post D cl ad cT sh tys K rr g0 s.heap.size) args s 0 0 (va_A (ys_wK ad cT sh K rr g0) s.heap.size)) 0 0 D cl ad cT sh (va_A (ys_wK ad cT sh K rr g0) s.heap.size) s.heap K.1.1.2.2.1 K.2.2.2 g0 r0 E q.1 q.2) :
    ys_W p l e (ys_rm K) s m args below meth c (MQ below (ys_Post D cl ad cT sh tys K rr g0 s.heap.size) args s 0 0 (va_A (ys_wK ad cT sh K rr g0) s.heap.size)) 0 0 D cl ad cT sh (va_A (ys_wK ad cT sh K rr g0) s.heap.size) s.heap K.1.1.2.2.1 K.2.2.2 g0 r0 E pc (b, fds, lv, sv) := sorry
end YSD

