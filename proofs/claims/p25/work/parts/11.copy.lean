/-! copying arrays; the end of a method -/
def ys_alh : List (Nat × (Int × Int)) → Int × Int → Int × Int
  | [], q => q
  | x :: t, q => ys_alh t (ys_hul q x.2)
theorem ys_alh_acc {z : Int} : ∀ (l : List (Nat × (Int × Int))) (q : Int × Int), q.1 ≤ z ∧ z ≤ q.2 → (ys_alh l q).1 ≤ z ∧ z ≤ (ys_alh l q).2 := sorry
theorem ys_alh_in {z : Int} {n : Nat} {w : Int × Int} (hw : w.1 ≤ z ∧ z ≤ w.2) : ∀ (l : List (Nat × (Int × Int))) (q : Int × Int), l.lookup n = some w → (ys_alh l q).1 ≤ z ∧ z ≤ (ys_alh l q).2 := sorry
theorem ys_alh_ok {a : ys_R} {f : Nat → Int} (ha : ys_rok a f) (j : Nat) : (ys_alh a.2 a.1).1 ≤ f j ∧ f j ≤ (ys_alh a.2 a.1).2 := sorry
/-- a part of an array: from x on, n of them -/
def ys_prt (b : ys_B) (x n : ys_L) (len : Nat) : Bool := ys_inr false b.1 x && (ys_inr false b.1 n && (ys_ge b.1 b.2 2 x && (ys_ge b.1 b.2 2 n && ys_ge b.1 b.2 2 (ys_sub (ys_sub ([], (len : Int)) x) n))))
theorem ys_prt_ok {r : Nat → Int} {b : ys_B} (h : ys_okB r b) {x n : ys_L} {len : Nat} (hc : ys_prt b x n len = true) : ¬ Int32.ofInt (ys_ev r x) < 0 ∧ ¬ Int32.ofInt (ys_ev r n) < 0 ∧ (Int32.ofInt (ys_ev r x)).toNatClampNeg + (Int32.ofInt (ys_ev r n)).toNatClampNeg ≤ len := sorry
def ys_ncw : Nat := nativeFrameWords "java/lang/System" "arraycopy" 5 + 11
def ys_hcopy (lo : Nat) (sh : List ys_C) (mods : List Nat) (pc : Nat) (b : ys_B) (fds : ys_F) (lv : List (Nat × ys_V)) (sv : List ys_V) : Option (List (Nat × ys_S)) := match sv with
  | .inl (.inl n) :: .inl (.inl dp) :: .inr (some kd) :: .inl (.inl sp) :: .inr (some ks) :: t => (match sh[kd]?, sh[ks]?, fds.2[kd]?, fds.2[ks]? with
    | some (.inr yd), some (.inr ys), some ad, some as => if (decide (yd.1 = 0) || decide (yd.1 = 1)) && (decide (ys.1 = yd.1) && (ys_prt b dp n yd.2.1 && (ys_prt b sp n ys.2.1 && (decide (kd ∈ mods) && decide ((t.map ys_cat).sum + ys_ncw ≤ lo))))) then some [(pc + 3, b, (fds.1, fds.2.set kd (ys_hul (ys_alh ad.2 ad.1) (ys_alh as.2 as.1), [])), lv, t)] else none
    | _, _, _, _ => none)
  | _ => none
def ys_gcp (g : Nat → Nat → Int) (ks kd sp dp n : Nat) : Nat → Nat → Int := fun i => if i = kd then va_cpy (g ks) (g kd) sp dp n else g i
section YSP
variable {p : Program} {l : Launch} {e : Env} {R : Room} {s : State} {m : MethodId} {args : Array Value} {below : List Frame} {meth : Method} {c : Code} {Q : State → Prop} {kc kz : Nat} {D : va_G} {cl : List vw_C} {ad : Nat → Nat} {cT : Nat → ClassId} {sh : List ys_C} {A : Nat → Prop} {H0 : Heap} {nL : Nat} {mods : List Nat} {g0 : Nat → Nat → Int} {r0 : Nat → Int} {E : Nat} {pc : Nat} {b : ys_B} {fds : ys_F} {lv : List (Nat × ys_V)} {sv : List ys_V} {succ : List (Nat × ys_S)} {cc : ByteArray} {own : String} {Ts : List Cond} {tys : List (ClassId × FieldType)}
variable {G : List Cond} {K : ys_K}
theorem ys_kcopy {idx lo : Nat} (hexec : p.tables.exec = Jvm.exec) (hb : c.code = cc) (hml : c.maxLocals = nL) (hts : ∀ w ∈ Ts, w.before args s = true) (hown : s.vm.findClass own = some m.cls) (hK : va_K D cl tys s) (hty0 : tys[0]? = some (cT 0, .int)) (hty1 : tys[1]? = some (cT 1, .long)) (hfr : 1 ≤ R.frames) (hlo : lo ≤ R.locals) (hw1 : Cond.methodLink own idx arraycopyName ∈ Ts) (hw2 : Cond.native arraycopyName ∈ Ts) (hw3 : Cond.static arraycopyName ∈ Ts) (hw4 : Cond.initialized "java/lang/System" ∈ Ts) (hd : decode cc pc = .ok (.invokestatic idx, 3)) (hs : ys_hcopy lo sh mods pc b fds lv sv = some succ) (k : ∀ q ∈ succ, ys_W p l e R s m args below meth c Q kc kz D cl ad cT sh A H0 nL mods g0 r0 E q.1 q.2) : ys_W p l e R s m args below meth c Q kc kz D cl ad cT sh A H0 nL mods g0 r0 E pc (b, fds, lv, sv) := sorry
end YSP
/-- the greater, the lesser of two -/
def ys_hmm (mx : Bool) (fr lo : Nat) (pc : Nat) (b : ys_B) (fds : ys_F) (lv : List (Nat × ys_V)) (sv : List ys_V) : Option (List (Nat × ys_S)) := match sv with
  | .inl (.inl y) :: .inl (.inl x) :: t => if ys_inr false b.1 x && (ys_inr false b.1 y && (decide (1 ≤ fr) && decide ((t.map ys_cat).sum + 13 ≤ lo))) then some (match mx with
    | true => ys_br (pc + 3) b [ys_add (ys_sub y x) ([], -1)] (fds, lv, .inl (.inl y) :: t) ++ ys_br (pc + 3) b [ys_sub x y] (fds, lv, .inl (.inl x) :: t)
    | false => ys_br (pc + 3) b [ys_add (ys_sub x y) ([], -1)] (fds, lv, .inl (.inl y) :: t) ++ ys_br (pc + 3) b [ys_sub y x] (fds, lv, .inl (.inl x) :: t)) else none
  | _ => none
/-- what the links of the library's own say: a number below 100000 a copy, 100000 on the greater, 200000 on the lesser -/
def ys_Cp (own : String) (Ts : List Cond) (v : Nat) : Prop := match v / 100000 with
  | 0 => Cond.methodLink own v arraycopyName ∈ Ts ∧ Cond.native arraycopyName ∈ Ts ∧ Cond.static arraycopyName ∈ Ts ∧ Cond.initialized "java/lang/System" ∈ Ts
  | 1 => Cond.methodLink own (v - 100000) Lib.Math.max.name ∈ Ts ∧ Cond.static Lib.Math.max.name ∈ Ts ∧ Cond.initialized "java/lang/Math" ∈ Ts ∧ Cond.code Lib.Math.max.name Lib.Math.max.code 2 (some .int) ∈ Ts
  | 2 => Cond.methodLink own (v - 200000) Lib.Math.min.name ∈ Ts ∧ Cond.static Lib.Math.min.name ∈ Ts ∧ Cond.initialized "java/lang/Math" ∈ Ts ∧ Cond.code Lib.Math.min.name Lib.Math.min.code 2 (some .int) ∈ Ts
  | _ => False
section YSG
variable {p : Program} {l : Launch} {e : Env} {R : Room} {s : State} {m : MethodId} {args : Array Value} {below : List Frame} {meth : Method} {c : Code} {Q : State → Prop} {kc kz : Nat} {D : va_G} {cl : List vw_C} {ad : Nat → Nat} {cT : Nat → ClassId} {sh : List ys_C} {A : Nat → Prop} {H0 : Heap} {nL : Nat} {mods : List Nat} {g0 : Nat → Nat → Int} {r0 : Nat → Int} {E : Nat} {pc : Nat} {b : ys_B} {fds : ys_F} {lv : List (Nat × ys_V)} {sv : List ys_V} {succ : List (Nat × ys_S)} {cc : ByteArray} {own : String} {Ts : List Cond} {tys : List (ClassId × FieldType)}
theorem ys_kmm {idx fr lo : Nat} {mx : Bool} (hexec : p.tables.exec = Jvm.exec) (hb : c.code = cc) (hml : c.maxLocals = nL) (hts : ∀ w ∈ Ts, w.before args s = true) (hown : s.vm.findClass own = some m.cls) (hfr : fr ≤ R.frames) (hlo : lo ≤ R.locals) (hkk : kc ≤ R.cells ∧ kz ≤ R.slots) (hw : match mx with
    | true => Cond.methodLink own idx Lib.Math.max.name ∈ Ts ∧ Cond.static Lib.Math.max.name ∈ Ts ∧ Cond.initialized "java/lang/Math" ∈ Ts ∧ Cond.code Lib.Math.max.name Lib.Math.max.code 2 (some .int) ∈ Ts
    | false => Cond.methodLink own idx Lib.Math.min.name ∈ Ts ∧ Cond.static Lib.Math.min.name ∈ Ts ∧ Cond.initialized "java/lang/Math" ∈ Ts ∧ Cond.code Lib.Math.min.name Lib.Math.min.code 2 (some .int) ∈ Ts) (hd : decode cc pc = .ok (.invokestatic idx, 3)) (hs : ys_hmm mx fr lo pc b fds lv sv = some succ) (k : ∀ q ∈ succ, ys_W p l e R s m args below meth c Q kc kz D cl ad cT sh A H0 nL mods g0 r0 E q.1 q.2) : ys_W p l e R s m args below meth c Q kc kz D cl ad cT sh A H0 nL mods g0 r0 E pc (b, fds, lv, sv) := sorry
end YSG
/-- the end: one of the contract's ways -/
def ys_hret1 (E : Nat) (b : ys_B) (fds : ys_F) (v : Option ys_V) (a : ys_A) : Bool := match ys_zf a.2.2.1.1 fds.1 with
  | some fp => (match a.2.2.2, v with
    | some x, some y => (ys_mat b fds.2 E a.1 a.2.1 a.2.2.1.2 ((x, y) :: fp)).isSome
    | none, none => (ys_mat b fds.2 E a.1 a.2.1 a.2.2.1.2 fp).isSome
    | _, _ => false)
  | none => false
def ys_hret (E : Nat) (K : ys_K) (b : ys_B) (fds : ys_F) (v : Option ys_V) : Bool := K.2.2.1.any (ys_hret1 E b fds v)
section YSE
variable {p : Program} {l : Launch} {e : Env} {R : Room} {s : State} {m : MethodId} {args : Array Value} {below : List Frame} {meth : Method} {c : Code} {Q : State → Prop} {kc kz : Nat} {D : va_G} {cl : List vw_C} {ad : Nat → Nat} {cT : Nat → ClassId} {sh : List ys_C} {A : Nat → Prop} {H0 : Heap} {nL : Nat} {mods : List Nat} {g0 : Nat → Nat → Int} {r0 : Nat → Int} {E : Nat} {pc : Nat} {b : ys_B} {fds : ys_F} {lv : List (Nat × ys_V)} {sv : List ys_V} {succ : List (Nat × ys_S)} {cc : ByteArray} {own : String} {Ts : List Cond} {tys : List (ClassId × FieldType)}
variable {G : List Cond} {K : ys_K}
theorem ys_kret {v : Option ys_V} {r rr : Nat → Int} {H : Heap} {locs : List Loc} {ls : Array Slot} {st : List Value} {aa : Array Value} (hE : K.2.1.2.1.1.length ≤ E) (hrr : ∀ i, i < K.2.1.2.1.1.length → r0 i = rr i) (hK : va_K D cl tys s) (h : ys_rep D cl ad cT sh (va_A (ys_wK ad cT sh K rr g0) s.heap.size) s.heap nL K.2.2.2 g0 r0 r E (b, fds, lv, sv) H locs ls st) (hs : ys_hret K.2.1.2.1.1.length K b fds v = true) :
    ∀ t : State, t.heap = H → s.WarmedH t.vm → ys_Post D cl ad cT sh tys K rr g0 s.heap.size aa s (.returned (v.map (ys_den ad r))) t := sorry
end YSE


