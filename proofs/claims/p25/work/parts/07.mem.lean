/-! fields and arrays -/
def ys_fget (fs : List (List ys_V)) (k j : Nat) : Option ys_V := (fs.getD k [])[j]?
def ys_fset (fs : List (List ys_V)) (k j : Nat) (v : ys_V) : List (List ys_V) := fs.set k ((fs.getD k []).set j v)
/-- a link to a field: the kind of the object, the place of the field, its type (0 int, 1 long, 3 boolean, 2 a reference) -/
def ys_tk (t : FieldType) : Nat := match t with
  | .int => 0
  | .long => 1
  | .boolean => 3
  | _ => 2
def ys_Fl (own : String) (Ts : List Cond) (cl : List vw_C) (idx ci j tk : Nat) : Prop := ∃ (C : String) (T : u_T) (N : Nat) (ty0 : Nat → FieldType), cl[ci]? = some (C, T, N) ∧ j < N ∧ (∀ w ∈ u_ws C T N, w ∈ Ts) ∧ (∀ k, k < N → parseFieldDescriptor (T k).2.2.1 = some (ty0 k)) ∧ (∀ a, a < N → ∀ b, b < N → a ≠ b → (T a).2.1 ≠ (T b).2.1) ∧ Cond.fieldLink own idx C (T j).2.1 (T j).2.2.1 ∈ Ts ∧ (T j).1 = C ∧ (tk ≠ 2 → (T j).2.2.2 = false) ∧ ys_tk (ty0 j) = tk
abbrev ys_FL : Type := List (Nat × (Nat × Nat × Nat))
section YSM
variable {p : Program} {l : Launch} {e : Env} {R : Room} {s : State} {m : MethodId} {args : Array Value} {below : List Frame} {meth : Method} {c : Code} {Q : State → Prop} {kc kz : Nat} {D : va_G} {cl : List vw_C} {ad : Nat → Nat} {cT : Nat → ClassId} {sh : List ys_C} {A : Nat → Prop} {H0 : Heap} {nL : Nat} {mods : List Nat} {g0 : Nat → Nat → Int} {r0 : Nat → Int} {E : Nat} {pc : Nat} {b : ys_B} {fds : ys_F} {lv : List (Nat × ys_V)} {sv : List ys_V} {succ : List (Nat × ys_S)} {cc : ByteArray} {own : String} {Ts : List Cond} {tys : List (ClassId × FieldType)}
def ys_hget (sh : List ys_C) (fl : ys_FL) (idx : Nat) (pc : Nat) (b : ys_B) (fds : ys_F) (lv : List (Nat × ys_V)) (sv : List ys_V) : Option (List (Nat × ys_S)) := match sv, fl.lookup idx with
  | .inr (some k) :: t, some (ci, j, _) => (match ys_fget fds.1 k j with
    | some v => if sh[k]? = some (.inl ci) then some [(pc + 3, b, fds, lv, v :: t)] else none
    | none => none)
  | _, _ => none
theorem ys_kget {fl : ys_FL} {idx : Nat} (hexec : p.tables.exec = Jvm.exec) (hb : c.code = cc) (hts : ∀ w ∈ Ts, w.before args s = true) (hown : s.vm.findClass own = some m.cls) (hK : va_K D cl tys s) (hfl : ∀ idx ci j tk, fl.lookup idx = some (ci, j, tk) → ys_Fl own Ts cl idx ci j tk) (hd : decode cc pc = .ok (.getfield idx, 3)) (hs : ys_hget sh fl idx pc b fds lv sv = some succ) (k : ∀ q ∈ succ, ys_W p l e R s m args below meth c Q kc kz D cl ad cT sh A H0 nL mods g0 r0 E q.1 q.2) : ys_W p l e R s m args below meth c Q kc kz D cl ad cT sh A H0 nL mods g0 r0 E pc (b, fds, lv, sv) := sorry
def ys_fits (tk : Nat) (v : ys_E) (x : ys_V) : Bool := match x with
  | .inl (.inl e) => tk == 0 || (tk == 3 && (ys_geb v e 0 && ys_geb v (ys_scale (-1) e) (-1)))
  | .inl (.inr _) => tk == 1
  | _ => false
def ys_hput (sh : List ys_C) (fl : ys_FL) (idx : Nat) (pc : Nat) (b : ys_B) (fds : ys_F) (lv : List (Nat × ys_V)) (sv : List ys_V) : Option (List (Nat × ys_S)) := match sv, fl.lookup idx with
  | v :: .inr (some k) :: t, some (ci, j, tk) => if ys_fits tk b.1 v && decide (sh[k]? = some (.inl ci)) && decide (j < (fds.1.getD k []).length) then some [(pc + 3, b, (ys_fset fds.1 k j v, fds.2), lv, t)] else none
  | _, _ => none
theorem ys_01 {x : Int} (h0 : 0 ≤ x) (h1 : x ≤ 1) : Int32.ofInt x = 0 ∨ Int32.ofInt x = 1 := sorry
theorem ys_tk0 {t : FieldType} (h : ys_tk t = 0) : t = .int := sorry
theorem ys_tk1 {t : FieldType} (h : ys_tk t = 1) : t = .long := sorry
theorem ys_tk3 {t : FieldType} (h : ys_tk t = 3) : t = .boolean := sorry
theorem ys_fits_ok {r : Nat → Int} {tk : Nat} {v : ys_E} {x : ys_V} {ty : FieldType} (hv : ys_ok r v) (ht : ys_tk ty = tk) (h : ys_fits tk v x = true) : narrow ty (ys_den ad r x) = ys_den ad r x ∧ fits ty (ys_den ad r x) = true ∧ tk ≠ 2 := sorry
theorem ys_mem_set {α : Type} {x y : α} : ∀ {l : List α} {i : Nat}, x ∈ l.set i y → x = y ∨ x ∈ l := sorry
theorem ys_fset_mem {fs : List (List ys_V)} {k j n : Nat} {v : ys_V} (h : ∀ w ∈ fs, ∀ v ∈ w, ys_stV n v) (hv : ys_stV n v) : ∀ w ∈ ys_fset fs k j v, ∀ v ∈ w, ys_stV n v := sorry
theorem ys_fset_get {fs : List (List ys_V)} {k j i : Nat} {v : ys_V} (h : i ≠ k) : (ys_fset fs k j v).getD i [] = fs.getD i [] := sorry
theorem ys_fset_self {fs : List (List ys_V)} {k j : Nat} {v : ys_V} (h : j < (fs.getD k []).length) : (ys_fset fs k j v).getD k [] = (fs.getD k []).set j v := sorry
theorem ys_kput {fl : ys_FL} {idx : Nat} (hexec : p.tables.exec = Jvm.exec) (hb : c.code = cc) (hts : ∀ w ∈ Ts, w.before args s = true) (hown : s.vm.findClass own = some m.cls) (hK : va_K D cl tys s) (hfl : ∀ idx ci j tk, fl.lookup idx = some (ci, j, tk) → ys_Fl own Ts cl idx ci j tk) (hd : decode cc pc = .ok (.putfield idx, 3)) (hs : ys_hput sh fl idx pc b fds lv sv = some succ) (k : ∀ q ∈ succ, ys_W p l e R s m args below meth c Q kc kz D cl ad cT sh A H0 nL mods g0 r0 E q.1 q.2) : ys_W p l e R s m args below meth c Q kc kz D cl ad cT sh A H0 nL mods g0 r0 E pc (b, fds, lv, sv) := sorry
/-! reading an array -/
def ys_hul (q w : Int × Int) : Int × Int := (if q.1 ≤ w.1 then q.1 else w.1, if q.2 ≤ w.2 then w.2 else q.2)
def ys_not (v : ys_E) (e : ys_L) (i : Nat) : Bool := ys_geb v e ((i : Int) + 1) || ys_geb v (ys_scale (-1) e) (1 - (i : Int))
def ys_rds (v : ys_E) (e : ys_L) : List (Nat × (Int × Int)) → Int × Int → Int × Int
  | [], q => q
  | x :: t, q => ys_rds v e t (if ys_not v e x.1 then q else ys_hul q x.2)
def ys_sgl (v : ys_E) (e : ys_L) : Option Nat := match ys_low v e, ys_high v e with
  | some l, some u => if l = u then some l.toNat else none
  | _, _ => none
theorem ys_sgl_ok {r : Nat → Int} {v : ys_E} (hv : ys_ok r v) {e : ys_L} {i n : Nat} (h : ys_sgl v e = some i) (he : ys_ev r e = (n : Int)) : i = n := sorry
def ys_rd (v : ys_E) (a : ys_R) (e : ys_L) : Int × Int := match ys_sgl v e with
  | some i => ys_rat a i
  | none => ys_rds v e a.2 a.1
/-- a place of its own, where the index may be -/
def ys_spl (v : ys_E) (a : ys_R) (e : ys_L) : Option Nat := match ys_sgl v e with
  | some _ => none
  | none => (match a.2.find? (fun x => !ys_not v e x.1) with
    | some x => some x.1
    | none => none)
def ys_cut3 (pc : Nat) (b : ys_B) (e : ys_L) (i : Nat) (rest : ys_F × List (Nat × ys_V) × List ys_V) : List (Nat × ys_S) := ys_br pc b [ys_sub e ([], (i : Int)), ys_sub ([], (i : Int)) e] rest ++ (ys_br pc b [ys_sub ([], (i : Int) - 1) e] rest ++ ys_br pc b [ys_sub e ([], (i : Int) + 1)] rest)
theorem ys_not_ok {r : Nat → Int} {v : ys_E} (hv : ys_ok r v) {e : ys_L} {i : Nat} (h : ys_not v e i = true) : ys_ev r e ≠ (i : Int) := sorry
theorem ys_hul_l {q w : Int × Int} {z : Int} (h : q.1 ≤ z ∧ z ≤ q.2) : (ys_hul q w).1 ≤ z ∧ z ≤ (ys_hul q w).2 := sorry
theorem ys_hul_r {q w : Int × Int} {z : Int} (h : w.1 ≤ z ∧ z ≤ w.2) : (ys_hul q w).1 ≤ z ∧ z ≤ (ys_hul q w).2 := sorry
theorem ys_rds_acc {v : ys_E} {e : ys_L} {z : Int} : ∀ (l : List (Nat × (Int × Int))) (q : Int × Int), q.1 ≤ z ∧ z ≤ q.2 → (ys_rds v e l q).1 ≤ z ∧ z ≤ (ys_rds v e l q).2 := sorry
theorem ys_rds_in {r : Nat → Int} {v : ys_E} (hv : ys_ok r v) {e : ys_L} {z : Int} {n : Nat} (he : ys_ev r e = (n : Int)) {w : Int × Int} (hw : w.1 ≤ z ∧ z ≤ w.2) : ∀ (l : List (Nat × (Int × Int))) (q : Int × Int), l.lookup n = some w → (ys_rds v e l q).1 ≤ z ∧ z ≤ (ys_rds v e l q).2 := sorry
theorem ys_rd_ok {r : Nat → Int} {v : ys_E} (hv : ys_ok r v) {a : ys_R} {f : Nat → Int} (ha : ys_rok a f) {e : ys_L} {n : Nat} (he : ys_ev r e = (n : Int)) : (ys_rd v a e).1 ≤ f n ∧ f n ≤ (ys_rd v a e).2 := sorry
theorem ys_kcut3 {x : ys_L} {i : Nat} {r : Nat → Int} {H : Heap} {locs : List Loc} {ls : Array Slot} {st : List Value} (h : ys_rep D cl ad cT sh A H0 nL mods g0 r0 r E (b, fds, lv, sv) H locs ls st) (sx : ys_stb b.1.length x) (k : ∀ q ∈ ys_cut3 pc b x i (fds, lv, sv), ys_W p l e R s m args below meth c Q kc kz D cl ad cT sh A H0 nL mods g0 r0 E q.1 q.2) : W p l e R s m args below meth c H locs kc kz Q (F0 m pc ls st) := sorry
/-- a place within an array -/
def ys_inb (b : ys_B) (e : ys_L) (len : Nat) : Bool := ys_inr false b.1 e && (ys_ge b.1 b.2 2 e && ys_ge b.1 b.2 2 (ys_sub ([], (len : Int) - 1) e))
theorem ys_inb_ok {r : Nat → Int} (h : ys_okB r b) {x : ys_L} {len : Nat} (hi : ys_inb b x len = true) : ∃ n : Nat, ys_ev r x = (n : Int) ∧ n < len ∧ vp_in (Int32.ofInt (ys_ev r x)) len ∧ (Int32.ofInt (ys_ev r x)).toNatClampNeg = n := sorry
def ys_hiald (sh : List ys_C) (pc : Nat) (b : ys_B) (fds : ys_F) (lv : List (Nat × ys_V)) (sv : List ys_V) : Option (List (Nat × ys_S)) := match sv with
  | .inl (.inl x) :: .inr (some k) :: t => (match sh[k]?, fds.2[k]? with
    | some (.inr y), some a => if decide (y.1 = 0) && ys_inb b x y.2.1 then (match ys_spl b.1 a x with
      | some i => some (ys_cut3 pc b x i (fds, lv, .inl (.inl x) :: .inr (some k) :: t))
      | none => some [(pc + 1, (ys_nw b (ys_rd b.1 a x)).1, fds, lv, .inl (.inl (ys_nw b (ys_rd b.1 a x)).2) :: t)]) else none
    | _, _ => none)
  | _ => none
theorem ys_kiald (hexec : p.tables.exec = Jvm.exec) (hb : c.code = cc) (hK : va_K D cl tys s) (hty : tys[0]? = some (cT 0, .int)) (hd : decode cc pc = .ok (.iaload, 1)) (hs : ys_hiald sh pc b fds lv sv = some succ) (k : ∀ q ∈ succ, ys_W p l e R s m args below meth c Q kc kz D cl ad cT sh A H0 nL mods g0 r0 E q.1 q.2) : ys_W p l e R s m args below meth c Q kc kz D cl ad cT sh A H0 nL mods g0 r0 E pc (b, fds, lv, sv) := sorry
def ys_hlald (sh : List ys_C) (pc : Nat) (b : ys_B) (fds : ys_F) (lv : List (Nat × ys_V)) (sv : List ys_V) : Option (List (Nat × ys_S)) := match sv with
  | .inl (.inl x) :: .inr (some k) :: t => (match sh[k]?, fds.2[k]? with
    | some (.inr y), some a => if decide (y.1 = 1) && ys_inb b x y.2.1 then (match ys_spl b.1 a x with
      | some i => some (ys_cut3 pc b x i (fds, lv, .inl (.inl x) :: .inr (some k) :: t))
      | none => some [(pc + 1, (ys_nw b (ys_rd b.1 a x)).1, fds, lv, .inl (.inr (ys_nw b (ys_rd b.1 a x)).2) :: t)]) else none
    | _, _ => none)
  | _ => none
theorem ys_klald (hexec : p.tables.exec = Jvm.exec) (hb : c.code = cc) (hK : va_K D cl tys s) (hty : tys[1]? = some (cT 1, .long)) (hd : decode cc pc = .ok (.laload, 1)) (hs : ys_hlald sh pc b fds lv sv = some succ) (k : ∀ q ∈ succ, ys_W p l e R s m args below meth c Q kc kz D cl ad cT sh A H0 nL mods g0 r0 E q.1 q.2) : ys_W p l e R s m args below meth c Q kc kz D cl ad cT sh A H0 nL mods g0 r0 E pc (b, fds, lv, sv) := sorry
def ys_hbald (sh : List ys_C) (pc : Nat) (b : ys_B) (fds : ys_F) (lv : List (Nat × ys_V)) (sv : List ys_V) : Option (List (Nat × ys_S)) := match sv with
  | .inl (.inl x) :: .inr (some k) :: t => (match sh[k]?, fds.2[k]? with
    | some (.inr y), some a => if decide (y.1 = 2) && ys_inb b x y.2.1 then (match ys_spl b.1 a x with
      | some i => some (ys_cut3 pc b x i (fds, lv, .inl (.inl x) :: .inr (some k) :: t))
      | none => some [(pc + 1, (ys_nw b (ys_rd b.1 a x)).1, fds, lv, .inl (.inl (ys_nw b (ys_rd b.1 a x)).2) :: t)]) else none
    | _, _ => none)
  | _ => none
theorem ys_kbald (hexec : p.tables.exec = Jvm.exec) (hb : c.code = cc) (hK : va_K D cl tys s) (hty : tys[2]? = some (cT 2, .byte)) (hd : decode cc pc = .ok (.baload, 1)) (hs : ys_hbald sh pc b fds lv sv = some succ) (k : ∀ q ∈ succ, ys_W p l e R s m args below meth c Q kc kz D cl ad cT sh A H0 nL mods g0 r0 E q.1 q.2) : ys_W p l e R s m args below meth c Q kc kz D cl ad cT sh A H0 nL mods g0 r0 E pc (b, fds, lv, sv) := sorry
def ys_hzald (sh : List ys_C) (pc : Nat) (b : ys_B) (fds : ys_F) (lv : List (Nat × ys_V)) (sv : List ys_V) : Option (List (Nat × ys_S)) := match sv with
  | .inl (.inl x) :: .inr (some k) :: t => (match sh[k]?, fds.2[k]? with
    | some (.inr y), some a => if decide (y.1 = 3) && ys_inb b x y.2.1 then (match ys_spl b.1 a x with
      | some i => some (ys_cut3 pc b x i (fds, lv, .inl (.inl x) :: .inr (some k) :: t))
      | none => some [(pc + 1, (ys_nw b (ys_rd b.1 a x)).1, fds, lv, .inl (.inl (ys_nw b (ys_rd b.1 a x)).2) :: t)]) else none
    | _, _ => none)
  | _ => none
theorem ys_kzald (hexec : p.tables.exec = Jvm.exec) (hb : c.code = cc) (hK : va_K D cl tys s) (hty : tys[3]? = some (cT 3, .boolean)) (hd : decode cc pc = .ok (.baload, 1)) (hs : ys_hzald sh pc b fds lv sv = some succ) (k : ∀ q ∈ succ, ys_W p l e R s m args below meth c Q kc kz D cl ad cT sh A H0 nL mods g0 r0 E q.1 q.2) : ys_W p l e R s m args below meth c Q kc kz D cl ad cT sh A H0 nL mods g0 r0 E pc (b, fds, lv, sv) := sorry
end YSM

