/-! writing an array -/
def ys_ivl (v : ys_E) (e : ys_L) : Option (Int × Int) := match ys_low v e, ys_high v e with
  | some l, some u => some (l, u)
  | _, _ => none
theorem ys_ivl_ok {r : Nat → Int} {v : ys_E} (h : ys_ok r v) {e : ys_L} {q : Int × Int} (hq : ys_ivl v e = some q) : q.1 ≤ ys_ev r e ∧ ys_ev r e ≤ q.2 := sorry
def ys_wr (v : ys_E) (a : ys_R) (e : ys_L) (q : Int × Int) : ys_R := match ys_sgl v e with
  | some i => (a.1, (i, q) :: a.2.filter fun x => !(x.1 == i))
  | none => (ys_hul a.1 q, a.2.map fun x => if ys_not v e x.1 then x else (x.1, ys_hul x.2 q))
theorem ys_lookup_filter {n j : Nat} (h : j ≠ n) : ∀ l : List (Nat × (Int × Int)), (l.filter fun x => !(x.1 == n)).lookup j = l.lookup j := sorry
theorem ys_lookup_map {v : ys_E} {e : ys_L} {q : Int × Int} {j : Nat} : ∀ l : List (Nat × (Int × Int)), (l.map fun x => if ys_not v e x.1 then x else (x.1, ys_hul x.2 q)).lookup j = (l.lookup j).map fun w => if ys_not v e j then w else ys_hul w q := sorry
def ys_gup (g : Nat → Nat → Int) (k n : Nat) (z : Int) : Nat → Nat → Int := fun i => if i = k then (fun j => if j = n then z else g k j) else g i
theorem ys_wr_ok {r : Nat → Int} {v : ys_E} (hv : ys_ok r v) {a : ys_R} {f : Nat → Int} (ha : ys_rok a f) {e : ys_L} {n : Nat} (he : ys_ev r e = (n : Int)) {q : Int × Int} {z : Int} (hz : q.1 ≤ z ∧ z ≤ q.2) : ys_rok (ys_wr v a e q) (fun j => if j = n then z else f j) := sorry
section YSM2
variable {p : Program} {l : Launch} {e : Env} {R : Room} {s : State} {m : MethodId} {args : Array Value} {below : List Frame} {meth : Method} {c : Code} {Q : State → Prop} {kc kz : Nat} {D : va_G} {cl : List vw_C} {ad : Nat → Nat} {cT : Nat → ClassId} {sh : List ys_C} {A : Nat → Prop} {H0 : Heap} {nL : Nat} {mods : List Nat} {g0 : Nat → Nat → Int} {r0 : Nat → Int} {E : Nat} {pc : Nat} {b : ys_B} {fds : ys_F} {lv : List (Nat × ys_V)} {sv : List ys_V} {succ : List (Nat × ys_S)} {cc : ByteArray} {own : String} {Ts : List Cond} {tys : List (ClassId × FieldType)}

def ys_hiast (sh : List ys_C) (mods : List Nat) (pc : Nat) (b : ys_B) (fds : ys_F) (lv : List (Nat × ys_V)) (sv : List ys_V) : Option (List (Nat × ys_S)) := match sv with
  | .inl (.inl z) :: .inl (.inl x) :: .inr (some k) :: t => (match sh[k]?, fds.2[k]?, ys_ivl b.1 z with
    | some (.inr y), some a, some q => if decide (y.1 = 0) && ys_inb b x y.2.1 && decide (k ∈ mods) then some [(pc + 1, b, (fds.1, fds.2.set k (ys_wr b.1 a x q)), lv, t)] else none
    | _, _, _ => none)
  | _ => none
theorem ys_kiast (hexec : p.tables.exec = Jvm.exec) (hb : c.code = cc) (hK : va_K D cl tys s) (hty : tys[0]? = some (cT 0, .int)) (hd : decode cc pc = .ok (.iastore, 1)) (hs : ys_hiast sh mods pc b fds lv sv = some succ) (k : ∀ q ∈ succ, ys_W p l e R s m args below meth c Q kc kz D cl ad cT sh A H0 nL mods g0 r0 E q.1 q.2) : ys_W p l e R s m args below meth c Q kc kz D cl ad cT sh A H0 nL mods g0 r0 E pc (b, fds, lv, sv) := sorry
def ys_hlast (sh : List ys_C) (mods : List Nat) (pc : Nat) (b : ys_B) (fds : ys_F) (lv : List (Nat × ys_V)) (sv : List ys_V) : Option (List (Nat × ys_S)) := match sv with
  | .inl (.inr z) :: .inl (.inl x) :: .inr (some k) :: t => (match sh[k]?, fds.2[k]?, ys_ivl b.1 z with
    | some (.inr y), some a, some q => if decide (y.1 = 1) && ys_inb b x y.2.1 && decide (k ∈ mods) then some [(pc + 1, b, (fds.1, fds.2.set k (ys_wr b.1 a x q)), lv, t)] else none
    | _, _, _ => none)
  | _ => none
theorem ys_klast (hexec : p.tables.exec = Jvm.exec) (hb : c.code = cc) (hK : va_K D cl tys s) (hty : tys[1]? = some (cT 1, .long)) (hd : decode cc pc = .ok (.lastore, 1)) (hs : ys_hlast sh mods pc b fds lv sv = some succ) (k : ∀ q ∈ succ, ys_W p l e R s m args below meth c Q kc kz D cl ad cT sh A H0 nL mods g0 r0 E q.1 q.2) : ys_W p l e R s m args below meth c Q kc kz D cl ad cT sh A H0 nL mods g0 r0 E pc (b, fds, lv, sv) := sorry
theorem ys_nar_b {x : Int} (h0 : -128 ≤ x) (h1 : x ≤ 127) : vp_nar .byte (Int32.ofInt x) = Int32.ofInt x := sorry
theorem ys_nar_z {x : Int} (h0 : 0 ≤ x) (h1 : x ≤ 1) : vp_nar .boolean (Int32.ofInt x) = Int32.ofInt x := sorry
def ys_hbast (sh : List ys_C) (mods : List Nat) (pc : Nat) (b : ys_B) (fds : ys_F) (lv : List (Nat × ys_V)) (sv : List ys_V) : Option (List (Nat × ys_S)) := match sv with
  | .inl (.inl z) :: .inl (.inl x) :: .inr (some k) :: t => (match sh[k]?, fds.2[k]?, ys_ivl b.1 z with
    | some (.inr y), some a, some q => if decide (y.1 = 2) && ys_inb b x y.2.1 && decide (k ∈ mods) && (decide (-128 ≤ q.1) && decide (q.2 ≤ 127)) then some [(pc + 1, b, (fds.1, fds.2.set k (ys_wr b.1 a x q)), lv, t)] else none
    | _, _, _ => none)
  | _ => none
theorem ys_kbast (hexec : p.tables.exec = Jvm.exec) (hb : c.code = cc) (hK : va_K D cl tys s) (hty : tys[2]? = some (cT 2, .byte)) (hd : decode cc pc = .ok (.bastore, 1)) (hs : ys_hbast sh mods pc b fds lv sv = some succ) (k : ∀ q ∈ succ, ys_W p l e R s m args below meth c Q kc kz D cl ad cT sh A H0 nL mods g0 r0 E q.1 q.2) : ys_W p l e R s m args below meth c Q kc kz D cl ad cT sh A H0 nL mods g0 r0 E pc (b, fds, lv, sv) := sorry
def ys_hzast (sh : List ys_C) (mods : List Nat) (pc : Nat) (b : ys_B) (fds : ys_F) (lv : List (Nat × ys_V)) (sv : List ys_V) : Option (List (Nat × ys_S)) := match sv with
  | .inl (.inl z) :: .inl (.inl x) :: .inr (some k) :: t => (match sh[k]?, fds.2[k]?, ys_ivl b.1 z with
    | some (.inr y), some a, some q => if decide (y.1 = 3) && ys_inb b x y.2.1 && decide (k ∈ mods) && (decide (0 ≤ q.1) && decide (q.2 ≤ 1)) then some [(pc + 1, b, (fds.1, fds.2.set k (ys_wr b.1 a x q)), lv, t)] else none
    | _, _, _ => none)
  | _ => none
theorem ys_kzast (hexec : p.tables.exec = Jvm.exec) (hb : c.code = cc) (hK : va_K D cl tys s) (hty : tys[3]? = some (cT 3, .boolean)) (hd : decode cc pc = .ok (.bastore, 1)) (hs : ys_hzast sh mods pc b fds lv sv = some succ) (k : ∀ q ∈ succ, ys_W p l e R s m args below meth c Q kc kz D cl ad cT sh A H0 nL mods g0 r0 E q.1 q.2) : ys_W p l e R s m args below meth c Q kc kz D cl ad cT sh A H0 nL mods g0 r0 E pc (b, fds, lv, sv) := sorry
/-- how long an array is -/
def ys_halen (sh : List ys_C) (pc : Nat) (b : ys_B) (fds : ys_F) (lv : List (Nat × ys_V)) (sv : List ys_V) : Option (List (Nat × ys_S)) := match sv with
  | .inr (some k) :: t => (match sh[k]? with
    | some (.inr y) => some [(pc + 1, b, fds, lv, .inl (.inl ([], (y.2.1 : Int))) :: t)]
    | _ => none)
  | _ => none
theorem ys_kalen (hexec : p.tables.exec = Jvm.exec) (hb : c.code = cc) (hK : va_K D cl tys s) (hty : ∀ (k : Nat) (y : Nat × Nat × List Nat), sh[k]? = some (.inr y) → ∃ t, tys[y.1]? = some (cT y.1, t)) (hd : decode cc pc = .ok (.arraylength, 1)) (hs : ys_halen sh pc b fds lv sv = some succ) (k : ∀ q ∈ succ, ys_W p l e R s m args below meth c Q kc kz D cl ad cT sh A H0 nL mods g0 r0 E q.1 q.2) : ys_W p l e R s m args below meth c Q kc kz D cl ad cT sh A H0 nL mods g0 r0 E pc (b, fds, lv, sv) := sorry
/-- a reference out of an array: each place by itself -/
def ys_fan (n : Nat) (f : Nat → List (Nat × ys_S)) : List (Nat × ys_S) := (List.range n).flatMap f
def ys_isn (x : ys_L) (i : Int) : List ys_L := [ys_sub x ([], i), ys_sub ([], i) x]
theorem ys_isn_ok {r : Nat → Int} {x : ys_L} {i : Int} (h : ys_ev r x = i) : ys_fk r (ys_isn x i) := sorry
theorem ys_isn_st {n : Nat} {x : ys_L} {i : Int} (h : ys_stb n x) : ∀ f ∈ ys_isn x i, ys_stb n f := sorry
def ys_haald (sh : List ys_C) (pc : Nat) (b : ys_B) (fds : ys_F) (lv : List (Nat × ys_V)) (sv : List ys_V) : Option (List (Nat × ys_S)) := match sv with
  | .inl (.inl x) :: .inr (some k) :: t => (match sh[k]? with
    | some (.inr y) => if decide (4 ≤ y.1) && ys_inb b x y.2.1 && decide (y.2.2.length = y.2.1) then some (ys_fan y.2.1 fun i => ys_br (pc + 1) b (ys_isn x (i : Int)) (fds, lv, .inr (some (y.2.2.getD i 0)) :: t)) else none
    | _ => none)
  | _ => none
theorem ys_kaald (hexec : p.tables.exec = Jvm.exec) (hb : c.code = cc) (hK : va_K D cl tys s) (hty : ∀ (k : Nat) (y : Nat × Nat × List Nat), sh[k]? = some (.inr y) → 4 ≤ y.1 → ∃ C, tys[y.1]? = some (cT y.1, .object C)) (hd : decode cc pc = .ok (.aaload, 1)) (hs : ys_haald sh pc b fds lv sv = some succ) (k : ∀ q ∈ succ, ys_W p l e R s m args below meth c Q kc kz D cl ad cT sh A H0 nL mods g0 r0 E q.1 q.2) : ys_W p l e R s m args below meth c Q kc kz D cl ad cT sh A H0 nL mods g0 r0 E pc (b, fds, lv, sv) := sorry
/-- a table of places to go on at -/
def ys_htab (dflt lo hi : Int) (offs : Array Int) (pc : Nat) (b : ys_B) (fds : ys_F) (lv : List (Nat × ys_V)) (sv : List ys_V) : Option (List (Nat × ys_S)) := match sv, ys_tgt pc dflt with
  | .inl (.inl x) :: t, some td => if ys_inr false b.1 x && (decide ((offs.size : Int) = hi - lo + 1) && offs.toList.all fun o => decide (0 ≤ (pc : Int) + o)) then
      some (ys_br td b [ys_sub ([], lo - 1) x] (fds, lv, t) ++ (ys_br td b [ys_sub x ([], hi + 1)] (fds, lv, t) ++ ys_fan offs.size fun i => ys_br ((pc : Int) + offs.toList.getD i 0).toNat b (ys_isn x (lo + (i : Int))) (fds, lv, t))) else none
  | _, _ => none
theorem ys_ktab {dflt lo hi : Int} {offs : Array Int} {len : Nat} (hexec : p.tables.exec = Jvm.exec) (hb : c.code = cc) (hd : decode cc pc = .ok (.tableswitch dflt lo hi offs, len)) (hs : ys_htab dflt lo hi offs pc b fds lv sv = some succ) (k : ∀ q ∈ succ, ys_W p l e R s m args below meth c Q kc kz D cl ad cT sh A H0 nL mods g0 r0 E q.1 q.2) : ys_W p l e R s m args below meth c Q kc kz D cl ad cT sh A H0 nL mods g0 r0 E pc (b, fds, lv, sv) := sorry
/-- by the quotients, where there are few -/
def ys_hqs (F : ys_B → ys_L → ys_L → Option (ys_B × ys_L)) (pc : Nat) (b : ys_B) (fds : ys_F) (lv : List (Nat × ys_V)) (sv : List ys_V) : Option (List (Nat × ys_S)) := match sv with
  | .inl (.inl y) :: .inl (.inl x) :: t => (match ys_qb false b.1 x y with
    | some q => if q.1 < q.2 ∧ q.2 - q.1 ≤ 8 then some (ys_fan (q.2 - q.1 + 1).toNat fun i => ys_br pc b [ys_sub x ([], y.2 * (q.1 + (i : Int))), ys_sub ([], y.2 * (q.1 + (i : Int)) + (y.2 - 1)) x] (fds, lv, .inl (.inl y) :: .inl (.inl x) :: t)) else ys_hb32 F pc b fds lv sv
    | none => ys_hb32 F pc b fds lv sv)
  | _ => none
theorem ys_kqs {F : ys_B → ys_L → ys_L → Option (ys_B × ys_L)} {op : Int32 → Int32 → Int32} {ok : Int32 → Prop} (hF : ys_B32 F op ok) (hrow : ∀ (X Y : Int32) (H : Heap) (locs : List Loc) (ls : Array Slot) (rest : List Value), ok Y → W p l e R s m args below meth c H locs kc kz Q (F0 m (pc + 1) ls (.int (op X Y) :: rest)) → W p l e R s m args below meth c H locs kc kz Q (F0 m pc ls (.int Y :: .int X :: rest))) (hs : ys_hqs F pc b fds lv sv = some succ) (k : ∀ q ∈ succ, ys_W p l e R s m args below meth c Q kc kz D cl ad cT sh A H0 nL mods g0 r0 E q.1 q.2) : ys_W p l e R s m args below meth c Q kc kz D cl ad cT sh A H0 nL mods g0 r0 E pc (b, fds, lv, sv) := sorry
/-- a list of places to go on at -/
def ys_lks (pc : Nat) (b : ys_B) (rest : ys_F × List (Nat × ys_V) × List ys_V) (x : ys_L) (dflt : Int) : List (Int × Int) → List (Nat × ys_S)
  | [] => ys_br ((pc : Int) + dflt).toNat b [] rest
  | q :: t => ys_br ((pc : Int) + q.2).toNat b (ys_isn x q.1) rest ++ ys_lks pc b rest x dflt t
def ys_hlook (dflt : Int) (ps : Array (Int × Int)) (pc : Nat) (b : ys_B) (fds : ys_F) (lv : List (Nat × ys_V)) (sv : List ys_V) : Option (List (Nat × ys_S)) := match sv with
  | .inl (.inl x) :: t => if ys_inr false b.1 x && (decide (0 ≤ (pc : Int) + dflt) && ((ps.toList.zip (ps.toList.drop 1)).all (fun (a, next) => a.1 < next.1) && ps.toList.all fun o => decide (0 ≤ (pc : Int) + o.2))) then some (ys_lks pc b (fds, lv, t) x dflt ps.toList) else none
  | _ => none
theorem ys_lks_ok {x : ys_L} {dflt : Int} {r : Nat → Int} {H : Heap} {locs : List Loc} {ls : Array Slot} {st : List Value} (h : ys_rep D cl ad cT sh A H0 nL mods g0 r0 r E (b, fds, lv, sv) H locs ls st) (hx : ys_stb b.1.length x) : ∀ (pl : List (Int × Int)), (∀ q ∈ ys_lks pc b (fds, lv, sv) x dflt pl, ys_W p l e R s m args below meth c Q kc kz D cl ad cT sh A H0 nL mods g0 r0 E q.1 q.2) → W p l e R s m args below meth c H locs kc kz Q (F0 m ((pc : Int) + Op.lookupswitch.offset pl dflt (ys_ev r x)).toNat ls st) := sorry
theorem ys_lks_pos {dflt : Int} (hd : 0 ≤ (pc : Int) + dflt) (x : Int) : ∀ (l : List (Int × Int)), (l.all fun o => decide (0 ≤ (pc : Int) + o.2)) = true → 0 ≤ (pc : Int) + Op.lookupswitch.offset l dflt x := sorry
theorem ys_klook {dflt : Int} {ps : Array (Int × Int)} {len : Nat} (hexec : p.tables.exec = Jvm.exec) (hb : c.code = cc) (hd : decode cc pc = .ok (.lookupswitch dflt ps, len)) (hs : ys_hlook dflt ps pc b fds lv sv = some succ) (k : ∀ q ∈ succ, ys_W p l e R s m args below meth c Q kc kz D cl ad cT sh A H0 nL mods g0 r0 E q.1 q.2) : ys_W p l e R s m args below meth c Q kc kz D cl ad cT sh A H0 nL mods g0 r0 E pc (b, fds, lv, sv) := sorry
/-- the stack -/
def ys_hdup (pc : Nat) (b : ys_B) (fds : ys_F) (lv : List (Nat × ys_V)) (sv : List ys_V) : Option (List (Nat × ys_S)) := match sv with
  | v :: t => if ys_cat v = 1 then some [(pc + 1, b, fds, lv, v :: v :: t)] else none
  | _ => none
theorem ys_kdup (hexec : p.tables.exec = Jvm.exec) (hb : c.code = cc) (hd : decode cc pc = .ok (.dup, 1)) (hs : ys_hdup pc b fds lv sv = some succ) (k : ∀ q ∈ succ, ys_W p l e R s m args below meth c Q kc kz D cl ad cT sh A H0 nL mods g0 r0 E q.1 q.2) : ys_W p l e R s m args below meth c Q kc kz D cl ad cT sh A H0 nL mods g0 r0 E pc (b, fds, lv, sv) := sorry
def ys_hdup2 (pc : Nat) (b : ys_B) (fds : ys_F) (lv : List (Nat × ys_V)) (sv : List ys_V) : Option (List (Nat × ys_S)) := match sv with
  | v :: w :: t => if ys_cat v = 1 && ys_cat w = 1 then some [(pc + 1, b, fds, lv, v :: w :: v :: w :: t)] else none
  | _ => none
theorem ys_kdup2 (hexec : p.tables.exec = Jvm.exec) (hb : c.code = cc) (hd : decode cc pc = .ok (.dup2, 1)) (hs : ys_hdup2 pc b fds lv sv = some succ) (k : ∀ q ∈ succ, ys_W p l e R s m args below meth c Q kc kz D cl ad cT sh A H0 nL mods g0 r0 E q.1 q.2) : ys_W p l e R s m args below meth c Q kc kz D cl ad cT sh A H0 nL mods g0 r0 E pc (b, fds, lv, sv) := sorry
def ys_hpop (pc : Nat) (b : ys_B) (fds : ys_F) (lv : List (Nat × ys_V)) (sv : List ys_V) : Option (List (Nat × ys_S)) := match sv with
  | v :: t => if ys_cat v = 1 then some [(pc + 1, b, fds, lv, t)] else none
  | _ => none
theorem ys_kpop (hexec : p.tables.exec = Jvm.exec) (hb : c.code = cc) (hd : decode cc pc = .ok (.pop, 1)) (hs : ys_hpop pc b fds lv sv = some succ) (k : ∀ q ∈ succ, ys_W p l e R s m args below meth c Q kc kz D cl ad cT sh A H0 nL mods g0 r0 E q.1 q.2) : ys_W p l e R s m args below meth c Q kc kz D cl ad cT sh A H0 nL mods g0 r0 E pc (b, fds, lv, sv) := sorry
def ys_hpop2 (pc : Nat) (b : ys_B) (fds : ys_F) (lv : List (Nat × ys_V)) (sv : List ys_V) : Option (List (Nat × ys_S)) := match sv with
  | v :: t => if ys_cat v = 2 then some [(pc + 1, b, fds, lv, t)] else none
  | _ => none
theorem ys_kpop2 (hexec : p.tables.exec = Jvm.exec) (hb : c.code = cc) (hd : decode cc pc = .ok (.pop2, 1)) (hs : ys_hpop2 pc b fds lv sv = some succ) (k : ∀ q ∈ succ, ys_W p l e R s m args below meth c Q kc kz D cl ad cT sh A H0 nL mods g0 r0 E q.1 q.2) : ys_W p l e R s m args below meth c Q kc kz D cl ad cT sh A H0 nL mods g0 r0 E pc (b, fds, lv, sv) := sorry
/-- a place of the frame grows -/
def ys_hinc (nL : Nat) (i : Nat) (n : Int) (pc : Nat) (b : ys_B) (fds : ys_F) (lv : List (Nat × ys_V)) (sv : List ys_V) : Option (List (Nat × ys_S)) := match lv.lookup i with
  | some (.inl (.inl x)) => if i < nL then some [(pc + 3, (ys_nm false b (ys_add x ([], n))).1, fds, ys_st1 lv i (.inl (.inl (ys_nm false b (ys_add x ([], n))).2)), sv)] else none
  | _ => none
theorem ys_kinc {i : Nat} {n : Int} (hexec : p.tables.exec = Jvm.exec) (hb : c.code = cc) (hd : decode cc pc = .ok (.iinc i n, 3)) (hs : ys_hinc nL i n pc b fds lv sv = some succ) (k : ∀ q ∈ succ, ys_W p l e R s m args below meth c Q kc kz D cl ad cT sh A H0 nL mods g0 r0 E q.1 q.2) : ys_W p l e R s m args below meth c Q kc kz D cl ad cT sh A H0 nL mods g0 r0 E pc (b, fds, lv, sv) := sorry
end YSM2

