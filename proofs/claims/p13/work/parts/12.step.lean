/-! one step, whatever the instruction -/
noncomputable def ys_cfo32 (op : Int32 → Int32 → Int32) (F : ys_B → ys_L → ys_L → Option (ys_B × ys_L)) (b : ys_B) (x y : ys_L) : Option (ys_B × ys_L) := match x.1, y.1 with
  | [], [] => some (b, ([], (op (Int32.ofInt x.2) (Int32.ofInt y.2)).toInt))
  | _, _ => F b x y
noncomputable def ys_cfo64 (op : Int64 → Int64 → Int64) (F : ys_B → ys_L → ys_L → Option (ys_B × ys_L)) (b : ys_B) (x y : ys_L) : Option (ys_B × ys_L) := match x.1, y.1 with
  | [], [] => some (b, ([], (op (Int64.ofInt x.2) (Int64.ofInt y.2)).toInt))
  | _, _ => F b x y
noncomputable def ys_cfoLI (op : Int64 → Int32 → Int64) (F : ys_B → ys_L → ys_L → Option (ys_B × ys_L)) (b : ys_B) (x y : ys_L) : Option (ys_B × ys_L) := match x.1, y.1 with
  | [], [] => some (b, ([], (op (Int64.ofInt x.2) (Int32.ofInt y.2)).toInt))
  | _, _ => F b x y
theorem ys_cfo32_ok {op : Int32 → Int32 → Int32} {F : ys_B → ys_L → ys_L → Option (ys_B × ys_L)} (h : ys_B32 F op (fun _ => True)) : ys_B32 (ys_cfo32 op F) op (fun _ => True) := by
  intro r b x y o hb hs hx hy ho
  unfold ys_cfo32 at ho
  split at ho
  · rename_i h1 h2
    cases Option.some.inj ho
    refine ⟨trivial, ys_Op_same hb hs (ys_stb_cst _) ?_⟩
    show Int32.ofInt (ys_ev r (ys_cst _)) = _
    rw [ys_cst_ev, ys_ev_nil r h1, ys_ev_nil r h2, Int32.ofInt_toInt]
  · exact h r b x y o hb hs hx hy ho
theorem ys_cfo64_ok {op : Int64 → Int64 → Int64} {F : ys_B → ys_L → ys_L → Option (ys_B × ys_L)} (h : ys_B64 F op (fun _ => True)) : ys_B64 (ys_cfo64 op F) op (fun _ => True) := by
  intro r b x y o hb hs hx hy ho
  unfold ys_cfo64 at ho
  split at ho
  · rename_i h1 h2
    cases Option.some.inj ho
    refine ⟨trivial, ys_Op_same hb hs (ys_stb_cst _) ?_⟩
    show Int64.ofInt (ys_ev r (ys_cst _)) = _
    rw [ys_cst_ev, ys_ev_nil r h1, ys_ev_nil r h2, Int64.ofInt_toInt]
  · exact h r b x y o hb hs hx hy ho
theorem ys_cfoLI_ok {op : Int64 → Int32 → Int64} {F : ys_B → ys_L → ys_L → Option (ys_B × ys_L)} (h : ys_BLI F op) : ys_BLI (ys_cfoLI op F) op := by
  intro r b x y o hb hs hx hy ho
  unfold ys_cfoLI at ho
  split at ho
  · rename_i h1 h2
    cases Option.some.inj ho
    refine ys_Op_same hb hs (ys_stb_cst _) ?_
    show Int64.ofInt (ys_ev r (ys_cst _)) = _
    rw [ys_cst_ev, ys_ev_nil r h1, ys_ev_nil r h2, Int64.ofInt_toInt]
  · exact h r b x y o hb hs hx hy ho
noncomputable def ys_g1 {α : Type} (n k : Nat) (x : Option α) : Option α := if n = k then x else none
theorem ys_g1_ok {α : Type} {n k : Nat} {x : Option α} {y : α} (h : ys_g1 n k x = some y) : n = k ∧ x = some y := by
  unfold ys_g1 at h
  split at h
  · rename_i e
    exact ⟨e, h⟩
  · cases h
abbrev ys_CA : Type := List ((Nat × Bool) × ys_K)
noncomputable def ys_hinv (fr lo : Nat) (mods : List Nat) (idx : Nat) (st : Bool) (pc : Nat) (b : ys_B) (fds : ys_F) (lv : List (Nat × ys_V)) (sv : List ys_V) : ys_CA → Option (List (Nat × ys_S))
  | [] => none
  | q :: t => if q.1 = (idx, st) then (match ys_hcall fr lo mods q.2 pc b fds lv sv with
    | some x => some x
    | none => ys_hinv fr lo mods idx st pc b fds lv sv t) else ys_hinv fr lo mods idx st pc b fds lv sv t
noncomputable def ys_hldc (tab : List (Nat × Int)) (idx : Nat) (w : Bool) (pc : Nat) (b : ys_B) (fds : ys_F) (lv : List (Nat × ys_V)) (sv : List ys_V) : Option (List (Nat × ys_S)) := match tab.lookup idx with
  | some z => some [(pc, b, fds, lv, (if w then .inl (.inr ([], z)) else .inl (.inl ([], z))) :: sv)]
  | none => none
noncomputable def ys_iret (K : ys_K) (b : ys_B) (fds : ys_F) (sv : List ys_V) : Option (List (Nat × ys_S)) := match sv with
  | [.inl (.inl x)] => if (decide (K.1.1.2.2.2 = some .int) || (decide (K.1.1.2.2.2 = some .boolean) && (ys_geb b.1 x 0 && ys_geb b.1 (ys_scale (-1) x) (-1)))) && ys_hret K.2.1.2.1.1.length K b fds (some (.inl (.inl x))) then some [] else none
  | _ => none
noncomputable def ys_lret (K : ys_K) (b : ys_B) (fds : ys_F) (sv : List ys_V) : Option (List (Nat × ys_S)) := match sv with
  | [.inl (.inr x)] => if decide (K.1.1.2.2.2 = some .long) && ys_hret K.2.1.2.1.1.length K b fds (some (.inl (.inr x))) then some [] else none
  | _ => none
noncomputable def ys_vret (K : ys_K) (b : ys_B) (fds : ys_F) (sv : List ys_V) : Option (List (Nat × ys_S)) := match sv with
  | [] => if decide (K.1.1.2.2.2 = none) && ys_hret K.2.1.2.1.1.length K b fds none then some [] else none
  | _ => none
noncomputable def ys_or {α : Type} (x y : Option α) : Option α := match x with
  | some z => some z
  | none => y
noncomputable def ys_stp (sh : List ys_C) (fl : ys_FL) (ci cj : List (Nat × Int)) (calls : ys_CA) (cps : List Nat) (K : ys_K) (nx : Nat → Option (Instr × Nat)) (pc : Nat) (b : ys_B) (fds : ys_F) (lv : List (Nat × ys_V)) (sv : List ys_V) (i : Instr) (n : Nat) : Option (List (Nat × ys_S)) := match i with
  | .iconst z => ys_g1 n 1 (ys_hpush (pc + 1) b fds lv sv (.inl (.inl ([], z))))
  | .lconst z => ys_g1 n 1 (ys_hpush (pc + 1) b fds lv sv (.inl (.inr ([], ((z : Nat) : Int)))))
  | .bipush z => if -128 ≤ z ∧ z ≤ 127 then ys_g1 n 2 (ys_hpush (pc + 2) b fds lv sv (.inl (.inl ([], z)))) else none
  | .sipush z => if -32768 ≤ z ∧ z ≤ 32767 then ys_g1 n 3 (ys_hpush (pc + 3) b fds lv sv (.inl (.inl ([], z)))) else none
  | .ldc k => ys_g1 n 2 (ys_hldc ci k false (pc + 2) b fds lv sv)
  | .ldc_w k => ys_g1 n 3 (ys_hldc ci k false (pc + 3) b fds lv sv)
  | .ldc2_w k => ys_g1 n 3 (ys_hldc cj k true (pc + 3) b fds lv sv)
  | .iload_n k => ys_g1 n 1 (ys_hload 0 k (pc + 1) b fds lv sv)
  | .iload k => ys_g1 n 2 (ys_hload 0 k (pc + 2) b fds lv sv)
  | .lload_n k => ys_g1 n 1 (ys_hload 1 k (pc + 1) b fds lv sv)
  | .lload k => ys_g1 n 2 (ys_hload 1 k (pc + 2) b fds lv sv)
  | .aload_n k => ys_g1 n 1 (ys_hload 2 k (pc + 1) b fds lv sv)
  | .aload k => ys_g1 n 2 (ys_hload 2 k (pc + 2) b fds lv sv)
  | .istore_n k => ys_g1 n 1 (ys_hstore 0 K.1.1.2.2.1 k (pc + 1) b fds lv sv)
  | .istore k => ys_g1 n 2 (ys_hstore 0 K.1.1.2.2.1 k (pc + 2) b fds lv sv)
  | .lstore_n k => ys_g1 n 1 (ys_hstore 1 K.1.1.2.2.1 k (pc + 1) b fds lv sv)
  | .lstore k => ys_g1 n 2 (ys_hstore 1 K.1.1.2.2.1 k (pc + 2) b fds lv sv)
  | .astore_n k => ys_g1 n 1 (ys_hstore 2 K.1.1.2.2.1 k (pc + 1) b fds lv sv)
  | .astore k => ys_g1 n 2 (ys_hstore 2 K.1.1.2.2.1 k (pc + 2) b fds lv sv)
  | .iinc k z => ys_g1 n 3 (ys_hinc K.1.1.2.2.1 k z pc b fds lv sv)
  | .iadd => ys_g1 n 1 (ys_hb32 (ys_fadd false) pc b fds lv sv)
  | .isub => ys_g1 n 1 (ys_hb32 (ys_fsub false) pc b fds lv sv)
  | .imul => ys_g1 n 1 (ys_hb32 (ys_fmul false) pc b fds lv sv)
  | .iand => ys_g1 n 1 (ys_hb32 (ys_cfo32 (fun x y => x &&& y) (ys_fand false)) pc b fds lv sv)
  | .ior => ys_g1 n 1 (ys_hb32 (ys_cfo32 (fun x y => x ||| y) ys_for) pc b fds lv sv)
  | .ixor => ys_g1 n 1 (ys_hb32 (ys_cfo32 (fun x y => x ^^^ y) ys_fxor) pc b fds lv sv)
  | .ishl => ys_g1 n 1 (ys_hb32 (ys_cfo32 (fun x y => x <<< (y &&& 31)) (ys_fshl false)) pc b fds lv sv)
  | .ishr => ys_g1 n 1 (ys_hb32 (ys_cfo32 (fun x y => x >>> (y &&& 31)) ys_fshr) pc b fds lv sv)
  | .iushr => ys_g1 n 1 (ys_hb32 (ys_cfo32 (fun x y => (x.toUInt32 >>> (y.toUInt32 &&& Int32.toUInt32 31)).toInt32) (ys_fany false)) pc b fds lv sv)
  | .idiv => ys_g1 n 1 (ys_hqs (ys_fdiv false) pc b fds lv sv)
  | .irem => ys_g1 n 1 (ys_hqs (ys_frem false) pc b fds lv sv)
  | .ineg => ys_g1 n 1 (ys_hu32 (ys_fneg false) pc b fds lv sv)
  | .i2b => ys_g1 n 1 (ys_hu32 (ys_fcut 7) pc b fds lv sv)
  | .i2s => ys_g1 n 1 (ys_hu32 (ys_fcut 15) pc b fds lv sv)
  | .i2l => ys_g1 n 1 (ys_hi2l pc b fds lv sv)
  | .l2i => ys_g1 n 1 (ys_hl2i pc b fds lv sv)
  | .ladd => ys_g1 n 1 (ys_hb64 (ys_fadd true) pc b fds lv sv)
  | .lsub => ys_g1 n 1 (ys_hb64 (ys_fsub true) pc b fds lv sv)
  | .lmul => ys_g1 n 1 (ys_hb64 (ys_fmul true) pc b fds lv sv)
  | .land => ys_g1 n 1 (ys_hb64 (ys_cfo64 (fun x y => x &&& y) (ys_fand true)) pc b fds lv sv)
  | .lor => ys_g1 n 1 (ys_hb64 (ys_cfo64 (fun x y => x ||| y) (ys_fany true)) pc b fds lv sv)
  | .lxor => ys_g1 n 1 (ys_hb64 (ys_cfo64 (fun x y => x ^^^ y) (ys_fany true)) pc b fds lv sv)
  | .ldiv => ys_g1 n 1 (ys_hb64 (ys_fdiv true) pc b fds lv sv)
  | .lrem => ys_g1 n 1 (ys_hb64 (ys_frem true) pc b fds lv sv)
  | .lneg => ys_g1 n 1 (ys_hu64 (ys_fneg true) pc b fds lv sv)
  | .lshl => ys_g1 n 1 (ys_hbLI (ys_cfoLI (fun x y => x <<< (y.toInt64 &&& 63)) (ys_fshl true)) pc b fds lv sv)
  | .lshr => ys_g1 n 1 (ys_hbLI (ys_cfoLI (fun x y => x >>> (y.toInt64 &&& 63)) (ys_fany true)) pc b fds lv sv)
  | .lushr => ys_g1 n 1 (ys_hbLI (ys_cfoLI (fun x y => (x.toUInt64 >>> (y.toInt64.toUInt64 &&& Int64.toUInt64 63)).toInt64) (ys_fany true)) pc b fds lv sv)
  | .lcmp => ys_g1 n 1 (ys_hlcmp (nx (pc + 1)) pc b fds lv sv)
  | .if_icmp cd off => ys_g1 n 3 (ys_hcmp cd off pc b fds lv sv)
  | .ifCond cd off => ys_g1 n 3 (ys_hif cd off pc b fds lv sv)
  | .goto off => ys_g1 n 3 (ys_hgoto off pc b fds lv sv)
  | .tableswitch dflt lo hi offs => ys_htab dflt lo hi offs pc b fds lv sv
  | .lookupswitch dflt ps => ys_hlook dflt ps pc b fds lv sv
  | .dup => ys_g1 n 1 (ys_hdup pc b fds lv sv)
  | .dup2 => ys_g1 n 1 (ys_hdup2 pc b fds lv sv)
  | .pop => ys_g1 n 1 (ys_hpop pc b fds lv sv)
  | .pop2 => ys_g1 n 1 (ys_hpop2 pc b fds lv sv)
  | .getfield k => ys_g1 n 3 (ys_hget sh fl k pc b fds lv sv)
  | .putfield k => ys_g1 n 3 (ys_hput sh fl k pc b fds lv sv)
  | .iaload => ys_g1 n 1 (ys_hiald sh pc b fds lv sv)
  | .laload => ys_g1 n 1 (ys_hlald sh pc b fds lv sv)
  | .baload => ys_g1 n 1 (ys_or (ys_hbald sh pc b fds lv sv) (ys_hzald sh pc b fds lv sv))
  | .aaload => ys_g1 n 1 (ys_haald sh pc b fds lv sv)
  | .iastore => ys_g1 n 1 (ys_hiast sh K.2.2.2 pc b fds lv sv)
  | .lastore => ys_g1 n 1 (ys_hlast sh K.2.2.2 pc b fds lv sv)
  | .bastore => ys_g1 n 1 (ys_or (ys_hbast sh K.2.2.2 pc b fds lv sv) (ys_hzast sh K.2.2.2 pc b fds lv sv))
  | .arraylength => ys_g1 n 1 (ys_halen sh pc b fds lv sv)
  | .invokevirtual k => ys_g1 n 3 (ys_hinv K.1.2.1 K.1.2.2 K.2.2.2 k false pc b fds lv sv calls)
  | .invokestatic k => if 100000 ≤ k then none else if cps.contains k && decide (1 ≤ K.1.2.1) then ys_g1 n 3 (ys_hcopy K.1.2.2 sh K.2.2.2 pc b fds lv sv) else if cps.contains (100000 + k) then ys_g1 n 3 (ys_hmm true K.1.2.1 K.1.2.2 pc b fds lv sv) else if cps.contains (200000 + k) then ys_g1 n 3 (ys_hmm false K.1.2.1 K.1.2.2 pc b fds lv sv) else ys_g1 n 3 (ys_hinv K.1.2.1 K.1.2.2 K.2.2.2 k true pc b fds lv sv calls)
  | .ireturn => ys_g1 n 1 (ys_iret K b fds sv)
  | .lreturn => ys_g1 n 1 (ys_lret K b fds sv)
  | .return_ => ys_g1 n 1 (ys_vret K b fds sv)
  | _ => none
noncomputable def ys_Ty (tys : List (ClassId × FieldType)) (cT : Nat → ClassId) (sh : List ys_C) : Prop := tys[0]? = some (cT 0, .int) ∧ tys[1]? = some (cT 1, .long) ∧ tys[2]? = some (cT 2, .byte) ∧ tys[3]? = some (cT 3, .boolean) ∧ (∀ (k : Nat) (y : Nat × Nat × List Nat), sh[k]? = some (.inr y) → ∃ t, tys[y.1]? = some (cT y.1, t)) ∧ ∀ (k : Nat) (y : Nat × Nat × List Nat), sh[k]? = some (.inr y) → 4 ≤ y.1 → ∃ C, tys[y.1]? = some (cT y.1, .object C)
/-- what the code's links say -/
noncomputable def ys_Lk (own : String) (Ts : List Cond) (cl : List vw_C) (fl : ys_FL) (ci cj : List (Nat × Int)) (cps : List Nat) : Prop := (∀ idx c j tk, fl.lookup idx = some (c, j, tk) → ys_Fl own Ts cl idx c j tk) ∧ (∀ idx z, ci.lookup idx = some z → Cond.constant own idx (Int32.ofInt z) ∈ Ts) ∧ (∀ idx z, cj.lookup idx = some z → Cond.constantLong own idx (Int64.ofInt z) ∈ Ts) ∧ ∀ v, v ∈ cps → ys_Cp own Ts v
section YSD
variable {p : Program} {l : Launch} {e : Env} {R : Room} {s : State} {m : MethodId} {args : Array Value} {below : List Frame} {meth : Method} {c : Code} {Q : State → Prop} {kc kz : Nat} {D : va_G} {cl : List vw_C} {ad : Nat → Nat} {cT : Nat → ClassId} {sh : List ys_C} {A : Nat → Prop} {H0 : Heap} {nL : Nat} {mods : List Nat} {g0 : Nat → Nat → Int} {r0 : Nat → Int} {E : Nat} {pc : Nat} {b : ys_B} {fds : ys_F} {lv : List (Nat × ys_V)} {sv : List ys_V} {succ : List (Nat × ys_S)} {cc : ByteArray} {own : String} {Ts : List Cond} {tys : List (ClassId × FieldType)}
variable {G : List Cond} {K : ys_K} {fl : ys_FL} {ci cj : List (Nat × Int)} {calls : ys_CA} {cps : List Nat} {nx : Nat → Option (Instr × Nat)} {rr : Nat → Int}
theorem ys_kinv {idx : Nat} {st : Bool} {fr lo : Nat} (S : CallFix p m c cc nL s args Ts own) (hK : va_K D cl tys s) (hA0 : ∀ q, H0.size ≤ q → A q) (hfr : fr ≤ R.frames) (hlo : lo ≤ R.locals) (hkk : kc ≤ R.cells ∧ kz ≤ R.slots) (hd : decode cc pc = .ok (if st = true then .invokestatic idx else .invokevirtual idx, 3)) (k : ∀ q ∈ succ, ys_W p l e R s m args below meth c Q kc kz D cl ad cT sh A H0 nL mods g0 r0 E q.1 q.2) : ∀ (cs : ys_CA), (∀ q ∈ cs, ys_Con l D cl ad cT sh tys G q.2 ∧ ys_CL own Ts cl sh G (if q.1.2 = true then .invokestatic q.1.1 else .invokevirtual q.1.1) q.2) → ys_hinv fr lo mods idx st pc b fds lv sv cs = some succ → ys_W p l e R s m args below meth c Q kc kz D cl ad cT sh A H0 nL mods g0 r0 E pc (b, fds, lv, sv)
  | [], _, hs => by cases hs
  | q :: t, hc, hs => by
    have ht : ∀ x ∈ t, ys_Con l D cl ad cT sh tys G x.2 ∧ ys_CL own Ts cl sh G (if x.1.2 = true then .invokestatic x.1.1 else .invokevirtual x.1.1) x.2 := fun x hx => hc x (List.mem_cons_of_mem _ hx)
    unfold ys_hinv at hs
    split at hs
    · rename_i he
      split at hs
      · rename_i x hx
        cases Option.some.inj hs
        obtain ⟨h1, h2⟩ := hc q List.mem_cons_self
        rw [he] at h2
        exact ys_kcall S hK hA0 h1 h2 hd hfr hlo hkk hx k
      · exact ys_kinv S hK hA0 hfr hlo hkk hd k t ht hs
    · exact ys_kinv S hK hA0 hfr hlo hkk hd k t ht hs
theorem ys_bip {z : Int} (h1 : -128 ≤ z) (h2 : z ≤ 127) : (Int8.ofInt z).toInt32 = Int32.ofInt z := by
  apply Int32.toInt_inj.mp
  rw [Int8.toInt_toInt32, Int8.toInt_ofInt_of_le (by omega) (by omega), Int32.toInt_ofInt_of_le (by omega) (by omega)]
theorem ys_sip {z : Int} (h1 : -32768 ≤ z) (h2 : z ≤ 32767) : (Int16.ofInt z).toInt32 = Int32.ofInt z := by
  apply Int32.toInt_inj.mp
  rw [Int16.toInt_toInt32, Int16.toInt_ofInt_of_le (by omega) (by omega), Int32.toInt_ofInt_of_le (by omega) (by omega)]
theorem ys_ev0 (r : Nat → Int) (z : Int) : ys_ev r (([], z) : ys_L) = z := Int.zero_add z
theorem ys_or_ok {α : Type} {x y : Option α} {z : α} (h : ys_or x y = some z) : x = some z ∨ y = some z := by
  unfold ys_or at h
  split at h
  · exact Or.inl h
  · exact Or.inr h
noncomputable def ys_isr (i : Instr) : Bool := match i with
  | .ireturn => true
  | .lreturn => true
  | .return_ => true
  | _ => false
set_option maxHeartbeats 4000000 in
theorem ys_stp_gen {i : Instr} {n : Nat} (S : CallFix p m c cc nL s args Ts own) (hnL : K.1.1.2.2.1 = nL) (hmods : K.2.2.2 = mods) (hfr : K.1.2.1 ≤ R.frames) (hlo : K.1.2.2 ≤ R.locals) (hkk : kc ≤ R.cells ∧ kz ≤ R.slots) (hA0 : ∀ q, H0.size ≤ q → A q) (hK : va_K D cl tys s) (hty : ys_Ty tys cT sh) (hLk : ys_Lk own Ts cl fl ci cj cps) (hcalls : ∀ q ∈ calls, ys_Con l D cl ad cT sh tys G q.2 ∧ ys_CL own Ts cl sh G (if q.1.2 = true then .invokestatic q.1.1 else .invokevirtual q.1.1) q.2) (hnx : ∀ pc i, nx pc = some i → decode cc pc = .ok i) (hd : decode cc pc = .ok (i, n))
    (hs : ys_stp sh fl ci cj calls cps K nx pc b fds lv sv i n = some succ) (hret : ys_isr i = true → ys_W p l e R s m args below meth c Q kc kz D cl ad cT sh A H0 nL mods g0 r0 E pc (b, fds, lv, sv))
    (k : ∀ q ∈ succ, ys_W p l e R s m args below meth c Q kc kz D cl ad cT sh A H0 nL mods g0 r0 E q.1 q.2) : ys_W p l e R s m args below meth c Q kc kz D cl ad cT sh A H0 nL mods g0 r0 E pc (b, fds, lv, sv) := by
  subst hnL
  subst hmods
  have hexec := S.1
  have hb := S.2.1
  have hml := S.2.2.1
  have hown := S.2.2.2.1
  have hts := S.2.2.2.2
  obtain ⟨hfl, hci, hcj, hcps⟩ := hLk
  obtain ⟨t0, t1, t2, t3, t4, t5⟩ := hty
  cases i with
  | iconst z =>
    obtain ⟨e0, hs1⟩ := ys_g1_ok hs
    subst e0
    clear hs
    exact ys_kpush (v := .inl (.inl ([], z))) (fun _ => ys_stb_cst _) (fun r H locs ls rest kk => lv_iconst hexec hb hd (by rw [ys_ev0]) kk) hs1 k
  | lconst z =>
    obtain ⟨e0, hs1⟩ := ys_g1_ok hs
    subst e0
    clear hs
    exact ys_kpush (v := .inl (.inr ([], ((z : Nat) : Int)))) (fun _ => ys_stb_cst _) (fun r H locs ls rest kk => lv_lconst hexec hb hd (by rw [ys_ev0, Int64.ofInt_eq_ofNat]) kk) hs1 k
  | bipush z =>
    have hs : (if -128 ≤ z ∧ z ≤ 127 then ys_g1 n 2 (ys_hpush (pc + 2) b fds lv sv (.inl (.inl ([], z)))) else none) = some succ := hs
    split at hs
    · rename_i hz
      obtain ⟨e0, hs1⟩ := ys_g1_ok hs
      subst e0
      clear hs
      exact ys_kpush (v := .inl (.inl ([], z))) (fun _ => ys_stb_cst _) (fun r H locs ls rest kk => lv_bipush hexec hb hd (by rw [ys_ev0]; exact ys_bip hz.1 hz.2) kk) hs1 k
    · cases hs
  | sipush z =>
    have hs : (if -32768 ≤ z ∧ z ≤ 32767 then ys_g1 n 3 (ys_hpush (pc + 3) b fds lv sv (.inl (.inl ([], z)))) else none) = some succ := hs
    split at hs
    · rename_i hz
      obtain ⟨e0, hs1⟩ := ys_g1_ok hs
      subst e0
      clear hs
      exact ys_kpush (v := .inl (.inl ([], z))) (fun _ => ys_stb_cst _) (fun r H locs ls rest kk => lv_sipush hexec hb hd (by rw [ys_ev0]; exact ys_sip hz.1 hz.2) kk) hs1 k
    · cases hs
  | ldc x =>
    obtain ⟨e0, hs1⟩ := ys_g1_ok hs
    subst e0
    clear hs
    unfold ys_hldc at hs1
    split at hs1
    · rename_i z hz
      exact ys_kpush (v := .inl (.inl ([], z))) (fun _ => ys_stb_cst _) (fun r H locs ls rest kk => lv_ldc hexec hb hown (hts _ (hci _ _ hz)) hd (by rw [← ys_ev0 r z]; exact kk)) hs1 k
    · cases hs1
  | ldc_w x =>
    obtain ⟨e0, hs1⟩ := ys_g1_ok hs
    subst e0
    clear hs
    unfold ys_hldc at hs1
    split at hs1
    · rename_i z hz
      exact ys_kpush (v := .inl (.inl ([], z))) (fun _ => ys_stb_cst _) (fun r H locs ls rest kk => lv_ldcw hexec hb hown (hts _ (hci _ _ hz)) hd (by rw [← ys_ev0 r z]; exact kk)) hs1 k
    · cases hs1
  | ldc2_w x =>
    obtain ⟨e0, hs1⟩ := ys_g1_ok hs
    subst e0
    clear hs
    unfold ys_hldc at hs1
    split at hs1
    · rename_i z hz
      exact ys_kpush (v := .inl (.inr ([], z))) (fun _ => ys_stb_cst _) (fun r H locs ls rest kk => lv_ldc2 hexec hb hown (hts _ (hcj _ _ hz)) hd (by rw [← ys_ev0 r z]; exact kk)) hs1 k
    · cases hs1

  | iload_n x =>
    obtain ⟨e0, hs1⟩ := ys_g1_ok hs
    subst e0
    clear hs
    exact ys_kload (fun r v H locs ls rest hk hl kk => by
      obtain ⟨y, rfl⟩ := ys_kind0 hk
      exact lv_iload_n hexec hb hd rfl hl kk) hs1 k
  | lload_n x =>
    obtain ⟨e0, hs1⟩ := ys_g1_ok hs
    subst e0
    clear hs
    exact ys_kload (fun r v H locs ls rest hk hl kk => by
      obtain ⟨y, rfl⟩ := ys_kind1 hk
      exact lv_lload_n hexec hb hd rfl hl kk) hs1 k
  | aload_n x =>
    obtain ⟨e0, hs1⟩ := ys_g1_ok hs
    subst e0
    clear hs
    exact ys_kload (fun r v H locs ls rest hk hl kk => by
      obtain ⟨y, rfl⟩ := ys_kind2 hk
      exact lv_aload_n hexec hb hd rfl hl kk) hs1 k
  | iload x =>
    obtain ⟨e0, hs1⟩ := ys_g1_ok hs
    subst e0
    clear hs
    exact ys_kload (fun r v H locs ls rest hk hl kk => by
      obtain ⟨y, rfl⟩ := ys_kind0 hk
      exact lv_iload hexec hb hd hl kk) hs1 k
  | lload x =>
    obtain ⟨e0, hs1⟩ := ys_g1_ok hs
    subst e0
    clear hs
    exact ys_kload (fun r v H locs ls rest hk hl kk => by
      obtain ⟨y, rfl⟩ := ys_kind1 hk
      exact lv_lload hexec hb hd hl kk) hs1 k
  | aload x =>
    obtain ⟨e0, hs1⟩ := ys_g1_ok hs
    subst e0
    clear hs
    exact ys_kload (fun r v H locs ls rest hk hl kk => by
      obtain ⟨y, rfl⟩ := ys_kind2 hk
      exact lv_aload hexec hb hd hl kk) hs1 k
  | istore_n x =>
    obtain ⟨e0, hs1⟩ := ys_g1_ok hs
    subst e0
    clear hs
    exact ys_kstore (fun r v H locs ls rest hk hl hi kk => by
      obtain ⟨y, rfl⟩ := ys_kind0 hk
      exact lv_istore_n (lv' := ys_lvs ad r (ys_st1 lv x (.inl (.inl y)))) hexec hb hd rfl hl hi (ys_st1_lvs ad r lv x (.inl (.inl y))).symm kk) hs1 k
  | lstore_n x =>
    obtain ⟨e0, hs1⟩ := ys_g1_ok hs
    subst e0
    clear hs
    exact ys_kstore (fun r v H locs ls rest hk hl hi kk => by
      obtain ⟨y, rfl⟩ := ys_kind1 hk
      exact lv_lstore_n (lv' := ys_lvs ad r (ys_st2 lv x (.inl (.inr y)))) hexec hb hd rfl hl hi (ys_st2_lvs ad r lv x (.inl (.inr y))).symm kk) hs1 k
  | astore_n x =>
    obtain ⟨e0, hs1⟩ := ys_g1_ok hs
    subst e0
    clear hs
    exact ys_kstore (fun r v H locs ls rest hk hl hi kk => by
      obtain ⟨y, rfl⟩ := ys_kind2 hk
      exact lv_astore_n (lv' := ys_lvs ad r (ys_st1 lv x (.inr (some y)))) hexec hb hd rfl hl hi (ys_st1_lvs ad r lv x (.inr (some y))).symm kk) hs1 k
  | istore x =>
    obtain ⟨e0, hs1⟩ := ys_g1_ok hs
    subst e0
    clear hs
    exact ys_kstore (fun r v H locs ls rest hk hl hi kk => by
      obtain ⟨y, rfl⟩ := ys_kind0 hk
      exact lv_istore (lv' := ys_lvs ad r (ys_st1 lv x (.inl (.inl y)))) hexec hb hd hl hi (ys_st1_lvs ad r lv x (.inl (.inl y))).symm kk) hs1 k
  | lstore x =>
    obtain ⟨e0, hs1⟩ := ys_g1_ok hs
    subst e0
    clear hs
    exact ys_kstore (fun r v H locs ls rest hk hl hi kk => by
      obtain ⟨y, rfl⟩ := ys_kind1 hk
      exact lv_lstore (lv' := ys_lvs ad r (ys_st2 lv x (.inl (.inr y)))) hexec hb hd hl hi (ys_st2_lvs ad r lv x (.inl (.inr y))).symm kk) hs1 k
  | astore x =>
    obtain ⟨e0, hs1⟩ := ys_g1_ok hs
    subst e0
    clear hs
    exact ys_kstore (fun r v H locs ls rest hk hl hi kk => by
      obtain ⟨y, rfl⟩ := ys_kind2 hk
      exact lv_astore (lv' := ys_lvs ad r (ys_st1 lv x (.inr (some y)))) hexec hb hd hl hi (ys_st1_lvs ad r lv x (.inr (some y))).symm kk) hs1 k
  | iinc x z =>
    obtain ⟨e0, hs1⟩ := ys_g1_ok hs
    subst e0
    clear hs
    exact ys_kinc hexec hb hd hs1 k
  | iadd =>
    obtain ⟨e0, hs1⟩ := ys_g1_ok hs
    subst e0
    clear hs
    exact ys_kb32 ys_fadd32 (fun X Y H locs ls rest hok kk => lv_iadd hexec hb hd kk) hs1 k
  | isub =>
    obtain ⟨e0, hs1⟩ := ys_g1_ok hs
    subst e0
    clear hs
    exact ys_kb32 ys_fsub32 (fun X Y H locs ls rest hok kk => lv_isub hexec hb hd kk) hs1 k
  | imul =>
    obtain ⟨e0, hs1⟩ := ys_g1_ok hs
    subst e0
    clear hs
    exact ys_kb32 ys_fmul32 (fun X Y H locs ls rest hok kk => lv_imul hexec hb hd kk) hs1 k
  | iand =>
    obtain ⟨e0, hs1⟩ := ys_g1_ok hs
    subst e0
    clear hs
    exact ys_kb32 (ys_cfo32_ok ys_fand32) (fun X Y H locs ls rest hok kk => lv_iand hexec hb hd kk) hs1 k
  | ior =>
    obtain ⟨e0, hs1⟩ := ys_g1_ok hs
    subst e0
    clear hs
    exact ys_kb32 (ys_cfo32_ok ys_or32) (fun X Y H locs ls rest hok kk => lv_ior hexec hb hd kk) hs1 k
  | ixor =>
    obtain ⟨e0, hs1⟩ := ys_g1_ok hs
    subst e0
    clear hs
    exact ys_kb32 (ys_cfo32_ok ys_fxor32) (fun X Y H locs ls rest hok kk => lv_ixor hexec hb hd kk) hs1 k
  | ishl =>
    obtain ⟨e0, hs1⟩ := ys_g1_ok hs
    subst e0
    clear hs
    exact ys_kb32 (ys_cfo32_ok ys_fshl32) (fun X Y H locs ls rest hok kk => lv_ishl hexec hb hd kk) hs1 k
  | ishr =>
    obtain ⟨e0, hs1⟩ := ys_g1_ok hs
    subst e0
    clear hs
    exact ys_kb32 (ys_cfo32_ok ys_fshr32) (fun X Y H locs ls rest hok kk => lv_ishr hexec hb hd kk) hs1 k
  | iushr =>
    obtain ⟨e0, hs1⟩ := ys_g1_ok hs
    subst e0
    clear hs
    exact ys_kb32 (ys_cfo32_ok (ys_fany32 _)) (fun X Y H locs ls rest hok kk => lv_iushr hexec hb hd rfl kk) hs1 k
  | idiv =>
    obtain ⟨e0, hs1⟩ := ys_g1_ok hs
    subst e0
    clear hs
    exact ys_kqs ys_fdiv32 (fun X Y H locs ls rest hok kk => lv_idiv hexec hb hd hok kk) hs1 k
  | irem =>
    obtain ⟨e0, hs1⟩ := ys_g1_ok hs
    subst e0
    clear hs
    exact ys_kqs ys_frem32 (fun X Y H locs ls rest hok kk => lv_irem hexec hb hd hok kk) hs1 k
  | ladd =>
    obtain ⟨e0, hs1⟩ := ys_g1_ok hs
    subst e0
    clear hs
    exact ys_kb64 ys_fadd64 (fun X Y H locs ls rest hok kk => lv_ladd hexec hb hd kk) hs1 k
  | lsub =>
    obtain ⟨e0, hs1⟩ := ys_g1_ok hs
    subst e0
    clear hs
    exact ys_kb64 ys_fsub64 (fun X Y H locs ls rest hok kk => lv_lsub hexec hb hd kk) hs1 k
  | lmul =>
    obtain ⟨e0, hs1⟩ := ys_g1_ok hs
    subst e0
    clear hs
    exact ys_kb64 ys_fmul64 (fun X Y H locs ls rest hok kk => lv_lmul hexec hb hd kk) hs1 k
  | land =>
    obtain ⟨e0, hs1⟩ := ys_g1_ok hs
    subst e0
    clear hs
    exact ys_kb64 (ys_cfo64_ok ys_fand64) (fun X Y H locs ls rest hok kk => lv_land hexec hb hd kk) hs1 k
  | lor =>
    obtain ⟨e0, hs1⟩ := ys_g1_ok hs
    subst e0
    clear hs
    exact ys_kb64 (ys_cfo64_ok (ys_fany64 _)) (fun X Y H locs ls rest hok kk => lv_lor hexec hb hd kk) hs1 k
  | lxor =>
    obtain ⟨e0, hs1⟩ := ys_g1_ok hs
    subst e0
    clear hs
    exact ys_kb64 (ys_cfo64_ok (ys_fany64 _)) (fun X Y H locs ls rest hok kk => lv_lxor hexec hb hd kk) hs1 k
  | ldiv =>
    obtain ⟨e0, hs1⟩ := ys_g1_ok hs
    subst e0
    clear hs
    exact ys_kb64 ys_fdiv64 (fun X Y H locs ls rest hok kk => lv_ldiv hexec hb hd hok kk) hs1 k
  | lrem =>
    obtain ⟨e0, hs1⟩ := ys_g1_ok hs
    subst e0
    clear hs
    exact ys_kb64 ys_frem64 (fun X Y H locs ls rest hok kk => lv_lrem hexec hb hd hok kk) hs1 k
  | lshl =>
    obtain ⟨e0, hs1⟩ := ys_g1_ok hs
    subst e0
    clear hs
    exact ys_kbLI (ys_cfoLI_ok ys_fshl64) (fun X Y H locs ls rest kk => lv_lshl hexec hb hd rfl kk) hs1 k
  | lshr =>
    obtain ⟨e0, hs1⟩ := ys_g1_ok hs
    subst e0
    clear hs
    exact ys_kbLI (ys_cfoLI_ok (ys_fanyLI _)) (fun X Y H locs ls rest kk => lv_lshr hexec hb hd rfl kk) hs1 k
  | lushr =>
    obtain ⟨e0, hs1⟩ := ys_g1_ok hs
    subst e0
    clear hs
    exact ys_kbLI (ys_cfoLI_ok (ys_fanyLI _)) (fun X Y H locs ls rest kk => lv_lushr hexec hb hd rfl kk) hs1 k
  | ineg =>
    obtain ⟨e0, hs1⟩ := ys_g1_ok hs
    subst e0
    clear hs
    exact ys_ku32 (fun r b x h1 h2 h3 => ys_fneg32 h1 h2 h3) (fun X H locs ls rest kk => lv_ineg hexec hb hd kk) hs1 k
  | i2b =>
    obtain ⟨e0, hs1⟩ := ys_g1_ok hs
    subst e0
    clear hs
    exact ys_ku32 (fun r b x h1 h2 h3 => ys_fi2b h1 h2 h3) (fun X H locs ls rest kk => lv_i2b hexec hb hd rfl kk) hs1 k
  | i2s =>
    obtain ⟨e0, hs1⟩ := ys_g1_ok hs
    subst e0
    clear hs
    exact ys_ku32 (fun r b x h1 h2 h3 => ys_fi2s h1 h2 h3) (fun X H locs ls rest kk => lv_i2s hexec hb hd rfl kk) hs1 k
  | lneg =>
    obtain ⟨e0, hs1⟩ := ys_g1_ok hs
    subst e0
    clear hs
    exact ys_ku64 (fun r b x h1 h2 h3 => ys_fneg64 h1 h2 h3) (fun X H locs ls rest kk => lv_lneg hexec hb hd kk) hs1 k
  | i2l =>
    obtain ⟨e0, hs1⟩ := ys_g1_ok hs
    subst e0
    clear hs
    exact ys_ki2l hexec hb hd hs1 k
  | l2i =>
    obtain ⟨e0, hs1⟩ := ys_g1_ok hs
    subst e0
    clear hs
    exact ys_kl2i hexec hb hd hs1 k
  | lcmp =>
    obtain ⟨e0, hs1⟩ := ys_g1_ok hs
    subst e0
    clear hs
    exact ys_klcmp hexec hb hd (fun i hi => hnx _ _ hi) hs1 k
  | if_icmp cd off =>
    obtain ⟨e0, hs1⟩ := ys_g1_ok hs
    subst e0
    clear hs
    exact ys_kcmp hexec hb hd hs1 k
  | ifCond cd off =>
    obtain ⟨e0, hs1⟩ := ys_g1_ok hs
    subst e0
    clear hs
    exact ys_kif hexec hb hd hs1 k
  | goto off =>
    obtain ⟨e0, hs1⟩ := ys_g1_ok hs
    subst e0
    clear hs
    exact ys_kgoto hexec hb hd hs1 k
  | tableswitch dflt lo hi offs => exact ys_ktab hexec hb hd hs k
  | lookupswitch dflt ps => exact ys_klook hexec hb hd hs k
  | dup =>
    obtain ⟨e0, hs1⟩ := ys_g1_ok hs
    subst e0
    clear hs
    exact ys_kdup hexec hb hd hs1 k
  | dup2 =>
    obtain ⟨e0, hs1⟩ := ys_g1_ok hs
    subst e0
    clear hs
    exact ys_kdup2 hexec hb hd hs1 k
  | pop =>
    obtain ⟨e0, hs1⟩ := ys_g1_ok hs
    subst e0
    clear hs
    exact ys_kpop hexec hb hd hs1 k
  | pop2 =>
    obtain ⟨e0, hs1⟩ := ys_g1_ok hs
    subst e0
    clear hs
    exact ys_kpop2 hexec hb hd hs1 k
  | getfield x =>
    obtain ⟨e0, hs1⟩ := ys_g1_ok hs
    subst e0
    clear hs
    exact ys_kget hexec hb hts hown hK hfl hd hs1 k
  | putfield x =>
    obtain ⟨e0, hs1⟩ := ys_g1_ok hs
    subst e0
    clear hs
    exact ys_kput hexec hb hts hown hK hfl hd hs1 k
  | iaload =>
    obtain ⟨e0, hs1⟩ := ys_g1_ok hs
    subst e0
    clear hs
    exact ys_kiald hexec hb hK t0 hd hs1 k
  | laload =>
    obtain ⟨e0, hs1⟩ := ys_g1_ok hs
    subst e0
    clear hs
    exact ys_klald hexec hb hK t1 hd hs1 k
  | baload =>
    obtain ⟨e0, hs1⟩ := ys_g1_ok hs
    subst e0
    clear hs
    rcases ys_or_ok hs1 with hs1 | hs1
    · exact ys_kbald hexec hb hK t2 hd hs1 k
    · exact ys_kzald hexec hb hK t3 hd hs1 k
  | aaload =>
    obtain ⟨e0, hs1⟩ := ys_g1_ok hs
    subst e0
    clear hs
    exact ys_kaald hexec hb hK t5 hd hs1 k
  | iastore =>
    obtain ⟨e0, hs1⟩ := ys_g1_ok hs
    subst e0
    clear hs
    exact ys_kiast hexec hb hK t0 hd hs1 k
  | lastore =>
    obtain ⟨e0, hs1⟩ := ys_g1_ok hs
    subst e0
    clear hs
    exact ys_klast hexec hb hK t1 hd hs1 k
  | bastore =>
    obtain ⟨e0, hs1⟩ := ys_g1_ok hs
    subst e0
    clear hs
    rcases ys_or_ok hs1 with hs1 | hs1
    · exact ys_kbast hexec hb hK t2 hd hs1 k
    · exact ys_kzast hexec hb hK t3 hd hs1 k
  | arraylength =>
    obtain ⟨e0, hs1⟩ := ys_g1_ok hs
    subst e0
    clear hs
    exact ys_kalen hexec hb hK t4 hd hs1 k
  | invokevirtual x =>
    obtain ⟨e0, hs1⟩ := ys_g1_ok hs
    subst e0
    clear hs
    exact ys_kinv (st := false) S hK hA0 hfr hlo hkk hd k calls hcalls hs1
  | invokestatic x =>
    have hs : (if 100000 ≤ x then none else if cps.contains x && decide (1 ≤ K.1.2.1) then ys_g1 n 3 (ys_hcopy K.1.2.2 sh K.2.2.2 pc b fds lv sv) else if cps.contains (100000 + x) then ys_g1 n 3 (ys_hmm true K.1.2.1 K.1.2.2 pc b fds lv sv) else if cps.contains (200000 + x) then ys_g1 n 3 (ys_hmm false K.1.2.1 K.1.2.2 pc b fds lv sv) else ys_g1 n 3 (ys_hinv K.1.2.1 K.1.2.2 K.2.2.2 x true pc b fds lv sv calls)) = some succ := hs
    split at hs
    · cases hs
    rename_i hx5
    split at hs
    · rename_i hc
      rw [Bool.and_eq_true, decide_eq_true_eq] at hc
      obtain ⟨e0, hs1⟩ := ys_g1_ok hs
      subst e0
      have hw := hcps x (by simpa using hc.1)
      unfold ys_Cp at hw
      rw [show x / 100000 = 0 by omega] at hw
      obtain ⟨w1, w2, w3, w4⟩ := hw
      exact ys_kcopy hexec hb hml hts hown hK t0 t1 (Nat.le_trans hc.2 hfr) hlo w1 w2 w3 w4 hd hs1 k
    split at hs
    · rename_i hc
      obtain ⟨e0, hs1⟩ := ys_g1_ok hs
      subst e0
      have hw := hcps (100000 + x) (by simpa using hc)
      unfold ys_Cp at hw
      rw [show (100000 + x) / 100000 = 1 by omega, show 100000 + x - 100000 = x by omega] at hw
      exact ys_kmm (mx := true) hexec hb hml hts hown hfr hlo hkk hw hd hs1 k
    split at hs
    · rename_i hc
      obtain ⟨e0, hs1⟩ := ys_g1_ok hs
      subst e0
      have hw := hcps (200000 + x) (by simpa using hc)
      unfold ys_Cp at hw
      rw [show (200000 + x) / 100000 = 2 by omega, show 200000 + x - 200000 = x by omega] at hw
      exact ys_kmm (mx := false) hexec hb hml hts hown hfr hlo hkk hw hd hs1 k
    obtain ⟨e0, hs1⟩ := ys_g1_ok hs
    subst e0
    exact ys_kinv (st := true) S hK hA0 hfr hlo hkk hd k calls hcalls hs1
  | ireturn => exact hret rfl
  | lreturn => exact hret rfl
  | return_ => exact hret rfl
  | _ => cases hs
set_option maxHeartbeats 4000000 in
theorem ys_stp_ok {{i : Instr}} {{n : Nat}} (S : CallFix p m c K.1.1.2.1 K.1.1.2.2.1 s args (ys_ws G K) own) (hr : meth.sig.returnType = K.1.1.2.2.2) (hlocks : meth.locks = false) (hK : va_K D cl tys s) (hty : ys_Ty tys cT sh) (hLk : ys_Lk own (ys_ws G K) cl fl ci cj cps) (hcalls : ∀ q ∈ calls, ys_Con l D cl ad cT sh tys G q.2 ∧ ys_CL own (ys_ws G K) cl sh G (if q.1.2 = true then .invokestatic q.1.1 else .invokevirtual q.1.1) q.2) (hnx : ∀ pc i, nx pc = some i → decode K.1.1.2.1 pc = .ok i) (hE : K.2.1.2.1.1.length ≤ E) (hrr : ∀ i, i < K.2.1.2.1.1.length → r0 i = rr i) (hd : decode K.1.1.2.1 pc = .ok (i, n))
    (hs : ys_stp sh fl ci cj calls cps K nx pc b fds lv sv i n = some succ)
    (k : ∀ q ∈ succ, ys_W p l e (ys_rm K) s m args below meth c (MQ below (ys_Post D cl ad cT sh tys K rr g0 s.heap.size) args s 0 0 (va_A (ys_wK ad cT sh K rr g0) s.heap.size)) 0 0 D cl ad cT sh (va_A (ys_wK ad cT sh K rr g0) s.heap.size) s.heap K.1.1.2.2.1 K.2.2.2 g0 r0 E q.1 q.2) :
    ys_W p l e (ys_rm K) s m args below meth c (MQ below (ys_Post D cl ad cT sh tys K rr g0 s.heap.size) args s 0 0 (va_A (ys_wK ad cT sh K rr g0) s.heap.size)) 0 0 D cl ad cT sh (va_A (ys_wK ad cT sh K rr g0) s.heap.size) s.heap K.1.1.2.2.1 K.2.2.2 g0 r0 E pc (b, fds, lv, sv) := by
  have hexec := S.1
  have hb := S.2.1
  refine ys_stp_gen S rfl rfl (Nat.le_refl _) (Nat.le_refl _) ⟨Nat.le_refl _, Nat.le_refl _⟩ (fun q h => Or.inr h) hK hty hLk hcalls hnx hd hs (fun hi => ?_) k
  clear k
  cases i with
  | ireturn =>
    obtain ⟨e0, hs1⟩ := ys_g1_ok hs
    subst e0
    clear hs
    unfold ys_iret at hs1
    split at hs1
    · rename_i x
      split at hs1
      · rename_i hc
        rw [Bool.and_eq_true] at hc
        intro r H locs ls st h
        have hq := ys_kret (aa := args) hE hrr hK h hc.2
        have hst : st = [.int (Int32.ofInt (ys_ev r x))] := h.2.2.2.2.2
        have hf : ∀ q ∈ locs, va_A (ys_wK ad cT sh K rr g0) s.heap.size q.base := h.2.2.2.1.choose_spec.2.2.2.2.2
        rw [hst]
        rcases (Bool.or_eq_true _ _).mp hc.1 with h1 | h1
        · exact W.iret hexec hb (hr.trans (of_decide_eq_true h1)) hq hf hd hlocks
        · rw [Bool.and_eq_true, Bool.and_eq_true] at h1
          have g1 := ys_geb_le h.1.1 h1.2.1
          have g2 := ys_geb_le h.1.1 h1.2.2
          rw [ys_scale_ev] at g2
          refine W.zret (ty := .boolean) hexec hb (hr.trans (of_decide_eq_true h1.1)) ?_ hq hf hd hlocks
          show Value.int (Int32.ofInt (ys_ev r x) &&& 1) = Value.int (Int32.ofInt (ys_ev r x))
          rcases ys_01 g1 (show ys_ev r x ≤ 1 by omega) with q | q <;> rw [q] <;> rfl
      · cases hs1
    · cases hs1
  | lreturn =>
    obtain ⟨e0, hs1⟩ := ys_g1_ok hs
    subst e0
    clear hs
    unfold ys_lret at hs1
    split at hs1
    · rename_i x
      split at hs1
      · rename_i hc
        rw [Bool.and_eq_true] at hc
        intro r H locs ls st h
        have hq := ys_kret (aa := args) hE hrr hK h hc.2
        have hst : st = [.long (Int64.ofInt (ys_ev r x))] := h.2.2.2.2.2
        have hf : ∀ q ∈ locs, va_A (ys_wK ad cT sh K rr g0) s.heap.size q.base := h.2.2.2.1.choose_spec.2.2.2.2.2
        rw [hst]
        exact W.lret hexec hb (hr.trans (of_decide_eq_true hc.1)) hq hf hd hlocks
      · cases hs1
    · cases hs1
  | return_ =>
    obtain ⟨e0, hs1⟩ := ys_g1_ok hs
    subst e0
    clear hs
    unfold ys_vret at hs1
    split at hs1
    · split at hs1
      · rename_i hc
        rw [Bool.and_eq_true] at hc
        intro r H locs ls st h
        have hq := ys_kret (aa := args) hE hrr hK h hc.2
        have hst : st = [] := h.2.2.2.2.2
        have hf : ∀ q ∈ locs, va_A (ys_wK ad cT sh K rr g0) s.heap.size q.base := h.2.2.2.1.choose_spec.2.2.2.2.2
        rw [hst]
        exact W.vret hexec hb (hr.trans (of_decide_eq_true hc.1)) hq hf hd hlocks
      · cases hs1
    · cases hs1
  | _ => cases hi
end YSD
