/-! copying arrays; the end of a method -/
noncomputable def ys_alh : List (Nat × (Int × Int)) → Int × Int → Int × Int
  | [], q => q
  | x :: t, q => ys_alh t (ys_hul q x.2)
theorem ys_alh_acc {z : Int} : ∀ (l : List (Nat × (Int × Int))) (q : Int × Int), q.1 ≤ z ∧ z ≤ q.2 → (ys_alh l q).1 ≤ z ∧ z ≤ (ys_alh l q).2
  | [], q, h => h
  | x :: t, q, h => ys_alh_acc t _ (ys_hul_l h)
theorem ys_alh_in {z : Int} {n : Nat} {w : Int × Int} (hw : w.1 ≤ z ∧ z ≤ w.2) : ∀ (l : List (Nat × (Int × Int))) (q : Int × Int), l.lookup n = some w → (ys_alh l q).1 ≤ z ∧ z ≤ (ys_alh l q).2
  | [], q, h => by cases h
  | (i, x) :: t, q, h => by
    unfold List.lookup at h
    cases hc : n == i with
    | true =>
      rw [hc] at h
      cases h
      exact ys_alh_acc t _ (ys_hul_r hw)
    | false =>
      rw [hc] at h
      exact ys_alh_in hw t _ h
theorem ys_alh_ok {a : ys_R} {f : Nat → Int} (ha : ys_rok a f) (j : Nat) : (ys_alh a.2 a.1).1 ≤ f j ∧ f j ≤ (ys_alh a.2 a.1).2 := by
  have h := ha j
  unfold ys_rat at h
  cases hc : a.2.lookup j with
  | none =>
    rw [hc] at h
    exact ys_alh_acc _ _ h
  | some w =>
    rw [hc] at h
    exact ys_alh_in h _ _ hc
/-- a part of an array: from x on, n of them -/
noncomputable def ys_prt (b : ys_B) (x n : ys_L) (len : Nat) : Bool := ys_inr false b.1 x && (ys_inr false b.1 n && (ys_ge b.1 b.2 2 x && (ys_ge b.1 b.2 2 n && ys_ge b.1 b.2 2 (ys_sub (ys_sub ([], (len : Int)) x) n))))
theorem ys_prt_ok {r : Nat → Int} {b : ys_B} (h : ys_okB r b) {x n : ys_L} {len : Nat} (hc : ys_prt b x n len = true) : ¬ Int32.ofInt (ys_ev r x) < 0 ∧ ¬ Int32.ofInt (ys_ev r n) < 0 ∧ (Int32.ofInt (ys_ev r x)).toNatClampNeg + (Int32.ofInt (ys_ev r n)).toNatClampNeg ≤ len := by
  unfold ys_prt at hc
  rw [Bool.and_eq_true, Bool.and_eq_true, Bool.and_eq_true, Bool.and_eq_true] at hc
  obtain ⟨c1, c2, c3, c4, c5⟩ := hc
  have e1 := ys_inr32 h.1 c1
  have e2 := ys_inr32 h.1 c2
  have h3 := ys_ge_le h.1 h.2 _ _ c3
  have h4 := ys_ge_le h.1 h.2 _ _ c4
  have h5 := ys_ge_le h.1 h.2 _ _ c5
  have z : ys_ev r (([], (len : Int)) : ys_L) = (len : Int) := Int.zero_add _
  rw [ys_sub_ev, ys_sub_ev, z] at h5
  refine ⟨?_, ?_, ?_⟩
  · rw [Int32.lt_iff_toInt_lt, e1]
    exact Int.not_lt.mpr h3
  · rw [Int32.lt_iff_toInt_lt, e2]
    exact Int.not_lt.mpr h4
  · show (Int32.ofInt (ys_ev r x)).toInt.toNat + (Int32.ofInt (ys_ev r n)).toInt.toNat ≤ len
    rw [e1, e2]
    omega
noncomputable def ys_ncw : Nat := nativeFrameWords "java/lang/System" "arraycopy" 5 + 11
noncomputable def ys_hcopy (lo : Nat) (sh : List ys_C) (mods : List Nat) (pc : Nat) (b : ys_B) (fds : ys_F) (lv : List (Nat × ys_V)) (sv : List ys_V) : Option (List (Nat × ys_S)) := match sv with
  | .inl (.inl n) :: .inl (.inl dp) :: .inr (some kd) :: .inl (.inl sp) :: .inr (some ks) :: t => (match sh[kd]?, sh[ks]?, fds.2[kd]?, fds.2[ks]? with
    | some (.inr yd), some (.inr ys), some ad, some as => if (decide (yd.1 = 0) || decide (yd.1 = 1)) && (decide (ys.1 = yd.1) && (ys_prt b dp n yd.2.1 && (ys_prt b sp n ys.2.1 && (decide (kd ∈ mods) && decide ((t.map ys_cat).sum + ys_ncw ≤ lo))))) then some [(pc + 3, b, (fds.1, fds.2.set kd (ys_hul (ys_alh ad.2 ad.1) (ys_alh as.2 as.1), [])), lv, t)] else none
    | _, _, _, _ => none)
  | _ => none
noncomputable def ys_gcp (g : Nat → Nat → Int) (ks kd sp dp n : Nat) : Nat → Nat → Int := fun i => if i = kd then va_cpy (g ks) (g kd) sp dp n else g i
section YSP
variable {p : Program} {l : Launch} {e : Env} {R : Room} {s : State} {m : MethodId} {args : Array Value} {below : List Frame} {meth : Method} {c : Code} {Q : State → Prop} {kc kz : Nat} {D : va_G} {cl : List vw_C} {ad : Nat → Nat} {cT : Nat → ClassId} {sh : List ys_C} {A : Nat → Prop} {H0 : Heap} {nL : Nat} {mods : List Nat} {g0 : Nat → Nat → Int} {r0 : Nat → Int} {E : Nat} {pc : Nat} {b : ys_B} {fds : ys_F} {lv : List (Nat × ys_V)} {sv : List ys_V} {succ : List (Nat × ys_S)} {cc : ByteArray} {own : String} {Ts : List Cond} {tys : List (ClassId × FieldType)}
variable {G : List Cond} {K : ys_K}
theorem ys_kcopy {idx lo : Nat} (hexec : p.tables.exec = Jvm.exec) (hb : c.code = cc) (hml : c.maxLocals = nL) (hts : ∀ w ∈ Ts, w.before args s = true) (hown : s.vm.findClass own = some m.cls) (hK : va_K D cl tys s) (hty0 : tys[0]? = some (cT 0, .int)) (hty1 : tys[1]? = some (cT 1, .long)) (hfr : 1 ≤ R.frames) (hlo : lo ≤ R.locals) (hw1 : Cond.methodLink own idx arraycopyName ∈ Ts) (hw2 : Cond.native arraycopyName ∈ Ts) (hw3 : Cond.static arraycopyName ∈ Ts) (hw4 : Cond.initialized "java/lang/System" ∈ Ts) (hd : decode cc pc = .ok (.invokestatic idx, 3)) (hs : ys_hcopy lo sh mods pc b fds lv sv = some succ) (k : ∀ q ∈ succ, ys_W p l e R s m args below meth c Q kc kz D cl ad cT sh A H0 nL mods g0 r0 E q.1 q.2) : ys_W p l e R s m args below meth c Q kc kz D cl ad cT sh A H0 nL mods g0 r0 E pc (b, fds, lv, sv) := by
  unfold ys_hcopy at hs
  split at hs
  · rename_i n dp kd sp ks t
    split at hs
    · rename_i yd ys aD aS hshd hshs hard hars
      split at hs
      · rename_i hc
        simp only [Bool.and_eq_true, Bool.or_eq_true, decide_eq_true_eq] at hc
        obtain ⟨hkd, hks, hpd, hps, hm, hlw⟩ := hc
        cases Option.some.inj hs
        have k := k _ List.mem_cons_self
        intro r H locs ls st h
        obtain ⟨st1, e1, g1, -⟩ := ys_rep_pop h
        obtain ⟨st2, e2, g2, -⟩ := ys_rep_pop g1
        obtain ⟨st3, e3, g3, -⟩ := ys_rep_pop g2
        obtain ⟨st4, e4, g4, -⟩ := ys_rep_pop g3
        obtain ⟨st5, e5, g5, -⟩ := ys_rep_pop g4
        subst e1; subst e2; subst e3; subst e4; subst e5
        obtain ⟨q1, ⟨s0, s1, s2, s3⟩, q2, ⟨g, hg, hP, hD, hS⟩, q4, q5⟩ := g5
        obtain ⟨p1, p2, p3⟩ := ys_prt_ok h.1 hpd
        obtain ⟨p4, -, p6⟩ := ys_prt_ok h.1 hps
        have hwd := ys_wld_get (ad := ad) (cT := cT) (r := r) (g := g) (fds := fds.1) hshd
        have hws := ys_wld_get (ad := ad) (cT := cT) (r := r) (g := g) (fds := fds.1) hshs
        have hrest : (st5.map fun v => v.category).sum + (nativeFrameWords "java/lang/System" "arraycopy" 5 + 11) ≤ R.locals := by
          rw [q5, ys_cats]
          exact Nat.le_trans hlw hlo
        obtain ⟨kdd, ld, td⟩ := yd
        obtain ⟨kss, lsn, tss⟩ := ys
        have hks : kss = kdd := hks
        subst hks
        have fin : ∀ (H1 : Heap) (locs1 : List Loc), va_P D cl (ys_wld ad cT sh r (ys_gcp g ks kd (Int32.ofInt (ys_ev r sp)).toNatClampNeg (Int32.ofInt (ys_ev r dp)).toNatClampNeg (Int32.ofInt (ys_ev r n)).toNatClampNeg) fds.1) H1 → va_D A (ys_wld ad cT sh r (ys_gcp g ks kd (Int32.ofInt (ys_ev r sp)).toNatClampNeg (Int32.ofInt (ys_ev r dp)).toNatClampNeg (Int32.ofInt (ys_ev r n)).toNatClampNeg) fds.1) → va_S A H0 H1 locs1 → W p l e R s m args below meth c H1 locs1 kc kz Q (F0 m (pc + 3) ls st5) := by
          intro H1 locs1 hP1 hD1 hS1
          refine k r H1 locs1 ls _ ⟨q1, ⟨s0, s1, s2, s3⟩, q2, ⟨_, ⟨fun i w hi => ?_, fun i hi => ?_⟩, hP1, hD1, hS1⟩, q4, q5⟩
          · by_cases hk : i = kd
            · subst hk
              have hl : i < fds.2.length := (List.getElem?_eq_some_iff.mp hard).1
              have hi : (fds.2.set i (ys_hul (ys_alh aD.2 aD.1) (ys_alh aS.2 aS.1), []))[i]? = some w := hi
              rw [List.getElem?_set_self hl] at hi
              cases hi
              intro j
              show (ys_hul (ys_alh aD.2 aD.1) (ys_alh aS.2 aS.1)).1 ≤ ys_gcp g ks i _ _ _ i j ∧ ys_gcp g ks i _ _ _ i j ≤ (ys_hul (ys_alh aD.2 aD.1) (ys_alh aS.2 aS.1)).2
              unfold ys_gcp
              rw [if_pos rfl]
              unfold va_cpy
              split
              · exact ys_hul_r (ys_alh_ok (hg.1 ks aS hars) _)
              · exact ys_hul_l (ys_alh_ok (hg.1 i aD hard) j)
            · have hi : (fds.2.set kd (ys_hul (ys_alh aD.2 aD.1) (ys_alh aS.2 aS.1), []))[i]? = some w := hi
              rw [List.getElem?_set_ne (Ne.symm hk)] at hi
              have e6 : ys_gcp g ks kd (Int32.ofInt (ys_ev r sp)).toNatClampNeg (Int32.ofInt (ys_ev r dp)).toNatClampNeg (Int32.ofInt (ys_ev r n)).toNatClampNeg i = g i := if_neg hk
              rw [e6]
              exact hg.1 i w hi
          · have hk : i ≠ kd := fun e => hi (e ▸ hm)
            have e6 : ys_gcp g ks kd (Int32.ofInt (ys_ev r sp)).toNatClampNeg (Int32.ofInt (ys_ev r dp)).toNatClampNeg (Int32.ofInt (ys_ev r n)).toNatClampNeg i = g i := if_neg hk
            rw [e6]
            exact hg.2 i hi
        have ew := ys_wld_set (ad := ad) (cT := cT) (r := r) (g := g) (g' := ys_gcp g ks kd (Int32.ofInt (ys_ev r sp)).toNatClampNeg (Int32.ofInt (ys_ev r dp)).toNatClampNeg (Int32.ofInt (ys_ev r n)).toNatClampNeg) (fds := fds.1) (fds' := fds.1) hshd (fun i hi => ⟨if_neg hi, rfl⟩)
        have hml2 : c.maxLocals = ls.size := hml.trans q4.1.symm
        rcases hkd with hk0 | hk1
        · have hk0 : kss = 0 := hk0
          subst hk0
          refine va_copyi hexec hb hml2 hown (hts _ hw1) (hts _ hw2) (hts _ hw3) (hts _ hw4) hK hP hD hS ks kd 0 0 (f := fun j => Int32.ofInt (g ks j)) (g := fun j => Int32.ofInt (g kd j)) hws hwd hty0 hty0 rfl p4 p1 p2 p6 p3 (fun i _ => rfl) hfr hrest hd fun H1 locs1 hP1 hD1 hS1 => ?_
          have ef : (fun j => Int32.ofInt (ys_gcp g ks kd (Int32.ofInt (ys_ev r sp)).toNatClampNeg (Int32.ofInt (ys_ev r dp)).toNatClampNeg (Int32.ofInt (ys_ev r n)).toNatClampNeg kd j)) = va_cpy (fun j => Int32.ofInt (g ks j)) (fun j => Int32.ofInt (g kd j)) (Int32.ofInt (ys_ev r sp)).toNatClampNeg (Int32.ofInt (ys_ev r dp)).toNatClampNeg (Int32.ofInt (ys_ev r n)).toNatClampNeg := by
            funext j
            unfold ys_gcp
            rw [if_pos rfl]
            unfold va_cpy
            split <;> rfl
          have ec : ys_cel ad cT r (ys_gcp g ks kd (Int32.ofInt (ys_ev r sp)).toNatClampNeg (Int32.ofInt (ys_ev r dp)).toNatClampNeg (Int32.ofInt (ys_ev r n)).toNatClampNeg) kd (.inr (0, ld, td)) (fds.1.getD kd []) = (ad kd, .inl (cT 0, ld, .inl (va_cpy (fun j => Int32.ofInt (g ks j)) (fun j => Int32.ofInt (g kd j)) (Int32.ofInt (ys_ev r sp)).toNatClampNeg (Int32.ofInt (ys_ev r dp)).toNatClampNeg (Int32.ofInt (ys_ev r n)).toNatClampNeg))) := by
            show ((ad kd, Sum.inl (cT 0, ld, Sum.inl (fun j => Int32.ofInt (ys_gcp g ks kd (Int32.ofInt (ys_ev r sp)).toNatClampNeg (Int32.ofInt (ys_ev r dp)).toNatClampNeg (Int32.ofInt (ys_ev r n)).toNatClampNeg kd j)))) : Nat × va_E) = _
            rw [ef]
          rw [ec] at ew
          exact fin H1 locs1 (by rw [ew]; exact hP1) (by rw [ew]; exact hD1) hS1
        · have hk1 : kss = 1 := hk1
          subst hk1
          refine va_copyl hexec hb hml2 hown (hts _ hw1) (hts _ hw2) (hts _ hw3) (hts _ hw4) hK hP hD hS ks kd 1 1 (f := fun j => Int64.ofInt (g ks j)) (g := fun j => Int64.ofInt (g kd j)) hws hwd hty1 hty1 rfl p4 p1 p2 p6 p3 (fun i _ => rfl) hfr hrest hd fun H1 locs1 hP1 hD1 hS1 => ?_
          have ef : (fun j => Int64.ofInt (ys_gcp g ks kd (Int32.ofInt (ys_ev r sp)).toNatClampNeg (Int32.ofInt (ys_ev r dp)).toNatClampNeg (Int32.ofInt (ys_ev r n)).toNatClampNeg kd j)) = va_cpy (fun j => Int64.ofInt (g ks j)) (fun j => Int64.ofInt (g kd j)) (Int32.ofInt (ys_ev r sp)).toNatClampNeg (Int32.ofInt (ys_ev r dp)).toNatClampNeg (Int32.ofInt (ys_ev r n)).toNatClampNeg := by
            funext j
            unfold ys_gcp
            rw [if_pos rfl]
            unfold va_cpy
            split <;> rfl
          have ec : ys_cel ad cT r (ys_gcp g ks kd (Int32.ofInt (ys_ev r sp)).toNatClampNeg (Int32.ofInt (ys_ev r dp)).toNatClampNeg (Int32.ofInt (ys_ev r n)).toNatClampNeg) kd (.inr (1, ld, td)) (fds.1.getD kd []) = (ad kd, .inl (cT 1, ld, .inr (.inl (va_cpy (fun j => Int64.ofInt (g ks j)) (fun j => Int64.ofInt (g kd j)) (Int32.ofInt (ys_ev r sp)).toNatClampNeg (Int32.ofInt (ys_ev r dp)).toNatClampNeg (Int32.ofInt (ys_ev r n)).toNatClampNeg)))) := by
            show ((ad kd, Sum.inl (cT 1, ld, Sum.inr (Sum.inl (fun j => Int64.ofInt (ys_gcp g ks kd (Int32.ofInt (ys_ev r sp)).toNatClampNeg (Int32.ofInt (ys_ev r dp)).toNatClampNeg (Int32.ofInt (ys_ev r n)).toNatClampNeg kd j))))) : Nat × va_E) = _
            rw [ef]
          rw [ec] at ew
          exact fin H1 locs1 (by rw [ew]; exact hP1) (by rw [ew]; exact hD1) hS1
      · cases hs
    · cases hs
  · cases hs
end YSP
/-- the greater, the lesser of two -/
noncomputable def ys_hmm (mx : Bool) (fr lo : Nat) (pc : Nat) (b : ys_B) (fds : ys_F) (lv : List (Nat × ys_V)) (sv : List ys_V) : Option (List (Nat × ys_S)) := match sv with
  | .inl (.inl y) :: .inl (.inl x) :: t => if ys_inr false b.1 x && (ys_inr false b.1 y && (decide (1 ≤ fr) && decide ((t.map ys_cat).sum + 13 ≤ lo))) then some (match mx with
    | true => ys_br (pc + 3) b [ys_add (ys_sub y x) ([], -1)] (fds, lv, .inl (.inl y) :: t) ++ ys_br (pc + 3) b [ys_sub x y] (fds, lv, .inl (.inl x) :: t)
    | false => ys_br (pc + 3) b [ys_add (ys_sub x y) ([], -1)] (fds, lv, .inl (.inl y) :: t) ++ ys_br (pc + 3) b [ys_sub y x] (fds, lv, .inl (.inl x) :: t)) else none
  | _ => none
/-- what the links of the library's own say: a number below 100000 a copy, 100000 on the greater, 200000 on the lesser -/
noncomputable def ys_Cp (own : String) (Ts : List Cond) (v : Nat) : Prop := match v / 100000 with
  | 0 => Cond.methodLink own v arraycopyName ∈ Ts ∧ Cond.native arraycopyName ∈ Ts ∧ Cond.static arraycopyName ∈ Ts ∧ Cond.initialized "java/lang/System" ∈ Ts
  | 1 => Cond.methodLink own (v - 100000) Lib.Math.max.name ∈ Ts ∧ Cond.static Lib.Math.max.name ∈ Ts ∧ Cond.initialized "java/lang/Math" ∈ Ts ∧ Cond.code Lib.Math.max.name Lib.Math.max.code 2 (some .int) ∈ Ts
  | 2 => Cond.methodLink own (v - 200000) Lib.Math.min.name ∈ Ts ∧ Cond.static Lib.Math.min.name ∈ Ts ∧ Cond.initialized "java/lang/Math" ∈ Ts ∧ Cond.code Lib.Math.min.name Lib.Math.min.code 2 (some .int) ∈ Ts
  | _ => False
section YSG
variable {p : Program} {l : Launch} {e : Env} {R : Room} {s : State} {m : MethodId} {args : Array Value} {below : List Frame} {meth : Method} {c : Code} {Q : State → Prop} {kc kz : Nat} {D : va_G} {cl : List vw_C} {ad : Nat → Nat} {cT : Nat → ClassId} {sh : List ys_C} {A : Nat → Prop} {H0 : Heap} {nL : Nat} {mods : List Nat} {g0 : Nat → Nat → Int} {r0 : Nat → Int} {E : Nat} {pc : Nat} {b : ys_B} {fds : ys_F} {lv : List (Nat × ys_V)} {sv : List ys_V} {succ : List (Nat × ys_S)} {cc : ByteArray} {own : String} {Ts : List Cond} {tys : List (ClassId × FieldType)}
theorem ys_kmm {idx fr lo : Nat} {mx : Bool} (hexec : p.tables.exec = Jvm.exec) (hb : c.code = cc) (hml : c.maxLocals = nL) (hts : ∀ w ∈ Ts, w.before args s = true) (hown : s.vm.findClass own = some m.cls) (hfr : fr ≤ R.frames) (hlo : lo ≤ R.locals) (hkk : kc ≤ R.cells ∧ kz ≤ R.slots) (hw : match mx with
    | true => Cond.methodLink own idx Lib.Math.max.name ∈ Ts ∧ Cond.static Lib.Math.max.name ∈ Ts ∧ Cond.initialized "java/lang/Math" ∈ Ts ∧ Cond.code Lib.Math.max.name Lib.Math.max.code 2 (some .int) ∈ Ts
    | false => Cond.methodLink own idx Lib.Math.min.name ∈ Ts ∧ Cond.static Lib.Math.min.name ∈ Ts ∧ Cond.initialized "java/lang/Math" ∈ Ts ∧ Cond.code Lib.Math.min.name Lib.Math.min.code 2 (some .int) ∈ Ts) (hd : decode cc pc = .ok (.invokestatic idx, 3)) (hs : ys_hmm mx fr lo pc b fds lv sv = some succ) (k : ∀ q ∈ succ, ys_W p l e R s m args below meth c Q kc kz D cl ad cT sh A H0 nL mods g0 r0 E q.1 q.2) : ys_W p l e R s m args below meth c Q kc kz D cl ad cT sh A H0 nL mods g0 r0 E pc (b, fds, lv, sv) := by
  unfold ys_hmm at hs
  split at hs
  · rename_i y x t
    split at hs
    · rename_i hc
      rw [Bool.and_eq_true, Bool.and_eq_true, Bool.and_eq_true, decide_eq_true_eq, decide_eq_true_eq] at hc
      obtain ⟨c1, c2, c3, c4⟩ := hc
      have hs := (Option.some.inj hs).symm
      subst hs
      intro r H locs ls st h
      obtain ⟨st1, e1, g1, hy⟩ := ys_rep_pop h
      obtain ⟨st2, e2, g2, hx⟩ := ys_rep_pop g1
      subst e1; subst e2
      have ex := ys_inr32 h.1.1 c1
      have ey := ys_inr32 h.1.1 c2
      have hcat : (st2.map fun v => v.category).sum + 13 ≤ R.locals := by
        rw [g2.2.2.2.2.2, ys_cats]
        exact Nat.le_trans c4 hlo
      have one : ∀ {g : ys_L}, ys_stb b.1.length g → ∀ f ∈ [g], ys_stb b.1.length f := fun hg f hf => by rw [List.mem_singleton.mp hf]; exact hg
      have py := ys_rep_push g2 (.inl (.inl y)) hy
      have px := ys_rep_push g2 (.inl (.inl x)) hx
      cases mx with
      | true =>
        obtain ⟨w1, w2, w3, w4⟩ := hw
        refine va_mmax hexec hb (hml.trans g2.2.2.2.2.1.1.symm) hown (hts _ w1) (hts _ w2) (hts _ w3) (hts _ w4) (Nat.le_trans c3 hfr) hcat hkk.1 hkk.2 hd ?_
        by_cases hlt : Int32.ofInt (ys_ev r x) < Int32.ofInt (ys_ev r y)
        · rw [if_pos hlt]
          rw [Int32.lt_iff_toInt_lt, ex, ey] at hlt
          exact ys_kbr py (ys_fk1 (f := ys_add (ys_sub y x) ([], -1)) (by rw [ys_m1, ys_sub_ev]; omega)) (one (ys_stb_m1 (ys_stb_sub hy hx))) (fun q hq => k q (List.mem_append_left _ hq))
        · rw [if_neg hlt]
          rw [Int32.lt_iff_toInt_lt, ex, ey] at hlt
          exact ys_kbr px (ys_fk1 (f := ys_sub x y) (by rw [ys_sub_ev]; omega)) (one (ys_stb_sub hx hy)) (fun q hq => k q (List.mem_append_right _ hq))
      | false =>
        obtain ⟨w1, w2, w3, w4⟩ := hw
        refine va_mmin hexec hb (hml.trans g2.2.2.2.2.1.1.symm) hown (hts _ w1) (hts _ w2) (hts _ w3) (hts _ w4) (Nat.le_trans c3 hfr) hcat hkk.1 hkk.2 hd ?_
        by_cases hlt : Int32.ofInt (ys_ev r y) < Int32.ofInt (ys_ev r x)
        · rw [if_pos hlt]
          rw [Int32.lt_iff_toInt_lt, ex, ey] at hlt
          exact ys_kbr py (ys_fk1 (f := ys_add (ys_sub x y) ([], -1)) (by rw [ys_m1, ys_sub_ev]; omega)) (one (ys_stb_m1 (ys_stb_sub hx hy))) (fun q hq => k q (List.mem_append_left _ hq))
        · rw [if_neg hlt]
          rw [Int32.lt_iff_toInt_lt, ex, ey] at hlt
          exact ys_kbr px (ys_fk1 (f := ys_sub y x) (by rw [ys_sub_ev]; omega)) (one (ys_stb_sub hy hx)) (fun q hq => k q (List.mem_append_right _ hq))
    · cases hs
  · cases hs
end YSG
/-- the end: one of the contract's ways -/
noncomputable def ys_hret1 (E : Nat) (b : ys_B) (fds : ys_F) (v : Option ys_V) (a : ys_A) : Bool := match ys_zf a.2.2.1.1 fds.1 with
  | some fp => (match a.2.2.2, v with
    | some x, some y => (ys_mat b fds.2 E a.1 a.2.1 a.2.2.1.2 ((x, y) :: fp)).isSome
    | none, none => (ys_mat b fds.2 E a.1 a.2.1 a.2.2.1.2 fp).isSome
    | _, _ => false)
  | none => false
noncomputable def ys_hret (E : Nat) (K : ys_K) (b : ys_B) (fds : ys_F) (v : Option ys_V) : Bool := K.2.2.1.any (ys_hret1 E b fds v)
section YSE
variable {p : Program} {l : Launch} {e : Env} {R : Room} {s : State} {m : MethodId} {args : Array Value} {below : List Frame} {meth : Method} {c : Code} {Q : State → Prop} {kc kz : Nat} {D : va_G} {cl : List vw_C} {ad : Nat → Nat} {cT : Nat → ClassId} {sh : List ys_C} {A : Nat → Prop} {H0 : Heap} {nL : Nat} {mods : List Nat} {g0 : Nat → Nat → Int} {r0 : Nat → Int} {E : Nat} {pc : Nat} {b : ys_B} {fds : ys_F} {lv : List (Nat × ys_V)} {sv : List ys_V} {succ : List (Nat × ys_S)} {cc : ByteArray} {own : String} {Ts : List Cond} {tys : List (ClassId × FieldType)}
variable {G : List Cond} {K : ys_K}
theorem ys_kret {v : Option ys_V} {r rr : Nat → Int} {H : Heap} {locs : List Loc} {ls : Array Slot} {st : List Value} {aa : Array Value} (hE : K.2.1.2.1.1.length ≤ E) (hrr : ∀ i, i < K.2.1.2.1.1.length → r0 i = rr i) (hK : va_K D cl tys s) (h : ys_rep D cl ad cT sh (va_A (ys_wK ad cT sh K rr g0) s.heap.size) s.heap nL K.2.2.2 g0 r0 r E (b, fds, lv, sv) H locs ls st) (hs : ys_hret K.2.1.2.1.1.length K b fds v = true) :
    ∀ t : State, t.heap = H → s.WarmedH t.vm → ys_Post D cl ad cT sh tys K rr g0 s.heap.size aa s (.returned (v.map (ys_den ad r))) t := by
  intro t ht hW
  obtain ⟨a, ha, hs1⟩ := List.any_eq_true.mp hs
  clear hs
  obtain ⟨h1, h2, ⟨hEl, hr⟩, ⟨g, hg, hP, hD, hS⟩, -, -⟩ := h
  have key : ∀ (prs : List (ys_V × ys_V)) (fp : List (ys_V × ys_V)) (tt : List ys_L), ys_zf a.2.2.1.1 fds.1 = some fp → (∀ q ∈ fp, q ∈ prs) → ys_mat b fds.2 K.2.1.2.1.1.length a.1 a.2.1 a.2.2.1.2 prs = some tt → (a.2.2.2.map (ys_den ad (ys_val r K.2.1.2.1.1.length tt)) = v.map (ys_den ad r)) → ys_Post D cl ad cT sh tys K rr g0 s.heap.size aa s (.returned (v.map (ys_den ad r))) t := by
    intro prs fp tt hz hsub hm hv
    obtain ⟨-, e2, e3, e4, e5, e6, e7⟩ := ys_mat_ok (ad := ad) h1 hm
    have ew : ys_wld ad cT sh (ys_val r K.2.1.2.1.1.length tt) g a.2.2.1.1 = ys_wld ad cT sh r g fds.1 := ys_wld_eq (ys_zf_ok _ _ _ hz (fun q hq => e5 q (hsub q hq)))
    refine ⟨⟨a, ha, ys_val r K.2.1.2.1.1.length tt, g, fun i hi => ?_, fun i hi => ys_val_high (by omega), e3, e4, ⟨fun kk z hz => ?_, hg.2⟩, ?_, ?_, va_K.moved hW.alike hK, by rw [hv]⟩, hS.F ht⟩
    · rw [ys_val_low hi, hr i (Nat.lt_of_lt_of_le hi hE), hrr i hi]
    · obtain ⟨a0, g1, g2⟩ := e7 kk z hz
      exact ys_rle_ok g2 (hg.1 kk a0 g1)
    · rw [ew, ht]
      exact hP
    · rw [ew]
      exact hD
  unfold ys_hret1 at hs1
  split at hs1
  · rename_i fp hfp
    split at hs1
    · rename_i x y hx
      obtain ⟨tt, htt⟩ := Option.isSome_iff_exists.mp hs1
      refine key _ fp tt hfp (fun q hq => List.mem_cons_of_mem _ hq) htt ?_
      obtain ⟨-, -, -, -, e5, -⟩ := ys_mat_ok (ad := ad) h1 htt
      rw [hx]
      show some _ = some _
      rw [e5 (x, y) List.mem_cons_self]
    · rename_i hx
      obtain ⟨tt, htt⟩ := Option.isSome_iff_exists.mp hs1
      refine key _ fp tt hfp (fun q hq => hq) htt ?_
      rw [hx]
      rfl
    · cases hs1
  · cases hs1
end YSE

