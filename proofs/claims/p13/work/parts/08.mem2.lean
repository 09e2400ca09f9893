/-! writing an array -/
noncomputable def ys_ivl (v : ys_E) (e : ys_L) : Option (Int × Int) := match ys_low v e, ys_high v e with
  | some l, some u => some (l, u)
  | _, _ => none
theorem ys_ivl_ok {r : Nat → Int} {v : ys_E} (h : ys_ok r v) {e : ys_L} {q : Int × Int} (hq : ys_ivl v e = some q) : q.1 ≤ ys_ev r e ∧ ys_ev r e ≤ q.2 := by
  unfold ys_ivl at hq
  split at hq
  · rename_i l u hl hu
    cases Option.some.inj hq
    exact ⟨ys_low_le h hl, ys_high_le h hu⟩
  · cases hq
noncomputable def ys_wr (v : ys_E) (a : ys_R) (e : ys_L) (q : Int × Int) : ys_R := match ys_sgl v e with
  | some i => (a.1, (i, q) :: a.2.filter fun x => !(x.1 == i))
  | none => (ys_hul a.1 q, a.2.map fun x => if ys_not v e x.1 then x else (x.1, ys_hul x.2 q))
theorem ys_lookup_filter {n j : Nat} (h : j ≠ n) : ∀ l : List (Nat × (Int × Int)), (l.filter fun x => !(x.1 == n)).lookup j = l.lookup j
  | [] => rfl
  | (i, x) :: t => by
    have ih := ys_lookup_filter h t
    rw [List.filter_cons]
    by_cases hi : i = n
    · subst hi
      have e1 : (!((i, x).1 == i)) = false := by simp
      have e2 : (j == i) = false := by simpa using h
      rw [if_neg (by rw [e1]; decide), ih]
      conv => rhs; unfold List.lookup
      rw [e2]
    · have e1 : (!((i, x).1 == n)) = true := by simpa using hi
      rw [if_pos e1]
      unfold List.lookup
      cases j == i with
      | true => rfl
      | false => exact ih
theorem ys_lookup_map {v : ys_E} {e : ys_L} {q : Int × Int} {j : Nat} : ∀ l : List (Nat × (Int × Int)), (l.map fun x => if ys_not v e x.1 then x else (x.1, ys_hul x.2 q)).lookup j = (l.lookup j).map fun w => if ys_not v e j then w else ys_hul w q
  | [] => rfl
  | (i, x) :: t => by
    have ih := ys_lookup_map (v := v) (e := e) (q := q) (j := j) t
    rw [List.map_cons]
    by_cases hj : j = i
    · subst hj
      cases hn : ys_not v e j with
      | true =>
        rw [if_pos rfl]
        unfold List.lookup
        rw [beq_self_eq_true]
        rfl
      | false =>
        rw [if_neg (by decide)]
        unfold List.lookup
        rw [beq_self_eq_true]
        rfl
    · have e2 : (j == i) = false := by simpa using hj
      cases hn : ys_not v e i with
      | true =>
        rw [if_pos rfl]
        unfold List.lookup
        rw [e2]
        exact ih
      | false =>
        rw [if_neg (by decide)]
        unfold List.lookup
        rw [e2]
        exact ih
noncomputable def ys_gup (g : Nat → Nat → Int) (k n : Nat) (z : Int) : Nat → Nat → Int := fun i => if i = k then (fun j => if j = n then z else g k j) else g i
theorem ys_wr_ok {r : Nat → Int} {v : ys_E} (hv : ys_ok r v) {a : ys_R} {f : Nat → Int} (ha : ys_rok a f) {e : ys_L} {n : Nat} (he : ys_ev r e = (n : Int)) {q : Int × Int} {z : Int} (hz : q.1 ≤ z ∧ z ≤ q.2) : ys_rok (ys_wr v a e q) (fun j => if j = n then z else f j) := by
  intro j
  show _ ≤ (if j = n then z else f j) ∧ (if j = n then z else f j) ≤ _
  unfold ys_wr
  split
  · rename_i i h1
    have hn : i = n := ys_sgl_ok hv h1 he
    rw [hn]
    by_cases hj : j = n
    · subst hj
      rw [if_pos rfl]
      unfold ys_rat List.lookup
      rw [beq_self_eq_true]
      exact hz
    · rw [if_neg hj]
      have h := ha j
      unfold ys_rat at h ⊢
      have e2 : (j == n) = false := by simpa using hj
      have e3 : (((n, q) :: a.2.filter fun x => !(x.1 == n)) : List (Nat × (Int × Int))).lookup j = a.2.lookup j := by
        conv => lhs; unfold List.lookup
        rw [e2]
        exact ys_lookup_filter hj a.2
      show ((((n, q) :: a.2.filter fun x => !(x.1 == n)) : List (Nat × (Int × Int))).lookup j |>.getD a.1).1 ≤ _ ∧ _ ≤ ((((n, q) :: a.2.filter fun x => !(x.1 == n)) : List (Nat × (Int × Int))).lookup j |>.getD a.1).2
      rw [e3]
      exact h
  · have h := ha j
    unfold ys_rat at h ⊢
    show (((a.2.map fun x => if ys_not v e x.1 then x else (x.1, ys_hul x.2 q)).lookup j).getD (ys_hul a.1 q)).1 ≤ _ ∧ _ ≤ (((a.2.map fun x => if ys_not v e x.1 then x else (x.1, ys_hul x.2 q)).lookup j).getD (ys_hul a.1 q)).2
    rw [ys_lookup_map]
    by_cases hj : j = n
    · subst hj
      rw [if_pos rfl]
      have hn : ys_not v e j = false := by
        cases hc : ys_not v e j with
        | true => exact absurd he (ys_not_ok hv hc)
        | false => rfl
      rw [hn]
      cases a.2.lookup j with
      | none => exact ys_hul_r hz
      | some w => exact ys_hul_r hz
    · rw [if_neg hj]
      cases hc : a.2.lookup j with
      | none =>
        rw [hc] at h
        exact ys_hul_l h
      | some w =>
        rw [hc] at h
        show (if ys_not v e j then w else ys_hul w q).1 ≤ _ ∧ _ ≤ (if ys_not v e j then w else ys_hul w q).2
        split
        · exact h
        · exact ys_hul_l h
section YSM2
variable {p : Program} {l : Launch} {e : Env} {R : Room} {s : State} {m : MethodId} {args : Array Value} {below : List Frame} {meth : Method} {c : Code} {Q : State → Prop} {kc kz : Nat} {D : va_G} {cl : List vw_C} {ad : Nat → Nat} {cT : Nat → ClassId} {sh : List ys_C} {A : Nat → Prop} {H0 : Heap} {nL : Nat} {mods : List Nat} {g0 : Nat → Nat → Int} {r0 : Nat → Int} {E : Nat} {pc : Nat} {b : ys_B} {fds : ys_F} {lv : List (Nat × ys_V)} {sv : List ys_V} {succ : List (Nat × ys_S)} {cc : ByteArray} {own : String} {Ts : List Cond} {tys : List (ClassId × FieldType)}

noncomputable def ys_hiast (sh : List ys_C) (mods : List Nat) (pc : Nat) (b : ys_B) (fds : ys_F) (lv : List (Nat × ys_V)) (sv : List ys_V) : Option (List (Nat × ys_S)) := match sv with
  | .inl (.inl z) :: .inl (.inl x) :: .inr (some k) :: t => (match sh[k]?, fds.2[k]?, ys_ivl b.1 z with
    | some (.inr y), some a, some q => if decide (y.1 = 0) && ys_inb b x y.2.1 && decide (k ∈ mods) then some [(pc + 1, b, (fds.1, fds.2.set k (ys_wr b.1 a x q)), lv, t)] else none
    | _, _, _ => none)
  | _ => none
theorem ys_kiast (hexec : p.tables.exec = Jvm.exec) (hb : c.code = cc) (hK : va_K D cl tys s) (hty : tys[0]? = some (cT 0, .int)) (hd : decode cc pc = .ok (.iastore, 1)) (hs : ys_hiast sh mods pc b fds lv sv = some succ) (k : ∀ q ∈ succ, ys_W p l e R s m args below meth c Q kc kz D cl ad cT sh A H0 nL mods g0 r0 E q.1 q.2) : ys_W p l e R s m args below meth c Q kc kz D cl ad cT sh A H0 nL mods g0 r0 E pc (b, fds, lv, sv) := by
  unfold ys_hiast at hs
  split at hs
  · rename_i z x kc t
    split at hs
    · rename_i y a q hsh har hiv
      split at hs
      · rename_i hc
        simp only [Bool.and_eq_true, decide_eq_true_eq] at hc
        obtain ⟨⟨hkd, hin⟩, hm⟩ := hc
        cases Option.some.inj hs
        have k := k _ List.mem_cons_self
        intro r H locs ls st h
        obtain ⟨st1, e1, g1, hz⟩ := ys_rep_pop h
        obtain ⟨st2, e2, g2, hx⟩ := ys_rep_pop g1
        obtain ⟨st3, e3, g3, -⟩ := ys_rep_pop g2
        subst e1; subst e2; subst e3
        obtain ⟨q1, ⟨s0, s1, s2, s3⟩, q2, ⟨g, hg, hP, hD, hS⟩, q4, q5⟩ := g3
        obtain ⟨n, e4, hn, hvi, e5⟩ := ys_inb_ok h.1 hin
        have hzq := ys_ivl_ok h.1.1 hiv
        have hw := ys_wld_get (ad := ad) (cT := cT) (r := r) (g := g) (fds := fds.1) hsh
        obtain ⟨kd, len, tg⟩ := y
        have hkd : kd = 0 := hkd
        subst hkd
        refine va_iast hexec hb hK hP hD hS kc 0 (f := fun j => Int32.ofInt (g kc j)) hw hty hvi hd fun H1 locs1 hP1 hD1 hS1 => ?_
        have ew := ys_wld_set (ad := ad) (cT := cT) (r := r) (g := g) (g' := ys_gup g kc n (ys_ev r z)) (fds := fds.1) (fds' := fds.1) hsh (fun i hi => ⟨if_neg hi, rfl⟩)
        have ef : (fun j => Int32.ofInt (ys_gup g kc n (ys_ev r z) kc j)) = upd (fun j => Int32.ofInt (g kc j)) (Int32.ofInt (ys_ev r x)).toNatClampNeg (Int32.ofInt (ys_ev r z)) := by
          rw [e5]
          funext j
          unfold ys_gup upd
          rw [if_pos rfl]
          by_cases hj : j = n
          · rw [if_pos hj, if_pos hj]
          · rw [if_neg hj, if_neg hj]
        have ec : ys_cel ad cT r (ys_gup g kc n (ys_ev r z)) kc (.inr (0, len, tg)) (fds.1.getD kc []) = (ad kc, .inl (cT 0, len, .inl (upd (fun j => Int32.ofInt (g kc j)) (Int32.ofInt (ys_ev r x)).toNatClampNeg (Int32.ofInt (ys_ev r z))))) := by
          show ((ad kc, Sum.inl (cT 0, len, Sum.inl (fun j => Int32.ofInt (ys_gup g kc n (ys_ev r z) kc j)))) : Nat × va_E) = _
          rw [ef]
        rw [ec] at ew
        refine k r H1 locs1 ls _ ⟨q1, ⟨s0, s1, s2, s3⟩, q2, ⟨ys_gup g kc n (ys_ev r z), ⟨fun i w hi => ?_, fun i hi => ?_⟩, ?_, ?_, hS1⟩, q4, q5⟩
        · by_cases hk : i = kc
          · subst hk
            have hl : i < fds.2.length := (List.getElem?_eq_some_iff.mp har).1
            have hi : (fds.2.set i (ys_wr b.1 a x q))[i]? = some w := hi
            rw [List.getElem?_set_self hl] at hi
            cases hi
            have e6 : ys_gup g i n (ys_ev r z) i = fun j => if j = n then ys_ev r z else g i j := if_pos rfl
            rw [e6]
            exact ys_wr_ok h.1.1 (hg.1 i a har) e4 hzq
          · have hi : (fds.2.set kc (ys_wr b.1 a x q))[i]? = some w := hi
            rw [List.getElem?_set_ne (Ne.symm hk)] at hi
            have e6 : ys_gup g kc n (ys_ev r z) i = g i := if_neg hk
            rw [e6]
            exact hg.1 i w hi
        · have hk : i ≠ kc := fun e => hi (e ▸ hm)
          have e6 : ys_gup g kc n (ys_ev r z) i = g i := if_neg hk
          rw [e6]
          exact hg.2 i hi
        · show va_P D cl (ys_wld ad cT sh r (ys_gup g kc n (ys_ev r z)) fds.1) H1
          rw [ew]
          exact hP1
        · show va_D A (ys_wld ad cT sh r (ys_gup g kc n (ys_ev r z)) fds.1)
          rw [ew]
          exact hD1
      · cases hs
    · cases hs
  · cases hs
noncomputable def ys_hlast (sh : List ys_C) (mods : List Nat) (pc : Nat) (b : ys_B) (fds : ys_F) (lv : List (Nat × ys_V)) (sv : List ys_V) : Option (List (Nat × ys_S)) := match sv with
  | .inl (.inr z) :: .inl (.inl x) :: .inr (some k) :: t => (match sh[k]?, fds.2[k]?, ys_ivl b.1 z with
    | some (.inr y), some a, some q => if decide (y.1 = 1) && ys_inb b x y.2.1 && decide (k ∈ mods) then some [(pc + 1, b, (fds.1, fds.2.set k (ys_wr b.1 a x q)), lv, t)] else none
    | _, _, _ => none)
  | _ => none
theorem ys_klast (hexec : p.tables.exec = Jvm.exec) (hb : c.code = cc) (hK : va_K D cl tys s) (hty : tys[1]? = some (cT 1, .long)) (hd : decode cc pc = .ok (.lastore, 1)) (hs : ys_hlast sh mods pc b fds lv sv = some succ) (k : ∀ q ∈ succ, ys_W p l e R s m args below meth c Q kc kz D cl ad cT sh A H0 nL mods g0 r0 E q.1 q.2) : ys_W p l e R s m args below meth c Q kc kz D cl ad cT sh A H0 nL mods g0 r0 E pc (b, fds, lv, sv) := by
  unfold ys_hlast at hs
  split at hs
  · rename_i z x kc t
    split at hs
    · rename_i y a q hsh har hiv
      split at hs
      · rename_i hc
        simp only [Bool.and_eq_true, decide_eq_true_eq] at hc
        obtain ⟨⟨hkd, hin⟩, hm⟩ := hc
        cases Option.some.inj hs
        have k := k _ List.mem_cons_self
        intro r H locs ls st h
        obtain ⟨st1, e1, g1, hz⟩ := ys_rep_pop h
        obtain ⟨st2, e2, g2, hx⟩ := ys_rep_pop g1
        obtain ⟨st3, e3, g3, -⟩ := ys_rep_pop g2
        subst e1; subst e2; subst e3
        obtain ⟨q1, ⟨s0, s1, s2, s3⟩, q2, ⟨g, hg, hP, hD, hS⟩, q4, q5⟩ := g3
        obtain ⟨n, e4, hn, hvi, e5⟩ := ys_inb_ok h.1 hin
        have hzq := ys_ivl_ok h.1.1 hiv
        have hw := ys_wld_get (ad := ad) (cT := cT) (r := r) (g := g) (fds := fds.1) hsh
        obtain ⟨kd, len, tg⟩ := y
        have hkd : kd = 1 := hkd
        subst hkd
        refine va_last hexec hb hK hP hD hS kc 1 (f := fun j => Int64.ofInt (g kc j)) hw hty hvi hd fun H1 locs1 hP1 hD1 hS1 => ?_
        have ew := ys_wld_set (ad := ad) (cT := cT) (r := r) (g := g) (g' := ys_gup g kc n (ys_ev r z)) (fds := fds.1) (fds' := fds.1) hsh (fun i hi => ⟨if_neg hi, rfl⟩)
        have ef : (fun j => Int64.ofInt (ys_gup g kc n (ys_ev r z) kc j)) = vp_updL (fun j => Int64.ofInt (g kc j)) (Int32.ofInt (ys_ev r x)).toNatClampNeg (Int64.ofInt (ys_ev r z)) := by
          rw [e5]
          funext j
          unfold ys_gup vp_updL
          rw [if_pos rfl]
          by_cases hj : j = n
          · rw [if_pos hj, if_pos hj]
          · rw [if_neg hj, if_neg hj]
        have ec : ys_cel ad cT r (ys_gup g kc n (ys_ev r z)) kc (.inr (1, len, tg)) (fds.1.getD kc []) = (ad kc, .inl (cT 1, len, .inr (.inl (vp_updL (fun j => Int64.ofInt (g kc j)) (Int32.ofInt (ys_ev r x)).toNatClampNeg (Int64.ofInt (ys_ev r z)))))) := by
          show ((ad kc, Sum.inl (cT 1, len, Sum.inr (Sum.inl (fun j => Int64.ofInt (ys_gup g kc n (ys_ev r z) kc j))))) : Nat × va_E) = _
          rw [ef]
        rw [ec] at ew
        refine k r H1 locs1 ls _ ⟨q1, ⟨s0, s1, s2, s3⟩, q2, ⟨ys_gup g kc n (ys_ev r z), ⟨fun i w hi => ?_, fun i hi => ?_⟩, ?_, ?_, hS1⟩, q4, q5⟩
        · by_cases hk : i = kc
          · subst hk
            have hl : i < fds.2.length := (List.getElem?_eq_some_iff.mp har).1
            have hi : (fds.2.set i (ys_wr b.1 a x q))[i]? = some w := hi
            rw [List.getElem?_set_self hl] at hi
            cases hi
            have e6 : ys_gup g i n (ys_ev r z) i = fun j => if j = n then ys_ev r z else g i j := if_pos rfl
            rw [e6]
            exact ys_wr_ok h.1.1 (hg.1 i a har) e4 hzq
          · have hi : (fds.2.set kc (ys_wr b.1 a x q))[i]? = some w := hi
            rw [List.getElem?_set_ne (Ne.symm hk)] at hi
            have e6 : ys_gup g kc n (ys_ev r z) i = g i := if_neg hk
            rw [e6]
            exact hg.1 i w hi
        · have hk : i ≠ kc := fun e => hi (e ▸ hm)
          have e6 : ys_gup g kc n (ys_ev r z) i = g i := if_neg hk
          rw [e6]
          exact hg.2 i hi
        · show va_P D cl (ys_wld ad cT sh r (ys_gup g kc n (ys_ev r z)) fds.1) H1
          rw [ew]
          exact hP1
        · show va_D A (ys_wld ad cT sh r (ys_gup g kc n (ys_ev r z)) fds.1)
          rw [ew]
          exact hD1
      · cases hs
    · cases hs
  · cases hs
theorem ys_nar_b {x : Int} (h0 : -128 ≤ x) (h1 : x ≤ 127) : vp_nar .byte (Int32.ofInt x) = Int32.ofInt x := by
  rw [vp_nar_byte]
  apply Int32.toInt_inj.mp
  rw [Int8.toInt_toInt32, Int32.toInt_toInt8, Int32.toInt_ofInt_of_le (by omega) (by omega)]
  exact Int.bmod_eq_of_le (by omega) (by omega)
theorem ys_nar_z {x : Int} (h0 : 0 ≤ x) (h1 : x ≤ 1) : vp_nar .boolean (Int32.ofInt x) = Int32.ofInt x := by
  rcases ys_01 h0 h1 with q | q <;> rw [q] <;> rfl
noncomputable def ys_hbast (sh : List ys_C) (mods : List Nat) (pc : Nat) (b : ys_B) (fds : ys_F) (lv : List (Nat × ys_V)) (sv : List ys_V) : Option (List (Nat × ys_S)) := match sv with
  | .inl (.inl z) :: .inl (.inl x) :: .inr (some k) :: t => (match sh[k]?, fds.2[k]?, ys_ivl b.1 z with
    | some (.inr y), some a, some q => if decide (y.1 = 2) && ys_inb b x y.2.1 && decide (k ∈ mods) && (decide (-128 ≤ q.1) && decide (q.2 ≤ 127)) then some [(pc + 1, b, (fds.1, fds.2.set k (ys_wr b.1 a x q)), lv, t)] else none
    | _, _, _ => none)
  | _ => none
theorem ys_kbast (hexec : p.tables.exec = Jvm.exec) (hb : c.code = cc) (hK : va_K D cl tys s) (hty : tys[2]? = some (cT 2, .byte)) (hd : decode cc pc = .ok (.bastore, 1)) (hs : ys_hbast sh mods pc b fds lv sv = some succ) (k : ∀ q ∈ succ, ys_W p l e R s m args below meth c Q kc kz D cl ad cT sh A H0 nL mods g0 r0 E q.1 q.2) : ys_W p l e R s m args below meth c Q kc kz D cl ad cT sh A H0 nL mods g0 r0 E pc (b, fds, lv, sv) := by
  unfold ys_hbast at hs
  split at hs
  · rename_i z x kc t
    split at hs
    · rename_i y a q hsh har hiv
      split at hs
      · rename_i hc
        simp only [Bool.and_eq_true, decide_eq_true_eq] at hc
        obtain ⟨⟨⟨hkd, hin⟩, hm⟩, hq⟩ := hc
        cases Option.some.inj hs
        have k := k _ List.mem_cons_self
        intro r H locs ls st h
        obtain ⟨st1, e1, g1, hz⟩ := ys_rep_pop h
        obtain ⟨st2, e2, g2, hx⟩ := ys_rep_pop g1
        obtain ⟨st3, e3, g3, -⟩ := ys_rep_pop g2
        subst e1; subst e2; subst e3
        obtain ⟨q1, ⟨s0, s1, s2, s3⟩, q2, ⟨g, hg, hP, hD, hS⟩, q4, q5⟩ := g3
        obtain ⟨n, e4, hn, hvi, e5⟩ := ys_inb_ok h.1 hin
        have hzq := ys_ivl_ok h.1.1 hiv
        have hw := ys_wld_get (ad := ad) (cT := cT) (r := r) (g := g) (fds := fds.1) hsh
        obtain ⟨kd, len, tg⟩ := y
        have hkd : kd = 2 := hkd
        subst hkd
        refine va_bast hexec hb hK hP hD hS kc 2 (f := fun j => Int32.ofInt (g kc j)) hw hty hvi hd fun H1 locs1 hP1 hD1 hS1 => ?_
        have ew := ys_wld_set (ad := ad) (cT := cT) (r := r) (g := g) (g' := ys_gup g kc n (ys_ev r z)) (fds := fds.1) (fds' := fds.1) hsh (fun i hi => ⟨if_neg hi, rfl⟩)
        have ef : (fun j => Int32.ofInt (ys_gup g kc n (ys_ev r z) kc j)) = upd (fun j => Int32.ofInt (g kc j)) (Int32.ofInt (ys_ev r x)).toNatClampNeg (vp_nar .byte (Int32.ofInt (ys_ev r z))) := by
          rw [e5]
          funext j
          unfold ys_gup upd
          rw [if_pos rfl]
          by_cases hj : j = n
          · rw [if_pos hj, if_pos hj]
            exact (ys_nar_b (by omega) (by omega)).symm
          · rw [if_neg hj, if_neg hj]
        have ec : ys_cel ad cT r (ys_gup g kc n (ys_ev r z)) kc (.inr (2, len, tg)) (fds.1.getD kc []) = (ad kc, .inl (cT 2, len, .inl (upd (fun j => Int32.ofInt (g kc j)) (Int32.ofInt (ys_ev r x)).toNatClampNeg (vp_nar .byte (Int32.ofInt (ys_ev r z)))))) := by
          show ((ad kc, Sum.inl (cT 2, len, Sum.inl (fun j => Int32.ofInt (ys_gup g kc n (ys_ev r z) kc j)))) : Nat × va_E) = _
          rw [ef]
        rw [ec] at ew
        refine k r H1 locs1 ls _ ⟨q1, ⟨s0, s1, s2, s3⟩, q2, ⟨ys_gup g kc n (ys_ev r z), ⟨fun i w hi => ?_, fun i hi => ?_⟩, ?_, ?_, hS1⟩, q4, q5⟩
        · by_cases hk : i = kc
          · subst hk
            have hl : i < fds.2.length := (List.getElem?_eq_some_iff.mp har).1
            have hi : (fds.2.set i (ys_wr b.1 a x q))[i]? = some w := hi
            rw [List.getElem?_set_self hl] at hi
            cases hi
            have e6 : ys_gup g i n (ys_ev r z) i = fun j => if j = n then ys_ev r z else g i j := if_pos rfl
            rw [e6]
            exact ys_wr_ok h.1.1 (hg.1 i a har) e4 hzq
          · have hi : (fds.2.set kc (ys_wr b.1 a x q))[i]? = some w := hi
            rw [List.getElem?_set_ne (Ne.symm hk)] at hi
            have e6 : ys_gup g kc n (ys_ev r z) i = g i := if_neg hk
            rw [e6]
            exact hg.1 i w hi
        · have hk : i ≠ kc := fun e => hi (e ▸ hm)
          have e6 : ys_gup g kc n (ys_ev r z) i = g i := if_neg hk
          rw [e6]
          exact hg.2 i hi
        · show va_P D cl (ys_wld ad cT sh r (ys_gup g kc n (ys_ev r z)) fds.1) H1
          rw [ew]
          exact hP1
        · show va_D A (ys_wld ad cT sh r (ys_gup g kc n (ys_ev r z)) fds.1)
          rw [ew]
          exact hD1
      · cases hs
    · cases hs
  · cases hs
noncomputable def ys_hzast (sh : List ys_C) (mods : List Nat) (pc : Nat) (b : ys_B) (fds : ys_F) (lv : List (Nat × ys_V)) (sv : List ys_V) : Option (List (Nat × ys_S)) := match sv with
  | .inl (.inl z) :: .inl (.inl x) :: .inr (some k) :: t => (match sh[k]?, fds.2[k]?, ys_ivl b.1 z with
    | some (.inr y), some a, some q => if decide (y.1 = 3) && ys_inb b x y.2.1 && decide (k ∈ mods) && (decide (0 ≤ q.1) && decide (q.2 ≤ 1)) then some [(pc + 1, b, (fds.1, fds.2.set k (ys_wr b.1 a x q)), lv, t)] else none
    | _, _, _ => none)
  | _ => none
theorem ys_kzast (hexec : p.tables.exec = Jvm.exec) (hb : c.code = cc) (hK : va_K D cl tys s) (hty : tys[3]? = some (cT 3, .boolean)) (hd : decode cc pc = .ok (.bastore, 1)) (hs : ys_hzast sh mods pc b fds lv sv = some succ) (k : ∀ q ∈ succ, ys_W p l e R s m args below meth c Q kc kz D cl ad cT sh A H0 nL mods g0 r0 E q.1 q.2) : ys_W p l e R s m args below meth c Q kc kz D cl ad cT sh A H0 nL mods g0 r0 E pc (b, fds, lv, sv) := by
  unfold ys_hzast at hs
  split at hs
  · rename_i z x kc t
    split at hs
    · rename_i y a q hsh har hiv
      split at hs
      · rename_i hc
        simp only [Bool.and_eq_true, decide_eq_true_eq] at hc
        obtain ⟨⟨⟨hkd, hin⟩, hm⟩, hq⟩ := hc
        cases Option.some.inj hs
        have k := k _ List.mem_cons_self
        intro r H locs ls st h
        obtain ⟨st1, e1, g1, hz⟩ := ys_rep_pop h
        obtain ⟨st2, e2, g2, hx⟩ := ys_rep_pop g1
        obtain ⟨st3, e3, g3, -⟩ := ys_rep_pop g2
        subst e1; subst e2; subst e3
        obtain ⟨q1, ⟨s0, s1, s2, s3⟩, q2, ⟨g, hg, hP, hD, hS⟩, q4, q5⟩ := g3
        obtain ⟨n, e4, hn, hvi, e5⟩ := ys_inb_ok h.1 hin
        have hzq := ys_ivl_ok h.1.1 hiv
        have hw := ys_wld_get (ad := ad) (cT := cT) (r := r) (g := g) (fds := fds.1) hsh
        obtain ⟨kd, len, tg⟩ := y
        have hkd : kd = 3 := hkd
        subst hkd
        refine va_zast hexec hb hK hP hD hS kc 3 (f := fun j => Int32.ofInt (g kc j)) hw hty hvi hd fun H1 locs1 hP1 hD1 hS1 => ?_
        have ew := ys_wld_set (ad := ad) (cT := cT) (r := r) (g := g) (g' := ys_gup g kc n (ys_ev r z)) (fds := fds.1) (fds' := fds.1) hsh (fun i hi => ⟨if_neg hi, rfl⟩)
        have ef : (fun j => Int32.ofInt (ys_gup g kc n (ys_ev r z) kc j)) = upd (fun j => Int32.ofInt (g kc j)) (Int32.ofInt (ys_ev r x)).toNatClampNeg (vp_nar .boolean (Int32.ofInt (ys_ev r z))) := by
          rw [e5]
          funext j
          unfold ys_gup upd
          rw [if_pos rfl]
          by_cases hj : j = n
          · rw [if_pos hj, if_pos hj]
            exact (ys_nar_z (by omega) (by omega)).symm
          · rw [if_neg hj, if_neg hj]
        have ec : ys_cel ad cT r (ys_gup g kc n (ys_ev r z)) kc (.inr (3, len, tg)) (fds.1.getD kc []) = (ad kc, .inl (cT 3, len, .inl (upd (fun j => Int32.ofInt (g kc j)) (Int32.ofInt (ys_ev r x)).toNatClampNeg (vp_nar .boolean (Int32.ofInt (ys_ev r z)))))) := by
          show ((ad kc, Sum.inl (cT 3, len, Sum.inl (fun j => Int32.ofInt (ys_gup g kc n (ys_ev r z) kc j)))) : Nat × va_E) = _
          rw [ef]
        rw [ec] at ew
        refine k r H1 locs1 ls _ ⟨q1, ⟨s0, s1, s2, s3⟩, q2, ⟨ys_gup g kc n (ys_ev r z), ⟨fun i w hi => ?_, fun i hi => ?_⟩, ?_, ?_, hS1⟩, q4, q5⟩
        · by_cases hk : i = kc
          · subst hk
            have hl : i < fds.2.length := (List.getElem?_eq_some_iff.mp har).1
            have hi : (fds.2.set i (ys_wr b.1 a x q))[i]? = some w := hi
            rw [List.getElem?_set_self hl] at hi
            cases hi
            have e6 : ys_gup g i n (ys_ev r z) i = fun j => if j = n then ys_ev r z else g i j := if_pos rfl
            rw [e6]
            exact ys_wr_ok h.1.1 (hg.1 i a har) e4 hzq
          · have hi : (fds.2.set kc (ys_wr b.1 a x q))[i]? = some w := hi
            rw [List.getElem?_set_ne (Ne.symm hk)] at hi
            have e6 : ys_gup g kc n (ys_ev r z) i = g i := if_neg hk
            rw [e6]
            exact hg.1 i w hi
        · have hk : i ≠ kc := fun e => hi (e ▸ hm)
          have e6 : ys_gup g kc n (ys_ev r z) i = g i := if_neg hk
          rw [e6]
          exact hg.2 i hi
        · show va_P D cl (ys_wld ad cT sh r (ys_gup g kc n (ys_ev r z)) fds.1) H1
          rw [ew]
          exact hP1
        · show va_D A (ys_wld ad cT sh r (ys_gup g kc n (ys_ev r z)) fds.1)
          rw [ew]
          exact hD1
      · cases hs
    · cases hs
  · cases hs
/-- how long an array is -/
noncomputable def ys_halen (sh : List ys_C) (pc : Nat) (b : ys_B) (fds : ys_F) (lv : List (Nat × ys_V)) (sv : List ys_V) : Option (List (Nat × ys_S)) := match sv with
  | .inr (some k) :: t => (match sh[k]? with
    | some (.inr y) => some [(pc + 1, b, fds, lv, .inl (.inl ([], (y.2.1 : Int))) :: t)]
    | _ => none)
  | _ => none
theorem ys_kalen (hexec : p.tables.exec = Jvm.exec) (hb : c.code = cc) (hK : va_K D cl tys s) (hty : ∀ (k : Nat) (y : Nat × Nat × List Nat), sh[k]? = some (.inr y) → ∃ t, tys[y.1]? = some (cT y.1, t)) (hd : decode cc pc = .ok (.arraylength, 1)) (hs : ys_halen sh pc b fds lv sv = some succ) (k : ∀ q ∈ succ, ys_W p l e R s m args below meth c Q kc kz D cl ad cT sh A H0 nL mods g0 r0 E q.1 q.2) : ys_W p l e R s m args below meth c Q kc kz D cl ad cT sh A H0 nL mods g0 r0 E pc (b, fds, lv, sv) := by
  unfold ys_halen at hs
  split at hs
  · rename_i kc t
    split at hs
    · rename_i y hsh
      cases Option.some.inj hs
      have k := k _ List.mem_cons_self
      intro r H locs ls st h
      obtain ⟨st1, e1, g1, -⟩ := ys_rep_pop h
      subst e1
      obtain ⟨g, hg, hP, hD, hS⟩ := g1.2.2.2.1
      have hw := ys_wld_get (ad := ad) (cT := cT) (r := r) (g := g) (fds := fds.1) hsh
      obtain ⟨ty, ht⟩ := hty kc y hsh
      refine va_alen (x := ys_con ad (g kc) y) (v := Int32.ofInt (ys_ev r (([], (y.2.1 : Int)) : ys_L))) hexec hb hK hP kc y.1 hw ht ?_ hd (k r H locs ls _ (ys_rep_push g1 _ (ys_stb_cst _)))
      show Int32.ofNat y.2.1 = Int32.ofInt (0 + (y.2.1 : Int))
      rw [Int.zero_add, Int32.ofInt_eq_ofNat]
    · cases hs
  · cases hs
/-- a reference out of an array: each place by itself -/
noncomputable def ys_fan (n : Nat) (f : Nat → List (Nat × ys_S)) : List (Nat × ys_S) := (List.range n).flatMap f
noncomputable def ys_isn (x : ys_L) (i : Int) : List ys_L := [ys_sub x ([], i), ys_sub ([], i) x]
theorem ys_isn_ok {r : Nat → Int} {x : ys_L} {i : Int} (h : ys_ev r x = i) : ys_fk r (ys_isn x i) := by
  have z : ys_ev r (([], i) : ys_L) = i := Int.zero_add _
  intro f hf
  rcases List.mem_cons.mp hf with q | q
  · rw [q, ys_sub_ev, z]; omega
  · rw [List.mem_singleton.mp q, ys_sub_ev, z]; omega
theorem ys_isn_st {n : Nat} {x : ys_L} {i : Int} (h : ys_stb n x) : ∀ f ∈ ys_isn x i, ys_stb n f := by
  intro f hf
  rcases List.mem_cons.mp hf with q | q
  · rw [q]; exact ys_stb_sub h (ys_stb_cst i)
  · rw [List.mem_singleton.mp q]; exact ys_stb_sub (ys_stb_cst i) h
noncomputable def ys_haald (sh : List ys_C) (pc : Nat) (b : ys_B) (fds : ys_F) (lv : List (Nat × ys_V)) (sv : List ys_V) : Option (List (Nat × ys_S)) := match sv with
  | .inl (.inl x) :: .inr (some k) :: t => (match sh[k]? with
    | some (.inr y) => if decide (4 ≤ y.1) && ys_inb b x y.2.1 && decide (y.2.2.length = y.2.1) then some (ys_fan y.2.1 fun i => ys_br (pc + 1) b (ys_isn x (i : Int)) (fds, lv, .inr (some (y.2.2.getD i 0)) :: t)) else none
    | _ => none)
  | _ => none
theorem ys_kaald (hexec : p.tables.exec = Jvm.exec) (hb : c.code = cc) (hK : va_K D cl tys s) (hty : ∀ (k : Nat) (y : Nat × Nat × List Nat), sh[k]? = some (.inr y) → 4 ≤ y.1 → ∃ C, tys[y.1]? = some (cT y.1, .object C)) (hd : decode cc pc = .ok (.aaload, 1)) (hs : ys_haald sh pc b fds lv sv = some succ) (k : ∀ q ∈ succ, ys_W p l e R s m args below meth c Q kc kz D cl ad cT sh A H0 nL mods g0 r0 E q.1 q.2) : ys_W p l e R s m args below meth c Q kc kz D cl ad cT sh A H0 nL mods g0 r0 E pc (b, fds, lv, sv) := by
  unfold ys_haald at hs
  split at hs
  · rename_i x kc t
    split at hs
    · rename_i y hsh
      split at hs
      · rename_i hc
        rw [Bool.and_eq_true, Bool.and_eq_true, decide_eq_true_eq, decide_eq_true_eq] at hc
        obtain ⟨⟨hkd, hin⟩, hlen⟩ := hc
        cases Option.some.inj hs
        intro r H locs ls st h
        obtain ⟨st1, e1, g1, hx⟩ := ys_rep_pop h
        obtain ⟨st2, e2, g2, -⟩ := ys_rep_pop g1
        subst e1; subst e2
        obtain ⟨g, hg, hP, hD, hS⟩ := g2.2.2.2.1
        obtain ⟨n, e3, hn, hvi, e4⟩ := ys_inb_ok h.1 hin
        have hw := ys_wld_get (ad := ad) (cT := cT) (r := r) (g := g) (fds := fds.1) hsh
        obtain ⟨C, ht⟩ := hty kc y hsh hkd
        have hcon : ys_con ad (g kc) y = (y.2.1, .inr (.inr (.inr (.inr fun j => (y.2.2[j]?).map ad)))) := by
          unfold ys_con
          rw [if_neg (by omega), if_pos hkd]
        have hw2 : (ys_wld ad cT sh r g fds.1)[kc]? = some (ad kc, .inl (cT y.1, y.2.1, .inr (.inr (.inr (.inr fun j => (y.2.2[j]?).map ad))))) := by
          rw [hw]
          show some (ad kc, Sum.inl (cT y.1, ys_con ad (g kc) y)) = _
          rw [hcon]
        refine va_aldq hexec hb hK hP kc y.1 hw2 ht hvi hd ?_
        rw [e4]
        have e5 : y.2.2[n]? = some (y.2.2.getD n 0) := by
          rw [List.getD_eq_getElem?_getD, List.getElem?_eq_getElem (by omega)]
          rfl
        rw [e5]
        exact ys_kbr (ys_rep_push g2 (.inr (some (y.2.2.getD n 0))) trivial) (ys_isn_ok e3) (ys_isn_st hx) (fun q hq => k q (List.mem_flatMap.mpr ⟨n, List.mem_range.mpr hn, hq⟩))
      · cases hs
    · cases hs
  · cases hs
/-- a table of places to go on at -/
noncomputable def ys_htab (dflt lo hi : Int) (offs : Array Int) (pc : Nat) (b : ys_B) (fds : ys_F) (lv : List (Nat × ys_V)) (sv : List ys_V) : Option (List (Nat × ys_S)) := match sv, ys_tgt pc dflt with
  | .inl (.inl x) :: t, some td => if ys_inr false b.1 x && (decide ((offs.size : Int) = hi - lo + 1) && offs.toList.all fun o => decide (0 ≤ (pc : Int) + o)) then
      some (ys_br td b [ys_sub ([], lo - 1) x] (fds, lv, t) ++ (ys_br td b [ys_sub x ([], hi + 1)] (fds, lv, t) ++ ys_fan offs.size fun i => ys_br ((pc : Int) + offs.toList.getD i 0).toNat b (ys_isn x (lo + (i : Int))) (fds, lv, t))) else none
  | _, _ => none
theorem ys_ktab {dflt lo hi : Int} {offs : Array Int} {len : Nat} (hexec : p.tables.exec = Jvm.exec) (hb : c.code = cc) (hd : decode cc pc = .ok (.tableswitch dflt lo hi offs, len)) (hs : ys_htab dflt lo hi offs pc b fds lv sv = some succ) (k : ∀ q ∈ succ, ys_W p l e R s m args below meth c Q kc kz D cl ad cT sh A H0 nL mods g0 r0 E q.1 q.2) : ys_W p l e R s m args below meth c Q kc kz D cl ad cT sh A H0 nL mods g0 r0 E pc (b, fds, lv, sv) := by
  unfold ys_htab at hs
  split at hs
  · rename_i x t td htd
    split at hs
    · rename_i hc
      rw [Bool.and_eq_true, Bool.and_eq_true, decide_eq_true_eq] at hc
      obtain ⟨hin, hsz, hal⟩ := hc
      cases Option.some.inj hs
      intro r H locs ls st h
      obtain ⟨st1, e1, g1, hx⟩ := ys_rep_pop h
      subst e1
      have e0 := ys_inr32 h.1.1 hin
      have z : ∀ i : Int, ys_ev r (([], i) : ys_L) = i := fun i => Int.zero_add _
      have one : ∀ {g : ys_L}, ys_stb b.1.length g → ∀ f ∈ [g], ys_stb b.1.length f := fun hg f hf => by rw [List.mem_singleton.mp hf]; exact hg
      by_cases h1 : ys_ev r x < lo
      · refine lv_tableOut hexec hb hd (Or.inl (by rw [e0]; exact h1)) (ys_tgt_ok htd) ?_
        exact ys_kbr g1 (ys_fk1 (by rw [ys_sub_ev, ys_cst_ev]; omega)) (one (ys_stb_sub (ys_stb_cst _) hx)) (fun q hq => k q (List.mem_append_left _ hq))
      · by_cases h2 : hi < ys_ev r x
        · refine lv_tableOut hexec hb hd (Or.inr (by rw [e0]; exact h2)) (ys_tgt_ok htd) ?_
          exact ys_kbr g1 (ys_fk1 (by rw [ys_sub_ev, ys_cst_ev]; omega)) (one (ys_stb_sub hx (ys_stb_cst _))) (fun q hq => k q (List.mem_append_right _ (List.mem_append_left _ hq)))
        · have hn : (ys_ev r x - lo).toNat < offs.size := by omega
          have ho : offs[(ys_ev r x - lo).toNat]? = some (offs.toList.getD (ys_ev r x - lo).toNat 0) := by
            rw [List.getD_eq_getElem?_getD, Array.getElem?_toList, Array.getElem?_eq_getElem hn]
            rfl
          have hpos : 0 ≤ (pc : Int) + offs.toList.getD (ys_ev r x - lo).toNat 0 := by
            have hm : offs.toList.getD (ys_ev r x - lo).toNat 0 ∈ offs.toList := by
              rw [← Array.getElem?_toList] at ho
              exact List.mem_of_getElem? ho
            exact of_decide_eq_true (List.all_eq_true.mp hal _ hm)
          refine lv_tableIn hexec hb hd (by rw [e0]; exact h1) (by rw [e0]; exact h2) (by rw [e0]; exact ho) (tgt := ((pc : Int) + offs.toList.getD (ys_ev r x - lo).toNat 0).toNat) (by omega) ?_
          exact ys_kbr g1 (ys_isn_ok (by omega)) (ys_isn_st hx) (fun q hq => k q (List.mem_append_right _ (List.mem_append_right _ (List.mem_flatMap.mpr ⟨_, List.mem_range.mpr hn, hq⟩))))
    · cases hs
  · cases hs
/-- by the quotients, where there are few -/
noncomputable def ys_hqs (F : ys_B → ys_L → ys_L → Option (ys_B × ys_L)) (pc : Nat) (b : ys_B) (fds : ys_F) (lv : List (Nat × ys_V)) (sv : List ys_V) : Option (List (Nat × ys_S)) := match sv with
  | .inl (.inl y) :: .inl (.inl x) :: t => (match ys_qb false b.1 x y with
    | some q => if q.1 < q.2 ∧ q.2 - q.1 ≤ 8 then some (ys_fan (q.2 - q.1 + 1).toNat fun i => ys_br pc b [ys_sub x ([], y.2 * (q.1 + (i : Int))), ys_sub ([], y.2 * (q.1 + (i : Int)) + (y.2 - 1)) x] (fds, lv, .inl (.inl y) :: .inl (.inl x) :: t)) else ys_hb32 F pc b fds lv sv
    | none => ys_hb32 F pc b fds lv sv)
  | _ => none
theorem ys_kqs {F : ys_B → ys_L → ys_L → Option (ys_B × ys_L)} {op : Int32 → Int32 → Int32} {ok : Int32 → Prop} (hF : ys_B32 F op ok) (hrow : ∀ (X Y : Int32) (H : Heap) (locs : List Loc) (ls : Array Slot) (rest : List Value), ok Y → W p l e R s m args below meth c H locs kc kz Q (F0 m (pc + 1) ls (.int (op X Y) :: rest)) → W p l e R s m args below meth c H locs kc kz Q (F0 m pc ls (.int Y :: .int X :: rest))) (hs : ys_hqs F pc b fds lv sv = some succ) (k : ∀ q ∈ succ, ys_W p l e R s m args below meth c Q kc kz D cl ad cT sh A H0 nL mods g0 r0 E q.1 q.2) : ys_W p l e R s m args below meth c Q kc kz D cl ad cT sh A H0 nL mods g0 r0 E pc (b, fds, lv, sv) := by
  unfold ys_hqs at hs
  split at hs
  · rename_i y x t
    split at hs
    · rename_i q hq
      split at hs
      · rename_i hc
        cases Option.some.inj hs
        intro r H locs ls st h
        obtain ⟨h1, h2, h3, h4, h5, h6, h7, h8⟩ := ys_qb_ok h.1.1 hq
        have hx : ys_stb b.1.length x := h.2.1.2.2.2 (.inl (.inl x)) (List.mem_cons_of_mem _ List.mem_cons_self)
        have z : ∀ i : Int, ys_ev r (([], i) : ys_L) = i := fun i => Int.zero_add _
        have m1 := Int.emod_def (ys_ev r x) y.2
        have m2 := Int.emod_nonneg (ys_ev r x) (b := y.2) (by omega)
        have m3 := Int.emod_lt_of_pos (ys_ev r x) (b := y.2) (by omega)
        have hi : q.1 + (((ys_ev r x / y.2 - q.1).toNat : Nat) : Int) = ys_ev r x / y.2 := by omega
        refine ys_kbr h (fs := [ys_sub x ([], y.2 * (q.1 + (((ys_ev r x / y.2 - q.1).toNat : Nat) : Int))), ys_sub ([], y.2 * (q.1 + (((ys_ev r x / y.2 - q.1).toNat : Nat) : Int)) + (y.2 - 1)) x]) (fun f hf => ?_) (fun f hf => ?_) (fun q' hq' => k q' (List.mem_flatMap.mpr ⟨(ys_ev r x / y.2 - q.1).toNat, List.mem_range.mpr (by omega), hq'⟩))
        · rw [hi] at hf
          rcases List.mem_cons.mp hf with e1 | e1
          · rw [e1, ys_sub_ev, z]; omega
          · rw [List.mem_singleton.mp e1, ys_sub_ev, z]; omega
        · rcases List.mem_cons.mp hf with e1 | e1
          · rw [e1]; exact ys_stb_sub hx (ys_stb_cst _)
          · rw [List.mem_singleton.mp e1]; exact ys_stb_sub (ys_stb_cst _) hx
      · exact ys_kb32 hF hrow hs k
    · exact ys_kb32 hF hrow hs k
  · cases hs
/-- a list of places to go on at -/
noncomputable def ys_lks (pc : Nat) (b : ys_B) (rest : ys_F × List (Nat × ys_V) × List ys_V) (x : ys_L) (dflt : Int) : List (Int × Int) → List (Nat × ys_S)
  | [] => ys_br ((pc : Int) + dflt).toNat b [] rest
  | q :: t => ys_br ((pc : Int) + q.2).toNat b (ys_isn x q.1) rest ++ ys_lks pc b rest x dflt t
noncomputable def ys_hlook (dflt : Int) (ps : Array (Int × Int)) (pc : Nat) (b : ys_B) (fds : ys_F) (lv : List (Nat × ys_V)) (sv : List ys_V) : Option (List (Nat × ys_S)) := match sv with
  | .inl (.inl x) :: t => if ys_inr false b.1 x && (decide (0 ≤ (pc : Int) + dflt) && ((ps.toList.zip (ps.toList.drop 1)).all (fun (a, next) => a.1 < next.1) && ps.toList.all fun o => decide (0 ≤ (pc : Int) + o.2))) then some (ys_lks pc b (fds, lv, t) x dflt ps.toList) else none
  | _ => none
theorem ys_lks_ok {x : ys_L} {dflt : Int} {r : Nat → Int} {H : Heap} {locs : List Loc} {ls : Array Slot} {st : List Value} (h : ys_rep D cl ad cT sh A H0 nL mods g0 r0 r E (b, fds, lv, sv) H locs ls st) (hx : ys_stb b.1.length x) : ∀ (pl : List (Int × Int)), (∀ q ∈ ys_lks pc b (fds, lv, sv) x dflt pl, ys_W p l e R s m args below meth c Q kc kz D cl ad cT sh A H0 nL mods g0 r0 E q.1 q.2) → W p l e R s m args below meth c H locs kc kz Q (F0 m ((pc : Int) + Op.lookupswitch.offset pl dflt (ys_ev r x)).toNat ls st)
  | [], k => ys_kbr h (fun f hf => by cases hf) (fun f hf => by cases hf) k
  | (a, o) :: t, k => by
    rw [Op.lookupswitch.offset_cons]
    by_cases ha : a = ys_ev r x
    · rw [if_pos ha]
      exact ys_kbr h (ys_isn_ok ha.symm) (ys_isn_st hx) (fun q hq => k q (List.mem_append_left _ hq))
    · rw [if_neg ha]
      exact ys_lks_ok h hx t (fun q hq => k q (List.mem_append_right _ hq))
theorem ys_lks_pos {dflt : Int} (hd : 0 ≤ (pc : Int) + dflt) (x : Int) : ∀ (l : List (Int × Int)), (l.all fun o => decide (0 ≤ (pc : Int) + o.2)) = true → 0 ≤ (pc : Int) + Op.lookupswitch.offset l dflt x
  | [], _ => hd
  | (a, o) :: t, h => by
    rw [List.all_cons, Bool.and_eq_true] at h
    rw [Op.lookupswitch.offset_cons]
    split
    · exact of_decide_eq_true h.1
    · exact ys_lks_pos hd x t h.2
theorem ys_klook {dflt : Int} {ps : Array (Int × Int)} {len : Nat} (hexec : p.tables.exec = Jvm.exec) (hb : c.code = cc) (hd : decode cc pc = .ok (.lookupswitch dflt ps, len)) (hs : ys_hlook dflt ps pc b fds lv sv = some succ) (k : ∀ q ∈ succ, ys_W p l e R s m args below meth c Q kc kz D cl ad cT sh A H0 nL mods g0 r0 E q.1 q.2) : ys_W p l e R s m args below meth c Q kc kz D cl ad cT sh A H0 nL mods g0 r0 E pc (b, fds, lv, sv) := by
  unfold ys_hlook at hs
  split at hs
  · rename_i x t
    split at hs
    · rename_i hc
      rw [Bool.and_eq_true, Bool.and_eq_true, Bool.and_eq_true, decide_eq_true_eq] at hc
      obtain ⟨hin, hdf, hsrt, hal⟩ := hc
      cases Option.some.inj hs
      intro r H locs ls st h
      obtain ⟨st1, e1, g1, hx⟩ := ys_rep_pop h
      subst e1
      have e0 := ys_inr32 h.1.1 hin
      have hp := ys_lks_pos hdf (ys_ev r x) ps.toList hal
      exact lv_lookup hexec hb hd hsrt (by rw [e0]) (tgt := ((pc : Int) + Op.lookupswitch.offset ps.toList dflt (ys_ev r x)).toNat) (by omega) (ys_lks_ok g1 hx ps.toList k)
    · cases hs
  · cases hs
/-- the stack -/
noncomputable def ys_hdup (pc : Nat) (b : ys_B) (fds : ys_F) (lv : List (Nat × ys_V)) (sv : List ys_V) : Option (List (Nat × ys_S)) := match sv with
  | v :: t => if ys_cat v = 1 then some [(pc + 1, b, fds, lv, v :: v :: t)] else none
  | _ => none
theorem ys_kdup (hexec : p.tables.exec = Jvm.exec) (hb : c.code = cc) (hd : decode cc pc = .ok (.dup, 1)) (hs : ys_hdup pc b fds lv sv = some succ) (k : ∀ q ∈ succ, ys_W p l e R s m args below meth c Q kc kz D cl ad cT sh A H0 nL mods g0 r0 E q.1 q.2) : ys_W p l e R s m args below meth c Q kc kz D cl ad cT sh A H0 nL mods g0 r0 E pc (b, fds, lv, sv) := by
  unfold ys_hdup at hs
  split at hs
  · rename_i v t
    split at hs
    · rename_i hc
      cases Option.some.inj hs
      have k := k _ List.mem_cons_self
      intro r H locs ls st h
      obtain ⟨st1, e1, g1, hv⟩ := ys_rep_pop h
      subst e1
      exact lv_dup hexec hb hd (by rw [ys_cat_den]; exact hc) (k r H locs ls _ (ys_rep_push h v hv))
    · cases hs
  · cases hs
noncomputable def ys_hdup2 (pc : Nat) (b : ys_B) (fds : ys_F) (lv : List (Nat × ys_V)) (sv : List ys_V) : Option (List (Nat × ys_S)) := match sv with
  | v :: w :: t => if ys_cat v = 1 && ys_cat w = 1 then some [(pc + 1, b, fds, lv, v :: w :: v :: w :: t)] else none
  | _ => none
theorem ys_kdup2 (hexec : p.tables.exec = Jvm.exec) (hb : c.code = cc) (hd : decode cc pc = .ok (.dup2, 1)) (hs : ys_hdup2 pc b fds lv sv = some succ) (k : ∀ q ∈ succ, ys_W p l e R s m args below meth c Q kc kz D cl ad cT sh A H0 nL mods g0 r0 E q.1 q.2) : ys_W p l e R s m args below meth c Q kc kz D cl ad cT sh A H0 nL mods g0 r0 E pc (b, fds, lv, sv) := by
  unfold ys_hdup2 at hs
  split at hs
  · rename_i v w t
    split at hs
    · rename_i hc
      rw [Bool.and_eq_true, decide_eq_true_eq, decide_eq_true_eq] at hc
      cases Option.some.inj hs
      have k := k _ List.mem_cons_self
      intro r H locs ls st h
      obtain ⟨st1, e1, g1, hv⟩ := ys_rep_pop h
      obtain ⟨st2, e2, g2, hw⟩ := ys_rep_pop g1
      subst e1; subst e2
      exact lv_dup2_11 hexec hb hd (by rw [ys_cat_den]; exact hc.1) (by rw [ys_cat_den]; exact hc.2) (k r H locs ls _ (ys_rep_push (ys_rep_push h w hw) v hv))
    · cases hs
  · cases hs
noncomputable def ys_hpop (pc : Nat) (b : ys_B) (fds : ys_F) (lv : List (Nat × ys_V)) (sv : List ys_V) : Option (List (Nat × ys_S)) := match sv with
  | v :: t => if ys_cat v = 1 then some [(pc + 1, b, fds, lv, t)] else none
  | _ => none
theorem ys_kpop (hexec : p.tables.exec = Jvm.exec) (hb : c.code = cc) (hd : decode cc pc = .ok (.pop, 1)) (hs : ys_hpop pc b fds lv sv = some succ) (k : ∀ q ∈ succ, ys_W p l e R s m args below meth c Q kc kz D cl ad cT sh A H0 nL mods g0 r0 E q.1 q.2) : ys_W p l e R s m args below meth c Q kc kz D cl ad cT sh A H0 nL mods g0 r0 E pc (b, fds, lv, sv) := by
  unfold ys_hpop at hs
  split at hs
  · rename_i v t
    split at hs
    · rename_i hc
      cases Option.some.inj hs
      have k := k _ List.mem_cons_self
      intro r H locs ls st h
      obtain ⟨st1, e1, g1, hv⟩ := ys_rep_pop h
      subst e1
      exact lv_pop hexec hb hd (by rw [ys_cat_den]; exact hc) (k r H locs ls _ g1)
    · cases hs
  · cases hs
noncomputable def ys_hpop2 (pc : Nat) (b : ys_B) (fds : ys_F) (lv : List (Nat × ys_V)) (sv : List ys_V) : Option (List (Nat × ys_S)) := match sv with
  | v :: t => if ys_cat v = 2 then some [(pc + 1, b, fds, lv, t)] else none
  | _ => none
theorem ys_kpop2 (hexec : p.tables.exec = Jvm.exec) (hb : c.code = cc) (hd : decode cc pc = .ok (.pop2, 1)) (hs : ys_hpop2 pc b fds lv sv = some succ) (k : ∀ q ∈ succ, ys_W p l e R s m args below meth c Q kc kz D cl ad cT sh A H0 nL mods g0 r0 E q.1 q.2) : ys_W p l e R s m args below meth c Q kc kz D cl ad cT sh A H0 nL mods g0 r0 E pc (b, fds, lv, sv) := by
  unfold ys_hpop2 at hs
  split at hs
  · rename_i v t
    split at hs
    · rename_i hc
      cases Option.some.inj hs
      have k := k _ List.mem_cons_self
      intro r H locs ls st h
      obtain ⟨st1, e1, g1, hv⟩ := ys_rep_pop h
      subst e1
      exact lv_pop2_2 hexec hb hd (by rw [ys_cat_den]; exact hc) (k r H locs ls _ g1)
    · cases hs
  · cases hs
/-- a place of the frame grows -/
noncomputable def ys_hinc (nL : Nat) (i : Nat) (n : Int) (pc : Nat) (b : ys_B) (fds : ys_F) (lv : List (Nat × ys_V)) (sv : List ys_V) : Option (List (Nat × ys_S)) := match lv.lookup i with
  | some (.inl (.inl x)) => if i < nL then some [(pc + 3, (ys_nm false b (ys_add x ([], n))).1, fds, ys_st1 lv i (.inl (.inl (ys_nm false b (ys_add x ([], n))).2)), sv)] else none
  | _ => none
theorem ys_kinc {i : Nat} {n : Int} (hexec : p.tables.exec = Jvm.exec) (hb : c.code = cc) (hd : decode cc pc = .ok (.iinc i n, 3)) (hs : ys_hinc nL i n pc b fds lv sv = some succ) (k : ∀ q ∈ succ, ys_W p l e R s m args below meth c Q kc kz D cl ad cT sh A H0 nL mods g0 r0 E q.1 q.2) : ys_W p l e R s m args below meth c Q kc kz D cl ad cT sh A H0 nL mods g0 r0 E pc (b, fds, lv, sv) := by
  unfold ys_hinc at hs
  split at hs
  · rename_i x hx
    split at hs
    · rename_i hi
      cases Option.some.inj hs
      have k := k _ List.mem_cons_self
      intro r H locs ls st h
      have hsx := (ys_rep_loc h hx).2
      obtain ⟨r', hag, hbb, hl, hsc, hst, hval⟩ := ys_Op_nm32 (e := ys_add x ([], n)) (x := Int32.ofInt (ys_ev r x) + Int32.ofInt n) h.1 h.2.1.1 (ys_stb_add hsx (ys_stb_cst n)) (by rw [ys_add_ev, Int32.ofInt_add]; congr 2; exact Int.zero_add n)
      have h2 := ys_rep_ext h hag hbb hl hsc
      obtain ⟨q1, ⟨s0, s1, s2, s3⟩, q2, q3, q4, q5⟩ := h2
      have hx2 := ys_find_mem lv i _ hx
      obtain ⟨kk, hkk⟩ := List.getElem?_of_mem (List.mem_map.mpr ⟨_, hx2, rfl⟩ : (i, ys_den ad r' (.inl (.inl x))) ∈ ys_lvs ad r' lv)
      have ex : Int32.ofInt (ys_ev r' x) = Int32.ofInt (ys_ev r x) := by rw [hsx r' r hag]
      refine lv_iinc (x := Int32.ofInt (ys_ev r' x)) (v := Int32.ofInt (ys_ev r' (ys_nm false b (ys_add x ([], n))).2)) (lv' := ys_lvs ad r' (ys_st1 lv i (.inl (.inl (ys_nm false b (ys_add x ([], n))).2)))) hexec hb hd q4 hkk (by rw [ex, hval]) hi ?_ fun ls' hls => k r' H locs ls' st ⟨q1, ⟨s0, s1, fun q hq => ?_, s3⟩, q2, q3, hls, q5⟩
      · rw [ys_st1_lvs]
        rfl
      · rcases List.mem_cons.mp hq with e5 | e5
        · rw [e5]; exact hst
        · exact s2 q (List.mem_filter.mp e5).1
    · cases hs
  · cases hs
end YSM2
