/-! arrays, exactly -/
abbrev yt_U : Type := Nat × ys_S × List yt_Ev
noncomputable def yt_mk (w : Bool) (x : ys_L) : ys_V := match w with
  | true => .inl (.inr x)
  | false => .inl (.inl x)
noncomputable def yt_vl (w : Bool) (z : Int) : Value := match w with
  | true => .long (Int64.ofInt z)
  | false => .int (Int32.ofInt z)
theorem yt_mk_den {ad : Nat → Nat} {r : Nat → Int} {w : Bool} {x : ys_L} : ys_den ad r (yt_mk w x) = yt_vl w (ys_ev r x) := by
  cases w <;> rfl
theorem yt_mk_st {n : Nat} {w : Bool} {x : ys_L} (h : ys_stb n x) : ys_stV n (yt_mk w x) := by
  cases w <;> exact h
noncomputable def yt_hld (kd : Nat) (w : Bool) (sh : List ys_C) (h : List yt_Ev) (pc : Nat) (b : ys_B) (fds : ys_F) (lv : List (Nat × ys_V)) (sv : List ys_V) : Option (List yt_U) := match sv with
  | .inl (.inl x) :: .inr (some k) :: t => (match sh[k]?, fds.2[k]? with
    | some (.inr y), some a => if decide (y.1 = kd) && ys_inb b x y.2.1 then (match yt_mem k x h with
      | some n => if n < b.1.length then some [(pc + 1, (b, fds, lv, yt_mk w (ys_sym n) :: t), h)] else none
      | none => (match ys_spl b.1 a x with
        | some i => some ((ys_cut3 pc b x i (fds, lv, .inl (.inl x) :: .inr (some k) :: t)).map fun q => (q.1, q.2, h))
        | none => if (ys_rd b.1 a x).1 = (ys_rd b.1 a x).2 then some [(pc + 1, (b, fds, lv, yt_mk w ([], (ys_rd b.1 a x).1) :: t), h)] else some [(pc + 1, ((b.1 ++ [ys_rd b.1 a x], b.2), fds, lv, yt_mk w (ys_sym b.1.length) :: t), .inl (.inl (k, x, b.1.length)) :: h)])) else none
    | _, _ => none)
  | _ => none
section YTA
variable {p : Program} {l : Launch} {e : Env} {R : Room} {s : State} {m : MethodId} {args : Array Value} {below : List Frame} {meth : Method} {c : Code} {Q : State → Prop} {kc kz : Nat} {D : va_G} {cl : List vw_C} {ad : Nat → Nat} {cT : Nat → ClassId} {sh : List ys_C} {A : Nat → Prop} {H0 : Heap} {nL : Nat} {mods : List Nat} {g0 : yt_G} {r0 : Nat → Int} {E : Nat} {tb : yt_Tb} {gi : yt_G} {h : List yt_Ev} {pc : Nat} {b : ys_B} {fds : ys_F} {lv : List (Nat × ys_V)} {sv : List ys_V} {succ : List yt_U} {cc : ByteArray} {own : String} {Ts : List Cond} {tys : List (ClassId × FieldType)}
/-- what an exact state holds -/
theorem yt_wd {r : Nat → Int} {g : yt_G} {S : ys_S} {H : Heap} {locs : List Loc} {ls : Array Slot} {st : List Value} (hrep : ys_rep D cl ad cT sh A H0 nL [] g r0 r E S H locs ls st) : (∀ (k : Nat) (a : ys_R), S.2.1.2[k]? = some a → ys_rok a (g k)) ∧ va_P D cl (ys_wld ad cT sh r g S.2.1.1) H ∧ va_D A (ys_wld ad cT sh r g S.2.1.1) ∧ va_S A H0 H locs := by
  obtain ⟨g', hg, hP, hD, hS⟩ := hrep.2.2.2.1
  have e1 : g' = g := funext fun k => hg.2 k List.not_mem_nil
  rw [e1] at hg hP hD
  exact ⟨hg.1, hP, hD, hS⟩
theorem yt_kld {kd : Nat} {w : Bool} (hrow : ∀ (x : ys_L) (k : Nat) (y : Nat × Nat × List Nat) (r : Nat → Int) (g : yt_G) (H : Heap) (locs : List Loc) (ls : Array Slot) (st2 : List Value) (n : Nat), sh[k]? = some (.inr y) → y.1 = kd → va_P D cl (ys_wld ad cT sh r g fds.1) H → vp_in (Int32.ofInt (ys_ev r x)) y.2.1 → (Int32.ofInt (ys_ev r x)).toNatClampNeg = n → W p l e R s m args below meth c H locs kc kz Q (F0 m (pc + 1) ls (yt_vl w (g k n) :: st2)) → W p l e R s m args below meth c H locs kc kz Q (F0 m pc ls (.int (Int32.ofInt (ys_ev r x)) :: .ref (ad k) :: st2)))
    (hs : yt_hld kd w sh h pc b fds lv sv = some succ) (k : ∀ q ∈ succ, yt_X p l e R s m args below meth c Q kc kz D cl ad cT sh A H0 nL mods g0 r0 E tb gi q.2.2 q.1 q.2.1) : yt_X p l e R s m args below meth c Q kc kz D cl ad cT sh A H0 nL mods g0 r0 E tb gi h pc (b, fds, lv, sv) := by
  unfold yt_hld at hs
  split at hs
  · rename_i x kk t
    split at hs
    · rename_i y a hsh har
      split at hs
      · rename_i hc
        rw [Bool.and_eq_true, decide_eq_true_eq] at hc
        obtain ⟨hkd, hin⟩ := hc
        intro r g H locs ls st hrep hh hsc hm
        obtain ⟨st1, e1, g1, hx⟩ := ys_rep_pop hrep
        obtain ⟨st2, e2, g2, -⟩ := ys_rep_pop g1
        obtain ⟨hg, hP, hD, hS⟩ := yt_wd hrep
        obtain ⟨n, e3, hn, hvi, e4⟩ := ys_inb_ok hrep.1 hin
        have e5 : (ys_ev r x).toNat = n := by rw [e3]; rfl
        split at hs
        · rename_i n0 hmem
          split at hs
          · rename_i hlt
            cases Option.some.inj hs
            subst e1; subst e2
            refine hrow x kk y r g H locs ls st2 n hsh hkd hP hvi e4 ?_
            have h1 := yt_mem_ok h g hmem hh
            rw [e5] at h1
            have k1 := k _ List.mem_cons_self r g H locs ls _ (ys_rep_push g2 (yt_mk w (ys_sym n0)) (yt_mk_st (ys_stb_sym hlt))) hh hsc hm
            rw [yt_mk_den, ys_sym_ev, h1] at k1
            exact k1
          · cases hs
        · split at hs
          · rename_i i hi
            cases Option.some.inj hs
            exact ys_kcut3 (p := p) (l := l) (e := e) (R := R) (s := s) (m := m) (args := args) (below := below) (meth := meth) (c := c) (Q := Q) (kc := kc) (kz := kz) (yt_self hrep) (hrep.2.1.2.2.2 (.inl (.inl x)) List.mem_cons_self) (fun q hq r' H' locs' ls' st' hrep' => yt_next hrep hh hsc hm (k _ (List.mem_map.mpr ⟨q, hq, rfl⟩)) hrep')
          · have hrd : (ys_rd b.1 a x).1 ≤ g kk n ∧ g kk n ≤ (ys_rd b.1 a x).2 := ys_rd_ok hrep.1.1 (hg kk a har) e3
            split at hs
            · rename_i heq
              cases Option.some.inj hs
              subst e1; subst e2
              refine hrow x kk y r g H locs ls st2 n hsh hkd hP hvi e4 ?_
              have k1 := k _ List.mem_cons_self r g H locs ls _ (ys_rep_push g2 (yt_mk w ([], (ys_rd b.1 a x).1)) (yt_mk_st (ys_stb_cst _))) hh hsc hm
              have e6 : ys_ev r (([], (ys_rd b.1 a x).1) : ys_L) = g kk n := by
                rw [ys_ev0]
                omega
              rw [yt_mk_den, e6] at k1
              exact k1
            · cases Option.some.inj hs
              subst e1; subst e2
              refine hrow x kk y r g H locs ls st2 n hsh hkd hP hvi e4 ?_
              have hok := ys_new_ok hrep.1 hrep.2.1.1 hrd
              have hll : b.1.length ≤ (b.1 ++ [ys_rd b.1 a x]).length := by rw [List.length_append]; omega
              have hlt : b.1.length < (b.1 ++ [ys_rd b.1 a x]).length := by rw [List.length_append, List.length_singleton]; omega
              have g3 := ys_rep_ext g2 (r' := ys_up r b.1.length (g kk n)) (b' := (b.1 ++ [ys_rd b.1 a x], b.2)) ys_up_lt hok hll (ys_scB_new hrep.2.1.1)
              have hx : ys_stb b.1.length x := hx
              have hcg : ∀ i, i < b.1.length → r i = ys_up r b.1.length (g kk n) i := fun i hi => (ys_up_lt i hi).symm
              have k1 := k _ List.mem_cons_self (ys_up r b.1.length (g kk n)) g H locs ls _ (ys_rep_push g3 (yt_mk w (ys_sym b.1.length)) (yt_mk_st (ys_stb_sym hlt))) ⟨g, yt_h_cong hcg hsc hh, rfl, by
                show ys_up r b.1.length (g kk n) b.1.length = g kk (ys_ev (ys_up r b.1.length (g kk n)) x).toNat
                rw [ys_up_at, ← hx r _ hcg, e5]⟩ (fun v hv => by
                  rcases List.mem_cons.mp hv with q | q
                  · rw [q]
                    exact ⟨ys_stb_mono hx hll, hlt⟩
                  · exact yt_sc_mono hll (hsc v q)) hm
              rw [yt_mk_den, ys_sym_ev, ys_up_at] at k1
              exact k1
      · cases hs
    · cases hs
  · cases hs
theorem yt_kild (hexec : p.tables.exec = Jvm.exec) (hb : c.code = cc) (hK : va_K D cl tys s) (hty : tys[0]? = some (cT 0, .int)) (hd : decode cc pc = .ok (.iaload, 1)) (hs : yt_hld 0 false sh h pc b fds lv sv = some succ) (k : ∀ q ∈ succ, yt_X p l e R s m args below meth c Q kc kz D cl ad cT sh A H0 nL mods g0 r0 E tb gi q.2.2 q.1 q.2.1) : yt_X p l e R s m args below meth c Q kc kz D cl ad cT sh A H0 nL mods g0 r0 E tb gi h pc (b, fds, lv, sv) := by
  refine yt_kld (kd := 0) (w := false) (fun x kk y r g H locs ls st2 n hsh hkd hP hvi e4 hW => ?_) hs k
  have hw := ys_wld_get (ad := ad) (cT := cT) (r := r) (g := g) (fds := fds.1) hsh
  obtain ⟨kd, len, tg⟩ := y
  have hkd : kd = 0 := hkd
  subst hkd
  refine va_iald hexec hb hK hP kk 0 (f := fun j => Int32.ofInt (g kk j)) hw hty hvi hd ?_
  rw [e4]
  exact hW
theorem yt_klld (hexec : p.tables.exec = Jvm.exec) (hb : c.code = cc) (hK : va_K D cl tys s) (hty : tys[1]? = some (cT 1, .long)) (hd : decode cc pc = .ok (.laload, 1)) (hs : yt_hld 1 true sh h pc b fds lv sv = some succ) (k : ∀ q ∈ succ, yt_X p l e R s m args below meth c Q kc kz D cl ad cT sh A H0 nL mods g0 r0 E tb gi q.2.2 q.1 q.2.1) : yt_X p l e R s m args below meth c Q kc kz D cl ad cT sh A H0 nL mods g0 r0 E tb gi h pc (b, fds, lv, sv) := by
  refine yt_kld (kd := 1) (w := true) (fun x kk y r g H locs ls st2 n hsh hkd hP hvi e4 hW => ?_) hs k
  have hw := ys_wld_get (ad := ad) (cT := cT) (r := r) (g := g) (fds := fds.1) hsh
  obtain ⟨kd, len, tg⟩ := y
  have hkd : kd = 1 := hkd
  subst hkd
  refine va_lald hexec hb hK hP kk 1 (f := fun j => Int64.ofInt (g kk j)) hw hty hvi hd ?_
  rw [e4]
  exact hW
theorem yt_kbld (hexec : p.tables.exec = Jvm.exec) (hb : c.code = cc) (hK : va_K D cl tys s) (hty : tys[2]? = some (cT 2, .byte)) (hd : decode cc pc = .ok (.baload, 1)) (hs : yt_hld 2 false sh h pc b fds lv sv = some succ) (k : ∀ q ∈ succ, yt_X p l e R s m args below meth c Q kc kz D cl ad cT sh A H0 nL mods g0 r0 E tb gi q.2.2 q.1 q.2.1) : yt_X p l e R s m args below meth c Q kc kz D cl ad cT sh A H0 nL mods g0 r0 E tb gi h pc (b, fds, lv, sv) := by
  refine yt_kld (kd := 2) (w := false) (fun x kk y r g H locs ls st2 n hsh hkd hP hvi e4 hW => ?_) hs k
  have hw := ys_wld_get (ad := ad) (cT := cT) (r := r) (g := g) (fds := fds.1) hsh
  obtain ⟨kd, len, tg⟩ := y
  have hkd : kd = 2 := hkd
  subst hkd
  refine va_bald hexec hb hK hP kk 2 (f := fun j => Int32.ofInt (g kk j)) hw hty hvi hd ?_
  rw [e4]
  exact hW
theorem yt_kzld (hexec : p.tables.exec = Jvm.exec) (hb : c.code = cc) (hK : va_K D cl tys s) (hty : tys[3]? = some (cT 3, .boolean)) (hd : decode cc pc = .ok (.baload, 1)) (hs : yt_hld 3 false sh h pc b fds lv sv = some succ) (k : ∀ q ∈ succ, yt_X p l e R s m args below meth c Q kc kz D cl ad cT sh A H0 nL mods g0 r0 E tb gi q.2.2 q.1 q.2.1) : yt_X p l e R s m args below meth c Q kc kz D cl ad cT sh A H0 nL mods g0 r0 E tb gi h pc (b, fds, lv, sv) := by
  refine yt_kld (kd := 3) (w := false) (fun x kk y r g H locs ls st2 n hsh hkd hP hvi e4 hW => ?_) hs k
  have hw := ys_wld_get (ad := ad) (cT := cT) (r := r) (g := g) (fds := fds.1) hsh
  obtain ⟨kd, len, tg⟩ := y
  have hkd : kd = 3 := hkd
  subst hkd
  refine va_zald hexec hb hK hP kk 3 (f := fun j => Int32.ofInt (g kk j)) hw hty hvi hd ?_
  rw [e4]
  exact hW
end YTA
noncomputable def yt_hst (kd : Nat) (w : Bool) (q0 : Int × Int) (sh : List ys_C) (mods : List Nat) (h : List yt_Ev) (pc : Nat) (b : ys_B) (fds : ys_F) (lv : List (Nat × ys_V)) (sv : List ys_V) : Option (List yt_U) := match sv with
  | v :: .inl (.inl x) :: .inr (some k) :: t => (match (match w, v with
      | false, .inl (.inl z) => some z
      | true, .inl (.inr z) => some z
      | _, _ => none), sh[k]?, fds.2[k]? with
    | some z, some (.inr y), some a => (match ys_ivl b.1 z with
      | some q => if decide (y.1 = kd) && (ys_inb b x y.2.1 && (decide (k ∈ mods) && (decide (q0.1 ≤ q.1) && decide (q.2 ≤ q0.2)))) then some [(pc + 1, (b, (fds.1, fds.2.set k (ys_wr b.1 a x q)), lv, t), .inr (.inl (k, x, z)) :: h)] else none
      | none => none)
    | _, _, _ => none)
  | _ => none
section YTB
variable {p : Program} {l : Launch} {e : Env} {R : Room} {s : State} {m : MethodId} {args : Array Value} {below : List Frame} {meth : Method} {c : Code} {Q : State → Prop} {kc kz : Nat} {D : va_G} {cl : List vw_C} {ad : Nat → Nat} {cT : Nat → ClassId} {sh : List ys_C} {A : Nat → Prop} {H0 : Heap} {nL : Nat} {mods : List Nat} {g0 : yt_G} {r0 : Nat → Int} {E : Nat} {tb : yt_Tb} {gi : yt_G} {h : List yt_Ev} {pc : Nat} {b : ys_B} {fds : ys_F} {lv : List (Nat × ys_V)} {sv : List ys_V} {succ : List yt_U} {cc : ByteArray} {own : String} {Ts : List Cond} {tys : List (ClassId × FieldType)}
theorem yt_kst {kd : Nat} {w : Bool} {q0 : Int × Int} (hrow : ∀ (x z : ys_L) (k : Nat) (y : Nat × Nat × List Nat) (r : Nat → Int) (g : yt_G) (H : Heap) (locs : List Loc) (ls : Array Slot) (st2 : List Value) (n : Nat), sh[k]? = some (.inr y) → y.1 = kd → (q0.1 ≤ ys_ev r z ∧ ys_ev r z ≤ q0.2) → va_P D cl (ys_wld ad cT sh r g fds.1) H → va_D A (ys_wld ad cT sh r g fds.1) → va_S A H0 H locs → vp_in (Int32.ofInt (ys_ev r x)) y.2.1 → (Int32.ofInt (ys_ev r x)).toNatClampNeg = n → (∀ (H1 : Heap) (locs1 : List Loc), va_P D cl (ys_wld ad cT sh r (ys_gup g k n (ys_ev r z)) fds.1) H1 → va_D A (ys_wld ad cT sh r (ys_gup g k n (ys_ev r z)) fds.1) → va_S A H0 H1 locs1 → W p l e R s m args below meth c H1 locs1 kc kz Q (F0 m (pc + 1) ls st2)) → W p l e R s m args below meth c H locs kc kz Q (F0 m pc ls (yt_vl w (ys_ev r z) :: .int (Int32.ofInt (ys_ev r x)) :: .ref (ad k) :: st2)))
    (hs : yt_hst kd w q0 sh mods h pc b fds lv sv = some succ) (k : ∀ q ∈ succ, yt_X p l e R s m args below meth c Q kc kz D cl ad cT sh A H0 nL mods g0 r0 E tb gi q.2.2 q.1 q.2.1) : yt_X p l e R s m args below meth c Q kc kz D cl ad cT sh A H0 nL mods g0 r0 E tb gi h pc (b, fds, lv, sv) := by
  unfold yt_hst at hs
  split at hs
  · rename_i v x kk t
    split at hs
    · rename_i z y a hz hsh har
      split at hs
      · rename_i q hiv
        split at hs
        · rename_i hc
          simp only [Bool.and_eq_true, decide_eq_true_eq] at hc
          obtain ⟨hkd, hin, hmk, hq⟩ := hc
          cases Option.some.inj hs
          have k := k _ List.mem_cons_self
          intro r g H locs ls st hrep hh hsc hm
          obtain ⟨st1, e1, g1, hvs⟩ := ys_rep_pop hrep
          obtain ⟨st2, e2, g2, hx⟩ := ys_rep_pop g1
          obtain ⟨st3, e3, g3, -⟩ := ys_rep_pop g2
          obtain ⟨hg, hP, hD, hS⟩ := yt_wd hrep
          obtain ⟨n, e4, hn, hvi, e5⟩ := ys_inb_ok hrep.1 hin
          have hzq := ys_ivl_ok hrep.1.1 hiv
          have hv : v = yt_mk w z := by
            split at hz
            · cases Option.some.inj hz
              rfl
            · cases Option.some.inj hz
              rfl
            · cases hz
          have hzs : ys_stb b.1.length z := by
            rw [hv] at hvs
            cases w <;> exact hvs
          rw [hv, yt_mk_den] at e1
          subst e1; subst e2; subst e3
          refine hrow x z kk y r g H locs ls st3 n hsh hkd (by omega) hP hD hS hvi e5 fun H1 locs1 hP1 hD1 hS1 => ?_
          obtain ⟨q1, ⟨s0, s1, s2, s3⟩, q2, -, q4, q5⟩ := g3
          refine k r (ys_gup g kk n (ys_ev r z)) H1 locs1 ls st3 ⟨q1, ⟨s0, s1, s2, s3⟩, q2, ⟨_, ⟨fun i w2 hi => ?_, fun _ _ => rfl⟩, hP1, hD1, hS1⟩, q4, q5⟩ ⟨g, hh, by
            show ys_gup g kk n (ys_ev r z) = ys_gup g kk (ys_ev r x).toNat (ys_ev r z)
            rw [e4]
            rfl⟩ (fun v hv => ?_) (fun i hi => ?_)
          · by_cases hk : i = kk
            · subst hk
              have hl : i < fds.2.length := (List.getElem?_eq_some_iff.mp har).1
              have hi : (fds.2.set i (ys_wr b.1 a x q))[i]? = some w2 := hi
              rw [List.getElem?_set_self hl] at hi
              cases hi
              have e6 : ys_gup g i n (ys_ev r z) i = fun j => if j = n then ys_ev r z else g i j := if_pos rfl
              rw [e6]
              exact ys_wr_ok hrep.1.1 (hg i a har) e4 hzq
            · have hi : (fds.2.set kk (ys_wr b.1 a x q))[i]? = some w2 := hi
              rw [List.getElem?_set_ne (Ne.symm hk)] at hi
              have e6 : ys_gup g kk n (ys_ev r z) i = g i := if_neg hk
              rw [e6]
              exact hg i w2 hi
          · rcases List.mem_cons.mp hv with q | q
            · rw [q]
              exact ⟨hx, hzs⟩
            · exact hsc v q
          · have hk : i ≠ kk := fun e => hi (e ▸ hmk)
            have e6 : ys_gup g kk n (ys_ev r z) i = g i := if_neg hk
            rw [e6]
            exact hm i hi
        · cases hs
      · cases hs
    · cases hs
  · cases hs
theorem yt_kist (hexec : p.tables.exec = Jvm.exec) (hb : c.code = cc) (hK : va_K D cl tys s) (hty : tys[0]? = some (cT 0, .int)) (hd : decode cc pc = .ok (.iastore, 1)) (hs : yt_hst 0 false ((-9223372036854775808), 9223372036854775808) sh mods h pc b fds lv sv = some succ) (k : ∀ q ∈ succ, yt_X p l e R s m args below meth c Q kc kz D cl ad cT sh A H0 nL mods g0 r0 E tb gi q.2.2 q.1 q.2.1) : yt_X p l e R s m args below meth c Q kc kz D cl ad cT sh A H0 nL mods g0 r0 E tb gi h pc (b, fds, lv, sv) := by
  refine yt_kst (kd := 0) (w := false) (fun x z kk y r g H locs ls st2 n hsh hkd hq hP hD hS hvi e5 hW => ?_) hs k
  have hw := ys_wld_get (ad := ad) (cT := cT) (r := r) (g := g) (fds := fds.1) hsh
  obtain ⟨kd, len, tg⟩ := y
  have hkd : kd = 0 := hkd
  subst hkd
  refine va_iast hexec hb hK hP hD hS kk 0 (f := fun j => Int32.ofInt (g kk j)) hw hty hvi hd fun H1 locs1 hP1 hD1 hS1 => ?_
  have ew := ys_wld_set (ad := ad) (cT := cT) (r := r) (g := g) (g' := ys_gup g kk n (ys_ev r z)) (fds := fds.1) (fds' := fds.1) hsh (fun i hi => ⟨if_neg hi, rfl⟩)
  have ef : (fun j => Int32.ofInt (ys_gup g kk n (ys_ev r z) kk j)) = upd (fun j => Int32.ofInt (g kk j)) (Int32.ofInt (ys_ev r x)).toNatClampNeg (Int32.ofInt (ys_ev r z)) := by
    rw [e5]
    funext j
    unfold ys_gup upd
    rw [if_pos rfl]
    by_cases hj : j = n
    · rw [if_pos hj, if_pos hj]
    · rw [if_neg hj, if_neg hj]
  have ec : ys_cel ad cT r (ys_gup g kk n (ys_ev r z)) kk (.inr (0, len, tg)) (fds.1.getD kk []) = (ad kk, .inl (cT 0, len, .inl (upd (fun j => Int32.ofInt (g kk j)) (Int32.ofInt (ys_ev r x)).toNatClampNeg (Int32.ofInt (ys_ev r z))))) := by
    show ((ad kk, Sum.inl (cT 0, len, Sum.inl (fun j => Int32.ofInt (ys_gup g kk n (ys_ev r z) kk j)))) : Nat × va_E) = _
    rw [ef]
  rw [ec] at ew
  exact hW H1 locs1 (by rw [ew]; exact hP1) (by rw [ew]; exact hD1) hS1
theorem yt_klst (hexec : p.tables.exec = Jvm.exec) (hb : c.code = cc) (hK : va_K D cl tys s) (hty : tys[1]? = some (cT 1, .long)) (hd : decode cc pc = .ok (.lastore, 1)) (hs : yt_hst 1 true ((-9223372036854775808), 9223372036854775808) sh mods h pc b fds lv sv = some succ) (k : ∀ q ∈ succ, yt_X p l e R s m args below meth c Q kc kz D cl ad cT sh A H0 nL mods g0 r0 E tb gi q.2.2 q.1 q.2.1) : yt_X p l e R s m args below meth c Q kc kz D cl ad cT sh A H0 nL mods g0 r0 E tb gi h pc (b, fds, lv, sv) := by
  refine yt_kst (kd := 1) (w := true) (fun x z kk y r g H locs ls st2 n hsh hkd hq hP hD hS hvi e5 hW => ?_) hs k
  have hw := ys_wld_get (ad := ad) (cT := cT) (r := r) (g := g) (fds := fds.1) hsh
  obtain ⟨kd, len, tg⟩ := y
  have hkd : kd = 1 := hkd
  subst hkd
  refine va_last hexec hb hK hP hD hS kk 1 (f := fun j => Int64.ofInt (g kk j)) hw hty hvi hd fun H1 locs1 hP1 hD1 hS1 => ?_
  have ew := ys_wld_set (ad := ad) (cT := cT) (r := r) (g := g) (g' := ys_gup g kk n (ys_ev r z)) (fds := fds.1) (fds' := fds.1) hsh (fun i hi => ⟨if_neg hi, rfl⟩)
  have ef : (fun j => Int64.ofInt (ys_gup g kk n (ys_ev r z) kk j)) = vp_updL (fun j => Int64.ofInt (g kk j)) (Int32.ofInt (ys_ev r x)).toNatClampNeg (Int64.ofInt (ys_ev r z)) := by
    rw [e5]
    funext j
    unfold ys_gup vp_updL
    rw [if_pos rfl]
    by_cases hj : j = n
    · rw [if_pos hj, if_pos hj]
    · rw [if_neg hj, if_neg hj]
  have ec : ys_cel ad cT r (ys_gup g kk n (ys_ev r z)) kk (.inr (1, len, tg)) (fds.1.getD kk []) = (ad kk, .inl (cT 1, len, .inr (.inl (vp_updL (fun j => Int64.ofInt (g kk j)) (Int32.ofInt (ys_ev r x)).toNatClampNeg (Int64.ofInt (ys_ev r z)))))) := by
    show ((ad kk, Sum.inl (cT 1, len, Sum.inr (Sum.inl (fun j => Int64.ofInt (ys_gup g kk n (ys_ev r z) kk j))))) : Nat × va_E) = _
    rw [ef]
  rw [ec] at ew
  exact hW H1 locs1 (by rw [ew]; exact hP1) (by rw [ew]; exact hD1) hS1
theorem yt_kbst (hexec : p.tables.exec = Jvm.exec) (hb : c.code = cc) (hK : va_K D cl tys s) (hty : tys[2]? = some (cT 2, .byte)) (hd : decode cc pc = .ok (.bastore, 1)) (hs : yt_hst 2 false ((-128), 127) sh mods h pc b fds lv sv = some succ) (k : ∀ q ∈ succ, yt_X p l e R s m args below meth c Q kc kz D cl ad cT sh A H0 nL mods g0 r0 E tb gi q.2.2 q.1 q.2.1) : yt_X p l e R s m args below meth c Q kc kz D cl ad cT sh A H0 nL mods g0 r0 E tb gi h pc (b, fds, lv, sv) := by
  refine yt_kst (kd := 2) (w := false) (fun x z kk y r g H locs ls st2 n hsh hkd hq hP hD hS hvi e5 hW => ?_) hs k
  have hw := ys_wld_get (ad := ad) (cT := cT) (r := r) (g := g) (fds := fds.1) hsh
  obtain ⟨kd, len, tg⟩ := y
  have hkd : kd = 2 := hkd
  subst hkd
  refine va_bast hexec hb hK hP hD hS kk 2 (f := fun j => Int32.ofInt (g kk j)) hw hty hvi hd fun H1 locs1 hP1 hD1 hS1 => ?_
  have ew := ys_wld_set (ad := ad) (cT := cT) (r := r) (g := g) (g' := ys_gup g kk n (ys_ev r z)) (fds := fds.1) (fds' := fds.1) hsh (fun i hi => ⟨if_neg hi, rfl⟩)
  have ef : (fun j => Int32.ofInt (ys_gup g kk n (ys_ev r z) kk j)) = upd (fun j => Int32.ofInt (g kk j)) (Int32.ofInt (ys_ev r x)).toNatClampNeg (vp_nar .byte (Int32.ofInt (ys_ev r z))) := by
    rw [e5]
    funext j
    unfold ys_gup upd
    rw [if_pos rfl]
    by_cases hj : j = n
    · rw [if_pos hj, if_pos hj]
      exact (ys_nar_b hq.1 hq.2).symm
    · rw [if_neg hj, if_neg hj]
  have ec : ys_cel ad cT r (ys_gup g kk n (ys_ev r z)) kk (.inr (2, len, tg)) (fds.1.getD kk []) = (ad kk, .inl (cT 2, len, .inl (upd (fun j => Int32.ofInt (g kk j)) (Int32.ofInt (ys_ev r x)).toNatClampNeg (vp_nar .byte (Int32.ofInt (ys_ev r z)))))) := by
    show ((ad kk, Sum.inl (cT 2, len, Sum.inl (fun j => Int32.ofInt (ys_gup g kk n (ys_ev r z) kk j)))) : Nat × va_E) = _
    rw [ef]
  rw [ec] at ew
  exact hW H1 locs1 (by rw [ew]; exact hP1) (by rw [ew]; exact hD1) hS1
theorem yt_kzst (hexec : p.tables.exec = Jvm.exec) (hb : c.code = cc) (hK : va_K D cl tys s) (hty : tys[3]? = some (cT 3, .boolean)) (hd : decode cc pc = .ok (.bastore, 1)) (hs : yt_hst 3 false (0, 1) sh mods h pc b fds lv sv = some succ) (k : ∀ q ∈ succ, yt_X p l e R s m args below meth c Q kc kz D cl ad cT sh A H0 nL mods g0 r0 E tb gi q.2.2 q.1 q.2.1) : yt_X p l e R s m args below meth c Q kc kz D cl ad cT sh A H0 nL mods g0 r0 E tb gi h pc (b, fds, lv, sv) := by
  refine yt_kst (kd := 3) (w := false) (fun x z kk y r g H locs ls st2 n hsh hkd hq hP hD hS hvi e5 hW => ?_) hs k
  have hw := ys_wld_get (ad := ad) (cT := cT) (r := r) (g := g) (fds := fds.1) hsh
  obtain ⟨kd, len, tg⟩ := y
  have hkd : kd = 3 := hkd
  subst hkd
  refine va_zast hexec hb hK hP hD hS kk 3 (f := fun j => Int32.ofInt (g kk j)) hw hty hvi hd fun H1 locs1 hP1 hD1 hS1 => ?_
  have ew := ys_wld_set (ad := ad) (cT := cT) (r := r) (g := g) (g' := ys_gup g kk n (ys_ev r z)) (fds := fds.1) (fds' := fds.1) hsh (fun i hi => ⟨if_neg hi, rfl⟩)
  have ef : (fun j => Int32.ofInt (ys_gup g kk n (ys_ev r z) kk j)) = upd (fun j => Int32.ofInt (g kk j)) (Int32.ofInt (ys_ev r x)).toNatClampNeg (vp_nar .boolean (Int32.ofInt (ys_ev r z))) := by
    rw [e5]
    funext j
    unfold ys_gup upd
    rw [if_pos rfl]
    by_cases hj : j = n
    · rw [if_pos hj, if_pos hj]
      exact (ys_nar_z hq.1 hq.2).symm
    · rw [if_neg hj, if_neg hj]
  have ec : ys_cel ad cT r (ys_gup g kk n (ys_ev r z)) kk (.inr (3, len, tg)) (fds.1.getD kk []) = (ad kk, .inl (cT 3, len, .inl (upd (fun j => Int32.ofInt (g kk j)) (Int32.ofInt (ys_ev r x)).toNatClampNeg (vp_nar .boolean (Int32.ofInt (ys_ev r z)))))) := by
    show ((ad kk, Sum.inl (cT 3, len, Sum.inl (fun j => Int32.ofInt (ys_gup g kk n (ys_ev r z) kk j)))) : Nat × va_E) = _
    rw [ef]
  rw [ec] at ew
  exact hW H1 locs1 (by rw [ew]; exact hP1) (by rw [ew]; exact hD1) hS1
/-- a part of one array into another -/
noncomputable def yt_hcp (lo : Nat) (sh : List ys_C) (mods : List Nat) (h : List yt_Ev) (pc : Nat) (b : ys_B) (fds : ys_F) (lv : List (Nat × ys_V)) (sv : List ys_V) : Option (List yt_U) := match sv with
  | .inl (.inl n) :: .inl (.inl dp) :: .inr (some kd) :: .inl (.inl sp) :: .inr (some ks) :: t => (match sh[kd]?, sh[ks]?, fds.2[kd]?, fds.2[ks]? with
    | some (.inr yd), some (.inr ys), some ad, some as => if (decide (yd.1 = 0) || decide (yd.1 = 1)) && (decide (ys.1 = yd.1) && (ys_prt b dp n yd.2.1 && (ys_prt b sp n ys.2.1 && (decide (kd ∈ mods) && decide ((t.map ys_cat).sum + ys_ncw ≤ lo))))) then some [(pc + 3, (b, (fds.1, fds.2.set kd (ys_hul (ys_alh ad.2 ad.1) (ys_alh as.2 as.1), [])), lv, t), .inr (.inr (.inr (ks, kd, sp, dp, n))) :: h)] else none
    | _, _, _, _ => none)
  | _ => none
theorem yt_ncl {b : ys_B} {r : Nat → Int} (hb : ys_okB r b) {x n : ys_L} {len : Nat} (hc : ys_prt b x n len = true) : (Int32.ofInt (ys_ev r x)).toNatClampNeg = (ys_ev r x).toNat ∧ (Int32.ofInt (ys_ev r n)).toNatClampNeg = (ys_ev r n).toNat := by
  unfold ys_prt at hc
  rw [Bool.and_eq_true, Bool.and_eq_true] at hc
  have e1 := ys_inr32 hb.1 hc.1
  have e2 := ys_inr32 hb.1 hc.2.1
  exact ⟨by show (Int32.ofInt (ys_ev r x)).toInt.toNat = _; rw [e1], by show (Int32.ofInt (ys_ev r n)).toInt.toNat = _; rw [e2]⟩
theorem yt_kcp {idx lo : Nat} (hexec : p.tables.exec = Jvm.exec) (hb : c.code = cc) (hml : c.maxLocals = nL) (hts : ∀ w ∈ Ts, w.before args s = true) (hown : s.vm.findClass own = some m.cls) (hK : va_K D cl tys s) (hty0 : tys[0]? = some (cT 0, .int)) (hty1 : tys[1]? = some (cT 1, .long)) (hfr : 1 ≤ R.frames) (hlo : lo ≤ R.locals) (hw1 : Cond.methodLink own idx arraycopyName ∈ Ts) (hw2 : Cond.native arraycopyName ∈ Ts) (hw3 : Cond.static arraycopyName ∈ Ts) (hw4 : Cond.initialized "java/lang/System" ∈ Ts) (hd : decode cc pc = .ok (.invokestatic idx, 3)) (hs : yt_hcp lo sh mods h pc b fds lv sv = some succ) (k : ∀ q ∈ succ, yt_X p l e R s m args below meth c Q kc kz D cl ad cT sh A H0 nL mods g0 r0 E tb gi q.2.2 q.1 q.2.1) : yt_X p l e R s m args below meth c Q kc kz D cl ad cT sh A H0 nL mods g0 r0 E tb gi h pc (b, fds, lv, sv) := by
  unfold yt_hcp at hs
  split at hs
  · rename_i n dp kd sp ks t
    split at hs
    · rename_i yd ys aD aS hshd hshs hard hars
      split at hs
      · rename_i hc
        simp only [Bool.and_eq_true, Bool.or_eq_true, decide_eq_true_eq] at hc
        obtain ⟨hkd, hks, hpd, hps, hmk, hlw⟩ := hc
        cases Option.some.inj hs
        have k := k _ List.mem_cons_self
        intro r g H locs ls st hrep hh hsc hm
        obtain ⟨st1, e1, g1, hn⟩ := ys_rep_pop hrep
        obtain ⟨st2, e2, g2, hdp⟩ := ys_rep_pop g1
        obtain ⟨st3, e3, g3, -⟩ := ys_rep_pop g2
        obtain ⟨st4, e4, g4, hsp⟩ := ys_rep_pop g3
        obtain ⟨st5, e5, g5, -⟩ := ys_rep_pop g4
        subst e1; subst e2; subst e3; subst e4; subst e5
        obtain ⟨hg, hP, hD, hS⟩ := yt_wd hrep
        obtain ⟨q1, ⟨s0, s1, s2, s3⟩, q2, -, q4, q5⟩ := g5
        obtain ⟨p1, p2, p3⟩ := ys_prt_ok hrep.1 hpd
        obtain ⟨p4, -, p6⟩ := ys_prt_ok hrep.1 hps
        obtain ⟨c1, c2⟩ := yt_ncl hrep.1 hpd
        obtain ⟨c3, -⟩ := yt_ncl hrep.1 hps
        have hwd := ys_wld_get (ad := ad) (cT := cT) (r := r) (g := g) (fds := fds.1) hshd
        have hws := ys_wld_get (ad := ad) (cT := cT) (r := r) (g := g) (fds := fds.1) hshs
        have hrest : (st5.map fun v => v.category).sum + (nativeFrameWords "java/lang/System" "arraycopy" 5 + 11) ≤ R.locals := by
          rw [q5, ys_cats]
          exact Nat.le_trans hlw hlo
        obtain ⟨kdd, ld, td⟩ := yd
        obtain ⟨kss, lsn, tss⟩ := ys
        have hks : kss = kdd := hks
        subst hks
        obtain ⟨G1, eG⟩ : ∃ G1 : yt_G, G1 = ys_gcp g ks kd (ys_ev r sp).toNat (ys_ev r dp).toNat (ys_ev r n).toNat := ⟨_, rfl⟩
        have fin : ∀ (H1 : Heap) (locs1 : List Loc), va_P D cl (ys_wld ad cT sh r G1 fds.1) H1 → va_D A (ys_wld ad cT sh r G1 fds.1) → va_S A H0 H1 locs1 → W p l e R s m args below meth c H1 locs1 kc kz Q (F0 m (pc + 3) ls st5) := by
          intro H1 locs1 hP1 hD1 hS1
          refine k r G1 H1 locs1 ls _ ⟨q1, ⟨s0, s1, s2, s3⟩, q2, ⟨_, ⟨fun i w hi => ?_, fun _ _ => rfl⟩, hP1, hD1, hS1⟩, q4, q5⟩ ⟨g, hh, eG⟩ (fun v hv => ?_) (fun i hi => ?_)
          · by_cases hk : i = kd
            · subst hk
              have hl : i < fds.2.length := (List.getElem?_eq_some_iff.mp hard).1
              have hi : (fds.2.set i (ys_hul (ys_alh aD.2 aD.1) (ys_alh aS.2 aS.1), []))[i]? = some w := hi
              rw [List.getElem?_set_self hl] at hi
              cases hi
              intro j
              show (ys_hul (ys_alh aD.2 aD.1) (ys_alh aS.2 aS.1)).1 ≤ G1 i j ∧ G1 i j ≤ (ys_hul (ys_alh aD.2 aD.1) (ys_alh aS.2 aS.1)).2
              rw [eG]
              unfold ys_gcp
              rw [if_pos rfl]
              unfold va_cpy
              split
              · exact ys_hul_r (ys_alh_ok (hg ks aS hars) _)
              · exact ys_hul_l (ys_alh_ok (hg i aD hard) j)
            · have hi : (fds.2.set kd (ys_hul (ys_alh aD.2 aD.1) (ys_alh aS.2 aS.1), []))[i]? = some w := hi
              rw [List.getElem?_set_ne (Ne.symm hk)] at hi
              have e6 : G1 i = g i := by rw [eG]; exact if_neg hk
              rw [e6]
              exact hg i w hi
          · rcases List.mem_cons.mp hv with q | q
            · rw [q]
              exact ⟨hsp, hdp, hn⟩
            · exact hsc v q
          · have hk : i ≠ kd := fun e => hi (e ▸ hmk)
            have e6 : G1 i = g i := by rw [eG]; exact if_neg hk
            rw [e6]
            exact hm i hi
        have ew := ys_wld_set (ad := ad) (cT := cT) (r := r) (g := g) (g' := G1) (fds := fds.1) (fds' := fds.1) hshd (fun i hi => ⟨by rw [eG]; exact if_neg hi, rfl⟩)
        have hml2 : c.maxLocals = ls.size := hml.trans q4.1.symm
        rcases hkd with hk0 | hk1
        · have hk0 : kss = 0 := hk0
          subst hk0
          refine va_copyi hexec hb hml2 hown (hts _ hw1) (hts _ hw2) (hts _ hw3) (hts _ hw4) hK hP hD hS ks kd 0 0 (f := fun j => Int32.ofInt (g ks j)) (g := fun j => Int32.ofInt (g kd j)) hws hwd hty0 hty0 rfl p4 p1 p2 p6 p3 (fun i _ => rfl) hfr hrest hd fun H1 locs1 hP1 hD1 hS1 => ?_
          rw [c1, c2, c3] at hP1 hD1
          have ef : (fun j => Int32.ofInt (G1 kd j)) = va_cpy (fun j => Int32.ofInt (g ks j)) (fun j => Int32.ofInt (g kd j)) (ys_ev r sp).toNat (ys_ev r dp).toNat (ys_ev r n).toNat := by
            funext j
            rw [eG]
            unfold ys_gcp
            rw [if_pos rfl]
            unfold va_cpy
            split <;> rfl
          have ec : ys_cel ad cT r G1 kd (.inr (0, ld, td)) (fds.1.getD kd []) = (ad kd, .inl (cT 0, ld, .inl (va_cpy (fun j => Int32.ofInt (g ks j)) (fun j => Int32.ofInt (g kd j)) (ys_ev r sp).toNat (ys_ev r dp).toNat (ys_ev r n).toNat))) := by
            show ((ad kd, Sum.inl (cT 0, ld, Sum.inl (fun j => Int32.ofInt (G1 kd j)))) : Nat × va_E) = _
            rw [ef]
          rw [ec] at ew
          exact fin H1 locs1 (by rw [ew]; exact hP1) (by rw [ew]; exact hD1) hS1
        · have hk1 : kss = 1 := hk1
          subst hk1
          refine va_copyl hexec hb hml2 hown (hts _ hw1) (hts _ hw2) (hts _ hw3) (hts _ hw4) hK hP hD hS ks kd 1 1 (f := fun j => Int64.ofInt (g ks j)) (g := fun j => Int64.ofInt (g kd j)) hws hwd hty1 hty1 rfl p4 p1 p2 p6 p3 (fun i _ => rfl) hfr hrest hd fun H1 locs1 hP1 hD1 hS1 => ?_
          rw [c1, c2, c3] at hP1 hD1
          have ef : (fun j => Int64.ofInt (G1 kd j)) = va_cpy (fun j => Int64.ofInt (g ks j)) (fun j => Int64.ofInt (g kd j)) (ys_ev r sp).toNat (ys_ev r dp).toNat (ys_ev r n).toNat := by
            funext j
            rw [eG]
            unfold ys_gcp
            rw [if_pos rfl]
            unfold va_cpy
            split <;> rfl
          have ec : ys_cel ad cT r G1 kd (.inr (1, ld, td)) (fds.1.getD kd []) = (ad kd, .inl (cT 1, ld, .inr (.inl (va_cpy (fun j => Int64.ofInt (g ks j)) (fun j => Int64.ofInt (g kd j)) (ys_ev r sp).toNat (ys_ev r dp).toNat (ys_ev r n).toNat)))) := by
            show ((ad kd, Sum.inl (cT 1, ld, Sum.inr (Sum.inl (fun j => Int64.ofInt (G1 kd j))))) : Nat × va_E) = _
            rw [ef]
          rw [ec] at ew
          exact fin H1 locs1 (by rw [ew]; exact hP1) (by rw [ew]; exact hD1) hS1
      · cases hs
    · cases hs
  · cases hs
end YTB
