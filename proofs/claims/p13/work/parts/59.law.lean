/-! THE CLAIM OUT OF ONE WALK OF THE LAW'S BODY. Your part is whole_start (and what it stands on); all else here is the same for every law, but numbers. -/
noncomputable def R_law : String := "YesPlanesLaw"
noncomputable def lw_P (b : Addr) (xs : List Int32) (args : Array Value) (s : State) : Prop := args = #[.ref b] ∧ s.IntsAt b xs ∧ xs.length ≤ 3072 ∧ (Jvm.Cond.and given_1 narrow_1).before args s = true
noncomputable def lw_Q (_ : Array Value) (s : State) (o : Outcome) (t : State) : Prop := o = .returned (some (.int 1)) ∧ Framed s o t [] 600000 7302250
noncomputable def lw_Z (below : List Frame) (a : Array Value) (s : State) : State → Prop := fun t => ∃ o, t.status = .running ∧ Ended t below o ∧ lw_Q a s o t
/-- the law's own end, with 1 on the stack, nothing written that was there before, its room as the claim has it -/
theorem lw_ret {p : Program} {l : Launch} {e : Env} {s : State} {m : MethodId} {below : List Frame} {meth : Method} {c : Code} {b : Nat} (hx : p.tables.exec = Jvm.exec) (hb : c.code = code) (hr : meth.sig.returnType = ret) (hlocks : meth.locks = false) {pc : Nat} {H : Heap} {ls : Array Slot} (hdg : decode code pc = .ok (.ireturn, 1)) : W p l e room_1 s m #[Value.ref b] below meth c H [] 600000 7302250 (lw_Z below #[Value.ref b] s) (F0 m pc ls [.int 1]) := by
  intro T hT X
  obtain ⟨fs, hret, hrun, hended, hW, hframe⟩ := X.leave (v := some (.int 1)) (hlocks := hlocks) (fun h => by rw [hr] at h; cases h)
  have hmeth' : T.vm.method? m = some meth := X.method'
  refine ⟨T.setFrames fs, ?_, .returned (some (.int 1)), hrun, hended, rfl, ⟨_, rfl⟩, hW, hframe⟩
  jvm_step X.here [X.here.top, hx, hb, hdg, hmeth', hr, ret, narrow_b1]
  (try refine ⟨rfl, ?_⟩); (try refine ⟨rfl, ?_⟩)
  first | (intro acts; rw [hret _ acts rfl rfl rfl]) | rw [hret _ _ rfl rfl rfl]
  exact Steps.refl _
/-- what holds at the law's entry: the machine, the code, the tables' words (any of lw_tbl by 'hts w (by decide +kernel)'), the script of L ints xs at the cell b, what the Statement gives of the start (any of its parts by flat_of_before) -/
noncomputable def lw_At (p : Program) (s : State) (m : MethodId) (meth : Method) (c : Code) (b L : Nat) (xs : Nat → Int32) : Prop :=
  p.tables.exec = Jvm.exec ∧ c.code = code ∧ meth.sig.returnType = ret ∧ c.maxLocals = 4 ∧ s.vm.findClass R_law = some m.cls ∧ (∀ w ∈ lw_tbl, w.before #[Value.ref b] s = true) ∧ va_X b L xs s s.heap ∧ b < s.heap.size ∧ meth.locks = false ∧ (Jvm.Cond.and given_1 narrow_1).before #[Value.ref b] s = true
noncomputable def ys_oap {β : Type} (a b : Option (List β)) : Option (List β) := match a, b with
  | some x, some y => some (x ++ y)
  | _, _ => none
theorem ys_exp_mem {α β : Type} {f : α → Option (List β)} : ∀ (l : List α) (r : List β), l.foldr (fun q acc => ys_oap (f q) acc) (some []) = some r → ∀ q ∈ l, ∃ x, f q = some x ∧ ∀ z ∈ x, z ∈ r
  | [], _, _, q, hq => by cases hq
  | a :: t, r, h, q, hq => by
    rw [List.foldr_cons] at h
    unfold ys_oap at h
    split at h
    · rename_i x y h1 h2
      cases Option.some.inj h
      rcases List.mem_cons.mp hq with e | e
      · subst e
        exact ⟨x, h1, fun z hz => List.mem_append_left _ hz⟩
      · obtain ⟨w, h3, h4⟩ := ys_exp_mem t y h2 q e
        exact ⟨w, h3, fun z hz => List.mem_append_right _ (h4 z hz)⟩
    · cases h

/-! the law's loop, over scripts of every length -/
/-- an event that leaves the numbers of the images alone, or leaves every fourth no less than 0 -/
noncomputable def yu_ev (ci c1 : Nat) (v : yt_Ev) : Bool := match v with
  | .inl _ => true
  | .inr (.inl q) => !(q.1 == ci)
  | .inr (.inr (.inl q)) => ((q.1 == 50) && ((q.2.1 == 0) && (yt_e q.2.2.2.1 c1 == ci))) || !(q.2.2.2.2.contains ci)
  | .inr (.inr (.inr q)) => !(q.2.1 == ci)
theorem yu_evs {tb : yt_Tb} {ci c1 : Nat} {r : Nat → Int} {gi : yt_G} (h50 : ∀ (r : Nat → Int) (g g' : yt_G), tb 50 0 r g g' → yq_num (g' c1)) : ∀ (h : List yt_Ev) (g : yt_G), h.all (yu_ev ci c1) = true → yt_h tb r gi h g → yq_num (gi ci) → yq_num (g ci)
  | [], g, _, hh, hn => by
    have hh : g = gi := hh
    rw [hh]
    exact hn
  | v :: h, g, ha, hh, hn => by
    obtain ⟨g', hh, ho⟩ := hh
    rw [List.all_cons, Bool.and_eq_true] at ha
    have ih := yu_evs h50 h g' ha.2 hh hn
    have hv := ha.1
    rcases v with (q | q) | (q | (q | q))
    · have e : g = g' := ho.1
      rw [e]
      exact ih
    · have e : g = g' := ho.1
      rw [e]
      exact ih
    · have e : g = ys_gup g' q.1 (ys_ev r q.2.1).toNat (ys_ev r q.2.2) := ho
      have hv : (!(q.1 == ci)) = true := hv
      rw [e, yq_gup_ne (fun e2 => by rw [e2] at hv; simp at hv)]
      exact ih
    · obtain ⟨o1, o2⟩ := ho
      have hv : (((q.1 == 50) && ((q.2.1 == 0) && (yt_e q.2.2.2.1 c1 == ci))) || !(q.2.2.2.2.contains ci)) = true := hv
      rw [Bool.or_eq_true] at hv
      rcases hv with hv | hv
      · rw [Bool.and_eq_true, Bool.and_eq_true, beq_iff_eq, beq_iff_eq, beq_iff_eq] at hv
        obtain ⟨v1, v2, v3⟩ := hv
        rw [v1, v2] at o1
        have := h50 _ _ _ o1
        have this : yq_num (g (yt_e q.2.2.2.1 c1)) := this
        rw [v3] at this
        exact this
      · rw [o2 ci (by simpa using hv)]
        exact ih
    · have e : g = ys_gcp g' q.1 q.2.1 (ys_ev r q.2.2.1).toNat (ys_ev r q.2.2.2.1).toNat (ys_ev r q.2.2.2.2).toNat := ho
      have hv : (!(q.2.1 == ci)) = true := hv
      have e3 : g ci = g' ci := by
        rw [e]
        exact if_neg (fun e2 => by rw [e2] at hv; simp at hv)
      rw [e3]
      exact ih
/-- what the calls of image and back ask -/
noncomputable def yu_ob (ci c1 c2 : Nat) (q : yt_O) : Bool := ((q.1 == 50) && (yt_e q.2.2 c1 == ci)) || ((q.1 == 51) && (yt_e q.2.2 c2 == ci))
noncomputable def yu_st (cj : List (Nat × Int)) (calls : List yt_CE) (K : ys_K) (nx : Nat → Option (Instr × Nat)) (h : List yt_Ev) (pc : Nat) (b : ys_B) (fds : ys_F) (lv : List (Nat × ys_V)) (sv : List ys_V) (i : Instr) (len : Nat) : Option (List yt_U × List yt_O) := match i with
  | .iaload => (match sv with
    | .inl (.inl x) :: .inr (some k) :: t => if k = 1000 ∧ len = 1 ∧ ys_ge b.1 b.2 2 x = true ∧ ys_ge b.1 b.2 2 (ys_add (ys_sub (ys_sym 0) x) ([], -1)) = true then (match yt_mem 1000 x h with
      | some n => if n < b.1.length then some ([(pc + 1, (b, fds, lv, .inl (.inl (ys_sym n)) :: t), h)], []) else none
      | none => some ([(pc + 1, ((b.1 ++ [(ys_mn false, ys_mx false)], b.2), fds, lv, .inl (.inl (ys_sym b.1.length)) :: t), .inl (.inl (1000, x, b.1.length)) :: h)], [])) else none
    | _ => none)
  | .arraylength => (match sv with
    | .inr (some k) :: t => if k = 1000 ∧ len = 1 then some ([(pc + 1, (b, fds, lv, .inl (.inl (ys_sym 0)) :: t), h)], []) else none
    | _ => none)
  | .ireturn => (match sv with
    | [.inl (.inl x)] => if len = 1 ∧ x.1 = [] ∧ x.2 = 1 then some ([], []) else none
    | _ => none)
  | i => if ys_isr i = true then none else yt_step yk_sh [] [] cj calls [] [] K nx h pc b fds lv sv i len
noncomputable def yu_exp (stop : Nat → Bool) (cj : List (Nat × Int)) (calls : List yt_CE) (K : ys_K) (nx : Nat → Option (Instr × Nat)) : Nat → Nat → ys_S → List yt_Ev → Option (List yt_U)
  | 0, _, _, _ => none
  | f + 1, pc, S, h => if stop pc = true then some [(pc, S, h)] else (match nx pc with
    | none => none
    | some i => (match yu_st cj calls K nx h pc S.1 S.2.1 S.2.2.1 S.2.2.2 i.1 i.2 with
      | none => none
      | some o => if o.2.isEmpty = true then o.1.foldr (fun q acc => ys_oap (yu_exp stop cj calls K nx f q.1 q.2.1 q.2.2) acc) (some []) else none))
section YUL
variable {p : Program} {l : Launch} {e : Env} {s : State} {m : MethodId} {below : List Frame} {meth : Method} {c : Code} {kc kz : Nat} {D : va_G} {ad : Nat → Nat} {cT : Nat → ClassId} {g0 gi : yt_G} {r0 rr : Nat → Int} {E : Nat} {Ts : List Cond} {tys : List (ClassId × FieldType)} {cj : List (Nat × Int)} {calls : List yt_CE} {K : ys_K} {nx : Nat → Option (Instr × Nat)} {b L : Nat} {xs : Nat → Int32} {tb : yt_Tb} {pt : Nat → yt_Ps} {T : ys_T} {ci c1 c2 : Nat}
set_option maxHeartbeats 4000000 in
theorem yu_st_ok {h : List yt_Ev} {pc : Nat} {B : ys_B} {fds : ys_F} {lv : List (Nat × ys_V)} {sv : List ys_V} {i : Instr} {len : Nat} {o : List yt_U × List yt_O} (hw : yt_Hw tb) (S : CallFix p m c code 4 s #[Value.ref b] Ts RL) (hr : meth.sig.returnType = ret) (hlocks : meth.locks = false) (hnL : K.1.1.2.2.1 = 4) (hfr : K.1.2.1 ≤ room_1.frames) (hlo : K.1.2.2 ≤ room_1.locals) (hkk : kc ≤ 600000 ∧ kz ≤ 7302250) (hK : va_K D vwCl tys s) (hty : ys_Ty tys cT yk_sh) (hLk : ys_Lk RL Ts vwCl [] [] cj []) (hcalls : ∀ C ∈ calls, yt_Con l D vwCl cT tys yG C.2.1 C.2.2 (pt C.1.2.1) (tb C.1.2.1) ∧ ys_CL RL Ts vwCl C.2.1 yG (if C.1.1.2 = true then .invokestatic C.1.1.1 else .invokevirtual C.1.1.1) C.2.2 ∧ yt_shok C.1.2.2.2 C.2.1 yk_sh = true ∧ (C.1.2.2.1 = false → ∀ r g, pt C.1.2.1 r g)) (hnx : ∀ pc i, nx pc = some i → decode code pc = .ok i) (hX : va_X b L xs s s.heap) (hbl : b < s.heap.size) (hb1 : ad 1000 = b) (hL : L ≤ 3072) (hE : 0 < E) (hr0 : r0 0 = (L : Int)) (hM : 1000 ∉ K.2.2.2) (hxs : ∀ j, g0 1000 j = (xs j).toInt) (hd : decode code pc = .ok (i, len)) (hs : yu_st cj calls K nx h pc B fds lv sv i len = some o) (hob : ∀ q ∈ o.2, ∀ (r : Nat → Int) (g : yt_G), ys_okB r B → (∀ i, i < E → r i = r0 i) → yt_h tb r gi h g → pt q.1 (ys_val r 0 q.2.1) (yt_sub q.2.2 g))
    (k : ∀ q ∈ o.1, yt_X p l e room_1 s m #[Value.ref b] below meth c (lw_Z below #[Value.ref b] s) kc kz D vwCl ad cT yk_sh (fun q => s.heap.size ≤ q) s.heap 4 K.2.2.2 g0 r0 E tb gi q.2.2 q.1 q.2.1) : yt_X p l e room_1 s m #[Value.ref b] below meth c (lw_Z below #[Value.ref b] s) kc kz D vwCl ad cT yk_sh (fun q => s.heap.size ≤ q) s.heap 4 K.2.2.2 g0 r0 E tb gi h pc (B, fds, lv, sv) := by
  have hbA : ¬ s.heap.size ≤ b := Nat.not_le.mpr hbl
  unfold yu_st at hs
  split at hs
  · split at hs
    · rename_i x k1 t
      split at hs
      · rename_i hc
        obtain ⟨q1, q2, q3, q4⟩ := hc
        subst q1
        subst q2
        split at hs
        · rename_i n0 hmem
          split at hs
          · rename_i hlt
            have hs := (Option.some.inj hs).symm
            subst hs
            intro r g H locs ls st hrep hh hsc hm
            obtain ⟨st1, e1, g1, sx⟩ := ys_rep_pop hrep
            obtain ⟨st2, e2, g2, -⟩ := ys_rep_pop g1
            subst e1
            subst e2
            obtain ⟨-, -, -, hS⟩ := yt_wd g2
            have u1 := ys_ge_le hrep.1.1 hrep.1.2 _ _ q3
            have u2 := ys_ge_le hrep.1.1 hrep.1.2 _ _ q4
            rw [ys_m1, ys_sub_ev, ys_sym_ev, hrep.2.2.1.2 0 hE, hr0] at u2
            have et : (Int32.ofInt (ys_ev r x)).toInt = ys_ev r x := Int32.toInt_ofInt_of_le (by omega) (by omega)
            have en : (Int32.ofInt (ys_ev r x)).toNatClampNeg = (ys_ev r x).toNat := congrArg Int.toNat et
            have er : ys_den ad r (.inr (some 1000)) = .ref b := by
              show Value.ref (ad 1000) = _
              rw [hb1]
            have ed : ys_den ad r (.inl (.inl x)) = .int (Int32.ofInt (ys_ev r x)) := rfl
            rw [ed, er]
            refine va_sld (b := b) (L := L) (xs := xs) S.1 S.2.1 hX hbl hbA hS (by rw [vp_in_iff, et]; omega) hd ?_
            have eg : g 1000 (ys_ev r x).toNat = (xs (Int32.ofInt (ys_ev r x)).toNatClampNeg).toInt := by
              rw [hm 1000 hM, hxs, en]
            have h1 := yt_mem_ok h g hmem hh
            have k1 := k _ List.mem_cons_self r g H locs ls _ (ys_rep_push g2 (.inl (.inl (ys_sym n0))) (ys_stb_sym hlt)) hh hsc hm
            have e9 : ys_den ad r (.inl (.inl (ys_sym n0))) = .int (xs (Int32.ofInt (ys_ev r x)).toNatClampNeg) := by
              show Value.int (Int32.ofInt (ys_ev r (ys_sym n0))) = _
              rw [ys_sym_ev, h1, eg, Int32.ofInt_toInt]
            rw [e9] at k1
            exact k1
          · cases hs
        · have hs := (Option.some.inj hs).symm
          subst hs
          intro r g H locs ls st hrep hh hsc hm
          obtain ⟨st1, e1, g1, sx⟩ := ys_rep_pop hrep
          obtain ⟨st2, e2, g2, -⟩ := ys_rep_pop g1
          subst e1
          subst e2
          obtain ⟨-, -, -, hS⟩ := yt_wd g2
          have u1 := ys_ge_le hrep.1.1 hrep.1.2 _ _ q3
          have u2 := ys_ge_le hrep.1.1 hrep.1.2 _ _ q4
          rw [ys_m1, ys_sub_ev, ys_sym_ev, hrep.2.2.1.2 0 hE, hr0] at u2
          have et : (Int32.ofInt (ys_ev r x)).toInt = ys_ev r x := Int32.toInt_ofInt_of_le (by omega) (by omega)
          have en : (Int32.ofInt (ys_ev r x)).toNatClampNeg = (ys_ev r x).toNat := congrArg Int.toNat et
          have er : ys_den ad r (.inr (some 1000)) = .ref b := by
            show Value.ref (ad 1000) = _
            rw [hb1]
          have ed : ys_den ad r (.inl (.inl x)) = .int (Int32.ofInt (ys_ev r x)) := rfl
          rw [ed, er]
          refine va_sld (b := b) (L := L) (xs := xs) S.1 S.2.1 hX hbl hbA hS (by rw [vp_in_iff, et]; omega) hd ?_
          have eg : g 1000 (ys_ev r x).toNat = (xs (Int32.ofInt (ys_ev r x)).toNatClampNeg).toInt := by
            rw [hm 1000 hM, hxs, en]
          obtain ⟨z, hz⟩ : ∃ z : Int, z = (xs (Int32.ofInt (ys_ev r x)).toNatClampNeg).toInt := ⟨_, rfl⟩
          have hrg : ys_mn false ≤ z ∧ z ≤ ys_mx false := by
            rw [hz]
            have h1 := Int32.le_toInt (xs (Int32.ofInt (ys_ev r x)).toNatClampNeg)
            have h2 := Int32.toInt_lt (xs (Int32.ofInt (ys_ev r x)).toNatClampNeg)
            exact ⟨by show (-2147483648 : Int) ≤ _; simpa using h1, by show _ ≤ (2147483647 : Int); omega⟩
          have hok := ys_new_ok (q := (ys_mn false, ys_mx false)) hrep.1 hrep.2.1.1 hrg
          have hll : B.1.length ≤ (B.1 ++ [(ys_mn false, ys_mx false)]).length := by rw [List.length_append]; omega
          have hlt : B.1.length < (B.1 ++ [(ys_mn false, ys_mx false)]).length := by rw [List.length_append, List.length_singleton]; omega
          have g3 := ys_rep_ext g2 (r' := ys_up r B.1.length z) (b' := (B.1 ++ [(ys_mn false, ys_mx false)], B.2)) ys_up_lt hok hll (ys_scB_new hrep.2.1.1)
          have hx : ys_stb B.1.length x := sx
          have hcg : ∀ i, i < B.1.length → r i = ys_up r B.1.length z i := fun i hi => (ys_up_lt i hi).symm
          have k1 := k _ List.mem_cons_self (ys_up r B.1.length z) g H locs ls _ (ys_rep_push g3 (.inl (.inl (ys_sym B.1.length))) (ys_stb_sym hlt)) ⟨g, yt_h_cong hcg hsc hh, rfl, by
            show ys_up r B.1.length z B.1.length = g 1000 (ys_ev (ys_up r B.1.length z) x).toNat
            rw [ys_up_at, ← hx r _ hcg, eg]
            exact hz⟩ (fun v hv => by
              rcases List.mem_cons.mp hv with q | q
              · rw [q]
                exact ⟨ys_stb_mono hx hll, hlt⟩
              · exact yt_sc_mono hll (hsc v q)) hm
          have e9 : ys_den ad (ys_up r B.1.length z) (.inl (.inl (ys_sym B.1.length))) = .int (xs (Int32.ofInt (ys_ev r x)).toNatClampNeg) := by
            show Value.int (Int32.ofInt (ys_ev (ys_up r B.1.length z) (ys_sym B.1.length))) = _
            rw [yt_up_sym, hz, Int32.ofInt_toInt]
          rw [e9] at k1
          exact k1
      · cases hs
    · cases hs
  · split at hs
    · rename_i k1 t
      split at hs
      · rename_i hc
        have hs := (Option.some.inj hs).symm
        subst hs
        obtain ⟨q1, q2⟩ := hc
        subst q1
        subst q2
        intro r g H locs ls st hrep hh hsc hm
        obtain ⟨st1, e1, g1, -⟩ := ys_rep_pop hrep
        subst e1
        obtain ⟨-, -, -, hS⟩ := yt_wd g1
        have er : ys_den ad r (.inr (some 1000)) = .ref b := by
          show Value.ref (ad 1000) = _
          rw [hb1]
        rw [er]
        refine va_slen (b := b) (L := L) (xs := xs) S.1 S.2.1 hX hbl hbA hS hd ?_
        have h0 : 0 < B.1.length := Nat.lt_of_lt_of_le hE hrep.2.2.1.1
        have h9 := k _ List.mem_cons_self r g H locs ls _ (ys_rep_push g1 (.inl (.inl (ys_sym 0))) (ys_stb_sym h0)) hh hsc hm
        have e9 : ys_den ad r (.inl (.inl (ys_sym 0))) = .int (Int32.ofNat L) := by
          show Value.int (Int32.ofInt (ys_ev r (ys_sym 0))) = _
          rw [ys_sym_ev, hrep.2.2.1.2 0 hE, hr0]
          congr 1
        rw [e9] at h9
        exact h9
      · cases hs
    · cases hs
  · split at hs
    · rename_i x
      split at hs
      · rename_i hc
        obtain ⟨q1, q2, q3⟩ := hc
        subst q1
        intro r g H locs ls st hrep hh hsc hm
        obtain ⟨-, -, -, hS⟩ := yt_wd hrep
        have hst : st = [.int 1] := by
          rw [hrep.2.2.2.2.2]
          show [Value.int (Int32.ofInt (ys_ev r x))] = _
          rw [ys_ev_nil r q2, q3]
          rfl
        rw [hst]
        exact va_forget (fun q hq => hS.2.2 q hq) (W.widen hkk.1 hkk.2 (lw_ret S.1 S.2.1 hr hlocks hd))
      · cases hs
    · cases hs
  · split at hs
    · cases hs
    · rename_i hi
      exact yt_step_ok hw S hnL rfl hfr hlo hkk (fun q h => h) hK hty hLk (fun v hv => absurd hv List.not_mem_nil) hcalls hnx hd hs hob k
theorem yu_exp_ok {stop : Nat → Bool} (hw : yt_Hw tb) (S : CallFix p m c code 4 s #[Value.ref b] Ts RL) (hr : meth.sig.returnType = ret) (hlocks : meth.locks = false) (hnL : K.1.1.2.2.1 = 4) (hfr : K.1.2.1 ≤ room_1.frames) (hlo : K.1.2.2 ≤ room_1.locals) (hkk : kc ≤ 600000 ∧ kz ≤ 7302250) (hK : va_K D vwCl tys s) (hty : ys_Ty tys cT yk_sh) (hLk : ys_Lk RL Ts vwCl [] [] cj []) (hcalls : ∀ C ∈ calls, yt_Con l D vwCl cT tys yG C.2.1 C.2.2 (pt C.1.2.1) (tb C.1.2.1) ∧ ys_CL RL Ts vwCl C.2.1 yG (if C.1.1.2 = true then .invokestatic C.1.1.1 else .invokevirtual C.1.1.1) C.2.2 ∧ yt_shok C.1.2.2.2 C.2.1 yk_sh = true ∧ (C.1.2.2.1 = false → ∀ r g, pt C.1.2.1 r g)) (hnx : ∀ pc i, nx pc = some i → decode code pc = .ok i) (hX : va_X b L xs s s.heap) (hbl : b < s.heap.size) (hb1 : ad 1000 = b) (hL : L ≤ 3072) (hE : 0 < E) (hr0 : r0 0 = (L : Int)) (hM : 1000 ∉ K.2.2.2) (hxs : ∀ j, g0 1000 j = (xs j).toInt) : ∀ (f pc : Nat) (x : ys_S) (h : List yt_Ev) (Ls : List yt_U), yu_exp stop cj calls K nx f pc x h = some Ls → (∀ q ∈ Ls, yt_X p l e room_1 s m #[Value.ref b] below meth c (lw_Z below #[Value.ref b] s) kc kz D vwCl ad cT yk_sh (fun q => s.heap.size ≤ q) s.heap 4 K.2.2.2 g0 r0 E tb gi q.2.2 q.1 q.2.1) → yt_X p l e room_1 s m #[Value.ref b] below meth c (lw_Z below #[Value.ref b] s) kc kz D vwCl ad cT yk_sh (fun q => s.heap.size ≤ q) s.heap 4 K.2.2.2 g0 r0 E tb gi h pc x
  | 0, _, _, _, _, hs, _ => by cases hs
  | f + 1, pc, x, h, Ls, hs, k => by
    unfold yu_exp at hs
    split at hs
    · cases Option.some.inj hs
      exact k _ List.mem_cons_self
    · split at hs
      · cases hs
      · rename_i i hi
        split at hs
        · cases hs
        · rename_i o ho
          split at hs
          · rename_i he
            refine yu_st_ok (B := x.1) (fds := x.2.1) (lv := x.2.2.1) (sv := x.2.2.2) hw S hr hlocks hnL hfr hlo hkk hK hty hLk hcalls hnx hX hbl hb1 hL hE hr0 hM hxs (hnx _ _ hi) ho (fun q hq => by
              rw [List.isEmpty_iff.mp he] at hq
              cases hq) (fun q hq => ?_)
            obtain ⟨y, h1, h2⟩ := ys_exp_mem (f := fun q : yt_U => yu_exp stop cj calls K nx f q.1 q.2.1 q.2.2) o.1 Ls hs q hq
            exact yu_exp_ok hw S hr hlocks hnL hfr hlo hkk hK hty hLk hcalls hnx hX hbl hb1 hL hE hr0 hM hxs f q.1 q.2.1 q.2.2 y h1 (fun z hz => k z (h2 z hz))
          · cases hs
end YUL
theorem yv_wldg {ad : Nat → Nat} {cT : Nat → ClassId} {sh : List ys_C} {r : Nat → Int} {g g' : yt_G} {fds : List (List ys_V)} (h : ∀ k, k < sh.length → g' k = g k) : ys_wld ad cT sh r g' fds = ys_wld ad cT sh r g fds := by
  unfold ys_wld
  apply List.map_congr_left
  intro k hk
  unfold ys_cel
  rw [h k (List.mem_range.mp hk)]
/-! the law's loop with a word that ties class and reference -/
noncomputable def yv_al (c : Nat) (v : yt_Ev) : Bool := match v with
  | .inl _ => true
  | .inr (.inl q) => !(q.1 == c)
  | .inr (.inr (.inl q)) => !(q.2.2.2.2.contains c)
  | .inr (.inr (.inr q)) => !(q.2.1 == c)
theorem yv_als {tb : yt_Tb} {c : Nat} {r : Nat → Int} {gi : yt_G} : ∀ (h : List yt_Ev) (g : yt_G), h.all (yv_al c) = true → yt_h tb r gi h g → g c = gi c
  | [], g, _, hh => by
    have hh : g = gi := hh
    rw [hh]
  | v :: h, g, ha, hh => by
    obtain ⟨g', hh, ho⟩ := hh
    rw [List.all_cons, Bool.and_eq_true] at ha
    have ih := yv_als h g' ha.2 hh
    have hv := ha.1
    rcases v with (q | q) | (q | (q | q))
    · have e : g = g' := ho.1
      rw [e]
      exact ih
    · have e : g = g' := ho.1
      rw [e]
      exact ih
    · have e : g = ys_gup g' q.1 (ys_ev r q.2.1).toNat (ys_ev r q.2.2) := ho
      have hv : (!(q.1 == c)) = true := hv
      rw [e, yq_gup_ne (fun e2 => by rw [e2] at hv; simp at hv)]
      exact ih
    · obtain ⟨o1, o2⟩ := ho
      have hv : (!(q.2.2.2.2.contains c)) = true := hv
      rw [o2 c (by simpa using hv)]
      exact ih
    · have e : g = ys_gcp g' q.1 q.2.1 (ys_ev r q.2.2.1).toNat (ys_ev r q.2.2.2.1).toNat (ys_ev r q.2.2.2.2).toNat := ho
      have hv : (!(q.2.1 == c)) = true := hv
      have e3 : g c = g' c := by
        rw [e]
        exact if_neg (fun e2 => by rw [e2] at hv; simp at hv)
      rw [e3]
      exact ih
noncomputable def yv_mo (i : Nat) (q : Option ys_L) : Bool := match q with
  | some l => decide (l.1 = (ys_sym i).1) && decide ((ys_sym i).2 ≤ l.2)
  | none => false
theorem yv_mo_ok {i : Nat} {q : Option ys_L} (h : yv_mo i q = true) : ∃ l, q = some l ∧ l.1 = (ys_sym i).1 ∧ (ys_sym i).2 ≤ l.2 := by
  cases q with
  | none => cases h
  | some l =>
    have h : (decide (l.1 = (ys_sym i).1) && decide ((ys_sym i).2 ≤ l.2)) = true := h
    rw [Bool.and_eq_true, decide_eq_true_eq, decide_eq_true_eq] at h
    exact ⟨l, rfl, h.1, h.2⟩
noncomputable def yv_un (E0 : Nat) (ms ks cs : List Nat) (t : List ys_L) (h : List yt_Ev) : Bool := (ms.all (fun i => decide (E0 ≤ i) && yv_mo i t[i - E0]?)) && (ks.all (fun i => decide (E0 ≤ i) && decide (t[i - E0]? = some (ys_sym i))) && cs.all (fun c => h.all (yv_al c)))
noncomputable def yv_r0 (i : Instr × Nat) (sv : List ys_V) : Bool := match i.1, sv with
  | .ireturn, [.inl (.inl x)] => decide (x.1 = []) && decide (x.2 = 0)
  | _, _ => false
noncomputable def yv_run (ci c1 c2 : Nat) (ms ks cs : List Nat) (cj : List (Nat × Int)) (calls : List yt_CE) (K : ys_K) (nx : Nat → Option (Instr × Nat)) (T : ys_T) : Nat → Bool → Nat → ys_S → List yt_Ev → Option (List yt_VC)
  | 0, _, _, _, _ => none
  | n + 1, f, pc, S, h => if (!f && pc == 18) = true then (match yt_cck K.2.1.2.1.1.length (some T.2.2.2.2.2) S.1 S.2.1 S.2.2.1 S.2.2.2 T with
      | some t => if h.all (yu_ev ci c1) = true then (if yv_un K.2.1.2.1.1.length ms ks cs t h = true then some [] else some [(0, S.1, t, [], h)]) else none
      | none => none) else (match nx pc with
    | none => none
    | some i => if yv_r0 i S.2.2.2 = true then some [(1, S.1, [], [], h)] else (match yu_st cj calls K nx h pc S.1 S.2.1 S.2.2.1 S.2.2.2 i.1 i.2 with
      | none => none
      | some o => if (o.2.all (yu_ob ci c1 c2) && (o.2.isEmpty || h.all (yu_ev ci c1))) = true then yt_all (fun q => yv_run ci c1 c2 ms ks cs cj calls K nx T n false q.1 q.2.1 q.2.2) o.1 else none))
/-- a condition: at the head the word holds again; a false answer does not come -/
noncomputable def yv_hold (tb : yt_Tb) (E0 : Nat) (ars : List ys_R) (Rel : (Nat → Int) → yt_G → Prop) (v : yt_VC) : Prop := ∀ (r : Nat → Int) (gi g : yt_G), ys_okB r v.2.1 → yt_h tb r gi v.2.2.2.2 g → (∀ (k : Nat) (a : ys_R), ars[k]? = some a → ys_rok a (gi k)) → Rel r gi → if v.1 = 0 then Rel (ys_val r E0 v.2.2.1) g else False
theorem yv_hp {A B : Prop} (h : if (0 : Nat) = 0 then A else B) : A := by
  have e : (if (0 : Nat) = 0 then A else B) = A := if_pos rfl
  exact e.mp h
theorem yv_hq {A B : Prop} (h : if (1 : Nat) = 0 then A else B) : B := by
  have e : (if (1 : Nat) = 0 then A else B) = B := if_neg (by decide)
  exact e.mp h
theorem yv_sy {r : Nat → Int} {t : List ys_L} {i : Nat} (h : t[i]? = some (ys_sym (i + 1))) : ys_val r 1 t (i + 1) = r (i + 1) := by
  unfold ys_val ys_at
  rw [if_neg (by omega), List.getD_eq_getElem?_getD, show i + 1 - 1 = i by omega, h]
  exact ys_sym_ev r (i + 1)
theorem yv_h0 {tb : yt_Tb} {E0 : Nat} {ars : List ys_R} {Rel : (Nat → Int) → yt_G → Prop} {b : ys_B} {t : List ys_L} {em : List Nat} {h : List yt_Ev} (H : ∀ (r : Nat → Int) (gi g : yt_G), ys_okB r b → yt_h tb r gi h g → (∀ (k : Nat) (a : ys_R), ars[k]? = some a → ys_rok a (gi k)) → Rel r gi → Rel (ys_val r E0 t) g) : yv_hold tb E0 ars Rel (0, b, t, em, h) := by
  intro r gi g a1 a2 a3 a4
  have e : (if (0 : Nat) = 0 then Rel (ys_val r E0 t) g else False) = Rel (ys_val r E0 t) g := if_pos rfl
  exact e.mpr (H r gi g a1 a2 a3 a4)
theorem yv_h1 {tb : yt_Tb} {E0 : Nat} {ars : List ys_R} {Rel : (Nat → Int) → yt_G → Prop} {b : ys_B} {t : List ys_L} {em : List Nat} {h : List yt_Ev} (H : ∀ (r : Nat → Int) (gi g : yt_G), ys_okB r b → yt_h tb r gi h g → (∀ (k : Nat) (a : ys_R), ars[k]? = some a → ys_rok a (gi k)) → Rel r gi → False) : yv_hold tb E0 ars Rel (1, b, t, em, h) := by
  intro r gi g a1 a2 a3 a4
  have e : (if (1 : Nat) = 0 then Rel (ys_val r E0 t) g else False) = False := if_neg (by decide)
  exact e.mpr (H r gi g a1 a2 a3 a4)
section YVL
variable {p : Program} {l : Launch} {e : Env} {s : State} {m : MethodId} {below : List Frame} {meth : Method} {c : Code} {kc kz : Nat} {D : va_G} {ad : Nat → Nat} {cT : Nat → ClassId} {g0 gi : yt_G} {r0 rr : Nat → Int} {E : Nat} {Ts : List Cond} {tys : List (ClassId × FieldType)} {cj : List (Nat × Int)} {calls : List yt_CE} {K : ys_K} {nx : Nat → Option (Instr × Nat)} {b L : Nat} {xs : Nat → Int32} {tb : yt_Tb} {pt : Nat → yt_Ps} {T : ys_T} {ci c1 c2 : Nat} {ms ks cs : List Nat} {Rel : (Nat → Int) → yt_G → Prop} {ars : List ys_R}
theorem yv_run_ok (hw : yt_Hw tb) (S : CallFix p m c code 4 s #[Value.ref b] Ts RL) (hr : meth.sig.returnType = ret) (hlocks : meth.locks = false) (hnL : K.1.1.2.2.1 = 4) (hfr : K.1.2.1 ≤ room_1.frames) (hlo : K.1.2.2 ≤ room_1.locals) (hkk : kc ≤ 600000 ∧ kz ≤ 7302250) (hK : va_K D vwCl tys s) (hty : ys_Ty tys cT yk_sh) (hLk : ys_Lk RL Ts vwCl [] [] cj []) (hcalls : ∀ C ∈ calls, yt_Con l D vwCl cT tys yG C.2.1 C.2.2 (pt C.1.2.1) (tb C.1.2.1) ∧ ys_CL RL Ts vwCl C.2.1 yG (if C.1.1.2 = true then .invokestatic C.1.1.1 else .invokevirtual C.1.1.1) C.2.2 ∧ yt_shok C.1.2.2.2 C.2.1 yk_sh = true ∧ (C.1.2.2.1 = false → ∀ r g, pt C.1.2.1 r g)) (hnx : ∀ pc i, nx pc = some i → decode code pc = .ok i) (hX : va_X b L xs s s.heap) (hbl : b < s.heap.size) (hb1 : ad 1000 = b) (hL : L ≤ 3072) (hE : 0 < E) (hr0 : r0 0 = (L : Int)) (hM : 1000 ∉ K.2.2.2) (hxs : ∀ j, g0 1000 j = (xs j).toInt) (hE1 : K.2.1.2.1.1.length ≤ E) (hrr : ∀ i, i < K.2.1.2.1.1.length → r0 i = rr i) (hB : ys_okB rr K.2.1.2.1) (hBs : ys_scB K.2.1.2.1) (hT : ys_scb (ys_sT K.2.1.2.1 T) = true) (hmo : ys_stb E T.2.2.2.2.2) (hnum : yq_num (gi ci)) (h50 : ∀ (r : Nat → Int) (g g' : yt_G), tb 50 0 r g g' → yq_num (g' c1)) (hp50 : ∀ (r : Nat → Int) (g : yt_G), yq_num (g c1) → pt 50 r g) (hp51 : ∀ (r : Nat → Int) (g : yt_G), yq_num (g c2) → pt 51 r g)
    (hms : ∀ i ∈ ms, i < E) (hks : ∀ i ∈ ks, i < E) (hRel : ∀ (r r' : Nat → Int) (g g' : yt_G), (∀ i ∈ ms, r i ≤ r' i) → (∀ i ∈ ks, r' i = r i) → (∀ c ∈ cs, g' c = g c) → Rel r g → Rel r' g') (hRel0 : Rel r0 gi) (hars : ∀ (k : Nat) (a : ys_R), ars[k]? = some a → ys_rok a (gi k))
    (hcut : ∀ (r2 : Nat → Int) (g : yt_G) (H : Heap) (locs : List Loc) (ls : Array Slot) (st : List Value), ys_rep D vwCl ad cT yk_sh (fun q => s.heap.size ≤ q) s.heap 4 [] g rr r2 K.2.1.2.1.1.length (ys_sT K.2.1.2.1 T) H locs ls st → yq_num (g ci) → Rel r2 g → (∀ k, k ∉ K.2.2.2 → g k = g0 k) → ys_ev r2 T.2.2.2.2.2 < ys_ev r0 T.2.2.2.2.2 → W p l e room_1 s m #[Value.ref b] below meth c H locs kc kz (lw_Z below #[Value.ref b] s) (F0 m 18 ls st)) : ∀ (n : Nat) (f : Bool) (pc : Nat) (x : ys_S) (h : List yt_Ev) (vs : List yt_VC), yv_run ci c1 c2 ms ks cs cj calls K nx T n f pc x h = some vs → (∀ v ∈ vs, yv_hold tb K.2.1.2.1.1.length ars Rel v) → yt_X p l e room_1 s m #[Value.ref b] below meth c (lw_Z below #[Value.ref b] s) kc kz D vwCl ad cT yk_sh (fun q => s.heap.size ≤ q) s.heap 4 K.2.2.2 g0 r0 E tb gi h pc x
  | 0, _, _, _, _, _, hs, _ => by cases hs
  | n + 1, f, pc, x, h, vs, hs, hv => by
    unfold yv_run at hs
    split at hs
    · rename_i hpc
      rw [Bool.and_eq_true, beq_iff_eq] at hpc
      split at hs
      · rename_i t ht
        split at hs
        · rename_i hev
          intro r g H locs ls st hrep hh hsc hm
          have hag : ∀ i ∈ ks, r i = r0 i := fun i hi => hrep.2.2.1.2 i (hks i hi)
          have hag2 : ∀ i ∈ ms, r0 i ≤ r i := fun i hi => Int.le_of_eq (hrep.2.2.1.2 i (hms i hi)).symm
          obtain ⟨k1, k2, k3⟩ := yt_cck_ok hE1 hrr hB hBs hT (b := x.1) (fds := x.2.1) (lv := x.2.2.1) (sv := x.2.2.2) hrep ht
          have hR : Rel (ys_val r K.2.1.2.1.1.length t) g := by
            split at hs
            · rename_i hu
              unfold yv_un at hu
              rw [Bool.and_eq_true, Bool.and_eq_true] at hu
              refine hRel r0 _ gi g (fun i hi => ?_) (fun i hi => ?_) (fun c hc => yv_als h g (List.all_eq_true.mp hu.2.2 c hc) hh) hRel0
              · have h1 := List.all_eq_true.mp hu.1 i hi
                rw [Bool.and_eq_true, decide_eq_true_eq] at h1
                obtain ⟨l, hl, l1, l2⟩ := yv_mo_ok h1.2
                rw [← hrep.2.2.1.2 i (hms i hi)]
                unfold ys_val ys_at
                rw [if_neg (by omega), List.getD_eq_getElem?_getD, hl, ← ys_sym_ev r i]
                show ys_ev r (ys_sym i) ≤ ys_ev r l
                obtain ⟨la, lb⟩ := l
                have l1 : la = (ys_sym i).1 := l1
                subst l1
                exact Int.add_le_add_left l2 _
              have h1 := List.all_eq_true.mp hu.2.1 i hi
              rw [Bool.and_eq_true, decide_eq_true_eq, decide_eq_true_eq] at h1
              rw [← hag i hi]
              unfold ys_val ys_at
              rw [if_neg (by omega), List.getD_eq_getElem?_getD, h1.2]
              exact ys_sym_ev r i
            · have hs := (Option.some.inj hs).symm
              have h5 := hv (0, x.1, t, [], h) (by rw [hs]; exact List.mem_cons_self) r gi g hrep.1 hh hars (hRel r0 r gi gi hag2 hag (fun _ _ => rfl) hRel0)
              exact yv_hp h5
          have h6 := hcut (ys_val r K.2.1.2.1.1.length t) g H locs ls st k1 (yu_evs h50 h g hev hh hnum) hR hm (by
            have := k3 _ rfl
            rw [hmo r r0 hrep.2.2.1.2] at this
            exact this)
          rw [hpc.2]
          exact h6
        · cases hs
      · cases hs
    · split at hs
      · cases hs
      · rename_i i hi
        split at hs
        · rename_i hz
          intro r g H locs ls st hrep hh hsc hm
          have hag : ∀ i ∈ ks, r i = r0 i := fun i hi => hrep.2.2.1.2 i (hks i hi)
          have hag2 : ∀ i ∈ ms, r0 i ≤ r i := fun i hi => Int.le_of_eq (hrep.2.2.1.2 i (hms i hi)).symm
          have hs := (Option.some.inj hs).symm
          have h5 := hv (1, x.1, [], [], h) (by rw [hs]; exact List.mem_cons_self) r gi g hrep.1 hh hars (hRel r0 r gi gi hag2 hag (fun _ _ => rfl) hRel0)
          exact (yv_hq h5).elim
        · split at hs
          · cases hs
          · rename_i o ho
            split at hs
            · rename_i hc
              rw [Bool.and_eq_true] at hc
              refine yu_st_ok (B := x.1) (fds := x.2.1) (lv := x.2.2.1) (sv := x.2.2.2) hw S hr hlocks hnL hfr hlo hkk hK hty hLk hcalls hnx hX hbl hb1 hL hE hr0 hM hxs (hnx _ _ hi) ho (fun q hq r g q1 q2 q3 => ?_) (fun q hq => ?_)
              · have hev : h.all (yu_ev ci c1) = true := by
                  rcases (Bool.or_eq_true _ _).mp hc.2 with z | z
                  · rw [List.isEmpty_iff.mp z] at hq
                    cases hq
                  · exact z
                have hnm := yu_evs h50 h g hev q3 hnum
                have hob := List.all_eq_true.mp hc.1 q hq
                unfold yu_ob at hob
                rw [Bool.or_eq_true, Bool.and_eq_true, Bool.and_eq_true, beq_iff_eq, beq_iff_eq, beq_iff_eq, beq_iff_eq] at hob
                rcases hob with ⟨z1, z2⟩ | ⟨z1, z2⟩
                · rw [z1]
                  refine hp50 _ _ ?_
                  show yq_num (g (yt_e q.2.2 c1))
                  rw [z2]
                  exact hnm
                · rw [z1]
                  refine hp51 _ _ ?_
                  show yq_num (g (yt_e q.2.2 c2))
                  rw [z2]
                  exact hnm
              · obtain ⟨y, h1, h2⟩ := yt_all_ok _ _ hs q hq
                exact yv_run_ok hw S hr hlocks hnL hfr hlo hkk hK hty hLk hcalls hnx hX hbl hb1 hL hE hr0 hM hxs hE1 hrr hB hBs hT hmo hnum h50 hp50 hp51 hms hks hRel hRel0 hars hcut n false q.1 q.2.1 q.2.2 y h1 (fun v hv2 => hv v (h2 v hv2))
            · cases hs
end YVL
