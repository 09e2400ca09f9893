/-! THE CLAIM OUT OF ONE WALK OF THE LAW'S BODY. Your part is whole_start (and what it stands on); all else here is the same for every law, but numbers. -/
def R_law : String := "YesPlanesLaw"
def lw_P (b : Addr) (xs : List Int32) (args : Array Value) (s : State) : Prop := args = #[.ref b] ∧ s.IntsAt b xs ∧ xs.length ≤ 6 ∧ (Jvm.Cond.and given_1 narrow_1).before args s = true
def lw_Q (_ : Array Value) (s : State) (o : Outcome) (t : State) : Prop := o = .returned (some (.int 1)) ∧ Framed s o t [] 600000 7302250
def lw_Z (below : List Frame) (a : Array Value) (s : State) : State → Prop := fun t => ∃ o, t.status = .running ∧ Ended t below o ∧ lw_Q a s o t
/-- the law's own end, with 1 on the stack, nothing written that was there before, its room as the claim has it -/
theorem lw_ret {p : Program} {l : Launch} {e : Env} {s : State} {m : MethodId} {below : List Frame} {meth : Method} {c : Code} {b : Nat} (hx : p.tables.exec = Jvm.exec) (hb : c.code = code) (hr : meth.sig.returnType = ret) (hlocks : meth.locks = false) {pc : Nat} {H : Heap} {ls : Array Slot} (hdg : decode code pc = .ok (.ireturn, 1)) : W p l e room_1 s m #[Value.ref b] below meth c H [] 600000 7302250 (lw_Z below #[Value.ref b] s) (F0 m pc ls [.int 1]) := by
  intro T hT X
  obtain ⟨fs, hret, hrun, hended, hW, hframe⟩ := X.leave (v := some (.int 1)) (hlocks := hlocks) (fun h => by rw [hr] at h; cases h)
  have hmeth' : T.vm.method? m = some meth := X.method'
  refine ⟨T.setFrames fs, ?_, .returned (some (.int 1)), hrun, hended, rfl, ⟨_, rfl⟩, hW, hframe⟩
  jvm_step X.here [X.here.top, hx, hb, hdg, hmeth', hr, ret, narrow_b1]
  (try refine ⟨rfl, ?_⟩); (try refine ⟨rfl, ?_⟩)
  first | (intro acts; rw [hret _ acts rfl rfl rfl]) | rw [hret _ _ rfl rfl rfl]
  exact Steps.refl _
/-- what holds at the law's entry: the machine, the code, the tables' words (any of lw_tbl by 'hts w (by decide +kernel)'), the script of L ints xs at the cell b, what the Statement gives of the start (any of its parts by flat_of_before) -/
def lw_At (p : Program) (s : State) (m : MethodId) (meth : Method) (c : Code) (b L : Nat) (xs : Nat → Int32) : Prop :=
  p.tables.exec = Jvm.exec ∧ c.code = code ∧ meth.sig.returnType = ret ∧ c.maxLocals = 4 ∧ s.vm.findClass R_law = some m.cls ∧ (∀ w ∈ lw_tbl, w.before #[Value.ref b] s = true) ∧ va_X b L xs s s.heap ∧ b < s.heap.size ∧ meth.locks = false ∧ (Jvm.Cond.and given_1 narrow_1).before #[Value.ref b] s = true
/-! the law's loop over a script of one call at most -/
def ys_stL (L : Nat) (cj : List (Nat × Int)) (calls : ys_CA) (K : ys_K) (nx : Nat → Option (Instr × Nat)) (pc : Nat) (b : ys_B) (fds : ys_F) (lv : List (Nat × ys_V)) (sv : List ys_V) (i : Instr) (len : Nat) : Option (List (Nat × ys_S)) := match i with
  | .iaload => (match sv with
    | .inl (.inl x) :: .inr (some k) :: t => if k = 1000 ∧ len = 1 ∧ x.1 = [] ∧ 0 ≤ x.2 ∧ x.2 < (L : Int) ∧ L ≤ 6 then some [(pc + 1, b, fds, lv, .inl (.inl (ys_sym x.2.toNat)) :: t)] else none
    | _ => none)
  | .arraylength => (match sv with
    | .inr (some k) :: t => if k = 1000 ∧ len = 1 ∧ L ≤ 6 then some [(pc + 1, b, fds, lv, .inl (.inl ([], (L : Int))) :: t)] else none
    | _ => none)
  | .ireturn => (match sv with
    | [.inl (.inl x)] => if len = 1 ∧ x.1 = [] ∧ x.2 = 1 then some [] else none
    | _ => none)
  | i => if ys_isr i = true then none else ys_stp yk_sh [] [] cj calls [] K nx pc b fds lv sv i len
def ys_runL (L : Nat) (cj : List (Nat × Int)) (calls : ys_CA) (K : ys_K) (nx : Nat → Option (Instr × Nat)) : Nat → Nat → ys_S → Bool
  | 0, _, _ => false
  | f + 1, pc, S => (match nx pc with
    | some (i, len) => (match ys_stL L cj calls K nx pc S.1 S.2.1 S.2.2.1 S.2.2.2 i len with
      | some succ => succ.all (fun q => ys_runL L cj calls K nx f q.1 q.2)
      | none => false)
    | none => false)
def ys_oap {β : Type} (a b : Option (List β)) : Option (List β) := match a, b with
  | some x, some y => some (x ++ y)
  | _, _ => none
def ys_expL (stop : Nat → Bool) (L : Nat) (cj : List (Nat × Int)) (calls : ys_CA) (K : ys_K) (nx : Nat → Option (Instr × Nat)) : Nat → Nat → ys_S → Option (List (Nat × ys_S))
  | 0, _, _ => none
  | f + 1, pc, S => if stop pc = true then some [(pc, S)] else (match nx pc with
    | some (i, len) => (match ys_stL L cj calls K nx pc S.1 S.2.1 S.2.2.1 S.2.2.2 i len with
      | some succ => succ.foldr (fun q acc => ys_oap (ys_expL stop L cj calls K nx f q.1 q.2) acc) (some [])
      | none => none)
    | none => none)
theorem ys_exp_mem {α β : Type} {f : α → Option (List β)} : ∀ (l : List α) (r : List β), l.foldr (fun q acc => ys_oap (f q) acc) (some []) = some r → ∀ q ∈ l, ∃ x, f q = some x ∧ ∀ z ∈ x, z ∈ r
  | [], _, _, q, hq => by cases hq
  | a :: t, r, h, q, hq => by
    rw [List.foldr_cons] at h
    unfold ys_oap at h
    split at h
    · rename_i x y h1 h2
      cases Option.some.inj h
      rcases List.mem_cons.mp hq with e | e
      · subst e
        exact ⟨x, h1, fun z hz => List.mem_append_left _ hz⟩
      · obtain ⟨w, h3, h4⟩ := ys_exp_mem t y h2 q e
        exact ⟨w, h3, fun z hz => List.mem_append_right _ (h4 z hz)⟩
    · cases h
section YLW
variable {p : Program} {l : Launch} {e : Env} {s : State} {m : MethodId} {below : List Frame} {meth : Method} {c : Code} {kc kz : Nat} {D : va_G} {ad : Nat → Nat} {cT : Nat → ClassId} {g0 : Nat → Nat → Int} {r0 : Nat → Int} {Ts : List Cond} {tys : List (ClassId × FieldType)} {cj : List (Nat × Int)} {calls : ys_CA} {K : ys_K} {nx : Nat → Option (Instr × Nat)} {b L : Nat} {xs : Nat → Int32}
set_option maxHeartbeats 4000000 in
theorem ys_stL_ok {pc : Nat} {B : ys_B} {fds : ys_F} {lv : List (Nat × ys_V)} {sv : List ys_V} {i : Instr} {len : Nat} {succ : List (Nat × ys_S)} (S : CallFix p m c code 4 s #[Value.ref b] Ts RL) (hr : meth.sig.returnType = ret) (hlocks : meth.locks = false) (hnL : K.1.1.2.2.1 = 4) (hfr : K.1.2.1 ≤ room_1.frames) (hlo : K.1.2.2 ≤ room_1.locals) (hkk : kc ≤ 600000 ∧ kz ≤ 7302250) (hK : va_K D vwCl tys s) (hty : ys_Ty tys cT yk_sh) (hLk : ys_Lk RL Ts vwCl [] [] cj []) (hcalls : ∀ q ∈ calls, ys_Con l D vwCl ad cT yk_sh tys yG q.2 ∧ ys_CL RL Ts vwCl yk_sh yG (if q.1.2 = true then .invokestatic q.1.1 else .invokevirtual q.1.1) q.2) (hnx : ∀ pc i, nx pc = some i → decode code pc = .ok i) (hX : va_X b L xs s s.heap) (hbl : b < s.heap.size) (hb1 : ad 1000 = b) (hr0 : ∀ j, j < 6 → r0 j = (xs j).toInt) (hd : decode code pc = .ok (i, len)) (hs : ys_stL L cj calls K nx pc B fds lv sv i len = some succ)
    (k : ∀ q ∈ succ, ys_W p l e room_1 s m #[Value.ref b] below meth c (lw_Z below #[Value.ref b] s) kc kz D vwCl ad cT yk_sh (fun q => s.heap.size ≤ q) s.heap 4 K.2.2.2 g0 r0 6 q.1 q.2) : ys_W p l e room_1 s m #[Value.ref b] below meth c (lw_Z below #[Value.ref b] s) kc kz D vwCl ad cT yk_sh (fun q => s.heap.size ≤ q) s.heap 4 K.2.2.2 g0 r0 6 pc (B, fds, lv, sv) := by
  have hbA : ¬ s.heap.size ≤ b := Nat.not_le.mpr hbl
  unfold ys_stL at hs
  split at hs
  · split at hs
    · rename_i x k1 t
      split at hs
      · rename_i hc
        cases Option.some.inj hs
        obtain ⟨c1, c2, c3, c4, c5, c6⟩ := hc
        subst c1
        subst c2
        obtain ⟨x1, z⟩ := x
        have c3 : x1 = [] := c3
        subst c3
        have c4 : 0 ≤ z := c4
        have c5 : z < (L : Int) := c5
        intro r H locs ls st h
        obtain ⟨st1, e1, h1, -⟩ := ys_rep_pop h
        obtain ⟨st2, e2, h2, -⟩ := ys_rep_pop h1
        subst e1
        subst e2
        obtain ⟨g, hg, hP, hD, hS⟩ := h2.2.2.2.1
        have ev : ys_ev r (([], z) : ys_L) = z := Int.zero_add _
        have et : (Int32.ofInt z).toInt = z := Int32.toInt_ofInt_of_le (by omega) (by omega)
        have ed : ys_den ad r (.inl (.inl ([], z))) = .int (Int32.ofInt z) := by
          show Value.int (Int32.ofInt (ys_ev r _)) = _
          rw [ev]
        have er : ys_den ad r (.inr (some 1000)) = .ref b := by
          show Value.ref (ad 1000) = _
          rw [hb1]
        rw [ed, er]
        have en : (Int32.ofInt z).toNatClampNeg = z.toNat := by
          show (Int32.ofInt z).toInt.toNat = _
          rw [et]
        have hz6 : z.toNat < 6 := by omega
        refine va_sld (b := b) (L := L) (xs := xs) S.1 S.2.1 hX hbl hbA hS (by rw [vp_in_iff, et]; omega) hd ?_
        have h9 := k _ List.mem_cons_self r H locs ls _ (ys_rep_push h2 (.inl (.inl (ys_sym z.toNat))) (ys_stb_sym (Nat.lt_of_lt_of_le hz6 h2.2.2.1.1)))
        have e9 : ys_den ad r (.inl (.inl (ys_sym z.toNat))) = .int (xs (Int32.ofInt z).toNatClampNeg) := by
          show Value.int (Int32.ofInt (ys_ev r (ys_sym z.toNat))) = _
          rw [ys_sym_ev, h2.2.2.1.2 _ hz6, hr0 _ hz6, en, Int32.ofInt_toInt]
        rw [e9] at h9
        exact h9
      · cases hs
    · cases hs
  · split at hs
    · rename_i k1 t
      split at hs
      · rename_i hc
        cases Option.some.inj hs
        obtain ⟨c1, c2, c6⟩ := hc
        subst c1
        subst c2
        intro r H locs ls st h
        obtain ⟨st1, e1, h1, -⟩ := ys_rep_pop h
        subst e1
        obtain ⟨g, hg, hP, hD, hS⟩ := h1.2.2.2.1
        have er : ys_den ad r (.inr (some 1000)) = .ref b := by
          show Value.ref (ad 1000) = _
          rw [hb1]
        rw [er]
        refine va_slen (b := b) (L := L) (xs := xs) S.1 S.2.1 hX hbl hbA hS hd ?_
        have h9 := k _ List.mem_cons_self r H locs ls _ (ys_rep_push h1 (.inl (.inl ([], (L : Int)))) (ys_stb_cst _))
        have e9 : ys_den ad r (.inl (.inl ([], (L : Int)))) = .int (Int32.ofNat L) := by
          show Value.int (Int32.ofInt (ys_ev r (([], (L : Int)) : ys_L))) = _
          rw [show ys_ev r (([], (L : Int)) : ys_L) = (L : Int) from Int.zero_add _]
          rcases (show L = 0 ∨ L = 1 ∨ L = 2 ∨ L = 3 ∨ L = 4 ∨ L = 5 ∨ L = 6 by omega) with q | q | q | q | q | q | q <;> subst q <;> rfl
        rw [e9] at h9
        exact h9
      · cases hs
    · cases hs
  · split at hs
    · rename_i x
      split at hs
      · rename_i hc
        obtain ⟨c1, c2, c3⟩ := hc
        subst c1
        intro r H locs ls st h
        obtain ⟨g, hg, hP, hD, hS⟩ := h.2.2.2.1
        have hst : st = [.int 1] := by
          rw [h.2.2.2.2.2]
          show [Value.int (Int32.ofInt (ys_ev r x))] = _
          rw [ys_ev_nil r c2, c3]
          rfl
        rw [hst]
        exact va_forget (fun q hq => hS.2.2 q hq) (W.widen hkk.1 hkk.2 (lw_ret S.1 S.2.1 hr hlocks hd))
      · cases hs
    · cases hs
  · split at hs
    · cases hs
    · rename_i hi
      exact ys_stp_gen (K := K) S hnL rfl hfr hlo hkk (fun q h => h) hK hty hLk hcalls hnx hd hs (fun h => absurd h hi) k
theorem ys_runL_ok (S : CallFix p m c code 4 s #[Value.ref b] Ts RL) (hr : meth.sig.returnType = ret) (hlocks : meth.locks = false) (hnL : K.1.1.2.2.1 = 4) (hfr : K.1.2.1 ≤ room_1.frames) (hlo : K.1.2.2 ≤ room_1.locals) (hkk : kc ≤ 600000 ∧ kz ≤ 7302250) (hK : va_K D vwCl tys s) (hty : ys_Ty tys cT yk_sh) (hLk : ys_Lk RL Ts vwCl [] [] cj []) (hcalls : ∀ q ∈ calls, ys_Con l D vwCl ad cT yk_sh tys yG q.2 ∧ ys_CL RL Ts vwCl yk_sh yG (if q.1.2 = true then .invokestatic q.1.1 else .invokevirtual q.1.1) q.2) (hnx : ∀ pc i, nx pc = some i → decode code pc = .ok i) (hX : va_X b L xs s s.heap) (hbl : b < s.heap.size) (hb1 : ad 1000 = b) (hr0 : ∀ j, j < 6 → r0 j = (xs j).toInt) : ∀ (f pc : Nat) (Y : ys_S), ys_runL L cj calls K nx f pc Y = true → ys_W p l e room_1 s m #[Value.ref b] below meth c (lw_Z below #[Value.ref b] s) kc kz D vwCl ad cT yk_sh (fun q => s.heap.size ≤ q) s.heap 4 K.2.2.2 g0 r0 6 pc Y
  | 0, _, _, h => by cases h
  | f + 1, pc, Y, h => by
    unfold ys_runL at h
    split at h
    · rename_i i len hx
      split at h
      · rename_i succ hY
        exact ys_stL_ok (B := Y.1) (fds := Y.2.1) (lv := Y.2.2.1) (sv := Y.2.2.2) S hr hlocks hnL hfr hlo hkk hK hty hLk hcalls hnx hX hbl hb1 hr0 (hnx _ _ hx) hY (fun q hq => ys_runL_ok S hr hlocks hnL hfr hlo hkk hK hty hLk hcalls hnx hX hbl hb1 hr0 f q.1 q.2 (List.all_eq_true.mp h q hq))
      · cases h
    · cases h
theorem ys_expL_ok {stop : Nat → Bool} (S : CallFix p m c code 4 s #[Value.ref b] Ts RL) (hr : meth.sig.returnType = ret) (hlocks : meth.locks = false) (hnL : K.1.1.2.2.1 = 4) (hfr : K.1.2.1 ≤ room_1.frames) (hlo : K.1.2.2 ≤ room_1.locals) (hkk : kc ≤ 600000 ∧ kz ≤ 7302250) (hK : va_K D vwCl tys s) (hty : ys_Ty tys cT yk_sh) (hLk : ys_Lk RL Ts vwCl [] [] cj []) (hcalls : ∀ q ∈ calls, ys_Con l D vwCl ad cT yk_sh tys yG q.2 ∧ ys_CL RL Ts vwCl yk_sh yG (if q.1.2 = true then .invokestatic q.1.1 else .invokevirtual q.1.1) q.2) (hnx : ∀ pc i, nx pc = some i → decode code pc = .ok i) (hX : va_X b L xs s s.heap) (hbl : b < s.heap.size) (hb1 : ad 1000 = b) (hr0 : ∀ j, j < 6 → r0 j = (xs j).toInt) : ∀ (f pc : Nat) (Y : ys_S) (Ls : List (Nat × ys_S)), ys_expL stop L cj calls K nx f pc Y = some Ls → (∀ q ∈ Ls, ys_W p l e room_1 s m #[Value.ref b] below meth c (lw_Z below #[Value.ref b] s) kc kz D vwCl ad cT yk_sh (fun q => s.heap.size ≤ q) s.heap 4 K.2.2.2 g0 r0 6 q.1 q.2) → ys_W p l e room_1 s m #[Value.ref b] below meth c (lw_Z below #[Value.ref b] s) kc kz D vwCl ad cT yk_sh (fun q => s.heap.size ≤ q) s.heap 4 K.2.2.2 g0 r0 6 pc Y
  | 0, _, _, _, h, _ => by cases h
  | f + 1, pc, Y, Ls, h, k => by
    unfold ys_expL at h
    split at h
    · cases Option.some.inj h
      exact k _ List.mem_cons_self
    · split at h
      · rename_i i len hx
        split at h
        · rename_i succ hY
          refine ys_stL_ok (B := Y.1) (fds := Y.2.1) (lv := Y.2.2.1) (sv := Y.2.2.2) S hr hlocks hnL hfr hlo hkk hK hty hLk hcalls hnx hX hbl hb1 hr0 (hnx _ _ hx) hY (fun q hq => ?_)
          obtain ⟨x, h1, h2⟩ := ys_exp_mem (f := fun q : Nat × ys_S => ys_expL stop L cj calls K nx f q.1 q.2) succ Ls h q hq
          exact ys_expL_ok S hr hlocks hnL hfr hlo hkk hK hty hLk hcalls hnx hX hbl hb1 hr0 f q.1 q.2 x h1 (fun z hz => k z (h2 z hz))
        · cases h
      · cases h
end YLW
