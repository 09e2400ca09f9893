/-! the walk: a state of symbols at a place of the code stands for the machine there -/
section YSW
variable (p : Program) (l : Launch) (e : Env) (R : Room) (s : State) (m : MethodId) (args : Array Value) (below : List Frame) (meth : Method) (c : Code) (Q : State → Prop) (kc kz : Nat) (D : va_G) (cl : List vw_C) (ad : Nat → Nat) (cT : Nat → ClassId) (sh : List ys_C) (A : Nat → Prop) (H0 : Heap) (nL : Nat) (mods : List Nat) (g0 : Nat → Nat → Int) (r0 : Nat → Int) (E : Nat)
noncomputable def ys_W (pc : Nat) (S : ys_S) : Prop := ∀ (r : Nat → Int) (H : Heap) (locs : List Loc) (ls : Array Slot) (st : List Value), ys_rep D cl ad cT sh A H0 nL mods g0 r0 r E S H locs ls st → W p l e R s m args below meth c H locs kc kz Q (F0 m pc ls st)
end YSW
section YSV
variable {p : Program} {l : Launch} {e : Env} {R : Room} {s : State} {m : MethodId} {args : Array Value} {below : List Frame} {meth : Method} {c : Code} {Q : State → Prop} {kc kz : Nat} {D : va_G} {cl : List vw_C} {ad : Nat → Nat} {cT : Nat → ClassId} {sh : List ys_C} {A : Nat → Prop} {H0 : Heap} {nL : Nat} {mods : List Nat} {g0 : Nat → Nat → Int} {r0 : Nat → Int} {E : Nat} {pc : Nat} {b : ys_B} {fds : ys_F} {lv : List (Nat × ys_V)} {sv : List ys_V} {succ : List (Nat × ys_S)} {cc : ByteArray}
/-- two ints -/
noncomputable def ys_hb32 (F : ys_B → ys_L → ys_L → Option (ys_B × ys_L)) (pc : Nat) (b : ys_B) (fds : ys_F) (lv : List (Nat × ys_V)) (sv : List ys_V) : Option (List (Nat × ys_S)) := match sv with
  | .inl (.inl y) :: .inl (.inl x) :: t => (match F b x y with
    | some o => some [(pc + 1, o.1, fds, lv, .inl (.inl o.2) :: t)]
    | none => none)
  | _ => none
theorem ys_kb32 {F : ys_B → ys_L → ys_L → Option (ys_B × ys_L)} {op : Int32 → Int32 → Int32} {ok : Int32 → Prop} (hF : ys_B32 F op ok) (hrow : ∀ (X Y : Int32) (H : Heap) (locs : List Loc) (ls : Array Slot) (rest : List Value), ok Y → W p l e R s m args below meth c H locs kc kz Q (F0 m (pc + 1) ls (.int (op X Y) :: rest)) → W p l e R s m args below meth c H locs kc kz Q (F0 m pc ls (.int Y :: .int X :: rest))) (hs : ys_hb32 F pc b fds lv sv = some succ) (k : ∀ q ∈ succ, ys_W p l e R s m args below meth c Q kc kz D cl ad cT sh A H0 nL mods g0 r0 E q.1 q.2) : ys_W p l e R s m args below meth c Q kc kz D cl ad cT sh A H0 nL mods g0 r0 E pc (b, fds, lv, sv) := by
  unfold ys_hb32 at hs
  split at hs
  · rename_i y x t
    split at hs
    · rename_i o ho
      cases Option.some.inj hs
      have k := k _ List.mem_cons_self
      intro r H locs ls st h
      obtain ⟨st1, e1, h1, hy⟩ := ys_rep_pop h
      obtain ⟨st2, e2, h2, hx⟩ := ys_rep_pop h1
      subst e1; subst e2
      obtain ⟨hok, r', hag, hb, hl, hsc, hst, hval⟩ := hF r b x y o h.1 h.2.1.1 hx hy ho
      refine hrow _ _ _ _ _ _ hok ?_
      have h4 := k r' H locs ls _ (ys_rep_push (ys_rep_ext h2 hag hb hl hsc) (.inl (.inl o.2)) hst)
      have e3 : ys_den ad r' (.inl (.inl o.2)) = .int (op (Int32.ofInt (ys_ev r x)) (Int32.ofInt (ys_ev r y))) := congrArg Value.int hval
      rw [e3] at h4
      exact h4
    · cases hs
  · cases hs
/-- two longs -/
noncomputable def ys_hb64 (F : ys_B → ys_L → ys_L → Option (ys_B × ys_L)) (pc : Nat) (b : ys_B) (fds : ys_F) (lv : List (Nat × ys_V)) (sv : List ys_V) : Option (List (Nat × ys_S)) := match sv with
  | .inl (.inr y) :: .inl (.inr x) :: t => (match F b x y with
    | some o => some [(pc + 1, o.1, fds, lv, .inl (.inr o.2) :: t)]
    | none => none)
  | _ => none
theorem ys_kb64 {F : ys_B → ys_L → ys_L → Option (ys_B × ys_L)} {op : Int64 → Int64 → Int64} {ok : Int64 → Prop} (hF : ys_B64 F op ok) (hrow : ∀ (X Y : Int64) (H : Heap) (locs : List Loc) (ls : Array Slot) (rest : List Value), ok Y → W p l e R s m args below meth c H locs kc kz Q (F0 m (pc + 1) ls (.long (op X Y) :: rest)) → W p l e R s m args below meth c H locs kc kz Q (F0 m pc ls (.long Y :: .long X :: rest))) (hs : ys_hb64 F pc b fds lv sv = some succ) (k : ∀ q ∈ succ, ys_W p l e R s m args below meth c Q kc kz D cl ad cT sh A H0 nL mods g0 r0 E q.1 q.2) : ys_W p l e R s m args below meth c Q kc kz D cl ad cT sh A H0 nL mods g0 r0 E pc (b, fds, lv, sv) := by
  unfold ys_hb64 at hs
  split at hs
  · rename_i y x t
    split at hs
    · rename_i o ho
      cases Option.some.inj hs
      have k := k _ List.mem_cons_self
      intro r H locs ls st h
      obtain ⟨st1, e1, h1, hy⟩ := ys_rep_pop h
      obtain ⟨st2, e2, h2, hx⟩ := ys_rep_pop h1
      subst e1; subst e2
      obtain ⟨hok, r', hag, hb, hl, hsc, hst, hval⟩ := hF r b x y o h.1 h.2.1.1 hx hy ho
      refine hrow _ _ _ _ _ _ hok ?_
      have h4 := k r' H locs ls _ (ys_rep_push (ys_rep_ext h2 hag hb hl hsc) (.inl (.inr o.2)) hst)
      have e3 : ys_den ad r' (.inl (.inr o.2)) = .long (op (Int64.ofInt (ys_ev r x)) (Int64.ofInt (ys_ev r y))) := congrArg Value.long hval
      rw [e3] at h4
      exact h4
    · cases hs
  · cases hs
/-- a long and an int -/
noncomputable def ys_hbLI (F : ys_B → ys_L → ys_L → Option (ys_B × ys_L)) (pc : Nat) (b : ys_B) (fds : ys_F) (lv : List (Nat × ys_V)) (sv : List ys_V) : Option (List (Nat × ys_S)) := match sv with
  | .inl (.inl y) :: .inl (.inr x) :: t => (match F b x y with
    | some o => some [(pc + 1, o.1, fds, lv, .inl (.inr o.2) :: t)]
    | none => none)
  | _ => none
theorem ys_kbLI {F : ys_B → ys_L → ys_L → Option (ys_B × ys_L)} {op : Int64 → Int32 → Int64} (hF : ys_BLI F op) (hrow : ∀ (X : Int64) (Y : Int32) (H : Heap) (locs : List Loc) (ls : Array Slot) (rest : List Value), W p l e R s m args below meth c H locs kc kz Q (F0 m (pc + 1) ls (.long (op X Y) :: rest)) → W p l e R s m args below meth c H locs kc kz Q (F0 m pc ls (.int Y :: .long X :: rest))) (hs : ys_hbLI F pc b fds lv sv = some succ) (k : ∀ q ∈ succ, ys_W p l e R s m args below meth c Q kc kz D cl ad cT sh A H0 nL mods g0 r0 E q.1 q.2) : ys_W p l e R s m args below meth c Q kc kz D cl ad cT sh A H0 nL mods g0 r0 E pc (b, fds, lv, sv) := by
  unfold ys_hbLI at hs
  split at hs
  · rename_i y x t
    split at hs
    · rename_i o ho
      cases Option.some.inj hs
      have k := k _ List.mem_cons_self
      intro r H locs ls st h
      obtain ⟨st1, e1, h1, hy⟩ := ys_rep_pop h
      obtain ⟨st2, e2, h2, hx⟩ := ys_rep_pop h1
      subst e1; subst e2
      obtain ⟨r', hag, hb, hl, hsc, hst, hval⟩ := hF r b x y o h.1 h.2.1.1 hx hy ho
      refine hrow _ _ _ _ _ _ ?_
      have h4 := k r' H locs ls _ (ys_rep_push (ys_rep_ext h2 hag hb hl hsc) (.inl (.inr o.2)) hst)
      have e3 : ys_den ad r' (.inl (.inr o.2)) = .long (op (Int64.ofInt (ys_ev r x)) (Int32.ofInt (ys_ev r y))) := congrArg Value.long hval
      rw [e3] at h4
      exact h4
    · cases hs
  · cases hs
/-- one int to one int -/
noncomputable def ys_hu32 (F : ys_B → ys_L → ys_B × ys_L) (pc : Nat) (b : ys_B) (fds : ys_F) (lv : List (Nat × ys_V)) (sv : List ys_V) : Option (List (Nat × ys_S)) := match sv with
  | .inl (.inl x) :: t => some [(pc + 1, (F b x).1, fds, lv, .inl (.inl (F b x).2) :: t)]
  | _ => none
theorem ys_ku32 {F : ys_B → ys_L → ys_B × ys_L} {op : Int32 → Int32} (hF : ∀ (r : Nat → Int) (b : ys_B) (x : ys_L), ys_okB r b → ys_scB b → ys_stb b.1.length x → ys_Op r b (F b x) (fun z => Int32.ofInt z = op (Int32.ofInt (ys_ev r x)))) (hrow : ∀ (X : Int32) (H : Heap) (locs : List Loc) (ls : Array Slot) (rest : List Value), W p l e R s m args below meth c H locs kc kz Q (F0 m (pc + 1) ls (.int (op X) :: rest)) → W p l e R s m args below meth c H locs kc kz Q (F0 m pc ls (.int X :: rest))) (hs : ys_hu32 F pc b fds lv sv = some succ) (k : ∀ q ∈ succ, ys_W p l e R s m args below meth c Q kc kz D cl ad cT sh A H0 nL mods g0 r0 E q.1 q.2) : ys_W p l e R s m args below meth c Q kc kz D cl ad cT sh A H0 nL mods g0 r0 E pc (b, fds, lv, sv) := by
  unfold ys_hu32 at hs
  split at hs
  · rename_i x t
    cases Option.some.inj hs
    have k := k _ List.mem_cons_self
    intro r H locs ls st h
    obtain ⟨st1, e1, h1, hx⟩ := ys_rep_pop h
    subst e1
    obtain ⟨r', hag, hb, hl, hsc, hst, hval⟩ := hF r b x h.1 h.2.1.1 hx
    refine hrow _ _ _ _ _ ?_
    have h4 := k r' H locs ls _ (ys_rep_push (ys_rep_ext h1 hag hb hl hsc) (.inl (.inl (F b x).2)) hst)
    have e3 : ys_den ad r' (.inl (.inl (F b x).2)) = .int (op (Int32.ofInt (ys_ev r x))) := congrArg Value.int hval
    rw [e3] at h4
    exact h4
  · cases hs
/-- one long to one long -/
noncomputable def ys_hu64 (F : ys_B → ys_L → ys_B × ys_L) (pc : Nat) (b : ys_B) (fds : ys_F) (lv : List (Nat × ys_V)) (sv : List ys_V) : Option (List (Nat × ys_S)) := match sv with
  | .inl (.inr x) :: t => some [(pc + 1, (F b x).1, fds, lv, .inl (.inr (F b x).2) :: t)]
  | _ => none
theorem ys_ku64 {F : ys_B → ys_L → ys_B × ys_L} {op : Int64 → Int64} (hF : ∀ (r : Nat → Int) (b : ys_B) (x : ys_L), ys_okB r b → ys_scB b → ys_stb b.1.length x → ys_Op r b (F b x) (fun z => Int64.ofInt z = op (Int64.ofInt (ys_ev r x)))) (hrow : ∀ (X : Int64) (H : Heap) (locs : List Loc) (ls : Array Slot) (rest : List Value), W p l e R s m args below meth c H locs kc kz Q (F0 m (pc + 1) ls (.long (op X) :: rest)) → W p l e R s m args below meth c H locs kc kz Q (F0 m pc ls (.long X :: rest))) (hs : ys_hu64 F pc b fds lv sv = some succ) (k : ∀ q ∈ succ, ys_W p l e R s m args below meth c Q kc kz D cl ad cT sh A H0 nL mods g0 r0 E q.1 q.2) : ys_W p l e R s m args below meth c Q kc kz D cl ad cT sh A H0 nL mods g0 r0 E pc (b, fds, lv, sv) := by
  unfold ys_hu64 at hs
  split at hs
  · rename_i x t
    cases Option.some.inj hs
    have k := k _ List.mem_cons_self
    intro r H locs ls st h
    obtain ⟨st1, e1, h1, hx⟩ := ys_rep_pop h
    subst e1
    obtain ⟨r', hag, hb, hl, hsc, hst, hval⟩ := hF r b x h.1 h.2.1.1 hx
    refine hrow _ _ _ _ _ ?_
    have h4 := k r' H locs ls _ (ys_rep_push (ys_rep_ext h1 hag hb hl hsc) (.inl (.inr (F b x).2)) hst)
    have e3 : ys_den ad r' (.inl (.inr (F b x).2)) = .long (op (Int64.ofInt (ys_ev r x))) := congrArg Value.long hval
    rw [e3] at h4
    exact h4
  · cases hs
/-- a long to an int -/
noncomputable def ys_hl2i (pc : Nat) (b : ys_B) (fds : ys_F) (lv : List (Nat × ys_V)) (sv : List ys_V) : Option (List (Nat × ys_S)) := match sv with
  | .inl (.inr x) :: t => some [(pc + 1, (ys_nm false b x).1, fds, lv, .inl (.inl (ys_nm false b x).2) :: t)]
  | _ => none
theorem ys_kl2i (hexec : p.tables.exec = Jvm.exec) (hb : c.code = cc) (hd : decode cc pc = .ok (.l2i, 1)) (hs : ys_hl2i pc b fds lv sv = some succ) (k : ∀ q ∈ succ, ys_W p l e R s m args below meth c Q kc kz D cl ad cT sh A H0 nL mods g0 r0 E q.1 q.2) : ys_W p l e R s m args below meth c Q kc kz D cl ad cT sh A H0 nL mods g0 r0 E pc (b, fds, lv, sv) := by
  unfold ys_hl2i at hs
  split at hs
  · rename_i x t
    cases Option.some.inj hs
    have k := k _ List.mem_cons_self
    intro r H locs ls st h
    obtain ⟨st1, e1, h1, hx⟩ := ys_rep_pop h
    subst e1
    obtain ⟨r', hag, hbb, hl, hsc, hst, hval⟩ := ys_fl2i h.1 h.2.1.1 hx
    refine lv_l2i hexec hb hd hval.symm ?_
    exact k r' H locs ls _ (ys_rep_push (ys_rep_ext h1 hag hbb hl hsc) (.inl (.inl (ys_nm false b x).2)) hst)
  · cases hs
/-- an int to a long -/
noncomputable def ys_hi2l (pc : Nat) (b : ys_B) (fds : ys_F) (lv : List (Nat × ys_V)) (sv : List ys_V) : Option (List (Nat × ys_S)) := match sv with
  | .inl (.inl x) :: t => if ys_inr false b.1 x = true then some [(pc + 1, b, fds, lv, .inl (.inr x) :: t)] else none
  | _ => none
theorem ys_ki2l (hexec : p.tables.exec = Jvm.exec) (hb : c.code = cc) (hd : decode cc pc = .ok (.i2l, 1)) (hs : ys_hi2l pc b fds lv sv = some succ) (k : ∀ q ∈ succ, ys_W p l e R s m args below meth c Q kc kz D cl ad cT sh A H0 nL mods g0 r0 E q.1 q.2) : ys_W p l e R s m args below meth c Q kc kz D cl ad cT sh A H0 nL mods g0 r0 E pc (b, fds, lv, sv) := by
  unfold ys_hi2l at hs
  split at hs
  · rename_i x t
    split at hs
    · rename_i hi
      cases Option.some.inj hs
      have k := k _ List.mem_cons_self
      intro r H locs ls st h
      obtain ⟨st1, e1, h1, hx⟩ := ys_rep_pop h
      subst e1
      refine lv_i2l hexec hb hd (ys_i2l h.1.1 hi) ?_
      exact k r H locs ls _ (ys_rep_push h1 (.inl (.inr x)) hx)
    · cases hs
  · cases hs
/-- one more value -/
noncomputable def ys_hpush (pc : Nat) (b : ys_B) (fds : ys_F) (lv : List (Nat × ys_V)) (sv : List ys_V) (v : ys_V) : Option (List (Nat × ys_S)) := some [(pc, b, fds, lv, v :: sv)]
theorem ys_kpush {pc' : Nat} {v : ys_V} (hv : ∀ n, ys_stV n v) (hrow : ∀ (r : Nat → Int) (H : Heap) (locs : List Loc) (ls : Array Slot) (rest : List Value), W p l e R s m args below meth c H locs kc kz Q (F0 m pc' ls (ys_den ad r v :: rest)) → W p l e R s m args below meth c H locs kc kz Q (F0 m pc ls rest)) (hs : ys_hpush pc' b fds lv sv v = some succ) (k : ∀ q ∈ succ, ys_W p l e R s m args below meth c Q kc kz D cl ad cT sh A H0 nL mods g0 r0 E q.1 q.2) : ys_W p l e R s m args below meth c Q kc kz D cl ad cT sh A H0 nL mods g0 r0 E pc (b, fds, lv, sv) := by
  cases Option.some.inj hs
  have k := k _ List.mem_cons_self
  intro r H locs ls st h
  exact hrow r _ _ _ _ (k r H locs ls _ (ys_rep_push h v (hv _)))
/-- a place of the frame is read: kind 0 an int, 1 a long, 2 a reference -/
noncomputable def ys_kind (v : ys_V) : Nat := match v with
  | .inl (.inl _) => 0
  | .inl (.inr _) => 1
  | .inr (some _) => 2
  | .inr none => 3
noncomputable def ys_cv (v : ys_E) (x : ys_V) : ys_V := match x with
  | .inl (.inl e) => .inl (.inl (ys_ce v e))
  | .inl (.inr e) => .inl (.inr (ys_ce v e))
  | .inr o => .inr o
theorem ys_cv_den {ad : Nat → Nat} {r : Nat → Int} {v : ys_E} (h : ys_ok r v) (x : ys_V) : ys_den ad r (ys_cv v x) = ys_den ad r x := by
  rcases x with (y | y) | y
  · show Value.int _ = Value.int _
    rw [ys_ce_ev h]
  · show Value.long _ = Value.long _
    rw [ys_ce_ev h]
  · rfl
theorem ys_cv_st {n : Nat} {v : ys_E} {x : ys_V} (h : ys_stV n x) : ys_stV n (ys_cv v x) := by
  rcases x with (y | y) | y
  · exact ys_ce_st (e := y) h
  · exact ys_ce_st (e := y) h
  · trivial
noncomputable def ys_hload (t : Nat) (i : Nat) (pc : Nat) (b : ys_B) (fds : ys_F) (lv : List (Nat × ys_V)) (sv : List ys_V) : Option (List (Nat × ys_S)) := match lv.lookup i with
  | some v => if ys_kind v = t then some [(pc, b, fds, lv, ys_cv b.1 v :: sv)] else none
  | none => none
theorem ys_kload {t i pc' : Nat} (hrow : ∀ (r : Nat → Int) (v : ys_V) (H : Heap) (locs : List Loc) (ls : Array Slot) (rest : List Value), ys_kind v = t → ls[i]? = some (.val (ys_den ad r v)) → W p l e R s m args below meth c H locs kc kz Q (F0 m pc' ls (ys_den ad r v :: rest)) → W p l e R s m args below meth c H locs kc kz Q (F0 m pc ls rest)) (hs : ys_hload t i pc' b fds lv sv = some succ) (k : ∀ q ∈ succ, ys_W p l e R s m args below meth c Q kc kz D cl ad cT sh A H0 nL mods g0 r0 E q.1 q.2) : ys_W p l e R s m args below meth c Q kc kz D cl ad cT sh A H0 nL mods g0 r0 E pc (b, fds, lv, sv) := by
  unfold ys_hload at hs
  split at hs
  · rename_i v hv
    split at hs
    · rename_i ht
      cases Option.some.inj hs
      have k := k _ List.mem_cons_self
      intro r H locs ls st h
      obtain ⟨g1, g2⟩ := ys_rep_loc h hv
      have h4 := k r H locs ls _ (ys_rep_push h (ys_cv b.1 v) (ys_cv_st g2))
      rw [ys_cv_den h.1.1] at h4
      exact hrow r v _ _ _ _ ht g1 h4
    · cases hs
  · cases hs
theorem ys_kind0 {v : ys_V} (h : ys_kind v = 0) : ∃ x, v = .inl (.inl x) := by
  rcases v with (x | x) | (_ | x)
  · exact ⟨x, rfl⟩
  · cases h
  · cases h
  · cases h
theorem ys_kind1 {v : ys_V} (h : ys_kind v = 1) : ∃ x, v = .inl (.inr x) := by
  rcases v with (x | x) | (_ | x)
  · cases h
  · exact ⟨x, rfl⟩
  · cases h
  · cases h
theorem ys_kind2 {v : ys_V} (h : ys_kind v = 2) : ∃ x, v = .inr (some x) := by
  rcases v with (x | x) | (_ | x)
  · cases h
  · cases h
  · cases h
  · exact ⟨x, rfl⟩
/-- a place of the frame is written -/
noncomputable def ys_w1 (t : Nat) : Nat := if t = 1 then 1 else 0
noncomputable def ys_stw (t : Nat) (lv : List (Nat × ys_V)) (i : Nat) (v : ys_V) : List (Nat × ys_V) := if t = 1 then ys_st2 lv i v else ys_st1 lv i v
noncomputable def ys_hstore (t : Nat) (nL : Nat) (i : Nat) (pc : Nat) (b : ys_B) (fds : ys_F) (lv : List (Nat × ys_V)) (sv : List ys_V) : Option (List (Nat × ys_S)) := match sv with
  | v :: r => if ys_kind v = t && decide (i + ys_w1 t < nL) then some [(pc, b, fds, ys_stw t lv i v, r)] else none
  | [] => none
theorem ys_kstore {t i pc' : Nat} (hrow : ∀ (r : Nat → Int) (v : ys_V) (H : Heap) (locs : List Loc) (ls : Array Slot) (rest : List Value), ys_kind v = t → lv_has ls nL (ys_lvs ad r lv) → i + ys_w1 t < nL → (∀ ls' : Array Slot, lv_has ls' nL (ys_lvs ad r (ys_stw t lv i v)) → W p l e R s m args below meth c H locs kc kz Q (F0 m pc' ls' rest)) → W p l e R s m args below meth c H locs kc kz Q (F0 m pc ls (ys_den ad r v :: rest))) (hs : ys_hstore t nL i pc' b fds lv sv = some succ) (k : ∀ q ∈ succ, ys_W p l e R s m args below meth c Q kc kz D cl ad cT sh A H0 nL mods g0 r0 E q.1 q.2) : ys_W p l e R s m args below meth c Q kc kz D cl ad cT sh A H0 nL mods g0 r0 E pc (b, fds, lv, sv) := by
  unfold ys_hstore at hs
  split at hs
  · rename_i v sv'
    split at hs
    · rename_i ht
      rw [Bool.and_eq_true, decide_eq_true_eq, decide_eq_true_eq] at ht
      cases Option.some.inj hs
      have k := k _ List.mem_cons_self
      intro r H locs ls st h
      obtain ⟨st1, e1, h1, hv⟩ := ys_rep_pop h
      subst e1
      refine hrow r v _ _ _ _ ht.1 h.2.2.2.2.1 ht.2 fun ls' hls => k r H locs ls' _ ?_
      obtain ⟨g1, ⟨s0, s1, s2, s3⟩, g2, g3, g4, g5⟩ := h1
      refine ⟨g1, ⟨s0, s1, fun q hq => ?_, s3⟩, g2, g3, hls, g5⟩
      have hq : q ∈ ys_stw t lv i v := hq
      unfold ys_stw at hq
      split at hq
      · rcases List.mem_cons.mp hq with e | e
        · rw [e]; exact hv
        · exact s2 q ((List.mem_filter.mp e).1)
      · rcases List.mem_cons.mp hq with e | e
        · rw [e]; exact hv
        · exact s2 q ((List.mem_filter.mp e).1)
    · cases hs
  · cases hs
/-- a branch: the facts that hold on it -/
noncomputable def ys_br (pc : Nat) (b : ys_B) (fs : List ys_L) (rest : ys_F × List (Nat × ys_V) × List ys_V) : List (Nat × ys_S) := match ys_ass b fs with
  | some b' => [(pc, b', rest)]
  | none => []
theorem ys_as_sc {n : Nat} {b b' : ys_B} {f : ys_L} (hn : b.1.length = n) (hs : ys_scB b) (hf : ys_stb n f) (h : ys_as b f = some b') : ys_scB b' := by
  have hl := ys_as_len h
  unfold ys_as at h
  split at h
  · cases h
  · cases Option.some.inj h
    intro g hg
    have key : ∀ g ∈ f :: b.2, ys_stb (ys_tg f f.1 b.1).length g := by
      intro g hg
      rw [ys_tg_len]
      rcases List.mem_cons.mp hg with e | e
      · rw [e, hn]; exact hf
      · exact hs g e
    refine key g ?_
    have hg : g ∈ (match f.1 with
      | [] => b.2
      | [q] => if q.2 = 1 then b.2 else if q.2 = -1 then b.2 else f :: b.2
      | _ => f :: b.2) := hg
    split at hg
    · exact List.mem_cons_of_mem _ hg
    · split at hg
      · exact List.mem_cons_of_mem _ hg
      · split at hg
        · exact List.mem_cons_of_mem _ hg
        · exact hg
    · exact hg
theorem ys_ass_sc : ∀ (fs : List ys_L) {n : Nat} {b b' : ys_B}, b.1.length = n → ys_scB b → (∀ f ∈ fs, ys_stb n f) → ys_ass b fs = some b' → ys_scB b'
  | [], n, b, b', hn, hs, hf, h => by cases Option.some.inj h; exact hs
  | f :: t, n, b, b', hn, hs, hf, h => by
    unfold ys_ass at h
    cases h1 : ys_as b f with
    | none => rw [h1] at h; cases h
    | some b1 =>
      rw [h1] at h
      exact ys_ass_sc t ((ys_as_len h1).trans hn) (ys_as_sc hn hs (hf f List.mem_cons_self) h1) (fun g hg => hf g (List.mem_cons_of_mem _ hg)) h
theorem ys_kbr {pc' : Nat} {fs : List ys_L} {r : Nat → Int} {H : Heap} {locs : List Loc} {ls : Array Slot} {st : List Value} (h : ys_rep D cl ad cT sh A H0 nL mods g0 r0 r E (b, fds, lv, sv) H locs ls st) (hf : ys_fk r fs) (hst : ∀ f ∈ fs, ys_stb b.1.length f) (k : ∀ q ∈ ys_br pc' b fs (fds, lv, sv), ys_W p l e R s m args below meth c Q kc kz D cl ad cT sh A H0 nL mods g0 r0 E q.1 q.2) : W p l e R s m args below meth c H locs kc kz Q (F0 m pc' ls st) := by
  obtain ⟨b', e1, h1⟩ := ys_ass_ok fs h.1 hf
  have hl := ys_ass_len fs e1
  unfold ys_br at k
  rw [e1] at k
  exact k _ List.mem_cons_self r H locs ls st (ys_rep_ext h (fun _ _ => rfl) h1 (Nat.le_of_eq hl.symm) (ys_ass_sc fs rfl h.2.1.1 hst e1))
theorem ys_stb_m1 {n : Nat} {f : ys_L} (h : ys_stb n f) : ys_stb n (ys_add f ([], -1)) := ys_stb_add h (ys_stb_cst (-1))
theorem ys_cf_st {n : Nat} {v : ys_E} {cd : ClassFile.Cond} {x y : ys_L} (hx : ys_stb n x) (hy : ys_stb n y) : ∀ f ∈ ys_cf v cd x y, ys_stb n f := by
  have one : ∀ {g : ys_L}, ys_stb n g → ∀ f ∈ [g], ys_stb n f := fun hg f hf => by rw [List.mem_singleton.mp hf]; exact hg
  cases cd with
  | eq =>
    intro f hf
    rcases List.mem_cons.mp hf with q | q
    · rw [q]; exact ys_stb_sub hx hy
    · rw [List.mem_singleton.mp q]; exact ys_stb_sub hy hx
  | ne =>
    show ∀ f ∈ ys_ne v x y, ys_stb n f
    unfold ys_ne
    split
    · exact one (ys_stb_m1 (ys_stb_sub hx hy))
    · split
      · exact one (ys_stb_m1 (ys_stb_sub hy hx))
      · intro f hf
        cases hf
  | lt => exact one (ys_stb_m1 (ys_stb_sub hy hx))
  | ge => exact one (ys_stb_sub hx hy)
  | gt => exact one (ys_stb_m1 (ys_stb_sub hx hy))
  | le => exact one (ys_stb_sub hy hx)
noncomputable def ys_tgt (pc : Nat) (off : Int) : Option Nat := if 0 ≤ (pc : Int) + off then some ((pc : Int) + off).toNat else none
theorem ys_tgt_ok {off : Int} {t : Nat} (h : ys_tgt pc off = some t) : (pc : Int) + off = (t : Int) := by
  unfold ys_tgt at h
  split at h
  · cases Option.some.inj h
    omega
  · cases h
/-- a comparison of two ints, and where it goes -/
noncomputable def ys_cmp2 (cd : ClassFile.Cond) (x y : ys_L) (pt pf : Nat) (b : ys_B) (rest : ys_F × List (Nat × ys_V) × List ys_V) : List (Nat × ys_S) := ((ys_cfs b.1 cd x y).flatMap fun fs => ys_br pt b fs rest) ++ ((ys_cfs b.1 (ys_cn cd) x y).flatMap fun fs => ys_br pf b fs rest)
theorem ys_cfs_st {n : Nat} {v : ys_E} {cd : ClassFile.Cond} {x y : ys_L} (hx : ys_stb n x) (hy : ys_stb n y) : ∀ fs ∈ ys_cfs v cd x y, ∀ f ∈ fs, ys_stb n f := by
  intro fs hfs f hf
  cases cd with
  | ne =>
    rcases List.mem_cons.mp hfs with q | q
    · rw [q] at hf
      rw [List.mem_singleton.mp hf]
      exact ys_stb_m1 (ys_stb_sub hx hy)
    · rw [List.mem_singleton.mp q] at hf
      rw [List.mem_singleton.mp hf]
      exact ys_stb_m1 (ys_stb_sub hy hx)
  | eq => exact ys_cf_st hx hy f (List.mem_singleton.mp hfs ▸ hf)
  | lt => exact ys_cf_st hx hy f (List.mem_singleton.mp hfs ▸ hf)
  | ge => exact ys_cf_st hx hy f (List.mem_singleton.mp hfs ▸ hf)
  | gt => exact ys_cf_st hx hy f (List.mem_singleton.mp hfs ▸ hf)
  | le => exact ys_cf_st hx hy f (List.mem_singleton.mp hfs ▸ hf)
theorem ys_kway {pc' : Nat} {cd : ClassFile.Cond} {x y : ys_L} {r : Nat → Int} {H : Heap} {locs : List Loc} {ls : Array Slot} {st : List Value} (h : ys_rep D cl ad cT sh A H0 nL mods g0 r0 r E (b, fds, lv, sv) H locs ls st) (hc : ys_ch cd (ys_ev r x) (ys_ev r y)) (sx : ys_stb b.1.length x) (sy : ys_stb b.1.length y) (k : ∀ q ∈ (ys_cfs b.1 cd x y).flatMap (fun fs => ys_br pc' b fs (fds, lv, sv)), ys_W p l e R s m args below meth c Q kc kz D cl ad cT sh A H0 nL mods g0 r0 E q.1 q.2) : W p l e R s m args below meth c H locs kc kz Q (F0 m pc' ls st) := by
  obtain ⟨fs, h1, h2⟩ := ys_cfs_ok h.1.1 hc
  exact ys_kbr h h2 (ys_cfs_st sx sy fs h1) (fun q hq => k q (List.mem_flatMap.mpr ⟨fs, h1, hq⟩))
noncomputable def ys_hcmp (cd : ClassFile.Cond) (off : Int) (pc : Nat) (b : ys_B) (fds : ys_F) (lv : List (Nat × ys_V)) (sv : List ys_V) : Option (List (Nat × ys_S)) := match sv, ys_tgt pc off with
  | .inl (.inl y) :: .inl (.inl x) :: t, some tg => if ys_inr false b.1 x && ys_inr false b.1 y then some (ys_cmp2 cd x y tg (pc + 3) b (fds, lv, t)) else none
  | _, _ => none
noncomputable def ys_hif (cd : ClassFile.Cond) (off : Int) (pc : Nat) (b : ys_B) (fds : ys_F) (lv : List (Nat × ys_V)) (sv : List ys_V) : Option (List (Nat × ys_S)) := match sv, ys_tgt pc off with
  | .inl (.inl x) :: t, some tg => if ys_inr false b.1 x then some (ys_cmp2 cd x ([], 0) tg (pc + 3) b (fds, lv, t)) else none
  | _, _ => none
noncomputable def ys_ch32 (cd : ClassFile.Cond) (x y : Int32) : Prop := match cd with
  | .eq => x = y
  | .ne => ¬ x = y
  | .lt => x < y
  | .ge => y ≤ x
  | .gt => y < x
  | .le => x ≤ y
theorem ys_ch32_iff {cd : ClassFile.Cond} {x y : Int32} : ys_ch32 cd x y ↔ ys_ch cd x.toInt y.toInt := by
  cases cd with
  | eq => exact Int32.toInt_inj.symm
  | ne => exact not_congr Int32.toInt_inj.symm
  | lt => exact Int32.lt_iff_toInt_lt
  | ge => exact Int32.le_iff_toInt_le
  | gt => exact Int32.lt_iff_toInt_lt
  | le => exact Int32.le_iff_toInt_le
theorem ys_icmp (hexec : p.tables.exec = Jvm.exec) (hb : c.code = cc) {H : Heap} {locs : List Loc} {ls : Array Slot} {rest : List Value} {cd : ClassFile.Cond} {x y : Int32} {off : Int} {tgt : Nat} (hd : decode cc pc = .ok (.if_icmp cd off, 3)) (ht : (pc : Int) + off = (tgt : Int))
    (kt : ys_ch32 cd x y → W p l e R s m args below meth c H locs kc kz Q (F0 m tgt ls rest)) (kf : ¬ ys_ch32 cd x y → W p l e R s m args below meth c H locs kc kz Q (F0 m (pc + 3) ls rest)) : W p l e R s m args below meth c H locs kc kz Q (F0 m pc ls (.int y :: .int x :: rest)) := by
  cases cd with
  | eq => exact lv_icmp_eq hexec hb hd ht kt kf
  | ne => exact lv_icmp_ne hexec hb hd ht kt (fun hq => kf (fun hn => hn hq))
  | lt => exact lv_icmp_lt hexec hb hd ht kt kf
  | ge => exact lv_icmp_ge hexec hb hd ht kt kf
  | gt => exact lv_icmp_gt hexec hb hd ht kt kf
  | le => exact lv_icmp_le hexec hb hd ht kt kf
theorem ys_ifc (hexec : p.tables.exec = Jvm.exec) (hb : c.code = cc) {H : Heap} {locs : List Loc} {ls : Array Slot} {rest : List Value} {cd : ClassFile.Cond} {x : Int32} {off : Int} {tgt : Nat} (hd : decode cc pc = .ok (.ifCond cd off, 3)) (ht : (pc : Int) + off = (tgt : Int))
    (kt : ys_ch32 cd x 0 → W p l e R s m args below meth c H locs kc kz Q (F0 m tgt ls rest)) (kf : ¬ ys_ch32 cd x 0 → W p l e R s m args below meth c H locs kc kz Q (F0 m (pc + 3) ls rest)) : W p l e R s m args below meth c H locs kc kz Q (F0 m pc ls (.int x :: rest)) := by
  cases cd with
  | eq => exact lv_if_eq hexec hb hd ht kt kf
  | ne => exact lv_if_ne hexec hb hd ht kt (fun hq => kf (fun hn => hn hq))
  | lt => exact lv_if_lt hexec hb hd ht kt kf
  | ge => exact lv_if_ge hexec hb hd ht kt kf
  | gt => exact lv_if_gt hexec hb hd ht kt kf
  | le => exact lv_if_le hexec hb hd ht kt kf
theorem ys_kcmp2 {cd : ClassFile.Cond} {x y : ys_L} {pt pf : Nat} (hx : ∀ r, ys_okB r b → (Int32.ofInt (ys_ev r x)).toInt = ys_ev r x) (hy : ∀ r, ys_okB r b → (Int32.ofInt (ys_ev r y)).toInt = ys_ev r y) (k : ∀ q ∈ ys_cmp2 cd x y pt pf b (fds, lv, sv), ys_W p l e R s m args below meth c Q kc kz D cl ad cT sh A H0 nL mods g0 r0 E q.1 q.2) {r : Nat → Int} {H : Heap} {locs : List Loc} {ls : Array Slot} {st : List Value} (h : ys_rep D cl ad cT sh A H0 nL mods g0 r0 r E (b, fds, lv, sv) H locs ls st) (sx : ys_stb b.1.length x) (sy : ys_stb b.1.length y) :
    (ys_ch32 cd (Int32.ofInt (ys_ev r x)) (Int32.ofInt (ys_ev r y)) → W p l e R s m args below meth c H locs kc kz Q (F0 m pt ls st)) ∧ (¬ ys_ch32 cd (Int32.ofInt (ys_ev r x)) (Int32.ofInt (ys_ev r y)) → W p l e R s m args below meth c H locs kc kz Q (F0 m pf ls st)) := by
  have hb := h.1
  rw [ys_ch32_iff, hx r hb, hy r hb]
  refine ⟨fun hc => ?_, fun hc => ?_⟩
  · exact ys_kway h hc sx sy (fun q hq => k q (List.mem_append_left _ hq))
  · exact ys_kway h (ys_cn_ok hc) sx sy (fun q hq => k q (List.mem_append_right _ hq))
theorem ys_kcmp {cd : ClassFile.Cond} {off : Int} (hexec : p.tables.exec = Jvm.exec) (hb : c.code = cc) (hd : decode cc pc = .ok (.if_icmp cd off, 3)) (hs : ys_hcmp cd off pc b fds lv sv = some succ) (k : ∀ q ∈ succ, ys_W p l e R s m args below meth c Q kc kz D cl ad cT sh A H0 nL mods g0 r0 E q.1 q.2) : ys_W p l e R s m args below meth c Q kc kz D cl ad cT sh A H0 nL mods g0 r0 E pc (b, fds, lv, sv) := by
  unfold ys_hcmp at hs
  split at hs
  · rename_i y x t tg ht
    split at hs
    · rename_i hi
      rw [Bool.and_eq_true] at hi
      cases Option.some.inj hs
      intro r H locs ls st h
      obtain ⟨st1, e1, h1, hy⟩ := ys_rep_pop h
      obtain ⟨st2, e2, h2, hx⟩ := ys_rep_pop h1
      subst e1; subst e2
      have kk := ys_kcmp2 (fun r hr => ys_inr32 hr.1 hi.1) (fun r hr => ys_inr32 hr.1 hi.2) k h2 hx hy
      exact ys_icmp hexec hb hd (ys_tgt_ok ht) kk.1 kk.2
    · cases hs
  · cases hs
theorem ys_kif {cd : ClassFile.Cond} {off : Int} (hexec : p.tables.exec = Jvm.exec) (hb : c.code = cc) (hd : decode cc pc = .ok (.ifCond cd off, 3)) (hs : ys_hif cd off pc b fds lv sv = some succ) (k : ∀ q ∈ succ, ys_W p l e R s m args below meth c Q kc kz D cl ad cT sh A H0 nL mods g0 r0 E q.1 q.2) : ys_W p l e R s m args below meth c Q kc kz D cl ad cT sh A H0 nL mods g0 r0 E pc (b, fds, lv, sv) := by
  unfold ys_hif at hs
  split at hs
  · rename_i x t tg ht
    split at hs
    · rename_i hi
      cases Option.some.inj hs
      intro r H locs ls st h
      obtain ⟨st1, e1, h1, hx⟩ := ys_rep_pop h
      subst e1
      have z0 : ∀ r : Nat → Int, ys_ev r (([], 0) : ys_L) = 0 := fun _ => rfl
      have kk := ys_kcmp2 (fun r hr => ys_inr32 hr.1 hi) (fun r _ => by rw [z0]; rfl) k h1 hx (ys_stb_cst 0)
      rw [z0, show Int32.ofInt 0 = 0 from rfl] at kk
      exact ys_ifc hexec hb hd (ys_tgt_ok ht) kk.1 kk.2
    · cases hs
  · cases hs
/-- a comparison of two longs, with the branch that follows -/
noncomputable def ys_hlcmp (nx : Option (Instr × Nat)) (pc : Nat) (b : ys_B) (fds : ys_F) (lv : List (Nat × ys_V)) (sv : List ys_V) : Option (List (Nat × ys_S)) := match sv, nx with
  | .inl (.inr y) :: .inl (.inr x) :: t, some (.ifCond cd off, 3) => (match ys_tgt (pc + 1) off with
    | some tg => if ys_inr true b.1 x && ys_inr true b.1 y then some (ys_cmp2 cd x y tg (pc + 1 + 3) b (fds, lv, t)) else none
    | none => none)
  | _, _ => none
theorem ys_lcmp_iff {cd : ClassFile.Cond} {x y : Int64} : ys_ch32 cd (lg_cmp x y) 0 ↔ ys_ch cd x.toInt y.toInt := by
  cases cd with
  | eq => exact (lg_cmp_eq x y).trans Int64.toInt_inj.symm
  | ne => exact not_congr ((lg_cmp_eq x y).trans Int64.toInt_inj.symm)
  | lt => exact (lg_cmp_lt x y).trans Int64.lt_iff_toInt_lt
  | ge => exact (lg_cmp_ge x y).trans Int64.le_iff_toInt_le
  | gt => exact (lg_cmp_gt x y).trans Int64.lt_iff_toInt_lt
  | le => exact (lg_cmp_le x y).trans Int64.le_iff_toInt_le
theorem ys_klcmp {nx : Option (Instr × Nat)} (hexec : p.tables.exec = Jvm.exec) (hb : c.code = cc) (hd : decode cc pc = .ok (.lcmp, 1)) (hn : ∀ i, nx = some i → decode cc (pc + 1) = .ok i) (hs : ys_hlcmp nx pc b fds lv sv = some succ) (k : ∀ q ∈ succ, ys_W p l e R s m args below meth c Q kc kz D cl ad cT sh A H0 nL mods g0 r0 E q.1 q.2) : ys_W p l e R s m args below meth c Q kc kz D cl ad cT sh A H0 nL mods g0 r0 E pc (b, fds, lv, sv) := by
  unfold ys_hlcmp at hs
  split at hs
  · rename_i y x t cd off hd2
    split at hs
    · rename_i tg ht
      split at hs
      · rename_i hi
        rw [Bool.and_eq_true] at hi
        cases Option.some.inj hs
        intro r H locs ls st h
        obtain ⟨st1, e1, h1, hy⟩ := ys_rep_pop h
        obtain ⟨st2, e2, h2, hx⟩ := ys_rep_pop h1
        subst e1; subst e2
        refine W.lcmp hexec hb hd ?_
        refine ys_ifc (pc := pc + 1) hexec hb (hn _ rfl) (ys_tgt_ok ht) (fun hc => ?_) (fun hc => ?_)
        · rw [ys_lcmp_iff, ys_inr64 h.1.1 hi.1, ys_inr64 h.1.1 hi.2] at hc
          exact ys_kway h2 hc hx hy (fun q hq => k q (List.mem_append_left _ hq))
        · rw [ys_lcmp_iff, ys_inr64 h.1.1 hi.1, ys_inr64 h.1.1 hi.2] at hc
          exact ys_kway h2 (ys_cn_ok hc) hx hy (fun q hq => k q (List.mem_append_right _ hq))
      · cases hs
    · cases hs
  · cases hs
/-- on to another place -/
noncomputable def ys_hgoto (off : Int) (pc : Nat) (b : ys_B) (fds : ys_F) (lv : List (Nat × ys_V)) (sv : List ys_V) : Option (List (Nat × ys_S)) := match ys_tgt pc off with
  | some tg => some [(tg, b, fds, lv, sv)]
  | none => none
theorem ys_kgoto {off : Int} (hexec : p.tables.exec = Jvm.exec) (hb : c.code = cc) (hd : decode cc pc = .ok (.goto off, 3)) (hs : ys_hgoto off pc b fds lv sv = some succ) (k : ∀ q ∈ succ, ys_W p l e R s m args below meth c Q kc kz D cl ad cT sh A H0 nL mods g0 r0 E q.1 q.2) : ys_W p l e R s m args below meth c Q kc kz D cl ad cT sh A H0 nL mods g0 r0 E pc (b, fds, lv, sv) := by
  unfold ys_hgoto at hs
  split at hs
  · rename_i tg ht
    cases Option.some.inj hs
    have k := k _ List.mem_cons_self
    intro r H locs ls st h
    exact lv_goto hexec hb hd (ys_tgt_ok ht) (k r H locs ls st h)
  · cases hs
end YSV
