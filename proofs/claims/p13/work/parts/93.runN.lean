/-! a straight run over a growing world -/
noncomputable def ys_all2 {α : Type} (f : α → α → Bool) : List α → List α → Bool
  | [], [] => true
  | a :: t, b :: u => f a b && ys_all2 f t u
  | _, _ => false
theorem ys_all2_ok {α : Type} {f : α → α → Bool} (h : ∀ a b, f a b = true → a = b) : ∀ x y : List α, ys_all2 f x y = true → x = y
  | [], [], _ => rfl
  | a :: t, b :: u, hc => by
    unfold ys_all2 at hc
    rw [Bool.and_eq_true] at hc
    rw [h a b hc.1, ys_all2_ok h t u hc.2]
  | [], _ :: _, hc => by cases hc
  | _ :: _, [], hc => by cases hc
noncomputable def ys_vE (a b : ys_V) : Bool := decide (a = b)
noncomputable def ys_FE (a b : ys_F) : Bool := ys_all2 (ys_all2 ys_vE) a.1 b.1 && decide (a.2 = b.2)
theorem ys_FE_ok {a b : ys_F} (h : ys_FE a b = true) : a = b := by
  unfold ys_FE at h
  rw [Bool.and_eq_true] at h
  have h1 := ys_all2_ok (fun x y hxy => ys_all2_ok (fun _ _ z => of_decide_eq_true z) x y hxy) a.1 b.1 h.1
  have h2 := of_decide_eq_true h.2
  exact Prod.ext h1 h2
noncomputable def ys_lE (a b : Nat × ys_V) : Bool := decide (a.1 = b.1) && ys_vE a.2 b.2
theorem ys_lE_ok (a b : Nat × ys_V) (h : ys_lE a b = true) : a = b := by
  unfold ys_lE at h
  rw [Bool.and_eq_true] at h
  exact Prod.ext (of_decide_eq_true h.1) (of_decide_eq_true h.2)
noncomputable def ys_atk (a : ArrayType) : Nat := match a with
  | .int => 0
  | .long => 1
  | .byte => 2
  | .boolean => 3
  | _ => 9
abbrev ys_Y : Type := Nat × Nat × List ys_C × Nat × ys_F × List (Nat × ys_V) × List ys_V
abbrev ys_X : Type := (ys_FL × List (Nat × Int) × List (Nat × Int) × List Nat) × (List (Nat × (Nat × Nat)) × List (Nat × (Nat × List ys_V)) × List (Nat × Nat) × List ArrayType) × (List (Nat × Nat) × List Nat × List (Nat × (ys_KN × Option String)))
noncomputable def ys_shk (n : Nat) (sh : List ys_C) : Bool := sh.all (fun x => match x with
  | .inr a => decide (a.1 < n)
  | .inl _ => true)
/-- the frame of numbers: name, code, places, frames, places below, how many cells there may be -/
noncomputable def ys_K0 (y : MethodName) (cc : ByteArray) (nL fr lo N : Nat) : ys_K := (((y, cc, nL, none), (fr, lo)), ([], ([], []), ([], [])), ([], List.range N))
noncomputable def ys_icm (fr lo RC RS N kc kz : Nat) (sh : List ys_C) (fds : ys_F) (lv : List (Nat × ys_V)) (k0 : Nat) (sv : List ys_V) (idx : Nat) : List (Nat × (ys_KN × Option String)) → Option ys_KN
  | [] => none
  | q :: t => if q.1 = idx ∧ k0 = q.2.1.2.2.1 ∧ sh = q.2.1.2.2.2.1.1 ∧ ys_FE fds q.2.1.2.2.2.1.2 = true ∧ ys_z0 q.2.1.2.2.2.1.2.1 = true ∧ ys_z0 q.2.1.2.2.2.2.2.1 = true ∧ lv.all (fun q => ys_rfV sh.length q.2) = true ∧ sv.all (ys_rfV sh.length) = true ∧ (sv.map ys_cat).sum ≤ 8 ∧ q.2.1.2.1.1 + 1 ≤ fr ∧ 8 + (q.2.1.1.2.2 + 11) + q.2.1.2.1.2.1 ≤ lo ∧ kc + q.2.1.2.1.2.2.1 ≤ RC ∧ kz + q.2.1.2.1.2.2.2 ≤ RS ∧ q.2.1.2.2.2.2.1.length ≤ N then some q.2.1 else ys_icm fr lo RC RS N kc kz sh fds lv k0 sv idx t
noncomputable def ys_YE (a b : ys_Y) : Bool := decide (a.1 = b.1) && (decide (a.2.1 = b.2.1) && (decide (a.2.2.1 = b.2.2.1) && (decide (a.2.2.2.1 = b.2.2.2.1) && (ys_FE a.2.2.2.2.1 b.2.2.2.2.1 && (ys_all2 ys_lE a.2.2.2.2.2.1 b.2.2.2.2.2.1 && ys_all2 ys_vE a.2.2.2.2.2.2 b.2.2.2.2.2.2)))))
theorem ys_YE_ok {a b : ys_Y} (h : ys_YE a b = true) : a = b := by
  unfold ys_YE at h
  simp only [Bool.and_eq_true, decide_eq_true_eq] at h
  obtain ⟨h1, h2, h3, h4, h5, h6, h7⟩ := h
  exact Prod.ext h1 (Prod.ext h2 (Prod.ext h3 (Prod.ext h4 (Prod.ext (ys_FE_ok h5) (Prod.ext (ys_all2_ok ys_lE_ok _ _ h6) (ys_all2_ok (fun _ _ z => of_decide_eq_true z) _ _ h7))))))
noncomputable def ys_stN (X : ys_X) (y : MethodName) (cc : ByteArray) (nL fr lo RC RS N nt : Nat) (nx : Nat → Option (Instr × Nat)) (Y : ys_Y) (i : Instr) (len : Nat) : Option ys_Y := match Y with
  | (kc, kz, sh, pc, fds, lv, sv) => match i with
    | .new idx => (match X.2.1.2.1.lookup idx with
      | some (ci, row) => if len = 3 ∧ ys_rfS sh (([], []), fds, lv, sv) = true ∧ sh.length < N ∧ N ≤ 1000 ∧ kc + 1 ≤ RC ∧ kz + row.length ≤ RS then some (kc + 1, kz + row.length, sh ++ [.inl ci], pc + 3, (fds.1 ++ [row], fds.2 ++ [((0, 0), [])]), lv, .inr (some sh.length) :: sv) else none
      | none => none)
    | .newarray a => (match sv with
      | .inl (.inl ([], z)) :: t => if len = 2 ∧ 0 ≤ z ∧ z.toNat ≤ 100000 ∧ X.2.1.2.2.2.any (fun x => decide (x = a)) = true ∧ ys_atk a < 4 ∧ ys_rfS sh (([], []), fds, lv, .inl (.inl ([], ((z.toNat : Nat) : Int))) :: t) = true ∧ sh.length < N ∧ N ≤ 1000 ∧ kc + 1 ≤ RC ∧ kz + z.toNat ≤ RS then some (kc + 1, kz + z.toNat, sh ++ [.inr (ys_atk a, z.toNat, [])], pc + 2, (fds.1 ++ [[]], fds.2 ++ [((0, 0), [])]), lv, .inr (some sh.length) :: t) else none
      | _ => none)
    | .anewarray idx => (match sv, X.2.1.2.2.1.lookup idx with
      | .inl (.inl ([], z)) :: t, some kd => if len = 3 ∧ 0 ≤ z ∧ z.toNat ≤ 100000 ∧ ys_rfS sh (([], []), fds, lv, .inl (.inl ([], ((z.toNat : Nat) : Int))) :: t) = true ∧ sh.length < N ∧ N ≤ 1000 ∧ kc + 1 ≤ RC ∧ kz + z.toNat ≤ RS then some (kc + 1, kz + z.toNat, sh ++ [.inr (kd, z.toNat, [])], pc + 3, (fds.1 ++ [[]], fds.2 ++ [((0, 0), [])]), lv, .inr (some sh.length) :: t) else none
      | _, _ => none)
    | .aastore => (match sv with
      | .inr (some v) :: .inl (.inl ([], z)) :: .inr (some k0) :: t => (match sh[k0]?, sh[v]? with
        | some (.inr (kd, n, tg)), some (.inl ci) => if len = 1 ∧ z = ((tg.length : Nat) : Int) ∧ tg.length < n ∧ n ≤ 100000 ∧ X.2.2.1.contains (kd, ci) = true then some (kc, kz, sh.set k0 (.inr (kd, n, tg ++ [v])), pc + 1, fds, lv, t) else none
        | _, _ => none)
      | _ => none)
    | .invokespecial idx => (match sv with
      | .inr (some k0) :: t => if X.2.2.2.1.contains idx = true then (if len = 3 ∧ 1 ≤ fr ∧ (t.map ys_cat).sum + 12 ≤ lo then some (kc, kz, sh, pc + 3, fds, lv, t) else none) else (match ys_icm fr lo RC RS N kc kz sh fds lv k0 t idx X.2.2.2.2 with
        | some K => if len = 3 then some (kc + K.2.1.2.2.1, kz + K.2.1.2.2.2, K.2.2.2.2.1, pc + 3, K.2.2.2.2.2, lv, t) else none
        | none => none)
      | _ => none)
    | .putfield idx => (match X.2.1.1.lookup idx, sv with
      | some (ci, j), .inr (some v) :: .inr (some k0) :: t => if len = 3 ∧ sh[k0]? = some (.inl ci) ∧ j < (fds.1.getD k0 []).length then some (kc, kz, sh, pc + 3, (ys_fset fds.1 k0 j (.inr (some v)), fds.2), lv, t) else none
      | some _, _ => none
      | none, _ => (match ys_stp sh X.1.1 X.1.2.1 X.1.2.2.1 [] X.1.2.2.2 (ys_K0 y cc nL fr lo N) nx pc ([], []) fds lv sv (.putfield idx) len with
        | some [q] => if q.2.1 = ([], []) ∧ kc ≤ RC ∧ kz ≤ RS ∧ ys_shk nt sh = true then some (kc, kz, sh, q.1, q.2.2.1, q.2.2.2.1, q.2.2.2.2) else none
        | _ => none))
    | i => if ys_isr i = true then none else (match ys_stp sh X.1.1 X.1.2.1 X.1.2.2.1 [] X.1.2.2.2 (ys_K0 y cc nL fr lo N) nx pc ([], []) fds lv sv i len with
        | some [q] => if q.2.1 = ([], []) ∧ kc ≤ RC ∧ kz ≤ RS ∧ ys_shk nt sh = true then some (kc, kz, sh, q.1, q.2.2.1, q.2.2.2.1, q.2.2.2.2) else none
        | _ => none)
noncomputable def ys_runN (X : ys_X) (y : MethodName) (cc : ByteArray) (nL fr lo RC RS N nt n0 : Nat) (nx : Nat → Option (Instr × Nat)) (Tg : ys_Y) : Nat → ys_Y → Bool
  | 0, _ => false
  | f + 1, Y => if Y.2.2.2.1 = Tg.2.2.2.1 then ys_YE Y Tg else (match nx Y.2.2.2.1 with
    | some (i, len) => decide (n0 ≤ Y.2.2.1.length) && (match ys_stN X y cc nL fr lo RC RS N nt nx Y i len with
      | some Y' => ys_runN X y cc nL fr lo RC RS N nt n0 nx Tg f Y'
      | none => false)
    | none => false)
/-- the kinds of arrays -/
noncomputable def ys_TL (tyl : List FieldType) (tys : List (ClassId × FieldType)) (cT : Nat → ClassId) : Prop := (∀ (kd : Nat) (t : FieldType), tyl[kd]? = some t → tys[kd]? = some (cT kd, t)) ∧ tyl[0]? = some .int ∧ tyl[1]? = some .long ∧ tyl[2]? = some .byte ∧ tyl[3]? = some .boolean ∧ ∀ kd, 4 ≤ kd → kd < tyl.length → ∃ C, tyl[kd]? = some (.object C)
theorem ys_TL_ty {tyl : List FieldType} {tys : List (ClassId × FieldType)} {cT : Nat → ClassId} {sh : List ys_C} (h : ys_TL tyl tys cT) (hs : ys_shk tyl.length sh = true) : ys_Ty tys cT sh := by
  obtain ⟨h1, a0, a1, a2, a3, h2⟩ := h
  have key : ∀ (k : Nat) (y : Nat × Nat × List Nat), sh[k]? = some (.inr y) → y.1 < tyl.length := fun k y hy => of_decide_eq_true (List.all_eq_true.mp hs _ (List.mem_of_getElem? hy))
  refine ⟨h1 _ _ a0, h1 _ _ a1, h1 _ _ a2, h1 _ _ a3, fun k y hy => ⟨tyl[y.1]'(key k y hy), h1 _ _ (List.getElem?_eq_getElem _)⟩, fun k y hy h4 => ?_⟩
  obtain ⟨C, hC⟩ := h2 y.1 h4 (key k y hy)
  exact ⟨C, h1 _ _ hC⟩
section YNR
variable (l : Launch) (D : va_G) (cl : List vw_C) (cT : Nat → ClassId) (tys : List (ClassId × FieldType)) (G : List Cond) (NN : ys_NN) (AA : List String)
noncomputable def ys_LN (tyl : List FieldType) (own : String) (Ts : List Cond) (X : ys_X) : Prop := ys_Lk own Ts cl X.1.1 X.1.2.1 X.1.2.2.1 X.1.2.2.2 ∧ (∀ q ∈ X.2.1.1, ys_Ff own Ts cl q.1 q.2.1 q.2.2) ∧ (∀ q ∈ X.2.1.2.1, ys_Nl own Ts cl q.1 q.2.1 q.2.2) ∧ (∀ q ∈ X.2.1.2.2.1, 4 ≤ q.2 ∧ ∃ C, tyl[q.2]? = some (.object C) ∧ Cond.classLink own q.1 C ∈ Ts ∧ C ∈ AA) ∧ (∀ a ∈ X.2.1.2.2.2, Cond.arrayClass (newarray.typeOf a) ∈ Ts) ∧ (∀ q ∈ X.2.2.1, 4 ≤ q.1 ∧ ∃ (C : String) (T : u_T) (N : Nat), cl[q.2]? = some (C, T, N) ∧ tyl[q.1]? = some (.object C)) ∧ (∀ i ∈ X.2.2.2.1, Cond.methodLink own i objectInit ∈ Ts ∧ Cond.instanceMethod objectInit ∈ Ts ∧ Cond.code objectInit ⟨#[0xb1]⟩ 1 none ∈ Ts) ∧ ∀ q ∈ X.2.2.2.2, ys_ConN l D cl cT tys G NN AA q.2.1 ∧ ys_CLN G NN own Ts q.1 q.2.1 q.2.2
end YNR
section YNZ
variable {p : Program} {l : Launch} {e : Env} {R : Room} {s : State} {m : MethodId} {args : Array Value} {below : List Frame} {meth : Method} {c : Code} {Q : State → Prop} {kc kz : Nat} {D : va_G} {cl : List vw_C} {cT : Nat → ClassId} {sh : List ys_C} {A : Nat → Prop} {H0 : Heap} {nL : Nat} {g0 : Nat → Nat → Int} {r0 : Nat → Int} {E : Nat} {pc : Nat} {fds : ys_F} {lv : List (Nat × ys_V)} {sv : List ys_V} {cc : ByteArray} {own : String} {Ts : List Cond} {tys : List (ClassId × FieldType)}
variable {n0 : Nat} {ad0 : Nat → Nat} {G : List Cond} {NN : ys_NN} {AA : List String} {X : ys_X} {tyl : List FieldType} {fr lo RC RS N : Nat} {y : MethodName} {nx : Nat → Option (Instr × Nat)}
theorem ys_icm_ok {k0 idx : Nat} {K : ys_KN} : ∀ (x : List (Nat × (ys_KN × Option String))), ys_icm fr lo RC RS N kc kz sh fds lv k0 sv idx x = some K → ∃ prv, (idx, (K, prv)) ∈ x ∧ k0 = K.2.2.1 ∧ sh = K.2.2.2.1.1 ∧ fds = K.2.2.2.1.2 ∧ ys_z0 K.2.2.2.1.2.1 = true ∧ ys_z0 K.2.2.2.2.2.1 = true ∧ lv.all (fun q => ys_rfV sh.length q.2) = true ∧ sv.all (ys_rfV sh.length) = true ∧ (sv.map ys_cat).sum ≤ 8 ∧ K.2.1.1 + 1 ≤ fr ∧ 8 + (K.1.2.2 + 11) + K.2.1.2.1 ≤ lo ∧ kc + K.2.1.2.2.1 ≤ RC ∧ kz + K.2.1.2.2.2 ≤ RS ∧ K.2.2.2.2.1.length ≤ N
  | [], h => by cases h
  | q :: t, h => by
    unfold ys_icm at h
    split at h
    · rename_i hc
      cases Option.some.inj h
      obtain ⟨h1, h2, h3, h4, h5⟩ := hc
      refine ⟨q.2.2, ?_, h2, h3, ys_FE_ok h4, h5⟩
      rw [← h1]
      exact List.mem_cons_self
    · obtain ⟨prv, h1, h2⟩ := ys_icm_ok t h
      exact ⟨prv, List.mem_cons_of_mem _ h1, h2⟩
theorem ys_genN {i : Instr} {len : Nat} {Y' : ys_Y} (S : CallFix p m c cc nL s args Ts own) (hK : va_K D cl tys s) (hA0 : ∀ q, H0.size ≤ q → A q) (hTL : ys_TL tyl tys cT) (hLk : ys_Lk own Ts cl X.1.1 X.1.2.1 X.1.2.2.1 X.1.2.2.2) (hR : fr ≤ R.frames ∧ lo ≤ R.locals ∧ RC ≤ R.cells ∧ RS ≤ R.slots) (hnx : ∀ pc i, nx pc = some i → decode cc pc = .ok i) (hd : decode cc pc = .ok (i, len)) (hi : ys_isr i = false)
    (hs : (match ys_stp sh X.1.1 X.1.2.1 X.1.2.2.1 [] X.1.2.2.2 (ys_K0 y cc nL fr lo N) nx pc ([], []) fds lv sv i len with
        | some [q] => if q.2.1 = ([], []) ∧ kc ≤ RC ∧ kz ≤ RS ∧ ys_shk tyl.length sh = true then some (kc, kz, sh, q.1, q.2.2.1, q.2.2.2.1, q.2.2.2.2) else none
        | _ => none) = some Y') (k : ys_N p l e R s m args below meth c Q D cl cT A H0 nL (List.range N) g0 r0 E n0 ad0 Y'.1 Y'.2.1 Y'.2.2.1 Y'.2.2.2.1 (([], []), Y'.2.2.2.2)) : ys_N p l e R s m args below meth c Q D cl cT A H0 nL (List.range N) g0 r0 E n0 ad0 kc kz sh pc (([], []), fds, lv, sv) := by
  split at hs
  · rename_i q hq
    split at hs
    · rename_i hc
      cases Option.some.inj hs
      obtain ⟨c1, c2, c3, c4⟩ := hc
      intro ad had0
      refine ys_stp_gen (K := ys_K0 y cc nL fr lo N) (G := []) (calls := []) S rfl rfl hR.1 hR.2.1 ⟨Nat.le_trans c2 hR.2.2.1, Nat.le_trans c3 hR.2.2.2⟩ hA0 hK (ys_TL_ty hTL c4) hLk (fun q hq => by cases hq) hnx hd hq (fun h => by rw [hi] at h; cases h) fun q' hq' => ?_
      have e1 := List.mem_singleton.mp hq'
      subst e1
      have h9 := k ad had0
      have e2 : q'.2 = (([], []), q'.2.2) := by rw [← c1]
      rw [e2]
      exact h9
    · cases hs
  · cases hs
set_option maxHeartbeats 4000000 in
theorem ys_stN_ok {i : Instr} {len : Nat} {Y' : ys_Y} (S : CallFix p m c cc nL s args Ts own) (hin : meth.name = "<init>" ∨ X.2.1.1 = []) (hK : va_K D cl tys s) (hNW : ys_NW NN AA s) (hA0 : ∀ q, H0.size ≤ q → A q) (hTL : ys_TL tyl tys cT) (hLN : ys_LN l D cl cT tys G NN AA tyl own Ts X) (hR : fr ≤ R.frames ∧ lo ≤ R.locals ∧ RC ≤ R.cells ∧ RS ≤ R.slots) (hnx : ∀ pc i, nx pc = some i → decode cc pc = .ok i) (hd : decode cc pc = .ok (i, len)) (hn0 : n0 ≤ sh.length)
    (hs : ys_stN X y cc nL fr lo RC RS N tyl.length nx (kc, kz, sh, pc, fds, lv, sv) i len = some Y') (k : ys_N p l e R s m args below meth c Q D cl cT A H0 nL (List.range N) g0 r0 E n0 ad0 Y'.1 Y'.2.1 Y'.2.2.1 Y'.2.2.2.1 (([], []), Y'.2.2.2.2)) : ys_N p l e R s m args below meth c Q D cl cT A H0 nL (List.range N) g0 r0 E n0 ad0 kc kz sh pc (([], []), fds, lv, sv) := by
  have hexec := S.1
  have hb := S.2.1
  have hml := S.2.2.1
  have hown := S.2.2.2.1
  have hts := S.2.2.2.2
  obtain ⟨hLk, hff, hnw, hna, hat, hrk, hob, hic⟩ := hLN
  unfold ys_stN at hs
  dsimp only at hs
  split at hs
  · -- new
    split at hs
    · rename_i ci row hlk
      split at hs
      · rename_i hc
        cases Option.some.inj hs
        obtain ⟨e0, c1, c2, cN, c3, c4⟩ := hc
        subst e0
        exact ys_knew hexec hb hts hown hK hA0 (hnw _ (ys_lk3 _ _ _ hlk)) c1 (Nat.lt_of_lt_of_le c2 cN) hn0 (List.mem_range.mpr c2) (Nat.le_trans c3 hR.2.2.1) (Nat.le_trans c4 hR.2.2.2) hd k
      · cases hs
    · cases hs
  · -- newarray
    rename_i a
    split at hs
    · rename_i z t
      split at hs
      · rename_i hc
        cases Option.some.inj hs
        obtain ⟨e0, c1, c2, c3, c4, c5, c6, cN, c7, c8⟩ := hc
        subst e0
        have hz : z = ((z.toNat : Nat) : Int) := (Int.toNat_of_nonneg c1).symm
        generalize z.toNat = n at hz c2 c5 c8 k
        subst hz
        have harr := hts _ (hat a (by
          obtain ⟨x, hx, hxa⟩ := List.any_eq_true.mp c3
          rw [← of_decide_eq_true hxa]
          exact hx))
        obtain ⟨t1, a0, a1, a2, a3, -⟩ := hTL
        cases a with
        | int => exact ys_knewa (ty := .int) (kd := 0) (a0 := (n, .inl fun _ => 0)) hexec hb harr rfl hK hA0 (t1 _ _ a0) (fun _ h => h) (fun _ => rfl) (fun _ => rfl) c2 (by show n * 4 ≤ _; omega) c5 (Nat.lt_of_lt_of_le c6 cN) hn0 (List.mem_range.mpr c6) (Nat.le_trans c7 hR.2.2.1) (Nat.le_trans c8 hR.2.2.2) hd k
        | long => exact ys_knewa (ty := .long) (kd := 1) (a0 := (n, .inr (.inl fun _ => 0))) hexec hb harr rfl hK hA0 (t1 _ _ a1) (fun _ h => h) (fun _ => rfl) (fun _ => rfl) c2 (by show n * 8 ≤ _; omega) c5 (Nat.lt_of_lt_of_le c6 cN) hn0 (List.mem_range.mpr c6) (Nat.le_trans c7 hR.2.2.1) (Nat.le_trans c8 hR.2.2.2) hd k
        | byte => exact ys_knewa (ty := .byte) (kd := 2) (a0 := (n, .inl fun _ => 0)) hexec hb harr rfl hK hA0 (t1 _ _ a2) (fun _ h => h) (fun _ => rfl) (fun _ => rfl) c2 (by show n * 1 ≤ _; omega) c5 (Nat.lt_of_lt_of_le c6 cN) hn0 (List.mem_range.mpr c6) (Nat.le_trans c7 hR.2.2.1) (Nat.le_trans c8 hR.2.2.2) hd k
        | boolean => exact ys_knewa (ty := .boolean) (kd := 3) (a0 := (n, .inl fun _ => 0)) hexec hb harr rfl hK hA0 (t1 _ _ a3) (fun _ h => h) (fun _ => rfl) (fun _ => rfl) c2 (by show n * 1 ≤ _; omega) c5 (Nat.lt_of_lt_of_le c6 cN) hn0 (List.mem_range.mpr c6) (Nat.le_trans c7 hR.2.2.1) (Nat.le_trans c8 hR.2.2.2) hd k
        | _ => exact absurd c4 (by decide)
      · cases hs
    · cases hs
  · -- anewarray
    split at hs
    · rename_i z t kd hlk
      split at hs
      · rename_i hc
        cases Option.some.inj hs
        obtain ⟨e0, c1, c2, c5, c6, cN, c7, c8⟩ := hc
        subst e0
        have hz : z = ((z.toNat : Nat) : Int) := (Int.toNat_of_nonneg c1).symm
        generalize z.toNat = n at hz c2 c5 c8 k
        subst hz
        obtain ⟨h4, C, g1, g2, g3⟩ := hna _ (ys_lk3 _ _ _ hlk)
        exact ys_knewq hexec hb hts hown g2 (hNW.2 C g3) hK hA0 h4 (hTL.1 _ _ g1) c2 c5 (Nat.lt_of_lt_of_le c6 cN) hn0 (List.mem_range.mpr c6) (Nat.le_trans c7 hR.2.2.1) (Nat.le_trans c8 hR.2.2.2) hd k
      · cases hs
    · cases hs
  · -- aastore
    split at hs
    · rename_i v z k0 t
      split at hs
      · rename_i kd n tg ci hk0 hv
        split at hs
        · rename_i hc
          cases Option.some.inj hs
          obtain ⟨e0, c1, c2, c3, c4⟩ := hc
          subst e0
          subst c1
          obtain ⟨h4, C, T, N', g1, g2⟩ := hrk (kd, ci) (by simpa using c4)
          exact ys_kaast hexec hb hK hk0 h4 hv g1 (hTL.1 _ _ g2) c2 c3 hd k
        · cases hs
      · cases hs
    · cases hs
  · -- invokespecial
    split at hs
    · rename_i k0 t
      split at hs
      · rename_i hcon
        split at hs
        · rename_i hc
          cases Option.some.inj hs
          obtain ⟨e0, c1, c2⟩ := hc
          subst e0
          obtain ⟨g1, g2, g3⟩ := hob _ (by simpa using hcon)
          exact ys_kobj hexec hb hml hts hown g1 g2 g3 (Nat.le_trans c1 hR.1) (Nat.le_trans c2 hR.2.1) hd k
        · cases hs
      · split at hs
        · rename_i K hK2
          split at hs
          · rename_i e0
            cases Option.some.inj hs
            subst e0
            obtain ⟨prv, h1, h2, h3, h4, h5, h6, h7, h8, h9, h10, h11, h12, h13, h14⟩ := ys_icm_ok _ hK2
            subst h2
            subst h3
            subst h4
            obtain ⟨g1, g2⟩ := hic _ h1
            exact ys_kini S hK hNW hA0 g1 g2 hn0 (fun kk hkk => List.mem_range.mpr (Nat.lt_of_lt_of_le hkk h14)) h5 h6 h7 h8 h9 ⟨Nat.le_trans h10 hR.1, Nat.le_trans h11 hR.2.1⟩ ⟨Nat.le_trans h12 hR.2.2.1, Nat.le_trans h13 hR.2.2.2⟩ hd k
          · cases hs
        · cases hs
    · cases hs
  · -- putfield
    split at hs
    · rename_i ci j v k0 t hlk
      split at hs
      · rename_i hc
        cases Option.some.inj hs
        obtain ⟨e0, c1, c2⟩ := hc
        subst e0
        have hmem := ys_lk3 _ _ _ hlk
        rcases hin with hin | hin
        · exact ys_kputF hexec hb hts hown hK hin (hff _ hmem) c1 c2 hd k
        · rw [hin] at hmem
          cases hmem
      · cases hs
    · cases hs
    · exact ys_genN S hK hA0 hTL hLk hR hnx hd rfl hs k
  · -- others
    split at hs
    · cases hs
    · rename_i hi
      exact ys_genN S hK hA0 hTL hLk hR hnx hd (by simpa using hi) hs k
theorem ys_runN_ok {Tg : ys_Y} (S : CallFix p m c cc nL s args Ts own) (hin : meth.name = "<init>" ∨ X.2.1.1 = []) (hK : va_K D cl tys s) (hNW : ys_NW NN AA s) (hA0 : ∀ q, H0.size ≤ q → A q) (hTL : ys_TL tyl tys cT) (hLN : ys_LN l D cl cT tys G NN AA tyl own Ts X) (hR : fr ≤ R.frames ∧ lo ≤ R.locals ∧ RC ≤ R.cells ∧ RS ≤ R.slots) (hnx : ∀ pc i, nx pc = some i → decode cc pc = .ok i)
    (k : ys_N p l e R s m args below meth c Q D cl cT A H0 nL (List.range N) g0 r0 E n0 ad0 Tg.1 Tg.2.1 Tg.2.2.1 Tg.2.2.2.1 (([], []), Tg.2.2.2.2)) : ∀ (f : Nat) (Y : ys_Y), ys_runN X y cc nL fr lo RC RS N tyl.length n0 nx Tg f Y = true → ys_N p l e R s m args below meth c Q D cl cT A H0 nL (List.range N) g0 r0 E n0 ad0 Y.1 Y.2.1 Y.2.2.1 Y.2.2.2.1 (([], []), Y.2.2.2.2)
  | 0, Y, h => by cases h
  | f + 1, Y, h => by
    unfold ys_runN at h
    split at h
    · rw [ys_YE_ok h]
      exact k
    · split at h
      · rename_i i len hx
        rw [Bool.and_eq_true] at h
        split at h
        · rename_i Y' hY
          exact ys_stN_ok (kc := Y.1) (kz := Y.2.1) (sh := Y.2.2.1) (pc := Y.2.2.2.1) (fds := Y.2.2.2.2.1) (lv := Y.2.2.2.2.2.1) (sv := Y.2.2.2.2.2.2) S hin hK hNW hA0 hTL hLN hR hnx (hnx _ _ hx) (of_decide_eq_true h.1) hY (ys_runN_ok S hin hK hNW hA0 hTL hLN hR hnx k f Y' h.2)
        · cases h.2
      · cases h
end YNZ
/-- a constructor, from its code -/
noncomputable def ys_chkN (X : ys_X) (K : ys_KN) (code : List (Nat × (Instr × Nat))) (pcR : Nat) (lvR : List (Nat × ys_V)) (nt f : Nat) : Bool := decide (code.lookup pcR = some (.return_, 1)) && (decide (1 ≤ K.1.2.2) && (ys_z0 K.2.2.2.1.2.1 && (ys_z0 K.2.2.2.2.2.1 && ys_runN X K.1.1 K.1.2.1 K.1.2.2 K.2.1.1 K.2.1.2.1 K.2.1.2.2.1 K.2.1.2.2.2 K.2.2.2.2.1.length nt K.2.2.2.1.1.length (fun pc => code.lookup pc) (K.2.1.2.2.1, K.2.1.2.2.2, K.2.2.2.2.1, pcR, K.2.2.2.2.2, lvR, []) f (0, 0, K.2.2.2.1.1, 0, K.2.2.2.1.2, [(0, .inr (some K.2.2.1))], []))))
theorem ys_ctor {l : Launch} {D : va_G} {cl : List vw_C} {cT : Nat → ClassId} {tys : List (ClassId × FieldType)} {G : List Cond} {NN : ys_NN} {AA : List String} {tyl : List FieldType} {X : ys_X} {K : ys_KN} {code : List (Nat × (Instr × Nat))} {pcR : Nat} {lvR : List (Nat × ys_V)} (f : Nat) (hy : plainName K.1.1.cls = true) (hin : K.1.1.name = "<init>") (hcode : ∀ q ∈ code, decode K.1.2.1 q.1 = .ok q.2) (hTL : ys_TL tyl tys cT) (hLN : ys_LN l D cl cT tys G NN AA tyl K.1.1.cls (ys_wsN G K) X) (hchk : ys_chkN X K code pcR lvR tyl.length f = true) : ys_ConN l D cl cT tys G NN AA K := by
  intro ad g0 sz har
  unfold ys_chkN at hchk
  rw [Bool.and_eq_true, Bool.and_eq_true, Bool.and_eq_true, Bool.and_eq_true, decide_eq_true_eq, decide_eq_true_eq] at hchk
  obtain ⟨c1, c2, c3, c4, c5⟩ := hchk
  refine Met.ofW (cc := K.1.2.1) (maxL := K.1.2.2) (ret := none) hy rfl ?_
  intro p e s m args below meth c s₁ Bd hml hv
  obtain ⟨hargs, hsz, hP, hK, hD0, hNW⟩ := hv
  subst hargs
  subst hsz
  have hlocks := Bd.notSynchronized
  have hnm : meth.name = "<init>" := (name_of_methodNamed Bd.named Bd.method).1.trans hin
  have S : CallFix p m c K.1.2.1 K.1.2.2 s ([Value.ref (ad K.2.2.1)] : List Value).toArray (ys_wsN G K) K.1.1.cls := ⟨Bd.exec, Bd.bytes, hml, findClass_of_methodNamed Bd.named, atoms_spec (ws := ys_wsN G K) Bd.pre⟩
  have hnx : ∀ pc i, (fun pc => code.lookup pc) pc = some i → decode K.1.2.1 pc = .ok i := fun pc i hi => hcode (pc, i) (ys_lk3 _ _ _ hi)
  have hfin : ys_N p l e (ys_rmN K) s m ([Value.ref (ad K.2.2.1)] : List Value).toArray below meth c (MQ below (ys_PostN D cl cT K ad g0 s.heap.size) ([Value.ref (ad K.2.2.1)] : List Value).toArray s K.2.1.2.2.1 K.2.1.2.2.2 (va_A (ys_wI cT K ad g0) s.heap.size)) D cl cT (va_A (ys_wI cT K ad g0) s.heap.size) s.heap K.1.2.2 (List.range K.2.2.2.2.1.length) g0 (fun _ => 0) 0 K.2.2.2.1.1.length ad K.2.1.2.2.1 K.2.1.2.2.2 K.2.2.2.2.1 pcR (([], []), K.2.2.2.2.2, lvR, []) := by
    intro ad' had r H locs ls st h
    obtain ⟨g, hg, hP', hD', hS⟩ := h.2.2.2.1
    have hst : st = [] := h.2.2.2.2.2
    rw [hst]
    refine W.vret S.1 S.2.1 Bd.returns (fun t ht hW => ⟨⟨rfl, ad', g, had, hg.1, fun k hk => hg.2 k (fun hm => absurd (List.mem_range.mp hm) (Nat.not_lt.mpr hk)), ?_, ?_⟩, ?_⟩) hS.2.2 (hnx _ _ c1) hlocks
    · rw [ht, ← ys_wld0 c4 r (fun _ => 0)]
      exact hP'
    · rw [← ys_wld0 c4 r (fun _ => 0)]
      exact hD'
    · refine ⟨?_, ?_⟩
      · rw [ht]
        exact hS.1
      · intro q h1 h2
        rw [ht]
        exact hS.2.1 q h1 h2
  have hrun := ys_runN_ok (N := K.2.2.2.2.1.length) (RC := K.2.1.2.2.1) (RS := K.2.1.2.2.2) (fr := K.2.1.1) (lo := K.2.1.2.1) (y := K.1.1) S (Or.inl hnm) hK hNW (fun q h => Or.inr h) hTL hLN ⟨Nat.le_refl _, Nat.le_refl _, Nat.le_refl _, Nat.le_refl _⟩ hnx hfin f _ c5
  rw [lg_entry_eq]
  have hl := lv_entry [Value.ref (ad K.2.2.1)] (n := K.1.2.2) (by show 1 ≤ _; exact c2)
  have hlvs : ∀ q ∈ ([(0, .inr (some K.2.2.1))] : List (Nat × ys_V)), ys_stV 0 q.2 := by
    intro q hq
    rw [List.mem_singleton.mp hq]
    exact trivial
  have hok : ys_okB (fun _ => 0) (([], []) : ys_B) := ⟨fun j q hj => (by cases hj), fun q hq => (by cases hq)⟩
  have hsc : ys_sc ((([], []), K.2.2.2.1.2, [(0, .inr (some K.2.2.1))], []) : ys_S) := ⟨fun q hq => (by cases hq), ys_z0_st c3 _, hlvs, fun q hq => (by cases hq)⟩
  exact hrun ad (fun _ _ => rfl) (fun _ => 0) s.heap [] _ [] ⟨hok, hsc, ⟨Nat.le_refl _, fun _ _ => rfl⟩, ⟨g0, ⟨har, fun _ _ => rfl⟩, hP, hD0.self, va_S.rf⟩, hl, rfl⟩
