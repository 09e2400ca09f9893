/-! making objects and arrays: the world grows -/
noncomputable def ys_rfV (n : Nat) (v : ys_V) : Bool := match v with
  | .inr (some k) => decide (k < n) || decide (1000 ≤ k)
  | _ => true
noncomputable def ys_rfS (sh : List ys_C) (S : ys_S) : Bool := decide (S.2.1.1.length = sh.length) && (decide (S.2.1.2.length = sh.length) && (S.2.1.1.all (fun w => w.all (ys_rfV sh.length)) && (S.2.2.1.all (fun q => ys_rfV sh.length q.2) && (S.2.2.2.all (ys_rfV sh.length) && sh.all (fun x => match x with
  | .inr a => a.2.2.all (fun k => decide (k < sh.length))
  | .inl _ => true)))))
theorem ys_den_ad {ad ad' : Nat → Nat} {n : Nat} (h : ∀ i, (i < n ∨ 1000 ≤ i) → ad' i = ad i) (r : Nat → Int) {v : ys_V} (hv : ys_rfV n v = true) : ys_den ad' r v = ys_den ad r v := by
  rcases v with (x | x) | (_ | k)
  · rfl
  · rfl
  · rfl
  · show Value.ref (ad' k) = Value.ref (ad k)
    have hv : (decide (k < n) || decide (1000 ≤ k)) = true := hv
    rw [Bool.or_eq_true, decide_eq_true_eq, decide_eq_true_eq] at hv
    rw [h k hv]
theorem ys_con_ad {ad ad' : Nat → Nat} {n : Nat} (h : ∀ i, (i < n ∨ 1000 ≤ i) → ad' i = ad i) {g : Nat → Int} {a : Nat × Nat × List Nat} (ha : (a.2.2.all (fun k => decide (k < n))) = true) : ys_con ad' g a = ys_con ad g a := by
  unfold ys_con
  have e : (fun j : Nat => (a.2.2[j]?).map ad') = fun j : Nat => (a.2.2[j]?).map ad := by
    funext j
    cases hc : a.2.2[j]? with
    | none => rfl
    | some k =>
      show some (ad' k) = some (ad k)
      rw [h k (Or.inl (of_decide_eq_true (List.all_eq_true.mp ha k (List.mem_of_getElem? hc))))]
  rw [e]
theorem ys_wld_ext {ad ad' : Nat → Nat} {cT : Nat → ClassId} {sh : List ys_C} {r : Nat → Int} {g g' : Nat → Nat → Int} {F : List (List ys_V)} {c : ys_C} {row : List ys_V} (had : ∀ i, (i < sh.length ∨ 1000 ≤ i) → ad' i = ad i) (hg : ∀ i, i < sh.length → g' i = g i) (hF : F.length = sh.length) (h1 : F.all (fun w => w.all (ys_rfV sh.length)) = true) (h2 : sh.all (fun x => match x with
  | .inr a => a.2.2.all (fun k => decide (k < sh.length))
  | .inl _ => true) = true) : ys_wld ad' cT (sh ++ [c]) r g' (F ++ [row]) = ys_wld ad cT sh r g F ++ [ys_cel ad' cT r g' sh.length c row] := by
  apply List.ext_getElem?
  intro j
  by_cases hj : j < sh.length
  · have hc : (sh ++ [c])[j]? = some sh[j] := by rw [List.getElem?_append_left hj, List.getElem?_eq_getElem hj]
    have hc2 : sh[j]? = some sh[j] := List.getElem?_eq_getElem hj
    rw [ys_wld_get hc, List.getElem?_append_left (by rw [ys_wld_len]; exact hj), ys_wld_get hc2]
    have hrow : (F ++ [row]).getD j [] = F.getD j [] := by
      rw [List.getD_eq_getElem?_getD, List.getD_eq_getElem?_getD, List.getElem?_append_left (by omega)]
    rw [hrow]
    congr 1
    unfold ys_cel
    rw [had j (Or.inl hj), hg j hj]
    have hmem := List.all_eq_true.mp h2 sh[j] (List.getElem_mem hj)
    cases hs : sh[j] with
    | inl ci =>
      have e : (F.getD j []).map (ys_den ad' r) = (F.getD j []).map (ys_den ad r) := by
        apply List.map_congr_left
        intro v hv
        refine ys_den_ad had r ?_
        rw [List.getD_eq_getElem?_getD, List.getElem?_eq_getElem (by omega)] at hv
        exact List.all_eq_true.mp (List.all_eq_true.mp h1 _ (List.getElem_mem (by omega : j < F.length))) v hv
      show (ad j, Sum.inr (ci, _)) = (ad j, Sum.inr (ci, _))
      rw [e]
    | inr a =>
      rw [hs] at hmem
      show (ad j, Sum.inl (cT a.1, ys_con ad' (g j) a)) = (ad j, Sum.inl (cT a.1, ys_con ad (g j) a))
      rw [ys_con_ad had hmem]
  · by_cases hj2 : j = sh.length
    · subst hj2
      have hc : (sh ++ [c])[sh.length]? = some c := by rw [List.getElem?_append_right (Nat.le_refl _), Nat.sub_self]; rfl
      rw [ys_wld_get hc, List.getElem?_append_right (by rw [ys_wld_len]; exact Nat.le_refl _), ys_wld_len, Nat.sub_self]
      have hrow : (F ++ [row]).getD sh.length [] = row := by
        rw [List.getD_eq_getElem?_getD, List.getElem?_append_right (by omega), hF, Nat.sub_self]
        rfl
      rw [hrow]
      rfl
    · rw [List.getElem?_eq_none (by rw [ys_wld_len, List.length_append]; simp; omega), List.getElem?_eq_none (by rw [List.length_append, ys_wld_len]; simp; omega)]
section YSO
variable (p : Program) (l : Launch) (e : Env) (R : Room) (s : State) (m : MethodId) (args : Array Value) (below : List Frame) (meth : Method) (c : Code) (Q : State → Prop) (D : va_G) (cl : List vw_C) (cT : Nat → ClassId) (A : Nat → Prop) (H0 : Heap) (nL : Nat) (mods : List Nat) (g0 : Nat → Nat → Int) (r0 : Nat → Int) (E : Nat) (n0 : Nat) (ad0 : Nat → Nat)
noncomputable def ys_N (kc kz : Nat) (sh : List ys_C) (pc : Nat) (S : ys_S) : Prop := ∀ ad : Nat → Nat, (∀ i, (i < n0 ∨ 1000 ≤ i) → ad i = ad0 i) → ys_W p l e R s m args below meth c Q kc kz D cl ad cT sh A H0 nL mods g0 r0 E pc S
end YSO
section YSX
variable {p : Program} {l : Launch} {e : Env} {R : Room} {s : State} {m : MethodId} {args : Array Value} {below : List Frame} {meth : Method} {c : Code} {Q : State → Prop} {kc kz : Nat} {D : va_G} {cl : List vw_C} {cT : Nat → ClassId} {sh : List ys_C} {A : Nat → Prop} {H0 : Heap} {nL : Nat} {mods : List Nat} {g0 : Nat → Nat → Int} {r0 : Nat → Int} {E : Nat} {pc : Nat} {b : ys_B} {fds : ys_F} {lv : List (Nat × ys_V)} {sv : List ys_V} {succ : List (Nat × ys_S)} {cc : ByteArray} {own : String} {Ts : List Cond} {tys : List (ClassId × FieldType)}
variable {n0 : Nat} {ad0 : Nat → Nat}
/-- a state, with one cell more -/
theorem ys_rep_more {ad ad' : Nat → Nat} {r : Nat → Int} {H H1 : Heap} {locs : List Loc} {ls : Array Slot} {st : List Value} {x : ys_C} {row : List ys_V} {ar : ys_R} {g g' : Nat → Nat → Int} (h : ys_rep D cl ad cT sh A H0 nL mods g0 r0 r E (b, fds, lv, sv) H locs ls st) (hrf : ys_rfS sh (b, fds, lv, sv) = true) (hg : ys_gok mods fds.2 g0 g) (had : ∀ i, (i < sh.length ∨ 1000 ≤ i) → ad' i = ad i) (hgg : ∀ i, i < sh.length → g' i = g i) (hmods : ∀ k, k ∉ mods → g' k = g0 k) (har : ys_rok ar (g' sh.length)) (hrow : ∀ v ∈ row, ys_stV b.1.length v) (hP : va_P D cl (ys_wld ad cT sh r g fds.1 ++ [ys_cel ad' cT r g' sh.length x row]) H1) (hD : va_D A (ys_wld ad cT sh r g fds.1 ++ [ys_cel ad' cT r g' sh.length x row])) (hS : va_S A H0 H1 locs) : ys_rep D cl ad' cT (sh ++ [x]) A H0 nL mods g0 r0 r E (b, (fds.1 ++ [row], fds.2 ++ [ar]), lv, sv) H1 locs ls st := by
  unfold ys_rfS at hrf
  simp only [Bool.and_eq_true, decide_eq_true_eq] at hrf
  obtain ⟨f1, f2, f3, f4, f5, f6⟩ := hrf
  obtain ⟨h1, ⟨s0, s1, s2, s3⟩, h2, -, h4, h5⟩ := h
  have ew := ys_wld_ext (cT := cT) (r := r) (c := x) (row := row) had hgg f1 f3 f6
  refine ⟨h1, ⟨s0, fun w hw v hv => ?_, s2, s3⟩, h2, ⟨g', ⟨fun k a hk => ?_, hmods⟩, ?_, ?_, hS⟩, ?_, ?_⟩
  · rcases List.mem_append.mp hw with q | q
    · exact s1 w q v hv
    · rw [List.mem_singleton.mp q] at hv
      exact hrow v hv
  · have hk : (fds.2 ++ [ar])[k]? = some a := hk
    by_cases hl : k < sh.length
    · rw [List.getElem?_append_left (by omega)] at hk
      rw [hgg k hl]
      exact hg.1 k a hk
    · rw [List.getElem?_append_right (by omega)] at hk
      have hz : k - fds.2.length < 1 := (List.getElem?_eq_some_iff.mp hk).1
      have hkk : k = sh.length := by omega
      rw [show k - fds.2.length = 0 by omega] at hk
      cases hk
      rw [hkk]
      exact har
  · show va_P D cl (ys_wld ad' cT (sh ++ [x]) r g' (fds.1 ++ [row])) H1
    rw [ew]
    exact hP
  · show va_D A (ys_wld ad' cT (sh ++ [x]) r g' (fds.1 ++ [row]))
    rw [ew]
    exact hD
  · have e4 : ys_lvs ad' r lv = ys_lvs ad r lv := List.map_congr_left fun q hq => by rw [ys_den_ad had r (List.all_eq_true.mp f4 q hq)]
    show lv_has ls nL (ys_lvs ad' r lv)
    rw [e4]
    exact h4
  · rw [h5]
    exact (List.map_congr_left fun v hv => ys_den_ad had r (List.all_eq_true.mp f5 v hv)).symm
noncomputable def ys_dv (t : FieldType) : ys_V := match t with
  | .long => .inl (.inr ([], 0))
  | .object _ => .inr none
  | .array _ => .inr none
  | _ => .inl (.inl ([], 0))
noncomputable def ys_dvo (t : FieldType) : Bool := match t with
  | .float => false
  | .double => false
  | _ => true
theorem ys_dv_ok {ad : Nat → Nat} {r : Nat → Int} {t : FieldType} (h : ys_dvo t = true) : defaultValue t = ys_den ad r (ys_dv t) := by
  cases t <;> first | rfl | cases h
theorem ys_dv_st {n : Nat} (t : FieldType) : ys_stV n (ys_dv t) := by
  cases t <;> first | trivial | exact ys_stb_cst 0
/-- what is known of a kind of objects that a link names -/
noncomputable def ys_Nl (own : String) (Ts : List Cond) (cl : List vw_C) (idx ci : Nat) (row : List ys_V) : Prop := ∃ (C : String) (T : u_T) (ty0 : Nat → FieldType), cl[ci]? = some (C, T, row.length) ∧ (∀ w ∈ u_ws C T row.length, w ∈ Ts) ∧ (∀ k, k < row.length → parseFieldDescriptor (T k).2.2.1 = some (ty0 k)) ∧ Cond.classLink own idx C ∈ Ts ∧ Cond.instantiable C row.length ∈ Ts ∧ Cond.initialized C ∈ Ts ∧ (∀ j, j < row.length → ys_dvo (ty0 j) = true ∧ row[j]? = some (ys_dv (ty0 j)))
theorem ys_knew {idx ci : Nat} {row : List ys_V} (hexec : p.tables.exec = Jvm.exec) (hb : c.code = cc) (hts : ∀ w ∈ Ts, w.before args s = true) (hown : s.vm.findClass own = some m.cls) (hK : va_K D cl tys s) (hA0 : ∀ q, H0.size ≤ q → A q) (hnl : ys_Nl own Ts cl idx ci row) (hrf : ys_rfS sh (b, fds, lv, sv) = true) (hN1 : sh.length < 1000) (hn0 : n0 ≤ sh.length) (hmods : sh.length ∈ mods) (hkc : kc + 1 ≤ R.cells) (hkz : kz + row.length ≤ R.slots) (hd : decode cc pc = .ok (.new idx, 3)) (k : ys_N p l e R s m args below meth c Q D cl cT A H0 nL mods g0 r0 E n0 ad0 (kc + 1) (kz + row.length) (sh ++ [.inl ci]) (pc + 3) (b, (fds.1 ++ [row], fds.2 ++ [((0, 0), [])]), lv, .inr (some sh.length) :: sv)) : ys_N p l e R s m args below meth c Q D cl cT A H0 nL mods g0 r0 E n0 ad0 kc kz sh pc (b, fds, lv, sv) := by
  intro ad had0 r H locs ls st h
  obtain ⟨C, T, ty0, h1, h2, h3, h4, h5, h6, h7⟩ := hnl
  obtain ⟨g, hg, hP, hD, hS⟩ := h.2.2.2.1
  have hfs : ∀ j, j < row.length → defaultValue (ty0 j) = vp_V (row.map (ys_den ad r)) j := by
    intro j hj
    obtain ⟨a1, a2⟩ := h7 j hj
    unfold vp_V
    rw [List.getD_eq_getElem?_getD, List.getElem?_map, a2]
    exact ys_dv_ok a1
  refine va_new (cl := cl) hexec hb hts h2 ty0 h3 hown (hts _ h4) (hts _ h5) (hts _ h6) hK hP hD hS hA0 h1 hfs hkc hkz hd fun q H1 hP1 hD1 hS1 => ?_
  obtain ⟨ad', had'⟩ : ∃ ad' : Nat → Nat, ad' = fun i => if i = sh.length then q else ad i := ⟨_, rfl⟩
  have hadl : ∀ i, (i < sh.length ∨ 1000 ≤ i) → ad' i = ad i := fun i hi => by rw [had']; exact if_neg (by omega)
  have hadn : ad' sh.length = q := by rw [had']; exact if_pos rfl
  obtain ⟨g', hg'⟩ : ∃ g' : Nat → Nat → Int, g' = fun i => if i = sh.length then (fun _ => 0) else g i := ⟨_, rfl⟩
  have hgl : ∀ i, i < sh.length → g' i = g i := fun i hi => by rw [hg']; exact if_neg (Nat.ne_of_lt hi)
  have hgn : g' sh.length = fun _ => 0 := by rw [hg']; exact if_pos rfl
  have hrst : ∀ v ∈ row, ys_stV b.1.length v := by
    intro v hv
    obtain ⟨j, hj⟩ := List.getElem?_of_mem hv
    have hjl := (List.getElem?_eq_some_iff.mp hj).1
    rw [(h7 j hjl).2] at hj
    cases hj
    exact ys_dv_st _
  have hrowad : row.map (ys_den ad' r) = row.map (ys_den ad r) := by
    apply List.map_congr_left
    intro v hv
    obtain ⟨j, hj⟩ := List.getElem?_of_mem hv
    have hjl := (List.getElem?_eq_some_iff.mp hj).1
    rw [(h7 j hjl).2] at hj
    cases hj
    generalize ty0 j = tt
    cases tt <;> rfl
  have ec : ys_cel ad' cT r g' sh.length (.inl ci) row = (q, .inr (ci, row.map (ys_den ad r))) := by
    show (ad' sh.length, Sum.inr (ci, row.map (ys_den ad' r))) = _
    rw [hadn, hrowad]
  have hrep := ys_rep_more (ad' := ad') (x := .inl ci) (row := row) (ar := ((0, 0), [])) h hrf hg hadl hgl (fun kk hk => by
    rw [hg']
    show (if kk = sh.length then _ else g kk) = _
    rw [if_neg (fun e1 : kk = sh.length => hk (by rw [e1]; exact hmods))]
    exact hg.2 kk hk) (by
      rw [hgn]
      intro j
      exact ⟨Int.le_refl 0, Int.le_refl 0⟩) hrst (by rw [ec]; exact hP1) (by rw [ec]; exact hD1) hS1
  have h9 := k ad' (fun i hi => (hadl i (by omega)).trans (had0 i hi)) r H1 locs ls _ (ys_rep_push hrep (.inr (some sh.length)) trivial)
  have e9 : ys_den ad' r (.inr (some sh.length)) = .ref q := by
    show Value.ref (ad' sh.length) = _
    rw [hadn]
  rw [e9] at h9
  exact h9
/-- an array of numbers -/
theorem ys_knewa {aty : ArrayType} {ty : FieldType} {kd n : Nat} {a0 : vp_A} (hexec : p.tables.exec = Jvm.exec) (hb : c.code = cc) (harr : (Cond.arrayClass (newarray.typeOf aty)).before args s = true) (hty : newarray.typeOf aty = ty) (hK : va_K D cl tys s) (hA0 : ∀ q, H0.size ≤ q → A q) (htys : tys[kd]? = some (cT kd, ty)) (hra : ∀ x : ClassId, va_RA s x ty → s.vm.findClass ("[" ++ ty.toString) = some x) (ha : ∀ x : ClassId, vp_cell x a0 = arrV x n (fun _ => defaultValue ty)) (hcon : ∀ ad : Nat → Nat, ys_con ad (fun _ => 0) (kd, n, []) = a0) (hn : n ≤ 100000) (hby : n * componentBytes ty ≤ 536870912) (hrf : ys_rfS sh (b, fds, lv, .inl (.inl ([], (n : Int))) :: sv) = true) (hN1 : sh.length < 1000) (hn0 : n0 ≤ sh.length) (hmods : sh.length ∈ mods) (hkc : kc + 1 ≤ R.cells) (hkz : kz + n ≤ R.slots) (hd : decode cc pc = .ok (.newarray aty, 2)) (k : ys_N p l e R s m args below meth c Q D cl cT A H0 nL mods g0 r0 E n0 ad0 (kc + 1) (kz + n) (sh ++ [.inr (kd, n, [])]) (pc + 2) (b, (fds.1 ++ [[]], fds.2 ++ [((0, 0), [])]), lv, .inr (some sh.length) :: sv)) : ys_N p l e R s m args below meth c Q D cl cT A H0 nL mods g0 r0 E n0 ad0 kc kz sh pc (b, fds, lv, .inl (.inl ([], (n : Int))) :: sv) := by
  intro ad had0 r H locs ls st h0
  have hrf2 : ys_rfS sh (b, fds, lv, sv) = true := by
    unfold ys_rfS at hrf ⊢
    simp only [Bool.and_eq_true, decide_eq_true_eq, List.all_cons] at hrf ⊢
    exact ⟨hrf.1, hrf.2.1, hrf.2.2.1, hrf.2.2.2.1, hrf.2.2.2.2.1.2, hrf.2.2.2.2.2⟩
  obtain ⟨st1, e1, h, -⟩ := ys_rep_pop h0
  subst e1
  obtain ⟨g, hg, hP, hD, hS⟩ := h.2.2.2.1
  have ev : ys_ev r (([], (n : Int)) : ys_L) = (n : Int) := Int.zero_add _
  have et : (Int32.ofInt (n : Int)).toInt = (n : Int) := Int32.toInt_ofInt_of_le (by omega) (by omega)
  have e2 : ys_den ad r (.inl (.inl ([], (n : Int)))) = .int (Int32.ofInt (n : Int)) := by
    show Value.int (Int32.ofInt (ys_ev r _)) = _
    rw [ev]
  rw [e2]
  refine va_newa (a0 := a0) hexec hb harr hty hK hP hD hS hA0 ha (by rw [Int32.lt_iff_toInt_lt, et]; exact Int.not_lt.mpr (Int.natCast_nonneg n)) (by show (Int32.ofInt (n : Int)).toInt.toNat = n; rw [et]; rfl) hby hkc hkz hd fun q cA H1 hK1 hP1 hD1 hS1 => ?_
  have hcA : cA = cT kd := by
    have x1 := hra _ (hK1.2 tys.length (cA, ty) (by rw [List.getElem?_append_right (Nat.le_refl _), Nat.sub_self]; rfl)).2
    have x2 := hra _ (hK.2 kd _ htys).2
    rw [x1] at x2
    exact Option.some.inj x2
  subst hcA
  obtain ⟨ad', had'⟩ : ∃ ad' : Nat → Nat, ad' = fun i => if i = sh.length then q else ad i := ⟨_, rfl⟩
  have hadl : ∀ i, (i < sh.length ∨ 1000 ≤ i) → ad' i = ad i := fun i hi => by rw [had']; exact if_neg (by omega)
  have hadn : ad' sh.length = q := by rw [had']; exact if_pos rfl
  obtain ⟨g', hg'⟩ : ∃ g' : Nat → Nat → Int, g' = fun i => if i = sh.length then (fun _ => 0) else g i := ⟨_, rfl⟩
  have hgl : ∀ i, i < sh.length → g' i = g i := fun i hi => by rw [hg']; exact if_neg (Nat.ne_of_lt hi)
  have hgn : g' sh.length = fun _ => 0 := by rw [hg']; exact if_pos rfl
  have ec : ys_cel ad' cT r g' sh.length (.inr (kd, n, [])) [] = (q, .inl (cT kd, a0)) := by
    show (ad' sh.length, Sum.inl (cT kd, ys_con ad' (g' sh.length) (kd, n, []))) = _
    rw [hadn, hgn, hcon]
  have hrep := ys_rep_more (ad' := ad') (x := .inr (kd, n, [])) (row := []) (ar := ((0, 0), [])) h hrf2 hg hadl hgl (fun kk hk => by
    rw [hg']
    show (if kk = sh.length then _ else g kk) = _
    rw [if_neg (fun e1 : kk = sh.length => hk (by rw [e1]; exact hmods))]
    exact hg.2 kk hk) (by
      rw [hgn]
      intro j
      exact ⟨Int.le_refl 0, Int.le_refl 0⟩) (fun v hv => by cases hv) (by rw [ec]; exact hP1) (by rw [ec]; exact hD1) hS1
  have h9 := k ad' (fun i hi => (hadl i (by omega)).trans (had0 i hi)) r H1 locs ls _ (ys_rep_push hrep (.inr (some sh.length)) trivial)
  have e9 : ys_den ad' r (.inr (some sh.length)) = .ref q := by
    show Value.ref (ad' sh.length) = _
    rw [hadn]
  rw [e9] at h9
  exact h9
/-- an array of references -/
theorem ys_knewq {idx kd n : Nat} {C : String} (hexec : p.tables.exec = Jvm.exec) (hb : c.code = cc) (hts : ∀ w ∈ Ts, w.before args s = true) (hown : s.vm.findClass own = some m.cls) (hcl : Cond.classLink own idx C ∈ Ts) (hov : va_AO C s) (hK : va_K D cl tys s) (hA0 : ∀ q, H0.size ≤ q → A q) (hkd : 4 ≤ kd) (htys : tys[kd]? = some (cT kd, .object C)) (hn : n ≤ 100000) (hrf : ys_rfS sh (b, fds, lv, .inl (.inl ([], (n : Int))) :: sv) = true) (hN1 : sh.length < 1000) (hn0 : n0 ≤ sh.length) (hmods : sh.length ∈ mods) (hkc : kc + 1 ≤ R.cells) (hkz : kz + n ≤ R.slots) (hd : decode cc pc = .ok (.anewarray idx, 3)) (k : ys_N p l e R s m args below meth c Q D cl cT A H0 nL mods g0 r0 E n0 ad0 (kc + 1) (kz + n) (sh ++ [.inr (kd, n, [])]) (pc + 3) (b, (fds.1 ++ [[]], fds.2 ++ [((0, 0), [])]), lv, .inr (some sh.length) :: sv)) : ys_N p l e R s m args below meth c Q D cl cT A H0 nL mods g0 r0 E n0 ad0 kc kz sh pc (b, fds, lv, .inl (.inl ([], (n : Int))) :: sv) := by
  intro ad had0 r H locs ls st h0
  have hrf2 : ys_rfS sh (b, fds, lv, sv) = true := by
    unfold ys_rfS at hrf ⊢
    simp only [Bool.and_eq_true, decide_eq_true_eq, List.all_cons] at hrf ⊢
    exact ⟨hrf.1, hrf.2.1, hrf.2.2.1, hrf.2.2.2.1, hrf.2.2.2.2.1.2, hrf.2.2.2.2.2⟩
  obtain ⟨st1, e1, h, -⟩ := ys_rep_pop h0
  subst e1
  obtain ⟨g, hg, hP, hD, hS⟩ := h.2.2.2.1
  have ev : ys_ev r (([], (n : Int)) : ys_L) = (n : Int) := Int.zero_add _
  have et : (Int32.ofInt (n : Int)).toInt = (n : Int) := Int32.toInt_ofInt_of_le (by omega) (by omega)
  have e2 : ys_den ad r (.inl (.inl ([], (n : Int)))) = .int (Int32.ofInt (n : Int)) := by
    show Value.int (Int32.ofInt (ys_ev r _)) = _
    rw [ev]
  rw [e2]
  refine va_newq hexec hb hown (hts _ hcl) hov hK hP hD hS hA0 (by rw [Int32.lt_iff_toInt_lt, et]; exact Int.not_lt.mpr (Int.natCast_nonneg n)) (by show (Int32.ofInt (n : Int)).toInt.toNat = n; rw [et]; rfl) (by omega) hkc hkz hd fun q cA H1 hK1 hP1 hD1 hS1 => ?_
  have hcA : cA = cT kd := by
    obtain ⟨_, _, _, _, _, x1⟩ := (hK1.2 tys.length (cA, .object C) (by rw [List.getElem?_append_right (Nat.le_refl _), Nat.sub_self]; rfl)).2
    obtain ⟨_, _, _, _, _, x2⟩ := (hK.2 kd _ htys).2
    rw [x1] at x2
    exact Option.some.inj x2
  subst hcA
  obtain ⟨ad', had'⟩ : ∃ ad' : Nat → Nat, ad' = fun i => if i = sh.length then q else ad i := ⟨_, rfl⟩
  have hadl : ∀ i, (i < sh.length ∨ 1000 ≤ i) → ad' i = ad i := fun i hi => by rw [had']; exact if_neg (by omega)
  have hadn : ad' sh.length = q := by rw [had']; exact if_pos rfl
  obtain ⟨g', hg'⟩ : ∃ g' : Nat → Nat → Int, g' = fun i => if i = sh.length then (fun _ => 0) else g i := ⟨_, rfl⟩
  have hgl : ∀ i, i < sh.length → g' i = g i := fun i hi => by rw [hg']; exact if_neg (Nat.ne_of_lt hi)
  have hgn : g' sh.length = fun _ => 0 := by rw [hg']; exact if_pos rfl
  have ec : ys_cel ad' cT r g' sh.length (.inr (kd, n, [])) [] = (q, .inl (cT kd, n, .inr (.inr (.inr (.inr (fun _ => none)))))) := by
    show (ad' sh.length, Sum.inl (cT kd, ys_con ad' (g' sh.length) (kd, n, []))) = _
    rw [hadn]
    unfold ys_con
    rw [if_neg (by show ¬ kd = 1; omega), if_pos (by show 4 ≤ kd; exact hkd)]
    rfl
  have hrep := ys_rep_more (ad' := ad') (x := .inr (kd, n, [])) (row := []) (ar := ((0, 0), [])) h hrf2 hg hadl hgl (fun kk hk => by
    rw [hg']
    show (if kk = sh.length then _ else g kk) = _
    rw [if_neg (fun e1 : kk = sh.length => hk (by rw [e1]; exact hmods))]
    exact hg.2 kk hk) (by
      rw [hgn]
      intro j
      exact ⟨Int.le_refl 0, Int.le_refl 0⟩) (fun v hv => by cases hv) (by rw [ec]; exact hP1) (by rw [ec]; exact hD1) hS1
  have h9 := k ad' (fun i hi => (hadl i (by omega)).trans (had0 i hi)) r H1 locs ls _ (ys_rep_push hrep (.inr (some sh.length)) trivial)
  have e9 : ys_den ad' r (.inr (some sh.length)) = .ref q := by
    show Value.ref (ad' sh.length) = _
    rw [hadn]
  rw [e9] at h9
  exact h9
theorem ys_wld_sh {ad : Nat → Nat} {r : Nat → Int} {g : Nat → Nat → Int} {F : List (List ys_V)} {kk : Nat} {x : ys_C} (hk : kk < sh.length) : ys_wld ad cT (sh.set kk x) r g F = (ys_wld ad cT sh r g F).set kk (ys_cel ad cT r g kk x (F.getD kk [])) := by
  apply List.ext_getElem?
  intro j
  by_cases hj : kk = j
  · subst hj
    rw [List.getElem?_set_self (by rw [ys_wld_len]; exact hk), ys_wld_get (c := x) (by rw [List.getElem?_set_self hk])]
  · rw [List.getElem?_set_ne hj]
    cases hc : sh[j]? with
    | none =>
      have hl : sh.length ≤ j := by simpa using hc
      rw [List.getElem?_eq_none (by rw [ys_wld_len, List.length_set]; exact hl), List.getElem?_eq_none (by rw [ys_wld_len]; exact hl)]
    | some c' => rw [ys_wld_get hc, ys_wld_get (c := c') (by rw [List.getElem?_set_ne hj]; exact hc)]
/-- a reference into an array: the next free place -/
theorem ys_kaast {v k0 ci kd n : Nat} {tg : List Nat} {C : String} {T : u_T} {N : Nat} (hexec : p.tables.exec = Jvm.exec) (hb : c.code = cc) (hK : va_K D cl tys s) (hk : sh[k0]? = some (.inr (kd, n, tg))) (hkd : 4 ≤ kd) (hv : sh[v]? = some (.inl ci)) (hcl : cl[ci]? = some (C, T, N)) (htys : tys[kd]? = some (cT kd, .object C)) (hlt : tg.length < n) (hn : n ≤ 100000) (hd : decode cc pc = .ok (.aastore, 1)) (k : ys_N p l e R s m args below meth c Q D cl cT A H0 nL mods g0 r0 E n0 ad0 kc kz (sh.set k0 (.inr (kd, n, tg ++ [v]))) (pc + 1) (b, fds, lv, sv)) : ys_N p l e R s m args below meth c Q D cl cT A H0 nL mods g0 r0 E n0 ad0 kc kz sh pc (b, fds, lv, .inr (some v) :: .inl (.inl ([], (tg.length : Int))) :: .inr (some k0) :: sv) := by
  intro ad had0 r H locs ls st h0
  obtain ⟨st1, e1, h1, -⟩ := ys_rep_pop h0
  obtain ⟨st2, e2, h2, -⟩ := ys_rep_pop h1
  obtain ⟨st3, e3, h3, -⟩ := ys_rep_pop h2
  subst e1; subst e2; subst e3
  obtain ⟨q1, ⟨s0, s1, s2, s3⟩, q2, ⟨g, hg, hP, hD, hS⟩, q4, q5⟩ := h3
  have ev : ys_ev r (([], (tg.length : Int)) : ys_L) = (tg.length : Int) := Int.zero_add _
  have et : (Int32.ofInt (tg.length : Int)).toInt = (tg.length : Int) := Int32.toInt_ofInt_of_le (by omega) (by omega)
  have e2 : ys_den ad r (.inl (.inl ([], (tg.length : Int)))) = .int (Int32.ofInt (tg.length : Int)) := by
    show Value.int (Int32.ofInt (ys_ev r _)) = _
    rw [ev]
  rw [e2]
  have hw := ys_wld_get (ad := ad) (cT := cT) (r := r) (g := g) (fds := fds.1) hk
  have hcon : ∀ t : List Nat, ys_con ad (g k0) (kd, n, t) = (n, .inr (.inr (.inr (.inr fun j => (t[j]?).map ad)))) := by
    intro t
    unfold ys_con
    rw [if_neg (by show ¬ kd = 1; omega), if_pos (by show 4 ≤ kd; exact hkd)]
  have hw2 : (ys_wld ad cT sh r g fds.1)[k0]? = some (ad k0, .inl (cT kd, n, .inr (.inr (.inr (.inr fun j => (tg[j]?).map ad))))) := by
    rw [hw]
    show some (ad k0, Sum.inl (cT kd, ys_con ad (g k0) (kd, n, tg))) = _
    rw [hcon]
  have hwv := ys_wld_get (ad := ad) (cT := cT) (r := r) (g := g) (fds := fds.1) hv
  have en : (Int32.ofInt (tg.length : Int)).toNatClampNeg = tg.length := by
    show (Int32.ofInt (tg.length : Int)).toInt.toNat = _
    rw [et]
    rfl
  refine va_astq (r := (C, T, N)) (v := ad v) hexec hb hK hP hD hS k0 kd v ci hw2 htys hwv hcl (by rw [vp_in_iff, et]; omega) hd fun H1 locs1 hP1 hD1 hS1 => ?_
  have ef : (fun j : Nat => ((tg ++ [v])[j]?).map ad) = va_up (fun j : Nat => (tg[j]?).map ad) tg.length (some (ad v)) := by
    funext j
    unfold va_up
    by_cases hj : j = tg.length
    · subst hj
      rw [if_pos rfl, List.getElem?_append_right (Nat.le_refl _), Nat.sub_self]
      rfl
    · rw [if_neg hj]
      show ((tg ++ [v])[j]?).map ad = (tg[j]?).map ad
      by_cases hl : j < tg.length
      · rw [List.getElem?_append_left hl]
      · rw [List.getElem?_eq_none (by rw [List.length_append]; simp; omega), List.getElem?_eq_none (by omega)]
  rw [en] at hP1 hD1
  have ew := ys_wld_sh (cT := cT) (ad := ad) (r := r) (g := g) (F := fds.1) (x := .inr (kd, n, tg ++ [v])) (List.getElem?_eq_some_iff.mp hk).1
  have ec : ys_cel ad cT r g k0 (.inr (kd, n, tg ++ [v])) (fds.1.getD k0 []) = (ad k0, .inl (cT kd, n, .inr (.inr (.inr (.inr (va_up (fun j : Nat => (tg[j]?).map ad) tg.length (some (ad v)))))))) := by
    show (ad k0, Sum.inl (cT kd, ys_con ad (g k0) (kd, n, tg ++ [v]))) = _
    rw [hcon, ef]
  rw [ec] at ew
  refine k ad had0 r H1 locs1 ls _ ⟨q1, ⟨s0, s1, s2, s3⟩, q2, ⟨g, hg, ?_, ?_, hS1⟩, q4, q5⟩
  · show va_P D cl (ys_wld ad cT (sh.set k0 (.inr (kd, n, tg ++ [v]))) r g fds.1) H1
    rw [ew]
    exact hP1
  · show va_D A (ys_wld ad cT (sh.set k0 (.inr (kd, n, tg ++ [v]))) r g fds.1)
    rw [ew]
    exact hD1
/-- a reference into a field that is written once -/
noncomputable def ys_Ff (own : String) (Ts : List Cond) (cl : List vw_C) (idx ci j : Nat) : Prop := ∃ (C : String) (T : u_T) (N : Nat) (ty0 : Nat → FieldType), cl[ci]? = some (C, T, N) ∧ j < N ∧ (∀ w ∈ u_ws C T N, w ∈ Ts) ∧ (∀ k, k < N → parseFieldDescriptor (T k).2.2.1 = some (ty0 k)) ∧ (∀ a, a < N → ∀ b, b < N → a ≠ b → (T a).2.1 ≠ (T b).2.1) ∧ Cond.fieldLink own idx C (T j).2.1 (T j).2.2.1 ∈ Ts ∧ (T j).1 = C ∧ C = own ∧ (T j).2.2.2 = true ∧ ys_dv (ty0 j) = .inr none
theorem ys_kputF {idx ci j v k0 : Nat} (hexec : p.tables.exec = Jvm.exec) (hb : c.code = cc) (hts : ∀ w ∈ Ts, w.before args s = true) (hown : s.vm.findClass own = some m.cls) (hK : va_K D cl tys s) (hin : meth.name = "<init>") (hff : ys_Ff own Ts cl idx ci j) (hsh : sh[k0]? = some (.inl ci)) (hjl : j < (fds.1.getD k0 []).length) (hd : decode cc pc = .ok (.putfield idx, 3)) (k : ys_N p l e R s m args below meth c Q D cl cT A H0 nL mods g0 r0 E n0 ad0 kc kz sh (pc + 3) (b, (ys_fset fds.1 k0 j (.inr (some v)), fds.2), lv, sv)) : ys_N p l e R s m args below meth c Q D cl cT A H0 nL mods g0 r0 E n0 ad0 kc kz sh pc (b, fds, lv, .inr (some v) :: .inr (some k0) :: sv) := by
  intro ad had0 r H locs ls st h0
  obtain ⟨C, T, N, ty0, h1, h2, h3, h4, h5, h6, h7, h8, h9, h10⟩ := hff
  obtain ⟨st1, e1, g1, hv⟩ := ys_rep_pop h0
  obtain ⟨st2, e2, g2, -⟩ := ys_rep_pop g1
  subst e1; subst e2
  obtain ⟨q1, ⟨s0, s1, s2, s3⟩, q2, ⟨g, hg, hP, hD, hS⟩, q4, q5⟩ := g2
  have hw := ys_wld_get (ad := ad) (cT := cT) (r := r) (g := g) (fds := fds.1) hsh
  have hnf : narrow (ty0 j) (.ref (ad v)) = .ref (ad v) ∧ fits (ty0 j) (.ref (ad v)) = true := by
    generalize ty0 j = tt at h10
    cases tt <;> first | exact ⟨rfl, rfl⟩ | cases h10
  refine va_putF (v := .ref (ad v)) (ty := ty0 j) hexec hb hts h3 ty0 h4 h5 hown hK hP hD hS k0 hw h1 j h2 (hts _ h6) (fun _ hq => h7 ▸ hq) h9 hin (h7.trans h8) (h4 j h2) hnf.1 hnf.2 (by rw [List.length_map]; exact hjl) hd fun H1 locs1 hP1 hD1 hS1 => ?_
  have ew := ys_wld_set (ad := ad) (cT := cT) (r := r) (g := g) (g' := g) (fds := fds.1) (fds' := ys_fset fds.1 k0 j (.inr (some v))) hsh (fun i hi => ⟨rfl, ys_fset_get hi⟩)
  have ec : ys_cel ad cT r g k0 (.inl ci) ((ys_fset fds.1 k0 j (.inr (some v))).getD k0 []) = (ad k0, .inr (ci, ((fds.1.getD k0 []).map (ys_den ad r)).set j (.ref (ad v)))) := by
    rw [ys_fset_self hjl]
    show (ad k0, Sum.inr (ci, ((fds.1.getD k0 []).set j (.inr (some v))).map (ys_den ad r))) = _
    rw [List.map_set]
    rfl
  rw [ec] at ew
  refine k ad had0 r H1 locs1 ls _ ⟨q1, ⟨s0, ys_fset_mem s1 trivial, s2, s3⟩, q2, ⟨g, hg, ?_, ?_, hS1⟩, q4, q5⟩
  · show va_P D cl (ys_wld ad cT sh r g (ys_fset fds.1 k0 j (.inr (some v)))) H1
    rw [ew]
    exact hP1
  · show va_D A (ys_wld ad cT sh r g (ys_fset fds.1 k0 j (.inr (some v))))
    rw [ew]
    exact hD1
/-- the beginning of every object -/
theorem ys_kobj {idx k0 : Nat} (hexec : p.tables.exec = Jvm.exec) (hb : c.code = cc) (hml : c.maxLocals = nL) (hts : ∀ w ∈ Ts, w.before args s = true) (hown : s.vm.findClass own = some m.cls) (w1 : Cond.methodLink own idx objectInit ∈ Ts) (w2 : Cond.instanceMethod objectInit ∈ Ts) (w3 : Cond.code objectInit ⟨#[0xb1]⟩ 1 none ∈ Ts) (hfr : 1 ≤ R.frames) (hlo : (sv.map ys_cat).sum + 12 ≤ R.locals) (hd : decode cc pc = .ok (.invokespecial idx, 3)) (k : ys_N p l e R s m args below meth c Q D cl cT A H0 nL mods g0 r0 E n0 ad0 kc kz sh (pc + 3) (b, fds, lv, sv)) : ys_N p l e R s m args below meth c Q D cl cT A H0 nL mods g0 r0 E n0 ad0 kc kz sh pc (b, fds, lv, .inr (some k0) :: sv) := by
  intro ad had0 r H locs ls st h0
  obtain ⟨st1, e1, h, -⟩ := ys_rep_pop h0
  subst e1
  refine W.objInit hexec hb hown (hts _ w1) (hts _ w2) (hts _ w3) rfl (h.2.2.2.2.1.1.trans hml.symm) rfl hd hfr ?_ (k ad had0 r H locs ls st1 h)
  show 2 * 0 + (st1.map fun v => v.category).sum + 12 ≤ R.locals
  rw [h.2.2.2.2.2, ys_cats]
  show 2 * 0 + (sv.map ys_cat).sum + 12 ≤ R.locals
  omega
end YSX

