/-! fields and arrays -/
noncomputable def ys_fget (fs : List (List ys_V)) (k j : Nat) : Option ys_V := (fs.getD k [])[j]?
noncomputable def ys_fset (fs : List (List ys_V)) (k j : Nat) (v : ys_V) : List (List ys_V) := fs.set k ((fs.getD k []).set j v)
/-- a link to a field: the kind of the object, the place of the field, its type (0 int, 1 long, 3 boolean, 2 a reference) -/
noncomputable def ys_tk (t : FieldType) : Nat := match t with
  | .int => 0
  | .long => 1
  | .boolean => 3
  | _ => 2
noncomputable def ys_Fl (own : String) (Ts : List Cond) (cl : List vw_C) (idx ci j tk : Nat) : Prop := ∃ (C : String) (T : u_T) (N : Nat) (ty0 : Nat → FieldType), cl[ci]? = some (C, T, N) ∧ j < N ∧ (∀ w ∈ u_ws C T N, w ∈ Ts) ∧ (∀ k, k < N → parseFieldDescriptor (T k).2.2.1 = some (ty0 k)) ∧ (∀ a, a < N → ∀ b, b < N → a ≠ b → (T a).2.1 ≠ (T b).2.1) ∧ Cond.fieldLink own idx C (T j).2.1 (T j).2.2.1 ∈ Ts ∧ (T j).1 = C ∧ (tk ≠ 2 → (T j).2.2.2 = false) ∧ ys_tk (ty0 j) = tk
abbrev ys_FL : Type := List (Nat × (Nat × Nat × Nat))
section YSM
variable {p : Program} {l : Launch} {e : Env} {R : Room} {s : State} {m : MethodId} {args : Array Value} {below : List Frame} {meth : Method} {c : Code} {Q : State → Prop} {kc kz : Nat} {D : va_G} {cl : List vw_C} {ad : Nat → Nat} {cT : Nat → ClassId} {sh : List ys_C} {A : Nat → Prop} {H0 : Heap} {nL : Nat} {mods : List Nat} {g0 : Nat → Nat → Int} {r0 : Nat → Int} {E : Nat} {pc : Nat} {b : ys_B} {fds : ys_F} {lv : List (Nat × ys_V)} {sv : List ys_V} {succ : List (Nat × ys_S)} {cc : ByteArray} {own : String} {Ts : List Cond} {tys : List (ClassId × FieldType)}
noncomputable def ys_hget (sh : List ys_C) (fl : ys_FL) (idx : Nat) (pc : Nat) (b : ys_B) (fds : ys_F) (lv : List (Nat × ys_V)) (sv : List ys_V) : Option (List (Nat × ys_S)) := match sv, fl.lookup idx with
  | .inr (some k) :: t, some (ci, j, _) => (match ys_fget fds.1 k j with
    | some v => if sh[k]? = some (.inl ci) then some [(pc + 3, b, fds, lv, v :: t)] else none
    | none => none)
  | _, _ => none
theorem ys_kget {fl : ys_FL} {idx : Nat} (hexec : p.tables.exec = Jvm.exec) (hb : c.code = cc) (hts : ∀ w ∈ Ts, w.before args s = true) (hown : s.vm.findClass own = some m.cls) (hK : va_K D cl tys s) (hfl : ∀ idx ci j tk, fl.lookup idx = some (ci, j, tk) → ys_Fl own Ts cl idx ci j tk) (hd : decode cc pc = .ok (.getfield idx, 3)) (hs : ys_hget sh fl idx pc b fds lv sv = some succ) (k : ∀ q ∈ succ, ys_W p l e R s m args below meth c Q kc kz D cl ad cT sh A H0 nL mods g0 r0 E q.1 q.2) : ys_W p l e R s m args below meth c Q kc kz D cl ad cT sh A H0 nL mods g0 r0 E pc (b, fds, lv, sv) := by
  unfold ys_hget at hs
  split at hs
  · rename_i kc t ci j tk hlk
    split at hs
    · rename_i v hv
      split at hs
      · rename_i hsh
        cases Option.some.inj hs
        have k := k _ List.mem_cons_self
        obtain ⟨C, T, N, ty0, h1, h2, h3, h4, h5, h6, h7, -, -⟩ := hfl _ _ _ _ hlk
        intro r H locs ls st h
        obtain ⟨st1, e1, g1, -⟩ := ys_rep_pop h
        subst e1
        obtain ⟨g, hg, hP, hD, hS⟩ := g1.2.2.2.1
        have hw := ys_wld_get (ad := ad) (cT := cT) (r := r) (g := g) (fds := fds.1) hsh
        have hmem : v ∈ fds.1.getD kc [] := List.mem_of_getElem? hv
        have hsv : ys_stV b.1.length v := by
          rw [List.getD_eq_getElem?_getD] at hmem
          cases hc : fds.1[kc]? with
          | none => rw [hc] at hmem; cases hmem
          | some w => rw [hc] at hmem; exact h.2.1.2.1 w (List.mem_of_getElem? hc) v hmem
        refine va_get (v := ys_den ad r v) hexec hb hts h3 hown hK hP kc hw h1 j h2 (hts _ h6) (fun _ hq => h7 ▸ hq) ?_ hd (k r H locs ls _ (ys_rep_push g1 v hsv))
        rw [List.getElem?_map]
        show Option.map _ ((fds.1.getD kc [])[j]?) = _
        rw [show (fds.1.getD kc [])[j]? = some v from hv]
        rfl
      · cases hs
    · cases hs
  · cases hs
noncomputable def ys_fits (tk : Nat) (v : ys_E) (x : ys_V) : Bool := match x with
  | .inl (.inl e) => tk == 0 || (tk == 3 && (ys_geb v e 0 && ys_geb v (ys_scale (-1) e) (-1)))
  | .inl (.inr _) => tk == 1
  | _ => false
noncomputable def ys_hput (sh : List ys_C) (fl : ys_FL) (idx : Nat) (pc : Nat) (b : ys_B) (fds : ys_F) (lv : List (Nat × ys_V)) (sv : List ys_V) : Option (List (Nat × ys_S)) := match sv, fl.lookup idx with
  | v :: .inr (some k) :: t, some (ci, j, tk) => if ys_fits tk b.1 v && decide (sh[k]? = some (.inl ci)) && decide (j < (fds.1.getD k []).length) then some [(pc + 3, b, (ys_fset fds.1 k j v, fds.2), lv, t)] else none
  | _, _ => none
theorem ys_01 {x : Int} (h0 : 0 ≤ x) (h1 : x ≤ 1) : Int32.ofInt x = 0 ∨ Int32.ofInt x = 1 := by
  rcases (show x = 0 ∨ x = 1 by omega) with q | q
  · rw [q]; exact Or.inl rfl
  · rw [q]; exact Or.inr rfl
theorem ys_tk0 {t : FieldType} (h : ys_tk t = 0) : t = .int := by
  cases t <;> first | rfl | cases h
theorem ys_tk1 {t : FieldType} (h : ys_tk t = 1) : t = .long := by
  cases t <;> first | rfl | cases h
theorem ys_tk3 {t : FieldType} (h : ys_tk t = 3) : t = .boolean := by
  cases t <;> first | rfl | cases h
theorem ys_fits_ok {r : Nat → Int} {tk : Nat} {v : ys_E} {x : ys_V} {ty : FieldType} (hv : ys_ok r v) (ht : ys_tk ty = tk) (h : ys_fits tk v x = true) : narrow ty (ys_den ad r x) = ys_den ad r x ∧ fits ty (ys_den ad r x) = true ∧ tk ≠ 2 := by
  rcases x with (x | x) | x
  · unfold ys_fits at h
    simp only [Bool.or_eq_true, Bool.and_eq_true, beq_iff_eq] at h
    rcases h with h | ⟨h, h1, h2⟩
    · rw [h] at ht
      rw [ys_tk0 ht]
      exact ⟨rfl, rfl, by omega⟩
    · rw [h] at ht
      rw [ys_tk3 ht]
      have g1 := ys_geb_le hv h1
      have g2 := ys_geb_le hv h2
      rw [ys_scale_ev] at g2
      rcases ys_01 g1 (show ys_ev r x ≤ 1 by omega) with q | q
      · refine ⟨?_, ?_, by omega⟩
        · show Value.int (Int32.ofInt (ys_ev r x) &&& 1) = Value.int (Int32.ofInt (ys_ev r x))
          rw [q]; rfl
        · show (Int32.ofInt (ys_ev r x) == 0 || Int32.ofInt (ys_ev r x) == 1) = true
          rw [q]; rfl
      · refine ⟨?_, ?_, by omega⟩
        · show Value.int (Int32.ofInt (ys_ev r x) &&& 1) = Value.int (Int32.ofInt (ys_ev r x))
          rw [q]; rfl
        · show (Int32.ofInt (ys_ev r x) == 0 || Int32.ofInt (ys_ev r x) == 1) = true
          rw [q]; rfl
  · unfold ys_fits at h
    simp only [beq_iff_eq] at h
    rw [h] at ht
    rw [ys_tk1 ht]
    exact ⟨rfl, rfl, by omega⟩
  · unfold ys_fits at h
    cases h
theorem ys_mem_set {α : Type} {x y : α} : ∀ {l : List α} {i : Nat}, x ∈ l.set i y → x = y ∨ x ∈ l
  | [], i, h => by
    rw [List.set_nil] at h
    exact Or.inr h
  | z :: t, 0, h => by
    rcases List.mem_cons.mp h with q | q
    · exact Or.inl q
    · exact Or.inr (List.mem_cons_of_mem _ q)
  | z :: t, i + 1, h => by
    rcases List.mem_cons.mp h with q | q
    · exact Or.inr (q ▸ List.mem_cons_self)
    · rcases ys_mem_set q with q | q
      · exact Or.inl q
      · exact Or.inr (List.mem_cons_of_mem _ q)
theorem ys_fset_mem {fs : List (List ys_V)} {k j n : Nat} {v : ys_V} (h : ∀ w ∈ fs, ∀ v ∈ w, ys_stV n v) (hv : ys_stV n v) : ∀ w ∈ ys_fset fs k j v, ∀ v ∈ w, ys_stV n v := by
  intro w hw u hu
  rcases ys_mem_set hw with q | q
  · rw [q] at hu
    rcases ys_mem_set hu with q2 | q2
    · rw [q2]; exact hv
    · rw [List.getD_eq_getElem?_getD] at q2
      cases hc : fs[k]? with
      | none => rw [hc] at q2; cases q2
      | some x => rw [hc] at q2; exact h x (List.mem_of_getElem? hc) u q2
  · exact h w q u hu
theorem ys_fset_get {fs : List (List ys_V)} {k j i : Nat} {v : ys_V} (h : i ≠ k) : (ys_fset fs k j v).getD i [] = fs.getD i [] := by
  unfold ys_fset
  rw [List.getD_eq_getElem?_getD, List.getElem?_set_ne (Ne.symm h), ← List.getD_eq_getElem?_getD]
theorem ys_fset_self {fs : List (List ys_V)} {k j : Nat} {v : ys_V} (h : j < (fs.getD k []).length) : (ys_fset fs k j v).getD k [] = (fs.getD k []).set j v := by
  unfold ys_fset
  have hk : k < fs.length := by
    rcases Nat.lt_or_ge k fs.length with q | q
    · exact q
    · rw [List.getD_eq_getElem?_getD, List.getElem?_eq_none q] at h
      cases h
  rw [List.getD_eq_getElem?_getD, List.getElem?_set_self hk]
  rfl
theorem ys_kput {fl : ys_FL} {idx : Nat} (hexec : p.tables.exec = Jvm.exec) (hb : c.code = cc) (hts : ∀ w ∈ Ts, w.before args s = true) (hown : s.vm.findClass own = some m.cls) (hK : va_K D cl tys s) (hfl : ∀ idx ci j tk, fl.lookup idx = some (ci, j, tk) → ys_Fl own Ts cl idx ci j tk) (hd : decode cc pc = .ok (.putfield idx, 3)) (hs : ys_hput sh fl idx pc b fds lv sv = some succ) (k : ∀ q ∈ succ, ys_W p l e R s m args below meth c Q kc kz D cl ad cT sh A H0 nL mods g0 r0 E q.1 q.2) : ys_W p l e R s m args below meth c Q kc kz D cl ad cT sh A H0 nL mods g0 r0 E pc (b, fds, lv, sv) := by
  unfold ys_hput at hs
  split at hs
  · rename_i v kc t ci j tk hlk
    split at hs
    · rename_i hc
      rw [Bool.and_eq_true, Bool.and_eq_true, decide_eq_true_eq, decide_eq_true_eq] at hc
      obtain ⟨⟨hfit, hsh⟩, hjl⟩ := hc
      cases Option.some.inj hs
      have k := k _ List.mem_cons_self
      obtain ⟨C, T, N, ty0, h1, h2, h3, h4, h5, h6, h7, h8, h9⟩ := hfl _ _ _ _ hlk
      intro r H locs ls st h
      obtain ⟨st1, e1, g1, hv⟩ := ys_rep_pop h
      obtain ⟨st2, e2, g2, -⟩ := ys_rep_pop g1
      subst e1; subst e2
      obtain ⟨q1, ⟨s0, s1, s2, s3⟩, q2, ⟨g, hg, hP, hD, hS⟩, q4, q5⟩ := g2
      obtain ⟨f1, f2, f3⟩ := ys_fits_ok (ad := ad) h.1.1 h9 hfit
      have hw := ys_wld_get (ad := ad) (cT := cT) (r := r) (g := g) (fds := fds.1) hsh
      refine va_put (v := ys_den ad r v) (ty := ty0 j) hexec hb hts h3 ty0 h4 h5 hown hK hP hD hS kc hw h1 j h2 (hts _ h6) (fun _ hq => h7 ▸ hq) (h8 f3) (h4 j h2) f1 f2 (by rw [List.length_map]; exact hjl) hd fun H1 locs1 hP1 hD1 hS1 => ?_
      have ew := ys_wld_set (ad := ad) (cT := cT) (r := r) (g := g) (g' := g) (fds := fds.1) (fds' := ys_fset fds.1 kc j v) hsh (fun i hi => ⟨rfl, ys_fset_get hi⟩)
      have ec : ys_cel ad cT r g kc (.inl ci) ((ys_fset fds.1 kc j v).getD kc []) = (ad kc, .inr (ci, ((fds.1.getD kc []).map (ys_den ad r)).set j (ys_den ad r v))) := by
        rw [ys_fset_self hjl]
        show (ad kc, Sum.inr (ci, ((fds.1.getD kc []).set j v).map (ys_den ad r))) = _
        rw [List.map_set]
      rw [ec] at ew
      refine k r H1 locs1 ls _ ⟨q1, ⟨s0, ys_fset_mem s1 hv, s2, s3⟩, q2, ⟨g, hg, ?_, ?_, hS1⟩, q4, q5⟩
      · show va_P D cl (ys_wld ad cT sh r g (ys_fset fds.1 kc j v)) H1
        rw [ew]
        exact hP1
      · show va_D A (ys_wld ad cT sh r g (ys_fset fds.1 kc j v))
        rw [ew]
        exact hD1
    · cases hs
  · cases hs
/-! reading an array -/
noncomputable def ys_hul (q w : Int × Int) : Int × Int := (if q.1 ≤ w.1 then q.1 else w.1, if q.2 ≤ w.2 then w.2 else q.2)
noncomputable def ys_not (v : ys_E) (e : ys_L) (i : Nat) : Bool := ys_geb v e ((i : Int) + 1) || ys_geb v (ys_scale (-1) e) (1 - (i : Int))
noncomputable def ys_rds (v : ys_E) (e : ys_L) : List (Nat × (Int × Int)) → Int × Int → Int × Int
  | [], q => q
  | x :: t, q => ys_rds v e t (if ys_not v e x.1 then q else ys_hul q x.2)
noncomputable def ys_sgl (v : ys_E) (e : ys_L) : Option Nat := match ys_low v e, ys_high v e with
  | some l, some u => if l = u then some l.toNat else none
  | _, _ => none
theorem ys_sgl_ok {r : Nat → Int} {v : ys_E} (hv : ys_ok r v) {e : ys_L} {i n : Nat} (h : ys_sgl v e = some i) (he : ys_ev r e = (n : Int)) : i = n := by
  unfold ys_sgl at h
  split at h
  · rename_i l u hl hu
    split at h
    · cases Option.some.inj h
      have := ys_low_le hv hl
      have := ys_high_le hv hu
      omega
    · cases h
  · cases h
noncomputable def ys_rd (v : ys_E) (a : ys_R) (e : ys_L) : Int × Int := match ys_sgl v e with
  | some i => ys_rat a i
  | none => ys_rds v e a.2 a.1
/-- a place of its own, where the index may be -/
noncomputable def ys_spl (v : ys_E) (a : ys_R) (e : ys_L) : Option Nat := match ys_sgl v e with
  | some _ => none
  | none => (match a.2.find? (fun x => !ys_not v e x.1) with
    | some x => some x.1
    | none => none)
noncomputable def ys_cut3 (pc : Nat) (b : ys_B) (e : ys_L) (i : Nat) (rest : ys_F × List (Nat × ys_V) × List ys_V) : List (Nat × ys_S) := ys_br pc b [ys_sub e ([], (i : Int)), ys_sub ([], (i : Int)) e] rest ++ (ys_br pc b [ys_sub ([], (i : Int) - 1) e] rest ++ ys_br pc b [ys_sub e ([], (i : Int) + 1)] rest)
theorem ys_not_ok {r : Nat → Int} {v : ys_E} (hv : ys_ok r v) {e : ys_L} {i : Nat} (h : ys_not v e i = true) : ys_ev r e ≠ (i : Int) := by
  unfold ys_not at h
  rcases (Bool.or_eq_true _ _).mp h with q | q
  · have := ys_geb_le hv q
    omega
  · have := ys_geb_le hv q
    rw [ys_scale_ev] at this
    omega
theorem ys_hul_l {q w : Int × Int} {z : Int} (h : q.1 ≤ z ∧ z ≤ q.2) : (ys_hul q w).1 ≤ z ∧ z ≤ (ys_hul q w).2 := by
  unfold ys_hul
  constructor
  · show (if q.1 ≤ w.1 then q.1 else w.1) ≤ z
    split <;> omega
  · show z ≤ (if q.2 ≤ w.2 then w.2 else q.2)
    split <;> omega
theorem ys_hul_r {q w : Int × Int} {z : Int} (h : w.1 ≤ z ∧ z ≤ w.2) : (ys_hul q w).1 ≤ z ∧ z ≤ (ys_hul q w).2 := by
  unfold ys_hul
  constructor
  · show (if q.1 ≤ w.1 then q.1 else w.1) ≤ z
    split <;> omega
  · show z ≤ (if q.2 ≤ w.2 then w.2 else q.2)
    split <;> omega
theorem ys_rds_acc {v : ys_E} {e : ys_L} {z : Int} : ∀ (l : List (Nat × (Int × Int))) (q : Int × Int), q.1 ≤ z ∧ z ≤ q.2 → (ys_rds v e l q).1 ≤ z ∧ z ≤ (ys_rds v e l q).2
  | [], q, h => h
  | x :: t, q, h => by
    unfold ys_rds
    refine ys_rds_acc t _ ?_
    split
    · exact h
    · exact ys_hul_l h
theorem ys_rds_in {r : Nat → Int} {v : ys_E} (hv : ys_ok r v) {e : ys_L} {z : Int} {n : Nat} (he : ys_ev r e = (n : Int)) {w : Int × Int} (hw : w.1 ≤ z ∧ z ≤ w.2) : ∀ (l : List (Nat × (Int × Int))) (q : Int × Int), l.lookup n = some w → (ys_rds v e l q).1 ≤ z ∧ z ≤ (ys_rds v e l q).2
  | [], q, h => by cases h
  | (i, x) :: t, q, h => by
    unfold ys_rds
    unfold List.lookup at h
    cases hc : n == i with
    | true =>
      rw [hc] at h
      cases h
      rw [beq_iff_eq] at hc
      subst hc
      refine ys_rds_acc t _ ?_
      split
      · rename_i hn
        exact absurd he (ys_not_ok hv hn)
      · exact ys_hul_r hw
    | false =>
      rw [hc] at h
      exact ys_rds_in hv he hw t _ h
theorem ys_rd_ok {r : Nat → Int} {v : ys_E} (hv : ys_ok r v) {a : ys_R} {f : Nat → Int} (ha : ys_rok a f) {e : ys_L} {n : Nat} (he : ys_ev r e = (n : Int)) : (ys_rd v a e).1 ≤ f n ∧ f n ≤ (ys_rd v a e).2 := by
  have h := ha n
  unfold ys_rd
  split
  · rename_i i h1
    rw [ys_sgl_ok hv h1 he]
    exact h
  · unfold ys_rat at h
    cases hc : a.2.lookup n with
    | none =>
      rw [hc] at h
      exact ys_rds_acc _ _ h
    | some w =>
      rw [hc] at h
      exact ys_rds_in hv he h _ _ hc
theorem ys_kcut3 {x : ys_L} {i : Nat} {r : Nat → Int} {H : Heap} {locs : List Loc} {ls : Array Slot} {st : List Value} (h : ys_rep D cl ad cT sh A H0 nL mods g0 r0 r E (b, fds, lv, sv) H locs ls st) (sx : ys_stb b.1.length x) (k : ∀ q ∈ ys_cut3 pc b x i (fds, lv, sv), ys_W p l e R s m args below meth c Q kc kz D cl ad cT sh A H0 nL mods g0 r0 E q.1 q.2) : W p l e R s m args below meth c H locs kc kz Q (F0 m pc ls st) := by
  have z : ∀ i : Int, ys_ev r (([], i) : ys_L) = i := fun i => Int.zero_add _
  have one : ∀ {g : ys_L}, ys_stb b.1.length g → ∀ f ∈ [g], ys_stb b.1.length f := fun hg f hf => by rw [List.mem_singleton.mp hf]; exact hg
  by_cases h1 : ys_ev r x < (i : Int)
  · exact ys_kbr h (ys_fk1 (f := ys_sub ([], (i : Int) - 1) x) (by rw [ys_sub_ev, z]; omega)) (one (ys_stb_sub (ys_stb_cst _) sx)) (fun q hq => k q (List.mem_append_right _ (List.mem_append_left _ hq)))
  · by_cases h2 : (i : Int) < ys_ev r x
    · exact ys_kbr h (ys_fk1 (f := ys_sub x ([], (i : Int) + 1)) (by rw [ys_sub_ev, z]; omega)) (one (ys_stb_sub sx (ys_stb_cst _))) (fun q hq => k q (List.mem_append_right _ (List.mem_append_right _ hq)))
    · refine ys_kbr h (fs := [ys_sub x ([], (i : Int)), ys_sub ([], (i : Int)) x]) (fun f hf => ?_) (fun f hf => ?_) (fun q hq => k q (List.mem_append_left _ hq))
      · rcases List.mem_cons.mp hf with q | q
        · rw [q, ys_sub_ev, z]; omega
        · rw [List.mem_singleton.mp q, ys_sub_ev, z]; omega
      · rcases List.mem_cons.mp hf with q | q
        · rw [q]; exact ys_stb_sub sx (ys_stb_cst _)
        · rw [List.mem_singleton.mp q]; exact ys_stb_sub (ys_stb_cst _) sx
/-- a place within an array -/
noncomputable def ys_inb (b : ys_B) (e : ys_L) (len : Nat) : Bool := ys_inr false b.1 e && (ys_ge b.1 b.2 2 e && ys_ge b.1 b.2 2 (ys_sub ([], (len : Int) - 1) e))
theorem ys_inb_ok {r : Nat → Int} (h : ys_okB r b) {x : ys_L} {len : Nat} (hi : ys_inb b x len = true) : ∃ n : Nat, ys_ev r x = (n : Int) ∧ n < len ∧ vp_in (Int32.ofInt (ys_ev r x)) len ∧ (Int32.ofInt (ys_ev r x)).toNatClampNeg = n := by
  unfold ys_inb at hi
  rw [Bool.and_eq_true, Bool.and_eq_true] at hi
  have e0 := ys_inr32 h.1 hi.1
  have h1 := ys_ge_le h.1 h.2 _ _ hi.2.1
  have h2 := ys_ge_le h.1 h.2 _ _ hi.2.2
  rw [ys_sub_ev] at h2
  have h3 : ys_ev r (([], (len : Int) - 1) : ys_L) = (len : Int) - 1 := Int.zero_add _
  rw [h3] at h2
  obtain ⟨n, hn⟩ := Int.eq_ofNat_of_zero_le h1
  have e1 : (Int32.ofInt (ys_ev r x)).toNatClampNeg = n := by
    show (Int32.ofInt (ys_ev r x)).toInt.toNat = n
    rw [e0, hn]
    rfl
  refine ⟨n, hn, by omega, ?_, e1⟩
  rw [vp_in_iff, e0]
  omega

noncomputable def ys_hiald (sh : List ys_C) (pc : Nat) (b : ys_B) (fds : ys_F) (lv : List (Nat × ys_V)) (sv : List ys_V) : Option (List (Nat × ys_S)) := match sv with
  | .inl (.inl x) :: .inr (some k) :: t => (match sh[k]?, fds.2[k]? with
    | some (.inr y), some a => if decide (y.1 = 0) && ys_inb b x y.2.1 then (match ys_spl b.1 a x with
      | some i => some (ys_cut3 pc b x i (fds, lv, .inl (.inl x) :: .inr (some k) :: t))
      | none => some [(pc + 1, (ys_nw b (ys_rd b.1 a x)).1, fds, lv, .inl (.inl (ys_nw b (ys_rd b.1 a x)).2) :: t)]) else none
    | _, _ => none)
  | _ => none
theorem ys_kiald (hexec : p.tables.exec = Jvm.exec) (hb : c.code = cc) (hK : va_K D cl tys s) (hty : tys[0]? = some (cT 0, .int)) (hd : decode cc pc = .ok (.iaload, 1)) (hs : ys_hiald sh pc b fds lv sv = some succ) (k : ∀ q ∈ succ, ys_W p l e R s m args below meth c Q kc kz D cl ad cT sh A H0 nL mods g0 r0 E q.1 q.2) : ys_W p l e R s m args below meth c Q kc kz D cl ad cT sh A H0 nL mods g0 r0 E pc (b, fds, lv, sv) := by
  unfold ys_hiald at hs
  split at hs
  · rename_i x kc t
    split at hs
    · rename_i y a hsh har
      split at hs
      · rename_i hc
        rw [Bool.and_eq_true, decide_eq_true_eq] at hc
        obtain ⟨hkd, hin⟩ := hc
        split at hs
        · rename_i i hi
          cases Option.some.inj hs
          intro r H locs ls st h
          exact ys_kcut3 h (h.2.1.2.2.2 (.inl (.inl x)) List.mem_cons_self) k
        cases Option.some.inj hs
        have k := k _ List.mem_cons_self
        intro r H locs ls st h
        obtain ⟨st1, e1, g1, hx⟩ := ys_rep_pop h
        obtain ⟨st2, e2, g2, -⟩ := ys_rep_pop g1
        subst e1; subst e2
        obtain ⟨g, hg, hP, hD, hS⟩ := g2.2.2.2.1
        obtain ⟨n, e3, hn, hvi, e4⟩ := ys_inb_ok h.1 hin
        have hw := ys_wld_get (ad := ad) (cT := cT) (r := r) (g := g) (fds := fds.1) hsh
        obtain ⟨kd, len, tg⟩ := y
        have hkd : kd = 0 := hkd
        subst hkd
        refine va_iald hexec hb hK hP kc 0 (f := fun j => Int32.ofInt (g kc j)) hw hty hvi hd ?_
        rw [e4]
        obtain ⟨r', hag, hbb, hl, hsc, hst, hval⟩ := ys_Op_nw (P := fun z => z = g kc n) (g kc n) h.1 h.2.1.1 (ys_rd_ok h.1.1 (hg.1 kc a har) e3) rfl
        have h4 := k r' H locs ls _ (ys_rep_push (ys_rep_ext g2 hag hbb hl hsc) (.inl (.inl (ys_nw b (ys_rd b.1 a x)).2)) hst)
        have e5 : ys_den ad r' (.inl (.inl (ys_nw b (ys_rd b.1 a x)).2)) = .int (Int32.ofInt (g kc n)) := by
          show Value.int (Int32.ofInt (ys_ev r' _)) = _
          rw [hval]
        rw [e5] at h4
        exact h4
      · cases hs
    · cases hs
  · cases hs
noncomputable def ys_hlald (sh : List ys_C) (pc : Nat) (b : ys_B) (fds : ys_F) (lv : List (Nat × ys_V)) (sv : List ys_V) : Option (List (Nat × ys_S)) := match sv with
  | .inl (.inl x) :: .inr (some k) :: t => (match sh[k]?, fds.2[k]? with
    | some (.inr y), some a => if decide (y.1 = 1) && ys_inb b x y.2.1 then (match ys_spl b.1 a x with
      | some i => some (ys_cut3 pc b x i (fds, lv, .inl (.inl x) :: .inr (some k) :: t))
      | none => some [(pc + 1, (ys_nw b (ys_rd b.1 a x)).1, fds, lv, .inl (.inr (ys_nw b (ys_rd b.1 a x)).2) :: t)]) else none
    | _, _ => none)
  | _ => none
theorem ys_klald (hexec : p.tables.exec = Jvm.exec) (hb : c.code = cc) (hK : va_K D cl tys s) (hty : tys[1]? = some (cT 1, .long)) (hd : decode cc pc = .ok (.laload, 1)) (hs : ys_hlald sh pc b fds lv sv = some succ) (k : ∀ q ∈ succ, ys_W p l e R s m args below meth c Q kc kz D cl ad cT sh A H0 nL mods g0 r0 E q.1 q.2) : ys_W p l e R s m args below meth c Q kc kz D cl ad cT sh A H0 nL mods g0 r0 E pc (b, fds, lv, sv) := by
  unfold ys_hlald at hs
  split at hs
  · rename_i x kc t
    split at hs
    · rename_i y a hsh har
      split at hs
      · rename_i hc
        rw [Bool.and_eq_true, decide_eq_true_eq] at hc
        obtain ⟨hkd, hin⟩ := hc
        split at hs
        · rename_i i hi
          cases Option.some.inj hs
          intro r H locs ls st h
          exact ys_kcut3 h (h.2.1.2.2.2 (.inl (.inl x)) List.mem_cons_self) k
        cases Option.some.inj hs
        have k := k _ List.mem_cons_self
        intro r H locs ls st h
        obtain ⟨st1, e1, g1, hx⟩ := ys_rep_pop h
        obtain ⟨st2, e2, g2, -⟩ := ys_rep_pop g1
        subst e1; subst e2
        obtain ⟨g, hg, hP, hD, hS⟩ := g2.2.2.2.1
        obtain ⟨n, e3, hn, hvi, e4⟩ := ys_inb_ok h.1 hin
        have hw := ys_wld_get (ad := ad) (cT := cT) (r := r) (g := g) (fds := fds.1) hsh
        obtain ⟨kd, len, tg⟩ := y
        have hkd : kd = 1 := hkd
        subst hkd
        refine va_lald hexec hb hK hP kc 1 (f := fun j => Int64.ofInt (g kc j)) hw hty hvi hd ?_
        rw [e4]
        obtain ⟨r', hag, hbb, hl, hsc, hst, hval⟩ := ys_Op_nw (P := fun z => z = g kc n) (g kc n) h.1 h.2.1.1 (ys_rd_ok h.1.1 (hg.1 kc a har) e3) rfl
        have h4 := k r' H locs ls _ (ys_rep_push (ys_rep_ext g2 hag hbb hl hsc) (.inl (.inr (ys_nw b (ys_rd b.1 a x)).2)) hst)
        have e5 : ys_den ad r' (.inl (.inr (ys_nw b (ys_rd b.1 a x)).2)) = .long (Int64.ofInt (g kc n)) := by
          show Value.long (Int64.ofInt (ys_ev r' _)) = _
          rw [hval]
        rw [e5] at h4
        exact h4
      · cases hs
    · cases hs
  · cases hs
noncomputable def ys_hbald (sh : List ys_C) (pc : Nat) (b : ys_B) (fds : ys_F) (lv : List (Nat × ys_V)) (sv : List ys_V) : Option (List (Nat × ys_S)) := match sv with
  | .inl (.inl x) :: .inr (some k) :: t => (match sh[k]?, fds.2[k]? with
    | some (.inr y), some a => if decide (y.1 = 2) && ys_inb b x y.2.1 then (match ys_spl b.1 a x with
      | some i => some (ys_cut3 pc b x i (fds, lv, .inl (.inl x) :: .inr (some k) :: t))
      | none => some [(pc + 1, (ys_nw b (ys_rd b.1 a x)).1, fds, lv, .inl (.inl (ys_nw b (ys_rd b.1 a x)).2) :: t)]) else none
    | _, _ => none)
  | _ => none
theorem ys_kbald (hexec : p.tables.exec = Jvm.exec) (hb : c.code = cc) (hK : va_K D cl tys s) (hty : tys[2]? = some (cT 2, .byte)) (hd : decode cc pc = .ok (.baload, 1)) (hs : ys_hbald sh pc b fds lv sv = some succ) (k : ∀ q ∈ succ, ys_W p l e R s m args below meth c Q kc kz D cl ad cT sh A H0 nL mods g0 r0 E q.1 q.2) : ys_W p l e R s m args below meth c Q kc kz D cl ad cT sh A H0 nL mods g0 r0 E pc (b, fds, lv, sv) := by
  unfold ys_hbald at hs
  split at hs
  · rename_i x kc t
    split at hs
    · rename_i y a hsh har
      split at hs
      · rename_i hc
        rw [Bool.and_eq_true, decide_eq_true_eq] at hc
        obtain ⟨hkd, hin⟩ := hc
        split at hs
        · rename_i i hi
          cases Option.some.inj hs
          intro r H locs ls st h
          exact ys_kcut3 h (h.2.1.2.2.2 (.inl (.inl x)) List.mem_cons_self) k
        cases Option.some.inj hs
        have k := k _ List.mem_cons_self
        intro r H locs ls st h
        obtain ⟨st1, e1, g1, hx⟩ := ys_rep_pop h
        obtain ⟨st2, e2, g2, -⟩ := ys_rep_pop g1
        subst e1; subst e2
        obtain ⟨g, hg, hP, hD, hS⟩ := g2.2.2.2.1
        obtain ⟨n, e3, hn, hvi, e4⟩ := ys_inb_ok h.1 hin
        have hw := ys_wld_get (ad := ad) (cT := cT) (r := r) (g := g) (fds := fds.1) hsh
        obtain ⟨kd, len, tg⟩ := y
        have hkd : kd = 2 := hkd
        subst hkd
        refine va_bald hexec hb hK hP kc 2 (f := fun j => Int32.ofInt (g kc j)) hw hty hvi hd ?_
        rw [e4]
        obtain ⟨r', hag, hbb, hl, hsc, hst, hval⟩ := ys_Op_nw (P := fun z => z = g kc n) (g kc n) h.1 h.2.1.1 (ys_rd_ok h.1.1 (hg.1 kc a har) e3) rfl
        have h4 := k r' H locs ls _ (ys_rep_push (ys_rep_ext g2 hag hbb hl hsc) (.inl (.inl (ys_nw b (ys_rd b.1 a x)).2)) hst)
        have e5 : ys_den ad r' (.inl (.inl (ys_nw b (ys_rd b.1 a x)).2)) = .int (Int32.ofInt (g kc n)) := by
          show Value.int (Int32.ofInt (ys_ev r' _)) = _
          rw [hval]
        rw [e5] at h4
        exact h4
      · cases hs
    · cases hs
  · cases hs
noncomputable def ys_hzald (sh : List ys_C) (pc : Nat) (b : ys_B) (fds : ys_F) (lv : List (Nat × ys_V)) (sv : List ys_V) : Option (List (Nat × ys_S)) := match sv with
  | .inl (.inl x) :: .inr (some k) :: t => (match sh[k]?, fds.2[k]? with
    | some (.inr y), some a => if decide (y.1 = 3) && ys_inb b x y.2.1 then (match ys_spl b.1 a x with
      | some i => some (ys_cut3 pc b x i (fds, lv, .inl (.inl x) :: .inr (some k) :: t))
      | none => some [(pc + 1, (ys_nw b (ys_rd b.1 a x)).1, fds, lv, .inl (.inl (ys_nw b (ys_rd b.1 a x)).2) :: t)]) else none
    | _, _ => none)
  | _ => none
theorem ys_kzald (hexec : p.tables.exec = Jvm.exec) (hb : c.code = cc) (hK : va_K D cl tys s) (hty : tys[3]? = some (cT 3, .boolean)) (hd : decode cc pc = .ok (.baload, 1)) (hs : ys_hzald sh pc b fds lv sv = some succ) (k : ∀ q ∈ succ, ys_W p l e R s m args below meth c Q kc kz D cl ad cT sh A H0 nL mods g0 r0 E q.1 q.2) : ys_W p l e R s m args below meth c Q kc kz D cl ad cT sh A H0 nL mods g0 r0 E pc (b, fds, lv, sv) := by
  unfold ys_hzald at hs
  split at hs
  · rename_i x kc t
    split at hs
    · rename_i y a hsh har
      split at hs
      · rename_i hc
        rw [Bool.and_eq_true, decide_eq_true_eq] at hc
        obtain ⟨hkd, hin⟩ := hc
        split at hs
        · rename_i i hi
          cases Option.some.inj hs
          intro r H locs ls st h
          exact ys_kcut3 h (h.2.1.2.2.2 (.inl (.inl x)) List.mem_cons_self) k
        cases Option.some.inj hs
        have k := k _ List.mem_cons_self
        intro r H locs ls st h
        obtain ⟨st1, e1, g1, hx⟩ := ys_rep_pop h
        obtain ⟨st2, e2, g2, -⟩ := ys_rep_pop g1
        subst e1; subst e2
        obtain ⟨g, hg, hP, hD, hS⟩ := g2.2.2.2.1
        obtain ⟨n, e3, hn, hvi, e4⟩ := ys_inb_ok h.1 hin
        have hw := ys_wld_get (ad := ad) (cT := cT) (r := r) (g := g) (fds := fds.1) hsh
        obtain ⟨kd, len, tg⟩ := y
        have hkd : kd = 3 := hkd
        subst hkd
        refine va_zald hexec hb hK hP kc 3 (f := fun j => Int32.ofInt (g kc j)) hw hty hvi hd ?_
        rw [e4]
        obtain ⟨r', hag, hbb, hl, hsc, hst, hval⟩ := ys_Op_nw (P := fun z => z = g kc n) (g kc n) h.1 h.2.1.1 (ys_rd_ok h.1.1 (hg.1 kc a har) e3) rfl
        have h4 := k r' H locs ls _ (ys_rep_push (ys_rep_ext g2 hag hbb hl hsc) (.inl (.inl (ys_nw b (ys_rd b.1 a x)).2)) hst)
        have e5 : ys_den ad r' (.inl (.inl (ys_nw b (ys_rd b.1 a x)).2)) = .int (Int32.ofInt (g kc n)) := by
          show Value.int (Int32.ofInt (ys_ev r' _)) = _
          rw [hval]
        rw [e5] at h4
        exact h4
      · cases hs
    · cases hs
  · cases hs
end YSM
