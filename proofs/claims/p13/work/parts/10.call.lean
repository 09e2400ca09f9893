/-! calls -/
noncomputable def ys_arm (mods : List Nat) : Nat → List ys_R → List ys_R → List ys_R
  | i, a :: t, a' :: u => (if mods.contains i then a' else a) :: ys_arm mods (i + 1) t u
  | _, _, _ => []
theorem ys_arm_get (mods : List Nat) : ∀ (x y : List ys_R) (i k : Nat) (z : ys_R), (ys_arm mods i x y)[k]? = some z → (i + k ∈ mods ∧ y[k]? = some z) ∨ (i + k ∉ mods ∧ x[k]? = some z)
  | a :: t, a' :: u, i, k, z, h => by
    unfold ys_arm at h
    cases k with
    | zero =>
      have h := Option.some.inj h
      by_cases hc : mods.contains i = true
      · rw [if_pos hc] at h
        exact Or.inl ⟨by simpa using hc, by rw [← h]; rfl⟩
      · rw [if_neg hc] at h
        exact Or.inr ⟨by simpa using hc, by rw [← h]; rfl⟩
    | succ k =>
      have h := ys_arm_get mods t u (i + 1) k z h
      rw [show i + 1 + k = i + (k + 1) by omega] at h
      exact h
  | [], y, i, k, z, h => by
    unfold ys_arm at h
    cases h
  | _ :: _, [], i, k, z, h => by
    unfold ys_arm at h
    cases h
noncomputable def ys_tau (n : Nat) (t : List ys_L) (a : ys_A) : List ys_L := t ++ (List.range a.1.length).map fun j => ys_sym (n + j)
noncomputable def ys_aft (pc : Nat) (b : ys_B) (fds : ys_F) (lv : List (Nat × ys_V)) (rest : List ys_V) (K : ys_K) (t : List ys_L) (a : ys_A) : List (Nat × ys_S) := match ys_ass (b.1 ++ a.1, b.2) (a.2.1.map (ys_put 0 (ys_tau b.1.length t a))) with
  | some b' => [(pc, b', (a.2.2.1.1.map (fun w => w.map (ys_pV 0 (ys_tau b.1.length t a))), ys_arm K.2.2.2 0 fds.2 a.2.2.1.2), lv, a.2.2.2.toList.map (ys_pV 0 (ys_tau b.1.length t a)) ++ rest)]
  | none => []
theorem ys_tau_get {n : Nat} {t : List ys_L} {a : ys_A} (i : Nat) : (ys_tau n t a).getD i ([], 0) = if i < t.length then t.getD i ([], 0) else if i < t.length + a.1.length then ys_sym (n + (i - t.length)) else ([], 0) := by
  unfold ys_tau
  rw [List.getD_eq_getElem?_getD]
  by_cases h1 : i < t.length
  · rw [if_pos h1, List.getElem?_append_left h1, ← List.getD_eq_getElem?_getD]
  · rw [if_neg h1, List.getElem?_append_right (by omega), List.getElem?_map]
    by_cases h2 : i < t.length + a.1.length
    · rw [if_pos h2, List.getElem?_range (by omega)]
      rfl
    · rw [if_neg h2, List.getElem?_eq_none (by rw [List.length_range]; omega)]
      rfl
section YSC
variable {p : Program} {l : Launch} {e : Env} {R : Room} {s : State} {m : MethodId} {args : Array Value} {below : List Frame} {meth : Method} {c : Code} {Q : State → Prop} {kc kz : Nat} {D : va_G} {cl : List vw_C} {ad : Nat → Nat} {cT : Nat → ClassId} {sh : List ys_C} {A : Nat → Prop} {H0 : Heap} {nL : Nat} {mods : List Nat} {g0 : Nat → Nat → Int} {r0 : Nat → Int} {E : Nat} {pc : Nat} {b : ys_B} {fds : ys_F} {lv : List (Nat × ys_V)} {sv : List ys_V} {succ : List (Nat × ys_S)} {cc : ByteArray} {own : String} {Ts : List Cond} {tys : List (ClassId × FieldType)}
variable {G : List Cond} {K : ys_K}
theorem ys_kaft {t : List ys_L} {a : ys_A} {r : Nat → Int} {H H1 : Heap} {locs locs1 : List Loc} {ls : Array Slot} {st : List Value} {g : Nat → Nat → Int} {v : Option Value} {t1 : State} (h : ys_rep D cl ad cT sh A H0 nL mods g0 r0 r E (b, fds, lv, sv) H locs ls st) (hg : ys_gok mods fds.2 g0 g) (ht : ∀ x ∈ t, ys_stb b.1.length x) (hlen : t.length = K.2.1.2.1.1.length) (hm : ∀ k, k ∈ K.2.2.2 → k ∈ mods) (hA : ys_Alt D cl ad cT sh tys K (ys_val r 0 t) g H.size a (.returned v) t1) (hH1 : t1.heap = H1) (hF : ∀ q, va_A (ys_wK ad cT sh K (ys_val r 0 t) g) H.size q → A q) (hS1 : va_S A H0 H1 locs1) (k : ∀ q ∈ ys_aft pc b fds lv sv K t a, ys_W p l e R s m args below meth c Q kc kz D cl ad cT sh A H0 nL mods g0 r0 E q.1 q.2) : W p l e R s m args below meth c H1 locs1 kc kz Q (F0 m pc ls (v.toList ++ st)) := by
  obtain ⟨r1, g1, a1, a2, a3, a4, a5, a6, a7, a8, a9⟩ := hA
  obtain ⟨r', hr'⟩ : ∃ r' : Nat → Int, r' = fun i => if i < b.1.length then r i else r1 (t.length + (i - b.1.length)) := ⟨_, rfl⟩
  have hlo : ∀ i, i < b.1.length → r' i = r i := fun i hi => by rw [hr']; exact if_pos hi
  have hhi : ∀ j, r' (b.1.length + j) = r1 (t.length + j) := fun j => by
    rw [hr']
    show (if b.1.length + j < b.1.length then _ else _) = _
    rw [if_neg (by omega), show b.1.length + j - b.1.length = j by omega]
  have hv : ys_val r' 0 (ys_tau b.1.length t a) = r1 := by
    funext i
    show ys_ev r' (ys_at 0 (ys_tau b.1.length t a) i) = r1 i
    unfold ys_at
    rw [if_neg (by omega), Nat.sub_zero, ys_tau_get]
    by_cases h1 : i < t.length
    · rw [if_pos h1]
      have e1 : ys_val r 0 t i = ys_ev r (t.getD i ([], 0)) := by
        show ys_ev r (ys_at 0 t i) = _
        unfold ys_at
        rw [if_neg (by omega), Nat.sub_zero]
      have hmem : ys_stb b.1.length (t.getD i ([], 0)) := by
        rw [List.getD_eq_getElem?_getD, List.getElem?_eq_getElem h1]
        exact ht _ (List.getElem_mem h1)
      rw [hmem r' r hlo, ← e1, a1 i (by omega)]
    · rw [if_neg h1]
      by_cases h2 : i < t.length + a.1.length
      · rw [if_pos h2, ys_sym_ev, hhi, show t.length + (i - t.length) = i by omega]
      · rw [if_neg h2, a2 i (by omega)]
        rfl
  have hlen2 : (b.1 ++ a.1).length = b.1.length + a.1.length := List.length_append
  have hok : ys_okB r' (b.1 ++ a.1, b.2) := by
    refine ⟨fun i w hi => ?_, fun f hf => ?_⟩
    · by_cases hl : i < b.1.length
      · rw [List.getElem?_append_left hl] at hi
        rw [hlo i hl]
        exact h.1.1 i w hi
      · rw [List.getElem?_append_right (by omega)] at hi
        have e2 := hhi (i - b.1.length)
        rw [show b.1.length + (i - b.1.length) = i by omega] at e2
        rw [e2, hlen]
        exact a3 _ w hi
    · rw [h.2.1.1 f hf r' r hlo]
      exact h.1.2 f hf
  have hfk : ys_fk r' (a.2.1.map (ys_put 0 (ys_tau b.1.length t a))) := by
    intro f hf
    obtain ⟨f0, hf0, e0⟩ := List.mem_map.mp hf
    rw [← e0, ys_put_ev, hv]
    exact a4 f0 hf0
  have htt : ∀ x ∈ ys_tau b.1.length t a, ys_stb (b.1.length + a.1.length) x := by
    intro x hx
    unfold ys_tau at hx
    rcases List.mem_append.mp hx with q | q
    · exact ys_stb_mono (ht x q) (by omega)
    · obtain ⟨j, hj, e0⟩ := List.mem_map.mp q
      rw [← e0]
      exact ys_stb_sym (by have := List.mem_range.mp hj; omega)
  obtain ⟨b', eb, hb'⟩ := ys_ass_ok _ hok hfk
  have hl' := ys_ass_len _ eb
  have hl' : b'.1.length = b.1.length + a.1.length := hl'.trans hlen2
  have hscb : ys_scB ((b.1 ++ a.1, b.2) : ys_B) := fun f hf => by
    show ys_stb (b.1 ++ a.1).length f
    rw [hlen2]
    exact ys_stb_mono (m := b.1.length + a.1.length) (h.2.1.1 f hf) (Nat.le_add_right _ _)
  have hsc' := ys_ass_sc (n := b.1.length + a.1.length) _ hlen2 hscb (fun f hf => by
    obtain ⟨f0, hf0, e0⟩ := List.mem_map.mp hf
    rw [← e0]
    exact ys_stb_put (by omega) htt f0) eb
  unfold ys_aft at k
  rw [eb] at k
  have k := k _ List.mem_cons_self
  have hrow : ∀ kk, ((a.2.2.1.1.map (fun w => w.map (ys_pV 0 (ys_tau b.1.length t a)))).getD kk []).map (ys_den ad r') = (a.2.2.1.1.getD kk []).map (ys_den ad r1) := by
    intro kk
    rw [List.getD_eq_getElem?_getD, List.getD_eq_getElem?_getD, List.getElem?_map]
    cases a.2.2.1.1[kk]? with
    | none => rfl
    | some w =>
      show (w.map (ys_pV 0 (ys_tau b.1.length t a))).map (ys_den ad r') = w.map (ys_den ad r1)
      rw [List.map_map]
      apply List.map_congr_left
      intro x _
      show ys_den ad r' (ys_pV 0 _ x) = _
      rw [ys_pV_den, hv]
  have ew := ys_wld_eq (cT := cT) (sh := sh) (g := g1) hrow
  obtain ⟨-, ⟨s0, s1, s2, s3⟩, ⟨hE, hr0⟩, -, q4, q5⟩ := h
  have hst : v.toList ++ st = (a.2.2.2.toList.map (ys_pV 0 (ys_tau b.1.length t a)) ++ sv).map (ys_den ad r') := by
    rw [List.map_append, q5]
    have e3 : v = a.2.2.2.map (ys_den ad r1) := by
      have := a9
      cases this
      rfl
    congr 1
    · rw [e3]
      cases a.2.2.2 with
      | none => rfl
      | some x =>
        show [ys_den ad r1 x] = [ys_den ad r' (ys_pV 0 _ x)]
        rw [ys_pV_den, hv]
    · exact List.map_congr_left fun x hx => ys_den_cong (fun i hi => (hlo i hi).symm) (s3 x hx)
  refine k r' H1 locs1 ls _ ⟨hb', ⟨hsc', fun w hw x hx => ?_, fun q hq => ?_, fun x hx => ?_⟩, ⟨by show E ≤ b'.1.length; rw [hl']; exact Nat.le_trans hE (by show b.1.length ≤ _; omega), fun i hi => (hlo i (Nat.lt_of_lt_of_le hi hE)).trans (hr0 i hi)⟩, ⟨g1, ⟨fun kk z hz => ?_, fun kk hk => ?_⟩, ?_, ?_, hS1⟩, ?_, hst⟩
  · obtain ⟨w0, -, e0⟩ := List.mem_map.mp hw
    rw [← e0] at hx
    obtain ⟨x0, -, e1⟩ := List.mem_map.mp hx
    rw [← e1]
    show ys_stV b'.1.length _
    rw [hl']
    exact ys_pV_st (by omega) htt x0
  · show ys_stV b'.1.length _
    rw [hl']
    exact ys_stV_mono (s2 q hq) (by show b.1.length ≤ _; omega)
  · show ys_stV b'.1.length _
    rw [hl']
    rcases List.mem_append.mp hx with q | q
    · obtain ⟨x0, -, e1⟩ := List.mem_map.mp q
      rw [← e1]
      exact ys_pV_st (by omega) htt x0
    · exact ys_stV_mono (s3 x q) (by show b.1.length ≤ _; omega)
  · rcases ys_arm_get _ _ _ 0 kk z hz with ⟨-, h2⟩ | ⟨h1, h2⟩
    · exact a5.1 kk z h2
    · rw [Nat.zero_add] at h1
      rw [a5.2 kk h1]
      exact hg.1 kk z h2
  · rw [a5.2 kk (fun q => hk (hm kk q))]
    exact hg.2 kk hk
  · show va_P D cl (ys_wld ad cT sh r' g1 (a.2.2.1.1.map fun w => w.map (ys_pV 0 (ys_tau b.1.length t a)))) H1
    rw [ew, ← hH1]
    exact a6
  · show va_D A (ys_wld ad cT sh r' g1 (a.2.2.1.1.map fun w => w.map (ys_pV 0 (ys_tau b.1.length t a))))
    rw [ew]
    exact a7.weaken (fun _ q _ hq => hF q.1 hq)
  · have e4 : ys_lvs ad r lv = ys_lvs ad r' lv := List.map_congr_left fun q hq => by rw [ys_den_cong (fun i hi => (hlo i hi).symm) (s2 q hq)]
    exact e4 ▸ q4
/-- a call by its contract -/
noncomputable def ys_hcall (fr lo : Nat) (mods : List Nat) (K : ys_K) (pc : Nat) (b : ys_B) (fds : ys_F) (lv : List (Nat × ys_V)) (sv : List ys_V) : Option (List (Nat × ys_S)) := match ys_zf K.2.1.2.2.1 fds.1 with
  | some fp => if decide (K.2.1.1.length ≤ sv.length) && (decide (((sv.drop K.2.1.1.length).map ys_cat).sum ≤ 8) && (decide (K.1.2.1 + 1 ≤ fr) && (decide (8 + (K.1.1.2.2.1 + 11) + K.1.2.2 ≤ lo) && K.2.2.2.all (fun k => mods.contains k)))) then (match ys_mat b fds.2 0 K.2.1.2.1.1 K.2.1.2.1.2 K.2.1.2.2.2 (K.2.1.1.zip (sv.take K.2.1.1.length).reverse ++ fp) with
      | some t => some (K.2.2.1.flatMap fun a => ys_aft (pc + 3) b fds lv (sv.drop K.2.1.1.length) K t a)
      | none => none) else none
  | none => none
/-- what a call's link says: a method of an object, or of none -/
noncomputable def ys_CL (own : String) (Ts : List Cond) (cl : List vw_C) (sh : List ys_C) (G : List Cond) (i : Instr) (K : ys_K) : Prop :=
  (∃ (idx k ci : Nat) (C : String) (T : u_T) (N : Nat) (as : List ys_V), i = .invokevirtual idx ∧ K.2.1.1 = .inr (some k) :: as ∧ sh[k]? = some (.inl ci) ∧ cl[ci]? = some (C, T, N) ∧ GoodIn Ts (wsV own idx C K.1.1.1 (ys_ws G K)) ∧ (K.1.1.1.cls = C ∧ K.1.1.1.cls ≠ "java/lang/invoke/MethodHandle" ∧ K.1.1.1.cls ≠ "java/lang/invoke/VarHandle" ∧ (parseMethodDescriptor K.1.1.1.desc).map (fun d => d.parameters.length) = some as.length)) ∨
  (∃ idx : Nat, i = .invokestatic idx ∧ GoodIn Ts (va_wsS own idx K.1.1.1 (ys_ws G K)) ∧ (K.1.1.1.cls ≠ "java/lang/invoke/MethodHandle" ∧ K.1.1.1.cls ≠ "java/lang/invoke/VarHandle" ∧ (parseMethodDescriptor K.1.1.1.desc).map (fun d => d.parameters.length) = some K.2.1.1.length))
theorem ys_blind {r0 : Nat → Int} {g : Nat → Nat → Int} {sz : Nat} : FrameBlind (ys_Pre D cl ad cT sh tys K r0 g sz) := fun a U g mk q => by
  obtain ⟨q0, q1, qP, qK, qD⟩ := q
  exact ⟨q0, q1, qP, va_K.moved (u := U) (U := U.calling g mk a) (Vm.Alike.refl U.vm) qK, qD⟩
theorem ys_cats (l : List ys_V) (r : Nat → Int) : ((l.map (ys_den ad r)).map fun v => v.category).sum = (l.map ys_cat).sum := by
  rw [List.map_map]
  congr 1
  apply List.map_congr_left
  intro v _
  exact ys_cat_den ad r v
theorem ys_kcall {i : Instr} {fr lo : Nat} (S : CallFix p m c cc nL s args Ts own) (hK : va_K D cl tys s) (hA0 : ∀ q, H0.size ≤ q → A q) (hcon : ys_Con l D cl ad cT sh tys G K) (hCL : ys_CL own Ts cl sh G i K) (hd : decode cc pc = .ok (i, 3)) (hfr : fr ≤ R.frames) (hlo : lo ≤ R.locals) (hkk : kc ≤ R.cells ∧ kz ≤ R.slots) (hs : ys_hcall fr lo mods K pc b fds lv sv = some succ) (k : ∀ q ∈ succ, ys_W p l e R s m args below meth c Q kc kz D cl ad cT sh A H0 nL mods g0 r0 E q.1 q.2) : ys_W p l e R s m args below meth c Q kc kz D cl ad cT sh A H0 nL mods g0 r0 E pc (b, fds, lv, sv) := by
  unfold ys_hcall at hs
  split at hs
  · rename_i fp hfp
    split at hs
    · rename_i hc
      rw [Bool.and_eq_true, Bool.and_eq_true, Bool.and_eq_true, Bool.and_eq_true, decide_eq_true_eq, decide_eq_true_eq, decide_eq_true_eq, decide_eq_true_eq] at hc
      obtain ⟨c1, c2, c3, c4, c5⟩ := hc
      split at hs
      · rename_i t hmat
        cases Option.some.inj hs
        intro r H locs ls st h
        obtain ⟨et, e2, e3, e4, e5, e6, e7⟩ := ys_mat_ok (ad := ad) h.1 hmat
        obtain ⟨g, hg, hP, hD, hS⟩ := h.2.2.2.1
        have hsv : sv = sv.take K.2.1.1.length ++ sv.drop K.2.1.1.length := (List.take_append_drop _ _).symm
        have hst2 : ∀ q ∈ K.2.1.1.zip (sv.take K.2.1.1.length).reverse ++ fp, ys_stV b.1.length q.2 := by
          intro q hq
          rcases List.mem_append.mp hq with g1 | g1
          · exact h.2.1.2.2.2 _ (List.mem_of_mem_take (List.mem_reverse.mp (List.of_mem_zip g1).2))
          · obtain ⟨w, h1, h2⟩ := ys_zf_mem _ _ _ hfp q g1
            exact h.2.1.2.1 w h1 _ h2
        have htst : ∀ x ∈ t, ys_stb b.1.length x := by
          rw [et]
          exact ys_col_st _ _ hst2
        have ew : ys_wK ad cT sh K (ys_val r 0 t) g = ys_wld ad cT sh r g fds.1 := ys_wld_eq (ys_zf_ok _ _ _ hfp (fun q hq => e5 q (List.mem_append_right _ hq)))
        have hargs : K.2.1.1.map (ys_den ad (ys_val r 0 t)) = ((sv.take K.2.1.1.length).reverse).map (ys_den ad r) := ys_zip_map _ _ (by rw [List.length_reverse, List.length_take]; omega) (fun q hq => e5 q (List.mem_append_left _ hq))
        have hokB : ys_okB (ys_val r 0 t) K.2.1.2.1 := ⟨fun j q hj => by
          have := e3 j q hj
          rw [Nat.zero_add] at this
          exact this, e4⟩
        have har : ∀ (kk : Nat) (a : ys_R), K.2.1.2.2.2[kk]? = some a → ys_rok a (g kk) := fun kk a ha => by
          obtain ⟨a0, h1, h2⟩ := e7 kk a ha
          exact ys_rle_ok h2 (hg.1 kk a0 h1)
        have hM := hcon (ys_val r 0 t) g H.size hokB har
        have hP' : va_P D cl (ys_wK ad cT sh K (ys_val r 0 t) g) H := by rw [ew]; exact hP
        have hD' : va_D A (ys_wK ad cT sh K (ys_val r 0 t) g) := by rw [ew]; exact hD
        have hF : ∀ q, va_A (ys_wK ad cT sh K (ys_val r 0 t) g) H.size q → A q := by
          intro q hq
          rcases hq with ⟨kk, x, hx⟩ | hq
          · exact hD'.2 kk (q, x) hx
          · exact hA0 q (Nat.le_trans hS.1 hq)
        have hpre : ∀ U : State, U.heap = H → s.WarmedH U.vm → ys_Pre D cl ad cT sh tys K (ys_val r 0 t) g H.size (K.2.1.1.map (ys_den ad (ys_val r 0 t))).toArray U := fun U hU hW => ⟨rfl, by rw [hU], by rw [hU]; exact hP', va_K.moved hW.alike hK, hD'.weaken (fun _ _ _ _ => trivial)⟩
        have hrest : 2 * (F0 m pc ls st).monitorRoom + (((sv.drop K.2.1.1.length).map (ys_den ad r)).map fun v => v.category).sum ≤ 8 := lv_room (rest := st) (by rw [ys_cats]; exact c2)
        have hfull : st = (K.2.1.1.map (ys_den ad (ys_val r 0 t))).reverse ++ (sv.drop K.2.1.1.length).map (ys_den ad r) := by
          rw [hargs, ← List.map_reverse, List.reverse_reverse, ← List.map_append, ← hsv]
          exact h.2.2.2.2.2
        have hgo : va_Run p l e R s m args below meth c H locs kc kz 0 0 (F0 m pc ls st) ((sv.drop K.2.1.1.length).map (ys_den ad r)) (ys_Post D cl ad cT sh tys K (ys_val r 0 t) g H.size (K.2.1.1.map (ys_den ad (ys_val r 0 t))).toArray) (va_A (ys_wK ad cT sh K (ys_val r 0 t) g) H.size) := by
          rcases hCL with ⟨idx, kc, ci, C, T, N, as, ei, ea, h1, h2, h3, h4⟩ | ⟨idx, ei, h3, h4⟩
          · subst ei
            have hw := ys_wld_get (ad := ad) (cT := cT) (r := ys_val r 0 t) (g := g) (fds := K.2.1.2.2.1) h1
            rw [ea] at hpre hfull ⊢
            rw [List.map_cons] at hpre hfull ⊢
            rw [List.reverse_cons, List.append_assoc] at hfull
            have hlen : (as.map (ys_den ad (ys_val r 0 t))).length = as.length := List.length_map _
            exact va_runV (C := C) (b := ad kc) (As := as.map (ys_den ad (ys_val r 0 t))) S hM (cwV as.length S.2.2.2.2 h3 rfl rfl rfl h4 ⟨Nat.le_trans c3 hfr, Nat.le_trans c4 hlo⟩) ⟨ys_blind, va_recv hK hP' h2 hw, hpre⟩ rfl hlen h.2.2.2.2.1.1 hfull (by rw [ea] at hrest; exact hrest) hd hkk
          · subst ei
            exact va_runS (As := K.2.1.1.map (ys_den ad (ys_val r 0 t))) S hM (va_cwS K.2.1.1.length S.2.2.2.2 h3 rfl rfl rfl h4 ⟨Nat.le_trans c3 hfr, Nat.le_trans c4 hlo⟩) ⟨ys_blind, hpre⟩ rfl (List.length_map _) h.2.2.2.2.1.1 hfull hrest hd hkk
        intro T hT X
        obtain ⟨v, st₀, t1, T', L, h0, X', hL, f1, f2, ⟨⟨a, ha, hAlt⟩, hz, hk⟩, stp⟩ := hgo T hT X
        rw [h0] at hz hk
        have hrep2 : ys_rep D cl ad cT sh A H0 nL mods g0 r0 r E (b, fds, lv, sv.drop K.2.1.1.length) H locs ls ((sv.drop K.2.1.1.length).map (ys_den ad r)) := by
          obtain ⟨q1, ⟨s0, s1, s2, s3⟩, q2, q3, q4, q5⟩ := h
          exact ⟨q1, ⟨s0, s1, s2, fun x hx => s3 x (List.mem_of_mem_drop hx)⟩, q2, q3, q4, rfl⟩
        have hm : ∀ kk, kk ∈ K.2.2.2 → kk ∈ mods := fun kk hkk => by
          have := List.all_eq_true.mp c5 kk hkk
          simpa using this
        obtain ⟨t2, a1, b1⟩ := ys_kaft (H1 := T'.heap) (locs1 := locs ++ L) hrep2 hg htst e2 hm hAlt f1.symm hF ⟨Nat.le_trans hS.1 (by rw [f1]; exact hz), fun q h1 h2 => by rw [f1, hk q (Nat.lt_of_lt_of_le h1 hS.1) (fun z => h2 (hF q z))]; exact hS.2.1 q h1 h2, fun q hq => by
          rcases List.mem_append.mp hq with g1 | g1
          · exact hS.2.2 q g1
          · exact hF _ (hL q g1)⟩ (fun q hq => k q (List.mem_flatMap.mpr ⟨a, ha, hq⟩)) T' rfl X'
        exact ⟨t2, stp t2 a1, b1⟩
      · cases hs
    · cases hs
  · cases hs
end YSC

