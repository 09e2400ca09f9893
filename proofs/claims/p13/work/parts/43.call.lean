/-! a call by a contract over a part of the world -/
noncomputable def yt_rV (em : List Nat) (v : ys_V) : ys_V := match v with
  | .inl x => .inl x
  | .inr none => .inr none
  | .inr (some j) => .inr (some (yt_e em j))
theorem yt_rV_den {ad : Nat → Nat} {r : Nat → Int} {em : List Nat} (v : ys_V) : ys_den ad r (yt_rV em v) = ys_den (fun k => ad (yt_e em k)) r v := by
  rcases v with (x | x) | x
  · rfl
  · rfl
  · cases x <;> rfl
theorem yt_rV_st {n : Nat} {em : List Nat} {v : ys_V} (h : ys_stV n v) : ys_stV n (yt_rV em v) := by
  rcases v with (x | x) | x
  · exact h
  · exact h
  · cases x <;> trivial
theorem yt_rV_cat {em : List Nat} {v : ys_V} : ys_cat (yt_rV em v) = ys_cat v := by
  rcases v with (x | x) | x
  · rfl
  · rfl
  · cases x <;> rfl
/-- where a cell stands among others -/
noncomputable def yt_ix (j : Nat) : Nat → List Nat → Option Nat
  | _, [] => none
  | i, x :: t => if x = j then some i else yt_ix j (i + 1) t
theorem yt_ix_some {j k : Nat} : ∀ (l : List Nat) (i : Nat), yt_ix j i l = some k → ∃ n, k = i + n ∧ l[n]? = some j
  | [], i, h => by cases h
  | x :: t, i, h => by
    unfold yt_ix at h
    split at h
    · rename_i e
      cases Option.some.inj h
      exact ⟨0, rfl, by rw [e]; rfl⟩
    · obtain ⟨n, h1, h2⟩ := yt_ix_some t (i + 1) h
      exact ⟨n + 1, by omega, h2⟩
theorem yt_ix_none {j : Nat} : ∀ (l : List Nat) (i : Nat), yt_ix j i l = none → j ∉ l
  | [], i, _ => List.not_mem_nil
  | x :: t, i, h => by
    unfold yt_ix at h
    split at h
    · cases h
    · rename_i e
      intro hm
      rcases List.mem_cons.mp hm with q | q
      · exact e q.symm
      · exact yt_ix_none t (i + 1) h q
noncomputable def yt_shok1 (em : List Nat) (c' : ys_C) (c : Option ys_C) : Bool := match c', c with
  | .inl ci, some (.inl cj) => decide (ci = cj)
  | .inr a, some (.inr a2) => decide (a2 = (a.1, a.2.1, a.2.2.map (yt_e em)))
  | _, _ => false
noncomputable def yt_shok (em : List Nat) (sh' sh : List ys_C) : Bool := decide (sh'.length ≤ em.length) && (va_nd em && (em.all (fun j => decide (j < 100000)) && (sh'.zip em).all (fun q => yt_shok1 em q.1 sh[q.2]?)))
theorem yt_con_eq {ad : Nat → Nat} {em : List Nat} {f : Nat → Int} {a : Nat × Nat × List Nat} : ys_con (fun k => ad (yt_e em k)) f a = ys_con ad f (a.1, a.2.1, a.2.2.map (yt_e em)) := by
  unfold ys_con
  have e1 : (fun j : Nat => (a.2.2[j]?).map fun k => ad (yt_e em k)) = fun j : Nat => ((a.2.2.map (yt_e em))[j]?).map ad := by
    funext j
    rw [List.getElem?_map, Option.map_map]
    rfl
  rw [e1]
theorem yt_cel_eq {ad : Nat → Nat} {cT : Nat → ClassId} {em : List Nat} {r r' : Nat → Int} {g g' : yt_G} {k j : Nat} {c c' : ys_C} {fs fs' : List ys_V} (hc : yt_shok1 em c' (some c) = true) (hj : yt_e em k = j) (hg : g' k = g j) (hf : fs'.map (ys_den (fun k => ad (yt_e em k)) r') = fs.map (ys_den ad r)) : ys_cel (fun k => ad (yt_e em k)) cT r' g' k c' fs' = ys_cel ad cT r g j c fs := by
  subst hj
  cases c' with
  | inl ci =>
    cases c with
    | inl cj =>
      have e1 : ci = cj := of_decide_eq_true hc
      show (ad (yt_e em k), Sum.inr (ci, _)) = (ad (yt_e em k), Sum.inr (cj, _))
      rw [hf, e1]
    | inr a2 => cases hc
  | inr a =>
    cases c with
    | inl cj => cases hc
    | inr a2 =>
      have e1 : a2 = (a.1, a.2.1, a.2.2.map (yt_e em)) := of_decide_eq_true hc
      subst e1
      show (ad (yt_e em k), Sum.inl (cT a.1, ys_con (fun k => ad (yt_e em k)) (g' k) a)) = (ad (yt_e em k), Sum.inl (cT a.1, ys_con ad (g (yt_e em k)) (a.1, a.2.1, a.2.2.map (yt_e em))))
      rw [hg, yt_con_eq]
theorem yt_shok_ok {em : List Nat} {sh' sh : List ys_C} (h : yt_shok em sh' sh = true) : sh'.length ≤ em.length ∧ va_nd em = true ∧ (∀ j ∈ em, j < 100000) ∧ ∀ (k : Nat) (c' : ys_C), sh'[k]? = some c' → ∃ c, em[k]? = some (yt_e em k) ∧ sh[yt_e em k]? = some c ∧ yt_shok1 em c' (some c) = true := by
  unfold yt_shok at h
  rw [Bool.and_eq_true, Bool.and_eq_true, Bool.and_eq_true, decide_eq_true_eq] at h
  obtain ⟨h1, h2, h3, h4⟩ := h
  refine ⟨h1, h2, fun j hj => of_decide_eq_true (List.all_eq_true.mp h3 j hj), fun k c' hk => ?_⟩
  have hlt : k < em.length := by
    have := (List.getElem?_eq_some_iff.mp hk).1
    omega
  have e1 : em[k]? = some (yt_e em k) := by
    unfold yt_e
    rw [List.getD_eq_getElem?_getD, List.getElem?_eq_getElem hlt]
    rfl
  have e2 : (sh'.zip em)[k]? = some (c', yt_e em k) := by
    rw [List.getElem?_zip_eq_some]
    exact ⟨hk, e1⟩
  have e3 := List.all_eq_true.mp h4 _ (List.mem_of_getElem? e2)
  dsimp only at e3
  cases hc : sh[yt_e em k]? with
  | none =>
    rw [hc] at e3
    cases c' <;> cases e3
  | some c =>
    rw [hc] at e3
    exact ⟨c, e1, rfl, e3⟩
theorem yt_wld_sub {ad : Nat → Nat} {cT : Nat → ClassId} {em : List Nat} {sh' sh : List ys_C} (h : yt_shok em sh' sh = true) {r r' : Nat → Int} {g : yt_G} {F F' : List (List ys_V)} (hf : ∀ k, k < sh'.length → (F'.getD k []).map (ys_den (fun k => ad (yt_e em k)) r') = (F.getD (yt_e em k) []).map (ys_den ad r)) (k : Nat) (q : Nat × va_E) (hq : (ys_wld (fun k => ad (yt_e em k)) cT sh' r' (yt_sub em g) F')[k]? = some q) : (ys_wld ad cT sh r g F)[yt_e em k]? = some q := by
  obtain ⟨h1, h2, h3, h4⟩ := yt_shok_ok h
  have hlt : k < sh'.length := by
    have := (List.getElem?_eq_some_iff.mp hq).1
    rw [ys_wld_len] at this
    exact this
  obtain ⟨c, e1, e2, e3⟩ := h4 k _ (List.getElem?_eq_getElem hlt)
  rw [ys_wld_get (List.getElem?_eq_getElem hlt)] at hq
  rw [ys_wld_get e2, ← hq]
  congr 1
  exact (yt_cel_eq e3 rfl rfl (hf k hlt)).symm
/-- rows put back among the others -/
noncomputable def yt_bk {α : Type} (em : List Nat) (rows old : List α) : List α := (List.range old.length).filterMap fun j => match yt_ix j 0 em with
  | some k => rows[k]?
  | none => old[j]?
noncomputable def yt_bkl {α : Type} (em : List Nat) (rows old : List α) : Bool := decide (rows.length = em.length) && em.all (fun j => decide (j < old.length))
theorem yt_fm {α β : Type} {f : α → Option β} : ∀ (l : List α), (∀ x ∈ l, (f x).isSome = true) → ∀ i : Nat, (l.filterMap f)[i]? = (l[i]?).bind f
  | [], _, i => by simp
  | x :: t, h, i => by
    obtain ⟨y, hy⟩ := Option.isSome_iff_exists.mp (h x List.mem_cons_self)
    rw [List.filterMap_cons, hy]
    cases i with
    | zero => simp [hy]
    | succ i =>
      rw [List.getElem?_cons_succ, List.getElem?_cons_succ]
      exact yt_fm t (fun z hz => h z (List.mem_cons_of_mem _ hz)) i
theorem yt_bk_get {α : Type} {em : List Nat} {rows old : List α} (h : yt_bkl em rows old = true) (j : Nat) (hj : j < old.length) : (yt_bk em rows old)[j]? = match yt_ix j 0 em with
    | some k => rows[k]?
    | none => old[j]? := by
  unfold yt_bkl at h
  rw [Bool.and_eq_true, decide_eq_true_eq] at h
  unfold yt_bk
  rw [yt_fm, List.getElem?_range hj]
  · rfl
  · intro x hx
    have hx := List.mem_range.mp hx
    cases hc : yt_ix x 0 em with
    | none =>
      show (old[x]?).isSome = true
      rw [List.getElem?_eq_getElem hx]
      rfl
    | some k =>
      obtain ⟨n, e1, e2⟩ := yt_ix_some em 0 hc
      have := (List.getElem?_eq_some_iff.mp e2).1
      show (rows[k]?).isSome = true
      rw [List.getElem?_eq_getElem (by omega)]
      rfl
theorem yt_bk_len {α : Type} {em : List Nat} {rows old : List α} (h : yt_bkl em rows old = true) : (yt_bk em rows old).length = old.length := by
  have h1 : ∀ j, j < old.length → (yt_bk em rows old)[j]?.isSome = true := fun j hj => by
    rw [yt_bk_get h j hj]
    unfold yt_bkl at h
    rw [Bool.and_eq_true, decide_eq_true_eq] at h
    cases hc : yt_ix j 0 em with
    | none =>
      show (old[j]?).isSome = true
      rw [List.getElem?_eq_getElem hj]
      rfl
    | some k =>
      obtain ⟨n, e1, e2⟩ := yt_ix_some em 0 hc
      have := (List.getElem?_eq_some_iff.mp e2).1
      show (rows[k]?).isSome = true
      rw [List.getElem?_eq_getElem (by omega)]
      rfl
  have h2 : (yt_bk em rows old).length ≤ old.length := by
    unfold yt_bk
    refine Nat.le_trans (List.length_filterMap_le _ _) ?_
    rw [List.length_range]
    exact Nat.le_refl _
  rcases Nat.lt_or_ge (yt_bk em rows old).length old.length with q | q
  · have h3 := h1 _ q
    rw [List.getElem?_eq_none (Nat.le_refl _)] at h3
    cases h3
  · omega
noncomputable def yt_gb (em : List Nat) (g g1 : yt_G) : yt_G := fun j => match yt_ix j 0 em with
  | some k => g1 k
  | none => g j
theorem yt_take_get {em : List Nat} {nc n j : Nat} (h : (em.take nc)[n]? = some j) : n < nc ∧ em[n]? = some j := by
  rw [List.getElem?_take] at h
  split at h
  · rename_i hn
    exact ⟨hn, h⟩
  · cases h
theorem yt_e_get {em : List Nat} {k : Nat} (hk : k < em.length) : em[k]? = some (yt_e em k) := by
  unfold yt_e
  rw [List.getD_eq_getElem?_getD, List.getElem?_eq_getElem hk]
  rfl
theorem yt_gb_sub {em : List Nat} {g g1 : yt_G} {nc : Nat} (hn : va_nd em = true) (hl : ∀ j ∈ em, j < 100000) (hnc : nc ≤ em.length) {mods : List Nat} (hm : ∀ k ∈ mods, k < nc) (hg : ∀ k, k ∉ mods → g1 k = yt_sub em g k) : yt_sub em (yt_gb (em.take nc) g g1) = g1 := by
  funext k
  show yt_gb (em.take nc) g g1 (yt_e em k) = g1 k
  unfold yt_gb
  by_cases hk : k < nc
  · have e1 := yt_e_get (em := em) (k := k) (by omega)
    have e0 : (em.take nc)[k]? = some (yt_e em k) := by
      rw [List.getElem?_take, if_pos hk]
      exact e1
    cases hc : yt_ix (yt_e em k) 0 (em.take nc) with
    | none => exact absurd (List.mem_of_getElem? e0) (yt_ix_none _ 0 hc)
    | some i =>
      obtain ⟨n, e2, e3⟩ := yt_ix_some _ 0 hc
      have e4 := va_nd_inj em hn n k _ (yt_take_get e3).2 e1
      show g1 i = g1 k
      rw [e2, e4, Nat.zero_add]
  · have h2 := hg k (fun h => hk (hm k h))
    cases hc : yt_ix (yt_e em k) 0 (em.take nc) with
    | none =>
      show g (yt_e em k) = g1 k
      rw [h2]
      rfl
    | some i =>
      obtain ⟨n2, e2, e3⟩ := yt_ix_some _ 0 hc
      obtain ⟨f1, f2⟩ := yt_take_get e3
      by_cases hke : k < em.length
      · have := va_nd_inj em hn n2 k _ f2 (yt_e_get hke)
        omega
      · have e1 : yt_e em k = 100000 := by
          unfold yt_e
          rw [List.getD_eq_getElem?_getD, List.getElem?_eq_none (by omega)]
          rfl
        have := hl _ (List.mem_of_getElem? f2)
        omega
/-! contracts with words of their own: what must hold ahead, what holds behind -/
abbrev yt_Ps : Type := (Nat → Int) → yt_G → Prop
abbrev yt_Ph : Type := Nat → (Nat → Int) → yt_G → yt_G → Prop
section YTK
variable (l : Launch) (D : va_G) (cl : List vw_C) (cT : Nat → ClassId) (tys : List (ClassId × FieldType)) (G : List Cond)
noncomputable def yt_Alt (ad : Nat → Nat) (sh : List ys_C) (K : ys_K) (Ph : yt_Ph) (r0 : Nat → Int) (g0 : yt_G) (sz : Nat) (i : Nat) (a : ys_A) (oc : Outcome) (t : State) : Prop := ∃ (r1 : Nat → Int) (g1 : yt_G), ((∀ i, i < K.2.1.2.1.1.length → r1 i = r0 i) ∧ (∀ i, K.2.1.2.1.1.length + a.1.length ≤ i → r1 i = 0) ∧ (∀ (j : Nat) (q : Int × Int), a.1[j]? = some q → q.1 ≤ r1 (K.2.1.2.1.1.length + j) ∧ r1 (K.2.1.2.1.1.length + j) ≤ q.2) ∧ ys_fk r1 a.2.1 ∧ ys_gok K.2.2.2 a.2.2.1.2 g0 g1 ∧ va_P D cl (ys_wld ad cT sh r1 g1 a.2.2.1.1) t.heap ∧ va_D (va_A (ys_wK ad cT sh K r0 g0) sz) (ys_wld ad cT sh r1 g1 a.2.2.1.1) ∧ va_K D cl tys t ∧ oc = .returned (a.2.2.2.map (ys_den ad r1))) ∧ Ph i r1 g0 g1
noncomputable def yt_Post (ad : Nat → Nat) (sh : List ys_C) (K : ys_K) (Ph : yt_Ph) (r0 : Nat → Int) (g0 : yt_G) (sz : Nat) : Array Value → State → Outcome → State → Prop := fun _ st oc t => (∃ (i : Nat) (a : ys_A), K.2.2.1[i]? = some a ∧ yt_Alt D cl cT tys ad sh K Ph r0 g0 sz i a oc t) ∧ va_F (va_A (ys_wK ad cT sh K r0 g0) sz) st t
noncomputable def yt_Con (sh : List ys_C) (K : ys_K) (Ps : yt_Ps) (Ph : yt_Ph) : Prop := ∀ (ad : Nat → Nat) (r0 : Nat → Int) (g0 : yt_G) (sz : Nat), ys_okB r0 K.2.1.2.1 → (∀ i, K.2.1.2.1.1.length ≤ i → r0 i = 0) → (∀ (k : Nat) (a : ys_R), K.2.1.2.2.2[k]? = some a → ys_rok a (g0 k)) → Ps r0 g0 → Met l K.1.1.1 (ys_ws G K) (ys_rm K) (ys_Pre D cl ad cT sh tys K r0 g0 sz) (yt_Post D cl cT tys ad sh K Ph r0 g0 sz) 0 0 (va_A (ys_wK ad cT sh K r0 g0) sz)
end YTK
/-- the state behind a call -/
noncomputable def yt_dR : ys_R := ((0, 0), [])
noncomputable def yt_aft (pc : Nat) (b : ys_B) (fds : ys_F) (lv : List (Nat × ys_V)) (rest : List ys_V) (h : List yt_Ev) (d : Nat) (em ec : List Nat) (K : ys_K) (t : List ys_L) (i : Nat) (a : ys_A) : List yt_U := match ys_ass (b.1 ++ a.1, b.2) (a.2.1.map (ys_put 0 (ys_tau b.1.length t a))) with
  | some b' => [(pc, (b', (yt_bk ec (a.2.2.1.1.map (fun w => w.map fun v => yt_rV em (ys_pV 0 (ys_tau b.1.length t a) v))) fds.1, yt_bk ec (ys_arm K.2.2.2 0 (ec.map fun k => fds.2.getD k yt_dR) a.2.2.1.2) fds.2), lv, a.2.2.2.toList.map (fun v => yt_rV em (ys_pV 0 (ys_tau b.1.length t a) v)) ++ rest), if d = 0 ∧ K.2.2.2 = [] then h else .inr (.inr (.inl (d, i, ys_tau b.1.length t a, em, K.2.2.2.map (yt_e em)))) :: h)]
  | none => []
abbrev yt_CE : Type := ((Nat × Bool) × (Nat × Bool × List Nat)) × (List ys_C × ys_K)
noncomputable def yt_ats (pc : Nat) (b : ys_B) (fds : ys_F) (lv : List (Nat × ys_V)) (rest : List ys_V) (h : List yt_Ev) (d : Nat) (em ec : List Nat) (K : ys_K) (t : List ys_L) : Nat → List ys_A → List yt_U
  | _, [] => []
  | i, a :: x => yt_aft pc b fds lv rest h d em ec K t i a ++ yt_ats pc b fds lv rest h d em ec K t (i + 1) x
theorem yt_ats_mem {pc : Nat} {b : ys_B} {fds : ys_F} {lv : List (Nat × ys_V)} {rest : List ys_V} {h : List yt_Ev} {d : Nat} {em ec : List Nat} {K : ys_K} {t : List ys_L} : ∀ (x : List ys_A) (i j : Nat) (a : ys_A), x[j]? = some a → ∀ q ∈ yt_aft pc b fds lv rest h d em ec K t (i + j) a, q ∈ yt_ats pc b fds lv rest h d em ec K t i x
  | [], i, j, a, hj, q, hq => by cases hj
  | a0 :: x, i, 0, a, hj, q, hq => by
    cases hj
    exact List.mem_append_left _ hq
  | a0 :: x, i, j + 1, a, hj, q, hq => List.mem_append_right _ (yt_ats_mem x (i + 1) j a hj q (by rw [show i + 1 + j = i + (j + 1) by omega]; exact hq))
noncomputable def yt_hcall (fr lo : Nat) (mods : List Nat) (C : yt_CE) (h : List yt_Ev) (pc : Nat) (b : ys_B) (fds : ys_F) (lv : List (Nat × ys_V)) (sv : List ys_V) : Option (List ys_L × List yt_U) := match ys_zf (C.2.2.2.1.2.2.1.map fun w => w.map (yt_rV C.1.2.2.2)) ((C.1.2.2.2.take C.2.1.length).map fun k => fds.1.getD k []) with
  | some fp => if decide (C.2.2.2.1.1.length ≤ sv.length) && (decide (((sv.drop C.2.2.2.1.1.length).map ys_cat).sum ≤ 8) && (decide (C.2.2.1.2.1 + 1 ≤ fr) && (decide (8 + (C.2.2.1.1.2.2.1 + 11) + C.2.2.1.2.2 ≤ lo) && (C.2.2.2.2.2.all (fun k => mods.contains (yt_e C.1.2.2.2 k) && decide (k < C.2.1.length)) && (C.2.2.2.2.1.all (fun a => decide (a.2.2.1.1.length = C.2.1.length) && decide (a.2.2.1.2.length = C.2.1.length)) && (C.1.2.2.2.take C.2.1.length).all (fun j => decide (j < fds.1.length) && decide (j < fds.2.length))))))) then (match ys_mat b ((C.1.2.2.2.take C.2.1.length).map fun k => fds.2.getD k yt_dR) 0 C.2.2.2.1.2.1.1 C.2.2.2.1.2.1.2 C.2.2.2.1.2.2.2 ((C.2.2.2.1.1.map (yt_rV C.1.2.2.2)).zip (sv.take C.2.2.2.1.1.length).reverse ++ fp) with
      | some t => some (t, yt_ats (pc + 3) b fds lv (sv.drop C.2.2.2.1.1.length) h C.1.2.1 C.1.2.2.2 (C.1.2.2.2.take C.2.1.length) C.2.2 t 0 C.2.2.2.2.1)
      | none => none) else none
  | none => none
section YTC
variable {p : Program} {l : Launch} {e : Env} {R : Room} {s : State} {m : MethodId} {args : Array Value} {below : List Frame} {meth : Method} {c : Code} {Q : State → Prop} {kc kz : Nat} {D : va_G} {cl : List vw_C} {ad : Nat → Nat} {cT : Nat → ClassId} {sh : List ys_C} {A : Nat → Prop} {H0 : Heap} {nL : Nat} {mods : List Nat} {g0 : yt_G} {r0 : Nat → Int} {E : Nat} {tb : yt_Tb} {gi : yt_G} {h : List yt_Ev} {pc : Nat} {b : ys_B} {fds : ys_F} {lv : List (Nat × ys_V)} {sv : List ys_V} {cc : ByteArray} {own : String} {Ts : List Cond} {tys : List (ClassId × FieldType)}
variable {G : List Cond} {K : ys_K} {sh' : List ys_C} {em ec : List Nat} {d : Nat}
theorem yt_kaft {t : List ys_L} {i : Nat} {a : ys_A} {r : Nat → Int} {g : yt_G} {H H1 : Heap} {locs locs1 : List Loc} {ls : Array Slot} {st : List Value} {v : Option Value} {t1 : State} (hrep : ys_rep D cl ad cT sh A H0 nL [] g r0 r E (b, fds, lv, sv) H locs ls st) (hh : yt_h tb r gi h g) (hsc : ∀ v ∈ h, yt_sc b.1.length v) (hm0 : ∀ k, k ∉ mods → g k = g0 k) (hsh : yt_shok em sh' sh = true) (hshl : sh.length = fds.1.length) (ht : ∀ x ∈ t, ys_stb b.1.length x) (hlen : t.length = K.2.1.2.1.1.length) (hec : ec = em.take sh'.length) (hm : ∀ k, k ∈ K.2.2.2 → yt_e em k ∈ mods ∧ k < sh'.length) (hal : a.2.2.1.1.length = sh'.length ∧ a.2.2.1.2.length = sh'.length) (hel : ∀ j ∈ ec, j < fds.1.length ∧ j < fds.2.length) (hA : yt_Alt D cl cT tys (fun k => ad (yt_e em k)) sh' K (tb d) (ys_val r 0 t) (yt_sub em g) H.size i a (.returned v) t1) (hH1 : t1.heap = H1) (hkeep : ∀ q, q < H.size → ¬ (∃ j ∈ ec, q = ad j) → H1[q]? = H[q]?) (hS1 : va_S A H0 H1 locs1) (k : ∀ q ∈ yt_aft pc b fds lv sv h d em ec K t i a, yt_X p l e R s m args below meth c Q kc kz D cl ad cT sh A H0 nL mods g0 r0 E tb gi q.2.2 q.1 q.2.1) : W p l e R s m args below meth c H1 locs1 kc kz Q (F0 m pc ls (v.toList ++ st)) := by
  obtain ⟨r1, g1, ⟨a1, a2, a3, a4, a5, a6, a7, a8, a9⟩, aP⟩ := hA
  obtain ⟨hl1, hnd, hl2, hcl⟩ := yt_shok_ok hsh
  obtain ⟨hg, hP, hD, hS⟩ := yt_wd hrep
  have hecl : ec.length = sh'.length := by rw [hec, List.length_take]; omega
  have hecg : ∀ n j, ec[n]? = some j → n < sh'.length ∧ em[n]? = some j := fun n j hn => by rw [hec] at hn; exact yt_take_get hn
  have hece : ∀ n j, ec[n]? = some j → yt_e em n = j := fun n j hn => by
    have := (hecg n j hn).2
    rw [yt_e_get (List.getElem?_eq_some_iff.mp this).1] at this
    exact Option.some.inj this
  obtain ⟨r', hr'⟩ : ∃ r' : Nat → Int, r' = fun i => if i < b.1.length then r i else r1 (t.length + (i - b.1.length)) := ⟨_, rfl⟩
  have hlo : ∀ i, i < b.1.length → r' i = r i := fun i hi => by rw [hr']; exact if_pos hi
  have hhi : ∀ j, r' (b.1.length + j) = r1 (t.length + j) := fun j => by
    rw [hr']
    show (if b.1.length + j < b.1.length then _ else _) = _
    rw [if_neg (by omega), show b.1.length + j - b.1.length = j by omega]
  have hv : ys_val r' 0 (ys_tau b.1.length t a) = r1 := by
    funext i
    show ys_ev r' (ys_at 0 (ys_tau b.1.length t a) i) = r1 i
    unfold ys_at
    rw [if_neg (by omega), Nat.sub_zero, ys_tau_get]
    by_cases h1 : i < t.length
    · rw [if_pos h1]
      have e1 : ys_val r 0 t i = ys_ev r (t.getD i ([], 0)) := by
        show ys_ev r (ys_at 0 t i) = _
        unfold ys_at
        rw [if_neg (by omega), Nat.sub_zero]
      have hmem : ys_stb b.1.length (t.getD i ([], 0)) := by
        rw [List.getD_eq_getElem?_getD, List.getElem?_eq_getElem h1]
        exact ht _ (List.getElem_mem h1)
      rw [hmem r' r hlo, ← e1, a1 i (by omega)]
    · rw [if_neg h1]
      by_cases h2 : i < t.length + a.1.length
      · rw [if_pos h2, ys_sym_ev, hhi, show t.length + (i - t.length) = i by omega]
      · rw [if_neg h2, a2 i (by omega)]
        rfl
  have hlen2 : (b.1 ++ a.1).length = b.1.length + a.1.length := List.length_append
  have hok : ys_okB r' (b.1 ++ a.1, b.2) := by
    refine ⟨fun i w hi => ?_, fun f hf => ?_⟩
    · by_cases hl : i < b.1.length
      · rw [List.getElem?_append_left hl] at hi
        rw [hlo i hl]
        exact hrep.1.1 i w hi
      · rw [List.getElem?_append_right (by omega)] at hi
        have e2 := hhi (i - b.1.length)
        rw [show b.1.length + (i - b.1.length) = i by omega] at e2
        rw [e2, hlen]
        exact a3 _ w hi
    · rw [hrep.2.1.1 f hf r' r hlo]
      exact hrep.1.2 f hf
  have hfk : ys_fk r' (a.2.1.map (ys_put 0 (ys_tau b.1.length t a))) := by
    intro f hf
    obtain ⟨f0, hf0, e0⟩ := List.mem_map.mp hf
    rw [← e0, ys_put_ev, hv]
    exact a4 f0 hf0
  have htt : ∀ x ∈ ys_tau b.1.length t a, ys_stb (b.1.length + a.1.length) x := by
    intro x hx
    unfold ys_tau at hx
    rcases List.mem_append.mp hx with q | q
    · exact ys_stb_mono (ht x q) (by omega)
    · obtain ⟨j, hj, e0⟩ := List.mem_map.mp q
      rw [← e0]
      exact ys_stb_sym (by have := List.mem_range.mp hj; omega)
  obtain ⟨b', eb, hb'⟩ := ys_ass_ok _ hok hfk
  have hl' := ys_ass_len _ eb
  have hl' : b'.1.length = b.1.length + a.1.length := hl'.trans hlen2
  have hscb : ys_scB ((b.1 ++ a.1, b.2) : ys_B) := fun f hf => by
    show ys_stb (b.1 ++ a.1).length f
    rw [hlen2]
    exact ys_stb_mono (m := b.1.length + a.1.length) (hrep.2.1.1 f hf) (Nat.le_add_right _ _)
  have hsc' := ys_ass_sc (n := b.1.length + a.1.length) _ hlen2 hscb (fun f hf => by
    obtain ⟨f0, hf0, e0⟩ := List.mem_map.mp hf
    rw [← e0]
    exact ys_stb_put (by omega) htt f0) eb
  unfold yt_aft at k
  rw [eb] at k
  have k := k _ List.mem_cons_self
  obtain ⟨rows, erows⟩ : ∃ rows : List (List ys_V), rows = a.2.2.1.1.map (fun w => w.map fun v => yt_rV em (ys_pV 0 (ys_tau b.1.length t a) v)) := ⟨_, rfl⟩
  obtain ⟨ars, ears⟩ : ∃ ars : List ys_R, ars = ys_arm K.2.2.2 0 (ec.map fun k => fds.2.getD k yt_dR) a.2.2.1.2 := ⟨_, rfl⟩
  rw [← erows, ← ears] at k
  have hrl : rows.length = ec.length := by rw [erows, List.length_map, hecl]; exact hal.1
  have hb1 : yt_bkl ec rows fds.1 = true := by
    unfold yt_bkl
    rw [Bool.and_eq_true, decide_eq_true_eq]
    exact ⟨hrl, List.all_eq_true.mpr fun j hj => decide_eq_true (hel j hj).1⟩
  have harl : ars.length = ec.length := by
    rw [ears]
    have : ∀ (x y : List ys_R) (i : Nat), x.length = y.length → (ys_arm K.2.2.2 i x y).length = y.length := by
      intro x
      induction x with
      | nil => intro y i h; cases y with
        | nil => rfl
        | cons _ _ => cases h
      | cons x0 x ih => intro y i h; cases y with
        | nil => cases h
        | cons y0 y =>
          unfold ys_arm
          rw [List.length_cons, List.length_cons, ih y (i + 1) (by simpa using h)]
    rw [this _ _ _ (by rw [List.length_map, hecl]; exact hal.2.symm), hal.2, hecl]
  have hb2 : yt_bkl ec ars fds.2 = true := by
    unfold yt_bkl
    rw [Bool.and_eq_true, decide_eq_true_eq]
    exact ⟨harl, List.all_eq_true.mpr fun j hj => decide_eq_true (hel j hj).2⟩
  obtain ⟨g2, eg2⟩ : ∃ g2 : yt_G, g2 = yt_gb ec g g1 := ⟨_, rfl⟩
  have hsub : yt_sub em g2 = g1 := by
    rw [eg2, hec]
    exact yt_gb_sub hnd hl2 hl1 (fun k hk => (hm k hk).2) (fun k hk => a5.2 k hk)
  have hg2n : ∀ j, j ∉ ec → g2 j = g j := fun j hj => by
    rw [eg2]
    show yt_gb ec g g1 j = g j
    unfold yt_gb
    cases hc : yt_ix j 0 ec with
    | none => rfl
    | some k =>
      obtain ⟨n, -, e2⟩ := yt_ix_some ec 0 hc
      exact absurd (List.mem_of_getElem? e2) hj
  have hg2m : ∀ j, j ∉ K.2.2.2.map (yt_e em) → g2 j = g j := fun j hj => by
    by_cases hje : j ∈ ec
    · obtain ⟨k, hk⟩ := List.getElem?_of_mem hje
      have e1 : yt_e em k = j := hece k j hk
      have e2 : g2 (yt_e em k) = g1 k := congrFun hsub k
      rw [e1] at e2
      rw [e2, a5.2 k (fun hq => hj (List.mem_map.mpr ⟨k, hq, e1⟩))]
      show g (yt_e em k) = g j
      rw [e1]
    · exact hg2n j hje
  have hrow : ∀ kk, (rows.getD kk []).map (ys_den ad r') = (a.2.2.1.1.getD kk []).map (ys_den (fun k => ad (yt_e em k)) r1) := by
    intro kk
    rw [erows, List.getD_eq_getElem?_getD, List.getD_eq_getElem?_getD, List.getElem?_map]
    cases a.2.2.1.1[kk]? with
    | none => rfl
    | some w =>
      show (w.map fun v => yt_rV em (ys_pV 0 (ys_tau b.1.length t a) v)).map (ys_den ad r') = w.map (ys_den (fun k => ad (yt_e em k)) r1)
      rw [List.map_map]
      apply List.map_congr_left
      intro x _
      show ys_den ad r' (yt_rV em (ys_pV 0 _ x)) = _
      rw [yt_rV_den, ys_pV_den, hv]
  obtain ⟨-, ⟨s0, s1, s2, s3⟩, ⟨hE, hr0⟩, -, q4, q5⟩ := hrep
  have hst : v.toList ++ st = (a.2.2.2.toList.map (fun v => yt_rV em (ys_pV 0 (ys_tau b.1.length t a) v)) ++ sv).map (ys_den ad r') := by
    rw [List.map_append, q5]
    have e3 : v = a.2.2.2.map (ys_den (fun k => ad (yt_e em k)) r1) := by
      have := a9
      cases this
      rfl
    congr 1
    · rw [e3]
      cases a.2.2.2 with
      | none => rfl
      | some x =>
        show [ys_den (fun k => ad (yt_e em k)) r1 x] = [ys_den ad r' (yt_rV em (ys_pV 0 _ x))]
        rw [yt_rV_den, ys_pV_den, hv]
    · exact List.map_congr_left fun x hx => ys_den_cong (fun i hi => (hlo i hi).symm) (s3 x hx)
  -- the world behind the call, cell by cell
  have hcell : ∀ (j : Nat) (q : Nat × va_E), (ys_wld ad cT sh r' g2 (yt_bk ec rows fds.1))[j]? = some q → (∃ k : Nat, yt_e em k = j ∧ k < ec.length ∧ (ys_wld (fun k => ad (yt_e em k)) cT sh' r1 g1 a.2.2.1.1)[k]? = some q) ∨ (j ∉ ec ∧ (ys_wld ad cT sh r g fds.1)[j]? = some q) := by
    intro j q hq
    have hj : j < sh.length := by
      have := (List.getElem?_eq_some_iff.mp hq).1
      rw [ys_wld_len] at this
      exact this
    have hshj := List.getElem?_eq_getElem hj
    rw [ys_wld_get hshj] at hq
    have hgd : (yt_bk ec rows fds.1).getD j [] = (match yt_ix j 0 ec with
        | some k => rows[k]?
        | none => fds.1[j]?).getD [] := by
      rw [List.getD_eq_getElem?_getD, yt_bk_get hb1 j (by omega)]
    cases hc : yt_ix j 0 ec with
    | none =>
      right
      rw [hc] at hgd
      refine ⟨yt_ix_none ec 0 hc, ?_⟩
      rw [ys_wld_get hshj, ← hq]
      congr 1
      have e1 : (yt_bk ec rows fds.1).getD j [] = fds.1.getD j [] := by
        rw [hgd, List.getD_eq_getElem?_getD]
      rw [e1]
      have e2 : (fds.1.getD j []).map (ys_den ad r) = (fds.1.getD j []).map (ys_den ad r') := by
        apply List.map_congr_left
        intro x hx
        refine ys_den_cong (fun i hi => (hlo i hi).symm) ?_
        rw [List.getD_eq_getElem?_getD] at hx
        cases hcc : fds.1[j]? with
        | none => rw [hcc] at hx; cases hx
        | some w => rw [hcc] at hx; exact s1 w (List.mem_of_getElem? hcc) x hx
      unfold ys_cel
      cases sh[j] with
      | inl ci =>
        show (ad j, Sum.inr (ci, _)) = (ad j, Sum.inr (ci, _))
        rw [e2]
      | inr a =>
        show (ad j, Sum.inl (cT a.1, ys_con ad (g j) a)) = (ad j, Sum.inl (cT a.1, ys_con ad (g2 j) a))
        rw [hg2n j (yt_ix_none ec 0 hc)]
    | some k =>
      left
      obtain ⟨n, e1, e2⟩ := yt_ix_some ec 0 hc
      rw [Nat.zero_add] at e1
      subst e1
      have hk := (List.getElem?_eq_some_iff.mp e2).1
      have e3 : yt_e em k = j := hece k j e2
      refine ⟨k, e3, hk, ?_⟩
      have hsk := List.getElem?_eq_getElem (show k < sh'.length by omega)
      obtain ⟨c2, f1, f2, f3⟩ := hcl k _ hsk
      rw [e3, hshj] at f2
      rw [ys_wld_get hsk, ← hq]
      congr 1
      have e4 : sh[j] = c2 := Option.some.inj f2
      rw [e4]
      refine yt_cel_eq f3 e3 ?_ ?_
      · have := congrFun hsub k
        rw [← this]
        show g2 (yt_e em k) = g2 j
        rw [e3]
      · rw [hgd, hc]
        show _ = ((rows[k]?).getD []).map (ys_den ad r')
        rw [← List.getD_eq_getElem?_getD, hrow k]
  have hP2 : va_P D cl (ys_wld ad cT sh r' g2 (yt_bk ec rows fds.1)) H1 := by
    intro j q hq
    rcases hcell j q hq with ⟨k, e1, e2, e3⟩ | ⟨e1, e2⟩
    · rw [← hH1]
      exact a6 k q e3
    · have h1 := hP j q e2
      refine h1.kept (hkeep q.1 h1.lt fun hx => ?_)
      obtain ⟨j2, hj2, e3⟩ := hx
      have hj2l : j2 < sh.length := by rw [hshl]; exact (hel j2 hj2).1
      have e4 := ys_wld_get (ad := ad) (cT := cT) (r := r) (g := g) (fds := fds.1) (List.getElem?_eq_getElem hj2l)
      have e5 := hD.1 j j2 q _ e2 e4 e3
      exact e1 (e5 ▸ hj2)
  have hD2 : va_D A (ys_wld ad cT sh r' g2 (yt_bk ec rows fds.1)) := by
    have hadr : ∀ (j : Nat) (q : Nat × va_E), (ys_wld ad cT sh r' g2 (yt_bk ec rows fds.1))[j]? = some q → ∃ q0, (ys_wld ad cT sh r g fds.1)[j]? = some q0 ∧ q0.1 = q.1 := by
      intro j q hq
      have hj : j < sh.length := by
        have := (List.getElem?_eq_some_iff.mp hq).1
        rw [ys_wld_len] at this
        exact this
      rw [ys_wld_get (List.getElem?_eq_getElem hj)] at hq
      refine ⟨_, ys_wld_get (List.getElem?_eq_getElem hj), ?_⟩
      rw [← Option.some.inj hq]
      rfl
    refine ⟨fun i j x y hi hj hxy => ?_, fun k q hk => ?_⟩
    · obtain ⟨x0, f1, f2⟩ := hadr i x hi
      obtain ⟨y0, f3, f4⟩ := hadr j y hj
      exact hD.1 i j x0 y0 f1 f3 (by rw [f2, f4]; exact hxy)
    · obtain ⟨x0, f1, f2⟩ := hadr k q hk
      rw [← f2]
      exact hD.2 k x0 f1
  have hars2 : ∀ (kk : Nat) (z : ys_R), (yt_bk ec ars fds.2)[kk]? = some z → ys_rok z (g2 kk) := by
    intro j z hz
    have hj : j < fds.2.length := by
      have := (List.getElem?_eq_some_iff.mp hz).1
      rw [yt_bk_len hb2] at this
      exact this
    rw [yt_bk_get hb2 j hj] at hz
    cases hc : yt_ix j 0 ec with
    | none =>
      rw [hc] at hz
      rw [hg2n j (yt_ix_none ec 0 hc)]
      exact hg j z hz
    | some k =>
      rw [hc] at hz
      have hz : ars[k]? = some z := hz
      obtain ⟨n, e1, e2⟩ := yt_ix_some ec 0 hc
      rw [Nat.zero_add] at e1
      subst e1
      have e3 : yt_e em k = j := hece k j e2
      have e4 : g2 j = g1 k := by
        rw [← e3]
        exact congrFun hsub k
      rw [e4]
      rw [ears] at hz
      rcases ys_arm_get _ _ _ 0 k z hz with ⟨-, h2⟩ | ⟨h1, h2⟩
      · exact a5.1 k z h2
      · rw [Nat.zero_add] at h1
        rw [a5.2 k h1]
        show ys_rok z (g (yt_e em k))
        rw [e3]
        rw [List.getElem?_map, e2] at h2
        have h2 : some (fds.2.getD j yt_dR) = some z := h2
        refine hg j z ?_
        rw [← h2, List.getD_eq_getElem?_getD, List.getElem?_eq_getElem hj]
        rfl
  have hE' : E ≤ b'.1.length := by
    rw [hl']
    exact Nat.le_trans hE (by show b.1.length ≤ _; omega)
  have hbk1 : ∀ w ∈ yt_bk ec rows fds.1, ∀ v ∈ w, ys_stV b'.1.length v := by
    intro w hw x hx
    obtain ⟨j, hj⟩ := List.getElem?_of_mem hw
    have hjl : j < fds.1.length := by
      have := (List.getElem?_eq_some_iff.mp hj).1
      rw [yt_bk_len hb1] at this
      exact this
    rw [yt_bk_get hb1 j hjl] at hj
    rw [hl']
    cases hc : yt_ix j 0 ec with
    | none =>
      rw [hc] at hj
      exact ys_stV_mono (s1 w (List.mem_of_getElem? hj) x hx) (by show b.1.length ≤ _; omega)
    | some k =>
      rw [hc] at hj
      have hj : rows[k]? = some w := hj
      rw [erows] at hj
      obtain ⟨w0, -, e0⟩ := List.mem_map.mp (List.mem_of_getElem? hj)
      rw [← e0] at hx
      obtain ⟨x0, -, e1⟩ := List.mem_map.mp hx
      rw [← e1]
      exact yt_rV_st (ys_pV_st (by omega) htt x0)
  have hk2 : ∀ kk, kk ∉ mods → g2 kk = g0 kk := fun kk hkk => by
    rw [hg2m kk (fun hx => by
      obtain ⟨k0, h1, h2⟩ := List.mem_map.mp hx
      exact hkk (h2 ▸ (hm k0 h1).1))]
    exact hm0 kk hkk
  have hh2 := yt_h_cong (fun i hi => (hlo i hi).symm) hsc hh
  have hle : b.1.length ≤ b'.1.length := by rw [hl']; omega
  refine k r' g2 H1 locs1 ls _ ⟨hb', ⟨hsc', hbk1, fun q hq => ?_, fun x hx => ?_⟩, ⟨hE', fun i hi => (hlo i (Nat.lt_of_lt_of_le hi hE)).trans (hr0 i hi)⟩, ⟨g2, ⟨hars2, fun _ _ => rfl⟩, hP2, hD2, hS1⟩, ?_, hst⟩ ?_ (fun x hx => ?_) hk2
  · exact ys_stV_mono (s2 q hq) hle
  · show ys_stV b'.1.length _
    rw [hl']
    rcases List.mem_append.mp hx with q | q
    · obtain ⟨x0, -, e1⟩ := List.mem_map.mp q
      rw [← e1]
      exact yt_rV_st (ys_pV_st (by omega) htt x0)
    · exact ys_stV_mono (s3 x q) (by show b.1.length ≤ _; omega)
  · have e4 : ys_lvs ad r lv = ys_lvs ad r' lv := List.map_congr_left fun q hq => by rw [ys_den_cong (fun i hi => (hlo i hi).symm) (s2 q hq)]
    exact e4 ▸ q4
  · dsimp only
    split
    · rename_i hde
      have e5 : g2 = g := funext fun j => hg2m j (by rw [hde.2]; exact List.not_mem_nil)
      rw [e5]
      exact hh2
    · exact ⟨g, hh2, by
        show tb d i (ys_val r' 0 (ys_tau b.1.length t a)) (yt_sub em g) (yt_sub em g2)
        rw [hv, hsub]
        exact aP, hg2m⟩
  · dsimp only at hx
    split at hx
    · exact yt_sc_mono hle (hsc x hx)
    · rcases List.mem_cons.mp hx with q | q
      · rw [q]
        show ∀ y ∈ ys_tau b.1.length t a, ys_stb b'.1.length y
        rw [hl']
        exact htt
      · exact yt_sc_mono hle (hsc x q)
theorem yt_kcall {i : Instr} {fr lo : Nat} {C : yt_CE} {t : List ys_L} {succ : List yt_U} {Ps : yt_Ps} (S : CallFix p m c cc nL s args Ts own) (hK : va_K D cl tys s) (hA0 : ∀ q, H0.size ≤ q → A q) (hcon : yt_Con l D cl cT tys G C.2.1 C.2.2 Ps (tb C.1.2.1)) (hCL : ys_CL own Ts cl C.2.1 G i C.2.2) (hsh : yt_shok C.1.2.2.2 C.2.1 sh = true) (hshl : sh.length = fds.1.length) (hd : decode cc pc = .ok (i, 3)) (hfr : fr ≤ R.frames) (hlo : lo ≤ R.locals) (hkk : kc ≤ R.cells ∧ kz ≤ R.slots) (hs : yt_hcall fr lo mods C h pc b fds lv sv = some (t, succ)) (hps : ∀ (r : Nat → Int) (g : yt_G), ys_okB r b → (∀ i, i < E → r i = r0 i) → yt_h tb r gi h g → Ps (ys_val r 0 t) (yt_sub C.1.2.2.2 g)) (k : ∀ q ∈ succ, yt_X p l e R s m args below meth c Q kc kz D cl ad cT sh A H0 nL mods g0 r0 E tb gi q.2.2 q.1 q.2.1) : yt_X p l e R s m args below meth c Q kc kz D cl ad cT sh A H0 nL mods g0 r0 E tb gi h pc (b, fds, lv, sv) := by
  obtain ⟨⟨⟨idx0, st0⟩, d, hp, em⟩, sh', K⟩ := C
  dsimp only at hcon hCL hsh hps
  unfold yt_hcall at hs
  dsimp only at hs
  split at hs
  · rename_i fp hfp
    split at hs
    · rename_i hc
      simp only [Bool.and_eq_true, decide_eq_true_eq] at hc
      obtain ⟨c1, c2, c3, c4, c5, c6, c7⟩ := hc
      split at hs
      · rename_i t0 hmat
        cases Option.some.inj hs
        intro r g H locs ls st hrep hh hsc hm0
        obtain ⟨et, e2, e3, e4, e5, e6, e7⟩ := ys_mat_ok (ad := ad) hrep.1 hmat
        obtain ⟨hg, hP, hD, hS⟩ := yt_wd hrep
        obtain ⟨hl1, hnd, hl2, hcl⟩ := yt_shok_ok hsh
        have hel : ∀ j ∈ em.take sh'.length, j < fds.1.length ∧ j < fds.2.length := fun j hj => by
          have := List.all_eq_true.mp c7 j hj
          rw [Bool.and_eq_true, decide_eq_true_eq, decide_eq_true_eq] at this
          exact this
        have hsv : sv = sv.take K.2.1.1.length ++ sv.drop K.2.1.1.length := (List.take_append_drop _ _).symm
        have hst2 : ∀ q ∈ (K.2.1.1.map (yt_rV em)).zip (sv.take K.2.1.1.length).reverse ++ fp, ys_stV b.1.length q.2 := by
          intro q hq
          rcases List.mem_append.mp hq with g1 | g1
          · exact hrep.2.1.2.2.2 _ (List.mem_of_mem_take (List.mem_reverse.mp (List.of_mem_zip g1).2))
          · obtain ⟨w, h1, h2⟩ := ys_zf_mem _ _ _ hfp q g1
            obtain ⟨j, hj, e0⟩ := List.mem_map.mp h1
            rw [← e0, List.getD_eq_getElem?_getD] at h2
            cases hcc : fds.1[j]? with
            | none => rw [hcc] at h2; cases h2
            | some w => rw [hcc] at h2; exact hrep.2.1.2.1 w (List.mem_of_getElem? hcc) _ h2
        have htst : ∀ x ∈ t, ys_stb b.1.length x := by
          rw [et]
          exact ys_col_st _ _ hst2
        have hrows : ∀ k, k < sh'.length → (K.2.1.2.2.1.getD k []).map (ys_den (fun k => ad (yt_e em k)) (ys_val r 0 t)) = (fds.1.getD (yt_e em k) []).map (ys_den ad r) := by
          intro k hk
          have h1 := ys_zf_ok (ad := ad) (r := r) (r' := ys_val r 0 t) _ _ _ hfp (fun q hq => e5 q (List.mem_append_right _ hq)) k
          have h2 : ((em.take sh'.length).map fun k => fds.1.getD k []).getD k [] = fds.1.getD (yt_e em k) [] := by
            rw [List.getD_eq_getElem?_getD, List.getElem?_map, List.getElem?_take, if_pos hk, yt_e_get (by omega)]
            rfl
          rw [h2] at h1
          rw [← h1, List.getD_eq_getElem?_getD, List.getD_eq_getElem?_getD, List.getElem?_map]
          cases K.2.1.2.2.1[k]? with
          | none => rfl
          | some w =>
            show w.map _ = (w.map (yt_rV em)).map (ys_den ad (ys_val r 0 t))
            rw [List.map_map]
            apply List.map_congr_left
            intro x _
            exact (yt_rV_den x).symm
        have hby := yt_wld_sub (ad := ad) (cT := cT) (r := r) (r' := ys_val r 0 t) (g := g) (F := fds.1) (F' := K.2.1.2.2.1) hsh hrows
        have hargs : K.2.1.1.map (ys_den (fun k => ad (yt_e em k)) (ys_val r 0 t)) = ((sv.take K.2.1.1.length).reverse).map (ys_den ad r) := by
          have h1 := ys_zip_map (ad := ad) (r := r) (r' := ys_val r 0 t) (K.2.1.1.map (yt_rV em)) (sv.take K.2.1.1.length).reverse (by rw [List.length_map, List.length_reverse, List.length_take]; omega) (fun q hq => e5 q (List.mem_append_left _ hq))
          rw [← h1, List.map_map]
          apply List.map_congr_left
          intro x _
          exact (yt_rV_den x).symm
        have hokB : ys_okB (ys_val r 0 t) K.2.1.2.1 := ⟨fun j q hj => by
          have := e3 j q hj
          rw [Nat.zero_add] at this
          exact this, e4⟩
        have har : ∀ (kk : Nat) (a : ys_R), K.2.1.2.2.2[kk]? = some a → ys_rok a (yt_sub em g kk) := fun kk a ha => by
          obtain ⟨a0, h1, h2⟩ := e7 kk a ha
          rw [List.getElem?_map] at h1
          cases hc : (em.take sh'.length)[kk]? with
          | none => rw [hc] at h1; cases h1
          | some j =>
            rw [hc] at h1
            have h1 : some (fds.2.getD j yt_dR) = some a0 := h1
            have hj := (hel j (List.mem_of_getElem? hc)).2
            have e1 : yt_e em kk = j := by
              have h9 := (yt_take_get hc).2
              rw [yt_e_get (List.getElem?_eq_some_iff.mp h9).1] at h9
              exact Option.some.inj h9
            show ys_rok a (g (yt_e em kk))
            rw [e1]
            refine ys_rle_ok h2 (hg j a0 ?_)
            rw [← h1, List.getD_eq_getElem?_getD, List.getElem?_eq_getElem hj]
            rfl
        have hM := hcon (fun k => ad (yt_e em k)) (ys_val r 0 t) (yt_sub em g) H.size hokB (fun i hi => ys_val_high (by omega)) har (hps r g hrep.1 hrep.2.2.1.2 hh)
        have hP' : va_P D cl (ys_wK (fun k => ad (yt_e em k)) cT sh' K (ys_val r 0 t) (yt_sub em g)) H := hP.by _ hby
        have hD' : va_D A (ys_wK (fun k => ad (yt_e em k)) cT sh' K (ys_val r 0 t) (yt_sub em g)) := by
          refine hD.by _ hby fun i j hi hj hij => ?_
          have hi : i < em.length := by
            have hi : i < (ys_wld (fun k => ad (yt_e em k)) cT sh' (ys_val r 0 t) (yt_sub em g) K.2.1.2.2.1).length := hi
            rw [ys_wld_len] at hi
            omega
          have hj : j < em.length := by
            have hj : j < (ys_wld (fun k => ad (yt_e em k)) cT sh' (ys_val r 0 t) (yt_sub em g) K.2.1.2.2.1).length := hj
            rw [ys_wld_len] at hj
            omega
          have f1 : ∀ i, i < em.length → em[i]? = some (yt_e em i) := fun i hi => yt_e_get hi
          exact va_nd_inj em hnd i j (yt_e em i) (f1 i hi) (by rw [hij]; exact f1 j hj)
        have hadd : ∀ q, (∃ (k : Nat) (x : va_E), (ys_wK (fun k => ad (yt_e em k)) cT sh' K (ys_val r 0 t) (yt_sub em g))[k]? = some (q, x)) → ∃ j ∈ em.take sh'.length, q = ad j := by
          intro q ⟨kk, x, hx⟩
          have hlt : kk < sh'.length := by
            have := (List.getElem?_eq_some_iff.mp hx).1
            have this : kk < (ys_wld (fun k => ad (yt_e em k)) cT sh' (ys_val r 0 t) (yt_sub em g) K.2.1.2.2.1).length := this
            rw [ys_wld_len] at this
            exact this
          have hx : (ys_wld (fun k => ad (yt_e em k)) cT sh' (ys_val r 0 t) (yt_sub em g) K.2.1.2.2.1)[kk]? = some (q, x) := hx
          rw [ys_wld_get (List.getElem?_eq_getElem hlt)] at hx
          have e1 : (em.take sh'.length)[kk]? = some (yt_e em kk) := by
            rw [List.getElem?_take, if_pos hlt, yt_e_get (by omega)]
          refine ⟨yt_e em kk, List.mem_of_getElem? e1, ?_⟩
          have := congrArg Prod.fst (Option.some.inj hx)
          exact this.symm
        have hF : ∀ q, va_A (ys_wK (fun k => ad (yt_e em k)) cT sh' K (ys_val r 0 t) (yt_sub em g)) H.size q → A q := by
          intro q hq
          rcases hq with ⟨kk, x, hx⟩ | hq
          · exact hD'.2 kk (q, x) hx
          · exact hA0 q (Nat.le_trans hS.1 hq)
        have hpre : ∀ U : State, U.heap = H → s.WarmedH U.vm → ys_Pre D cl (fun k => ad (yt_e em k)) cT sh' tys K (ys_val r 0 t) (yt_sub em g) H.size (K.2.1.1.map (ys_den (fun k => ad (yt_e em k)) (ys_val r 0 t))).toArray U := fun U hU hW => ⟨rfl, by rw [hU], by rw [hU]; exact hP', va_K.moved hW.alike hK, hD'.weaken (fun _ _ _ _ => trivial)⟩
        have hrest : 2 * (F0 m pc ls st).monitorRoom + (((sv.drop K.2.1.1.length).map (ys_den ad r)).map fun v => v.category).sum ≤ 8 := lv_room (rest := st) (by rw [ys_cats]; exact c2)
        have hfull : st = (K.2.1.1.map (ys_den (fun k => ad (yt_e em k)) (ys_val r 0 t))).reverse ++ (sv.drop K.2.1.1.length).map (ys_den ad r) := by
          rw [hargs, ← List.map_reverse, List.reverse_reverse, ← List.map_append, ← hsv]
          exact hrep.2.2.2.2.2
        have hgo : va_Run p l e R s m args below meth c H locs kc kz 0 0 (F0 m pc ls st) ((sv.drop K.2.1.1.length).map (ys_den ad r)) (yt_Post D cl cT tys (fun k => ad (yt_e em k)) sh' K (tb d) (ys_val r 0 t) (yt_sub em g) H.size (K.2.1.1.map (ys_den (fun k => ad (yt_e em k)) (ys_val r 0 t))).toArray) (va_A (ys_wK (fun k => ad (yt_e em k)) cT sh' K (ys_val r 0 t) (yt_sub em g)) H.size) := by
          rcases hCL with ⟨idx, k1, ci, C, T, N, as, ei, ea, h1, h2, h3, h4⟩ | ⟨idx, ei, h3, h4⟩
          · subst ei
            have hw := ys_wld_get (ad := fun k => ad (yt_e em k)) (cT := cT) (r := ys_val r 0 t) (g := yt_sub em g) (fds := K.2.1.2.2.1) h1
            rw [ea] at hpre hfull ⊢
            rw [List.map_cons] at hpre hfull ⊢
            rw [List.reverse_cons, List.append_assoc] at hfull
            have hlen : (as.map (ys_den (fun k => ad (yt_e em k)) (ys_val r 0 t))).length = as.length := List.length_map _
            exact va_runV (C := C) (b := ad (yt_e em k1)) (As := as.map (ys_den (fun k => ad (yt_e em k)) (ys_val r 0 t))) S hM (cwV as.length S.2.2.2.2 h3 rfl rfl rfl h4 ⟨Nat.le_trans c3 hfr, Nat.le_trans c4 hlo⟩) ⟨ys_blind, va_recv hK hP' h2 hw, hpre⟩ rfl hlen hrep.2.2.2.2.1.1 hfull (by rw [ea] at hrest; exact hrest) hd hkk
          · subst ei
            exact va_runS (As := K.2.1.1.map (ys_den (fun k => ad (yt_e em k)) (ys_val r 0 t))) S hM (va_cwS K.2.1.1.length S.2.2.2.2 h3 rfl rfl rfl h4 ⟨Nat.le_trans c3 hfr, Nat.le_trans c4 hlo⟩) ⟨ys_blind, hpre⟩ rfl (List.length_map _) hrep.2.2.2.2.1.1 hfull hrest hd hkk
        intro T hT X
        obtain ⟨v, st₀, t1, T', L, h0, X', hL, f1, f2, ⟨⟨ia, a, ha, hAlt⟩, hz, hk⟩, stp⟩ := hgo T hT X
        rw [h0] at hz hk
        have hrep2 : ys_rep D cl ad cT sh A H0 nL [] g r0 r E (b, fds, lv, sv.drop K.2.1.1.length) H locs ls ((sv.drop K.2.1.1.length).map (ys_den ad r)) := by
          obtain ⟨q1, ⟨s0, s1, s2, s3⟩, q2, q3, q4, q5⟩ := hrep
          exact ⟨q1, ⟨s0, s1, s2, fun x hx => s3 x (List.mem_of_mem_drop hx)⟩, q2, q3, q4, rfl⟩
        have hm : ∀ kk, kk ∈ K.2.2.2 → yt_e em kk ∈ mods ∧ kk < sh'.length := fun kk hkk => by
          have := List.all_eq_true.mp c5 kk hkk
          rw [Bool.and_eq_true, decide_eq_true_eq] at this
          exact ⟨List.contains_iff_mem.mp this.1, this.2⟩
        have hal : a.2.2.1.1.length = sh'.length ∧ a.2.2.1.2.length = sh'.length := by
          have := List.all_eq_true.mp c6 a (List.mem_of_getElem? ha)
          rw [Bool.and_eq_true, decide_eq_true_eq, decide_eq_true_eq] at this
          exact this
        have hkeep : ∀ q, q < H.size → ¬ (∃ j ∈ em.take sh'.length, q = ad j) → T'.heap[q]? = H[q]? := fun q h1 h2 => by
          rw [f1]
          refine hk q h1 fun z => ?_
          rcases z with z | z
          · exact h2 (hadd q z)
          · omega
        obtain ⟨t2, a1, b1⟩ := yt_kaft (H1 := T'.heap) (locs1 := locs ++ L) (sh' := sh') hrep2 hh hsc hm0 hsh hshl htst e2 rfl hm hal hel hAlt f1.symm hkeep ⟨Nat.le_trans hS.1 (by rw [f1]; exact hz), fun q h1 h2 => by rw [f1, hk q (Nat.lt_of_lt_of_le h1 hS.1) (fun z => h2 (hF q z))]; exact hS.2.1 q h1 h2, fun q hq => by
          rcases List.mem_append.mp hq with g1 | g1
          · exact hS.2.2 q g1
          · exact hF _ (hL q g1)⟩ (fun q hq => k q (yt_ats_mem _ 0 ia a ha q (by rw [Nat.zero_add]; exact hq))) T' rfl X'
        exact ⟨t2, stp t2 a1, b1⟩
      · cases hs
    · cases hs
  · cases hs
end YTC
