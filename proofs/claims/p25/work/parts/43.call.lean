/-! a call by a contract over a part of the world -/
def yt_rV (em : List Nat) (v : ys_V) : ys_V := match v with
  | .inl x => .inl x
  | .inr none => .inr none
  | .inr (some j) => .inr (some (yt_e em j))
theorem yt_rV_den {ad : Nat → Nat} {r : Nat → Int} {em : List Nat} (v : ys_V) : ys_den ad r (yt_rV em v) = ys_den (fun k => ad (yt_e em k)) r v := sorry
theorem yt_rV_st {n : Nat} {em : List Nat} {v : ys_V} (h : ys_stV n v) : ys_stV n (yt_rV em v) := sorry
theorem yt_rV_cat {em : List Nat} {v : ys_V} : ys_cat (yt_rV em v) = ys_cat v := sorry
/-- where a cell stands among others -/
def yt_ix (j : Nat) : Nat → List Nat → Option Nat
  | _, [] => none
  | i, x :: t => if x = j then some i else yt_ix j (i + 1) t
theorem yt_ix_some {j k : Nat} : ∀ (l : List Nat) (i : Nat), yt_ix j i l = some k → ∃ n, k = i + n ∧ l[n]? = some j := sorry
theorem yt_ix_none {j : Nat} : ∀ (l : List Nat) (i : Nat), yt_ix j i l = none → j ∉ l := sorry
def yt_shok1 (em : List Nat) (c' : ys_C) (c : Option ys_C) : Bool := match c', c with
  | .inl ci, some (.inl cj) => decide (ci = cj)
  | .inr a, some (.inr a2) => decide (a2 = (a.1, a.2.1, a.2.2.map (yt_e em)))
  | _, _ => false
def yt_shok (em : List Nat) (sh' sh : List ys_C) : Bool := decide (sh'.length ≤ em.length) && (va_nd em && (em.all (fun j => decide (j < 100000)) && (sh'.zip em).all (fun q => yt_shok1 em q.1 sh[q.2]?)))
theorem yt_con_eq {ad : Nat → Nat} {em : List Nat} {f : Nat → Int} {a : Nat × Nat × List Nat} : ys_con (fun k => ad (yt_e em k)) f a = ys_con ad f (a.1, a.2.1, a.2.2.map (yt_e em)) := sorry
theorem yt_cel_eq {ad : Nat → Nat} {cT : Nat → ClassId} {em : List Nat} {r r' : Nat → Int} {g g' : yt_G} {k j : Nat} {c c' : ys_C} {fs fs' : List ys_V} (hc : yt_shok1 em c' (some c) = true) (hj : yt_e em k = j) (hg : g' k = g j) (hf : fs'.map (ys_den (fun k => ad (yt_e em k)) r') = fs.map (ys_den ad r)) : ys_cel (fun k => ad (yt_e em k)) cT r' g' k c' fs' = ys_cel ad cT r g j c fs := sorry
theorem yt_shok_ok {em : List Nat} {sh' sh : List ys_C} (h : yt_shok em sh' sh = true) : sh'.length ≤ em.length ∧ va_nd em = true ∧ (∀ j ∈ em, j < 100000) ∧ ∀ (k : Nat) (c' : ys_C), sh'[k]? = some c' → ∃ c, em[k]? = some (yt_e em k) ∧ sh[yt_e em k]? = some c ∧ yt_shok1 em c' (some c) = true := sorry
theorem yt_wld_sub {ad : Nat → Nat} {cT : Nat → ClassId} {em : List Nat} {sh' sh : List ys_C} (h : yt_shok em sh' sh = true) {r r' : Nat → Int} {g : yt_G} {F F' : List (List ys_V)} (hf : ∀ k, k < sh'.length → (F'.getD k []).map (ys_den (fun k => ad (yt_e em k)) r') = (F.getD (yt_e em k) []).map (ys_den ad r)) (k : Nat) (q : Nat × va_E) (hq : (ys_wld (fun k => ad (yt_e em k)) cT sh' r' (yt_sub em g) F')[k]? = some q) : (ys_wld ad cT sh r g F)[yt_e em k]? = some q := sorry
/-- rows put back among the others -/
def yt_bk {α : Type} (em : List Nat) (rows old : List α) : List α := (List.range old.length).filterMap fun j => match yt_ix j 0 em with
  | some k => rows[k]?
  | none => old[j]?
def yt_bkl {α : Type} (em : List Nat) (rows old : List α) : Bool := decide (rows.length = em.length) && em.all (fun j => decide (j < old.length))
theorem yt_fm {α β : Type} {f : α → Option β} : ∀ (l : List α), (∀ x ∈ l, (f x).isSome = true) → ∀ i : Nat, (l.filterMap f)[i]? = (l[i]?).bind f := sorry
theorem yt_bk_get {α : Type} {em : List Nat} {rows old : List α} (h : yt_bkl em rows old = true) (j : Nat) (hj : j < old.length) : (yt_bk em rows old)[j]? = match yt_ix j 0 em with
    | some k => rows[k]?
    | none => old[j]? := sorry
theorem yt_bk_len {α : Type} {em : List Nat} {rows old : List α} (h : yt_bkl em rows old = true) : (yt_bk em rows old).length = old.length := sorry
def yt_gb (em : List Nat) (g g1 : yt_G) : yt_G := fun j => match yt_ix j 0 em with
  | some k => g1 k
  | none => g j
theorem yt_take_get {em : List Nat} {nc n j : Nat} (h : (em.take nc)[n]? = some j) : n < nc ∧ em[n]? = some j := sorry
theorem yt_e_get {em : List Nat} {k : Nat} (hk : k < em.length) : em[k]? = some (yt_e em k) := sorry
theorem yt_gb_sub {em : List Nat} {g g1 : yt_G} {nc : Nat} (hn : va_nd em = true) (hl : ∀ j ∈ em, j < 100000) (hnc : nc ≤ em.length) {mods : List Nat} (hm : ∀ k ∈ mods, k < nc) (hg : ∀ k, k ∉ mods → g1 k = yt_sub em g k) : yt_sub em (yt_gb (em.take nc) g g1) = g1 := sorry
/-! contracts with words of their own: what must hold ahead, what holds behind -/
abbrev yt_Ps : Type := (Nat → Int) → yt_G → Prop
abbrev yt_Ph : Type := Nat → (Nat → Int) → yt_G → yt_G → Prop
section YTK
variable (l : Launch) (D : va_G) (cl : List vw_C) (cT : Nat → ClassId) (tys : List (ClassId × FieldType)) (G : List Cond)
def yt_Alt (ad : Nat → Nat) (sh : List ys_C) (K : ys_K) (Ph : yt_Ph) (r0 : Nat → Int) (g0 : yt_G) (sz : Nat) (i : Nat) (a : ys_A) (oc : Outcome) (t : State) : Prop := ∃ (r1 : Nat → Int) (g1 : yt_G), ((∀ i, i < K.2.1.2.1.1.length → r1 i = r0 i) ∧ (∀ i, K.2.1.2.1.1.length + a.1.length ≤ i → r1 i = 0) ∧ (∀ (j : Nat) (q : Int × Int), a.1[j]? = some q → q.1 ≤ r1 (K.2.1.2.1.1.length + j) ∧ r1 (K.2.1.2.1.1.length + j) ≤ q.2) ∧ ys_fk r1 a.2.1 ∧ ys_gok K.2.2.2 a.2.2.1.2 g0 g1 ∧ va_P D cl (ys_wld ad cT sh r1 g1 a.2.2.1.1) t.heap ∧ va_D (va_A (ys_wK ad cT sh K r0 g0) sz) (ys_wld ad cT sh r1 g1 a.2.2.1.1) ∧ va_K D cl tys t ∧ oc = .returned (a.2.2.2.map (ys_den ad r1))) ∧ Ph i r1 g0 g1
def yt_Post (ad : Nat → Nat) (sh : List ys_C) (K : ys_K) (Ph : yt_Ph) (r0 : Nat → Int) (g0 : yt_G) (sz : Nat) : Array Value → State → Outcome → State → Prop := fun _ st oc t => (∃ (i : Nat) (a : ys_A), K.2.2.1[i]? = some a ∧ yt_Alt D cl cT tys ad sh K Ph r0 g0 sz i a oc t) ∧ va_F (va_A (ys_wK ad cT sh K r0 g0) sz) st t
def yt_Con (sh : List ys_C) (K : ys_K) (Ps : yt_Ps) (Ph : yt_Ph) : Prop := ∀ (ad : Nat → Nat) (r0 : Nat → Int) (g0 : yt_G) (sz : Nat), ys_okB r0 K.2.1.2.1 → (∀ i, K.2.1.2.1.1.length ≤ i → r0 i = 0) → (∀ (k : Nat) (a : ys_R), K.2.1.2.2.2[k]? = some a → ys_rok a (g0 k)) → Ps r0 g0 → Met l K.1.1.1 (ys_ws G K) (ys_rm K) (ys_Pre D cl ad cT sh tys K r0 g0 sz) (yt_Post D cl cT tys ad sh K Ph r0 g0 sz) 0 0 (va_A (ys_wK ad cT sh K r0 g0) sz)
end YTK
/-- the state behind a call -/
def yt_dR : ys_R := ((0, 0), [])
def yt_aft (pc : Nat) (b : ys_B) (fds : ys_F) (lv : List (Nat × ys_V)) (rest : List ys_V) (h : List yt_Ev) (d : Nat) (em ec : List Nat) (K : ys_K) (t : List ys_L) (i : Nat) (a : ys_A) : List yt_U := match ys_ass (b.1 ++ a.1, b.2) (a.2.1.map (ys_put 0 (ys_tau b.1.length t a))) with
  | some b' => [(pc, (b', (yt_bk ec (a.2.2.1.1.map (fun w => w.map fun v => yt_rV em (ys_pV 0 (ys_tau b.1.length t a) v))) fds.1, yt_bk ec (ys_arm K.2.2.2 0 (ec.map fun k => fds.2.getD k yt_dR) a.2.2.1.2) fds.2), lv, a.2.2.2.toList.map (fun v => yt_rV em (ys_pV 0 (ys_tau b.1.length t a) v)) ++ rest), if d = 0 ∧ K.2.2.2 = [] then h else .inr (.inr (.inl (d, i, ys_tau b.1.length t a, em, K.2.2.2.map (yt_e em)))) :: h)]
  | none => []
abbrev yt_CE : Type := ((Nat × Bool) × (Nat × Bool × List Nat)) × (List ys_C × ys_K)
def yt_ats (pc : Nat) (b : ys_B) (fds : ys_F) (lv : List (Nat × ys_V)) (rest : List ys_V) (h : List yt_Ev) (d : Nat) (em ec : List Nat) (K : ys_K) (t : List ys_L) : Nat → List ys_A → List yt_U
  | _, [] => []
  | i, a :: x => yt_aft pc b fds lv rest h d em ec K t i a ++ yt_ats pc b fds lv rest h d em ec K t (i + 1) x
theorem yt_ats_mem {pc : Nat} {b : ys_B} {fds : ys_F} {lv : List (Nat × ys_V)} {rest : List ys_V} {h : List yt_Ev} {d : Nat} {em ec : List Nat} {K : ys_K} {t : List ys_L} : ∀ (x : List ys_A) (i j : Nat) (a : ys_A), x[j]? = some a → ∀ q ∈ yt_aft pc b fds lv rest h d em ec K t (i + j) a, q ∈ yt_ats pc b fds lv rest h d em ec K t i x := sorry
def yt_hcall (fr lo : Nat) (mods : List Nat) (C : yt_CE) (h : List yt_Ev) (pc : Nat) (b : ys_B) (fds : ys_F) (lv : List (Nat × ys_V)) (sv : List ys_V) : Option (List ys_L × List yt_U) := match ys_zf (C.2.2.2.1.2.2.1.map fun w => w.map (yt_rV C.1.2.2.2)) ((C.1.2.2.2.take C.2.1.length).map fun k => fds.1.getD k []) with
  | some fp => if decide (C.2.2.2.1.1.length ≤ sv.length) && (decide (((sv.drop C.2.2.2.1.1.length).map ys_cat).sum ≤ 8) && (decide (C.2.2.1.2.1 + 1 ≤ fr) && (decide (8 + (C.2.2.1.1.2.2.1 + 11) + C.2.2.1.2.2 ≤ lo) && (C.2.2.2.2.2.all (fun k => mods.contains (yt_e C.1.2.2.2 k) && decide (k < C.2.1.length)) && (C.2.2.2.2.1.all (fun a => decide (a.2.2.1.1.length = C.2.1.length) && decide (a.2.2.1.2.length = C.2.1.length)) && (C.1.2.2.2.take C.2.1.length).all (fun j => decide (j < fds.1.length) && decide (j < fds.2.length))))))) then (match ys_mat b ((C.1.2.2.2.take C.2.1.length).map fun k => fds.2.getD k yt_dR) 0 C.2.2.2.1.2.1.1 C.2.2.2.1.2.1.2 C.2.2.2.1.2.2.2 ((C.2.2.2.1.1.map (yt_rV C.1.2.2.2)).zip (sv.take C.2.2.2.1.1.length).reverse ++ fp) with
      | some t => some (t, yt_ats (pc + 3) b fds lv (sv.drop C.2.2.2.1.1.length) h C.1.2.1 C.1.2.2.2 (C.1.2.2.2.take C.2.1.length) C.2.2 t 0 C.2.2.2.2.1)
      | none => none) else none
  | none => none
section YTC
variable {p : Program} {l : Launch} {e : Env} {R : Room} {s : State} {m : MethodId} {args : Array Value} {below : List Frame} {meth : Method} {c : Code} {Q : State → Prop} {kc kz : Nat} {D : va_G} {cl : List vw_C} {ad : Nat → Nat} {cT : Nat → ClassId} {sh : List ys_C} {A : Nat → Prop} {H0 : Heap} {nL : Nat} {mods : List Nat} {g0 : yt_G} {r0 : Nat → Int} {E : Nat} {tb : yt_Tb} {gi : yt_G} {h : List yt_Ev} {pc : Nat} {b : ys_B} {fds : ys_F} {lv : List (Nat × ys_V)} {sv : List ys_V} {cc : ByteArray} {own : String} {Ts : List Cond} {tys : List (ClassId × FieldType)}
variable {G : List Cond} {K : ys_K} {sh' : List ys_C} {em ec : List Nat} {d : Nat}
theorem yt_kaft {t : List ys_L} {i : Nat} {a : ys_A} {r : Nat → Int} {g : yt_G} {H H1 : Heap} {locs locs1 : List Loc} {ls : Array Slot} {st : List Value} {v : Option Value} {t1 : State} (hrep : ys_rep D cl ad cT sh A H0 nL [] g r0 r E (b, fds, lv, sv) H locs ls st) (hh : yt_h tb r gi h g) (hsc : ∀ v ∈ h, yt_sc b.1.length v) (hm0 : ∀ k, k ∉ mods → g k = g0 k) (hsh : yt_shok em sh' sh = true) (hshl : sh.length = fds.1.length) (ht : ∀ x ∈ t, ys_stb b.1.length x) (hlen : t.length = K.2.1.2.1.1.length) (hec : ec = em.take sh'.length) (hm : ∀ k, k ∈ K.2.2.2 → yt_e em k ∈ mods ∧ k < sh'.length) (hal : a.2.2.1.1.length = sh'.length ∧ a.2.2.1.2.length = sh'.length) (hel : ∀ j ∈ ec, j < fds.1.length ∧ j < fds.2.length) (hA : yt_Alt D cl cT tys (fun k => ad (yt_e em k)) sh' K (tb d) (ys_val r 0 t) (yt_sub em g) H.size i a (.returned v) t1) (hH1 : t1.heap = H1) (hkeep : ∀ q, q < H.size → ¬ (∃ j ∈ ec, q = ad j) → H1[q]? = H[q]?) (hS1 : va_S A H0 H1 locs1) (k : ∀ q ∈ yt_aft pc b fds lv sv h d em ec K t i a, yt_X p l e R s m args below meth c Q kc kz D cl ad cT sh A H0 nL mods g0 r0 E tb gi q.2.2 q.1 q.2.1) : W p l e R s m args below meth c H1 locs1 kc kz Q (F0 m pc ls (v.toList ++ st)) := sorry
theorem yt_kcall {i : Instr} {fr lo : Nat} {C : yt_CE} {t : List ys_L} {succ : List yt_U} {Ps : yt_Ps} (S : CallFix p m c cc nL s args Ts own) (hK : va_K D cl tys s) (hA0 : ∀ q, H0.size ≤ q → A q) (hcon : yt_Con l D cl cT tys G C.2.1 C.2.2 Ps (tb C.1.2.1)) (hCL : ys_CL own Ts cl C.2.1 G i C.2.2) (hsh : yt_shok C.1.2.2.2 C.2.1 sh = true) (hshl : sh.length = fds.1.length) (hd : decode cc pc = .ok (i, 3)) (hfr : fr ≤ R.frames) (hlo : lo ≤ R.locals) (hkk : kc ≤ R.cells ∧ kz ≤ R.slots) (hs : yt_hcall fr lo mods C h pc b fds lv sv = some (t, succ)) (hps : ∀ (r : Nat → Int) (g : yt_G), ys_okB r b → (∀ i, i < E → r i = r0 i) → yt_h tb r gi h g → Ps (ys_val r 0 t) (yt_sub C.1.2.2.2 g)) (k : ∀ q ∈ succ, yt_X p l e R s m args below meth c Q kc kz D cl ad cT sh A H0 nL mods g0 r0 E tb gi q.2.2 q.1 q.2.1) : yt_X p l e R s m args below meth c Q kc kz D cl ad cT sh A H0 nL mods g0 r0 E tb gi h pc (b, fds, lv, sv) := sorry
end YTC

