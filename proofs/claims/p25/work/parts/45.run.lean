/-! runs and methods; where words are wanted, a list of conditions to be shown by hand -/
abbrev yt_T : Type := ys_T × List ys_L × Bool
abbrev yt_VC : Type := Nat × ys_B × List ys_L × List Nat × List yt_Ev
def yt_cck (E : Nat) (mo : Option ys_L) (b : ys_B) (fds : ys_F) (lv : List (Nat × ys_V)) (sv : List ys_V) (T : ys_T) : Option (List ys_L) := match ys_zf T.2.2.1.1 fds.1, ys_zl lv T.2.2.2.1 with
  | some fp, some lp => if T.2.2.2.2.1.length = sv.length then (match ys_mat b fds.2 E T.1 T.2.1 T.2.2.1.2 (lp ++ (T.2.2.2.2.1.zip sv ++ fp)) with
    | some t => (match mo with
      | none => some t
      | some m0 => if ys_ge b.1 b.2 2 (ys_add (ys_sub m0 (ys_put E t T.2.2.2.2.2)) ([], -1)) = true then some t else none)
    | none => none) else none
  | _, _ => none
def yt_fc (E : Nat) (mo : Option ys_L) (b : ys_B) (fds : ys_F) (lv : List (Nat × ys_V)) (sv : List ys_V) (h : List yt_Ev) (pc : Nat) : Nat → List (Nat × yt_T) → Option (List yt_VC)
  | _, [] => none
  | j, q :: x => if q.1 = pc then (match yt_cck E mo b fds lv sv q.2.1 with
    | some t => some (if (q.2.2.2 || !q.2.2.1.isEmpty) = true then [(j, b, t, [], h)] else [])
    | none => yt_fc E mo b fds lv sv h pc (j + 1) x) else yt_fc E mo b fds lv sv h pc (j + 1) x
theorem yt_fc_ok {E : Nat} {mo : Option ys_L} {b : ys_B} {fds : ys_F} {lv : List (Nat × ys_V)} {sv : List ys_V} {h : List yt_Ev} {pc : Nat} {vs : List yt_VC} : ∀ (x : List (Nat × yt_T)) (i : Nat), yt_fc E mo b fds lv sv h pc i x = some vs → ∃ (j : Nat) (q : Nat × yt_T) (t : List ys_L), x[j]? = some q ∧ q.1 = pc ∧ yt_cck E mo b fds lv sv q.2.1 = some t ∧ vs = if (q.2.2.2 || !q.2.2.1.isEmpty) = true then [(i + j, b, t, [], h)] else [] := sorry
def yt_ret1 (E : Nat) (b : ys_B) (fds : ys_F) (v : Option ys_V) (a : ys_A) : Option (List ys_L) := match ys_zf a.2.2.1.1 fds.1 with
  | some fp => (match a.2.2.2, v with
    | some x, some y => ys_mat b fds.2 E a.1 a.2.1 a.2.2.1.2 ((x, y) :: fp)
    | none, none => ys_mat b fds.2 E a.1 a.2.1 a.2.2.1.2 fp
    | _, _ => none)
  | none => none
def yt_ret2 (E : Nat) (b : ys_B) (fds : ys_F) (v : Option ys_V) (h : List yt_Ev) (sa : List Bool) : Nat → List ys_A → Option (List yt_VC)
  | _, [] => none
  | i, a :: x => match yt_ret1 E b fds v a with
    | some t => some (if sa.getD i false = true then [(1000 + i, b, t, [], h)] else [])
    | none => yt_ret2 E b fds v h sa (i + 1) x
theorem yt_ret2_ok {E : Nat} {b : ys_B} {fds : ys_F} {v : Option ys_V} {h : List yt_Ev} {sa : List Bool} {vs : List yt_VC} : ∀ (x : List ys_A) (i : Nat), yt_ret2 E b fds v h sa i x = some vs → ∃ (j : Nat) (a : ys_A) (t : List ys_L), x[j]? = some a ∧ yt_ret1 E b fds v a = some t ∧ vs = if sa.getD (i + j) false = true then [(1000 + (i + j), b, t, [], h)] else [] := sorry
def yt_rt (K : ys_K) (sa : List Bool) (b : ys_B) (fds : ys_F) (sv : List ys_V) (h : List yt_Ev) (i : Instr) (n : Nat) : Option (List yt_VC) := match i with
  | .ireturn => (match sv with
    | [.inl (.inl x)] => if decide (n = 1) && (decide (K.1.1.2.2.2 = some .int) || (decide (K.1.1.2.2.2 = some .boolean) && (ys_geb b.1 x 0 && ys_geb b.1 (ys_scale (-1) x) (-1)))) then yt_ret2 K.2.1.2.1.1.length b fds (some (.inl (.inl x))) h sa 0 K.2.2.1 else none
    | _ => none)
  | .lreturn => (match sv with
    | [.inl (.inr x)] => if decide (n = 1) && decide (K.1.1.2.2.2 = some .long) then yt_ret2 K.2.1.2.1.1.length b fds (some (.inl (.inr x))) h sa 0 K.2.2.1 else none
    | _ => none)
  | .return_ => (match sv with
    | [] => if decide (n = 1) && decide (K.1.1.2.2.2 = none) then yt_ret2 K.2.1.2.1.1.length b fds none h sa 0 K.2.2.1 else none
    | _ => none)
  | _ => none
def yt_all {α : Type} (f : α → Option (List yt_VC)) : List α → Option (List yt_VC)
  | [] => some []
  | a :: t => match f a, yt_all f t with
    | some x, some y => some (x ++ y)
    | _, _ => none
theorem yt_all_ok {α : Type} {f : α → Option (List yt_VC)} : ∀ (l : List α) (vs : List yt_VC), yt_all f l = some vs → ∀ a ∈ l, ∃ x, f a = some x ∧ ∀ v ∈ x, v ∈ vs := sorry
def yt_run (sh : List ys_C) (fl : ys_FL) (ci cj : List (Nat × Int)) (calls : List yt_CE) (cps cqs : List Nat) (K : ys_K) (nx : Nat → Option (Instr × Nat)) (cuts : List (Nat × yt_T)) (sa : List Bool) (mo : Option ys_L) : Nat → Bool → Nat → ys_S → List yt_Ev → Option (List yt_VC)
  | 0, _, _, _, _ => none
  | n + 1, f, pc, S, h => if !f && cuts.any (fun q => q.1 == pc) then yt_fc K.2.1.2.1.1.length mo S.1 S.2.1 S.2.2.1 S.2.2.2 h pc 0 cuts else (match nx pc with
    | none => none
    | some i => if ys_isr i.1 = true then yt_rt K sa S.1 S.2.1 S.2.2.2 h i.1 i.2 else (match yt_step sh fl ci cj calls cps cqs K nx h pc S.1 S.2.1 S.2.2.1 S.2.2.2 i.1 i.2 with
      | none => none
      | some o => (match yt_all (fun q => yt_run sh fl ci cj calls cps cqs K nx cuts sa mo n false q.1 q.2.1 q.2.2) o.1 with
        | some vs => some (o.2.map (fun q => (2000 + q.1, S.1, q.2.1, q.2.2, h)) ++ vs)
        | none => none)))
def yt_cap (E : Nat) (r : Nat → Int) : Nat → Int := fun i => if i < E then r i else 0
theorem yt_cap_eq {E : Nat} {r r0 : Nat → Int} (h : ∀ i, i < E → r i = r0 i) (hz : ∀ i, E ≤ i → r0 i = 0) : yt_cap E r = r0 := sorry
section YTH
variable (tb : yt_Tb) (K : ys_K) (cuts : List (Nat × yt_T)) (Ga : Nat → yt_G → (Nat → Int) → yt_G → Prop) (Ph : yt_Ph) (pt : Nat → yt_Ps)
def yt_dd (g0 : yt_G) (v : yt_VC) (r : Nat → Int) (g : yt_G) : Prop := if v.1 < 1000 then (∃ q, cuts[v.1]? = some q ∧ ys_fk (ys_val r K.2.1.2.1.1.length v.2.2.1) q.2.2.1 ∧ Ga v.1 g0 (ys_val r K.2.1.2.1.1.length v.2.2.1) g) else if v.1 < 2000 then Ph (v.1 - 1000) (ys_val r K.2.1.2.1.1.length v.2.2.1) g0 g else pt (v.1 - 2000) (ys_val r 0 v.2.2.1) (yt_sub v.2.2.2.1 g)
def yt_hold (E' : Nat) (ars : List ys_R) (Gs : yt_G → (Nat → Int) → yt_G → Prop) (v : yt_VC) : Prop := ∀ (g0 : yt_G) (r : Nat → Int) (gi g : yt_G), ys_okB r v.2.1 → yt_h tb r gi v.2.2.2.2 g → (∀ (k : Nat) (a : ys_R), ars[k]? = some a → ys_rok a (gi k)) → (∀ k, k ∉ K.2.2.2 → gi k = g0 k) → Gs g0 (yt_cap E' r) gi → yt_dd K cuts Ga Ph pt g0 v r g
end YTH
section YTR
variable {p : Program} {l : Launch} {e : Env} {R : Room} {s : State} {m : MethodId} {args : Array Value} {below : List Frame} {meth : Method} {c : Code} {Q : State → Prop} {kc kz : Nat} {D : va_G} {cl : List vw_C} {ad : Nat → Nat} {cT : Nat → ClassId} {sh : List ys_C} {A : Nat → Prop} {H0 : Heap} {nL : Nat} {mods : List Nat} {g0 : yt_G} {r0 : Nat → Int} {E : Nat} {tb : yt_Tb} {gi : yt_G} {h : List yt_Ev} {pc : Nat} {b : ys_B} {fds : ys_F} {lv : List (Nat × ys_V)} {sv : List ys_V} {cc : ByteArray} {own : String} {Ts : List Cond} {tys : List (ClassId × FieldType)}
variable {G : List Cond} {pt : Nat → yt_Ps} {calls : List yt_CE} {K : ys_K} {fl : ys_FL} {ci cj : List (Nat × Int)} {cps cqs : List Nat} {nx : Nat → Option (Instr × Nat)} {rr : Nat → Int} {cuts : List (Nat × yt_T)} {sa : List Bool} {mo : Option ys_L} {Ga : Nat → yt_G → (Nat → Int) → yt_G → Prop} {Ph : yt_Ph}
theorem yt_cck_ok {T : ys_T} {t : List ys_L} {r : Nat → Int} {g : yt_G} {H : Heap} {locs : List Loc} {ls : Array Slot} {st : List Value} (hE : K.2.1.2.1.1.length ≤ E) (hrr : ∀ i, i < K.2.1.2.1.1.length → r0 i = rr i) (hB : ys_okB rr K.2.1.2.1) (hBs : ys_scB K.2.1.2.1) (hT : ys_scb (ys_sT K.2.1.2.1 T) = true) (h : ys_rep D cl ad cT sh A H0 nL [] g r0 r E (b, fds, lv, sv) H locs ls st) (hc : yt_cck K.2.1.2.1.1.length mo b fds lv sv T = some t) :
    ys_rep D cl ad cT sh A H0 nL [] g rr (ys_val r K.2.1.2.1.1.length t) K.2.1.2.1.1.length (ys_sT K.2.1.2.1 T) H locs ls st ∧ t.length = T.1.length ∧ ∀ m0, mo = some m0 → ys_ev (ys_val r K.2.1.2.1.1.length t) T.2.2.2.2.2 < ys_ev r m0 := sorry
theorem yt_kret {v : Option ys_V} {a : ys_A} {i : Nat} {tt : List ys_L} {r : Nat → Int} {g : yt_G} {H : Heap} {locs : List Loc} {ls : Array Slot} {st : List Value} {aa : Array Value} (hE : K.2.1.2.1.1.length ≤ E) (hrr : ∀ i, i < K.2.1.2.1.1.length → r0 i = rr i) (hK : va_K D cl tys s) (h : ys_rep D cl ad cT sh (va_A (ys_wK ad cT sh K rr g0) s.heap.size) s.heap nL [] g r0 r E (b, fds, lv, sv) H locs ls st) (hm0 : ∀ k, k ∉ K.2.2.2 → g k = g0 k) (ha : K.2.2.1[i]? = some a) (hs1 : yt_ret1 K.2.1.2.1.1.length b fds v a = some tt) (hPh : Ph i (ys_val r K.2.1.2.1.1.length tt) g0 g) :
    ∀ t : State, t.heap = H → s.WarmedH t.vm → yt_Post D cl cT tys ad sh K Ph rr g0 s.heap.size aa s (.returned (v.map (ys_den ad r))) t := sorry
theorem yt_run_ok {ars : List ys_R} {Gs : yt_G → (Nat → Int) → yt_G → Prop} (hw : yt_Hw tb) (S : CallFix p m c K.1.1.2.1 K.1.1.2.2.1 s args (ys_ws G K) own) (hr : meth.sig.returnType = K.1.1.2.2.2) (hlocks : meth.locks = false) (hK : va_K D cl tys s) (hty : ys_Ty tys cT sh) (hLk : ys_Lk own (ys_ws G K) cl fl ci cj cps) (hCq : ∀ v, v ∈ cqs → yt_Cq own (ys_ws G K) v) (hcalls : ∀ C ∈ calls, yt_Con l D cl cT tys G C.2.1 C.2.2 (pt C.1.2.1) (tb C.1.2.1) ∧ ys_CL own (ys_ws G K) cl C.2.1 G (if C.1.1.2 = true then .invokestatic C.1.1.1 else .invokevirtual C.1.1.1) C.2.2 ∧ yt_shok C.1.2.2.2 C.2.1 sh = true ∧ (C.1.2.2.1 = false → ∀ r g, pt C.1.2.1 r g)) (hnx : ∀ pc i, nx pc = some i → decode K.1.1.2.1 pc = .ok i) (hE : K.2.1.2.1.1.length ≤ E) (hrr : ∀ i, i < K.2.1.2.1.1.length → r0 i = rr i) (hB : ys_okB rr K.2.1.2.1) (hBs : ys_scB K.2.1.2.1) (hz : ∀ i, E ≤ i → r0 i = 0) (hT : ∀ q ∈ cuts, ys_scb (ys_sT K.2.1.2.1 q.2.1) = true) (hmo : ∀ m0, mo = some m0 → ys_stb E m0)
    (hars : ∀ (k : Nat) (a : ys_R), ars[k]? = some a → ys_rok a (gi k)) (hgi : ∀ k, k ∉ K.2.2.2 → gi k = g0 k) (hGs : Gs g0 r0 gi) (hcn : cuts.length ≤ 1000) (han : K.2.2.1.length ≤ 1000) (hns : ∀ (j : Nat) (q : Nat × yt_T), cuts[j]? = some q → q.2.2.2 = false → ∀ g0 r g, Ga j g0 r g) (hsa : ∀ i, sa.getD i false = false → ∀ r g g', Ph i r g g')
    (hcut : ∀ (j : Nat) (q : Nat × yt_T), cuts[j]? = some q → ∀ (r2 : Nat → Int) (g : yt_G) (H : Heap) (locs : List Loc) (ls : Array Slot) (st : List Value), ys_rep D cl ad cT sh (va_A (ys_wK ad cT sh K rr g0) s.heap.size) s.heap K.1.1.2.2.1 [] g rr r2 K.2.1.2.1.1.length (ys_sT K.2.1.2.1 q.2.1) H locs ls st → ys_fk r2 q.2.2.1 → Ga j g0 r2 g → (∀ i, K.2.1.2.1.1.length + q.2.1.1.length ≤ i → r2 i = 0) → (∀ k, k ∉ K.2.2.2 → g k = g0 k) → (∀ m0, mo = some m0 → ys_ev r2 q.2.1.2.2.2.2.2 < ys_ev r0 m0) → W p l e (ys_rm K) s m args below meth c H locs 0 0 (MQ below (yt_Post D cl cT tys ad sh K Ph rr g0 s.heap.size) args s 0 0 (va_A (ys_wK ad cT sh K rr g0) s.heap.size)) (F0 m q.1 ls st)) :
    ∀ (n : Nat) (f : Bool) (pc : Nat) (x : ys_S) (h : List yt_Ev) (vs : List yt_VC), yt_run sh fl ci cj calls cps cqs K nx cuts sa mo n f pc x h = some vs → (∀ v ∈ vs, yt_hold tb K cuts Ga Ph pt E ars Gs v) → yt_X p l e (ys_rm K) s m args below meth c (MQ below (yt_Post D cl cT tys ad sh K Ph rr g0 s.heap.size) args s 0 0 (va_A (ys_wK ad cT sh K rr g0) s.heap.size)) 0 0 D cl ad cT sh (va_A (ys_wK ad cT sh K rr g0) s.heap.size) s.heap K.1.1.2.2.1 K.2.2.2 g0 r0 E tb gi h pc x := sorry
end YTR
/-! alike or not, for the lists of conditions -/
def yt_dS {α β : Type} (a : DecidableEq α) (b : DecidableEq β) : DecidableEq (α ⊕ β) := fun x y => match x, y with
  | .inl u, .inl v => (match a u v with
    | isTrue h => isTrue (by rw [h])
    | isFalse h => isFalse (fun e => h (Sum.inl.inj e)))
  | .inr u, .inr v => (match b u v with
    | isTrue h => isTrue (by rw [h])
    | isFalse h => isFalse (fun e => h (Sum.inr.inj e)))
  | .inl _, .inr _ => isFalse (fun e => by cases e)
  | .inr _, .inl _ => isFalse (fun e => by cases e)
def yt_dL : DecidableEq ys_L := inferInstance
def yt_dLs : DecidableEq (List ys_L) := @instDecidableEqList _ yt_dL
def yt_dNs : DecidableEq (List Nat) := inferInstance
def yt_dP {α β : Type} (a : DecidableEq α) (b : DecidableEq β) : DecidableEq (α × β) := @instDecidableEqProd _ _ a b
def yt_d1 : DecidableEq (Nat × ys_L × Nat) := yt_dP instDecidableEqNat (yt_dP yt_dL instDecidableEqNat)
def yt_d2 : DecidableEq (Nat × ys_L × ys_L) := yt_dP instDecidableEqNat (yt_dP yt_dL yt_dL)
def yt_d4 : DecidableEq (Nat × Nat × List ys_L × List Nat × List Nat) := yt_dP instDecidableEqNat (yt_dP instDecidableEqNat (yt_dP yt_dLs (yt_dP yt_dNs yt_dNs)))
def yt_d5 : DecidableEq (Nat × Nat × ys_L × ys_L × ys_L) := yt_dP instDecidableEqNat (yt_dP instDecidableEqNat (yt_dP yt_dL (yt_dP yt_dL yt_dL)))
def yt_dEv : DecidableEq yt_Ev := yt_dS (yt_dS yt_d1 yt_d2) (yt_dS yt_d2 (yt_dS yt_d4 yt_d5))
def yt_dH : DecidableEq (List yt_Ev) := @instDecidableEqList _ yt_dEv
def yt_dB : DecidableEq ys_B := inferInstance
def yt_dVC : DecidableEq yt_VC := yt_dP instDecidableEqNat (yt_dP yt_dB (yt_dP yt_dLs (yt_dP yt_dNs yt_dH)))
def yt_dVs : DecidableEq (List yt_VC) := @instDecidableEqList _ yt_dVC
def yt_beq (x : Option (List yt_VC)) (y : List yt_VC) : Bool := match x with
  | some z => @decide (z = y) (yt_dVs z y)
  | none => false
theorem yt_beq_ok {x : Option (List yt_VC)} {y : List yt_VC} (h : yt_beq x y = true) : x = some y := sorry
/-- code; links: fields, ints, longs, copies, other members of the library; loop heads; which ends have words -/
abbrev yt_Q : Type := List (Nat × (Instr × Nat)) × (ys_FL × List (Nat × Int) × List (Nat × Int) × List Nat × List Nat) × List (Nat × yt_T) × List Bool
def yt_cks (sh : List ys_C) (calls : List yt_CE) (K : ys_K) (Z : yt_Q) (n : Nat) (vs : List (List yt_VC)) : Nat → List (Nat × yt_T) → Bool
  | _, [] => true
  | j, q :: x => (ys_scb (ys_sT K.2.1.2.1 q.2.1) && (q.2.2.1.all (ys_bel (K.2.1.2.1.1 ++ q.2.1.1).length) && (ys_geb (K.2.1.2.1.1 ++ q.2.1.1) q.2.1.2.2.2.2.2 0 && (ys_bel (K.2.1.2.1.1 ++ q.2.1.1).length q.2.1.2.2.2.2.2 && (match ys_ass (K.2.1.2.1.1 ++ q.2.1.1, K.2.1.2.1.2 ++ q.2.1.2.1) (q.2.1.2.1 ++ q.2.2.1) with
    | some b => yt_beq (yt_run sh Z.2.1.1 Z.2.1.2.1 Z.2.1.2.2.1 calls Z.2.1.2.2.2.1 Z.2.1.2.2.2.2 K (fun pc => Z.1.lookup pc) Z.2.2.1 Z.2.2.2 (some q.2.1.2.2.2.2.2) n true q.1 (b, (ys_sT K.2.1.2.1 q.2.1).2) []) (vs.getD (j + 1) [])
    | none => true))))) && yt_cks sh calls K Z n vs (j + 1) x
def yt_chk (sh : List ys_C) (calls : List yt_CE) (K : ys_K) (Z : yt_Q) (n : Nat) (vs : List (List yt_VC)) : Bool := ys_scb (ys_S0 K) && (decide ((K.2.1.1.map ys_cat).sum ≤ K.1.1.2.2.1) && (decide (Z.2.2.1.length ≤ 1000) && (decide (K.2.2.1.length ≤ 1000) && (yt_beq (yt_run sh Z.2.1.1 Z.2.1.2.1 Z.2.1.2.2.1 calls Z.2.1.2.2.2.1 Z.2.1.2.2.2.2 K (fun pc => Z.1.lookup pc) Z.2.2.1 Z.2.2.2 none n true 0 (ys_S0 K) []) (vs.getD 0 []) && yt_cks sh calls K Z n vs 0 Z.2.2.1))))
theorem yt_cks_ok {sh : List ys_C} {calls : List yt_CE} {K : ys_K} {Z : yt_Q} {n : Nat} {vs : List (List yt_VC)} : ∀ (x : List (Nat × yt_T)) (i : Nat), yt_cks sh calls K Z n vs i x = true → ∀ (j : Nat) (q : Nat × yt_T), x[j]? = some q → ys_scb (ys_sT K.2.1.2.1 q.2.1) = true ∧ (∀ f ∈ q.2.2.1, ys_bel (K.2.1.2.1.1 ++ q.2.1.1).length f = true) ∧ ys_geb (K.2.1.2.1.1 ++ q.2.1.1) q.2.1.2.2.2.2.2 0 = true ∧ ys_bel (K.2.1.2.1.1 ++ q.2.1.1).length q.2.1.2.2.2.2.2 = true ∧ ∀ b, ys_ass (K.2.1.2.1.1 ++ q.2.1.1, K.2.1.2.1.2 ++ q.2.1.2.1) (q.2.1.2.1 ++ q.2.2.1) = some b → yt_run sh Z.2.1.1 Z.2.1.2.1 Z.2.1.2.2.1 calls Z.2.1.2.2.2.1 Z.2.1.2.2.2.2 K (fun pc => Z.1.lookup pc) Z.2.2.1 Z.2.2.2 (some q.2.1.2.2.2.2.2) n true q.1 (b, (ys_sT K.2.1.2.1 q.2.1).2) [] = some (vs.getD (i + j + 1) []) := sorry
theorem yt_method {l : Launch} {D : va_G} {cl : List vw_C} {cT : Nat → ClassId} {sh : List ys_C} {tys : List (ClassId × FieldType)} {G : List Cond} {K : ys_K} {calls : List yt_CE} {Z : yt_Q} {tb : yt_Tb} {pt : Nat → yt_Ps} {Ps : yt_Ps} {Ph : yt_Ph} {Ga : Nat → yt_G → (Nat → Int) → yt_G → Prop} {vs : List (List yt_VC)} (n : Nat) (hw : yt_Hw tb) (hy : plainName K.1.1.1.cls = true) (hcode : ∀ q ∈ Z.1, decode K.1.1.2.1 q.1 = .ok q.2) (hty : ys_Ty tys cT sh) (hLk : ys_Lk K.1.1.1.cls (ys_ws G K) cl Z.2.1.1 Z.2.1.2.1 Z.2.1.2.2.1 Z.2.1.2.2.2.1) (hCq : ∀ v, v ∈ Z.2.1.2.2.2.2 → yt_Cq K.1.1.1.cls (ys_ws G K) v) (hcalls : ∀ C ∈ calls, yt_Con l D cl cT tys G C.2.1 C.2.2 (pt C.1.2.1) (tb C.1.2.1) ∧ ys_CL K.1.1.1.cls (ys_ws G K) cl C.2.1 G (if C.1.1.2 = true then .invokestatic C.1.1.1 else .invokevirtual C.1.1.1) C.2.2 ∧ yt_shok C.1.2.2.2 C.2.1 sh = true ∧ (C.1.2.2.1 = false → ∀ r g, pt C.1.2.1 r g)) (hns : ∀ (j : Nat) (q : Nat × yt_T), Z.2.2.1[j]? = some q → q.2.2.2 = false → ∀ g0 r g, Ga j g0 r g) (hsa : ∀ i, Z.2.2.2.getD i false = false → ∀ r g g', Ph i r g g') (hchk : yt_chk sh calls K Z n vs = true)
    (hv0 : ∀ v ∈ vs.getD 0 [], yt_hold tb K Z.2.2.1 Ga Ph pt K.2.1.2.1.1.length K.2.1.2.2.2 (fun g0 r g => Ps r g0 ∧ g = g0) v) (hv : ∀ (j : Nat) (q : Nat × yt_T), Z.2.2.1[j]? = some q → ∀ v ∈ vs.getD (j + 1) [], yt_hold tb K Z.2.2.1 Ga Ph pt (K.2.1.2.1.1.length + q.2.1.1.length) q.2.1.2.2.1.2 (Ga j) v) : yt_Con l D cl cT tys G sh K Ps Ph := sorry
