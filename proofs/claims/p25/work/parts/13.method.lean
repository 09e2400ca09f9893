/-! a whole method, by its loops' heads -/
abbrev ys_T : Type := ys_E × List ys_L × ys_F × List (Nat × ys_V) × List ys_V × ys_L
def ys_sT (B : ys_B) (T : ys_T) : ys_S := ((B.1 ++ T.1, B.2 ++ T.2.1), T.2.2.1, T.2.2.2.1, T.2.2.2.2.1)
def ys_zl (lv : List (Nat × ys_V)) : List (Nat × ys_V) → Option (List (ys_V × ys_V))
  | [] => some []
  | q :: t => match lv.lookup q.1, ys_zl lv t with
    | some w, some x => some ((q.2, w) :: x)
    | _, _ => none
def ys_cck (E : Nat) (mo : Option ys_L) (b : ys_B) (fds : ys_F) (lv : List (Nat × ys_V)) (sv : List ys_V) (T : ys_T) : Bool := match ys_zf T.2.2.1.1 fds.1, ys_zl lv T.2.2.2.1 with
  | some fp, some lp => if T.2.2.2.2.1.length = sv.length then (match ys_mat b fds.2 E T.1 T.2.1 T.2.2.1.2 (lp ++ (T.2.2.2.2.1.zip sv ++ fp)) with
    | some t => (match mo with
      | none => true
      | some m0 => ys_ge b.1 b.2 2 (ys_add (ys_sub m0 (ys_put E t T.2.2.2.2.2)) ([], -1)))
    | none => false) else false
  | _, _ => false
def ys_bV (n : Nat) (v : ys_V) : Bool := match v with
  | .inl (.inl x) => ys_bel n x
  | .inl (.inr x) => ys_bel n x
  | .inr _ => true
def ys_scb (S : ys_S) : Bool := S.1.2.all (ys_bel S.1.1.length) && (S.2.1.1.all (fun w => w.all (ys_bV S.1.1.length)) && (S.2.2.1.all (fun q => ys_bV S.1.1.length q.2) && S.2.2.2.all (ys_bV S.1.1.length)))
theorem ys_bV_ok {n : Nat} {v : ys_V} (h : ys_bV n v = true) : ys_stV n v := sorry
theorem ys_scb_ok {S : ys_S} (h : ys_scb S = true) : ys_sc S := sorry
theorem ys_zl_ok {ad : Nat → Nat} {r r' : Nat → Int} {ls : Array Slot} {nL : Nat} {lv : List (Nat × ys_V)} (h : lv_has ls nL (ys_lvs ad r lv)) : ∀ (x : List (Nat × ys_V)) (y : List (ys_V × ys_V)), ys_zl lv x = some y → (∀ q ∈ y, ys_den ad r' q.1 = ys_den ad r q.2) → ∀ q ∈ ys_lvs ad r' x, ls[q.1]? = some (.val q.2) := sorry
def ys_run (sh : List ys_C) (fl : ys_FL) (ci cj : List (Nat × Int)) (calls : ys_CA) (cps : List Nat) (K : ys_K) (nx : Nat → Option (Instr × Nat)) (cuts : List (Nat × ys_T)) (mo : Option ys_L) : Nat → Bool → Nat → ys_S → Bool
  | 0, _, _, _ => false
  | n + 1, f, pc, S => if !f && cuts.any (fun q => q.1 == pc) then cuts.any (fun q => q.1 == pc && ys_cck K.2.1.2.1.1.length mo S.1 S.2.1 S.2.2.1 S.2.2.2 q.2) else (match nx pc with
    | none => false
    | some i => (match ys_stp sh fl ci cj calls cps K nx pc S.1 S.2.1 S.2.2.1 S.2.2.2 i.1 i.2 with
      | none => false
      | some x => x.all (fun q => ys_run sh fl ci cj calls cps K nx cuts mo n false q.1 q.2)))
section YSN
variable {p : Program} {l : Launch} {e : Env} {R : Room} {s : State} {m : MethodId} {args : Array Value} {below : List Frame} {meth : Method} {c : Code} {Q : State → Prop} {kc kz : Nat} {D : va_G} {cl : List vw_C} {ad : Nat → Nat} {cT : Nat → ClassId} {sh : List ys_C} {A : Nat → Prop} {H0 : Heap} {nL : Nat} {mods : List Nat} {g0 : Nat → Nat → Int} {r0 : Nat → Int} {E : Nat} {pc : Nat} {b : ys_B} {fds : ys_F} {lv : List (Nat × ys_V)} {sv : List ys_V} {succ : List (Nat × ys_S)} {cc : ByteArray} {own : String} {Ts : List Cond} {tys : List (ClassId × FieldType)}
variable {G : List Cond} {K : ys_K} {fl : ys_FL} {ci cj : List (Nat × Int)} {calls : ys_CA} {cps : List Nat} {nx : Nat → Option (Instr × Nat)} {rr : Nat → Int} {cuts : List (Nat × ys_T)} {mo : Option ys_L}
theorem ys_cck_ok {T : ys_T} {r : Nat → Int} {H : Heap} {locs : List Loc} {ls : Array Slot} {st : List Value} (hE : K.2.1.2.1.1.length ≤ E) (hrr : ∀ i, i < K.2.1.2.1.1.length → r0 i = rr i) (hB : ys_okB rr K.2.1.2.1) (hBs : ys_scB K.2.1.2.1) (hT : ys_scb (ys_sT K.2.1.2.1 T) = true) (h : ys_rep D cl ad cT sh (va_A (ys_wK ad cT sh K rr g0) s.heap.size) s.heap K.1.1.2.2.1 K.2.2.2 g0 r0 r E (b, fds, lv, sv) H locs ls st) (hc : ys_cck K.2.1.2.1.1.length mo b fds lv sv T = true) :
    ∃ r2 : Nat → Int, ys_rep D cl ad cT sh (va_A (ys_wK ad cT sh K rr g0) s.heap.size) s.heap K.1.1.2.2.1 K.2.2.2 g0 rr r2 K.2.1.2.1.1.length (ys_sT K.2.1.2.1 T) H locs ls st ∧ ∀ m0, mo = some m0 → ys_ev r2 T.2.2.2.2.2 < ys_ev r m0 := sorry
theorem ys_run_ok (S : CallFix p m c K.1.1.2.1 K.1.1.2.2.1 s args (ys_ws G K) own) (hr : meth.sig.returnType = K.1.1.2.2.2) (hlocks : meth.locks = false) (hK : va_K D cl tys s) (hty : ys_Ty tys cT sh) (hLk : ys_Lk own (ys_ws G K) cl fl ci cj cps) (hcalls : ∀ q ∈ calls, ys_Con l D cl ad cT sh tys G q.2 ∧ ys_CL own (ys_ws G K) cl sh G (if q.1.2 = true then .invokestatic q.1.1 else .invokevirtual q.1.1) q.2) (hnx : ∀ pc i, nx pc = some i → decode K.1.1.2.1 pc = .ok i) (hE : K.2.1.2.1.1.length ≤ E) (hrr : ∀ i, i < K.2.1.2.1.1.length → r0 i = rr i) (hB : ys_okB rr K.2.1.2.1) (hBs : ys_scB K.2.1.2.1) (hT : ∀ q ∈ cuts, ys_scb (ys_sT K.2.1.2.1 q.2) = true) (hmo : ∀ m0, mo = some m0 → ys_stb E m0)
    (hcut : ∀ q ∈ cuts, ∀ (r2 : Nat → Int) (H : Heap) (locs : List Loc) (ls : Array Slot) (st : List Value), ys_rep D cl ad cT sh (va_A (ys_wK ad cT sh K rr g0) s.heap.size) s.heap K.1.1.2.2.1 K.2.2.2 g0 rr r2 K.2.1.2.1.1.length (ys_sT K.2.1.2.1 q.2) H locs ls st → (∀ m0, mo = some m0 → ys_ev r2 q.2.2.2.2.2.2 < ys_ev r0 m0) → W p l e (ys_rm K) s m args below meth c H locs 0 0 (MQ below (ys_Post D cl ad cT sh tys K rr g0 s.heap.size) args s 0 0 (va_A (ys_wK ad cT sh K rr g0) s.heap.size)) (F0 m q.1 ls st)) :
    ∀ (n : Nat) (f : Bool) (pc : Nat) (x : ys_S), ys_run sh fl ci cj calls cps K nx cuts mo n f pc x = true → ys_W p l e (ys_rm K) s m args below meth c (MQ below (ys_Post D cl ad cT sh tys K rr g0 s.heap.size) args s 0 0 (va_A (ys_wK ad cT sh K rr g0) s.heap.size)) 0 0 D cl ad cT sh (va_A (ys_wK ad cT sh K rr g0) s.heap.size) s.heap K.1.1.2.2.1 K.2.2.2 g0 r0 E pc x := sorry
end YSN
def ys_args : Nat → List ys_V → List (Nat × ys_V)
  | _, [] => []
  | i, v :: t => (i, v) :: ys_args (if ys_cat v = 2 then i + 2 else i + 1) t
theorem ys_args_lvs (ad : Nat → Nat) (r : Nat → Int) : ∀ (x : List ys_V) (i : Nat), ys_lvs ad r (ys_args i x) = lv_args i (x.map (ys_den ad r)) := sorry
theorem ys_sl_len (ad : Nat → Nat) (r : Nat → Int) : ∀ (x : List ys_V), (lg_sl (x.map (ys_den ad r))).length = (x.map ys_cat).sum := sorry
def ys_S0 (K : ys_K) : ys_S := (K.2.1.2.1, K.2.1.2.2, ys_args 0 K.2.1.1, [])
abbrev ys_Q : Type := List (Nat × (Instr × Nat)) × (ys_FL × List (Nat × Int) × List (Nat × Int) × List Nat) × List (Nat × ys_T)
def ys_chk (sh : List ys_C) (calls : ys_CA) (K : ys_K) (Z : ys_Q) (n : Nat) : Bool := ys_scb (ys_S0 K) && (decide ((K.2.1.1.map ys_cat).sum ≤ K.1.1.2.2.1) && (ys_run sh Z.2.1.1 Z.2.1.2.1 Z.2.1.2.2.1 calls Z.2.1.2.2.2 K (fun pc => Z.1.lookup pc) Z.2.2 none n true 0 (ys_S0 K) && Z.2.2.all (fun q => ys_scb (ys_sT K.2.1.2.1 q.2) && (ys_geb (K.2.1.2.1.1 ++ q.2.1) q.2.2.2.2.2.2 0 && (ys_bel (K.2.1.2.1.1 ++ q.2.1).length q.2.2.2.2.2.2 && (match ys_ass (K.2.1.2.1.1 ++ q.2.1, K.2.1.2.1.2 ++ q.2.2.1) q.2.2.1 with
  | some b => ys_run sh Z.2.1.1 Z.2.1.2.1 Z.2.1.2.2.1 calls Z.2.1.2.2.2 K (fun pc => Z.1.lookup pc) Z.2.2 (some q.2.2.2.2.2.2) n true q.1 (b, (ys_sT K.2.1.2.1 q.2).2)
  | none => true))))))
theorem ys_lk3 {α : Type} : ∀ (x : List (Nat × α)) (i : Nat) (v : α), x.lookup i = some v → (i, v) ∈ x := sorry
theorem ys_method {l : Launch} {D : va_G} {cl : List vw_C} {ad : Nat → Nat} {cT : Nat → ClassId} {sh : List ys_C} {tys : List (ClassId × FieldType)} {G : List Cond} {K : ys_K} {calls : ys_CA} {Z : ys_Q} (n : Nat) (hy : plainName K.1.1.1.cls = true) (hcode : ∀ q ∈ Z.1, decode K.1.1.2.1 q.1 = .ok q.2) (hty : ys_Ty tys cT sh) (hLk : ys_Lk K.1.1.1.cls (ys_ws G K) cl Z.2.1.1 Z.2.1.2.1 Z.2.1.2.2.1 Z.2.1.2.2.2) (hcalls : ∀ q ∈ calls, ys_Con l D cl ad cT sh tys G q.2 ∧ ys_CL K.1.1.1.cls (ys_ws G K) cl sh G (if q.1.2 = true then .invokestatic q.1.1 else .invokevirtual q.1.1) q.2) (hchk : ys_chk sh calls K Z n = true) : ys_Con l D cl ad cT sh tys G K := sorry
