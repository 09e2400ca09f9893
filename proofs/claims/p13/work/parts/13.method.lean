/-! a whole method, by its loops' heads -/
abbrev ys_T : Type := ys_E × List ys_L × ys_F × List (Nat × ys_V) × List ys_V × ys_L
noncomputable def ys_sT (B : ys_B) (T : ys_T) : ys_S := ((B.1 ++ T.1, B.2 ++ T.2.1), T.2.2.1, T.2.2.2.1, T.2.2.2.2.1)
noncomputable def ys_zl (lv : List (Nat × ys_V)) : List (Nat × ys_V) → Option (List (ys_V × ys_V))
  | [] => some []
  | q :: t => match lv.lookup q.1, ys_zl lv t with
    | some w, some x => some ((q.2, w) :: x)
    | _, _ => none
noncomputable def ys_cck (E : Nat) (mo : Option ys_L) (b : ys_B) (fds : ys_F) (lv : List (Nat × ys_V)) (sv : List ys_V) (T : ys_T) : Bool := match ys_zf T.2.2.1.1 fds.1, ys_zl lv T.2.2.2.1 with
  | some fp, some lp => if T.2.2.2.2.1.length = sv.length then (match ys_mat b fds.2 E T.1 T.2.1 T.2.2.1.2 (lp ++ (T.2.2.2.2.1.zip sv ++ fp)) with
    | some t => (match mo with
      | none => true
      | some m0 => ys_ge b.1 b.2 2 (ys_add (ys_sub m0 (ys_put E t T.2.2.2.2.2)) ([], -1)))
    | none => false) else false
  | _, _ => false
noncomputable def ys_bV (n : Nat) (v : ys_V) : Bool := match v with
  | .inl (.inl x) => ys_bel n x
  | .inl (.inr x) => ys_bel n x
  | .inr _ => true
noncomputable def ys_scb (S : ys_S) : Bool := S.1.2.all (ys_bel S.1.1.length) && (S.2.1.1.all (fun w => w.all (ys_bV S.1.1.length)) && (S.2.2.1.all (fun q => ys_bV S.1.1.length q.2) && S.2.2.2.all (ys_bV S.1.1.length)))
theorem ys_bV_ok {n : Nat} {v : ys_V} (h : ys_bV n v = true) : ys_stV n v := by
  rcases v with (x | x) | x
  · exact ys_stb_bel h
  · exact ys_stb_bel h
  · trivial
theorem ys_scb_ok {S : ys_S} (h : ys_scb S = true) : ys_sc S := by
  unfold ys_scb at h
  rw [Bool.and_eq_true, Bool.and_eq_true, Bool.and_eq_true] at h
  obtain ⟨h1, h2, h3, h4⟩ := h
  refine ⟨fun f hf => ys_stb_bel (List.all_eq_true.mp h1 f hf), fun w hw v hv => ys_bV_ok (List.all_eq_true.mp (List.all_eq_true.mp h2 w hw) v hv), fun q hq => ys_bV_ok (List.all_eq_true.mp h3 q hq), fun v hv => ys_bV_ok (List.all_eq_true.mp h4 v hv)⟩
theorem ys_zl_ok {ad : Nat → Nat} {r r' : Nat → Int} {ls : Array Slot} {nL : Nat} {lv : List (Nat × ys_V)} (h : lv_has ls nL (ys_lvs ad r lv)) : ∀ (x : List (Nat × ys_V)) (y : List (ys_V × ys_V)), ys_zl lv x = some y → (∀ q ∈ y, ys_den ad r' q.1 = ys_den ad r q.2) → ∀ q ∈ ys_lvs ad r' x, ls[q.1]? = some (.val q.2)
  | [], y, hz, hd, q, hq => by cases hq
  | (i, v) :: t, y, hz, hd, q, hq => by
    unfold ys_zl at hz
    split at hz
    · rename_i w z hw ht
      cases Option.some.inj hz
      rcases List.mem_cons.mp hq with e1 | e1
      · rw [e1]
        show ls[i]? = some (.val (ys_den ad r' v))
        rw [hd (v, w) List.mem_cons_self]
        exact h.2.2 (i, ys_den ad r w) (List.mem_map.mpr ⟨(i, w), ys_find_mem lv i w hw, rfl⟩)
      · exact ys_zl_ok h t z ht (fun q hq => hd q (List.mem_cons_of_mem _ hq)) q e1
    · cases hz
noncomputable def ys_run (sh : List ys_C) (fl : ys_FL) (ci cj : List (Nat × Int)) (calls : ys_CA) (cps : List Nat) (K : ys_K) (nx : Nat → Option (Instr × Nat)) (cuts : List (Nat × ys_T)) (mo : Option ys_L) : Nat → Bool → Nat → ys_S → Bool
  | 0, _, _, _ => false
  | n + 1, f, pc, S => if !f && cuts.any (fun q => q.1 == pc) then cuts.any (fun q => q.1 == pc && ys_cck K.2.1.2.1.1.length mo S.1 S.2.1 S.2.2.1 S.2.2.2 q.2) else (match nx pc with
    | none => false
    | some i => (match ys_stp sh fl ci cj calls cps K nx pc S.1 S.2.1 S.2.2.1 S.2.2.2 i.1 i.2 with
      | none => false
      | some x => x.all (fun q => ys_run sh fl ci cj calls cps K nx cuts mo n false q.1 q.2)))
section YSN
variable {p : Program} {l : Launch} {e : Env} {R : Room} {s : State} {m : MethodId} {args : Array Value} {below : List Frame} {meth : Method} {c : Code} {Q : State → Prop} {kc kz : Nat} {D : va_G} {cl : List vw_C} {ad : Nat → Nat} {cT : Nat → ClassId} {sh : List ys_C} {A : Nat → Prop} {H0 : Heap} {nL : Nat} {mods : List Nat} {g0 : Nat → Nat → Int} {r0 : Nat → Int} {E : Nat} {pc : Nat} {b : ys_B} {fds : ys_F} {lv : List (Nat × ys_V)} {sv : List ys_V} {succ : List (Nat × ys_S)} {cc : ByteArray} {own : String} {Ts : List Cond} {tys : List (ClassId × FieldType)}
variable {G : List Cond} {K : ys_K} {fl : ys_FL} {ci cj : List (Nat × Int)} {calls : ys_CA} {cps : List Nat} {nx : Nat → Option (Instr × Nat)} {rr : Nat → Int} {cuts : List (Nat × ys_T)} {mo : Option ys_L}
theorem ys_cck_ok {T : ys_T} {r : Nat → Int} {H : Heap} {locs : List Loc} {ls : Array Slot} {st : List Value} (hE : K.2.1.2.1.1.length ≤ E) (hrr : ∀ i, i < K.2.1.2.1.1.length → r0 i = rr i) (hB : ys_okB rr K.2.1.2.1) (hBs : ys_scB K.2.1.2.1) (hT : ys_scb (ys_sT K.2.1.2.1 T) = true) (h : ys_rep D cl ad cT sh (va_A (ys_wK ad cT sh K rr g0) s.heap.size) s.heap K.1.1.2.2.1 K.2.2.2 g0 r0 r E (b, fds, lv, sv) H locs ls st) (hc : ys_cck K.2.1.2.1.1.length mo b fds lv sv T = true) :
    ∃ r2 : Nat → Int, ys_rep D cl ad cT sh (va_A (ys_wK ad cT sh K rr g0) s.heap.size) s.heap K.1.1.2.2.1 K.2.2.2 g0 rr r2 K.2.1.2.1.1.length (ys_sT K.2.1.2.1 T) H locs ls st ∧ ∀ m0, mo = some m0 → ys_ev r2 T.2.2.2.2.2 < ys_ev r m0 := by
  unfold ys_cck at hc
  split at hc
  · rename_i fp lp hfp hlp
    split at hc
    · rename_i hsl
      split at hc
      · rename_i t hm
        obtain ⟨h1, h2, ⟨hEl, hr⟩, ⟨g, hg, hP, hD, hS⟩, hlv, hst⟩ := h
        obtain ⟨-, e2, e3, e4, e5, e6, e7⟩ := ys_mat_ok (ad := ad) h1 hm
        have hlow : ∀ i, i < K.2.1.2.1.1.length → ys_val r K.2.1.2.1.1.length t i = rr i := fun i hi => by rw [ys_val_low hi, hr i (Nat.lt_of_lt_of_le hi hE), hrr i hi]
        have ew : ys_wld ad cT sh (ys_val r K.2.1.2.1.1.length t) g T.2.2.1.1 = ys_wld ad cT sh r g fds.1 := ys_wld_eq (ys_zf_ok _ _ _ hfp (fun q hq => e5 q (List.mem_append_right _ (List.mem_append_right _ hq))))
        refine ⟨ys_val r K.2.1.2.1.1.length t, ⟨⟨fun i q hi => ?_, fun f hf => ?_⟩, ys_scb_ok hT, ⟨?_, hlow⟩, ⟨g, ⟨fun kk z hz => ?_, hg.2⟩, ?_, ?_, hS⟩, ⟨hlv.1, hlv.2.1, ?_⟩, ?_⟩, fun m0 hm0 => ?_⟩
        · have hi : (K.2.1.2.1.1 ++ T.1)[i]? = some q := hi
          by_cases hl : i < K.2.1.2.1.1.length
          · rw [List.getElem?_append_left hl] at hi
            rw [hlow i hl]
            exact hB.1 i q hi
          · rw [List.getElem?_append_right (by omega)] at hi
            have := e3 _ q hi
            rw [show K.2.1.2.1.1.length + (i - K.2.1.2.1.1.length) = i by omega] at this
            exact this
        · rcases List.mem_append.mp hf with q | q
          · rw [hBs f q _ rr hlow]
            exact hB.2 f q
          · exact e4 f q
        · show K.2.1.2.1.1.length ≤ (K.2.1.2.1.1 ++ T.1).length
          rw [List.length_append]
          omega
        · obtain ⟨a0, g1, g2⟩ := e7 kk z hz
          exact ys_rle_ok g2 (hg.1 kk a0 g1)
        · show va_P D cl (ys_wld ad cT sh (ys_val r K.2.1.2.1.1.length t) g T.2.2.1.1) H
          rw [ew]
          exact hP
        · show va_D _ (ys_wld ad cT sh (ys_val r K.2.1.2.1.1.length t) g T.2.2.1.1)
          rw [ew]
          exact hD
        · exact ys_zl_ok hlv _ _ hlp (fun q hq => e5 q (List.mem_append_left _ hq))
        · rw [hst]
          exact (ys_zip_map _ _ hsl (fun q hq => e5 q (List.mem_append_right _ (List.mem_append_left _ hq)))).symm
        · subst hm0
          have := ys_ge_le h1.1 h1.2 _ _ hc
          rw [ys_m1, ys_sub_ev, ys_put_ev] at this
          omega
      · cases hc
    · cases hc
  · cases hc
theorem ys_run_ok (S : CallFix p m c K.1.1.2.1 K.1.1.2.2.1 s args (ys_ws G K) own) (hr : meth.sig.returnType = K.1.1.2.2.2) (hlocks : meth.locks = false) (hK : va_K D cl tys s) (hty : ys_Ty tys cT sh) (hLk : ys_Lk own (ys_ws G K) cl fl ci cj cps) (hcalls : ∀ q ∈ calls, ys_Con l D cl ad cT sh tys G q.2 ∧ ys_CL own (ys_ws G K) cl sh G (if q.1.2 = true then .invokestatic q.1.1 else .invokevirtual q.1.1) q.2) (hnx : ∀ pc i, nx pc = some i → decode K.1.1.2.1 pc = .ok i) (hE : K.2.1.2.1.1.length ≤ E) (hrr : ∀ i, i < K.2.1.2.1.1.length → r0 i = rr i) (hB : ys_okB rr K.2.1.2.1) (hBs : ys_scB K.2.1.2.1) (hT : ∀ q ∈ cuts, ys_scb (ys_sT K.2.1.2.1 q.2) = true) (hmo : ∀ m0, mo = some m0 → ys_stb E m0)
    (hcut : ∀ q ∈ cuts, ∀ (r2 : Nat → Int) (H : Heap) (locs : List Loc) (ls : Array Slot) (st : List Value), ys_rep D cl ad cT sh (va_A (ys_wK ad cT sh K rr g0) s.heap.size) s.heap K.1.1.2.2.1 K.2.2.2 g0 rr r2 K.2.1.2.1.1.length (ys_sT K.2.1.2.1 q.2) H locs ls st → (∀ m0, mo = some m0 → ys_ev r2 q.2.2.2.2.2.2 < ys_ev r0 m0) → W p l e (ys_rm K) s m args below meth c H locs 0 0 (MQ below (ys_Post D cl ad cT sh tys K rr g0 s.heap.size) args s 0 0 (va_A (ys_wK ad cT sh K rr g0) s.heap.size)) (F0 m q.1 ls st)) :
    ∀ (n : Nat) (f : Bool) (pc : Nat) (x : ys_S), ys_run sh fl ci cj calls cps K nx cuts mo n f pc x = true → ys_W p l e (ys_rm K) s m args below meth c (MQ below (ys_Post D cl ad cT sh tys K rr g0 s.heap.size) args s 0 0 (va_A (ys_wK ad cT sh K rr g0) s.heap.size)) 0 0 D cl ad cT sh (va_A (ys_wK ad cT sh K rr g0) s.heap.size) s.heap K.1.1.2.2.1 K.2.2.2 g0 r0 E pc x
  | 0, f, pc, x, h => by cases h
  | n + 1, f, pc, x, h => by
    unfold ys_run at h
    split at h
    · obtain ⟨q, hq, h1⟩ := List.any_eq_true.mp h
      rw [Bool.and_eq_true, beq_iff_eq] at h1
      intro r H locs ls st hrep
      obtain ⟨r2, h2, h3⟩ := ys_cck_ok hE hrr hB hBs (hT q hq) (b := x.1) (fds := x.2.1) (lv := x.2.2.1) (sv := x.2.2.2) hrep h1.2
      have h4 := hcut q hq r2 H locs ls st h2 (fun m0 hm0 => by
        have := h3 m0 hm0
        rw [hmo m0 hm0 r r0 hrep.2.2.1.2] at this
        exact this)
      rw [h1.1] at h4
      exact h4
    · split at h
      · cases h
      · rename_i i hi
        split at h
        · cases h
        · rename_i y hy
          exact ys_stp_ok (b := x.1) (fds := x.2.1) (lv := x.2.2.1) (sv := x.2.2.2) S hr hlocks hK hty hLk hcalls hnx hE hrr (hnx pc i hi) hy (fun q hq => ys_run_ok S hr hlocks hK hty hLk hcalls hnx hE hrr hB hBs hT hmo hcut n false q.1 q.2 (List.all_eq_true.mp h q hq))
end YSN
noncomputable def ys_args : Nat → List ys_V → List (Nat × ys_V)
  | _, [] => []
  | i, v :: t => (i, v) :: ys_args (if ys_cat v = 2 then i + 2 else i + 1) t
theorem ys_args_lvs (ad : Nat → Nat) (r : Nat → Int) : ∀ (x : List ys_V) (i : Nat), ys_lvs ad r (ys_args i x) = lv_args i (x.map (ys_den ad r))
  | [], i => rfl
  | v :: t, i => by
    show (i, ys_den ad r v) :: ys_lvs ad r (ys_args (if ys_cat v = 2 then i + 2 else i + 1) t) = (i, ys_den ad r v) :: lv_args (if (ys_den ad r v).category = 2 then i + 2 else i + 1) (t.map (ys_den ad r))
    rw [ys_cat_den, ys_args_lvs ad r t]
theorem ys_sl_len (ad : Nat → Nat) (r : Nat → Int) : ∀ (x : List ys_V), (lg_sl (x.map (ys_den ad r))).length = (x.map ys_cat).sum
  | [] => rfl
  | v :: t => by
    have ih := ys_sl_len ad r t
    unfold lg_sl at ih ⊢
    rw [List.map_cons, List.flatMap_cons, List.length_append, ih, List.map_cons, List.sum_cons, ys_cat_den]
    congr 1
    rcases v with (y | y) | y
    · rfl
    · rfl
    · rfl
noncomputable def ys_S0 (K : ys_K) : ys_S := (K.2.1.2.1, K.2.1.2.2, ys_args 0 K.2.1.1, [])
abbrev ys_Q : Type := List (Nat × (Instr × Nat)) × (ys_FL × List (Nat × Int) × List (Nat × Int) × List Nat) × List (Nat × ys_T)
noncomputable def ys_chk (sh : List ys_C) (calls : ys_CA) (K : ys_K) (Z : ys_Q) (n : Nat) : Bool := ys_scb (ys_S0 K) && (decide ((K.2.1.1.map ys_cat).sum ≤ K.1.1.2.2.1) && (ys_run sh Z.2.1.1 Z.2.1.2.1 Z.2.1.2.2.1 calls Z.2.1.2.2.2 K (fun pc => Z.1.lookup pc) Z.2.2 none n true 0 (ys_S0 K) && Z.2.2.all (fun q => ys_scb (ys_sT K.2.1.2.1 q.2) && (ys_geb (K.2.1.2.1.1 ++ q.2.1) q.2.2.2.2.2.2 0 && (ys_bel (K.2.1.2.1.1 ++ q.2.1).length q.2.2.2.2.2.2 && (match ys_ass (K.2.1.2.1.1 ++ q.2.1, K.2.1.2.1.2 ++ q.2.2.1) q.2.2.1 with
  | some b => ys_run sh Z.2.1.1 Z.2.1.2.1 Z.2.1.2.2.1 calls Z.2.1.2.2.2 K (fun pc => Z.1.lookup pc) Z.2.2 (some q.2.2.2.2.2.2) n true q.1 (b, (ys_sT K.2.1.2.1 q.2).2)
  | none => true))))))
theorem ys_lk3 {α : Type} : ∀ (x : List (Nat × α)) (i : Nat) (v : α), x.lookup i = some v → (i, v) ∈ x
  | [], i, v, h => by cases h
  | (j, w) :: t, i, v, h => by
    unfold List.lookup at h
    cases hc : i == j with
    | true =>
      rw [hc] at h
      cases h
      rw [beq_iff_eq] at hc
      rw [hc]
      exact List.mem_cons_self
    | false =>
      rw [hc] at h
      exact List.mem_cons_of_mem _ (ys_lk3 t i v h)
theorem ys_method {l : Launch} {D : va_G} {cl : List vw_C} {ad : Nat → Nat} {cT : Nat → ClassId} {sh : List ys_C} {tys : List (ClassId × FieldType)} {G : List Cond} {K : ys_K} {calls : ys_CA} {Z : ys_Q} (n : Nat) (hy : plainName K.1.1.1.cls = true) (hcode : ∀ q ∈ Z.1, decode K.1.1.2.1 q.1 = .ok q.2) (hty : ys_Ty tys cT sh) (hLk : ys_Lk K.1.1.1.cls (ys_ws G K) cl Z.2.1.1 Z.2.1.2.1 Z.2.1.2.2.1 Z.2.1.2.2.2) (hcalls : ∀ q ∈ calls, ys_Con l D cl ad cT sh tys G q.2 ∧ ys_CL K.1.1.1.cls (ys_ws G K) cl sh G (if q.1.2 = true then .invokestatic q.1.1 else .invokevirtual q.1.1) q.2) (hchk : ys_chk sh calls K Z n = true) : ys_Con l D cl ad cT sh tys G K := by
  intro rr g0 sz hB har
  unfold ys_chk at hchk
  rw [Bool.and_eq_true, Bool.and_eq_true, Bool.and_eq_true, decide_eq_true_eq] at hchk
  obtain ⟨c1, c2, c3, c4⟩ := hchk
  refine Met.ofW (cc := K.1.1.2.1) (maxL := K.1.1.2.2.1) (ret := K.1.1.2.2.2) hy rfl ?_
  intro p e s m args below meth c s₁ Bd hml hv
  obtain ⟨hargs, hsz, hP, hK, hD0⟩ := hv
  subst hargs
  subst hsz
  have hlocks := Bd.notSynchronized
  have S : CallFix p m c K.1.1.2.1 K.1.1.2.2.1 s (K.2.1.1.map (ys_den ad rr)).toArray (ys_ws G K) K.1.1.1.cls := ⟨Bd.exec, Bd.bytes, hml, findClass_of_methodNamed Bd.named, atoms_spec (ws := ys_ws G K) Bd.pre⟩
  have hsc0 := ys_scb_ok c1
  have hnx : ∀ pc i, (fun pc => Z.1.lookup pc) pc = some i → decode K.1.1.2.1 pc = .ok i := fun pc i hi => hcode (pc, i) (ys_lk3 _ _ _ hi)
  have hT : ∀ q ∈ Z.2.2, ys_scb (ys_sT K.2.1.2.1 q.2) = true := fun q hq => by
    have := List.all_eq_true.mp c4 q hq
    rw [Bool.and_eq_true] at this
    exact this.1
  have claim : ∀ (N : Nat), ∀ q ∈ Z.2.2, ∀ (r2 : Nat → Int) (H : Heap) (locs : List Loc) (ls : Array Slot) (st : List Value), ys_rep D cl ad cT sh (va_A (ys_wK ad cT sh K rr g0) s.heap.size) s.heap K.1.1.2.2.1 K.2.2.2 g0 rr r2 K.2.1.2.1.1.length (ys_sT K.2.1.2.1 q.2) H locs ls st → ys_ev r2 q.2.2.2.2.2.2 < (N : Int) → W p l e (ys_rm K) s m (K.2.1.1.map (ys_den ad rr)).toArray below meth c H locs 0 0 (MQ below (ys_Post D cl ad cT sh tys K rr g0 s.heap.size) (K.2.1.1.map (ys_den ad rr)).toArray s 0 0 (va_A (ys_wK ad cT sh K rr g0) s.heap.size)) (F0 m q.1 ls st) := by
    intro N
    induction N with
    | zero =>
      intro q hq r2 H locs ls st hrep hlt
      have := List.all_eq_true.mp c4 q hq
      rw [Bool.and_eq_true, Bool.and_eq_true] at this
      have h0 := ys_geb_le hrep.1.1 this.2.1
      omega
    | succ N ih =>
      intro q hq r2 H locs ls st hrep hlt
      have hc := List.all_eq_true.mp c4 q hq
      rw [Bool.and_eq_true, Bool.and_eq_true, Bool.and_eq_true] at hc
      have hEl : K.2.1.2.1.1.length ≤ (K.2.1.2.1.1 ++ q.2.1).length := by
        rw [List.length_append]
        omega
      have hrun := ys_run_ok (r0 := r2) (E := (K.2.1.2.1.1 ++ q.2.1).length) (rr := rr) (g0 := g0) S Bd.returns hlocks hK hty hLk hcalls hnx hEl (fun i hi => hrep.2.2.1.2 i hi) hB hsc0.1 hT (mo := some q.2.2.2.2.2.2) (fun m0 hm0 => by
        cases hm0
        exact ys_stb_bel hc.2.2.1) (fun q' hq' r3 H' locs' ls' st' hrep' hlt' => ih q' hq' r3 H' locs' ls' st' hrep' (by
          have := hlt' _ rfl
          omega)) n true q.1
      have hfk : ys_fk r2 q.2.2.1 := fun f hf => hrep.1.2 f (List.mem_append_right _ hf)
      obtain ⟨b', eb, hb'⟩ := ys_ass_ok q.2.2.1 hrep.1 hfk
      have hl' := ys_ass_len q.2.2.1 eb
      have hcr := hc.2.2.2
      rw [show ys_ass (K.2.1.2.1.1 ++ q.2.1, K.2.1.2.1.2 ++ q.2.2.1) q.2.2.1 = some b' from eb] at hcr
      have hrep' : ys_rep D cl ad cT sh (va_A (ys_wK ad cT sh K rr g0) s.heap.size) s.heap K.1.1.2.2.1 K.2.2.2 g0 r2 r2 (K.2.1.2.1.1 ++ q.2.1).length (ys_sT K.2.1.2.1 q.2) H locs ls st := ⟨hrep.1, hrep.2.1, ⟨Nat.le_refl _, fun _ _ => rfl⟩, hrep.2.2.2⟩
      exact hrun (b', (ys_sT K.2.1.2.1 q.2).2) hcr r2 H locs ls st (ys_rep_ext hrep' (fun _ _ => rfl) hb' (Nat.le_of_eq hl'.symm) (ys_ass_sc q.2.2.1 rfl hrep.2.1.1 (fun f hf => hrep.2.1.1 f (List.mem_append_right _ hf)) eb))
  have hrun := ys_run_ok (r0 := rr) (E := K.2.1.2.1.1.length) (rr := rr) (g0 := g0) S Bd.returns hlocks hK hty hLk hcalls hnx (Nat.le_refl _) (fun _ _ => rfl) hB hsc0.1 hT (mo := none) (fun m0 hm0 => by cases hm0) (fun q hq r2 H locs ls st hrep _ => claim ((ys_ev r2 q.2.2.2.2.2.2).toNat + 1) q hq r2 H locs ls st hrep (by omega)) n true 0 (ys_S0 K) c3
  rw [lg_entry_eq]
  have hl := lv_entry (K.2.1.1.map (ys_den ad rr)) (n := K.1.1.2.2.1) (by rw [ys_sl_len]; exact c2)
  refine hrun rr s.heap [] _ [] ⟨hB, hsc0, ⟨Nat.le_refl _, fun _ _ => rfl⟩, ⟨g0, ⟨har, fun _ _ => rfl⟩, hP, hD0.self, va_S.rf⟩, ?_, rfl⟩
  rw [show ys_lvs ad rr (ys_S0 K).2.2.1 = lv_args 0 (K.2.1.1.map (ys_den ad rr)) from ys_args_lvs ad rr K.2.1.1 0]
  exact hl

