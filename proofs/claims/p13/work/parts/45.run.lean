/-! runs and methods; where words are wanted, a list of conditions to be shown by hand -/
abbrev yt_T : Type := ys_T × List ys_L × Bool
abbrev yt_VC : Type := Nat × ys_B × List ys_L × List Nat × List yt_Ev
noncomputable def yt_cck (E : Nat) (mo : Option ys_L) (b : ys_B) (fds : ys_F) (lv : List (Nat × ys_V)) (sv : List ys_V) (T : ys_T) : Option (List ys_L) := match ys_zf T.2.2.1.1 fds.1, ys_zl lv T.2.2.2.1 with
  | some fp, some lp => if T.2.2.2.2.1.length = sv.length then (match ys_mat b fds.2 E T.1 T.2.1 T.2.2.1.2 (lp ++ (T.2.2.2.2.1.zip sv ++ fp)) with
    | some t => (match mo with
      | none => some t
      | some m0 => if ys_ge b.1 b.2 2 (ys_add (ys_sub m0 (ys_put E t T.2.2.2.2.2)) ([], -1)) = true then some t else none)
    | none => none) else none
  | _, _ => none
noncomputable def yt_fc (E : Nat) (mo : Option ys_L) (b : ys_B) (fds : ys_F) (lv : List (Nat × ys_V)) (sv : List ys_V) (h : List yt_Ev) (pc : Nat) : Nat → List (Nat × yt_T) → Option (List yt_VC)
  | _, [] => none
  | j, q :: x => if q.1 = pc then (match yt_cck E mo b fds lv sv q.2.1 with
    | some t => some (if (q.2.2.2 || !q.2.2.1.isEmpty) = true then [(j, b, t, [], h)] else [])
    | none => yt_fc E mo b fds lv sv h pc (j + 1) x) else yt_fc E mo b fds lv sv h pc (j + 1) x
theorem yt_fc_ok {E : Nat} {mo : Option ys_L} {b : ys_B} {fds : ys_F} {lv : List (Nat × ys_V)} {sv : List ys_V} {h : List yt_Ev} {pc : Nat} {vs : List yt_VC} : ∀ (x : List (Nat × yt_T)) (i : Nat), yt_fc E mo b fds lv sv h pc i x = some vs → ∃ (j : Nat) (q : Nat × yt_T) (t : List ys_L), x[j]? = some q ∧ q.1 = pc ∧ yt_cck E mo b fds lv sv q.2.1 = some t ∧ vs = if (q.2.2.2 || !q.2.2.1.isEmpty) = true then [(i + j, b, t, [], h)] else []
  | [], i, hs => by cases hs
  | q :: x, i, hs => by
    unfold yt_fc at hs
    split at hs
    · rename_i he
      split at hs
      · rename_i t ht
        exact ⟨0, q, t, rfl, he, ht, (Option.some.inj hs).symm⟩
      · obtain ⟨j, q', t, h1, h2, h3, h4⟩ := yt_fc_ok x (i + 1) hs
        exact ⟨j + 1, q', t, h1, h2, h3, by rw [h4, show i + 1 + j = i + (j + 1) by omega]⟩
    · obtain ⟨j, q', t, h1, h2, h3, h4⟩ := yt_fc_ok x (i + 1) hs
      exact ⟨j + 1, q', t, h1, h2, h3, by rw [h4, show i + 1 + j = i + (j + 1) by omega]⟩
noncomputable def yt_ret1 (E : Nat) (b : ys_B) (fds : ys_F) (v : Option ys_V) (a : ys_A) : Option (List ys_L) := match ys_zf a.2.2.1.1 fds.1 with
  | some fp => (match a.2.2.2, v with
    | some x, some y => ys_mat b fds.2 E a.1 a.2.1 a.2.2.1.2 ((x, y) :: fp)
    | none, none => ys_mat b fds.2 E a.1 a.2.1 a.2.2.1.2 fp
    | _, _ => none)
  | none => none
noncomputable def yt_ret2 (E : Nat) (b : ys_B) (fds : ys_F) (v : Option ys_V) (h : List yt_Ev) (sa : List Bool) : Nat → List ys_A → Option (List yt_VC)
  | _, [] => none
  | i, a :: x => match yt_ret1 E b fds v a with
    | some t => some (if sa.getD i false = true then [(1000 + i, b, t, [], h)] else [])
    | none => yt_ret2 E b fds v h sa (i + 1) x
theorem yt_ret2_ok {E : Nat} {b : ys_B} {fds : ys_F} {v : Option ys_V} {h : List yt_Ev} {sa : List Bool} {vs : List yt_VC} : ∀ (x : List ys_A) (i : Nat), yt_ret2 E b fds v h sa i x = some vs → ∃ (j : Nat) (a : ys_A) (t : List ys_L), x[j]? = some a ∧ yt_ret1 E b fds v a = some t ∧ vs = if sa.getD (i + j) false = true then [(1000 + (i + j), b, t, [], h)] else []
  | [], i, hs => by cases hs
  | a :: x, i, hs => by
    unfold yt_ret2 at hs
    split at hs
    · rename_i t ht
      exact ⟨0, a, t, rfl, ht, (Option.some.inj hs).symm⟩
    · obtain ⟨j, a', t, h1, h2, h3⟩ := yt_ret2_ok x (i + 1) hs
      exact ⟨j + 1, a', t, h1, h2, by rw [h3, show i + 1 + j = i + (j + 1) by omega]⟩
noncomputable def yt_rt (K : ys_K) (sa : List Bool) (b : ys_B) (fds : ys_F) (sv : List ys_V) (h : List yt_Ev) (i : Instr) (n : Nat) : Option (List yt_VC) := match i with
  | .ireturn => (match sv with
    | [.inl (.inl x)] => if decide (n = 1) && (decide (K.1.1.2.2.2 = some .int) || (decide (K.1.1.2.2.2 = some .boolean) && (ys_geb b.1 x 0 && ys_geb b.1 (ys_scale (-1) x) (-1)))) then yt_ret2 K.2.1.2.1.1.length b fds (some (.inl (.inl x))) h sa 0 K.2.2.1 else none
    | _ => none)
  | .lreturn => (match sv with
    | [.inl (.inr x)] => if decide (n = 1) && decide (K.1.1.2.2.2 = some .long) then yt_ret2 K.2.1.2.1.1.length b fds (some (.inl (.inr x))) h sa 0 K.2.2.1 else none
    | _ => none)
  | .return_ => (match sv with
    | [] => if decide (n = 1) && decide (K.1.1.2.2.2 = none) then yt_ret2 K.2.1.2.1.1.length b fds none h sa 0 K.2.2.1 else none
    | _ => none)
  | _ => none
noncomputable def yt_all {α : Type} (f : α → Option (List yt_VC)) : List α → Option (List yt_VC)
  | [] => some []
  | a :: t => match f a, yt_all f t with
    | some x, some y => some (x ++ y)
    | _, _ => none
theorem yt_all_ok {α : Type} {f : α → Option (List yt_VC)} : ∀ (l : List α) (vs : List yt_VC), yt_all f l = some vs → ∀ a ∈ l, ∃ x, f a = some x ∧ ∀ v ∈ x, v ∈ vs
  | [], vs, _, a, ha => by cases ha
  | b :: t, vs, hs, a, ha => by
    unfold yt_all at hs
    split at hs
    · rename_i x y hx hy
      cases Option.some.inj hs
      rcases List.mem_cons.mp ha with q | q
      · rw [q]
        exact ⟨x, hx, fun v hv => List.mem_append_left _ hv⟩
      · obtain ⟨x', h1, h2⟩ := yt_all_ok t y hy a q
        exact ⟨x', h1, fun v hv => List.mem_append_right _ (h2 v hv)⟩
    · cases hs
noncomputable def yt_run (sh : List ys_C) (fl : ys_FL) (ci cj : List (Nat × Int)) (calls : List yt_CE) (cps cqs : List Nat) (K : ys_K) (nx : Nat → Option (Instr × Nat)) (cuts : List (Nat × yt_T)) (sa : List Bool) (mo : Option ys_L) : Nat → Bool → Nat → ys_S → List yt_Ev → Option (List yt_VC)
  | 0, _, _, _, _ => none
  | n + 1, f, pc, S, h => if !f && cuts.any (fun q => q.1 == pc) then yt_fc K.2.1.2.1.1.length mo S.1 S.2.1 S.2.2.1 S.2.2.2 h pc 0 cuts else (match nx pc with
    | none => none
    | some i => if ys_isr i.1 = true then yt_rt K sa S.1 S.2.1 S.2.2.2 h i.1 i.2 else (match yt_step sh fl ci cj calls cps cqs K nx h pc S.1 S.2.1 S.2.2.1 S.2.2.2 i.1 i.2 with
      | none => none
      | some o => (match yt_all (fun q => yt_run sh fl ci cj calls cps cqs K nx cuts sa mo n false q.1 q.2.1 q.2.2) o.1 with
        | some vs => some (o.2.map (fun q => (2000 + q.1, S.1, q.2.1, q.2.2, h)) ++ vs)
        | none => none)))
noncomputable def yt_cap (E : Nat) (r : Nat → Int) : Nat → Int := fun i => if i < E then r i else 0
theorem yt_cap_eq {E : Nat} {r r0 : Nat → Int} (h : ∀ i, i < E → r i = r0 i) (hz : ∀ i, E ≤ i → r0 i = 0) : yt_cap E r = r0 := by
  funext i
  unfold yt_cap
  split
  · rename_i hi
    exact h i hi
  · rw [hz i (by omega)]
section YTH
variable (tb : yt_Tb) (K : ys_K) (cuts : List (Nat × yt_T)) (Ga : Nat → yt_G → (Nat → Int) → yt_G → Prop) (Ph : yt_Ph) (pt : Nat → yt_Ps)
noncomputable def yt_dd (g0 : yt_G) (v : yt_VC) (r : Nat → Int) (g : yt_G) : Prop := if v.1 < 1000 then (∃ q, cuts[v.1]? = some q ∧ ys_fk (ys_val r K.2.1.2.1.1.length v.2.2.1) q.2.2.1 ∧ Ga v.1 g0 (ys_val r K.2.1.2.1.1.length v.2.2.1) g) else if v.1 < 2000 then Ph (v.1 - 1000) (ys_val r K.2.1.2.1.1.length v.2.2.1) g0 g else pt (v.1 - 2000) (ys_val r 0 v.2.2.1) (yt_sub v.2.2.2.1 g)
noncomputable def yt_hold (E' : Nat) (ars : List ys_R) (Gs : yt_G → (Nat → Int) → yt_G → Prop) (v : yt_VC) : Prop := ∀ (g0 : yt_G) (r : Nat → Int) (gi g : yt_G), ys_okB r v.2.1 → yt_h tb r gi v.2.2.2.2 g → (∀ (k : Nat) (a : ys_R), ars[k]? = some a → ys_rok a (gi k)) → (∀ k, k ∉ K.2.2.2 → gi k = g0 k) → Gs g0 (yt_cap E' r) gi → yt_dd K cuts Ga Ph pt g0 v r g
end YTH
section YTR
variable {p : Program} {l : Launch} {e : Env} {R : Room} {s : State} {m : MethodId} {args : Array Value} {below : List Frame} {meth : Method} {c : Code} {Q : State → Prop} {kc kz : Nat} {D : va_G} {cl : List vw_C} {ad : Nat → Nat} {cT : Nat → ClassId} {sh : List ys_C} {A : Nat → Prop} {H0 : Heap} {nL : Nat} {mods : List Nat} {g0 : yt_G} {r0 : Nat → Int} {E : Nat} {tb : yt_Tb} {gi : yt_G} {h : List yt_Ev} {pc : Nat} {b : ys_B} {fds : ys_F} {lv : List (Nat × ys_V)} {sv : List ys_V} {cc : ByteArray} {own : String} {Ts : List Cond} {tys : List (ClassId × FieldType)}
variable {G : List Cond} {pt : Nat → yt_Ps} {calls : List yt_CE} {K : ys_K} {fl : ys_FL} {ci cj : List (Nat × Int)} {cps cqs : List Nat} {nx : Nat → Option (Instr × Nat)} {rr : Nat → Int} {cuts : List (Nat × yt_T)} {sa : List Bool} {mo : Option ys_L} {Ga : Nat → yt_G → (Nat → Int) → yt_G → Prop} {Ph : yt_Ph}
theorem yt_cck_ok {T : ys_T} {t : List ys_L} {r : Nat → Int} {g : yt_G} {H : Heap} {locs : List Loc} {ls : Array Slot} {st : List Value} (hE : K.2.1.2.1.1.length ≤ E) (hrr : ∀ i, i < K.2.1.2.1.1.length → r0 i = rr i) (hB : ys_okB rr K.2.1.2.1) (hBs : ys_scB K.2.1.2.1) (hT : ys_scb (ys_sT K.2.1.2.1 T) = true) (h : ys_rep D cl ad cT sh A H0 nL [] g r0 r E (b, fds, lv, sv) H locs ls st) (hc : yt_cck K.2.1.2.1.1.length mo b fds lv sv T = some t) :
    ys_rep D cl ad cT sh A H0 nL [] g rr (ys_val r K.2.1.2.1.1.length t) K.2.1.2.1.1.length (ys_sT K.2.1.2.1 T) H locs ls st ∧ t.length = T.1.length ∧ ∀ m0, mo = some m0 → ys_ev (ys_val r K.2.1.2.1.1.length t) T.2.2.2.2.2 < ys_ev r m0 := by
  unfold yt_cck at hc
  split at hc
  · rename_i fp lp hfp hlp
    split at hc
    · rename_i hsl
      split at hc
      · rename_i t0 hm
        have hm0 : t0 = t ∧ ∀ m0, mo = some m0 → ys_ge b.1 b.2 2 (ys_add (ys_sub m0 (ys_put K.2.1.2.1.1.length t0 T.2.2.2.2.2)) ([], -1)) = true := by
          split at hc
          · exact ⟨Option.some.inj hc, fun m0 hm0 => by cases hm0⟩
          · rename_i m0
            split at hc
            · rename_i hq
              exact ⟨Option.some.inj hc, fun m1 hm1 => by cases hm1; exact hq⟩
            · cases hc
        obtain ⟨et, hmm⟩ := hm0
        subst et
        obtain ⟨h1, h2, ⟨hEl, hr⟩, ⟨g', hg, hP, hD, hS⟩, hlv, hst⟩ := h
        obtain ⟨-, e2, e3, e4, e5, e6, e7⟩ := ys_mat_ok (ad := ad) h1 hm
        have hlow : ∀ i, i < K.2.1.2.1.1.length → ys_val r K.2.1.2.1.1.length t0 i = rr i := fun i hi => by rw [ys_val_low hi, hr i (Nat.lt_of_lt_of_le hi hE), hrr i hi]
        have ew : ys_wld ad cT sh (ys_val r K.2.1.2.1.1.length t0) g' T.2.2.1.1 = ys_wld ad cT sh r g' fds.1 := ys_wld_eq (ys_zf_ok _ _ _ hfp (fun q hq => e5 q (List.mem_append_right _ (List.mem_append_right _ hq))))
        refine ⟨⟨⟨fun i q hi => ?_, fun f hf => ?_⟩, ys_scb_ok hT, ⟨?_, hlow⟩, ⟨g', ⟨fun kk z hz => ?_, hg.2⟩, ?_, ?_, hS⟩, ⟨hlv.1, hlv.2.1, ?_⟩, ?_⟩, e2, fun m0 hm0 => ?_⟩
        · have hi : (K.2.1.2.1.1 ++ T.1)[i]? = some q := hi
          by_cases hl : i < K.2.1.2.1.1.length
          · rw [List.getElem?_append_left hl] at hi
            rw [hlow i hl]
            exact hB.1 i q hi
          · rw [List.getElem?_append_right (by omega)] at hi
            have := e3 _ q hi
            rw [show K.2.1.2.1.1.length + (i - K.2.1.2.1.1.length) = i by omega] at this
            exact this
        · rcases List.mem_append.mp hf with q | q
          · rw [hBs f q _ rr hlow]
            exact hB.2 f q
          · exact e4 f q
        · show K.2.1.2.1.1.length ≤ (K.2.1.2.1.1 ++ T.1).length
          rw [List.length_append]
          omega
        · obtain ⟨a0, g1, g2⟩ := e7 kk z hz
          exact ys_rle_ok g2 (hg.1 kk a0 g1)
        · show va_P D cl (ys_wld ad cT sh (ys_val r K.2.1.2.1.1.length t0) g' T.2.2.1.1) H
          rw [ew]
          exact hP
        · show va_D _ (ys_wld ad cT sh (ys_val r K.2.1.2.1.1.length t0) g' T.2.2.1.1)
          rw [ew]
          exact hD
        · exact ys_zl_ok hlv _ _ hlp (fun q hq => e5 q (List.mem_append_left _ hq))
        · rw [hst]
          exact (ys_zip_map _ _ hsl (fun q hq => e5 q (List.mem_append_right _ (List.mem_append_left _ hq)))).symm
        · have := ys_ge_le h1.1 h1.2 _ _ (hmm m0 hm0)
          rw [ys_m1, ys_sub_ev, ys_put_ev] at this
          omega
      · cases hc
    · cases hc
  · cases hc
theorem yt_kret {v : Option ys_V} {a : ys_A} {i : Nat} {tt : List ys_L} {r : Nat → Int} {g : yt_G} {H : Heap} {locs : List Loc} {ls : Array Slot} {st : List Value} {aa : Array Value} (hE : K.2.1.2.1.1.length ≤ E) (hrr : ∀ i, i < K.2.1.2.1.1.length → r0 i = rr i) (hK : va_K D cl tys s) (h : ys_rep D cl ad cT sh (va_A (ys_wK ad cT sh K rr g0) s.heap.size) s.heap nL [] g r0 r E (b, fds, lv, sv) H locs ls st) (hm0 : ∀ k, k ∉ K.2.2.2 → g k = g0 k) (ha : K.2.2.1[i]? = some a) (hs1 : yt_ret1 K.2.1.2.1.1.length b fds v a = some tt) (hPh : Ph i (ys_val r K.2.1.2.1.1.length tt) g0 g) :
    ∀ t : State, t.heap = H → s.WarmedH t.vm → yt_Post D cl cT tys ad sh K Ph rr g0 s.heap.size aa s (.returned (v.map (ys_den ad r))) t := by
  intro t ht hW
  obtain ⟨hg, hP, hD, hS⟩ := yt_wd h
  obtain ⟨h1, h2, ⟨hEl, hr⟩, -, -, -⟩ := h
  have key : ∀ (prs : List (ys_V × ys_V)) (fp : List (ys_V × ys_V)), ys_zf a.2.2.1.1 fds.1 = some fp → (∀ q ∈ fp, q ∈ prs) → ys_mat b fds.2 K.2.1.2.1.1.length a.1 a.2.1 a.2.2.1.2 prs = some tt → (a.2.2.2.map (ys_den ad (ys_val r K.2.1.2.1.1.length tt)) = v.map (ys_den ad r)) → yt_Post D cl cT tys ad sh K Ph rr g0 s.heap.size aa s (.returned (v.map (ys_den ad r))) t := by
    intro prs fp hz hsub hm hv
    obtain ⟨-, e2, e3, e4, e5, e6, e7⟩ := ys_mat_ok (ad := ad) h1 hm
    have ew : ys_wld ad cT sh (ys_val r K.2.1.2.1.1.length tt) g a.2.2.1.1 = ys_wld ad cT sh r g fds.1 := ys_wld_eq (ys_zf_ok _ _ _ hz (fun q hq => e5 q (hsub q hq)))
    refine ⟨⟨i, a, ha, ys_val r K.2.1.2.1.1.length tt, g, ⟨fun i hi => ?_, fun i hi => ys_val_high (by omega), e3, e4, ⟨fun kk z hz => ?_, hm0⟩, ?_, ?_, va_K.moved hW.alike hK, by rw [hv]⟩, hPh⟩, hS.F ht⟩
    · rw [ys_val_low hi, hr i (Nat.lt_of_lt_of_le hi hE), hrr i hi]
    · obtain ⟨a0, g1, g2⟩ := e7 kk z hz
      exact ys_rle_ok g2 (hg kk a0 g1)
    · rw [ew, ht]
      exact hP
    · rw [ew]
      exact hD
  unfold yt_ret1 at hs1
  split at hs1
  · rename_i fp hfp
    split at hs1
    · rename_i x y hx
      refine key _ fp hfp (fun q hq => List.mem_cons_of_mem _ hq) hs1 ?_
      obtain ⟨-, -, -, -, e5, -⟩ := ys_mat_ok (ad := ad) h1 hs1
      rw [hx]
      show some _ = some _
      rw [e5 (x, y) List.mem_cons_self]
    · rename_i hx
      refine key _ fp hfp (fun q hq => hq) hs1 ?_
      rw [hx]
      rfl
    · cases hs1
  · cases hs1
theorem yt_run_ok {ars : List ys_R} {Gs : yt_G → (Nat → Int) → yt_G → Prop} (hw : yt_Hw tb) (S : CallFix p m c K.1.1.2.1 K.1.1.2.2.1 s args (ys_ws G K) own) (hr : meth.sig.returnType = K.1.1.2.2.2) (hlocks : meth.locks = false) (hK : va_K D cl tys s) (hty : ys_Ty tys cT sh) (hLk : ys_Lk own (ys_ws G K) cl fl ci cj cps) (hCq : ∀ v, v ∈ cqs → yt_Cq own (ys_ws G K) v) (hcalls : ∀ C ∈ calls, yt_Con l D cl cT tys G C.2.1 C.2.2 (pt C.1.2.1) (tb C.1.2.1) ∧ ys_CL own (ys_ws G K) cl C.2.1 G (if C.1.1.2 = true then .invokestatic C.1.1.1 else .invokevirtual C.1.1.1) C.2.2 ∧ yt_shok C.1.2.2.2 C.2.1 sh = true ∧ (C.1.2.2.1 = false → ∀ r g, pt C.1.2.1 r g)) (hnx : ∀ pc i, nx pc = some i → decode K.1.1.2.1 pc = .ok i) (hE : K.2.1.2.1.1.length ≤ E) (hrr : ∀ i, i < K.2.1.2.1.1.length → r0 i = rr i) (hB : ys_okB rr K.2.1.2.1) (hBs : ys_scB K.2.1.2.1) (hz : ∀ i, E ≤ i → r0 i = 0) (hT : ∀ q ∈ cuts, ys_scb (ys_sT K.2.1.2.1 q.2.1) = true) (hmo : ∀ m0, mo = some m0 → ys_stb E m0)
    (hars : ∀ (k : Nat) (a : ys_R), ars[k]? = some a → ys_rok a (gi k)) (hgi : ∀ k, k ∉ K.2.2.2 → gi k = g0 k) (hGs : Gs g0 r0 gi) (hcn : cuts.length ≤ 1000) (han : K.2.2.1.length ≤ 1000) (hns : ∀ (j : Nat) (q : Nat × yt_T), cuts[j]? = some q → q.2.2.2 = false → ∀ g0 r g, Ga j g0 r g) (hsa : ∀ i, sa.getD i false = false → ∀ r g g', Ph i r g g')
    (hcut : ∀ (j : Nat) (q : Nat × yt_T), cuts[j]? = some q → ∀ (r2 : Nat → Int) (g : yt_G) (H : Heap) (locs : List Loc) (ls : Array Slot) (st : List Value), ys_rep D cl ad cT sh (va_A (ys_wK ad cT sh K rr g0) s.heap.size) s.heap K.1.1.2.2.1 [] g rr r2 K.2.1.2.1.1.length (ys_sT K.2.1.2.1 q.2.1) H locs ls st → ys_fk r2 q.2.2.1 → Ga j g0 r2 g → (∀ i, K.2.1.2.1.1.length + q.2.1.1.length ≤ i → r2 i = 0) → (∀ k, k ∉ K.2.2.2 → g k = g0 k) → (∀ m0, mo = some m0 → ys_ev r2 q.2.1.2.2.2.2.2 < ys_ev r0 m0) → W p l e (ys_rm K) s m args below meth c H locs 0 0 (MQ below (yt_Post D cl cT tys ad sh K Ph rr g0 s.heap.size) args s 0 0 (va_A (ys_wK ad cT sh K rr g0) s.heap.size)) (F0 m q.1 ls st)) :
    ∀ (n : Nat) (f : Bool) (pc : Nat) (x : ys_S) (h : List yt_Ev) (vs : List yt_VC), yt_run sh fl ci cj calls cps cqs K nx cuts sa mo n f pc x h = some vs → (∀ v ∈ vs, yt_hold tb K cuts Ga Ph pt E ars Gs v) → yt_X p l e (ys_rm K) s m args below meth c (MQ below (yt_Post D cl cT tys ad sh K Ph rr g0 s.heap.size) args s 0 0 (va_A (ys_wK ad cT sh K rr g0) s.heap.size)) 0 0 D cl ad cT sh (va_A (ys_wK ad cT sh K rr g0) s.heap.size) s.heap K.1.1.2.2.1 K.2.2.2 g0 r0 E tb gi h pc x
  | 0, f, pc, x, h, vs, hs, hv => by cases hs
  | n + 1, f, pc, x, h, vs, hs, hv => by
    have hexec := S.1
    have hb := S.2.1
    unfold yt_run at hs
    split at hs
    · obtain ⟨j, q, t, h1, h2, h3, h4⟩ := yt_fc_ok _ _ hs
      intro r g H locs ls st hrep hh hsc hm
      obtain ⟨k1, k2, k3⟩ := yt_cck_ok hE hrr hB hBs (hT q (List.mem_of_getElem? h1)) (b := x.1) (fds := x.2.1) (lv := x.2.2.1) (sv := x.2.2.2) hrep h3
      have hcap := yt_cap_eq hrep.2.2.1.2 hz
      have hfg : ys_fk (ys_val r K.2.1.2.1.1.length t) q.2.2.1 ∧ Ga j g0 (ys_val r K.2.1.2.1.1.length t) g := by
        by_cases hf : (q.2.2.2 || !q.2.2.1.isEmpty) = true
        · rw [if_pos hf] at h4
          have h5 := hv _ (h4 ▸ List.mem_cons_self) g0 r gi g hrep.1 hh hars hgi (by rw [hcap]; exact hGs)
          unfold yt_dd at h5
          have hj := (List.getElem?_eq_some_iff.mp h1).1
          rw [if_pos (show 0 + j < 1000 by omega)] at h5
          obtain ⟨q', e1, e2, e3⟩ := h5
          have e1 : cuts[0 + j]? = some q' := e1
          rw [Nat.zero_add, h1] at e1
          cases e1
          have e3 : Ga (0 + j) g0 (ys_val r K.2.1.2.1.1.length t) g := e3
          rw [Nat.zero_add] at e3
          exact ⟨e2, e3⟩
        · have hf : (q.2.2.2 || !q.2.2.1.isEmpty) = false := by simpa using hf
          rw [Bool.or_eq_false_iff] at hf
          have e1 : q.2.2.1 = [] := by
            have := hf.2
            cases hq : q.2.2.1 with
            | nil => rfl
            | cons a t => rw [hq] at this; cases this
          rw [e1]
          exact ⟨fun f hf => absurd hf List.not_mem_nil, hns j q h1 hf.1 _ _ _⟩
      have h6 := hcut j q h1 (ys_val r K.2.1.2.1.1.length t) g H locs ls st k1 hfg.1 hfg.2 (fun i hi => ys_val_high (by omega)) hm (fun m0 hm0 => by
        have := k3 m0 hm0
        rw [hmo m0 hm0 r r0 hrep.2.2.1.2] at this
        exact this)
      rw [h2] at h6
      exact h6
    · split at hs
      · cases hs
      · rename_i i hi
        have hd := hnx pc i hi
        split at hs
        · intro r g H locs ls st hrep hh hsc hm
          have hcap := yt_cap_eq hrep.2.2.1.2 hz
          have hf : ∀ q ∈ locs, va_A (ys_wK ad cT sh K rr g0) s.heap.size q.base := (yt_wd hrep).2.2.2.2.2
          have fin : ∀ v : Option ys_V, yt_ret2 K.2.1.2.1.1.length x.1 x.2.1 v h sa 0 K.2.2.1 = some vs → ∀ t : State, t.heap = H → s.WarmedH t.vm → yt_Post D cl cT tys ad sh K Ph rr g0 s.heap.size args s (.returned (v.map (ys_den ad r))) t := by
            intro v hv2
            obtain ⟨j, a, t, h1, h2, h3⟩ := yt_ret2_ok _ _ hv2
            refine yt_kret (b := x.1) (fds := x.2.1) (lv := x.2.2.1) (sv := x.2.2.2) hE hrr hK hrep hm h1 h2 ?_
            by_cases hc : sa.getD (0 + j) false = true
            · rw [if_pos hc] at h3
              have h5 := hv _ (h3 ▸ List.mem_cons_self) g0 r gi g hrep.1 hh hars hgi (by rw [hcap]; exact hGs)
              unfold yt_dd at h5
              have hj := (List.getElem?_eq_some_iff.mp h1).1
              rw [if_neg (show ¬ 1000 + (0 + j) < 1000 by omega), if_pos (show 1000 + (0 + j) < 2000 by omega)] at h5
              have h5 : Ph (1000 + (0 + j) - 1000) (ys_val r K.2.1.2.1.1.length t) g0 g := h5
              rw [show 1000 + (0 + j) - 1000 = j by omega] at h5
              exact h5
            · rw [Nat.zero_add] at hc
              exact hsa j (by simpa using hc) _ _ _
          unfold yt_rt at hs
          split at hs
          · rename_i hins
            split at hs
            · rename_i y hy
              split at hs
              · rename_i hc
                rw [Bool.and_eq_true, decide_eq_true_eq] at hc
                have hq := fin _ hs
                have hst : st = [.int (Int32.ofInt (ys_ev r y))] := by
                  have := hrep.2.2.2.2.2
                  rw [hy] at this
                  exact this
                have hd : decode K.1.1.2.1 pc = .ok (.ireturn, 1) := by
                  rw [hd, ← hins, ← hc.1]
                rw [hst]
                rcases (Bool.or_eq_true _ _).mp hc.2 with h1 | h1
                · exact W.iret hexec hb (hr.trans (of_decide_eq_true h1)) hq hf hd hlocks
                · rw [Bool.and_eq_true, Bool.and_eq_true] at h1
                  have g1 := ys_geb_le hrep.1.1 h1.2.1
                  have g2 := ys_geb_le hrep.1.1 h1.2.2
                  rw [ys_scale_ev] at g2
                  refine W.zret (ty := .boolean) hexec hb (hr.trans (of_decide_eq_true h1.1)) ?_ hq hf hd hlocks
                  show Value.int (Int32.ofInt (ys_ev r y) &&& 1) = Value.int (Int32.ofInt (ys_ev r y))
                  rcases ys_01 g1 (show ys_ev r y ≤ 1 by omega) with q | q <;> rw [q] <;> rfl
              · cases hs
            · cases hs
          · rename_i hins
            split at hs
            · rename_i y hy
              split at hs
              · rename_i hc
                rw [Bool.and_eq_true, decide_eq_true_eq] at hc
                have hq := fin _ hs
                have hst : st = [.long (Int64.ofInt (ys_ev r y))] := by
                  have := hrep.2.2.2.2.2
                  rw [hy] at this
                  exact this
                have hd : decode K.1.1.2.1 pc = .ok (.lreturn, 1) := by
                  rw [hd, ← hins, ← hc.1]
                rw [hst]
                exact W.lret hexec hb (hr.trans (of_decide_eq_true hc.2)) hq hf hd hlocks
              · cases hs
            · cases hs
          · rename_i hins
            split at hs
            · rename_i hy
              split at hs
              · rename_i hc
                rw [Bool.and_eq_true, decide_eq_true_eq] at hc
                have hq := fin _ hs
                have hst : st = [] := by
                  have := hrep.2.2.2.2.2
                  rw [hy] at this
                  exact this
                have hd : decode K.1.1.2.1 pc = .ok (.return_, 1) := by
                  rw [hd, ← hins, ← hc.1]
                rw [hst]
                exact W.vret hexec hb (hr.trans (of_decide_eq_true hc.2)) hq hf hd hlocks
              · cases hs
            · cases hs
          · cases hs
        · split at hs
          · cases hs
          · rename_i o ho
            split at hs
            · rename_i vs' hvs
              have hs := (Option.some.inj hs).symm
              subst hs
              refine yt_step_ok (b := x.1) (fds := x.2.1) (lv := x.2.2.1) (sv := x.2.2.2) hw S rfl rfl (Nat.le_refl _) (Nat.le_refl _) ⟨Nat.le_refl _, Nat.le_refl _⟩ (fun q h => Or.inr h) hK hty hLk hCq hcalls hnx hd ho (fun q hq r g q1 q2 q3 => ?_) (fun q hq => ?_)
              · have h5 := hv (2000 + q.1, x.1, q.2.1, q.2.2, h) (List.mem_append_left _ (List.mem_map.mpr ⟨q, hq, rfl⟩)) g0 r gi g q1 q3 hars hgi (by rw [yt_cap_eq q2 hz]; exact hGs)
                unfold yt_dd at h5
                rw [if_neg (show ¬ 2000 + q.1 < 1000 by omega), if_neg (show ¬ 2000 + q.1 < 2000 by omega)] at h5
                have h5 : pt (2000 + q.1 - 2000) (ys_val r 0 q.2.1) (yt_sub q.2.2 g) := h5
                rw [show 2000 + q.1 - 2000 = q.1 by omega] at h5
                exact h5
              · obtain ⟨y, h1, h2⟩ := yt_all_ok _ _ hvs q hq
                exact yt_run_ok hw S hr hlocks hK hty hLk hCq hcalls hnx hE hrr hB hBs hz hT hmo hars hgi hGs hcn han hns hsa hcut n false q.1 q.2.1 q.2.2 y h1 (fun v hv2 => hv v (List.mem_append_right _ (h2 v hv2)))
            · cases hs
end YTR
/-! alike or not, for the lists of conditions -/
noncomputable def yt_dS {α β : Type} (a : DecidableEq α) (b : DecidableEq β) : DecidableEq (α ⊕ β) := fun x y => match x, y with
  | .inl u, .inl v => (match a u v with
    | isTrue h => isTrue (by rw [h])
    | isFalse h => isFalse (fun e => h (Sum.inl.inj e)))
  | .inr u, .inr v => (match b u v with
    | isTrue h => isTrue (by rw [h])
    | isFalse h => isFalse (fun e => h (Sum.inr.inj e)))
  | .inl _, .inr _ => isFalse (fun e => by cases e)
  | .inr _, .inl _ => isFalse (fun e => by cases e)
noncomputable def yt_dL : DecidableEq ys_L := inferInstance
noncomputable def yt_dLs : DecidableEq (List ys_L) := @instDecidableEqList _ yt_dL
noncomputable def yt_dNs : DecidableEq (List Nat) := inferInstance
noncomputable def yt_dP {α β : Type} (a : DecidableEq α) (b : DecidableEq β) : DecidableEq (α × β) := @instDecidableEqProd _ _ a b
noncomputable def yt_d1 : DecidableEq (Nat × ys_L × Nat) := yt_dP instDecidableEqNat (yt_dP yt_dL instDecidableEqNat)
noncomputable def yt_d2 : DecidableEq (Nat × ys_L × ys_L) := yt_dP instDecidableEqNat (yt_dP yt_dL yt_dL)
noncomputable def yt_d4 : DecidableEq (Nat × Nat × List ys_L × List Nat × List Nat) := yt_dP instDecidableEqNat (yt_dP instDecidableEqNat (yt_dP yt_dLs (yt_dP yt_dNs yt_dNs)))
noncomputable def yt_d5 : DecidableEq (Nat × Nat × ys_L × ys_L × ys_L) := yt_dP instDecidableEqNat (yt_dP instDecidableEqNat (yt_dP yt_dL (yt_dP yt_dL yt_dL)))
noncomputable def yt_dEv : DecidableEq yt_Ev := yt_dS (yt_dS yt_d1 yt_d2) (yt_dS yt_d2 (yt_dS yt_d4 yt_d5))
noncomputable def yt_dH : DecidableEq (List yt_Ev) := @instDecidableEqList _ yt_dEv
noncomputable def yt_dB : DecidableEq ys_B := inferInstance
noncomputable def yt_dVC : DecidableEq yt_VC := yt_dP instDecidableEqNat (yt_dP yt_dB (yt_dP yt_dLs (yt_dP yt_dNs yt_dH)))
noncomputable def yt_dVs : DecidableEq (List yt_VC) := @instDecidableEqList _ yt_dVC
noncomputable def yt_beq (x : Option (List yt_VC)) (y : List yt_VC) : Bool := match x with
  | some z => @decide (z = y) (yt_dVs z y)
  | none => false
theorem yt_beq_ok {x : Option (List yt_VC)} {y : List yt_VC} (h : yt_beq x y = true) : x = some y := by
  unfold yt_beq at h
  split at h
  · rename_i z
    rw [@of_decide_eq_true _ (yt_dVs z y) h]
  · cases h
/-- code; links: fields, ints, longs, copies, other members of the library; loop heads; which ends have words -/
abbrev yt_Q : Type := List (Nat × (Instr × Nat)) × (ys_FL × List (Nat × Int) × List (Nat × Int) × List Nat × List Nat) × List (Nat × yt_T) × List Bool
noncomputable def yt_cks (sh : List ys_C) (calls : List yt_CE) (K : ys_K) (Z : yt_Q) (n : Nat) (vs : List (List yt_VC)) : Nat → List (Nat × yt_T) → Bool
  | _, [] => true
  | j, q :: x => (ys_scb (ys_sT K.2.1.2.1 q.2.1) && (q.2.2.1.all (ys_bel (K.2.1.2.1.1 ++ q.2.1.1).length) && (ys_geb (K.2.1.2.1.1 ++ q.2.1.1) q.2.1.2.2.2.2.2 0 && (ys_bel (K.2.1.2.1.1 ++ q.2.1.1).length q.2.1.2.2.2.2.2 && (match ys_ass (K.2.1.2.1.1 ++ q.2.1.1, K.2.1.2.1.2 ++ q.2.1.2.1) (q.2.1.2.1 ++ q.2.2.1) with
    | some b => yt_beq (yt_run sh Z.2.1.1 Z.2.1.2.1 Z.2.1.2.2.1 calls Z.2.1.2.2.2.1 Z.2.1.2.2.2.2 K (fun pc => Z.1.lookup pc) Z.2.2.1 Z.2.2.2 (some q.2.1.2.2.2.2.2) n true q.1 (b, (ys_sT K.2.1.2.1 q.2.1).2) []) (vs.getD (j + 1) [])
    | none => true))))) && yt_cks sh calls K Z n vs (j + 1) x
noncomputable def yt_chk (sh : List ys_C) (calls : List yt_CE) (K : ys_K) (Z : yt_Q) (n : Nat) (vs : List (List yt_VC)) : Bool := ys_scb (ys_S0 K) && (decide ((K.2.1.1.map ys_cat).sum ≤ K.1.1.2.2.1) && (decide (Z.2.2.1.length ≤ 1000) && (decide (K.2.2.1.length ≤ 1000) && (yt_beq (yt_run sh Z.2.1.1 Z.2.1.2.1 Z.2.1.2.2.1 calls Z.2.1.2.2.2.1 Z.2.1.2.2.2.2 K (fun pc => Z.1.lookup pc) Z.2.2.1 Z.2.2.2 none n true 0 (ys_S0 K) []) (vs.getD 0 []) && yt_cks sh calls K Z n vs 0 Z.2.2.1))))
theorem yt_cks_ok {sh : List ys_C} {calls : List yt_CE} {K : ys_K} {Z : yt_Q} {n : Nat} {vs : List (List yt_VC)} : ∀ (x : List (Nat × yt_T)) (i : Nat), yt_cks sh calls K Z n vs i x = true → ∀ (j : Nat) (q : Nat × yt_T), x[j]? = some q → ys_scb (ys_sT K.2.1.2.1 q.2.1) = true ∧ (∀ f ∈ q.2.2.1, ys_bel (K.2.1.2.1.1 ++ q.2.1.1).length f = true) ∧ ys_geb (K.2.1.2.1.1 ++ q.2.1.1) q.2.1.2.2.2.2.2 0 = true ∧ ys_bel (K.2.1.2.1.1 ++ q.2.1.1).length q.2.1.2.2.2.2.2 = true ∧ ∀ b, ys_ass (K.2.1.2.1.1 ++ q.2.1.1, K.2.1.2.1.2 ++ q.2.1.2.1) (q.2.1.2.1 ++ q.2.2.1) = some b → yt_run sh Z.2.1.1 Z.2.1.2.1 Z.2.1.2.2.1 calls Z.2.1.2.2.2.1 Z.2.1.2.2.2.2 K (fun pc => Z.1.lookup pc) Z.2.2.1 Z.2.2.2 (some q.2.1.2.2.2.2.2) n true q.1 (b, (ys_sT K.2.1.2.1 q.2.1).2) [] = some (vs.getD (i + j + 1) [])
  | [], i, _, j, q, hq => by cases hq
  | q0 :: x, i, h, j, q, hq => by
    unfold yt_cks at h
    rw [Bool.and_eq_true] at h
    cases j with
    | zero =>
      cases hq
      have h := h.1
      rw [Bool.and_eq_true, Bool.and_eq_true, Bool.and_eq_true, Bool.and_eq_true] at h
      obtain ⟨h1, h2, h3, h4, h5⟩ := h
      refine ⟨h1, fun f hf => List.all_eq_true.mp h2 f hf, h3, h4, fun b hb => ?_⟩
      rw [hb] at h5
      exact yt_beq_ok h5
    | succ j =>
      have := yt_cks_ok x (i + 1) h.2 j q hq
      rw [show i + 1 + j + 1 = i + (j + 1) + 1 by omega] at this
      exact this
theorem yt_method {l : Launch} {D : va_G} {cl : List vw_C} {cT : Nat → ClassId} {sh : List ys_C} {tys : List (ClassId × FieldType)} {G : List Cond} {K : ys_K} {calls : List yt_CE} {Z : yt_Q} {tb : yt_Tb} {pt : Nat → yt_Ps} {Ps : yt_Ps} {Ph : yt_Ph} {Ga : Nat → yt_G → (Nat → Int) → yt_G → Prop} {vs : List (List yt_VC)} (n : Nat) (hw : yt_Hw tb) (hy : plainName K.1.1.1.cls = true) (hcode : ∀ q ∈ Z.1, decode K.1.1.2.1 q.1 = .ok q.2) (hty : ys_Ty tys cT sh) (hLk : ys_Lk K.1.1.1.cls (ys_ws G K) cl Z.2.1.1 Z.2.1.2.1 Z.2.1.2.2.1 Z.2.1.2.2.2.1) (hCq : ∀ v, v ∈ Z.2.1.2.2.2.2 → yt_Cq K.1.1.1.cls (ys_ws G K) v) (hcalls : ∀ C ∈ calls, yt_Con l D cl cT tys G C.2.1 C.2.2 (pt C.1.2.1) (tb C.1.2.1) ∧ ys_CL K.1.1.1.cls (ys_ws G K) cl C.2.1 G (if C.1.1.2 = true then .invokestatic C.1.1.1 else .invokevirtual C.1.1.1) C.2.2 ∧ yt_shok C.1.2.2.2 C.2.1 sh = true ∧ (C.1.2.2.1 = false → ∀ r g, pt C.1.2.1 r g)) (hns : ∀ (j : Nat) (q : Nat × yt_T), Z.2.2.1[j]? = some q → q.2.2.2 = false → ∀ g0 r g, Ga j g0 r g) (hsa : ∀ i, Z.2.2.2.getD i false = false → ∀ r g g', Ph i r g g') (hchk : yt_chk sh calls K Z n vs = true)
    (hv0 : ∀ v ∈ vs.getD 0 [], yt_hold tb K Z.2.2.1 Ga Ph pt K.2.1.2.1.1.length K.2.1.2.2.2 (fun g0 r g => Ps r g0 ∧ g = g0) v) (hv : ∀ (j : Nat) (q : Nat × yt_T), Z.2.2.1[j]? = some q → ∀ v ∈ vs.getD (j + 1) [], yt_hold tb K Z.2.2.1 Ga Ph pt (K.2.1.2.1.1.length + q.2.1.1.length) q.2.1.2.2.1.2 (Ga j) v) : yt_Con l D cl cT tys G sh K Ps Ph := by
  intro ad rr g0 sz hB hz har hPs
  unfold yt_chk at hchk
  rw [Bool.and_eq_true, Bool.and_eq_true, Bool.and_eq_true, Bool.and_eq_true, Bool.and_eq_true, decide_eq_true_eq, decide_eq_true_eq, decide_eq_true_eq] at hchk
  obtain ⟨c1, c2, c3, c4, c5, c6⟩ := hchk
  have c5 := yt_beq_ok c5
  have c6 := yt_cks_ok _ _ c6
  refine Met.ofW (cc := K.1.1.2.1) (maxL := K.1.1.2.2.1) (ret := K.1.1.2.2.2) hy rfl ?_
  intro p e s m args below meth c s₁ Bd hml hvv
  obtain ⟨hargs, hsz, hP, hK, hD0⟩ := hvv
  subst hargs
  subst hsz
  have hlocks := Bd.notSynchronized
  have S : CallFix p m c K.1.1.2.1 K.1.1.2.2.1 s (K.2.1.1.map (ys_den ad rr)).toArray (ys_ws G K) K.1.1.1.cls := ⟨Bd.exec, Bd.bytes, hml, findClass_of_methodNamed Bd.named, atoms_spec (ws := ys_ws G K) Bd.pre⟩
  have hsc0 := ys_scb_ok c1
  have hnx : ∀ pc i, (fun pc => Z.1.lookup pc) pc = some i → decode K.1.1.2.1 pc = .ok i := fun pc i hi => hcode (pc, i) (ys_lk3 _ _ _ hi)
  have hT : ∀ q ∈ Z.2.2.1, ys_scb (ys_sT K.2.1.2.1 q.2.1) = true := fun q hq => by
    obtain ⟨j, hj⟩ := List.getElem?_of_mem hq
    exact (c6 j q hj).1
  have claim : ∀ (N : Nat) (j : Nat) (q : Nat × yt_T), Z.2.2.1[j]? = some q → ∀ (r2 : Nat → Int) (g : yt_G) (H : Heap) (locs : List Loc) (ls : Array Slot) (st : List Value), ys_rep D cl ad cT sh (va_A (ys_wK ad cT sh K rr g0) s.heap.size) s.heap K.1.1.2.2.1 [] g rr r2 K.2.1.2.1.1.length (ys_sT K.2.1.2.1 q.2.1) H locs ls st → ys_fk r2 q.2.2.1 → Ga j g0 r2 g → (∀ i, K.2.1.2.1.1.length + q.2.1.1.length ≤ i → r2 i = 0) → (∀ k, k ∉ K.2.2.2 → g k = g0 k) → ys_ev r2 q.2.1.2.2.2.2.2 < (N : Int) → W p l e (ys_rm K) s m (K.2.1.1.map (ys_den ad rr)).toArray below meth c H locs 0 0 (MQ below (yt_Post D cl cT tys ad sh K Ph rr g0 s.heap.size) (K.2.1.1.map (ys_den ad rr)).toArray s 0 0 (va_A (ys_wK ad cT sh K rr g0) s.heap.size)) (F0 m q.1 ls st) := by
    intro N
    induction N with
    | zero =>
      intro j q hq r2 g H locs ls st hrep _ _ _ _ hlt
      have h0 := ys_geb_le hrep.1.1 (c6 j q hq).2.2.1
      omega
    | succ N ih =>
      intro j q hq r2 g H locs ls st hrep hfk hGa hz2 hgm hlt
      obtain ⟨d1, d2, d3, d4, d5⟩ := c6 j q hq
      have hlen : (K.2.1.2.1.1 ++ q.2.1.1).length = K.2.1.2.1.1.length + q.2.1.1.length := List.length_append
      have hfk2 : ys_fk r2 (q.2.1.2.1 ++ q.2.2.1) := fun f hf => by
        rcases List.mem_append.mp hf with z | z
        · exact hrep.1.2 f (List.mem_append_right _ z)
        · exact hfk f z
      obtain ⟨b', eb, hb'⟩ := ys_ass_ok (q.2.1.2.1 ++ q.2.2.1) hrep.1 hfk2
      have hl' := ys_ass_len _ eb
      have hrun := yt_run_ok (r0 := r2) (E := K.2.1.2.1.1.length + q.2.1.1.length) (rr := rr) (g0 := g0) (gi := g) (tb := tb) (pt := pt) (Ga := Ga) (ars := q.2.1.2.2.1.2) (Gs := Ga j) hw S Bd.returns hlocks hK hty hLk hCq hcalls hnx (Nat.le_add_right _ _) (fun i hi => hrep.2.2.1.2 i hi) hB hsc0.1 hz2 hT (mo := some q.2.1.2.2.2.2.2) (fun m0 hm0 => by
        cases hm0
        rw [← hlen]
        exact ys_stb_bel d4) (fun k a ha => (yt_wd hrep).1 k a ha) hgm hGa c3 c4 hns hsa (fun j' q' hq' r3 g3 H' locs' ls' st' hrep' hf3 hG3 hz3 hm3 hlt' => ih j' q' hq' r3 g3 H' locs' ls' st' hrep' hf3 hG3 hz3 hm3 (by
          have := hlt' _ rfl
          omega)) n true q.1 (b', (ys_sT K.2.1.2.1 q.2.1).2) [] _ (d5 b' eb) (by rw [Nat.zero_add]; exact hv j q hq)
      have hrep' : ys_rep D cl ad cT sh (va_A (ys_wK ad cT sh K rr g0) s.heap.size) s.heap K.1.1.2.2.1 [] g r2 r2 (K.2.1.2.1.1.length + q.2.1.1.length) (ys_sT K.2.1.2.1 q.2.1) H locs ls st := ⟨hrep.1, hrep.2.1, ⟨Nat.le_of_eq hlen.symm, fun _ _ => rfl⟩, hrep.2.2.2⟩
      have hscf : ∀ f ∈ q.2.1.2.1 ++ q.2.2.1, ys_stb (K.2.1.2.1.1 ++ q.2.1.1).length f := fun f hf => by
        rcases List.mem_append.mp hf with z | z
        · exact hrep.2.1.1 f (List.mem_append_right _ z)
        · exact ys_stb_bel (d2 f z)
      exact hrun r2 g H locs ls st (ys_rep_ext hrep' (fun _ _ => rfl) hb' (Nat.le_of_eq hl'.symm) (ys_ass_sc _ rfl hrep.2.1.1 hscf eb)) rfl (fun v hv => absurd hv List.not_mem_nil) hgm
  have hrun := yt_run_ok (r0 := rr) (E := K.2.1.2.1.1.length) (rr := rr) (g0 := g0) (gi := g0) (tb := tb) (pt := pt) (Ga := Ga) (ars := K.2.1.2.2.2) (Gs := fun g0 r g => Ps r g0 ∧ g = g0) hw S Bd.returns hlocks hK hty hLk hCq hcalls hnx (Nat.le_refl _) (fun _ _ => rfl) hB hsc0.1 hz hT (mo := none) (fun m0 hm0 => by cases hm0) har (fun _ _ => rfl) ⟨hPs, rfl⟩ c3 c4 hns hsa (fun j q hq r2 g H locs ls st hrep hf hG hz2 hm2 _ => claim ((ys_ev r2 q.2.1.2.2.2.2.2).toNat + 1) j q hq r2 g H locs ls st hrep hf hG hz2 hm2 (by omega)) n true 0 (ys_S0 K) [] _ c5 hv0
  rw [lg_entry_eq]
  have hl := lv_entry (K.2.1.1.map (ys_den ad rr)) (n := K.1.1.2.2.1) (by rw [ys_sl_len]; exact c2)
  refine hrun rr g0 s.heap [] _ [] ⟨hB, hsc0, ⟨Nat.le_refl _, fun _ _ => rfl⟩, ⟨g0, ⟨har, fun _ _ => rfl⟩, hP, hD0.self, va_S.rf⟩, ?_, rfl⟩ rfl (fun v hv => absurd hv List.not_mem_nil) (fun _ _ => rfl)
  rw [show ys_lvs ad rr (ys_S0 K).2.2.1 = lv_args 0 (K.2.1.1.map (ys_den ad rr)) from ys_args_lvs ad rr K.2.1.1 0]
  exact hl
