/-! constructors by the worlds ahead of them and behind them -/
abbrev ys_KN : Type := (MethodName × ByteArray × Nat) × (Nat × Nat × Nat × Nat) × Nat × (List ys_C × ys_F) × (List ys_C × ys_F)
noncomputable def ys_rmN (K : ys_KN) : Room := { frames := K.2.1.1, cells := K.2.1.2.2.1, slots := K.2.1.2.2.2, locals := K.2.1.2.1 }
noncomputable def ys_wsN (G : List Cond) (K : ys_KN) : List Cond := Cond.code K.1.1 K.1.2.1 K.1.2.2 none :: G
abbrev ys_NN : Type := List (String × Nat × MethodName × String)
noncomputable def ys_NW (NN : ys_NN) (AA : List String) (U : State) : Prop := (∀ q ∈ NN, va_Nw (.methodLinkNest q.1 q.2.1 q.2.2.1 q.2.2.2) U) ∧ ∀ C ∈ AA, va_AO C U
theorem ys_NW_warm {NN : ys_NN} {AA : List String} {s U : State} (hW : s.WarmedH U.vm) (h : ys_NW NN AA s) : ys_NW NN AA U := ⟨fun q hq => va_Nw.warmM hW (h.1 q hq), fun C hC => va_AO.moved hW.alike (h.2 C hC)⟩
noncomputable def ys_z0 (F : List (List ys_V)) : Bool := F.all (fun w => w.all (ys_bV 0))
theorem ys_z0_st {F : List (List ys_V)} (h : ys_z0 F = true) (n : Nat) : ∀ w ∈ F, ∀ v ∈ w, ys_stV n v := fun w hw v hv => ys_stV_mono (ys_bV_ok (List.all_eq_true.mp (List.all_eq_true.mp h w hw) v hv)) (Nat.zero_le _)
theorem ys_wld0 {ad : Nat → Nat} {cT : Nat → ClassId} {sh : List ys_C} {g : Nat → Nat → Int} {F : List (List ys_V)} (h : ys_z0 F = true) (r r' : Nat → Int) : ys_wld ad cT sh r g F = ys_wld ad cT sh r' g F := by
  refine ys_wld_eq fun kk => ?_
  rw [List.getD_eq_getElem?_getD]
  cases hc : F[kk]? with
  | none => rfl
  | some w => exact List.map_congr_left fun v hv => ys_den_cong (fun i hi => absurd hi (Nat.not_lt_zero i)) (ys_z0_st h 0 w (List.mem_of_getElem? hc) v hv)
section YNK
variable (l : Launch) (D : va_G) (cl : List vw_C) (cT : Nat → ClassId) (tys : List (ClassId × FieldType)) (G : List Cond) (NN : ys_NN) (AA : List String)
noncomputable def ys_wI (cT : Nat → ClassId) (K : ys_KN) (ad : Nat → Nat) (g : Nat → Nat → Int) : va_W := ys_wld ad cT K.2.2.2.1.1 (fun _ => 0) g K.2.2.2.1.2.1
noncomputable def ys_PreN (K : ys_KN) (ad : Nat → Nat) (g0 : Nat → Nat → Int) (sz : Nat) : Array Value → State → Prop := va_Pc [.ref (ad K.2.2.1)] (fun U => U.heap.size = sz ∧ va_P D cl (ys_wI cT K ad g0) U.heap ∧ va_K D cl tys U ∧ va_D (fun _ => True) (ys_wI cT K ad g0) ∧ ys_NW NN AA U)
noncomputable def ys_PostN (K : ys_KN) (ad : Nat → Nat) (g0 : Nat → Nat → Int) (sz : Nat) : Array Value → State → Outcome → State → Prop := fun _ st oc t => (oc = .returned none ∧ ∃ (ad' : Nat → Nat) (g1 : Nat → Nat → Int), (∀ i, (i < K.2.2.2.1.1.length ∨ 1000 ≤ i) → ad' i = ad i) ∧ (∀ (k : Nat) (a : ys_R), K.2.2.2.2.2.2[k]? = some a → ys_rok a (g1 k)) ∧ (∀ k, K.2.2.2.2.1.length ≤ k → g1 k = g0 k) ∧ va_P D cl (ys_wld ad' cT K.2.2.2.2.1 (fun _ => 0) g1 K.2.2.2.2.2.1) t.heap ∧ va_D (va_A (ys_wI cT K ad g0) sz) (ys_wld ad' cT K.2.2.2.2.1 (fun _ => 0) g1 K.2.2.2.2.2.1)) ∧ va_F (va_A (ys_wI cT K ad g0) sz) st t
noncomputable def ys_ConN (K : ys_KN) : Prop := ∀ (ad : Nat → Nat) (g0 : Nat → Nat → Int) (sz : Nat), (∀ (k : Nat) (a : ys_R), K.2.2.2.1.2.2[k]? = some a → ys_rok a (g0 k)) → Met l K.1.1 (ys_wsN G K) (ys_rmN K) (ys_PreN D cl cT tys NN AA K ad g0 sz) (ys_PostN D cl cT K ad g0 sz) K.2.1.2.2.1 K.2.1.2.2.2 (va_A (ys_wI cT K ad g0) sz)
noncomputable def ys_CLN (own : String) (Ts : List Cond) (idx : Nat) (K : ys_KN) (prv : Option String) : Prop := GoodIn Ts (ys_wsN G K) ∧ Cond.initialized K.1.1.cls ∈ Ts ∧ Cond.instanceMethod K.1.1 ∈ Ts ∧ K.1.1.name = "<init>" ∧ (K.1.1.cls ≠ "java/lang/invoke/MethodHandle" ∧ K.1.1.cls ≠ "java/lang/invoke/VarHandle" ∧ (parseMethodDescriptor K.1.1.desc).map (fun d => d.parameters.length) = some 0) ∧ (match prv with
  | some h => (own, idx, K.1.1, h) ∈ NN
  | none => Cond.methodLink own idx K.1.1 ∈ Ts)
end YNK
section YNX
variable {p : Program} {l : Launch} {e : Env} {R : Room} {s : State} {m : MethodId} {args : Array Value} {below : List Frame} {meth : Method} {c : Code} {Q : State → Prop} {kc kz : Nat} {D : va_G} {cl : List vw_C} {cT : Nat → ClassId} {sh : List ys_C} {A : Nat → Prop} {H0 : Heap} {nL : Nat} {mods : List Nat} {g0 : Nat → Nat → Int} {r0 : Nat → Int} {E : Nat} {pc : Nat} {b : ys_B} {fds : ys_F} {lv : List (Nat × ys_V)} {sv : List ys_V} {cc : ByteArray} {own : String} {Ts : List Cond} {tys : List (ClassId × FieldType)}
variable {n0 : Nat} {ad0 : Nat → Nat} {G : List Cond} {NN : ys_NN} {AA : List String} {K : ys_KN}
theorem ys_blindN {ad : Nat → Nat} {g : Nat → Nat → Int} {sz : Nat} : FrameBlind (ys_PreN D cl cT tys NN AA K ad g sz) := fun a U g mk q => by
  obtain ⟨q0, q1, qP, qK, qD, qN⟩ := q
  exact ⟨q0, q1, qP, va_K.moved (u := U) (U := U.calling g mk a) (Vm.Alike.refl U.vm) qK, qD, fun x hx => va_Nw.same (u := U) (U := U.calling g mk a) rfl rfl (qN.1 x hx), fun C hC => va_AO.moved (u := U) (U := U.calling g mk a) (Vm.Alike.refl U.vm) (qN.2 C hC)⟩
theorem ys_kini {idx : Nat} {prv : Option String} (S : CallFix p m c cc nL s args Ts own) (hK : va_K D cl tys s) (hNW : ys_NW NN AA s) (hA0 : ∀ q, H0.size ≤ q → A q) (hcon : ys_ConN l D cl cT tys G NN AA K) (hCL : ys_CLN G NN own Ts idx K prv) (hn0 : n0 ≤ K.2.2.2.1.1.length) (hmods : ∀ k, k < K.2.2.2.2.1.length → k ∈ mods) (hz1 : ys_z0 K.2.2.2.1.2.1 = true) (hz2 : ys_z0 K.2.2.2.2.2.1 = true) (hlv : lv.all (fun q => ys_rfV K.2.2.2.1.1.length q.2) = true) (hsv : sv.all (ys_rfV K.2.2.2.1.1.length) = true) (hcat : (sv.map ys_cat).sum ≤ 8) (hR : K.2.1.1 + 1 ≤ R.frames ∧ 8 + (K.1.2.2 + 11) + K.2.1.2.1 ≤ R.locals) (hf : kc + K.2.1.2.2.1 ≤ R.cells ∧ kz + K.2.1.2.2.2 ≤ R.slots) (hd : decode cc pc = .ok (.invokespecial idx, 3))
    (k : ys_N p l e R s m args below meth c Q D cl cT A H0 nL mods g0 r0 E n0 ad0 (kc + K.2.1.2.2.1) (kz + K.2.1.2.2.2) K.2.2.2.2.1 (pc + 3) (b, K.2.2.2.2.2, lv, sv)) : ys_N p l e R s m args below meth c Q D cl cT A H0 nL mods g0 r0 E n0 ad0 kc kz K.2.2.2.1.1 pc (b, K.2.2.2.1.2, lv, .inr (some K.2.2.1) :: sv) := by
  intro ad had0 r H locs ls st h0
  obtain ⟨st1, e1, h, -⟩ := ys_rep_pop h0
  subst e1
  obtain ⟨g, hg, hP, hD, hS⟩ := h.2.2.2.1
  have ew : ys_wld ad cT K.2.2.2.1.1 r g K.2.2.2.1.2.1 = ys_wI cT K ad g := ys_wld0 hz1 r (fun _ => 0)
  have hP : va_P D cl (ys_wI cT K ad g) H := ew ▸ hP
  have hD : va_D A (ys_wI cT K ad g) := ew ▸ hD
  have hM := hcon ad g H.size hg.1
  have hF : ∀ q, va_A (ys_wI cT K ad g) H.size q → A q := by
    intro q hq
    rcases hq with ⟨kk, x, hx⟩ | hq
    · exact hD.2 kk (q, x) hx
    · exact hA0 q (Nat.le_trans hS.1 hq)
  have hpre : ∀ U : State, U.heap = H → s.WarmedH U.vm → ys_PreN D cl cT tys NN AA K ad g H.size (Value.ref (ad K.2.2.1) :: []).toArray U := fun U hU hW => ⟨rfl, by rw [hU], by rw [hU]; exact hP, va_K.moved hW.alike hK, hD.weaken (fun _ _ _ _ => trivial), ys_NW_warm hW hNW⟩
  have ts := S.2.2.2.2
  have hrest : 2 * (F0 m pc ls (Value.ref (ad K.2.2.1) :: st1)).monitorRoom + (st1.map fun v => v.category).sum ≤ 8 := lv_room (rest := Value.ref (ad K.2.2.1) :: st1) (by rw [h.2.2.2.2.2, ys_cats]; exact hcat)
  have hgo : va_Run p l e R s m args below meth c H locs kc kz K.2.1.2.2.1 K.2.1.2.2.2 (F0 m pc ls (Value.ref (ad K.2.2.1) :: st1)) st1 (ys_PostN D cl cT K ad g H.size (Value.ref (ad K.2.2.1) :: []).toArray) (va_A (ys_wI cT K ad g) H.size) := by
    obtain ⟨l1, l2, l3, l4, l5, l6⟩ := hCL
    cases prv with
    | some host => exact va_runIN (host := host) (b := ad K.2.2.1) (As := []) S hM ⟨va_cnB 0 ts l1 rfl rfl rfl (hNW.1 _ l6) (ts _ l2) l5 hR, l4, ts _ l3⟩ ⟨ys_blindN, hpre⟩ rfl rfl h.2.2.2.2.1.1 rfl hrest hd hf
    | none => exact va_runI (b := ad K.2.2.1) (As := []) S hM (cwI 0 ts l1 rfl rfl rfl (ts _ l2) (ts _ l6) (ts _ l3) l4 l5 hR) ⟨ys_blindN, hpre⟩ rfl rfl h.2.2.2.2.1.1 rfl hrest hd hf
  intro T hT X
  obtain ⟨v, st₀, t1, T', L, h0', X', hL, f1, f2, ⟨⟨eo, ad', g1, p1, p2, p3, p4, p5⟩, hz, hk⟩, stp⟩ := hgo T hT X
  rw [h0'] at hz hk
  have ev : v = none := by
    cases eo
    rfl
  subst ev
  obtain ⟨q1, ⟨s0, s1, s2, s3⟩, q2, -, q4, q5⟩ := h
  have e4 : ys_lvs ad' r lv = ys_lvs ad r lv := List.map_congr_left fun q hq => by rw [ys_den_ad p1 r (List.all_eq_true.mp hlv q hq)]
  have hrep : ys_rep D cl ad' cT K.2.2.2.2.1 A H0 nL mods g0 r0 r E (b, K.2.2.2.2.2, lv, sv) T'.heap (locs ++ L) ls st1 := by
    refine ⟨q1, ⟨s0, ys_z0_st hz2 _, s2, s3⟩, q2, ⟨g1, ⟨p2, fun kk hk' => ?_⟩, ?_, ?_, ⟨Nat.le_trans hS.1 (by rw [f1]; exact hz), fun q h1 h2 => by rw [f1, hk q (Nat.lt_of_lt_of_le h1 hS.1) (fun z => h2 (hF q z))]; exact hS.2.1 q h1 h2, fun q hq => by
          rcases List.mem_append.mp hq with g1 | g1
          · exact hS.2.2 q g1
          · exact hF _ (hL q g1)⟩⟩, ?_, ?_⟩
    · rw [p3 kk (Nat.le_of_not_lt fun hlt => hk' (hmods kk hlt))]
      exact hg.2 kk hk'
    · show va_P D cl (ys_wld ad' cT K.2.2.2.2.1 r g1 K.2.2.2.2.2.1) T'.heap
      rw [ys_wld0 hz2 r (fun _ => 0), f1]
      exact p4
    · show va_D A (ys_wld ad' cT K.2.2.2.2.1 r g1 K.2.2.2.2.2.1)
      rw [ys_wld0 hz2 r (fun _ => 0)]
      exact p5.weaken (fun _ q _ hq => hF q.1 hq)
    · show lv_has ls nL (ys_lvs ad' r lv)
      rw [e4]
      exact q4
    · rw [q5]
      exact (List.map_congr_left fun v hv => ys_den_ad p1 r (List.all_eq_true.mp hsv v hv)).symm
  obtain ⟨t2, a1, b1⟩ := k ad' (fun i hi => (p1 i (by omega)).trans (had0 i hi)) r T'.heap (locs ++ L) ls st1 hrep T' rfl X'
  exact ⟨t2, stp t2 a1, b1⟩
end YNX
