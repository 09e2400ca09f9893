/-! constructors by the worlds ahead of them and behind them -/
abbrev ys_KN : Type := (MethodName × ByteArray × Nat) × (Nat × Nat × Nat × Nat) × Nat × (List ys_C × ys_F) × (List ys_C × ys_F)
def ys_rmN (K : ys_KN) : Room := { frames := K.2.1.1, cells := K.2.1.2.2.1, slots := K.2.1.2.2.2, locals := K.2.1.2.1 }
def ys_wsN (G : List Cond) (K : ys_KN) : List Cond := Cond.code K.1.1 K.1.2.1 K.1.2.2 none :: G
abbrev ys_NN : Type := List (String × Nat × MethodName × String)
def ys_NW (NN : ys_NN) (AA : List String) (U : State) : Prop := (∀ q ∈ NN, va_Nw (.methodLinkNest q.1 q.2.1 q.2.2.1 q.2.2.2) U) ∧ ∀ C ∈ AA, va_AO C U
theorem ys_NW_warm {NN : ys_NN} {AA : List String} {s U : State} (hW : s.WarmedH U.vm) (h : ys_NW NN AA s) : ys_NW NN AA U := sorry
def ys_z0 (F : List (List ys_V)) : Bool := F.all (fun w => w.all (ys_bV 0))
theorem ys_z0_st {F : List (List ys_V)} (h : ys_z0 F = true) (n : Nat) : ∀ w ∈ F, ∀ v ∈ w, ys_stV n v := sorry
theorem ys_wld0 {ad : Nat → Nat} {cT : Nat → ClassId} {sh : List ys_C} {g : Nat → Nat → Int} {F : List (List ys_V)} (h : ys_z0 F = true) (r r' : Nat → Int) : ys_wld ad cT sh r g F = ys_wld ad cT sh r' g F := sorry
section YNK
variable (l : Launch) (D : va_G) (cl : List vw_C) (cT : Nat → ClassId) (tys : List (ClassId × FieldType)) (G : List Cond) (NN : ys_NN) (AA : List String)
def ys_wI (cT : Nat → ClassId) (K : ys_KN) (ad : Nat → Nat) (g : Nat → Nat → Int) : va_W := ys_wld ad cT K.2.2.2.1.1 (fun _ => 0) g K.2.2.2.1.2.1
def ys_PreN (K : ys_KN) (ad : Nat → Nat) (g0 : Nat → Nat → Int) (sz : Nat) : Array Value → State → Prop := va_Pc [.ref (ad K.2.2.1)] (fun U => U.heap.size = sz ∧ va_P D cl (ys_wI cT K ad g0) U.heap ∧ va_K D cl tys U ∧ va_D (fun _ => True) (ys_wI cT K ad g0) ∧ ys_NW NN AA U)
def ys_PostN (K : ys_KN) (ad : Nat → Nat) (g0 : Nat → Nat → Int) (sz : Nat) : Array Value → State → Outcome → State → Prop := fun _ st oc t => (oc = .returned none ∧ ∃ (ad' : Nat → Nat) (g1 : Nat → Nat → Int), (∀ i, (i < K.2.2.2.1.1.length ∨ 1000 ≤ i) → ad' i = ad i) ∧ (∀ (k : Nat) (a : ys_R), K.2.2.2.2.2.2[k]? = some a → ys_rok a (g1 k)) ∧ (∀ k, K.2.2.2.2.1.length ≤ k → g1 k = g0 k) ∧ va_P D cl (ys_wld ad' cT K.2.2.2.2.1 (fun _ => 0) g1 K.2.2.2.2.2.1) t.heap ∧ va_D (va_A (ys_wI cT K ad g0) sz) (ys_wld ad' cT K.2.2.2.2.1 (fun _ => 0) g1 K.2.2.2.2.2.1)) ∧ va_F (va_A (ys_wI cT K ad g0) sz) st t
def ys_ConN (K : ys_KN) : Prop := ∀ (ad : Nat → Nat) (g0 : Nat → Nat → Int) (sz : Nat), (∀ (k : Nat) (a : ys_R), K.2.2.2.1.2.2[k]? = some a → ys_rok a (g0 k)) → Met l K.1.1 (ys_wsN G K) (ys_rmN K) (ys_PreN D cl cT tys NN AA K ad g0 sz) (ys_PostN D cl cT K ad g0 sz) K.2.1.2.2.1 K.2.1.2.2.2 (va_A (ys_wI cT K ad g0) sz)
def ys_CLN (own : String) (Ts : List Cond) (idx : Nat) (K : ys_KN) (prv : Option String) : Prop := GoodIn Ts (ys_wsN G K) ∧ Cond.initialized K.1.1.cls ∈ Ts ∧ Cond.instanceMethod K.1.1 ∈ Ts ∧ K.1.1.name = "<init>" ∧ (K.1.1.cls ≠ "java/lang/invoke/MethodHandle" ∧ K.1.1.cls ≠ "java/lang/invoke/VarHandle" ∧ (parseMethodDescriptor K.1.1.desc).map (fun d => d.parameters.length) = some 0) ∧ (match prv with
  | some h => (own, idx, K.1.1, h) ∈ NN
  | none => Cond.methodLink own idx K.1.1 ∈ Ts)
end YNK
section YNX
variable {p : Program} {l : Launch} {e : Env} {R : Room} {s : State} {m : MethodId} {args : Array Value} {below : List Frame} {meth : Method} {c : Code} {Q : State → Prop} {kc kz : Nat} {D : va_G} {cl : List vw_C} {cT : Nat → ClassId} {sh : List ys_C} {A : Nat → Prop} {H0 : Heap} {nL : Nat} {mods : List Nat} {g0 : Nat → Nat → Int} {r0 : Nat → Int} {E : Nat} {pc : Nat} {b : ys_B} {fds : ys_F} {lv : List (Nat × ys_V)} {sv : List ys_V} {cc : ByteArray} {own : String} {Ts : List Cond} {tys : List (ClassId × FieldType)}
variable {n0 : Nat} {ad0 : Nat → Nat} {G : List Cond} {NN : ys_NN} {AA : List String} {K : ys_KN}
theorem ys_blindN {ad : Nat → Nat} {g : Nat → Nat → Int} {sz : Nat} : FrameBlind (ys_PreN D cl cT tys NN AA K ad g sz) := sorry
theorem ys_kini {idx : Nat} {prv : Option String} (S : CallFix p m c cc nL s args Ts own) (hK : va_K D cl tys s) (hNW : ys_NW NN AA s) (hA0 : ∀ q, H0.size ≤ q → A q) (hcon : ys_ConN l D cl cT tys G NN AA K) (hCL : ys_CLN G NN own Ts idx K prv) (hn0 : n0 ≤ K.2.2.2.1.1.length) (hmods : ∀ k, k < K.2.2.2.2.1.length → k ∈ mods) (hz1 : ys_z0 K.2.2.2.1.2.1 = true) (hz2 : ys_z0 K.2.2.2.2.2.1 = true) (hlv : lv.all (fun q => ys_rfV K.2.2.2.1.1.length q.2) = true) (hsv : sv.all (ys_rfV K.2.2.2.1.1.length) = true) (hcat : (sv.map ys_cat).sum ≤ 8) (hR : K.2.1.1 + 1 ≤ R.frames ∧ 8 + (K.1.2.2 + 11) + K.2.1.2.1 ≤ R.locals) (hf : kc + K.2.1.2.2.1 ≤ R.cells ∧ kz + K.2.1.2.2.2 ≤ R.slots) (hd : decode cc pc = .ok (.invokespecial idx, 3))
    (k : ys_N p l e R s m args below meth c Q D cl cT A H0 nL mods g0 r0 E n0 ad0 (kc + K.2.1.2.2.1) (kz + K.2.1.2.2.2) K.2.2.2.2.1 (pc + 3) (b, K.2.2.2.2.2, lv, sv)) : ys_N p l e R s m args below meth c Q D cl cT A H0 nL mods g0 r0 E n0 ad0 kc kz K.2.2.2.1.1 pc (b, K.2.2.2.1.2, lv, .inr (some K.2.2.1) :: sv) := sorry
end YNX

