/-! calls -/
def ys_arm (mods : List Nat) : Nat → List ys_R → List ys_R → List ys_R
  | i, a :: t, a' :: u => (if mods.contains i then a' else a) :: ys_arm mods (i + 1) t u
  | _, _, _ => []
theorem ys_arm_get (mods : List Nat) : ∀ (x y : List ys_R) (i k : Nat) (z : ys_R), (ys_arm mods i x y)[k]? = some z → (i + k ∈ mods ∧ y[k]? = some z) ∨ (i + k ∉ mods ∧ x[k]? = some z) := sorry
def ys_tau (n : Nat) (t : List ys_L) (a : ys_A) : List ys_L := t ++ (List.range a.1.length).map fun j => ys_sym (n + j)
def ys_aft (pc : Nat) (b : ys_B) (fds : ys_F) (lv : List (Nat × ys_V)) (rest : List ys_V) (K : ys_K) (t : List ys_L) (a : ys_A) : List (Nat × ys_S) := match ys_ass (b.1 ++ a.1, b.2) (a.2.1.map (ys_put 0 (ys_tau b.1.length t a))) with
  | some b' => [(pc, b', (a.2.2.1.1.map (fun w => w.map (ys_pV 0 (ys_tau b.1.length t a))), ys_arm K.2.2.2 0 fds.2 a.2.2.1.2), lv, a.2.2.2.toList.map (ys_pV 0 (ys_tau b.1.length t a)) ++ rest)]
  | none => []
theorem ys_tau_get {n : Nat} {t : List ys_L} {a : ys_A} (i : Nat) : (ys_tau n t a).getD i ([], 0) = if i < t.length then t.getD i ([], 0) else if i < t.length + a.1.length then ys_sym (n + (i - t.length)) else ([], 0) := sorry
section YSC
variable {p : Program} {l : Launch} {e : Env} {R : Room} {s : State} {m : MethodId} {args : Array Value} {below : List Frame} {meth : Method} {c : Code} {Q : State → Prop} {kc kz : Nat} {D : va_G} {cl : List vw_C} {ad : Nat → Nat} {cT : Nat → ClassId} {sh : List ys_C} {A : Nat → Prop} {H0 : Heap} {nL : Nat} {mods : List Nat} {g0 : Nat → Nat → Int} {r0 : Nat → Int} {E : Nat} {pc : Nat} {b : ys_B} {fds : ys_F} {lv : List (Nat × ys_V)} {sv : List ys_V} {succ : List (Nat × ys_S)} {cc : ByteArray} {own : String} {Ts : List Cond} {tys : List (ClassId × FieldType)}
variable {G : List Cond} {K : ys_K}
theorem ys_kaft {t : List ys_L} {a : ys_A} {r : Nat → Int} {H H1 : Heap} {locs locs1 : List Loc} {ls : Array Slot} {st : List Value} {g : Nat → Nat → Int} {v : Option Value} {t1 : State} (h : ys_rep D cl ad cT sh A H0 nL mods g0 r0 r E (b, fds, lv, sv) H locs ls st) (hg : ys_gok mods fds.2 g0 g) (ht : ∀ x ∈ t, ys_stb b.1.length x) (hlen : t.length = K.2.1.2.1.1.length) (hm : ∀ k, k ∈ K.2.2.2 → k ∈ mods) (hA : ys_Alt D cl ad cT sh tys K (ys_val r 0 t) g H.size a (.returned v) t1) (hH1 : t1.heap = H1) (hF : ∀ q, va_A (ys_wK ad cT sh K (ys_val r 0 t) g) H.size q → A q) (hS1 : va_S A H0 H1 locs1) (k : ∀ q ∈ ys_aft pc b fds lv sv K t a, ys_W p l e R s m args below meth c Q kc kz D cl ad cT sh A H0 nL mods g0 r0 E q.1 q.2) : W p l e R s m args below meth c H1 locs1 kc kz Q (F0 m pc ls (v.toList ++ st)) := sorry
/-- a call by its contract -/
def ys_hcall (fr lo : Nat) (mods : List Nat) (K : ys_K) (pc : Nat) (b : ys_B) (fds : ys_F) (lv : List (Nat × ys_V)) (sv : List ys_V) : Option (List (Nat × ys_S)) := match ys_zf K.2.1.2.2.1 fds.1 with
  | some fp => if decide (K.2.1.1.length ≤ sv.length) && (decide (((sv.drop K.2.1.1.length).map ys_cat).sum ≤ 8) && (decide (K.1.2.1 + 1 ≤ fr) && (decide (8 + (K.1.1.2.2.1 + 11) + K.1.2.2 ≤ lo) && K.2.2.2.all (fun k => mods.contains k)))) then (match ys_mat b fds.2 0 K.2.1.2.1.1 K.2.1.2.1.2 K.2.1.2.2.2 (K.2.1.1.zip (sv.take K.2.1.1.length).reverse ++ fp) with
      | some t => some (K.2.2.1.flatMap fun a => ys_aft (pc + 3) b fds lv (sv.drop K.2.1.1.length) K t a)
      | none => none) else none
  | none => none
/-- what a call's link says: a method of an object, or of none -/
def ys_CL (own : String) (Ts : List Cond) (cl : List vw_C) (sh : List ys_C) (G : List Cond) (i : Instr) (K : ys_K) : Prop :=
  (∃ (idx k ci : Nat) (C : String) (T : u_T) (N : Nat) (as : List ys_V), i = .invokevirtual idx ∧ K.2.1.1 = .inr (some k) :: as ∧ sh[k]? = some (.inl ci) ∧ cl[ci]? = some (C, T, N) ∧ GoodIn Ts (wsV own idx C K.1.1.1 (ys_ws G K)) ∧ (K.1.1.1.cls = C ∧ K.1.1.1.cls ≠ "java/lang/invoke/MethodHandle" ∧ K.1.1.1.cls ≠ "java/lang/invoke/VarHandle" ∧ (parseMethodDescriptor K.1.1.1.desc).map (fun d => d.parameters.length) = some as.length)) ∨
  (∃ idx : Nat, i = .invokestatic idx ∧ GoodIn Ts (va_wsS own idx K.1.1.1 (ys_ws G K)) ∧ (K.1.1.1.cls ≠ "java/lang/invoke/MethodHandle" ∧ K.1.1.1.cls ≠ "java/lang/invoke/VarHandle" ∧ (parseMethodDescriptor K.1.1.1.desc).map (fun d => d.parameters.length) = some K.2.1.1.length))
theorem ys_blind {r0 : Nat → Int} {g : Nat → Nat → Int} {sz : Nat} : FrameBlind (ys_Pre D cl ad cT sh tys K r0 g sz) := sorry
theorem ys_cats (l : List ys_V) (r : Nat → Int) : ((l.map (ys_den ad r)).map fun v => v.category).sum = (l.map ys_cat).sum := sorry
theorem ys_kcall {i : Instr} {fr lo : Nat} (S : CallFix p m c cc nL s args Ts own) (hK : va_K D cl tys s) (hA0 : ∀ q, H0.size ≤ q → A q) (hcon : ys_Con l D cl ad cT sh tys G K) (hCL : ys_CL own Ts cl sh G i K) (hd : decode cc pc = .ok (i, 3)) (hfr : fr ≤ R.frames) (hlo : lo ≤ R.locals) (hkk : kc ≤ R.cells ∧ kz ≤ R.slots) (hs : ys_hcall fr lo mods K pc b fds lv sv = some succ) (k : ∀ q ∈ succ, ys_W p l e R s m args below meth c Q kc kz D cl ad cT sh A H0 nL mods g0 r0 E q.1 q.2) : ys_W p l e R s m args below meth c Q kc kz D cl ad cT sh A H0 nL mods g0 r0 E pc (b, fds, lv, sv) := sorry
end YSC


