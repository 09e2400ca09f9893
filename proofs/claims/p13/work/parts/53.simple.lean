/-! contracts without words -/
noncomputable def yx_Ty (tys : List (ClassId × FieldType)) (cT : Nat → ClassId) : Prop := tys[0]? = some (cT 0, .int) ∧ tys[1]? = some (cT 1, .long) ∧ tys[2]? = some (cT 2, .byte) ∧ tys[3]? = some (cT 3, .boolean) ∧ ∀ i, 4 ≤ i → i < 9 → ∃ C, tys[i]? = some (cT i, .object C)
noncomputable def yx_kinds (sh : List ys_C) : Bool := sh.all (fun c => match c with
  | .inl _ => true
  | .inr y => decide (y.1 < 9))
theorem yx_ty {tys : List (ClassId × FieldType)} {cT : Nat → ClassId} {sh : List ys_C} (h : yx_Ty tys cT) (hk : yx_kinds sh = true) : ys_Ty tys cT sh := by
  obtain ⟨h0, h1, h2, h3, h4⟩ := h
  have hlt : ∀ (k : Nat) (y : Nat × Nat × List Nat), sh[k]? = some (.inr y) → y.1 < 9 := fun k y hy => of_decide_eq_true (List.all_eq_true.mp hk _ (List.mem_of_getElem? hy))
  refine ⟨h0, h1, h2, h3, fun k y hy => ?_, fun k y hy h => h4 y.1 h (hlt k y hy)⟩
  have h5 := hlt k y hy
  by_cases h6 : 4 ≤ y.1
  · obtain ⟨C, hC⟩ := h4 y.1 h6 h5
    exact ⟨_, hC⟩
  · rcases (show y.1 = 0 ∨ y.1 = 1 ∨ y.1 = 2 ∨ y.1 = 3 by omega) with q | q | q | q
    · rw [q]; exact ⟨_, h0⟩
    · rw [q]; exact ⟨_, h1⟩
    · rw [q]; exact ⟨_, h2⟩
    · rw [q]; exact ⟨_, h3⟩
abbrev yx_C (l : Launch) (D : va_G) (cT : Nat → ClassId) (tys : List (ClassId × FieldType)) (sh : List ys_C) (K : ys_K) : Prop := yt_Con l D vwCl cT tys yG sh K (fun _ _ => True) (fun _ _ _ _ => True)
noncomputable def yx_chk (sh : List ys_C) (calls : List yt_CE) (K : ys_K) (Z : yt_Q) (n : Nat) : Bool := yx_kinds sh && (calls.all (fun C => yt_shok C.1.2.2.2 C.2.1 sh) && (Z.2.2.2.isEmpty && yt_chk sh calls K Z n []))
theorem yx_method {l : Launch} {D : va_G} {cT : Nat → ClassId} {tys : List (ClassId × FieldType)} {sh : List ys_C} {K : ys_K} {calls : List yt_CE} {Z : yt_Q} (n : Nat) (hy : plainName K.1.1.1.cls = true) (hcode : ∀ q ∈ Z.1, decode K.1.1.2.1 q.1 = .ok q.2) (hty : yx_Ty tys cT) (hLk : ys_Lk K.1.1.1.cls (ys_ws yG K) vwCl Z.2.1.1 Z.2.1.2.1 Z.2.1.2.2.1 Z.2.1.2.2.2.1) (hCq : ∀ v, v ∈ Z.2.1.2.2.2.2 → yt_Cq K.1.1.1.cls (ys_ws yG K) v) (hcalls : ∀ C ∈ calls, yx_C l D cT tys C.2.1 C.2.2 ∧ ys_CL K.1.1.1.cls (ys_ws yG K) vwCl C.2.1 yG (if C.1.1.2 = true then .invokestatic C.1.1.1 else .invokevirtual C.1.1.1) C.2.2) (hchk : yx_chk sh calls K Z n = true) : yx_C l D cT tys sh K := by
  unfold yx_chk at hchk
  rw [Bool.and_eq_true, Bool.and_eq_true, Bool.and_eq_true] at hchk
  obtain ⟨c1, c2, c3, c4⟩ := hchk
  exact yt_method (tb := fun _ _ _ _ _ => True) (pt := fun _ _ _ => True) (Ga := fun _ _ _ _ => True) (vs := []) n (fun _ _ _ _ => trivial) hy hcode (yx_ty hty c1) hLk hCq (fun C hC => ⟨(hcalls C hC).1, (hcalls C hC).2, List.all_eq_true.mp c2 C hC, fun _ _ _ => trivial⟩) (fun _ _ _ _ _ _ _ => trivial) (fun _ _ _ _ _ => trivial) c4 (fun v hv => absurd hv List.not_mem_nil) (fun _ _ _ v hv => absurd hv List.not_mem_nil)
noncomputable def ys_fs (F : List (List ys_V)) (x : List (Nat × Nat × ys_V)) : List (List ys_V) := x.foldl (fun F q => ys_fset F q.1 q.2.1 q.2.2) F
noncomputable def ys_rs (A : List ys_R) (x : List (Nat × ys_R)) : List ys_R := x.foldl (fun A q => A.set q.1 q.2) A
