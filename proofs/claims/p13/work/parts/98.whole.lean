/-! the claim's walk, from its entry -/
theorem yo_inst : (vwCl.zip [(2, 124), (1, 155), (1, 93), (1, 117), (1, 213), (2, 20), (1, 28), (2, 109), (2, 146), (2, 42), (1, 149), (1, 20), (5, 148)]).all (fun q => decide (yc q.2 = some (Cond.instantiable q.1.1 q.1.2.2))) = true := by decide +kernel
theorem yo_D {s : State} {args : Array Value} (hts : ∀ w ∈ lw_tbl, w.before args s = true) : ∃ D : va_G, ∀ (c : Nat) (q : vw_C), vwCl[c]? = some q → u_Kn s q.1 q.2.1 q.2.2 (D.1 c) (D.2 c) := by
  have h : ∀ ci : Nat, ∃ x : ClassId × (Nat → Nat), ∀ q, vwCl[ci]? = some q → u_Kn s q.1 q.2.1 q.2.2 x.1 x.2 := by
    intro ci
    by_cases hci : ci < 13
    · obtain ⟨C, T, N, ty0, b1, -, b3, -, -⟩ := yg_clsall ci hci
      have hl : ci < ([(2, 124), (1, 155), (1, 93), (1, 117), (1, 213), (2, 20), (1, 28), (2, 109), (2, 146), (2, 42), (1, 149), (1, 20), (5, 148)] : List (Nat × Nat)).length := hci
      have h1 : (vwCl.zip [(2, 124), (1, 155), (1, 93), (1, 117), (1, 213), (2, 20), (1, 28), (2, 109), (2, 146), (2, 42), (1, 149), (1, 20), (5, 148)])[ci]? = some ((C, T, N), ([(2, 124), (1, 155), (1, 93), (1, 117), (1, 213), (2, 20), (1, 28), (2, 109), (2, 146), (2, 42), (1, 149), (1, 20), (5, 148)] : List (Nat × Nat))[ci]) := by
        rw [List.getElem?_zip_eq_some]
        exact ⟨b1, List.getElem?_eq_getElem hl⟩
      have h2 := List.all_eq_true.mp yo_inst _ (List.mem_of_getElem? h1)
      obtain ⟨cC, iS, hk⟩ := u_known (ws := yG) (fun w hw => hts w (yG_in w hw)) b3 (hts _ (yc_mem (of_decide_eq_true h2)))
      refine ⟨(cC, iS), fun q hq => ?_⟩
      rw [b1] at hq
      cases hq
      exact hk
    · refine ⟨(0, fun _ => 0), fun q hq => ?_⟩
      have := (List.getElem?_eq_some_iff.mp hq).1
      exact absurd this hci
  obtain ⟨f, hf⟩ := Classical.axiomOfChoice h
  exact ⟨(fun c => (f c).1, fun c => (f c).2), hf⟩
theorem yo_ar {s : State} {args : Array Value} (hts : ∀ w ∈ lw_tbl, w.before args s = true) : ∀ t ∈ yn_tyl, ∃ cA : ClassId, ArrOfT s cA t ∧ va_RA s cA t := by
  have hp : ∀ t : FieldType, Cond.arrayClass t ∈ lw_tbl → (∀ x : ClassId, s.vm.findClass ("[" ++ t.toString) = some x → va_RA s x t) → ∃ cA : ClassId, ArrOfT s cA t ∧ va_RA s cA t := by
    intro t ht hra
    obtain ⟨cA, k, comp, h1, h2, h3⟩ := Cond.arrayClass_spec (hts _ ht)
    exact ⟨cA, fun N z => ⟨(fun k h => by cases h), k, h2, comp, h3⟩, hra cA h1⟩
  have ho : ∀ C : String, Cond.arrayOver (.object C) ∈ lw_tbl → ∃ cA : ClassId, ArrOfT s cA (.object C) ∧ va_RA s cA (.object C) := by
    intro C hC
    obtain ⟨comp, cA, k, h1, -, h2, h3, h4⟩ := Cond.arrayOver_spec (hts _ hC)
    exact ⟨cA, fun N z => ⟨(fun k h => by cases h), k, h2, comp, h3⟩, k, comp, h2, h3, h1, h4⟩
  exact List.forall_mem_cons.mpr ⟨hp _ (yc_mem (p := (1, 91)) rfl) (fun _ h => h), List.forall_mem_cons.mpr ⟨hp _ (yc_mem (p := (2, 40)) rfl) (fun _ h => h), List.forall_mem_cons.mpr ⟨hp _ (yc_mem (p := (2, 145)) rfl) (fun _ h => h), List.forall_mem_cons.mpr ⟨hp _ (yc_mem (p := (1, 171)) rfl) (fun _ h => h), List.forall_mem_cons.mpr ⟨ho _ (yc_mem (p := (1, 144)) rfl), List.forall_mem_cons.mpr ⟨ho _ (yc_mem (p := (1, 145)) rfl), List.forall_mem_cons.mpr ⟨ho _ (yc_mem (p := (1, 146)) rfl), List.forall_mem_cons.mpr ⟨ho _ (yc_mem (p := (1, 147)) rfl), List.forall_mem_cons.mpr ⟨ho _ (yc_mem (p := (1, 220)) rfl), fun _ h => absurd h List.not_mem_nil⟩⟩⟩⟩⟩⟩⟩⟩⟩
theorem yo_knows {s : State} {args : Array Value} (hts : ∀ w ∈ lw_tbl, w.before args s = true) : ∃ (D : va_G) (cT : Nat → ClassId) (tys : List (ClassId × FieldType)), va_K D vwCl tys s ∧ ys_TL yn_tyl tys cT := by
  obtain ⟨D, hD⟩ := yo_D hts
  have h : ∀ kd : Nat, ∃ cA : ClassId, ∀ t, yn_tyl[kd]? = some t → ArrOfT s cA t ∧ va_RA s cA t := by
    intro kd
    cases hk : yn_tyl[kd]? with
    | none => exact ⟨0, fun t ht => by cases ht⟩
    | some t =>
      obtain ⟨cA, h1⟩ := yo_ar hts t (List.mem_of_getElem? hk)
      refine ⟨cA, fun t' ht' => ?_⟩
      cases ht'
      exact h1
  obtain ⟨cT, hcT⟩ := Classical.axiomOfChoice h
  have e1 : ∀ kd : Nat, ((List.range 9).map fun k => (cT k, yn_tyl.getD k .int))[kd]? = (yn_tyl[kd]?).map fun t => (cT kd, t) := by
    intro kd
    rw [List.getElem?_map]
    by_cases hk : kd < 9
    · rw [List.getElem?_range hk]
      have hk2 : kd < yn_tyl.length := hk
      show some (cT kd, yn_tyl.getD kd .int) = _
      rw [List.getD_eq_getElem?_getD, List.getElem?_eq_getElem hk2]
      rfl
    · rw [List.getElem?_eq_none (by rw [List.length_range]; omega), List.getElem?_eq_none (show yn_tyl.length ≤ kd from Nat.not_lt.mp hk)]
      rfl
  refine ⟨D, cT, (List.range 9).map fun k => (cT k, yn_tyl.getD k .int), ⟨hD, fun k q hq => ?_⟩, fun kd t ht => ?_, rfl, rfl, rfl, rfl, fun kd h4 h9 => ?_⟩
  · rw [e1] at hq
    cases hk : yn_tyl[k]? with
    | none =>
      rw [hk] at hq
      cases hq
    | some t =>
      rw [hk] at hq
      cases hq
      exact hcT k t hk
  · rw [e1, ht]
    rfl
  · have h9 : kd < 9 := h9
    rcases (show kd = 4 ∨ kd = 5 ∨ kd = 6 ∨ kd = 7 ∨ kd = 8 by omega) with q | q | q | q | q <;> subst q <;> exact ⟨_, rfl⟩
theorem yo_NW {s : State} {args : Array Value} (hts : ∀ w ∈ lw_tbl, w.before args s = true) : ys_NW yn_NN yn_AA s := by
  have h1 : ∀ q ∈ yn_NN, Cond.methodLinkNest q.1 q.2.1 q.2.2.1 q.2.2.2 ∈ lw_tbl := List.forall_mem_cons.mpr ⟨yc_mem (p := (1, 29)) rfl, List.forall_mem_cons.mpr ⟨yc_mem (p := (1, 94)) rfl, List.forall_mem_cons.mpr ⟨yc_mem (p := (1, 118)) rfl, List.forall_mem_cons.mpr ⟨yc_mem (p := (1, 150)) rfl, List.forall_mem_cons.mpr ⟨yc_mem (p := (1, 156)) rfl, List.forall_mem_cons.mpr ⟨yc_mem (p := (1, 219)) rfl, List.forall_mem_cons.mpr ⟨yc_mem (p := (2, 21)) rfl, List.forall_mem_cons.mpr ⟨yc_mem (p := (2, 43)) rfl, List.forall_mem_cons.mpr ⟨yc_mem (p := (2, 110)) rfl, List.forall_mem_cons.mpr ⟨yc_mem (p := (2, 125)) rfl, List.forall_mem_cons.mpr ⟨yc_mem (p := (2, 147)) rfl, fun _ h => absurd h List.not_mem_nil⟩⟩⟩⟩⟩⟩⟩⟩⟩⟩⟩
  have h2 : ∀ C ∈ yn_AA, Cond.arrayOver (.object C) ∈ lw_tbl := List.forall_mem_cons.mpr ⟨yc_mem (p := (1, 144)) rfl, List.forall_mem_cons.mpr ⟨yc_mem (p := (1, 145)) rfl, List.forall_mem_cons.mpr ⟨yc_mem (p := (1, 146)) rfl, List.forall_mem_cons.mpr ⟨yc_mem (p := (1, 147)) rfl, List.forall_mem_cons.mpr ⟨yc_mem (p := (1, 220)) rfl, fun _ h => absurd h List.not_mem_nil⟩⟩⟩⟩⟩
  exact ⟨fun q hq => va_Nw.of rfl (hts _ (h1 q hq)), fun C hC => va_AO.of (hts _ (h2 C hC))⟩
theorem yo_T_in : ∀ w ∈ yo_T, w ∈ lw_tbl := by
  intro w hw
  rcases List.mem_cons.mp hw with q | q
  · rw [q]
    exact yG_in _ (yG_at (1, 23) rfl)
  · exact yG_in w q
theorem yo_yx {tys : List (ClassId × FieldType)} {cT : Nat → ClassId} (h : ys_TL yn_tyl tys cT) : yx_Ty tys cT := by
  obtain ⟨h1, a0, a1, a2, a3, h2⟩ := h
  refine ⟨h1 _ _ a0, h1 _ _ a1, h1 _ _ a2, h1 _ _ a3, fun i h4 h9 => ?_⟩
  obtain ⟨C, hC⟩ := h2 i h4 h9
  exact ⟨C, h1 _ _ hC⟩
theorem yo_r0l : yk_r0.length = 122 := by decide +kernel
theorem yo_shl : yk_sh.length = 122 := by decide +kernel
theorem yo_u0 : yk_r0[15]? = some ((0, 0), []) := by decide +kernel
theorem yo_u1 : yk_r0[116]? = some ((0, 0), []) := by decide +kernel
theorem yo_relc : ∀ (r r' : Nat → Int) (g g' : yt_G), (∀ i ∈ ([1] : List Nat), r i ≤ r' i) → (∀ i ∈ ([5, 113, 69, 78, 87, 55, 57, 58, 60, 61, 63, 64, 66, 56, 59, 62, 65, 3, 96, 67, 76, 85, 4, 17, 12, 18, 19, 20, 21, 22, 23, 13, 14, 15, 16] : List Nat), r' i = r i) → (∀ c ∈ ([15, 116, 119, 91, 92, 90, 48, 50, 52, 54, 117, 2, 3, 4, 5, 86, 87, 88, 89, 118, 56, 57, 58, 59, 66, 67, 68, 69, 76, 77, 78, 79] : List Nat), g' c = g c) → yo_Rel r g → yo_Rel r' g' := by
  intro r r' g g' hm hk hc h
  have h : g 15 = g 116 ∧ r 5 = r 113 ∧ r 69 = g 119 0 ∧ r 78 = g 119 1 ∧ r 87 = g 119 2 ∧ ((0 ≤ g 91 0 ∧ r 55 = 1) ∨ (g 91 0 < 0 ∧ r 55 = 0)) ∧ r 57 = g 92 0 ∧ ((0 ≤ g 91 1 ∧ r 58 = 1) ∨ (g 91 1 < 0 ∧ r 58 = 0)) ∧ r 60 = g 92 1 ∧ ((0 ≤ g 91 2 ∧ r 61 = 1) ∨ (g 91 2 < 0 ∧ r 61 = 0)) ∧ r 63 = g 92 2 ∧ ((0 ≤ g 91 3 ∧ r 64 = 1) ∨ (g 91 3 < 0 ∧ r 64 = 0)) ∧ r 66 = g 92 3 ∧ (g 91 0 < 0 ∨ r 56 = g 91 0) ∧ (0 ≤ g 91 0 ∨ g 92 0 = 0) ∧ (∀ j : Nat, (j : Int) < r 57 → g 48 j = g 90 (100 * 0 + j)) ∧ (g 91 1 < 0 ∨ r 59 = g 91 1) ∧ (0 ≤ g 91 1 ∨ g 92 1 = 0) ∧ (∀ j : Nat, (j : Int) < r 60 → g 50 j = g 90 (100 * 1 + j)) ∧ (g 91 2 < 0 ∨ r 62 = g 91 2) ∧ (0 ≤ g 91 2 ∨ g 92 2 = 0) ∧ (∀ j : Nat, (j : Int) < r 63 → g 52 j = g 90 (100 * 2 + j)) ∧ (g 91 3 < 0 ∨ r 65 = g 91 3) ∧ (0 ≤ g 91 3 ∨ g 92 3 = 0) ∧ (∀ j : Nat, (j : Int) < r 66 → g 54 j = g 90 (100 * 3 + j)) ∧ r 3 = r 96 ∧ r 67 = g 117 0 ∧ r 76 = g 117 1 ∧ r 85 = g 117 2 ∧ (∀ j : Nat, (j : Int) < r 3 → g 2 j = g 86 j) ∧ (∀ j : Nat, (j : Int) < r 3 → g 3 j = g 87 j) ∧ (∀ j : Nat, (j : Int) < r 3 → g 4 j = g 88 j) ∧ (∀ j : Nat, (j : Int) < r 3 → g 5 j = g 89 j) ∧ (∀ j : Nat, (j : Int) < r 67 → g 56 j = g 118 (160 * 0 + 4 * j + 0)) ∧ (∀ j : Nat, (j : Int) < r 67 → g 57 j = g 118 (160 * 0 + 4 * j + 1)) ∧ (∀ j : Nat, (j : Int) < r 67 → g 58 j = g 118 (160 * 0 + 4 * j + 2)) ∧ (∀ j : Nat, (j : Int) < r 67 → g 59 j = g 118 (160 * 0 + 4 * j + 3)) ∧ (∀ j : Nat, (j : Int) < r 76 → g 66 j = g 118 (160 * 1 + 4 * j + 0)) ∧ (∀ j : Nat, (j : Int) < r 76 → g 67 j = g 118 (160 * 1 + 4 * j + 1)) ∧ (∀ j : Nat, (j : Int) < r 76 → g 68 j = g 118 (160 * 1 + 4 * j + 2)) ∧ (∀ j : Nat, (j : Int) < r 76 → g 69 j = g 118 (160 * 1 + 4 * j + 3)) ∧ (∀ j : Nat, (j : Int) < r 85 → g 76 j = g 118 (160 * 2 + 4 * j + 0)) ∧ (∀ j : Nat, (j : Int) < r 85 → g 77 j = g 118 (160 * 2 + 4 * j + 1)) ∧ (∀ j : Nat, (j : Int) < r 85 → g 78 j = g 118 (160 * 2 + 4 * j + 2)) ∧ (∀ j : Nat, (j : Int) < r 85 → g 79 j = g 118 (160 * 2 + 4 * j + 3)) ∧ (0 ≤ r 4 ∧ r 4 ≤ 7 * r 1) ∧ ye_ky (g 2) (g 3) (g 4) (r 3).toNat (r 4) (r 17) (r 12, r 18, r 19, r 20, r 21) ∧ ye_ko (g 2) (g 3) (r 3).toNat (r 4) (r 17) (r 12, r 18, r 19, r 20, r 21) (r 22, r 23, r 13, r 14, r 15, r 16) := h
  show g' 15 = g' 116 ∧ r' 5 = r' 113 ∧ r' 69 = g' 119 0 ∧ r' 78 = g' 119 1 ∧ r' 87 = g' 119 2 ∧ ((0 ≤ g' 91 0 ∧ r' 55 = 1) ∨ (g' 91 0 < 0 ∧ r' 55 = 0)) ∧ r' 57 = g' 92 0 ∧ ((0 ≤ g' 91 1 ∧ r' 58 = 1) ∨ (g' 91 1 < 0 ∧ r' 58 = 0)) ∧ r' 60 = g' 92 1 ∧ ((0 ≤ g' 91 2 ∧ r' 61 = 1) ∨ (g' 91 2 < 0 ∧ r' 61 = 0)) ∧ r' 63 = g' 92 2 ∧ ((0 ≤ g' 91 3 ∧ r' 64 = 1) ∨ (g' 91 3 < 0 ∧ r' 64 = 0)) ∧ r' 66 = g' 92 3 ∧ (g' 91 0 < 0 ∨ r' 56 = g' 91 0) ∧ (0 ≤ g' 91 0 ∨ g' 92 0 = 0) ∧ (∀ j : Nat, (j : Int) < r' 57 → g' 48 j = g' 90 (100 * 0 + j)) ∧ (g' 91 1 < 0 ∨ r' 59 = g' 91 1) ∧ (0 ≤ g' 91 1 ∨ g' 92 1 = 0) ∧ (∀ j : Nat, (j : Int) < r' 60 → g' 50 j = g' 90 (100 * 1 + j)) ∧ (g' 91 2 < 0 ∨ r' 62 = g' 91 2) ∧ (0 ≤ g' 91 2 ∨ g' 92 2 = 0) ∧ (∀ j : Nat, (j : Int) < r' 63 → g' 52 j = g' 90 (100 * 2 + j)) ∧ (g' 91 3 < 0 ∨ r' 65 = g' 91 3) ∧ (0 ≤ g' 91 3 ∨ g' 92 3 = 0) ∧ (∀ j : Nat, (j : Int) < r' 66 → g' 54 j = g' 90 (100 * 3 + j)) ∧ r' 3 = r' 96 ∧ r' 67 = g' 117 0 ∧ r' 76 = g' 117 1 ∧ r' 85 = g' 117 2 ∧ (∀ j : Nat, (j : Int) < r' 3 → g' 2 j = g' 86 j) ∧ (∀ j : Nat, (j : Int) < r' 3 → g' 3 j = g' 87 j) ∧ (∀ j : Nat, (j : Int) < r' 3 → g' 4 j = g' 88 j) ∧ (∀ j : Nat, (j : Int) < r' 3 → g' 5 j = g' 89 j) ∧ (∀ j : Nat, (j : Int) < r' 67 → g' 56 j = g' 118 (160 * 0 + 4 * j + 0)) ∧ (∀ j : Nat, (j : Int) < r' 67 → g' 57 j = g' 118 (160 * 0 + 4 * j + 1)) ∧ (∀ j : Nat, (j : Int) < r' 67 → g' 58 j = g' 118 (160 * 0 + 4 * j + 2)) ∧ (∀ j : Nat, (j : Int) < r' 67 → g' 59 j = g' 118 (160 * 0 + 4 * j + 3)) ∧ (∀ j : Nat, (j : Int) < r' 76 → g' 66 j = g' 118 (160 * 1 + 4 * j + 0)) ∧ (∀ j : Nat, (j : Int) < r' 76 → g' 67 j = g' 118 (160 * 1 + 4 * j + 1)) ∧ (∀ j : Nat, (j : Int) < r' 76 → g' 68 j = g' 118 (160 * 1 + 4 * j + 2)) ∧ (∀ j : Nat, (j : Int) < r' 76 → g' 69 j = g' 118 (160 * 1 + 4 * j + 3)) ∧ (∀ j : Nat, (j : Int) < r' 85 → g' 76 j = g' 118 (160 * 2 + 4 * j + 0)) ∧ (∀ j : Nat, (j : Int) < r' 85 → g' 77 j = g' 118 (160 * 2 + 4 * j + 1)) ∧ (∀ j : Nat, (j : Int) < r' 85 → g' 78 j = g' 118 (160 * 2 + 4 * j + 2)) ∧ (∀ j : Nat, (j : Int) < r' 85 → g' 79 j = g' 118 (160 * 2 + 4 * j + 3)) ∧ (0 ≤ r' 4 ∧ r' 4 ≤ 7 * r' 1) ∧ ye_ky (g' 2) (g' 3) (g' 4) (r' 3).toNat (r' 4) (r' 17) (r' 12, r' 18, r' 19, r' 20, r' 21) ∧ ye_ko (g' 2) (g' 3) (r' 3).toNat (r' 4) (r' 17) (r' 12, r' 18, r' 19, r' 20, r' 21) (r' 22, r' 23, r' 13, r' 14, r' 15, r' 16)
  rw [hc 15 (by decide), hc 116 (by decide), hc 119 (by decide), hc 91 (by decide), hc 92 (by decide), hc 90 (by decide), hc 48 (by decide), hc 50 (by decide), hc 52 (by decide), hc 54 (by decide), hc 117 (by decide), hc 2 (by decide), hc 3 (by decide), hc 4 (by decide), hc 5 (by decide), hc 86 (by decide), hc 87 (by decide), hc 88 (by decide), hc 89 (by decide), hc 118 (by decide), hc 56 (by decide), hc 57 (by decide), hc 58 (by decide), hc 59 (by decide), hc 66 (by decide), hc 67 (by decide), hc 68 (by decide), hc 69 (by decide), hc 76 (by decide), hc 77 (by decide), hc 78 (by decide), hc 79 (by decide), hk 5 (by decide), hk 113 (by decide), hk 69 (by decide), hk 78 (by decide), hk 87 (by decide), hk 55 (by decide), hk 57 (by decide), hk 58 (by decide), hk 60 (by decide), hk 61 (by decide), hk 63 (by decide), hk 64 (by decide), hk 66 (by decide), hk 56 (by decide), hk 59 (by decide), hk 62 (by decide), hk 65 (by decide), hk 3 (by decide), hk 96 (by decide), hk 67 (by decide), hk 76 (by decide), hk 85 (by decide), hk 4 (by decide), hk 17 (by decide), hk 12 (by decide), hk 18 (by decide), hk 19 (by decide), hk 20 (by decide), hk 21 (by decide), hk 22 (by decide), hk 23 (by decide), hk 13 (by decide), hk 14 (by decide), hk 15 (by decide), hk 16 (by decide)]
  obtain ⟨Rimg, RJ, RK0, RK1, RK2, RT0, RL0, RT1, RL1, RT2, RL2, RT3, RL3, RD0, RE0, RW0, RD1, RE1, RW1, RD2, RE2, RW2, RD3, RE3, RW3, RP, RQ0, RQ1, RQ2, RA0, RA1, RA2, RA3, RB00, RB01, RB02, RB03, RB10, RB11, RB12, RB13, RB20, RB21, RB22, RB23, RX, RU, RO⟩ := h
  exact ⟨Rimg, RJ, RK0, RK1, RK2, RT0, RL0, RT1, RL1, RT2, RL2, RT3, RL3, RD0, RE0, RW0, RD1, RE1, RW1, RD2, RE2, RW2, RD3, RE3, RW3, RP, RQ0, RQ1, RQ2, RA0, RA1, RA2, RA3, RB00, RB01, RB02, RB03, RB10, RB11, RB12, RB13, RB20, RB21, RB22, RB23, ye_Xm RX (hm 1 (by decide)), RU, RO⟩
theorem yo_loop {p : Program} {l : Launch} {e : Env} {s : State} {m : MethodId} {below : List Frame} {meth : Method} {c : Code} {kc kz b L : Nat} {xs : Nat → Int32} {D : va_G} {ad : Nat → Nat} {cT : Nat → ClassId} {tys : List (ClassId × FieldType)} {g0 : yt_G} {rr : Nat → Int} (S : CallFix p m c code 4 s #[Value.ref b] yo_T RL) (hr : meth.sig.returnType = ret) (hlocks : meth.locks = false) (hkk : kc ≤ 600000 ∧ kz ≤ 7302250) (hK : va_K D vwCl tys s) (hty : ys_Ty tys cT yk_sh) (hyx : yx_Ty tys cT) (hX : va_X b L xs s s.heap) (hbl : b < s.heap.size) (hb1 : ad 1000 = b) (hL : L ≤ 3072) (hrL : rr 0 = (L : Int)) (hxs : ∀ j, g0 1000 j = (xs j).toInt) (hB : ys_okB rr yo_B) : ∀ (N : Nat) (r2 : Nat → Int) (g : yt_G) (H : Heap) (locs : List Loc) (ls : Array Slot) (st : List Value), ys_rep D vwCl ad cT yk_sh (fun q => s.heap.size ≤ q) s.heap 4 [] g rr r2 1 (ys_sT yo_B yo_H) H locs ls st → yq_num (g 118) → (∀ k, k ∉ List.range 122 → g k = g0 k) → yo_Rel r2 g → ys_ev r2 yo_H.2.2.2.2.2 < (N : Int) → W p l e room_1 s m #[Value.ref b] below meth c H locs kc kz (lw_Z below #[Value.ref b] s) (F0 m 18 ls st) := by
  intro N
  induction N with
  | zero =>
    intro r2 g H locs ls st hrep _ _ _ hlt
    have h0 := ys_geb_le hrep.1.1 yo_geb
    omega
  | succ N ih =>
    intro r2 g H locs ls st hrep hn hm hR hlt
    have hr0 : r2 0 = (L : Int) := (hrep.2.2.1.2 0 Nat.one_pos).trans hrL
    have hrep' : ys_rep D vwCl ad cT yk_sh (fun q => s.heap.size ≤ q) s.heap 4 [] g r2 r2 119 (ys_sT yo_B yo_H) H locs ls st := ⟨hrep.1, hrep.2.1, ⟨Nat.le_of_eq yo_hlen.symm, fun _ _ => rfl⟩, hrep.2.2.2⟩
    have hX2 := yu_exp_ok (stop := yo_stop) (K := yo_K) (tb := yo_tb) (pt := yo_pt) (kc := kc) (kz := kz) (r0 := r2) (E := 119) (gi := g) (g0 := g0) (fun _ _ _ h => h) S hr hlocks rfl (Nat.le_refl _) (Nat.le_refl _) hkk hK hty yo_lk (yo_ca_ok hyx) yo_nx_ok hX hbl hb1 hL (by decide) hr0 (by decide) hxs 40 18 (ys_sT yo_B yo_H) [] yo_lv yo_lvok (fun q hq => by
      obtain ⟨vs, hvs, hvh⟩ := yo_all q hq
      exact yv_run_ok (K := yo_K) (T := yo_H) (ci := 118) (c1 := 10) (c2 := 10) (ms := [1]) (ks := [5, 113, 69, 78, 87, 55, 57, 58, 60, 61, 63, 64, 66, 56, 59, 62, 65, 3, 96, 67, 76, 85, 4, 17, 12, 18, 19, 20, 21, 22, 23, 13, 14, 15, 16]) (cs := [15, 116, 119, 91, 92, 90, 48, 50, 52, 54, 117, 2, 3, 4, 5, 86, 87, 88, 89, 118, 56, 57, 58, 59, 66, 67, 68, 69, 76, 77, 78, 79]) (Rel := yo_Rel) (ars := yo_hr) (rr := rr) (fun _ _ _ h => h) S hr hlocks rfl (Nat.le_refl _) (Nat.le_refl _) hkk hK hty yo_lk (yo_ca_ok hyx) yo_nx_ok hX hbl hb1 hL (by decide) hr0 (by decide) hxs (by decide) (fun i hi => hrep.2.2.1.2 i hi) hB (fun f hf => absurd hf List.not_mem_nil) yo_scb (ys_stb_bel yo_bel) hn (fun _ _ _ h => h.1.1.1) (fun _ _ h => h) (fun _ _ h => h) (by decide) (by decide) yo_relc hR (yt_wd hrep').1 (fun r3 g3 H' locs' ls' st' hrep3 hn3 hR3 hm3 hlt3 => ih r3 g3 H' locs' ls' st' hrep3 hn3 hm3 hR3 (by omega)) 200 false q.1 q.2.1 q.2.2 vs hvs hvh)
    exact hX2 r2 g H locs ls st hrep' rfl (fun v hv => absurd hv List.not_mem_nil) hm
/-- from the entry, for every script of at most 3072 ints, the law comes to its end with true -/
theorem whole_start {p : Program} {e : Env} {s : State} {m : MethodId} {below : List Frame} {meth : Method} {c : Code} (l : Launch) {b L : Nat} {xs : Nat → Int32} (hL : L ≤ 3072) (C0 : lw_At p s m meth c b L xs) : W p l e room_1 s m #[Value.ref b] below meth c s.heap [] 0 0 (lw_Z below #[Value.ref b] s) (entryFrame m ([Value.ref b] : List Value).toArray 4) := by
  obtain ⟨hx, hb, hr, hml, hown, hts, hX, hbl, hlocks, -⟩ := C0
  obtain ⟨D, cT, tys, hK, hTL⟩ := yo_knows hts
  have hNW := yo_NW hts
  have S : CallFix p m c code 4 s #[Value.ref b] yo_T RL := ⟨hx, hb, hml, hown, fun w hw => hts w (yo_T_in w hw)⟩
  have hty : ys_Ty tys cT yk_sh := ys_TL_ty hTL (by decide +kernel)
  have hfin : ys_N p l e room_1 s m #[Value.ref b] below meth c (lw_Z below #[Value.ref b] s) D vwCl cT (fun q => s.heap.size ≤ q) s.heap 4 (List.range 122) (fun _ _ => 0) (fun _ => 0) 0 0 (fun _ => b) yo_Y.1 yo_Y.2.1 yo_Y.2.2.1 yo_Y.2.2.2.1 (([], []), yo_Y.2.2.2.2) := by
    intro ad had r H locs ls st h
    obtain ⟨r', hr'⟩ : ∃ r' : Nat → Int, r' = fun _ => (L : Int) := ⟨_, rfl⟩
    have hr0 : r' 0 = (L : Int) := by rw [hr']
    have hok : ys_okB r' yo_B := by
      refine ⟨fun j q hj => ?_, fun f hf => absurd hf List.not_mem_nil⟩
      cases j with
      | zero =>
        cases hj
        rw [hr0]
        exact ⟨by show (0 : Int) ≤ (L : Int); omega, by show (L : Int) ≤ 3072; omega⟩
      | succ j => cases hj
    have h1 := ys_rep_ext (r' := r') (b' := yo_B) h (fun i hi => absurd hi (Nat.not_lt_zero i)) hok (Nat.zero_le _) (fun f hf => absurd hf List.not_mem_nil)
    obtain ⟨a1, a2, -, ⟨g, hg, hP, hD, hS⟩, a5, a6⟩ := h1
    obtain ⟨g9, hg9⟩ : ∃ g9 : yt_G, g9 = fun k => if k = 1000 then fun j => (xs j).toInt else g k := ⟨_, rfl⟩
    have hgk : ∀ k, k < 1000 → g9 k = g k := fun k hk => by
      rw [hg9]
      exact if_neg (by omega)
    have hgx : ∀ j, g9 1000 j = (xs j).toInt := fun j => by
      rw [hg9]
      rfl
    have hgo : ∀ (k : Nat) (a : ys_R), yk_r0[k]? = some a → ys_rok a (g9 k) := fun k a hk => by
      have hl := (List.getElem?_eq_some_iff.mp hk).1
      have hl2 : yk_r0.length = 122 := yo_r0l
      rw [hgk k (by omega)]
      exact hg.1 k a hk
    have hwl : ∀ fds, ys_wld ad cT yk_sh r' g9 fds = ys_wld ad cT yk_sh r' g fds := fun fds => yv_wldg (fun k hk => hgk k (by rw [yo_shl] at hk; omega))
    have h2 : ys_rep D vwCl ad cT yk_sh (fun q => s.heap.size ≤ q) s.heap 4 [] g9 r' r' 1 (yo_B, yo_Y.2.2.2.2.1, yo_Y.2.2.2.2.2.1, yo_Y.2.2.2.2.2.2) H locs ls st := ⟨a1, a2, ⟨Nat.le_refl 1, fun _ _ => rfl⟩, ⟨g9, ⟨hgo, fun _ _ => rfl⟩, by rw [hwl]; exact hP, by rw [hwl]; exact hD, hS⟩, a5, a6⟩
    obtain ⟨t, ht⟩ := Option.isSome_iff_exists.mp yo_ent
    obtain ⟨k1, -, -⟩ := yt_cck_ok (K := yo_K) (mo := none) (E := 1) (r0 := r') (rr := r') (Nat.le_refl 1) (fun _ _ => rfl) hok (fun f hf => absurd hf List.not_mem_nil) yo_scb h2 ht
    have hn : yq_num (g9 118) := fun j => (hgo 118 ((0, 0), []) yo_num (4 * j + 3)).1
    have hR : yo_Rel (ys_val r' 1 t) g9 := by
      have q0 : g9 15 = g9 116 := funext fun j => by
        have q1 : 0 ≤ g9 15 j ∧ g9 15 j ≤ 0 := hgo 15 ((0, 0), []) yo_u0 j
        have q2 : 0 ≤ g9 116 j ∧ g9 116 j ≤ 0 := hgo 116 ((0, 0), []) yo_u1 j
        omega
      have ht2 : t = yo_t0 := Option.some.inj (ht.symm.trans (yo_ent2))
      subst ht2
      show g9 15 = g9 116 ∧ ys_val r' 1 yo_t0 5 = ys_val r' 1 yo_t0 113 ∧ ys_val r' 1 yo_t0 69 = g9 119 0 ∧ ys_val r' 1 yo_t0 78 = g9 119 1 ∧ ys_val r' 1 yo_t0 87 = g9 119 2 ∧ ((0 ≤ g9 91 0 ∧ ys_val r' 1 yo_t0 55 = 1) ∨ (g9 91 0 < 0 ∧ ys_val r' 1 yo_t0 55 = 0)) ∧ ys_val r' 1 yo_t0 57 = g9 92 0 ∧ ((0 ≤ g9 91 1 ∧ ys_val r' 1 yo_t0 58 = 1) ∨ (g9 91 1 < 0 ∧ ys_val r' 1 yo_t0 58 = 0)) ∧ ys_val r' 1 yo_t0 60 = g9 92 1 ∧ ((0 ≤ g9 91 2 ∧ ys_val r' 1 yo_t0 61 = 1) ∨ (g9 91 2 < 0 ∧ ys_val r' 1 yo_t0 61 = 0)) ∧ ys_val r' 1 yo_t0 63 = g9 92 2 ∧ ((0 ≤ g9 91 3 ∧ ys_val r' 1 yo_t0 64 = 1) ∨ (g9 91 3 < 0 ∧ ys_val r' 1 yo_t0 64 = 0)) ∧ ys_val r' 1 yo_t0 66 = g9 92 3 ∧ (g9 91 0 < 0 ∨ ys_val r' 1 yo_t0 56 = g9 91 0) ∧ (0 ≤ g9 91 0 ∨ g9 92 0 = 0) ∧ (∀ j : Nat, (j : Int) < ys_val r' 1 yo_t0 57 → g9 48 j = g9 90 (100 * 0 + j)) ∧ (g9 91 1 < 0 ∨ ys_val r' 1 yo_t0 59 = g9 91 1) ∧ (0 ≤ g9 91 1 ∨ g9 92 1 = 0) ∧ (∀ j : Nat, (j : Int) < ys_val r' 1 yo_t0 60 → g9 50 j = g9 90 (100 * 1 + j)) ∧ (g9 91 2 < 0 ∨ ys_val r' 1 yo_t0 62 = g9 91 2) ∧ (0 ≤ g9 91 2 ∨ g9 92 2 = 0) ∧ (∀ j : Nat, (j : Int) < ys_val r' 1 yo_t0 63 → g9 52 j = g9 90 (100 * 2 + j)) ∧ (g9 91 3 < 0 ∨ ys_val r' 1 yo_t0 65 = g9 91 3) ∧ (0 ≤ g9 91 3 ∨ g9 92 3 = 0) ∧ (∀ j : Nat, (j : Int) < ys_val r' 1 yo_t0 66 → g9 54 j = g9 90 (100 * 3 + j)) ∧ ys_val r' 1 yo_t0 3 = ys_val r' 1 yo_t0 96 ∧ ys_val r' 1 yo_t0 67 = g9 117 0 ∧ ys_val r' 1 yo_t0 76 = g9 117 1 ∧ ys_val r' 1 yo_t0 85 = g9 117 2 ∧ (∀ j : Nat, (j : Int) < ys_val r' 1 yo_t0 3 → g9 2 j = g9 86 j) ∧ (∀ j : Nat, (j : Int) < ys_val r' 1 yo_t0 3 → g9 3 j = g9 87 j) ∧ (∀ j : Nat, (j : Int) < ys_val r' 1 yo_t0 3 → g9 4 j = g9 88 j) ∧ (∀ j : Nat, (j : Int) < ys_val r' 1 yo_t0 3 → g9 5 j = g9 89 j) ∧ (∀ j : Nat, (j : Int) < ys_val r' 1 yo_t0 67 → g9 56 j = g9 118 (160 * 0 + 4 * j + 0)) ∧ (∀ j : Nat, (j : Int) < ys_val r' 1 yo_t0 67 → g9 57 j = g9 118 (160 * 0 + 4 * j + 1)) ∧ (∀ j : Nat, (j : Int) < ys_val r' 1 yo_t0 67 → g9 58 j = g9 118 (160 * 0 + 4 * j + 2)) ∧ (∀ j : Nat, (j : Int) < ys_val r' 1 yo_t0 67 → g9 59 j = g9 118 (160 * 0 + 4 * j + 3)) ∧ (∀ j : Nat, (j : Int) < ys_val r' 1 yo_t0 76 → g9 66 j = g9 118 (160 * 1 + 4 * j + 0)) ∧ (∀ j : Nat, (j : Int) < ys_val r' 1 yo_t0 76 → g9 67 j = g9 118 (160 * 1 + 4 * j + 1)) ∧ (∀ j : Nat, (j : Int) < ys_val r' 1 yo_t0 76 → g9 68 j = g9 118 (160 * 1 + 4 * j + 2)) ∧ (∀ j : Nat, (j : Int) < ys_val r' 1 yo_t0 76 → g9 69 j = g9 118 (160 * 1 + 4 * j + 3)) ∧ (∀ j : Nat, (j : Int) < ys_val r' 1 yo_t0 85 → g9 76 j = g9 118 (160 * 2 + 4 * j + 0)) ∧ (∀ j : Nat, (j : Int) < ys_val r' 1 yo_t0 85 → g9 77 j = g9 118 (160 * 2 + 4 * j + 1)) ∧ (∀ j : Nat, (j : Int) < ys_val r' 1 yo_t0 85 → g9 78 j = g9 118 (160 * 2 + 4 * j + 2)) ∧ (∀ j : Nat, (j : Int) < ys_val r' 1 yo_t0 85 → g9 79 j = g9 118 (160 * 2 + 4 * j + 3)) ∧ (0 ≤ ys_val r' 1 yo_t0 4 ∧ ys_val r' 1 yo_t0 4 ≤ 7 * ys_val r' 1 yo_t0 1) ∧ ye_ky (g9 2) (g9 3) (g9 4) (ys_val r' 1 yo_t0 3).toNat (ys_val r' 1 yo_t0 4) (ys_val r' 1 yo_t0 17) (ys_val r' 1 yo_t0 12, ys_val r' 1 yo_t0 18, ys_val r' 1 yo_t0 19, ys_val r' 1 yo_t0 20, ys_val r' 1 yo_t0 21) ∧ ye_ko (g9 2) (g9 3) (ys_val r' 1 yo_t0 3).toNat (ys_val r' 1 yo_t0 4) (ys_val r' 1 yo_t0 17) (ys_val r' 1 yo_t0 12, ys_val r' 1 yo_t0 18, ys_val r' 1 yo_t0 19, ys_val r' 1 yo_t0 20, ys_val r' 1 yo_t0 21) (ys_val r' 1 yo_t0 22, ys_val r' 1 yo_t0 23, ys_val r' 1 yo_t0 13, ys_val r' 1 yo_t0 14, ys_val r' 1 yo_t0 15, ys_val r' 1 yo_t0 16)
      refine ⟨q0, ?_, ?_, ?_, ?_, ?_, ?_, ?_, ?_, ?_, ?_, ?_, ?_, ?_, ?_, ?_, ?_, ?_, ?_, ?_, ?_, ?_, ?_, ?_, ?_, ?_, ?_, ?_, ?_, ?_, ?_, ?_, ?_, ?_, ?_, ?_, ?_, ?_, ?_, ?_, ?_, ?_, ?_, ?_, ?_, ?_, ?_, ?_⟩
      · rfl
      · have q1 : (0) ≤ g9 119 0 ∧ g9 119 0 ≤ (0) := hgo 119 _ yo_y119 0
        show (0 : Int) = g9 119 0
        omega
      · have q1 : (0) ≤ g9 119 1 ∧ g9 119 1 ≤ (0) := hgo 119 _ yo_y119 1
        show (0 : Int) = g9 119 1
        omega
      · have q1 : (0) ≤ g9 119 2 ∧ g9 119 2 ≤ (0) := hgo 119 _ yo_y119 2
        show (0 : Int) = g9 119 2
        omega
      · have q1 : (-1) ≤ g9 91 0 ∧ g9 91 0 ≤ (-1) := hgo 91 _ yo_y91 0
        show ((0 ≤ g9 91 0 ∧ (0 : Int) = 1) ∨ (g9 91 0 < 0 ∧ (0 : Int) = 0))
        omega
      · have q1 : (0) ≤ g9 92 0 ∧ g9 92 0 ≤ (0) := hgo 92 _ yo_y92 0
        show (0 : Int) = g9 92 0
        omega
      · have q1 : (-1) ≤ g9 91 1 ∧ g9 91 1 ≤ (-1) := hgo 91 _ yo_y91 1
        show ((0 ≤ g9 91 1 ∧ (0 : Int) = 1) ∨ (g9 91 1 < 0 ∧ (0 : Int) = 0))
        omega
      · have q1 : (0) ≤ g9 92 1 ∧ g9 92 1 ≤ (0) := hgo 92 _ yo_y92 1
        show (0 : Int) = g9 92 1
        omega
      · have q1 : (-1) ≤ g9 91 2 ∧ g9 91 2 ≤ (-1) := hgo 91 _ yo_y91 2
        show ((0 ≤ g9 91 2 ∧ (0 : Int) = 1) ∨ (g9 91 2 < 0 ∧ (0 : Int) = 0))
        omega
      · have q1 : (0) ≤ g9 92 2 ∧ g9 92 2 ≤ (0) := hgo 92 _ yo_y92 2
        show (0 : Int) = g9 92 2
        omega
      · have q1 : (-1) ≤ g9 91 3 ∧ g9 91 3 ≤ (-1) := hgo 91 _ yo_y91 3
        show ((0 ≤ g9 91 3 ∧ (0 : Int) = 1) ∨ (g9 91 3 < 0 ∧ (0 : Int) = 0))
        omega
      · have q1 : (0) ≤ g9 92 3 ∧ g9 92 3 ≤ (0) := hgo 92 _ yo_y92 3
        show (0 : Int) = g9 92 3
        omega
      · have q1 : (-1) ≤ g9 91 0 ∧ g9 91 0 ≤ (-1) := hgo 91 _ yo_y91 0
        show (g9 91 0 < 0 ∨ (0 : Int) = g9 91 0)
        omega
      · have q1 : (0) ≤ g9 92 0 ∧ g9 92 0 ≤ (0) := hgo 92 _ yo_y92 0
        show (0 ≤ g9 91 0 ∨ g9 92 0 = 0)
        omega
      · exact fun j hj => absurd (show (j : Int) < 0 from hj) (by omega)
      · have q1 : (-1) ≤ g9 91 1 ∧ g9 91 1 ≤ (-1) := hgo 91 _ yo_y91 1
        show (g9 91 1 < 0 ∨ (0 : Int) = g9 91 1)
        omega
      · have q1 : (0) ≤ g9 92 1 ∧ g9 92 1 ≤ (0) := hgo 92 _ yo_y92 1
        show (0 ≤ g9 91 1 ∨ g9 92 1 = 0)
        omega
      · exact fun j hj => absurd (show (j : Int) < 0 from hj) (by omega)
      · have q1 : (-1) ≤ g9 91 2 ∧ g9 91 2 ≤ (-1) := hgo 91 _ yo_y91 2
        show (g9 91 2 < 0 ∨ (0 : Int) = g9 91 2)
        omega
      · have q1 : (0) ≤ g9 92 2 ∧ g9 92 2 ≤ (0) := hgo 92 _ yo_y92 2
        show (0 ≤ g9 91 2 ∨ g9 92 2 = 0)
        omega
      · exact fun j hj => absurd (show (j : Int) < 0 from hj) (by omega)
      · have q1 : (-1) ≤ g9 91 3 ∧ g9 91 3 ≤ (-1) := hgo 91 _ yo_y91 3
        show (g9 91 3 < 0 ∨ (0 : Int) = g9 91 3)
        omega
      · have q1 : (0) ≤ g9 92 3 ∧ g9 92 3 ≤ (0) := hgo 92 _ yo_y92 3
        show (0 ≤ g9 91 3 ∨ g9 92 3 = 0)
        omega
      · exact fun j hj => absurd (show (j : Int) < 0 from hj) (by omega)
      · rfl
      · have q1 : (0) ≤ g9 117 0 ∧ g9 117 0 ≤ (0) := hgo 117 _ yo_y117 0
        show (0 : Int) = g9 117 0
        omega
      · have q1 : (0) ≤ g9 117 1 ∧ g9 117 1 ≤ (0) := hgo 117 _ yo_y117 1
        show (0 : Int) = g9 117 1
        omega
      · have q1 : (0) ≤ g9 117 2 ∧ g9 117 2 ≤ (0) := hgo 117 _ yo_y117 2
        show (0 : Int) = g9 117 2
        omega
      · exact fun j hj => absurd (show (j : Int) < 0 from hj) (by omega)
      · exact fun j hj => absurd (show (j : Int) < 0 from hj) (by omega)
      · exact fun j hj => absurd (show (j : Int) < 0 from hj) (by omega)
      · exact fun j hj => absurd (show (j : Int) < 0 from hj) (by omega)
      · exact fun j hj => absurd (show (j : Int) < 0 from hj) (by omega)
      · exact fun j hj => absurd (show (j : Int) < 0 from hj) (by omega)
      · exact fun j hj => absurd (show (j : Int) < 0 from hj) (by omega)
      · exact fun j hj => absurd (show (j : Int) < 0 from hj) (by omega)
      · exact fun j hj => absurd (show (j : Int) < 0 from hj) (by omega)
      · exact fun j hj => absurd (show (j : Int) < 0 from hj) (by omega)
      · exact fun j hj => absurd (show (j : Int) < 0 from hj) (by omega)
      · exact fun j hj => absurd (show (j : Int) < 0 from hj) (by omega)
      · exact fun j hj => absurd (show (j : Int) < 0 from hj) (by omega)
      · exact fun j hj => absurd (show (j : Int) < 0 from hj) (by omega)
      · exact fun j hj => absurd (show (j : Int) < 0 from hj) (by omega)
      · exact fun j hj => absurd (show (j : Int) < 0 from hj) (by omega)
      · exact ⟨show (0 : Int) ≤ 0 by decide, show (0 : Int) ≤ 7 * 0 by decide⟩
      · exact Or.inl (show (-1 : Int) < 0 by decide)
      · exact Or.inl (show (-1 : Int) < 0 by decide)
    exact yo_loop (kc := yo_Y.1) (kz := yo_Y.2.1) (g0 := g9) S hr hlocks ⟨by decide, by decide⟩ hK hty (yo_yx hTL) hX hbl (had 1000 (Or.inr (Nat.le_refl _))) hL hr0 hgx hok ((ys_ev (ys_val r' 1 t) yo_H.2.2.2.2.2).toNat + 1) (ys_val r' 1 t) g9 H locs ls st k1 hn (fun _ _ => rfl) hR (by omega)
  have hrun := ys_runN_ok (X := yn_XL) (y := yX11_init) (N := 122) (RC := 600000) (RS := 7302250) (fr := 10) (lo := 400) S (Or.inr rfl) hK hNW (fun q h => h) hTL (yn_LL hTL yX11_init cX11_init 2) ⟨Nat.le_refl _, Nat.le_refl _, Nat.le_refl _, Nat.le_refl _⟩ yo_nx_ok hfin 20 _ yo_pre
  rw [lg_entry_eq]
  have hl := lv_entry [Value.ref b] (n := 4) (by show 1 ≤ 4; decide)
  have hlvs : ∀ q ∈ ([(0, .inr (some 1000))] : List (Nat × ys_V)), ys_stV 0 q.2 := by
    intro q hq
    rw [List.mem_singleton.mp hq]
    exact trivial
  have hok : ys_okB (fun _ => 0) (([], []) : ys_B) := ⟨fun j q hj => (by cases hj), fun q hq => (by cases hq)⟩
  have hsc : ys_sc ((([], []), ([], []), [(0, .inr (some 1000))], []) : ys_S) := ⟨fun q hq => (by cases hq), fun w hw => (by cases hw), hlvs, fun q hq => (by cases hq)⟩
  exact hrun (fun _ => b) (fun _ _ => rfl) (fun _ => 0) s.heap [] _ [] ⟨hok, hsc, ⟨Nat.le_refl _, fun _ _ => rfl⟩, ⟨fun _ _ => 0, ⟨fun k a hk => (by cases hk), fun _ _ => rfl⟩, fun k q hq => (by cases hq), ⟨fun i j x y hi => (by cases hi), fun k q hq => (by cases hq)⟩, va_S.rf⟩, hl, rfl⟩
set_option maxHeartbeats 4000000 in
theorem lw_walk (l : Launch) (b : Addr) (xs : List Int32) : MetFree l x (headSpec (Jvm.Cond.code x code maxLocals ret :: tables_1) room_1) (lw_P b xs) (fun _ _ _ _ _ => True) lw_Q := by
  refine MetFree.of_bodyS (code := code) (maxLocals := maxLocals) (ret := ret) (by decide) ?_ ?_
  · intro args s m h hn
    obtain ⟨meth, c, h1, h2, h3, h4, h5, h6, -, -⟩ := Cond.code_spec hn (atoms_spec (ws := Jvm.Cond.code x code maxLocals ret :: tables_1) h _ List.mem_cons_self)
    exact ⟨meth, c, h1, h2, h3, h4, h5, h6⟩
  · intro p e s m args below meth c s₁ B hml0 hP _
    obtain ⟨rfl, hx, hbd, hgv⟩ := hP
    obtain ⟨scr, harrAt, hlist, hof, hsmall⟩ := hx
    obtain ⟨hcb, hkn, -, -⟩ := State.arrayAt?_spec harrAt
    have hown : s.vm.findClass R_law = some m.cls := findClass_of_methodNamed B.named
    have hts0 : ∀ c ∈ (Jvm.Cond.code x code maxLocals ret :: tables_1), c.before #[Value.ref b] s = true := atoms_spec (ws := Jvm.Cond.code x code maxLocals ret :: tables_1) B.pre
    have hts : ∀ w ∈ lw_tbl, w.before #[Value.ref b] s = true := k2_hts_sels lw_privs (fun w hw => hts0 w (List.mem_cons_of_mem _ hw)) lw_privs_ok
    have hml : c.maxLocals = 4 := B.maxLocals_eq (hts0 _ List.mem_cons_self)
    have X₀ : Stand p l e room_1 s m #[Value.ref b] below meth c s₁ [] 0 0 := Stand.of_body B
    have hh0 : s₁.heap = s.heap := by rw [B.state]; rfl
    have hsz : scr.slots.size = xs.length := by rw [← Array.length_toList, hlist, List.length_map]
    have hval : ∀ j : Nat, j < xs.length → scr.slots[j]? = some (.int (xs.getD j 0)) := fun j hj => by
      rw [← Array.getElem?_toList, hlist]
      simp [hj]
    have hbl : b < s.heap.size := (Array.getElem?_eq_some_iff.mp hcb).1
    have hX : va_X b xs.length (fun j => xs.getD j 0) s s.heap := ⟨scr, hcb, hof, hkn, hsz, hval⟩
    have K : W p l e room_1 s m #[Value.ref b] below meth c s₁.heap [] 0 0 (lw_Z below #[Value.ref b] s) (entryFrame m ([Value.ref b] : List Value).toArray 4) := by
      rw [hh0]
      exact whole_start l hbd ⟨B.exec, B.bytes, B.returns, hml, hown, hts, hX, hbl, B.notSynchronized, hgv⟩
    obtain ⟨t, a1, o, b1, b2, b3⟩ := K s₁ rfl X₀
    exact ⟨t, o, a1, b1, b2, b3⟩
theorem lw_pre_spec {args : Array Value} {s : State} (h : (Jvm.Cond.and given_1 narrow_1).before args s = true) (hr : rest_1_c.before args s = true) : ∃ (b : Addr) (xs : List Int32), lw_P b xs args s := by
  have hs := flat_of_before _ h
  have hq := flat_of_before _ hr
  have hc : (Cond.count 1).before args s = true := hs _ (by decide +kernel)
  have harr : (Cond.arrayOf (.arg 0) .int).before args s = true := hs _ (by decide +kernel)
  have hle : (Cond.le (.length (.arg 0)) (.int 3072)).before args s = true := hs _ (by decide +kernel)
  have hlen : (Cond.isInt (.length (.arg 0))).before args s = true := hq _ (by decide +kernel)
  have hall : (Cond.all (.arg 0) (.isInt (.elem (.arg 0) (.index 0)))).before args s = true := hq _ (by decide +kernel)
  obtain ⟨b, xs, hb, hx⟩ := State.ints_of_pre rfl harr hlen hall
  have hsm : xs.length < 2 ^ 31 := hx.choose_spec.2.2.2
  have hev : (Term.length (.arg 0)).eval args s none [] s = some (.int xs.length.toInt32) := hx.length_eval hb
  have hv := Cond.le_ints hev (show (Term.int 3072).eval args s none [] s = some (.int 3072) from rfl)
  have hd : xs.length.toInt32 ≤ 3072 := by
    simpa [Cond.before, Cond.holds, hv] using hle
  have hN : xs.length ≤ 3072 := (Int32.ofNat_le_ofNat hsm (by decide)).mp (show Int32.ofNat xs.length ≤ Int32.ofNat 3072 from hd)
  exact ⟨b, xs, Cond.one_arg hc (show args[0]? = some (.ref b) from hb), hx, hN, h⟩
theorem lw_comes (l : Launch) : Comes l x (Jvm.Cond.code x code maxLocals ret :: tables_1) room_1 (fun tb e args s => Calls_1 tb e args s ∧ rest_1 tb e args s ∧ Pre_1 tb e args s)
    (fun _ _ args s o t => lw_Q args s o t) := by
  intro p e ha hc hk s m args below hf hfit hheap happ hpre
  obtain ⟨b, xs, hP⟩ := lw_pre_spec hpre.2.2 hpre.2.1
  obtain ⟨k, o, h1, h2, h3, hQ⟩ := lw_walk l b xs p e ha hc hk s m args below hf ((Spec.applies_iff_loose hf).mp happ).1 hP trivial
  exact ⟨k, o, h1, h2, h3, hQ⟩
theorem lw_frame {s t : State} {o : Outcome} {args : Array Value} (h : Framed s o t [] 600000 7302250) :
    Framed s o t (fieldLocs frame_1_writes args s ++ arrayLocs frame_1_arrays args s ++ staticLocs frame_1_statics s) 600000 7302250 := h
theorem lw_limb (L : Cond) (hL : ∀ (args : Array Value) (s t : State), L.after args s (.returned (some (.int 1))) t = true) :
    ArmFor flags0 classFile x code maxLocals ret World_1 tables_1 room_1 Calls_1 rest_1 Pre_1
      (fun tb e a s o t => postC L tb e a s o t ∧ Framed s o t (fieldLocs frame_1_writes a s ++ arrayLocs frame_1_arrays a s ++ staticLocs frame_1_statics s) 600000 7302250) := by
  intro l _ _ _ p e ha hc hk s m args below hf hfit hheap happ hpre
  obtain ⟨k, o, h1, h2, h3, rfl, hF⟩ := lw_comes l p e ha hc hk s m args below hf hfit hheap happ hpre
  exact ⟨k, _, h1, h2, h3, hL args s _, lw_frame hF⟩
theorem i_vc : Claimed_1_1 ∧ Claimed_1_2 := ⟨lw_limb limb_1_1 (fun args s t => by simp [limb_1_1, Cond.after, Cond.holds, Cond.value]), lw_limb limb_1_2 (fun args s t => Cond.after_iff.mpr (by
  first | (rw [show limb_1_2 = Cond.eq .result (.int 1) from rfl, Cond.eq_ints (x := 1) (y := 1) rfl rfl]; simp; done) | (simp [limb_1_2, Cond.value, Term.eval]; done)))⟩

