/-! the widest way: there is a nearest pair, or the colours meet -/
noncomputable def ye_ce (x y : Nat → Int) (Y N : Nat → Prop) (A B lo hi : Int) : Prop := (∀ j, Y j → lo ≤ A * x j + B * y j) ∧ (∀ j, N j → A * x j + B * y j ≤ hi) ∧ hi < lo ∧ ∃ T M : Int, 0 < T ∧ 0 < M ∧ T * (lo - hi) = M * (A * A + B * B) ∧ ∀ A' B' L' H' : Int, (∀ j, Y j → L' ≤ A' * x j + B' * y j) → (∀ j, N j → A' * x j + B' * y j ≤ H') → T * (L' - H') ≤ M * (A * A' + B * B')
noncomputable def ye_tr (x y : Nat → Int) (Y N : Nat → Prop) (A B : Int) : Prop := (∃ i k : Nat, Y i ∧ N k ∧ A = x i - x k ∧ B = y i - y k) ∨ ∃ i j : Nat, ((Y i ∧ Y j) ∨ (N i ∧ N j)) ∧ ¬ ye_at x y i j ∧ A = y j - y i ∧ B = -(x j - x i)
noncomputable def ye_can (x y : Nat → Int) (Y N : Nat → Prop) (q : Nat × Nat × Nat) : Prop := ((Y q.1 ∧ N q.2.1 ∧ N q.2.2) ∨ (N q.1 ∧ Y q.2.1 ∧ Y q.2.2)) ∧ (q.2.1 = q.2.2 ∨ (0 < yh_dot x y q.2.1 q.1 q.2.2 ∧ 0 < yh_dot x y q.2.2 q.1 q.2.1))
noncomputable def ye_num (x y : Nat → Int) (q : Nat × Nat × Nat) : Int := if q.2.1 = q.2.2 then yh_far x y q.1 q.2.1 else yq_ar x y q.1 q.2.1 q.2.2 * yq_ar x y q.1 q.2.1 q.2.2
noncomputable def ye_den (x y : Nat → Int) (q : Nat × Nat × Nat) : Int := if q.2.1 = q.2.2 then 1 else yh_far x y q.2.1 q.2.2
theorem ye_num1 (x y : Nat → Int) (v a : Nat) : ye_num x y (v, a, a) = yh_far x y v a := if_pos rfl
theorem ye_den1 (x y : Nat → Int) (v a : Nat) : ye_den x y (v, a, a) = 1 := if_pos rfl
theorem ye_num2 (x y : Nat → Int) {v a b : Nat} (h : a ≠ b) : ye_num x y (v, a, b) = yq_ar x y v a b * yq_ar x y v a b := if_neg h
theorem ye_den2 (x y : Nat → Int) {v a b : Nat} (h : a ≠ b) : ye_den x y (v, a, b) = yh_far x y a b := if_neg h
theorem ye_denp {x y : Nat → Int} {Y N : Nat → Prop} {q : Nat × Nat × Nat} (h : ye_can x y Y N q) : 0 < ye_den x y q := by
  unfold ye_den
  by_cases e : q.2.1 = q.2.2
  · rw [if_pos e]
    decide
  · rw [if_neg e]
    rcases h.2 with k | k
    · exact absurd k e
    · have := ye_iW x y q.1 q.2.1 q.2.2
      omega
theorem ye_min {α : Type} {W : α → Prop} {R : α → α → Prop} (ht : ∀ a b, W a → W b → R a b ∨ R b a) (htr : ∀ a b c, W a → W b → W c → R a b → R b c → R a c) : ∀ l : List α, (∀ q, q ∈ l → ¬ W q) ∨ ∃ q0, W q0 ∧ ∀ q, q ∈ l → W q → R q0 q
  | [] => Or.inl fun q hq => absurd hq List.not_mem_nil
  | a :: l => by
    rcases ye_min ht htr l with h | ⟨q0, h2, h3⟩
    · by_cases hw : W a
      · refine Or.inr ⟨a, hw, fun q hq hq2 => ?_⟩
        rcases List.mem_cons.mp hq with e | e
        · rw [e]
          rcases ht a a hw hw with z | z <;> exact z
        · exact absurd hq2 (h q e)
      · refine Or.inl fun q hq hq2 => ?_
        rcases List.mem_cons.mp hq with e | e
        · rw [e] at hq2
          exact hw hq2
        · exact h q e hq2
    · by_cases hw : W a
      · rcases ht q0 a h2 hw with z | z
        · refine Or.inr ⟨q0, h2, fun q hq hq2 => ?_⟩
          rcases List.mem_cons.mp hq with e | e
          · rw [e]
            exact z
          · exact h3 q e hq2
        · refine Or.inr ⟨a, hw, fun q hq hq2 => ?_⟩
          rcases List.mem_cons.mp hq with e | e
          · rw [e]
            rcases ht a a hw hw with z | z <;> exact z
          · exact htr a q0 q hw h2 hq2 z (h3 q e hq2)
      · refine Or.inr ⟨q0, h2, fun q hq hq2 => ?_⟩
        rcases List.mem_cons.mp hq with e | e
        · rw [e] at hq2
          exact absurd hq2 hw
        · exact h3 q e hq2
noncomputable def ye_all (n : Nat) : List (Nat × Nat × Nat) := (List.range n).flatMap fun v => (List.range n).flatMap fun a => (List.range n).map fun b => (v, a, b)
theorem ye_all_m {n v a b : Nat} (hv : v < n) (ha : a < n) (hb : b < n) : (v, a, b) ∈ ye_all n := List.mem_flatMap.mpr ⟨v, List.mem_range.mpr hv, List.mem_flatMap.mpr ⟨a, List.mem_range.mpr ha, List.mem_map.mpr ⟨b, List.mem_range.mpr hb, rfl⟩⟩⟩
/-- the edge seen with its area above 0 -/
theorem ye_two {x y : Nat → Int} {Y N : Nat → Prop} {v a b : Nat} (hv : N v) (ha : Y a) (hb : Y b) (hab : a ≠ b) (hc : 0 < yq_ar x y v a b) (hp : 0 < yh_dot x y a v b) (hq : 0 < yh_dot x y b v a)
    (hmin : ∀ q, ye_can x y Y N q → yq_ar x y v a b * yq_ar x y v a b * ye_den x y q ≤ ye_num x y q * yh_far x y a b)
    (n1 : ∀ i k, Y i → N k → ¬ ye_at x y i k) (n2 : ∀ p a b, Y p → N a → N b → ¬ ye_bt x y p a b) (n2' : ∀ p a b, N p → Y a → Y b → ¬ ye_bt x y p a b) (n3' : ∀ p a b c, N p → Y a → Y b → Y c → ¬ ye_wi x y p a b c) (n4 : ∀ a b c d, Y a → Y b → N c → N d → ¬ ye_xg x y a b c d) : ∃ A B lo hi : Int, ye_tr x y Y N A B ∧ ye_ce x y Y N A B lo hi := by
  have iW := ye_iW x y v a b
  have hself : ∀ i j : Nat, yh_dot x y i j i = 0 := fun i j => by
    unfold yh_dot
    rw [Int.sub_self, Int.sub_self, Int.mul_zero, Int.mul_zero, Int.add_zero]
  have hH : ∀ j : Nat, (y b - y a) * x j + -(x b - x a) * y j = ((y b - y a) * x v + -(x b - x a) * y v) + ye_h x y v a b j := fun j => by
    unfold ye_h
    grind
  have hL : (y b - y a) * x a + -(x b - x a) * y a = ((y b - y a) * x v + -(x b - x a) * y v) + yq_ar x y v a b := by
    unfold yq_ar
    grind
  have single : ∀ w j : Nat, ((Y w ∧ N j) ∨ (N w ∧ Y j)) → yq_ar x y v a b * yq_ar x y v a b ≤ yh_far x y w j * yh_far x y a b := fun w j h => by
    have k := hmin (w, j, j) ⟨h.elim (fun h => Or.inl ⟨h.1, h.2, h.2⟩) (fun h => Or.inr ⟨h.1, h.2, h.2⟩), Or.inl rfl⟩
    rw [ye_num1, ye_den1, Int.mul_one] at k
    exact k
  have pair : ∀ w i j : Nat, ((Y w ∧ N i ∧ N j) ∨ (N w ∧ Y i ∧ Y j)) → 0 < yh_dot x y i w j → 0 < yh_dot x y j w i → yq_ar x y v a b * yq_ar x y v a b * yh_far x y i j ≤ yq_ar x y w i j * yq_ar x y w i j * yh_far x y a b := fun w i j h h1 h2 => by
    have e : i ≠ j := fun e => by
      rw [e, hself] at h1
      omega
    have k := hmin (w, i, j) ⟨h, Or.inr ⟨h1, h2⟩⟩
    rw [ye_num2 x y e, ye_den2 x y e] at k
    exact k
  have sym : ∀ i k, Y i → N k → ¬ ye_at x y k i := fun i k h1 h2 z => n1 i k h1 h2 ⟨z.1.symm, z.2.symm⟩
  refine ⟨y b - y a, -(x b - x a), (y b - y a) * x a + -(x b - x a) * y a, (y b - y a) * x v + -(x b - x a) * y v, Or.inr ⟨a, b, Or.inl ⟨ha, hb⟩, ?_, rfl, rfl⟩, fun j hj => ?_, fun j hj => ?_, by omega, yh_far x y a b, yq_ar x y v a b, by omega, hc, ?_, fun A' B' L' H' g1 g2 => ?_⟩
  · intro z
    have : yh_far x y a b = 0 := by
      unfold yh_far
      rw [z.1, z.2, Int.sub_self, Int.sub_self]
      rfl
    omega
  · have k := ye_v2i (e := j) hc hp hq (single v j (Or.inr ⟨hv, hj⟩)) (pair v a j (Or.inr ⟨hv, ha, hj⟩)) (pair v b j (Or.inr ⟨hv, hb, hj⟩)) (sym j v hj hv) (n2' v a j hv ha hj) (n2' v b j hv hb hj) (n3' v a b j hv ha hb hj)
    rw [hH j]
    omega
  · have k := ye_v2j (e := j) hc hp hq (fun h1 h2 => pair j a b (Or.inr ⟨hj, ha, hb⟩) h1 h2) (pair b v j (Or.inl ⟨hb, hv, hj⟩)) (single b j (Or.inl ⟨hb, hj⟩)) (pair a v j (Or.inl ⟨ha, hv, hj⟩)) (single a j (Or.inl ⟨ha, hj⟩)) (n1 a j ha hj) (n1 b j hb hj) (n2' j a b hj ha hb) (n2 a v j ha hv hj) (n2 b v j hb hv hj) (n4 a b v j ha hb hv hj)
    rw [hH j]
    omega
  · rw [hL]
    have e : (y b - y a) * (y b - y a) + -(x b - x a) * -(x b - x a) = yh_far x y a b := by
      unfold yh_far
      grind
    rw [e, Int.mul_comm (yq_ar x y v a b)]
    congr 1
    omega
  · have k1 := ye_mle (show L' - H' ≤ (A' * x a + B' * y a) - (A' * x v + B' * y v) by have := g1 a ha; have := g2 v hv; omega) (show 0 ≤ yh_dot x y b v a by omega)
    have k2 := ye_mle (show L' - H' ≤ (A' * x b + B' * y b) - (A' * x v + B' * y v) by have := g1 b hb; have := g2 v hv; omega) (show 0 ≤ yh_dot x y a v b by omega)
    have e1 : ((A' * x a + B' * y a) - (A' * x v + B' * y v)) * yh_dot x y b v a + ((A' * x b + B' * y b) - (A' * x v + B' * y v)) * yh_dot x y a v b = yq_ar x y v a b * ((y b - y a) * A' + -(x b - x a) * B') := by
      unfold yq_ar yh_dot
      grind
    have e2 : yh_far x y a b * (L' - H') = (L' - H') * yh_dot x y b v a + (L' - H') * yh_dot x y a v b := by
      rw [iW]
      grind
    omega
theorem ye_ipq (x y : Nat → Int) (v a b : Nat) : yh_dot x y v a b * yh_far x y a b = yq_ar x y v a b * yq_ar x y v a b - yh_dot x y a v b * yh_dot x y b v a := by
  unfold yh_dot yh_far yq_ar
  grind
theorem ye_one {x y : Nat → Int} {Y N : Nat → Prop} {v a b : Nat} (hv : N v) (ha : Y a) (hb : Y b) (hcan : a = b ∨ (0 < yh_dot x y a v b ∧ 0 < yh_dot x y b v a))
    (hmin : ∀ q, ye_can x y Y N q → ye_num x y (v, a, b) * ye_den x y q ≤ ye_num x y q * ye_den x y (v, a, b))
    (n1 : ∀ i k, Y i → N k → ¬ ye_at x y i k) (n2 : ∀ p a b, Y p → N a → N b → ¬ ye_bt x y p a b) (n2' : ∀ p a b, N p → Y a → Y b → ¬ ye_bt x y p a b) (n3' : ∀ p a b c, N p → Y a → Y b → Y c → ¬ ye_wi x y p a b c) (n4 : ∀ a b c d, Y a → Y b → N c → N d → ¬ ye_xg x y a b c d) : ∃ A B lo hi : Int, ye_tr x y Y N A B ∧ ye_ce x y Y N A B lo hi := by
  have hself : ∀ i j : Nat, yh_dot x y i j i = 0 := fun i j => by
    unfold yh_dot
    rw [Int.sub_self, Int.sub_self, Int.mul_zero, Int.mul_zero, Int.add_zero]
  by_cases hab : a = b
  · subst hab
    rw [ye_num1, ye_den1] at hmin
    have single : ∀ w j : Nat, ((Y w ∧ N j) ∨ (N w ∧ Y j)) → yh_far x y v a ≤ yh_far x y w j := fun w j h => by
      have k := hmin (w, j, j) ⟨h.elim (fun h => Or.inl ⟨h.1, h.2, h.2⟩) (fun h => Or.inr ⟨h.1, h.2, h.2⟩), Or.inl rfl⟩
      rw [ye_num1, ye_den1, Int.mul_one, Int.mul_one] at k
      exact k
    have pair : ∀ w i j : Nat, ((Y w ∧ N i ∧ N j) ∨ (N w ∧ Y i ∧ Y j)) → 0 < yh_dot x y i w j → 0 < yh_dot x y j w i → yh_far x y v a * yh_far x y i j ≤ yq_ar x y w i j * yq_ar x y w i j := fun w i j h h1 h2 => by
      have e : i ≠ j := fun e => by
        rw [e, hself] at h1
        omega
      have k := hmin (w, i, j) ⟨h, Or.inr ⟨h1, h2⟩⟩
      rw [ye_num2 x y e, ye_den2 x y e, Int.mul_one] at k
      exact k
    have hf : 0 < yh_far x y v a := by
      have k1 := ye_farp (x := x) (y := y) (a := v) (b := a)
      by_cases z : yh_far x y v a = 0
      · exact absurd (ye_far0 z) (n1 a v ha hv)
      · omega
    have eA : ∀ j : Nat, (x a - x v) * x j + (y a - y v) * y j = ((x a - x v) * x a + (y a - y v) * y a) - yh_dot x y a v j := fun j => by
      unfold yh_dot
      grind
    have eV : ∀ j : Nat, (x a - x v) * x j + (y a - y v) * y j = ((x a - x v) * x v + (y a - y v) * y v) + yh_dot x y v a j := fun j => by
      unfold yh_dot
      grind
    have eL : (x a - x v) * x a + (y a - y v) * y a = ((x a - x v) * x v + (y a - y v) * y v) + yh_far x y v a := by
      unfold yh_far
      grind
    refine ⟨x a - x v, y a - y v, (x a - x v) * x a + (y a - y v) * y a, (x a - x v) * x v + (y a - y v) * y v, Or.inl ⟨a, v, ha, hv, rfl, rfl⟩, fun j hj => ?_, fun j hj => ?_, by omega, 1, 1, by decide, by decide, ?_, fun A' B' L' H' g1 g2 => ?_⟩
    · have k := ye_v1 (single v j (Or.inr ⟨hv, hj⟩)) (pair v a j (Or.inr ⟨hv, ha, hj⟩))
      rw [eA j]
      omega
    · have k := ye_v1 (x := x) (y := y) (v := a) (a := v) (e := j) (by rw [ye_ifs]; exact single a j (Or.inl ⟨ha, hj⟩)) (fun h1 h2 => by rw [ye_ifs x y v a]; exact pair a v j (Or.inl ⟨ha, hv, hj⟩) h1 h2)
      rw [eV j]
      omega
    · rw [eL, Int.one_mul, Int.one_mul]
      unfold yh_far
      grind
    · have h1 := g1 a ha
      have h2 := g2 v hv
      have e : (x a - x v) * A' + (y a - y v) * B' = (A' * x a + B' * y a) - (A' * x v + B' * y v) := by grind
      rw [e]
      omega
  · rcases hcan with h | ⟨hp, hq⟩
    · exact absurd h hab
    · rw [ye_num2 x y hab, ye_den2 x y hab] at hmin
      have iW := ye_iW x y v a b
      rcases Int.lt_trichotomy (yq_ar x y v a b) 0 with hc | hc | hc
      · have e1 : yq_ar x y v b a = -yq_ar x y v a b := ye_in x y v a b
        refine ye_two hv hb ha (fun z => hab z.symm) (by omega) hq hp (fun q hq => ?_) n1 n2 n2' n3' n4
        rw [e1, Int.neg_mul_neg, ye_ifs x y a b]
        exact hmin q hq
      · exfalso
        refine n2' v a b hv ha hb ⟨by rw [ye_ic x y v a b]; exact hc, ?_⟩
        have k := ye_ipq x y v a b
        rw [hc, Int.mul_zero, Int.zero_sub] at k
        have k2 := Int.mul_pos hp hq
        exact ye_mn (show 0 < yh_far x y a b by omega) (by omega)
      · exact ye_two hv ha hb hab hc hp hq hmin n1 n2 n2' n3' n4
theorem ye_flip {x y : Nat → Int} {Y N : Nat → Prop} {A B lo hi : Int} (h : ye_ce x y N Y A B lo hi) : ye_ce x y Y N (-A) (-B) (-hi) (-lo) := by
  obtain ⟨h1, h2, h3, T, M, h4, h5, h6, h7⟩ := h
  refine ⟨fun j hj => ?_, fun j hj => ?_, by omega, T, M, h4, h5, ?_, fun A' B' L' H' g1 g2 => ?_⟩
  · have := h2 j hj
    rw [Int.neg_mul, Int.neg_mul]
    omega
  · have := h1 j hj
    rw [Int.neg_mul, Int.neg_mul]
    omega
  · rw [Int.neg_mul_neg, Int.neg_mul_neg, ← h6]
    congr 1
    omega
  · have k := h7 (-A') (-B') (-H') (-L') (fun j hj => by have := g2 j hj; rw [Int.neg_mul, Int.neg_mul]; omega) (fun j hj => by have := g1 j hj; rw [Int.neg_mul, Int.neg_mul]; omega)
    have e1 : -H' - -L' = L' - H' := by omega
    have e2 : A * -A' + B * -B' = -A * A' + -B * B' := by grind
    rw [e1, e2] at k
    exact k
theorem ye_trf {x y : Nat → Int} {Y N : Nat → Prop} {A B : Int} (h : ye_tr x y N Y A B) : ye_tr x y Y N (-A) (-B) := by
  rcases h with ⟨i, k, h1, h2, h3, h4⟩ | ⟨i, j, h1, h2, h3, h4⟩
  · exact Or.inl ⟨k, i, h2, h1, by omega, by omega⟩
  · refine Or.inr ⟨j, i, ?_, fun z => h2 ⟨z.1.symm, z.2.symm⟩, by omega, by omega⟩
    rcases h1 with h1 | h1
    · exact Or.inr ⟨h1.2, h1.1⟩
    · exact Or.inl ⟨h1.2, h1.1⟩
/-- the colours do not meet -/
noncomputable def ye_nm (x y : Nat → Int) (Y N : Nat → Prop) : Prop := (∀ i k, Y i → N k → ¬ ye_at x y i k) ∧ (∀ p a b, Y p → N a → N b → ¬ ye_bt x y p a b) ∧ (∀ p a b, N p → Y a → Y b → ¬ ye_bt x y p a b) ∧ (∀ p a b c, Y p → N a → N b → N c → ¬ ye_wi x y p a b c) ∧ (∀ p a b c, N p → Y a → Y b → Y c → ¬ ye_wi x y p a b c) ∧ (∀ a b c d, Y a → Y b → N c → N d → ¬ ye_xg x y a b c d)
theorem ye_main {x y : Nat → Int} {Y N : Nat → Prop} {n : Nat} (hY : ∀ j, Y j → j < n) (hN : ∀ j, N j → j < n) {i0 k0 : Nat} (hi : Y i0) (hk : N k0) (h : ye_nm x y Y N) : ∃ A B lo hi : Int, ye_tr x y Y N A B ∧ ye_ce x y Y N A B lo hi := by
  obtain ⟨n1, n2, n2', n3, n3', n4⟩ := h
  have key := ye_min (W := ye_can x y Y N) (R := fun q q' => ye_num x y q * ye_den x y q' ≤ ye_num x y q' * ye_den x y q) (fun a b _ _ => by omega) (fun a b c ha hb hc h1 h2 => by
    have da := ye_denp ha
    have db := ye_denp hb
    have dc := ye_denp hc
    refine ye_mlei db ?_
    have k1 := ye_mle h1 (show 0 ≤ ye_den x y c by omega)
    have k2 := ye_mle h2 (show 0 ≤ ye_den x y a by omega)
    have e1 : ye_num x y a * ye_den x y c * ye_den x y b = ye_num x y a * ye_den x y b * ye_den x y c := by grind
    have e2 : ye_num x y c * ye_den x y a * ye_den x y b = ye_num x y c * ye_den x y b * ye_den x y a := by grind
    have e3 : ye_num x y b * ye_den x y a * ye_den x y c = ye_num x y b * ye_den x y c * ye_den x y a := by grind
    omega) (ye_all n)
  have memb : ∀ q, ye_can x y Y N q → q ∈ ye_all n := fun q hq => by
    obtain ⟨v, a, b⟩ := q
    rcases hq.1 with h | h
    · exact ye_all_m (hY _ h.1) (hN _ h.2.1) (hN _ h.2.2)
    · exact ye_all_m (hN _ h.1) (hY _ h.2.1) (hY _ h.2.2)
  rcases key with key | ⟨q, hq, key⟩
  · have hc : ye_can x y Y N (i0, k0, k0) := ⟨Or.inl ⟨hi, hk, hk⟩, Or.inl rfl⟩
    exact absurd hc (key _ (memb _ hc))
  · have hmin : ∀ q', ye_can x y Y N q' → ye_num x y q * ye_den x y q' ≤ ye_num x y q' * ye_den x y q := fun q' h' => key q' (memb q' h') h'
    obtain ⟨v, a, b⟩ := q
    rcases hq.1 with h | h
    · obtain ⟨A, B, lo, hi', k1, k2⟩ := ye_one (Y := N) (N := Y) h.1 h.2.1 h.2.2 hq.2 (fun q' h' => hmin q' ⟨h'.1.symm, h'.2⟩) (fun i k h1 h2 z => n1 k i h2 h1 ⟨z.1.symm, z.2.symm⟩) n2' n2 n3 (fun a b c d h1 h2 h3 h4 z => n4 c d a b h3 h4 h1 h2 ⟨z.2, z.1⟩)
      exact ⟨-A, -B, -hi', -lo, ye_trf k1, ye_flip k2⟩
    · exact ye_one h.1 h.2.1 h.2.2 hq.2 hmin n1 n2 n2' n3' n4
