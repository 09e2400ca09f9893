/-! shattering -/
theorem yw_linc {x y : Nat → Int} {n a b : Nat} {s : Int} {c p : Nat → Prop} (hnr : yw_nr x y n) (hc : ∀ j : Nat, c j → j < n) (ha : a < n) (hb : b < n) (hs : s = 1 ∨ s = -1) (h : ∀ i j : Nat, c i → c j → p i → ¬ p j → yq_ar x y a b j < yq_ar x y a b i ∨ (yq_ar x y a b j = yq_ar x y a b i ∧ s * yw_fu x y a b j < s * yw_fu x y a b i)) : ∃ A B : Int, ∀ i j : Nat, c i → c j → p i → ¬ p j → A * x j + B * y j < A * x i + B * y i := by
  refine ⟨-(y b - y a) * 10000000 + s * (x b - x a), (x b - x a) * 10000000 + s * (y b - y a), fun i j hi hj h1 h2 => ?_⟩
  have e : ∀ k : Nat, (-(y b - y a) * 10000000 + s * (x b - x a)) * x k + ((x b - x a) * 10000000 + s * (y b - y a)) * y k = 10000000 * (yq_ar x y a b k + ((x b - x a) * y a - (y b - y a) * x a)) + s * yw_fu x y a b k := fun k => by
    unfold yq_ar yw_fu
    grind
  rw [e i, e j]
  have b1 := yw_fub hnr ha hb (hc i hi) (hc j hj)
  have b2 := yw_fub hnr ha hb (hc j hj) (hc i hi)
  rcases h i j hi hj h1 h2 with q | ⟨q1, q2⟩
  · rcases hs with z | z
    · rw [z]
      omega
    · rw [z]
      omega
  · rw [q1]
    omega
theorem yw_bf {b : Bool} {P : Prop} (h : b = true → P) (hn : ¬ P) : b = false := by
  cases e : b
  · rfl
  · exact absurd (h e) hn
theorem yw_RRs {x y : Nat → Int} {c : Nat → Prop} {S s n : Nat} (hnr : yw_nr x y n) (hc : ∀ j : Nat, c j → j < n) (h : yw_RR x y c S s) : s = 0 ∨ s = S ∨ ∃ A B : Int, ∀ i j : Nat, c i → c j → s.testBit i = true → ¬ s.testBit j = true → A * x j + B * y j < A * x i + B * y i := by
  rcases h with h | h | ⟨a, b, h1, h2, _, i, h4, h5, h6⟩
  · exact Or.inl h
  · exact Or.inr (Or.inl h)
  · refine Or.inr (Or.inr ?_)
    rcases h6 with h | h | h | h
    · refine yw_linc (p := fun j => s.testBit j = true) hnr hc (hc a h1) (hc b h2) (Or.inr rfl) fun k l hk hl q1 q2 => ?_
      have z1 := of_decide_eq_true ((h k).mp q1).2
      have z2 := of_decide_eq_false (yw_bf (fun z => (h l).mpr ⟨hl, z⟩) q2)
      omega
    · refine yw_linc (p := fun j => s.testBit j = true) hnr hc (hc a h1) (hc b h2) (Or.inr rfl) fun k l hk hl q1 q2 => ?_
      have z1 := of_decide_eq_true ((h k).mp q1).2
      have z2 := of_decide_eq_false (yw_bf (fun z => (h l).mpr ⟨hl, z⟩) q2)
      omega
    · refine yw_linc (p := fun j => s.testBit j = true) hnr hc (hc a h1) (hc b h2) (Or.inl rfl) fun k l hk hl q1 q2 => ?_
      have z1 := of_decide_eq_true ((h k).mp q1).2
      have z2 := of_decide_eq_false (yw_bf (fun z => (h l).mpr ⟨hl, z⟩) q2)
      omega
    · refine yw_linc (p := fun j => s.testBit j = true) hnr hc (hc a h1) (hc b h2) (Or.inl rfl) fun k l hk hl q1 q2 => ?_
      have z1 := of_decide_eq_true ((h k).mp q1).2
      have z2 := of_decide_eq_false (yw_bf (fun z => (h l).mpr ⟨hl, z⟩) q2)
      omega
theorem yw_pos {L : Nat → Int} (h0 : L 0 + L 1 + L 2 + L 3 = 0) (hn : ∃ i : Nat, i < 4 ∧ L i ≠ 0) : ∃ i : Nat, i < 4 ∧ 0 < L i := by
  by_cases q0 : 0 < L 0
  · exact ⟨0, by decide, q0⟩
  · by_cases q1 : 0 < L 1
    · exact ⟨1, by decide, q1⟩
    · by_cases q2 : 0 < L 2
      · exact ⟨2, by decide, q2⟩
      · by_cases q3 : 0 < L 3
        · exact ⟨3, by decide, q3⟩
        · exfalso
          obtain ⟨i, hi, h⟩ := hn
          rcases (show i = 0 ∨ i = 1 ∨ i = 2 ∨ i = 3 by omega) with z | z | z | z
          · rw [z] at h
            omega
          · rw [z] at h
            omega
          · rw [z] at h
            omega
          · rw [z] at h
            omega
theorem yw_ngt {L : Nat → Int} (h0 : L 0 + L 1 + L 2 + L 3 = 0) (hn : ∃ i : Nat, i < 4 ∧ L i ≠ 0) : ∃ i : Nat, i < 4 ∧ L i < 0 := by
  obtain ⟨i, hi, h⟩ := yw_pos (L := fun i => -L i) (by show -L 0 + -L 1 + -L 2 + -L 3 = 0; omega) (by
    obtain ⟨i, hi, h⟩ := hn
    exact ⟨i, hi, by show -L i ≠ 0; omega⟩)
  have h : 0 < -L i := h
  exact ⟨i, hi, by omega⟩
theorem yw_rad {L F : Nat → Int} (h0 : L 0 + L 1 + L 2 + L 3 = 0) (h1 : L 0 * F 0 + L 1 * F 1 + L 2 * F 2 + L 3 * F 3 = 0) (hn : ∃ i : Nat, i < 4 ∧ L i ≠ 0) (hs : ∀ i j : Nat, i < 4 → j < 4 → 0 < L i → L j < 0 → F j < F i) : False := by
  rcases yw_min (W := fun q => 0 < L q) (R := fun a b => F a ≤ F b) (fun a b _ _ => by show F a ≤ F b ∨ F b ≤ F a; omega) (fun a b d _ _ _ p q => Int.le_trans p q) 4 with q | ⟨m, hm, hp, hmin⟩
  · obtain ⟨i, hi, h⟩ := yw_pos h0 hn
    exact q i hi h
  · have hp : 0 < L m := hp
    have key : ∀ i : Nat, i < 4 → 0 ≤ L i * (F i - F m) := fun i hi => by
      by_cases z : 0 < L i
      · have k : F m ≤ F i := hmin i hi z
        exact Int.mul_nonneg (by omega) (by omega)
      · by_cases z2 : L i < 0
        · have k := hs m i hm hi hp z2
          have e : L i * (F i - F m) = (-L i) * (F m - F i) := by grind
          rw [e]
          exact Int.mul_nonneg (by omega) (by omega)
        · rw [show L i = 0 by omega, Int.zero_mul]
          exact Int.le_refl 0
    obtain ⟨j, hj, hl⟩ := yw_ngt h0 hn
    have hj2 : 0 < L j * (F j - F m) := by
      have k := hs m j hm hj hp hl
      have e : L j * (F j - F m) = (-L j) * (F m - F j) := by grind
      rw [e]
      exact Int.mul_pos (by omega) (by omega)
    have e : L 0 * (F 0 - F m) + L 1 * (F 1 - F m) + L 2 * (F 2 - F m) + L 3 * (F 3 - F m) = (L 0 * F 0 + L 1 * F 1 + L 2 * F 2 + L 3 * F 3) - (L 0 + L 1 + L 2 + L 3) * F m := by grind
    rw [h0, h1, Int.zero_mul] at e
    have k0 := key 0 (by decide)
    have k1 := key 1 (by decide)
    have k2 := key 2 (by decide)
    have k3 := key 3 (by decide)
    rcases (show j = 0 ∨ j = 1 ∨ j = 2 ∨ j = 3 by omega) with z | z | z | z
    · rw [z] at hj2
      omega
    · rw [z] at hj2
      omega
    · rw [z] at hj2
      omega
    · rw [z] at hj2
      omega
theorem yw_cl (Q : Nat → Prop) : ∃ P : Nat → Bool, ∀ j : Nat, P j = true ↔ Q j := ⟨fun j => @decide (Q j) (Classical.propDecidable _), fun j => ⟨fun h => @of_decide_eq_true _ (Classical.propDecidable _) h, fun h => @decide_eq_true _ (Classical.propDecidable _) h⟩⟩
theorem yw_nsh {x y : Nat → Int} {c : Nat → Prop} {S : Nat} {I : Nat → Nat} {L : Nat → Int} (hnr : yw_nr x y 12) (hc : ∀ j : Nat, c j → j < 12) (hS : ∀ j : Nat, S.testBit j = true ↔ c j) (hI : ∀ i : Nat, i < 4 → c (I i)) (hd : ∀ i j : Nat, i < 4 → j < 4 → 0 < L i → L j < 0 → I i ≠ I j) (h0 : L 0 + L 1 + L 2 + L 3 = 0) (hx : L 0 * x (I 0) + L 1 * x (I 1) + L 2 * x (I 2) + L 3 * x (I 3) = 0) (hy : L 0 * y (I 0) + L 1 * y (I 1) + L 2 * y (I 2) + L 3 * y (I 3) = 0) (hn : ∃ i : Nat, i < 4 ∧ L i ≠ 0) : ∃ s : Nat, s < 4096 ∧ (∀ j : Nat, s.testBit j = true → S.testBit j = true) ∧ ¬ yw_RR x y c S s := by
  obtain ⟨P, hP⟩ := yw_cl (fun j => ∃ i : Nat, i < 4 ∧ 0 < L i ∧ j = I i)
  have tb : ∀ j : Nat, (yb_st P 12).testBit j = true ↔ ∃ i : Nat, i < 4 ∧ 0 < L i ∧ j = I i := fun j => by
    rw [yb_tb, Bool.and_eq_true, decide_eq_true_iff, hP j]
    constructor
    · exact fun z => z.2
    · rintro ⟨i, h1, h2, h3⟩
      exact ⟨by rw [h3]; exact hc _ (hI i h1), i, h1, h2, h3⟩
  refine ⟨yb_st P 12, yb_lt (by decide), fun j hj => ?_, fun h => ?_⟩
  · obtain ⟨i, h1, h2, h3⟩ := (tb j).mp hj
    rw [h3]
    exact (hS _).mpr (hI i h1)
  · rcases yw_RRs hnr hc h with z | z | ⟨A, B, z⟩
    · obtain ⟨i, h1, h2⟩ := yw_pos h0 hn
      have k := (tb (I i)).mpr ⟨i, h1, h2, rfl⟩
      rw [z, Nat.zero_testBit] at k
      cases k
    · obtain ⟨j, h1, h2⟩ := yw_ngt h0 hn
      have k := (hS (I j)).mpr (hI j h1)
      rw [← z] at k
      obtain ⟨i, h3, h4, h5⟩ := (tb _).mp k
      exact hd i j h3 h1 h4 h2 h5.symm
    · refine yw_rad (L := L) (F := fun i => A * x (I i) + B * y (I i)) h0 ?_ hn fun i j h1 h2 h3 h4 => z (I i) (I j) (hI i h1) (hI j h2) ((tb _).mpr ⟨i, h1, h3, rfl⟩) fun k => ?_
      · show L 0 * (A * x (I 0) + B * y (I 0)) + L 1 * (A * x (I 1) + B * y (I 1)) + L 2 * (A * x (I 2) + B * y (I 2)) + L 3 * (A * x (I 3) + B * y (I 3)) = 0
        have e : L 0 * (A * x (I 0) + B * y (I 0)) + L 1 * (A * x (I 1) + B * y (I 1)) + L 2 * (A * x (I 2) + B * y (I 2)) + L 3 * (A * x (I 3) + B * y (I 3)) = A * (L 0 * x (I 0) + L 1 * x (I 1) + L 2 * x (I 2) + L 3 * x (I 3)) + B * (L 0 * y (I 0) + L 1 * y (I 1) + L 2 * y (I 2) + L 3 * y (I 3)) := by grind
        rw [e, hx, hy, Int.mul_zero, Int.mul_zero]
        rfl
      · obtain ⟨i', h5, h6, h7⟩ := (tb _).mp k
        exact hd i' j h5 h2 h6 h4 h7.symm
noncomputable def yw_L4 (a b c d : Int) : Nat → Int
  | 0 => a
  | 1 => b
  | 2 => c
  | _ => d
noncomputable def yw_I4 (a b c d : Nat) : Nat → Nat
  | 0 => a
  | 1 => b
  | 2 => c
  | _ => d
noncomputable def yw_NS (x y : Nat → Int) (c : Nat → Prop) (S : Nat) : Prop := ∃ s : Nat, s < 4096 ∧ (∀ j : Nat, s.testBit j = true → S.testBit j = true) ∧ ¬ yw_RR x y c S s
theorem yw_I4c {c : Nat → Prop} {a b d e : Nat} (h1 : c a) (h2 : c b) (h3 : c d) (h4 : c e) (i : Nat) (hi : i < 4) : c (yw_I4 a b d e i) := by
  rcases (show i = 0 ∨ i = 1 ∨ i = 2 ∨ i = 3 by omega) with z | z | z | z
  · rw [z]
    exact h1
  · rw [z]
    exact h2
  · rw [z]
    exact h3
  · rw [z]
    exact h4
theorem yw_I4d {a b d e : Nat} {l1 l2 l3 l4 : Int} (h1 : a ≠ b) (h2 : a ≠ d) (h3 : b ≠ d) (h4 : l4 = 0 ∨ (a ≠ e ∧ b ≠ e ∧ d ≠ e)) (i j : Nat) (hi : i < 4) (hj : j < 4) (p : 0 < yw_L4 l1 l2 l3 l4 i) (q : yw_L4 l1 l2 l3 l4 j < 0) : yw_I4 a b d e i ≠ yw_I4 a b d e j := by
  rcases (show i = 0 ∨ i = 1 ∨ i = 2 ∨ i = 3 by omega) with z | z | z | z <;> rcases (show j = 0 ∨ j = 1 ∨ j = 2 ∨ j = 3 by omega) with w | w | w | w <;> rw [z] at p ⊢ <;> rw [w] at q ⊢ <;> simp only [yw_L4, yw_I4] at p q ⊢ <;> omega
theorem yw_ns2 {x y : Nat → Int} {c : Nat → Prop} {S a b : Nat} (hnr : yw_nr x y 12) (hc : ∀ j : Nat, c j → j < 12) (hS : ∀ j : Nat, S.testBit j = true ↔ c j) (ha : c a) (hb : c b) (hab : a ≠ b) (h : x a = x b ∧ y a = y b) : yw_NS x y c S := by
  refine yw_nsh (I := yw_I4 a b a a) (L := yw_L4 1 (-1) 0 0) hnr hc hS (yw_I4c ha hb ha ha) (fun i j hi hj p q => ?_) rfl ?_ ?_ ⟨0, by decide, by show (1 : Int) ≠ 0; decide⟩
  · rcases (show i = 0 ∨ i = 1 ∨ i = 2 ∨ i = 3 by omega) with z | z | z | z <;> rcases (show j = 0 ∨ j = 1 ∨ j = 2 ∨ j = 3 by omega) with w | w | w | w <;> rw [z] at p ⊢ <;> rw [w] at q ⊢ <;> simp only [yw_L4, yw_I4] at p q ⊢ <;> omega
  · show 1 * x a + -1 * x b + 0 * x a + 0 * x a = 0
    omega
  · show 1 * y a + -1 * y b + 0 * y a + 0 * y a = 0
    omega
theorem yw_ns3 {x y : Nat → Int} {c : Nat → Prop} {S a b d : Nat} (hnr : yw_nr x y 12) (hc : ∀ j : Nat, c j → j < 12) (hS : ∀ j : Nat, S.testBit j = true ↔ c j) (ha : c a) (hb : c b) (hd : c d) (hab : a ≠ b) (had : a ≠ d) (hbd : b ≠ d) (h : yq_ar x y a b d = 0) : yw_NS x y c S := by
  by_cases hs : x a = x b ∧ y a = y b
  · exact yw_ns2 hnr hc hS ha hb hab hs
  · have hD : 0 < yw_dt (x b - x a) (y b - y a) (x b - x a) (y b - y a) := yw_dtp (by omega)
    refine yw_nsh (I := yw_I4 a b d a) (L := yw_L4 (yw_dt (x d - x a) (y d - y a) (x b - x a) (y b - y a) - yw_dt (x b - x a) (y b - y a) (x b - x a) (y b - y a)) (-yw_dt (x d - x a) (y d - y a) (x b - x a) (y b - y a)) (yw_dt (x b - x a) (y b - y a) (x b - x a) (y b - y a)) 0) hnr hc hS (yw_I4c ha hb hd ha) (yw_I4d hab had hbd (Or.inl rfl)) ?_ ?_ ?_ ⟨2, by decide, by show yw_dt (x b - x a) (y b - y a) (x b - x a) (y b - y a) ≠ 0; omega⟩
    · show (yw_dt (x d - x a) (y d - y a) (x b - x a) (y b - y a) - yw_dt (x b - x a) (y b - y a) (x b - x a) (y b - y a)) + -yw_dt (x d - x a) (y d - y a) (x b - x a) (y b - y a) + yw_dt (x b - x a) (y b - y a) (x b - x a) (y b - y a) + 0 = 0
      omega
    · show (yw_dt (x d - x a) (y d - y a) (x b - x a) (y b - y a) - yw_dt (x b - x a) (y b - y a) (x b - x a) (y b - y a)) * x a + -yw_dt (x d - x a) (y d - y a) (x b - x a) (y b - y a) * x b + yw_dt (x b - x a) (y b - y a) (x b - x a) (y b - y a) * x d + 0 * x a = 0
      have e : (yw_dt (x d - x a) (y d - y a) (x b - x a) (y b - y a) - yw_dt (x b - x a) (y b - y a) (x b - x a) (y b - y a)) * x a + -yw_dt (x d - x a) (y d - y a) (x b - x a) (y b - y a) * x b + yw_dt (x b - x a) (y b - y a) (x b - x a) (y b - y a) * x d + 0 * x a = -(y b - y a) * yq_ar x y a b d := by
        unfold yw_dt yq_ar
        grind
      rw [e, h, Int.mul_zero]
    · show (yw_dt (x d - x a) (y d - y a) (x b - x a) (y b - y a) - yw_dt (x b - x a) (y b - y a) (x b - x a) (y b - y a)) * y a + -yw_dt (x d - x a) (y d - y a) (x b - x a) (y b - y a) * y b + yw_dt (x b - x a) (y b - y a) (x b - x a) (y b - y a) * y d + 0 * y a = 0
      have e : (yw_dt (x d - x a) (y d - y a) (x b - x a) (y b - y a) - yw_dt (x b - x a) (y b - y a) (x b - x a) (y b - y a)) * y a + -yw_dt (x d - x a) (y d - y a) (x b - x a) (y b - y a) * y b + yw_dt (x b - x a) (y b - y a) (x b - x a) (y b - y a) * y d + 0 * y a = (x b - x a) * yq_ar x y a b d := by
        unfold yw_dt yq_ar
        grind
      rw [e, h, Int.mul_zero]
theorem yw_ns4 {x y : Nat → Int} {c : Nat → Prop} {S a b d e : Nat} (hnr : yw_nr x y 12) (hc : ∀ j : Nat, c j → j < 12) (hS : ∀ j : Nat, S.testBit j = true ↔ c j) (ha : c a) (hb : c b) (hd : c d) (he : c e) (hab : a ≠ b) (had : a ≠ d) (hae : a ≠ e) (hbd : b ≠ d) (hbe : b ≠ e) (hde : d ≠ e) : yw_NS x y c S := by
  by_cases h : yq_ar x y a b d = 0
  · exact yw_ns3 hnr hc hS ha hb hd hab had hbd h
  · refine yw_nsh (I := yw_I4 a b d e) (L := yw_L4 (yq_ar x y b d e) (-yq_ar x y a d e) (yq_ar x y a b e) (-yq_ar x y a b d)) hnr hc hS (yw_I4c ha hb hd he) (yw_I4d hab had hbd (Or.inr ⟨hae, hbe, hde⟩)) ?_ ?_ ?_ ⟨3, by decide, by show -yq_ar x y a b d ≠ 0; omega⟩
    · show yq_ar x y b d e + -yq_ar x y a d e + yq_ar x y a b e + -yq_ar x y a b d = 0
      unfold yq_ar
      grind
    · show yq_ar x y b d e * x a + -yq_ar x y a d e * x b + yq_ar x y a b e * x d + -yq_ar x y a b d * x e = 0
      unfold yq_ar
      grind
    · show yq_ar x y b d e * y a + -yq_ar x y a d e * y b + yq_ar x y a b e * y d + -yq_ar x y a b d * y e = 0
      unfold yq_ar
      grind
noncomputable def yw_shc (x y : Nat → Int) (c : Nat → Prop) : Prop := (∀ a b : Nat, c a → c b → a ≠ b → ¬ (x a = x b ∧ y a = y b)) ∧ (∀ a b d : Nat, c a → c b → c d → a ≠ b → a ≠ d → b ≠ d → yq_ar x y a b d ≠ 0) ∧ (∀ a b d e : Nat, c a → c b → c d → c e → a ≠ b → a ≠ d → a ≠ e → b ≠ d → b ≠ e → d ≠ e → False)
theorem yw_fuv {x y : Nat → Int} {u v : Nat} (h : ¬ (x u = x v ∧ y u = y v)) : yw_fu x y u v u < yw_fu x y u v v := by
  have k := yw_dtp (wx := x v - x u) (wy := y v - y u) (by omega)
  have e : yw_fu x y u v v - yw_fu x y u v u = yw_dt (x v - x u) (y v - y u) (x v - x u) (y v - y u) := by
    unfold yw_fu yw_dt
    grind
  omega
theorem yw_arv (x y : Nat → Int) (i k : Nat) : yq_ar x y i k k = 0 := by
  unfold yq_ar
  grind
/-- two of three, the third to the right -/
theorem yw_two {x y : Nat → Int} {c : Nat → Prop} {S s u v w : Nat} (hu : c u) (hv : c v) (hall : ∀ j : Nat, c j → j = u ∨ j = v ∨ j = w) (hne : ¬ (x u = x v ∧ y u = y v)) (hw : yq_ar x y u v w < 0) (su : s.testBit u = true) (sv : s.testBit v = true) (sw : ¬ s.testBit w = true) (sc : ∀ j : Nat, s.testBit j = true → c j) : yw_RR x y c S s := by
  refine Or.inr (Or.inr ⟨u, v, hu, hv, hne, v, hv, yw_arv x y u v, Or.inl fun j => ⟨fun z => ⟨sc j z, ?_⟩, fun z => ?_⟩⟩)
  · refine decide_eq_true (Or.inr ?_)
    rcases hall j (sc j z) with q | q | q
    · rw [q]
      exact ⟨yw_ari x y u v, Int.le_of_lt (yw_fuv hne)⟩
    · rw [q]
      exact ⟨yw_arv x y u v, Int.le_refl _⟩
    · rw [q] at z
      exact absurd z sw
  · have z2 := of_decide_eq_true z.2
    rcases hall j z.1 with q | q | q
    · rw [q]
      exact su
    · rw [q]
      exact sv
    · rw [q] at z2
      omega
/-- one of three (or of two), the others on the line -/
theorem yw_one1 {x y : Nat → Int} {c : Nat → Prop} {S s u v w : Nat} (hu : c u) (hv : c v) (hall : ∀ j : Nat, c j → j = u ∨ j = v ∨ j = w) (hne : ¬ (x u = x v ∧ y u = y v)) (hw : 0 < yq_ar x y u v w) (su : ¬ s.testBit u = true) (sv : ¬ s.testBit v = true) (sw : s.testBit w = true) (sc : ∀ j : Nat, s.testBit j = true → c j) : yw_RR x y c S s := by
  refine Or.inr (Or.inr ⟨u, v, hu, hv, hne, u, hu, yw_ari x y u v, Or.inr (Or.inl fun j => ⟨fun z => ⟨sc j z, ?_⟩, fun z => ?_⟩)⟩)
  · refine decide_eq_true (Or.inl ?_)
    rcases hall j (sc j z) with q | q | q
    · rw [q] at z
      exact absurd z su
    · rw [q] at z
      exact absurd z sv
    · rw [q]
      exact hw
  · have z2 := of_decide_eq_true z.2
    have k := yw_fuv hne
    rcases hall j z.1 with q | q | q
    · rw [q] at z2
      have k2 := yw_ari x y u v
      omega
    · rw [q] at z2
      have k2 := yw_arv x y u v
      omega
    · rw [q]
      exact sw
theorem yw_ear {P Q : Prop} (h : ¬ (P → Q)) : P ∧ ¬ Q := by
  by_cases p : P
  · exact ⟨p, fun q => h fun _ => q⟩
  · exact absurd (fun z => absurd z p) h
theorem yw_shr {x y : Nat → Int} {c : Nat → Prop} {S : Nat} (hnr : yw_nr x y 12) (hc : ∀ j : Nat, c j → j < 12) (hS : ∀ j : Nat, S.testBit j = true ↔ c j) : (∀ s : Nat, s < 4096 → (∀ j : Nat, s.testBit j = true → S.testBit j = true) → yw_RR x y c S s) ↔ yw_shc x y c := by
  constructor
  · intro h
    have no : ¬ yw_NS x y c S := fun ⟨s, h1, h2, h3⟩ => h3 (h s h1 h2)
    exact ⟨fun a b ha hb hab q => no (yw_ns2 hnr hc hS ha hb hab q), fun a b d ha hb hd h1 h2 h3 q => no (yw_ns3 hnr hc hS ha hb hd h1 h2 h3 q), fun a b d e ha hb hd he h1 h2 h3 h4 h5 h6 => no (yw_ns4 hnr hc hS ha hb hd he h1 h2 h3 h4 h5 h6)⟩
  · rintro ⟨g1, g2, g3⟩ s hs sub
    have sc : ∀ j : Nat, s.testBit j = true → c j := fun j z => (hS j).mp (sub j z)
    by_cases s0 : s = 0
    · exact Or.inl s0
    · by_cases s1 : s = S
      · exact Or.inr (Or.inl s1)
      · have ea : ∃ a : Nat, s.testBit a = true := by
          apply Classical.byContradiction
          intro z
          refine s0 (Nat.eq_of_testBit_eq fun i => ?_)
          rw [Nat.zero_testBit]
          cases e : s.testBit i
          · rfl
          · exact absurd ⟨i, e⟩ z
        have eb : ∃ b : Nat, c b ∧ ¬ s.testBit b = true := by
          apply Classical.byContradiction
          intro z
          refine s1 (Nat.eq_of_testBit_eq fun i => ?_)
          cases e : s.testBit i
          · cases e2 : S.testBit i
            · rfl
            · exact absurd ⟨i, (hS i).mp e2, by rw [e]; decide⟩ z
          · exact (sub i e).symm
        obtain ⟨a, sa⟩ := ea
        obtain ⟨b, cb, sb⟩ := eb
        have ca := sc a sa
        have hab : a ≠ b := fun z => sb (by rw [← z]; exact sa)
        by_cases th : ∃ d : Nat, c d ∧ d ≠ a ∧ d ≠ b
        · obtain ⟨d, cd, hda, hdb⟩ := th
          have hall : ∀ j : Nat, c j → j = a ∨ j = b ∨ j = d := fun j hj => by
            by_cases z1 : j = a
            · exact Or.inl z1
            · by_cases z2 : j = b
              · exact Or.inr (Or.inl z2)
              · by_cases z3 : j = d
                · exact Or.inr (Or.inr z3)
                · exact (g3 a b d j ca cb cd hj hab (Ne.symm hda) (Ne.symm z1) (Ne.symm hdb) (Ne.symm z2) (Ne.symm z3)).elim
          have har := g2 a b d ca cb cd hab (Ne.symm hda) (Ne.symm hdb)
          by_cases sd : s.testBit d = true
          · by_cases sg : yq_ar x y a d b < 0
            · exact yw_two ca cd (fun j hj => by have := hall j hj; omega) (g1 a d ca cd (Ne.symm hda)) sg sa sd sb sc
            · have e1 : yq_ar x y d a b = yq_ar x y a b d := by
                unfold yq_ar
                grind
              have e2 : yq_ar x y a d b = -yq_ar x y a b d := by
                unfold yq_ar
                grind
              exact yw_two cd ca (fun j hj => by have := hall j hj; omega) (g1 d a cd ca hda) (by omega) sd sa sb sc
          · by_cases sg : 0 < yq_ar x y b d a
            · exact yw_one1 cb cd (fun j hj => by have := hall j hj; omega) (g1 b d cb cd (Ne.symm hdb)) sg sb sd sa sc
            · have e1 : yq_ar x y d b a = -yq_ar x y a b d := by
                unfold yq_ar
                grind
              have e2 : yq_ar x y b d a = yq_ar x y a b d := by
                unfold yq_ar
                grind
              exact yw_one1 cd cb (fun j hj => by have := hall j hj; omega) (g1 d b cd cb hdb) (by omega) sd sb sa sc
        · have hall : ∀ j : Nat, c j → j = a ∨ j = b := fun j hj => by
            by_cases z1 : j = a
            · exact Or.inl z1
            · by_cases z2 : j = b
              · exact Or.inr z2
              · exact absurd ⟨j, hj, z1, z2⟩ th
          have hne := g1 a b ca cb hab
          have k := yw_fuv hne
          refine Or.inr (Or.inr ⟨a, b, ca, cb, hne, a, ca, yw_ari x y a b, Or.inl fun j => ⟨fun z => ⟨sc j z, ?_⟩, fun z => ?_⟩⟩)
          · rcases hall j (sc j z) with q | q
            · rw [q]
              exact decide_eq_true (Or.inr ⟨yw_ari x y a b, Int.le_refl _⟩)
            · rw [q] at z
              exact absurd z sb
          · rcases hall j z.1 with q | q
            · rw [q]
              exact sa
            · have z2 := of_decide_eq_true z.2
              rw [q] at z2
              have k2 := yw_arv x y a b
              omega
/-- how many, and which -/
theorem yw_pcl {S e1 e2 e3 e4 : Nat} (h12 : e1 ≠ e2) (h13 : e1 ≠ e3) (h14 : e1 ≠ e4) (h23 : e2 ≠ e3) (h24 : e2 ≠ e4) (h34 : e3 ≠ e4) : ∀ n : Nat, (e1 < n → S.testBit e1 = true) → (e2 < n → S.testBit e2 = true) → (e3 < n → S.testBit e3 = true) → (e4 < n → S.testBit e4 = true) → (if e1 < n then (1 : Int) else 0) + (if e2 < n then 1 else 0) + (if e3 < n then 1 else 0) + (if e4 < n then 1 else 0) ≤ yb_pc S n
  | 0, _, _, _, _ => by
    rw [if_neg (Nat.not_lt_zero _), if_neg (Nat.not_lt_zero _), if_neg (Nat.not_lt_zero _), if_neg (Nat.not_lt_zero _)]
    exact Int.le_refl 0
  | n + 1, a1, a2, a3, a4 => by
    have h := yw_pcl h12 h13 h14 h23 h24 h34 n (fun z => a1 (by omega)) (fun z => a2 (by omega)) (fun z => a3 (by omega)) (fun z => a4 (by omega))
    have st : ∀ e : Nat, (if e < n + 1 then (1 : Int) else 0) = (if e < n then 1 else 0) + (if e = n then 1 else 0) := fun e => by
      by_cases z1 : e < n
      · rw [if_pos z1, if_pos (by omega), if_neg (by omega)]
        rfl
      · by_cases z2 : e = n
        · rw [if_neg z1, if_pos (by omega), if_pos z2]
          rfl
        · rw [if_neg z1, if_neg (by omega), if_neg z2]
          rfl
    rw [st e1, st e2, st e3, st e4]
    show _ ≤ yb_pc S n + if S.testBit n = true then 1 else 0
    have up : (if e1 = n then (1 : Int) else 0) + (if e2 = n then 1 else 0) + (if e3 = n then 1 else 0) + (if e4 = n then 1 else 0) ≤ if S.testBit n = true then 1 else 0 := by
      by_cases z1 : e1 = n
      · rw [if_pos z1, if_neg (by omega), if_neg (by omega), if_neg (by omega), if_pos (by rw [← z1]; exact a1 (by omega))]
        decide
      · by_cases z2 : e2 = n
        · rw [if_neg z1, if_pos z2, if_neg (by omega), if_neg (by omega), if_pos (by rw [← z2]; exact a2 (by omega))]
          decide
        · by_cases z3 : e3 = n
          · rw [if_neg z1, if_neg z2, if_pos z3, if_neg (by omega), if_pos (by rw [← z3]; exact a3 (by omega))]
            decide
          · by_cases z4 : e4 = n
            · rw [if_neg z1, if_neg z2, if_neg z3, if_pos z4, if_pos (by rw [← z4]; exact a4 (by omega))]
              decide
            · rw [if_neg z1, if_neg z2, if_neg z3, if_neg z4]
              split <;> decide
    omega
theorem yw_pch {S e1 e2 e3 : Nat} : ∀ n : Nat, (∀ j : Nat, j < n → S.testBit j = true → j = e1 ∨ j = e2 ∨ j = e3) → yb_pc S n ≤ (if e1 < n then (1 : Int) else 0) + (if e2 < n then 1 else 0) + (if e3 < n then 1 else 0)
  | 0, _ => by
    rw [if_neg (Nat.not_lt_zero _), if_neg (Nat.not_lt_zero _), if_neg (Nat.not_lt_zero _)]
    exact Int.le_refl 0
  | n + 1, h => by
    have k := yw_pch n (fun j hj => h j (by omega))
    have st : ∀ e : Nat, (if e < n + 1 then (1 : Int) else 0) = (if e < n then 1 else 0) + (if e = n then 1 else 0) := fun e => by
      by_cases z1 : e < n
      · rw [if_pos z1, if_pos (by omega), if_neg (by omega)]
        rfl
      · by_cases z2 : e = n
        · rw [if_neg z1, if_pos (by omega), if_pos z2]
          rfl
        · rw [if_neg z1, if_neg (by omega), if_neg z2]
          rfl
    have nn : ∀ e : Nat, (0 : Int) ≤ if e = n then 1 else 0 := fun e => by
      split <;> decide
    rw [st e1, st e2, st e3]
    show yb_pc S n + (if S.testBit n = true then 1 else 0) ≤ _
    have n1 := nn e1
    have n2 := nn e2
    have n3 := nn e3
    by_cases z : S.testBit n = true
    · rw [if_pos z]
      rcases h n (by omega) z with q | q | q
      · rw [if_pos q.symm] at n1 ⊢
        omega
      · rw [if_pos q.symm] at n2 ⊢
        omega
      · rw [if_pos q.symm] at n3 ⊢
        omega
    · rw [if_neg z]
      omega
noncomputable def yw_nx (S : Nat) (a N r : Int) : Prop := (a ≤ r ∧ r < N ∧ r < 12 ∧ S.testBit r.toNat = true ∧ ∀ j : Nat, a ≤ (j : Int) → (j : Int) < r → ¬ S.testBit j = true) ∨ (r = 0 ∧ ∀ j : Nat, a ≤ (j : Int) → (j : Int) < N → j < 12 → ¬ S.testBit j = true)
theorem yw_shx {x y : Nat → Int} {S : Nat} {N f s t : Int} (hS : ∀ j : Nat, S.testBit j = true → (j : Int) < N ∧ j < 12) (h1 : yw_nx S 0 N f) (h2 : yw_nx S (f + 1) N s) (h3 : yw_nx S (s + 1) N t) : (3 < yb_pc S 12 → ¬ yw_shc x y (fun j => S.testBit j = true)) ∧ (yb_pc S 12 = 3 → (yw_shc x y (fun j => S.testBit j = true) ↔ yq_ar x y f.toNat s.toNat t.toNat ≠ 0)) ∧ (yb_pc S 12 = 2 → (yw_shc x y (fun j => S.testBit j = true) ↔ ¬ (x f.toNat = x s.toNat ∧ y f.toNat = y s.toNat))) ∧ (yb_pc S 12 < 2 → yw_shc x y (fun j => S.testBit j = true)) := by
  have two : ∀ a b : Nat, S.testBit a = true → S.testBit b = true → a ≠ b → 2 ≤ yb_pc S 12 := fun a b ha hb hab => by
    have k := yw_pcl (S := S) (e1 := a) (e2 := b) (e3 := 100) (e4 := 101) hab (by have := (hS a ha).2; omega) (by have := (hS a ha).2; omega) (by have := (hS b hb).2; omega) (by have := (hS b hb).2; omega) (by decide) 12 (fun _ => ha) (fun _ => hb) (fun z => absurd z (by decide)) (fun z => absurd z (by decide))
    rw [if_pos (hS a ha).2, if_pos (hS b hb).2, if_neg (by decide), if_neg (by decide)] at k
    omega
  have three : ∀ a b d : Nat, S.testBit a = true → S.testBit b = true → S.testBit d = true → a ≠ b → a ≠ d → b ≠ d → 3 ≤ yb_pc S 12 := fun a b d ha hb hd hab had hbd => by
    have k := yw_pcl (S := S) (e1 := a) (e2 := b) (e3 := d) (e4 := 101) hab had (by have := (hS a ha).2; omega) hbd (by have := (hS b hb).2; omega) (by have := (hS d hd).2; omega) 12 (fun _ => ha) (fun _ => hb) (fun _ => hd) (fun z => absurd z (by decide))
    rw [if_pos (hS a ha).2, if_pos (hS b hb).2, if_pos (hS d hd).2, if_neg (by decide)] at k
    omega
  have four : ∀ a b d e : Nat, S.testBit a = true → S.testBit b = true → S.testBit d = true → S.testBit e = true → a ≠ b → a ≠ d → a ≠ e → b ≠ d → b ≠ e → d ≠ e → 4 ≤ yb_pc S 12 := fun a b d e ha hb hd he h1 h2 h3 h4 h5 h6 => by
    have k := yw_pcl (S := S) h1 h2 h3 h4 h5 h6 12 (fun _ => ha) (fun _ => hb) (fun _ => hd) (fun _ => he)
    rw [if_pos (hS a ha).2, if_pos (hS b hb).2, if_pos (hS d hd).2, if_pos (hS e he).2] at k
    omega
  have low : yb_pc S 12 < 2 → yw_shc x y (fun j => S.testBit j = true) := fun z => ⟨fun a b ha hb hab => by have := two a b ha hb hab; omega, fun a b d ha hb _ hab _ _ => by have := two a b ha hb hab; omega, fun a b d e ha hb _ _ hab _ _ _ _ _ => by have := two a b ha hb hab; omega⟩
  -- the first is there as soon as there is one
  by_cases c2 : yb_pc S 12 < 2
  · exact ⟨fun z => by omega, fun z => by omega, fun z => by omega, low⟩
  · have f1 : 0 ≤ f ∧ f < 12 ∧ S.testBit f.toNat = true ∧ ∀ j : Nat, (j : Int) < f → ¬ S.testBit j = true := by
      rcases h1 with ⟨a1, a2, a3, a4, a5⟩ | ⟨a1, a2⟩
      · exact ⟨a1, a3, a4, fun j hj => a5 j (by omega) hj⟩
      · have k := yw_pch (S := S) (e1 := 100) (e2 := 100) (e3 := 100) 12 fun j hj z => absurd z (a2 j (by omega) (hS j z).1 hj)
        rw [if_neg (by decide)] at k
        omega
    obtain ⟨f0, f12, fb, fl⟩ := f1
    have s1 : f + 1 ≤ s ∧ s < 12 ∧ S.testBit s.toNat = true ∧ ∀ j : Nat, f + 1 ≤ (j : Int) → (j : Int) < s → ¬ S.testBit j = true := by
      rcases h2 with ⟨a1, a2, a3, a4, a5⟩ | ⟨a1, a2⟩
      · exact ⟨a1, a3, a4, a5⟩
      · have k := yw_pch (S := S) (e1 := f.toNat) (e2 := 100) (e3 := 100) 12 fun j hj z => by
          by_cases q : (j : Int) < f
          · exact absurd z (fl j q)
          · by_cases q2 : (j : Int) = f
            · exact Or.inl (by omega)
            · exact absurd z (a2 j (by omega) (hS j z).1 hj)
        rw [if_pos (by omega), if_neg (by decide)] at k
        omega
    obtain ⟨s0, s12, sb, sl⟩ := s1
    have hfs : f.toNat ≠ s.toNat := by omega
    by_cases c3 : yb_pc S 12 = 2
    · refine ⟨fun z => by omega, fun z => by omega, fun _ => ⟨fun z => z.1 _ _ fb sb hfs, fun z => ⟨?_, ?_, ?_⟩⟩, low⟩
      · intro a b ha hb hab q
        have m1 : ∀ j : Nat, S.testBit j = true → j = f.toNat ∨ j = s.toNat := fun j hj => by
          apply Classical.byContradiction
          intro w
          have := three f.toNat s.toNat j fb sb hj hfs (by omega) (by omega)
          omega
        rcases m1 a ha with p1 | p1
        · rcases m1 b hb with p2 | p2
          · exact hab (by omega)
          · rw [p1, p2] at q
            exact z q
        · rcases m1 b hb with p2 | p2
          · rw [p1, p2] at q
            exact z ⟨q.1.symm, q.2.symm⟩
          · exact hab (by omega)
      · intro a b d ha hb hd h1 h2 h3
        have := three a b d ha hb hd h1 h2 h3
        omega
      · intro a b d e ha hb hd _ h1 h2 _ h3 _ _
        have := three a b d ha hb hd h1 h2 h3
        omega
    · have t1 : s + 1 ≤ t ∧ t < 12 ∧ S.testBit t.toNat = true := by
        rcases h3 with ⟨a1, a2, a3, a4, a5⟩ | ⟨a1, a2⟩
        · exact ⟨a1, a3, a4⟩
        · have k := yw_pch (S := S) (e1 := f.toNat) (e2 := s.toNat) (e3 := 100) 12 fun j hj z => by
            by_cases q : (j : Int) < f
            · exact absurd z (fl j q)
            · by_cases q2 : (j : Int) = f
              · exact Or.inl (by omega)
              · by_cases q3 : (j : Int) < s
                · exact absurd z (sl j (by omega) q3)
                · by_cases q4 : (j : Int) = s
                  · exact Or.inr (Or.inl (by omega))
                  · exact absurd z (a2 j (by omega) (hS j z).1 hj)
          rw [if_pos (by omega), if_pos (by omega), if_neg (by decide)] at k
          omega
      obtain ⟨t0, t12, tb⟩ := t1
      have hft : f.toNat ≠ t.toNat := by omega
      have hst : s.toNat ≠ t.toNat := by omega
      refine ⟨fun z w => ?_, fun z => ⟨fun w => w.2.1 _ _ _ fb sb tb hfs hft hst, fun w => ⟨?_, ?_, ?_⟩⟩, fun z => by omega, low⟩
      · have ex : ∃ e : Nat, S.testBit e = true ∧ e ≠ f.toNat ∧ e ≠ s.toNat ∧ e ≠ t.toNat := by
          apply Classical.byContradiction
          intro q
          have k := yw_pch (S := S) (e1 := f.toNat) (e2 := s.toNat) (e3 := t.toNat) 12 fun j hj zj => by
            apply Classical.byContradiction
            intro q2
            exact q ⟨j, zj, by omega, by omega, by omega⟩
          rw [if_pos (by omega), if_pos (by omega), if_pos (by omega)] at k
          omega
        obtain ⟨e, e1, e2, e3, e4⟩ := ex
        exact w.2.2 _ _ _ _ fb sb tb e1 hfs hft (Ne.symm e2) hst (Ne.symm e3) (Ne.symm e4)
      · intro a b ha hb hab q
        have m1 : ∀ j : Nat, S.testBit j = true → j = f.toNat ∨ j = s.toNat ∨ j = t.toNat := fun j hj => by
          apply Classical.byContradiction
          intro w
          have := four f.toNat s.toNat t.toNat j fb sb tb hj hfs hft (by omega) hst (by omega) (by omega)
          omega
        have zero : ∀ u v e : Nat, x u = x v ∧ y u = y v → yq_ar x y u v e = 0 := fun u v e k => by
          unfold yq_ar
          rw [k.1, k.2]
          grind
        have q' : x b = x a ∧ y b = y a := ⟨q.1.symm, q.2.symm⟩
        have p1 : yq_ar x y s.toNat f.toNat t.toNat = -yq_ar x y f.toNat s.toNat t.toNat := by unfold yq_ar; grind
        have p2 : yq_ar x y f.toNat t.toNat s.toNat = -yq_ar x y f.toNat s.toNat t.toNat := by unfold yq_ar; grind
        have p3 : yq_ar x y s.toNat t.toNat f.toNat = yq_ar x y f.toNat s.toNat t.toNat := by unfold yq_ar; grind
        rcases m1 a ha with w1 | w1 | w1
        · rcases m1 b hb with w2 | w2 | w2
          · exact hab (by omega)
          · rw [w1, w2] at q
            exact w (zero _ _ _ q)
          · rw [w1, w2] at q
            have := zero _ _ s.toNat q
            omega
        · rcases m1 b hb with w2 | w2 | w2
          · rw [w1, w2] at q
            have := zero _ _ t.toNat q
            omega
          · exact hab (by omega)
          · rw [w1, w2] at q
            have := zero _ _ f.toNat q
            omega
        · rcases m1 b hb with w2 | w2 | w2
          · rw [w1, w2] at q'
            have := zero _ _ s.toNat q'
            omega
          · rw [w1, w2] at q'
            have := zero _ _ f.toNat q'
            omega
          · exact hab (by omega)
      · intro a b d ha hb hd h1 h2 h3 q
        have m1 : ∀ j : Nat, S.testBit j = true → j = f.toNat ∨ j = s.toNat ∨ j = t.toNat := fun j hj => by
          apply Classical.byContradiction
          intro w
          have := four f.toNat s.toNat t.toNat j fb sb tb hj hfs hft (by omega) hst (by omega) (by omega)
          omega
        have p1 : yq_ar x y s.toNat f.toNat t.toNat = -yq_ar x y f.toNat s.toNat t.toNat := by unfold yq_ar; grind
        have p2 : yq_ar x y f.toNat t.toNat s.toNat = -yq_ar x y f.toNat s.toNat t.toNat := by unfold yq_ar; grind
        have p3 : yq_ar x y s.toNat t.toNat f.toNat = yq_ar x y f.toNat s.toNat t.toNat := by unfold yq_ar; grind
        have p4 : yq_ar x y t.toNat f.toNat s.toNat = yq_ar x y f.toNat s.toNat t.toNat := by unfold yq_ar; grind
        have p5 : yq_ar x y t.toNat s.toNat f.toNat = -yq_ar x y f.toNat s.toNat t.toNat := by unfold yq_ar; grind
        rcases m1 a ha with w1 | w1 | w1 <;> rcases m1 b hb with w2 | w2 | w2 <;> rcases m1 d hd with w3 | w3 | w3 <;> first | (exfalso; omega) | (rw [w1, w2, w3] at q; omega)
      · intro a b d e ha hb hd he h1 h2 h3 h4 h5 h6
        have := four a b d e ha hb hd he h1 h2 h3 h4 h5 h6
        omega
theorem yw_sbs {s z y r : Int} (s0 : 0 ≤ s) (s1 : s ≤ 4095) (z0 : 0 ≤ z) (z1 : z ≤ 4095) (hy : y = -1 - z) (r0 : 0 ≤ r) (r1 : r ≤ 4095) (e : Int32.ofInt r = Int32.ofInt s &&& Int32.ofInt y) : r = 0 ↔ ∀ j : Nat, s.toNat.testBit j = true → z.toNat.testBit j = true := by
  have k1 : (Int32.ofInt r).toBitVec = BitVec.ofNat 32 s.toNat &&& ~~~ BitVec.ofNat 32 z.toNat := by
    rw [e, hy, show (Int32.ofInt s &&& Int32.ofInt (-1 - z)).toBitVec = (Int32.ofInt s).toBitVec &&& (Int32.ofInt (-1 - z)).toBitVec from rfl, show (-1 - z) = -1 - ((z.toNat : Nat) : Int) by omega, yw_not32, show (Int32.ofInt s) = Int32.ofInt ((s.toNat : Nat) : Int) by rw [show ((s.toNat : Nat) : Int) = s by omega], Int32.toBitVec_ofInt, BitVec.ofInt_natCast]
  have k2 : (Int32.ofInt r).toBitVec = BitVec.ofNat 32 r.toNat := by
    rw [show (Int32.ofInt r) = Int32.ofInt ((r.toNat : Nat) : Int) by rw [show ((r.toNat : Nat) : Int) = r by omega], Int32.toBitVec_ofInt, BitVec.ofInt_natCast]
  have tb : ∀ i : Nat, i < 32 → r.toNat.testBit i = (s.toNat.testBit i && !z.toNat.testBit i) := fun i hi => by
    have k := congrArg (fun b => BitVec.getLsbD b i) (k2.symm.trans k1)
    have k : (BitVec.ofNat 32 r.toNat).getLsbD i = (BitVec.ofNat 32 s.toNat &&& ~~~ BitVec.ofNat 32 z.toNat).getLsbD i := k
    rw [BitVec.getLsbD_and, BitVec.getLsbD_not, BitVec.getLsbD_ofNat, BitVec.getLsbD_ofNat, BitVec.getLsbD_ofNat, decide_eq_true hi, Bool.true_and, Bool.true_and, Bool.true_and, Bool.true_and] at k
    exact k
  have hi : ∀ w : Nat, w < 4096 → ∀ i : Nat, ¬ i < 32 → w.testBit i = false := fun w hw i hi => Nat.testBit_lt_two_pow (Nat.lt_of_lt_of_le (show w < 2 ^ 12 from hw) (Nat.pow_le_pow_right (by decide) (by omega)))
  constructor
  · intro h j hj
    by_cases q : j < 32
    · have k := tb j q
      rw [h, hj, show (0 : Int).toNat = 0 from rfl, Nat.zero_testBit, Bool.true_and] at k
      cases e2 : z.toNat.testBit j
      · rw [e2] at k
        cases k
      · rfl
    · rw [hi s.toNat (by omega) j q] at hj
      cases hj
  · intro h
    have z3 : r.toNat = 0 := Nat.eq_of_testBit_eq fun i => by
      rw [Nat.zero_testBit]
      by_cases q : i < 32
      · rw [tb i q]
        cases e1 : s.toNat.testBit i
        · rfl
        · rw [h i e1]
          rfl
      · exact hi r.toNat (by omega) i q
    omega
noncomputable def yw_sok (N s : Int) : Prop := 0 ≤ s ∧ s < ((2 ^ (min N 12).toNat : Nat) : Int)
noncomputable def yw_sans (x y : Nat → Int) (N s a : Int) : Prop := (¬ yw_sok N s → a = -1) ∧ (yw_sok N s → (a = 0 ∨ a = 1) ∧ (a = 1 ↔ yw_shc x y (fun j => s.toNat.testBit j = true)))
theorem yw_sb {N s : Int} (h : yw_sok N s) (j : Nat) (hj : s.toNat.testBit j = true) : (j : Int) < N ∧ j < 12 := by
  have k : j < (min N 12).toNat := by
    apply Nat.lt_of_not_le
    intro z
    rw [Nat.testBit_lt_two_pow (Nat.lt_of_lt_of_le (show s.toNat < 2 ^ (min N 12).toNat by have := h.2; have := h.1; omega) (Nat.pow_le_pow_right (by decide) z))] at hj
    cases hj
  omega
theorem yw_t4 {N s : Int} (h : yw_sok N s) : s ≤ 4095 := by
  have h1 := yb_p12 (j := (min N 12).toNat) (by omega)
  have := h.2
  omega
theorem yw_shc_e {x y X Y : Nat → Int} {c : Nat → Prop} (hx : ∀ j : Nat, c j → x j = X j) (hy : ∀ j : Nat, c j → y j = Y j) (h : yw_shc x y c) : yw_shc X Y c := ⟨fun a b ha hb hab q => h.1 a b ha hb hab (by rw [hx a ha, hx b hb, hy a ha, hy b hb]; exact q), fun a b d ha hb hd h1 h2 h3 q => h.2.1 a b d ha hb hd h1 h2 h3 (by
  unfold yq_ar at q ⊢
  rw [hx a ha, hx b hb, hx d hd, hy a ha, hy b hb, hy d hd]
  exact q), h.2.2⟩
theorem yw_sans_u {x y X Y : Nat → Int} {N s a b : Int} (hx : ∀ j : Nat, (j : Int) < N → x j = X j) (hy : ∀ j : Nat, (j : Int) < N → y j = Y j) (h1 : yw_sans x y N s a) (h2 : yw_sans X Y N s b) : a = b := by
  by_cases ok : yw_sok N s
  · obtain ⟨a1, a2⟩ := h1.2 ok
    obtain ⟨b1, b2⟩ := h2.2 ok
    have e : a = 1 ↔ b = 1 := ⟨fun z => b2.mpr (yw_shc_e (fun j hj => hx j (yw_sb ok j hj).1) (fun j hj => hy j (yw_sb ok j hj).1) (a2.mp z)), fun z => a2.mpr (yw_shc_e (fun j hj => (hx j (yw_sb ok j hj).1).symm) (fun j hj => (hy j (yw_sb ok j hj).1).symm) (b2.mp z))⟩
    rcases a1 with z | z
    · rcases b1 with w | w
      · omega
      · have := e.mpr w
        omega
    · have := e.mp z
      omega
  · rw [h1.1 ok, h2.1 ok]

