/-! boxes: sets of yes that can be in one box, and how many cover all -/
/-- no no lies in the least box about the set -/
def yf_cl (x y c : Nat → Int) (n : Nat) (X Y : Nat → Int) (m : Nat) (B : Nat → Prop) : Prop := ∀ j : Nat, j < n → c j = 0 → ¬ ((∃ k, (k < m ∧ B k) ∧ X k ≤ x j) ∧ (∃ k, (k < m ∧ B k) ∧ x j ≤ X k) ∧ (∃ k, (k < m ∧ B k) ∧ Y k ≤ y j) ∧ ∃ k, (k < m ∧ B k) ∧ y j ≤ Y k)
theorem yf_cl_m {x y c : Nat → Int} {n : Nat} {X Y : Nat → Int} {m : Nat} {A B : Nat → Prop} (hs : ∀ k, A k → B k) (h : yf_cl x y c n X Y m B) : yf_cl x y c n X Y m A := fun j hj hc ⟨⟨a, a1, a2⟩, ⟨b, b1, b2⟩, ⟨d, d1, d2⟩, ⟨e, e1, e2⟩⟩ => h j hj hc ⟨⟨a, ⟨a1.1, hs a a1.2⟩, a2⟩, ⟨b, ⟨b1.1, hs b b1.2⟩, b2⟩, ⟨d, ⟨d1.1, hs d d1.2⟩, d2⟩, ⟨e, ⟨e1.1, hs e e1.2⟩, e2⟩⟩
theorem yf_cl_t {x y c x' y' c' : Nat → Int} {n : Nat} {X Y X' Y' : Nat → Int} {m : Nat} {B : Nat → Prop} (hx : ∀ j, j < n → x j = x' j) (hy : ∀ j, j < n → y j = y' j) (hc : ∀ j, j < n → c j = c' j) (hX : ∀ k, k < m → X k = X' k) (hY : ∀ k, k < m → Y k = Y' k) (h : yf_cl x y c n X Y m B) : yf_cl x' y' c' n X' Y' m B := fun j hj h0 ⟨⟨a, a1, a2⟩, ⟨b, b1, b2⟩, ⟨d, d1, d2⟩, ⟨e, e1, e2⟩⟩ => h j hj ((hc j hj).trans h0) ⟨⟨a, a1, by rw [hX a a1.1, hx j hj]; exact a2⟩, ⟨b, b1, by rw [hX b b1.1, hx j hj]; exact b2⟩, ⟨d, d1, by rw [hY d d1.1, hy j hj]; exact d2⟩, ⟨e, e1, by rw [hY e e1.1, hy j hj]; exact e2⟩⟩
/-- with the row of the yes -/
def yf_K (x y c R : Nat → Int) (n m : Nat) : (Nat → Prop) → Prop := yf_cl x y c n (fun k => x (R k).toNat) (fun k => y (R k).toNat) m
theorem yf_K_m {x y c R : Nat → Int} {n m : Nat} : ∀ A B : Nat → Prop, (∀ k, A k → B k) → yf_K x y c R n m B → yf_K x y c R n m A := fun _ _ h g => yf_cl_m h g
theorem yf_K_e {x y c R R' : Nat → Int} {n m : Nat} (h : ∀ k, k < m → R k = R' k) : yf_K x y c R n m = yf_K x y c R' n m := funext fun B => propext ⟨fun z => yf_cl_t (fun _ _ => rfl) (fun _ _ => rfl) (fun _ _ => rfl) (fun k hk => by show x (R k).toNat = x (R' k).toNat; rw [h k hk]) (fun k hk => by show y (R k).toNat = y (R' k).toNat; rw [h k hk]) z, fun z => yf_cl_t (fun _ _ => rfl) (fun _ _ => rfl) (fun _ _ => rfl) (fun k hk => by show x (R' k).toNat = x (R k).toNat; rw [h k hk]) (fun k hk => by show y (R' k).toNat = y (R k).toNat; rw [h k hk]) z⟩
/-- k clear sets cover T -/
def yf_cv (cl : (Nat → Prop) → Prop) : Nat → (Nat → Prop) → Prop
  | 0, T => ∀ i, ¬ T i
  | k + 1, T => ∃ B : Nat → Prop, cl B ∧ yf_cv cl k (fun i => T i ∧ ¬ B i)
theorem yf_cv_m {cl : (Nat → Prop) → Prop} : ∀ (k : Nat) (S T : Nat → Prop), (∀ i, S i → T i) → yf_cv cl k T → yf_cv cl k S
  | 0, S, T, hs, h => fun i hi => h i (hs i hi)
  | k + 1, S, T, hs, h => by
    obtain ⟨B, h1, h2⟩ := h
    exact ⟨B, h1, yf_cv_m k _ _ (fun i hi => ⟨hs i hi.1, hi.2⟩) h2⟩
theorem yf_cv_p {cl : (Nat → Prop) → Prop} : ∀ (k : Nat) (T : Nat → Prop) (b : Nat), yf_cv cl k T → T b → ∃ (k' : Nat) (B : Nat → Prop), k = k' + 1 ∧ cl B ∧ B b ∧ yf_cv cl k' (fun i => T i ∧ ¬ B i)
  | 0, T, b, h, hb => absurd hb (h b)
  | k + 1, T, b, h, hb => by
    obtain ⟨A, h1, h2⟩ := h
    by_cases q : A b
    · exact ⟨k, A, rfl, h1, q, h2⟩
    · obtain ⟨k', B, e, g1, g2, g3⟩ := yf_cv_p k _ b h2 ⟨hb, q⟩
      refine ⟨k, B, rfl, g1, g2, ?_⟩
      rw [e]
      exact ⟨A, h1, yf_cv_m k' _ _ (fun i hi => ⟨⟨hi.1.1, hi.2⟩, hi.1.2⟩) g3⟩
/-- the bits of a number -/
def yf_b (s : Nat) (k : Nat) : Prop := s.testBit k = true
theorem yf_b0 (k : Nat) : ¬ yf_b 0 k := by
  unfold yf_b
  rw [Nat.zero_testBit]
  decide
theorem yf_ball {m k : Nat} : yf_b (2 ^ m - 1) k ↔ k < m := by
  unfold yf_b
  rw [Nat.testBit_two_pow_sub_one, decide_eq_true_eq]
theorem yf_bor {s t k : Nat} : yf_b (s ||| t) k ↔ yf_b s k ∨ yf_b t k := by
  unfold yf_b
  rw [Nat.testBit_or, Bool.or_eq_true]
theorem yf_bxor {s t k : Nat} (h : ∀ i, yf_b t i → yf_b s i) : yf_b (s ^^^ t) k ↔ yf_b s k ∧ ¬ yf_b t k := by
  have hk := h k
  unfold yf_b at hk ⊢
  rw [Nat.testBit_xor]
  cases h1 : s.testBit k <;> cases h2 : t.testBit k <;> simp_all
theorem yf_ext {s t : Nat} (h : ∀ k, yf_b s k ↔ yf_b t k) : s = t := Nat.eq_of_testBit_eq fun i => by
  have := h i
  unfold yf_b at this
  cases h1 : s.testBit i <;> cases h2 : t.testBit i <;> simp_all
theorem yf_ge {m s k : Nat} (hs : s < 2 ^ m) (h : yf_b s k) : k < m := by
  by_cases q : k < m
  · exact q
  · exfalso
    unfold yf_b at h
    rw [Nat.testBit_lt_two_pow (Nat.lt_of_lt_of_le hs (Nat.pow_le_pow_right (by decide) (by omega)))] at h
    cases h
theorem yf_bne {s : Nat} (h : s ≠ 0) : ∃ k, yf_b s k := by
  by_cases q : ∃ k, yf_b s k
  · exact q
  · exact absurd (yf_ext (s := s) (t := 0) fun k => ⟨fun z => absurd ⟨k, z⟩ q, fun z => absurd z (yf_b0 k)⟩) h
/-- the lowest of a set -/
theorem yf_low {P : Nat → Prop} : ∀ k : Nat, P k → ∃ b, P b ∧ ∀ i, i < b → ¬ P i := fun k => by
  induction k using Nat.strongRecOn with
  | ind k ih =>
    intro h
    by_cases q : ∃ i, i < k ∧ P i
    · obtain ⟨i, h1, h2⟩ := q
      exact ih i h1 h2
    · exact ⟨k, h, fun i hi hp => q ⟨i, hi, hp⟩⟩
/-- what the reference reckons: the least of all boxes with the lowest yes -/
def yf_F (cl : (Nat → Prop) → Prop) (F : Nat → Int) (s : Nat) : Prop := F s ≤ 100 ∧ (F s = 100 ∨ ∃ B : Nat, (∀ k, yf_b B k → yf_b s k) ∧ B ≠ 0 ∧ cl (yf_b B) ∧ F s = F (s ^^^ B) + 1) ∧ ∀ B : Nat, (∀ k, yf_b B k → yf_b s k) → (∀ b, yf_b s b → (∀ i, i < b → ¬ yf_b s i) → yf_b B b) → cl (yf_b B) → F s ≤ F (s ^^^ B) + 1
theorem yf_le {a b : Nat} (h : ∀ k, yf_b a k → yf_b b k) : a ≤ b := by
  have e : a &&& b = a := yf_ext fun k => by
    have := h k
    unfold yf_b at this ⊢
    rw [Nat.testBit_and]
    cases h1 : a.testBit k <;> cases h2 : b.testBit k <;> simp_all
  have := @Nat.and_le_right a b
  omega
theorem yf_xlt {s B : Nat} (h : ∀ k, yf_b B k → yf_b s k) (h0 : B ≠ 0) : s ^^^ B < s := by
  have l : s ^^^ B ≤ s := yf_le fun k hk => ((yf_bxor h).mp hk).1
  have n : s ^^^ B ≠ s := fun e => by
    obtain ⟨k, hk⟩ := yf_bne h0
    have q := yf_bxor (k := k) h
    rw [e] at q
    exact (q.mp (h k hk)).2 hk
  exact Nat.lt_of_le_of_ne l n
/-- at most the number of any cover -/
theorem yf_F_le {cl : (Nat → Prop) → Prop} {F : Nat → Int} {S : Nat} (hm : ∀ A B : Nat → Prop, (∀ k, A k → B k) → cl B → cl A) (h0 : F 0 = 0) (hF : ∀ s, 0 < s → s < S → yf_F cl F s) : ∀ (s : Nat) (k : Nat), s < S → yf_cv cl k (yf_b s) → F s ≤ (k : Int) := fun s => by
  induction s using Nat.strongRecOn with
  | ind s ih =>
    intro k hs hc
    by_cases z : s = 0
    · rw [z, h0]
      omega
    · obtain ⟨a, ha⟩ := yf_bne z
      obtain ⟨b, hb, hl⟩ := yf_low (P := yf_b s) a ha
      obtain ⟨k', A, e, g1, g2, g3⟩ := yf_cv_p k _ b hc hb
      obtain ⟨f1, f2, f3⟩ := hF s (by omega) hs
      -- the part of the box within s, as a number
      have hx : ∃ B : Nat, ∀ i, yf_b B i ↔ (yf_b s i ∧ A i) := by
        have key : ∀ m : Nat, ∃ B : Nat, ∀ i, yf_b B i ↔ (i < m ∧ yf_b s i ∧ A i) := fun m => by
          induction m with
          | zero => exact ⟨0, fun i => ⟨fun q => absurd q (yf_b0 i), fun q => absurd q.1 (by omega)⟩⟩
          | succ m ihm =>
            obtain ⟨B, hB⟩ := ihm
            by_cases q : yf_b s m ∧ A m
            · refine ⟨B ||| 2 ^ m, fun i => ?_⟩
              rw [yf_bor, hB i]
              have t : yf_b (2 ^ m) i ↔ i = m := by
                unfold yf_b
                rw [Nat.testBit_two_pow, decide_eq_true_eq]
                exact ⟨fun q => q.symm, fun q => q.symm⟩
              rw [t]
              constructor
              · rintro (w | w)
                · exact ⟨by omega, w.2⟩
                · rw [w]
                  exact ⟨by omega, q⟩
              · intro w
                by_cases e2 : i = m
                · exact Or.inr e2
                · exact Or.inl ⟨by omega, w.2⟩
            · refine ⟨B, fun i => ?_⟩
              rw [hB i]
              constructor
              · exact fun w => ⟨by omega, w.2⟩
              · intro w
                by_cases e2 : i = m
                · rw [e2] at w
                  exact absurd w.2 q
                · exact ⟨by omega, w.2⟩
        obtain ⟨B, hB⟩ := key (s + 1)
        refine ⟨B, fun i => ?_⟩
        rw [hB i]
        constructor
        · exact fun w => w.2
        · intro w
          refine ⟨?_, w⟩
          have := yf_ge (m := s) (by first | exact Nat.lt_two_pow_self | exact Nat.lt_two_pow_self _ | exact Nat.lt_two_pow s) w.1
          omega
      obtain ⟨B, hB⟩ := hx
      have sub : ∀ i, yf_b B i → yf_b s i := fun i hi => ((hB i).mp hi).1
      have k1 := f3 B sub (fun b' h1 h2 => by
        have e2 : b' = b := by
          by_cases q : b' < b
          · exact absurd h1 (hl b' q)
          · by_cases q2 : b < b'
            · exact absurd hb (h2 b q2)
            · omega
        rw [e2]
        exact (hB b).mpr ⟨hb, g2⟩) (hm _ A (fun i hi => ((hB i).mp hi).2) g1)
      have nz : B ≠ 0 := fun q => by
        have := (hB b).mpr ⟨hb, g2⟩
        rw [q] at this
        exact yf_b0 b this
      have lt := yf_xlt sub nz
      have k2 := ih (s ^^^ B) lt k' (by omega) (yf_cv_m k' _ _ (fun i hi => by
        have q := (yf_bxor sub).mp hi
        exact ⟨q.1, fun w => q.2 ((hB i).mpr ⟨q.1, w⟩)⟩) g3)
      omega
/-- and a cover of that number there is -/
theorem yf_F_cv {cl : (Nat → Prop) → Prop} {F : Nat → Int} {S : Nat} (h0 : F 0 = 0) (hF : ∀ s, 0 < s → s < S → yf_F cl F s) : ∀ s : Nat, s < S → F s < 100 → 0 ≤ F s ∧ yf_cv cl (F s).toNat (yf_b s) := fun s => by
  induction s using Nat.strongRecOn with
  | ind s ih =>
    intro hs h1
    by_cases z : s = 0
    · rw [z, h0]
      exact ⟨by decide, fun i => yf_b0 i⟩
    · obtain ⟨f1, f2, f3⟩ := hF s (by omega) hs
      rcases f2 with q | ⟨B, q1, q2, q3, q4⟩
      · omega
      · have lt := yf_xlt q1 q2
        obtain ⟨g1, g2⟩ := ih (s ^^^ B) lt (by omega) (by omega)
        refine ⟨by omega, ?_⟩
        rw [show (F s).toNat = (F (s ^^^ B)).toNat + 1 by omega]
        exact ⟨yf_b B, q3, yf_cv_m _ _ _ (fun i hi => (yf_bxor q1).mpr hi) g2⟩
/-- the next lower submask -/
theorem yf_an (a b : Nat) : (a &&& b) / 2 = a / 2 &&& b / 2 ∧ ((a &&& b) % 2 = 1 ↔ (a % 2 = 1 ∧ b % 2 = 1)) := by
  refine ⟨Nat.eq_of_testBit_eq fun i => ?_, ?_⟩
  · rw [← Nat.testBit_succ, Nat.testBit_and, Nat.testBit_and, Nat.testBit_succ, Nat.testBit_succ]
  · have q := Nat.testBit_and a b 0
    rw [Nat.testBit_zero, Nat.testBit_zero, Nat.testBit_zero] at q
    constructor
    · intro w
      rw [decide_eq_true w] at q
      have q2 := q.symm
      rw [Bool.and_eq_true, decide_eq_true_eq, decide_eq_true_eq] at q2
      exact q2
    · intro ⟨w1, w2⟩
      rw [decide_eq_true w1, decide_eq_true w2] at q
      exact of_decide_eq_true q
theorem yf_hf {a b : Nat} (h : ∀ k, yf_b a k → yf_b b k) (k : Nat) (hk : yf_b (a / 2) k) : yf_b (b / 2) k := by
  have := h (k + 1)
  unfold yf_b at this hk ⊢
  rw [Nat.testBit_succ, Nat.testBit_succ] at this
  exact this hk
theorem yf_h0 {a b : Nat} (h : ∀ k, yf_b a k → yf_b b k) : a % 2 ≤ b % 2 := by
  have := h 0
  unfold yf_b at this
  rw [Nat.testBit_zero, Nat.testBit_zero, decide_eq_true_eq, decide_eq_true_eq] at this
  omega
theorem yf_sm : ∀ P R q : Nat, (∀ k, yf_b P k → yf_b R k) → (∀ k, yf_b q k → yf_b R k) → q < P → q ≤ (P - 1) &&& R := fun P => by
  induction P using Nat.strongRecOn with
  | ind P ih =>
    intro R q hP hq hlt
    obtain ⟨a1, a2⟩ := yf_an (P - 1) R
    have hR := yf_h0 hP
    have hQ := yf_h0 hq
    rcases Nat.mod_two_eq_zero_or_one P with p | p
    · have i := ih (P / 2) (by omega) (R / 2) (q / 2) (yf_hf hP) (yf_hf hq) (by omega)
      rw [show (P - 1) / 2 = P / 2 - 1 by omega] at a1
      rw [← a1] at i
      omega
    · have e : P / 2 &&& R / 2 = P / 2 := yf_ext fun k => by
        have := yf_hf hP k
        unfold yf_b at this ⊢
        rw [Nat.testBit_and]
        cases h1 : (P / 2).testBit k <;> cases h2 : (R / 2).testBit k <;> simp_all
      rw [show (P - 1) / 2 = P / 2 by omega, e] at a1
      omega
