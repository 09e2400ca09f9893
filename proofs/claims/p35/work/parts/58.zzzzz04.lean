/-! the class's search -/
def yf_I1 (cl : (Nat → Prop) → Prop) (m : Nat) (D : Nat → Int) : Prop := ∀ s : Nat, s < 2 ^ m → D s ≤ 100 ∧ 0 ≤ D s ∧ (D s < 100 → yf_cv cl (D s).toNat (yf_b s))
def yf_I3 (cl : (Nat → Prop) → Prop) (m : Nat) (D : Nat → Int) (b cv : Nat) : Prop := ∀ K : Nat, K ≤ 12 → yf_cv cl K (fun i => i < m) → ∃ s r : Nat, s < 2 ^ m ∧ (∀ i, i < b → yf_b s i) ∧ yf_cv cl r (fun i => i < m ∧ ¬ yf_b s i) ∧ D s + (r : Int) ≤ (K : Int) ∧ (yf_b s b ∨ cv ≤ s)
def yf_I2 (cl : (Nat → Prop) → Prop) (m : Nat) (D : Nat → Int) (b : Nat) : Prop := ∀ K : Nat, K ≤ 12 → yf_cv cl K (fun i => i < m) → ∃ s r : Nat, s < 2 ^ m ∧ (∀ i, i < b → yf_b s i) ∧ yf_cv cl r (fun i => i < m ∧ ¬ yf_b s i) ∧ D s + (r : Int) ≤ (K : Int)
theorem yf_mod {s b : Nat} (h : ∀ i, i < b → yf_b s i) : s % 2 ^ b = 2 ^ b - 1 := yf_ext fun k => by
  rw [yf_ball]
  have q := h k
  unfold yf_b at q ⊢
  rw [Nat.testBit_mod_two_pow, Bool.and_eq_true, decide_eq_true_eq]
  exact ⟨fun w => w.1, fun w => ⟨w, q w⟩⟩
theorem yf_mod2 {s b : Nat} (h : ∀ i, i < b → yf_b s i) (hb : ¬ yf_b s b) : s % 2 ^ (b + 1) = 2 ^ b - 1 := yf_ext fun k => by
  rw [yf_ball]
  have q := h k
  unfold yf_b at q hb ⊢
  rw [Nat.testBit_mod_two_pow, Bool.and_eq_true, decide_eq_true_eq]
  constructor
  · intro w
    by_cases z : k = b
    · rw [z] at w
      exact absurd w.2 hb
    · omega
  · intro w
    exact ⟨by omega, q w⟩
theorem yf_I0 {cl : (Nat → Prop) → Prop} {m : Nat} {D : Nat → Int} (h0 : D 0 = 0) (h : ∀ s : Nat, s ≠ 0 → s < 2 ^ m → D s = 100) : yf_I1 cl m D ∧ yf_I2 cl m D 0 := by
  refine ⟨fun s hs => ?_, fun K hK hc => ⟨0, K, Nat.two_pow_pos m, fun i hi => absurd hi (Nat.not_lt_zero i), yf_cv_m K _ _ (fun i hi => hi.1) hc, by omega⟩⟩
  by_cases z : s = 0
  · rw [z, h0]
    exact ⟨by decide, by decide, fun _ => fun i => yf_b0 i⟩
  · rw [h s z hs]
    exact ⟨by decide, by decide, fun w => absurd w (by decide)⟩
theorem yf_I23 {cl : (Nat → Prop) → Prop} {m : Nat} {D : Nat → Int} {b : Nat} (h : yf_I2 cl m D b) : yf_I3 cl m D b (2 ^ b - 1) := fun K hK hc => by
  obtain ⟨s, r, h1, h2, h3, h4⟩ := h K hK hc
  refine ⟨s, r, h1, h2, h3, h4, Or.inr ?_⟩
  rw [← yf_mod h2]
  exact Nat.mod_le _ _
theorem yf_I32 {cl : (Nat → Prop) → Prop} {m : Nat} {D : Nat → Int} {b cv : Nat} (h : yf_I3 cl m D b cv) (hb : b < m) (hcv : 2 ^ m - 1 ≤ cv) : yf_I2 cl m D (b + 1) := fun K hK hc => by
  obtain ⟨s, r, h1, h2, h3, h4, h5⟩ := h K hK hc
  have hB : yf_b s b := by
    rcases h5 with q | q
    · exact q
    · rw [show s = 2 ^ m - 1 by omega, yf_ball]
      exact hb
  refine ⟨s, r, h1, fun i hi => ?_, h3, h4⟩
  by_cases z : i = b
  · rw [z]
    exact hB
  · exact h2 i (by omega)
theorem yf_nx {s cv b : Nat} (h1 : s % 2 ^ (b + 1) = 2 ^ b - 1) (h2 : cv % 2 ^ (b + 1) = 2 ^ b - 1) (h3 : cv ≤ s) (h4 : s ≠ cv) : cv + 2 ^ (b + 1) ≤ s := by
  have k1 := Nat.div_add_mod s (2 ^ (b + 1))
  have k2 := Nat.div_add_mod cv (2 ^ (b + 1))
  rw [h1] at k1
  rw [h2] at k2
  have k3 : cv / 2 ^ (b + 1) < s / 2 ^ (b + 1) := by
    by_cases q : s / 2 ^ (b + 1) ≤ cv / 2 ^ (b + 1)
    · have := Nat.mul_le_mul_left (2 ^ (b + 1)) q
      omega
    · omega
  have k4 : 2 ^ (b + 1) * (cv / 2 ^ (b + 1) + 1) ≤ 2 ^ (b + 1) * (s / 2 ^ (b + 1)) := Nat.mul_le_mul_left _ k3
  rw [Nat.mul_add, Nat.mul_one] at k4
  omega
theorem yf_I3n {cl : (Nat → Prop) → Prop} {m : Nat} {D : Nat → Int} {b cv : Nat} (h : yf_I3 cl m D b cv) (hm : cv % 2 ^ (b + 1) = 2 ^ b - 1) (hD : 100 ≤ D cv) : yf_I3 cl m D b (cv + 2 ^ (b + 1)) := fun K hK hc => by
  obtain ⟨s, r, h1, h2, h3, h4, h5⟩ := h K hK hc
  refine ⟨s, r, h1, h2, h3, h4, ?_⟩
  by_cases q : yf_b s b
  · exact Or.inl q
  · refine Or.inr (yf_nx (yf_mod2 h2 q) hm (h5.elim (fun w => absurd w q) id) (fun e => ?_))
    rw [e] at h4
    omega
/-- what widen does -/
def yf_W (D D' S : Nat → Int) (q : Int) (cv : Nat) : Prop := (∀ t : Nat, D' t ≤ D t) ∧ (∀ t : Nat, D' t = D t ∨ ((∃ k : Nat, (k : Int) < q ∧ t = cv ||| (S k).toNat) ∧ D' t = D cv + 1)) ∧ ∀ k : Nat, (k : Int) < q → D' (cv ||| (S k).toNat) ≤ D cv + 1
/-- the sets with yes b -/
def yf_FS (cl : (Nat → Prop) → Prop) (m b : Nat) (S : Nat → Int) (q : Int) : Prop := (∀ k : Nat, (k : Int) < q → (S k).toNat < 2 ^ m ∧ cl (yf_b (S k).toNat)) ∧ ∀ B : Nat → Prop, (∀ i, B i → i < m) → B b → cl B → ∃ k : Nat, (k : Int) < q ∧ ∀ i, B i → yf_b (S k).toNat i
theorem yf_or_lt {a b m : Nat} (h1 : a < 2 ^ m) (h2 : b < 2 ^ m) : a ||| b < 2 ^ m := Nat.or_lt_two_pow h1 h2
theorem yf_I1w {cl : (Nat → Prop) → Prop} {m : Nat} {D D' S : Nat → Int} {q : Int} {b cv : Nat} (h : yf_I1 cl m D) (hw : yf_W D D' S q cv) (hs : yf_FS cl m b S q) (hcv : cv < 2 ^ m) (hD : D cv < 100) : yf_I1 cl m D' := fun t ht => by
  obtain ⟨h1, h2, h3⟩ := h t ht
  rcases hw.2.1 t with e | ⟨⟨k, hk, e1⟩, e2⟩
  · rw [e]
    exact ⟨h1, h2, h3⟩
  · obtain ⟨g1, g2, g3⟩ := h cv hcv
    rw [e2]
    refine ⟨by omega, by omega, fun _ => ?_⟩
    rw [show (D cv + 1).toNat = (D cv).toNat + 1 by omega]
    refine ⟨yf_b (S k).toNat, (hs.1 k hk).2, yf_cv_m _ _ _ (fun i hi => ?_) (g3 hD)⟩
    have w := hi.1
    rw [e1, yf_bor] at w
    exact w.elim id (fun z => absurd z hi.2)
theorem yf_I3w {cl : (Nat → Prop) → Prop} {m : Nat} {D D' S : Nat → Int} {q : Int} {b cv : Nat} (hmo : ∀ A B : Nat → Prop, (∀ k, A k → B k) → cl B → cl A) (h : yf_I3 cl m D b cv) (hw : yf_W D D' S q cv) (hs : yf_FS cl m b S q) (hb : b < m) (hm : cv % 2 ^ (b + 1) = 2 ^ b - 1) : yf_I3 cl m D' b (cv + 2 ^ (b + 1)) := fun K hK hc => by
  obtain ⟨s, r, h1, h2, h3, h4, h5⟩ := h K hK hc
  by_cases z : yf_b s b
  · exact ⟨s, r, h1, h2, h3, by have := hw.1 s; omega, Or.inl z⟩
  · have h6 := h5.elim (fun w => absurd w z) id
    by_cases e : s = cv
    · obtain ⟨r', B, e1, g1, g2, g3⟩ := yf_cv_p r _ b h3 ⟨hb, z⟩
      obtain ⟨k, hk, hB⟩ := hs.2 (fun i => i < m ∧ B i) (fun i hi => hi.1) ⟨hb, g2⟩ (hmo _ B (fun i hi => hi.2) g1)
      have hl := (hs.1 k hk).1
      refine ⟨cv ||| (S k).toNat, r', yf_or_lt (by rw [← e]; exact h1) hl, fun i hi => ?_, ?_, ?_, Or.inl ?_⟩
      · rw [yf_bor, ← e]
        exact Or.inl (h2 i hi)
      · refine yf_cv_m r' _ _ (fun i hi => ?_) g3
        have w := hi.2
        rw [yf_bor, ← e] at w
        exact ⟨⟨hi.1, fun u => w (Or.inl u)⟩, fun u => w (Or.inr (hB i ⟨hi.1, u⟩))⟩
      · have k1 := hw.2.2 k hk
        rw [e] at h4
        omega
      · rw [yf_bor]
        exact Or.inr (hB b ⟨hb, g2⟩)
    · exact ⟨s, r, h1, h2, h3, by have := hw.1 s; omega, Or.inr (yf_nx (yf_mod2 h2 z) hm h6 e)⟩
theorem yf_fin {cl : (Nat → Prop) → Prop} {m : Nat} {D : Nat → Int} (h1 : yf_I1 cl m D) (h2 : yf_I2 cl m D m) (hm : m ≤ 12) (hc : yf_cv cl m (fun i => i < m)) : yf_ls cl m (D (2 ^ m - 1)) := by
  have key : ∀ K : Nat, K ≤ 12 → yf_cv cl K (fun i => i < m) → D (2 ^ m - 1) ≤ (K : Int) := fun K hK hk => by
    obtain ⟨s, r, q1, q2, q3, q4⟩ := h2 K hK hk
    have e : s = 2 ^ m - 1 := yf_ext fun i => by
      rw [yf_ball]
      exact ⟨fun w => yf_ge q1 w, q2 i⟩
    rw [← e]
    omega
  have k0 := key m hm hc
  have hp := Nat.two_pow_pos m
  obtain ⟨g1, g2, g3⟩ := h1 (2 ^ m - 1) (by omega)
  refine ⟨g2, yf_cv_m _ _ _ (fun i hi => yf_ball.mpr hi) (g3 (by omega)), fun k hk => ?_⟩
  by_cases z : k ≤ 12
  · exact key k z hk
  · omega
