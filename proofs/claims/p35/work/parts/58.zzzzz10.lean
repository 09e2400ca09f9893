/-! the reference: the least number -/
def yf_bk (cl : (Nat → Prop) → Prop) (Bx : Nat → Int) (a : Nat) : Prop := ∀ s : Nat, 1 ≤ s → s < a → ((Bx s = 1 ∧ cl (yf_b s)) ∨ (Bx s = 0 ∧ ¬ cl (yf_b s)))
theorem yf_bk_s {cl : (Nat → Prop) → Prop} {Bx Bx' : Nat → Int} {a : Nat} {z : Int} (h : yf_bk cl Bx a) (hw : Bx' = yq_set Bx a z) (hz : (z = 1 ∧ cl (yf_b a)) ∨ (z = 0 ∧ ¬ cl (yf_b a))) : yf_bk cl Bx' (a + 1) := fun s h1 h2 => by
  rw [hw]
  unfold yq_set
  by_cases e : s = a
  · rw [if_pos e, e]
    exact hz
  · rw [if_neg e]
    exact h s h1 (by omega)
def yf_fm (cl : (Nat → Prop) → Prop) (F : Nat → Int) (a : Nat) : Prop := F 0 = 0 ∧ ∀ s : Nat, 0 < s → s < a → yf_F cl F s
/-- in the midst: what is left are the parts at most p -/
def yf_md (cl : (Nat → Prop) → Prop) (F : Nat → Int) (s fi re p : Nat) (mo : Int) : Prop := F s ≤ 100 ∧ (F s = 100 ∨ ∃ B : Nat, (∀ k, yf_b B k → yf_b s k) ∧ B ≠ 0 ∧ cl (yf_b B) ∧ F s = F (s ^^^ B) + 1) ∧ ∀ q : Nat, (∀ k, yf_b q k → yf_b re k) → (p < q ∨ mo = 0) → cl (yf_b (q ||| fi)) → F s ≤ F (s ^^^ (q ||| fi)) + 1
/-- the lowest of a number -/
def yf_lw (s fi : Nat) : Prop := ∃ b : Nat, fi = 2 ^ b ∧ yf_b s b ∧ ∀ i, i < b → ¬ yf_b s i
def yf_ck3 : Bool := (List.range 4096).all fun s => s == 0 || (List.range 12).any fun b => decide (Int32.ofInt (s : Int) &&& Int32.ofInt (-(s : Int)) = Int32.ofInt ((2 ^ b : Nat) : Int)) && (s.testBit b && (List.range b).all fun i => !s.testBit i)
theorem yf_ck3_ok : yf_ck3 = true := by decide +kernel
theorem yf_neg {s w z : Int} (h1 : 1 ≤ s) (h2 : s ≤ 4095) (hw : w = -s) (hz0 : -2147483648 ≤ z) (hz1 : z ≤ 2147483647) (h : Int32.ofInt z = Int32.ofInt s &&& Int32.ofInt w) : 0 ≤ z ∧ yf_lw s.toNat z.toNat := by
  have k := List.all_eq_true.mp yf_ck3_ok s.toNat (List.mem_range.mpr (by omega))
  rcases (Bool.or_eq_true _ _).mp k with k | k
  · have := eq_of_beq k
    omega
  · obtain ⟨b, hb, k2⟩ := List.any_eq_true.mp k
    have k2 : (decide (Int32.ofInt (s.toNat : Int) &&& Int32.ofInt (-(s.toNat : Int)) = Int32.ofInt ((2 ^ b : Nat) : Int)) && (s.toNat.testBit b && (List.range b).all fun i => !s.toNat.testBit i)) = true := k2
    rw [Bool.and_eq_true, Bool.and_eq_true, decide_eq_true_eq, show ((s.toNat : Nat) : Int) = s by omega] at k2
    obtain ⟨k3, k4, k5⟩ := k2
    rw [hw, k3] at h
    have hb2 := List.mem_range.mp hb
    have hp := yb_p12 (j := b) (by omega)
    have hp0 := Nat.two_pow_pos b
    have e := yb_i32 hz0 hz1 (by omega) (by omega) h
    refine ⟨by omega, b, by omega, k4, fun i hi hs => ?_⟩
    have k6 : (!s.toNat.testBit i) = true := List.all_eq_true.mp k5 i (List.mem_range.mpr hi)
    unfold yf_b at hs
    rw [hs] at k6
    exact absurd k6 (by decide)
theorem yf_xori (a b : Nat) : Int32.ofInt (a : Int) ^^^ Int32.ofInt (b : Int) = Int32.ofInt ((a ^^^ b : Nat) : Int) := by
  apply Int32.toBitVec_inj.mp
  simp [Int32.toBitVec_xor, Int32.toBitVec_ofInt, BitVec.ofInt_natCast, BitVec.ofNat_xor]
theorem yf_xore {x y z : Int} (hx0 : 0 ≤ x) (hx : x ≤ 4095) (hy0 : 0 ≤ y) (hy : y ≤ 4095) (hz0 : -2147483648 ≤ z) (hz : z ≤ 2147483647) (h : Int32.ofInt z = Int32.ofInt x ^^^ Int32.ofInt y) : 0 ≤ z ∧ z.toNat = x.toNat ^^^ y.toNat := by
  rw [show x = ((x.toNat : Nat) : Int) by omega, show y = ((y.toNat : Nat) : Int) by omega, yf_xori] at h
  have h2 := Nat.xor_lt_two_pow (x := x.toNat) (y := y.toNat) (n := 12) (by omega) (by omega)
  have e := yb_i32 hz0 hz (by omega) (by omega) h
  omega
theorem yf_ore {x y z : Int} (hx0 : 0 ≤ x) (hx : x ≤ 4095) (hy0 : 0 ≤ y) (hy : y ≤ 4095) (hz0 : 0 ≤ z) (hz : z ≤ 4095) (h : Int32.ofInt z = Int32.ofInt x ||| Int32.ofInt y) : z.toNat = x.toNat ||| y.toNat := by
  have e := yb_ore (a := x.toNat) (b := y.toNat) (by omega) (by omega) (by omega) (by omega) hz0 hz h
  omega
theorem yf_ande {x y z : Int} (hx0 : 0 ≤ x) (hx : x ≤ 4095) (hy0 : 0 ≤ y) (hz0 : 0 ≤ z) (hz : z ≤ 4095) (h : Int32.ofInt z = Int32.ofInt x &&& Int32.ofInt y) : z.toNat = x.toNat &&& y.toNat := by
  have e := yb_ande (a := x.toNat) (b := y.toNat) (by omega) (by omega) (by omega) hz0 hz h
  omega
theorem yf_inc {x z : Int} (hx0 : 0 ≤ x) (hx : x ≤ 2147483646) (hz0 : -2147483648 ≤ z) (hz : z ≤ 2147483647) (h : Int32.ofInt z = Int32.ofInt x + Int32.ofInt 1) : z = x + 1 := by
  rw [← Int32.ofInt_add] at h
  exact yb_i32 hz0 hz (by omega) (by omega) h
theorem yf_lw_b {s fi : Nat} (h : yf_lw s fi) (k : Nat) : yf_b fi k ↔ (yf_b s k ∧ ∀ i, i < k → ¬ yf_b s i) := by
  obtain ⟨b, e, h1, h2⟩ := h
  have t : yf_b fi k ↔ k = b := by
    rw [e]
    unfold yf_b
    rw [Nat.testBit_two_pow, decide_eq_true_eq]
    exact ⟨fun q => q.symm, fun q => q.symm⟩
  rw [t]
  constructor
  · intro q
    rw [q]
    exact ⟨h1, h2⟩
  · intro ⟨q1, q2⟩
    by_cases z : k < b
    · exact absurd q1 (h2 k z)
    · by_cases w : b < k
      · exact absurd h1 (q2 b w)
      · omega
theorem yf_lw_s {s fi : Nat} (h : yf_lw s fi) (k : Nat) (hk : yf_b fi k) : yf_b s k := ((yf_lw_b h k).mp hk).1
theorem yf_lw_0 {s fi : Nat} (h : yf_lw s fi) : fi ≠ 0 := by
  obtain ⟨b, e, -⟩ := h
  have := Nat.two_pow_pos b
  omega
/-- the rest, and parts of it -/
theorem yf_re {s fi : Nat} (h : yf_lw s fi) (k : Nat) : yf_b (s ^^^ fi) k ↔ (yf_b s k ∧ ¬ yf_b fi k) := yf_bxor (yf_lw_s h)
theorem yf_qs {s fi q : Nat} (h : yf_lw s fi) (hq : ∀ k, yf_b q k → yf_b (s ^^^ fi) k) (k : Nat) (hk : yf_b (q ||| fi) k) : yf_b s k := by
  rw [yf_bor] at hk
  rcases hk with w | w
  · exact ((yf_re h k).mp (hq k w)).1
  · exact yf_lw_s h k w
theorem yf_q0 {s fi q : Nat} (h : yf_lw s fi) : q ||| fi ≠ 0 := fun e => by
  obtain ⟨b, e2, h1, h2⟩ := h
  have t : yf_b (q ||| fi) b := by
    rw [yf_bor, e2]
    refine Or.inr ?_
    unfold yf_b
    rw [Nat.testBit_two_pow, decide_eq_true_eq]
  rw [e] at t
  exact yf_b0 b t
/-- at the start of a number -/
theorem yf_md_0 {cl : (Nat → Prop) → Prop} {F : Nat → Int} {s fi re : Nat} (h1 : F s = 100) : yf_md cl F s fi re re 1 := by
  refine ⟨by omega, Or.inl h1, fun q hq h2 => ?_⟩
  rcases h2 with w | w
  · exfalso
    have := yf_le hq
    omega
  · exact absurd w (by decide)
/-- one part more -/
theorem yf_md_s {cl : (Nat → Prop) → Prop} {F F' : Nat → Int} {s fi p p' : Nat} {mo' : Int} (hl : yf_lw s fi) (h : yf_md cl F s fi (s ^^^ fi) p 1) (hp : ∀ k, yf_b p k → yf_b (s ^^^ fi) k) (h1 : (F' = F ∧ (cl (yf_b (p ||| fi)) → F s ≤ F (s ^^^ (p ||| fi)) + 1)) ∨ (cl (yf_b (p ||| fi)) ∧ F (s ^^^ (p ||| fi)) + 1 < F s ∧ F' = yq_set F s (F (s ^^^ (p ||| fi)) + 1))) (hm : (p = 0 ∧ mo' = 0) ∨ (p ≠ 0 ∧ mo' = 1 ∧ p' = (p - 1) &&& (s ^^^ fi))) : yf_md cl F' s fi (s ^^^ fi) p' mo' := by
  obtain ⟨g1, g2, g3⟩ := h
  have lt : ∀ B : Nat, (∀ k, yf_b B k → yf_b s k) → B ≠ 0 → s ^^^ B ≠ s := fun B b1 b2 e => by
    have := yf_xlt b1 b2
    omega
  have nx : ∀ q : Nat, (∀ k, yf_b q k → yf_b (s ^^^ fi) k) → (p' < q ∨ mo' = 0) → p < q ∨ q = p := fun q hq hh => by
    by_cases z : p < q
    · exact Or.inl z
    · by_cases w : q = p
      · exact Or.inr w
      · exfalso
        rcases hm with ⟨m1, m2⟩ | ⟨m1, m2, m3⟩
        · omega
        · have k := yf_sm p (s ^^^ fi) q hp hq (by omega)
          omega
  rcases h1 with ⟨e, h2⟩ | ⟨c1, c2, e⟩
  · rw [e]
    refine ⟨g1, g2, fun q hq hh hc => ?_⟩
    rcases nx q hq hh with w | w
    · exact g3 q hq (Or.inl w) hc
    · rw [w] at hc ⊢
      exact h2 hc
  · have es : F' s = F (s ^^^ (p ||| fi)) + 1 := by
      rw [e]
      exact if_pos rfl
    have en : ∀ t : Nat, t ≠ s → F' t = F t := fun t ht => by
      rw [e]
      exact if_neg ht
    have sb := yf_qs hl hp
    have nz := yf_q0 (q := p) hl
    refine ⟨by omega, Or.inr ⟨p ||| fi, sb, nz, c1, ?_⟩, fun q hq hh hc => ?_⟩
    · rw [es, en _ (lt _ sb nz)]
    · rw [es, en _ (lt _ (yf_qs hl hq) (yf_q0 hl))]
      rcases nx q hq hh with w | w
      · have := g3 q hq (Or.inl w) hc
        omega
      · rw [w]
        exact Int.le_refl _
/-- a number done -/
theorem yf_md_e {cl : (Nat → Prop) → Prop} {F : Nat → Int} {s fi p : Nat} (hl : yf_lw s fi) (h : yf_md cl F s fi (s ^^^ fi) p 0) : yf_F cl F s := by
  obtain ⟨g1, g2, g3⟩ := h
  refine ⟨g1, g2, fun B h1 h2 h3 => ?_⟩
  have hf : ∀ k, yf_b fi k → yf_b B k := fun k hk => by
    obtain ⟨q1, q2⟩ := (yf_lw_b hl k).mp hk
    exact h2 k q1 q2
  have e : (B ^^^ fi) ||| fi = B := yf_ext fun k => by
    rw [yf_bor, yf_bxor hf]
    have := hf k
    by_cases z : yf_b fi k
    · exact ⟨fun _ => this z, fun _ => Or.inr z⟩
    · exact ⟨fun w => w.elim (fun u => u.1) (fun u => absurd u z), fun w => Or.inl ⟨w, z⟩⟩
  have k := g3 (B ^^^ fi) (fun k hk => by
    have := (yf_bxor hf).mp hk
    exact (yf_re hl k).mpr ⟨h1 k this.1, this.2⟩) (Or.inr rfl) (by rw [e]; exact h3)
  rw [e] at k
  exact k
/-- numbers below do not feel what is written at s -/
theorem yf_F_w {cl : (Nat → Prop) → Prop} {F F' : Nat → Int} {s : Nat} (hw : ∀ t : Nat, t ≠ s → F' t = F t) {t : Nat} (ht : t < s) (h : yf_F cl F t) (h0 : 0 < t) : yf_F cl F' t := by
  obtain ⟨h1, h2, h3⟩ := h
  have lt : ∀ B : Nat, (∀ k, yf_b B k → yf_b t k) → t ^^^ B ≠ s := fun B hB => by
    by_cases z : B = 0
    · rw [z, Nat.xor_zero]
      omega
    · have := yf_xlt hB z
      omega
  rw [← hw t (by omega)] at h1 h2
  refine ⟨h1, ?_, fun B b1 b2 b3 => ?_⟩
  · rcases h2 with q | ⟨B, q1, q2, q3, q4⟩
    · exact Or.inl q
    · exact Or.inr ⟨B, q1, q2, q3, by rw [q4, hw _ (lt B q1)]⟩
  · rw [hw t (by omega), hw _ (lt B b1)]
    exact h3 B b1 b2 b3
theorem yf_fm_w {cl : (Nat → Prop) → Prop} {F F' : Nat → Int} {s : Nat} (hs : 0 < s) (hw : ∀ t : Nat, t ≠ s → F' t = F t) (h : yf_fm cl F s) : yf_fm cl F' s := ⟨by rw [hw 0 (by omega)]; exact h.1, fun t h0 ht => yf_F_w hw ht (h.2 t h0 ht) h0⟩
theorem yf_fm_s {cl : (Nat → Prop) → Prop} {F : Nat → Int} {s : Nat} (h : yf_fm cl F s) (hf : yf_F cl F s) : yf_fm cl F (s + 1) := ⟨h.1, fun t h0 ht => by
  by_cases e : t = s
  · rw [e]
    exact hf
  · exact h.2 t h0 (by omega)⟩
/-- the answer of the reference -/
theorem yf_fm_e {cl : (Nat → Prop) → Prop} {F : Nat → Int} {m : Nat} (hmo : ∀ A B : Nat → Prop, (∀ k, A k → B k) → cl B → cl A) (h : yf_fm cl F (2 ^ m)) (hm : m ≤ 12) (hc : yf_cv cl m (fun i => i < m)) : yf_ls cl m (F (2 ^ m - 1)) := by
  have hp := Nat.two_pow_pos m
  have k0 := yf_F_le hmo h.1 h.2 (2 ^ m - 1) m (by omega) (yf_cv_m m _ _ (fun i hi => yf_ball.mp hi) hc)
  obtain ⟨k1, k2⟩ := yf_F_cv h.1 h.2 (2 ^ m - 1) (by omega) (by omega)
  exact ⟨k1, yf_cv_m _ _ _ (fun i hi => yf_ball.mpr hi) k2, fun k hk => yf_F_le hmo h.1 h.2 (2 ^ m - 1) k (by omega) (yf_cv_m k _ _ (fun i hi => yf_ball.mp hi) hk)⟩
theorem yf_band {a b k : Nat} (h : yf_b (a &&& b) k) : yf_b b k := by
  unfold yf_b at h ⊢
  rw [Nat.testBit_and, Bool.and_eq_true] at h
  exact h.2
theorem yf_fm_b {cl : (Nat → Prop) → Prop} {F : Nat → Int} {a : Nat} (h : yf_fm cl F a) {t : Nat} (ht : t < a) : 0 ≤ F t ∧ F t ≤ 100 := by
  by_cases z : t = 0
  · rw [z, h.1]
    exact ⟨by decide, by decide⟩
  · have h1 := (h.2 t (by omega) ht).1
    by_cases w : F t < 100
    · exact ⟨(yf_F_cv h.1 h.2 t ht w).1, h1⟩
    · exact ⟨by omega, h1⟩

