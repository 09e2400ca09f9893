/-! the reference's sets -/
noncomputable def yw_m (ch : Nat → Int) (k : Int) (j : Nat) : Prop := ∃ i : Nat, (i : Int) < k ∧ (ch i).toNat = j
theorem yw_m0 {ch : Nat → Int} {j : Nat} : ¬ yw_m ch 0 j := fun ⟨i, h, _⟩ => by omega
theorem yw_ms {ch : Nat → Int} {k : Int} (h0 : 0 ≤ k) (j : Nat) : yw_m ch (k + 1) j ↔ (yw_m ch k j ∨ j = (ch k.toNat).toNat) := by
  constructor
  · rintro ⟨i, h, e⟩
    by_cases q : (i : Int) < k
    · exact Or.inl ⟨i, q, e⟩
    · refine Or.inr ?_
      rw [← e, show k.toNat = i by omega]
  · rintro (⟨i, h, e⟩ | e)
    · exact ⟨i, by omega, e⟩
    · exact ⟨k.toNat, by omega, e.symm⟩
theorem yw_mw {al : Nat → Int} {o p : Int} (h0 : 0 ≤ o) (j : Nat) : yw_m (yq_set al o.toNat p) (o + 1) j ↔ (yw_m al o j ∨ j = p.toNat) := by
  rw [yw_ms h0]
  have h1 : yq_set al o.toNat p o.toNat = p := if_pos rfl
  rw [h1]
  have h2 : yw_m (yq_set al o.toNat p) o j ↔ yw_m al o j := by
    constructor
    · rintro ⟨i, h, e⟩
      refine ⟨i, h, ?_⟩
      have h3 : yq_set al o.toNat p i = al i := if_neg (by omega)
      rw [← h3]
      exact e
    · rintro ⟨i, h, e⟩
      refine ⟨i, h, ?_⟩
      have h3 : yq_set al o.toNat p i = al i := if_neg (by omega)
      rw [h3]
      exact e
  rw [h2]
/-- choose -/
theorem yw_ch0 {ch : Nat → Int} {s : Nat} (j : Nat) : yw_m ch 0 j ↔ (j < (0 : Int).toNat ∧ s.testBit j = true) := ⟨fun h => absurd h yw_m0, fun h => absurd h.1 (Nat.not_lt_zero j)⟩
theorem yw_chn {ch : Nat → Int} {cm k : Int} {s : Nat} (hk : 0 ≤ k) (h : ∀ j : Nat, yw_m ch cm j ↔ (j < k.toNat ∧ s.testBit j = true)) (hb : ¬ s.testBit k.toNat = true) (j : Nat) : yw_m ch cm j ↔ (j < (k + 1).toNat ∧ s.testBit j = true) := by
  rw [h j]
  constructor
  · exact fun q => ⟨by omega, q.2⟩
  · intro q
    refine ⟨?_, q.2⟩
    by_cases z : j = k.toNat
    · rw [z] at q
      exact absurd q.2 hb
    · omega
theorem yw_chs {ch : Nat → Int} {cm k : Int} {s : Nat} (hc : 0 ≤ cm) (hk : 0 ≤ k) (h : ∀ j : Nat, yw_m ch cm j ↔ (j < k.toNat ∧ s.testBit j = true)) (hb : s.testBit k.toNat = true) (j : Nat) : yw_m (yq_set ch cm.toNat k) (cm + 1) j ↔ (j < (k + 1).toNat ∧ s.testBit j = true) := by
  rw [yw_mw hc, h j]
  constructor
  · rintro (q | q)
    · exact ⟨by omega, q.2⟩
    · rw [q]
      exact ⟨by omega, hb⟩
  · intro q
    by_cases z : j = k.toNat
    · exact Or.inr z
    · exact Or.inl ⟨by omega, q.2⟩
theorem yw_che {ch : Nat → Int} {cm : Int} {s : Nat} (hs : s < 4096) (h : ∀ j : Nat, yw_m ch cm j ↔ (j < (12 : Int).toNat ∧ s.testBit j = true)) (j : Nat) : yw_m ch cm j ↔ s.testBit j = true := by
  rw [h j]
  refine ⟨fun q => q.2, fun q => ⟨?_, q⟩⟩
  apply Nat.lt_of_not_le
  intro z
  have z2 : 12 ≤ j := z
  rw [Nat.testBit_lt_two_pow (Nat.lt_of_lt_of_le hs (Nat.pow_le_pow_right (n := 2) (by decide) z2))] at q
  cases q
/-- numbers and what their bits are -/
noncomputable def yw_bits (s : Nat) (Q : Nat → Prop) : Prop := ∀ j : Nat, s.testBit j = true ↔ Q j
noncomputable def yw_B (z : Int) (Q : Nat → Prop) : Prop := 0 ≤ z ∧ z ≤ 4095 ∧ yw_bits z.toNat Q
theorem yw_bi {s : Nat} {P Q : Nat → Prop} (e : ∀ j : Nat, P j ↔ Q j) : yw_bits s P ↔ yw_bits s Q := ⟨fun h j => (h j).trans (e j), fun h j => (h j).trans (e j).symm⟩
theorem yw_B0 {Q : Nat → Prop} (h : ∀ j : Nat, ¬ Q j) : yw_B 0 Q := ⟨by decide, by decide, fun j => by
  rw [show (0 : Int).toNat = 0 from rfl, Nat.zero_testBit]
  exact ⟨fun z => absurd z (by decide), fun z => absurd z (h j)⟩⟩
theorem yw_Bc {z : Int} {P Q : Nat → Prop} (h : yw_B z P) (e : ∀ j : Nat, P j ↔ Q j) : yw_B z Q := ⟨h.1, h.2.1, fun j => (h.2.2 j).trans (e j)⟩
theorem yw_Bs {z w z' p : Int} {P : Nat → Prop} (h : yw_B z P) (p0 : 0 ≤ p) (p1 : p ≤ 11) (w0 : 0 ≤ w) (w1 : w ≤ 4096) (e1 : Int32.ofInt w = Int32.ofInt 1 <<< (Int32.ofInt p &&& 31)) (z0 : 0 ≤ z') (z1 : z' ≤ 4095) (e2 : Int32.ofInt z' = Int32.ofInt z ||| Int32.ofInt w) : yw_B z' (fun j => P j ∨ j = p.toNat) := by
  have h1 := yb_shl p0 (by omega) w0 w1 e1
  have h2 := yb_ore (a := z.toNat) (b := 2 ^ p.toNat) (by have := h.1; omega) h1 (by have := h.2.1; omega) (yb_pw (by omega)) z0 z1 e2
  refine ⟨z0, z1, fun j => ?_⟩
  rw [show z'.toNat = z.toNat ||| 2 ^ p.toNat by omega, Nat.testBit_or, Bool.or_eq_true, h.2.2 j, Nat.testBit_two_pow, decide_eq_true_iff]
  exact ⟨fun q => q.imp id Eq.symm, fun q => q.imp id Eq.symm⟩
theorem yw_Bz {z z' : Int} {P : Nat → Prop} (h : yw_B z P) (z0 : 0 ≤ z') (z1 : z' ≤ 4095) (e2 : Int32.ofInt z' = Int32.ofInt z ||| Int32.ofInt 0) : yw_B z' P := by
  have h2 := yb_ore (a := z.toNat) (b := 0) (by have := h.1; omega) rfl (by have := h.2.1; omega) (by decide) z0 z1 e2
  rw [Nat.or_zero] at h2
  rw [show z' = z by have := h.1; omega]
  exact h
theorem yw_add {z z' w p k : Int} {D q : Nat → Prop} {al : Nat → Int} (h : yw_B z (fun j => D j ∨ (yw_m al k j ∧ q j))) (hk : 0 ≤ k) (hp : p = al k.toNat) (p0 : 0 ≤ p) (p1 : p ≤ 11) (hq : q p.toNat) (w0 : 0 ≤ w) (w1 : w ≤ 4096) (e1 : Int32.ofInt w = Int32.ofInt 1 <<< (Int32.ofInt p &&& 31)) (z0 : 0 ≤ z') (z1 : z' ≤ 4095) (e2 : Int32.ofInt z' = Int32.ofInt z ||| Int32.ofInt w) : yw_B z' (fun j => D j ∨ (yw_m al (k + 1) j ∧ q j)) := by
  refine yw_Bc (yw_Bs h p0 p1 w0 w1 e1 z0 z1 e2) fun j => ?_
  rw [yw_ms hk, ← hp]
  constructor
  · rintro ((a | ⟨a, b⟩) | a)
    · exact Or.inl a
    · exact Or.inr ⟨Or.inl a, b⟩
    · rw [a]
      exact Or.inr ⟨Or.inr rfl, hq⟩
  · rintro (a | ⟨a | a, b⟩)
    · exact Or.inl (Or.inl a)
    · exact Or.inl (Or.inr ⟨a, b⟩)
    · exact Or.inr a
theorem yw_skp {z z' p k : Int} {D q : Nat → Prop} {al : Nat → Int} (h : yw_B z (fun j => D j ∨ (yw_m al k j ∧ q j))) (hk : 0 ≤ k) (hp : p = al k.toNat) (hq : ¬ q p.toNat) (z0 : 0 ≤ z') (z1 : z' ≤ 4095) (e2 : Int32.ofInt z' = Int32.ofInt z ||| Int32.ofInt 0) : yw_B z' (fun j => D j ∨ (yw_m al (k + 1) j ∧ q j)) := by
  refine yw_Bc (yw_Bz h z0 z1 e2) fun j => ?_
  rw [yw_ms hk, ← hp]
  constructor
  · rintro (a | ⟨a, b⟩)
    · exact Or.inl a
    · exact Or.inr ⟨Or.inl a, b⟩
  · rintro (a | ⟨a | a, b⟩)
    · exact Or.inl a
    · exact Or.inr ⟨a, b⟩
    · rw [a] at b
      exact absurd b hq
theorem yw_aln {al ch : Nat → Int} {o p k : Int} {q : Nat → Prop} (h : ∀ j : Nat, yw_m al o j ↔ (yw_m ch k j ∧ q j)) (hk : 0 ≤ k) (hp : p = ch k.toNat) (hq : ¬ q p.toNat) (j : Nat) : yw_m al o j ↔ (yw_m ch (k + 1) j ∧ q j) := by
  rw [h j, yw_ms hk, ← hp]
  constructor
  · exact fun a => ⟨Or.inl a.1, a.2⟩
  · rintro ⟨a | a, b⟩
    · exact ⟨a, b⟩
    · rw [a] at b
      exact absurd b hq
theorem yw_als {al ch : Nat → Int} {o p k : Int} {q : Nat → Prop} (h : ∀ j : Nat, yw_m al o j ↔ (yw_m ch k j ∧ q j)) (ho : 0 ≤ o) (hk : 0 ≤ k) (hp : p = ch k.toNat) (hq : q p.toNat) (j : Nat) : yw_m (yq_set al o.toNat p) (o + 1) j ↔ (yw_m ch (k + 1) j ∧ q j) := by
  rw [yw_mw ho, h j, yw_ms hk, ← hp]
  constructor
  · rintro (a | a)
    · exact ⟨Or.inl a.1, a.2⟩
    · rw [a]
      exact ⟨Or.inr rfl, hq⟩
  · rintro ⟨a | a, b⟩
    · exact Or.inl ⟨a, b⟩
    · exact Or.inr a
theorem yw_w1 {G : Nat → Int} {z : Int} {Q : Nat → Prop} (h : yw_B z Q) (s : Nat) : yq_set G z.toNat 1 s = 1 ↔ (G s = 1 ∨ yw_bits s Q) := by
  unfold yq_set
  by_cases q : s = z.toNat
  · rw [if_pos q, q]
    exact ⟨fun _ => Or.inr h.2.2, fun _ => rfl⟩
  · rw [if_neg q]
    refine ⟨Or.inl, fun a => a.elim id fun a => absurd (Nat.eq_of_testBit_eq fun i => ?_) q⟩
    have k := (a i).trans (h.2.2 i).symm
    cases e1 : s.testBit i
    · cases e2 : z.toNat.testBit i
      · rfl
      · exact absurd (e1.symm.trans (k.mpr e2)) (by decide)
    · exact (k.mp e1).symm
noncomputable def yw_D (x y : Nat → Int) (c : Nat → Prop) (a b : Nat) : Nat → Prop := fun j => c j ∧ 0 < yq_ar x y a b j
noncomputable def yw_4 (x y : Nat → Int) (c : Nat → Prop) (a b i s : Nat) : Prop := yw_bits s (fun j => c j ∧ yw_up x y a b i j = true) ∨ yw_bits s (fun j => c j ∧ yw_ah x y a b i j = true) ∨ yw_bits s (fun j => c j ∧ yw_fr x y a b i j = true) ∨ yw_bits s (fun j => c j ∧ yw_bh x y a b i j = true)
theorem yw_Fe {c al A E F : Prop} (e : al ↔ (c ∧ E)) : ((c ∧ A) ∨ (al ∧ F)) ↔ (c ∧ (A ∨ (E ∧ F))) := by
  rw [e]
  constructor
  · rintro (⟨h1, h2⟩ | ⟨⟨h1, h2⟩, h3⟩)
    · exact ⟨h1, Or.inl h2⟩
    · exact ⟨h1, Or.inr ⟨h2, h3⟩⟩
  · rintro ⟨h1, h2 | ⟨h2, h3⟩⟩
    · exact Or.inl ⟨h1, h2⟩
    · exact Or.inr ⟨⟨h1, h2⟩, h3⟩
theorem yw_dti {P c : Prop} [Decidable P] : (c ∧ decide P = true) ↔ (c ∧ P) := by
  rw [decide_eq_true_iff]
theorem yw_4e {x y : Nat → Int} {c al : Nat → Prop} {a b i s : Nat} (he : ∀ j : Nat, al j ↔ (c j ∧ yq_ar x y a b j = 0)) : yw_4 x y c a b i s ↔ (yw_bits s (fun j => yw_D x y c a b j ∨ (al j ∧ yw_fu x y a b j ≤ yw_fu x y a b i)) ∨ yw_bits s (fun j => yw_D x y c a b j ∨ (al j ∧ yw_fu x y a b j < yw_fu x y a b i)) ∨ yw_bits s (fun j => yw_D x y c a b j ∨ (al j ∧ yw_fu x y a b i ≤ yw_fu x y a b j)) ∨ yw_bits s (fun j => yw_D x y c a b j ∨ (al j ∧ yw_fu x y a b i < yw_fu x y a b j))) := by
  unfold yw_4
  rw [yw_bi (s := s) (P := fun j => yw_D x y c a b j ∨ (al j ∧ yw_fu x y a b j ≤ yw_fu x y a b i)) fun j => (yw_Fe (he j)).trans yw_dti.symm,
    yw_bi (s := s) (P := fun j => yw_D x y c a b j ∨ (al j ∧ yw_fu x y a b j < yw_fu x y a b i)) fun j => (yw_Fe (he j)).trans yw_dti.symm,
    yw_bi (s := s) (P := fun j => yw_D x y c a b j ∨ (al j ∧ yw_fu x y a b i ≤ yw_fu x y a b j)) fun j => (yw_Fe (he j)).trans yw_dti.symm,
    yw_bi (s := s) (P := fun j => yw_D x y c a b j ∨ (al j ∧ yw_fu x y a b i < yw_fu x y a b j)) fun j => (yw_Fe (he j)).trans yw_dti.symm]
  exact Iff.rfl
theorem yw_T4 {al : Nat → Int} {k : Int} {P O B1 B2 B3 B4 : Prop} {Q : Nat → Prop} (h0 : 0 ≤ k) (hP : P ↔ (O ∨ ∃ i : Nat, yw_m al k i ∧ Q i)) (hQ : Q (al k.toNat).toNat ↔ (B1 ∨ B2 ∨ B3 ∨ B4)) : ((((P ∨ B1) ∨ B2) ∨ B3) ∨ B4) ↔ (O ∨ ∃ i : Nat, yw_m al (k + 1) i ∧ Q i) := by
  rw [hP]
  constructor
  · intro h
    by_cases q : B1 ∨ B2 ∨ B3 ∨ B4
    · exact Or.inr ⟨_, (yw_ms h0 _).mpr (Or.inr rfl), hQ.mpr q⟩
    · rcases h with (((h | h) | h) | h) | h
      · rcases h with h | ⟨i, h1, h2⟩
        · exact Or.inl h
        · exact Or.inr ⟨i, (yw_ms h0 _).mpr (Or.inl h1), h2⟩
      · exact absurd (Or.inl h) q
      · exact absurd (Or.inr (Or.inl h)) q
      · exact absurd (Or.inr (Or.inr (Or.inl h))) q
      · exact absurd (Or.inr (Or.inr (Or.inr h))) q
  · rintro (h | ⟨i, h1, h2⟩)
    · exact Or.inl (Or.inl (Or.inl (Or.inl (Or.inl h))))
    · rcases (yw_ms h0 _).mp h1 with h3 | h3
      · exact Or.inl (Or.inl (Or.inl (Or.inl (Or.inr ⟨i, h3, h2⟩))))
      · rw [h3] at h2
        rcases hQ.mp h2 with h | h | h | h
        · exact Or.inl (Or.inl (Or.inl (Or.inr h)))
        · exact Or.inl (Or.inl (Or.inr h))
        · exact Or.inl (Or.inr h)
        · exact Or.inr h
theorem yw_Te {al : Nat → Int} {k : Int} {P O : Prop} {c E Q : Nat → Prop} (hP : P ↔ (O ∨ ∃ i : Nat, yw_m al k i ∧ Q i)) (he : ∀ j : Nat, yw_m al k j ↔ (c j ∧ E j)) : P ↔ (O ∨ ∃ i : Nat, c i ∧ E i ∧ Q i) := by
  rw [hP]
  constructor
  · rintro (h | ⟨i, h1, h2⟩)
    · exact Or.inl h
    · exact Or.inr ⟨i, ((he i).mp h1).1, ((he i).mp h1).2, h2⟩
  · rintro (h | ⟨i, h1, h2, h3⟩)
    · exact Or.inl h
    · exact Or.inr ⟨i, (he i).mpr ⟨h1, h2⟩, h3⟩
noncomputable def yw_RR (x y : Nat → Int) (c : Nat → Prop) (S s : Nat) : Prop := s = 0 ∨ s = S ∨ ∃ a b : Nat, c a ∧ c b ∧ ¬ (x a = x b ∧ y a = y b) ∧ ∃ i : Nat, c i ∧ yq_ar x y a b i = 0 ∧ yw_4 x y c a b i s
noncomputable def yw_RP (x y : Nat → Int) (ch : Nat → Int) (cm : Int) (S : Nat) (I K : Int) (s : Nat) : Prop := s = 0 ∨ s = S ∨ ∃ p q : Nat, (p : Int) < cm ∧ (q : Int) < cm ∧ ((p : Int) < I ∨ ((p : Int) = I ∧ (q : Int) < K)) ∧ ¬ (x (ch p).toNat = x (ch q).toNat ∧ y (ch p).toNat = y (ch q).toNat) ∧ ∃ i : Nat, yw_m ch cm i ∧ yq_ar x y (ch p).toNat (ch q).toNat i = 0 ∧ yw_4 x y (yw_m ch cm) (ch p).toNat (ch q).toNat i s
theorem yw_RP0 {x y ch G : Nat → Int} {cm : Int} {S s : Nat} (h : G s = 0) : yq_set (yq_set G 0 1) S 1 s = 1 ↔ yw_RP x y ch cm S 0 0 s := by
  unfold yq_set
  by_cases q : s = S
  · rw [if_pos q]
    exact ⟨fun _ => Or.inr (Or.inl q), fun _ => rfl⟩
  · rw [if_neg q]
    by_cases q0 : s = 0
    · rw [if_pos q0]
      exact ⟨fun _ => Or.inl q0, fun _ => rfl⟩
    · rw [if_neg q0, h]
      refine ⟨fun z => absurd z (by decide), ?_⟩
      rintro (z | z | ⟨p, r, _, _, z, _⟩)
      · exact absurd z q0
      · exact absurd z q
      · omega
theorem yw_RPn {x y ch : Nat → Int} {cm I K : Int} {S s : Nat} (hI : 0 ≤ I) (hK : 0 ≤ K) (hs : x (ch I.toNat).toNat = x (ch K.toNat).toNat ∧ y (ch I.toNat).toNat = y (ch K.toNat).toNat) : yw_RP x y ch cm S I K s ↔ yw_RP x y ch cm S I (K + 1) s := by
  constructor
  · rintro (z | z | ⟨p, r, h1, h2, h3, h4⟩)
    · exact Or.inl z
    · exact Or.inr (Or.inl z)
    · exact Or.inr (Or.inr ⟨p, r, h1, h2, by omega, h4⟩)
  · rintro (z | z | ⟨p, r, h1, h2, h3, h4, h5⟩)
    · exact Or.inl z
    · exact Or.inr (Or.inl z)
    · by_cases q : (p : Int) = I ∧ (r : Int) = K
      · rw [show p = I.toNat by omega, show r = K.toNat by omega] at h4
        exact absurd hs h4
      · exact Or.inr (Or.inr ⟨p, r, h1, h2, by omega, h4, h5⟩)
theorem yw_RPs {x y ch : Nat → Int} {cm I K : Int} {S s : Nat} {P P' : Prop} (hI : 0 ≤ I) (hK : 0 ≤ K) (hI2 : I < cm) (hK2 : K < cm) (h : P ↔ yw_RP x y ch cm S I K s) (hs : ¬ (x (ch I.toNat).toNat = x (ch K.toNat).toNat ∧ y (ch I.toNat).toNat = y (ch K.toNat).toNat)) (h' : P' ↔ (P ∨ ∃ i : Nat, yw_m ch cm i ∧ yq_ar x y (ch I.toNat).toNat (ch K.toNat).toNat i = 0 ∧ yw_4 x y (yw_m ch cm) (ch I.toNat).toNat (ch K.toNat).toNat i s)) : P' ↔ yw_RP x y ch cm S I (K + 1) s := by
  rw [h', h]
  constructor
  · rintro ((z | z | ⟨p, r, h1, h2, h3, h4⟩) | z)
    · exact Or.inl z
    · exact Or.inr (Or.inl z)
    · exact Or.inr (Or.inr ⟨p, r, h1, h2, by omega, h4⟩)
    · exact Or.inr (Or.inr ⟨I.toNat, K.toNat, by omega, by omega, by omega, hs, z⟩)
  · rintro (z | z | ⟨p, r, h1, h2, h3, h4, h5⟩)
    · exact Or.inl (Or.inl z)
    · exact Or.inl (Or.inr (Or.inl z))
    · by_cases q : (p : Int) = I ∧ (r : Int) = K
      · rw [show p = I.toNat by omega, show r = K.toNat by omega] at h5
        exact Or.inr h5
      · exact Or.inl (Or.inr (Or.inr ⟨p, r, h1, h2, by omega, h4, h5⟩))
theorem yw_RPr {x y ch : Nat → Int} {cm I : Int} {S s : Nat} : yw_RP x y ch cm S I cm s ↔ yw_RP x y ch cm S (I + 1) 0 s := by
  constructor
  · rintro (z | z | ⟨p, r, h1, h2, h3, h4⟩)
    · exact Or.inl z
    · exact Or.inr (Or.inl z)
    · exact Or.inr (Or.inr ⟨p, r, h1, h2, by omega, h4⟩)
  · rintro (z | z | ⟨p, r, h1, h2, h3, h4⟩)
    · exact Or.inl z
    · exact Or.inr (Or.inl z)
    · exact Or.inr (Or.inr ⟨p, r, h1, h2, by omega, h4⟩)
theorem yw_4c {x y : Nat → Int} {c d : Nat → Prop} {a b i s : Nat} (e : ∀ j : Nat, c j ↔ d j) : yw_4 x y c a b i s ↔ yw_4 x y d a b i s := by
  rw [show c = d from funext fun j => propext (e j)]
theorem yw_RPe {x y ch : Nat → Int} {cm : Int} {S s : Nat} {c : Nat → Prop} (e : ∀ j : Nat, yw_m ch cm j ↔ c j) : yw_RP x y ch cm S cm 0 s ↔ yw_RR x y c S s := by
  have e2 : yw_m ch cm = c := funext fun j => propext (e j)
  constructor
  · rintro (z | z | ⟨p, r, h1, h2, h3, h4, h5⟩)
    · exact Or.inl z
    · exact Or.inr (Or.inl z)
    · rw [e2] at h5
      exact Or.inr (Or.inr ⟨_, _, (e _).mp ⟨p, h1, rfl⟩, (e _).mp ⟨r, h2, rfl⟩, h4, h5⟩)
  · rintro (z | z | ⟨a, b, h1, h2, h4, h5⟩)
    · exact Or.inl z
    · exact Or.inr (Or.inl z)
    · obtain ⟨p, p1, p2⟩ := (e _).mpr h1
      obtain ⟨r, r1, r2⟩ := (e _).mpr h2
      rw [← p2, ← r2] at h4 h5
      rw [← e2] at h5
      exact Or.inr (Or.inr ⟨p, r, p1, r1, by omega, h4, h5⟩)
/-- all of the first n -/
theorem yw_alb {n : Nat} (j : Nat) : (2 ^ n - 1).testBit j = true ↔ j < n := by
  rw [Nat.testBit_two_pow_sub_one, decide_eq_true_iff]
theorem yw_RRC {x y : Nat → Int} {n s : Nat} (hnr : yw_nr x y n) (hs : s < 2 ^ n) : yw_RR x y (fun j => (2 ^ n - 1).testBit j = true) (2 ^ n - 1) s ↔ ∃ p : Nat → Bool, s = yb_st p n ∧ yw_C x y n p := by
  have bt : ∀ (p q : Nat → Bool), s = yb_st p n → yw_eq n p q → yw_bits s (fun j => (2 ^ n - 1).testBit j = true ∧ q j = true) := fun p q e h j => by
    rw [e, yb_tb, Bool.and_eq_true, decide_eq_true_iff]
    show j < n ∧ p j = true ↔ (2 ^ n - 1).testBit j = true ∧ q j = true
    rw [yw_alb]
    constructor
    · exact fun z => ⟨z.1, by rw [← h j z.1]; exact z.2⟩
    · exact fun z => ⟨z.1, by rw [h j z.1]; exact z.2⟩
  have tb : ∀ q : Nat → Bool, yw_bits s (fun j => (2 ^ n - 1).testBit j = true ∧ q j = true) → yw_eq n (fun j => s.testBit j) q := fun q h j hj => by
    have k := h j
    show s.testBit j = q j
    cases e1 : s.testBit j
    · cases e2 : q j
      · rfl
      · exact absurd (e1.symm.trans (k.mpr ⟨yw_alb _ |>.mpr hj, e2⟩)) (by decide)
    · exact (k.mp e1).2.symm
  have hall := yb_all n
  constructor
  · intro h
    refine ⟨fun j => s.testBit j, yw_tbe hs fun _ _ => rfl, (yw_iff hnr).mpr ?_⟩
    rcases h with z | z | ⟨a, b, h1, h2, h3, i, h4, h5, h6⟩
    · refine Or.inl fun j _ => ?_
      show s.testBit j = false
      rw [z, Nat.zero_testBit]
    · refine Or.inr (Or.inl fun j hj => ?_)
      show s.testBit j = true
      rw [z]
      exact (yw_alb _).mpr hj
    · refine Or.inr (Or.inr ⟨a, b, i, (yw_alb _).mp h1, (yw_alb _).mp h2, (yw_alb _).mp h4, h3, h5, ?_⟩)
      rcases h6 with q | q | q | q
      · exact Or.inl (tb _ q)
      · exact Or.inr (Or.inl (tb _ q))
      · exact Or.inr (Or.inr (Or.inl (tb _ q)))
      · exact Or.inr (Or.inr (Or.inr (tb _ q)))
  · rintro ⟨p, e, h⟩
    rcases (yw_iff hnr).mp h with z | z | ⟨a, b, i, h1, h2, h4, h3, h5, h6⟩
    · refine Or.inl ?_
      have k1 := yb_st_eq n z
      have k2 := yw_st0 n
      omega
    · refine Or.inr (Or.inl ?_)
      have k1 := yb_st_eq n z
      omega
    · refine Or.inr (Or.inr ⟨a, b, (yw_alb _).mpr h1, (yw_alb _).mpr h2, h3, i, (yw_alb _).mpr h4, h5, ?_⟩)
      rcases h6 with q | q | q | q
      · exact Or.inl (bt _ _ e q)
      · exact Or.inr (Or.inl (bt _ _ e q))
      · exact Or.inr (Or.inr (Or.inl (bt _ _ e q)))
      · exact Or.inr (Or.inr (Or.inr (bt _ _ e q)))
/-- what is asked, and what is answered -/
noncomputable def yw_ok (N n s : Int) : Prop := (0 ≤ n ∧ n ≤ 12 ∧ n ≤ N) ∧ (0 ≤ s ∧ s < ((2 ^ n.toNat : Nat) : Int))
noncomputable def yw_way (x y : Nat → Int) (n s : Int) : Prop := ∃ p : Nat → Bool, s.toNat = yb_st p n.toNat ∧ yw_C x y n.toNat p
noncomputable def yw_ans (x y : Nat → Int) (N n s a : Int) : Prop := (¬ yw_ok N n s → a = -1) ∧ (yw_ok N n s → (a = 0 ∨ a = 1) ∧ (a = 1 ↔ yw_way x y n s))
theorem yw_Ce {x y X Y : Nat → Int} {n : Nat} {p : Nat → Bool} (hx : ∀ j : Nat, j < n → x j = X j) (hy : ∀ j : Nat, j < n → y j = Y j) (h : yw_C x y n p) : yw_C X Y n p := by
  rcases h with h | h | ⟨i, k, h1, h2, h3, h4⟩
  · exact Or.inl h
  · exact Or.inr (Or.inl h)
  · have ea : ∀ j : Nat, j < n → yq_ar x y i k j = yq_ar X Y i k j := fun j hj => by
      unfold yq_ar
      rw [hx i h1, hx k h2, hx j hj, hy i h1, hy k h2, hy j hj]
    have ed : ∀ j : Nat, j < n → yh_dot x y i k j = yh_dot X Y i k j := fun j hj => by
      unfold yh_dot
      rw [hx i h1, hx k h2, hx j hj, hy i h1, hy k h2, hy j hj]
    have el : ∀ j : Nat, j < n → yw_lb x y i k j = yw_lb X Y i k j := fun j hj => by
      unfold yw_lb
      rw [ea j hj, ed j hj]
    have er : ∀ j : Nat, j < n → yw_rb x y i k j = yw_rb X Y i k j := fun j hj => by
      unfold yw_rb
      rw [ea j hj, ed j hj]
    refine Or.inr (Or.inr ⟨i, k, h1, h2, by rw [← hx i h1, ← hx k h2, ← hy i h1, ← hy k h2]; exact h3, ?_⟩)
    rcases h4 with q | q | q | q
    · exact Or.inl fun j hj => (q j hj).trans (el j hj)
    · exact Or.inr (Or.inl fun j hj => (q j hj).trans (congrArg (!·) (el j hj)))
    · exact Or.inr (Or.inr (Or.inl fun j hj => (q j hj).trans (er j hj)))
    · exact Or.inr (Or.inr (Or.inr fun j hj => (q j hj).trans (congrArg (!·) (er j hj))))
theorem yw_way_e {x y X Y : Nat → Int} {n s : Int} (hx : ∀ j : Nat, j < n.toNat → x j = X j) (hy : ∀ j : Nat, j < n.toNat → y j = Y j) : yw_way x y n s ↔ yw_way X Y n s := ⟨fun ⟨p, e, h⟩ => ⟨p, e, yw_Ce hx hy h⟩, fun ⟨p, e, h⟩ => ⟨p, e, yw_Ce (fun j hj => (hx j hj).symm) (fun j hj => (hy j hj).symm) h⟩⟩
theorem yw_ans_u {x y X Y : Nat → Int} {N n s a b : Int} (hx : ∀ j : Nat, (j : Int) < N → x j = X j) (hy : ∀ j : Nat, (j : Int) < N → y j = Y j) (h1 : yw_ans x y N n s a) (h2 : yw_ans X Y N n s b) : a = b := by
  by_cases ok : yw_ok N n s
  · obtain ⟨a1, a2⟩ := h1.2 ok
    obtain ⟨b1, b2⟩ := h2.2 ok
    have ok1 := ok.1
    have e := a2.trans ((yw_way_e (fun j hj => hx j (by omega)) (fun j hj => hy j (by omega))).trans b2.symm)
    rcases a1 with z | z
    · rcases b1 with w | w
      · omega
      · have := e.mpr w
        omega
    · have := e.mp z
      omega
  · rw [h1.1 ok, h2.1 ok]
noncomputable def yw_ck3 : Bool := (List.range 13).all fun b => decide (Int64.ofInt 1 <<< ((Int32.ofInt (b : Int)).toInt64 &&& 63) = Int64.ofInt ((2 ^ b : Nat) : Int))
theorem yw_ck3_ok : yw_ck3 = true := by decide +kernel
theorem yw_l1 {z n : Int} (h0 : 0 ≤ n) (h1 : n ≤ 12) (z0 : 0 ≤ z) (z1 : z ≤ 4096) (e : Int64.ofInt z = Int64.ofInt 1 <<< ((Int32.ofInt n).toInt64 &&& 63)) : z = ((2 ^ n.toNat : Nat) : Int) := by
  have h := of_decide_eq_true (List.all_eq_true.mp yw_ck3_ok n.toNat (List.mem_range.mpr (by omega)))
  rw [show ((n.toNat : Nat) : Int) = n by omega, ← e] at h
  have h2 := congrArg Int64.toInt h
  have hp := yb_p12 (j := n.toNat) (by omega)
  have hn : 0 ≤ ((2 ^ n.toNat : Nat) : Int) := Int.natCast_nonneg _
  rw [Int64.toInt_ofInt_of_le (by omega) (by omega), Int64.toInt_ofInt_of_le (by omega) (by omega)] at h2
  exact h2
