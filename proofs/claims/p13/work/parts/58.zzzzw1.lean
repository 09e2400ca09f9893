/-! the rows that the reference looks through, one by one -/
noncomputable def ye_b2 (P : Nat → Nat → Prop) (a b : Nat) : Prop := ∀ i j, (i < a ∨ (i = a ∧ j < b)) → ¬ P i j
noncomputable def ye_b3 (P : Nat → Nat → Nat → Prop) (a b c : Nat) : Prop := ∀ i j k, (i < a ∨ (i = a ∧ (j < b ∨ (j = b ∧ k < c)))) → ¬ P i j k
noncomputable def ye_b1 (P : Nat → Prop) (a : Nat) : Prop := ∀ i, i < a → ¬ P i
theorem ye_b1_s {P : Nat → Prop} {a b : Nat} (h : ye_b1 P a) (hb : b = a + 1) (hn : ¬ P a) : ye_b1 P b := fun i hi => by
  by_cases e : i = a
  · rw [e]
    exact hn
  · exact h i (by omega)
theorem ye_b1_e {P : Nat → Prop} {a : Nat} (h : ye_b1 P a) (hn : ∀ i, a ≤ i → ¬ P i) : ∀ i, ¬ P i := fun i => by
  by_cases e : i < a
  · exact h i e
  · exact hn i (by omega)
theorem ye_b2_s {P : Nat → Nat → Prop} {a b c : Nat} (h : ye_b2 P a b) (hc : c = b + 1) (hn : ¬ P a b) : ye_b2 P a c := fun i j hi => by
  by_cases e : i = a ∧ j = b
  · rw [e.1, e.2]
    exact hn
  · exact h i j (by omega)
theorem ye_b2_o {P : Nat → Nat → Prop} {a b c : Nat} (h : ye_b2 P a b) (hc : c = a + 1) (hn : ∀ j, b ≤ j → ¬ P a j) : ye_b2 P c 0 := fun i j hi => by
  by_cases e : i = a ∧ b ≤ j
  · rw [e.1]
    exact hn j e.2
  · exact h i j (by omega)
theorem ye_b2_j {P : Nat → Nat → Prop} {a b : Nat} (h : ye_b2 P a 0) (hn : ∀ j, j < b → ¬ P a j) : ye_b2 P a b := fun i j hi => by
  by_cases e : i = a
  · rw [e]
    exact hn j (by omega)
  · exact h i j (by omega)
theorem ye_b2_e {P : Nat → Nat → Prop} {a : Nat} (h : ye_b2 P a 0) (hn : ∀ i j, a ≤ i → ¬ P i j) : ∀ i j, ¬ P i j := fun i j => by
  by_cases e : i < a
  · exact h i j (Or.inl e)
  · exact hn i j (by omega)
theorem ye_b3_s {P : Nat → Nat → Nat → Prop} {a b c d : Nat} (h : ye_b3 P a b c) (hd : d = c + 1) (hn : ¬ P a b c) : ye_b3 P a b d := fun i j k hi => by
  by_cases e : i = a ∧ j = b ∧ k = c
  · rw [e.1, e.2.1, e.2.2]
    exact hn
  · exact h i j k (by omega)
theorem ye_b3_m {P : Nat → Nat → Nat → Prop} {a b c d : Nat} (h : ye_b3 P a b c) (hd : d = b + 1) (hn : ∀ k, c ≤ k → ¬ P a b k) : ye_b3 P a d 0 := fun i j k hi => by
  by_cases e : i = a ∧ j = b ∧ c ≤ k
  · rw [e.1, e.2.1]
    exact hn k e.2.2
  · exact h i j k (by omega)
theorem ye_b3_o {P : Nat → Nat → Nat → Prop} {a b d : Nat} (h : ye_b3 P a b 0) (hd : d = a + 1) (hn : ∀ j k, b ≤ j → ¬ P a j k) : ye_b3 P d 0 0 := fun i j k hi => by
  by_cases e : i = a ∧ b ≤ j
  · rw [e.1]
    exact hn j k e.2
  · exact h i j k (by omega)
theorem ye_b3_j {P : Nat → Nat → Nat → Prop} {a b c : Nat} (h : ye_b3 P a b 0) (hn : ∀ k, k < c → ¬ P a b k) : ye_b3 P a b c := fun i j k hi => by
  by_cases e : i = a ∧ j = b
  · rw [e.1, e.2]
    exact hn k (by omega)
  · exact h i j k (by omega)
theorem ye_b3_i {P : Nat → Nat → Nat → Prop} {a b : Nat} (h : ye_b3 P a 0 0) (hn : ∀ j k, j < b → ¬ P a j k) : ye_b3 P a b 0 := fun i j k hi => by
  by_cases e : i = a
  · rw [e]
    exact hn j k (by omega)
  · exact h i j k (by omega)
theorem ye_b3_e {P : Nat → Nat → Nat → Prop} {a : Nat} (h : ye_b3 P a 0 0) (hn : ∀ i j k, a ≤ i → ¬ P i j k) : ∀ i j k, ¬ P i j k := fun i j k => by
  by_cases e : i < a
  · exact h i j k (Or.inl e)
  · exact hn i j k (by omega)
noncomputable def ye_PS (x y c : Nat → Int) (n : Nat) (i k : Nat) : Prop := ye_Y c n i ∧ ye_N c n k ∧ ye_at x y i k
noncomputable def ye_PB (x y c : Nat → Int) (n : Nat) (p a b : Nat) : Prop := ye_Y c n p ∧ ye_N c n a ∧ ye_N c n b ∧ a < b ∧ ye_bt x y p a b
noncomputable def ye_PD (x y c : Nat → Int) (n : Nat) (a b p : Nat) : Prop := ye_Y c n a ∧ ye_Y c n b ∧ ye_N c n p ∧ a < b ∧ ye_bt x y p a b
noncomputable def ye_PO (x y c : Nat → Int) (n p a b d : Nat) : Prop := ye_N c n b ∧ ye_N c n d ∧ a < b ∧ b < d ∧ ye_wi x y p a b d
noncomputable def ye_PW (x y c : Nat → Int) (n p a : Nat) : Prop := ye_Y c n p ∧ ye_N c n a ∧ ∃ b d, ye_PO x y c n p a b d
noncomputable def ye_PI (x y c : Nat → Int) (n a b d p : Nat) : Prop := ye_N c n p ∧ ye_wi x y p a b d
noncomputable def ye_PV (x y c : Nat → Int) (n a b d : Nat) : Prop := ye_Y c n a ∧ ye_Y c n b ∧ ye_Y c n d ∧ a < b ∧ b < d ∧ ∃ p, ye_PI x y c n a b d p
noncomputable def ye_PC (x y c : Nat → Int) (n a b d e : Nat) : Prop := ye_N c n e ∧ d < e ∧ ye_xg x y a b d e
noncomputable def ye_PX (x y c : Nat → Int) (n a b d : Nat) : Prop := ye_Y c n a ∧ ye_Y c n b ∧ ye_N c n d ∧ a < b ∧ ∃ e, ye_PC x y c n a b d e
theorem ye_me {x y c : Nat → Int} {n : Nat} (h1 : ∀ i k, ¬ ye_PS x y c n i k) (h2 : ∀ p a b, ¬ ye_PB x y c n p a b) (h3 : ∀ a b p, ¬ ye_PD x y c n a b p) (h4 : ∀ p a, ¬ ye_PW x y c n p a) (h5 : ∀ a b d, ¬ ye_PV x y c n a b d) (h6 : ∀ a b d, ¬ ye_PX x y c n a b d) : ye_nm x y (ye_Y c n) (ye_N c n) :=
  ye_nm_i (fun i k hi hk z => h1 i k ⟨hi, hk, z⟩) (fun p a b hp ha hb hab z => h2 p a b ⟨hp, ha, hb, hab, z⟩) (fun p a b hp ha hb hab z => h3 a b p ⟨ha, hb, hp, hab, z⟩) (fun p a b d hp ha hb hd hab hbd z => h4 p a ⟨hp, ha, b, d, hb, hd, hab, hbd, z⟩) (fun p a b d hp ha hb hd hab hbd z => h5 a b d ⟨ha, hb, hd, hab, hbd, p, hp, z⟩) (fun a b d e ha hb hab hd he hde z => h6 a b d ⟨ha, hb, hd, hab, e, he, hde, z⟩)
theorem ye_mS {x y c : Nat → Int} {n i k : Nat} (h : ye_PS x y c n i k) : ¬ ye_nm x y (ye_Y c n) (ye_N c n) := fun z => z.1 i k h.1 h.2.1 h.2.2
theorem ye_mB {x y c : Nat → Int} {n p a b : Nat} (h : ye_PB x y c n p a b) : ¬ ye_nm x y (ye_Y c n) (ye_N c n) := fun z => z.2.1 p a b h.1 h.2.1 h.2.2.1 h.2.2.2.2
theorem ye_mD {x y c : Nat → Int} {n p a b : Nat} (h : ye_PD x y c n a b p) : ¬ ye_nm x y (ye_Y c n) (ye_N c n) := fun z => z.2.2.1 p a b h.2.2.1 h.1 h.2.1 h.2.2.2.2
theorem ye_mW {x y c : Nat → Int} {n p a : Nat} (h : ye_PW x y c n p a) : ¬ ye_nm x y (ye_Y c n) (ye_N c n) := fun z => by
  obtain ⟨h1, h2, b, d, h3, h4, h5, h6, h7⟩ := h
  exact z.2.2.2.1 p a b d h1 h2 h3 h4 h7
theorem ye_mV {x y c : Nat → Int} {n a b d : Nat} (h : ye_PV x y c n a b d) : ¬ ye_nm x y (ye_Y c n) (ye_N c n) := fun z => by
  obtain ⟨h1, h2, h3, h4, h5, p, h6, h7⟩ := h
  exact z.2.2.2.2.1 p a b d h6 h1 h2 h3 h7
theorem ye_mX {x y c : Nat → Int} {n a b d : Nat} (h : ye_PX x y c n a b d) : ¬ ye_nm x y (ye_Y c n) (ye_N c n) := fun z => by
  obtain ⟨h1, h2, h3, h4, e, h5, h6, h7⟩ := h
  exact z.2.2.2.2.2 a b d e h1 h2 h3 h5 h7
