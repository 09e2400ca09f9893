/-! the class's rows of yes and of no -/
noncomputable def yr_en (c : Nat → Int) (n : Nat) (v : Int) (f : Nat → Int) (m : Int) : Prop := (∀ q : Nat, (q : Int) < m → 0 ≤ f q ∧ (f q).toNat < n ∧ c (f q).toNat = v) ∧ (∀ q r : Nat, q < r → (r : Int) < m → f q < f r) ∧ (∀ j : Nat, j < n → c j = v → ∃ q : Nat, (q : Int) < m ∧ f q = (j : Int))
theorem yr_en_0 {c f : Nat → Int} {v : Int} : yr_en c 0 v f 0 := ⟨fun q h => absurd h (by omega), fun q r _ h => absurd h (by omega), fun j h => absurd h (by omega)⟩
theorem yr_en_y {c f : Nat → Int} {n n' : Nat} {v m m' z : Int} (h : yr_en c n v f m) (hm : 0 ≤ m) (hm' : m' = m + 1) (hn : n' = n + 1) (hc : c n = v) (hz : z = (n : Int)) : yr_en c n' v (yq_set f m.toNat z) m' := by
  rw [hn, hz]
  obtain ⟨h1, h2, h3⟩ := h
  have e1 : yq_set f m.toNat (n : Int) m.toNat = (n : Int) := if_pos rfl
  have e2 : ∀ q : Nat, (q : Int) < m → yq_set f m.toNat (n : Int) q = f q := fun q hq => if_neg (by omega)
  refine ⟨fun q hq => ?_, fun q r hqr hr => ?_, fun j hj hcj => ?_⟩
  · by_cases e : (q : Int) < m
    · rw [e2 q e]
      have k := h1 q e
      exact ⟨k.1, by have := k.2.1; omega, k.2.2⟩
    · have hq2 : q = m.toNat := by omega
      rw [hq2, e1]
      exact ⟨by omega, by omega, by rw [show ((n : Int)).toNat = n by omega]; exact hc⟩
  · by_cases e : (r : Int) < m
    · rw [e2 q (by omega), e2 r e]
      exact h2 q r hqr e
    · have hr2 : r = m.toNat := by omega
      rw [hr2, e1, e2 q (by omega)]
      have k := (h1 q (by omega)).2.1
      have k0 := (h1 q (by omega)).1
      omega
  · by_cases e : j = n
    · exact ⟨m.toNat, by omega, by rw [e1, e]⟩
    · obtain ⟨q, hq, hf⟩ := h3 j (by omega) hcj
      exact ⟨q, by omega, by rw [e2 q hq]; exact hf⟩
theorem yr_en_n {c f : Nat → Int} {n n' : Nat} {v m : Int} (h : yr_en c n v f m) (hn : n' = n + 1) (hc : c n ≠ v) : yr_en c n' v f m := by
  rw [hn]
  obtain ⟨h1, h2, h3⟩ := h
  refine ⟨fun q hq => ?_, h2, fun j hj hcj => ?_⟩
  · have k := h1 q hq
    exact ⟨k.1, by have := k.2.1; omega, k.2.2⟩
  · refine h3 j ?_ hcj
    by_cases e : j = n
    · rw [e] at hcj
      exact absurd hcj hc
    · omega
theorem yr_mo {c f : Nat → Int} {n : Nat} {v m : Int} (h : yr_en c n v f m) {i j : Nat} (hi : (i : Int) < m) (hj : (j : Int) < m) : (i < j ↔ f i < f j) ∧ (i = j ↔ f i = f j) := by
  have k1 := h.2.1 i j
  have k2 := h.2.1 j i
  by_cases e : i = j
  · subst e
    exact ⟨⟨fun z => absurd z (Nat.lt_irrefl _), fun z => absurd z (Int.lt_irrefl _)⟩, ⟨fun _ => rfl, fun _ => rfl⟩⟩
  · by_cases q : i < j
    · have k := k1 q hj
      exact ⟨⟨fun _ => k, fun _ => q⟩, ⟨fun z => absurd z e, fun z => by omega⟩⟩
    · have k := k2 (by omega) hi
      exact ⟨⟨fun z => absurd z q, fun z => by omega⟩, ⟨fun z => absurd z e, fun z => by omega⟩⟩
noncomputable def yr_qS (x y f g : Nat → Int) (m k : Int) (i j : Nat) : Prop := (i : Int) < m ∧ (j : Int) < k ∧ ye_at x y (f i).toNat (g j).toNat
noncomputable def yr_qB (x y f g : Nat → Int) (m k : Int) (i j l : Nat) : Prop := (i : Int) < m ∧ j < l ∧ (l : Int) < k ∧ ye_bt x y (f i).toNat (g j).toNat (g l).toNat
noncomputable def yr_qD (x y f g : Nat → Int) (m k : Int) (i j l : Nat) : Prop := i < j ∧ (j : Int) < m ∧ (l : Int) < k ∧ ye_bt x y (g l).toNat (f i).toNat (f j).toNat
noncomputable def yr_qO (x y f g : Nat → Int) (k : Int) (i j l o : Nat) : Prop := l < o ∧ (o : Int) < k ∧ ye_wi x y (f i).toNat (g j).toNat (g l).toNat (g o).toNat
noncomputable def yr_qW (x y f g : Nat → Int) (m k : Int) (i j l : Nat) : Prop := (i : Int) < m ∧ j < l ∧ (l : Int) < k ∧ ∃ o, yr_qO x y f g k i j l o
noncomputable def yr_qI (x y g : Nat → Int) (k : Int) (a b d o : Nat) : Prop := (o : Int) < k ∧ ye_wi x y (g o).toNat a b d
noncomputable def yr_qV (x y f g : Nat → Int) (m k : Int) (i j l : Nat) : Prop := i < j ∧ j < l ∧ (l : Int) < m ∧ ∃ o, yr_qI x y g k (f i).toNat (f j).toNat (f l).toNat o
noncomputable def yr_qC (x y g : Nat → Int) (k : Int) (a b l o : Nat) : Prop := l < o ∧ (o : Int) < k ∧ ye_xg x y a b (g l).toNat (g o).toNat
noncomputable def yr_qX (x y f g : Nat → Int) (m k : Int) (i j l : Nat) : Prop := i < j ∧ (j : Int) < m ∧ (l : Int) < k ∧ ∃ o, yr_qC x y g k (f i).toNat (f j).toNat l o
section YRC
variable {x y c f g : Nat → Int} {n : Nat} {m k : Int}
theorem yr_cS0 (hf : yr_en c n 1 f m) (hg : yr_en c n 0 g k) (h : ∀ i j, ¬ yr_qS x y f g m k i j) : ∀ p a, ¬ ye_PS x y c n p a := fun p a z => by
  obtain ⟨i', b1, e1⟩ := hf.2.2 p z.1.1 z.1.2
  obtain ⟨j', b2, e2⟩ := hg.2.2 a z.2.1.1 z.2.1.2
  refine h i' j' ⟨b1, b2, ?_⟩
  rw [show (f i').toNat = p by omega, show (g j').toNat = a by omega]
  exact z.2.2
theorem yr_cS1 (hf : yr_en c n 1 f m) (hg : yr_en c n 0 g k) {i j : Nat} (h : yr_qS x y f g m k i j) (hb : ye_b2 (yr_qS x y f g m k) i j) : ye_PS x y c n (f i).toNat (g j).toNat ∧ ye_b2 (ye_PS x y c n) (f i).toNat (g j).toNat := by
  obtain ⟨h1, h2, h3⟩ := h
  have a1 := hf.1 i h1
  have a2 := hg.1 j h2
  refine ⟨⟨⟨a1.2.1, a1.2.2⟩, ⟨a2.2.1, a2.2.2⟩, h3⟩, fun p a q z => ?_⟩
  obtain ⟨i', b1, e1⟩ := hf.2.2 p z.1.1 z.1.2
  obtain ⟨j', b2, e2⟩ := hg.2.2 a z.2.1.1 z.2.1.2
  have m1 := yr_mo hf b1 h1
  have m2 := yr_mo hg b2 h2
  have z0 := a1.1
  have z1 := a2.1
  refine hb i' j' (by omega) ⟨b1, b2, ?_⟩
  rw [show (f i').toNat = p by omega, show (g j').toNat = a by omega]
  exact z.2.2
theorem yr_cB0 (hf : yr_en c n 1 f m) (hg : yr_en c n 0 g k) (h : ∀ i j l, ¬ yr_qB x y f g m k i j l) : ∀ p a b, ¬ ye_PB x y c n p a b := fun p a b z => by
  obtain ⟨i', b1, e1⟩ := hf.2.2 p z.1.1 z.1.2
  obtain ⟨j', b2, e2⟩ := hg.2.2 a z.2.1.1 z.2.1.2
  obtain ⟨l', b3, e3⟩ := hg.2.2 b z.2.2.1.1 z.2.2.1.2
  have m1 := yr_mo hg b2 b3
  have ab := z.2.2.2.1
  refine h i' j' l' ⟨b1, by omega, b3, ?_⟩
  rw [show (f i').toNat = p by omega, show (g j').toNat = a by omega, show (g l').toNat = b by omega]
  exact z.2.2.2.2
theorem yr_cB1 (hf : yr_en c n 1 f m) (hg : yr_en c n 0 g k) {i j l : Nat} (h : yr_qB x y f g m k i j l) (hb : ye_b3 (yr_qB x y f g m k) i j l) : ye_PB x y c n (f i).toNat (g j).toNat (g l).toNat ∧ ye_b3 (ye_PB x y c n) (f i).toNat (g j).toNat (g l).toNat := by
  obtain ⟨h1, h2, h3, h4⟩ := h
  have hj : (j : Int) < k := by omega
  have a1 := hf.1 i h1
  have a2 := hg.1 j hj
  have a3 := hg.1 l h3
  have a4 := hg.2.1 j l h2 h3
  have z0 := a1.1
  have z1 := a2.1
  have z2 := a3.1
  refine ⟨⟨⟨a1.2.1, a1.2.2⟩, ⟨a2.2.1, a2.2.2⟩, ⟨a3.2.1, a3.2.2⟩, by omega, h4⟩, fun p a b q z => ?_⟩
  obtain ⟨i', b1, e1⟩ := hf.2.2 p z.1.1 z.1.2
  obtain ⟨j', b2, e2⟩ := hg.2.2 a z.2.1.1 z.2.1.2
  obtain ⟨l', b3, e3⟩ := hg.2.2 b z.2.2.1.1 z.2.2.1.2
  have m0 := yr_mo hg b2 b3
  have m1 := yr_mo hf b1 h1
  have m2 := yr_mo hg b2 hj
  have m3 := yr_mo hg b3 h3
  have ab := z.2.2.2.1
  refine hb i' j' l' (by omega) ⟨b1, by omega, b3, ?_⟩
  rw [show (f i').toNat = p by omega, show (g j').toNat = a by omega, show (g l').toNat = b by omega]
  exact z.2.2.2.2
theorem yr_cD0 (hf : yr_en c n 1 f m) (hg : yr_en c n 0 g k) (h : ∀ i j l, ¬ yr_qD x y f g m k i j l) : ∀ a b p, ¬ ye_PD x y c n a b p := fun a b p z => by
  obtain ⟨i', b1, e1⟩ := hf.2.2 a z.1.1 z.1.2
  obtain ⟨j', b2, e2⟩ := hf.2.2 b z.2.1.1 z.2.1.2
  obtain ⟨l', b3, e3⟩ := hg.2.2 p z.2.2.1.1 z.2.2.1.2
  have m1 := yr_mo hf b1 b2
  have ab := z.2.2.2.1
  refine h i' j' l' ⟨by omega, b2, b3, ?_⟩
  rw [show (f i').toNat = a by omega, show (f j').toNat = b by omega, show (g l').toNat = p by omega]
  exact z.2.2.2.2
theorem yr_cD1 (hf : yr_en c n 1 f m) (hg : yr_en c n 0 g k) {i j l : Nat} (h : yr_qD x y f g m k i j l) (hb : ye_b3 (yr_qD x y f g m k) i j l) : ye_PD x y c n (f i).toNat (f j).toNat (g l).toNat ∧ ye_b3 (ye_PD x y c n) (f i).toNat (f j).toNat (g l).toNat := by
  obtain ⟨h1, h2, h3, h4⟩ := h
  have hi : (i : Int) < m := by omega
  have a1 := hf.1 i hi
  have a2 := hf.1 j h2
  have a3 := hg.1 l h3
  have a4 := hf.2.1 i j h1 h2
  have z0 := a1.1
  have z1 := a2.1
  have z2 := a3.1
  refine ⟨⟨⟨a1.2.1, a1.2.2⟩, ⟨a2.2.1, a2.2.2⟩, ⟨a3.2.1, a3.2.2⟩, by omega, h4⟩, fun a b p q z => ?_⟩
  obtain ⟨i', b1, e1⟩ := hf.2.2 a z.1.1 z.1.2
  obtain ⟨j', b2, e2⟩ := hf.2.2 b z.2.1.1 z.2.1.2
  obtain ⟨l', b3, e3⟩ := hg.2.2 p z.2.2.1.1 z.2.2.1.2
  have m0 := yr_mo hf b1 b2
  have m1 := yr_mo hf b1 hi
  have m2 := yr_mo hf b2 h2
  have m3 := yr_mo hg b3 h3
  have ab := z.2.2.2.1
  refine hb i' j' l' (by omega) ⟨by omega, b2, b3, ?_⟩
  rw [show (f i').toNat = a by omega, show (f j').toNat = b by omega, show (g l').toNat = p by omega]
  exact z.2.2.2.2
theorem yr_cW0 (hf : yr_en c n 1 f m) (hg : yr_en c n 0 g k) (h : ∀ i j l, ¬ yr_qW x y f g m k i j l) : ∀ p a, ¬ ye_PW x y c n p a := fun p a z => by
  obtain ⟨y1, y2, b, d, y3, y4, y5, y6, y7⟩ := z
  obtain ⟨i', b1, e1⟩ := hf.2.2 p y1.1 y1.2
  obtain ⟨j', b2, e2⟩ := hg.2.2 a y2.1 y2.2
  obtain ⟨l', b3, e3⟩ := hg.2.2 b y3.1 y3.2
  obtain ⟨o', b4, e4⟩ := hg.2.2 d y4.1 y4.2
  have m1 := yr_mo hg b2 b3
  have m2 := yr_mo hg b3 b4
  refine h i' j' l' ⟨b1, by omega, b3, o', by omega, b4, ?_⟩
  rw [show (f i').toNat = p by omega, show (g j').toNat = a by omega, show (g l').toNat = b by omega, show (g o').toNat = d by omega]
  exact y7
theorem yr_cW1 (hf : yr_en c n 1 f m) (hg : yr_en c n 0 g k) {i j l o : Nat} (h1 : (i : Int) < m) (h2 : j < l) (h3 : (l : Int) < k) (hb : ye_b3 (yr_qW x y f g m k) i j l) (hO : yr_qO x y f g k i j l o) (ho : ye_b1 (yr_qO x y f g k i j l) o) : yr_PW x y c n (f i).toNat (g j).toNat (g l).toNat (g o).toNat ∧ yr_b4 (yr_PW x y c n) (f i).toNat (g j).toNat (g l).toNat (g o).toNat := by
  obtain ⟨o1, o2, o3⟩ := hO
  have hj : (j : Int) < k := by omega
  have a1 := hf.1 i h1
  have a2 := hg.1 j hj
  have a3 := hg.1 l h3
  have a4 := hg.1 o o2
  have a5 := hg.2.1 j l h2 h3
  have a6 := hg.2.1 l o o1 o2
  have z0 := a1.1
  have z1 := a2.1
  have z2 := a3.1
  have z3 := a4.1
  refine ⟨⟨⟨a1.2.1, a1.2.2⟩, ⟨a2.2.1, a2.2.2⟩, ⟨a3.2.1, a3.2.2⟩, ⟨a4.2.1, a4.2.2⟩, by omega, by omega, o3⟩, fun p a b d q z => ?_⟩
  obtain ⟨y1, y2, y3, y4, y5, y6, y7⟩ := z
  obtain ⟨i', b1, e1⟩ := hf.2.2 p y1.1 y1.2
  obtain ⟨j', b2, e2⟩ := hg.2.2 a y2.1 y2.2
  obtain ⟨l', b3, e3⟩ := hg.2.2 b y3.1 y3.2
  obtain ⟨o', b4, e4⟩ := hg.2.2 d y4.1 y4.2
  have n1 := yr_mo hg b2 b3
  have n2 := yr_mo hg b3 b4
  have m1 := yr_mo hf b1 h1
  have m2 := yr_mo hg b2 hj
  have m3 := yr_mo hg b3 h3
  have m4 := yr_mo hg b4 o2
  rw [show p = (f i').toNat by omega, show a = (g j').toNat by omega, show b = (g l').toNat by omega, show d = (g o').toNat by omega] at y7
  by_cases q2 : i' = i ∧ j' = j ∧ l' = l
  · rw [q2.1, q2.2.1, q2.2.2] at y7
    exact ho o' (by omega) ⟨by omega, b4, y7⟩
  · exact hb i' j' l' (by omega) ⟨b1, by omega, b3, o', by omega, b4, y7⟩
theorem yr_cV0 (hf : yr_en c n 1 f m) (hg : yr_en c n 0 g k) (h : ∀ i j l, ¬ yr_qV x y f g m k i j l) : ∀ a b d, ¬ ye_PV x y c n a b d := fun a b d z => by
  obtain ⟨y1, y2, y3, y5, y6, p, y4, y7⟩ := z
  obtain ⟨i', b1, e1⟩ := hf.2.2 a y1.1 y1.2
  obtain ⟨j', b2, e2⟩ := hf.2.2 b y2.1 y2.2
  obtain ⟨l', b3, e3⟩ := hf.2.2 d y3.1 y3.2
  obtain ⟨o', b4, e4⟩ := hg.2.2 p y4.1 y4.2
  have m1 := yr_mo hf b1 b2
  have m2 := yr_mo hf b2 b3
  refine h i' j' l' ⟨by omega, by omega, b3, o', b4, ?_⟩
  rw [show (f i').toNat = a by omega, show (f j').toNat = b by omega, show (f l').toNat = d by omega, show (g o').toNat = p by omega]
  exact y7
theorem yr_cV1 (hf : yr_en c n 1 f m) (hg : yr_en c n 0 g k) {i j l o : Nat} (h1 : i < j) (h2 : j < l) (h3 : (l : Int) < m) (hb : ye_b3 (yr_qV x y f g m k) i j l) (hO : yr_qI x y g k (f i).toNat (f j).toNat (f l).toNat o) (ho : ye_b1 (yr_qI x y g k (f i).toNat (f j).toNat (f l).toNat) o) : yr_PV x y c n (f i).toNat (f j).toNat (f l).toNat (g o).toNat ∧ yr_b4 (yr_PV x y c n) (f i).toNat (f j).toNat (f l).toNat (g o).toNat := by
  obtain ⟨o2, o3⟩ := hO
  have hi : (i : Int) < m := by omega
  have hj : (j : Int) < m := by omega
  have a1 := hf.1 i hi
  have a2 := hf.1 j hj
  have a3 := hf.1 l h3
  have a4 := hg.1 o o2
  have a5 := hf.2.1 i j h1 hj
  have a6 := hf.2.1 j l h2 h3
  have z0 := a1.1
  have z1 := a2.1
  have z2 := a3.1
  have z3 := a4.1
  refine ⟨⟨⟨a1.2.1, a1.2.2⟩, ⟨a2.2.1, a2.2.2⟩, ⟨a3.2.1, a3.2.2⟩, by omega, by omega, ⟨a4.2.1, a4.2.2⟩, o3⟩, fun a b d p q z => ?_⟩
  obtain ⟨y1, y2, y3, y5, y6, y4, y7⟩ := z
  obtain ⟨i', b1, e1⟩ := hf.2.2 a y1.1 y1.2
  obtain ⟨j', b2, e2⟩ := hf.2.2 b y2.1 y2.2
  obtain ⟨l', b3, e3⟩ := hf.2.2 d y3.1 y3.2
  obtain ⟨o', b4, e4⟩ := hg.2.2 p y4.1 y4.2
  have n1 := yr_mo hf b1 b2
  have n2 := yr_mo hf b2 b3
  have m1 := yr_mo hf b1 hi
  have m2 := yr_mo hf b2 hj
  have m3 := yr_mo hf b3 h3
  have m4 := yr_mo hg b4 o2
  rw [show a = (f i').toNat by omega, show b = (f j').toNat by omega, show d = (f l').toNat by omega, show p = (g o').toNat by omega] at y7
  by_cases q2 : i' = i ∧ j' = j ∧ l' = l
  · rw [q2.1, q2.2.1, q2.2.2] at y7
    exact ho o' (by omega) ⟨b4, y7⟩
  · exact hb i' j' l' (by omega) ⟨by omega, by omega, b3, o', b4, y7⟩
theorem yr_cX0 (hf : yr_en c n 1 f m) (hg : yr_en c n 0 g k) (h : ∀ i j l, ¬ yr_qX x y f g m k i j l) : ∀ a b d, ¬ ye_PX x y c n a b d := fun a b d z => by
  obtain ⟨y1, y2, y3, y5, p, y4, y6, y7⟩ := z
  obtain ⟨i', b1, e1⟩ := hf.2.2 a y1.1 y1.2
  obtain ⟨j', b2, e2⟩ := hf.2.2 b y2.1 y2.2
  obtain ⟨l', b3, e3⟩ := hg.2.2 d y3.1 y3.2
  obtain ⟨o', b4, e4⟩ := hg.2.2 p y4.1 y4.2
  have m1 := yr_mo hf b1 b2
  have m2 := yr_mo hg b3 b4
  refine h i' j' l' ⟨by omega, b2, b3, o', by omega, b4, ?_⟩
  rw [show (f i').toNat = a by omega, show (f j').toNat = b by omega, show (g l').toNat = d by omega, show (g o').toNat = p by omega]
  exact y7
theorem yr_cX1 (hf : yr_en c n 1 f m) (hg : yr_en c n 0 g k) {i j l o : Nat} (h1 : i < j) (h2 : (j : Int) < m) (h3 : (l : Int) < k) (hb : ye_b3 (yr_qX x y f g m k) i j l) (hO : yr_qC x y g k (f i).toNat (f j).toNat l o) (ho : ye_b1 (yr_qC x y g k (f i).toNat (f j).toNat l) o) : yr_PX x y c n (f i).toNat (f j).toNat (g l).toNat (g o).toNat ∧ yr_b4 (yr_PX x y c n) (f i).toNat (f j).toNat (g l).toNat (g o).toNat := by
  obtain ⟨o1, o2, o3⟩ := hO
  have hi : (i : Int) < m := by omega
  have a1 := hf.1 i hi
  have a2 := hf.1 j h2
  have a3 := hg.1 l h3
  have a4 := hg.1 o o2
  have a5 := hf.2.1 i j h1 h2
  have a6 := hg.2.1 l o o1 o2
  have z0 := a1.1
  have z1 := a2.1
  have z2 := a3.1
  have z3 := a4.1
  refine ⟨⟨⟨a1.2.1, a1.2.2⟩, ⟨a2.2.1, a2.2.2⟩, ⟨a3.2.1, a3.2.2⟩, by omega, ⟨a4.2.1, a4.2.2⟩, by omega, o3⟩, fun a b d p q z => ?_⟩
  obtain ⟨y1, y2, y3, y5, y4, y6, y7⟩ := z
  obtain ⟨i', b1, e1⟩ := hf.2.2 a y1.1 y1.2
  obtain ⟨j', b2, e2⟩ := hf.2.2 b y2.1 y2.2
  obtain ⟨l', b3, e3⟩ := hg.2.2 d y3.1 y3.2
  obtain ⟨o', b4, e4⟩ := hg.2.2 p y4.1 y4.2
  have n1 := yr_mo hf b1 b2
  have n2 := yr_mo hg b3 b4
  have m1 := yr_mo hf b1 hi
  have m2 := yr_mo hf b2 h2
  have m3 := yr_mo hg b3 h3
  have m4 := yr_mo hg b4 o2
  rw [show a = (f i').toNat by omega, show b = (f j').toNat by omega, show d = (g l').toNat by omega, show p = (g o').toNat by omega] at y7
  by_cases q2 : i' = i ∧ j' = j ∧ l' = l
  · rw [q2.1, q2.2.1, q2.2.2] at y7
    exact ho o' (by omega) ⟨by omega, b4, y7⟩
  · exact hb i' j' l' (by omega) ⟨by omega, b2, b3, o', by omega, b4, y7⟩
end YRC
