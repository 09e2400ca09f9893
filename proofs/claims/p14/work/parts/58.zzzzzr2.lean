/-! the first meeting -/
noncomputable def yr_PW (x y c : Nat → Int) (n p a b d : Nat) : Prop := ye_Y c n p ∧ ye_N c n a ∧ ye_PO x y c n p a b d
noncomputable def yr_PV (x y c : Nat → Int) (n a b d p : Nat) : Prop := ye_Y c n a ∧ ye_Y c n b ∧ ye_Y c n d ∧ a < b ∧ b < d ∧ ye_PI x y c n a b d p
noncomputable def yr_PX (x y c : Nat → Int) (n a b d e : Nat) : Prop := ye_Y c n a ∧ ye_Y c n b ∧ ye_N c n d ∧ a < b ∧ ye_PC x y c n a b d e
noncomputable def yr_b4 (P : Nat → Nat → Nat → Nat → Prop) (a b c d : Nat) : Prop := ∀ i j k l : Nat, (i < a ∨ (i = a ∧ (j < b ∨ (j = b ∧ (k < c ∨ (k = c ∧ l < d)))))) → ¬ P i j k l
noncomputable def yr_P (x y c : Nat → Int) (n s a b d e : Nat) : Prop := (s = 1 ∧ d = 0 ∧ e = 0 ∧ ye_PS x y c n a b) ∨ (s = 2 ∧ e = 0 ∧ ye_PB x y c n a b d) ∨ (s = 3 ∧ e = 0 ∧ ye_PD x y c n a b d) ∨ (s = 4 ∧ yr_PW x y c n a b d e) ∨ (s = 5 ∧ yr_PV x y c n a b d e) ∨ (s = 6 ∧ yr_PX x y c n a b d e)
noncomputable def yr_lt (s a b d e s' a' b' d' e' : Nat) : Prop := s < s' ∨ (s = s' ∧ (a < a' ∨ (a = a' ∧ (b < b' ∨ (b = b' ∧ (d < d' ∨ (d = d' ∧ e < e')))))))
noncomputable def yr_F (x y c : Nat → Int) (n s a b d e : Nat) : Prop := yr_P x y c n s a b d e ∧ ∀ i j k l m : Nat, yr_lt i j k l m s a b d e → ¬ yr_P x y c n i j k l m
theorem yr_Fu {x y c : Nat → Int} {n s a b d e s' a' b' d' e' : Nat} (h : yr_F x y c n s a b d e) (h' : yr_F x y c n s' a' b' d' e') : s = s' ∧ a = a' ∧ b = b' ∧ d = d' ∧ e = e' := by
  by_cases q : yr_lt s a b d e s' a' b' d' e'
  · exact absurd h.1 (h'.2 _ _ _ _ _ q)
  · by_cases q' : yr_lt s' a' b' d' e' s a b d e
    · exact absurd h'.1 (h.2 _ _ _ _ _ q')
    · unfold yr_lt at q q'
      omega
theorem yr_F1 {x y c : Nat → Int} {n a b : Nat} (h : ye_PS x y c n a b) (hb : ye_b2 (ye_PS x y c n) a b) : yr_F x y c n 1 a b 0 0 := by
  refine ⟨Or.inl ⟨rfl, rfl, rfl, h⟩, fun i j k l m q z => ?_⟩
  unfold yr_lt at q
  rcases z with ⟨z1, z2, z3, z⟩ | ⟨z1, z2⟩ | ⟨z1, z2⟩ | ⟨z1, z2⟩ | ⟨z1, z2⟩ | ⟨z1, z2⟩
  · exact hb j k (by omega) z
  all_goals omega
theorem yr_F2 {x y c : Nat → Int} {n a b d : Nat} (hS : ∀ i k, ¬ ye_PS x y c n i k) (h : ye_PB x y c n a b d) (hb : ye_b3 (ye_PB x y c n) a b d) : yr_F x y c n 2 a b d 0 := by
  refine ⟨Or.inr (Or.inl ⟨rfl, rfl, h⟩), fun i j k l m q z => ?_⟩
  unfold yr_lt at q
  rcases z with ⟨z1, z2, z3, z⟩ | ⟨z1, z2, z⟩ | ⟨z1, z2⟩ | ⟨z1, z2⟩ | ⟨z1, z2⟩ | ⟨z1, z2⟩
  · exact hS j k z
  · exact hb j k l (by omega) z
  all_goals omega
theorem yr_F3 {x y c : Nat → Int} {n a b d : Nat} (hS : ∀ i k, ¬ ye_PS x y c n i k) (hB : ∀ p a b, ¬ ye_PB x y c n p a b) (h : ye_PD x y c n a b d) (hb : ye_b3 (ye_PD x y c n) a b d) : yr_F x y c n 3 a b d 0 := by
  refine ⟨Or.inr (Or.inr (Or.inl ⟨rfl, rfl, h⟩)), fun i j k l m q z => ?_⟩
  unfold yr_lt at q
  rcases z with ⟨z1, z2, z3, z⟩ | ⟨z1, z2, z⟩ | ⟨z1, z2, z⟩ | ⟨z1, z2⟩ | ⟨z1, z2⟩ | ⟨z1, z2⟩
  · exact hS j k z
  · exact hB j k l z
  · exact hb j k l (by omega) z
  all_goals omega
theorem yr_F4 {x y c : Nat → Int} {n a b d e : Nat} (hS : ∀ i k, ¬ ye_PS x y c n i k) (hB : ∀ p a b, ¬ ye_PB x y c n p a b) (hD : ∀ a b p, ¬ ye_PD x y c n a b p) (h : yr_PW x y c n a b d e) (hb : yr_b4 (yr_PW x y c n) a b d e) : yr_F x y c n 4 a b d e := by
  refine ⟨Or.inr (Or.inr (Or.inr (Or.inl ⟨rfl, h⟩))), fun i j k l m q z => ?_⟩
  unfold yr_lt at q
  rcases z with ⟨z1, z2, z3, z⟩ | ⟨z1, z2, z⟩ | ⟨z1, z2, z⟩ | ⟨z1, z⟩ | ⟨z1, z2⟩ | ⟨z1, z2⟩
  · exact hS j k z
  · exact hB j k l z
  · exact hD j k l z
  · exact hb j k l m (by omega) z
  all_goals omega
theorem yr_F5 {x y c : Nat → Int} {n a b d e : Nat} (hS : ∀ i k, ¬ ye_PS x y c n i k) (hB : ∀ p a b, ¬ ye_PB x y c n p a b) (hD : ∀ a b p, ¬ ye_PD x y c n a b p) (hW : ∀ p a, ¬ ye_PW x y c n p a) (h : yr_PV x y c n a b d e) (hb : yr_b4 (yr_PV x y c n) a b d e) : yr_F x y c n 5 a b d e := by
  refine ⟨Or.inr (Or.inr (Or.inr (Or.inr (Or.inl ⟨rfl, h⟩)))), fun i j k l m q z => ?_⟩
  unfold yr_lt at q
  rcases z with ⟨z1, z2, z3, z⟩ | ⟨z1, z2, z⟩ | ⟨z1, z2, z⟩ | ⟨z1, z⟩ | ⟨z1, z⟩ | ⟨z1, z2⟩
  · exact hS j k z
  · exact hB j k l z
  · exact hD j k l z
  · exact hW j k ⟨z.1, z.2.1, l, m, z.2.2⟩
  · exact hb j k l m (by omega) z
  · omega
theorem yr_F6 {x y c : Nat → Int} {n a b d e : Nat} (hS : ∀ i k, ¬ ye_PS x y c n i k) (hB : ∀ p a b, ¬ ye_PB x y c n p a b) (hD : ∀ a b p, ¬ ye_PD x y c n a b p) (hW : ∀ p a, ¬ ye_PW x y c n p a) (hV : ∀ a b d, ¬ ye_PV x y c n a b d) (h : yr_PX x y c n a b d e) (hb : yr_b4 (yr_PX x y c n) a b d e) : yr_F x y c n 6 a b d e := by
  refine ⟨Or.inr (Or.inr (Or.inr (Or.inr (Or.inr ⟨rfl, h⟩)))), fun i j k l m q z => ?_⟩
  unfold yr_lt at q
  rcases z with ⟨z1, z2, z3, z⟩ | ⟨z1, z2, z⟩ | ⟨z1, z2, z⟩ | ⟨z1, z⟩ | ⟨z1, z⟩ | ⟨z1, z⟩
  · exact hS j k z
  · exact hB j k l z
  · exact hD j k l z
  · exact hW j k ⟨z.1, z.2.1, l, m, z.2.2⟩
  · exact hV j k l ⟨z.1, z.2.1, z.2.2.1, z.2.2.2.1, z.2.2.2.2.1, m, z.2.2.2.2.2⟩
  · exact hb j k l m (by omega) z
theorem yr_b4W {x y c : Nat → Int} {n a b d e : Nat} (h1 : ye_b2 (ye_PW x y c n) a b) (h2 : ye_b2 (ye_PO x y c n a b) d e) : yr_b4 (yr_PW x y c n) a b d e := fun i j k l q z => by
  by_cases e1 : i = a ∧ j = b
  · rw [e1.1, e1.2] at z
    exact h2 k l (by omega) z.2.2
  · exact h1 i j (by omega) ⟨z.1, z.2.1, k, l, z.2.2⟩
theorem yr_b4V {x y c : Nat → Int} {n a b d e : Nat} (h1 : ye_b3 (ye_PV x y c n) a b d) (h2 : ye_b1 (ye_PI x y c n a b d) e) : yr_b4 (yr_PV x y c n) a b d e := fun i j k l q z => by
  by_cases e1 : i = a ∧ j = b ∧ k = d
  · rw [e1.1, e1.2.1, e1.2.2] at z
    exact h2 l (by omega) z.2.2.2.2.2
  · exact h1 i j k (by omega) ⟨z.1, z.2.1, z.2.2.1, z.2.2.2.1, z.2.2.2.2.1, l, z.2.2.2.2.2⟩
theorem yr_b4X {x y c : Nat → Int} {n a b d e : Nat} (h1 : ye_b3 (ye_PX x y c n) a b d) (h2 : ye_b1 (ye_PC x y c n a b d) e) : yr_b4 (yr_PX x y c n) a b d e := fun i j k l q z => by
  by_cases e1 : i = a ∧ j = b ∧ k = d
  · rw [e1.1, e1.2.1, e1.2.2] at z
    exact h2 l (by omega) z.2.2.2.2
  · exact h1 i j k (by omega) ⟨z.1, z.2.1, z.2.2.1, z.2.2.2.1, l, z.2.2.2.2⟩
theorem yr_Fn {x y c : Nat → Int} {n s a b d e : Nat} (h : yr_F x y c n s a b d e) : ¬ ye_nm x y (ye_Y c n) (ye_N c n) := by
  rcases h.1 with ⟨z1, z2, z3, z⟩ | ⟨z1, z2, z⟩ | ⟨z1, z2, z⟩ | ⟨z1, z⟩ | ⟨z1, z⟩ | ⟨z1, z⟩
  · exact ye_mS z
  · exact ye_mB z
  · exact ye_mD z
  · exact ye_mW ⟨z.1, z.2.1, d, e, z.2.2⟩
  · exact ye_mV ⟨z.1, z.2.1, z.2.2.1, z.2.2.2.1, z.2.2.2.2.1, e, z.2.2.2.2.2⟩
  · exact ye_mX ⟨z.1, z.2.1, z.2.2.1, z.2.2.2.1, e, z.2.2.2.2⟩
theorem yr_Pn {x y c : Nat → Int} {n s a b d e : Nat} (h : yr_P x y c n s a b d e) : a < n ∧ b < n ∧ d < n ∧ e < n := by
  rcases h with ⟨z1, z2, z3, z⟩ | ⟨z1, z2, z⟩ | ⟨z1, z2, z⟩ | ⟨z1, z⟩ | ⟨z1, z⟩ | ⟨z1, z⟩
  · have k1 := z.1.1
    have k2 := z.2.1.1
    omega
  · have k1 := z.1.1
    have k2 := z.2.1.1
    have k3 := z.2.2.1.1
    omega
  · have k1 := z.1.1
    have k2 := z.2.1.1
    have k3 := z.2.2.1.1
    omega
  · have k1 := z.1.1
    have k2 := z.2.1.1
    have k3 := z.2.2.1.1
    have k4 := z.2.2.2.1.1
    omega
  · have k1 := z.1.1
    have k2 := z.2.1.1
    have k3 := z.2.2.1.1
    have k4 := z.2.2.2.2.2.1.1
    omega
  · have k1 := z.1.1
    have k2 := z.2.1.1
    have k3 := z.2.2.1.1
    have k4 := z.2.2.2.2.1.1
    omega
theorem yr_P_c {x y c X Y C : Nat → Int} {n s a b d e : Nat} (hx : ∀ j : Nat, j < n → x j = X j) (hy : ∀ j : Nat, j < n → y j = Y j) (hc : ∀ j : Nat, j < n → c j = C j) (h : yr_P x y c n s a b d e) : yr_P X Y C n s a b d e := by
  have fY : ∀ j, ye_Y c n j → ye_Y C n j := fun j h => ⟨h.1, (hc j h.1) ▸ h.2⟩
  have fN : ∀ j, ye_N c n j → ye_N C n j := fun j h => ⟨h.1, (hc j h.1) ▸ h.2⟩
  have ar : ∀ a b c : Nat, a < n → b < n → c < n → yq_ar X Y a b c = yq_ar x y a b c := fun a b c ha hb hc => (yq_ar_eq (hx a ha) (hx b hb) (hx c hc) (hy a ha) (hy b hb) (hy c hc)).symm
  have dt : ∀ a b c : Nat, a < n → b < n → c < n → yh_dot X Y a b c = yh_dot x y a b c := fun a b c ha hb hc => (ye_dot_eq (hx a ha) (hx b hb) (hx c hc) (hy a ha) (hy b hb) (hy c hc)).symm
  obtain ⟨ka, kb, kd, ke⟩ := yr_Pn h
  rcases h with ⟨z1, z2, z3, z⟩ | ⟨z1, z2, z⟩ | ⟨z1, z2, z⟩ | ⟨z1, z⟩ | ⟨z1, z⟩ | ⟨z1, z⟩
  · refine Or.inl ⟨z1, z2, z3, fY _ z.1, fN _ z.2.1, ?_⟩
    have q := z.2.2
    unfold ye_at at q ⊢
    rw [← hx a ka, ← hx b kb, ← hy a ka, ← hy b kb]
    exact q
  · refine Or.inr (Or.inl ⟨z1, z2, fY _ z.1, fN _ z.2.1, fN _ z.2.2.1, z.2.2.2.1, ?_⟩)
    have q := z.2.2.2.2
    unfold ye_bt at q ⊢
    rw [ar _ _ _ kb kd ka, dt _ _ _ ka kb kd]
    exact q
  · refine Or.inr (Or.inr (Or.inl ⟨z1, z2, fY _ z.1, fY _ z.2.1, fN _ z.2.2.1, z.2.2.2.1, ?_⟩))
    have q := z.2.2.2.2
    unfold ye_bt at q ⊢
    rw [ar _ _ _ ka kb kd, dt _ _ _ kd ka kb]
    exact q
  · refine Or.inr (Or.inr (Or.inr (Or.inl ⟨z1, fY _ z.1, fN _ z.2.1, fN _ z.2.2.1, fN _ z.2.2.2.1, z.2.2.2.2.1, z.2.2.2.2.2.1, ?_⟩)))
    have q := z.2.2.2.2.2.2
    unfold ye_wi at q ⊢
    rw [ar _ _ _ kb kd ka, ar _ _ _ kd ke ka, ar _ _ _ ke kb ka]
    exact q
  · refine Or.inr (Or.inr (Or.inr (Or.inr (Or.inl ⟨z1, fY _ z.1, fY _ z.2.1, fY _ z.2.2.1, z.2.2.2.1, z.2.2.2.2.1, fN _ z.2.2.2.2.2.1, ?_⟩))))
    have q := z.2.2.2.2.2.2
    unfold ye_wi at q ⊢
    rw [ar _ _ _ ka kb ke, ar _ _ _ kb kd ke, ar _ _ _ kd ka ke]
    exact q
  · refine Or.inr (Or.inr (Or.inr (Or.inr (Or.inr ⟨z1, fY _ z.1, fY _ z.2.1, fN _ z.2.2.1, z.2.2.2.1, fN _ z.2.2.2.2.1, z.2.2.2.2.2.1, ?_⟩))))
    have q := z.2.2.2.2.2.2
    unfold ye_xg at q ⊢
    rw [ar _ _ _ ka kb kd, ar _ _ _ ka kb ke, ar _ _ _ kd ke ka, ar _ _ _ kd ke kb]
    exact q
theorem yr_F_c {x y c X Y C : Nat → Int} {n s a b d e : Nat} (hx : ∀ j : Nat, j < n → x j = X j) (hy : ∀ j : Nat, j < n → y j = Y j) (hc : ∀ j : Nat, j < n → c j = C j) (h : yr_F x y c n s a b d e) : yr_F X Y C n s a b d e := ⟨yr_P_c hx hy hc h.1, fun i j k l m q z => h.2 i j k l m q (yr_P_c (fun j h => (hx j h).symm) (fun j h => (hy j h).symm) (fun j h => (hc j h).symm) z)⟩
