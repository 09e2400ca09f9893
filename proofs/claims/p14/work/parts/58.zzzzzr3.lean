/-! what is told of the first meeting -/
noncomputable def yr_w (a b d e k : Nat) : Int := if k = 0 then (a : Int) else if k = 1 then (b : Int) else if k = 2 then (d : Int) else (e : Int)
noncomputable def yr_k (s : Nat) : Int := if s = 1 then 1 else if s = 2 then 2 else if s = 3 then 2 else if s = 4 then 3 else if s = 5 then 3 else 4
noncomputable def yr_m (s : Nat) : Int := if s = 1 then 2 else if s = 2 then 3 else if s = 3 then 3 else 4
theorem yr_mp (s : Nat) : 2 ≤ yr_m s := by
  unfold yr_m
  repeat' split
  all_goals omega
noncomputable def yr_n (x y : Nat → Int) (s a b d e k : Nat) : Int × Int :=
  if s = 1 then (1, 1)
  else if s = 2 then (if k = 0 then (1, 1) else if k = 1 then (yh_dot x y d b a, yh_dot x y b d d) else (yh_dot x y b d a, yh_dot x y b d d))
  else if s = 3 then (if k = 0 then (yh_dot x y b a d, yh_dot x y a b b) else if k = 1 then (yh_dot x y a b d, yh_dot x y a b b) else (1, 1))
  else if s = 4 then (if k = 0 then (1, 1) else if k = 1 then (yq_ar x y a d e, yq_ar x y b d e) else if k = 2 then (yq_ar x y b a e, yq_ar x y b d e) else (yq_ar x y b d a, yq_ar x y b d e))
  else if s = 5 then (if k = 0 then (yq_ar x y e b d, yq_ar x y a b d) else if k = 1 then (yq_ar x y a e d, yq_ar x y a b d) else if k = 2 then (yq_ar x y a b e, yq_ar x y a b d) else (1, 1))
  else (if k = 0 then (yq_abs (yq_ar x y d e b), yq_abs (yq_ar x y d e a) + yq_abs (yq_ar x y d e b)) else if k = 1 then (yq_abs (yq_ar x y d e a), yq_abs (yq_ar x y d e a) + yq_abs (yq_ar x y d e b)) else if k = 2 then (yq_abs (yq_ar x y a b e), yq_abs (yq_ar x y a b d) + yq_abs (yq_ar x y a b e)) else (yq_abs (yq_ar x y a b d), yq_abs (yq_ar x y a b d) + yq_abs (yq_ar x y a b e)))
noncomputable def yr_p (x y : Nat → Int) (s a b d e : Nat) : Int × Int × Int :=
  if s = 1 then (x a, y a, 1) else if s = 2 then (x a, y a, 1) else if s = 3 then (x d, y d, 1) else if s = 4 then (x a, y a, 1) else if s = 5 then (x e, y e, 1)
  else (x a * yq_abs (yq_ar x y d e b) + x b * yq_abs (yq_ar x y d e a), y a * yq_abs (yq_ar x y d e b) + y b * yq_abs (yq_ar x y d e a), yq_abs (yq_ar x y d e a) + yq_abs (yq_ar x y d e b))
theorem yr_nz {x y c : Nat → Int} {n s a b d e : Nat} (h : yr_P x y c n s a b d e) (k : Nat) : (yr_n x y s a b d e k).2 ≠ 0 := by
  have one : (1 : Int) ≠ 0 := by decide
  rcases h with ⟨z1, z2, z3, z⟩ | ⟨z1, z2, z⟩ | ⟨z1, z2, z⟩ | ⟨z1, z⟩ | ⟨z1, z⟩ | ⟨z1, z⟩
  · subst z1
    exact one
  · subst z1
    have w := yr_bt0 z.2.2.2.2
    unfold yr_n
    rw [if_neg (by decide), if_pos rfl]
    repeat' split
    all_goals first
      | exact one
      | exact w
  · subst z1
    have w := yr_bt0 z.2.2.2.2
    unfold yr_n
    rw [if_neg (by decide), if_neg (by decide), if_pos rfl]
    repeat' split
    all_goals first
      | exact one
      | exact w
  · subst z1
    have w := yr_wi0 z.2.2.2.2.2.2
    unfold yr_n
    rw [if_neg (by decide), if_neg (by decide), if_neg (by decide), if_pos rfl]
    repeat' split
    all_goals first
      | exact one
      | exact w
  · subst z1
    have w := yr_wi0 z.2.2.2.2.2.2
    unfold yr_n
    rw [if_neg (by decide), if_neg (by decide), if_neg (by decide), if_neg (by decide), if_pos rfl]
    repeat' split
    all_goals first
      | exact one
      | exact w
  · subst z1
    have w := z.2.2.2.2.2.2
    have w1 := (yr_fx w.1).2.2.2
    have w2 := (yr_fx w.2).2.2.2
    unfold yr_n
    rw [if_neg (by decide), if_neg (by decide), if_neg (by decide), if_neg (by decide), if_neg (by decide)]
    repeat' split
    all_goals first
      | exact w1
      | exact w2
theorem yr_pz {x y c : Nat → Int} {n s a b d e : Nat} (h : yr_P x y c n s a b d e) : (yr_p x y s a b d e).2.2 ≠ 0 := by
  have one : (1 : Int) ≠ 0 := by decide
  rcases h with ⟨z1, z2, z3, z⟩ | ⟨z1, z2, z⟩ | ⟨z1, z2, z⟩ | ⟨z1, z⟩ | ⟨z1, z⟩ | ⟨z1, z⟩
  · subst z1
    exact one
  · subst z1
    exact one
  · subst z1
    exact one
  · subst z1
    exact one
  · subst z1
    exact one
  · subst z1
    exact (yr_fx z.2.2.2.2.2.2.2).2.2.2
theorem yr_n_c {x y X Y : Nat → Int} {s a b d e k : Nat} (ha : x a = X a ∧ y a = Y a) (hb : x b = X b ∧ y b = Y b) (hd : x d = X d ∧ y d = Y d) (he : x e = X e ∧ y e = Y e) : yr_n x y s a b d e k = yr_n X Y s a b d e k := by
  unfold yr_n yh_dot yq_ar
  simp only [ha.1, ha.2, hb.1, hb.2, hd.1, hd.2, he.1, he.2]
theorem yr_p_c {x y X Y : Nat → Int} {s a b d e : Nat} (ha : x a = X a ∧ y a = Y a) (hb : x b = X b ∧ y b = Y b) (hd : x d = X d ∧ y d = Y d) (he : x e = X e ∧ y e = Y e) : yr_p x y s a b d e = yr_p X Y s a b d e := by
  unfold yr_p yq_ar
  simp only [ha.1, ha.2, hb.1, hb.2, hd.1, hd.2, he.1, he.2]
/-- which numbers may be asked -/
noncomputable def yr_wh (w : Int) : Prop := (0 ≤ w ∧ w ≤ 1) ∨ (10 ≤ w ∧ w ≤ 13) ∨ (20 ≤ w ∧ w ≤ 23) ∨ (30 ≤ w ∧ w ≤ 33) ∨ (40 ≤ w ∧ w ≤ 43)
noncomputable def yr_tl (w K M : Int) (W T U : Nat → Int) (X1 X2 Y1 Y2 : Int) : Int :=
  if w = 0 then K else if w = 1 then M
  else if w ≤ 13 then (if w - 10 < M then W (w - 10).toNat else -1000000)
  else if w ≤ 23 then (if w - 20 < M then T (w - 20).toNat else -1000000)
  else if w ≤ 33 then (if w - 30 < M then U (w - 30).toNat else -1000000)
  else if w = 40 then X1 else if w = 41 then X2 else if w = 42 then Y1 else Y2
theorem yr_tl_c {w K M : Int} {W T U W' T' U' : Nat → Int} {X1 X2 Y1 Y2 : Int} (hM : 1 ≤ M) (h : ∀ k : Nat, (k : Int) < M → W k = W' k ∧ T k = T' k ∧ U k = U' k) : yr_tl w K M W T U X1 X2 Y1 Y2 = yr_tl w K M W' T' U' X1 X2 Y1 Y2 := by
  have c1 : (if w - 10 < M then W (w - 10).toNat else -1000000) = (if w - 10 < M then W' (w - 10).toNat else -1000000) := by
    by_cases q : w - 10 < M
    · rw [if_pos q, if_pos q]
      exact (h _ (by omega)).1
    · rw [if_neg q, if_neg q]
  have c2 : (if w - 20 < M then T (w - 20).toNat else -1000000) = (if w - 20 < M then T' (w - 20).toNat else -1000000) := by
    by_cases q : w - 20 < M
    · rw [if_pos q, if_pos q]
      exact (h _ (by omega)).2.1
    · rw [if_neg q, if_neg q]
  have c3 : (if w - 30 < M then U (w - 30).toNat else -1000000) = (if w - 30 < M then U' (w - 30).toNat else -1000000) := by
    by_cases q : w - 30 < M
    · rw [if_pos q, if_pos q]
      exact (h _ (by omega)).2.2
    · rw [if_neg q, if_neg q]
  unfold yr_tl
  rw [c1, c2, c3]
noncomputable def yr_as (x y : Nat → Int) (s a b d e : Nat) (w : Int) : Int := yr_tl w (yr_k s) (yr_m s) (yr_w a b d e) (fun k => yr_t (yr_n x y s a b d e k).1 (yr_n x y s a b d e k).2) (fun k => yr_u (yr_n x y s a b d e k).1 (yr_n x y s a b d e k).2) (yr_t (yr_p x y s a b d e).1 (yr_p x y s a b d e).2.2) (yr_u (yr_p x y s a b d e).1 (yr_p x y s a b d e).2.2) (yr_t (yr_p x y s a b d e).2.1 (yr_p x y s a b d e).2.2) (yr_u (yr_p x y s a b d e).2.1 (yr_p x y s a b d e).2.2)
theorem yr_as_c {x y X Y : Nat → Int} {s a b d e : Nat} {w : Int} (ha : x a = X a ∧ y a = Y a) (hb : x b = X b ∧ y b = Y b) (hd : x d = X d ∧ y d = Y d) (he : x e = X e ∧ y e = Y e) : yr_as x y s a b d e w = yr_as X Y s a b d e w := by
  have k : ∀ k, yr_n x y s a b d e k = yr_n X Y s a b d e k := fun k => yr_n_c ha hb hd he
  unfold yr_as
  simp only [k, yr_p_c ha hb hd he]
/-- what the class holds of the first meeting -/
noncomputable def yr_DC (x y c : Nat → Int) (n : Nat) (K M : Int) (W T U : Nat → Int) (X1 X2 Y1 Y2 : Int) : Prop := ∃ s a b d e : Nat, yr_F x y c n s a b d e ∧ K = yr_k s ∧ M = yr_m s ∧ (∀ k : Nat, (k : Int) < yr_m s → W k = yr_w a b d e k ∧ T k = yr_t (yr_n x y s a b d e k).1 (yr_n x y s a b d e k).2 ∧ U k = yr_u (yr_n x y s a b d e k).1 (yr_n x y s a b d e k).2) ∧ X1 = yr_t (yr_p x y s a b d e).1 (yr_p x y s a b d e).2.2 ∧ X2 = yr_u (yr_p x y s a b d e).1 (yr_p x y s a b d e).2.2 ∧ Y1 = yr_t (yr_p x y s a b d e).2.1 (yr_p x y s a b d e).2.2 ∧ Y2 = yr_u (yr_p x y s a b d e).2.1 (yr_p x y s a b d e).2.2
theorem yr_DC_t {x y c : Nat → Int} {n : Nat} {K M : Int} {W T U : Nat → Int} {X1 X2 Y1 Y2 : Int} (h : yr_DC x y c n K M W T U X1 X2 Y1 Y2) : ∃ s a b d e : Nat, yr_F x y c n s a b d e ∧ ∀ w : Int, yr_tl w K M W T U X1 X2 Y1 Y2 = yr_as x y s a b d e w := by
  obtain ⟨s, a, b, d, e, h1, h2, h3, h4, h5, h6, h7, h8⟩ := h
  refine ⟨s, a, b, d, e, h1, fun w => ?_⟩
  have m := yr_mp s
  rw [h2, h3, h5, h6, h7, h8]
  unfold yr_as
  exact yr_tl_c (by omega) h4
theorem yr_DC_c {x y c X Y C : Nat → Int} {n : Nat} {K M : Int} {W T U : Nat → Int} {X1 X2 Y1 Y2 : Int} (hx : ∀ j : Nat, j < n → x j = X j) (hy : ∀ j : Nat, j < n → y j = Y j) (hc : ∀ j : Nat, j < n → c j = C j) (h : yr_DC x y c n K M W T U X1 X2 Y1 Y2) : yr_DC X Y C n K M W T U X1 X2 Y1 Y2 := by
  obtain ⟨s, a, b, d, e, h1, h2, h3, h4, h5⟩ := h
  obtain ⟨ka, kb, kd, ke⟩ := yr_Pn h1.1
  have k : ∀ k, yr_n x y s a b d e k = yr_n X Y s a b d e k := fun k => yr_n_c ⟨hx a ka, hy a ka⟩ ⟨hx b kb, hy b kb⟩ ⟨hx d kd, hy d kd⟩ ⟨hx e ke, hy e ke⟩
  have p : yr_p x y s a b d e = yr_p X Y s a b d e := yr_p_c ⟨hx a ka, hy a ka⟩ ⟨hx b kb, hy b kb⟩ ⟨hx d kd, hy d kd⟩ ⟨hx e ke, hy e ke⟩
  rw [p] at h5
  exact ⟨s, a, b, d, e, yr_F_c hx hy hc h1, h2, h3, fun q hq => by rw [← k]; exact h4 q hq, h5⟩
