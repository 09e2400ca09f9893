/-! what wide and side answer -/
noncomputable def ye_dv (t u : Int) : Int := if u < 0 then -ye_q t u else ye_q t u
theorem ye_dv_p {t u : Int} (h : 0 ≤ u) : ye_dv t u = ye_q t u := if_neg (by omega)
abbrev ye_O : Type := Int × Int × Int × Int × Int × Int
noncomputable def ye_go (x y : Nat → Int) (n : Nat) (t : ye_T) (u : ye_O) : Prop := t.1 = 1 → u.1 = ye_wd x y n t.2.1 t.2.2.1 t.2.2.2.1 t.2.2.2.2 0 ∧ u.2.1 = ye_wd x y n t.2.1 t.2.2.1 t.2.2.2.1 t.2.2.2.2 1 ∧ u.2.2.1 = ye_wd x y n t.2.1 t.2.2.1 t.2.2.2.1 t.2.2.2.2 2 ∧ u.2.2.2.1 = ye_wd x y n t.2.1 t.2.2.1 t.2.2.2.1 t.2.2.2.2 3 ∧ u.2.2.2.2.1 = ye_wd x y n t.2.1 t.2.2.1 t.2.2.2.1 t.2.2.2.2 4 ∧ u.2.2.2.2.2 = ye_wd x y n t.2.1 t.2.2.1 t.2.2.2.1 t.2.2.2.2 5
noncomputable def ye_fo (x y : Nat → Int) (n : Nat) (ch s : Int) (u : ye_O) (t' : ye_T) (u' : ye_O) : Prop := (s = ch ∧ u' = u) ∨ (s ≠ ch ∧ ye_go x y n t' u')
/-- what wide answers of what is kept -/
noncomputable def ye_ra (t : ye_T) (u : ye_O) (w : Int) : Int := if t.1 = 0 then -6 else if w = 0 then u.1 else if w = 1 then u.2.1 else if w = 2 then u.2.2.1 else if w = 3 then u.2.2.2.1 else if w = 4 then u.2.2.2.2.1 else u.2.2.2.2.2
noncomputable def ye_rw (x y : Nat → Int) (n : Nat) (t : ye_T) (w : Int) : Int := if t.1 = 0 then -6 else ye_wd x y n t.2.1 t.2.2.1 t.2.2.2.1 t.2.2.2.2 w
theorem ye_ra_e {x y : Nat → Int} {n : Nat} {t : ye_T} {u : ye_O} {w : Int} (h01 : t.1 = 0 ∨ t.1 = 1) (h : ye_go x y n t u) (hw : 0 ≤ w ∧ w ≤ 5) : ye_ra t u w = ye_rw x y n t w := by
  unfold ye_ra ye_rw
  by_cases q : t.1 = 0
  · rw [if_pos q, if_pos q]
  · rw [if_neg q, if_neg q]
    obtain ⟨a0, a1, a2, a3, a4, a5⟩ := h (by omega)
    rcases (show w = 0 ∨ w = 1 ∨ w = 2 ∨ w = 3 ∨ w = 4 ∨ w = 5 by omega) with e | e | e | e | e | e
    · rw [if_pos e, e]
      exact a0
    · rw [if_neg (by omega), if_pos e, e]
      exact a1
    · rw [if_neg (by omega), if_neg (by omega), if_pos e, e]
      exact a2
    · rw [if_neg (by omega), if_neg (by omega), if_neg (by omega), if_pos e, e]
      exact a3
    · rw [if_neg (by omega), if_neg (by omega), if_neg (by omega), if_neg (by omega), if_pos e, e]
      exact a4
    · rw [if_neg (by omega), if_neg (by omega), if_neg (by omega), if_neg (by omega), if_neg (by omega), e]
      exact a5
noncomputable def ye_rs (x y : Nat → Int) (n i : Int) (t : ye_T) : Int := if t.1 = 0 ∨ ¬ (0 ≤ i ∧ i < n) then -1 else if ye_d x y t.2.1 t.2.2.1 i.toNat = t.2.2.2.1 ∨ ye_d x y t.2.1 t.2.2.1 i.toNat = t.2.2.2.2 then 1 else 0
/-- two that have found the same: bounds, the row of pairs, the same points -/
noncomputable def ye_tb (t : ye_T) : Prop := t.1 = 1 → (-600 ≤ t.2.1 ∧ t.2.1 ≤ 600) ∧ -600 ≤ t.2.2.1 ∧ t.2.2.1 ≤ 600
theorem ye_same {x y c X Y C : Nat → Int} {n : Nat} {t m : ye_T} (hr : ye_nr x y c n) (b : ye_bo c n) (hx : ∀ j : Nat, j < n → x j = X j) (hy : ∀ j : Nat, j < n → y j = Y j) (hc : ∀ j : Nat, j < n → c j = C j) (ht : ye_tb t) (hm : ye_tb m) (h1 : ye_way x y c n t) (h2 : ye_way X Y C n m) : (t.1 = 0 ∧ m.1 = 0) ∨ (t.1 = 1 ∧ m.1 = 1 ∧ (t.2.1 ≠ 0 ∨ t.2.2.1 ≠ 0) ∧ ∃ s q : Int, 0 < s ∧ 0 < q ∧ q * t.2.1 = s * m.2.1 ∧ q * t.2.2.1 = s * m.2.2.1 ∧ q * t.2.2.2.1 = s * m.2.2.2.1 ∧ q * t.2.2.2.2 = s * m.2.2.2.2) := by
  have h2' : ye_way x y c n m := ye_way_c (fun j hj => (hx j hj).symm) (fun j hj => (hy j hj).symm) (fun j hj => (hc j hj).symm) h2
  have hY := ye_cnt1 n b.1
  have hN := ye_cnt0 n (fun j hj => (hr j hj).2.2.2.2) b.2
  rcases ye_par1 hr ht b h1 with ⟨q1, q2⟩ | ⟨q1, q2⟩
  · rcases ye_par1 hr hm b h2' with ⟨q3, q4⟩ | ⟨q3, q4⟩
    · have w1 := ye_cl1 hr hY hN ht (h1.2 b) q1
      have w2 := ye_cl1 hr hY hN hm (h2'.2 b) q3
      refine Or.inr ⟨q1, q3, ?_, ye_uni (n := n) (fun j h => h.1) (fun j h => h.1) w1 w2⟩
      by_cases z : t.2.1 = 0
      · refine Or.inr fun z2 => ?_
        obtain ⟨⟨_, ⟨j, _, e1⟩, _, ⟨k, _, e2⟩⟩, e3, _⟩ := w1
        rw [z, z2, Int.zero_mul, Int.zero_mul] at e1 e2
        omega
      · exact Or.inl z
    · exact absurd q2 q4
  · rcases ye_par1 hr hm b h2' with ⟨q3, q4⟩ | ⟨q3, q4⟩
    · exact absurd q4 q2
    · exact Or.inl ⟨q1, q3⟩
theorem ye_same_w {x y c X Y C : Nat → Int} {n : Nat} {t m : ye_T} {w : Int} (hr : ye_nr x y c n) (b : ye_bo c n) (hx : ∀ j : Nat, j < n → x j = X j) (hy : ∀ j : Nat, j < n → y j = Y j) (hc : ∀ j : Nat, j < n → c j = C j) (ht : ye_tb t) (hm : ye_tb m) (h1 : ye_way x y c n t) (h2 : ye_way X Y C n m) : ye_rw x y n t w = ye_rw X Y n m w := by
  rcases ye_same hr b hx hy hc ht hm h1 h2 with ⟨q1, q2⟩ | ⟨q1, q2, q3, s, q, k1, k2, k3, k4, k5, k6⟩
  · unfold ye_rw
    rw [if_pos q1, if_pos q2]
  · unfold ye_rw
    rw [if_neg (by omega), if_neg (by omega)]
    exact ye_wd_u k1 k2 q3 k3 k4 k5 k6 hx hy
theorem ye_same_s {x y c X Y C : Nat → Int} {n : Nat} {N i : Int} {t m : ye_T} (hN : N.toNat = n) (hr : ye_nr x y c n) (b : ye_bo c n) (hx : ∀ j : Nat, j < n → x j = X j) (hy : ∀ j : Nat, j < n → y j = Y j) (hc : ∀ j : Nat, j < n → c j = C j) (ht : ye_tb t) (hm : ye_tb m) (h1 : ye_way x y c n t) (h2 : ye_way X Y C n m) : ye_rs x y N i t = ye_rs X Y N i m := by
  unfold ye_rs
  rcases ye_same hr b hx hy hc ht hm h1 h2 with ⟨q1, q2⟩ | ⟨q1, q2, q3, s, q, k1, k2, k3, k4, k5, k6⟩
  · rw [if_pos (Or.inl q1), if_pos (Or.inl q2)]
  · by_cases z : 0 ≤ i ∧ i < N
    · have n1 : ¬ (t.1 = 0 ∨ ¬ (0 ≤ i ∧ i < N)) := by omega
      have n2 : ¬ (m.1 = 0 ∨ ¬ (0 ≤ i ∧ i < N)) := by omega
      rw [if_neg n1, if_neg n2]
      have k := ye_sd k1 k2 (hx i.toNat (by omega)) (hy i.toNat (by omega)) k3 k4 k5 k6
      by_cases z2 : ye_d x y t.2.1 t.2.2.1 i.toNat = t.2.2.2.1 ∨ ye_d x y t.2.1 t.2.2.1 i.toNat = t.2.2.2.2
      · rw [if_pos z2, if_pos (k.mp z2)]
      · rw [if_neg z2, if_neg (fun e => z2 (k.mpr e))]
    · rw [if_pos (Or.inr z), if_pos (Or.inr z)]
