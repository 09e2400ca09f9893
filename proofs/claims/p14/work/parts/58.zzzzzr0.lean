/-! fractions in lowest terms -/
noncomputable def yr_g (u v : Int) : Int := if v < 0 then -ye_q u v else ye_q u v
noncomputable def yr_t (u v : Int) : Int := u.tdiv (yr_g u v)
noncomputable def yr_u (u v : Int) : Int := v.tdiv (yr_g u v)
theorem yr_qn (u v : Int) : ye_q (-u) (-v) = ye_q u v := by
  unfold ye_q
  rw [Int.natAbs_neg, Int.natAbs_neg]
theorem yr_neg (u : Int) {v : Int} (h : v ≠ 0) : yr_t (-u) (-v) = yr_t u v ∧ yr_u (-u) (-v) = yr_u u v := by
  unfold yr_t yr_u yr_g
  rw [yr_qn]
  by_cases q : v < 0
  · rw [if_neg (show ¬ -v < 0 by omega), if_pos q, Int.neg_tdiv, Int.neg_tdiv, Int.tdiv_neg, Int.tdiv_neg]
    exact ⟨rfl, rfl⟩
  · rw [if_pos (show -v < 0 by omega), if_neg q, Int.neg_tdiv_neg, Int.neg_tdiv_neg]
    exact ⟨rfl, rfl⟩
theorem yr_eq {u v U V : Int} (h0 : v ≠ 0) (h1 : V ≠ 0) (h : u * V = U * v) : yr_t u v = yr_t U V ∧ yr_u u v = yr_u U V := by
  have key : ∀ a b A B : Int, 0 < b → 0 < B → a * B = A * b → yr_t a b = yr_t A B ∧ yr_u a b = yr_u A B := fun a b A B p1 p2 e => by
    have e1 : B * a = b * A := by
      rw [Int.mul_comm B a, e, Int.mul_comm]
    have e2 : B * b = b * B := Int.mul_comm _ _
    have e3 := ye_qs p2 p1 e1 e2 (Or.inr (by omega))
    have g1 : yr_g a b = ye_q a b := if_neg (by omega)
    have g2 : yr_g A B = ye_q A B := if_neg (by omega)
    unfold yr_t yr_u
    rw [g1, g2]
    exact ⟨ye_red p2 (ye_qp _ _) (ye_qp _ _) e1 e3 (ye_q1 _ _) (ye_q1 _ _), ye_red p2 (ye_qp _ _) (ye_qp _ _) e2 e3 (ye_q2 _ _) (ye_q2 _ _)⟩
  by_cases p : v < 0
  · rw [← (yr_neg u h0).1, ← (yr_neg u h0).2]
    by_cases q : V < 0
    · rw [← (yr_neg U h1).1, ← (yr_neg U h1).2]
      exact key _ _ _ _ (by omega) (by omega) (by rw [Int.neg_mul_neg, Int.neg_mul_neg]; exact h)
    · exact key _ _ _ _ (by omega) (by omega) (by rw [Int.neg_mul, Int.mul_neg, h])
  · by_cases q : V < 0
    · rw [← (yr_neg U h1).1, ← (yr_neg U h1).2]
      exact key _ _ _ _ (by omega) (by omega) (by rw [Int.mul_neg, Int.neg_mul, h])
    · exact key _ _ _ _ (by omega) (by omega) h
theorem yr_q1 (u : Int) : ye_q u 1 = 1 := by
  unfold ye_q
  rw [show (1 : Int).natAbs = 1 from rfl, Nat.gcd_one_right]
  rfl
theorem yr_1 (u : Int) : yr_t u 1 = u ∧ yr_u u 1 = 1 := by
  have g : yr_g u 1 = 1 := by
    unfold yr_g
    rw [if_neg (by decide), yr_q1]
  unfold yr_t yr_u
  rw [g]
  exact ⟨Int.tdiv_one u, Int.tdiv_one 1⟩
/-- what the reference tells of a fraction -/
noncomputable def yr_pt (u v w : Int) : Int := if w = 0 then v.tdiv ((Nat.gcd u.natAbs v.natAbs : Nat) : Int) else u.tdiv ((Nat.gcd u.natAbs v.natAbs : Nat) : Int)
theorem yr_pt_e {u v : Int} (h : 0 < v) : yr_pt u v 1 = yr_t u v ∧ yr_pt u v 0 = yr_u u v := by
  have g : yr_g u v = ((Nat.gcd u.natAbs v.natAbs : Nat) : Int) := by
    unfold yr_g
    rw [if_neg (by omega)]
    exact ye_qe (Or.inr (by omega))
  unfold yr_pt yr_t yr_u
  rw [g]
  exact ⟨if_neg (by decide), if_pos rfl⟩
noncomputable def yr_s (z w : Int) : Int := if w < 0 then -z else z
noncomputable def yr_fr (u v N D : Int) : Prop := 1 ≤ v ∧ u * D = N * v
theorem yr_fr_s {z w N D : Int} (hw : w ≠ 0) (h : z * D = N * w) : yr_fr (yr_s z w) (yq_abs w) N D := by
  unfold yr_fr yr_s yq_abs
  by_cases q : w < 0
  · rw [if_pos q, if_pos q, Int.neg_mul, Int.mul_neg, h]
    exact ⟨by omega, rfl⟩
  · rw [if_neg q, if_neg q]
    exact ⟨by omega, h⟩
theorem yr_fr_t {u v N D : Int} (hD : D ≠ 0) (h : yr_fr u v N D) : yr_pt u v 1 = yr_t N D ∧ yr_pt u v 0 = yr_u N D := by
  have k := yr_eq (show v ≠ 0 by have := h.1; omega) hD h.2
  have p := yr_pt_e (u := u) (show 0 < v by have := h.1; omega)
  rw [p.1, p.2]
  exact k
theorem yr_tdb {x g : Int} (hg : g ≤ -1) (hx : -4611686018427387904 ≤ x ∧ x ≤ 4611686018427387904) : (x.tdiv g).bmod Int64.size = x.tdiv g := by
  have e : x.tdiv g = -(x.tdiv (-g)) := by
    have := Int.tdiv_neg x (-g)
    rw [Int.neg_neg] at this
    exact this
  have b : -4611686018427387904 ≤ x.tdiv (-g) ∧ x.tdiv (-g) ≤ 4611686018427387904 := by
    by_cases h0 : 0 ≤ x
    · have e1 : x.tdiv (-g) = x / (-g) := Int.tdiv_eq_ediv_of_nonneg h0
      have k1 := Int.ediv_nonneg (a := x) (b := -g) h0 (by omega)
      have k2 := Int.ediv_le_self (a := x) (-g) h0
      omega
    · have e1 : x.tdiv (-g) = -((-x) / (-g)) := by
        have := Int.neg_tdiv (-x) (-g)
        rw [Int.neg_neg, Int.tdiv_eq_ediv_of_nonneg (show 0 ≤ -x by omega)] at this
        exact this
      have k1 := Int.ediv_nonneg (a := -x) (b := -g) (by omega) (by omega)
      have k2 := Int.ediv_le_self (a := -x) (-g) (by omega)
      omega
  exact Int.bmod_eq_of_le (by show -((Int64.size : Int) / 2) ≤ _; rw [show ((Int64.size : Nat) : Int) = 18446744073709551616 from rfl]; omega) (by show _ < ((Int64.size : Int) + 1) / 2; rw [show ((Int64.size : Nat) : Int) = 18446744073709551616 from rfl]; omega)
