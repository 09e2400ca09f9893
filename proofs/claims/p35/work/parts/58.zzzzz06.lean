/-! setWithin -/
def yf_fc (x y c : Nat → Int) (f t h : Int) (fl ce : Int) (i : Nat) : Prop := fl < h ∧ h < ce ∧ (∀ j : Nat, j < i → c j = 0 → f ≤ x j → x j ≤ t → y j ≤ fl ∨ ce ≤ y j) ∧ (ce = 301 ∨ ∃ j : Nat, j < i ∧ c j = 0 ∧ f ≤ x j ∧ x j ≤ t ∧ y j = ce) ∧ (fl = -301 ∨ ∃ j : Nat, j < i ∧ c j = 0 ∧ f ≤ x j ∧ x j ≤ t ∧ y j = fl)
theorem yf_fc_n {x y c : Nat → Int} {f t h fl ce : Int} {i : Nat} (g : yf_fc x y c f t h fl ce i) (hn : c i = 0 → f ≤ x i → x i ≤ t → y i ≤ fl ∨ ce ≤ y i) : yf_fc x y c f t h fl ce (i + 1) := by
  obtain ⟨g1, g2, g3, g4, g5⟩ := g
  refine ⟨g1, g2, fun j hj => ?_, ?_, ?_⟩
  · by_cases z : j = i
    · rw [z]
      exact hn
    · exact g3 j (by omega)
  · rcases g4 with q | ⟨j, q1, q2⟩
    · exact Or.inl q
    · exact Or.inr ⟨j, by omega, q2⟩
  · rcases g5 with q | ⟨j, q1, q2⟩
    · exact Or.inl q
    · exact Or.inr ⟨j, by omega, q2⟩
theorem yf_fc_u {x y c : Nat → Int} {f t h fl ce z : Int} {i : Nat} (g : yf_fc x y c f t h fl ce i) (hz : z = y i) (h0 : c i = 0) (h1 : f ≤ x i) (h2 : x i ≤ t) (h3 : h < z) (h4 : z ≤ ce) : yf_fc x y c f t h fl z (i + 1) := by
  obtain ⟨g1, g2, g3, g4, g5⟩ := g
  refine ⟨g1, h3, fun j hj q1 q2 q3 => ?_, Or.inr ⟨i, by omega, h0, h1, h2, hz.symm⟩, ?_⟩
  · by_cases e : j = i
    · rw [e]
      exact Or.inr (by omega)
    · have := g3 j (by omega) q1 q2 q3
      omega
  · rcases g5 with q | ⟨j, q1, q2⟩
    · exact Or.inl q
    · exact Or.inr ⟨j, by omega, q2⟩
theorem yf_fc_d {x y c : Nat → Int} {f t h fl ce z : Int} {i : Nat} (g : yf_fc x y c f t h fl ce i) (hz : z = y i) (h0 : c i = 0) (h1 : f ≤ x i) (h2 : x i ≤ t) (h3 : z < h) (h4 : fl ≤ z) : yf_fc x y c f t h z ce (i + 1) := by
  obtain ⟨g1, g2, g3, g4, g5⟩ := g
  refine ⟨h3, g2, fun j hj q1 q2 q3 => ?_, ?_, Or.inr ⟨i, by omega, h0, h1, h2, hz.symm⟩⟩
  · by_cases e : j = i
    · rw [e]
      exact Or.inl (by omega)
    · have := g3 j (by omega) q1 q2 q3
      omega
  · rcases g4 with q | ⟨j, q1, q2⟩
    · exact Or.inl q
    · exact Or.inr ⟨j, by omega, q2⟩
/-- a no beside: nothing -/
theorem yf_sw_0 {x y c R : Nat → Int} {n m b : Nat} {f t : Int} {j : Nat} (hj : j < n) (h0 : c j = 0) (h1 : f ≤ x j) (h2 : x j ≤ t) (h3 : y j = y (R b).toNat) : yf_sw x y c R n m b f t 0 := by
  refine ⟨by decide, Nat.two_pow_pos m, fun i hi hc ⟨⟨k, hk, _⟩, _⟩ => yf_b0 k hk.2, fun B hB hb hc ⟨l, l1, l2⟩ ⟨r, r1, r2⟩ hi => ?_⟩
  refine absurd ?_ (hc j hj h0)
  exact ⟨⟨l, ⟨hB l l1, l1⟩, (show x (R l).toNat ≤ x j by rw [l2]; exact h1)⟩, ⟨r, ⟨hB r r1, r1⟩, (show x j ≤ x (R r).toNat by rw [r2]; exact h2)⟩, ⟨b, ⟨hB b hb, hb⟩, (show y (R b).toNat ≤ y j by omega)⟩, b, ⟨hB b hb, hb⟩, (show y j ≤ y (R b).toNat by omega)⟩
def yf_wi (x y R : Nat → Int) (f t fl ce : Int) : Nat → Bool := fun k => decide (f ≤ x (R k).toNat ∧ x (R k).toNat ≤ t ∧ fl < y (R k).toNat ∧ y (R k).toNat < ce)
theorem yf_sw_1 {x y c R : Nat → Int} {n m b : Nat} {f t fl ce s : Int} (g : yf_fc x y c f t (y (R b).toNat) fl ce n) (hy : ∀ j, -300 ≤ y j ∧ y j ≤ 300) (hs : s = ((yb_st (yf_wi x y R f t fl ce) m : Nat) : Int)) : yf_sw x y c R n m b f t s := by
  obtain ⟨g1, g2, g3, g4, g5⟩ := g
  have hb : ∀ i, yf_b s.toNat i ↔ i < m ∧ (f ≤ x (R i).toNat ∧ x (R i).toNat ≤ t ∧ fl < y (R i).toNat ∧ y (R i).toNat < ce) := fun i => by
    unfold yf_b
    rw [hs, Int.toNat_natCast, yb_tb, Bool.and_eq_true, decide_eq_true_eq]
    exact ⟨fun w => ⟨w.1, of_decide_eq_true w.2⟩, fun w => ⟨w.1, decide_eq_true w.2⟩⟩
  refine ⟨by omega, by rw [hs, Int.toNat_natCast]; exact yb_st_lt _ _, fun j hj h0 ⟨⟨a, a1, a2⟩, ⟨d, d1, d2⟩, ⟨e, e1, e2⟩, ⟨u, u1, u2⟩⟩ => ?_, fun B hB hbb hc ⟨l, l1, l2⟩ ⟨r, r1, r2⟩ hi i hBi => ?_⟩
  · have q1 := ((hb a).mp a1.2).2
    have q2 := ((hb d).mp d1.2).2
    have q3 := ((hb e).mp e1.2).2
    have q4 := ((hb u).mp u1.2).2
    have a2 : x (R a).toNat ≤ x j := a2
    have d2 : x j ≤ x (R d).toNat := d2
    have e2 : y (R e).toNat ≤ y j := e2
    have u2 : y j ≤ y (R u).toNat := u2
    have := g3 j hj h0 (by omega) (by omega)
    omega
  · rw [hb i]
    obtain ⟨w1, w2⟩ := hi i hBi
    refine ⟨hB i hBi, w1, w2, ?_, ?_⟩
    · by_cases z : fl < y (R i).toNat
      · exact z
      · exfalso
        rcases g5 with q | ⟨j, j1, j2, j3, j4, j5⟩
        · have := (hy (R i).toNat).1
          omega
        · exact hc j j1 j2 ⟨⟨l, ⟨hB l l1, l1⟩, (show x (R l).toNat ≤ x j by rw [l2]; exact j3)⟩, ⟨r, ⟨hB r r1, r1⟩, (show x j ≤ x (R r).toNat by rw [r2]; exact j4)⟩, ⟨i, ⟨hB i hBi, hBi⟩, (show y (R i).toNat ≤ y j by omega)⟩, b, ⟨hB b hbb, hbb⟩, (show y j ≤ y (R b).toNat by omega)⟩
    · by_cases z : y (R i).toNat < ce
      · exact z
      · exfalso
        rcases g4 with q | ⟨j, j1, j2, j3, j4, j5⟩
        · have := (hy (R i).toNat).2
          omega
        · exact hc j j1 j2 ⟨⟨l, ⟨hB l l1, l1⟩, (show x (R l).toNat ≤ x j by rw [l2]; exact j3)⟩, ⟨r, ⟨hB r r1, r1⟩, (show x j ≤ x (R r).toNat by rw [r2]; exact j4)⟩, ⟨b, ⟨hB b hbb, hbb⟩, (show y (R b).toNat ≤ y j by omega)⟩, i, ⟨hB i hBi, hBi⟩, (show y j ≤ y (R i).toNat by omega)⟩
