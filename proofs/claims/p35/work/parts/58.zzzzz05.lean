/-! widen, addSet -/
def yf_wn (D S : Nat → Int) (cv : Nat) (v : Int) (D' : Nat → Int) (i : Nat) : Prop := (∀ t : Nat, D' t ≤ D t) ∧ (∀ t : Nat, D' t = D t ∨ ((∃ k : Nat, k < i ∧ t = cv ||| (S k).toNat) ∧ D' t = v)) ∧ ∀ k : Nat, k < i → D' (cv ||| (S k).toNat) ≤ v
theorem yf_wn_n {D S D' : Nat → Int} {cv i : Nat} {v : Int} (h : yf_wn D S cv v D' i) (hn : D' (cv ||| (S i).toNat) ≤ v) : yf_wn D S cv v D' (i + 1) := by
  obtain ⟨h1, h2, h3⟩ := h
  refine ⟨h1, fun t => ?_, fun k hk => ?_⟩
  · rcases h2 t with q | ⟨⟨k, hk, q1⟩, q2⟩
    · exact Or.inl q
    · exact Or.inr ⟨⟨k, by omega, q1⟩, q2⟩
  · by_cases z : k = i
    · rw [z]
      exact hn
    · exact h3 k (by omega)
theorem yf_wn_w {D S D' D'' : Nat → Int} {cv i t0 : Nat} {v : Int} (h : yf_wn D S cv v D' i) (e : t0 = cv ||| (S i).toNat) (hn : v < D' t0) (hw : D'' = yq_set D' t0 v) : yf_wn D S cv v D'' (i + 1) := by
  obtain ⟨h1, h2, h3⟩ := h
  have es : D'' t0 = v := by
    rw [hw]
    exact if_pos rfl
  have en : ∀ t : Nat, t ≠ t0 → D'' t = D' t := fun t ht => by
    rw [hw]
    exact if_neg ht
  refine ⟨fun t => ?_, fun t => ?_, fun k hk => ?_⟩
  · have a := h1 t
    by_cases q : t = t0
    · rw [q] at a ⊢
      rw [es]
      omega
    · rw [en t q]
      exact a
  · by_cases q : t = t0
    · exact Or.inr ⟨⟨i, by omega, by rw [q, e]⟩, by rw [q, es]⟩
    · rw [en t q]
      rcases h2 t with w | ⟨⟨k, hk, q1⟩, q2⟩
      · exact Or.inl w
      · exact Or.inr ⟨⟨k, by omega, q1⟩, q2⟩
  · by_cases q : cv ||| (S k).toNat = t0
    · rw [q, es]
      exact Int.le_refl v
    · rw [en _ q]
      by_cases z : k = i
      · rw [z, ← e] at q
        exact absurd rfl q
      · exact h3 k (by omega)
theorem yf_wn_W {D S D' : Nat → Int} {cv : Nat} {v q : Int} (h : yf_wn D S cv v D' q.toNat) (hv : v = D cv + 1) (hq : 0 ≤ q) : yf_W D D' S q cv := by
  obtain ⟨h1, h2, h3⟩ := h
  refine ⟨h1, fun t => ?_, fun k hk => ?_⟩
  · rcases h2 t with z | ⟨⟨k, hk, z1⟩, z2⟩
    · exact Or.inl z
    · exact Or.inr ⟨⟨k, by omega, z1⟩, by omega⟩
  · rw [← hv]
    exact h3 k (by omega)
/-- what addSet leaves -/
def yf_ad (S S' : Nat → Int) (q q' : Int) (s : Nat) : Prop := (q' = q ∧ (∀ k : Nat, S' k = S k) ∧ ∃ k : Nat, (k : Int) < q ∧ ∀ i, yf_b s i → yf_b (S k).toNat i) ∨ (q' = q + 1 ∧ (∀ k : Nat, (k : Int) < q → S' k = S k) ∧ S' q.toNat = (s : Int)) ∨ (144 ≤ q)
/-- the sets of the pairs so far -/
def yf_PB (x y c R : Nat → Int) (n m b : Nat) (S : Nat → Int) (q : Int) (P : Nat → Nat → Prop) : Prop := (∀ k : Nat, (k : Int) < q → (S k).toNat < 2 ^ m ∧ yf_K x y c R n m (yf_b (S k).toNat)) ∧ ∀ l r : Nat, P l r → x (R l).toNat ≤ x (R b).toNat → x (R b).toNat ≤ x (R r).toNat → ∀ B : Nat → Prop, (∀ i, B i → i < m) → B b → yf_K x y c R n m B → B l → B r → (∀ i, B i → x (R l).toNat ≤ x (R i).toNat ∧ x (R i).toNat ≤ x (R r).toNat) → ∃ k : Nat, (k : Int) < q ∧ ∀ i, B i → yf_b (S k).toNat i
/-- what setWithin finds -/
def yf_sw (x y c R : Nat → Int) (n m b : Nat) (f t : Int) (s : Int) : Prop := 0 ≤ s ∧ s.toNat < 2 ^ m ∧ yf_K x y c R n m (yf_b s.toNat) ∧ ∀ B : Nat → Prop, (∀ i, B i → i < m) → B b → yf_K x y c R n m B → (∃ l, B l ∧ x (R l).toNat = f) → (∃ r, B r ∧ x (R r).toNat = t) → (∀ i, B i → f ≤ x (R i).toNat ∧ x (R i).toNat ≤ t) → ∀ i, B i → yf_b s.toNat i
theorem yf_PB_a {x y c R S S' : Nat → Int} {n m b : Nat} {q q' f t s : Int} {P P' : Nat → Nat → Prop} (h : yf_PB x y c R n m b S q P) (hq : 0 ≤ q) (h144 : q < 144) (hs : yf_sw x y c R n m b f t s) (ha : yf_ad S S' q q' s.toNat) {l0 r0 : Nat} (hf : f = x (R l0).toNat) (ht : t = x (R r0).toNat) (hP : ∀ l r, P' l r → P l r ∨ (l = l0 ∧ r = r0)) : yf_PB x y c R n m b S' q' P' := by
  obtain ⟨h1, h2⟩ := h
  obtain ⟨s0, s1, s2, s3⟩ := hs
  have old : ∀ B : Nat → Prop, (∃ k : Nat, (k : Int) < q ∧ ∀ i, B i → yf_b (S k).toNat i) → ∃ k : Nat, (k : Int) < q' ∧ ∀ i, B i → yf_b (S' k).toNat i := fun B ⟨k, k1, k2⟩ => by
    rcases ha with ⟨a1, a2, -⟩ | ⟨a1, a2, -⟩ | a1
    · exact ⟨k, by omega, by rw [a2 k]; exact k2⟩
    · exact ⟨k, by omega, by rw [a2 k k1]; exact k2⟩
    · omega
  refine ⟨fun k hk => ?_, fun l r hp g1 g2 B hB hb hc hl hr hi => ?_⟩
  · rcases ha with ⟨a1, a2, -⟩ | ⟨a1, a2, a3⟩ | a1
    · rw [a2 k]
      exact h1 k (by omega)
    · by_cases z : (k : Int) < q
      · rw [a2 k z]
        exact h1 k z
      · rw [show k = q.toNat by omega, a3, show ((s.toNat : Nat) : Int) = s by omega]
        exact ⟨s1, s2⟩
    · omega
  · rcases hP l r hp with w | ⟨w1, w2⟩
    · exact old B (h2 l r w g1 g2 B hB hb hc hl hr hi)
    · rw [w1] at hl hi g1
      rw [w2] at hr hi g2
      have k1 := s3 B hB hb hc ⟨l0, hl, hf.symm⟩ ⟨r0, hr, ht.symm⟩ (by rw [hf, ht]; exact hi)
      rcases ha with ⟨a1, a2, k, a3, a4⟩ | ⟨a1, a2, a3⟩ | a1
      · exact old B ⟨k, a3, fun i hi => a4 i (k1 i hi)⟩
      · refine ⟨q.toNat, by omega, fun i hi => ?_⟩
        rw [a3, show ((s.toNat : Nat) : Int) = s by omega]
        exact k1 i hi
      · omega
theorem yf_PB_n {x y c R S : Nat → Int} {n m b : Nat} {q : Int} {P P' : Nat → Nat → Prop} (h : yf_PB x y c R n m b S q P) {l0 r0 : Nat} (hn : ¬ (x (R l0).toNat ≤ x (R b).toNat ∧ x (R b).toNat ≤ x (R r0).toNat)) (hP : ∀ l r, P' l r → P l r ∨ (l = l0 ∧ r = r0)) : yf_PB x y c R n m b S q P' := by
  obtain ⟨h1, h2⟩ := h
  refine ⟨h1, fun l r hp g1 g2 => ?_⟩
  rcases hP l r hp with w | ⟨w1, w2⟩
  · exact h2 l r w g1 g2
  · rw [w1] at g1
    rw [w2] at g2
    exact absurd ⟨g1, g2⟩ hn
theorem yf_PB_p {x y c R S : Nat → Int} {n m b : Nat} {q : Int} {P P' : Nat → Nat → Prop} (h : yf_PB x y c R n m b S q P) (hP : ∀ l r, l < m → r < m → P' l r → P l r) : yf_PB x y c R n m b S q P' := ⟨h.1, fun l r hp g1 g2 B hB hb hc hl hr => h.2 l r (hP l r (hB l hl) (hB r hr) hp) g1 g2 B hB hb hc hl hr⟩
/-- the outermost of a set that is not empty -/
theorem yf_min {P : Nat → Prop} {f : Nat → Int} : ∀ m : Nat, (∃ k, k < m ∧ P k) → ∃ k, k < m ∧ P k ∧ ∀ i, i < m → P i → f k ≤ f i
  | 0, ⟨_, h, _⟩ => absurd h (Nat.not_lt_zero _)
  | m + 1, ⟨k, hk, hp⟩ => by
    by_cases z : ∃ k, k < m ∧ P k
    · obtain ⟨a, a1, a2, a3⟩ := yf_min (P := P) (f := f) m z
      by_cases w : P m ∧ f m < f a
      · refine ⟨m, by omega, w.1, fun i hi hpi => ?_⟩
        by_cases e : i = m
        · rw [e]
          exact Int.le_refl _
        · have := a3 i (by omega) hpi
          omega
      · refine ⟨a, by omega, a2, fun i hi hpi => ?_⟩
        by_cases e : i = m
        · rw [e] at hpi ⊢
          have : ¬ f m < f a := fun u => w ⟨hpi, u⟩
          omega
        · exact a3 i (by omega) hpi
    · have e : k = m := by
        by_cases u : k < m
        · exact absurd ⟨k, u, hp⟩ z
        · omega
      refine ⟨m, by omega, by rw [← e]; exact hp, fun i hi hpi => ?_⟩
      by_cases u : i = m
      · rw [u]
        exact Int.le_refl _
      · exact absurd ⟨i, by omega, hpi⟩ z
theorem yf_PB_FS {x y c R S : Nat → Int} {n m b : Nat} {q : Int} (h : yf_PB x y c R n m b S q (fun _ _ => True)) : yf_FS (yf_K x y c R n m) m b S q := by
  refine ⟨h.1, fun B hB hb hc => ?_⟩
  obtain ⟨l, l1, l2, l3⟩ := yf_min (P := B) (f := fun k => x (R k).toNat) m ⟨b, hB b hb, hb⟩
  obtain ⟨r, r1, r2, r3⟩ := yf_min (P := B) (f := fun k => -x (R k).toNat) m ⟨b, hB b hb, hb⟩
  have u : ∀ i, B i → x (R l).toNat ≤ x (R i).toNat ∧ x (R i).toNat ≤ x (R r).toNat := fun i hi => by
    have a1 : x (R l).toNat ≤ x (R i).toNat := l3 i (hB i hi) hi
    have a2 : -x (R r).toNat ≤ -x (R i).toNat := r3 i (hB i hi) hi
    omega
  exact h.2 l r trivial (u b hb).1 (u b hb).2 B hB hb hc l2 r2 u
