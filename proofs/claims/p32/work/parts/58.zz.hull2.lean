/-! the hull, once more: which numbers its corners have -/
def yh_mi (x y : Nat → Int) (C : Nat → Prop) (w : Nat) : Prop := ∀ k, k < w → C k → ¬ yh_at x y k w
theorem yh_mi_u {x y : Nat → Int} {C : Nat → Prop} {w w' : Nat} (h : yh_mi x y C w) (h' : yh_mi x y C w') (c : C w) (c' : C w') (ha : yh_at x y w w') : w = w' := by
  rcases Nat.lt_trichotomy w w' with q | q | q
  · exact absurd ha (h' w q c)
  · exact q
  · exact absurd ⟨ha.1.symm, ha.2.symm⟩ (h w' q c')
theorem yh_mi_t {x y : Nat → Int} {C : Nat → Prop} {v n : Nat} {w : Int} (h : yh_scan x y C v n w) (hna : ¬ yh_at x y n v) (hw : 0 ≤ w → yq_ar x y v w.toNat n < 0 ∨ (yq_ar x y v w.toNat n = 0 ∧ yh_far x y v w.toNat < yh_far x y v n)) : yh_mi x y C n := by
  intro k hk hC ha
  rcases h with ⟨h1, h2⟩ | ⟨h1, h2, h3, h4⟩
  · have h5 := h2 k hk hC
    exact hna ⟨ha.1.symm.trans h5.1, ha.2.symm.trans h5.2⟩
  · have hkv : ¬ yh_at x y k v := fun z => hna ⟨ha.1.symm.trans z.1, ha.2.symm.trans z.2⟩
    have h6 := h4 k hk hC hkv
    have e1 : yq_ar x y v w.toNat k = yq_ar x y v w.toNat n := by
      unfold yq_ar
      rw [ha.1, ha.2]
    have e2 : yh_far x y v k = yh_far x y v n := by
      unfold yh_far
      rw [ha.1, ha.2]
    rw [e1, e2] at h6
    have h7 := hw h1
    omega
theorem yh_mi_l {x y : Nat → Int} {C : Nat → Prop} {n : Nat} {w : Int} (h : yh_low x y C n w) (hw : 0 ≤ w → x n < x w.toNat ∨ (x n = x w.toNat ∧ y n < y w.toNat)) : yh_mi x y C n := by
  intro k hk hC ha
  rcases h with ⟨h1, h2⟩ | ⟨h1, h2, h3⟩
  · exact h2 k hk hC
  · have h4 := h3 k hk hC
    have h5 := hw h1
    have h6 := ha.1
    have h7 := ha.2
    omega
theorem yh_suc_u {x y : Nat → Int} {C : Nat → Prop} {v w w' : Nat} (he : yh_ext x y C v) (h : yh_suc x y C v w) (h' : yh_suc x y C v w') (m : yh_mi x y C w) (m' : yh_mi x y C w') : w = w' := by
  obtain ⟨a1, a2, a3⟩ := h
  obtain ⟨b1, b2, b3⟩ := h'
  have u1 := a3 w' b1 b2
  have u2 := b3 w a1 a2
  rw [yh_neg x y v w' w] at u2
  have z : yq_ar x y v w w' = 0 := by
    rcases u1 with u1 | ⟨u1, -⟩ <;> rcases u2 with u2 | ⟨u2, -⟩ <;> omega
  have l : yh_far x y v w = yh_far x y v w' := by
    rcases u1 with u1 | ⟨-, u1⟩ <;> rcases u2 with u2 | ⟨-, u2⟩ <;> omega
  obtain ⟨p, q, f⟩ := he
  obtain ⟨d1, d2, -, d3⟩ := yh_par (f w' b1 b2) (f w a1 a2) z (by omega)
  have t := d3 (by omega)
  exact yh_mi_u m m' a1 b1 ⟨t.1.symm, t.2.symm⟩
theorem yh_scan_s {x y pc : Nat → Int} {c N : Int} {v n : Nat} {w : Int} (h : yh_scan x y (yh_C pc c N) v n w) (hn : N ≤ (n : Int)) (hw : 0 ≤ w) : yh_suc x y (yh_C pc c N) v w.toNat := by
  rcases h with ⟨h1, -⟩ | ⟨-, h2, h3, h4⟩
  · exfalso
    omega
  · exact ⟨h2, h3, fun k hk hna => h4 k (by have := hk.1; omega) hk hna⟩
theorem yh_scan_n {x y pc : Nat → Int} {c N : Int} {v n : Nat} {w : Int} (h : yh_scan x y (yh_C pc c N) v n w) (hn : N ≤ (n : Int)) (hw : w < 0) : ∀ k, yh_C pc c N k → yh_at x y k v := by
  rcases h with ⟨-, h2⟩ | ⟨h1, -⟩
  · exact fun k hk => h2 k (by have := hk.1; omega) hk
  · exfalso
    omega
/-- a walk of m steps from a to b; the places below m of cor hold its numbers -/
def yh_wk (x y : Nat → Int) (C : Nat → Prop) (m a b : Nat) (cor : Nat → Int) : Prop := ∃ f : Nat → Nat, f 0 = a ∧ f m = b ∧ (∀ i, i ≤ m → C (f i) ∧ yh_ext x y C (f i) ∧ yh_mi x y C (f i)) ∧ (∀ i, i < m → yh_suc x y C (f i) (f (i + 1)) ∧ ¬ yh_at x y (f (i + 1)) a) ∧ ∀ j, j < m → cor j = (f j : Int)
theorem yh_wk0 {x y : Nat → Int} {C : Nat → Prop} {a : Nat} {cor : Nat → Int} (hC : C a) (he : yh_ext x y C a) (hm : yh_mi x y C a) : yh_wk x y C 0 a a cor := ⟨fun _ => a, rfl, rfl, fun _ _ => ⟨hC, he, hm⟩, fun i hi => absurd hi (Nat.not_lt_zero i), fun j hj => absurd hj (Nat.not_lt_zero j)⟩
theorem yh_wk_e {x y : Nat → Int} {C : Nat → Prop} {m a b : Nat} {cor : Nat → Int} (h : yh_wk x y C m a b cor) : C b ∧ yh_ext x y C b ∧ yh_mi x y C b := by
  obtain ⟨f, -, fm, f1, -, -⟩ := h
  rw [← fm]
  exact f1 m (Nat.le_refl m)
theorem yh_wk_a {x y : Nat → Int} {C : Nat → Prop} {m a b : Nat} {cor : Nat → Int} (h : yh_wk x y C m a b cor) : C a ∧ yh_ext x y C a ∧ yh_mi x y C a := by
  obtain ⟨f, f0, -, f1, -, -⟩ := h
  rw [← f0]
  exact f1 0 (Nat.zero_le m)
theorem yh_wk_c {x y : Nat → Int} {C : Nat → Prop} {m a b : Nat} {cor cor' : Nat → Int} (h : yh_wk x y C m a b cor) (hc : ∀ j, j < m → cor' j = cor j) : yh_wk x y C m a b cor' := by
  obtain ⟨f, f0, fm, f1, f2, f3⟩ := h
  exact ⟨f, f0, fm, f1, f2, fun j hj => (hc j hj).trans (f3 j hj)⟩
theorem yh_wks {x y : Nat → Int} {C : Nat → Prop} {m a b w : Nat} {cor cor' : Nat → Int} (h : yh_wk x y C m a b cor) (hs : yh_suc x y C b w) (he : yh_ext x y C w) (hm : yh_mi x y C w) (hna : ¬ yh_at x y w a) (hc : ∀ j, j < m → cor' j = cor j) (hb : cor' m = (b : Int)) : yh_wk x y C (m + 1) a w cor' := by
  obtain ⟨f, f0, fm, f1, f2, f3⟩ := h
  refine ⟨fun i => if i = m + 1 then w else f i, ?_, ?_, fun i hi => ?_, fun i hi => ?_, fun j hj => ?_⟩
  · show (if 0 = m + 1 then w else f 0) = a
    rw [if_neg (by omega)]
    exact f0
  · show (if m + 1 = m + 1 then w else f (m + 1)) = w
    rw [if_pos rfl]
  · show C (if i = m + 1 then w else f i) ∧ yh_ext x y C (if i = m + 1 then w else f i) ∧ yh_mi x y C (if i = m + 1 then w else f i)
    by_cases q : i = m + 1
    · rw [if_pos q]
      exact ⟨hs.1, he, hm⟩
    · rw [if_neg q]
      exact f1 i (by omega)
  · show yh_suc x y C (if i = m + 1 then w else f i) (if i + 1 = m + 1 then w else f (i + 1)) ∧ ¬ yh_at x y (if i + 1 = m + 1 then w else f (i + 1)) a
    rw [if_neg (show ¬ i = m + 1 by omega)]
    by_cases q : i = m
    · rw [if_pos (show i + 1 = m + 1 by omega), q, fm]
      exact ⟨hs, hna⟩
    · rw [if_neg (show ¬ i + 1 = m + 1 by omega)]
      exact f2 i (by omega)
  · show cor' j = ((if j = m + 1 then w else f j : Nat) : Int)
    rw [if_neg (show ¬ j = m + 1 by omega)]
    by_cases q : j = m
    · rw [q, hb, fm]
    · rw [hc j (by omega)]
      exact f3 j (by omega)
/-- what comes out: how many corners, and which -/
def yh_out (x y : Nat → Int) (C : Nat → Prop) (cnt : Int) (cor : Nat → Int) : Prop := (cnt = 0 ∧ ∀ k, ¬ C k) ∨ ∃ m a b : Nat, cnt = (m : Int) + 1 ∧ (∀ k, C k → x a < x k ∨ (x a = x k ∧ y a ≤ y k)) ∧ yh_wk x y C m a b cor ∧ cor m = (b : Int) ∧ ((∀ k, C k → yh_at x y k b) ∨ ∃ w, yh_suc x y C b w ∧ yh_mi x y C w ∧ yh_at x y w a)
theorem yh_out_l {x y : Nat → Int} {C : Nat → Prop} {m m' a b b' : Nat} {cor cor' : Nat → Int} {f f' : Nat → Nat} (fm : f m = b) (f1 : ∀ i, i ≤ m → C (f i) ∧ yh_ext x y C (f i) ∧ yh_mi x y C (f i)) (f1' : ∀ i, i ≤ m' → C (f' i) ∧ yh_ext x y C (f' i) ∧ yh_mi x y C (f' i)) (f2' : ∀ i, i < m' → yh_suc x y C (f' i) (f' (i + 1)) ∧ ¬ yh_at x y (f' (i + 1)) a) (h5 : (∀ k, C k → yh_at x y k b) ∨ ∃ w, yh_suc x y C b w ∧ yh_mi x y C w ∧ yh_at x y w a) (e : f m = f' m) : ¬ m < m' := by
  intro q
  have s' := f2' m q
  rw [← e, fm] at s'
  rcases h5 with h5 | ⟨w, w1, w2, w3⟩
  · exact s'.1.2.1 (h5 _ s'.1.1)
  · have eb := f1 m (Nat.le_refl m)
    rw [fm] at eb
    have ew := yh_suc_u eb.2.1 w1 s'.1 w2 (f1' (m + 1) q).2.2
    rw [ew] at w3
    exact s'.2 w3
theorem yh_out_u {x y : Nat → Int} {C : Nat → Prop} {c c' : Int} {cor cor' : Nat → Int} (h : yh_out x y C c cor) (h' : yh_out x y C c' cor') : c = c' ∧ ∀ j : Nat, (j : Int) < c → cor j = cor' j := by
  rcases h with ⟨h1, h2⟩ | ⟨m, a, b, h1, h2, ⟨f, f0, fm, f1, f2, f3⟩, h4, h5⟩
  · rcases h' with ⟨g1, g2⟩ | ⟨m', a', b', g1, g2, ⟨f', f0', fm', f1', f2', f3'⟩, g4, g5⟩
    · exact ⟨by omega, fun j hj => absurd hj (by omega)⟩
    · exact absurd (f1' 0 (Nat.zero_le _)).1 (h2 _)
  · rcases h' with ⟨g1, g2⟩ | ⟨m', a', b', g1, g2, ⟨f', f0', fm', f1', f2', f3'⟩, g4, g5⟩
    · exact absurd (f1 0 (Nat.zero_le _)).1 (g2 _)
    · have ca := f1 0 (Nat.zero_le _)
      have ca' := f1' 0 (Nat.zero_le _)
      rw [f0] at ca
      rw [f0'] at ca'
      have p1 := h2 a' ca'.1
      have p2 := g2 a ca.1
      have eqa : a = a' := yh_mi_u ca.2.2 ca'.2.2 ca.1 ca'.1 ⟨by omega, by omega⟩
      subst eqa
      have ind : ∀ i, i ≤ m → i ≤ m' → f i = f' i := by
        intro i
        induction i with
        | zero =>
          intro _ _
          rw [f0, f0']
        | succ i ih =>
          intro q1 q2
          have e := ih (by omega) (by omega)
          have s := (f2 i (by omega)).1
          have s' := (f2' i (by omega)).1
          rw [← e] at s'
          exact yh_suc_u (f1 i (by omega)).2.1 s s' (f1 (i + 1) q1).2.2 (f1' (i + 1) q2).2.2
      have len : m = m' := by
        rcases Nat.lt_trichotomy m m' with q | q | q
        · exact absurd q (yh_out_l (cor := cor) (cor' := cor') (b' := b') fm f1 f1' f2' h5 (ind m (Nat.le_refl m) (by omega)))
        · exact q
        · exact absurd q (yh_out_l (cor := cor') (cor' := cor) (b' := b) fm' f1' f1 f2 g5 (ind m' (by omega) (Nat.le_refl m')).symm)
      subst len
      refine ⟨by omega, fun j hj => ?_⟩
      by_cases q : j < m
      · rw [f3 j q, f3' j q, ind j (by omega) (by omega)]
      · have q2 : j = m := by omega
        have q3 := ind m (Nat.le_refl m) (Nat.le_refl m)
        rw [fm, fm'] at q3
        rw [q2, h4, g4, q3]
theorem yh_out_c {x y X Y : Nat → Int} {C : Nat → Prop} {c : Int} {cor : Nat → Int} (hx : ∀ k, C k → x k = X k ∧ y k = Y k) (h : yh_out x y C c cor) : yh_out X Y C c cor := by
  have hat : ∀ a b, C a → C b → (yh_at x y a b ↔ yh_at X Y a b) := fun a b ha hb => by
    unfold yh_at
    rw [(hx a ha).1, (hx b hb).1, (hx a ha).2, (hx b hb).2]
  have har : ∀ a b c, C a → C b → C c → yq_ar x y a b c = yq_ar X Y a b c := fun a b c ha hb hc => by
    unfold yq_ar
    rw [(hx a ha).1, (hx b hb).1, (hx c hc).1, (hx a ha).2, (hx b hb).2, (hx c hc).2]
  have hfar : ∀ a b, C a → C b → yh_far x y a b = yh_far X Y a b := fun a b ha hb => by
    unfold yh_far
    rw [(hx a ha).1, (hx b hb).1, (hx a ha).2, (hx b hb).2]
  have hext : ∀ v, C v → yh_ext x y C v → yh_ext X Y C v := fun v hv ⟨p, q, f⟩ => ⟨p, q, fun k hk hn => by
    have t := f k hk (fun z => hn ((hat k v hk hv).mp z))
    unfold yh_f at t ⊢
    rw [(hx k hk).1, (hx k hk).2, (hx v hv).1, (hx v hv).2] at t
    exact t⟩
  have hsuc : ∀ v w, C v → yh_suc x y C v w → yh_suc X Y C v w := fun v w hv ⟨a1, a2, a3⟩ => ⟨a1, fun z => a2 ((hat w v a1 hv).mpr z), fun k hk hn => by
    have t := a3 k hk (fun z => hn ((hat k v hk hv).mp z))
    rw [har v w k hv a1 hk, hfar v k hv hk, hfar v w hv a1] at t
    exact t⟩
  have hmi : ∀ w, C w → yh_mi x y C w → yh_mi X Y C w := fun w hw h k hk hC z => h k hk hC ((hat k w hC hw).mpr z)
  rcases h with h | ⟨m, a, b, h1, h2, ⟨f, f0, fm, f1, f2, f3⟩, h4, h5⟩
  · exact Or.inl h
  · have ca : C a := by
      rw [← f0]
      exact (f1 0 (Nat.zero_le _)).1
    have cb : C b := by
      rw [← fm]
      exact (f1 m (Nat.le_refl m)).1
    refine Or.inr ⟨m, a, b, h1, fun k hk => ?_, ⟨f, f0, fm, fun i hi => ⟨(f1 i hi).1, hext _ (f1 i hi).1 (f1 i hi).2.1, hmi _ (f1 i hi).1 (f1 i hi).2.2⟩, fun i hi => ⟨hsuc _ _ (f1 i (by omega)).1 (f2 i hi).1, fun z => (f2 i hi).2 ((hat _ _ (f1 (i + 1) (by omega)).1 ca).mpr z)⟩, f3⟩, h4, ?_⟩
    · have t := h2 k hk
      rw [(hx k hk).1, (hx a ca).1, (hx k hk).2, (hx a ca).2] at t
      exact t
    · rcases h5 with h5 | ⟨w, w1, w2, w3⟩
      · exact Or.inl fun k hk => (hat k b hk cb).mp (h5 k hk)
      · exact Or.inr ⟨w, hsuc b w cb w1, hmi w w1.1 w2, (hat w a w1.1 ca).mp w3⟩
theorem yh_C_eq {c c' : Nat → Int} {q n : Int} (h : ∀ j : Nat, (j : Int) < n → c j = c' j) : yh_C c q n = yh_C c' q n := funext fun k => propext ⟨fun z => ⟨z.1, (h k z.1).symm.trans z.2⟩, fun z => ⟨z.1, (h k z.1).trans z.2⟩⟩
/-- the answer of hull -/
def yh_ans (x y c : Nat → Int) (n q i r : Int) : Prop := (¬ (0 ≤ q ∧ q ≤ 1) ∧ r = -1) ∨ ((0 ≤ q ∧ q ≤ 1) ∧ ∃ (cnt : Int) (cor : Nat → Int), yh_out x y (yh_C c q n) cnt cor ∧ r = if i = -1 then cnt else if 0 ≤ i ∧ i < cnt then cor i.toNat else -1)
theorem yh_ans_u {x y c X Y C : Nat → Int} {n q i r s : Int} (hx : ∀ j : Nat, (j : Int) < n → x j = X j) (hy : ∀ j : Nat, (j : Int) < n → y j = Y j) (hc : ∀ j : Nat, (j : Int) < n → c j = C j) (h : yh_ans x y c n q i r) (h' : yh_ans X Y C n q i s) : r = s := by
  rcases h with ⟨h1, h2⟩ | ⟨h1, cnt, cor, h2, h3⟩
  · rcases h' with ⟨g1, g2⟩ | ⟨g1, _⟩
    · rw [h2, g2]
    · exact absurd g1 h1
  · rcases h' with ⟨g1, _⟩ | ⟨g1, cnt', cor', g2, g3⟩
    · exact absurd h1 g1
    · rw [yh_C_eq hc] at h2
      have h4 := yh_out_c (X := X) (Y := Y) (fun k hk => ⟨hx k hk.1, hy k hk.1⟩) h2
      obtain ⟨u1, u2⟩ := yh_out_u h4 g2
      rw [h3, g3, ← u1]
      by_cases q1 : i = -1
      · rw [if_pos q1, if_pos q1]
      · rw [if_neg q1, if_neg q1]
        by_cases q2 : 0 ≤ i ∧ i < cnt
        · rw [if_pos q2, if_pos q2]
          exact u2 _ (by omega)
        · rw [if_neg q2, if_neg q2]
