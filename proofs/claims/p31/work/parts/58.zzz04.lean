/-! the least wrong -/
noncomputable def yw_wr (c w : Nat → Int) (s : Nat) : Nat → Int
  | 0 => 0
  | n + 1 => yw_wr c w s n + if (if s.testBit n = true then (1 : Int) else 0) = c n then 0 else w n
theorem yw_wr_s {c w : Nat → Int} {s : Nat} {i m : Int} (h : 0 ≤ i) (hm : m = i + 1) : yw_wr c w s m.toNat = yw_wr c w s i.toNat + if (if s.testBit i.toNat = true then (1 : Int) else 0) = c i.toNat then 0 else w i.toNat := by
  rw [show m.toNat = i.toNat + 1 by omega]
  rfl
theorem yw_wr_b {c w : Nat → Int} {s : Nat} (hw : ∀ j : Nat, 0 ≤ w j ∧ w j ≤ 1000) : ∀ n : Nat, 0 ≤ yw_wr c w s n ∧ yw_wr c w s n ≤ 1000 * (n : Int)
  | 0 => ⟨Int.le_refl 0, Int.le_refl 0⟩
  | n + 1 => by
    have h := yw_wr_b (c := c) (s := s) hw n
    have h2 := hw n
    show 0 ≤ yw_wr c w s n + (if (if s.testBit n = true then (1 : Int) else 0) = c n then 0 else w n) ∧ yw_wr c w s n + (if (if s.testBit n = true then (1 : Int) else 0) = c n then 0 else w n) ≤ 1000 * ((n + 1 : Nat) : Int)
    generalize (if s.testBit n = true then (1 : Int) else 0) = z
    split <;> omega
theorem yw_wr_e {c w C W : Nat → Int} {s : Nat} : ∀ n : Nat, (∀ j : Nat, j < n → c j = C j) → (∀ j : Nat, j < n → w j = W j) → yw_wr c w s n = yw_wr C W s n
  | 0, _, _ => rfl
  | n + 1, hc, hw => by
    show yw_wr c w s n + (if (if s.testBit n = true then (1 : Int) else 0) = c n then 0 else w n) = yw_wr C W s n + (if (if s.testBit n = true then (1 : Int) else 0) = C n then 0 else W n)
    rw [yw_wr_e n (fun j hj => hc j (by omega)) (fun j hj => hw j (by omega)), hc n (by omega), hw n (by omega)]
noncomputable def yw_bst (P : Nat → Prop) (f : Nat → Int) (k : Nat) (l : Int) (t : Nat) : Prop := t < k ∧ P t ∧ l = f t ∧ ∀ s : Nat, s < k → P s → (f t < f s ∨ (f t = f s ∧ t ≤ s))
theorem yw_bst_u {P Q : Nat → Prop} {f g : Nat → Int} {k t t' : Nat} {l l' : Int} (hP : ∀ s : Nat, s < k → (P s ↔ Q s)) (hf : ∀ s : Nat, s < k → f s = g s) (h : yw_bst P f k l t) (h' : yw_bst Q g k l' t') : l = l' ∧ t = t' := by
  obtain ⟨a1, a2, a3, a4⟩ := h
  obtain ⟨b1, b2, b3, b4⟩ := h'
  have c1 := a4 t' b1 ((hP t' b1).mpr b2)
  have c2 := b4 t a1 ((hP t a1).mp a2)
  rw [hf t a1, hf t' b1] at c1
  rw [hf t a1] at a3
  have e : t = t' := by omega
  rw [← e] at b3
  exact ⟨by omega, e⟩
theorem yw_bst_c {P Q : Nat → Prop} {f : Nat → Int} {k t : Nat} {l : Int} (hP : ∀ s : Nat, s < k → (P s ↔ Q s)) (h : yw_bst P f k l t) : yw_bst Q f k l t := ⟨h.1, (hP t h.1).mp h.2.1, h.2.2.1, fun s hs q => h.2.2.2 s hs ((hP s hs).mpr q)⟩
noncomputable def yw_BI (P : Nat → Prop) (f : Nat → Int) (i k l t : Int) : Prop := (k = 0 ∧ l = i) ∨ (1 ≤ k ∧ 0 ≤ t ∧ yw_bst P f k.toNat l t.toNat)
theorem yw_BI0 {P : Nat → Prop} {f : Nat → Int} {i t : Int} : yw_BI P f i 0 i t := Or.inl ⟨rfl, rfl⟩
theorem yw_BIn {P : Nat → Prop} {f : Nat → Int} {i k l t : Int} (h : yw_BI P f i k l t) (hk : 0 ≤ k) (h0 : P 0) (hi : f 0 < i) (hn : ¬ P k.toNat ∨ l ≤ f k.toNat) : yw_BI P f i (k + 1) l t := by
  rcases h with ⟨e1, e2⟩ | ⟨e1, e2, a1, a2, a3, a4⟩
  · rw [e1, show (0 : Int).toNat = 0 from rfl] at hn
    rcases hn with hn | hn
    · exact absurd h0 hn
    · omega
  · refine Or.inr ⟨by omega, e2, by omega, a2, a3, fun s hs q => ?_⟩
    by_cases z : s < k.toNat
    · exact a4 s z q
    · rw [show s = k.toNat by omega] at q ⊢
      rcases hn with hn | hn
      · exact absurd q hn
      · omega
theorem yw_BIs {P : Nat → Prop} {f : Nat → Int} {i k l t : Int} (h : yw_BI P f i k l t) (hk : 0 ≤ k) (hp : P k.toNat) (hl : f k.toNat < l) : yw_BI P f i (k + 1) (f k.toNat) k := by
  refine Or.inr ⟨by omega, hk, by omega, hp, rfl, fun s hs q => ?_⟩
  by_cases z : s = k.toNat
  · rw [z]
    omega
  · rcases h with ⟨e1, e2⟩ | ⟨e1, e2, a1, a2, a3, a4⟩
    · omega
    · have := a4 s (by omega) q
      omega
theorem yw_BIe {P : Nat → Prop} {f : Nat → Int} {i k l t : Int} {n : Nat} (h : yw_BI P f i k l t) (hk : k = (n : Int)) (hn : 1 ≤ n) : 0 ≤ t ∧ yw_bst P f n l t.toNat := by
  rcases h with ⟨e1, e2⟩ | ⟨e1, e2, a⟩
  · omega
  · rw [show k.toNat = n by omega] at a
    exact ⟨e2, a⟩
noncomputable def yw_wy (x y : Nat → Int) (n s : Nat) : Prop := ∃ p : Nat → Bool, s = yb_st p n ∧ yw_C x y n p
theorem yw_wy0 {x y : Nat → Int} {n : Nat} : yw_wy x y n 0 := ⟨fun _ => false, by have := yw_st0 n; omega, Or.inl fun _ _ => rfl⟩
theorem yw_wy_e {x y X Y : Nat → Int} {n s : Nat} (hx : ∀ j : Nat, j < n → x j = X j) (hy : ∀ j : Nat, j < n → y j = Y j) : yw_wy x y n s ↔ yw_wy X Y n s := ⟨fun ⟨p, e, h⟩ => ⟨p, e, yw_Ce hx hy h⟩, fun ⟨p, e, h⟩ => ⟨p, e, yw_Ce (fun j hj => (hx j hj).symm) (fun j hj => (hy j hj).symm) h⟩⟩
noncomputable def yw_bok (N n w : Int) : Prop := (0 ≤ n ∧ n ≤ 12 ∧ n ≤ N) ∧ (0 ≤ w ∧ w ≤ 1)
noncomputable def yw_bans (x y c v : Nat → Int) (N n w a : Int) : Prop := (¬ yw_bok N n w → a = -1) ∧ (yw_bok N n w → ∃ (l : Int) (t : Nat), yw_bst (yw_wy x y n.toNat) (fun s => yw_wr c v s n.toNat) (2 ^ n.toNat) l t ∧ a = if w = 0 then l else (t : Int))
theorem yw_bans_u {x y c v X Y C V : Nat → Int} {N n w a b : Int} (hx : ∀ j : Nat, (j : Int) < N → x j = X j) (hy : ∀ j : Nat, (j : Int) < N → y j = Y j) (hc : ∀ j : Nat, (j : Int) < N → c j = C j) (hv : ∀ j : Nat, (j : Int) < N → v j = V j) (h1 : yw_bans x y c v N n w a) (h2 : yw_bans X Y C V N n w b) : a = b := by
  by_cases ok : yw_bok N n w
  · obtain ⟨l, t, a1, a2⟩ := h1.2 ok
    obtain ⟨l', t', b1, b2⟩ := h2.2 ok
    have ok1 := ok.1
    obtain ⟨e1, e2⟩ := yw_bst_u (fun s _ => yw_wy_e (fun j hj => hx j (by omega)) (fun j hj => hy j (by omega))) (fun s _ => yw_wr_e _ (fun j hj => hc j (by omega)) (fun j hj => hv j (by omega))) a1 b1
    rw [a2, b2, e1, e2]
  · rw [h1.1 ok, h2.1 ok]
