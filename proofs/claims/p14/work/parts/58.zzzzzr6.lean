/-! what is held of the meeting is of now -/
noncomputable def yr_ok (x y c : Nat → Int) (n : Nat) (K M : Int) (W T U : Nat → Int) (X1 X2 Y1 Y2 : Int) : Prop := yr_DC x y c n K M W T U X1 X2 Y1 Y2 ∨ ye_nm x y (ye_Y c n) (ye_N c n)
noncomputable def yr_ki (x y c : Nat → Int) (n : Nat) (ch s K M : Int) (W T U : Nat → Int) (X1 X2 Y1 Y2 : Int) : Prop := s < ch ∨ (s = ch ∧ yr_ok x y c n K M W T U X1 X2 Y1 Y2)
theorem yr_ok_c {x y c X Y C : Nat → Int} {n : Nat} {K M : Int} {W T U : Nat → Int} {X1 X2 Y1 Y2 : Int} (hx : ∀ j : Nat, j < n → x j = X j) (hy : ∀ j : Nat, j < n → y j = Y j) (hc : ∀ j : Nat, j < n → c j = C j) (h : yr_ok x y c n K M W T U X1 X2 Y1 Y2) : yr_ok X Y C n K M W T U X1 X2 Y1 Y2 := by
  rcases h with h | h
  · exact Or.inl (yr_DC_c hx hy hc h)
  · have e := ye_YN (n := n) hc
    refine Or.inr ?_
    rw [← e.1, ← e.2]
    exact ye_nm_c (fun j h => h.1) (fun j h => h.1) hx hy h
/-- the points are the same, or they count as changed -/
noncomputable def yr_d (x y c : Nat → Int) (n : Nat) (ch : Int) (X Y C : Nat → Int) (n' : Nat) (ch' : Int) : Prop := ch < ch' ∨ (ch' = ch ∧ n' = n ∧ ∀ j : Nat, j < n → x j = X j ∧ y j = Y j ∧ c j = C j)
theorem yr_ki_d {x y c X Y C : Nat → Int} {n n' : Nat} {ch ch' s K M : Int} {W T U : Nat → Int} {X1 X2 Y1 Y2 : Int} (h : yr_ki x y c n ch s K M W T U X1 X2 Y1 Y2) (hd : yr_d x y c n ch X Y C n' ch') : yr_ki X Y C n' ch' s K M W T U X1 X2 Y1 Y2 := by
  rcases hd with hd | ⟨h1, h2, h3⟩
  · exact Or.inl (by rcases h with h | h <;> omega)
  · rw [h1, h2]
    rcases h with h | ⟨h4, h5⟩
    · exact Or.inl h
    · exact Or.inr ⟨h4, yr_ok_c (fun j hj => (h3 j hj).1) (fun j hj => (h3 j hj).2.1) (fun j hj => (h3 j hj).2.2) h5⟩
theorem yr_dpt {X Y C : Nat → Int} {a b d N n' ch ch' va vb vc : Int} (hn : n' = yq_ptm a b d N) (hc : ch' = ch + (n' - N)) : yr_d X Y C N.toNat ch (yq_ad a b d N X va) (yq_ad a b d N Y vb) (yq_ad a b d N C vc) n'.toNat ch' := by
  by_cases q : (-300 ≤ a ∧ a ≤ 300 ∧ -300 ≤ b ∧ b ≤ 300 ∧ 0 ≤ d ∧ d ≤ 1) ∧ N < 40
  · have e : n' = N + 1 := by
      rw [hn]
      unfold yq_ptm
      rw [if_pos q.1, if_neg (by omega)]
    exact Or.inl (by omega)
  · have e : n' = N := by
      rw [hn]
      unfold yq_ptm
      by_cases q1 : -300 ≤ a ∧ a ≤ 300 ∧ -300 ≤ b ∧ b ≤ 300 ∧ 0 ≤ d ∧ d ≤ 1
      · rw [if_pos q1, if_pos (by omega)]
      · rw [if_neg q1]
    have f : ∀ (F : Nat → Int) (v : Int), yq_ad a b d N F v = F := fun F v => if_neg q
    rw [f, f, f]
    exact Or.inr ⟨by omega, by rw [e], fun _ _ => ⟨rfl, rfl, rfl⟩⟩
theorem yr_ddr {X Y C : Nat → Int} {i N n' ch ch' : Int} (hn : n' = yq_drm i N) (hc : ch' = ch + (N - n')) : yr_d X Y C N.toNat ch (yq_dp i N X) (yq_dp i N Y) (yq_dp i N C) n'.toNat ch' := by
  by_cases q : 0 ≤ i ∧ i < N
  · have e : n' = N - 1 := by
      rw [hn]
      exact if_pos q
    exact Or.inl (by omega)
  · have e : n' = N := by
      rw [hn]
      exact if_neg q
    have f : ∀ F : Nat → Int, yq_dp i N F = F := fun F => if_neg q
    rw [f, f, f]
    exact Or.inr ⟨by omega, by rw [e], fun _ _ => ⟨rfl, rfl, rfl⟩⟩
theorem yr_dpn {X Y C : Nat → Int} {i c w N ch ch' v : Int} (hc : ch' = ch + (yq_par i c w N + 1)) : yr_d X Y C N.toNat ch X Y (yq_pn i c w N C v) N.toNat ch' := by
  by_cases q : (0 ≤ i ∧ i < N) ∧ (0 ≤ c ∧ c ≤ 1) ∧ (1 ≤ w ∧ w ≤ 1000)
  · have e : yq_par i c w N = 0 := if_pos q
    exact Or.inl (by omega)
  · have e : yq_par i c w N = -1 := if_neg q
    have f : yq_pn i c w N C v = C := if_neg q
    rw [f]
    exact Or.inr ⟨by omega, rfl, fun _ _ => ⟨rfl, rfl, rfl⟩⟩
theorem yr_dtk {X Y C vx vy vc : Nat → Int} {N n' ch ch' : Int} (hk : 0 ≤ n' - N) (hc : ch' = ch + (n' - N)) : yr_d X Y C N.toNat ch (yq_ap n' N vx X) (yq_ap n' N vy Y) (yq_ap n' N vc C) n'.toNat ch' := by
  by_cases q : n' = N
  · rw [← yq_ap_0 (by omega), ← yq_ap_0 (by omega), ← yq_ap_0 (by omega)]
    exact Or.inr ⟨by omega, by rw [q], fun _ _ => ⟨rfl, rfl, rfl⟩⟩
  · exact Or.inl (by omega)
theorem yr_dbk {X Y C X' Y' C' T : Nat → Int} {a0 a1 a2 b0 b1 b2 c0 c1 c2 : Nat → Int} {k N n' Q0 Q1 Q2 ch ch' : Int} (hN : N ≤ 40) (hn : n' = yq_pk T k N Q0 Q1 Q2) (hc : ch' = ch + (if 0 ≤ k ∧ k ≤ 2 ∧ T k.toNat ≠ 0 then 1 else 0)) (hX : ∀ j : Nat, j < 40 → X' j = yq_pk T k (X j) (a0 j) (a1 j) (a2 j)) (hY : ∀ j : Nat, j < 40 → Y' j = yq_pk T k (Y j) (b0 j) (b1 j) (b2 j)) (hC : ∀ j : Nat, j < 40 → C' j = yq_pk T k (C j) (c0 j) (c1 j) (c2 j)) : yr_d X Y C N.toNat ch X' Y' C' n'.toNat ch' := by
  by_cases q : 0 ≤ k ∧ k ≤ 2 ∧ T k.toNat ≠ 0
  · rw [if_pos q] at hc
    exact Or.inl (by omega)
  · rw [if_neg q] at hc
    have f : ∀ J a b c : Int, yq_pk T k J a b c = J := fun J a b c => by
      unfold yq_pk
      by_cases q1 : 0 ≤ k ∧ k ≤ 2
      · rw [if_pos q1]
        by_cases q2 : T k.toNat = 0
        · rw [if_pos q2]
        · exact absurd ⟨q1.1, q1.2, q2⟩ q
      · rw [if_neg q1]
    rw [f] at hn
    exact Or.inr ⟨by omega, by rw [hn], fun j hj => ⟨by rw [hX j (by omega), f], by rw [hY j (by omega), f], by rw [hC j (by omega), f]⟩⟩
/-- looked for anew, unless it is of now -/
noncomputable def yr_fm (x y c : Nat → Int) (n : Nat) (ch s K M : Int) (W T U : Nat → Int) (X1 X2 Y1 Y2 : Int) (s' K' M' : Int) (W' T' U' : Nat → Int) (P1 P2 Q1 Q2 : Int) : Prop := (s = ch ∧ s' = s ∧ (K' = K ∧ M' = M ∧ W' = W ∧ T' = T ∧ U' = U ∧ P1 = X1 ∧ P2 = X2 ∧ Q1 = Y1 ∧ Q2 = Y2)) ∨ (s ≠ ch ∧ s' = ch ∧ yr_ok x y c n K' M' W' T' U' P1 P2 Q1 Q2)
theorem yr_ki_f {x y c : Nat → Int} {n : Nat} {ch s K M s' K' M' : Int} {W T U W' T' U' : Nat → Int} {X1 X2 Y1 Y2 P1 P2 Q1 Q2 : Int} (h : yr_ki x y c n ch s K M W T U X1 X2 Y1 Y2) (hf : yr_fm x y c n ch s K M W T U X1 X2 Y1 Y2 s' K' M' W' T' U' P1 P2 Q1 Q2) : s' = ch ∧ yr_ok x y c n K' M' W' T' U' P1 P2 Q1 Q2 := by
  rcases hf with ⟨h1, h2, e1, e2, e3, e4, e5, e6, e7, e8, e9⟩ | ⟨h1, h2, h3⟩
  · rw [e1, e2, e3, e4, e5, e6, e7, e8, e9]
    rcases h with h | h
    · omega
    · exact ⟨by omega, h.2⟩
  · exact ⟨h2, h3⟩
theorem yr_ki_u {x y c : Nat → Int} {n : Nat} {ch s K M s' K' M' : Int} {W T U W' T' U' : Nat → Int} {X1 X2 Y1 Y2 P1 P2 Q1 Q2 : Int} (h : yr_ki x y c n ch s K M W T U X1 X2 Y1 Y2) (hu : s' = s ∧ K' = K ∧ M' = M ∧ W' = W ∧ T' = T ∧ U' = U ∧ P1 = X1 ∧ P2 = X2 ∧ Q1 = Y1 ∧ Q2 = Y2) : yr_ki x y c n ch s' K' M' W' T' U' P1 P2 Q1 Q2 := by
  obtain ⟨e0, e1, e2, e3, e4, e5, e6, e7, e8, e9⟩ := hu
  rw [e0, e1, e2, e3, e4, e5, e6, e7, e8, e9]
  exact h
/-- class and reference on meet -/
theorem yr_mu {x y c X Y C : Nat → Int} {n : Nat} {a b w K M : Int} {W T U : Nat → Int} {X1 X2 Y1 Y2 : Int} {t : ye_T} (hr : ye_nr x y c n) (hb : t.1 = 1 → (-600 ≤ t.2.1 ∧ t.2.1 ≤ 600) ∧ -600 ≤ t.2.2.1 ∧ t.2.2.1 ≤ 600) (hx : ∀ j : Nat, j < n → x j = X j) (hy : ∀ j : Nat, j < n → y j = Y j) (hc : ∀ j : Nat, j < n → c j = C j) (h1 : (¬ yr_wh w ∧ a = -1000000) ∨ (yr_wh w ∧ ((¬ ye_bo c n ∧ a = -6) ∨ (ye_bo c n ∧ ye_way x y c n t ∧ ((t.1 = 1 ∧ a = -6) ∨ (t.1 = 0 ∧ yr_ok x y c n K M W T U X1 X2 Y1 Y2 ∧ a = yr_tl w K M W T U X1 X2 Y1 Y2)))))) (h2 : (¬ yr_wh w ∧ b = -1000000) ∨ (yr_wh w ∧ ((ye_nm X Y (ye_Y C n) (ye_N C n) ∧ b = -6) ∨ (∃ s i j k l : Nat, yr_F X Y C n s i j k l ∧ b = yr_as X Y s i j k l w)))) : a = b := by
  have e := ye_YN (n := n) hc
  have f1 : ye_nm x y (ye_Y c n) (ye_N c n) → ye_nm X Y (ye_Y C n) (ye_N C n) := fun z => by
    rw [← e.1, ← e.2]
    exact ye_nm_c (fun j h => h.1) (fun j h => h.1) hx hy z
  have f2 : ye_nm X Y (ye_Y C n) (ye_N C n) → ye_nm x y (ye_Y c n) (ye_N c n) := fun z => by
    rw [← e.1, ← e.2] at z
    exact ye_nm_c (fun j h => h.1) (fun j h => h.1) (fun j h => (hx j h).symm) (fun j h => (hy j h).symm) z
  rcases h1 with ⟨g1, g2⟩ | ⟨g1, g2⟩
  · rcases h2 with ⟨k1, k2⟩ | ⟨k1, k2⟩
    · omega
    · exact absurd k1 g1
  · rcases h2 with ⟨k1, k2⟩ | ⟨k1, k2⟩
    · exact absurd g1 k1
    · have six : ye_nm x y (ye_Y c n) (ye_N c n) → b = -6 := fun z => by
        rcases k2 with ⟨q1, q2⟩ | ⟨s, i, j, k, l, q1, q2⟩
        · exact q2
        · exact absurd (f1 z) (yr_Fn q1)
      rcases g2 with ⟨g2, g3⟩ | ⟨g2, g3, g4⟩
      · rw [g3, six (ye_par0 g2)]
      · rcases ye_par1 hr hb g2 g3 with ⟨q1, q2⟩ | ⟨q1, q2⟩
        · rcases g4 with ⟨g4, g5⟩ | ⟨g4, g5, g6⟩
          · rw [g5, six q2]
          · omega
        · rcases g4 with ⟨g4, g5⟩ | ⟨g4, g5, g6⟩
          · omega
          · rcases k2 with ⟨p1, p2⟩ | ⟨s, i, j, k, l, p1, p2⟩
            · exact absurd (f2 p1) q2
            · rcases g5 with g5 | g5
              · obtain ⟨s', i', j', k', l', r1, r2⟩ := yr_DC_t g5
                obtain ⟨ka, kb, kd, ke⟩ := yr_Pn r1.1
                obtain ⟨u1, u2, u3, u4, u5⟩ := yr_Fu (yr_F_c hx hy hc r1) p1
                rw [g6, p2, r2 w, yr_as_c ⟨hx _ ka, hy _ ka⟩ ⟨hx _ kb, hy _ kb⟩ ⟨hx _ kd, hy _ kd⟩ ⟨hx _ ke, hy _ ke⟩, u1, u2, u3, u4, u5]
              · exact absurd g5 q2
