/-! what is told of the kept way is of now -/
noncomputable def ye_ko (x y : Nat → Int) (n : Nat) (ch s : Int) (t : ye_T) (u : ye_O) : Prop := s < ch ∨ (s = ch ∧ ye_go x y n t u)
theorem ye_sc_c {x y X Y : Nat → Int} {a b l h : Int} (n : Nat) (hx : ∀ j : Nat, j < n → x j = X j) (hy : ∀ j : Nat, j < n → y j = Y j) : ye_sc x y a b l h n = ye_sc X Y a b l h n := ye_sc_eq (s := 1) (t := 1) (by decide) (by decide) rfl rfl rfl rfl n hx hy
theorem ye_wd_c {x y X Y : Nat → Int} {n : Nat} {a b l h w : Int} (hx : ∀ j : Nat, j < n → x j = X j) (hy : ∀ j : Nat, j < n → y j = Y j) : ye_wd x y n a b l h w = ye_wd X Y n a b l h w := by
  unfold ye_wd
  rw [ye_sc_c n hx hy]
theorem ye_go_c {x y X Y : Nat → Int} {n : Nat} {t : ye_T} {u : ye_O} (hx : ∀ j : Nat, j < n → x j = X j) (hy : ∀ j : Nat, j < n → y j = Y j) (h : ye_go x y n t u) : ye_go X Y n t u := fun q => by
  obtain ⟨a0, a1, a2, a3, a4, a5⟩ := h q
  rw [ye_wd_c hx hy] at a0 a1 a2 a3 a4 a5
  exact ⟨a0, a1, a2, a3, a4, a5⟩
theorem ye_ko_d {X Y X' Y' : Nat → Int} {N n' ch ch' s : Int} {t : ye_T} {u : ye_O} (h : ye_ko X Y N.toNat ch s t u) (d : ch < ch' ∨ (ch' = ch ∧ n' = N ∧ ∀ j : Nat, j < N.toNat → X j = X' j ∧ Y j = Y' j)) : ye_ko X' Y' n'.toNat ch' s t u := by
  rcases d with d | ⟨d1, d2, d3⟩
  · exact Or.inl (by rcases h with h | h <;> omega)
  · rw [d1, d2]
    rcases h with h | ⟨h1, h2⟩
    · exact Or.inl h
    · exact Or.inr ⟨h1, ye_go_c (fun j hj => (d3 j hj).1) (fun j hj => (d3 j hj).2) h2⟩
theorem ye_Dpt {X Y : Nat → Int} {a b d N n' ch ch' va vb : Int} (hn : n' = yq_ptm a b d N) (hc : ch' = ch + (n' - N)) : ch < ch' ∨ (ch' = ch ∧ n' = N ∧ ∀ j : Nat, j < N.toNat → X j = yq_ad a b d N X va j ∧ Y j = yq_ad a b d N Y vb j) := by
  by_cases q : (-300 ≤ a ∧ a ≤ 300 ∧ -300 ≤ b ∧ b ≤ 300 ∧ 0 ≤ d ∧ d ≤ 1) ∧ N < 40
  · have e : n' = N + 1 := by
      rw [hn]
      unfold yq_ptm
      rw [if_pos q.1, if_neg (by omega)]
    exact Or.inl (by omega)
  · have e : n' = N := by
      rw [hn]
      unfold yq_ptm
      by_cases q1 : -300 ≤ a ∧ a ≤ 300 ∧ -300 ≤ b ∧ b ≤ 300 ∧ 0 ≤ d ∧ d ≤ 1
      · rw [if_pos q1, if_pos (by omega)]
      · rw [if_neg q1]
    have f : ∀ (F : Nat → Int) (v : Int), yq_ad a b d N F v = F := fun F v => if_neg q
    rw [f, f]
    exact Or.inr ⟨by omega, e, fun _ _ => ⟨rfl, rfl⟩⟩
theorem ye_Ddr {X Y : Nat → Int} {i N n' ch ch' : Int} (hn : n' = yq_drm i N) (hc : ch' = ch + (N - n')) : ch < ch' ∨ (ch' = ch ∧ n' = N ∧ ∀ j : Nat, j < N.toNat → X j = yq_dp i N X j ∧ Y j = yq_dp i N Y j) := by
  by_cases q : 0 ≤ i ∧ i < N
  · have e : n' = N - 1 := by
      rw [hn]
      exact if_pos q
    exact Or.inl (by omega)
  · have e : n' = N := by
      rw [hn]
      exact if_neg q
    have f : ∀ F : Nat → Int, yq_dp i N F = F := fun F => if_neg q
    rw [f, f]
    exact Or.inr ⟨by omega, e, fun _ _ => ⟨rfl, rfl⟩⟩
theorem ye_Dpn {X Y : Nat → Int} {N ch ch' i c w n : Int} (hc : ch' = ch + (yq_par i c w n + 1)) : ch < ch' ∨ (ch' = ch ∧ N = N ∧ ∀ j : Nat, j < N.toNat → X j = X j ∧ Y j = Y j) := by
  have h := (ye_pak i c w n).1
  by_cases q : ch < ch'
  · exact Or.inl q
  · exact Or.inr ⟨by omega, rfl, fun _ _ => ⟨rfl, rfl⟩⟩
theorem ye_Dtk {X Y vx vy : Nat → Int} {N n' ch ch' : Int} (hk : 0 ≤ n' - N) (hc : ch' = ch + (n' - N)) : ch < ch' ∨ (ch' = ch ∧ n' = N ∧ ∀ j : Nat, j < N.toNat → X j = yq_ap n' N vx X j ∧ Y j = yq_ap n' N vy Y j) := by
  by_cases q : n' = N
  · rw [← yq_ap_0 (by omega), ← yq_ap_0 (by omega)]
    exact Or.inr ⟨by omega, q, fun _ _ => ⟨rfl, rfl⟩⟩
  · exact Or.inl (by omega)
theorem ye_Dbk {X Y X' Y' T : Nat → Int} {a0 a1 a2 b0 b1 b2 : Nat → Int} {k N n' Q0 Q1 Q2 ch ch' : Int} (hN : N ≤ 40) (hn : n' = yq_pk T k N Q0 Q1 Q2) (hc : ch' = ch + (if 0 ≤ k ∧ k ≤ 2 ∧ T k.toNat ≠ 0 then 1 else 0)) (hX : ∀ j : Nat, j < 40 → X' j = yq_pk T k (X j) (a0 j) (a1 j) (a2 j)) (hY : ∀ j : Nat, j < 40 → Y' j = yq_pk T k (Y j) (b0 j) (b1 j) (b2 j)) : ch < ch' ∨ (ch' = ch ∧ n' = N ∧ ∀ j : Nat, j < N.toNat → X j = X' j ∧ Y j = Y' j) := by
  by_cases q : 0 ≤ k ∧ k ≤ 2 ∧ T k.toNat ≠ 0
  · rw [if_pos q] at hc
    exact Or.inl (by omega)
  · rw [if_neg q] at hc
    have f : ∀ J a b c : Int, yq_pk T k J a b c = J := fun J a b c => by
      unfold yq_pk
      by_cases q1 : 0 ≤ k ∧ k ≤ 2
      · rw [if_pos q1]
        by_cases q2 : T k.toNat = 0
        · rw [if_pos q2]
        · exact absurd ⟨q1.1, q1.2, q2⟩ q
      · rw [if_neg q1]
    rw [f] at hn
    exact Or.inr ⟨by omega, hn, fun j hj => ⟨by rw [hX j (by omega), f], by rw [hY j (by omega), f]⟩⟩
/-- behind a call that looks for it -/
theorem ye_Ow {x y c : Nat → Int} {n : Nat} {ch s s' : Int} {t t' : ye_T} {u u' : ye_O} (hU : ye_ky x y c n ch s t) (hO : ye_ko x y n ch s t u) (hf : (s' = s ∧ t' = t ∧ u' = u) ∨ (ye_fd x y c n ch s t s' t' ∧ ye_fo x y n ch s u t' u')) : ye_ky x y c n ch s' t' ∧ ye_ko x y n ch s' t' u' := by
  rcases hf with ⟨h1, h2, h3⟩ | ⟨h1, h2⟩
  · rw [h1, h2, h3]
    exact ⟨hU, hO⟩
  · refine ⟨ye_Uw hU (Or.inr h1), ?_⟩
    rcases h2 with ⟨e1, e2⟩ | ⟨e1, e2⟩
    · rcases h1 with ⟨f1, f2, f3⟩ | ⟨f1, f2, f3⟩
      · rw [f2, f3, e2]
        exact hO
      · exact absurd e1 f1
    · rcases h1 with ⟨f1, f2, f3⟩ | ⟨f1, f2, f3⟩
      · exact absurd f1 e1
      · exact Or.inr ⟨f2, e2⟩
theorem ye_Of {x y c : Nat → Int} {n : Nat} {ch s s' : Int} {t t' : ye_T} {u u' : ye_O} (hU : ye_ky x y c n ch s t) (hO : ye_ko x y n ch s t u) (hf : ye_fd x y c n ch s t s' t' ∧ ye_fo x y n ch s u t' u') : ye_way x y c n t' ∧ ye_go x y n t' u' := by
  have k := ye_ky_f hU hf.1
  refine ⟨k.2, ?_⟩
  rcases (ye_Ow hU hO (Or.inr hf)).2 with q | q
  · omega
  · exact q.2

