/-! the law's relation: changes and the kept way -/
theorem ye_X0 {c i : Int} (h : 0 ≤ c ∧ c ≤ 7 * i) : 0 ≤ c ∧ c ≤ 7 * (i + 6) := by omega
theorem ye_Xm {c i i' : Int} (h : 0 ≤ c ∧ c ≤ 7 * i) (hi : i ≤ i') : 0 ≤ c ∧ c ≤ 7 * i' := by omega
theorem ye_Xk {c i k c' : Int} (h : 0 ≤ c ∧ c ≤ 7 * i) (hi : i ≤ 3072) (hk : 0 ≤ k ∧ k ≤ 40) (e : c' = ye_wr c k) : (0 ≤ c' ∧ c' ≤ 7 * (i + 6)) ∧ c' = c + k := by
  rw [e, ye_wu h.1 hk.1 (by omega)]
  omega
theorem ye_ptk (x y c n : Int) : 0 ≤ yq_ptm x y c n - n ∧ yq_ptm x y c n - n ≤ 40 := by
  unfold yq_ptm
  repeat' split
  all_goals omega
theorem ye_drk (i n : Int) : 0 ≤ n - yq_drm i n ∧ n - yq_drm i n ≤ 40 := by
  unfold yq_drm
  split <;> omega
theorem ye_pak (i c w n : Int) : 0 ≤ yq_par i c w n + 1 ∧ yq_par i c w n + 1 ≤ 40 := by
  unfold yq_par
  split <;> omega
theorem ye_tkk (s fr m c T L q : Int) {n : Int} (hn : 0 ≤ n) : 0 ≤ yq_tn (yq_tr s fr m c T L q n) n - n ∧ yq_tn (yq_tr s fr m c T L q n) n - n ≤ 40 := by
  unfold yq_tn yq_tr
  repeat' split
  all_goals omega
theorem ye_bkk {p : Prop} [Decidable p] : (0 : Int) ≤ (if p then 1 else 0) ∧ (if p then (1 : Int) else 0) ≤ 40 := by
  split <;> omega
theorem ye_Upt {X Y C : Nat → Int} {a b d N n' ch ch' s va vb vc : Int} {t : ye_T} (h : ye_ky X Y C N.toNat ch s t) (hn : n' = yq_ptm a b d N) (hc : ch' = ch + (n' - N)) : ye_ky (yq_ad a b d N X va) (yq_ad a b d N Y vb) (yq_ad a b d N C vc) n'.toNat ch' s t := by
  by_cases q : (-300 ≤ a ∧ a ≤ 300 ∧ -300 ≤ b ∧ b ≤ 300 ∧ 0 ≤ d ∧ d ≤ 1) ∧ N < 40
  · have e : n' = N + 1 := by
      rw [hn]
      unfold yq_ptm
      rw [if_pos q.1, if_neg (by omega)]
    exact ye_ky_n h (by omega)
  · have e : n' = N := by
      rw [hn]
      unfold yq_ptm
      by_cases q1 : -300 ≤ a ∧ a ≤ 300 ∧ -300 ≤ b ∧ b ≤ 300 ∧ 0 ≤ d ∧ d ≤ 1
      · rw [if_pos q1, if_pos (by omega)]
      · rw [if_neg q1]
    have f : ∀ (F : Nat → Int) (v : Int), yq_ad a b d N F v = F := fun F v => if_neg q
    rw [f, f, f]
    exact ye_ky_c h (by rw [e]) (by omega) (fun _ _ => rfl) (fun _ _ => rfl) (fun _ _ => rfl)
theorem ye_Udr {X Y C : Nat → Int} {i N n' ch ch' s : Int} {t : ye_T} (h : ye_ky X Y C N.toNat ch s t) (hn : n' = yq_drm i N) (hc : ch' = ch + (N - n')) : ye_ky (yq_dp i N X) (yq_dp i N Y) (yq_dp i N C) n'.toNat ch' s t := by
  by_cases q : 0 ≤ i ∧ i < N
  · have e : n' = N - 1 := by
      rw [hn]
      exact if_pos q
    exact ye_ky_n h (by omega)
  · have e : n' = N := by
      rw [hn]
      exact if_neg q
    have f : ∀ F : Nat → Int, yq_dp i N F = F := fun F => if_neg q
    rw [f, f, f]
    exact ye_ky_c h (by rw [e]) (by omega) (fun _ _ => rfl) (fun _ _ => rfl) (fun _ _ => rfl)
theorem ye_Upn {X Y C : Nat → Int} {i c w N ch ch' s v : Int} {t : ye_T} (h : ye_ky X Y C N.toNat ch s t) (hc : ch' = ch + (yq_par i c w N + 1)) : ye_ky X Y (yq_pn i c w N C v) N.toNat ch' s t := by
  by_cases q : (0 ≤ i ∧ i < N) ∧ (0 ≤ c ∧ c ≤ 1) ∧ (1 ≤ w ∧ w ≤ 1000)
  · have e : yq_par i c w N = 0 := if_pos q
    exact ye_ky_n h (by omega)
  · have e : yq_par i c w N = -1 := if_neg q
    have f : yq_pn i c w N C v = C := if_neg q
    rw [f]
    exact ye_ky_c h rfl (by omega) (fun _ _ => rfl) (fun _ _ => rfl) (fun _ _ => rfl)
theorem ye_Utk {X Y C vx vy vc : Nat → Int} {N n' ch ch' s : Int} {t : ye_T} (h : ye_ky X Y C N.toNat ch s t) (hk : 0 ≤ n' - N) (hc : ch' = ch + (n' - N)) : ye_ky (yq_ap n' N vx X) (yq_ap n' N vy Y) (yq_ap n' N vc C) n'.toNat ch' s t := by
  by_cases q : n' = N
  · rw [← yq_ap_0 (by omega), ← yq_ap_0 (by omega), ← yq_ap_0 (by omega)]
    exact ye_ky_c h (by rw [q]) (by omega) (fun _ _ => rfl) (fun _ _ => rfl) (fun _ _ => rfl)
  · exact ye_ky_n h (by omega)
theorem ye_Ubk {X Y C X' Y' C' T : Nat → Int} {a0 a1 a2 b0 b1 b2 c0 c1 c2 : Nat → Int} {k N n' Q0 Q1 Q2 ch ch' s : Int} {t : ye_T} (hN : N ≤ 40) (h : ye_ky X Y C N.toNat ch s t) (hn : n' = yq_pk T k N Q0 Q1 Q2) (hc : ch' = ch + (if 0 ≤ k ∧ k ≤ 2 ∧ T k.toNat ≠ 0 then 1 else 0)) (hX : ∀ j : Nat, j < 40 → X' j = yq_pk T k (X j) (a0 j) (a1 j) (a2 j)) (hY : ∀ j : Nat, j < 40 → Y' j = yq_pk T k (Y j) (b0 j) (b1 j) (b2 j)) (hC : ∀ j : Nat, j < 40 → C' j = yq_pk T k (C j) (c0 j) (c1 j) (c2 j)) : ye_ky X' Y' C' n'.toNat ch' s t := by
  by_cases q : 0 ≤ k ∧ k ≤ 2 ∧ T k.toNat ≠ 0
  · rw [if_pos q] at hc
    exact ye_ky_n h (by omega)
  · rw [if_neg q] at hc
    have f : ∀ J a b c : Int, yq_pk T k J a b c = J := fun J a b c => by
      unfold yq_pk
      by_cases q1 : 0 ≤ k ∧ k ≤ 2
      · rw [if_pos q1]
        by_cases q2 : T k.toNat = 0
        · rw [if_pos q2]
        · exact absurd ⟨q1.1, q1.2, q2⟩ q
      · rw [if_neg q1]
    rw [f] at hn
    exact ye_ky_c h (by rw [hn]) (by omega) (fun j hj => by rw [hX j (by omega), f]) (fun j hj => by rw [hY j (by omega), f]) (fun j hj => by rw [hC j (by omega), f])
theorem ye_Uw {x y c : Nat → Int} {n : Nat} {ch s s' : Int} {t t' : ye_T} (h : ye_ky x y c n ch s t) (hf : (s' = s ∧ t' = t) ∨ ye_fd x y c n ch s t s' t') : ye_ky x y c n ch s' t' := by
  rcases hf with ⟨h1, h2⟩ | hf
  · rw [h1, h2]
    exact h
  · exact Or.inr (ye_ky_f h hf)
theorem ye_Up {x y c : Nat → Int} {n : Nat} {ch s s' a : Int} {t t' : ye_T} (h : ye_ky x y c n ch s t) (hf : (¬ ye_bo c n ∧ a = 1 ∧ (s' = s ∧ t' = t)) ∨ (ye_bo c n ∧ ye_fd x y c n ch s t s' t' ∧ a = t'.1)) : ye_ky x y c n ch s' t' ∧ ((¬ ye_bo c n ∧ a = 1) ∨ (ye_bo c n ∧ ye_way x y c n t' ∧ a = t'.1)) := by
  rcases hf with ⟨h1, h2, h3⟩ | ⟨h1, h2, h3⟩
  · exact ⟨ye_Uw h (Or.inl h3), Or.inl ⟨h1, h2⟩⟩
  · exact ⟨ye_Uw h (Or.inr h2), Or.inr ⟨h1, (ye_ky_f h h2).2, h3⟩⟩

