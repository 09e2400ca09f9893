/-! STRONG: the step with the least mass of wrong, the next masses, the rounds -/
noncomputable def yy_ax (q : Nat) : Int := ((q / 1204 : Nat) : Int)
noncomputable def yy_at (q : Nat) : Int := ((q % 1204 / 2 : Nat) : Int) - 301
noncomputable def yy_sg (q : Nat) : Int := ((q % 2 : Nat) : Int)
noncomputable def yy_sc (f : Nat → Int) (z : Int) : Nat → Int × Nat
  | 0 => (z, 0)
  | q + 1 => if f q < (yy_sc f z q).1 then (f q, q) else yy_sc f z q
theorem yy_sc_gt {f : Nat → Int} {z c : Int} (hz : c < z) : ∀ N : Nat, (∀ q : Nat, q < N → c < f q) → c < (yy_sc f z N).1
  | 0, _ => hz
  | N + 1, h => by
    show c < (if f N < (yy_sc f z N).1 then (f N, N) else yy_sc f z N).1
    split
    · exact h N (by omega)
    · exact yy_sc_gt hz N (fun q hq => h q (by omega))
theorem yy_sc_u {f : Nat → Int} {z : Int} {i : Nat} (hz : f i < z) (h2 : ∀ q : Nat, q < i → f i < f q) : ∀ N : Nat, (∀ q : Nat, q < N → f i ≤ f q) → i < N → yy_sc f z N = (f i, i)
  | 0, _, h => absurd h (by omega)
  | N + 1, h1, h => by
    show (if f N < (yy_sc f z N).1 then (f N, N) else yy_sc f z N) = (f i, i)
    by_cases hi : i = N
    · subst hi
      rw [if_pos (yy_sc_gt hz i h2)]
    · rw [yy_sc_u hz h2 N (fun q hq => h1 q (by omega)) (by omega)]
      have h3 := h1 N (by omega)
      rw [if_neg (show ¬ f N < f i by omega)]
theorem yy_ws_eq {px py pc m PX PY PC M : Nat → Int} {ax at_ sg : Int} : ∀ n : Nat, (∀ j : Nat, j < n → px j = PX j) → (∀ j : Nat, j < n → py j = PY j) → (∀ j : Nat, j < n → pc j = PC j) → (∀ j : Nat, j < n → m j = M j) → yq_ws px py pc m ax at_ sg n = yq_ws PX PY PC M ax at_ sg n
  | 0, _, _, _, _ => rfl
  | n + 1, h1, h2, h3, h4 => by
    show (yq_ws px py pc m ax at_ sg n + if yq_says ax at_ sg (px n) (py n) = pc n then 0 else m n) = (yq_ws PX PY PC M ax at_ sg n + if yq_says ax at_ sg (PX n) (PY n) = PC n then 0 else M n)
    rw [yy_ws_eq n (fun j hj => h1 j (by omega)) (fun j hj => h2 j (by omega)) (fun j hj => h3 j (by omega)) (fun j hj => h4 j (by omega)), h1 n (by omega), h2 n (by omega), h3 n (by omega), h4 n (by omega)]
theorem yy_tot_eq {m M : Nat → Int} : ∀ n : Nat, (∀ j : Nat, j < n → m j = M j) → yq_tot m n = yq_tot M n
  | 0, _ => rfl
  | n + 1, h => by
    show yq_tot m n + m n = yq_tot M n + M n
    rw [yy_tot_eq n (fun j hj => h j (by omega)), h n (by omega)]
/-- masses from 0 to 2 to the 40, as far as there are points -/
noncomputable def yy_mb (m : Nat → Int) (n : Nat) : Prop := ∀ j : Nat, j < n → 0 ≤ m j ∧ m j ≤ 1099511627776
theorem yy_tot_b {m : Nat → Int} : ∀ n : Nat, yy_mb m n → 0 ≤ yq_tot m n ∧ yq_tot m n ≤ (n : Int) * 1099511627776
  | 0, _ => ⟨Int.le_refl 0, Int.le_refl 0⟩
  | n + 1, h => by
    have h1 := yy_tot_b n (fun j hj => h j (by omega))
    have h2 := h n (by omega)
    show 0 ≤ yq_tot m n + m n ∧ yq_tot m n + m n ≤ ((n + 1 : Nat) : Int) * 1099511627776
    omega
theorem yy_ws_b {px py pc m : Nat → Int} {ax at_ sg : Int} : ∀ n : Nat, yy_mb m n → 0 ≤ yq_ws px py pc m ax at_ sg n ∧ yq_ws px py pc m ax at_ sg n ≤ yq_tot m n
  | 0, _ => ⟨Int.le_refl 0, Int.le_refl 0⟩
  | n + 1, h => by
    have h1 := yy_ws_b (px := px) (py := py) (pc := pc) (ax := ax) (at_ := at_) (sg := sg) n (fun j hj => h j (by omega))
    have h2 := h n (by omega)
    show 0 ≤ yq_ws px py pc m ax at_ sg n + (if yq_says ax at_ sg (px n) (py n) = pc n then 0 else m n) ∧ yq_ws px py pc m ax at_ sg n + (if yq_says ax at_ sg (px n) (py n) = pc n then 0 else m n) ≤ yq_tot m n + m n
    split <;> omega
/-- the other sign says the other way round -/
theorem yy_ws_1 {px py pc m : Nat → Int} {ax at_ : Int} : ∀ n : Nat, (∀ j : Nat, j < n → 0 ≤ pc j ∧ pc j ≤ 1) → yq_ws px py pc m ax at_ 1 n = yq_tot m n - yq_ws px py pc m ax at_ 0 n
  | 0, _ => rfl
  | n + 1, h => by
    have h1 := yy_ws_1 (px := px) (py := py) (m := m) (ax := ax) (at_ := at_) n (fun j hj => h j (by omega))
    have h2 := h n (by omega)
    show (yq_ws px py pc m ax at_ 1 n + if yq_says ax at_ 1 (px n) (py n) = pc n then 0 else m n) = yq_tot m n + m n - (yq_ws px py pc m ax at_ 0 n + if yq_says ax at_ 0 (px n) (py n) = pc n then 0 else m n)
    unfold yq_says yq_ss
    repeat' split
    all_goals omega
noncomputable def yy_f (px py pc m : Nat → Int) (n q : Nat) : Int := yq_ws px py pc m (yy_ax q) (yy_at q) (yy_sg q) n
noncomputable def yy_c (px py pc m : Nat → Int) (n : Nat) : Int × Nat := yy_sc (yy_f px py pc m n) (yq_tot m n + 1) 2408
theorem yy_c_eq {px py pc m PX PY PC M : Nat → Int} {n : Nat} (h1 : ∀ j : Nat, j < n → px j = PX j) (h2 : ∀ j : Nat, j < n → py j = PY j) (h3 : ∀ j : Nat, j < n → pc j = PC j) (h4 : ∀ j : Nat, j < n → m j = M j) : yy_c px py pc m n = yy_c PX PY PC M n := by
  unfold yy_c
  rw [yy_tot_eq n h4, show yy_f px py pc m n = yy_f PX PY PC M n from funext fun q => yy_ws_eq n h1 h2 h3 h4]
/-! the class's choice -/
noncomputable def yy_bs (Q : Int → Int → Int → Prop) (F : Int → Int → Int → Int) (z ca ce cs cw : Int) : Prop := (cw = z ∧ ∀ a t s, ¬ Q a t s) ∨ (Q ca ce cs ∧ cw = F ca ce cs ∧ ∀ a t s, Q a t s → cw < F a t s ∨ (cw = F a t s ∧ (ca < a ∨ (ca = a ∧ (ce < t ∨ (ce = t ∧ cs ≤ s))))))
theorem yy_of1 {Q : Int → Int → Int → Prop} {F : Int → Int → Int → Int} {z ca ce cs cw ax t s w : Int} (hb : yy_bs Q F z ca ce cs cw) (hax : ∀ a t' s', Q a t' s' → a ≤ ax) (hw : w = F ax t s) (hr : w < cw ∨ (w = cw ∧ ax = ca ∧ t < ce)) : yy_bs (fun a t' s' => Q a t' s' ∨ (a = ax ∧ t' = t ∧ s' = s)) F z ax t s w := by
  refine Or.inr ⟨Or.inr ⟨rfl, rfl, rfl⟩, hw, fun a t' s' h => ?_⟩
  rcases h with h | ⟨e1, e2, e3⟩
  · rcases hb with ⟨_, hn⟩ | ⟨_, _, hb⟩
    · exact absurd h (hn _ _ _)
    · have k1 := hb a t' s' h
      have k2 := hax a t' s' h
      omega
  · rw [e1, e2, e3]
    exact Or.inr ⟨hw, Or.inr ⟨rfl, Or.inr ⟨rfl, Int.le_refl s⟩⟩⟩
theorem yy_of0 {Q : Int → Int → Int → Prop} {F : Int → Int → Int → Int} {z ca ce cs cw ax t s w : Int} (hb : yy_bs Q F z ca ce cs cw) (hax : ∀ a t' s', Q a t' s' → a ≤ ax) (hw : w = F ax t s) (hz : w < z) (hr : ¬ (w < cw ∨ (w = cw ∧ ax = ca ∧ t < ce))) (hq : Q ax t s ∨ ∀ s', Q ax t s' → s' ≤ s) : yy_bs (fun a t' s' => Q a t' s' ∨ (a = ax ∧ t' = t ∧ s' = s)) F z ca ce cs cw := by
  rcases hb with ⟨e, _⟩ | ⟨h1, h2, h3⟩
  · exfalso
    omega
  · refine Or.inr ⟨Or.inl h1, h2, fun a t' s' h => ?_⟩
    rcases h with h | ⟨e1, e2, e3⟩
    · exact h3 _ _ _ h
    · rw [e1, e2, e3]
      rcases hq with q | q
      · exact h3 _ _ _ q
      · have k := hax _ _ _ h1
        by_cases hc : ca = ax ∧ ce = t
        · have k2 := q cs (by rw [← hc.1, ← hc.2]; exact h1)
          rw [← hw]
          omega
        · rw [← hw]
          omega
noncomputable def yy_off (c : Int × Int × Int × Int) (ax t s w : Int) : Int × Int × Int × Int := if w < c.2.2.2 ∨ (w = c.2.2.2 ∧ ax = c.1 ∧ t < c.2.1) then (ax, t, s, w) else c
noncomputable def yy_bc (Q : Int → Int → Int → Prop) (F : Int → Int → Int → Int) (z : Int) (c : Int × Int × Int × Int) : Prop := yy_bs Q F z c.1 c.2.1 c.2.2.1 c.2.2.2
theorem yy_offb {Q : Int → Int → Int → Prop} {F : Int → Int → Int → Int} {z ax t s w : Int} {c : Int × Int × Int × Int} (hb : yy_bc Q F z c) (hax : ∀ a t' s', Q a t' s' → a ≤ ax) (hw : w = F ax t s) (hz : w < z) (hq : Q ax t s ∨ ∀ s', Q ax t s' → s' ≤ s) : yy_bc (fun a t' s' => Q a t' s' ∨ (a = ax ∧ t' = t ∧ s' = s)) F z (yy_off c ax t s w) := by
  unfold yy_off
  split
  · rename_i h
    exact yy_of1 hb hax hw h
  · rename_i h
    exact yy_of0 hb hax hw hz h hq
theorem yy_bc_iff {Q Q' : Int → Int → Int → Prop} {F : Int → Int → Int → Int} {z : Int} {c : Int × Int × Int × Int} (h : ∀ a t s, Q a t s ↔ Q' a t s) (hb : yy_bc Q F z c) : yy_bc Q' F z c := by
  rw [show Q' = Q from funext fun a => funext fun t => funext fun s => propext (h a t s).symm]
  exact hb
theorem yy_wg {Q : Int → Int → Int → Prop} {F : Int → Int → Int → Int} {z ax t w0 w1 : Int} {c : Int × Int × Int × Int} (hb : yy_bc Q F z c) (hax : ∀ a t' s', Q a t' s' → a ≤ ax) (hs : ∀ a t' s', Q a t' s' → (0 ≤ s' ∧ s' ≤ 1) ∧ Q a t' 0) (h0 : w0 = F ax t 0) (h1 : w1 = F ax t 1) (hz0 : w0 < z) (hz1 : w1 < z) : yy_bc (fun a t' s' => Q a t' s' ∨ (a = ax ∧ t' = t ∧ (0 ≤ s' ∧ s' ≤ 1))) F z (yy_off (yy_off c ax t 0 w0) ax t 1 w1) := by
  have k1 := yy_offb hb hax h0 hz0 (by
    by_cases q : Q ax t 0
    · exact Or.inl q
    · exact Or.inr fun s' h => absurd (hs _ _ _ h).2 q)
  have k2 := yy_offb k1 (fun a t' s' h => by
    rcases h with h | h
    · exact hax _ _ _ h
    · omega) h1 hz1 (Or.inr fun s' h => by
      rcases h with h | h
      · exact (hs _ _ _ h).1.2
      · omega)
  refine yy_bc_iff (fun a t' s' => ?_) k2
  constructor
  · intro h
    rcases h with (h | h) | h
    · exact Or.inl h
    · exact Or.inr ⟨h.1, h.2.1, by omega⟩
    · exact Or.inr ⟨h.1, h.2.1, by omega⟩
  · intro h
    rcases h with h | h
    · exact Or.inl (Or.inl h)
    · by_cases q : s' = 0
      · exact Or.inl (Or.inr ⟨h.1, h.2.1, q⟩)
      · exact Or.inr ⟨h.1, h.2.1, by omega⟩
/-- an edge: the lowest, or a point's number -/
noncomputable def yy_cd (x y : Nat → Int) (N : Nat) (a t : Int) : Prop := t = -301 ∨ ∃ j : Nat, j < N ∧ t = (if a = 0 then x j else y j)
theorem yy_cd_0 {x y : Nat → Int} {a t : Int} : yy_cd x y 0 a t ↔ t = -301 := by
  constructor
  · intro h
    rcases h with h | ⟨j, hj, _⟩
    · exact h
    · omega
  · exact Or.inl
theorem yy_cd_s {x y : Nat → Int} {a t : Int} {i : Nat} : yy_cd x y (i + 1) a t ↔ (yy_cd x y i a t ∨ t = (if a = 0 then x i else y i)) := by
  constructor
  · intro h
    rcases h with h | ⟨j, hj, e⟩
    · exact Or.inl (Or.inl h)
    · by_cases q : j = i
      · rw [q] at e
        exact Or.inr e
      · exact Or.inl (Or.inr ⟨j, by omega, e⟩)
  · intro h
    rcases h with (h | ⟨j, hj, e⟩) | h
    · exact Or.inl h
    · exact Or.inr ⟨j, by omega, e⟩
    · exact Or.inr ⟨i, by omega, h⟩
/-- all edges of the axes below ax, and those of ax itself as far as point i -/
noncomputable def yy_Q (x y : Nat → Int) (n : Nat) (ax : Int) (i : Nat) : Int → Int → Int → Prop := fun a t s => (0 ≤ s ∧ s ≤ 1) ∧ ((0 ≤ a ∧ a < ax ∧ yy_cd x y n a t) ∨ (a = ax ∧ yy_cd x y i a t))
noncomputable def yy_P (x y : Nat → Int) (n : Nat) (ax : Int) : Int → Int → Int → Prop := fun a t s => (0 ≤ s ∧ s ≤ 1) ∧ (0 ≤ a ∧ a < ax ∧ yy_cd x y n a t)
theorem yy_ch0 {x y : Nat → Int} {n : Nat} {F : Int → Int → Int → Int} {z : Int} {c : Int × Int × Int × Int} (h : c.2.2.2 = z) : yy_bc (yy_P x y n 0) F z c := Or.inl ⟨h, fun a t s q => by
  have := q.2
  omega⟩
theorem yy_ch1 {x y : Nat → Int} {n : Nat} {F : Int → Int → Int → Int} {z ax w0 w1 : Int} {c : Int × Int × Int × Int} (hb : yy_bc (yy_P x y n ax) F z c) (h0 : w0 = F ax (-301) 0) (h1 : w1 = F ax (-301) 1) (hz0 : w0 < z) (hz1 : w1 < z) : yy_bc (yy_Q x y n ax 0) F z (yy_off (yy_off c ax (-301) 0 w0) ax (-301) 1 w1) := by
  refine yy_bc_iff (fun a t s => ?_) (yy_wg hb (fun a t s h => by have := h.2; omega) (fun a t s h => ⟨h.1, ⟨by omega, h.2⟩⟩) h0 h1 hz0 hz1)
  constructor
  · intro h
    rcases h with h | h
    · exact ⟨h.1, Or.inl h.2⟩
    · exact ⟨h.2.2, Or.inr ⟨h.1, yy_cd_0.mpr h.2.1⟩⟩
  · intro h
    rcases h.2 with q | q
    · exact Or.inl ⟨h.1, q⟩
    · exact Or.inr ⟨q.1, yy_cd_0.mp q.2, h.1⟩
theorem yy_ch2 {x y : Nat → Int} {n i : Nat} {F : Int → Int → Int → Int} {z ax t w0 w1 : Int} {c : Int × Int × Int × Int} (hb : yy_bc (yy_Q x y n ax i) F z c) (ht : t = (if ax = 0 then x i else y i)) (h0 : w0 = F ax t 0) (h1 : w1 = F ax t 1) (hz0 : w0 < z) (hz1 : w1 < z) : yy_bc (yy_Q x y n ax (i + 1)) F z (yy_off (yy_off c ax t 0 w0) ax t 1 w1) := by
  refine yy_bc_iff (fun a t' s => ?_) (yy_wg hb (fun a t s h => by rcases h.2 with q | q <;> omega) (fun a t s h => ⟨h.1, ⟨by omega, h.2⟩⟩) h0 h1 hz0 hz1)
  constructor
  · intro h
    rcases h with h | h
    · rcases h.2 with q | q
      · exact ⟨h.1, Or.inl q⟩
      · exact ⟨h.1, Or.inr ⟨q.1, yy_cd_s.mpr (Or.inl q.2)⟩⟩
    · refine ⟨h.2.2, Or.inr ⟨h.1, yy_cd_s.mpr (Or.inr ?_)⟩⟩
      rw [h.2.1, ht, h.1]
  · intro h
    rcases h.2 with q | q
    · exact Or.inl ⟨h.1, Or.inl q⟩
    · rcases yy_cd_s.mp q.2 with k | k
      · exact Or.inl ⟨h.1, Or.inr ⟨q.1, k⟩⟩
      · refine Or.inr ⟨q.1, ?_, h.1⟩
        rw [k, ht, q.1]
theorem yy_ch3 {x y : Nat → Int} {n : Nat} {F : Int → Int → Int → Int} {z ax m : Int} {c : Int × Int × Int × Int} (h0 : 0 ≤ ax) (hm : m = ax + 1) (hb : yy_bc (yy_Q x y n ax n) F z c) : yy_bc (yy_P x y n m) F z c := by
  refine yy_bc_iff (fun a t s => ?_) hb
  constructor
  · intro h
    refine ⟨h.1, ?_⟩
    rcases h.2 with q | q
    · exact ⟨q.1, by omega, q.2.2⟩
    · exact ⟨by omega, by omega, q.2⟩
  · intro h
    refine ⟨h.1, ?_⟩
    by_cases q : a = ax
    · exact Or.inr ⟨q, h.2.2.2⟩
    · have h3 := h.2.2.1
      exact Or.inl ⟨h.2.1, by omega, h.2.2.2⟩
theorem yy_flat {px py pc m : Nat → Int} {a t s : Int} : ∀ n : Nat, (∀ j : Nat, j < n → (if a = 0 then px j else py j) ≠ t) → yq_ws px py pc m a t s n = yq_ws px py pc m a (t - 1) s n
  | 0, _ => rfl
  | n + 1, h => by
    have h1 := yy_flat (px := px) (py := py) (pc := pc) (m := m) (a := a) (t := t) (s := s) n (fun j hj => h j (by omega))
    have h2 := h n (by omega)
    have h3 : yq_says a t s (px n) (py n) = yq_says a (t - 1) s (px n) (py n) := by
      unfold yq_says yq_ss
      by_cases q : a = 0
      · rw [if_pos q] at h2
        rw [if_pos q, if_pos q]
        by_cases k : t < px n
        · rw [if_pos k, if_pos (show t - 1 < px n by omega)]
        · rw [if_neg k, if_neg (show ¬ t - 1 < px n by omega)]
      · rw [if_neg q] at h2
        rw [if_neg q, if_neg q]
        by_cases k : t < py n
        · rw [if_pos k, if_pos (show t - 1 < py n by omega)]
        · rw [if_neg k, if_neg (show ¬ t - 1 < py n by omega)]
    show (yq_ws px py pc m a t s n + if yq_says a t s (px n) (py n) = pc n then 0 else m n) = (yq_ws px py pc m a (t - 1) s n + if yq_says a (t - 1) s (px n) (py n) = pc n then 0 else m n)
    rw [h1, h3]
theorem yy_low {px py pc m : Nat → Int} {a s : Int} {n : Nat} : ∀ d : Nat, ∃ t : Int, -301 ≤ t ∧ t ≤ -301 + (d : Int) ∧ yy_cd px py n a t ∧ yq_ws px py pc m a t s n = yq_ws px py pc m a (-301 + (d : Int)) s n
  | 0 => ⟨-301, by omega, by omega, Or.inl rfl, rfl⟩
  | d + 1 => by
    obtain ⟨t, h1, h2, h3, h4⟩ := yy_low (px := px) (py := py) (pc := pc) (m := m) (a := a) (s := s) (n := n) d
    by_cases q : ∃ j : Nat, j < n ∧ (if a = 0 then px j else py j) = -301 + ((d + 1 : Nat) : Int)
    · obtain ⟨j, q1, q2⟩ := q
      exact ⟨-301 + ((d + 1 : Nat) : Int), by omega, by omega, Or.inr ⟨j, q1, q2.symm⟩, rfl⟩
    · refine ⟨t, h1, by omega, h3, ?_⟩
      rw [h4, yy_flat (t := -301 + ((d + 1 : Nat) : Int)) n (fun j hj e => q ⟨j, hj, e⟩)]
      exact congrArg (fun z => yq_ws px py pc m a z s n) (by omega)
theorem yy_full {px py pc m : Nat → Int} {n : Nat} {c : Int × Int × Int × Int} (hm : yy_mb m n) (hx : ∀ j : Nat, j < n → -300 ≤ px j ∧ px j ≤ 300) (hy : ∀ j : Nat, j < n → -300 ≤ py j ∧ py j ≤ 300) (hb : yy_bc (yy_P px py n 2) (fun a t s => yq_ws px py pc m a t s n) (yq_tot m n + 1) c) : c.2.2.2 = (yy_c px py pc m n).1 ∧ c.1 = yy_ax (yy_c px py pc m n).2 ∧ c.2.1 = yy_at (yy_c px py pc m n).2 ∧ c.2.2.1 = yy_sg (yy_c px py pc m n).2 := by
  obtain ⟨ca, ce, cs, cw⟩ := c
  rcases hb with ⟨_, hn⟩ | ⟨⟨hs, ha0, ha2, hcd⟩, hw, hmin⟩
  · exact absurd (⟨⟨by omega, by omega⟩, by omega, by omega, Or.inl rfl⟩ : yy_P px py n 2 0 (-301) 0) (hn 0 (-301) 0)
  · have hs : 0 ≤ cs ∧ cs ≤ 1 := hs
    have ha0 : 0 ≤ ca := ha0
    have ha2 : ca < 2 := ha2
    have hw : cw = yq_ws px py pc m ca ce cs n := hw
    have hce : -301 ≤ ce ∧ ce ≤ 300 := by
      rcases hcd with q | ⟨j, hj, q⟩
      · have q : ce = -301 := q
        omega
      · have q : ce = (if ca = 0 then px j else py j) := q
        have k1 := hx j hj
        have k2 := hy j hj
        split at q <;> omega
    obtain ⟨q0, hq0⟩ : ∃ q : Nat, q = (1204 * ca + 2 * (ce + 301) + cs).toNat := ⟨_, rfl⟩
    have e1 : yy_ax q0 = ca := by unfold yy_ax; omega
    have e2 : yy_at q0 = ce := by unfold yy_at; omega
    have e3 : yy_sg q0 = cs := by unfold yy_sg; omega
    have ef : yy_f px py pc m n q0 = cw := by
      unfold yy_f
      rw [e1, e2, e3, hw]
    have key : ∀ q : Nat, q < 2408 → cw < yy_f px py pc m n q ∨ (cw = yy_f px py pc m n q ∧ (ca < yy_ax q ∨ (ca = yy_ax q ∧ (ce < yy_at q ∨ (ce = yy_at q ∧ cs ≤ yy_sg q))))) := fun q hq => by
      obtain ⟨t, k1, k2, k3, k4⟩ := yy_low (px := px) (py := py) (pc := pc) (m := m) (a := yy_ax q) (s := yy_sg q) (n := n) (q % 1204 / 2)
      have k5 : yy_at q = -301 + ((q % 1204 / 2 : Nat) : Int) := by unfold yy_at; omega
      rw [← k5] at k2 k4
      have k6 := hmin (yy_ax q) t (yy_sg q) ⟨⟨by unfold yy_sg; omega, by unfold yy_sg; omega⟩, by unfold yy_ax; omega, by unfold yy_ax; omega, k3⟩
      have k6 : cw < yq_ws px py pc m (yy_ax q) t (yy_sg q) n ∨ (cw = yq_ws px py pc m (yy_ax q) t (yy_sg q) n ∧ (ca < yy_ax q ∨ (ca = yy_ax q ∧ (ce < t ∨ (ce = t ∧ cs ≤ yy_sg q))))) := k6
      rw [k4] at k6
      unfold yy_f
      omega
    have hu := yy_sc_u (f := yy_f px py pc m n) (z := yq_tot m n + 1) (i := q0) (by
        rw [ef, hw]
        have := yy_ws_b (px := px) (py := py) (pc := pc) (ax := ca) (at_ := ce) (sg := cs) n hm
        omega) (fun q hq => by
        have k := key q (by omega)
        rw [ef]
        rcases k with k | ⟨k, k2⟩
        · exact k
        · exfalso
          unfold yy_ax yy_at yy_sg at k2
          omega) 2408 (fun q hq => by
        have k := key q hq
        rw [ef]
        omega) (by omega)
    have hc : yy_c px py pc m n = (cw, q0) := by
      unfold yy_c
      rw [hu, ef]
    rw [hc]
    exact ⟨rfl, e1.symm, e2.symm, e3.symm⟩
/-! greatest common divisors -/
theorem yy_cop {m n g : Nat} (hg : g = Nat.gcd m n) (h0 : 0 < g) : ∃ x y, m = g * x ∧ n = g * y ∧ Nat.Coprime x y ∧ m / g = x ∧ n / g = y := by
  obtain ⟨x, hx⟩ : g ∣ m := by rw [hg]; exact Nat.gcd_dvd_left m n
  obtain ⟨y, hy⟩ : g ∣ n := by rw [hg]; exact Nat.gcd_dvd_right m n
  refine ⟨x, y, hx, hy, ?_, ?_, ?_⟩
  · have h : g * Nat.gcd x y = g * 1 := by
      rw [← Nat.gcd_mul_left, ← hx, ← hy, Nat.mul_one]
      exact hg.symm
    exact Nat.eq_of_mul_eq_mul_left h0 h
  · rw [hx]
    exact Nat.mul_div_cancel_left x h0
  · rw [hy]
    exact Nat.mul_div_cancel_left y h0
theorem yy_dl (k : Nat) {n m : Nat} (h : k * n = m) : n ∣ m := by
  rw [← h]
  exact Nat.dvd_mul_left n k
theorem yy_fac {g x k : Nat} (h : k = g * x) (hk : 0 < k) : 0 < x := Nat.pos_of_ne_zero fun z => by
  rw [z, Nat.mul_zero] at h
  omega
theorem yy_D1 {W R u l a c1 c2 : Nat} (hW : 0 < W) (hR : 0 < R) (hul : Nat.Coprime u l) (ha : a = Nat.gcd W R) (h1 : c1 = Nat.gcd (W / a) l) (h2 : c2 = Nat.gcd (R / a) u) : Nat.gcd (W * u) (R * l) = a * (c1 * c2) ∧ (a * c1) ∣ W ∧ (a * c2) ∣ R ∧ c2 ∣ u ∧ c1 ∣ l ∧ 0 < a ∧ 0 < c1 ∧ 0 < c2 := by
  have ha0 : 0 < a := by rw [ha]; exact Nat.gcd_pos_of_pos_left R hW
  obtain ⟨w, r, eW, eR, cwr, dW, dR⟩ := yy_cop ha ha0
  rw [dW] at h1
  rw [dR] at h2
  have h10 : 0 < c1 := by rw [h1]; exact Nat.gcd_pos_of_pos_left l (yy_fac eW hW)
  have h20 : 0 < c2 := by rw [h2]; exact Nat.gcd_pos_of_pos_left u (yy_fac eR hR)
  obtain ⟨w', l', ew, el, cwl, _, _⟩ := yy_cop h1 h10
  obtain ⟨r', u', er, eu, cru, _, _⟩ := yy_cop h2 h20
  have k1 : Nat.Coprime w' r' := Nat.Coprime.coprime_dvd_left (yy_dl c1 ew.symm) (Nat.Coprime.coprime_dvd_right (yy_dl c2 er.symm) cwr)
  have k2 : Nat.Coprime u' l' := Nat.Coprime.coprime_dvd_left (yy_dl c2 eu.symm) (Nat.Coprime.coprime_dvd_right (yy_dl c1 el.symm) hul)
  have e : W * u = a * ((c1 * c2) * (w' * u')) := by
    rw [eW, ew, eu]
    ac_rfl
  have e2 : R * l = a * ((c1 * c2) * (r' * l')) := by
    rw [eR, er, el]
    ac_rfl
  have k3 : Nat.gcd (w' * u') (r' * l') = 1 := Nat.Coprime.mul_left (Nat.Coprime.mul_right k1 cwl) (Nat.Coprime.mul_right cru.symm k2)
  refine ⟨?_, ⟨w', ?_⟩, ⟨r', ?_⟩, ⟨u', eu⟩, ⟨l', el⟩, ha0, h10, h20⟩
  · rw [e, e2, Nat.gcd_mul_left, Nat.gcd_mul_left, k3, Nat.mul_one]
  · rw [eW, ew]
    ac_rfl
  · rw [eR, er]
    ac_rfl
theorem yy_D2 {W R u l one two both : Nat} (hW : 0 < W) (hR : 0 < R) (hul : Nat.Coprime u l) (h1 : one = Nat.gcd u R) (h2 : two = Nat.gcd l W) (h3 : both = Nat.gcd (W / two) (R / one)) : Nat.gcd (W * u) (R * l) = one * (two * both) ∧ (two * both) ∣ W ∧ (one * both) ∣ R ∧ one ∣ u ∧ two ∣ l ∧ 0 < one ∧ 0 < two ∧ 0 < both := by
  have h10 : 0 < one := by rw [h1]; exact Nat.gcd_pos_of_pos_right u hR
  have h20 : 0 < two := by rw [h2]; exact Nat.gcd_pos_of_pos_right l hW
  obtain ⟨u', R', eu, eR, cuR, _, dR⟩ := yy_cop h1 h10
  obtain ⟨l', W', el, eW, clW, _, dW⟩ := yy_cop h2 h20
  rw [dW, dR] at h3
  have h30 : 0 < both := by rw [h3]; exact Nat.gcd_pos_of_pos_left R' (yy_fac eW hW)
  have k2 : Nat.Coprime u' l' := Nat.Coprime.coprime_dvd_left (yy_dl one eu.symm) (Nat.Coprime.coprime_dvd_right (yy_dl two el.symm) hul)
  have e : W * u = (one * two) * (W' * u') := by
    rw [eW, eu]
    ac_rfl
  have e2 : R * l = (one * two) * (R' * l') := by
    rw [eR, el]
    ac_rfl
  obtain ⟨W2, R2, eW2, eR2, _, _, _⟩ := yy_cop h3 h30
  refine ⟨?_, ⟨W2, ?_⟩, ⟨R2, ?_⟩, ⟨u', eu⟩, ⟨l', el⟩, h10, h20, h30⟩
  · rw [e, e2, Nat.gcd_mul_left, Nat.Coprime.gcd_mul_right_cancel W' (Nat.Coprime.mul_right cuR k2), Nat.Coprime.gcd_mul_right_cancel_right R' clW, ← h3]
    ac_rfl
  · rw [eW, eW2]
    ac_rfl
  · rw [eR, eR2]
    ac_rfl
/-- a quotient of numbers that are not below 0 -/
theorem yy_td {a b : Int} (ha : 0 ≤ a) (hb : 0 ≤ b) : a.tdiv b = ((a.toNat / b.toNat : Nat) : Int) := by
  rw [Int.tdiv_eq_ediv_of_nonneg ha, Int.natCast_ediv, Int.toNat_of_nonneg ha, Int.toNat_of_nonneg hb]
theorem yy_tm {a b : Int} (ha : 0 ≤ a) (hb : 0 ≤ b) : a.tmod b = ((a.toNat % b.toNat : Nat) : Int) := by
  rw [Int.tmod_eq_emod_of_nonneg ha, Int.natCast_emod, Int.toNat_of_nonneg ha, Int.toNat_of_nonneg hb]
theorem yy_gs (a b : Nat) : Nat.gcd b (a % b) = Nat.gcd a b := by
  rw [Nat.gcd_comm a b, Nat.gcd_rec b a, Nat.gcd_comm b (a % b)]
/-- Euclid's way halves the product -/
theorem yy_eu {A B k : Nat} (hb : 0 < B) (hlt : B < A) (h : A * B * 2 ^ k < 2 ^ 126) : B * (A % B) * 2 ^ (k + 1) < 2 ^ 126 := by
  have h1 : A % B < B := Nat.mod_lt A hb
  have h2 : A % B + B ≤ A := by
    have h3 := Nat.div_add_mod A B
    have h4 : B * 1 ≤ B * (A / B) := Nat.mul_le_mul_left B (Nat.div_pos (by omega) hb)
    omega
  have h5 : B * (A % B) * 2 ≤ A * B := by
    have h6 : B * (2 * (A % B)) ≤ B * A := Nat.mul_le_mul_left B (by omega)
    calc B * (A % B) * 2 = B * (2 * (A % B)) := by ac_rfl
      _ ≤ B * A := h6
      _ = A * B := Nat.mul_comm B A
  have h7 : B * (A % B) * 2 ^ (k + 1) = B * (A % B) * 2 * 2 ^ k := by
    rw [Nat.pow_succ]
    ac_rfl
  rw [h7]
  exact Nat.lt_of_le_of_lt (Nat.mul_le_mul_right (2 ^ k) h5) h
theorem yy_e127 {A B : Nat} (hlt : B < A) (h : A * B * 2 ^ 127 < 2 ^ 126) : B = 0 := by
  apply Nat.eq_zero_of_not_pos
  intro hb
  have h1 : 1 ≤ A * B := Nat.mul_pos (by omega) hb
  have h2 : 1 * 2 ^ 127 ≤ A * B * 2 ^ 127 := Nat.mul_le_mul_right (2 ^ 127) h1
  have h3 : (2 : Nat) ^ 126 < 1 * 2 ^ 127 := by decide
  omega
/-! the next masses -/
noncomputable def yy_w (px py pc : Nat → Int) (a t s : Int) : Nat → Bool := fun j => decide (yq_says a t s (px j) (py j) ≠ pc j)
noncomputable def yy_g (w : Nat → Bool) (b : Bool) (m : Nat → Int) : Nat → Nat
  | 0 => 0
  | j + 1 => if w j = b then Nat.gcd (yy_g w b m j) (m j).toNat else yy_g w b m j
theorem yy_g_s {w : Nat → Bool} {b : Bool} {m : Nat → Int} {i k : Int} (hi : 0 ≤ i) (hk : k = i + 1) : yy_g w b m k.toNat = if w i.toNat = b then Nat.gcd (yy_g w b m i.toNat) (m i.toNat).toNat else yy_g w b m i.toNat := by
  rw [show k.toNat = i.toNat + 1 by omega]
  rfl
theorem yy_g_dvd {w : Nat → Bool} {b : Bool} {m : Nat → Int} : ∀ n j : Nat, j < n → w j = b → yy_g w b m n ∣ (m j).toNat
  | 0, j, h, _ => absurd h (by omega)
  | n + 1, j, h, hw => by
    show (if w n = b then Nat.gcd (yy_g w b m n) (m n).toNat else yy_g w b m n) ∣ (m j).toNat
    by_cases q : j = n
    · subst q
      rw [if_pos hw]
      exact Nat.gcd_dvd_right _ _
    · have ih := yy_g_dvd (m := m) n j (by omega) hw
      split
      · exact Nat.dvd_trans (Nat.gcd_dvd_left _ _) ih
      · exact ih
theorem yy_g_eq {w w' : Nat → Bool} {b : Bool} {m m' : Nat → Int} : ∀ n : Nat, (∀ j : Nat, j < n → w j = w' j) → (∀ j : Nat, j < n → m j = m' j) → yy_g w b m n = yy_g w' b m' n
  | 0, _, _ => rfl
  | n + 1, h1, h2 => by
    show (if w n = b then Nat.gcd (yy_g w b m n) (m n).toNat else yy_g w b m n) = (if w' n = b then Nat.gcd (yy_g w' b m' n) (m' n).toNat else yy_g w' b m' n)
    rw [yy_g_eq n (fun j hj => h1 j (by omega)) (fun j hj => h2 j (by omega)), h1 n (by omega), h2 n (by omega)]
/-- where nothing divides, nothing is weighed -/
theorem yy_g_0 {px py pc m : Nat → Int} {a t s : Int} : ∀ n : Nat, yy_mb m n → (yy_g (yy_w px py pc a t s) true m n = 0 → yq_ws px py pc m a t s n = 0) ∧ (yy_g (yy_w px py pc a t s) false m n = 0 → yq_ws px py pc m a t s n = yq_tot m n)
  | 0, _ => ⟨fun _ => rfl, fun _ => rfl⟩
  | n + 1, h => by
    obtain ⟨h1, h2⟩ := yy_g_0 (px := px) (py := py) (pc := pc) (a := a) (t := t) (s := s) n (fun j hj => h j (by omega))
    have h3 := h n (by omega)
    have e1 : yy_g (yy_w px py pc a t s) true m (n + 1) = if yy_w px py pc a t s n = true then Nat.gcd (yy_g (yy_w px py pc a t s) true m n) (m n).toNat else yy_g (yy_w px py pc a t s) true m n := rfl
    have e2 : yy_g (yy_w px py pc a t s) false m (n + 1) = if yy_w px py pc a t s n = false then Nat.gcd (yy_g (yy_w px py pc a t s) false m n) (m n).toNat else yy_g (yy_w px py pc a t s) false m n := rfl
    have e3 : yq_ws px py pc m a t s (n + 1) = yq_ws px py pc m a t s n + if yq_says a t s (px n) (py n) = pc n then 0 else m n := rfl
    have e4 : yq_tot m (n + 1) = yq_tot m n + m n := rfl
    rw [e1, e2, e3, e4]
    by_cases q : yq_says a t s (px n) (py n) = pc n
    · have w0 : yy_w px py pc a t s n = false := decide_eq_false (fun z => z q)
      rw [w0, if_neg (by decide), if_pos rfl, if_pos q]
      refine ⟨fun z => by have := h1 z; omega, fun z => ?_⟩
      obtain ⟨z1, z2⟩ := Nat.gcd_eq_zero_iff.mp z
      have := h2 z1
      omega
    · have w1 : yy_w px py pc a t s n = true := decide_eq_true q
      rw [w1, if_pos rfl, if_neg (show ¬ true = false by decide), if_neg q]
      refine ⟨fun z => ?_, fun z => by have := h2 z; omega⟩
      obtain ⟨z1, z2⟩ := Nat.gcd_eq_zero_iff.mp z
      have := h1 z1
      omega
noncomputable def yy_u (E T : Int) : Nat := (T - E).toNat / Nat.gcd E.toNat (T - E).toNat
noncomputable def yy_l (E T : Int) : Nat := E.toNat / Nat.gcd E.toNat (T - E).toNat
theorem yy_ul {E T : Int} (hE : 1 ≤ E) : Nat.Coprime (yy_u E T) (yy_l E T) := by
  have h0 : 0 < Nat.gcd E.toNat (T - E).toNat := Nat.gcd_pos_of_pos_left _ (by omega)
  obtain ⟨x, y, _, _, h, hx, hy⟩ := yy_cop (m := E.toNat) (n := (T - E).toNat) rfl h0
  unfold yy_u yy_l
  rw [hx, hy]
  exact h.symm
noncomputable def yy_D (w : Nat → Bool) (m : Nat → Int) (n : Nat) (E T : Int) : Nat := Nat.gcd (yy_g w true m n * yy_u E T) (yy_g w false m n * yy_l E T)
noncomputable def yy_nm (w : Nat → Bool) (m : Nat → Int) (n : Nat) (E T : Int) : Nat → Int := fun j => (((m j).toNat * (if w j = true then yy_u E T else yy_l E T) / yy_D w m n E T : Nat) : Int)
noncomputable def yy_ft (f : Nat → Int) : Nat → Bool
  | 0 => true
  | j + 1 => yy_ft f j && decide (f j ≤ 1099511627776)
theorem yy_ft_s {f : Nat → Int} {i k : Int} (hi : 0 ≤ i) (hk : k = i + 1) : yy_ft f k.toNat = (yy_ft f i.toNat && decide (f i.toNat ≤ 1099511627776)) := by
  rw [show k.toNat = i.toNat + 1 by omega]
  rfl
theorem yy_ft_f {f : Nat → Int} {i : Nat} (h : ¬ f i ≤ 1099511627776) : ∀ n : Nat, i < n → yy_ft f n = false
  | 0, hi => absurd hi (by omega)
  | n + 1, hi => by
    show (yy_ft f n && decide (f n ≤ 1099511627776)) = false
    by_cases q : i = n
    · subst q
      rw [decide_eq_false h, Bool.and_false]
    · rw [yy_ft_f h n (by omega), Bool.false_and]
theorem yy_ft_t {f : Nat → Int} : ∀ n : Nat, yy_ft f n = true → ∀ j : Nat, j < n → f j ≤ 1099511627776
  | 0, _, j, hj => absurd hj (by omega)
  | n + 1, h, j, hj => by
    have h : (yy_ft f n && decide (f n ≤ 1099511627776)) = true := h
    rw [Bool.and_eq_true] at h
    by_cases q : j = n
    · subst q
      exact of_decide_eq_true h.2
    · exact yy_ft_t n h.1 j (by omega)
theorem yy_nm_eq {w w' : Nat → Bool} {m m' : Nat → Int} {n : Nat} {E T : Int} (h1 : ∀ j : Nat, j < n → w j = w' j) (h2 : ∀ j : Nat, j < n → m j = m' j) {j : Nat} (hj : j < n) : yy_nm w m n E T j = yy_nm w' m' n E T j := by
  unfold yy_nm yy_D
  rw [yy_g_eq n h1 h2, yy_g_eq n h1 h2, h1 j hj, h2 j hj]
theorem yy_ft_eq {f f' : Nat → Int} : ∀ n : Nat, (∀ j : Nat, j < n → f j = f' j) → yy_ft f n = yy_ft f' n
  | 0, _ => rfl
  | n + 1, h => by
    show (yy_ft f n && decide (f n ≤ 1099511627776)) = (yy_ft f' n && decide (f' n ≤ 1099511627776))
    rw [yy_ft_eq n (fun j hj => h j (by omega)), h n (by omega)]
/-- the class's factors, of a mass that is wrong or right -/
theorem yy_x1 {w : Nat → Bool} {m : Nat → Int} {n j : Nat} {E T : Int} {a c1 c2 : Nat} (hE : 1 ≤ E) (hj : j < n) (hW : 0 < yy_g w true m n) (hR : 0 < yy_g w false m n) (ha : a = Nat.gcd (yy_g w true m n) (yy_g w false m n)) (h1 : c1 = Nat.gcd (yy_g w true m n / a) (yy_l E T)) (h2 : c2 = Nat.gcd (yy_g w false m n / a) (yy_u E T)) : (w j = true → (((m j).toNat / a / c1 * (yy_u E T / c2) : Nat) : Int) = yy_nm w m n E T j) ∧ (w j = false → (((m j).toNat / a / c2 * (yy_l E T / c1) : Nat) : Int) = yy_nm w m n E T j) := by
  obtain ⟨k1, k2, k3, k4, k5, k6, k7, k8⟩ := yy_D1 hW hR (yy_ul (T := T) hE) ha h1 h2
  unfold yy_nm yy_D
  refine ⟨fun q => ?_, fun q => ?_⟩
  · rw [if_pos q, k1, Nat.div_div_eq_div_mul, ← Nat.mul_assoc, Nat.mul_div_mul_comm (Nat.dvd_trans k2 (yy_g_dvd n j hj q)) k4]
  · rw [if_neg (by rw [q]; decide), k1, Nat.div_div_eq_div_mul, show a * (c1 * c2) = (a * c2) * c1 by ac_rfl, Nat.mul_div_mul_comm (Nat.dvd_trans k3 (yy_g_dvd n j hj q)) k5]
/-- the reference's factors -/
theorem yy_x2 {w : Nat → Bool} {m : Nat → Int} {n j : Nat} {E T : Int} {one two both : Nat} (hE : 1 ≤ E) (hj : j < n) (hW : 0 < yy_g w true m n) (hR : 0 < yy_g w false m n) (h1 : one = Nat.gcd (yy_u E T) (yy_g w false m n)) (h2 : two = Nat.gcd (yy_l E T) (yy_g w true m n)) (h3 : both = Nat.gcd (yy_g w true m n / two) (yy_g w false m n / one)) : (w j = true → (((m j).toNat / (two * both) * (yy_u E T / one) : Nat) : Int) = yy_nm w m n E T j) ∧ (w j = false → (((m j).toNat / (one * both) * (yy_l E T / two) : Nat) : Int) = yy_nm w m n E T j) := by
  obtain ⟨k1, k2, k3, k4, k5, k6, k7, k8⟩ := yy_D2 hW hR (yy_ul (T := T) hE) h1 h2 h3
  unfold yy_nm yy_D
  refine ⟨fun q => ?_, fun q => ?_⟩
  · rw [if_pos q, k1, show one * (two * both) = (two * both) * one by ac_rfl, Nat.mul_div_mul_comm (Nat.dvd_trans k2 (yy_g_dvd n j hj q)) k4]
  · rw [if_neg (by rw [q]; decide), k1, show one * (two * both) = (one * both) * two by ac_rfl, Nat.mul_div_mul_comm (Nat.dvd_trans k3 (yy_g_dvd n j hj q)) k5]
/-! the rounds: how many steps are kept, the end, the five numbers of each step, the masses -/
abbrev yy_S : Type := Int × Int × (Nat → Int) × (Nat → Int) × (Nat → Int) × (Nat → Int) × (Nat → Int) × (Nat → Int)
noncomputable def yy_kp (k en : Int) (s : yy_S) (q : Nat) (E T : Int) (m : Nat → Int) : yy_S := (k + 1, en, yq_set s.2.2.1 k.toNat (yy_ax q), yq_set s.2.2.2.1 k.toNat (yy_at q), yq_set s.2.2.2.2.1 k.toNat (yy_sg q), yq_set s.2.2.2.2.2.1 k.toNat E, yq_set s.2.2.2.2.2.2.1 k.toNat T, m)
noncomputable def yy_cut (n : Nat) (m : Nat → Int) : Nat → Int := fun j => if j < n then m j else 0
noncomputable def yy_W (px py pc : Nat → Int) (q : Nat) : Nat → Bool := yy_w px py pc (yy_ax q) (yy_at q) (yy_sg q)
noncomputable def yy_r1 (px py pc : Nat → Int) (n : Nat) (s : yy_S) (m : Nat → Int) (E T : Int) (q : Nat) : yy_S := if E = 0 then yy_kp 0 1 s q E T m else if T ≤ 2 * E then (s.1, 2, s.2.2) else if yy_ft (yy_nm (yy_W px py pc q) m n E T) n = true then yy_kp s.1 0 s q E T (yy_cut n (yy_nm (yy_W px py pc q) m n E T)) else yy_kp s.1 3 s q E T m
noncomputable def yy_rd (px py pc : Nat → Int) (n : Nat) (s : yy_S) : yy_S := yy_r1 px py pc n s s.2.2.2.2.2.2.2 (yy_c px py pc s.2.2.2.2.2.2.2 n).1 (yq_tot s.2.2.2.2.2.2.2 n) (yy_c px py pc s.2.2.2.2.2.2.2 n).2
noncomputable def yy_run (px py pc pw : Nat → Int) (n : Nat) : Nat → yy_S
  | 0 => (0, 0, fun _ => 0, fun _ => 0, fun _ => 0, fun _ => 0, fun _ => 0, yy_cut n pw)
  | k + 1 => if (yy_run px py pc pw n k).2.1 = 0 then yy_rd px py pc n (yy_run px py pc pw n k) else yy_run px py pc pw n k
theorem yy_run_s {px py pc pw : Nat → Int} {n : Nat} {i k : Int} (hi : 0 ≤ i) (hk : k = i + 1) : yy_run px py pc pw n k.toNat = if (yy_run px py pc pw n i.toNat).2.1 = 0 then yy_rd px py pc n (yy_run px py pc pw n i.toNat) else yy_run px py pc pw n i.toNat := by
  rw [show k.toNat = i.toNat + 1 by omega]
  rfl
theorem yy_run_st {px py pc pw : Nat → Int} {n k : Nat} (h : (yy_run px py pc pw n k).2.1 ≠ 0) : ∀ d : Nat, yy_run px py pc pw n (k + d) = yy_run px py pc pw n k
  | 0 => rfl
  | d + 1 => by
    show (if (yy_run px py pc pw n (k + d)).2.1 = 0 then yy_rd px py pc n (yy_run px py pc pw n (k + d)) else yy_run px py pc pw n (k + d)) = _
    rw [yy_run_st h d, if_neg h]
/-- points that are alike give the same rounds -/
theorem yy_cut_eq {n : Nat} {m m' : Nat → Int} (h : ∀ j : Nat, j < n → m j = m' j) : yy_cut n m = yy_cut n m' := funext fun j => by
  unfold yy_cut
  split
  · rename_i q
    exact h j q
  · rfl
theorem yy_rd_eq {px py pc PX PY PC : Nat → Int} {n : Nat} {s : yy_S} (h1 : ∀ j : Nat, j < n → px j = PX j) (h2 : ∀ j : Nat, j < n → py j = PY j) (h3 : ∀ j : Nat, j < n → pc j = PC j) : yy_rd px py pc n s = yy_rd PX PY PC n s := by
  unfold yy_rd
  rw [yy_c_eq h1 h2 h3 (fun _ _ => rfl)]
  unfold yy_r1
  have hw : ∀ q j : Nat, j < n → yy_W px py pc q j = yy_W PX PY PC q j := fun q j hj => by
    unfold yy_W yy_w
    rw [h1 j hj, h2 j hj, h3 j hj]
  have hn : ∀ (q : Nat) (m : Nat → Int) (E T : Int) (j : Nat), j < n → yy_nm (yy_W px py pc q) m n E T j = yy_nm (yy_W PX PY PC q) m n E T j := fun q m E T j hj => yy_nm_eq (hw q) (fun _ _ => rfl) hj
  rw [yy_ft_eq n (hn _ _ _ _), yy_cut_eq (hn _ _ _ _)]
theorem yy_run_eq {px py pc pw PX PY PC PW : Nat → Int} {n : Nat} (h1 : ∀ j : Nat, j < n → px j = PX j) (h2 : ∀ j : Nat, j < n → py j = PY j) (h3 : ∀ j : Nat, j < n → pc j = PC j) (h4 : ∀ j : Nat, j < n → pw j = PW j) : ∀ k : Nat, yy_run px py pc pw n k = yy_run PX PY PC PW n k
  | 0 => by
    show ((0, 0, fun _ => 0, fun _ => 0, fun _ => 0, fun _ => 0, fun _ => 0, yy_cut n pw) : yy_S) = (0, 0, fun _ => 0, fun _ => 0, fun _ => 0, fun _ => 0, fun _ => 0, yy_cut n PW)
    rw [yy_cut_eq h4]
  | k + 1 => by
    show (if (yy_run px py pc pw n k).2.1 = 0 then yy_rd px py pc n (yy_run px py pc pw n k) else yy_run px py pc pw n k) = (if (yy_run PX PY PC PW n k).2.1 = 0 then yy_rd PX PY PC n (yy_run PX PY PC PW n k) else yy_run PX PY PC PW n k)
    rw [yy_run_eq h1 h2 h3 h4 k, yy_rd_eq h1 h2 h3]
/-- rows and numbers that hold a state of the rounds -/
noncomputable def yy_rep (kept en : Int) (ax at_ sg wr wh m : Nat → Int) (n : Nat) (s : yy_S) : Prop := kept = s.1 ∧ en = s.2.1 ∧ (∀ k : Nat, (k : Int) < kept → ax k = s.2.2.1 k ∧ at_ k = s.2.2.2.1 k ∧ sg k = s.2.2.2.2.1 k ∧ wr k = s.2.2.2.2.2.1 k ∧ wh k = s.2.2.2.2.2.2.1 k) ∧ (∀ j : Nat, j < n → m j = s.2.2.2.2.2.2.2 j)
theorem yy_sc_v {f : Nat → Int} {z : Int} (hz : ∀ q : Nat, f q < z) : ∀ N : Nat, (yy_sc f z (N + 1)).1 = f (yy_sc f z (N + 1)).2
  | 0 => by
    show (if f 0 < z then (f 0, 0) else (z, 0)).1 = f (if f 0 < z then (f 0, 0) else (z, 0)).2
    rw [if_pos (hz 0)]
  | N + 1 => by
    have ih := yy_sc_v hz N
    show (if f (N + 1) < (yy_sc f z (N + 1)).1 then (f (N + 1), N + 1) else yy_sc f z (N + 1)).1 = f (if f (N + 1) < (yy_sc f z (N + 1)).1 then (f (N + 1), N + 1) else yy_sc f z (N + 1)).2
    split
    · rfl
    · exact ih
theorem yy_c_v {px py pc m : Nat → Int} {n : Nat} (hm : yy_mb m n) : (yy_c px py pc m n).1 = yq_ws px py pc m (yy_ax (yy_c px py pc m n).2) (yy_at (yy_c px py pc m n).2) (yy_sg (yy_c px py pc m n).2) n := yy_sc_v (f := yy_f px py pc m n) (z := yq_tot m n + 1) (fun q => by
  have := yy_ws_b (px := px) (py := py) (pc := pc) (ax := yy_ax q) (at_ := yy_at q) (sg := yy_sg q) n hm
  unfold yy_f
  omega) 2407
theorem yy_W0 {px py pc m : Nat → Int} {a t s : Int} {n : Nat} (hm : yy_mb m n) (hE : 1 ≤ yq_ws px py pc m a t s n) (hT : yq_ws px py pc m a t s n < yq_tot m n) : 0 < yy_g (yy_w px py pc a t s) true m n ∧ 0 < yy_g (yy_w px py pc a t s) false m n := by
  obtain ⟨h1, h2⟩ := yy_g_0 (px := px) (py := py) (pc := pc) (a := a) (t := t) (s := s) n hm
  refine ⟨Nat.pos_of_ne_zero fun z => ?_, Nat.pos_of_ne_zero fun z => ?_⟩
  · have := h1 z
    omega
  · have := h2 z
    omega
theorem yy_up {E T : Int} (hE : 1 ≤ E) (hT : E < T) : 0 < yy_u E T ∧ 0 < yy_l E T := by
  have h0 : 0 < Nat.gcd E.toNat (T - E).toNat := Nat.gcd_pos_of_pos_left _ (by omega)
  unfold yy_u yy_l
  exact ⟨Nat.div_pos (Nat.le_of_dvd (by omega) (Nat.gcd_dvd_right _ _)) h0, Nat.div_pos (Nat.le_of_dvd (by omega) (Nat.gcd_dvd_left _ _)) h0⟩
theorem yy_nm_p {w : Nat → Bool} {m : Nat → Int} {n j : Nat} {E T : Int} (hE : 1 ≤ E) (hT : E < T) (hj : j < n) (hm : 1 ≤ m j) (hW : 0 < yy_g w true m n) (hR : 0 < yy_g w false m n) : 1 ≤ yy_nm w m n E T j := by
  obtain ⟨hu, hl⟩ := yy_up hE hT
  have hD : 0 < yy_D w m n E T := Nat.gcd_pos_of_pos_left _ (Nat.mul_pos hW hu)
  have h0 : 0 < (m j).toNat := by omega
  have key : 0 < (m j).toNat * (if w j = true then yy_u E T else yy_l E T) / yy_D w m n E T := by
    by_cases q : w j = true
    · rw [if_pos q]
      exact Nat.div_pos (Nat.le_of_dvd (Nat.mul_pos h0 hu) (Nat.dvd_trans (Nat.gcd_dvd_left _ _) (Nat.mul_dvd_mul_right (yy_g_dvd n j hj q) _))) hD
    · rw [if_neg q]
      have q2 : w j = false := by
        cases h : w j
        · rfl
        · exact absurd h q
      exact Nat.div_pos (Nat.le_of_dvd (Nat.mul_pos h0 hl) (Nat.dvd_trans (Nat.gcd_dvd_right _ _) (Nat.mul_dvd_mul_right (yy_g_dvd n j hj q2) _))) hD
  unfold yy_nm
  omega
noncomputable def yy_m1 (m : Nat → Int) (n : Nat) : Prop := ∀ j : Nat, j < n → 1 ≤ m j ∧ m j ≤ 1099511627776
theorem yy_m1b {m : Nat → Int} {n : Nat} (h : yy_m1 m n) : yy_mb m n := fun j hj => ⟨by have := (h j hj).1; omega, (h j hj).2⟩
theorem yy_m1_c {m m' : Nat → Int} {n : Nat} (h : yy_m1 m n) (he : ∀ j : Nat, j < n → m' j = m j) : yy_m1 m' n := fun j hj => by
  rw [he j hj]
  exact h j hj
theorem yy_rd_m {px py pc : Nat → Int} {n : Nat} {s : yy_S} (h : yy_m1 s.2.2.2.2.2.2.2 n) : yy_m1 (yy_rd px py pc n s).2.2.2.2.2.2.2 n := by
  have hv := yy_c_v (px := px) (py := py) (pc := pc) (yy_m1b h)
  unfold yy_rd yy_r1
  split
  · exact h
  · rename_i hE0
    split
    · exact h
    · rename_i hT
      split
      · rename_i hf
        have hb := yy_ws_b (px := px) (py := py) (pc := pc) (m := s.2.2.2.2.2.2.2) (ax := yy_ax (yy_c px py pc s.2.2.2.2.2.2.2 n).2) (at_ := yy_at (yy_c px py pc s.2.2.2.2.2.2.2 n).2) (sg := yy_sg (yy_c px py pc s.2.2.2.2.2.2.2 n).2) n (yy_m1b h)
        rw [← hv] at hb
        obtain ⟨hW, hR⟩ := yy_W0 (px := px) (py := py) (pc := pc) (m := s.2.2.2.2.2.2.2) (a := yy_ax (yy_c px py pc s.2.2.2.2.2.2.2 n).2) (t := yy_at (yy_c px py pc s.2.2.2.2.2.2.2 n).2) (s := yy_sg (yy_c px py pc s.2.2.2.2.2.2.2 n).2) (yy_m1b h) (by rw [← hv]; omega) (by rw [← hv]; omega)
        intro j hj
        show 1 ≤ yy_cut n _ j ∧ yy_cut n _ j ≤ 1099511627776
        unfold yy_cut
        rw [if_pos hj]
        exact ⟨yy_nm_p (by omega) (by omega) hj (h j hj).1 hW hR, yy_ft_t n hf j hj⟩
      · exact h
theorem yy_run_m {px py pc pw : Nat → Int} {n : Nat} (h : ∀ j : Nat, j < n → 1 ≤ pw j ∧ pw j ≤ 1000) : ∀ k : Nat, yy_m1 (yy_run px py pc pw n k).2.2.2.2.2.2.2 n
  | 0 => fun j hj => by
    have := h j hj
    show 1 ≤ yy_cut n pw j ∧ yy_cut n pw j ≤ 1099511627776
    unfold yy_cut
    rw [if_pos hj]
    omega
  | k + 1 => by
    show yy_m1 (if (yy_run px py pc pw n k).2.1 = 0 then yy_rd px py pc n (yy_run px py pc pw n k) else yy_run px py pc pw n k).2.2.2.2.2.2.2 n
    split
    · exact yy_rd_m (yy_run_m h k)
    · exact yy_run_m h k
theorem yy_run_k {px py pc pw : Nat → Int} {n : Nat} : ∀ k : Nat, 0 ≤ (yy_run px py pc pw n k).1 ∧ (yy_run px py pc pw n k).1 ≤ (k : Int)
  | 0 => ⟨Int.le_refl 0, Int.le_refl 0⟩
  | k + 1 => by
    have ih := yy_run_k (px := px) (py := py) (pc := pc) (pw := pw) (n := n) k
    show 0 ≤ (if (yy_run px py pc pw n k).2.1 = 0 then yy_rd px py pc n (yy_run px py pc pw n k) else yy_run px py pc pw n k).1 ∧ (if (yy_run px py pc pw n k).2.1 = 0 then yy_rd px py pc n (yy_run px py pc pw n k) else yy_run px py pc pw n k).1 ≤ ((k + 1 : Nat) : Int)
    split
    · unfold yy_rd yy_r1
      split
      · show 0 ≤ (0 : Int) + 1 ∧ (0 : Int) + 1 ≤ _
        omega
      · split
        · show 0 ≤ (yy_run px py pc pw n k).1 ∧ (yy_run px py pc pw n k).1 ≤ _
          omega
        · split
          · show 0 ≤ (yy_run px py pc pw n k).1 + 1 ∧ (yy_run px py pc pw n k).1 + 1 ≤ _
            omega
          · show 0 ≤ (yy_run px py pc pw n k).1 + 1 ∧ (yy_run px py pc pw n k).1 + 1 ≤ _
            omega
    · omega
/-! a round, as rows show it -/
theorem yy_rde {px py pc : Nat → Int} {n : Nat} {s : yy_S} {kept en : Int} {ax at_ sg wr wh m : Nat → Int} (hr : yy_rep kept en ax at_ sg wr wh m n s) : yy_rd px py pc n s = yy_r1 px py pc n s s.2.2.2.2.2.2.2 (yy_c px py pc m n).1 (yq_tot m n) (yy_c px py pc m n).2 := by
  have h := hr.2.2.2
  unfold yy_rd
  rw [yy_c_eq (px := px) (py := py) (pc := pc) (fun _ _ => rfl) (fun _ _ => rfl) (fun _ _ => rfl) (fun j hj => (h j hj).symm), yy_tot_eq n (fun j hj => (h j hj).symm)]
theorem yy_rd1 {px py pc : Nat → Int} {n : Nat} {s : yy_S} {kept en k' e' : Int} {ax at_ sg wr wh m ax' at' sg' wr' wh' m' : Nat → Int} (hr : yy_rep kept en ax at_ sg wr wh m n s) (hE : (yy_c px py pc m n).1 = 0) (hk : k' = 1) (he : e' = 1) (h0 : ax' 0 = yy_ax (yy_c px py pc m n).2 ∧ at' 0 = yy_at (yy_c px py pc m n).2 ∧ sg' 0 = yy_sg (yy_c px py pc m n).2 ∧ wr' 0 = 0 ∧ wh' 0 = yq_tot m n) (hm : ∀ j : Nat, j < n → m' j = m j) : yy_rep k' e' ax' at' sg' wr' wh' m' n (yy_rd px py pc n s) := by
  rw [yy_rde hr]
  generalize yy_c px py pc m n = cc at *
  unfold yy_r1
  rw [if_pos hE]
  refine ⟨hk, he, fun k hk2 => ?_, fun j hj => ?_⟩
  · have hk0 : k = 0 := by omega
    subst hk0
    have e : ∀ (f : Nat → Int) (z : Int), yq_set f (0 : Int).toNat z 0 = z := fun _ _ => if_pos rfl
    show ax' 0 = yq_set s.2.2.1 (0 : Int).toNat (yy_ax cc.2) 0 ∧ at' 0 = yq_set s.2.2.2.1 (0 : Int).toNat (yy_at cc.2) 0 ∧ sg' 0 = yq_set s.2.2.2.2.1 (0 : Int).toNat (yy_sg cc.2) 0 ∧ wr' 0 = yq_set s.2.2.2.2.2.1 (0 : Int).toNat cc.1 0 ∧ wh' 0 = yq_set s.2.2.2.2.2.2.1 (0 : Int).toNat (yq_tot m n) 0
    rw [e, e, e, e, e]
    exact ⟨h0.1, h0.2.1, h0.2.2.1, h0.2.2.2.1.trans hE.symm, h0.2.2.2.2⟩
  · exact (hm j hj).trans (hr.2.2.2 j hj)
theorem yy_rd2 {px py pc : Nat → Int} {n : Nat} {s : yy_S} {kept en k' e' : Int} {ax at_ sg wr wh m ax' at' sg' wr' wh' m' : Nat → Int} (hr : yy_rep kept en ax at_ sg wr wh m n s) (hE : (yy_c px py pc m n).1 ≠ 0) (hT : yq_tot m n ≤ 2 * (yy_c px py pc m n).1) (hk : k' = kept) (he : e' = 2) (ho : ∀ k : Nat, (k : Int) < kept → ax' k = ax k ∧ at' k = at_ k ∧ sg' k = sg k ∧ wr' k = wr k ∧ wh' k = wh k) (hm : ∀ j : Nat, j < n → m' j = m j) : yy_rep k' e' ax' at' sg' wr' wh' m' n (yy_rd px py pc n s) := by
  rw [yy_rde hr]
  unfold yy_r1
  rw [if_neg hE, if_pos hT]
  refine ⟨hk.trans hr.1, he, fun k hk2 => ?_, fun j hj => ?_⟩
  · have h1 := hr.2.2.1 k (by omega)
    have h2 := ho k (by omega)
    exact ⟨h2.1.trans h1.1, h2.2.1.trans h1.2.1, h2.2.2.1.trans h1.2.2.1, h2.2.2.2.1.trans h1.2.2.2.1, h2.2.2.2.2.trans h1.2.2.2.2⟩
  · exact (hm j hj).trans (hr.2.2.2 j hj)
theorem yy_set_o {f : Nat → Int} {k i : Nat} {z : Int} (h : k ≠ i) : yq_set f i z k = f k := if_neg h
theorem yy_kpr {s : yy_S} {kept en k' e' E T : Int} {n q : Nat} {ax at_ sg wr wh m ax' at' sg' wr' wh' m' M : Nat → Int} (hr : yy_rep kept en ax at_ sg wr wh m n s) (h0 : 0 ≤ kept) (hk : k' = kept + 1) (ho : ∀ k : Nat, (k : Int) < kept → ax' k = ax k ∧ at' k = at_ k ∧ sg' k = sg k ∧ wr' k = wr k ∧ wh' k = wh k) (hn : ax' kept.toNat = yy_ax q ∧ at' kept.toNat = yy_at q ∧ sg' kept.toNat = yy_sg q ∧ wr' kept.toNat = E ∧ wh' kept.toNat = T) (hm : ∀ j : Nat, j < n → m' j = M j) : yy_rep k' e' ax' at' sg' wr' wh' m' n (yy_kp s.1 e' s q E T M) := by
  have e1 := hr.1
  refine ⟨by rw [hk, e1]; rfl, rfl, fun k hk2 => ?_, hm⟩
  by_cases hq : k = kept.toNat
  · rw [e1] at hq hn
    rw [hq]
    exact ⟨hn.1.trans (if_pos rfl).symm, hn.2.1.trans (if_pos rfl).symm, hn.2.2.1.trans (if_pos rfl).symm, hn.2.2.2.1.trans (if_pos rfl).symm, hn.2.2.2.2.trans (if_pos rfl).symm⟩
  · have h1 := hr.2.2.1 k (by omega)
    have h2 := ho k (by omega)
    rw [e1] at hq
    exact ⟨(h2.1.trans h1.1).trans (if_neg hq).symm, (h2.2.1.trans h1.2.1).trans (if_neg hq).symm, (h2.2.2.1.trans h1.2.2.1).trans (if_neg hq).symm, (h2.2.2.2.1.trans h1.2.2.2.1).trans (if_neg hq).symm, (h2.2.2.2.2.trans h1.2.2.2.2).trans (if_neg hq).symm⟩
theorem yy_rd3 {px py pc : Nat → Int} {n : Nat} {s : yy_S} {kept en k' e' : Int} {ax at_ sg wr wh m ax' at' sg' wr' wh' m' : Nat → Int} (hr : yy_rep kept en ax at_ sg wr wh m n s) (hE : (yy_c px py pc m n).1 ≠ 0) (hT : ¬ yq_tot m n ≤ 2 * (yy_c px py pc m n).1) (h0 : 0 ≤ kept) (hk : k' = kept + 1) (ho : ∀ k : Nat, (k : Int) < kept → ax' k = ax k ∧ at' k = at_ k ∧ sg' k = sg k ∧ wr' k = wr k ∧ wh' k = wh k) (hn : ax' kept.toNat = yy_ax (yy_c px py pc m n).2 ∧ at' kept.toNat = yy_at (yy_c px py pc m n).2 ∧ sg' kept.toNat = yy_sg (yy_c px py pc m n).2 ∧ wr' kept.toNat = (yy_c px py pc m n).1 ∧ wh' kept.toNat = yq_tot m n) (hf : (e' = 0 ∧ yy_ft (yy_nm (yy_W px py pc (yy_c px py pc m n).2) m n (yy_c px py pc m n).1 (yq_tot m n)) n = true ∧ ∀ j : Nat, j < n → m' j = yy_nm (yy_W px py pc (yy_c px py pc m n).2) m n (yy_c px py pc m n).1 (yq_tot m n) j) ∨ (e' = 3 ∧ yy_ft (yy_nm (yy_W px py pc (yy_c px py pc m n).2) m n (yy_c px py pc m n).1 (yq_tot m n)) n = false ∧ ∀ j : Nat, j < n → m' j = m j)) : yy_rep k' e' ax' at' sg' wr' wh' m' n (yy_rd px py pc n s) := by
  rw [yy_rde hr]
  have hs := hr.2.2.2
  have hnm : ∀ j : Nat, j < n → yy_nm (yy_W px py pc (yy_c px py pc m n).2) s.2.2.2.2.2.2.2 n (yy_c px py pc m n).1 (yq_tot m n) j = yy_nm (yy_W px py pc (yy_c px py pc m n).2) m n (yy_c px py pc m n).1 (yq_tot m n) j := fun j hj => yy_nm_eq (fun _ _ => rfl) (fun i hi => (hs i hi).symm) hj
  unfold yy_r1
  rw [if_neg hE, if_neg hT, yy_ft_eq n hnm]
  rcases hf with ⟨q1, q2, q3⟩ | ⟨q1, q2, q3⟩
  · rw [if_pos q2]
    subst q1
    refine yy_kpr hr h0 hk ho hn (fun j hj => ?_)
    unfold yy_cut
    rw [if_pos hj, hnm j hj]
    exact q3 j hj
  · rw [if_neg (by rw [q2]; decide)]
    subst q1
    exact yy_kpr hr h0 hk ho hn (fun j hj => (q3 j hj).trans (hs j hj))
/-! sums and differences of longs that do not go round -/
theorem yy_bm {z : Int} (h0 : -4611686018427387904 ≤ z) (h1 : z ≤ 4611686018427387904) : z.bmod Int64.size = z := Int.bmod_eq_of_le (by rw [show ((Int64.size : Nat) : Int) = 18446744073709551616 from rfl]; omega) (by rw [show ((Int64.size : Nat) : Int) = 18446744073709551616 from rfl]; omega)
theorem yy_fle {b f : Nat} {M : Int} (hb : 0 < b) (hM : M = 1099511627776) : ((f : Int) ≤ M.tdiv (b : Int)) ↔ (((b * f : Nat) : Int) ≤ 1099511627776) := by
  rw [hM, yy_td (by decide) (by omega)]
  have h := Nat.le_div_iff_mul_le (x := f) (y := 1099511627776) hb
  rw [show ((b : Int)).toNat = b from rfl, show (1099511627776 : Int).toNat = 1099511627776 from rfl, show b * f = f * b from Nat.mul_comm b f]
  omega
noncomputable def yy_mx (n : Nat) : Int := if n = 0 then 1 else (n : Int)
theorem yy_mxp {n : Nat} (h : 0 < n) : yy_mx n = (n : Int) := if_neg (by omega)
theorem yy_mx_p (n : Nat) : 1 ≤ yy_mx n := by
  unfold yy_mx
  split <;> omega
theorem yy_e0 {A B : Nat} (hA : A < 2 ^ 63) (hB : B < 2 ^ 63) : A * B * 2 ^ 0 < 2 ^ 126 := by
  have h : A * B ≤ (2 ^ 63 - 1) * (2 ^ 63 - 1) := Nat.mul_le_mul (by omega) (by omega)
  have h2 : (2 ^ 63 - 1) * (2 ^ 63 - 1) < 2 ^ 126 := by decide
  rw [Nat.pow_zero, Nat.mul_one]
  omega
theorem yy_i9 {z : Int} {n : Nat} (h : z = (n : Int)) : z.toNat = n := by omega
theorem yy_ft_i {f : Nat → Int} : ∀ n : Nat, (∀ j : Nat, j < n → f j ≤ 1099511627776) → yy_ft f n = true
  | 0, _ => rfl
  | n + 1, h => by
    show (yy_ft f n && decide (f n ≤ 1099511627776)) = true
    rw [yy_ft_i n (fun j hj => h j (by omega)), decide_eq_true (h n (by omega))]
    rfl
theorem yy_fp1 {a b : Nat} (h : 1 ≤ ((a * b : Nat) : Int)) : 1 ≤ (a : Int) := by
  have h2 : a ≠ 0 := fun z => by
    rw [z, Nat.zero_mul] at h
    omega
  omega
theorem yy_set2 {f : Nat → Int} {k : Nat} {a b : Int} : yq_set (yq_set f k a) k b = yq_set f k b := funext fun j => by
  unfold yq_set
  split
  · rfl
  · rfl
theorem yy_sc_p {f : Nat → Int} {z : Int} {Q : Nat} (h : f Q < (yy_sc f z Q).1) : yy_sc f z (Q + 1) = (f Q, Q) := if_pos h
theorem yy_sc_n {f : Nat → Int} {z : Int} {Q : Nat} (h : ¬ f Q < (yy_sc f z Q).1) : yy_sc f z (Q + 1) = yy_sc f z Q := if_neg h
theorem yy_fq {px py pc m : Nat → Int} {n : Nat} {a t s : Int} {Q : Nat} (hQ : Q = (1204 * a + 2 * (t + 301) + s).toNat) (h0 : 0 ≤ a) (h1 : -301 ≤ t) (h2 : t ≤ 300) (h3 : 0 ≤ s) (h4 : s ≤ 1) : yy_f px py pc m n Q = yq_ws px py pc m a t s n ∧ yy_ax Q = a ∧ yy_at Q = t ∧ yy_sg Q = s := by
  have e1 : yy_ax Q = a := by unfold yy_ax; omega
  have e2 : yy_at Q = t := by unfold yy_at; omega
  have e3 : yy_sg Q = s := by unfold yy_sg; omega
  refine ⟨?_, e1, e2, e3⟩
  unfold yy_f
  rw [e1, e2, e3]
noncomputable def yy_st (k w n : Int) (a b c d e : Nat → Int) : Int := if (0 ≤ k ∧ k < n) ∧ (0 ≤ w ∧ w ≤ 4) then (if w = 0 then a k.toNat else if w = 1 then b k.toNat else if w = 2 then c k.toNat else if w = 3 then d k.toNat else e k.toNat) else -1000000
theorem yy_st_eq {k w n : Int} {a b c d e A B C D E : Nat → Int} (h : ∀ j : Nat, (j : Int) < n → a j = A j ∧ b j = B j ∧ c j = C j ∧ d j = D j ∧ e j = E j) : yy_st k w n a b c d e = yy_st k w n A B C D E := by
  unfold yy_st
  by_cases q : (0 ≤ k ∧ k < n) ∧ (0 ≤ w ∧ w ≤ 4)
  · obtain ⟨h1, h2, h3, h4, h5⟩ := h k.toNat (by omega)
    rw [if_pos q, if_pos q, h1, h2, h3, h4, h5]
  · rw [if_neg q, if_neg q]
noncomputable def yy_ma (i n : Int) (m : Nat → Int) : Int := if 0 ≤ i ∧ i < n then m i.toNat else -1
theorem yy_ma_eq {i n : Int} {m M : Nat → Int} (h : ∀ j : Nat, (j : Int) < n → m j = M j) : yy_ma i n m = yy_ma i n M := by
  unfold yy_ma
  by_cases q : 0 ≤ i ∧ i < n
  · rw [if_pos q, if_pos q, h i.toNat (by omega)]
  · rw [if_neg q, if_neg q]
theorem yy_two {k e k2 e2 : Int} {ax at_ sg wr wh m ax' at' sg' wr' wh' m' : Nat → Int} {n : Nat} {s : yy_S} (h1 : yy_rep k e ax at_ sg wr wh m n s) (h2 : yy_rep k2 e2 ax' at' sg' wr' wh' m' n s) : k = k2 ∧ e = e2 ∧ (∀ j : Nat, (j : Int) < k → ax j = ax' j ∧ at_ j = at' j ∧ sg j = sg' j ∧ wr j = wr' j ∧ wh j = wh' j) ∧ (∀ j : Nat, j < n → m j = m' j) := by
  have hk : k = k2 := h1.1.trans h2.1.symm
  refine ⟨hk, h1.2.1.trans h2.2.1.symm, fun j hj => ?_, fun j hj => (h1.2.2.2 j hj).trans (h2.2.2.2 j hj).symm⟩
  have a := h1.2.2.1 j hj
  have b := h2.2.2.1 j (by omega)
  exact ⟨a.1.trans b.1.symm, a.2.1.trans b.2.1.symm, a.2.2.1.trans b.2.2.1.symm, a.2.2.2.1.trans b.2.2.2.1.symm, a.2.2.2.2.trans b.2.2.2.2.symm⟩
theorem yy_adY {x y c n n' : Int} {f : Nat → Int} (hn : 0 ≤ n) (h : ∀ j : Nat, (j : Int) < n → 1 ≤ f j) (hn' : n' = yq_ptm x y c n) : ∀ j : Nat, (j : Int) < n' → 1 ≤ yq_ad x y c n f 1 j := by
  intro j hj
  rw [hn'] at hj
  unfold yq_ptm at hj
  unfold yq_ad
  by_cases q : -300 ≤ x ∧ x ≤ 300 ∧ -300 ≤ y ∧ y ≤ 300 ∧ 0 ≤ c ∧ c ≤ 1
  · rw [if_pos q] at hj
    by_cases q2 : 40 ≤ n
    · rw [if_pos q2] at hj
      rw [if_neg (fun z => absurd z.2 (by omega))]
      exact h j hj
    · rw [if_neg q2] at hj
      rw [if_pos ⟨q, by omega⟩]
      unfold yq_set
      by_cases q3 : j = n.toNat
      · rw [if_pos q3]
        exact Int.le_refl 1
      · rw [if_neg q3]
        exact h j (by omega)
  · rw [if_neg q] at hj
    rw [if_neg (fun z => q z.1)]
    exact h j hj
theorem yy_dpY {i n n' : Int} {f : Nat → Int} (h : ∀ j : Nat, (j : Int) < n → 1 ≤ f j) (hn' : n' = yq_drm i n) : ∀ j : Nat, (j : Int) < n' → 1 ≤ yq_dp i n f j := by
  intro j hj
  rw [hn'] at hj
  unfold yq_drm at hj
  unfold yq_dp
  by_cases q : 0 ≤ i ∧ i < n
  · rw [if_pos q] at hj
    rw [if_pos q]
    unfold yq_sf
    by_cases q2 : i ≤ (j : Int) ∧ (j : Int) < n - 1
    · rw [if_pos q2]
      exact h (j + 1) (by omega)
    · rw [if_neg q2]
      exact h j (by omega)
  · rw [if_neg q] at hj
    rw [if_neg q]
    exact h j hj
theorem yy_pnY {i c w n : Int} {f : Nat → Int} (h : ∀ j : Nat, (j : Int) < n → 1 ≤ f j) : ∀ j : Nat, (j : Int) < n → 1 ≤ yq_pn i c w n f w j := by
  intro j hj
  unfold yq_pn
  by_cases q : (0 ≤ i ∧ i < n) ∧ (0 ≤ c ∧ c ≤ 1) ∧ (1 ≤ w ∧ w ≤ 1000)
  · rw [if_pos q]
    unfold yq_set
    by_cases q3 : j = i.toNat
    · rw [if_pos q3]
      exact q.2.2.1
    · rw [if_neg q3]
      exact h j hj
  · rw [if_neg q]
    exact h j hj
theorem yy_apY {a n : Int} {f : Nat → Int} (h : ∀ j : Nat, (j : Int) < n → 1 ≤ f j) : ∀ j : Nat, (j : Int) < a → 1 ≤ yq_ap a n (yq_ct 1) f j := by
  intro j hj
  unfold yq_ap
  by_cases q : n ≤ (j : Int) ∧ (j : Int) < a
  · rw [if_pos q]
    exact Int.le_refl 1
  · rw [if_neg q]
    exact h j (by omega)
theorem yy_kpY {k i n q : Int} {x K : Nat → Int} (hx : ∀ j : Nat, (j : Int) < n → 1 ≤ x j) (hK : ∀ j : Nat, (j : Int) < q → 1 ≤ K j) : ∀ j : Nat, (j : Int) < yq_kp k i n q → 1 ≤ yq_kp k i (x j) (K j) := by
  intro j hj
  unfold yq_kp at hj
  unfold yq_kp
  by_cases c : k = i
  · rw [if_pos c] at hj
    rw [if_pos c]
    exact hx j hj
  · rw [if_neg c] at hj
    rw [if_neg c]
    exact hK j hj
theorem yy_pkY {t : Nat → Int} {k n a b c : Int} {x A B D : Nat → Int} (hx : ∀ j : Nat, (j : Int) < n → 1 ≤ x j) (hA : ∀ j : Nat, (j : Int) < a → 1 ≤ A j) (hB : ∀ j : Nat, (j : Int) < b → 1 ≤ B j) (hD : ∀ j : Nat, (j : Int) < c → 1 ≤ D j) : ∀ j : Nat, (j : Int) < yq_pk t k n a b c → 1 ≤ yq_pk t k (x j) (A j) (B j) (D j) := by
  intro j hj
  unfold yq_pk at hj
  unfold yq_pk
  by_cases q : 0 ≤ k ∧ k ≤ 2
  · rw [if_pos q] at hj
    rw [if_pos q]
    by_cases q2 : t k.toNat = 0
    · rw [if_pos q2] at hj
      rw [if_pos q2]
      exact hx j hj
    · rw [if_neg q2] at hj
      rw [if_neg q2]
      by_cases k0 : k = 0
      · rw [if_pos k0] at hj
        rw [if_pos k0]
        exact hA j hj
      · rw [if_neg k0] at hj
        rw [if_neg k0]
        by_cases k1 : k = 1
        · rw [if_pos k1] at hj
          rw [if_pos k1]
          exact hB j hj
        · rw [if_neg k1] at hj
          rw [if_neg k1]
          exact hD j hj
  · rw [if_neg q] at hj
    rw [if_neg q]
    exact hx j hj
