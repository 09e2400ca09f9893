/-! numbers that go round; what is kept of the way is of now -/
noncomputable def ye_wr (c k : Int) : Int := (Int32.ofInt (c + k)).toInt
theorem ye_w1 {n c : Int} (h1 : -2147483648 ≤ n) (h2 : n ≤ 2147483647) (h : Int32.ofInt n = Int32.ofInt c + Int32.ofInt 1) : n = ye_wr c 1 := by
  unfold ye_wr
  rw [Int32.ofInt_add, ← h, Int32.toInt_ofInt_of_le (by omega) (by omega)]
theorem ye_w0 {c : Int} (h1 : -2147483648 ≤ c) (h2 : c ≤ 2147483647) : ye_wr c 0 = c := by
  unfold ye_wr
  rw [Int.add_zero, Int32.toInt_ofInt_of_le (by omega) (by omega)]
theorem ye_wt (c a b : Int) : ye_wr (ye_wr c a) b = ye_wr c (a + b) := by
  unfold ye_wr
  rw [Int32.ofInt_add, Int32.ofInt_toInt, ← Int32.ofInt_add, Int.add_assoc]
theorem ye_wu {c k : Int} (h1 : 0 ≤ c) (h2 : 0 ≤ k) (h3 : c + k ≤ 2147483647) : ye_wr c k = c + k := by
  unfold ye_wr
  exact Int32.toInt_ofInt_of_le (by omega) (by omega)
theorem ye_d_eq {x y X Y : Nat → Int} {A B : Int} {j : Nat} (hx : x j = X j) (hy : y j = Y j) : ye_d x y A B j = ye_d X Y A B j := by
  unfold ye_d
  rw [hx, hy]
theorem ye_lo_eq {x y c X Y C : Nat → Int} {A B s : Int} : ∀ n : Nat, (∀ j : Nat, j < n → x j = X j) → (∀ j : Nat, j < n → y j = Y j) → (∀ j : Nat, j < n → c j = C j) → ye_lo x y c A B s n = ye_lo X Y C A B s n
  | 0, _, _, _ => rfl
  | n + 1, hx, hy, hc => by
    show (if c n = 1 then (if ye_d x y A B n < ye_lo x y c A B s n then ye_d x y A B n else ye_lo x y c A B s n) else ye_lo x y c A B s n) = (if C n = 1 then (if ye_d X Y A B n < ye_lo X Y C A B s n then ye_d X Y A B n else ye_lo X Y C A B s n) else ye_lo X Y C A B s n)
    rw [ye_lo_eq n (fun j hj => hx j (by omega)) (fun j hj => hy j (by omega)) (fun j hj => hc j (by omega)), hc n (by omega), ye_d_eq (hx n (by omega)) (hy n (by omega))]
theorem ye_hi_eq {x y c X Y C : Nat → Int} {A B s : Int} : ∀ n : Nat, (∀ j : Nat, j < n → x j = X j) → (∀ j : Nat, j < n → y j = Y j) → (∀ j : Nat, j < n → c j = C j) → ye_hi x y c A B s n = ye_hi X Y C A B s n
  | 0, _, _, _ => rfl
  | n + 1, hx, hy, hc => by
    show (if c n = 1 then ye_hi x y c A B s n else (if ye_hi x y c A B s n < ye_d x y A B n then ye_d x y A B n else ye_hi x y c A B s n)) = (if C n = 1 then ye_hi X Y C A B s n else (if ye_hi X Y C A B s n < ye_d X Y A B n then ye_d X Y A B n else ye_hi X Y C A B s n))
    rw [ye_hi_eq n (fun j hj => hx j (by omega)) (fun j hj => hy j (by omega)) (fun j hj => hc j (by omega)), hc n (by omega), ye_d_eq (hx n (by omega)) (hy n (by omega))]
theorem ye_cnt_eq {c C : Nat → Int} {z : Int} : ∀ n : Nat, (∀ j : Nat, j < n → c j = C j) → yq_cnt c z n = yq_cnt C z n
  | 0, _ => rfl
  | n + 1, h => by
    show (yq_cnt c z n + if c n = z then 1 else 0) = (yq_cnt C z n + if C n = z then 1 else 0)
    rw [ye_cnt_eq n (fun j hj => h j (by omega)), h n (by omega)]
theorem ye_way_c {x y c X Y C : Nat → Int} {n : Nat} {t : ye_T} (hx : ∀ j : Nat, j < n → x j = X j) (hy : ∀ j : Nat, j < n → y j = Y j) (hc : ∀ j : Nat, j < n → c j = C j) (h : ye_way x y c n t) : ye_way X Y C n t := by
  have eL : ∀ A B, ye_L x y c A B n = ye_L X Y C A B n := fun A B => ye_lo_eq n hx hy hc
  have eU : ∀ A B, ye_U x y c A B n = ye_U X Y C A B n := fun A B => ye_hi_eq n hx hy hc
  have eb : ye_bo C n → ye_bo c n := fun b => by
    unfold ye_bo
    rw [ye_cnt_eq n hc]
    exact b
  refine ⟨fun b => h.1 (fun z => b ?_), fun b => ?_⟩
  · unfold ye_bo at z ⊢
    rw [← ye_cnt_eq n hc]
    exact z
  · obtain ⟨h1, h2⟩ := h.2 (eb b)
    refine ⟨?_, fun p q A B g1 g2 g3 g4 => ?_⟩
    · unfold ye_ok at h1 ⊢
      rw [← eL, ← eU]
      exact h1
    · have k := h2 p q A B g1 g2 g3 (by
        unfold ye_tp at g4 ⊢
        rw [hx p (by omega), hx q g2, hy p (by omega), hy q g2, hc p (by omega), hc q g2]
        exact g4)
      unfold ye_nb at k ⊢
      rw [← eL, ← eU]
      exact k
/-- the kept way, seen from the count of changes -/
noncomputable def ye_ky (x y c : Nat → Int) (n : Nat) (ch s : Int) (t : ye_T) : Prop := s < ch ∨ (s = ch ∧ ye_way x y c n t)
theorem ye_ky_n {x y c : Nat → Int} {n : Nat} {ch s ch' : Int} {t : ye_T} {x' y' c' : Nat → Int} {n' : Nat} (h : ye_ky x y c n ch s t) (hc : ch < ch') : ye_ky x' y' c' n' ch' s t := Or.inl (by rcases h with h | h <;> omega)
theorem ye_ky_c {x y c X Y C : Nat → Int} {n n' : Nat} {ch ch' s : Int} {t : ye_T} (h : ye_ky x y c n ch s t) (hn : n' = n) (hc : ch' = ch) (hx : ∀ j : Nat, j < n → x j = X j) (hy : ∀ j : Nat, j < n → y j = Y j) (hC : ∀ j : Nat, j < n → c j = C j) : ye_ky X Y C n' ch' s t := by
  rw [hn, hc]
  rcases h with h | ⟨h1, h2⟩
  · exact Or.inl h
  · exact Or.inr ⟨h1, ye_way_c hx hy hC h2⟩
theorem ye_ky_f {x y c : Nat → Int} {n : Nat} {ch s s' : Int} {t t' : ye_T} (h : ye_ky x y c n ch s t) (hf : ye_fd x y c n ch s t s' t') : s' = ch ∧ ye_way x y c n t' := by
  refine ye_fd_w (fun e => ?_) hf
  rcases h with h | h
  · omega
  · exact h.2
/-- class and reference on parted -/
theorem ye_pu {x y c X Y C : Nat → Int} {n : Nat} {a b : Int} {t : ye_T} (hr : ye_nr x y c n) (hb : t.1 = 1 → (-600 ≤ t.2.1 ∧ t.2.1 ≤ 600) ∧ -600 ≤ t.2.2.1 ∧ t.2.2.1 ≤ 600) (hx : ∀ j : Nat, j < n → x j = X j) (hy : ∀ j : Nat, j < n → y j = Y j) (hc : ∀ j : Nat, j < n → c j = C j) (h1 : (¬ ye_bo c n ∧ a = 1) ∨ (ye_bo c n ∧ ye_way x y c n t ∧ a = t.1)) (h2 : (b = 1 ∧ ye_nm X Y (ye_Y C n) (ye_N C n)) ∨ (b = 0 ∧ ¬ ye_nm X Y (ye_Y C n) (ye_N C n))) : a = b := by
  have e := ye_YN (n := n) hc
  rw [← e.1, ← e.2] at h2
  have f1 : ye_nm x y (ye_Y c n) (ye_N c n) → ye_nm X Y (ye_Y c n) (ye_N c n) := ye_nm_c (fun j h => h.1) (fun j h => h.1) hx hy
  have f2 : ye_nm X Y (ye_Y c n) (ye_N c n) → ye_nm x y (ye_Y c n) (ye_N c n) := ye_nm_c (fun j h => h.1) (fun j h => h.1) (fun j h => (hx j h).symm) (fun j h => (hy j h).symm)
  rcases h1 with ⟨g1, g2⟩ | ⟨g1, g2, g3⟩
  · rcases h2 with ⟨k1, _⟩ | ⟨_, k2⟩
    · omega
    · exact absurd (f1 (ye_par0 g1)) k2
  · rcases ye_par1 hr hb g1 g2 with ⟨q1, q2⟩ | ⟨q1, q2⟩
    · rcases h2 with ⟨k1, _⟩ | ⟨_, k2⟩
      · omega
      · exact absurd (f1 q2) k2
    · rcases h2 with ⟨_, k2⟩ | ⟨k1, _⟩
      · exact absurd (f2 k2) q2
      · omega
