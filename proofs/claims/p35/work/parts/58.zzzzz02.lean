/-! the answer -/
def yf_S (x y c : Nat → Int) (n : Nat) : Prop := ∃ i j : Nat, i < n ∧ j < n ∧ c i = 1 ∧ c j = 0 ∧ x i = x j ∧ y i = y j
def yf_ls (cl : (Nat → Prop) → Prop) (m : Nat) (z : Int) : Prop := 0 ≤ z ∧ yf_cv cl z.toNat (fun i => i < m) ∧ ∀ k : Nat, yf_cv cl k (fun i => i < m) → z ≤ (k : Int)
theorem yf_ls_u {cl : (Nat → Prop) → Prop} {m : Nat} {a b : Int} (h1 : yf_ls cl m a) (h2 : yf_ls cl m b) : a = b := by
  have k1 := h1.2.2 _ h2.2.1
  have k2 := h2.2.2 _ h1.2.1
  have k3 := h1.1
  have k4 := h2.1
  omega
def yf_C (x y c : Nat → Int) (n : Nat) : (Nat → Prop) → Prop := yf_K x y c (fun k => (yf_ix c k n : Int)) n (yq_cnt c 1 n).toNat
def yf_bx (x y c : Nat → Int) (n : Nat) (z : Int) : Prop := (12 < yq_cnt c 1 n ∧ z = -5) ∨ (yq_cnt c 1 n ≤ 12 ∧ yf_S x y c n ∧ z = -6) ∨ (yq_cnt c 1 n ≤ 12 ∧ ¬ yf_S x y c n ∧ yf_ls (yf_C x y c n) (yq_cnt c 1 n).toNat z)
theorem yf_ix_e {c d : Nat → Int} {k : Int} : ∀ {n : Nat}, (∀ j, j < n → c j = d j) → yf_ix c k n = yf_ix d k n ∧ yq_cnt c 1 n = yq_cnt d 1 n
  | 0, _ => ⟨rfl, rfl⟩
  | n + 1, h => by
    obtain ⟨h1, h2⟩ := yf_ix_e (k := k) (n := n) (fun j hj => h j (by omega))
    have e : yf_ix c k (n + 1) = if c n = 1 ∧ yq_cnt c 1 n = k then n else yf_ix c k n := rfl
    have f : yf_ix d k (n + 1) = if d n = 1 ∧ yq_cnt d 1 n = k then n else yf_ix d k n := rfl
    have e2 : yq_cnt c 1 (n + 1) = yq_cnt c 1 n + if c n = 1 then 1 else 0 := rfl
    have f2 : yq_cnt d 1 (n + 1) = yq_cnt d 1 n + if d n = 1 then 1 else 0 := rfl
    rw [e, f, e2, f2, h n (by omega), h1, h2]
    exact ⟨rfl, rfl⟩
theorem yf_cv_e {cl cl' : (Nat → Prop) → Prop} (h : ∀ B, cl B → cl' B) : ∀ (k : Nat) (T : Nat → Prop), yf_cv cl k T → yf_cv cl' k T
  | 0, _, g => g
  | k + 1, _, ⟨B, g1, g2⟩ => ⟨B, h B g1, yf_cv_e h k _ g2⟩
theorem yf_ix_lt {c : Nat → Int} {k : Int} : ∀ {n : Nat}, 0 < n → yf_ix c k n < n
  | 0, h => absurd h (Nat.lt_irrefl 0)
  | n + 1, _ => by
    have e : yf_ix c k (n + 1) = if c n = 1 ∧ yq_cnt c 1 n = k then n else yf_ix c k n := rfl
    rw [e]
    split
    · omega
    · by_cases z : n = 0
      · rw [z]
        show 0 < 0 + 1
        decide
      · have := yf_ix_lt (c := c) (k := k) (n := n) (by omega)
        omega
theorem yf_C_i {x y c x' y' c' : Nat → Int} {n : Nat} (hx : ∀ j, j < n → x j = x' j) (hy : ∀ j, j < n → y j = y' j) (hc : ∀ j, j < n → c j = c' j) (B : Nat → Prop) (h : yf_C x y c n B) : yf_C x' y' c' n B := by
  unfold yf_C yf_K at h ⊢
  rw [← (yf_ix_e (k := 0) hc).2]
  have hn : ∀ k : Nat, k < (yq_cnt c 1 n).toNat → 0 < n := fun k hk => by
    have := yq_cnt_ub c 1 n
    omega
  refine yf_cl_t hx hy hc (fun k hk => ?_) (fun k hk => ?_) h
  · show x ((yf_ix c k n : Nat) : Int).toNat = x' ((yf_ix c' k n : Nat) : Int).toNat
    rw [Int.toNat_natCast, Int.toNat_natCast, ← (yf_ix_e (k := (k : Int)) hc).1]
    exact hx _ (yf_ix_lt (hn k hk))
  · show y ((yf_ix c k n : Nat) : Int).toNat = y' ((yf_ix c' k n : Nat) : Int).toNat
    rw [Int.toNat_natCast, Int.toNat_natCast, ← (yf_ix_e (k := (k : Int)) hc).1]
    exact hy _ (yf_ix_lt (hn k hk))
theorem yf_bx_u {x y c x' y' c' : Nat → Int} {n : Nat} {a b : Int} (hx : ∀ j, j < n → x j = x' j) (hy : ∀ j, j < n → y j = y' j) (hc : ∀ j, j < n → c j = c' j) (h1 : yf_bx x y c n a) (h2 : yf_bx x' y' c' n b) : a = b := by
  have ec : yq_cnt c 1 n = yq_cnt c' 1 n := (yf_ix_e (k := 0) hc).2
  have hS : yf_S x y c n → yf_S x' y' c' n := fun ⟨i, j, hi, hj, q1, q2, q3, q4⟩ => ⟨i, j, hi, hj, by rw [← hc i hi]; exact q1, by rw [← hc j hj]; exact q2, by rw [← hx i hi, ← hx j hj]; exact q3, by rw [← hy i hi, ← hy j hj]; exact q4⟩
  have hS2 : yf_S x' y' c' n → yf_S x y c n := fun ⟨i, j, hi, hj, q1, q2, q3, q4⟩ => ⟨i, j, hi, hj, by rw [hc i hi]; exact q1, by rw [hc j hj]; exact q2, by rw [hx i hi, hx j hj]; exact q3, by rw [hy i hi, hy j hj]; exact q4⟩
  rcases h1 with ⟨a1, a2⟩ | ⟨a1, a2, a3⟩ | ⟨a1, a2, a3⟩
  · rcases h2 with ⟨b1, b2⟩ | ⟨b1, b2, b3⟩ | ⟨b1, b2, b3⟩
    · rw [a2, b2]
    · exfalso; omega
    · exfalso; omega
  · rcases h2 with ⟨b1, b2⟩ | ⟨b1, b2, b3⟩ | ⟨b1, b2, b3⟩
    · exfalso; omega
    · rw [a3, b3]
    · exact absurd (hS a2) b2
  · rcases h2 with ⟨b1, b2⟩ | ⟨b1, b2, b3⟩ | ⟨b1, b2, b3⟩
    · exfalso; omega
    · exact absurd (hS2 b2) a2
    · refine yf_ls_u a3 (b := b) ?_
      rw [← ec] at b3
      obtain ⟨g1, g2, g3⟩ := b3
      have hr : ∀ B, yf_C x' y' c' n B → yf_C x y c n B := fun B => yf_C_i (fun j hj => (hx j hj).symm) (fun j hj => (hy j hj).symm) (fun j hj => (hc j hj).symm) B
      exact ⟨g1, yf_cv_e hr _ _ g2, fun k hk => g3 k (yf_cv_e (yf_C_i hx hy hc) k _ hk)⟩
