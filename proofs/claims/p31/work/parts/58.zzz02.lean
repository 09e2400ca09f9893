/-! sets of the first n, as numbers -/
theorem yw_tbe {p : Nat → Bool} {n u : Nat} (hu : u < 2 ^ n) (h : ∀ j : Nat, j < n → u.testBit j = p j) : u = yb_st p n := Nat.eq_of_testBit_eq fun i => by
  rw [yb_tb]
  by_cases q : i < n
  · rw [decide_eq_true q, Bool.true_and]
    exact h i q
  · rw [decide_eq_false q, Bool.false_and]
    exact Nat.testBit_lt_two_pow (Nat.lt_of_lt_of_le hu (Nat.pow_le_pow_right (by decide) (by omega)))
theorem yw_st_i {p q : Nat → Bool} {n : Nat} (h : yb_st p n = yb_st q n) : yw_eq n p q := fun j hj => by
  have k := congrArg (fun u => Nat.testBit u j) h
  have k : (yb_st p n).testBit j = (yb_st q n).testBit j := k
  rw [yb_tb, yb_tb, decide_eq_true hj, Bool.true_and, Bool.true_and] at k
  exact k
theorem yw_or2 (p q : Nat → Bool) (n : Nat) : yb_st p n ||| yb_st q n = yb_st (fun j => p j || q j) n := Nat.eq_of_testBit_eq fun i => by
  rw [Nat.testBit_or, yb_tb, yb_tb, yb_tb]
  cases decide (i < n) <;> cases p i <;> cases q i <;> rfl
theorem yw_orst {p q : Nat → Bool} {n : Nat} {x y z : Int} (hn : n ≤ 12) (ha : x = ((yb_st p n : Nat) : Int)) (hb : y = ((yb_st q n : Nat) : Int)) (hz0 : 0 ≤ z) (hz : z ≤ 4095) (h : Int32.ofInt z = Int32.ofInt x ||| Int32.ofInt y) : z = ((yb_st (fun j => p j || q j) n : Nat) : Int) := by
  have h2 := yb_ore ha hb (yb_lt hn) (yb_lt hn) hz0 hz h
  rw [yw_or2] at h2
  exact h2
theorem yw_not32 (a : Nat) : (Int32.ofInt (-1 - (a : Int))).toBitVec = ~~~ BitVec.ofNat 32 a := by
  rw [Int32.toBitVec_ofInt, show (-1 - (a : Int)) = Int.negSucc a by omega, BitVec.ofInt_negSucc_eq_not_ofNat]
theorem yw_cmp {p : Nat → Bool} {n : Nat} {x y z : Int} (hn : n ≤ 12) (ha : x = ((yb_st (fun _ => true) n : Nat) : Int)) (hb : y = -1 - ((yb_st p n : Nat) : Int)) (hz0 : 0 ≤ z) (hz : z ≤ 4095) (h : Int32.ofInt z = Int32.ofInt x &&& Int32.ofInt y) : z = ((yb_st (fun j => !p j) n : Nat) : Int) := by
  have hl := yb_lt (p := p) hn
  have hz1 : z.toNat < 2 ^ 12 := by omega
  have key : z.toNat = yb_st (fun j => !p j) n := by
    have e : (Int32.ofInt z).toBitVec = BitVec.ofNat 32 (yb_st (fun _ => true) n) &&& ~~~ BitVec.ofNat 32 (yb_st p n) := by
      rw [h, ha, hb, show (Int32.ofInt ((yb_st (fun _ => true) n : Nat) : Int) &&& Int32.ofInt (-1 - ((yb_st p n : Nat) : Int))).toBitVec = (Int32.ofInt ((yb_st (fun _ => true) n : Nat) : Int)).toBitVec &&& (Int32.ofInt (-1 - ((yb_st p n : Nat) : Int))).toBitVec from rfl, yw_not32, Int32.toBitVec_ofInt, BitVec.ofInt_natCast]
    have e2 : (Int32.ofInt z).toBitVec = BitVec.ofNat 32 z.toNat := by
      rw [show z = ((z.toNat : Nat) : Int) by omega, Int32.toBitVec_ofInt, BitVec.ofInt_natCast]
      rfl
    apply Nat.eq_of_testBit_eq
    intro i
    by_cases hi : i < 32
    · have k := congrArg (fun b => BitVec.getLsbD b i) (e2.symm.trans e)
      have k : (BitVec.ofNat 32 z.toNat).getLsbD i = (BitVec.ofNat 32 (yb_st (fun _ => true) n) &&& ~~~ BitVec.ofNat 32 (yb_st p n)).getLsbD i := k
      rw [BitVec.getLsbD_and, BitVec.getLsbD_not, BitVec.getLsbD_ofNat, BitVec.getLsbD_ofNat, BitVec.getLsbD_ofNat, decide_eq_true hi, Bool.true_and, Bool.true_and, Bool.true_and, Bool.true_and, yb_tb, yb_tb] at k
      rw [k, yb_tb]
      cases decide (i < n) <;> cases p i <;> rfl
    · rw [Nat.testBit_lt_two_pow (Nat.lt_of_lt_of_le hz1 (Nat.pow_le_pow_right (by decide) (by omega))), Nat.testBit_lt_two_pow (Nat.lt_of_lt_of_le (show yb_st (fun j => !p j) n < 2 ^ 12 from yb_lt hn) (Nat.pow_le_pow_right (by decide) (by omega)))]
  omega
/-- bits beyond the first n -/
theorem yw_fit {n s z r : Int} (h0 : 0 ≤ n) (h12 : n ≤ 12) (s0 : -2147483648 ≤ s) (s1 : s ≤ 2147483647) (z0 : 0 ≤ z) (z1 : z ≤ 4096) (r0 : -2147483648 ≤ r) (r1 : r ≤ 2147483647) (e1 : Int32.ofInt z = Int32.ofInt 1 <<< (Int32.ofInt n &&& 31)) (e2 : Int32.ofInt r = Int32.ofInt s &&& Int32.ofInt (-z)) : r = 0 ↔ (0 ≤ s ∧ s < ((2 ^ n.toNat : Nat) : Int)) := by
  have hz := yb_shl h0 h12 z0 z1 e1
  have hp := yb_p12 (j := n.toNat) (by omega)
  have hp1 : 1 ≤ 2 ^ n.toNat := Nat.one_le_two_pow
  have ez : -z = -1 - ((2 ^ n.toNat - 1 : Nat) : Int) := by omega
  obtain ⟨X, hX⟩ : ∃ X : BitVec 32, X = (Int32.ofInt s).toBitVec := ⟨_, rfl⟩
  have er : (Int32.ofInt r).toBitVec = X &&& ~~~ BitVec.ofNat 32 (2 ^ n.toNat - 1) := by
    rw [e2, ez, hX, ← yw_not32]
    rfl
  have hs : s = X.toInt := by
    rw [hX]
    exact (Int32.toInt_ofInt_of_le (by omega) (by omega)).symm
  have hr : r = 0 ↔ X &&& ~~~ BitVec.ofNat 32 (2 ^ n.toNat - 1) = 0#32 := by
    rw [← er]
    constructor
    · intro z
      rw [z]
      rfl
    · intro z
      have k := congrArg BitVec.toInt z
      have k : (Int32.ofInt r).toInt = 0 := k
      rw [Int32.toInt_ofInt_of_le (by omega) (by omega)] at k
      exact k
  have hX2 : X &&& ~~~ BitVec.ofNat 32 (2 ^ n.toNat - 1) = 0#32 ↔ X.toNat < 2 ^ n.toNat := by
    constructor
    · intro z
      apply Nat.lt_pow_two_of_testBit
      intro i hi
      by_cases h32 : i < 32
      · have k := congrArg (fun b => BitVec.getLsbD b i) z
        have k : (X &&& ~~~ BitVec.ofNat 32 (2 ^ n.toNat - 1)).getLsbD i = (0#32).getLsbD i := k
        rw [BitVec.getLsbD_and, BitVec.getLsbD_not, BitVec.getLsbD_ofNat, decide_eq_true h32, Bool.true_and, Bool.true_and, Nat.testBit_two_pow_sub_one, decide_eq_false (show ¬ i < n.toNat by omega), Bool.not_false, Bool.and_true] at k
        rw [BitVec.testBit_toNat, k]
        exact BitVec.getLsbD_zero
      · exact Nat.testBit_lt_two_pow (Nat.lt_of_lt_of_le X.isLt (Nat.pow_le_pow_right (by decide) (by omega)))
    · intro z
      apply BitVec.eq_of_getLsbD_eq
      intro i hi
      rw [BitVec.getLsbD_and, BitVec.getLsbD_not, BitVec.getLsbD_ofNat, Nat.testBit_two_pow_sub_one, BitVec.getLsbD_zero, decide_eq_true hi, Bool.true_and, Bool.true_and]
      by_cases q : i < n.toNat
      · rw [decide_eq_true q]
        cases X.getLsbD i <;> rfl
      · rw [← BitVec.testBit_toNat, Nat.testBit_lt_two_pow (Nat.lt_of_lt_of_le z (Nat.pow_le_pow_right (by decide) (by omega)))]
        rfl
  rw [hr, hX2]
  have hlt := X.isLt
  have hti : X.toInt = if 2 * X.toNat < 2 ^ 32 then (X.toNat : Int) else (X.toNat : Int) - ((2 ^ 32 : Nat) : Int) := BitVec.toInt_eq_toNat_cond X
  rw [hs, hti]
  split <;> omega
theorem yw_sh1 {z j : Int} (h0 : 0 ≤ j) (h1 : j ≤ 12) (z0 : -2147483648 ≤ z) (z1 : z ≤ 2147483647) (h : Int32.ofInt z = Int32.ofInt 1 <<< (Int32.ofInt j &&& 31)) : 0 ≤ z ∧ z ≤ 4096 := by
  have h2 := List.all_eq_true.mp yb_ck1_ok j.toNat (List.mem_range.mpr (by omega))
  have h3 := of_decide_eq_true h2
  rw [show ((j.toNat : Nat) : Int) = j by omega] at h3
  have h4 := yb_p12 (j := j.toNat) (by omega)
  have hn : 0 ≤ ((2 ^ j.toNat : Nat) : Int) := Int.natCast_nonneg _
  have h5 := yb_i32 (by omega) (by omega) (by omega) (by omega) (h.trans h3)
  omega
theorem yw_dor {A B : Prop} [Decidable A] [Decidable B] : decide (A ∨ B) = (decide A || decide B) := by
  by_cases h : A
  · rw [decide_eq_true h, decide_eq_true (Or.inl h)]
    rfl
  · by_cases h2 : B
    · rw [decide_eq_true h2, decide_eq_true (Or.inr h2), Bool.or_true]
    · rw [decide_eq_false h, decide_eq_false h2, decide_eq_false (fun z => z.elim h h2)]
      rfl
/-- the sets of the pairs before i, k -/
noncomputable def yw_P (x y : Nat → Int) (n i k : Nat) (p : Nat → Bool) : Prop := yw_eq n p (fun _ => false) ∨ yw_eq n p (fun _ => true) ∨ ∃ a b : Nat, a < n ∧ b < n ∧ (a < i ∨ (a = i ∧ b < k)) ∧ ¬ (x a = x b ∧ y a = y b) ∧ (yw_eq n p (yw_lb x y a b) ∨ yw_eq n p (fun j => !yw_lb x y a b j) ∨ yw_eq n p (yw_rb x y a b) ∨ yw_eq n p (fun j => !yw_rb x y a b j))
noncomputable def yw_M (x y : Nat → Int) (n i k : Nat) (m : Nat → Int) : Prop := ∀ s : Nat, s < 4096 → (yw_mk m s = true ↔ ∃ p : Nat → Bool, s = yb_st p n ∧ yw_P x y n i k p)
theorem yw_M0 {x y m m' : Nat → Int} {n : Nat} (h0 : ∀ s : Nat, s < 4096 → yw_mk m s = false) (h : ∀ s : Nat, s < 4096 → yw_mk m' s = (yw_mk m s || (decide (s = yb_st (fun _ => false) n) || decide (s = yb_st (fun j => !(fun _ => false) j) n)))) : yw_M x y n 0 0 m' := fun s hs => by
  rw [h s hs, h0 s hs, Bool.false_or, Bool.or_eq_true]
  constructor
  · intro z
    rcases z with z | z
    · exact ⟨_, of_decide_eq_true z, Or.inl fun _ _ => rfl⟩
    · exact ⟨_, of_decide_eq_true z, Or.inr (Or.inl fun _ _ => rfl)⟩
  · rintro ⟨p, e, q⟩
    rcases q with q | q | ⟨a, b, _, _, q, _⟩
    · exact Or.inl (decide_eq_true (e.trans (yb_st_eq n q)))
    · exact Or.inr (decide_eq_true (e.trans (yb_st_eq n q)))
    · omega
theorem yw_Mn {x y m : Nat → Int} {n i k : Nat} (h : yw_M x y n i k m) (hs : x i = x k ∧ y i = y k) : yw_M x y n i (k + 1) m := fun s h4 => by
  rw [h s h4]
  constructor
  · rintro ⟨p, e, q⟩
    refine ⟨p, e, ?_⟩
    rcases q with q | q | ⟨a, b, h1, h2, h3, h5⟩
    · exact Or.inl q
    · exact Or.inr (Or.inl q)
    · exact Or.inr (Or.inr ⟨a, b, h1, h2, by omega, h5⟩)
  · rintro ⟨p, e, q⟩
    refine ⟨p, e, ?_⟩
    rcases q with q | q | ⟨a, b, h1, h2, h3, h5, h6⟩
    · exact Or.inl q
    · exact Or.inr (Or.inl q)
    · by_cases z : a = i ∧ b = k
      · rw [z.1, z.2] at h5
        exact absurd hs h5
      · exact Or.inr (Or.inr ⟨a, b, h1, h2, by omega, h5, h6⟩)
theorem yw_Ms {x y m m' : Nat → Int} {n i k : Nat} (hi : i < n) (hk : k < n) (h : yw_M x y n i k m) (hs : ¬ (x i = x k ∧ y i = y k)) (h' : ∀ s : Nat, s < 4096 → yw_mk m' s = (yw_mk m s || ((decide (s = yb_st (yw_lb x y i k) n) || decide (s = yb_st (fun j => !yw_lb x y i k j) n)) || (decide (s = yb_st (yw_rb x y i k) n) || decide (s = yb_st (fun j => !yw_rb x y i k j) n))))) : yw_M x y n i (k + 1) m' := fun s h4 => by
  rw [h' s h4, Bool.or_eq_true, Bool.or_eq_true, Bool.or_eq_true, Bool.or_eq_true, h s h4]
  constructor
  · intro z
    rcases z with ⟨p, e, q⟩ | (z | z) | (z | z)
    · refine ⟨p, e, ?_⟩
      rcases q with q | q | ⟨a, b, h1, h2, h3, h5⟩
      · exact Or.inl q
      · exact Or.inr (Or.inl q)
      · exact Or.inr (Or.inr ⟨a, b, h1, h2, by omega, h5⟩)
    · exact ⟨_, of_decide_eq_true z, Or.inr (Or.inr ⟨i, k, hi, hk, by omega, hs, Or.inl fun _ _ => rfl⟩)⟩
    · exact ⟨_, of_decide_eq_true z, Or.inr (Or.inr ⟨i, k, hi, hk, by omega, hs, Or.inr (Or.inl fun _ _ => rfl)⟩)⟩
    · exact ⟨_, of_decide_eq_true z, Or.inr (Or.inr ⟨i, k, hi, hk, by omega, hs, Or.inr (Or.inr (Or.inl fun _ _ => rfl))⟩)⟩
    · exact ⟨_, of_decide_eq_true z, Or.inr (Or.inr ⟨i, k, hi, hk, by omega, hs, Or.inr (Or.inr (Or.inr fun _ _ => rfl))⟩)⟩
  · rintro ⟨p, e, q⟩
    rcases q with q | q | ⟨a, b, h1, h2, h3, h5, h6⟩
    · exact Or.inl ⟨p, e, Or.inl q⟩
    · exact Or.inl ⟨p, e, Or.inr (Or.inl q)⟩
    · by_cases z : a = i ∧ b = k
      · rw [z.1, z.2] at h6
        rcases h6 with q | q | q | q
        · exact Or.inr (Or.inl (Or.inl (decide_eq_true (e.trans (yb_st_eq n q)))))
        · exact Or.inr (Or.inl (Or.inr (decide_eq_true (e.trans (yb_st_eq n q)))))
        · exact Or.inr (Or.inr (Or.inl (decide_eq_true (e.trans (yb_st_eq n q)))))
        · exact Or.inr (Or.inr (Or.inr (decide_eq_true (e.trans (yb_st_eq n q)))))
      · exact Or.inl ⟨p, e, Or.inr (Or.inr ⟨a, b, h1, h2, by omega, h5, h6⟩)⟩
theorem yw_Mr {x y m : Nat → Int} {n i : Nat} (h : yw_M x y n i n m) : yw_M x y n (i + 1) 0 m := fun s h4 => by
  rw [h s h4]
  constructor
  · rintro ⟨p, e, q⟩
    refine ⟨p, e, ?_⟩
    rcases q with q | q | ⟨a, b, h1, h2, h3, h5⟩
    · exact Or.inl q
    · exact Or.inr (Or.inl q)
    · exact Or.inr (Or.inr ⟨a, b, h1, h2, by omega, h5⟩)
  · rintro ⟨p, e, q⟩
    refine ⟨p, e, ?_⟩
    rcases q with q | q | ⟨a, b, h1, h2, h3, h5⟩
    · exact Or.inl q
    · exact Or.inr (Or.inl q)
    · exact Or.inr (Or.inr ⟨a, b, h1, h2, by omega, h5⟩)
noncomputable def yw_MC (x y : Nat → Int) (n : Nat) (m : Nat → Int) : Prop := ∀ s : Nat, s < 4096 → (yw_mk m s = true ↔ ∃ p : Nat → Bool, s = yb_st p n ∧ yw_C x y n p)
theorem yw_Me {x y m : Nat → Int} {n : Nat} (h : yw_M x y n n 0 m) : yw_MC x y n m := fun s h4 => by
  rw [h s h4]
  constructor
  · rintro ⟨p, e, q⟩
    refine ⟨p, e, ?_⟩
    rcases q with q | q | ⟨a, b, h1, h2, h3, h5⟩
    · exact Or.inl q
    · exact Or.inr (Or.inl q)
    · exact Or.inr (Or.inr ⟨a, b, h1, h2, h5⟩)
  · rintro ⟨p, e, q⟩
    refine ⟨p, e, ?_⟩
    rcases q with q | q | ⟨a, b, h1, h2, h5⟩
    · exact Or.inl q
    · exact Or.inr (Or.inl q)
    · exact Or.inr (Or.inr ⟨a, b, h1, h2, by omega, h5⟩)
theorem yw_st0 : ∀ n : Nat, ((yb_st (fun _ => false) n : Nat) : Int) = 0
  | 0 => rfl
  | n + 1 => by
    have h := yw_st0 n
    show ((yb_st (fun _ => false) n + (if false = true then 2 ^ n else 0) : Nat) : Int) = 0
    rw [if_neg (by decide), Nat.add_zero]
    exact h
noncomputable def yw_is (n s N : Int) (a : Int) : Int := if (0 ≤ n ∧ n ≤ 12 ∧ n ≤ N) ∧ (0 ≤ s ∧ s < ((2 ^ n.toNat : Nat) : Int)) then a else -1
