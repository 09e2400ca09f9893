/-! division, shifts, one number -/
noncomputable def ys_nz (v : ys_E) (y : ys_L) : Bool := ys_geb v y 1 || ys_geb v (ys_scale (-1) y) 1
theorem ys_nz_ok {r : Nat → Int} {v : ys_E} (h : ys_ok r v) {y : ys_L} (hz : ys_nz v y = true) : ys_ev r y ≠ 0 := by
  unfold ys_nz at hz
  rcases (Bool.or_eq_true _ _).mp hz with h1 | h1
  · have := ys_geb_le h h1
    omega
  · have := ys_geb_le h h1
    rw [ys_scale_ev] at this
    omega
/-- a number not below 0 over a constant above 0: the bounds of the quotient -/
noncomputable def ys_qb (w : Bool) (v : ys_E) (x y : ys_L) : Option (Int × Int) := match y.1, ys_low v x, ys_high v x with
  | [], some l, some u => if 1 ≤ y.2 && (0 ≤ l && (y.2 ≤ ys_mx w && ys_inr w v x)) then some (l / y.2, u / y.2) else none
  | _, _, _ => none
theorem ys_qb_ok {r : Nat → Int} {w : Bool} {v : ys_E} (h : ys_ok r v) {x y : ys_L} {q : Int × Int} (hq : ys_qb w v x y = some q) : y.1 = [] ∧ 1 ≤ y.2 ∧ y.2 ≤ ys_mx w ∧ 0 ≤ ys_ev r x ∧ ys_inr w v x = true ∧ q.1 ≤ ys_ev r x / y.2 ∧ ys_ev r x / y.2 ≤ q.2 ∧ 0 ≤ q.1 := by
  unfold ys_qb at hq
  split at hq
  · rename_i l u hy hl hu
    split at hq
    · rename_i hc
      simp only [Bool.and_eq_true, decide_eq_true_eq] at hc
      obtain ⟨c1, c2, c3, c4⟩ := hc
      cases Option.some.inj hq
      have h1 := ys_low_le h hl
      have h2 := ys_high_le h hu
      exact ⟨hy, c1, c3, by omega, c4, Int.ediv_le_ediv (by omega) h1, Int.ediv_le_ediv (by omega) h2, Int.ediv_nonneg c2 (by omega)⟩
    · cases hq
  · cases hq
noncomputable def ys_fdiv (w : Bool) (b : ys_B) (x y : ys_L) : Option (ys_B × ys_L) :=
  if ys_inr w b.1 y && ys_nz b.1 y then (match ys_qb w b.1 x y with
    | some q => if q.1 = q.2 then some (b, ys_cst q.1) else some (ys_new b q)
    | none => some (ys_new b (ys_mn w, ys_mx w)))
  else none
noncomputable def ys_frem (w : Bool) (b : ys_B) (x y : ys_L) : Option (ys_B × ys_L) :=
  if ys_inr w b.1 y && ys_nz b.1 y then (match ys_qb w b.1 x y with
    | some q => if q.1 = q.2 then some (ys_nm w b (ys_sub x (ys_cst (q.1 * y.2)))) else some (ys_new b (0, y.2 - 1))
    | none => some (ys_new b (ys_mn w, ys_mx w)))
  else none
theorem ys_div32 {x y : Int} (hx : 0 ≤ x) (hx2 : x ≤ 2147483647) (hy : 1 ≤ y) (hy2 : y ≤ 2147483647) : Int32.ofInt x / Int32.ofInt y = Int32.ofInt (x / y) := by
  apply Int32.toInt_inj.mp
  have h1 : 0 ≤ x / y := Int.ediv_nonneg hx (by omega)
  have h2 : x / y ≤ x := Int.ediv_le_self _ hx
  rw [Int32.toInt_div, Int32.toInt_ofInt_of_le (by omega) (by omega), Int32.toInt_ofInt_of_le (by omega) (by omega), Int32.toInt_ofInt_of_le (by omega) (by omega), Int.tdiv_eq_ediv_of_nonneg hx]
  exact Int.bmod_eq_of_le (by omega) (by omega)
theorem ys_div64 {x y : Int} (hx : 0 ≤ x) (hx2 : x ≤ 9223372036854775807) (hy : 1 ≤ y) (hy2 : y ≤ 9223372036854775807) : Int64.ofInt x / Int64.ofInt y = Int64.ofInt (x / y) := by
  apply Int64.toInt_inj.mp
  have h1 : 0 ≤ x / y := Int.ediv_nonneg hx (by omega)
  have h2 : x / y ≤ x := Int.ediv_le_self _ hx
  rw [Int64.toInt_div, Int64.toInt_ofInt_of_le (by omega) (by omega), Int64.toInt_ofInt_of_le (by omega) (by omega), Int64.toInt_ofInt_of_le (by omega) (by omega), Int.tdiv_eq_ediv_of_nonneg hx]
  exact Int.bmod_eq_of_le (by omega) (by omega)
theorem ys_ne32 {y : Int} (h : y ≠ 0) (h1 : ys_mn false ≤ y ∧ y ≤ ys_mx false) : ¬ Int32.ofInt y = 0 := by
  intro e
  have e2 := congrArg Int32.toInt e
  rw [ys_mn_f, ys_mx_f] at h1
  rw [Int32.toInt_ofInt_of_le (by omega) (by omega)] at e2
  exact h e2
theorem ys_ne64 {y : Int} (h : y ≠ 0) (h1 : ys_mn true ≤ y ∧ y ≤ ys_mx true) : ¬ Int64.ofInt y = 0 := by
  intro e
  have e2 := congrArg Int64.toInt e
  rw [ys_mn_t, ys_mx_t] at h1
  rw [Int64.toInt_ofInt_of_le (by omega) (by omega)] at e2
  exact h e2
theorem ys_fdiv32 : ys_B32 (ys_fdiv false) (fun x y => x / y) (fun y => ¬ y = 0) := by
  intro r b x y o h hs hx hy ho
  unfold ys_fdiv at ho
  split at ho
  · rename_i hc
    rw [Bool.and_eq_true] at hc
    refine ⟨ys_ne32 (ys_nz_ok h.1 hc.2) (ys_inr_ok h.1 hc.1), ?_⟩
    split at ho
    · rename_i q hq
      obtain ⟨h1, h2, h3, h4, h5, h6, h7, h8⟩ := ys_qb_ok h.1 hq
      have hr := (ys_inr_ok h.1 h5).2
      have e : Int32.ofInt (ys_ev r x) / Int32.ofInt (ys_ev r y) = Int32.ofInt (ys_ev r x / y.2) := by
        rw [ys_ev_nil r h1]
        exact ys_div32 h4 hr h2 h3
      split at ho
      · rename_i hqq
        cases Option.some.inj ho
        refine ys_Op_same h hs (ys_stb_cst _) ?_
        rw [ys_cst_ev]
        show Int32.ofInt q.1 = Int32.ofInt (ys_ev r x) / Int32.ofInt (ys_ev r y)
        rw [e]
        congr 1
        omega
      · cases Option.some.inj ho
        exact ys_Op_new _ h hs ⟨h6, h7⟩ e.symm
    · cases Option.some.inj ho
      exact ys_Op_any32 h hs _
  · cases ho
theorem ys_fdiv64 : ys_B64 (ys_fdiv true) (fun x y => x / y) (fun y => ¬ y = 0) := by
  intro r b x y o h hs hx hy ho
  unfold ys_fdiv at ho
  split at ho
  · rename_i hc
    rw [Bool.and_eq_true] at hc
    refine ⟨ys_ne64 (ys_nz_ok h.1 hc.2) (ys_inr_ok h.1 hc.1), ?_⟩
    split at ho
    · rename_i q hq
      obtain ⟨h1, h2, h3, h4, h5, h6, h7, h8⟩ := ys_qb_ok h.1 hq
      have hr := (ys_inr_ok h.1 h5).2
      have e : Int64.ofInt (ys_ev r x) / Int64.ofInt (ys_ev r y) = Int64.ofInt (ys_ev r x / y.2) := by
        rw [ys_ev_nil r h1]
        exact ys_div64 h4 hr h2 h3
      split at ho
      · rename_i hqq
        cases Option.some.inj ho
        refine ys_Op_same h hs (ys_stb_cst _) ?_
        rw [ys_cst_ev]
        show Int64.ofInt q.1 = Int64.ofInt (ys_ev r x) / Int64.ofInt (ys_ev r y)
        rw [e]
        congr 1
        omega
      · cases Option.some.inj ho
        exact ys_Op_new _ h hs ⟨h6, h7⟩ e.symm
    · cases Option.some.inj ho
      exact ys_Op_any64 h hs _
  · cases ho
theorem ys_frem32 : ys_B32 (ys_frem false) (fun x y => x - x / y * y) (fun y => ¬ y = 0) := by
  intro r b x y o h hs hx hy ho
  unfold ys_frem at ho
  split at ho
  · rename_i hc
    rw [Bool.and_eq_true] at hc
    refine ⟨ys_ne32 (ys_nz_ok h.1 hc.2) (ys_inr_ok h.1 hc.1), ?_⟩
    split at ho
    · rename_i q hq
      obtain ⟨h1, h2, h3, h4, h5, h6, h7, h8⟩ := ys_qb_ok h.1 hq
      have hr := (ys_inr_ok h.1 h5).2
      have e : Int32.ofInt (ys_ev r x) - Int32.ofInt (ys_ev r x) / Int32.ofInt (ys_ev r y) * Int32.ofInt (ys_ev r y) = Int32.ofInt (ys_ev r x - ys_ev r x / y.2 * y.2) := by
        rw [ys_ev_nil r h1, ys_div32 h4 hr h2 h3, ← Int32.ofInt_mul, ← Int32.ofInt_sub]
      split at ho
      · rename_i hqq
        cases Option.some.inj ho
        refine ys_Op_nm32 h hs (ys_stb_sub hx (ys_stb_cst _)) ?_
        show _ = Int32.ofInt (ys_ev r x) - Int32.ofInt (ys_ev r x) / Int32.ofInt (ys_ev r y) * Int32.ofInt (ys_ev r y)
        rw [e, ys_sub_ev, ys_cst_ev, show ys_ev r x / y.2 = q.1 by omega]
      · cases Option.some.inj ho
        have h9 := Int.emod_def (ys_ev r x) y.2
        have h10 := Int.emod_nonneg (ys_ev r x) (b := y.2) (by omega)
        have h11 := Int.emod_lt_of_pos (ys_ev r x) (b := y.2) (by omega)
        have h12 := Int.mul_comm y.2 (ys_ev r x / y.2)
        exact ys_Op_new (ys_ev r x - ys_ev r x / y.2 * y.2) h hs ⟨by show (0 : Int) ≤ _; omega, by show _ ≤ y.2 - 1; omega⟩ e.symm
    · cases Option.some.inj ho
      exact ys_Op_any32 h hs _
  · cases ho
theorem ys_frem64 : ys_B64 (ys_frem true) (fun x y => x - x / y * y) (fun y => ¬ y = 0) := by
  intro r b x y o h hs hx hy ho
  unfold ys_frem at ho
  split at ho
  · rename_i hc
    rw [Bool.and_eq_true] at hc
    refine ⟨ys_ne64 (ys_nz_ok h.1 hc.2) (ys_inr_ok h.1 hc.1), ?_⟩
    split at ho
    · rename_i q hq
      obtain ⟨h1, h2, h3, h4, h5, h6, h7, h8⟩ := ys_qb_ok h.1 hq
      have hr := (ys_inr_ok h.1 h5).2
      have e : Int64.ofInt (ys_ev r x) - Int64.ofInt (ys_ev r x) / Int64.ofInt (ys_ev r y) * Int64.ofInt (ys_ev r y) = Int64.ofInt (ys_ev r x - ys_ev r x / y.2 * y.2) := by
        rw [ys_ev_nil r h1, ys_div64 h4 hr h2 h3, ← Int64.ofInt_mul, ← Int64.ofInt_sub]
      split at ho
      · rename_i hqq
        cases Option.some.inj ho
        refine ys_Op_nm64 h hs (ys_stb_sub hx (ys_stb_cst _)) ?_
        show _ = Int64.ofInt (ys_ev r x) - Int64.ofInt (ys_ev r x) / Int64.ofInt (ys_ev r y) * Int64.ofInt (ys_ev r y)
        rw [e, ys_sub_ev, ys_cst_ev, show ys_ev r x / y.2 = q.1 by omega]
      · cases Option.some.inj ho
        have h9 := Int.emod_def (ys_ev r x) y.2
        have h10 := Int.emod_nonneg (ys_ev r x) (b := y.2) (by omega)
        have h11 := Int.emod_lt_of_pos (ys_ev r x) (b := y.2) (by omega)
        have h12 := Int.mul_comm y.2 (ys_ev r x / y.2)
        exact ys_Op_new (ys_ev r x - ys_ev r x / y.2 * y.2) h hs ⟨by show (0 : Int) ≤ _; omega, by show _ ≤ y.2 - 1; omega⟩ e.symm
    · cases Option.some.inj ho
      exact ys_Op_any64 h hs _
  · cases ho
/-! shifts to the left of a constant -/
noncomputable def ys_shb (w : Bool) (v : ys_E) (x y : ys_L) : Option (Int × Int) := match x.1, ys_low v y, ys_high v y with
  | [], some l, some u => if 0 ≤ x.2 && (0 ≤ l && (u ≤ 30 && (x.2 * 2 ^ u.toNat ≤ ys_mx w))) then some (x.2 * 2 ^ l.toNat, x.2 * 2 ^ u.toNat) else none
  | _, _, _ => none
theorem ys_shb_ok {r : Nat → Int} {w : Bool} {v : ys_E} (h : ys_ok r v) {x y : ys_L} {q : Int × Int} (hq : ys_shb w v x y = some q) : x.1 = [] ∧ ∃ n k : Nat, x.2 = (n : Int) ∧ ys_ev r y = (k : Int) ∧ k ≤ 30 ∧ q.1 ≤ ((n * 2 ^ k : Nat) : Int) ∧ ((n * 2 ^ k : Nat) : Int) ≤ q.2 ∧ q.2 ≤ ys_mx w := by
  unfold ys_shb at hq
  split at hq
  · rename_i l u hx hl hu
    split at hq
    · rename_i hc
      simp only [Bool.and_eq_true, decide_eq_true_eq] at hc
      obtain ⟨c1, c2, c3, c4⟩ := hc
      cases Option.some.inj hq
      have h1 := ys_low_le h hl
      have h2 := ys_high_le h hu
      obtain ⟨n, hn⟩ := Int.eq_ofNat_of_zero_le c1
      obtain ⟨k, hk⟩ := Int.eq_ofNat_of_zero_le (a := ys_ev r y) (by omega)
      have pw : ∀ j : Nat, x.2 * 2 ^ j = ((n * 2 ^ j : Nat) : Int) := by
        intro j
        rw [hn]
        simp
      refine ⟨hx, n, k, hn, hk, by omega, ?_, ?_, c4⟩
      · show x.2 * 2 ^ l.toNat ≤ _
        rw [pw]
        exact Int.ofNat_le.mpr (Nat.mul_le_mul_left n (Nat.pow_le_pow_right (by decide) (by omega)))
      · show _ ≤ x.2 * 2 ^ u.toNat
        rw [pw]
        exact Int.ofNat_le.mpr (Nat.mul_le_mul_left n (Nat.pow_le_pow_right (by decide) (by omega)))
    · cases hq
  · cases hq
noncomputable def ys_fshl (w : Bool) (b : ys_B) (x y : ys_L) : Option (ys_B × ys_L) := match ys_shb w b.1 x y with
  | some q => some (ys_nw b q)
  | none => some (ys_new b (ys_mn w, ys_mx w))
theorem ys_31 {k : Nat} (hk : k ≤ 30) : (((Int32.ofInt (k : Int)) &&& 31).toBitVec.smod 32).toNat = k := by
  have : ∀ j : Fin 31, (((Int32.ofInt ((j : Nat) : Int)) &&& 31).toBitVec.smod 32).toNat = (j : Nat) := by decide +kernel
  exact this ⟨k, by omega⟩
theorem ys_63 {k : Nat} (hk : k ≤ 30) : (((Int32.ofInt (k : Int)).toInt64 &&& 63).toBitVec.smod 64).toNat = k := by
  have : ∀ j : Fin 31, (((Int32.ofInt ((j : Nat) : Int)).toInt64 &&& 63).toBitVec.smod 64).toNat = (j : Nat) := by decide +kernel
  exact this ⟨k, by omega⟩
theorem ys_shl32 {n k : Nat} (hk : k ≤ 30) (h : n * 2 ^ k ≤ 2147483647) : Int32.ofInt (n : Int) <<< (Int32.ofInt (k : Int) &&& 31) = Int32.ofInt ((n * 2 ^ k : Nat) : Int) := by
  rw [Int32.ofInt_eq_ofNat, Int32.ofInt_eq_ofNat]
  have := pk_shlN (n := n) (Int32.ofInt (k : Int) &&& 31) k (ys_31 hk) (by omega)
  rw [Int32.ofInt_eq_ofNat] at this
  exact this
theorem ys_shl64 {n k : Nat} (hk : k ≤ 30) (h : n * 2 ^ k ≤ 9223372036854775807) : Int64.ofInt (n : Int) <<< ((Int32.ofInt (k : Int)).toInt64 &&& 63) = Int64.ofInt ((n * 2 ^ k : Nat) : Int) := by
  have hn : n ≤ n * 2 ^ k := Nat.le_mul_of_pos_right n (Nat.two_pow_pos k)
  apply Int64.toBitVec_inj.mp
  apply BitVec.eq_of_toNat_eq
  show ((Int64.ofInt (n : Int)).toBitVec <<< (((Int32.ofInt (k : Int)).toInt64 &&& 63).toBitVec.smod 64).toNat).toNat = _
  rw [ys_63 hk, BitVec.toNat_shiftLeft, Nat.shiftLeft_eq, Int64.ofInt_eq_ofNat, Int64.ofInt_eq_ofNat]
  show (BitVec.ofNat 64 n).toNat * 2 ^ k % 2 ^ 64 = (BitVec.ofNat 64 (n * 2 ^ k)).toNat
  rw [BitVec.toNat_ofNat, BitVec.toNat_ofNat, Nat.mod_eq_of_lt (a := n) (by omega)]
theorem ys_fshl32 : ys_B32 (ys_fshl false) (fun x y => x <<< (y &&& 31)) (fun _ => True) := by
  intro r b x y o h hs hx hy ho
  refine ⟨trivial, ?_⟩
  unfold ys_fshl at ho
  split at ho
  · rename_i q hq
    cases Option.some.inj ho
    obtain ⟨h1, n, k, hn, hk, h2, h3, h4, h5⟩ := ys_shb_ok h.1 hq
    rw [ys_mx_f] at h5
    refine ys_Op_nw _ h hs ⟨h3, h4⟩ ?_
    show _ = Int32.ofInt (ys_ev r x) <<< (Int32.ofInt (ys_ev r y) &&& 31)
    rw [ys_ev_nil r h1, hn, hk, ys_shl32 h2 (by omega)]
  · cases Option.some.inj ho
    exact ys_Op_any32 h hs _
noncomputable def ys_fshr (b : ys_B) (x _ : ys_L) : Option (ys_B × ys_L) := match ys_nnb false b.1 x with
  | some u => some (ys_nw b (0, u))
  | none => some (ys_new b (ys_mn false, ys_mx false))
theorem ys_fshr32 : ys_B32 ys_fshr (fun x y => x >>> (y &&& 31)) (fun _ => True) := by
  intro r b x y o h hs hx hy ho
  refine ⟨trivial, ?_⟩
  unfold ys_fshr at ho
  split at ho
  · rename_i u hu
    cases Option.some.inj ho
    obtain ⟨e1, e2, e3⟩ := ys_nnb32 h.1 hu
    have h1 := pk_shr (Int32.ofInt (ys_ev r x)) (Int32.ofInt (ys_ev r y) &&& 31) _ rfl
    rw [e1, Int.shiftRight_eq_div_pow] at h1
    have h2 := Int.ediv_le_self (((2 ^ ((Int32.ofInt (ys_ev r y) &&& 31).toBitVec.smod 32).toNat : Nat) : Int)) e2
    have h3 := Int.ediv_nonneg (b := ((2 ^ ((Int32.ofInt (ys_ev r y) &&& 31).toBitVec.smod 32).toNat : Nat) : Int)) e2 (Int.natCast_nonneg _)
    refine ys_Op_nw32 h hs _ ?_
    show (0 : Int) ≤ (Int32.ofInt (ys_ev r x) >>> (Int32.ofInt (ys_ev r y) &&& 31)).toInt ∧ (Int32.ofInt (ys_ev r x) >>> (Int32.ofInt (ys_ev r y) &&& 31)).toInt ≤ u
    rw [h1]
    exact ⟨h3, Int.le_trans h2 e3⟩
  · cases Option.some.inj ho
    exact ys_Op_any32 h hs _
/-- a long, shifted by an int -/
noncomputable def ys_BLI (F : ys_B → ys_L → ys_L → Option (ys_B × ys_L)) (op : Int64 → Int32 → Int64) : Prop := ∀ (r : Nat → Int) (b : ys_B) (x y : ys_L) (o : ys_B × ys_L), ys_okB r b → ys_scB b → ys_stb b.1.length x → ys_stb b.1.length y → F b x y = some o → ys_Op r b o (fun z => Int64.ofInt z = op (Int64.ofInt (ys_ev r x)) (Int32.ofInt (ys_ev r y)))
theorem ys_fshl64 : ys_BLI (ys_fshl true) (fun x y => x <<< (y.toInt64 &&& 63)) := by
  intro r b x y o h hs hx hy ho
  unfold ys_fshl at ho
  split at ho
  · rename_i q hq
    cases Option.some.inj ho
    obtain ⟨h1, n, k, hn, hk, h2, h3, h4, h5⟩ := ys_shb_ok h.1 hq
    rw [ys_mx_t] at h5
    refine ys_Op_nw _ h hs ⟨h3, h4⟩ ?_
    show _ = Int64.ofInt (ys_ev r x) <<< ((Int32.ofInt (ys_ev r y)).toInt64 &&& 63)
    rw [ys_ev_nil r h1, hn, hk, ys_shl64 h2 (by omega)]
  · cases Option.some.inj ho
    exact ys_Op_any64 h hs _
theorem ys_fanyLI (op : Int64 → Int32 → Int64) : ys_BLI (ys_fany true) op := by
  intro r b x y o h hs hx hy ho
  cases Option.some.inj ho
  exact ys_Op_any64 h hs _
/-! one number -/
noncomputable def ys_fneg (w : Bool) (b : ys_B) (x : ys_L) : ys_B × ys_L := ys_nm w b (ys_scale (-1) x)
theorem ys_fneg32 {r : Nat → Int} {b : ys_B} {x : ys_L} (h : ys_okB r b) (hs : ys_scB b) (hx : ys_stb b.1.length x) : ys_Op r b (ys_fneg false b x) (fun z => Int32.ofInt z = -Int32.ofInt (ys_ev r x)) := ys_Op_nm32 h hs (ys_stb_scale _ hx) (by rw [ys_scale_ev, Int.neg_mul, Int.one_mul, Int32.ofInt_neg])
theorem ys_fneg64 {r : Nat → Int} {b : ys_B} {x : ys_L} (h : ys_okB r b) (hs : ys_scB b) (hx : ys_stb b.1.length x) : ys_Op r b (ys_fneg true b x) (fun z => Int64.ofInt z = -Int64.ofInt (ys_ev r x)) := ys_Op_nm64 h hs (ys_stb_scale _ hx) (by rw [ys_scale_ev, Int.neg_mul, Int.one_mul, Int64.ofInt_neg])
theorem ys_l2i (z : Int) : (Int64.ofInt z).toInt32 = Int32.ofInt z := by
  apply Int32.toInt_inj.mp
  rw [Int64.toInt_toInt32, Int64.toInt_ofInt, Int32.toInt_ofInt]
  exact Int.bmod_bmod_of_dvd (by decide)
theorem ys_fl2i {r : Nat → Int} {b : ys_B} {x : ys_L} (h : ys_okB r b) (hs : ys_scB b) (hx : ys_stb b.1.length x) : ys_Op r b (ys_nm false b x) (fun z => Int32.ofInt z = (Int64.ofInt (ys_ev r x)).toInt32) := ys_Op_nm32 h hs hx (ys_l2i _).symm
theorem ys_i2l {r : Nat → Int} {v : ys_E} (h : ys_ok r v) {x : ys_L} (hi : ys_inr false v x = true) : (Int32.ofInt (ys_ev r x)).toInt64 = Int64.ofInt (ys_ev r x) := by
  apply Int64.toInt_inj.mp
  obtain ⟨h1, h2⟩ := ys_inr_ok h hi
  rw [ys_mn_f] at h1
  rw [ys_mx_f] at h2
  rw [Int32.toInt_toInt64, ys_inr32 h hi, Int64.toInt_ofInt_of_le (by omega) (by omega)]
/-- cut to a byte (7) or a short (15) -/
noncomputable def ys_fcut (k : Nat) (b : ys_B) (x : ys_L) : ys_B × ys_L := if ys_geb b.1 x (-(2 ^ k)) && ys_geb b.1 (ys_scale (-1) x) (-(2 ^ k - 1)) then (b, x) else ys_new b (-(2 ^ k), 2 ^ k - 1)
theorem ys_fi2b {r : Nat → Int} {b : ys_B} {x : ys_L} (h : ys_okB r b) (hs : ys_scB b) (hx : ys_stb b.1.length x) : ys_Op r b (ys_fcut 7 b x) (fun z => Int32.ofInt z = (Int32.ofInt (ys_ev r x)).toInt8.toInt32) := by
  unfold ys_fcut
  split
  · rename_i hc
    rw [Bool.and_eq_true] at hc
    have h1 := ys_geb_le h.1 hc.1
    have h2 := ys_geb_le h.1 hc.2
    rw [ys_scale_ev] at h2
    refine ys_Op_same h hs hx ?_
    apply Int32.toInt_inj.mp
    rw [Int8.toInt_toInt32, Int32.toInt_toInt8, Int32.toInt_ofInt_of_le (by omega) (by omega)]
    exact (Int.bmod_eq_of_le (by omega) (by omega)).symm
  · refine ys_Op_in32 h hs _ ?_
    rw [Int8.toInt_toInt32]
    have h1 := (Int32.ofInt (ys_ev r x)).toInt8.le_toInt
    have h2 := (Int32.ofInt (ys_ev r x)).toInt8.toInt_lt
    exact ⟨h1, by show _ ≤ (2 : Int) ^ 7 - 1; omega⟩
theorem ys_fi2s {r : Nat → Int} {b : ys_B} {x : ys_L} (h : ys_okB r b) (hs : ys_scB b) (hx : ys_stb b.1.length x) : ys_Op r b (ys_fcut 15 b x) (fun z => Int32.ofInt z = (Int32.ofInt (ys_ev r x)).toInt16.toInt32) := by
  unfold ys_fcut
  split
  · rename_i hc
    rw [Bool.and_eq_true] at hc
    have h1 := ys_geb_le h.1 hc.1
    have h2 := ys_geb_le h.1 hc.2
    rw [ys_scale_ev] at h2
    refine ys_Op_same h hs hx ?_
    apply Int32.toInt_inj.mp
    rw [Int16.toInt_toInt32, Int32.toInt_toInt16, Int32.toInt_ofInt_of_le (by omega) (by omega)]
    exact (Int.bmod_eq_of_le (by omega) (by omega)).symm
  · refine ys_Op_in32 h hs _ ?_
    rw [Int16.toInt_toInt32]
    have h1 := (Int32.ofInt (ys_ev r x)).toInt16.le_toInt
    have h2 := (Int32.ofInt (ys_ev r x)).toInt16.toInt_lt
    exact ⟨h1, by show _ ≤ (2 : Int) ^ 15 - 1; omega⟩
/-! what a comparison tells -/
noncomputable def ys_ne (v : ys_E) (x y : ys_L) : List ys_L := if ys_geb v (ys_sub x y) 0 then [ys_add (ys_sub x y) ([], -1)] else if ys_geb v (ys_sub y x) 0 then [ys_add (ys_sub y x) ([], -1)] else []
noncomputable def ys_cf (v : ys_E) (c : ClassFile.Cond) (x y : ys_L) : List ys_L := match c with
  | .eq => [ys_sub x y, ys_sub y x]
  | .ne => ys_ne v x y
  | .lt => [ys_add (ys_sub y x) ([], -1)]
  | .ge => [ys_sub x y]
  | .gt => [ys_add (ys_sub x y) ([], -1)]
  | .le => [ys_sub y x]
noncomputable def ys_ch (c : ClassFile.Cond) (x y : Int) : Prop := match c with
  | .eq => x = y
  | .ne => ¬ x = y
  | .lt => x < y
  | .ge => y ≤ x
  | .gt => y < x
  | .le => x ≤ y
noncomputable def ys_cn (c : ClassFile.Cond) : ClassFile.Cond := match c with
  | .eq => .ne
  | .ne => .eq
  | .lt => .ge
  | .ge => .lt
  | .gt => .le
  | .le => .gt
theorem ys_cn_ok {c : ClassFile.Cond} {x y : Int} (h : ¬ ys_ch c x y) : ys_ch (ys_cn c) x y := by
  cases c <;> simp only [ys_ch, ys_cn] at h ⊢ <;> omega
theorem ys_m1 (r : Nat → Int) (e : ys_L) : ys_ev r (ys_add e ([], -1)) = ys_ev r e - 1 := by
  rw [ys_add_ev]
  show ys_ev r e + (0 + -1) = _
  omega
theorem ys_fk1 {r : Nat → Int} {f : ys_L} (h : 0 ≤ ys_ev r f) : ys_fk r [f] := fun g hg => by
  rw [List.mem_singleton.mp hg]
  exact h
theorem ys_cf_ok {r : Nat → Int} {v : ys_E} (hv : ys_ok r v) {c : ClassFile.Cond} {x y : ys_L} (h : ys_ch c (ys_ev r x) (ys_ev r y)) : ys_fk r (ys_cf v c x y) := by
  cases c with
  | eq =>
    intro f hf
    have h : ys_ev r x = ys_ev r y := h
    rcases List.mem_cons.mp hf with e | e
    · rw [e, ys_sub_ev]; omega
    · rw [List.mem_singleton.mp e, ys_sub_ev]; omega
  | ne =>
    have h : ¬ ys_ev r x = ys_ev r y := h
    show ys_fk r (ys_ne v x y)
    unfold ys_ne
    split
    · rename_i hc
      have := ys_geb_le hv hc
      rw [ys_sub_ev] at this
      exact ys_fk1 (by rw [ys_m1, ys_sub_ev]; omega)
    · split
      · rename_i hc
        have := ys_geb_le hv hc
        rw [ys_sub_ev] at this
        exact ys_fk1 (by rw [ys_m1, ys_sub_ev]; omega)
      · intro f hf
        cases hf
  | lt =>
    have h : ys_ev r x < ys_ev r y := h
    exact ys_fk1 (by rw [ys_m1, ys_sub_ev]; omega)
  | ge =>
    have h : ys_ev r y ≤ ys_ev r x := h
    exact ys_fk1 (by rw [ys_sub_ev]; omega)
  | gt =>
    have h : ys_ev r y < ys_ev r x := h
    exact ys_fk1 (by rw [ys_m1, ys_sub_ev]; omega)
  | le =>
    have h : ys_ev r x ≤ ys_ev r y := h
    exact ys_fk1 (by rw [ys_sub_ev]; omega)
/-- the ways of a comparison -/
noncomputable def ys_cfs (v : ys_E) (c : ClassFile.Cond) (x y : ys_L) : List (List ys_L) := match c with
  | .ne => [[ys_add (ys_sub x y) ([], -1)], [ys_add (ys_sub y x) ([], -1)]]
  | c => [ys_cf v c x y]
theorem ys_cfs_ok {r : Nat → Int} {v : ys_E} (hv : ys_ok r v) {c : ClassFile.Cond} {x y : ys_L} (h : ys_ch c (ys_ev r x) (ys_ev r y)) : ∃ fs ∈ ys_cfs v c x y, ys_fk r fs := by
  cases c with
  | ne =>
    have h : ¬ ys_ev r x = ys_ev r y := h
    rcases Int.lt_or_gt_of_ne h with q | q
    · exact ⟨_, List.mem_cons_of_mem _ List.mem_cons_self, ys_fk1 (by rw [ys_m1, ys_sub_ev]; omega)⟩
    · exact ⟨_, List.mem_cons_self, ys_fk1 (by rw [ys_m1, ys_sub_ev]; omega)⟩
  | eq => exact ⟨_, List.mem_cons_self, ys_cf_ok hv h⟩
  | lt => exact ⟨_, List.mem_cons_self, ys_cf_ok hv h⟩
  | ge => exact ⟨_, List.mem_cons_self, ys_cf_ok hv h⟩
  | gt => exact ⟨_, List.mem_cons_self, ys_cf_ok hv h⟩
  | le => exact ⟨_, List.mem_cons_self, ys_cf_ok hv h⟩
