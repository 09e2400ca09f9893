/-! linear numbers over symbols, their bounds, what follows from facts -/
abbrev ys_L : Type := List (Nat × Int) × Int
noncomputable def ys_sum (r : Nat → Int) : List (Nat × Int) → Int
  | [] => 0
  | q :: t => q.2 * r q.1 + ys_sum r t
noncomputable def ys_ev (r : Nat → Int) (e : ys_L) : Int := ys_sum r e.1 + e.2
noncomputable def ys_ins (i : Nat) (c : Int) : List (Nat × Int) → List (Nat × Int)
  | [] => [(i, c)]
  | q :: t => if i = q.1 then (if c + q.2 = 0 then t else (i, c + q.2) :: t) else q :: ys_ins i c t
noncomputable def ys_addl : List (Nat × Int) → List (Nat × Int) → List (Nat × Int)
  | [], m => m
  | q :: t, m => ys_ins q.1 q.2 (ys_addl t m)
noncomputable def ys_add (a b : ys_L) : ys_L := (ys_addl a.1 b.1, a.2 + b.2)
noncomputable def ys_scl (k : Int) : List (Nat × Int) → List (Nat × Int)
  | [] => []
  | q :: t => (q.1, k * q.2) :: ys_scl k t
noncomputable def ys_scale (k : Int) (a : ys_L) : ys_L := if k = 0 then ([], 0) else (ys_scl k a.1, k * a.2)
noncomputable def ys_sub (a b : ys_L) : ys_L := ys_add a (ys_scale (-1) b)
noncomputable def ys_cst (k : Int) : ys_L := ([], k)
noncomputable def ys_sym (i : Nat) : ys_L := ([(i, 1)], 0)
theorem ys_ins_ev (r : Nat → Int) (i : Nat) (c : Int) : ∀ l, ys_sum r (ys_ins i c l) = c * r i + ys_sum r l
  | [] => rfl
  | q :: t => by
    unfold ys_ins
    by_cases h : i = q.1
    · rw [if_pos h]
      by_cases h2 : c + q.2 = 0
      · rw [if_pos h2]
        show _ = c * r i + (q.2 * r q.1 + ys_sum r t)
        rw [h, ← Int.add_assoc, ← Int.add_mul, h2, Int.zero_mul, Int.zero_add]
      · rw [if_neg h2]
        show (c + q.2) * r i + ys_sum r t = c * r i + (q.2 * r q.1 + ys_sum r t)
        rw [h, ← Int.add_assoc, ← Int.add_mul]
    · rw [if_neg h]
      show q.2 * r q.1 + ys_sum r (ys_ins i c t) = c * r i + (q.2 * r q.1 + ys_sum r t)
      rw [ys_ins_ev r i c t]
      omega
theorem ys_addl_ev (r : Nat → Int) : ∀ l m, ys_sum r (ys_addl l m) = ys_sum r l + ys_sum r m
  | [], m => (Int.zero_add _).symm
  | q :: t, m => by
    show ys_sum r (ys_ins q.1 q.2 (ys_addl t m)) = q.2 * r q.1 + ys_sum r t + ys_sum r m
    rw [ys_ins_ev, ys_addl_ev r t m]
    omega
theorem ys_add_ev (r : Nat → Int) (a b : ys_L) : ys_ev r (ys_add a b) = ys_ev r a + ys_ev r b := by
  show ys_sum r (ys_addl a.1 b.1) + (a.2 + b.2) = (ys_sum r a.1 + a.2) + (ys_sum r b.1 + b.2)
  rw [ys_addl_ev]
  omega
theorem ys_scl_ev (r : Nat → Int) (k : Int) : ∀ l, ys_sum r (ys_scl k l) = k * ys_sum r l
  | [] => (Int.mul_zero k).symm
  | q :: t => by
    show k * q.2 * r q.1 + ys_sum r (ys_scl k t) = k * (q.2 * r q.1 + ys_sum r t)
    rw [ys_scl_ev r k t, Int.mul_add, Int.mul_assoc]
theorem ys_scale_ev (r : Nat → Int) (k : Int) (a : ys_L) : ys_ev r (ys_scale k a) = k * ys_ev r a := by
  unfold ys_scale
  by_cases h : k = 0
  · rw [if_pos h, h, Int.zero_mul]
    rfl
  · rw [if_neg h]
    show ys_sum r (ys_scl k a.1) + k * a.2 = k * (ys_sum r a.1 + a.2)
    rw [ys_scl_ev, Int.mul_add]
theorem ys_sub_ev (r : Nat → Int) (a b : ys_L) : ys_ev r (ys_sub a b) = ys_ev r a - ys_ev r b := by
  show ys_ev r (ys_add a (ys_scale (-1) b)) = _
  rw [ys_add_ev, ys_scale_ev]
  omega
theorem ys_cst_ev (r : Nat → Int) (k : Int) : ys_ev r (ys_cst k) = k := Int.zero_add k
theorem ys_sym_ev (r : Nat → Int) (i : Nat) : ys_ev r (ys_sym i) = r i := by
  show 1 * r i + 0 + 0 = r i
  omega
/-- what the kernel works out in few steps -/
noncomputable def yu_at {α : Type} (l : List α) (i : Nat) : Option α := List.rec (motive := fun _ => Nat → Option α) (fun _ => none) (fun a _ ih i => Nat.rec (motive := fun _ => Option α) (some a) (fun j _ => ih j) i) l i
theorem yu_at_eq {α : Type} : ∀ (l : List α) (i : Nat), yu_at l i = l[i]?
  | [], i => by
    show none = _
    exact List.getElem?_nil.symm
  | a :: t, 0 => rfl
  | a :: t, i + 1 => by
    show yu_at t i = _
    rw [yu_at_eq t i, List.getElem?_cons_succ]
noncomputable def yu_le (a b : Int) : Bool := Int.rec (motive := fun _ => Bool) (fun m => Int.rec (motive := fun _ => Bool) (fun n => Nat.ble m n) (fun _ => false) b) (fun m => Int.rec (motive := fun _ => Bool) (fun _ => true) (fun n => Nat.ble n m) b) a
theorem yu_le_iff : ∀ (a b : Int), yu_le a b = true ↔ a ≤ b
  | .ofNat m, .ofNat n => by
    show Nat.ble m n = true ↔ (m : Int) ≤ (n : Int)
    rw [Nat.ble_eq]
    constructor <;> intro h <;> omega
  | .ofNat m, .negSucc n => by
    show false = true ↔ (m : Int) ≤ Int.negSucc n
    rw [Int.negSucc_eq]
    constructor
    · intro h
      cases h
    · intro h
      exfalso
      omega
  | .negSucc m, .ofNat n => by
    show true = true ↔ Int.negSucc m ≤ (n : Int)
    rw [Int.negSucc_eq]
    exact ⟨fun _ => by omega, fun _ => rfl⟩
  | .negSucc m, .negSucc n => by
    show Nat.ble n m = true ↔ Int.negSucc m ≤ Int.negSucc n
    rw [Nat.ble_eq, Int.negSucc_eq, Int.negSucc_eq]
    constructor <;> intro h <;> omega
theorem yu_le_t {a b : Int} (h : yu_le a b = true) : a ≤ b := (yu_le_iff a b).mp h
noncomputable def yu_zn (k : Nat) (z : Int) : Bool := Int.rec (motive := fun _ => Bool) (fun n => Nat.beq n k) (fun _ => false) z
theorem yu_zn_t {k : Nat} : ∀ {z : Int}, yu_zn k z = true → z = (k : Int)
  | .ofNat n, h => by
    have h : Nat.beq n k = true := h
    rw [Nat.eq_of_beq_eq_true h]
    rfl
  | .negSucc n, h => by cases h
noncomputable def yu_nul (e : ys_L) : Bool := List.rec (motive := fun _ => Bool) (yu_zn 0 e.2) (fun _ _ _ => false) e.1
theorem yu_nul_t : ∀ {e : ys_L}, yu_nul e = true → e = ([], 0)
  | ([], z), h => by
    have h : yu_zn 0 z = true := h
    rw [yu_zn_t h]
    rfl
  | (_ :: _, z), h => by cases h
noncomputable def yu_isy (x : ys_L) (j : Nat) : Bool := List.rec (motive := fun _ => Bool) false (fun q t _ => List.rec (motive := fun _ => Bool) (Nat.beq q.1 j && (yu_zn 1 q.2 && yu_zn 0 x.2)) (fun _ _ _ => false) t) x.1
theorem yu_isy_t : ∀ {x : ys_L} {j : Nat}, yu_isy x j = true → x = ys_sym j
  | ([], z), j, h => by cases h
  | ([(i, c)], z), j, h => by
    have h : (Nat.beq i j && (yu_zn 1 c && yu_zn 0 z)) = true := h
    rw [Bool.and_eq_true, Bool.and_eq_true] at h
    rw [Nat.eq_of_beq_eq_true h.1, yu_zn_t h.2.1, yu_zn_t h.2.2]
    rfl
  | (_ :: _ :: _, z), j, h => by cases h
/-- bounds of the symbols -/
abbrev ys_E : Type := List (Int × Int)
noncomputable def ys_ok (r : Nat → Int) (v : ys_E) : Prop := ∀ (i : Nat) (q : Int × Int), v[i]? = some q → q.1 ≤ r i ∧ r i ≤ q.2
noncomputable def ys_lo (v : ys_E) : List (Nat × Int) → Option Int
  | [] => some 0
  | q :: t => match yu_at v q.1, ys_lo v t with
    | some w, some z => some ((if yu_le 0 q.2 = true then q.2 * w.1 else q.2 * w.2) + z)
    | _, _ => none
noncomputable def ys_low (v : ys_E) (e : ys_L) : Option Int := match ys_lo v e.1 with
  | some z => some (z + e.2)
  | none => none
theorem ys_lo_le {r : Nat → Int} {v : ys_E} (h : ys_ok r v) : ∀ (l : List (Nat × Int)) (z : Int), ys_lo v l = some z → z ≤ ys_sum r l
  | [], z, hz => by
    cases hz
    exact Int.le_refl 0
  | q :: t, z, hz => by
    unfold ys_lo at hz
    rw [yu_at_eq] at hz
    cases h1 : v[q.1]? with
    | none => rw [h1] at hz; cases hz
    | some w =>
      cases h2 : ys_lo v t with
      | none => rw [h1, h2] at hz; cases hz
      | some y =>
        rw [h1, h2] at hz
        have hy := ys_lo_le h t y h2
        have hw := h q.1 w h1
        have hz := Option.some.inj hz
        show z ≤ q.2 * r q.1 + ys_sum r t
        by_cases hc : 0 ≤ q.2
        · rw [if_pos ((yu_le_iff 0 q.2).mpr hc)] at hz
          have := Int.mul_le_mul_of_nonneg_left hw.1 hc
          omega
        · rw [if_neg (fun q => hc (yu_le_t q))] at hz
          have := Int.mul_le_mul_of_nonpos_left (a := q.2) (Int.le_of_lt (Int.not_le.mp hc)) hw.2
          omega
theorem ys_low_le {r : Nat → Int} {v : ys_E} (h : ys_ok r v) {e : ys_L} {z : Int} (hz : ys_low v e = some z) : z ≤ ys_ev r e := by
  unfold ys_low at hz
  cases h1 : ys_lo v e.1 with
  | none => rw [h1] at hz; cases hz
  | some y =>
    rw [h1] at hz
    have hy := ys_lo_le h e.1 y h1
    have hz := Option.some.inj hz
    show z ≤ ys_sum r e.1 + e.2
    omega
/-- at least k by the bounds alone -/
noncomputable def ys_geb (v : ys_E) (e : ys_L) (k : Int) : Bool := match ys_low v e with
  | some z => yu_le k z
  | none => false
theorem ys_geb_le {r : Nat → Int} {v : ys_E} (h : ys_ok r v) {e : ys_L} {k : Int} (hz : ys_geb v e k = true) : k ≤ ys_ev r e := by
  unfold ys_geb at hz
  cases h1 : ys_low v e with
  | none => rw [h1] at hz; cases hz
  | some y =>
    rw [h1] at hz
    exact Int.le_trans (yu_le_t hz) (ys_low_le h h1)
noncomputable def ys_high (v : ys_E) (e : ys_L) : Option Int := match ys_low v (ys_scale (-1) e) with
  | some z => some (-z)
  | none => none
theorem ys_high_le {r : Nat → Int} {v : ys_E} (h : ys_ok r v) {e : ys_L} {z : Int} (hz : ys_high v e = some z) : ys_ev r e ≤ z := by
  unfold ys_high at hz
  cases h1 : ys_low v (ys_scale (-1) e) with
  | none => rw [h1] at hz; cases hz
  | some y =>
    rw [h1] at hz
    have h2 := ys_low_le h h1
    rw [ys_scale_ev] at h2
    have hz := Option.some.inj hz
    omega
/-- facts: each is at least 0 -/
noncomputable def ys_fk (r : Nat → Int) (fs : List ys_L) : Prop := ∀ f ∈ fs, 0 ≤ ys_ev r f
noncomputable def ys_ge (v : ys_E) (fs : List ys_L) : Nat → ys_L → Bool
  | 0, e => ys_geb v e 0
  | d + 1, e => ys_geb v e 0 || fs.any (fun f => ys_ge v fs d (ys_sub e f))
theorem ys_ge_le {r : Nat → Int} {v : ys_E} {fs : List ys_L} (h : ys_ok r v) (hf : ys_fk r fs) : ∀ (d : Nat) (e : ys_L), ys_ge v fs d e = true → 0 ≤ ys_ev r e
  | 0, e, hz => ys_geb_le h hz
  | d + 1, e, hz => by
    unfold ys_ge at hz
    rcases (Bool.or_eq_true _ _).mp hz with h1 | h1
    · exact ys_geb_le h h1
    · obtain ⟨f, hm, h2⟩ := List.any_eq_true.mp h1
      have h3 := ys_ge_le h hf d _ h2
      rw [ys_sub_ev] at h3
      have := hf f hm
      omega
/-- a fact makes bounds tighter -/
noncomputable def ys_tg (f : ys_L) : List (Nat × Int) → ys_E → ys_E
  | [], v => v
  | q :: t, v => ys_tg f t (match yu_at v q.1 with
    | none => v
    | some w =>
      if yu_zn 1 q.2 = true then (match ys_high v (ys_add f ([(q.1, -1)], 0)) with
        | some u => if w.1 < -u then v.set q.1 (-u, w.2) else v
        | none => v)
      else if q.2 = -1 then (match ys_high v (ys_add f ([(q.1, 1)], 0)) with
        | some u => if u < w.2 then v.set q.1 (w.1, u) else v
        | none => v)
      else v)
theorem ys_ok_set {r : Nat → Int} {v : ys_E} (h : ys_ok r v) (i : Nat) (w : Int × Int) (hw : w.1 ≤ r i ∧ r i ≤ w.2) : ys_ok r (v.set i w) := by
  intro j q hq
  by_cases hj : i = j
  · subst hj
    by_cases hl : i < v.length
    · rw [List.getElem?_set_self hl] at hq
      cases hq
      exact hw
    · rw [List.getElem?_eq_none (by rw [List.length_set]; omega)] at hq
      cases hq
  · rw [List.getElem?_set_ne hj] at hq
    exact h j q hq
theorem ys_tg_len (f : ys_L) : ∀ (l : List (Nat × Int)) (v : ys_E), (ys_tg f l v).length = v.length
  | [], v => rfl
  | q :: t, v => by
    unfold ys_tg
    rw [ys_tg_len f t]
    split
    · rfl
    · split
      · split
        · split
          · exact List.length_set
          · rfl
        · rfl
      · split
        · split
          · split
            · exact List.length_set
            · rfl
          · rfl
        · rfl
theorem ys_tg_ok {r : Nat → Int} {f : ys_L} (hf : 0 ≤ ys_ev r f) : ∀ (l : List (Nat × Int)) (v : ys_E), ys_ok r v → ys_ok r (ys_tg f l v)
  | [], v, h => h
  | q :: t, v, h => by
    unfold ys_tg
    refine ys_tg_ok hf t _ ?_
    split
    · exact h
    · rename_i w hw
      rw [yu_at_eq] at hw
      have hb := h q.1 w hw
      have one : ∀ c : Int, ys_ev r ([(q.1, c)], 0) = c * r q.1 := by
        intro c
        show c * r q.1 + 0 + 0 = _
        omega
      split
      · split
        · rename_i u hu
          have h2 := ys_high_le h hu
          rw [ys_add_ev, one] at h2
          split
          · exact ys_ok_set h _ _ ⟨by show -u ≤ _; omega, hb.2⟩
          · exact h
        · exact h
      · split
        · split
          · rename_i u hu
            have h2 := ys_high_le h hu
            rw [ys_add_ev, one] at h2
            split
            · exact ys_ok_set h _ _ ⟨hb.1, by show _ ≤ u; omega⟩
            · exact h
          · exact h
        · exact h
/-- bounds and facts -/
abbrev ys_B : Type := ys_E × List ys_L
noncomputable def ys_okB (r : Nat → Int) (b : ys_B) : Prop := ys_ok r b.1 ∧ ys_fk r b.2
/-- one more fact: nothing, if it can't be -/
noncomputable def ys_as (b : ys_B) (f : ys_L) : Option ys_B :=
  if ys_geb b.1 (ys_scale (-1) f) 1 then none
  else some (ys_tg f f.1 b.1, match f.1 with
    | [] => b.2
    | [q] => if q.2 = 1 then b.2 else if q.2 = -1 then b.2 else f :: b.2
    | _ => f :: b.2)
theorem ys_as_ok {r : Nat → Int} {b : ys_B} {f : ys_L} (h : ys_okB r b) (hf : 0 ≤ ys_ev r f) : ∃ b', ys_as b f = some b' ∧ ys_okB r b' := by
  unfold ys_as
  have hn : ¬ ys_geb b.1 (ys_scale (-1) f) 1 = true := by
    intro h1
    have h2 := ys_geb_le h.1 h1
    rw [ys_scale_ev] at h2
    omega
  rw [if_neg hn]
  refine ⟨_, rfl, ys_tg_ok hf _ _ h.1, ?_⟩
  have hc : ys_fk r (f :: b.2) := fun g hg => by
    rcases List.mem_cons.mp hg with e | e
    · rw [e]; exact hf
    · exact h.2 g e
  show ys_fk r (match f.1 with
    | [] => b.2
    | [q] => if q.2 = 1 then b.2 else if q.2 = -1 then b.2 else f :: b.2
    | _ => f :: b.2)
  split
  · exact h.2
  · split
    · exact h.2
    · split
      · exact h.2
      · exact hc
  · exact hc
theorem ys_as_len {b b' : ys_B} {f : ys_L} (h : ys_as b f = some b') : b'.1.length = b.1.length := by
  unfold ys_as at h
  split at h
  · cases h
  · cases Option.some.inj h
    exact ys_tg_len _ _ _
/-- several facts -/
noncomputable def ys_ass (b : ys_B) : List ys_L → Option ys_B
  | [] => some b
  | f :: t => match ys_as b f with
    | none => none
    | some b' => ys_ass b' t
theorem ys_ass_ok {r : Nat → Int} : ∀ (fs : List ys_L) {b : ys_B}, ys_okB r b → ys_fk r fs → ∃ b', ys_ass b fs = some b' ∧ ys_okB r b'
  | [], b, h, _ => ⟨b, rfl, h⟩
  | f :: t, b, h, hf => by
    obtain ⟨b1, e1, h1⟩ := ys_as_ok h (hf f List.mem_cons_self)
    obtain ⟨b2, e2, h2⟩ := ys_ass_ok t h1 (fun g hg => hf g (List.mem_cons_of_mem _ hg))
    refine ⟨b2, ?_, h2⟩
    unfold ys_ass
    rw [e1]
    exact e2
theorem ys_ass_len : ∀ (fs : List ys_L) {b b' : ys_B}, ys_ass b fs = some b' → b'.1.length = b.1.length
  | [], b, b', h => by cases Option.some.inj h; rfl
  | f :: t, b, b', h => by
    unfold ys_ass at h
    cases h1 : ys_as b f with
    | none => rw [h1] at h; cases h
    | some b1 =>
      rw [h1] at h
      rw [ys_ass_len t h, ys_as_len h1]
/-- putting linear numbers for symbols: those below E stay -/
noncomputable def ys_at (E : Nat) (t : List ys_L) (i : Nat) : ys_L := if i < E then ys_sym i else t.getD (i - E) ([], 0)
noncomputable def ys_pl (E : Nat) (t : List ys_L) : List (Nat × Int) → ys_L
  | [] => ([], 0)
  | q :: l => ys_add (ys_scale q.2 (ys_at E t q.1)) (ys_pl E t l)
noncomputable def ys_put (E : Nat) (t : List ys_L) (e : ys_L) : ys_L := ys_add (ys_pl E t e.1) ([], e.2)
/-- the numbers that the symbols then stand for -/
noncomputable def ys_val (r : Nat → Int) (E : Nat) (t : List ys_L) (i : Nat) : Int := ys_ev r (ys_at E t i)
theorem ys_pl_ev (r : Nat → Int) (E : Nat) (t : List ys_L) : ∀ l, ys_ev r (ys_pl E t l) = ys_sum (ys_val r E t) l
  | [] => rfl
  | q :: l => by
    show ys_ev r (ys_add _ _) = q.2 * ys_val r E t q.1 + _
    rw [ys_add_ev, ys_scale_ev, ys_pl_ev r E t l]
    rfl
theorem ys_put_ev (r : Nat → Int) (E : Nat) (t : List ys_L) (e : ys_L) : ys_ev r (ys_put E t e) = ys_ev (ys_val r E t) e := by
  show ys_ev r (ys_add _ _) = _
  rw [ys_add_ev, ys_pl_ev]
  show _ + (0 + e.2) = _ + e.2
  rw [Int.zero_add]
theorem ys_val_low {r : Nat → Int} {E : Nat} {t : List ys_L} {i : Nat} (h : i < E) : ys_val r E t i = r i := by
  show ys_ev r (ys_at E t i) = r i
  unfold ys_at
  rw [if_pos h, ys_sym_ev]
/-- other symbols don't matter -/
noncomputable def ys_bel (n : Nat) (e : ys_L) : Bool := e.1.all (fun q => decide (q.1 < n))
theorem ys_sum_cong {r r' : Nat → Int} {n : Nat} (h : ∀ i, i < n → r i = r' i) : ∀ l : List (Nat × Int), l.all (fun q => decide (q.1 < n)) = true → ys_sum r l = ys_sum r' l
  | [], _ => rfl
  | q :: t, hl => by
    rw [List.all_cons, Bool.and_eq_true] at hl
    show q.2 * r q.1 + ys_sum r t = q.2 * r' q.1 + ys_sum r' t
    rw [h q.1 (of_decide_eq_true hl.1), ys_sum_cong h t hl.2]
theorem ys_ev_cong {r r' : Nat → Int} {n : Nat} (h : ∀ i, i < n → r i = r' i) {e : ys_L} (he : ys_bel n e = true) : ys_ev r e = ys_ev r' e := by
  show ys_sum r e.1 + e.2 = ys_sum r' e.1 + e.2
  rw [ys_sum_cong h e.1 he]
