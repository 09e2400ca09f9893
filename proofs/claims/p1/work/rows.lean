section
/-! linear numbers over symbols, their bounds, what follows from facts -/
abbrev ys_L : Type := List (Nat × Int) × Int
def ys_sum (r : Nat → Int) : List (Nat × Int) → Int
  | [] => 0
  | q :: t => q.2 * r q.1 + ys_sum r t
def ys_ev (r : Nat → Int) (e : ys_L) : Int := ys_sum r e.1 + e.2
def ys_ins (i : Nat) (c : Int) : List (Nat × Int) → List (Nat × Int)
  | [] => [(i, c)]
  | q :: t => if i = q.1 then (if c + q.2 = 0 then t else (i, c + q.2) :: t) else q :: ys_ins i c t
def ys_addl : List (Nat × Int) → List (Nat × Int) → List (Nat × Int)
  | [], m => m
  | q :: t, m => ys_ins q.1 q.2 (ys_addl t m)
def ys_add (a b : ys_L) : ys_L := (ys_addl a.1 b.1, a.2 + b.2)
def ys_scl (k : Int) : List (Nat × Int) → List (Nat × Int)
  | [] => []
  | q :: t => (q.1, k * q.2) :: ys_scl k t
def ys_scale (k : Int) (a : ys_L) : ys_L := if k = 0 then ([], 0) else (ys_scl k a.1, k * a.2)
def ys_sub (a b : ys_L) : ys_L := ys_add a (ys_scale (-1) b)
def ys_cst (k : Int) : ys_L := ([], k)
def ys_sym (i : Nat) : ys_L := ([(i, 1)], 0)
theorem ys_ins_ev (r : Nat → Int) (i : Nat) (c : Int) : ∀ l, ys_sum r (ys_ins i c l) = c * r i + ys_sum r l
  | [] => rfl
  | q :: t => by
    unfold ys_ins
    by_cases h : i = q.1
    · rw [if_pos h]
      by_cases h2 : c + q.2 = 0
      · rw [if_pos h2]
        show _ = c * r i + (q.2 * r q.1 + ys_sum r t)
        rw [h, ← Int.add_assoc, ← Int.add_mul, h2, Int.zero_mul, Int.zero_add]
      · rw [if_neg h2]
        show (c + q.2) * r i + ys_sum r t = c * r i + (q.2 * r q.1 + ys_sum r t)
        rw [h, ← Int.add_assoc, ← Int.add_mul]
    · rw [if_neg h]
      show q.2 * r q.1 + ys_sum r (ys_ins i c t) = c * r i + (q.2 * r q.1 + ys_sum r t)
      rw [ys_ins_ev r i c t]
      omega
theorem ys_addl_ev (r : Nat → Int) : ∀ l m, ys_sum r (ys_addl l m) = ys_sum r l + ys_sum r m
  | [], m => (Int.zero_add _).symm
  | q :: t, m => by
    show ys_sum r (ys_ins q.1 q.2 (ys_addl t m)) = q.2 * r q.1 + ys_sum r t + ys_sum r m
    rw [ys_ins_ev, ys_addl_ev r t m]
    omega
theorem ys_add_ev (r : Nat → Int) (a b : ys_L) : ys_ev r (ys_add a b) = ys_ev r a + ys_ev r b := by
  show ys_sum r (ys_addl a.1 b.1) + (a.2 + b.2) = (ys_sum r a.1 + a.2) + (ys_sum r b.1 + b.2)
  rw [ys_addl_ev]
  omega
theorem ys_scl_ev (r : Nat → Int) (k : Int) : ∀ l, ys_sum r (ys_scl k l) = k * ys_sum r l
  | [] => (Int.mul_zero k).symm
  | q :: t => by
    show k * q.2 * r q.1 + ys_sum r (ys_scl k t) = k * (q.2 * r q.1 + ys_sum r t)
    rw [ys_scl_ev r k t, Int.mul_add, Int.mul_assoc]
theorem ys_scale_ev (r : Nat → Int) (k : Int) (a : ys_L) : ys_ev r (ys_scale k a) = k * ys_ev r a := by
  unfold ys_scale
  by_cases h : k = 0
  · rw [if_pos h, h, Int.zero_mul]
    rfl
  · rw [if_neg h]
    show ys_sum r (ys_scl k a.1) + k * a.2 = k * (ys_sum r a.1 + a.2)
    rw [ys_scl_ev, Int.mul_add]
theorem ys_sub_ev (r : Nat → Int) (a b : ys_L) : ys_ev r (ys_sub a b) = ys_ev r a - ys_ev r b := by
  show ys_ev r (ys_add a (ys_scale (-1) b)) = _
  rw [ys_add_ev, ys_scale_ev]
  omega
theorem ys_cst_ev (r : Nat → Int) (k : Int) : ys_ev r (ys_cst k) = k := Int.zero_add k
theorem ys_sym_ev (r : Nat → Int) (i : Nat) : ys_ev r (ys_sym i) = r i := by
  show 1 * r i + 0 + 0 = r i
  omega
/-- bounds of the symbols -/
abbrev ys_E : Type := List (Int × Int)
def ys_ok (r : Nat → Int) (v : ys_E) : Prop := ∀ (i : Nat) (q : Int × Int), v[i]? = some q → q.1 ≤ r i ∧ r i ≤ q.2
def ys_lo (v : ys_E) : List (Nat × Int) → Option Int
  | [] => some 0
  | q :: t => match v[q.1]?, ys_lo v t with
    | some w, some z => some ((if 0 ≤ q.2 then q.2 * w.1 else q.2 * w.2) + z)
    | _, _ => none
def ys_low (v : ys_E) (e : ys_L) : Option Int := match ys_lo v e.1 with
  | some z => some (z + e.2)
  | none => none
theorem ys_lo_le {r : Nat → Int} {v : ys_E} (h : ys_ok r v) : ∀ (l : List (Nat × Int)) (z : Int), ys_lo v l = some z → z ≤ ys_sum r l
  | [], z, hz => by
    cases hz
    exact Int.le_refl 0
  | q :: t, z, hz => by
    unfold ys_lo at hz
    cases h1 : v[q.1]? with
    | none => rw [h1] at hz; cases hz
    | some w =>
      cases h2 : ys_lo v t with
      | none => rw [h1, h2] at hz; cases hz
      | some y =>
        rw [h1, h2] at hz
        have hy := ys_lo_le h t y h2
        have hw := h q.1 w h1
        have hz := Option.some.inj hz
        show z ≤ q.2 * r q.1 + ys_sum r t
        by_cases hc : 0 ≤ q.2
        · rw [if_pos hc] at hz
          have := Int.mul_le_mul_of_nonneg_left hw.1 hc
          omega
        · rw [if_neg hc] at hz
          have := Int.mul_le_mul_of_nonpos_left (a := q.2) (Int.le_of_lt (Int.not_le.mp hc)) hw.2
          omega
theorem ys_low_le {r : Nat → Int} {v : ys_E} (h : ys_ok r v) {e : ys_L} {z : Int} (hz : ys_low v e = some z) : z ≤ ys_ev r e := by
  unfold ys_low at hz
  cases h1 : ys_lo v e.1 with
  | none => rw [h1] at hz; cases hz
  | some y =>
    rw [h1] at hz
    have hy := ys_lo_le h e.1 y h1
    have hz := Option.some.inj hz
    show z ≤ ys_sum r e.1 + e.2
    omega
/-- at least k by the bounds alone -/
def ys_geb (v : ys_E) (e : ys_L) (k : Int) : Bool := match ys_low v e with
  | some z => decide (k ≤ z)
  | none => false
theorem ys_geb_le {r : Nat → Int} {v : ys_E} (h : ys_ok r v) {e : ys_L} {k : Int} (hz : ys_geb v e k = true) : k ≤ ys_ev r e := by
  unfold ys_geb at hz
  cases h1 : ys_low v e with
  | none => rw [h1] at hz; cases hz
  | some y =>
    rw [h1] at hz
    exact Int.le_trans (of_decide_eq_true hz) (ys_low_le h h1)
def ys_high (v : ys_E) (e : ys_L) : Option Int := match ys_low v (ys_scale (-1) e) with
  | some z => some (-z)
  | none => none
theorem ys_high_le {r : Nat → Int} {v : ys_E} (h : ys_ok r v) {e : ys_L} {z : Int} (hz : ys_high v e = some z) : ys_ev r e ≤ z := by
  unfold ys_high at hz
  cases h1 : ys_low v (ys_scale (-1) e) with
  | none => rw [h1] at hz; cases hz
  | some y =>
    rw [h1] at hz
    have h2 := ys_low_le h h1
    rw [ys_scale_ev] at h2
    have hz := Option.some.inj hz
    omega
/-- facts: each is at least 0 -/
def ys_fk (r : Nat → Int) (fs : List ys_L) : Prop := ∀ f ∈ fs, 0 ≤ ys_ev r f
def ys_ge (v : ys_E) (fs : List ys_L) : Nat → ys_L → Bool
  | 0, e => ys_geb v e 0
  | d + 1, e => ys_geb v e 0 || fs.any (fun f => ys_ge v fs d (ys_sub e f))
theorem ys_ge_le {r : Nat → Int} {v : ys_E} {fs : List ys_L} (h : ys_ok r v) (hf : ys_fk r fs) : ∀ (d : Nat) (e : ys_L), ys_ge v fs d e = true → 0 ≤ ys_ev r e
  | 0, e, hz => ys_geb_le h hz
  | d + 1, e, hz => by
    unfold ys_ge at hz
    rcases (Bool.or_eq_true _ _).mp hz with h1 | h1
    · exact ys_geb_le h h1
    · obtain ⟨f, hm, h2⟩ := List.any_eq_true.mp h1
      have h3 := ys_ge_le h hf d _ h2
      rw [ys_sub_ev] at h3
      have := hf f hm
      omega
/-- a fact makes bounds tighter -/
def ys_tg (f : ys_L) : List (Nat × Int) → ys_E → ys_E
  | [], v => v
  | q :: t, v => ys_tg f t (match v[q.1]? with
    | none => v
    | some w =>
      if q.2 = 1 then (match ys_high v (ys_add f ([(q.1, -1)], 0)) with
        | some u => if w.1 < -u then v.set q.1 (-u, w.2) else v
        | none => v)
      else if q.2 = -1 then (match ys_high v (ys_add f ([(q.1, 1)], 0)) with
        | some u => if u < w.2 then v.set q.1 (w.1, u) else v
        | none => v)
      else v)
theorem ys_ok_set {r : Nat → Int} {v : ys_E} (h : ys_ok r v) (i : Nat) (w : Int × Int) (hw : w.1 ≤ r i ∧ r i ≤ w.2) : ys_ok r (v.set i w) := by
  intro j q hq
  by_cases hj : i = j
  · subst hj
    by_cases hl : i < v.length
    · rw [List.getElem?_set_self hl] at hq
      cases hq
      exact hw
    · rw [List.getElem?_eq_none (by rw [List.length_set]; omega)] at hq
      cases hq
  · rw [List.getElem?_set_ne hj] at hq
    exact h j q hq
theorem ys_tg_len (f : ys_L) : ∀ (l : List (Nat × Int)) (v : ys_E), (ys_tg f l v).length = v.length
  | [], v => rfl
  | q :: t, v => by
    unfold ys_tg
    rw [ys_tg_len f t]
    split
    · rfl
    · split
      · split
        · split
          · exact List.length_set
          · rfl
        · rfl
      · split
        · split
          · split
            · exact List.length_set
            · rfl
          · rfl
        · rfl
theorem ys_tg_ok {r : Nat → Int} {f : ys_L} (hf : 0 ≤ ys_ev r f) : ∀ (l : List (Nat × Int)) (v : ys_E), ys_ok r v → ys_ok r (ys_tg f l v)
  | [], v, h => h
  | q :: t, v, h => by
    unfold ys_tg
    refine ys_tg_ok hf t _ ?_
    split
    · exact h
    · rename_i w hw
      have hb := h q.1 w hw
      have one : ∀ c : Int, ys_ev r ([(q.1, c)], 0) = c * r q.1 := by
        intro c
        show c * r q.1 + 0 + 0 = _
        omega
      split
      · split
        · rename_i u hu
          have h2 := ys_high_le h hu
          rw [ys_add_ev, one] at h2
          split
          · exact ys_ok_set h _ _ ⟨by show -u ≤ _; omega, hb.2⟩
          · exact h
        · exact h
      · split
        · split
          · rename_i u hu
            have h2 := ys_high_le h hu
            rw [ys_add_ev, one] at h2
            split
            · exact ys_ok_set h _ _ ⟨hb.1, by show _ ≤ u; omega⟩
            · exact h
          · exact h
        · exact h
/-- bounds and facts -/
abbrev ys_B : Type := ys_E × List ys_L
def ys_okB (r : Nat → Int) (b : ys_B) : Prop := ys_ok r b.1 ∧ ys_fk r b.2
/-- one more fact: nothing, if it can't be -/
def ys_as (b : ys_B) (f : ys_L) : Option ys_B :=
  if ys_geb b.1 (ys_scale (-1) f) 1 then none
  else some (ys_tg f f.1 b.1, match f.1 with
    | [] => b.2
    | [q] => if q.2 = 1 then b.2 else if q.2 = -1 then b.2 else f :: b.2
    | _ => f :: b.2)
theorem ys_as_ok {r : Nat → Int} {b : ys_B} {f : ys_L} (h : ys_okB r b) (hf : 0 ≤ ys_ev r f) : ∃ b', ys_as b f = some b' ∧ ys_okB r b' := by
  unfold ys_as
  have hn : ¬ ys_geb b.1 (ys_scale (-1) f) 1 = true := by
    intro h1
    have h2 := ys_geb_le h.1 h1
    rw [ys_scale_ev] at h2
    omega
  rw [if_neg hn]
  refine ⟨_, rfl, ys_tg_ok hf _ _ h.1, ?_⟩
  have hc : ys_fk r (f :: b.2) := fun g hg => by
    rcases List.mem_cons.mp hg with e | e
    · rw [e]; exact hf
    · exact h.2 g e
  show ys_fk r (match f.1 with
    | [] => b.2
    | [q] => if q.2 = 1 then b.2 else if q.2 = -1 then b.2 else f :: b.2
    | _ => f :: b.2)
  split
  · exact h.2
  · split
    · exact h.2
    · split
      · exact h.2
      · exact hc
  · exact hc
theorem ys_as_len {b b' : ys_B} {f : ys_L} (h : ys_as b f = some b') : b'.1.length = b.1.length := by
  unfold ys_as at h
  split at h
  · cases h
  · cases Option.some.inj h
    exact ys_tg_len _ _ _
/-- several facts -/
def ys_ass (b : ys_B) : List ys_L → Option ys_B
  | [] => some b
  | f :: t => match ys_as b f with
    | none => none
    | some b' => ys_ass b' t
theorem ys_ass_ok {r : Nat → Int} : ∀ (fs : List ys_L) {b : ys_B}, ys_okB r b → ys_fk r fs → ∃ b', ys_ass b fs = some b' ∧ ys_okB r b'
  | [], b, h, _ => ⟨b, rfl, h⟩
  | f :: t, b, h, hf => by
    obtain ⟨b1, e1, h1⟩ := ys_as_ok h (hf f List.mem_cons_self)
    obtain ⟨b2, e2, h2⟩ := ys_ass_ok t h1 (fun g hg => hf g (List.mem_cons_of_mem _ hg))
    refine ⟨b2, ?_, h2⟩
    unfold ys_ass
    rw [e1]
    exact e2
theorem ys_ass_len : ∀ (fs : List ys_L) {b b' : ys_B}, ys_ass b fs = some b' → b'.1.length = b.1.length
  | [], b, b', h => by cases Option.some.inj h; rfl
  | f :: t, b, b', h => by
    unfold ys_ass at h
    cases h1 : ys_as b f with
    | none => rw [h1] at h; cases h
    | some b1 =>
      rw [h1] at h
      rw [ys_ass_len t h, ys_as_len h1]
/-- putting linear numbers for symbols: those below E stay -/
def ys_at (E : Nat) (t : List ys_L) (i : Nat) : ys_L := if i < E then ys_sym i else t.getD (i - E) ([], 0)
def ys_pl (E : Nat) (t : List ys_L) : List (Nat × Int) → ys_L
  | [] => ([], 0)
  | q :: l => ys_add (ys_scale q.2 (ys_at E t q.1)) (ys_pl E t l)
def ys_put (E : Nat) (t : List ys_L) (e : ys_L) : ys_L := ys_add (ys_pl E t e.1) ([], e.2)
/-- the numbers that the symbols then stand for -/
def ys_val (r : Nat → Int) (E : Nat) (t : List ys_L) (i : Nat) : Int := ys_ev r (ys_at E t i)
theorem ys_pl_ev (r : Nat → Int) (E : Nat) (t : List ys_L) : ∀ l, ys_ev r (ys_pl E t l) = ys_sum (ys_val r E t) l
  | [] => rfl
  | q :: l => by
    show ys_ev r (ys_add _ _) = q.2 * ys_val r E t q.1 + _
    rw [ys_add_ev, ys_scale_ev, ys_pl_ev r E t l]
    rfl
theorem ys_put_ev (r : Nat → Int) (E : Nat) (t : List ys_L) (e : ys_L) : ys_ev r (ys_put E t e) = ys_ev (ys_val r E t) e := by
  show ys_ev r (ys_add _ _) = _
  rw [ys_add_ev, ys_pl_ev]
  show _ + (0 + e.2) = _ + e.2
  rw [Int.zero_add]
theorem ys_val_low {r : Nat → Int} {E : Nat} {t : List ys_L} {i : Nat} (h : i < E) : ys_val r E t i = r i := by
  show ys_ev r (ys_at E t i) = r i
  unfold ys_at
  rw [if_pos h, ys_sym_ev]
/-- other symbols don't matter -/
def ys_bel (n : Nat) (e : ys_L) : Bool := e.1.all (fun q => decide (q.1 < n))
theorem ys_sum_cong {r r' : Nat → Int} {n : Nat} (h : ∀ i, i < n → r i = r' i) : ∀ l : List (Nat × Int), l.all (fun q => decide (q.1 < n)) = true → ys_sum r l = ys_sum r' l
  | [], _ => rfl
  | q :: t, hl => by
    rw [List.all_cons, Bool.and_eq_true] at hl
    show q.2 * r q.1 + ys_sum r t = q.2 * r' q.1 + ys_sum r' t
    rw [h q.1 (of_decide_eq_true hl.1), ys_sum_cong h t hl.2]
theorem ys_ev_cong {r r' : Nat → Int} {n : Nat} (h : ∀ i, i < n → r i = r' i) {e : ys_L} (he : ys_bel n e = true) : ys_ev r e = ys_ev r' e := by
  show ys_sum r e.1 + e.2 = ys_sum r' e.1 + e.2
  rw [ys_sum_cong h e.1 he]
end
section
/-! values, states, what they stand for -/
abbrev ys_V : Type := (ys_L ⊕ ys_L) ⊕ Option Nat
/-- what an array holds: bounds of all, others at some places -/
abbrev ys_R : Type := (Int × Int) × List (Nat × (Int × Int))
abbrev ys_F : Type := List (List ys_V) × List ys_R
abbrev ys_S : Type := ys_B × ys_F × List (Nat × ys_V) × List ys_V
def ys_rat (a : ys_R) (j : Nat) : Int × Int := (a.2.lookup j).getD a.1
def ys_rok (a : ys_R) (f : Nat → Int) : Prop := ∀ j, (ys_rat a j).1 ≤ f j ∧ f j ≤ (ys_rat a j).2
def ys_den (ad : Nat → Nat) (r : Nat → Int) : ys_V → Value
  | .inl (.inl e) => .int (Int32.ofInt (ys_ev r e))
  | .inl (.inr e) => .long (Int64.ofInt (ys_ev r e))
  | .inr none => .null
  | .inr (some k) => .ref (ad k)
/-- what the symbols below n settle -/
def ys_stb (n : Nat) (e : ys_L) : Prop := ∀ r r' : Nat → Int, (∀ i, i < n → r i = r' i) → ys_ev r e = ys_ev r' e
def ys_stV (n : Nat) : ys_V → Prop
  | .inl (.inl e) => ys_stb n e
  | .inl (.inr e) => ys_stb n e
  | .inr _ => True
theorem ys_stb_mono {n m : Nat} {e : ys_L} (h : ys_stb n e) (hm : n ≤ m) : ys_stb m e := fun r r' hr => h r r' fun i hi => hr i (Nat.lt_of_lt_of_le hi hm)
theorem ys_stV_mono {n m : Nat} {v : ys_V} (h : ys_stV n v) (hm : n ≤ m) : ys_stV m v := by
  rcases v with (e | e) | o
  · exact ys_stb_mono (e := e) h hm
  · exact ys_stb_mono (e := e) h hm
  · trivial
theorem ys_stb_add {n : Nat} {a b : ys_L} (ha : ys_stb n a) (hb : ys_stb n b) : ys_stb n (ys_add a b) := fun r r' hr => by
  rw [ys_add_ev, ys_add_ev, ha r r' hr, hb r r' hr]
theorem ys_stb_scale {n : Nat} {a : ys_L} (k : Int) (ha : ys_stb n a) : ys_stb n (ys_scale k a) := fun r r' hr => by
  rw [ys_scale_ev, ys_scale_ev, ha r r' hr]
theorem ys_stb_sub {n : Nat} {a b : ys_L} (ha : ys_stb n a) (hb : ys_stb n b) : ys_stb n (ys_sub a b) := ys_stb_add ha (ys_stb_scale (-1) hb)
theorem ys_stb_cst {n : Nat} (k : Int) : ys_stb n (ys_cst k) := fun r r' _ => by rw [ys_cst_ev, ys_cst_ev]
theorem ys_stb_sym {n i : Nat} (h : i < n) : ys_stb n (ys_sym i) := fun r r' hr => by rw [ys_sym_ev, ys_sym_ev, hr i h]
theorem ys_stb_bel {n : Nat} {e : ys_L} (h : ys_bel n e = true) : ys_stb n e := fun _ _ hr => ys_ev_cong hr h
theorem ys_stb_at {n E : Nat} {t : List ys_L} (hE : E ≤ n) (ht : ∀ e ∈ t, ys_stb n e) (i : Nat) : ys_stb n (ys_at E t i) := by
  unfold ys_at
  by_cases h : i < E
  · rw [if_pos h]
    exact ys_stb_sym (Nat.lt_of_lt_of_le h hE)
  · rw [if_neg h, List.getD_eq_getElem?_getD]
    cases hc : t[i - E]? with
    | none => exact fun _ _ _ => rfl
    | some e => exact ht e (List.mem_of_getElem? hc)
theorem ys_stb_put {n E : Nat} {t : List ys_L} (hE : E ≤ n) (ht : ∀ e ∈ t, ys_stb n e) (e : ys_L) : ys_stb n (ys_put E t e) := fun r r' hr => by
  have hv : ys_val r E t = ys_val r' E t := funext fun i => ys_stb_at hE ht i r r' hr
  rw [ys_put_ev, ys_put_ev, hv]
theorem ys_den_cong {ad : Nat → Nat} {n : Nat} {r r' : Nat → Int} (h : ∀ i, i < n → r i = r' i) {v : ys_V} (hv : ys_stV n v) : ys_den ad r v = ys_den ad r' v := by
  rcases v with (e | e) | o
  · show Value.int _ = Value.int _
    rw [show ys_ev r e = ys_ev r' e from hv r r' h]
  · show Value.long _ = Value.long _
    rw [show ys_ev r e = ys_ev r' e from hv r r' h]
  · cases o <;> rfl
def ys_scB (b : ys_B) : Prop := ∀ f ∈ b.2, ys_stb b.1.length f
def ys_sc (S : ys_S) : Prop := ys_scB S.1 ∧ (∀ w ∈ S.2.1.1, ∀ v ∈ w, ys_stV S.1.1.length v) ∧ (∀ q ∈ S.2.2.1, ys_stV S.1.1.length q.2) ∧ ∀ v ∈ S.2.2.2, ys_stV S.1.1.length v
/-! cells: an object (its number among the kinds of objects); an array: its kind (0 int, 1 long, 2 byte, 3 boolean, 4 on references), length, the cells that it holds -/
abbrev ys_C : Type := Nat ⊕ (Nat × Nat × List Nat)
def ys_con (ad : Nat → Nat) (g : Nat → Int) (a : Nat × Nat × List Nat) : vp_A := (a.2.1, if a.1 = 1 then .inr (.inl fun j => Int64.ofInt (g j)) else if 4 ≤ a.1 then .inr (.inr (.inr (.inr fun j => (a.2.2[j]?).map ad))) else .inl fun j => Int32.ofInt (g j))
def ys_cel (ad : Nat → Nat) (cT : Nat → ClassId) (r : Nat → Int) (g : Nat → Nat → Int) (k : Nat) (c : ys_C) (fs : List ys_V) : Nat × va_E := (ad k, match c with
  | .inl ci => .inr (ci, fs.map (ys_den ad r))
  | .inr a => .inl (cT a.1, ys_con ad (g k) a))
def ys_wld (ad : Nat → Nat) (cT : Nat → ClassId) (sh : List ys_C) (r : Nat → Int) (g : Nat → Nat → Int) (fds : List (List ys_V)) : va_W := (List.range sh.length).map fun k => ys_cel ad cT r g k (sh.getD k (.inl 0)) (fds.getD k [])
theorem ys_wld_get {ad : Nat → Nat} {cT : Nat → ClassId} {sh : List ys_C} {r : Nat → Int} {g : Nat → Nat → Int} {fds : List (List ys_V)} {k : Nat} {c : ys_C} (h : sh[k]? = some c) : (ys_wld ad cT sh r g fds)[k]? = some (ys_cel ad cT r g k c (fds.getD k [])) := by
  have hk := (List.getElem?_eq_some_iff.mp h).1
  unfold ys_wld
  rw [List.getElem?_map, List.getElem?_range hk]
  show some (ys_cel ad cT r g k (sh.getD k (.inl 0)) _) = _
  rw [List.getD_eq_getElem?_getD, h]
  rfl
theorem ys_wld_len {ad : Nat → Nat} {cT : Nat → ClassId} {sh : List ys_C} {r : Nat → Int} {g : Nat → Nat → Int} {fds : List (List ys_V)} : (ys_wld ad cT sh r g fds).length = sh.length := by
  unfold ys_wld
  rw [List.length_map, List.length_range]
/-- a list of cells, changed at one place -/
theorem ys_wld_set {ad : Nat → Nat} {cT : Nat → ClassId} {sh : List ys_C} {r : Nat → Int} {g g' : Nat → Nat → Int} {fds fds' : List (List ys_V)} {k : Nat} {c : ys_C} (h : sh[k]? = some c) (ho : ∀ j, j ≠ k → g' j = g j ∧ fds'.getD j [] = fds.getD j []) : ys_wld ad cT sh r g' fds' = (ys_wld ad cT sh r g fds).set k (ys_cel ad cT r g' k c (fds'.getD k [])) := by
  have hk := (List.getElem?_eq_some_iff.mp h).1
  apply List.ext_getElem?
  intro j
  by_cases hj : k = j
  · subst hj
    rw [List.getElem?_set_self (by rw [ys_wld_len]; exact hk), ys_wld_get h]
  · rw [List.getElem?_set_ne hj]
    obtain ⟨h1, h2⟩ := ho j (fun q => hj q.symm)
    cases hc : sh[j]? with
    | none =>
      have hl : sh.length ≤ j := by simpa using hc
      rw [List.getElem?_eq_none (by rw [ys_wld_len]; exact hl), List.getElem?_eq_none (by rw [ys_wld_len]; exact hl)]
    | some c' =>
      rw [ys_wld_get hc, ys_wld_get hc, h2]
      unfold ys_cel
      rw [h1]
theorem ys_wld_cong {ad : Nat → Nat} {cT : Nat → ClassId} {sh : List ys_C} {r r' : Nat → Int} {g : Nat → Nat → Int} {fds : List (List ys_V)} {n : Nat} (h : ∀ i, i < n → r i = r' i) (hf : ∀ w ∈ fds, ∀ v ∈ w, ys_stV n v) : ys_wld ad cT sh r g fds = ys_wld ad cT sh r' g fds := by
  unfold ys_wld
  apply List.map_congr_left
  intro k _
  have hrow : ∀ v ∈ fds.getD k [], ys_stV n v := by
    rw [List.getD_eq_getElem?_getD]
    cases hc : fds[k]? with
    | none => intro v hv; cases hv
    | some w => exact hf w (List.mem_of_getElem? hc)
  unfold ys_cel
  cases sh.getD k (.inl 0) with
  | inl ci =>
    have e : (fds.getD k []).map (ys_den ad r) = (fds.getD k []).map (ys_den ad r') := List.map_congr_left fun v hv => ys_den_cong h (hrow v hv)
    show (ad k, Sum.inr (ci, _)) = (ad k, Sum.inr (ci, _))
    rw [e]
  | inr a => rfl
/-- what the arrays hold keeps to its bounds; those that may not change are as they were -/
def ys_gok (mods : List Nat) (ars : List ys_R) (g0 g : Nat → Nat → Int) : Prop := (∀ (k : Nat) (a : ys_R), ars[k]? = some a → ys_rok a (g k)) ∧ ∀ k, k ∉ mods → g k = g0 k
section YSR
variable (D : va_G) (cl : List vw_C) (ad : Nat → Nat) (cT : Nat → ClassId) (sh : List ys_C) (A : Nat → Prop) (H0 : Heap) (nL : Nat) (mods : List Nat) (g0 : Nat → Nat → Int)
def ys_Wd (r : Nat → Int) (fds : ys_F) (H : Heap) (locs : List Loc) : Prop := ∃ g, ys_gok mods fds.2 g0 g ∧ va_P D cl (ys_wld ad cT sh r g fds.1) H ∧ va_D A (ys_wld ad cT sh r g fds.1) ∧ va_S A H0 H locs
def ys_lvs (r : Nat → Int) (l : List (Nat × ys_V)) : List (Nat × Value) := l.map fun q => (q.1, ys_den ad r q.2)
def ys_rep (r0 r : Nat → Int) (E : Nat) (S : ys_S) (H : Heap) (locs : List Loc) (ls : Array Slot) (st : List Value) : Prop := ys_okB r S.1 ∧ ys_sc S ∧ (E ≤ S.1.1.length ∧ ∀ i, i < E → r i = r0 i) ∧ ys_Wd D cl ad cT sh A H0 mods g0 r S.2.1 H locs ∧ lv_has ls nL (ys_lvs ad r S.2.2.1) ∧ st = S.2.2.2.map (ys_den ad r)
end YSR
section YSQ
variable {D : va_G} {cl : List vw_C} {ad : Nat → Nat} {cT : Nat → ClassId} {sh : List ys_C} {A : Nat → Prop} {H0 : Heap} {nL : Nat} {mods : List Nat} {g0 : Nat → Nat → Int} {r0 r r' : Nat → Int} {E : Nat} {b b' : ys_B} {fds : ys_F} {lv : List (Nat × ys_V)} {sv : List ys_V} {H : Heap} {locs : List Loc} {ls : Array Slot} {st : List Value}
/-- more symbols, more facts -/
theorem ys_rep_ext (h : ys_rep D cl ad cT sh A H0 nL mods g0 r0 r E (b, fds, lv, sv) H locs ls st) (hag : ∀ i, i < b.1.length → r' i = r i) (hb : ys_okB r' b') (hl : b.1.length ≤ b'.1.length) (hs : ys_scB b') : ys_rep D cl ad cT sh A H0 nL mods g0 r0 r' E (b', fds, lv, sv) H locs ls st := by
  obtain ⟨-, ⟨-, s1, s2, s3⟩, ⟨hE, hr⟩, ⟨g, hg, hP, hD, hS⟩, hlv, hst⟩ := h
  have hag' : ∀ i, i < b.1.length → r i = r' i := fun i hi => (hag i hi).symm
  have ew := ys_wld_cong (ad := ad) (cT := cT) (sh := sh) (g := g) hag' s1
  refine ⟨hb, ⟨hs, fun w hw v hv => ys_stV_mono (s1 w hw v hv) hl, fun q hq => ys_stV_mono (s2 q hq) hl, fun v hv => ys_stV_mono (s3 v hv) hl⟩, ⟨Nat.le_trans hE hl, fun i hi => (hag i (Nat.lt_of_lt_of_le hi hE)).trans (hr i hi)⟩, ⟨g, hg, ?_, ?_, hS⟩, ?_, ?_⟩
  · exact ew ▸ hP
  · exact ew ▸ hD
  · have e : ys_lvs ad r lv = ys_lvs ad r' lv := List.map_congr_left fun q hq => by rw [ys_den_cong hag' (s2 q hq)]
    exact e ▸ hlv
  · rw [hst]
    exact List.map_congr_left fun v hv => ys_den_cong hag' (s3 v hv)
theorem ys_rep_push (h : ys_rep D cl ad cT sh A H0 nL mods g0 r0 r E (b, fds, lv, sv) H locs ls st) (v : ys_V) (hv : ys_stV b.1.length v) : ys_rep D cl ad cT sh A H0 nL mods g0 r0 r E (b, fds, lv, v :: sv) H locs ls (ys_den ad r v :: st) := by
  obtain ⟨h1, ⟨s0, s1, s2, s3⟩, h2, h3, h4, h5⟩ := h
  refine ⟨h1, ⟨s0, s1, s2, fun w hw => ?_⟩, h2, h3, h4, by rw [h5]; rfl⟩
  rcases List.mem_cons.mp hw with e | e
  · rw [e]; exact hv
  · exact s3 w e
theorem ys_rep_pop {v : ys_V} (h : ys_rep D cl ad cT sh A H0 nL mods g0 r0 r E (b, fds, lv, v :: sv) H locs ls st) : ∃ st', st = ys_den ad r v :: st' ∧ ys_rep D cl ad cT sh A H0 nL mods g0 r0 r E (b, fds, lv, sv) H locs ls st' ∧ ys_stV b.1.length v := by
  obtain ⟨h1, ⟨s0, s1, s2, s3⟩, h2, h3, h4, h5⟩ := h
  exact ⟨sv.map (ys_den ad r), h5, ⟨h1, ⟨s0, s1, s2, fun w hw => s3 w (List.mem_cons_of_mem _ hw)⟩, h2, h3, h4, rfl⟩, s3 v List.mem_cons_self⟩
/-- a place of the frame is read -/
theorem ys_find_mem : ∀ (l : List (Nat × ys_V)) (i : Nat) (v : ys_V), l.lookup i = some v → (i, v) ∈ l
  | [], i, v, h => by cases h
  | (j, w) :: t, i, v, h => by
    unfold List.lookup at h
    cases hc : i == j with
    | true =>
      rw [hc] at h
      cases h
      rw [beq_iff_eq] at hc
      rw [hc]
      exact List.mem_cons_self
    | false =>
      rw [hc] at h
      exact List.mem_cons_of_mem _ (ys_find_mem t i v h)
theorem ys_rep_loc {i : Nat} {v : ys_V} (h : ys_rep D cl ad cT sh A H0 nL mods g0 r0 r E (b, fds, lv, sv) H locs ls st) (hi : lv.lookup i = some v) : ls[i]? = some (.val (ys_den ad r v)) ∧ ys_stV b.1.length v := by
  obtain ⟨h1, ⟨s0, s1, s2, s3⟩, h2, h3, h4, h5⟩ := h
  have hm := ys_find_mem lv i v hi
  exact ⟨h4.2.2 (i, ys_den ad r v) (List.mem_map.mpr ⟨(i, v), hm, rfl⟩), s2 _ hm⟩
end YSQ
def ys_cat (v : ys_V) : Nat := match v with
  | .inl (.inr _) => 2
  | _ => 1
theorem ys_cat_den (ad : Nat → Nat) (r : Nat → Int) (v : ys_V) : (ys_den ad r v).category = ys_cat v := by
  rcases v with (e | e) | o
  · rfl
  · rfl
  · cases o <;> rfl
def ys_st1 (l : List (Nat × ys_V)) (i : Nat) (v : ys_V) : List (Nat × ys_V) := (i, v) :: l.filter fun q => !(q.1 == i) && !(q.1 + 1 == i && ys_cat q.2 == 2)
def ys_st2 (l : List (Nat × ys_V)) (i : Nat) (v : ys_V) : List (Nat × ys_V) := (i, v) :: l.filter fun q => !(q.1 == i) && (!(q.1 == i + 1) && !(q.1 + 1 == i && ys_cat q.2 == 2))
theorem ys_st1_lvs (ad : Nat → Nat) (r : Nat → Int) (l : List (Nat × ys_V)) (i : Nat) (v : ys_V) : ys_lvs ad r (ys_st1 l i v) = (i, ys_den ad r v) :: (ys_lvs ad r l).filter (fun q => !(q.1 == i) && !(q.1 + 1 == i && q.2.category == 2)) := by
  unfold ys_st1 ys_lvs
  rw [List.map_cons, List.filter_map]
  congr 2
  apply List.filter_congr
  intro q _
  show _ = (!(q.1 == i) && !(q.1 + 1 == i && (ys_den ad r q.2).category == 2))
  rw [ys_cat_den]
theorem ys_st2_lvs (ad : Nat → Nat) (r : Nat → Int) (l : List (Nat × ys_V)) (i : Nat) (v : ys_V) : ys_lvs ad r (ys_st2 l i v) = (i, ys_den ad r v) :: (ys_lvs ad r l).filter (fun q => !(q.1 == i) && (!(q.1 == i + 1) && !(q.1 + 1 == i && q.2.category == 2))) := by
  unfold ys_st2 ys_lvs
  rw [List.map_cons, List.filter_map]
  congr 2
  apply List.filter_congr
  intro q _
  show _ = (!(q.1 == i) && (!(q.1 == i + 1) && !(q.1 + 1 == i && (ys_den ad r q.2).category == 2)))
  rw [ys_cat_den]
end
section
/-! what the machine's arithmetic does to linear numbers -/
def ys_mn (w : Bool) : Int := match w with
  | false => -2147483648
  | true => -9223372036854775808
def ys_mx (w : Bool) : Int := match w with
  | false => 2147483647
  | true => 9223372036854775807
theorem ys_mn_f : ys_mn false = -2147483648 := rfl
theorem ys_mx_f : ys_mx false = 2147483647 := rfl
theorem ys_mn_t : ys_mn true = -9223372036854775808 := rfl
theorem ys_mx_t : ys_mx true = 9223372036854775807 := rfl
def ys_inr (w : Bool) (v : ys_E) (e : ys_L) : Bool := ys_geb v e (ys_mn w) && ys_geb v (ys_scale (-1) e) (-(ys_mx w))
theorem ys_inr_ok {r : Nat → Int} {v : ys_E} (h : ys_ok r v) {w : Bool} {e : ys_L} (hz : ys_inr w v e = true) : ys_mn w ≤ ys_ev r e ∧ ys_ev r e ≤ ys_mx w := by
  unfold ys_inr at hz
  rw [Bool.and_eq_true] at hz
  have h1 := ys_geb_le h hz.1
  have h2 := ys_geb_le h hz.2
  rw [ys_scale_ev] at h2
  exact ⟨h1, by omega⟩
theorem ys_inr32 {r : Nat → Int} {v : ys_E} (h : ys_ok r v) {e : ys_L} (hz : ys_inr false v e = true) : (Int32.ofInt (ys_ev r e)).toInt = ys_ev r e := by
  obtain ⟨h1, h2⟩ := ys_inr_ok h hz
  rw [ys_mn_f] at h1
  rw [ys_mx_f] at h2
  exact Int32.toInt_ofInt_of_le (by omega) (by omega)
theorem ys_inr64 {r : Nat → Int} {v : ys_E} (h : ys_ok r v) {e : ys_L} (hz : ys_inr true v e = true) : (Int64.ofInt (ys_ev r e)).toInt = ys_ev r e := by
  obtain ⟨h1, h2⟩ := ys_inr_ok h hz
  rw [ys_mn_t] at h1
  rw [ys_mx_t] at h2
  exact Int64.toInt_ofInt_of_le (by omega) (by omega)
def ys_new (b : ys_B) (q : Int × Int) : ys_B × ys_L := ((b.1 ++ [q], b.2), ys_sym b.1.length)
/-- bounds that meet: a constant -/
def ys_ce (v : ys_E) (e : ys_L) : ys_L := match e.1 with
  | [] => e
  | _ => (match ys_low v e, ys_high v e with
    | some l, some u => if l = u then ([], l) else e
    | _, _ => e)
theorem ys_ce_ev {r : Nat → Int} {v : ys_E} (h : ys_ok r v) (e : ys_L) : ys_ev r (ys_ce v e) = ys_ev r e := by
  unfold ys_ce
  split
  · rfl
  · split
    · rename_i l u hl hu
      split
      · have h1 := ys_low_le h hl
        have h2 := ys_high_le h hu
        show ys_ev r (ys_cst l) = _
        rw [ys_cst_ev]
        omega
      · rfl
    · rfl
def ys_nm (w : Bool) (b : ys_B) (e : ys_L) : ys_B × ys_L := if ys_inr w b.1 e = true then (b, ys_ce b.1 e) else ys_new b (ys_mn w, ys_mx w)
theorem ys_ce_st {n : Nat} {v : ys_E} {e : ys_L} (h : ys_stb n e) : ys_stb n (ys_ce v e) := by
  unfold ys_ce
  split
  · exact h
  · split
    · split
      · exact ys_stb_cst _
      · exact h
    · exact h
/-- a result: the numbers so far stay, its own has what is asked -/
def ys_Op (r : Nat → Int) (b : ys_B) (o : ys_B × ys_L) (P : Int → Prop) : Prop := ∃ r' : Nat → Int, (∀ i, i < b.1.length → r' i = r i) ∧ ys_okB r' o.1 ∧ b.1.length ≤ o.1.1.length ∧ ys_scB o.1 ∧ ys_stb o.1.1.length o.2 ∧ P (ys_ev r' o.2)
theorem ys_Op_same {r : Nat → Int} {b : ys_B} {e : ys_L} {P : Int → Prop} (h : ys_okB r b) (hs : ys_scB b) (he : ys_stb b.1.length e) (hp : P (ys_ev r e)) : ys_Op r b (b, e) P := ⟨r, fun _ _ => rfl, h, Nat.le_refl _, hs, he, hp⟩
def ys_up (r : Nat → Int) (n : Nat) (z : Int) : Nat → Int := fun i => if i = n then z else r i
theorem ys_up_lt {r : Nat → Int} {n : Nat} {z : Int} : ∀ i, i < n → ys_up r n z i = r i := fun i hi => if_neg (Nat.ne_of_lt hi)
theorem ys_up_at {r : Nat → Int} {n : Nat} {z : Int} : ys_up r n z n = z := if_pos rfl
theorem ys_new_ok {r : Nat → Int} {b : ys_B} {q : Int × Int} {z : Int} (h : ys_okB r b) (hs : ys_scB b) (hz : q.1 ≤ z ∧ z ≤ q.2) : ys_okB (ys_up r b.1.length z) (b.1 ++ [q], b.2) := by
  refine ⟨fun i w hi => ?_, fun f hf => ?_⟩
  · by_cases hl : i < b.1.length
    · rw [List.getElem?_append_left hl] at hi
      rw [ys_up_lt i hl]
      exact h.1 i w hi
    · have h1 : i < (b.1 ++ [q]).length := (List.getElem?_eq_some_iff.mp hi).1
      rw [List.length_append] at h1
      have h2 : i = b.1.length := by
        have : ([q] : List (Int × Int)).length = 1 := rfl
        omega
      subst h2
      rw [List.getElem?_append_right (Nat.le_refl _), Nat.sub_self] at hi
      cases hi
      rw [ys_up_at]
      exact hz
  · rw [← hs f hf r _ (fun i hi => (ys_up_lt i hi).symm)]
    exact h.2 f hf
theorem ys_scB_new {b : ys_B} {q : Int × Int} (hs : ys_scB b) : ys_scB (b.1 ++ [q], b.2) := fun f hf => ys_stb_mono (hs f hf) (by rw [List.length_append]; omega)
theorem ys_Op_new {r : Nat → Int} {b : ys_B} {q : Int × Int} {P : Int → Prop} (z : Int) (h : ys_okB r b) (hs : ys_scB b) (hz : q.1 ≤ z ∧ z ≤ q.2) (hp : P z) : ys_Op r b (ys_new b q) P := by
  have hl : (b.1 ++ [q]).length = b.1.length + 1 := by rw [List.length_append]; rfl
  refine ⟨ys_up r b.1.length z, ys_up_lt, ys_new_ok h hs hz, ?_, ys_scB_new hs, ?_, ?_⟩
  · show b.1.length ≤ (b.1 ++ [q]).length
    omega
  · show ys_stb (b.1 ++ [q]).length (ys_sym _)
    exact ys_stb_sym (by omega)
  · show P (ys_ev _ (ys_sym b.1.length))
    rw [ys_sym_ev, ys_up_at]
    exact hp
theorem ys_r32 (x : Int32) : ys_mn false ≤ x.toInt ∧ x.toInt ≤ ys_mx false := by
  have h1 := x.le_toInt
  have h2 := x.toInt_lt
  unfold ys_mn ys_mx
  constructor <;> (simp only []; omega)
theorem ys_r64 (x : Int64) : ys_mn true ≤ x.toInt ∧ x.toInt ≤ ys_mx true := by
  have h1 := x.le_toInt
  have h2 := x.toInt_lt
  unfold ys_mn ys_mx
  constructor <;> (simp only []; omega)
/-- one number alone is no symbol -/
def ys_nw (b : ys_B) (q : Int × Int) : ys_B × ys_L := if q.1 = q.2 then (b, ([], q.1)) else ys_new b q
theorem ys_Op_nw {r : Nat → Int} {b : ys_B} {q : Int × Int} {P : Int → Prop} (z : Int) (h : ys_okB r b) (hs : ys_scB b) (hz : q.1 ≤ z ∧ z ≤ q.2) (hp : P z) : ys_Op r b (ys_nw b q) P := by
  unfold ys_nw
  split
  · rename_i he
    refine ys_Op_same h hs (ys_stb_cst q.1) ?_
    show P (ys_ev r (ys_cst q.1))
    rw [ys_cst_ev, show q.1 = z by omega]
    exact hp
  · exact ys_Op_new z h hs hz hp
theorem ys_Op_nw32 {r : Nat → Int} {b : ys_B} {q : Int × Int} (h : ys_okB r b) (hs : ys_scB b) (x : Int32) (hx : q.1 ≤ x.toInt ∧ x.toInt ≤ q.2) : ys_Op r b (ys_nw b q) (fun z => Int32.ofInt z = x) := ys_Op_nw x.toInt h hs hx (Int32.ofInt_toInt x)
theorem ys_Op_nw64 {r : Nat → Int} {b : ys_B} {q : Int × Int} (h : ys_okB r b) (hs : ys_scB b) (x : Int64) (hx : q.1 ≤ x.toInt ∧ x.toInt ≤ q.2) : ys_Op r b (ys_nw b q) (fun z => Int64.ofInt z = x) := ys_Op_nw x.toInt h hs hx (Int64.ofInt_toInt x)
theorem ys_Op_any32 {r : Nat → Int} {b : ys_B} (h : ys_okB r b) (hs : ys_scB b) (x : Int32) : ys_Op r b (ys_new b (ys_mn false, ys_mx false)) (fun z => Int32.ofInt z = x) := ys_Op_new x.toInt h hs (ys_r32 x) (Int32.ofInt_toInt x)
theorem ys_Op_any64 {r : Nat → Int} {b : ys_B} (h : ys_okB r b) (hs : ys_scB b) (x : Int64) : ys_Op r b (ys_new b (ys_mn true, ys_mx true)) (fun z => Int64.ofInt z = x) := ys_Op_new x.toInt h hs (ys_r64 x) (Int64.ofInt_toInt x)
theorem ys_Op_in32 {r : Nat → Int} {b : ys_B} {q : Int × Int} (h : ys_okB r b) (hs : ys_scB b) (x : Int32) (hx : q.1 ≤ x.toInt ∧ x.toInt ≤ q.2) : ys_Op r b (ys_new b q) (fun z => Int32.ofInt z = x) := ys_Op_new x.toInt h hs hx (Int32.ofInt_toInt x)
theorem ys_Op_in64 {r : Nat → Int} {b : ys_B} {q : Int × Int} (h : ys_okB r b) (hs : ys_scB b) (x : Int64) (hx : q.1 ≤ x.toInt ∧ x.toInt ≤ q.2) : ys_Op r b (ys_new b q) (fun z => Int64.ofInt z = x) := ys_Op_new x.toInt h hs hx (Int64.ofInt_toInt x)
theorem ys_Op_nm32 {r : Nat → Int} {b : ys_B} {e : ys_L} (h : ys_okB r b) (hs : ys_scB b) (he : ys_stb b.1.length e) {x : Int32} (hx : Int32.ofInt (ys_ev r e) = x) : ys_Op r b (ys_nm false b e) (fun z => Int32.ofInt z = x) := by
  unfold ys_nm
  by_cases hc : ys_inr false b.1 e = true
  · rw [if_pos hc]
    exact ys_Op_same h hs (ys_ce_st he) (by rw [ys_ce_ev h.1]; exact hx)
  · rw [if_neg hc]
    exact ys_Op_any32 h hs x
theorem ys_Op_nm64 {r : Nat → Int} {b : ys_B} {e : ys_L} (h : ys_okB r b) (hs : ys_scB b) (he : ys_stb b.1.length e) {x : Int64} (hx : Int64.ofInt (ys_ev r e) = x) : ys_Op r b (ys_nm true b e) (fun z => Int64.ofInt z = x) := by
  unfold ys_nm
  by_cases hc : ys_inr true b.1 e = true
  · rw [if_pos hc]
    exact ys_Op_same h hs (ys_ce_st he) (by rw [ys_ce_ev h.1]; exact hx)
  · rw [if_neg hc]
    exact ys_Op_any64 h hs x
/-- an operation on two numbers of one width: what it does to linear numbers is what it does to the machine's -/
def ys_B32 (F : ys_B → ys_L → ys_L → Option (ys_B × ys_L)) (op : Int32 → Int32 → Int32) (ok : Int32 → Prop) : Prop := ∀ (r : Nat → Int) (b : ys_B) (x y : ys_L) (o : ys_B × ys_L), ys_okB r b → ys_scB b → ys_stb b.1.length x → ys_stb b.1.length y → F b x y = some o → ok (Int32.ofInt (ys_ev r y)) ∧ ys_Op r b o (fun z => Int32.ofInt z = op (Int32.ofInt (ys_ev r x)) (Int32.ofInt (ys_ev r y)))
def ys_B64 (F : ys_B → ys_L → ys_L → Option (ys_B × ys_L)) (op : Int64 → Int64 → Int64) (ok : Int64 → Prop) : Prop := ∀ (r : Nat → Int) (b : ys_B) (x y : ys_L) (o : ys_B × ys_L), ys_okB r b → ys_scB b → ys_stb b.1.length x → ys_stb b.1.length y → F b x y = some o → ok (Int64.ofInt (ys_ev r y)) ∧ ys_Op r b o (fun z => Int64.ofInt z = op (Int64.ofInt (ys_ev r x)) (Int64.ofInt (ys_ev r y)))
def ys_fadd (w : Bool) (b : ys_B) (x y : ys_L) : Option (ys_B × ys_L) := some (ys_nm w b (ys_add x y))
def ys_fsub (w : Bool) (b : ys_B) (x y : ys_L) : Option (ys_B × ys_L) := some (ys_nm w b (ys_sub x y))
def ys_fmul (w : Bool) (b : ys_B) (x y : ys_L) : Option (ys_B × ys_L) := some (match x.1, y.1 with
  | [], _ => ys_nm w b (ys_scale x.2 y)
  | _, [] => ys_nm w b (ys_scale y.2 x)
  | _, _ => ys_new b (ys_mn w, ys_mx w))
def ys_fany (w : Bool) (b : ys_B) (_ _ : ys_L) : Option (ys_B × ys_L) := some (ys_new b (ys_mn w, ys_mx w))
theorem ys_fadd32 : ys_B32 (ys_fadd false) (fun x y => x + y) (fun _ => True) := by
  intro r b x y o h hs hx hy ho
  cases Option.some.inj ho
  exact ⟨trivial, ys_Op_nm32 h hs (ys_stb_add hx hy) (by rw [ys_add_ev, Int32.ofInt_add])⟩
theorem ys_fsub32 : ys_B32 (ys_fsub false) (fun x y => x - y) (fun _ => True) := by
  intro r b x y o h hs hx hy ho
  cases Option.some.inj ho
  exact ⟨trivial, ys_Op_nm32 h hs (ys_stb_sub hx hy) (by rw [ys_sub_ev, Int32.ofInt_sub])⟩
theorem ys_fadd64 : ys_B64 (ys_fadd true) (fun x y => x + y) (fun _ => True) := by
  intro r b x y o h hs hx hy ho
  cases Option.some.inj ho
  exact ⟨trivial, ys_Op_nm64 h hs (ys_stb_add hx hy) (by rw [ys_add_ev, Int64.ofInt_add])⟩
theorem ys_fsub64 : ys_B64 (ys_fsub true) (fun x y => x - y) (fun _ => True) := by
  intro r b x y o h hs hx hy ho
  cases Option.some.inj ho
  exact ⟨trivial, ys_Op_nm64 h hs (ys_stb_sub hx hy) (by rw [ys_sub_ev, Int64.ofInt_sub])⟩
theorem ys_ev_nil (r : Nat → Int) {x : ys_L} (h : x.1 = []) : ys_ev r x = x.2 := by
  show ys_sum r x.1 + x.2 = x.2
  rw [h]
  exact Int.zero_add _
theorem ys_fmul32 : ys_B32 (ys_fmul false) (fun x y => x * y) (fun _ => True) := by
  intro r b x y o h hs hx hy ho
  refine ⟨trivial, ?_⟩
  have ho := Option.some.inj ho
  subst ho
  split
  · rename_i h1
    exact ys_Op_nm32 h hs (ys_stb_scale _ hy) (by rw [ys_scale_ev, ys_ev_nil r h1, Int32.ofInt_mul])
  · rename_i h1 _
    exact ys_Op_nm32 h hs (ys_stb_scale _ hx) (by rw [ys_scale_ev, ys_ev_nil r h1, Int32.ofInt_mul, Int32.mul_comm])
  · exact ys_Op_any32 h hs _
theorem ys_fmul64 : ys_B64 (ys_fmul true) (fun x y => x * y) (fun _ => True) := by
  intro r b x y o h hs hx hy ho
  refine ⟨trivial, ?_⟩
  have ho := Option.some.inj ho
  subst ho
  split
  · rename_i h1
    exact ys_Op_nm64 h hs (ys_stb_scale _ hy) (by rw [ys_scale_ev, ys_ev_nil r h1, Int64.ofInt_mul])
  · rename_i h1 _
    exact ys_Op_nm64 h hs (ys_stb_scale _ hx) (by rw [ys_scale_ev, ys_ev_nil r h1, Int64.ofInt_mul, Int64.mul_comm])
  · exact ys_Op_any64 h hs _
theorem ys_fany32 (op : Int32 → Int32 → Int32) : ys_B32 (ys_fany false) op (fun _ => True) := by
  intro r b x y o h hs hx hy ho
  cases Option.some.inj ho
  exact ⟨trivial, ys_Op_any32 h hs _⟩
theorem ys_fany64 (op : Int64 → Int64 → Int64) : ys_B64 (ys_fany true) op (fun _ => True) := by
  intro r b x y o h hs hx hy ho
  cases Option.some.inj ho
  exact ⟨trivial, ys_Op_any64 h hs _⟩
/-! and: with a number not below 0 -/
def ys_nnb (w : Bool) (v : ys_E) (y : ys_L) : Option Int := if ys_geb v y 0 && ys_inr w v y then ys_high v y else none
def ys_fand (w : Bool) (b : ys_B) (x y : ys_L) : Option (ys_B × ys_L) := if y = ([], -1) then some (b, x) else if x = ([], -1) then some (b, y) else match ys_nnb w b.1 x, ys_nnb w b.1 y with
  | some u, some t => some (ys_nw b (0, if u ≤ t then u else t))
  | some u, none => some (ys_nw b (0, u))
  | none, some t => some (ys_nw b (0, t))
  | none, none => some (ys_new b (ys_mn w, ys_mx w))
theorem ys_toNat32 {y : Int32} (h : 0 ≤ y.toInt) : (y.toBitVec.toNat : Int) = y.toInt := by
  have h1 : y.toBitVec.toInt = y.toInt := rfl
  have h2 := BitVec.toInt_eq_toNat_cond y.toBitVec
  have h3 := y.toBitVec.isLt
  split at h2 <;> omega
theorem ys_toNat64 {y : Int64} (h : 0 ≤ y.toInt) : (y.toBitVec.toNat : Int) = y.toInt := by
  have h1 : y.toBitVec.toInt = y.toInt := rfl
  have h2 := BitVec.toInt_eq_toNat_cond y.toBitVec
  have h3 := y.toBitVec.isLt
  split at h2 <;> omega
theorem ys_ofNat32 {y : Int32} (h : y.toBitVec.toNat < 2 ^ 31) : y.toInt = (y.toBitVec.toNat : Int) := by
  have h1 : y.toBitVec.toInt = y.toInt := rfl
  have h2 := BitVec.toInt_eq_toNat_cond y.toBitVec
  split at h2 <;> omega
theorem ys_ofNat64 {y : Int64} (h : y.toBitVec.toNat < 2 ^ 63) : y.toInt = (y.toBitVec.toNat : Int) := by
  have h1 : y.toBitVec.toInt = y.toInt := rfl
  have h2 := BitVec.toInt_eq_toNat_cond y.toBitVec
  split at h2 <;> omega
theorem ys_and32 (x : Int32) {y : Int32} (h : 0 ≤ y.toInt) : 0 ≤ (x &&& y).toInt ∧ (x &&& y).toInt ≤ y.toInt := by
  have h1 := ys_toNat32 h
  have h2 : (x &&& y).toBitVec.toNat ≤ y.toBitVec.toNat := by
    rw [Int32.toBitVec_and, BitVec.toNat_and]
    exact Nat.and_le_right
  have h3 := y.toInt_lt
  have h4 := ys_ofNat32 (y := x &&& y) (by omega)
  omega
theorem ys_and64 (x : Int64) {y : Int64} (h : 0 ≤ y.toInt) : 0 ≤ (x &&& y).toInt ∧ (x &&& y).toInt ≤ y.toInt := by
  have h1 := ys_toNat64 h
  have h2 : (x &&& y).toBitVec.toNat ≤ y.toBitVec.toNat := by
    rw [Int64.toBitVec_and, BitVec.toNat_and]
    exact Nat.and_le_right
  have h3 := y.toInt_lt
  have h4 := ys_ofNat64 (y := x &&& y) (by omega)
  omega
theorem ys_andm32 (x : Int32) : x &&& -1 = x := by
  apply Int32.toBitVec_inj.mp
  rw [Int32.toBitVec_and]
  show x.toBitVec &&& BitVec.allOnes 32 = x.toBitVec
  exact BitVec.and_allOnes
theorem ys_nnb32 {r : Nat → Int} {v : ys_E} (h : ys_ok r v) {y : ys_L} {u : Int} (hu : ys_nnb false v y = some u) : (Int32.ofInt (ys_ev r y)).toInt = ys_ev r y ∧ 0 ≤ ys_ev r y ∧ ys_ev r y ≤ u := by
  unfold ys_nnb at hu
  split at hu
  · rename_i hc
    rw [Bool.and_eq_true] at hc
    exact ⟨ys_inr32 h hc.2, ys_geb_le h hc.1, ys_high_le h hu⟩
  · cases hu
theorem ys_fand32 : ys_B32 (ys_fand false) (fun x y => x &&& y) (fun _ => True) := by
  intro r b x y o h hs hx hy ho
  refine ⟨trivial, ?_⟩
  have right : ∀ {t : Int}, ys_nnb false b.1 y = some t → 0 ≤ (Int32.ofInt (ys_ev r x) &&& Int32.ofInt (ys_ev r y)).toInt ∧ (Int32.ofInt (ys_ev r x) &&& Int32.ofInt (ys_ev r y)).toInt ≤ t := by
    intro t ht
    obtain ⟨e1, e2, e3⟩ := ys_nnb32 h.1 ht
    have h2 := ys_and32 (Int32.ofInt (ys_ev r x)) (y := Int32.ofInt (ys_ev r y)) (by rw [e1]; exact e2)
    rw [e1] at h2
    omega
  have left : ∀ {u : Int}, ys_nnb false b.1 x = some u → 0 ≤ (Int32.ofInt (ys_ev r x) &&& Int32.ofInt (ys_ev r y)).toInt ∧ (Int32.ofInt (ys_ev r x) &&& Int32.ofInt (ys_ev r y)).toInt ≤ u := by
    intro u hu
    obtain ⟨e1, e2, e3⟩ := ys_nnb32 h.1 hu
    have h2 := ys_and32 (Int32.ofInt (ys_ev r y)) (y := Int32.ofInt (ys_ev r x)) (by rw [e1]; exact e2)
    rw [Int32.and_comm, e1] at h2
    omega
  unfold ys_fand at ho
  split at ho
  · rename_i he
    cases Option.some.inj ho
    refine ys_Op_same h hs hx ?_
    show Int32.ofInt (ys_ev r x) = Int32.ofInt (ys_ev r x) &&& Int32.ofInt (ys_ev r y)
    rw [he, show Int32.ofInt (ys_ev r (([], -1) : ys_L)) = -1 from rfl]
    exact (ys_andm32 _).symm
  split at ho
  · rename_i he
    cases Option.some.inj ho
    refine ys_Op_same h hs hy ?_
    show Int32.ofInt (ys_ev r y) = Int32.ofInt (ys_ev r x) &&& Int32.ofInt (ys_ev r y)
    rw [he, show Int32.ofInt (ys_ev r (([], -1) : ys_L)) = -1 from rfl, Int32.and_comm]
    exact (ys_andm32 _).symm
  split at ho
  · rename_i u t hu ht
    cases Option.some.inj ho
    have h1 := left hu
    have h2 := right ht
    exact ys_Op_nw32 h hs _ ⟨h1.1, by show (Int32.ofInt (ys_ev r x) &&& Int32.ofInt (ys_ev r y)).toInt ≤ (if u ≤ t then u else t); split <;> omega⟩
  · rename_i u hu ht
    cases Option.some.inj ho
    exact ys_Op_nw32 h hs _ (left hu)
  · rename_i t hu ht
    cases Option.some.inj ho
    exact ys_Op_nw32 h hs _ (right ht)
  · cases Option.some.inj ho
    exact ys_Op_any32 h hs _
theorem ys_andm64 (x : Int64) : x &&& -1 = x := by
  apply Int64.toBitVec_inj.mp
  rw [Int64.toBitVec_and]
  show x.toBitVec &&& BitVec.allOnes 64 = x.toBitVec
  exact BitVec.and_allOnes
theorem ys_nnb64 {r : Nat → Int} {v : ys_E} (h : ys_ok r v) {y : ys_L} {u : Int} (hu : ys_nnb true v y = some u) : (Int64.ofInt (ys_ev r y)).toInt = ys_ev r y ∧ 0 ≤ ys_ev r y ∧ ys_ev r y ≤ u := by
  unfold ys_nnb at hu
  split at hu
  · rename_i hc
    rw [Bool.and_eq_true] at hc
    exact ⟨ys_inr64 h hc.2, ys_geb_le h hc.1, ys_high_le h hu⟩
  · cases hu
theorem ys_fand64 : ys_B64 (ys_fand true) (fun x y => x &&& y) (fun _ => True) := by
  intro r b x y o h hs hx hy ho
  refine ⟨trivial, ?_⟩
  have right : ∀ {t : Int}, ys_nnb true b.1 y = some t → 0 ≤ (Int64.ofInt (ys_ev r x) &&& Int64.ofInt (ys_ev r y)).toInt ∧ (Int64.ofInt (ys_ev r x) &&& Int64.ofInt (ys_ev r y)).toInt ≤ t := by
    intro t ht
    obtain ⟨e1, e2, e3⟩ := ys_nnb64 h.1 ht
    have h2 := ys_and64 (Int64.ofInt (ys_ev r x)) (y := Int64.ofInt (ys_ev r y)) (by rw [e1]; exact e2)
    rw [e1] at h2
    omega
  have left : ∀ {u : Int}, ys_nnb true b.1 x = some u → 0 ≤ (Int64.ofInt (ys_ev r x) &&& Int64.ofInt (ys_ev r y)).toInt ∧ (Int64.ofInt (ys_ev r x) &&& Int64.ofInt (ys_ev r y)).toInt ≤ u := by
    intro u hu
    obtain ⟨e1, e2, e3⟩ := ys_nnb64 h.1 hu
    have h2 := ys_and64 (Int64.ofInt (ys_ev r y)) (y := Int64.ofInt (ys_ev r x)) (by rw [e1]; exact e2)
    rw [Int64.and_comm, e1] at h2
    omega
  unfold ys_fand at ho
  split at ho
  · rename_i he
    cases Option.some.inj ho
    refine ys_Op_same h hs hx ?_
    show Int64.ofInt (ys_ev r x) = Int64.ofInt (ys_ev r x) &&& Int64.ofInt (ys_ev r y)
    rw [he, show Int64.ofInt (ys_ev r (([], -1) : ys_L)) = -1 from rfl]
    exact (ys_andm64 _).symm
  split at ho
  · rename_i he
    cases Option.some.inj ho
    refine ys_Op_same h hs hy ?_
    show Int64.ofInt (ys_ev r y) = Int64.ofInt (ys_ev r x) &&& Int64.ofInt (ys_ev r y)
    rw [he, show Int64.ofInt (ys_ev r (([], -1) : ys_L)) = -1 from rfl, Int64.and_comm]
    exact (ys_andm64 _).symm
  split at ho
  · rename_i u t hu ht
    cases Option.some.inj ho
    have h1 := left hu
    have h2 := right ht
    exact ys_Op_nw64 h hs _ ⟨h1.1, by show (Int64.ofInt (ys_ev r x) &&& Int64.ofInt (ys_ev r y)).toInt ≤ (if u ≤ t then u else t); split <;> omega⟩
  · rename_i u hu ht
    cases Option.some.inj ho
    exact ys_Op_nw64 h hs _ (left hu)
  · rename_i t hu ht
    cases Option.some.inj ho
    exact ys_Op_nw64 h hs _ (right ht)
  · cases Option.some.inj ho
    exact ys_Op_any64 h hs _
/-! or, exclusive or: of numbers not below 0, below a power of two -/
def ys_p2 (m : Int) : Nat := Nat.log2 m.toNat + 1
def ys_for (b : ys_B) (x y : ys_L) : Option (ys_B × ys_L) :=
  match (if ys_geb b.1 x 0 && ys_inr false b.1 x && (ys_geb b.1 y 0 && ys_inr false b.1 y) then (match ys_high b.1 x, ys_high b.1 y with
    | some u, some t => some (ys_p2 (if u ≤ t then t else u))
    | _, _ => none) else none) with
  | some k => if k ≤ 31 then some (ys_nw b (0, 2 ^ k - 1)) else some (ys_new b (ys_mn false, ys_mx false))
  | none => some (ys_new b (ys_mn false, ys_mx false))
def ys_fxor (b : ys_B) (x y : ys_L) : Option (ys_B × ys_L) := if y = ([], -1) then some (ys_nm false b (ys_sub ([], -1) x)) else ys_for b x y
theorem ys_p2_lt {m z : Int} (h : z ≤ m) : z.toNat < 2 ^ ys_p2 m := Nat.lt_of_le_of_lt (Int.toNat_le_toNat h) Nat.lt_log2_self
theorem ys_for32 (op : Int32 → Int32 → Int32) (hop : ∀ (x y : Int32) (k : Nat), x.toBitVec.toNat < 2 ^ k → y.toBitVec.toNat < 2 ^ k → (op x y).toBitVec.toNat < 2 ^ k) : ys_B32 ys_for op (fun _ => True) := by
  intro r b x y o h hs hx hy ho
  refine ⟨trivial, ?_⟩
  unfold ys_for at ho
  split at ho
  · rename_i k hk
    split at hk
    · rename_i hc
      rw [Bool.and_eq_true, Bool.and_eq_true, Bool.and_eq_true] at hc
      obtain ⟨⟨c1, c2⟩, c3, c4⟩ := hc
      split at hk
      · rename_i u t hu ht
        have hk := Option.some.inj hk
        split at ho
        · rename_i hk31
          cases Option.some.inj ho
          have ex := ys_inr32 h.1 c2
          have ey := ys_inr32 h.1 c4
          have x0 := ys_geb_le h.1 c1
          have y0 := ys_geb_le h.1 c3
          have xu := ys_high_le h.1 hu
          have yt := ys_high_le h.1 ht
          have xn := ys_toNat32 (y := Int32.ofInt (ys_ev r x)) (by rw [ex]; exact x0)
          have yn := ys_toNat32 (y := Int32.ofInt (ys_ev r y)) (by rw [ey]; exact y0)
          rw [ex] at xn
          rw [ey] at yn
          have xk : (Int32.ofInt (ys_ev r x)).toBitVec.toNat < 2 ^ k := by
            have := ys_p2_lt (m := if u ≤ t then t else u) (z := ys_ev r x) (by split <;> omega)
            rw [hk] at this
            omega
          have yk : (Int32.ofInt (ys_ev r y)).toBitVec.toNat < 2 ^ k := by
            have := ys_p2_lt (m := if u ≤ t then t else u) (z := ys_ev r y) (by split <;> omega)
            rw [hk] at this
            omega
          have zk := hop _ _ k xk yk
          have h31 : (2 : Nat) ^ k ≤ 2 ^ 31 := Nat.pow_le_pow_right (by decide) hk31
          have e := ys_ofNat32 (y := op (Int32.ofInt (ys_ev r x)) (Int32.ofInt (ys_ev r y))) (by omega)
          have hpow : ((2 : Int) ^ k) = ((2 ^ k : Nat) : Int) := by simp
          refine ys_Op_nw32 h hs _ ⟨by show (0 : Int) ≤ _; omega, ?_⟩
          show _ ≤ (2 : Int) ^ k - 1
          rw [hpow]
          omega
        · cases Option.some.inj ho
          exact ys_Op_any32 h hs _
      · cases hk
    · cases hk
  · cases Option.some.inj ho
    exact ys_Op_any32 h hs _
theorem ys_or32 : ys_B32 ys_for (fun x y => x ||| y) (fun _ => True) := ys_for32 _ fun x y k hx hy => by
  rw [Int32.toBitVec_or, BitVec.toNat_or]
  exact Nat.or_lt_two_pow hx hy
theorem ys_xor32 : ys_B32 ys_for (fun x y => x ^^^ y) (fun _ => True) := ys_for32 _ fun x y k hx hy => by
  rw [Int32.toBitVec_xor, BitVec.toNat_xor]
  exact Nat.xor_lt_two_pow hx hy
theorem ys_not32 (z : Int) : Int32.ofInt z ^^^ -1 = Int32.ofInt (-1 - z) := by
  rw [Int32.ofInt_sub, show Int32.ofInt (-1) = -1 from rfl]
  apply Int32.toBitVec_inj.mp
  show (Int32.ofInt z).toBitVec ^^^ BitVec.allOnes 32 = -1#32 - (Int32.ofInt z).toBitVec
  rw [BitVec.xor_allOnes]
  generalize (Int32.ofInt z).toBitVec = w
  apply BitVec.eq_of_toNat_eq
  rw [BitVec.toNat_not, BitVec.toNat_sub]
  have := w.isLt
  rw [show (-1#32).toNat = 4294967295 from rfl]
  omega
theorem ys_fxor32 : ys_B32 ys_fxor (fun x y => x ^^^ y) (fun _ => True) := by
  intro r b x y o h hs hx hy ho
  unfold ys_fxor at ho
  split at ho
  · rename_i he
    cases Option.some.inj ho
    refine ⟨trivial, ys_Op_nm32 h hs (ys_stb_sub (ys_stb_cst _) hx) ?_⟩
    show _ = Int32.ofInt (ys_ev r x) ^^^ Int32.ofInt (ys_ev r y)
    rw [he, show Int32.ofInt (ys_ev r (([], -1) : ys_L)) = -1 from rfl, ys_not32, ys_sub_ev]
    rfl
  · exact ys_xor32 r b x y o h hs hx hy ho
end
section
/-! division, shifts, one number -/
def ys_nz (v : ys_E) (y : ys_L) : Bool := ys_geb v y 1 || ys_geb v (ys_scale (-1) y) 1
theorem ys_nz_ok {r : Nat → Int} {v : ys_E} (h : ys_ok r v) {y : ys_L} (hz : ys_nz v y = true) : ys_ev r y ≠ 0 := by
  unfold ys_nz at hz
  rcases (Bool.or_eq_true _ _).mp hz with h1 | h1
  · have := ys_geb_le h h1
    omega
  · have := ys_geb_le h h1
    rw [ys_scale_ev] at this
    omega
/-- a number not below 0 over a constant above 0: the bounds of the quotient -/
def ys_qb (w : Bool) (v : ys_E) (x y : ys_L) : Option (Int × Int) := match y.1, ys_low v x, ys_high v x with
  | [], some l, some u => if 1 ≤ y.2 && (0 ≤ l && (y.2 ≤ ys_mx w && ys_inr w v x)) then some (l / y.2, u / y.2) else none
  | _, _, _ => none
theorem ys_qb_ok {r : Nat → Int} {w : Bool} {v : ys_E} (h : ys_ok r v) {x y : ys_L} {q : Int × Int} (hq : ys_qb w v x y = some q) : y.1 = [] ∧ 1 ≤ y.2 ∧ y.2 ≤ ys_mx w ∧ 0 ≤ ys_ev r x ∧ ys_inr w v x = true ∧ q.1 ≤ ys_ev r x / y.2 ∧ ys_ev r x / y.2 ≤ q.2 ∧ 0 ≤ q.1 := by
  unfold ys_qb at hq
  split at hq
  · rename_i l u hy hl hu
    split at hq
    · rename_i hc
      simp only [Bool.and_eq_true, decide_eq_true_eq] at hc
      obtain ⟨c1, c2, c3, c4⟩ := hc
      cases Option.some.inj hq
      have h1 := ys_low_le h hl
      have h2 := ys_high_le h hu
      exact ⟨hy, c1, c3, by omega, c4, Int.ediv_le_ediv (by omega) h1, Int.ediv_le_ediv (by omega) h2, Int.ediv_nonneg c2 (by omega)⟩
    · cases hq
  · cases hq
def ys_fdiv (w : Bool) (b : ys_B) (x y : ys_L) : Option (ys_B × ys_L) :=
  if ys_inr w b.1 y && ys_nz b.1 y then (match ys_qb w b.1 x y with
    | some q => if q.1 = q.2 then some (b, ys_cst q.1) else some (ys_new b q)
    | none => some (ys_new b (ys_mn w, ys_mx w)))
  else none
def ys_frem (w : Bool) (b : ys_B) (x y : ys_L) : Option (ys_B × ys_L) :=
  if ys_inr w b.1 y && ys_nz b.1 y then (match ys_qb w b.1 x y with
    | some q => if q.1 = q.2 then some (ys_nm w b (ys_sub x (ys_cst (q.1 * y.2)))) else some (ys_new b (0, y.2 - 1))
    | none => some (ys_new b (ys_mn w, ys_mx w)))
  else none
theorem ys_div32 {x y : Int} (hx : 0 ≤ x) (hx2 : x ≤ 2147483647) (hy : 1 ≤ y) (hy2 : y ≤ 2147483647) : Int32.ofInt x / Int32.ofInt y = Int32.ofInt (x / y) := by
  apply Int32.toInt_inj.mp
  have h1 : 0 ≤ x / y := Int.ediv_nonneg hx (by omega)
  have h2 : x / y ≤ x := Int.ediv_le_self _ hx
  rw [Int32.toInt_div, Int32.toInt_ofInt_of_le (by omega) (by omega), Int32.toInt_ofInt_of_le (by omega) (by omega), Int32.toInt_ofInt_of_le (by omega) (by omega), Int.tdiv_eq_ediv_of_nonneg hx]
  exact Int.bmod_eq_of_le (by omega) (by omega)
theorem ys_div64 {x y : Int} (hx : 0 ≤ x) (hx2 : x ≤ 9223372036854775807) (hy : 1 ≤ y) (hy2 : y ≤ 9223372036854775807) : Int64.ofInt x / Int64.ofInt y = Int64.ofInt (x / y) := by
  apply Int64.toInt_inj.mp
  have h1 : 0 ≤ x / y := Int.ediv_nonneg hx (by omega)
  have h2 : x / y ≤ x := Int.ediv_le_self _ hx
  rw [Int64.toInt_div, Int64.toInt_ofInt_of_le (by omega) (by omega), Int64.toInt_ofInt_of_le (by omega) (by omega), Int64.toInt_ofInt_of_le (by omega) (by omega), Int.tdiv_eq_ediv_of_nonneg hx]
  exact Int.bmod_eq_of_le (by omega) (by omega)
theorem ys_ne32 {y : Int} (h : y ≠ 0) (h1 : ys_mn false ≤ y ∧ y ≤ ys_mx false) : ¬ Int32.ofInt y = 0 := by
  intro e
  have e2 := congrArg Int32.toInt e
  rw [ys_mn_f, ys_mx_f] at h1
  rw [Int32.toInt_ofInt_of_le (by omega) (by omega)] at e2
  exact h e2
theorem ys_ne64 {y : Int} (h : y ≠ 0) (h1 : ys_mn true ≤ y ∧ y ≤ ys_mx true) : ¬ Int64.ofInt y = 0 := by
  intro e
  have e2 := congrArg Int64.toInt e
  rw [ys_mn_t, ys_mx_t] at h1
  rw [Int64.toInt_ofInt_of_le (by omega) (by omega)] at e2
  exact h e2
theorem ys_fdiv32 : ys_B32 (ys_fdiv false) (fun x y => x / y) (fun y => ¬ y = 0) := by
  intro r b x y o h hs hx hy ho
  unfold ys_fdiv at ho
  split at ho
  · rename_i hc
    rw [Bool.and_eq_true] at hc
    refine ⟨ys_ne32 (ys_nz_ok h.1 hc.2) (ys_inr_ok h.1 hc.1), ?_⟩
    split at ho
    · rename_i q hq
      obtain ⟨h1, h2, h3, h4, h5, h6, h7, h8⟩ := ys_qb_ok h.1 hq
      have hr := (ys_inr_ok h.1 h5).2
      have e : Int32.ofInt (ys_ev r x) / Int32.ofInt (ys_ev r y) = Int32.ofInt (ys_ev r x / y.2) := by
        rw [ys_ev_nil r h1]
        exact ys_div32 h4 hr h2 h3
      split at ho
      · rename_i hqq
        cases Option.some.inj ho
        refine ys_Op_same h hs (ys_stb_cst _) ?_
        rw [ys_cst_ev]
        show Int32.ofInt q.1 = Int32.ofInt (ys_ev r x) / Int32.ofInt (ys_ev r y)
        rw [e]
        congr 1
        omega
      · cases Option.some.inj ho
        exact ys_Op_new _ h hs ⟨h6, h7⟩ e.symm
    · cases Option.some.inj ho
      exact ys_Op_any32 h hs _
  · cases ho
theorem ys_fdiv64 : ys_B64 (ys_fdiv true) (fun x y => x / y) (fun y => ¬ y = 0) := by
  intro r b x y o h hs hx hy ho
  unfold ys_fdiv at ho
  split at ho
  · rename_i hc
    rw [Bool.and_eq_true] at hc
    refine ⟨ys_ne64 (ys_nz_ok h.1 hc.2) (ys_inr_ok h.1 hc.1), ?_⟩
    split at ho
    · rename_i q hq
      obtain ⟨h1, h2, h3, h4, h5, h6, h7, h8⟩ := ys_qb_ok h.1 hq
      have hr := (ys_inr_ok h.1 h5).2
      have e : Int64.ofInt (ys_ev r x) / Int64.ofInt (ys_ev r y) = Int64.ofInt (ys_ev r x / y.2) := by
        rw [ys_ev_nil r h1]
        exact ys_div64 h4 hr h2 h3
      split at ho
      · rename_i hqq
        cases Option.some.inj ho
        refine ys_Op_same h hs (ys_stb_cst _) ?_
        rw [ys_cst_ev]
        show Int64.ofInt q.1 = Int64.ofInt (ys_ev r x) / Int64.ofInt (ys_ev r y)
        rw [e]
        congr 1
        omega
      · cases Option.some.inj ho
        exact ys_Op_new _ h hs ⟨h6, h7⟩ e.symm
    · cases Option.some.inj ho
      exact ys_Op_any64 h hs _
  · cases ho
theorem ys_frem32 : ys_B32 (ys_frem false) (fun x y => x - x / y * y) (fun y => ¬ y = 0) := by
  intro r b x y o h hs hx hy ho
  unfold ys_frem at ho
  split at ho
  · rename_i hc
    rw [Bool.and_eq_true] at hc
    refine ⟨ys_ne32 (ys_nz_ok h.1 hc.2) (ys_inr_ok h.1 hc.1), ?_⟩
    split at ho
    · rename_i q hq
      obtain ⟨h1, h2, h3, h4, h5, h6, h7, h8⟩ := ys_qb_ok h.1 hq
      have hr := (ys_inr_ok h.1 h5).2
      have e : Int32.ofInt (ys_ev r x) - Int32.ofInt (ys_ev r x) / Int32.ofInt (ys_ev r y) * Int32.ofInt (ys_ev r y) = Int32.ofInt (ys_ev r x - ys_ev r x / y.2 * y.2) := by
        rw [ys_ev_nil r h1, ys_div32 h4 hr h2 h3, ← Int32.ofInt_mul, ← Int32.ofInt_sub]
      split at ho
      · rename_i hqq
        cases Option.some.inj ho
        refine ys_Op_nm32 h hs (ys_stb_sub hx (ys_stb_cst _)) ?_
        show _ = Int32.ofInt (ys_ev r x) - Int32.ofInt (ys_ev r x) / Int32.ofInt (ys_ev r y) * Int32.ofInt (ys_ev r y)
        rw [e, ys_sub_ev, ys_cst_ev, show ys_ev r x / y.2 = q.1 by omega]
      · cases Option.some.inj ho
        have h9 := Int.emod_def (ys_ev r x) y.2
        have h10 := Int.emod_nonneg (ys_ev r x) (b := y.2) (by omega)
        have h11 := Int.emod_lt_of_pos (ys_ev r x) (b := y.2) (by omega)
        have h12 := Int.mul_comm y.2 (ys_ev r x / y.2)
        exact ys_Op_new (ys_ev r x - ys_ev r x / y.2 * y.2) h hs ⟨by show (0 : Int) ≤ _; omega, by show _ ≤ y.2 - 1; omega⟩ e.symm
    · cases Option.some.inj ho
      exact ys_Op_any32 h hs _
  · cases ho
theorem ys_frem64 : ys_B64 (ys_frem true) (fun x y => x - x / y * y) (fun y => ¬ y = 0) := by
  intro r b x y o h hs hx hy ho
  unfold ys_frem at ho
  split at ho
  · rename_i hc
    rw [Bool.and_eq_true] at hc
    refine ⟨ys_ne64 (ys_nz_ok h.1 hc.2) (ys_inr_ok h.1 hc.1), ?_⟩
    split at ho
    · rename_i q hq
      obtain ⟨h1, h2, h3, h4, h5, h6, h7, h8⟩ := ys_qb_ok h.1 hq
      have hr := (ys_inr_ok h.1 h5).2
      have e : Int64.ofInt (ys_ev r x) - Int64.ofInt (ys_ev r x) / Int64.ofInt (ys_ev r y) * Int64.ofInt (ys_ev r y) = Int64.ofInt (ys_ev r x - ys_ev r x / y.2 * y.2) := by
        rw [ys_ev_nil r h1, ys_div64 h4 hr h2 h3, ← Int64.ofInt_mul, ← Int64.ofInt_sub]
      split at ho
      · rename_i hqq
        cases Option.some.inj ho
        refine ys_Op_nm64 h hs (ys_stb_sub hx (ys_stb_cst _)) ?_
        show _ = Int64.ofInt (ys_ev r x) - Int64.ofInt (ys_ev r x) / Int64.ofInt (ys_ev r y) * Int64.ofInt (ys_ev r y)
        rw [e, ys_sub_ev, ys_cst_ev, show ys_ev r x / y.2 = q.1 by omega]
      · cases Option.some.inj ho
        have h9 := Int.emod_def (ys_ev r x) y.2
        have h10 := Int.emod_nonneg (ys_ev r x) (b := y.2) (by omega)
        have h11 := Int.emod_lt_of_pos (ys_ev r x) (b := y.2) (by omega)
        have h12 := Int.mul_comm y.2 (ys_ev r x / y.2)
        exact ys_Op_new (ys_ev r x - ys_ev r x / y.2 * y.2) h hs ⟨by show (0 : Int) ≤ _; omega, by show _ ≤ y.2 - 1; omega⟩ e.symm
    · cases Option.some.inj ho
      exact ys_Op_any64 h hs _
  · cases ho
/-! shifts to the left of a constant -/
def ys_shb (w : Bool) (v : ys_E) (x y : ys_L) : Option (Int × Int) := match x.1, ys_low v y, ys_high v y with
  | [], some l, some u => if 0 ≤ x.2 && (0 ≤ l && (u ≤ 30 && (x.2 * 2 ^ u.toNat ≤ ys_mx w))) then some (x.2 * 2 ^ l.toNat, x.2 * 2 ^ u.toNat) else none
  | _, _, _ => none
theorem ys_shb_ok {r : Nat → Int} {w : Bool} {v : ys_E} (h : ys_ok r v) {x y : ys_L} {q : Int × Int} (hq : ys_shb w v x y = some q) : x.1 = [] ∧ ∃ n k : Nat, x.2 = (n : Int) ∧ ys_ev r y = (k : Int) ∧ k ≤ 30 ∧ q.1 ≤ ((n * 2 ^ k : Nat) : Int) ∧ ((n * 2 ^ k : Nat) : Int) ≤ q.2 ∧ q.2 ≤ ys_mx w := by
  unfold ys_shb at hq
  split at hq
  · rename_i l u hx hl hu
    split at hq
    · rename_i hc
      simp only [Bool.and_eq_true, decide_eq_true_eq] at hc
      obtain ⟨c1, c2, c3, c4⟩ := hc
      cases Option.some.inj hq
      have h1 := ys_low_le h hl
      have h2 := ys_high_le h hu
      obtain ⟨n, hn⟩ := Int.eq_ofNat_of_zero_le c1
      obtain ⟨k, hk⟩ := Int.eq_ofNat_of_zero_le (a := ys_ev r y) (by omega)
      have pw : ∀ j : Nat, x.2 * 2 ^ j = ((n * 2 ^ j : Nat) : Int) := by
        intro j
        rw [hn]
        simp
      refine ⟨hx, n, k, hn, hk, by omega, ?_, ?_, c4⟩
      · show x.2 * 2 ^ l.toNat ≤ _
        rw [pw]
        exact Int.ofNat_le.mpr (Nat.mul_le_mul_left n (Nat.pow_le_pow_right (by decide) (by omega)))
      · show _ ≤ x.2 * 2 ^ u.toNat
        rw [pw]
        exact Int.ofNat_le.mpr (Nat.mul_le_mul_left n (Nat.pow_le_pow_right (by decide) (by omega)))
    · cases hq
  · cases hq
def ys_fshl (w : Bool) (b : ys_B) (x y : ys_L) : Option (ys_B × ys_L) := match ys_shb w b.1 x y with
  | some q => some (ys_nw b q)
  | none => some (ys_new b (ys_mn w, ys_mx w))
theorem ys_31 {k : Nat} (hk : k ≤ 30) : (((Int32.ofInt (k : Int)) &&& 31).toBitVec.smod 32).toNat = k := by
  have : ∀ j : Fin 31, (((Int32.ofInt ((j : Nat) : Int)) &&& 31).toBitVec.smod 32).toNat = (j : Nat) := by decide +kernel
  exact this ⟨k, by omega⟩
theorem ys_63 {k : Nat} (hk : k ≤ 30) : (((Int32.ofInt (k : Int)).toInt64 &&& 63).toBitVec.smod 64).toNat = k := by
  have : ∀ j : Fin 31, (((Int32.ofInt ((j : Nat) : Int)).toInt64 &&& 63).toBitVec.smod 64).toNat = (j : Nat) := by decide +kernel
  exact this ⟨k, by omega⟩
theorem ys_shl32 {n k : Nat} (hk : k ≤ 30) (h : n * 2 ^ k ≤ 2147483647) : Int32.ofInt (n : Int) <<< (Int32.ofInt (k : Int) &&& 31) = Int32.ofInt ((n * 2 ^ k : Nat) : Int) := by
  rw [Int32.ofInt_eq_ofNat, Int32.ofInt_eq_ofNat]
  have := pk_shlN (n := n) (Int32.ofInt (k : Int) &&& 31) k (ys_31 hk) (by omega)
  rw [Int32.ofInt_eq_ofNat] at this
  exact this
theorem ys_shl64 {n k : Nat} (hk : k ≤ 30) (h : n * 2 ^ k ≤ 9223372036854775807) : Int64.ofInt (n : Int) <<< ((Int32.ofInt (k : Int)).toInt64 &&& 63) = Int64.ofInt ((n * 2 ^ k : Nat) : Int) := by
  have hn : n ≤ n * 2 ^ k := Nat.le_mul_of_pos_right n (Nat.two_pow_pos k)
  apply Int64.toBitVec_inj.mp
  apply BitVec.eq_of_toNat_eq
  show ((Int64.ofInt (n : Int)).toBitVec <<< (((Int32.ofInt (k : Int)).toInt64 &&& 63).toBitVec.smod 64).toNat).toNat = _
  rw [ys_63 hk, BitVec.toNat_shiftLeft, Nat.shiftLeft_eq, Int64.ofInt_eq_ofNat, Int64.ofInt_eq_ofNat]
  show (BitVec.ofNat 64 n).toNat * 2 ^ k % 2 ^ 64 = (BitVec.ofNat 64 (n * 2 ^ k)).toNat
  rw [BitVec.toNat_ofNat, BitVec.toNat_ofNat, Nat.mod_eq_of_lt (a := n) (by omega)]
theorem ys_fshl32 : ys_B32 (ys_fshl false) (fun x y => x <<< (y &&& 31)) (fun _ => True) := by
  intro r b x y o h hs hx hy ho
  refine ⟨trivial, ?_⟩
  unfold ys_fshl at ho
  split at ho
  · rename_i q hq
    cases Option.some.inj ho
    obtain ⟨h1, n, k, hn, hk, h2, h3, h4, h5⟩ := ys_shb_ok h.1 hq
    rw [ys_mx_f] at h5
    refine ys_Op_nw _ h hs ⟨h3, h4⟩ ?_
    show _ = Int32.ofInt (ys_ev r x) <<< (Int32.ofInt (ys_ev r y) &&& 31)
    rw [ys_ev_nil r h1, hn, hk, ys_shl32 h2 (by omega)]
  · cases Option.some.inj ho
    exact ys_Op_any32 h hs _
def ys_fshr (b : ys_B) (x _ : ys_L) : Option (ys_B × ys_L) := match ys_nnb false b.1 x with
  | some u => some (ys_nw b (0, u))
  | none => some (ys_new b (ys_mn false, ys_mx false))
theorem ys_fshr32 : ys_B32 ys_fshr (fun x y => x >>> (y &&& 31)) (fun _ => True) := by
  intro r b x y o h hs hx hy ho
  refine ⟨trivial, ?_⟩
  unfold ys_fshr at ho
  split at ho
  · rename_i u hu
    cases Option.some.inj ho
    obtain ⟨e1, e2, e3⟩ := ys_nnb32 h.1 hu
    have h1 := pk_shr (Int32.ofInt (ys_ev r x)) (Int32.ofInt (ys_ev r y) &&& 31) _ rfl
    rw [e1, Int.shiftRight_eq_div_pow] at h1
    have h2 := Int.ediv_le_self (((2 ^ ((Int32.ofInt (ys_ev r y) &&& 31).toBitVec.smod 32).toNat : Nat) : Int)) e2
    have h3 := Int.ediv_nonneg (b := ((2 ^ ((Int32.ofInt (ys_ev r y) &&& 31).toBitVec.smod 32).toNat : Nat) : Int)) e2 (Int.natCast_nonneg _)
    refine ys_Op_nw32 h hs _ ?_
    show (0 : Int) ≤ (Int32.ofInt (ys_ev r x) >>> (Int32.ofInt (ys_ev r y) &&& 31)).toInt ∧ (Int32.ofInt (ys_ev r x) >>> (Int32.ofInt (ys_ev r y) &&& 31)).toInt ≤ u
    rw [h1]
    exact ⟨h3, Int.le_trans h2 e3⟩
  · cases Option.some.inj ho
    exact ys_Op_any32 h hs _
/-- a long, shifted by an int -/
def ys_BLI (F : ys_B → ys_L → ys_L → Option (ys_B × ys_L)) (op : Int64 → Int32 → Int64) : Prop := ∀ (r : Nat → Int) (b : ys_B) (x y : ys_L) (o : ys_B × ys_L), ys_okB r b → ys_scB b → ys_stb b.1.length x → ys_stb b.1.length y → F b x y = some o → ys_Op r b o (fun z => Int64.ofInt z = op (Int64.ofInt (ys_ev r x)) (Int32.ofInt (ys_ev r y)))
theorem ys_fshl64 : ys_BLI (ys_fshl true) (fun x y => x <<< (y.toInt64 &&& 63)) := by
  intro r b x y o h hs hx hy ho
  unfold ys_fshl at ho
  split at ho
  · rename_i q hq
    cases Option.some.inj ho
    obtain ⟨h1, n, k, hn, hk, h2, h3, h4, h5⟩ := ys_shb_ok h.1 hq
    rw [ys_mx_t] at h5
    refine ys_Op_nw _ h hs ⟨h3, h4⟩ ?_
    show _ = Int64.ofInt (ys_ev r x) <<< ((Int32.ofInt (ys_ev r y)).toInt64 &&& 63)
    rw [ys_ev_nil r h1, hn, hk, ys_shl64 h2 (by omega)]
  · cases Option.some.inj ho
    exact ys_Op_any64 h hs _
theorem ys_fanyLI (op : Int64 → Int32 → Int64) : ys_BLI (ys_fany true) op := by
  intro r b x y o h hs hx hy ho
  cases Option.some.inj ho
  exact ys_Op_any64 h hs _
/-! one number -/
def ys_fneg (w : Bool) (b : ys_B) (x : ys_L) : ys_B × ys_L := ys_nm w b (ys_scale (-1) x)
theorem ys_fneg32 {r : Nat → Int} {b : ys_B} {x : ys_L} (h : ys_okB r b) (hs : ys_scB b) (hx : ys_stb b.1.length x) : ys_Op r b (ys_fneg false b x) (fun z => Int32.ofInt z = -Int32.ofInt (ys_ev r x)) := ys_Op_nm32 h hs (ys_stb_scale _ hx) (by rw [ys_scale_ev, Int.neg_mul, Int.one_mul, Int32.ofInt_neg])
theorem ys_fneg64 {r : Nat → Int} {b : ys_B} {x : ys_L} (h : ys_okB r b) (hs : ys_scB b) (hx : ys_stb b.1.length x) : ys_Op r b (ys_fneg true b x) (fun z => Int64.ofInt z = -Int64.ofInt (ys_ev r x)) := ys_Op_nm64 h hs (ys_stb_scale _ hx) (by rw [ys_scale_ev, Int.neg_mul, Int.one_mul, Int64.ofInt_neg])
theorem ys_l2i (z : Int) : (Int64.ofInt z).toInt32 = Int32.ofInt z := by
  apply Int32.toInt_inj.mp
  rw [Int64.toInt_toInt32, Int64.toInt_ofInt, Int32.toInt_ofInt]
  exact Int.bmod_bmod_of_dvd (by decide)
theorem ys_fl2i {r : Nat → Int} {b : ys_B} {x : ys_L} (h : ys_okB r b) (hs : ys_scB b) (hx : ys_stb b.1.length x) : ys_Op r b (ys_nm false b x) (fun z => Int32.ofInt z = (Int64.ofInt (ys_ev r x)).toInt32) := ys_Op_nm32 h hs hx (ys_l2i _).symm
theorem ys_i2l {r : Nat → Int} {v : ys_E} (h : ys_ok r v) {x : ys_L} (hi : ys_inr false v x = true) : (Int32.ofInt (ys_ev r x)).toInt64 = Int64.ofInt (ys_ev r x) := by
  apply Int64.toInt_inj.mp
  obtain ⟨h1, h2⟩ := ys_inr_ok h hi
  rw [ys_mn_f] at h1
  rw [ys_mx_f] at h2
  rw [Int32.toInt_toInt64, ys_inr32 h hi, Int64.toInt_ofInt_of_le (by omega) (by omega)]
/-- cut to a byte (7) or a short (15) -/
def ys_fcut (k : Nat) (b : ys_B) (x : ys_L) : ys_B × ys_L := if ys_geb b.1 x (-(2 ^ k)) && ys_geb b.1 (ys_scale (-1) x) (-(2 ^ k - 1)) then (b, x) else ys_new b (-(2 ^ k), 2 ^ k - 1)
theorem ys_fi2b {r : Nat → Int} {b : ys_B} {x : ys_L} (h : ys_okB r b) (hs : ys_scB b) (hx : ys_stb b.1.length x) : ys_Op r b (ys_fcut 7 b x) (fun z => Int32.ofInt z = (Int32.ofInt (ys_ev r x)).toInt8.toInt32) := by
  unfold ys_fcut
  split
  · rename_i hc
    rw [Bool.and_eq_true] at hc
    have h1 := ys_geb_le h.1 hc.1
    have h2 := ys_geb_le h.1 hc.2
    rw [ys_scale_ev] at h2
    refine ys_Op_same h hs hx ?_
    apply Int32.toInt_inj.mp
    rw [Int8.toInt_toInt32, Int32.toInt_toInt8, Int32.toInt_ofInt_of_le (by omega) (by omega)]
    exact (Int.bmod_eq_of_le (by omega) (by omega)).symm
  · refine ys_Op_in32 h hs _ ?_
    rw [Int8.toInt_toInt32]
    have h1 := (Int32.ofInt (ys_ev r x)).toInt8.le_toInt
    have h2 := (Int32.ofInt (ys_ev r x)).toInt8.toInt_lt
    exact ⟨h1, by show _ ≤ (2 : Int) ^ 7 - 1; omega⟩
theorem ys_fi2s {r : Nat → Int} {b : ys_B} {x : ys_L} (h : ys_okB r b) (hs : ys_scB b) (hx : ys_stb b.1.length x) : ys_Op r b (ys_fcut 15 b x) (fun z => Int32.ofInt z = (Int32.ofInt (ys_ev r x)).toInt16.toInt32) := by
  unfold ys_fcut
  split
  · rename_i hc
    rw [Bool.and_eq_true] at hc
    have h1 := ys_geb_le h.1 hc.1
    have h2 := ys_geb_le h.1 hc.2
    rw [ys_scale_ev] at h2
    refine ys_Op_same h hs hx ?_
    apply Int32.toInt_inj.mp
    rw [Int16.toInt_toInt32, Int32.toInt_toInt16, Int32.toInt_ofInt_of_le (by omega) (by omega)]
    exact (Int.bmod_eq_of_le (by omega) (by omega)).symm
  · refine ys_Op_in32 h hs _ ?_
    rw [Int16.toInt_toInt32]
    have h1 := (Int32.ofInt (ys_ev r x)).toInt16.le_toInt
    have h2 := (Int32.ofInt (ys_ev r x)).toInt16.toInt_lt
    exact ⟨h1, by show _ ≤ (2 : Int) ^ 15 - 1; omega⟩
/-! what a comparison tells -/
def ys_ne (v : ys_E) (x y : ys_L) : List ys_L := if ys_geb v (ys_sub x y) 0 then [ys_add (ys_sub x y) ([], -1)] else if ys_geb v (ys_sub y x) 0 then [ys_add (ys_sub y x) ([], -1)] else []
def ys_cf (v : ys_E) (c : ClassFile.Cond) (x y : ys_L) : List ys_L := match c with
  | .eq => [ys_sub x y, ys_sub y x]
  | .ne => ys_ne v x y
  | .lt => [ys_add (ys_sub y x) ([], -1)]
  | .ge => [ys_sub x y]
  | .gt => [ys_add (ys_sub x y) ([], -1)]
  | .le => [ys_sub y x]
def ys_ch (c : ClassFile.Cond) (x y : Int) : Prop := match c with
  | .eq => x = y
  | .ne => ¬ x = y
  | .lt => x < y
  | .ge => y ≤ x
  | .gt => y < x
  | .le => x ≤ y
def ys_cn (c : ClassFile.Cond) : ClassFile.Cond := match c with
  | .eq => .ne
  | .ne => .eq
  | .lt => .ge
  | .ge => .lt
  | .gt => .le
  | .le => .gt
theorem ys_cn_ok {c : ClassFile.Cond} {x y : Int} (h : ¬ ys_ch c x y) : ys_ch (ys_cn c) x y := by
  cases c <;> simp only [ys_ch, ys_cn] at h ⊢ <;> omega
theorem ys_m1 (r : Nat → Int) (e : ys_L) : ys_ev r (ys_add e ([], -1)) = ys_ev r e - 1 := by
  rw [ys_add_ev]
  show ys_ev r e + (0 + -1) = _
  omega
theorem ys_fk1 {r : Nat → Int} {f : ys_L} (h : 0 ≤ ys_ev r f) : ys_fk r [f] := fun g hg => by
  rw [List.mem_singleton.mp hg]
  exact h
theorem ys_cf_ok {r : Nat → Int} {v : ys_E} (hv : ys_ok r v) {c : ClassFile.Cond} {x y : ys_L} (h : ys_ch c (ys_ev r x) (ys_ev r y)) : ys_fk r (ys_cf v c x y) := by
  cases c with
  | eq =>
    intro f hf
    have h : ys_ev r x = ys_ev r y := h
    rcases List.mem_cons.mp hf with e | e
    · rw [e, ys_sub_ev]; omega
    · rw [List.mem_singleton.mp e, ys_sub_ev]; omega
  | ne =>
    have h : ¬ ys_ev r x = ys_ev r y := h
    show ys_fk r (ys_ne v x y)
    unfold ys_ne
    split
    · rename_i hc
      have := ys_geb_le hv hc
      rw [ys_sub_ev] at this
      exact ys_fk1 (by rw [ys_m1, ys_sub_ev]; omega)
    · split
      · rename_i hc
        have := ys_geb_le hv hc
        rw [ys_sub_ev] at this
        exact ys_fk1 (by rw [ys_m1, ys_sub_ev]; omega)
      · intro f hf
        cases hf
  | lt =>
    have h : ys_ev r x < ys_ev r y := h
    exact ys_fk1 (by rw [ys_m1, ys_sub_ev]; omega)
  | ge =>
    have h : ys_ev r y ≤ ys_ev r x := h
    exact ys_fk1 (by rw [ys_sub_ev]; omega)
  | gt =>
    have h : ys_ev r y < ys_ev r x := h
    exact ys_fk1 (by rw [ys_m1, ys_sub_ev]; omega)
  | le =>
    have h : ys_ev r x ≤ ys_ev r y := h
    exact ys_fk1 (by rw [ys_sub_ev]; omega)
/-- the ways of a comparison -/
def ys_cfs (v : ys_E) (c : ClassFile.Cond) (x y : ys_L) : List (List ys_L) := match c with
  | .ne => [[ys_add (ys_sub x y) ([], -1)], [ys_add (ys_sub y x) ([], -1)]]
  | c => [ys_cf v c x y]
theorem ys_cfs_ok {r : Nat → Int} {v : ys_E} (hv : ys_ok r v) {c : ClassFile.Cond} {x y : ys_L} (h : ys_ch c (ys_ev r x) (ys_ev r y)) : ∃ fs ∈ ys_cfs v c x y, ys_fk r fs := by
  cases c with
  | ne =>
    have h : ¬ ys_ev r x = ys_ev r y := h
    rcases Int.lt_or_gt_of_ne h with q | q
    · exact ⟨_, List.mem_cons_of_mem _ List.mem_cons_self, ys_fk1 (by rw [ys_m1, ys_sub_ev]; omega)⟩
    · exact ⟨_, List.mem_cons_self, ys_fk1 (by rw [ys_m1, ys_sub_ev]; omega)⟩
  | eq => exact ⟨_, List.mem_cons_self, ys_cf_ok hv h⟩
  | lt => exact ⟨_, List.mem_cons_self, ys_cf_ok hv h⟩
  | ge => exact ⟨_, List.mem_cons_self, ys_cf_ok hv h⟩
  | gt => exact ⟨_, List.mem_cons_self, ys_cf_ok hv h⟩
  | le => exact ⟨_, List.mem_cons_self, ys_cf_ok hv h⟩
end
section
/-! the walk: a state of symbols at a place of the code stands for the machine there -/
section YSW
variable (p : Program) (l : Launch) (e : Env) (R : Room) (s : State) (m : MethodId) (args : Array Value) (below : List Frame) (meth : Method) (c : Code) (Q : State → Prop) (kc kz : Nat) (D : va_G) (cl : List vw_C) (ad : Nat → Nat) (cT : Nat → ClassId) (sh : List ys_C) (A : Nat → Prop) (H0 : Heap) (nL : Nat) (mods : List Nat) (g0 : Nat → Nat → Int) (r0 : Nat → Int) (E : Nat)
def ys_W (pc : Nat) (S : ys_S) : Prop := ∀ (r : Nat → Int) (H : Heap) (locs : List Loc) (ls : Array Slot) (st : List Value), ys_rep D cl ad cT sh A H0 nL mods g0 r0 r E S H locs ls st → W p l e R s m args below meth c H locs kc kz Q (F0 m pc ls st)
end YSW
section YSV
variable {p : Program} {l : Launch} {e : Env} {R : Room} {s : State} {m : MethodId} {args : Array Value} {below : List Frame} {meth : Method} {c : Code} {Q : State → Prop} {kc kz : Nat} {D : va_G} {cl : List vw_C} {ad : Nat → Nat} {cT : Nat → ClassId} {sh : List ys_C} {A : Nat → Prop} {H0 : Heap} {nL : Nat} {mods : List Nat} {g0 : Nat → Nat → Int} {r0 : Nat → Int} {E : Nat} {pc : Nat} {b : ys_B} {fds : ys_F} {lv : List (Nat × ys_V)} {sv : List ys_V} {succ : List (Nat × ys_S)} {cc : ByteArray}
/-- two ints -/
def ys_hb32 (F : ys_B → ys_L → ys_L → Option (ys_B × ys_L)) (pc : Nat) (b : ys_B) (fds : ys_F) (lv : List (Nat × ys_V)) (sv : List ys_V) : Option (List (Nat × ys_S)) := match sv with
  | .inl (.inl y) :: .inl (.inl x) :: t => (match F b x y with
    | some o => some [(pc + 1, o.1, fds, lv, .inl (.inl o.2) :: t)]
    | none => none)
  | _ => none
theorem ys_kb32 {F : ys_B → ys_L → ys_L → Option (ys_B × ys_L)} {op : Int32 → Int32 → Int32} {ok : Int32 → Prop} (hF : ys_B32 F op ok) (hrow : ∀ (X Y : Int32) (H : Heap) (locs : List Loc) (ls : Array Slot) (rest : List Value), ok Y → W p l e R s m args below meth c H locs kc kz Q (F0 m (pc + 1) ls (.int (op X Y) :: rest)) → W p l e R s m args below meth c H locs kc kz Q (F0 m pc ls (.int Y :: .int X :: rest))) (hs : ys_hb32 F pc b fds lv sv = some succ) (k : ∀ q ∈ succ, ys_W p l e R s m args below meth c Q kc kz D cl ad cT sh A H0 nL mods g0 r0 E q.1 q.2) : ys_W p l e R s m args below meth c Q kc kz D cl ad cT sh A H0 nL mods g0 r0 E pc (b, fds, lv, sv) := by
  unfold ys_hb32 at hs
  split at hs
  · rename_i y x t
    split at hs
    · rename_i o ho
      cases Option.some.inj hs
      have k := k _ List.mem_cons_self
      intro r H locs ls st h
      obtain ⟨st1, e1, h1, hy⟩ := ys_rep_pop h
      obtain ⟨st2, e2, h2, hx⟩ := ys_rep_pop h1
      subst e1; subst e2
      obtain ⟨hok, r', hag, hb, hl, hsc, hst, hval⟩ := hF r b x y o h.1 h.2.1.1 hx hy ho
      refine hrow _ _ _ _ _ _ hok ?_
      have h4 := k r' H locs ls _ (ys_rep_push (ys_rep_ext h2 hag hb hl hsc) (.inl (.inl o.2)) hst)
      have e3 : ys_den ad r' (.inl (.inl o.2)) = .int (op (Int32.ofInt (ys_ev r x)) (Int32.ofInt (ys_ev r y))) := congrArg Value.int hval
      rw [e3] at h4
      exact h4
    · cases hs
  · cases hs
/-- two longs -/
def ys_hb64 (F : ys_B → ys_L → ys_L → Option (ys_B × ys_L)) (pc : Nat) (b : ys_B) (fds : ys_F) (lv : List (Nat × ys_V)) (sv : List ys_V) : Option (List (Nat × ys_S)) := match sv with
  | .inl (.inr y) :: .inl (.inr x) :: t => (match F b x y with
    | some o => some [(pc + 1, o.1, fds, lv, .inl (.inr o.2) :: t)]
    | none => none)
  | _ => none
theorem ys_kb64 {F : ys_B → ys_L → ys_L → Option (ys_B × ys_L)} {op : Int64 → Int64 → Int64} {ok : Int64 → Prop} (hF : ys_B64 F op ok) (hrow : ∀ (X Y : Int64) (H : Heap) (locs : List Loc) (ls : Array Slot) (rest : List Value), ok Y → W p l e R s m args below meth c H locs kc kz Q (F0 m (pc + 1) ls (.long (op X Y) :: rest)) → W p l e R s m args below meth c H locs kc kz Q (F0 m pc ls (.long Y :: .long X :: rest))) (hs : ys_hb64 F pc b fds lv sv = some succ) (k : ∀ q ∈ succ, ys_W p l e R s m args below meth c Q kc kz D cl ad cT sh A H0 nL mods g0 r0 E q.1 q.2) : ys_W p l e R s m args below meth c Q kc kz D cl ad cT sh A H0 nL mods g0 r0 E pc (b, fds, lv, sv) := by
  unfold ys_hb64 at hs
  split at hs
  · rename_i y x t
    split at hs
    · rename_i o ho
      cases Option.some.inj hs
      have k := k _ List.mem_cons_self
      intro r H locs ls st h
      obtain ⟨st1, e1, h1, hy⟩ := ys_rep_pop h
      obtain ⟨st2, e2, h2, hx⟩ := ys_rep_pop h1
      subst e1; subst e2
      obtain ⟨hok, r', hag, hb, hl, hsc, hst, hval⟩ := hF r b x y o h.1 h.2.1.1 hx hy ho
      refine hrow _ _ _ _ _ _ hok ?_
      have h4 := k r' H locs ls _ (ys_rep_push (ys_rep_ext h2 hag hb hl hsc) (.inl (.inr o.2)) hst)
      have e3 : ys_den ad r' (.inl (.inr o.2)) = .long (op (Int64.ofInt (ys_ev r x)) (Int64.ofInt (ys_ev r y))) := congrArg Value.long hval
      rw [e3] at h4
      exact h4
    · cases hs
  · cases hs
/-- a long and an int -/
def ys_hbLI (F : ys_B → ys_L → ys_L → Option (ys_B × ys_L)) (pc : Nat) (b : ys_B) (fds : ys_F) (lv : List (Nat × ys_V)) (sv : List ys_V) : Option (List (Nat × ys_S)) := match sv with
  | .inl (.inl y) :: .inl (.inr x) :: t => (match F b x y with
    | some o => some [(pc + 1, o.1, fds, lv, .inl (.inr o.2) :: t)]
    | none => none)
  | _ => none
theorem ys_kbLI {F : ys_B → ys_L → ys_L → Option (ys_B × ys_L)} {op : Int64 → Int32 → Int64} (hF : ys_BLI F op) (hrow : ∀ (X : Int64) (Y : Int32) (H : Heap) (locs : List Loc) (ls : Array Slot) (rest : List Value), W p l e R s m args below meth c H locs kc kz Q (F0 m (pc + 1) ls (.long (op X Y) :: rest)) → W p l e R s m args below meth c H locs kc kz Q (F0 m pc ls (.int Y :: .long X :: rest))) (hs : ys_hbLI F pc b fds lv sv = some succ) (k : ∀ q ∈ succ, ys_W p l e R s m args below meth c Q kc kz D cl ad cT sh A H0 nL mods g0 r0 E q.1 q.2) : ys_W p l e R s m args below meth c Q kc kz D cl ad cT sh A H0 nL mods g0 r0 E pc (b, fds, lv, sv) := by
  unfold ys_hbLI at hs
  split at hs
  · rename_i y x t
    split at hs
    · rename_i o ho
      cases Option.some.inj hs
      have k := k _ List.mem_cons_self
      intro r H locs ls st h
      obtain ⟨st1, e1, h1, hy⟩ := ys_rep_pop h
      obtain ⟨st2, e2, h2, hx⟩ := ys_rep_pop h1
      subst e1; subst e2
      obtain ⟨r', hag, hb, hl, hsc, hst, hval⟩ := hF r b x y o h.1 h.2.1.1 hx hy ho
      refine hrow _ _ _ _ _ _ ?_
      have h4 := k r' H locs ls _ (ys_rep_push (ys_rep_ext h2 hag hb hl hsc) (.inl (.inr o.2)) hst)
      have e3 : ys_den ad r' (.inl (.inr o.2)) = .long (op (Int64.ofInt (ys_ev r x)) (Int32.ofInt (ys_ev r y))) := congrArg Value.long hval
      rw [e3] at h4
      exact h4
    · cases hs
  · cases hs
/-- one int to one int -/
def ys_hu32 (F : ys_B → ys_L → ys_B × ys_L) (pc : Nat) (b : ys_B) (fds : ys_F) (lv : List (Nat × ys_V)) (sv : List ys_V) : Option (List (Nat × ys_S)) := match sv with
  | .inl (.inl x) :: t => some [(pc + 1, (F b x).1, fds, lv, .inl (.inl (F b x).2) :: t)]
  | _ => none
theorem ys_ku32 {F : ys_B → ys_L → ys_B × ys_L} {op : Int32 → Int32} (hF : ∀ (r : Nat → Int) (b : ys_B) (x : ys_L), ys_okB r b → ys_scB b → ys_stb b.1.length x → ys_Op r b (F b x) (fun z => Int32.ofInt z = op (Int32.ofInt (ys_ev r x)))) (hrow : ∀ (X : Int32) (H : Heap) (locs : List Loc) (ls : Array Slot) (rest : List Value), W p l e R s m args below meth c H locs kc kz Q (F0 m (pc + 1) ls (.int (op X) :: rest)) → W p l e R s m args below meth c H locs kc kz Q (F0 m pc ls (.int X :: rest))) (hs : ys_hu32 F pc b fds lv sv = some succ) (k : ∀ q ∈ succ, ys_W p l e R s m args below meth c Q kc kz D cl ad cT sh A H0 nL mods g0 r0 E q.1 q.2) : ys_W p l e R s m args below meth c Q kc kz D cl ad cT sh A H0 nL mods g0 r0 E pc (b, fds, lv, sv) := by
  unfold ys_hu32 at hs
  split at hs
  · rename_i x t
    cases Option.some.inj hs
    have k := k _ List.mem_cons_self
    intro r H locs ls st h
    obtain ⟨st1, e1, h1, hx⟩ := ys_rep_pop h
    subst e1
    obtain ⟨r', hag, hb, hl, hsc, hst, hval⟩ := hF r b x h.1 h.2.1.1 hx
    refine hrow _ _ _ _ _ ?_
    have h4 := k r' H locs ls _ (ys_rep_push (ys_rep_ext h1 hag hb hl hsc) (.inl (.inl (F b x).2)) hst)
    have e3 : ys_den ad r' (.inl (.inl (F b x).2)) = .int (op (Int32.ofInt (ys_ev r x))) := congrArg Value.int hval
    rw [e3] at h4
    exact h4
  · cases hs
/-- one long to one long -/
def ys_hu64 (F : ys_B → ys_L → ys_B × ys_L) (pc : Nat) (b : ys_B) (fds : ys_F) (lv : List (Nat × ys_V)) (sv : List ys_V) : Option (List (Nat × ys_S)) := match sv with
  | .inl (.inr x) :: t => some [(pc + 1, (F b x).1, fds, lv, .inl (.inr (F b x).2) :: t)]
  | _ => none
theorem ys_ku64 {F : ys_B → ys_L → ys_B × ys_L} {op : Int64 → Int64} (hF : ∀ (r : Nat → Int) (b : ys_B) (x : ys_L), ys_okB r b → ys_scB b → ys_stb b.1.length x → ys_Op r b (F b x) (fun z => Int64.ofInt z = op (Int64.ofInt (ys_ev r x)))) (hrow : ∀ (X : Int64) (H : Heap) (locs : List Loc) (ls : Array Slot) (rest : List Value), W p l e R s m args below meth c H locs kc kz Q (F0 m (pc + 1) ls (.long (op X) :: rest)) → W p l e R s m args below meth c H locs kc kz Q (F0 m pc ls (.long X :: rest))) (hs : ys_hu64 F pc b fds lv sv = some succ) (k : ∀ q ∈ succ, ys_W p l e R s m args below meth c Q kc kz D cl ad cT sh A H0 nL mods g0 r0 E q.1 q.2) : ys_W p l e R s m args below meth c Q kc kz D cl ad cT sh A H0 nL mods g0 r0 E pc (b, fds, lv, sv) := by
  unfold ys_hu64 at hs
  split at hs
  · rename_i x t
    cases Option.some.inj hs
    have k := k _ List.mem_cons_self
    intro r H locs ls st h
    obtain ⟨st1, e1, h1, hx⟩ := ys_rep_pop h
    subst e1
    obtain ⟨r', hag, hb, hl, hsc, hst, hval⟩ := hF r b x h.1 h.2.1.1 hx
    refine hrow _ _ _ _ _ ?_
    have h4 := k r' H locs ls _ (ys_rep_push (ys_rep_ext h1 hag hb hl hsc) (.inl (.inr (F b x).2)) hst)
    have e3 : ys_den ad r' (.inl (.inr (F b x).2)) = .long (op (Int64.ofInt (ys_ev r x))) := congrArg Value.long hval
    rw [e3] at h4
    exact h4
  · cases hs
/-- a long to an int -/
def ys_hl2i (pc : Nat) (b : ys_B) (fds : ys_F) (lv : List (Nat × ys_V)) (sv : List ys_V) : Option (List (Nat × ys_S)) := match sv with
  | .inl (.inr x) :: t => some [(pc + 1, (ys_nm false b x).1, fds, lv, .inl (.inl (ys_nm false b x).2) :: t)]
  | _ => none
theorem ys_kl2i (hexec : p.tables.exec = Jvm.exec) (hb : c.code = cc) (hd : decode cc pc = .ok (.l2i, 1)) (hs : ys_hl2i pc b fds lv sv = some succ) (k : ∀ q ∈ succ, ys_W p l e R s m args below meth c Q kc kz D cl ad cT sh A H0 nL mods g0 r0 E q.1 q.2) : ys_W p l e R s m args below meth c Q kc kz D cl ad cT sh A H0 nL mods g0 r0 E pc (b, fds, lv, sv) := by
  unfold ys_hl2i at hs
  split at hs
  · rename_i x t
    cases Option.some.inj hs
    have k := k _ List.mem_cons_self
    intro r H locs ls st h
    obtain ⟨st1, e1, h1, hx⟩ := ys_rep_pop h
    subst e1
    obtain ⟨r', hag, hbb, hl, hsc, hst, hval⟩ := ys_fl2i h.1 h.2.1.1 hx
    refine lv_l2i hexec hb hd hval.symm ?_
    exact k r' H locs ls _ (ys_rep_push (ys_rep_ext h1 hag hbb hl hsc) (.inl (.inl (ys_nm false b x).2)) hst)
  · cases hs
/-- an int to a long -/
def ys_hi2l (pc : Nat) (b : ys_B) (fds : ys_F) (lv : List (Nat × ys_V)) (sv : List ys_V) : Option (List (Nat × ys_S)) := match sv with
  | .inl (.inl x) :: t => if ys_inr false b.1 x = true then some [(pc + 1, b, fds, lv, .inl (.inr x) :: t)] else none
  | _ => none
theorem ys_ki2l (hexec : p.tables.exec = Jvm.exec) (hb : c.code = cc) (hd : decode cc pc = .ok (.i2l, 1)) (hs : ys_hi2l pc b fds lv sv = some succ) (k : ∀ q ∈ succ, ys_W p l e R s m args below meth c Q kc kz D cl ad cT sh A H0 nL mods g0 r0 E q.1 q.2) : ys_W p l e R s m args below meth c Q kc kz D cl ad cT sh A H0 nL mods g0 r0 E pc (b, fds, lv, sv) := by
  unfold ys_hi2l at hs
  split at hs
  · rename_i x t
    split at hs
    · rename_i hi
      cases Option.some.inj hs
      have k := k _ List.mem_cons_self
      intro r H locs ls st h
      obtain ⟨st1, e1, h1, hx⟩ := ys_rep_pop h
      subst e1
      refine lv_i2l hexec hb hd (ys_i2l h.1.1 hi) ?_
      exact k r H locs ls _ (ys_rep_push h1 (.inl (.inr x)) hx)
    · cases hs
  · cases hs
/-- one more value -/
def ys_hpush (pc : Nat) (b : ys_B) (fds : ys_F) (lv : List (Nat × ys_V)) (sv : List ys_V) (v : ys_V) : Option (List (Nat × ys_S)) := some [(pc, b, fds, lv, v :: sv)]
theorem ys_kpush {pc' : Nat} {v : ys_V} (hv : ∀ n, ys_stV n v) (hrow : ∀ (r : Nat → Int) (H : Heap) (locs : List Loc) (ls : Array Slot) (rest : List Value), W p l e R s m args below meth c H locs kc kz Q (F0 m pc' ls (ys_den ad r v :: rest)) → W p l e R s m args below meth c H locs kc kz Q (F0 m pc ls rest)) (hs : ys_hpush pc' b fds lv sv v = some succ) (k : ∀ q ∈ succ, ys_W p l e R s m args below meth c Q kc kz D cl ad cT sh A H0 nL mods g0 r0 E q.1 q.2) : ys_W p l e R s m args below meth c Q kc kz D cl ad cT sh A H0 nL mods g0 r0 E pc (b, fds, lv, sv) := by
  cases Option.some.inj hs
  have k := k _ List.mem_cons_self
  intro r H locs ls st h
  exact hrow r _ _ _ _ (k r H locs ls _ (ys_rep_push h v (hv _)))
/-- a place of the frame is read: kind 0 an int, 1 a long, 2 a reference -/
def ys_kind (v : ys_V) : Nat := match v with
  | .inl (.inl _) => 0
  | .inl (.inr _) => 1
  | .inr (some _) => 2
  | .inr none => 3
def ys_cv (v : ys_E) (x : ys_V) : ys_V := match x with
  | .inl (.inl e) => .inl (.inl (ys_ce v e))
  | .inl (.inr e) => .inl (.inr (ys_ce v e))
  | .inr o => .inr o
theorem ys_cv_den {ad : Nat → Nat} {r : Nat → Int} {v : ys_E} (h : ys_ok r v) (x : ys_V) : ys_den ad r (ys_cv v x) = ys_den ad r x := by
  rcases x with (y | y) | y
  · show Value.int _ = Value.int _
    rw [ys_ce_ev h]
  · show Value.long _ = Value.long _
    rw [ys_ce_ev h]
  · rfl
theorem ys_cv_st {n : Nat} {v : ys_E} {x : ys_V} (h : ys_stV n x) : ys_stV n (ys_cv v x) := by
  rcases x with (y | y) | y
  · exact ys_ce_st (e := y) h
  · exact ys_ce_st (e := y) h
  · trivial
def ys_hload (t : Nat) (i : Nat) (pc : Nat) (b : ys_B) (fds : ys_F) (lv : List (Nat × ys_V)) (sv : List ys_V) : Option (List (Nat × ys_S)) := match lv.lookup i with
  | some v => if ys_kind v = t then some [(pc, b, fds, lv, ys_cv b.1 v :: sv)] else none
  | none => none
theorem ys_kload {t i pc' : Nat} (hrow : ∀ (r : Nat → Int) (v : ys_V) (H : Heap) (locs : List Loc) (ls : Array Slot) (rest : List Value), ys_kind v = t → ls[i]? = some (.val (ys_den ad r v)) → W p l e R s m args below meth c H locs kc kz Q (F0 m pc' ls (ys_den ad r v :: rest)) → W p l e R s m args below meth c H locs kc kz Q (F0 m pc ls rest)) (hs : ys_hload t i pc' b fds lv sv = some succ) (k : ∀ q ∈ succ, ys_W p l e R s m args below meth c Q kc kz D cl ad cT sh A H0 nL mods g0 r0 E q.1 q.2) : ys_W p l e R s m args below meth c Q kc kz D cl ad cT sh A H0 nL mods g0 r0 E pc (b, fds, lv, sv) := by
  unfold ys_hload at hs
  split at hs
  · rename_i v hv
    split at hs
    · rename_i ht
      cases Option.some.inj hs
      have k := k _ List.mem_cons_self
      intro r H locs ls st h
      obtain ⟨g1, g2⟩ := ys_rep_loc h hv
      have h4 := k r H locs ls _ (ys_rep_push h (ys_cv b.1 v) (ys_cv_st g2))
      rw [ys_cv_den h.1.1] at h4
      exact hrow r v _ _ _ _ ht g1 h4
    · cases hs
  · cases hs
theorem ys_kind0 {v : ys_V} (h : ys_kind v = 0) : ∃ x, v = .inl (.inl x) := by
  rcases v with (x | x) | (_ | x)
  · exact ⟨x, rfl⟩
  · cases h
  · cases h
  · cases h
theorem ys_kind1 {v : ys_V} (h : ys_kind v = 1) : ∃ x, v = .inl (.inr x) := by
  rcases v with (x | x) | (_ | x)
  · cases h
  · exact ⟨x, rfl⟩
  · cases h
  · cases h
theorem ys_kind2 {v : ys_V} (h : ys_kind v = 2) : ∃ x, v = .inr (some x) := by
  rcases v with (x | x) | (_ | x)
  · cases h
  · cases h
  · cases h
  · exact ⟨x, rfl⟩
/-- a place of the frame is written -/
def ys_w1 (t : Nat) : Nat := if t = 1 then 1 else 0
def ys_stw (t : Nat) (lv : List (Nat × ys_V)) (i : Nat) (v : ys_V) : List (Nat × ys_V) := if t = 1 then ys_st2 lv i v else ys_st1 lv i v
def ys_hstore (t : Nat) (nL : Nat) (i : Nat) (pc : Nat) (b : ys_B) (fds : ys_F) (lv : List (Nat × ys_V)) (sv : List ys_V) : Option (List (Nat × ys_S)) := match sv with
  | v :: r => if ys_kind v = t && decide (i + ys_w1 t < nL) then some [(pc, b, fds, ys_stw t lv i v, r)] else none
  | [] => none
theorem ys_kstore {t i pc' : Nat} (hrow : ∀ (r : Nat → Int) (v : ys_V) (H : Heap) (locs : List Loc) (ls : Array Slot) (rest : List Value), ys_kind v = t → lv_has ls nL (ys_lvs ad r lv) → i + ys_w1 t < nL → (∀ ls' : Array Slot, lv_has ls' nL (ys_lvs ad r (ys_stw t lv i v)) → W p l e R s m args below meth c H locs kc kz Q (F0 m pc' ls' rest)) → W p l e R s m args below meth c H locs kc kz Q (F0 m pc ls (ys_den ad r v :: rest))) (hs : ys_hstore t nL i pc' b fds lv sv = some succ) (k : ∀ q ∈ succ, ys_W p l e R s m args below meth c Q kc kz D cl ad cT sh A H0 nL mods g0 r0 E q.1 q.2) : ys_W p l e R s m args below meth c Q kc kz D cl ad cT sh A H0 nL mods g0 r0 E pc (b, fds, lv, sv) := by
  unfold ys_hstore at hs
  split at hs
  · rename_i v sv'
    split at hs
    · rename_i ht
      rw [Bool.and_eq_true, decide_eq_true_eq, decide_eq_true_eq] at ht
      cases Option.some.inj hs
      have k := k _ List.mem_cons_self
      intro r H locs ls st h
      obtain ⟨st1, e1, h1, hv⟩ := ys_rep_pop h
      subst e1
      refine hrow r v _ _ _ _ ht.1 h.2.2.2.2.1 ht.2 fun ls' hls => k r H locs ls' _ ?_
      obtain ⟨g1, ⟨s0, s1, s2, s3⟩, g2, g3, g4, g5⟩ := h1
      refine ⟨g1, ⟨s0, s1, fun q hq => ?_, s3⟩, g2, g3, hls, g5⟩
      have hq : q ∈ ys_stw t lv i v := hq
      unfold ys_stw at hq
      split at hq
      · rcases List.mem_cons.mp hq with e | e
        · rw [e]; exact hv
        · exact s2 q ((List.mem_filter.mp e).1)
      · rcases List.mem_cons.mp hq with e | e
        · rw [e]; exact hv
        · exact s2 q ((List.mem_filter.mp e).1)
    · cases hs
  · cases hs
/-- a branch: the facts that hold on it -/
def ys_br (pc : Nat) (b : ys_B) (fs : List ys_L) (rest : ys_F × List (Nat × ys_V) × List ys_V) : List (Nat × ys_S) := match ys_ass b fs with
  | some b' => [(pc, b', rest)]
  | none => []
theorem ys_as_sc {n : Nat} {b b' : ys_B} {f : ys_L} (hn : b.1.length = n) (hs : ys_scB b) (hf : ys_stb n f) (h : ys_as b f = some b') : ys_scB b' := by
  have hl := ys_as_len h
  unfold ys_as at h
  split at h
  · cases h
  · cases Option.some.inj h
    intro g hg
    have key : ∀ g ∈ f :: b.2, ys_stb (ys_tg f f.1 b.1).length g := by
      intro g hg
      rw [ys_tg_len]
      rcases List.mem_cons.mp hg with e | e
      · rw [e, hn]; exact hf
      · exact hs g e
    refine key g ?_
    have hg : g ∈ (match f.1 with
      | [] => b.2
      | [q] => if q.2 = 1 then b.2 else if q.2 = -1 then b.2 else f :: b.2
      | _ => f :: b.2) := hg
    split at hg
    · exact List.mem_cons_of_mem _ hg
    · split at hg
      · exact List.mem_cons_of_mem _ hg
      · split at hg
        · exact List.mem_cons_of_mem _ hg
        · exact hg
    · exact hg
theorem ys_ass_sc : ∀ (fs : List ys_L) {n : Nat} {b b' : ys_B}, b.1.length = n → ys_scB b → (∀ f ∈ fs, ys_stb n f) → ys_ass b fs = some b' → ys_scB b'
  | [], n, b, b', hn, hs, hf, h => by cases Option.some.inj h; exact hs
  | f :: t, n, b, b', hn, hs, hf, h => by
    unfold ys_ass at h
    cases h1 : ys_as b f with
    | none => rw [h1] at h; cases h
    | some b1 =>
      rw [h1] at h
      exact ys_ass_sc t ((ys_as_len h1).trans hn) (ys_as_sc hn hs (hf f List.mem_cons_self) h1) (fun g hg => hf g (List.mem_cons_of_mem _ hg)) h
theorem ys_kbr {pc' : Nat} {fs : List ys_L} {r : Nat → Int} {H : Heap} {locs : List Loc} {ls : Array Slot} {st : List Value} (h : ys_rep D cl ad cT sh A H0 nL mods g0 r0 r E (b, fds, lv, sv) H locs ls st) (hf : ys_fk r fs) (hst : ∀ f ∈ fs, ys_stb b.1.length f) (k : ∀ q ∈ ys_br pc' b fs (fds, lv, sv), ys_W p l e R s m args below meth c Q kc kz D cl ad cT sh A H0 nL mods g0 r0 E q.1 q.2) : W p l e R s m args below meth c H locs kc kz Q (F0 m pc' ls st) := by
  obtain ⟨b', e1, h1⟩ := ys_ass_ok fs h.1 hf
  have hl := ys_ass_len fs e1
  unfold ys_br at k
  rw [e1] at k
  exact k _ List.mem_cons_self r H locs ls st (ys_rep_ext h (fun _ _ => rfl) h1 (Nat.le_of_eq hl.symm) (ys_ass_sc fs rfl h.2.1.1 hst e1))
theorem ys_stb_m1 {n : Nat} {f : ys_L} (h : ys_stb n f) : ys_stb n (ys_add f ([], -1)) := ys_stb_add h (ys_stb_cst (-1))
theorem ys_cf_st {n : Nat} {v : ys_E} {cd : ClassFile.Cond} {x y : ys_L} (hx : ys_stb n x) (hy : ys_stb n y) : ∀ f ∈ ys_cf v cd x y, ys_stb n f := by
  have one : ∀ {g : ys_L}, ys_stb n g → ∀ f ∈ [g], ys_stb n f := fun hg f hf => by rw [List.mem_singleton.mp hf]; exact hg
  cases cd with
  | eq =>
    intro f hf
    rcases List.mem_cons.mp hf with q | q
    · rw [q]; exact ys_stb_sub hx hy
    · rw [List.mem_singleton.mp q]; exact ys_stb_sub hy hx
  | ne =>
    show ∀ f ∈ ys_ne v x y, ys_stb n f
    unfold ys_ne
    split
    · exact one (ys_stb_m1 (ys_stb_sub hx hy))
    · split
      · exact one (ys_stb_m1 (ys_stb_sub hy hx))
      · intro f hf
        cases hf
  | lt => exact one (ys_stb_m1 (ys_stb_sub hy hx))
  | ge => exact one (ys_stb_sub hx hy)
  | gt => exact one (ys_stb_m1 (ys_stb_sub hx hy))
  | le => exact one (ys_stb_sub hy hx)
def ys_tgt (pc : Nat) (off : Int) : Option Nat := if 0 ≤ (pc : Int) + off then some ((pc : Int) + off).toNat else none
theorem ys_tgt_ok {off : Int} {t : Nat} (h : ys_tgt pc off = some t) : (pc : Int) + off = (t : Int) := by
  unfold ys_tgt at h
  split at h
  · cases Option.some.inj h
    omega
  · cases h
/-- a comparison of two ints, and where it goes -/
def ys_cmp2 (cd : ClassFile.Cond) (x y : ys_L) (pt pf : Nat) (b : ys_B) (rest : ys_F × List (Nat × ys_V) × List ys_V) : List (Nat × ys_S) := ((ys_cfs b.1 cd x y).flatMap fun fs => ys_br pt b fs rest) ++ ((ys_cfs b.1 (ys_cn cd) x y).flatMap fun fs => ys_br pf b fs rest)
theorem ys_cfs_st {n : Nat} {v : ys_E} {cd : ClassFile.Cond} {x y : ys_L} (hx : ys_stb n x) (hy : ys_stb n y) : ∀ fs ∈ ys_cfs v cd x y, ∀ f ∈ fs, ys_stb n f := by
  intro fs hfs f hf
  cases cd with
  | ne =>
    rcases List.mem_cons.mp hfs with q | q
    · rw [q] at hf
      rw [List.mem_singleton.mp hf]
      exact ys_stb_m1 (ys_stb_sub hx hy)
    · rw [List.mem_singleton.mp q] at hf
      rw [List.mem_singleton.mp hf]
      exact ys_stb_m1 (ys_stb_sub hy hx)
  | eq => exact ys_cf_st hx hy f (List.mem_singleton.mp hfs ▸ hf)
  | lt => exact ys_cf_st hx hy f (List.mem_singleton.mp hfs ▸ hf)
  | ge => exact ys_cf_st hx hy f (List.mem_singleton.mp hfs ▸ hf)
  | gt => exact ys_cf_st hx hy f (List.mem_singleton.mp hfs ▸ hf)
  | le => exact ys_cf_st hx hy f (List.mem_singleton.mp hfs ▸ hf)
theorem ys_kway {pc' : Nat} {cd : ClassFile.Cond} {x y : ys_L} {r : Nat → Int} {H : Heap} {locs : List Loc} {ls : Array Slot} {st : List Value} (h : ys_rep D cl ad cT sh A H0 nL mods g0 r0 r E (b, fds, lv, sv) H locs ls st) (hc : ys_ch cd (ys_ev r x) (ys_ev r y)) (sx : ys_stb b.1.length x) (sy : ys_stb b.1.length y) (k : ∀ q ∈ (ys_cfs b.1 cd x y).flatMap (fun fs => ys_br pc' b fs (fds, lv, sv)), ys_W p l e R s m args below meth c Q kc kz D cl ad cT sh A H0 nL mods g0 r0 E q.1 q.2) : W p l e R s m args below meth c H locs kc kz Q (F0 m pc' ls st) := by
  obtain ⟨fs, h1, h2⟩ := ys_cfs_ok h.1.1 hc
  exact ys_kbr h h2 (ys_cfs_st sx sy fs h1) (fun q hq => k q (List.mem_flatMap.mpr ⟨fs, h1, hq⟩))
def ys_hcmp (cd : ClassFile.Cond) (off : Int) (pc : Nat) (b : ys_B) (fds : ys_F) (lv : List (Nat × ys_V)) (sv : List ys_V) : Option (List (Nat × ys_S)) := match sv, ys_tgt pc off with
  | .inl (.inl y) :: .inl (.inl x) :: t, some tg => if ys_inr false b.1 x && ys_inr false b.1 y then some (ys_cmp2 cd x y tg (pc + 3) b (fds, lv, t)) else none
  | _, _ => none
def ys_hif (cd : ClassFile.Cond) (off : Int) (pc : Nat) (b : ys_B) (fds : ys_F) (lv : List (Nat × ys_V)) (sv : List ys_V) : Option (List (Nat × ys_S)) := match sv, ys_tgt pc off with
  | .inl (.inl x) :: t, some tg => if ys_inr false b.1 x then some (ys_cmp2 cd x ([], 0) tg (pc + 3) b (fds, lv, t)) else none
  | _, _ => none
def ys_ch32 (cd : ClassFile.Cond) (x y : Int32) : Prop := match cd with
  | .eq => x = y
  | .ne => ¬ x = y
  | .lt => x < y
  | .ge => y ≤ x
  | .gt => y < x
  | .le => x ≤ y
theorem ys_ch32_iff {cd : ClassFile.Cond} {x y : Int32} : ys_ch32 cd x y ↔ ys_ch cd x.toInt y.toInt := by
  cases cd with
  | eq => exact Int32.toInt_inj.symm
  | ne => exact not_congr Int32.toInt_inj.symm
  | lt => exact Int32.lt_iff_toInt_lt
  | ge => exact Int32.le_iff_toInt_le
  | gt => exact Int32.lt_iff_toInt_lt
  | le => exact Int32.le_iff_toInt_le
theorem ys_icmp (hexec : p.tables.exec = Jvm.exec) (hb : c.code = cc) {H : Heap} {locs : List Loc} {ls : Array Slot} {rest : List Value} {cd : ClassFile.Cond} {x y : Int32} {off : Int} {tgt : Nat} (hd : decode cc pc = .ok (.if_icmp cd off, 3)) (ht : (pc : Int) + off = (tgt : Int))
    (kt : ys_ch32 cd x y → W p l e R s m args below meth c H locs kc kz Q (F0 m tgt ls rest)) (kf : ¬ ys_ch32 cd x y → W p l e R s m args below meth c H locs kc kz Q (F0 m (pc + 3) ls rest)) : W p l e R s m args below meth c H locs kc kz Q (F0 m pc ls (.int y :: .int x :: rest)) := by
  cases cd with
  | eq => exact lv_icmp_eq hexec hb hd ht kt kf
  | ne => exact lv_icmp_ne hexec hb hd ht kt (fun hq => kf (fun hn => hn hq))
  | lt => exact lv_icmp_lt hexec hb hd ht kt kf
  | ge => exact lv_icmp_ge hexec hb hd ht kt kf
  | gt => exact lv_icmp_gt hexec hb hd ht kt kf
  | le => exact lv_icmp_le hexec hb hd ht kt kf
theorem ys_ifc (hexec : p.tables.exec = Jvm.exec) (hb : c.code = cc) {H : Heap} {locs : List Loc} {ls : Array Slot} {rest : List Value} {cd : ClassFile.Cond} {x : Int32} {off : Int} {tgt : Nat} (hd : decode cc pc = .ok (.ifCond cd off, 3)) (ht : (pc : Int) + off = (tgt : Int))
    (kt : ys_ch32 cd x 0 → W p l e R s m args below meth c H locs kc kz Q (F0 m tgt ls rest)) (kf : ¬ ys_ch32 cd x 0 → W p l e R s m args below meth c H locs kc kz Q (F0 m (pc + 3) ls rest)) : W p l e R s m args below meth c H locs kc kz Q (F0 m pc ls (.int x :: rest)) := by
  cases cd with
  | eq => exact lv_if_eq hexec hb hd ht kt kf
  | ne => exact lv_if_ne hexec hb hd ht kt (fun hq => kf (fun hn => hn hq))
  | lt => exact lv_if_lt hexec hb hd ht kt kf
  | ge => exact lv_if_ge hexec hb hd ht kt kf
  | gt => exact lv_if_gt hexec hb hd ht kt kf
  | le => exact lv_if_le hexec hb hd ht kt kf
theorem ys_kcmp2 {cd : ClassFile.Cond} {x y : ys_L} {pt pf : Nat} (hx : ∀ r, ys_okB r b → (Int32.ofInt (ys_ev r x)).toInt = ys_ev r x) (hy : ∀ r, ys_okB r b → (Int32.ofInt (ys_ev r y)).toInt = ys_ev r y) (k : ∀ q ∈ ys_cmp2 cd x y pt pf b (fds, lv, sv), ys_W p l e R s m args below meth c Q kc kz D cl ad cT sh A H0 nL mods g0 r0 E q.1 q.2) {r : Nat → Int} {H : Heap} {locs : List Loc} {ls : Array Slot} {st : List Value} (h : ys_rep D cl ad cT sh A H0 nL mods g0 r0 r E (b, fds, lv, sv) H locs ls st) (sx : ys_stb b.1.length x) (sy : ys_stb b.1.length y) :
    (ys_ch32 cd (Int32.ofInt (ys_ev r x)) (Int32.ofInt (ys_ev r y)) → W p l e R s m args below meth c H locs kc kz Q (F0 m pt ls st)) ∧ (¬ ys_ch32 cd (Int32.ofInt (ys_ev r x)) (Int32.ofInt (ys_ev r y)) → W p l e R s m args below meth c H locs kc kz Q (F0 m pf ls st)) := by
  have hb := h.1
  rw [ys_ch32_iff, hx r hb, hy r hb]
  refine ⟨fun hc => ?_, fun hc => ?_⟩
  · exact ys_kway h hc sx sy (fun q hq => k q (List.mem_append_left _ hq))
  · exact ys_kway h (ys_cn_ok hc) sx sy (fun q hq => k q (List.mem_append_right _ hq))
theorem ys_kcmp {cd : ClassFile.Cond} {off : Int} (hexec : p.tables.exec = Jvm.exec) (hb : c.code = cc) (hd : decode cc pc = .ok (.if_icmp cd off, 3)) (hs : ys_hcmp cd off pc b fds lv sv = some succ) (k : ∀ q ∈ succ, ys_W p l e R s m args below meth c Q kc kz D cl ad cT sh A H0 nL mods g0 r0 E q.1 q.2) : ys_W p l e R s m args below meth c Q kc kz D cl ad cT sh A H0 nL mods g0 r0 E pc (b, fds, lv, sv) := by
  unfold ys_hcmp at hs
  split at hs
  · rename_i y x t tg ht
    split at hs
    · rename_i hi
      rw [Bool.and_eq_true] at hi
      cases Option.some.inj hs
      intro r H locs ls st h
      obtain ⟨st1, e1, h1, hy⟩ := ys_rep_pop h
      obtain ⟨st2, e2, h2, hx⟩ := ys_rep_pop h1
      subst e1; subst e2
      have kk := ys_kcmp2 (fun r hr => ys_inr32 hr.1 hi.1) (fun r hr => ys_inr32 hr.1 hi.2) k h2 hx hy
      exact ys_icmp hexec hb hd (ys_tgt_ok ht) kk.1 kk.2
    · cases hs
  · cases hs
theorem ys_kif {cd : ClassFile.Cond} {off : Int} (hexec : p.tables.exec = Jvm.exec) (hb : c.code = cc) (hd : decode cc pc = .ok (.ifCond cd off, 3)) (hs : ys_hif cd off pc b fds lv sv = some succ) (k : ∀ q ∈ succ, ys_W p l e R s m args below meth c Q kc kz D cl ad cT sh A H0 nL mods g0 r0 E q.1 q.2) : ys_W p l e R s m args below meth c Q kc kz D cl ad cT sh A H0 nL mods g0 r0 E pc (b, fds, lv, sv) := by
  unfold ys_hif at hs
  split at hs
  · rename_i x t tg ht
    split at hs
    · rename_i hi
      cases Option.some.inj hs
      intro r H locs ls st h
      obtain ⟨st1, e1, h1, hx⟩ := ys_rep_pop h
      subst e1
      have z0 : ∀ r : Nat → Int, ys_ev r (([], 0) : ys_L) = 0 := fun _ => rfl
      have kk := ys_kcmp2 (fun r hr => ys_inr32 hr.1 hi) (fun r _ => by rw [z0]; rfl) k h1 hx (ys_stb_cst 0)
      rw [z0, show Int32.ofInt 0 = 0 from rfl] at kk
      exact ys_ifc hexec hb hd (ys_tgt_ok ht) kk.1 kk.2
    · cases hs
  · cases hs
/-- a comparison of two longs, with the branch that follows -/
def ys_hlcmp (nx : Option (Instr × Nat)) (pc : Nat) (b : ys_B) (fds : ys_F) (lv : List (Nat × ys_V)) (sv : List ys_V) : Option (List (Nat × ys_S)) := match sv, nx with
  | .inl (.inr y) :: .inl (.inr x) :: t, some (.ifCond cd off, 3) => (match ys_tgt (pc + 1) off with
    | some tg => if ys_inr true b.1 x && ys_inr true b.1 y then some (ys_cmp2 cd x y tg (pc + 1 + 3) b (fds, lv, t)) else none
    | none => none)
  | _, _ => none
theorem ys_lcmp_iff {cd : ClassFile.Cond} {x y : Int64} : ys_ch32 cd (lg_cmp x y) 0 ↔ ys_ch cd x.toInt y.toInt := by
  cases cd with
  | eq => exact (lg_cmp_eq x y).trans Int64.toInt_inj.symm
  | ne => exact not_congr ((lg_cmp_eq x y).trans Int64.toInt_inj.symm)
  | lt => exact (lg_cmp_lt x y).trans Int64.lt_iff_toInt_lt
  | ge => exact (lg_cmp_ge x y).trans Int64.le_iff_toInt_le
  | gt => exact (lg_cmp_gt x y).trans Int64.lt_iff_toInt_lt
  | le => exact (lg_cmp_le x y).trans Int64.le_iff_toInt_le
theorem ys_klcmp {nx : Option (Instr × Nat)} (hexec : p.tables.exec = Jvm.exec) (hb : c.code = cc) (hd : decode cc pc = .ok (.lcmp, 1)) (hn : ∀ i, nx = some i → decode cc (pc + 1) = .ok i) (hs : ys_hlcmp nx pc b fds lv sv = some succ) (k : ∀ q ∈ succ, ys_W p l e R s m args below meth c Q kc kz D cl ad cT sh A H0 nL mods g0 r0 E q.1 q.2) : ys_W p l e R s m args below meth c Q kc kz D cl ad cT sh A H0 nL mods g0 r0 E pc (b, fds, lv, sv) := by
  unfold ys_hlcmp at hs
  split at hs
  · rename_i y x t cd off hd2
    split at hs
    · rename_i tg ht
      split at hs
      · rename_i hi
        rw [Bool.and_eq_true] at hi
        cases Option.some.inj hs
        intro r H locs ls st h
        obtain ⟨st1, e1, h1, hy⟩ := ys_rep_pop h
        obtain ⟨st2, e2, h2, hx⟩ := ys_rep_pop h1
        subst e1; subst e2
        refine W.lcmp hexec hb hd ?_
        refine ys_ifc (pc := pc + 1) hexec hb (hn _ rfl) (ys_tgt_ok ht) (fun hc => ?_) (fun hc => ?_)
        · rw [ys_lcmp_iff, ys_inr64 h.1.1 hi.1, ys_inr64 h.1.1 hi.2] at hc
          exact ys_kway h2 hc hx hy (fun q hq => k q (List.mem_append_left _ hq))
        · rw [ys_lcmp_iff, ys_inr64 h.1.1 hi.1, ys_inr64 h.1.1 hi.2] at hc
          exact ys_kway h2 (ys_cn_ok hc) hx hy (fun q hq => k q (List.mem_append_right _ hq))
      · cases hs
    · cases hs
  · cases hs
/-- on to another place -/
def ys_hgoto (off : Int) (pc : Nat) (b : ys_B) (fds : ys_F) (lv : List (Nat × ys_V)) (sv : List ys_V) : Option (List (Nat × ys_S)) := match ys_tgt pc off with
  | some tg => some [(tg, b, fds, lv, sv)]
  | none => none
theorem ys_kgoto {off : Int} (hexec : p.tables.exec = Jvm.exec) (hb : c.code = cc) (hd : decode cc pc = .ok (.goto off, 3)) (hs : ys_hgoto off pc b fds lv sv = some succ) (k : ∀ q ∈ succ, ys_W p l e R s m args below meth c Q kc kz D cl ad cT sh A H0 nL mods g0 r0 E q.1 q.2) : ys_W p l e R s m args below meth c Q kc kz D cl ad cT sh A H0 nL mods g0 r0 E pc (b, fds, lv, sv) := by
  unfold ys_hgoto at hs
  split at hs
  · rename_i tg ht
    cases Option.some.inj hs
    have k := k _ List.mem_cons_self
    intro r H locs ls st h
    exact lv_goto hexec hb hd (ys_tgt_ok ht) (k r H locs ls st h)
  · cases hs
end YSV
end
section
/-! fields and arrays -/
def ys_fget (fs : List (List ys_V)) (k j : Nat) : Option ys_V := (fs.getD k [])[j]?
def ys_fset (fs : List (List ys_V)) (k j : Nat) (v : ys_V) : List (List ys_V) := fs.set k ((fs.getD k []).set j v)
/-- a link to a field: the kind of the object, the place of the field, its type (0 int, 1 long, 3 boolean, 2 a reference) -/
def ys_tk (t : FieldType) : Nat := match t with
  | .int => 0
  | .long => 1
  | .boolean => 3
  | _ => 2
def ys_Fl (own : String) (Ts : List Cond) (cl : List vw_C) (idx ci j tk : Nat) : Prop := ∃ (C : String) (T : u_T) (N : Nat) (ty0 : Nat → FieldType), cl[ci]? = some (C, T, N) ∧ j < N ∧ (∀ w ∈ u_ws C T N, w ∈ Ts) ∧ (∀ k, k < N → parseFieldDescriptor (T k).2.2.1 = some (ty0 k)) ∧ (∀ a, a < N → ∀ b, b < N → a ≠ b → (T a).2.1 ≠ (T b).2.1) ∧ Cond.fieldLink own idx C (T j).2.1 (T j).2.2.1 ∈ Ts ∧ (T j).1 = C ∧ (tk ≠ 2 → (T j).2.2.2 = false) ∧ ys_tk (ty0 j) = tk
abbrev ys_FL : Type := List (Nat × (Nat × Nat × Nat))
section YSM
variable {p : Program} {l : Launch} {e : Env} {R : Room} {s : State} {m : MethodId} {args : Array Value} {below : List Frame} {meth : Method} {c : Code} {Q : State → Prop} {kc kz : Nat} {D : va_G} {cl : List vw_C} {ad : Nat → Nat} {cT : Nat → ClassId} {sh : List ys_C} {A : Nat → Prop} {H0 : Heap} {nL : Nat} {mods : List Nat} {g0 : Nat → Nat → Int} {r0 : Nat → Int} {E : Nat} {pc : Nat} {b : ys_B} {fds : ys_F} {lv : List (Nat × ys_V)} {sv : List ys_V} {succ : List (Nat × ys_S)} {cc : ByteArray} {own : String} {Ts : List Cond} {tys : List (ClassId × FieldType)}
def ys_hget (sh : List ys_C) (fl : ys_FL) (idx : Nat) (pc : Nat) (b : ys_B) (fds : ys_F) (lv : List (Nat × ys_V)) (sv : List ys_V) : Option (List (Nat × ys_S)) := match sv, fl.lookup idx with
  | .inr (some k) :: t, some (ci, j, _) => (match ys_fget fds.1 k j with
    | some v => if sh[k]? = some (.inl ci) then some [(pc + 3, b, fds, lv, v :: t)] else none
    | none => none)
  | _, _ => none
theorem ys_kget {fl : ys_FL} {idx : Nat} (hexec : p.tables.exec = Jvm.exec) (hb : c.code = cc) (hts : ∀ w ∈ Ts, w.before args s = true) (hown : s.vm.findClass own = some m.cls) (hK : va_K D cl tys s) (hfl : ∀ idx ci j tk, fl.lookup idx = some (ci, j, tk) → ys_Fl own Ts cl idx ci j tk) (hd : decode cc pc = .ok (.getfield idx, 3)) (hs : ys_hget sh fl idx pc b fds lv sv = some succ) (k : ∀ q ∈ succ, ys_W p l e R s m args below meth c Q kc kz D cl ad cT sh A H0 nL mods g0 r0 E q.1 q.2) : ys_W p l e R s m args below meth c Q kc kz D cl ad cT sh A H0 nL mods g0 r0 E pc (b, fds, lv, sv) := by
  unfold ys_hget at hs
  split at hs
  · rename_i kc t ci j tk hlk
    split at hs
    · rename_i v hv
      split at hs
      · rename_i hsh
        cases Option.some.inj hs
        have k := k _ List.mem_cons_self
        obtain ⟨C, T, N, ty0, h1, h2, h3, h4, h5, h6, h7, -, -⟩ := hfl _ _ _ _ hlk
        intro r H locs ls st h
        obtain ⟨st1, e1, g1, -⟩ := ys_rep_pop h
        subst e1
        obtain ⟨g, hg, hP, hD, hS⟩ := g1.2.2.2.1
        have hw := ys_wld_get (ad := ad) (cT := cT) (r := r) (g := g) (fds := fds.1) hsh
        have hmem : v ∈ fds.1.getD kc [] := List.mem_of_getElem? hv
        have hsv : ys_stV b.1.length v := by
          rw [List.getD_eq_getElem?_getD] at hmem
          cases hc : fds.1[kc]? with
          | none => rw [hc] at hmem; cases hmem
          | some w => rw [hc] at hmem; exact h.2.1.2.1 w (List.mem_of_getElem? hc) v hmem
        refine va_get (v := ys_den ad r v) hexec hb hts h3 hown hK hP kc hw h1 j h2 (hts _ h6) (fun _ hq => h7 ▸ hq) ?_ hd (k r H locs ls _ (ys_rep_push g1 v hsv))
        rw [List.getElem?_map]
        show Option.map _ ((fds.1.getD kc [])[j]?) = _
        rw [show (fds.1.getD kc [])[j]? = some v from hv]
        rfl
      · cases hs
    · cases hs
  · cases hs
def ys_fits (tk : Nat) (v : ys_E) (x : ys_V) : Bool := match x with
  | .inl (.inl e) => tk == 0 || (tk == 3 && (ys_geb v e 0 && ys_geb v (ys_scale (-1) e) (-1)))
  | .inl (.inr _) => tk == 1
  | _ => false
def ys_hput (sh : List ys_C) (fl : ys_FL) (idx : Nat) (pc : Nat) (b : ys_B) (fds : ys_F) (lv : List (Nat × ys_V)) (sv : List ys_V) : Option (List (Nat × ys_S)) := match sv, fl.lookup idx with
  | v :: .inr (some k) :: t, some (ci, j, tk) => if ys_fits tk b.1 v && decide (sh[k]? = some (.inl ci)) && decide (j < (fds.1.getD k []).length) then some [(pc + 3, b, (ys_fset fds.1 k j v, fds.2), lv, t)] else none
  | _, _ => none
theorem ys_01 {x : Int} (h0 : 0 ≤ x) (h1 : x ≤ 1) : Int32.ofInt x = 0 ∨ Int32.ofInt x = 1 := by
  rcases (show x = 0 ∨ x = 1 by omega) with q | q
  · rw [q]; exact Or.inl rfl
  · rw [q]; exact Or.inr rfl
theorem ys_tk0 {t : FieldType} (h : ys_tk t = 0) : t = .int := by
  cases t <;> first | rfl | cases h
theorem ys_tk1 {t : FieldType} (h : ys_tk t = 1) : t = .long := by
  cases t <;> first | rfl | cases h
theorem ys_tk3 {t : FieldType} (h : ys_tk t = 3) : t = .boolean := by
  cases t <;> first | rfl | cases h
theorem ys_fits_ok {r : Nat → Int} {tk : Nat} {v : ys_E} {x : ys_V} {ty : FieldType} (hv : ys_ok r v) (ht : ys_tk ty = tk) (h : ys_fits tk v x = true) : narrow ty (ys_den ad r x) = ys_den ad r x ∧ fits ty (ys_den ad r x) = true ∧ tk ≠ 2 := by
  rcases x with (x | x) | x
  · unfold ys_fits at h
    simp only [Bool.or_eq_true, Bool.and_eq_true, beq_iff_eq] at h
    rcases h with h | ⟨h, h1, h2⟩
    · rw [h] at ht
      rw [ys_tk0 ht]
      exact ⟨rfl, rfl, by omega⟩
    · rw [h] at ht
      rw [ys_tk3 ht]
      have g1 := ys_geb_le hv h1
      have g2 := ys_geb_le hv h2
      rw [ys_scale_ev] at g2
      rcases ys_01 g1 (show ys_ev r x ≤ 1 by omega) with q | q
      · refine ⟨?_, ?_, by omega⟩
        · show Value.int (Int32.ofInt (ys_ev r x) &&& 1) = Value.int (Int32.ofInt (ys_ev r x))
          rw [q]; rfl
        · show (Int32.ofInt (ys_ev r x) == 0 || Int32.ofInt (ys_ev r x) == 1) = true
          rw [q]; rfl
      · refine ⟨?_, ?_, by omega⟩
        · show Value.int (Int32.ofInt (ys_ev r x) &&& 1) = Value.int (Int32.ofInt (ys_ev r x))
          rw [q]; rfl
        · show (Int32.ofInt (ys_ev r x) == 0 || Int32.ofInt (ys_ev r x) == 1) = true
          rw [q]; rfl
  · unfold ys_fits at h
    simp only [beq_iff_eq] at h
    rw [h] at ht
    rw [ys_tk1 ht]
    exact ⟨rfl, rfl, by omega⟩
  · unfold ys_fits at h
    cases h
theorem ys_mem_set {α : Type} {x y : α} : ∀ {l : List α} {i : Nat}, x ∈ l.set i y → x = y ∨ x ∈ l
  | [], i, h => by
    rw [List.set_nil] at h
    exact Or.inr h
  | z :: t, 0, h => by
    rcases List.mem_cons.mp h with q | q
    · exact Or.inl q
    · exact Or.inr (List.mem_cons_of_mem _ q)
  | z :: t, i + 1, h => by
    rcases List.mem_cons.mp h with q | q
    · exact Or.inr (q ▸ List.mem_cons_self)
    · rcases ys_mem_set q with q | q
      · exact Or.inl q
      · exact Or.inr (List.mem_cons_of_mem _ q)
theorem ys_fset_mem {fs : List (List ys_V)} {k j n : Nat} {v : ys_V} (h : ∀ w ∈ fs, ∀ v ∈ w, ys_stV n v) (hv : ys_stV n v) : ∀ w ∈ ys_fset fs k j v, ∀ v ∈ w, ys_stV n v := by
  intro w hw u hu
  rcases ys_mem_set hw with q | q
  · rw [q] at hu
    rcases ys_mem_set hu with q2 | q2
    · rw [q2]; exact hv
    · rw [List.getD_eq_getElem?_getD] at q2
      cases hc : fs[k]? with
      | none => rw [hc] at q2; cases q2
      | some x => rw [hc] at q2; exact h x (List.mem_of_getElem? hc) u q2
  · exact h w q u hu
theorem ys_fset_get {fs : List (List ys_V)} {k j i : Nat} {v : ys_V} (h : i ≠ k) : (ys_fset fs k j v).getD i [] = fs.getD i [] := by
  unfold ys_fset
  rw [List.getD_eq_getElem?_getD, List.getElem?_set_ne (Ne.symm h), ← List.getD_eq_getElem?_getD]
theorem ys_fset_self {fs : List (List ys_V)} {k j : Nat} {v : ys_V} (h : j < (fs.getD k []).length) : (ys_fset fs k j v).getD k [] = (fs.getD k []).set j v := by
  unfold ys_fset
  have hk : k < fs.length := by
    rcases Nat.lt_or_ge k fs.length with q | q
    · exact q
    · rw [List.getD_eq_getElem?_getD, List.getElem?_eq_none q] at h
      cases h
  rw [List.getD_eq_getElem?_getD, List.getElem?_set_self hk]
  rfl
theorem ys_kput {fl : ys_FL} {idx : Nat} (hexec : p.tables.exec = Jvm.exec) (hb : c.code = cc) (hts : ∀ w ∈ Ts, w.before args s = true) (hown : s.vm.findClass own = some m.cls) (hK : va_K D cl tys s) (hfl : ∀ idx ci j tk, fl.lookup idx = some (ci, j, tk) → ys_Fl own Ts cl idx ci j tk) (hd : decode cc pc = .ok (.putfield idx, 3)) (hs : ys_hput sh fl idx pc b fds lv sv = some succ) (k : ∀ q ∈ succ, ys_W p l e R s m args below meth c Q kc kz D cl ad cT sh A H0 nL mods g0 r0 E q.1 q.2) : ys_W p l e R s m args below meth c Q kc kz D cl ad cT sh A H0 nL mods g0 r0 E pc (b, fds, lv, sv) := by
  unfold ys_hput at hs
  split at hs
  · rename_i v kc t ci j tk hlk
    split at hs
    · rename_i hc
      rw [Bool.and_eq_true, Bool.and_eq_true, decide_eq_true_eq, decide_eq_true_eq] at hc
      obtain ⟨⟨hfit, hsh⟩, hjl⟩ := hc
      cases Option.some.inj hs
      have k := k _ List.mem_cons_self
      obtain ⟨C, T, N, ty0, h1, h2, h3, h4, h5, h6, h7, h8, h9⟩ := hfl _ _ _ _ hlk
      intro r H locs ls st h
      obtain ⟨st1, e1, g1, hv⟩ := ys_rep_pop h
      obtain ⟨st2, e2, g2, -⟩ := ys_rep_pop g1
      subst e1; subst e2
      obtain ⟨q1, ⟨s0, s1, s2, s3⟩, q2, ⟨g, hg, hP, hD, hS⟩, q4, q5⟩ := g2
      obtain ⟨f1, f2, f3⟩ := ys_fits_ok (ad := ad) h.1.1 h9 hfit
      have hw := ys_wld_get (ad := ad) (cT := cT) (r := r) (g := g) (fds := fds.1) hsh
      refine va_put (v := ys_den ad r v) (ty := ty0 j) hexec hb hts h3 ty0 h4 h5 hown hK hP hD hS kc hw h1 j h2 (hts _ h6) (fun _ hq => h7 ▸ hq) (h8 f3) (h4 j h2) f1 f2 (by rw [List.length_map]; exact hjl) hd fun H1 locs1 hP1 hD1 hS1 => ?_
      have ew := ys_wld_set (ad := ad) (cT := cT) (r := r) (g := g) (g' := g) (fds := fds.1) (fds' := ys_fset fds.1 kc j v) hsh (fun i hi => ⟨rfl, ys_fset_get hi⟩)
      have ec : ys_cel ad cT r g kc (.inl ci) ((ys_fset fds.1 kc j v).getD kc []) = (ad kc, .inr (ci, ((fds.1.getD kc []).map (ys_den ad r)).set j (ys_den ad r v))) := by
        rw [ys_fset_self hjl]
        show (ad kc, Sum.inr (ci, ((fds.1.getD kc []).set j v).map (ys_den ad r))) = _
        rw [List.map_set]
      rw [ec] at ew
      refine k r H1 locs1 ls _ ⟨q1, ⟨s0, ys_fset_mem s1 hv, s2, s3⟩, q2, ⟨g, hg, ?_, ?_, hS1⟩, q4, q5⟩
      · show va_P D cl (ys_wld ad cT sh r g (ys_fset fds.1 kc j v)) H1
        rw [ew]
        exact hP1
      · show va_D A (ys_wld ad cT sh r g (ys_fset fds.1 kc j v))
        rw [ew]
        exact hD1
    · cases hs
  · cases hs
/-! reading an array -/
def ys_hul (q w : Int × Int) : Int × Int := (if q.1 ≤ w.1 then q.1 else w.1, if q.2 ≤ w.2 then w.2 else q.2)
def ys_not (v : ys_E) (e : ys_L) (i : Nat) : Bool := ys_geb v e ((i : Int) + 1) || ys_geb v (ys_scale (-1) e) (1 - (i : Int))
def ys_rds (v : ys_E) (e : ys_L) : List (Nat × (Int × Int)) → Int × Int → Int × Int
  | [], q => q
  | x :: t, q => ys_rds v e t (if ys_not v e x.1 then q else ys_hul q x.2)
def ys_sgl (v : ys_E) (e : ys_L) : Option Nat := match ys_low v e, ys_high v e with
  | some l, some u => if l = u then some l.toNat else none
  | _, _ => none
theorem ys_sgl_ok {r : Nat → Int} {v : ys_E} (hv : ys_ok r v) {e : ys_L} {i n : Nat} (h : ys_sgl v e = some i) (he : ys_ev r e = (n : Int)) : i = n := by
  unfold ys_sgl at h
  split at h
  · rename_i l u hl hu
    split at h
    · cases Option.some.inj h
      have := ys_low_le hv hl
      have := ys_high_le hv hu
      omega
    · cases h
  · cases h
def ys_rd (v : ys_E) (a : ys_R) (e : ys_L) : Int × Int := match ys_sgl v e with
  | some i => ys_rat a i
  | none => ys_rds v e a.2 a.1
/-- a place of its own, where the index may be -/
def ys_spl (v : ys_E) (a : ys_R) (e : ys_L) : Option Nat := match ys_sgl v e with
  | some _ => none
  | none => (match a.2.find? (fun x => !ys_not v e x.1) with
    | some x => some x.1
    | none => none)
def ys_cut3 (pc : Nat) (b : ys_B) (e : ys_L) (i : Nat) (rest : ys_F × List (Nat × ys_V) × List ys_V) : List (Nat × ys_S) := ys_br pc b [ys_sub e ([], (i : Int)), ys_sub ([], (i : Int)) e] rest ++ (ys_br pc b [ys_sub ([], (i : Int) - 1) e] rest ++ ys_br pc b [ys_sub e ([], (i : Int) + 1)] rest)
theorem ys_not_ok {r : Nat → Int} {v : ys_E} (hv : ys_ok r v) {e : ys_L} {i : Nat} (h : ys_not v e i = true) : ys_ev r e ≠ (i : Int) := by
  unfold ys_not at h
  rcases (Bool.or_eq_true _ _).mp h with q | q
  · have := ys_geb_le hv q
    omega
  · have := ys_geb_le hv q
    rw [ys_scale_ev] at this
    omega
theorem ys_hul_l {q w : Int × Int} {z : Int} (h : q.1 ≤ z ∧ z ≤ q.2) : (ys_hul q w).1 ≤ z ∧ z ≤ (ys_hul q w).2 := by
  unfold ys_hul
  constructor
  · show (if q.1 ≤ w.1 then q.1 else w.1) ≤ z
    split <;> omega
  · show z ≤ (if q.2 ≤ w.2 then w.2 else q.2)
    split <;> omega
theorem ys_hul_r {q w : Int × Int} {z : Int} (h : w.1 ≤ z ∧ z ≤ w.2) : (ys_hul q w).1 ≤ z ∧ z ≤ (ys_hul q w).2 := by
  unfold ys_hul
  constructor
  · show (if q.1 ≤ w.1 then q.1 else w.1) ≤ z
    split <;> omega
  · show z ≤ (if q.2 ≤ w.2 then w.2 else q.2)
    split <;> omega
theorem ys_rds_acc {v : ys_E} {e : ys_L} {z : Int} : ∀ (l : List (Nat × (Int × Int))) (q : Int × Int), q.1 ≤ z ∧ z ≤ q.2 → (ys_rds v e l q).1 ≤ z ∧ z ≤ (ys_rds v e l q).2
  | [], q, h => h
  | x :: t, q, h => by
    unfold ys_rds
    refine ys_rds_acc t _ ?_
    split
    · exact h
    · exact ys_hul_l h
theorem ys_rds_in {r : Nat → Int} {v : ys_E} (hv : ys_ok r v) {e : ys_L} {z : Int} {n : Nat} (he : ys_ev r e = (n : Int)) {w : Int × Int} (hw : w.1 ≤ z ∧ z ≤ w.2) : ∀ (l : List (Nat × (Int × Int))) (q : Int × Int), l.lookup n = some w → (ys_rds v e l q).1 ≤ z ∧ z ≤ (ys_rds v e l q).2
  | [], q, h => by cases h
  | (i, x) :: t, q, h => by
    unfold ys_rds
    unfold List.lookup at h
    cases hc : n == i with
    | true =>
      rw [hc] at h
      cases h
      rw [beq_iff_eq] at hc
      subst hc
      refine ys_rds_acc t _ ?_
      split
      · rename_i hn
        exact absurd he (ys_not_ok hv hn)
      · exact ys_hul_r hw
    | false =>
      rw [hc] at h
      exact ys_rds_in hv he hw t _ h
theorem ys_rd_ok {r : Nat → Int} {v : ys_E} (hv : ys_ok r v) {a : ys_R} {f : Nat → Int} (ha : ys_rok a f) {e : ys_L} {n : Nat} (he : ys_ev r e = (n : Int)) : (ys_rd v a e).1 ≤ f n ∧ f n ≤ (ys_rd v a e).2 := by
  have h := ha n
  unfold ys_rd
  split
  · rename_i i h1
    rw [ys_sgl_ok hv h1 he]
    exact h
  · unfold ys_rat at h
    cases hc : a.2.lookup n with
    | none =>
      rw [hc] at h
      exact ys_rds_acc _ _ h
    | some w =>
      rw [hc] at h
      exact ys_rds_in hv he h _ _ hc
theorem ys_kcut3 {x : ys_L} {i : Nat} {r : Nat → Int} {H : Heap} {locs : List Loc} {ls : Array Slot} {st : List Value} (h : ys_rep D cl ad cT sh A H0 nL mods g0 r0 r E (b, fds, lv, sv) H locs ls st) (sx : ys_stb b.1.length x) (k : ∀ q ∈ ys_cut3 pc b x i (fds, lv, sv), ys_W p l e R s m args below meth c Q kc kz D cl ad cT sh A H0 nL mods g0 r0 E q.1 q.2) : W p l e R s m args below meth c H locs kc kz Q (F0 m pc ls st) := by
  have z : ∀ i : Int, ys_ev r (([], i) : ys_L) = i := fun i => Int.zero_add _
  have one : ∀ {g : ys_L}, ys_stb b.1.length g → ∀ f ∈ [g], ys_stb b.1.length f := fun hg f hf => by rw [List.mem_singleton.mp hf]; exact hg
  by_cases h1 : ys_ev r x < (i : Int)
  · exact ys_kbr h (ys_fk1 (f := ys_sub ([], (i : Int) - 1) x) (by rw [ys_sub_ev, z]; omega)) (one (ys_stb_sub (ys_stb_cst _) sx)) (fun q hq => k q (List.mem_append_right _ (List.mem_append_left _ hq)))
  · by_cases h2 : (i : Int) < ys_ev r x
    · exact ys_kbr h (ys_fk1 (f := ys_sub x ([], (i : Int) + 1)) (by rw [ys_sub_ev, z]; omega)) (one (ys_stb_sub sx (ys_stb_cst _))) (fun q hq => k q (List.mem_append_right _ (List.mem_append_right _ hq)))
    · refine ys_kbr h (fs := [ys_sub x ([], (i : Int)), ys_sub ([], (i : Int)) x]) (fun f hf => ?_) (fun f hf => ?_) (fun q hq => k q (List.mem_append_left _ hq))
      · rcases List.mem_cons.mp hf with q | q
        · rw [q, ys_sub_ev, z]; omega
        · rw [List.mem_singleton.mp q, ys_sub_ev, z]; omega
      · rcases List.mem_cons.mp hf with q | q
        · rw [q]; exact ys_stb_sub sx (ys_stb_cst _)
        · rw [List.mem_singleton.mp q]; exact ys_stb_sub (ys_stb_cst _) sx
/-- a place within an array -/
def ys_inb (b : ys_B) (e : ys_L) (len : Nat) : Bool := ys_inr false b.1 e && (ys_ge b.1 b.2 2 e && ys_ge b.1 b.2 2 (ys_sub ([], (len : Int) - 1) e))
theorem ys_inb_ok {r : Nat → Int} (h : ys_okB r b) {x : ys_L} {len : Nat} (hi : ys_inb b x len = true) : ∃ n : Nat, ys_ev r x = (n : Int) ∧ n < len ∧ vp_in (Int32.ofInt (ys_ev r x)) len ∧ (Int32.ofInt (ys_ev r x)).toNatClampNeg = n := by
  unfold ys_inb at hi
  rw [Bool.and_eq_true, Bool.and_eq_true] at hi
  have e0 := ys_inr32 h.1 hi.1
  have h1 := ys_ge_le h.1 h.2 _ _ hi.2.1
  have h2 := ys_ge_le h.1 h.2 _ _ hi.2.2
  rw [ys_sub_ev] at h2
  have h3 : ys_ev r (([], (len : Int) - 1) : ys_L) = (len : Int) - 1 := Int.zero_add _
  rw [h3] at h2
  obtain ⟨n, hn⟩ := Int.eq_ofNat_of_zero_le h1
  have e1 : (Int32.ofInt (ys_ev r x)).toNatClampNeg = n := by
    show (Int32.ofInt (ys_ev r x)).toInt.toNat = n
    rw [e0, hn]
    rfl
  refine ⟨n, hn, by omega, ?_, e1⟩
  rw [vp_in_iff, e0]
  omega

def ys_hiald (sh : List ys_C) (pc : Nat) (b : ys_B) (fds : ys_F) (lv : List (Nat × ys_V)) (sv : List ys_V) : Option (List (Nat × ys_S)) := match sv with
  | .inl (.inl x) :: .inr (some k) :: t => (match sh[k]?, fds.2[k]? with
    | some (.inr y), some a => if decide (y.1 = 0) && ys_inb b x y.2.1 then (match ys_spl b.1 a x with
      | some i => some (ys_cut3 pc b x i (fds, lv, .inl (.inl x) :: .inr (some k) :: t))
      | none => some [(pc + 1, (ys_nw b (ys_rd b.1 a x)).1, fds, lv, .inl (.inl (ys_nw b (ys_rd b.1 a x)).2) :: t)]) else none
    | _, _ => none)
  | _ => none
theorem ys_kiald (hexec : p.tables.exec = Jvm.exec) (hb : c.code = cc) (hK : va_K D cl tys s) (hty : tys[0]? = some (cT 0, .int)) (hd : decode cc pc = .ok (.iaload, 1)) (hs : ys_hiald sh pc b fds lv sv = some succ) (k : ∀ q ∈ succ, ys_W p l e R s m args below meth c Q kc kz D cl ad cT sh A H0 nL mods g0 r0 E q.1 q.2) : ys_W p l e R s m args below meth c Q kc kz D cl ad cT sh A H0 nL mods g0 r0 E pc (b, fds, lv, sv) := by
  unfold ys_hiald at hs
  split at hs
  · rename_i x kc t
    split at hs
    · rename_i y a hsh har
      split at hs
      · rename_i hc
        rw [Bool.and_eq_true, decide_eq_true_eq] at hc
        obtain ⟨hkd, hin⟩ := hc
        split at hs
        · rename_i i hi
          cases Option.some.inj hs
          intro r H locs ls st h
          exact ys_kcut3 h (h.2.1.2.2.2 (.inl (.inl x)) List.mem_cons_self) k
        cases Option.some.inj hs
        have k := k _ List.mem_cons_self
        intro r H locs ls st h
        obtain ⟨st1, e1, g1, hx⟩ := ys_rep_pop h
        obtain ⟨st2, e2, g2, -⟩ := ys_rep_pop g1
        subst e1; subst e2
        obtain ⟨g, hg, hP, hD, hS⟩ := g2.2.2.2.1
        obtain ⟨n, e3, hn, hvi, e4⟩ := ys_inb_ok h.1 hin
        have hw := ys_wld_get (ad := ad) (cT := cT) (r := r) (g := g) (fds := fds.1) hsh
        obtain ⟨kd, len, tg⟩ := y
        have hkd : kd = 0 := hkd
        subst hkd
        refine va_iald hexec hb hK hP kc 0 (f := fun j => Int32.ofInt (g kc j)) hw hty hvi hd ?_
        rw [e4]
        obtain ⟨r', hag, hbb, hl, hsc, hst, hval⟩ := ys_Op_nw (P := fun z => z = g kc n) (g kc n) h.1 h.2.1.1 (ys_rd_ok h.1.1 (hg.1 kc a har) e3) rfl
        have h4 := k r' H locs ls _ (ys_rep_push (ys_rep_ext g2 hag hbb hl hsc) (.inl (.inl (ys_nw b (ys_rd b.1 a x)).2)) hst)
        have e5 : ys_den ad r' (.inl (.inl (ys_nw b (ys_rd b.1 a x)).2)) = .int (Int32.ofInt (g kc n)) := by
          show Value.int (Int32.ofInt (ys_ev r' _)) = _
          rw [hval]
        rw [e5] at h4
        exact h4
      · cases hs
    · cases hs
  · cases hs
def ys_hlald (sh : List ys_C) (pc : Nat) (b : ys_B) (fds : ys_F) (lv : List (Nat × ys_V)) (sv : List ys_V) : Option (List (Nat × ys_S)) := match sv with
  | .inl (.inl x) :: .inr (some k) :: t => (match sh[k]?, fds.2[k]? with
    | some (.inr y), some a => if decide (y.1 = 1) && ys_inb b x y.2.1 then (match ys_spl b.1 a x with
      | some i => some (ys_cut3 pc b x i (fds, lv, .inl (.inl x) :: .inr (some k) :: t))
      | none => some [(pc + 1, (ys_nw b (ys_rd b.1 a x)).1, fds, lv, .inl (.inr (ys_nw b (ys_rd b.1 a x)).2) :: t)]) else none
    | _, _ => none)
  | _ => none
theorem ys_klald (hexec : p.tables.exec = Jvm.exec) (hb : c.code = cc) (hK : va_K D cl tys s) (hty : tys[1]? = some (cT 1, .long)) (hd : decode cc pc = .ok (.laload, 1)) (hs : ys_hlald sh pc b fds lv sv = some succ) (k : ∀ q ∈ succ, ys_W p l e R s m args below meth c Q kc kz D cl ad cT sh A H0 nL mods g0 r0 E q.1 q.2) : ys_W p l e R s m args below meth c Q kc kz D cl ad cT sh A H0 nL mods g0 r0 E pc (b, fds, lv, sv) := by
  unfold ys_hlald at hs
  split at hs
  · rename_i x kc t
    split at hs
    · rename_i y a hsh har
      split at hs
      · rename_i hc
        rw [Bool.and_eq_true, decide_eq_true_eq] at hc
        obtain ⟨hkd, hin⟩ := hc
        split at hs
        · rename_i i hi
          cases Option.some.inj hs
          intro r H locs ls st h
          exact ys_kcut3 h (h.2.1.2.2.2 (.inl (.inl x)) List.mem_cons_self) k
        cases Option.some.inj hs
        have k := k _ List.mem_cons_self
        intro r H locs ls st h
        obtain ⟨st1, e1, g1, hx⟩ := ys_rep_pop h
        obtain ⟨st2, e2, g2, -⟩ := ys_rep_pop g1
        subst e1; subst e2
        obtain ⟨g, hg, hP, hD, hS⟩ := g2.2.2.2.1
        obtain ⟨n, e3, hn, hvi, e4⟩ := ys_inb_ok h.1 hin
        have hw := ys_wld_get (ad := ad) (cT := cT) (r := r) (g := g) (fds := fds.1) hsh
        obtain ⟨kd, len, tg⟩ := y
        have hkd : kd = 1 := hkd
        subst hkd
        refine va_lald hexec hb hK hP kc 1 (f := fun j => Int64.ofInt (g kc j)) hw hty hvi hd ?_
        rw [e4]
        obtain ⟨r', hag, hbb, hl, hsc, hst, hval⟩ := ys_Op_nw (P := fun z => z = g kc n) (g kc n) h.1 h.2.1.1 (ys_rd_ok h.1.1 (hg.1 kc a har) e3) rfl
        have h4 := k r' H locs ls _ (ys_rep_push (ys_rep_ext g2 hag hbb hl hsc) (.inl (.inr (ys_nw b (ys_rd b.1 a x)).2)) hst)
        have e5 : ys_den ad r' (.inl (.inr (ys_nw b (ys_rd b.1 a x)).2)) = .long (Int64.ofInt (g kc n)) := by
          show Value.long (Int64.ofInt (ys_ev r' _)) = _
          rw [hval]
        rw [e5] at h4
        exact h4
      · cases hs
    · cases hs
  · cases hs
def ys_hbald (sh : List ys_C) (pc : Nat) (b : ys_B) (fds : ys_F) (lv : List (Nat × ys_V)) (sv : List ys_V) : Option (List (Nat × ys_S)) := match sv with
  | .inl (.inl x) :: .inr (some k) :: t => (match sh[k]?, fds.2[k]? with
    | some (.inr y), some a => if decide (y.1 = 2) && ys_inb b x y.2.1 then (match ys_spl b.1 a x with
      | some i => some (ys_cut3 pc b x i (fds, lv, .inl (.inl x) :: .inr (some k) :: t))
      | none => some [(pc + 1, (ys_nw b (ys_rd b.1 a x)).1, fds, lv, .inl (.inl (ys_nw b (ys_rd b.1 a x)).2) :: t)]) else none
    | _, _ => none)
  | _ => none
theorem ys_kbald (hexec : p.tables.exec = Jvm.exec) (hb : c.code = cc) (hK : va_K D cl tys s) (hty : tys[2]? = some (cT 2, .byte)) (hd : decode cc pc = .ok (.baload, 1)) (hs : ys_hbald sh pc b fds lv sv = some succ) (k : ∀ q ∈ succ, ys_W p l e R s m args below meth c Q kc kz D cl ad cT sh A H0 nL mods g0 r0 E q.1 q.2) : ys_W p l e R s m args below meth c Q kc kz D cl ad cT sh A H0 nL mods g0 r0 E pc (b, fds, lv, sv) := by
  unfold ys_hbald at hs
  split at hs
  · rename_i x kc t
    split at hs
    · rename_i y a hsh har
      split at hs
      · rename_i hc
        rw [Bool.and_eq_true, decide_eq_true_eq] at hc
        obtain ⟨hkd, hin⟩ := hc
        split at hs
        · rename_i i hi
          cases Option.some.inj hs
          intro r H locs ls st h
          exact ys_kcut3 h (h.2.1.2.2.2 (.inl (.inl x)) List.mem_cons_self) k
        cases Option.some.inj hs
        have k := k _ List.mem_cons_self
        intro r H locs ls st h
        obtain ⟨st1, e1, g1, hx⟩ := ys_rep_pop h
        obtain ⟨st2, e2, g2, -⟩ := ys_rep_pop g1
        subst e1; subst e2
        obtain ⟨g, hg, hP, hD, hS⟩ := g2.2.2.2.1
        obtain ⟨n, e3, hn, hvi, e4⟩ := ys_inb_ok h.1 hin
        have hw := ys_wld_get (ad := ad) (cT := cT) (r := r) (g := g) (fds := fds.1) hsh
        obtain ⟨kd, len, tg⟩ := y
        have hkd : kd = 2 := hkd
        subst hkd
        refine va_bald hexec hb hK hP kc 2 (f := fun j => Int32.ofInt (g kc j)) hw hty hvi hd ?_
        rw [e4]
        obtain ⟨r', hag, hbb, hl, hsc, hst, hval⟩ := ys_Op_nw (P := fun z => z = g kc n) (g kc n) h.1 h.2.1.1 (ys_rd_ok h.1.1 (hg.1 kc a har) e3) rfl
        have h4 := k r' H locs ls _ (ys_rep_push (ys_rep_ext g2 hag hbb hl hsc) (.inl (.inl (ys_nw b (ys_rd b.1 a x)).2)) hst)
        have e5 : ys_den ad r' (.inl (.inl (ys_nw b (ys_rd b.1 a x)).2)) = .int (Int32.ofInt (g kc n)) := by
          show Value.int (Int32.ofInt (ys_ev r' _)) = _
          rw [hval]
        rw [e5] at h4
        exact h4
      · cases hs
    · cases hs
  · cases hs
def ys_hzald (sh : List ys_C) (pc : Nat) (b : ys_B) (fds : ys_F) (lv : List (Nat × ys_V)) (sv : List ys_V) : Option (List (Nat × ys_S)) := match sv with
  | .inl (.inl x) :: .inr (some k) :: t => (match sh[k]?, fds.2[k]? with
    | some (.inr y), some a => if decide (y.1 = 3) && ys_inb b x y.2.1 then (match ys_spl b.1 a x with
      | some i => some (ys_cut3 pc b x i (fds, lv, .inl (.inl x) :: .inr (some k) :: t))
      | none => some [(pc + 1, (ys_nw b (ys_rd b.1 a x)).1, fds, lv, .inl (.inl (ys_nw b (ys_rd b.1 a x)).2) :: t)]) else none
    | _, _ => none)
  | _ => none
theorem ys_kzald (hexec : p.tables.exec = Jvm.exec) (hb : c.code = cc) (hK : va_K D cl tys s) (hty : tys[3]? = some (cT 3, .boolean)) (hd : decode cc pc = .ok (.baload, 1)) (hs : ys_hzald sh pc b fds lv sv = some succ) (k : ∀ q ∈ succ, ys_W p l e R s m args below meth c Q kc kz D cl ad cT sh A H0 nL mods g0 r0 E q.1 q.2) : ys_W p l e R s m args below meth c Q kc kz D cl ad cT sh A H0 nL mods g0 r0 E pc (b, fds, lv, sv) := by
  unfold ys_hzald at hs
  split at hs
  · rename_i x kc t
    split at hs
    · rename_i y a hsh har
      split at hs
      · rename_i hc
        rw [Bool.and_eq_true, decide_eq_true_eq] at hc
        obtain ⟨hkd, hin⟩ := hc
        split at hs
        · rename_i i hi
          cases Option.some.inj hs
          intro r H locs ls st h
          exact ys_kcut3 h (h.2.1.2.2.2 (.inl (.inl x)) List.mem_cons_self) k
        cases Option.some.inj hs
        have k := k _ List.mem_cons_self
        intro r H locs ls st h
        obtain ⟨st1, e1, g1, hx⟩ := ys_rep_pop h
        obtain ⟨st2, e2, g2, -⟩ := ys_rep_pop g1
        subst e1; subst e2
        obtain ⟨g, hg, hP, hD, hS⟩ := g2.2.2.2.1
        obtain ⟨n, e3, hn, hvi, e4⟩ := ys_inb_ok h.1 hin
        have hw := ys_wld_get (ad := ad) (cT := cT) (r := r) (g := g) (fds := fds.1) hsh
        obtain ⟨kd, len, tg⟩ := y
        have hkd : kd = 3 := hkd
        subst hkd
        refine va_zald hexec hb hK hP kc 3 (f := fun j => Int32.ofInt (g kc j)) hw hty hvi hd ?_
        rw [e4]
        obtain ⟨r', hag, hbb, hl, hsc, hst, hval⟩ := ys_Op_nw (P := fun z => z = g kc n) (g kc n) h.1 h.2.1.1 (ys_rd_ok h.1.1 (hg.1 kc a har) e3) rfl
        have h4 := k r' H locs ls _ (ys_rep_push (ys_rep_ext g2 hag hbb hl hsc) (.inl (.inl (ys_nw b (ys_rd b.1 a x)).2)) hst)
        have e5 : ys_den ad r' (.inl (.inl (ys_nw b (ys_rd b.1 a x)).2)) = .int (Int32.ofInt (g kc n)) := by
          show Value.int (Int32.ofInt (ys_ev r' _)) = _
          rw [hval]
        rw [e5] at h4
        exact h4
      · cases hs
    · cases hs
  · cases hs
end YSM
end
section
/-! writing an array -/
def ys_ivl (v : ys_E) (e : ys_L) : Option (Int × Int) := match ys_low v e, ys_high v e with
  | some l, some u => some (l, u)
  | _, _ => none
theorem ys_ivl_ok {r : Nat → Int} {v : ys_E} (h : ys_ok r v) {e : ys_L} {q : Int × Int} (hq : ys_ivl v e = some q) : q.1 ≤ ys_ev r e ∧ ys_ev r e ≤ q.2 := by
  unfold ys_ivl at hq
  split at hq
  · rename_i l u hl hu
    cases Option.some.inj hq
    exact ⟨ys_low_le h hl, ys_high_le h hu⟩
  · cases hq
def ys_wr (v : ys_E) (a : ys_R) (e : ys_L) (q : Int × Int) : ys_R := match ys_sgl v e with
  | some i => (a.1, (i, q) :: a.2.filter fun x => !(x.1 == i))
  | none => (ys_hul a.1 q, a.2.map fun x => if ys_not v e x.1 then x else (x.1, ys_hul x.2 q))
theorem ys_lookup_filter {n j : Nat} (h : j ≠ n) : ∀ l : List (Nat × (Int × Int)), (l.filter fun x => !(x.1 == n)).lookup j = l.lookup j
  | [] => rfl
  | (i, x) :: t => by
    have ih := ys_lookup_filter h t
    rw [List.filter_cons]
    by_cases hi : i = n
    · subst hi
      have e1 : (!((i, x).1 == i)) = false := by simp
      have e2 : (j == i) = false := by simpa using h
      rw [if_neg (by rw [e1]; decide), ih]
      conv => rhs; unfold List.lookup
      rw [e2]
    · have e1 : (!((i, x).1 == n)) = true := by simpa using hi
      rw [if_pos e1]
      unfold List.lookup
      cases j == i with
      | true => rfl
      | false => exact ih
theorem ys_lookup_map {v : ys_E} {e : ys_L} {q : Int × Int} {j : Nat} : ∀ l : List (Nat × (Int × Int)), (l.map fun x => if ys_not v e x.1 then x else (x.1, ys_hul x.2 q)).lookup j = (l.lookup j).map fun w => if ys_not v e j then w else ys_hul w q
  | [] => rfl
  | (i, x) :: t => by
    have ih := ys_lookup_map (v := v) (e := e) (q := q) (j := j) t
    rw [List.map_cons]
    by_cases hj : j = i
    · subst hj
      cases hn : ys_not v e j with
      | true =>
        rw [if_pos rfl]
        unfold List.lookup
        rw [beq_self_eq_true]
        rfl
      | false =>
        rw [if_neg (by decide)]
        unfold List.lookup
        rw [beq_self_eq_true]
        rfl
    · have e2 : (j == i) = false := by simpa using hj
      cases hn : ys_not v e i with
      | true =>
        rw [if_pos rfl]
        unfold List.lookup
        rw [e2]
        exact ih
      | false =>
        rw [if_neg (by decide)]
        unfold List.lookup
        rw [e2]
        exact ih
def ys_gup (g : Nat → Nat → Int) (k n : Nat) (z : Int) : Nat → Nat → Int := fun i => if i = k then (fun j => if j = n then z else g k j) else g i
theorem ys_wr_ok {r : Nat → Int} {v : ys_E} (hv : ys_ok r v) {a : ys_R} {f : Nat → Int} (ha : ys_rok a f) {e : ys_L} {n : Nat} (he : ys_ev r e = (n : Int)) {q : Int × Int} {z : Int} (hz : q.1 ≤ z ∧ z ≤ q.2) : ys_rok (ys_wr v a e q) (fun j => if j = n then z else f j) := by
  intro j
  show _ ≤ (if j = n then z else f j) ∧ (if j = n then z else f j) ≤ _
  unfold ys_wr
  split
  · rename_i i h1
    have hn : i = n := ys_sgl_ok hv h1 he
    rw [hn]
    by_cases hj : j = n
    · subst hj
      rw [if_pos rfl]
      unfold ys_rat List.lookup
      rw [beq_self_eq_true]
      exact hz
    · rw [if_neg hj]
      have h := ha j
      unfold ys_rat at h ⊢
      have e2 : (j == n) = false := by simpa using hj
      have e3 : (((n, q) :: a.2.filter fun x => !(x.1 == n)) : List (Nat × (Int × Int))).lookup j = a.2.lookup j := by
        conv => lhs; unfold List.lookup
        rw [e2]
        exact ys_lookup_filter hj a.2
      show ((((n, q) :: a.2.filter fun x => !(x.1 == n)) : List (Nat × (Int × Int))).lookup j |>.getD a.1).1 ≤ _ ∧ _ ≤ ((((n, q) :: a.2.filter fun x => !(x.1 == n)) : List (Nat × (Int × Int))).lookup j |>.getD a.1).2
      rw [e3]
      exact h
  · have h := ha j
    unfold ys_rat at h ⊢
    show (((a.2.map fun x => if ys_not v e x.1 then x else (x.1, ys_hul x.2 q)).lookup j).getD (ys_hul a.1 q)).1 ≤ _ ∧ _ ≤ (((a.2.map fun x => if ys_not v e x.1 then x else (x.1, ys_hul x.2 q)).lookup j).getD (ys_hul a.1 q)).2
    rw [ys_lookup_map]
    by_cases hj : j = n
    · subst hj
      rw [if_pos rfl]
      have hn : ys_not v e j = false := by
        cases hc : ys_not v e j with
        | true => exact absurd he (ys_not_ok hv hc)
        | false => rfl
      rw [hn]
      cases a.2.lookup j with
      | none => exact ys_hul_r hz
      | some w => exact ys_hul_r hz
    · rw [if_neg hj]
      cases hc : a.2.lookup j with
      | none =>
        rw [hc] at h
        exact ys_hul_l h
      | some w =>
        rw [hc] at h
        show (if ys_not v e j then w else ys_hul w q).1 ≤ _ ∧ _ ≤ (if ys_not v e j then w else ys_hul w q).2
        split
        · exact h
        · exact ys_hul_l h
section YSM2
variable {p : Program} {l : Launch} {e : Env} {R : Room} {s : State} {m : MethodId} {args : Array Value} {below : List Frame} {meth : Method} {c : Code} {Q : State → Prop} {kc kz : Nat} {D : va_G} {cl : List vw_C} {ad : Nat → Nat} {cT : Nat → ClassId} {sh : List ys_C} {A : Nat → Prop} {H0 : Heap} {nL : Nat} {mods : List Nat} {g0 : Nat → Nat → Int} {r0 : Nat → Int} {E : Nat} {pc : Nat} {b : ys_B} {fds : ys_F} {lv : List (Nat × ys_V)} {sv : List ys_V} {succ : List (Nat × ys_S)} {cc : ByteArray} {own : String} {Ts : List Cond} {tys : List (ClassId × FieldType)}

def ys_hiast (sh : List ys_C) (mods : List Nat) (pc : Nat) (b : ys_B) (fds : ys_F) (lv : List (Nat × ys_V)) (sv : List ys_V) : Option (List (Nat × ys_S)) := match sv with
  | .inl (.inl z) :: .inl (.inl x) :: .inr (some k) :: t => (match sh[k]?, fds.2[k]?, ys_ivl b.1 z with
    | some (.inr y), some a, some q => if decide (y.1 = 0) && ys_inb b x y.2.1 && decide (k ∈ mods) then some [(pc + 1, b, (fds.1, fds.2.set k (ys_wr b.1 a x q)), lv, t)] else none
    | _, _, _ => none)
  | _ => none
theorem ys_kiast (hexec : p.tables.exec = Jvm.exec) (hb : c.code = cc) (hK : va_K D cl tys s) (hty : tys[0]? = some (cT 0, .int)) (hd : decode cc pc = .ok (.iastore, 1)) (hs : ys_hiast sh mods pc b fds lv sv = some succ) (k : ∀ q ∈ succ, ys_W p l e R s m args below meth c Q kc kz D cl ad cT sh A H0 nL mods g0 r0 E q.1 q.2) : ys_W p l e R s m args below meth c Q kc kz D cl ad cT sh A H0 nL mods g0 r0 E pc (b, fds, lv, sv) := by
  unfold ys_hiast at hs
  split at hs
  · rename_i z x kc t
    split at hs
    · rename_i y a q hsh har hiv
      split at hs
      · rename_i hc
        simp only [Bool.and_eq_true, decide_eq_true_eq] at hc
        obtain ⟨⟨hkd, hin⟩, hm⟩ := hc
        cases Option.some.inj hs
        have k := k _ List.mem_cons_self
        intro r H locs ls st h
        obtain ⟨st1, e1, g1, hz⟩ := ys_rep_pop h
        obtain ⟨st2, e2, g2, hx⟩ := ys_rep_pop g1
        obtain ⟨st3, e3, g3, -⟩ := ys_rep_pop g2
        subst e1; subst e2; subst e3
        obtain ⟨q1, ⟨s0, s1, s2, s3⟩, q2, ⟨g, hg, hP, hD, hS⟩, q4, q5⟩ := g3
        obtain ⟨n, e4, hn, hvi, e5⟩ := ys_inb_ok h.1 hin
        have hzq := ys_ivl_ok h.1.1 hiv
        have hw := ys_wld_get (ad := ad) (cT := cT) (r := r) (g := g) (fds := fds.1) hsh
        obtain ⟨kd, len, tg⟩ := y
        have hkd : kd = 0 := hkd
        subst hkd
        refine va_iast hexec hb hK hP hD hS kc 0 (f := fun j => Int32.ofInt (g kc j)) hw hty hvi hd fun H1 locs1 hP1 hD1 hS1 => ?_
        have ew := ys_wld_set (ad := ad) (cT := cT) (r := r) (g := g) (g' := ys_gup g kc n (ys_ev r z)) (fds := fds.1) (fds' := fds.1) hsh (fun i hi => ⟨if_neg hi, rfl⟩)
        have ef : (fun j => Int32.ofInt (ys_gup g kc n (ys_ev r z) kc j)) = upd (fun j => Int32.ofInt (g kc j)) (Int32.ofInt (ys_ev r x)).toNatClampNeg (Int32.ofInt (ys_ev r z)) := by
          rw [e5]
          funext j
          unfold ys_gup upd
          rw [if_pos rfl]
          by_cases hj : j = n
          · rw [if_pos hj, if_pos hj]
          · rw [if_neg hj, if_neg hj]
        have ec : ys_cel ad cT r (ys_gup g kc n (ys_ev r z)) kc (.inr (0, len, tg)) (fds.1.getD kc []) = (ad kc, .inl (cT 0, len, .inl (upd (fun j => Int32.ofInt (g kc j)) (Int32.ofInt (ys_ev r x)).toNatClampNeg (Int32.ofInt (ys_ev r z))))) := by
          show ((ad kc, Sum.inl (cT 0, len, Sum.inl (fun j => Int32.ofInt (ys_gup g kc n (ys_ev r z) kc j)))) : Nat × va_E) = _
          rw [ef]
        rw [ec] at ew
        refine k r H1 locs1 ls _ ⟨q1, ⟨s0, s1, s2, s3⟩, q2, ⟨ys_gup g kc n (ys_ev r z), ⟨fun i w hi => ?_, fun i hi => ?_⟩, ?_, ?_, hS1⟩, q4, q5⟩
        · by_cases hk : i = kc
          · subst hk
            have hl : i < fds.2.length := (List.getElem?_eq_some_iff.mp har).1
            have hi : (fds.2.set i (ys_wr b.1 a x q))[i]? = some w := hi
            rw [List.getElem?_set_self hl] at hi
            cases hi
            have e6 : ys_gup g i n (ys_ev r z) i = fun j => if j = n then ys_ev r z else g i j := if_pos rfl
            rw [e6]
            exact ys_wr_ok h.1.1 (hg.1 i a har) e4 hzq
          · have hi : (fds.2.set kc (ys_wr b.1 a x q))[i]? = some w := hi
            rw [List.getElem?_set_ne (Ne.symm hk)] at hi
            have e6 : ys_gup g kc n (ys_ev r z) i = g i := if_neg hk
            rw [e6]
            exact hg.1 i w hi
        · have hk : i ≠ kc := fun e => hi (e ▸ hm)
          have e6 : ys_gup g kc n (ys_ev r z) i = g i := if_neg hk
          rw [e6]
          exact hg.2 i hi
        · show va_P D cl (ys_wld ad cT sh r (ys_gup g kc n (ys_ev r z)) fds.1) H1
          rw [ew]
          exact hP1
        · show va_D A (ys_wld ad cT sh r (ys_gup g kc n (ys_ev r z)) fds.1)
          rw [ew]
          exact hD1
      · cases hs
    · cases hs
  · cases hs
def ys_hlast (sh : List ys_C) (mods : List Nat) (pc : Nat) (b : ys_B) (fds : ys_F) (lv : List (Nat × ys_V)) (sv : List ys_V) : Option (List (Nat × ys_S)) := match sv with
  | .inl (.inr z) :: .inl (.inl x) :: .inr (some k) :: t => (match sh[k]?, fds.2[k]?, ys_ivl b.1 z with
    | some (.inr y), some a, some q => if decide (y.1 = 1) && ys_inb b x y.2.1 && decide (k ∈ mods) then some [(pc + 1, b, (fds.1, fds.2.set k (ys_wr b.1 a x q)), lv, t)] else none
    | _, _, _ => none)
  | _ => none
theorem ys_klast (hexec : p.tables.exec = Jvm.exec) (hb : c.code = cc) (hK : va_K D cl tys s) (hty : tys[1]? = some (cT 1, .long)) (hd : decode cc pc = .ok (.lastore, 1)) (hs : ys_hlast sh mods pc b fds lv sv = some succ) (k : ∀ q ∈ succ, ys_W p l e R s m args below meth c Q kc kz D cl ad cT sh A H0 nL mods g0 r0 E q.1 q.2) : ys_W p l e R s m args below meth c Q kc kz D cl ad cT sh A H0 nL mods g0 r0 E pc (b, fds, lv, sv) := by
  unfold ys_hlast at hs
  split at hs
  · rename_i z x kc t
    split at hs
    · rename_i y a q hsh har hiv
      split at hs
      · rename_i hc
        simp only [Bool.and_eq_true, decide_eq_true_eq] at hc
        obtain ⟨⟨hkd, hin⟩, hm⟩ := hc
        cases Option.some.inj hs
        have k := k _ List.mem_cons_self
        intro r H locs ls st h
        obtain ⟨st1, e1, g1, hz⟩ := ys_rep_pop h
        obtain ⟨st2, e2, g2, hx⟩ := ys_rep_pop g1
        obtain ⟨st3, e3, g3, -⟩ := ys_rep_pop g2
        subst e1; subst e2; subst e3
        obtain ⟨q1, ⟨s0, s1, s2, s3⟩, q2, ⟨g, hg, hP, hD, hS⟩, q4, q5⟩ := g3
        obtain ⟨n, e4, hn, hvi, e5⟩ := ys_inb_ok h.1 hin
        have hzq := ys_ivl_ok h.1.1 hiv
        have hw := ys_wld_get (ad := ad) (cT := cT) (r := r) (g := g) (fds := fds.1) hsh
        obtain ⟨kd, len, tg⟩ := y
        have hkd : kd = 1 := hkd
        subst hkd
        refine va_last hexec hb hK hP hD hS kc 1 (f := fun j => Int64.ofInt (g kc j)) hw hty hvi hd fun H1 locs1 hP1 hD1 hS1 => ?_
        have ew := ys_wld_set (ad := ad) (cT := cT) (r := r) (g := g) (g' := ys_gup g kc n (ys_ev r z)) (fds := fds.1) (fds' := fds.1) hsh (fun i hi => ⟨if_neg hi, rfl⟩)
        have ef : (fun j => Int64.ofInt (ys_gup g kc n (ys_ev r z) kc j)) = vp_updL (fun j => Int64.ofInt (g kc j)) (Int32.ofInt (ys_ev r x)).toNatClampNeg (Int64.ofInt (ys_ev r z)) := by
          rw [e5]
          funext j
          unfold ys_gup vp_updL
          rw [if_pos rfl]
          by_cases hj : j = n
          · rw [if_pos hj, if_pos hj]
          · rw [if_neg hj, if_neg hj]
        have ec : ys_cel ad cT r (ys_gup g kc n (ys_ev r z)) kc (.inr (1, len, tg)) (fds.1.getD kc []) = (ad kc, .inl (cT 1, len, .inr (.inl (vp_updL (fun j => Int64.ofInt (g kc j)) (Int32.ofInt (ys_ev r x)).toNatClampNeg (Int64.ofInt (ys_ev r z)))))) := by
          show ((ad kc, Sum.inl (cT 1, len, Sum.inr (Sum.inl (fun j => Int64.ofInt (ys_gup g kc n (ys_ev r z) kc j))))) : Nat × va_E) = _
          rw [ef]
        rw [ec] at ew
        refine k r H1 locs1 ls _ ⟨q1, ⟨s0, s1, s2, s3⟩, q2, ⟨ys_gup g kc n (ys_ev r z), ⟨fun i w hi => ?_, fun i hi => ?_⟩, ?_, ?_, hS1⟩, q4, q5⟩
        · by_cases hk : i = kc
          · subst hk
            have hl : i < fds.2.length := (List.getElem?_eq_some_iff.mp har).1
            have hi : (fds.2.set i (ys_wr b.1 a x q))[i]? = some w := hi
            rw [List.getElem?_set_self hl] at hi
            cases hi
            have e6 : ys_gup g i n (ys_ev r z) i = fun j => if j = n then ys_ev r z else g i j := if_pos rfl
            rw [e6]
            exact ys_wr_ok h.1.1 (hg.1 i a har) e4 hzq
          · have hi : (fds.2.set kc (ys_wr b.1 a x q))[i]? = some w := hi
            rw [List.getElem?_set_ne (Ne.symm hk)] at hi
            have e6 : ys_gup g kc n (ys_ev r z) i = g i := if_neg hk
            rw [e6]
            exact hg.1 i w hi
        · have hk : i ≠ kc := fun e => hi (e ▸ hm)
          have e6 : ys_gup g kc n (ys_ev r z) i = g i := if_neg hk
          rw [e6]
          exact hg.2 i hi
        · show va_P D cl (ys_wld ad cT sh r (ys_gup g kc n (ys_ev r z)) fds.1) H1
          rw [ew]
          exact hP1
        · show va_D A (ys_wld ad cT sh r (ys_gup g kc n (ys_ev r z)) fds.1)
          rw [ew]
          exact hD1
      · cases hs
    · cases hs
  · cases hs
theorem ys_nar_b {x : Int} (h0 : -128 ≤ x) (h1 : x ≤ 127) : vp_nar .byte (Int32.ofInt x) = Int32.ofInt x := by
  rw [vp_nar_byte]
  apply Int32.toInt_inj.mp
  rw [Int8.toInt_toInt32, Int32.toInt_toInt8, Int32.toInt_ofInt_of_le (by omega) (by omega)]
  exact Int.bmod_eq_of_le (by omega) (by omega)
theorem ys_nar_z {x : Int} (h0 : 0 ≤ x) (h1 : x ≤ 1) : vp_nar .boolean (Int32.ofInt x) = Int32.ofInt x := by
  rcases ys_01 h0 h1 with q | q <;> rw [q] <;> rfl
def ys_hbast (sh : List ys_C) (mods : List Nat) (pc : Nat) (b : ys_B) (fds : ys_F) (lv : List (Nat × ys_V)) (sv : List ys_V) : Option (List (Nat × ys_S)) := match sv with
  | .inl (.inl z) :: .inl (.inl x) :: .inr (some k) :: t => (match sh[k]?, fds.2[k]?, ys_ivl b.1 z with
    | some (.inr y), some a, some q => if decide (y.1 = 2) && ys_inb b x y.2.1 && decide (k ∈ mods) && (decide (-128 ≤ q.1) && decide (q.2 ≤ 127)) then some [(pc + 1, b, (fds.1, fds.2.set k (ys_wr b.1 a x q)), lv, t)] else none
    | _, _, _ => none)
  | _ => none
theorem ys_kbast (hexec : p.tables.exec = Jvm.exec) (hb : c.code = cc) (hK : va_K D cl tys s) (hty : tys[2]? = some (cT 2, .byte)) (hd : decode cc pc = .ok (.bastore, 1)) (hs : ys_hbast sh mods pc b fds lv sv = some succ) (k : ∀ q ∈ succ, ys_W p l e R s m args below meth c Q kc kz D cl ad cT sh A H0 nL mods g0 r0 E q.1 q.2) : ys_W p l e R s m args below meth c Q kc kz D cl ad cT sh A H0 nL mods g0 r0 E pc (b, fds, lv, sv) := by
  unfold ys_hbast at hs
  split at hs
  · rename_i z x kc t
    split at hs
    · rename_i y a q hsh har hiv
      split at hs
      · rename_i hc
        simp only [Bool.and_eq_true, decide_eq_true_eq] at hc
        obtain ⟨⟨⟨hkd, hin⟩, hm⟩, hq⟩ := hc
        cases Option.some.inj hs
        have k := k _ List.mem_cons_self
        intro r H locs ls st h
        obtain ⟨st1, e1, g1, hz⟩ := ys_rep_pop h
        obtain ⟨st2, e2, g2, hx⟩ := ys_rep_pop g1
        obtain ⟨st3, e3, g3, -⟩ := ys_rep_pop g2
        subst e1; subst e2; subst e3
        obtain ⟨q1, ⟨s0, s1, s2, s3⟩, q2, ⟨g, hg, hP, hD, hS⟩, q4, q5⟩ := g3
        obtain ⟨n, e4, hn, hvi, e5⟩ := ys_inb_ok h.1 hin
        have hzq := ys_ivl_ok h.1.1 hiv
        have hw := ys_wld_get (ad := ad) (cT := cT) (r := r) (g := g) (fds := fds.1) hsh
        obtain ⟨kd, len, tg⟩ := y
        have hkd : kd = 2 := hkd
        subst hkd
        refine va_bast hexec hb hK hP hD hS kc 2 (f := fun j => Int32.ofInt (g kc j)) hw hty hvi hd fun H1 locs1 hP1 hD1 hS1 => ?_
        have ew := ys_wld_set (ad := ad) (cT := cT) (r := r) (g := g) (g' := ys_gup g kc n (ys_ev r z)) (fds := fds.1) (fds' := fds.1) hsh (fun i hi => ⟨if_neg hi, rfl⟩)
        have ef : (fun j => Int32.ofInt (ys_gup g kc n (ys_ev r z) kc j)) = upd (fun j => Int32.ofInt (g kc j)) (Int32.ofInt (ys_ev r x)).toNatClampNeg (vp_nar .byte (Int32.ofInt (ys_ev r z))) := by
          rw [e5]
          funext j
          unfold ys_gup upd
          rw [if_pos rfl]
          by_cases hj : j = n
          · rw [if_pos hj, if_pos hj]
            exact (ys_nar_b (by omega) (by omega)).symm
          · rw [if_neg hj, if_neg hj]
        have ec : ys_cel ad cT r (ys_gup g kc n (ys_ev r z)) kc (.inr (2, len, tg)) (fds.1.getD kc []) = (ad kc, .inl (cT 2, len, .inl (upd (fun j => Int32.ofInt (g kc j)) (Int32.ofInt (ys_ev r x)).toNatClampNeg (vp_nar .byte (Int32.ofInt (ys_ev r z)))))) := by
          show ((ad kc, Sum.inl (cT 2, len, Sum.inl (fun j => Int32.ofInt (ys_gup g kc n (ys_ev r z) kc j)))) : Nat × va_E) = _
          rw [ef]
        rw [ec] at ew
        refine k r H1 locs1 ls _ ⟨q1, ⟨s0, s1, s2, s3⟩, q2, ⟨ys_gup g kc n (ys_ev r z), ⟨fun i w hi => ?_, fun i hi => ?_⟩, ?_, ?_, hS1⟩, q4, q5⟩
        · by_cases hk : i = kc
          · subst hk
            have hl : i < fds.2.length := (List.getElem?_eq_some_iff.mp har).1
            have hi : (fds.2.set i (ys_wr b.1 a x q))[i]? = some w := hi
            rw [List.getElem?_set_self hl] at hi
            cases hi
            have e6 : ys_gup g i n (ys_ev r z) i = fun j => if j = n then ys_ev r z else g i j := if_pos rfl
            rw [e6]
            exact ys_wr_ok h.1.1 (hg.1 i a har) e4 hzq
          · have hi : (fds.2.set kc (ys_wr b.1 a x q))[i]? = some w := hi
            rw [List.getElem?_set_ne (Ne.symm hk)] at hi
            have e6 : ys_gup g kc n (ys_ev r z) i = g i := if_neg hk
            rw [e6]
            exact hg.1 i w hi
        · have hk : i ≠ kc := fun e => hi (e ▸ hm)
          have e6 : ys_gup g kc n (ys_ev r z) i = g i := if_neg hk
          rw [e6]
          exact hg.2 i hi
        · show va_P D cl (ys_wld ad cT sh r (ys_gup g kc n (ys_ev r z)) fds.1) H1
          rw [ew]
          exact hP1
        · show va_D A (ys_wld ad cT sh r (ys_gup g kc n (ys_ev r z)) fds.1)
          rw [ew]
          exact hD1
      · cases hs
    · cases hs
  · cases hs
def ys_hzast (sh : List ys_C) (mods : List Nat) (pc : Nat) (b : ys_B) (fds : ys_F) (lv : List (Nat × ys_V)) (sv : List ys_V) : Option (List (Nat × ys_S)) := match sv with
  | .inl (.inl z) :: .inl (.inl x) :: .inr (some k) :: t => (match sh[k]?, fds.2[k]?, ys_ivl b.1 z with
    | some (.inr y), some a, some q => if decide (y.1 = 3) && ys_inb b x y.2.1 && decide (k ∈ mods) && (decide (0 ≤ q.1) && decide (q.2 ≤ 1)) then some [(pc + 1, b, (fds.1, fds.2.set k (ys_wr b.1 a x q)), lv, t)] else none
    | _, _, _ => none)
  | _ => none
theorem ys_kzast (hexec : p.tables.exec = Jvm.exec) (hb : c.code = cc) (hK : va_K D cl tys s) (hty : tys[3]? = some (cT 3, .boolean)) (hd : decode cc pc = .ok (.bastore, 1)) (hs : ys_hzast sh mods pc b fds lv sv = some succ) (k : ∀ q ∈ succ, ys_W p l e R s m args below meth c Q kc kz D cl ad cT sh A H0 nL mods g0 r0 E q.1 q.2) : ys_W p l e R s m args below meth c Q kc kz D cl ad cT sh A H0 nL mods g0 r0 E pc (b, fds, lv, sv) := by
  unfold ys_hzast at hs
  split at hs
  · rename_i z x kc t
    split at hs
    · rename_i y a q hsh har hiv
      split at hs
      · rename_i hc
        simp only [Bool.and_eq_true, decide_eq_true_eq] at hc
        obtain ⟨⟨⟨hkd, hin⟩, hm⟩, hq⟩ := hc
        cases Option.some.inj hs
        have k := k _ List.mem_cons_self
        intro r H locs ls st h
        obtain ⟨st1, e1, g1, hz⟩ := ys_rep_pop h
        obtain ⟨st2, e2, g2, hx⟩ := ys_rep_pop g1
        obtain ⟨st3, e3, g3, -⟩ := ys_rep_pop g2
        subst e1; subst e2; subst e3
        obtain ⟨q1, ⟨s0, s1, s2, s3⟩, q2, ⟨g, hg, hP, hD, hS⟩, q4, q5⟩ := g3
        obtain ⟨n, e4, hn, hvi, e5⟩ := ys_inb_ok h.1 hin
        have hzq := ys_ivl_ok h.1.1 hiv
        have hw := ys_wld_get (ad := ad) (cT := cT) (r := r) (g := g) (fds := fds.1) hsh
        obtain ⟨kd, len, tg⟩ := y
        have hkd : kd = 3 := hkd
        subst hkd
        refine va_zast hexec hb hK hP hD hS kc 3 (f := fun j => Int32.ofInt (g kc j)) hw hty hvi hd fun H1 locs1 hP1 hD1 hS1 => ?_
        have ew := ys_wld_set (ad := ad) (cT := cT) (r := r) (g := g) (g' := ys_gup g kc n (ys_ev r z)) (fds := fds.1) (fds' := fds.1) hsh (fun i hi => ⟨if_neg hi, rfl⟩)
        have ef : (fun j => Int32.ofInt (ys_gup g kc n (ys_ev r z) kc j)) = upd (fun j => Int32.ofInt (g kc j)) (Int32.ofInt (ys_ev r x)).toNatClampNeg (vp_nar .boolean (Int32.ofInt (ys_ev r z))) := by
          rw [e5]
          funext j
          unfold ys_gup upd
          rw [if_pos rfl]
          by_cases hj : j = n
          · rw [if_pos hj, if_pos hj]
            exact (ys_nar_z (by omega) (by omega)).symm
          · rw [if_neg hj, if_neg hj]
        have ec : ys_cel ad cT r (ys_gup g kc n (ys_ev r z)) kc (.inr (3, len, tg)) (fds.1.getD kc []) = (ad kc, .inl (cT 3, len, .inl (upd (fun j => Int32.ofInt (g kc j)) (Int32.ofInt (ys_ev r x)).toNatClampNeg (vp_nar .boolean (Int32.ofInt (ys_ev r z)))))) := by
          show ((ad kc, Sum.inl (cT 3, len, Sum.inl (fun j => Int32.ofInt (ys_gup g kc n (ys_ev r z) kc j)))) : Nat × va_E) = _
          rw [ef]
        rw [ec] at ew
        refine k r H1 locs1 ls _ ⟨q1, ⟨s0, s1, s2, s3⟩, q2, ⟨ys_gup g kc n (ys_ev r z), ⟨fun i w hi => ?_, fun i hi => ?_⟩, ?_, ?_, hS1⟩, q4, q5⟩
        · by_cases hk : i = kc
          · subst hk
            have hl : i < fds.2.length := (List.getElem?_eq_some_iff.mp har).1
            have hi : (fds.2.set i (ys_wr b.1 a x q))[i]? = some w := hi
            rw [List.getElem?_set_self hl] at hi
            cases hi
            have e6 : ys_gup g i n (ys_ev r z) i = fun j => if j = n then ys_ev r z else g i j := if_pos rfl
            rw [e6]
            exact ys_wr_ok h.1.1 (hg.1 i a har) e4 hzq
          · have hi : (fds.2.set kc (ys_wr b.1 a x q))[i]? = some w := hi
            rw [List.getElem?_set_ne (Ne.symm hk)] at hi
            have e6 : ys_gup g kc n (ys_ev r z) i = g i := if_neg hk
            rw [e6]
            exact hg.1 i w hi
        · have hk : i ≠ kc := fun e => hi (e ▸ hm)
          have e6 : ys_gup g kc n (ys_ev r z) i = g i := if_neg hk
          rw [e6]
          exact hg.2 i hi
        · show va_P D cl (ys_wld ad cT sh r (ys_gup g kc n (ys_ev r z)) fds.1) H1
          rw [ew]
          exact hP1
        · show va_D A (ys_wld ad cT sh r (ys_gup g kc n (ys_ev r z)) fds.1)
          rw [ew]
          exact hD1
      · cases hs
    · cases hs
  · cases hs
/-- how long an array is -/
def ys_halen (sh : List ys_C) (pc : Nat) (b : ys_B) (fds : ys_F) (lv : List (Nat × ys_V)) (sv : List ys_V) : Option (List (Nat × ys_S)) := match sv with
  | .inr (some k) :: t => (match sh[k]? with
    | some (.inr y) => some [(pc + 1, b, fds, lv, .inl (.inl ([], (y.2.1 : Int))) :: t)]
    | _ => none)
  | _ => none
theorem ys_kalen (hexec : p.tables.exec = Jvm.exec) (hb : c.code = cc) (hK : va_K D cl tys s) (hty : ∀ (k : Nat) (y : Nat × Nat × List Nat), sh[k]? = some (.inr y) → ∃ t, tys[y.1]? = some (cT y.1, t)) (hd : decode cc pc = .ok (.arraylength, 1)) (hs : ys_halen sh pc b fds lv sv = some succ) (k : ∀ q ∈ succ, ys_W p l e R s m args below meth c Q kc kz D cl ad cT sh A H0 nL mods g0 r0 E q.1 q.2) : ys_W p l e R s m args below meth c Q kc kz D cl ad cT sh A H0 nL mods g0 r0 E pc (b, fds, lv, sv) := by
  unfold ys_halen at hs
  split at hs
  · rename_i kc t
    split at hs
    · rename_i y hsh
      cases Option.some.inj hs
      have k := k _ List.mem_cons_self
      intro r H locs ls st h
      obtain ⟨st1, e1, g1, -⟩ := ys_rep_pop h
      subst e1
      obtain ⟨g, hg, hP, hD, hS⟩ := g1.2.2.2.1
      have hw := ys_wld_get (ad := ad) (cT := cT) (r := r) (g := g) (fds := fds.1) hsh
      obtain ⟨ty, ht⟩ := hty kc y hsh
      refine va_alen (x := ys_con ad (g kc) y) (v := Int32.ofInt (ys_ev r (([], (y.2.1 : Int)) : ys_L))) hexec hb hK hP kc y.1 hw ht ?_ hd (k r H locs ls _ (ys_rep_push g1 _ (ys_stb_cst _)))
      show Int32.ofNat y.2.1 = Int32.ofInt (0 + (y.2.1 : Int))
      rw [Int.zero_add, Int32.ofInt_eq_ofNat]
    · cases hs
  · cases hs
/-- a reference out of an array: each place by itself -/
def ys_fan (n : Nat) (f : Nat → List (Nat × ys_S)) : List (Nat × ys_S) := (List.range n).flatMap f
def ys_isn (x : ys_L) (i : Int) : List ys_L := [ys_sub x ([], i), ys_sub ([], i) x]
theorem ys_isn_ok {r : Nat → Int} {x : ys_L} {i : Int} (h : ys_ev r x = i) : ys_fk r (ys_isn x i) := by
  have z : ys_ev r (([], i) : ys_L) = i := Int.zero_add _
  intro f hf
  rcases List.mem_cons.mp hf with q | q
  · rw [q, ys_sub_ev, z]; omega
  · rw [List.mem_singleton.mp q, ys_sub_ev, z]; omega
theorem ys_isn_st {n : Nat} {x : ys_L} {i : Int} (h : ys_stb n x) : ∀ f ∈ ys_isn x i, ys_stb n f := by
  intro f hf
  rcases List.mem_cons.mp hf with q | q
  · rw [q]; exact ys_stb_sub h (ys_stb_cst i)
  · rw [List.mem_singleton.mp q]; exact ys_stb_sub (ys_stb_cst i) h
def ys_haald (sh : List ys_C) (pc : Nat) (b : ys_B) (fds : ys_F) (lv : List (Nat × ys_V)) (sv : List ys_V) : Option (List (Nat × ys_S)) := match sv with
  | .inl (.inl x) :: .inr (some k) :: t => (match sh[k]? with
    | some (.inr y) => if decide (4 ≤ y.1) && ys_inb b x y.2.1 && decide (y.2.2.length = y.2.1) then some (ys_fan y.2.1 fun i => ys_br (pc + 1) b (ys_isn x (i : Int)) (fds, lv, .inr (some (y.2.2.getD i 0)) :: t)) else none
    | _ => none)
  | _ => none
theorem ys_kaald (hexec : p.tables.exec = Jvm.exec) (hb : c.code = cc) (hK : va_K D cl tys s) (hty : ∀ (k : Nat) (y : Nat × Nat × List Nat), sh[k]? = some (.inr y) → 4 ≤ y.1 → ∃ C, tys[y.1]? = some (cT y.1, .object C)) (hd : decode cc pc = .ok (.aaload, 1)) (hs : ys_haald sh pc b fds lv sv = some succ) (k : ∀ q ∈ succ, ys_W p l e R s m args below meth c Q kc kz D cl ad cT sh A H0 nL mods g0 r0 E q.1 q.2) : ys_W p l e R s m args below meth c Q kc kz D cl ad cT sh A H0 nL mods g0 r0 E pc (b, fds, lv, sv) := by
  unfold ys_haald at hs
  split at hs
  · rename_i x kc t
    split at hs
    · rename_i y hsh
      split at hs
      · rename_i hc
        rw [Bool.and_eq_true, Bool.and_eq_true, decide_eq_true_eq, decide_eq_true_eq] at hc
        obtain ⟨⟨hkd, hin⟩, hlen⟩ := hc
        cases Option.some.inj hs
        intro r H locs ls st h
        obtain ⟨st1, e1, g1, hx⟩ := ys_rep_pop h
        obtain ⟨st2, e2, g2, -⟩ := ys_rep_pop g1
        subst e1; subst e2
        obtain ⟨g, hg, hP, hD, hS⟩ := g2.2.2.2.1
        obtain ⟨n, e3, hn, hvi, e4⟩ := ys_inb_ok h.1 hin
        have hw := ys_wld_get (ad := ad) (cT := cT) (r := r) (g := g) (fds := fds.1) hsh
        obtain ⟨C, ht⟩ := hty kc y hsh hkd
        have hcon : ys_con ad (g kc) y = (y.2.1, .inr (.inr (.inr (.inr fun j => (y.2.2[j]?).map ad)))) := by
          unfold ys_con
          rw [if_neg (by omega), if_pos hkd]
        have hw2 : (ys_wld ad cT sh r g fds.1)[kc]? = some (ad kc, .inl (cT y.1, y.2.1, .inr (.inr (.inr (.inr fun j => (y.2.2[j]?).map ad))))) := by
          rw [hw]
          show some (ad kc, Sum.inl (cT y.1, ys_con ad (g kc) y)) = _
          rw [hcon]
        refine va_aldq hexec hb hK hP kc y.1 hw2 ht hvi hd ?_
        rw [e4]
        have e5 : y.2.2[n]? = some (y.2.2.getD n 0) := by
          rw [List.getD_eq_getElem?_getD, List.getElem?_eq_getElem (by omega)]
          rfl
        rw [e5]
        exact ys_kbr (ys_rep_push g2 (.inr (some (y.2.2.getD n 0))) trivial) (ys_isn_ok e3) (ys_isn_st hx) (fun q hq => k q (List.mem_flatMap.mpr ⟨n, List.mem_range.mpr hn, hq⟩))
      · cases hs
    · cases hs
  · cases hs
/-- a table of places to go on at -/
def ys_htab (dflt lo hi : Int) (offs : Array Int) (pc : Nat) (b : ys_B) (fds : ys_F) (lv : List (Nat × ys_V)) (sv : List ys_V) : Option (List (Nat × ys_S)) := match sv, ys_tgt pc dflt with
  | .inl (.inl x) :: t, some td => if ys_inr false b.1 x && (decide ((offs.size : Int) = hi - lo + 1) && offs.toList.all fun o => decide (0 ≤ (pc : Int) + o)) then
      some (ys_br td b [ys_sub ([], lo - 1) x] (fds, lv, t) ++ (ys_br td b [ys_sub x ([], hi + 1)] (fds, lv, t) ++ ys_fan offs.size fun i => ys_br ((pc : Int) + offs.toList.getD i 0).toNat b (ys_isn x (lo + (i : Int))) (fds, lv, t))) else none
  | _, _ => none
theorem ys_ktab {dflt lo hi : Int} {offs : Array Int} {len : Nat} (hexec : p.tables.exec = Jvm.exec) (hb : c.code = cc) (hd : decode cc pc = .ok (.tableswitch dflt lo hi offs, len)) (hs : ys_htab dflt lo hi offs pc b fds lv sv = some succ) (k : ∀ q ∈ succ, ys_W p l e R s m args below meth c Q kc kz D cl ad cT sh A H0 nL mods g0 r0 E q.1 q.2) : ys_W p l e R s m args below meth c Q kc kz D cl ad cT sh A H0 nL mods g0 r0 E pc (b, fds, lv, sv) := by
  unfold ys_htab at hs
  split at hs
  · rename_i x t td htd
    split at hs
    · rename_i hc
      rw [Bool.and_eq_true, Bool.and_eq_true, decide_eq_true_eq] at hc
      obtain ⟨hin, hsz, hal⟩ := hc
      cases Option.some.inj hs
      intro r H locs ls st h
      obtain ⟨st1, e1, g1, hx⟩ := ys_rep_pop h
      subst e1
      have e0 := ys_inr32 h.1.1 hin
      have z : ∀ i : Int, ys_ev r (([], i) : ys_L) = i := fun i => Int.zero_add _
      have one : ∀ {g : ys_L}, ys_stb b.1.length g → ∀ f ∈ [g], ys_stb b.1.length f := fun hg f hf => by rw [List.mem_singleton.mp hf]; exact hg
      by_cases h1 : ys_ev r x < lo
      · refine lv_tableOut hexec hb hd (Or.inl (by rw [e0]; exact h1)) (ys_tgt_ok htd) ?_
        exact ys_kbr g1 (ys_fk1 (by rw [ys_sub_ev, ys_cst_ev]; omega)) (one (ys_stb_sub (ys_stb_cst _) hx)) (fun q hq => k q (List.mem_append_left _ hq))
      · by_cases h2 : hi < ys_ev r x
        · refine lv_tableOut hexec hb hd (Or.inr (by rw [e0]; exact h2)) (ys_tgt_ok htd) ?_
          exact ys_kbr g1 (ys_fk1 (by rw [ys_sub_ev, ys_cst_ev]; omega)) (one (ys_stb_sub hx (ys_stb_cst _))) (fun q hq => k q (List.mem_append_right _ (List.mem_append_left _ hq)))
        · have hn : (ys_ev r x - lo).toNat < offs.size := by omega
          have ho : offs[(ys_ev r x - lo).toNat]? = some (offs.toList.getD (ys_ev r x - lo).toNat 0) := by
            rw [List.getD_eq_getElem?_getD, Array.getElem?_toList, Array.getElem?_eq_getElem hn]
            rfl
          have hpos : 0 ≤ (pc : Int) + offs.toList.getD (ys_ev r x - lo).toNat 0 := by
            have hm : offs.toList.getD (ys_ev r x - lo).toNat 0 ∈ offs.toList := by
              rw [← Array.getElem?_toList] at ho
              exact List.mem_of_getElem? ho
            exact of_decide_eq_true (List.all_eq_true.mp hal _ hm)
          refine lv_tableIn hexec hb hd (by rw [e0]; exact h1) (by rw [e0]; exact h2) (by rw [e0]; exact ho) (tgt := ((pc : Int) + offs.toList.getD (ys_ev r x - lo).toNat 0).toNat) (by omega) ?_
          exact ys_kbr g1 (ys_isn_ok (by omega)) (ys_isn_st hx) (fun q hq => k q (List.mem_append_right _ (List.mem_append_right _ (List.mem_flatMap.mpr ⟨_, List.mem_range.mpr hn, hq⟩))))
    · cases hs
  · cases hs
/-- by the quotients, where there are few -/
def ys_hqs (F : ys_B → ys_L → ys_L → Option (ys_B × ys_L)) (pc : Nat) (b : ys_B) (fds : ys_F) (lv : List (Nat × ys_V)) (sv : List ys_V) : Option (List (Nat × ys_S)) := match sv with
  | .inl (.inl y) :: .inl (.inl x) :: t => (match ys_qb false b.1 x y with
    | some q => if q.1 < q.2 ∧ q.2 - q.1 ≤ 8 then some (ys_fan (q.2 - q.1 + 1).toNat fun i => ys_br pc b [ys_sub x ([], y.2 * (q.1 + (i : Int))), ys_sub ([], y.2 * (q.1 + (i : Int)) + (y.2 - 1)) x] (fds, lv, .inl (.inl y) :: .inl (.inl x) :: t)) else ys_hb32 F pc b fds lv sv
    | none => ys_hb32 F pc b fds lv sv)
  | _ => none
theorem ys_kqs {F : ys_B → ys_L → ys_L → Option (ys_B × ys_L)} {op : Int32 → Int32 → Int32} {ok : Int32 → Prop} (hF : ys_B32 F op ok) (hrow : ∀ (X Y : Int32) (H : Heap) (locs : List Loc) (ls : Array Slot) (rest : List Value), ok Y → W p l e R s m args below meth c H locs kc kz Q (F0 m (pc + 1) ls (.int (op X Y) :: rest)) → W p l e R s m args below meth c H locs kc kz Q (F0 m pc ls (.int Y :: .int X :: rest))) (hs : ys_hqs F pc b fds lv sv = some succ) (k : ∀ q ∈ succ, ys_W p l e R s m args below meth c Q kc kz D cl ad cT sh A H0 nL mods g0 r0 E q.1 q.2) : ys_W p l e R s m args below meth c Q kc kz D cl ad cT sh A H0 nL mods g0 r0 E pc (b, fds, lv, sv) := by
  unfold ys_hqs at hs
  split at hs
  · rename_i y x t
    split at hs
    · rename_i q hq
      split at hs
      · rename_i hc
        cases Option.some.inj hs
        intro r H locs ls st h
        obtain ⟨h1, h2, h3, h4, h5, h6, h7, h8⟩ := ys_qb_ok h.1.1 hq
        have hx : ys_stb b.1.length x := h.2.1.2.2.2 (.inl (.inl x)) (List.mem_cons_of_mem _ List.mem_cons_self)
        have z : ∀ i : Int, ys_ev r (([], i) : ys_L) = i := fun i => Int.zero_add _
        have m1 := Int.emod_def (ys_ev r x) y.2
        have m2 := Int.emod_nonneg (ys_ev r x) (b := y.2) (by omega)
        have m3 := Int.emod_lt_of_pos (ys_ev r x) (b := y.2) (by omega)
        have hi : q.1 + (((ys_ev r x / y.2 - q.1).toNat : Nat) : Int) = ys_ev r x / y.2 := by omega
        refine ys_kbr h (fs := [ys_sub x ([], y.2 * (q.1 + (((ys_ev r x / y.2 - q.1).toNat : Nat) : Int))), ys_sub ([], y.2 * (q.1 + (((ys_ev r x / y.2 - q.1).toNat : Nat) : Int)) + (y.2 - 1)) x]) (fun f hf => ?_) (fun f hf => ?_) (fun q' hq' => k q' (List.mem_flatMap.mpr ⟨(ys_ev r x / y.2 - q.1).toNat, List.mem_range.mpr (by omega), hq'⟩))
        · rw [hi] at hf
          rcases List.mem_cons.mp hf with e1 | e1
          · rw [e1, ys_sub_ev, z]; omega
          · rw [List.mem_singleton.mp e1, ys_sub_ev, z]; omega
        · rcases List.mem_cons.mp hf with e1 | e1
          · rw [e1]; exact ys_stb_sub hx (ys_stb_cst _)
          · rw [List.mem_singleton.mp e1]; exact ys_stb_sub (ys_stb_cst _) hx
      · exact ys_kb32 hF hrow hs k
    · exact ys_kb32 hF hrow hs k
  · cases hs
/-- a list of places to go on at -/
def ys_lks (pc : Nat) (b : ys_B) (rest : ys_F × List (Nat × ys_V) × List ys_V) (x : ys_L) (dflt : Int) : List (Int × Int) → List (Nat × ys_S)
  | [] => ys_br ((pc : Int) + dflt).toNat b [] rest
  | q :: t => ys_br ((pc : Int) + q.2).toNat b (ys_isn x q.1) rest ++ ys_lks pc b rest x dflt t
def ys_hlook (dflt : Int) (ps : Array (Int × Int)) (pc : Nat) (b : ys_B) (fds : ys_F) (lv : List (Nat × ys_V)) (sv : List ys_V) : Option (List (Nat × ys_S)) := match sv with
  | .inl (.inl x) :: t => if ys_inr false b.1 x && (decide (0 ≤ (pc : Int) + dflt) && ((ps.toList.zip (ps.toList.drop 1)).all (fun (a, next) => a.1 < next.1) && ps.toList.all fun o => decide (0 ≤ (pc : Int) + o.2))) then some (ys_lks pc b (fds, lv, t) x dflt ps.toList) else none
  | _ => none
theorem ys_lks_ok {x : ys_L} {dflt : Int} {r : Nat → Int} {H : Heap} {locs : List Loc} {ls : Array Slot} {st : List Value} (h : ys_rep D cl ad cT sh A H0 nL mods g0 r0 r E (b, fds, lv, sv) H locs ls st) (hx : ys_stb b.1.length x) : ∀ (pl : List (Int × Int)), (∀ q ∈ ys_lks pc b (fds, lv, sv) x dflt pl, ys_W p l e R s m args below meth c Q kc kz D cl ad cT sh A H0 nL mods g0 r0 E q.1 q.2) → W p l e R s m args below meth c H locs kc kz Q (F0 m ((pc : Int) + Op.lookupswitch.offset pl dflt (ys_ev r x)).toNat ls st)
  | [], k => ys_kbr h (fun f hf => by cases hf) (fun f hf => by cases hf) k
  | (a, o) :: t, k => by
    rw [Op.lookupswitch.offset_cons]
    by_cases ha : a = ys_ev r x
    · rw [if_pos ha]
      exact ys_kbr h (ys_isn_ok ha.symm) (ys_isn_st hx) (fun q hq => k q (List.mem_append_left _ hq))
    · rw [if_neg ha]
      exact ys_lks_ok h hx t (fun q hq => k q (List.mem_append_right _ hq))
theorem ys_lks_pos {dflt : Int} (hd : 0 ≤ (pc : Int) + dflt) (x : Int) : ∀ (l : List (Int × Int)), (l.all fun o => decide (0 ≤ (pc : Int) + o.2)) = true → 0 ≤ (pc : Int) + Op.lookupswitch.offset l dflt x
  | [], _ => hd
  | (a, o) :: t, h => by
    rw [List.all_cons, Bool.and_eq_true] at h
    rw [Op.lookupswitch.offset_cons]
    split
    · exact of_decide_eq_true h.1
    · exact ys_lks_pos hd x t h.2
theorem ys_klook {dflt : Int} {ps : Array (Int × Int)} {len : Nat} (hexec : p.tables.exec = Jvm.exec) (hb : c.code = cc) (hd : decode cc pc = .ok (.lookupswitch dflt ps, len)) (hs : ys_hlook dflt ps pc b fds lv sv = some succ) (k : ∀ q ∈ succ, ys_W p l e R s m args below meth c Q kc kz D cl ad cT sh A H0 nL mods g0 r0 E q.1 q.2) : ys_W p l e R s m args below meth c Q kc kz D cl ad cT sh A H0 nL mods g0 r0 E pc (b, fds, lv, sv) := by
  unfold ys_hlook at hs
  split at hs
  · rename_i x t
    split at hs
    · rename_i hc
      rw [Bool.and_eq_true, Bool.and_eq_true, Bool.and_eq_true, decide_eq_true_eq] at hc
      obtain ⟨hin, hdf, hsrt, hal⟩ := hc
      cases Option.some.inj hs
      intro r H locs ls st h
      obtain ⟨st1, e1, g1, hx⟩ := ys_rep_pop h
      subst e1
      have e0 := ys_inr32 h.1.1 hin
      have hp := ys_lks_pos hdf (ys_ev r x) ps.toList hal
      exact lv_lookup hexec hb hd hsrt (by rw [e0]) (tgt := ((pc : Int) + Op.lookupswitch.offset ps.toList dflt (ys_ev r x)).toNat) (by omega) (ys_lks_ok g1 hx ps.toList k)
    · cases hs
  · cases hs
/-- the stack -/
def ys_hdup (pc : Nat) (b : ys_B) (fds : ys_F) (lv : List (Nat × ys_V)) (sv : List ys_V) : Option (List (Nat × ys_S)) := match sv with
  | v :: t => if ys_cat v = 1 then some [(pc + 1, b, fds, lv, v :: v :: t)] else none
  | _ => none
theorem ys_kdup (hexec : p.tables.exec = Jvm.exec) (hb : c.code = cc) (hd : decode cc pc = .ok (.dup, 1)) (hs : ys_hdup pc b fds lv sv = some succ) (k : ∀ q ∈ succ, ys_W p l e R s m args below meth c Q kc kz D cl ad cT sh A H0 nL mods g0 r0 E q.1 q.2) : ys_W p l e R s m args below meth c Q kc kz D cl ad cT sh A H0 nL mods g0 r0 E pc (b, fds, lv, sv) := by
  unfold ys_hdup at hs
  split at hs
  · rename_i v t
    split at hs
    · rename_i hc
      cases Option.some.inj hs
      have k := k _ List.mem_cons_self
      intro r H locs ls st h
      obtain ⟨st1, e1, g1, hv⟩ := ys_rep_pop h
      subst e1
      exact lv_dup hexec hb hd (by rw [ys_cat_den]; exact hc) (k r H locs ls _ (ys_rep_push h v hv))
    · cases hs
  · cases hs
def ys_hdup2 (pc : Nat) (b : ys_B) (fds : ys_F) (lv : List (Nat × ys_V)) (sv : List ys_V) : Option (List (Nat × ys_S)) := match sv with
  | v :: w :: t => if ys_cat v = 1 && ys_cat w = 1 then some [(pc + 1, b, fds, lv, v :: w :: v :: w :: t)] else none
  | _ => none
theorem ys_kdup2 (hexec : p.tables.exec = Jvm.exec) (hb : c.code = cc) (hd : decode cc pc = .ok (.dup2, 1)) (hs : ys_hdup2 pc b fds lv sv = some succ) (k : ∀ q ∈ succ, ys_W p l e R s m args below meth c Q kc kz D cl ad cT sh A H0 nL mods g0 r0 E q.1 q.2) : ys_W p l e R s m args below meth c Q kc kz D cl ad cT sh A H0 nL mods g0 r0 E pc (b, fds, lv, sv) := by
  unfold ys_hdup2 at hs
  split at hs
  · rename_i v w t
    split at hs
    · rename_i hc
      rw [Bool.and_eq_true, decide_eq_true_eq, decide_eq_true_eq] at hc
      cases Option.some.inj hs
      have k := k _ List.mem_cons_self
      intro r H locs ls st h
      obtain ⟨st1, e1, g1, hv⟩ := ys_rep_pop h
      obtain ⟨st2, e2, g2, hw⟩ := ys_rep_pop g1
      subst e1; subst e2
      exact lv_dup2_11 hexec hb hd (by rw [ys_cat_den]; exact hc.1) (by rw [ys_cat_den]; exact hc.2) (k r H locs ls _ (ys_rep_push (ys_rep_push h w hw) v hv))
    · cases hs
  · cases hs
def ys_hpop (pc : Nat) (b : ys_B) (fds : ys_F) (lv : List (Nat × ys_V)) (sv : List ys_V) : Option (List (Nat × ys_S)) := match sv with
  | v :: t => if ys_cat v = 1 then some [(pc + 1, b, fds, lv, t)] else none
  | _ => none
theorem ys_kpop (hexec : p.tables.exec = Jvm.exec) (hb : c.code = cc) (hd : decode cc pc = .ok (.pop, 1)) (hs : ys_hpop pc b fds lv sv = some succ) (k : ∀ q ∈ succ, ys_W p l e R s m args below meth c Q kc kz D cl ad cT sh A H0 nL mods g0 r0 E q.1 q.2) : ys_W p l e R s m args below meth c Q kc kz D cl ad cT sh A H0 nL mods g0 r0 E pc (b, fds, lv, sv) := by
  unfold ys_hpop at hs
  split at hs
  · rename_i v t
    split at hs
    · rename_i hc
      cases Option.some.inj hs
      have k := k _ List.mem_cons_self
      intro r H locs ls st h
      obtain ⟨st1, e1, g1, hv⟩ := ys_rep_pop h
      subst e1
      exact lv_pop hexec hb hd (by rw [ys_cat_den]; exact hc) (k r H locs ls _ g1)
    · cases hs
  · cases hs
def ys_hpop2 (pc : Nat) (b : ys_B) (fds : ys_F) (lv : List (Nat × ys_V)) (sv : List ys_V) : Option (List (Nat × ys_S)) := match sv with
  | v :: t => if ys_cat v = 2 then some [(pc + 1, b, fds, lv, t)] else none
  | _ => none
theorem ys_kpop2 (hexec : p.tables.exec = Jvm.exec) (hb : c.code = cc) (hd : decode cc pc = .ok (.pop2, 1)) (hs : ys_hpop2 pc b fds lv sv = some succ) (k : ∀ q ∈ succ, ys_W p l e R s m args below meth c Q kc kz D cl ad cT sh A H0 nL mods g0 r0 E q.1 q.2) : ys_W p l e R s m args below meth c Q kc kz D cl ad cT sh A H0 nL mods g0 r0 E pc (b, fds, lv, sv) := by
  unfold ys_hpop2 at hs
  split at hs
  · rename_i v t
    split at hs
    · rename_i hc
      cases Option.some.inj hs
      have k := k _ List.mem_cons_self
      intro r H locs ls st h
      obtain ⟨st1, e1, g1, hv⟩ := ys_rep_pop h
      subst e1
      exact lv_pop2_2 hexec hb hd (by rw [ys_cat_den]; exact hc) (k r H locs ls _ g1)
    · cases hs
  · cases hs
/-- a place of the frame grows -/
def ys_hinc (nL : Nat) (i : Nat) (n : Int) (pc : Nat) (b : ys_B) (fds : ys_F) (lv : List (Nat × ys_V)) (sv : List ys_V) : Option (List (Nat × ys_S)) := match lv.lookup i with
  | some (.inl (.inl x)) => if i < nL then some [(pc + 3, (ys_nm false b (ys_add x ([], n))).1, fds, ys_st1 lv i (.inl (.inl (ys_nm false b (ys_add x ([], n))).2)), sv)] else none
  | _ => none
theorem ys_kinc {i : Nat} {n : Int} (hexec : p.tables.exec = Jvm.exec) (hb : c.code = cc) (hd : decode cc pc = .ok (.iinc i n, 3)) (hs : ys_hinc nL i n pc b fds lv sv = some succ) (k : ∀ q ∈ succ, ys_W p l e R s m args below meth c Q kc kz D cl ad cT sh A H0 nL mods g0 r0 E q.1 q.2) : ys_W p l e R s m args below meth c Q kc kz D cl ad cT sh A H0 nL mods g0 r0 E pc (b, fds, lv, sv) := by
  unfold ys_hinc at hs
  split at hs
  · rename_i x hx
    split at hs
    · rename_i hi
      cases Option.some.inj hs
      have k := k _ List.mem_cons_self
      intro r H locs ls st h
      have hsx := (ys_rep_loc h hx).2
      obtain ⟨r', hag, hbb, hl, hsc, hst, hval⟩ := ys_Op_nm32 (e := ys_add x ([], n)) (x := Int32.ofInt (ys_ev r x) + Int32.ofInt n) h.1 h.2.1.1 (ys_stb_add hsx (ys_stb_cst n)) (by rw [ys_add_ev, Int32.ofInt_add]; congr 2; exact Int.zero_add n)
      have h2 := ys_rep_ext h hag hbb hl hsc
      obtain ⟨q1, ⟨s0, s1, s2, s3⟩, q2, q3, q4, q5⟩ := h2
      have hx2 := ys_find_mem lv i _ hx
      obtain ⟨kk, hkk⟩ := List.getElem?_of_mem (List.mem_map.mpr ⟨_, hx2, rfl⟩ : (i, ys_den ad r' (.inl (.inl x))) ∈ ys_lvs ad r' lv)
      have ex : Int32.ofInt (ys_ev r' x) = Int32.ofInt (ys_ev r x) := by rw [hsx r' r hag]
      refine lv_iinc (x := Int32.ofInt (ys_ev r' x)) (v := Int32.ofInt (ys_ev r' (ys_nm false b (ys_add x ([], n))).2)) (lv' := ys_lvs ad r' (ys_st1 lv i (.inl (.inl (ys_nm false b (ys_add x ([], n))).2)))) hexec hb hd q4 hkk (by rw [ex, hval]) hi ?_ fun ls' hls => k r' H locs ls' st ⟨q1, ⟨s0, s1, fun q hq => ?_, s3⟩, q2, q3, hls, q5⟩
      · rw [ys_st1_lvs]
        rfl
      · rcases List.mem_cons.mp hq with e5 | e5
        · rw [e5]; exact hst
        · exact s2 q (List.mem_filter.mp e5).1
    · cases hs
  · cases hs
end YSM2
end
section
/-! one state within another's words -/
def ys_eqV (v w : ys_V) : Bool := match v, w with
  | .inl (.inl x), .inl (.inl y) => decide (ys_sub x y = ([], 0))
  | .inl (.inr x), .inl (.inr y) => decide (ys_sub x y = ([], 0))
  | .inr x, .inr y => decide (x = y)
  | _, _ => false
theorem ys_sub0 {r : Nat → Int} {x y : ys_L} (h : ys_sub x y = ([], 0)) : ys_ev r x = ys_ev r y := by
  have h1 := ys_sub_ev r x y
  rw [h] at h1
  have h2 : ys_ev r (([], 0) : ys_L) = 0 := rfl
  omega
theorem ys_eqV_ok {ad : Nat → Nat} {v w : ys_V} (h : ys_eqV v w = true) (r : Nat → Int) : ys_den ad r v = ys_den ad r w := by
  unfold ys_eqV at h
  split at h
  · show Value.int _ = Value.int _
    rw [ys_sub0 (of_decide_eq_true h)]
  · show Value.long _ = Value.long _
    rw [ys_sub0 (of_decide_eq_true h)]
  · rw [of_decide_eq_true h]
  · cases h
def ys_pV (E : Nat) (t : List ys_L) : ys_V → ys_V
  | .inl (.inl x) => .inl (.inl (ys_put E t x))
  | .inl (.inr x) => .inl (.inr (ys_put E t x))
  | .inr x => .inr x
theorem ys_pV_den {ad : Nat → Nat} (r : Nat → Int) (E : Nat) (t : List ys_L) (v : ys_V) : ys_den ad r (ys_pV E t v) = ys_den ad (ys_val r E t) v := by
  rcases v with (x | x) | x
  · show Value.int (Int32.ofInt (ys_ev r (ys_put E t x))) = _
    rw [ys_put_ev]
    rfl
  · show Value.long (Int64.ofInt (ys_ev r (ys_put E t x))) = _
    rw [ys_put_ev]
    rfl
  · cases x <;> rfl
theorem ys_pV_st {n E : Nat} {t : List ys_L} (hE : E ≤ n) (ht : ∀ x ∈ t, ys_stb n x) (v : ys_V) : ys_stV n (ys_pV E t v) := by
  rcases v with (x | x) | x
  · exact ys_stb_put hE ht x
  · exact ys_stb_put hE ht x
  · trivial
def ys_col : Nat → List (ys_V × ys_V) → List ys_L
  | _, [] => []
  | j, q :: t => match q.1, q.2 with
    | .inl (.inl x), .inl (.inl y) => if x = ys_sym j then y :: ys_col (j + 1) t else ys_col j t
    | .inl (.inr x), .inl (.inr y) => if x = ys_sym j then y :: ys_col (j + 1) t else ys_col j t
    | _, _ => ys_col j t
theorem ys_col_st {n : Nat} : ∀ (l : List (ys_V × ys_V)) (j : Nat), (∀ q ∈ l, ys_stV n q.2) → ∀ x ∈ ys_col j l, ys_stb n x
  | [], j, h, x, hx => by cases hx
  | (v, w) :: t, j, h, x, hx => by
    have hw := h _ List.mem_cons_self
    have ht : ∀ q ∈ t, ys_stV n q.2 := fun q hq => h q (List.mem_cons_of_mem _ hq)
    unfold ys_col at hx
    split at hx
    · rename_i a y e1 e2
      split at hx
      · rcases List.mem_cons.mp hx with q | q
        · rw [q]
          have hw : ys_stV n w := hw
          rw [show w = .inl (.inl y) from e2] at hw
          exact hw
        · exact ys_col_st t _ ht x q
      · exact ys_col_st t _ ht x hx
    · rename_i a y e1 e2
      split at hx
      · rcases List.mem_cons.mp hx with q | q
        · rw [q]
          have hw : ys_stV n w := hw
          rw [show w = .inl (.inr y) from e2] at hw
          exact hw
        · exact ys_col_st t _ ht x q
      · exact ys_col_st t _ ht x hx
    · exact ys_col_st t _ ht x hx
def ys_ivc (b : ys_B) : List ys_L → ys_E → Bool
  | [], [] => true
  | x :: t, q :: u => ys_ge b.1 b.2 2 (ys_sub x ([], q.1)) && (ys_ge b.1 b.2 2 (ys_sub ([], q.2) x) && ys_ivc b t u)
  | _, _ => false
theorem ys_ivc_ok {r : Nat → Int} {b : ys_B} (h : ys_okB r b) : ∀ (t : List ys_L) (u : ys_E), ys_ivc b t u = true → t.length = u.length ∧ ∀ (j : Nat) (q : Int × Int), u[j]? = some q → q.1 ≤ ys_ev r (t.getD j ([], 0)) ∧ ys_ev r (t.getD j ([], 0)) ≤ q.2
  | [], [], _ => ⟨rfl, fun j q hj => by cases hj⟩
  | x :: t, w :: u, hc => by
    unfold ys_ivc at hc
    rw [Bool.and_eq_true, Bool.and_eq_true] at hc
    obtain ⟨c1, c2, c3⟩ := hc
    obtain ⟨i1, i2⟩ := ys_ivc_ok h t u c3
    have h1 := ys_ge_le h.1 h.2 _ _ c1
    have h2 := ys_ge_le h.1 h.2 _ _ c2
    have z : ∀ i : Int, ys_ev r (([], i) : ys_L) = i := fun i => Int.zero_add _
    rw [ys_sub_ev, z] at h1
    rw [ys_sub_ev, z] at h2
    refine ⟨by rw [List.length_cons, List.length_cons, i1], fun j q hj => ?_⟩
    cases j with
    | zero =>
      cases hj
      show w.1 ≤ ys_ev r x ∧ ys_ev r x ≤ w.2
      omega
    | succ j => exact i2 j q hj
  | [], _ :: _, hc => by cases hc
  | _ :: _, [], hc => by cases hc
def ys_sbs (q w : Int × Int) : Bool := decide (w.1 ≤ q.1) && decide (q.2 ≤ w.2)
theorem ys_sbs_ok {q w : Int × Int} (h : ys_sbs q w = true) {z : Int} (hz : q.1 ≤ z ∧ z ≤ q.2) : w.1 ≤ z ∧ z ≤ w.2 := by
  unfold ys_sbs at h
  rw [Bool.and_eq_true, decide_eq_true_eq, decide_eq_true_eq] at h
  omega
def ys_rle (a a' : ys_R) : Bool := ys_sbs a.1 a'.1 && (a.2.all (fun x => ys_sbs x.2 (ys_rat a' x.1)) && a'.2.all (fun x => ys_sbs (ys_rat a x.1) x.2))
theorem ys_lk_mem : ∀ (l : List (Nat × (Int × Int))) (i : Nat) (v : Int × Int), l.lookup i = some v → (i, v) ∈ l
  | [], i, v, h => by cases h
  | (j, w) :: t, i, v, h => by
    unfold List.lookup at h
    cases hc : i == j with
    | true =>
      rw [hc] at h
      cases h
      rw [beq_iff_eq] at hc
      rw [hc]
      exact List.mem_cons_self
    | false =>
      rw [hc] at h
      exact List.mem_cons_of_mem _ (ys_lk_mem t i v h)
theorem ys_rle_ok {a a' : ys_R} (h : ys_rle a a' = true) {f : Nat → Int} (ha : ys_rok a f) : ys_rok a' f := by
  unfold ys_rle at h
  rw [Bool.and_eq_true, Bool.and_eq_true] at h
  obtain ⟨h1, h2, h3⟩ := h
  intro j
  have hj := ha j
  cases hc : a'.2.lookup j with
  | some w =>
    have e1 : ys_rat a' j = w := by unfold ys_rat; rw [hc]; rfl
    rw [e1]
    exact ys_sbs_ok (List.all_eq_true.mp h3 _ (ys_lk_mem _ _ _ hc)) hj
  | none =>
    have e1 : ys_rat a' j = a'.1 := by unfold ys_rat; rw [hc]; rfl
    cases hd : a.2.lookup j with
    | some w =>
      have e2 : ys_rat a j = w := by unfold ys_rat; rw [hd]; rfl
      rw [e2] at hj
      exact ys_sbs_ok (List.all_eq_true.mp h2 _ (ys_lk_mem _ _ _ hd)) hj
    | none =>
      have e2 : ys_rat a j = a.1 := by unfold ys_rat; rw [hd]; rfl
      rw [e2] at hj
      rw [e1]
      exact ys_sbs_ok h1 hj
def ys_rls : List ys_R → List ys_R → Bool
  | [], [] => true
  | a :: t, a' :: u => ys_rle a a' && ys_rls t u
  | _, _ => false
theorem ys_rls_ok : ∀ (l l' : List ys_R), ys_rls l l' = true → l.length = l'.length ∧ ∀ (k : Nat) (a' : ys_R), l'[k]? = some a' → ∃ a, l[k]? = some a ∧ ys_rle a a' = true
  | [], [], _ => ⟨rfl, fun k a' h => by cases h⟩
  | a :: t, a' :: u, h => by
    unfold ys_rls at h
    rw [Bool.and_eq_true] at h
    obtain ⟨i1, i2⟩ := ys_rls_ok t u h.2
    refine ⟨by rw [List.length_cons, List.length_cons, i1], fun k x hk => ?_⟩
    cases k with
    | zero =>
      cases hk
      exact ⟨a, rfl, h.1⟩
    | succ k => exact i2 k x hk
  | [], _ :: _, h => by cases h
  | _ :: _, [], h => by cases h
def ys_mat (b : ys_B) (ars : List ys_R) (E : Nat) (tiv : ys_E) (tf : List ys_L) (tars : List ys_R) (prs : List (ys_V × ys_V)) : Option (List ys_L) :=
  if ys_ivc b (ys_col E prs) tiv && (tf.all (fun f => ys_ge b.1 b.2 2 (ys_put E (ys_col E prs) f)) && (prs.all (fun q => ys_eqV (ys_pV E (ys_col E prs) q.1) q.2) && ys_rls ars tars)) then some (ys_col E prs) else none
theorem ys_mat_ok {ad : Nat → Nat} {r : Nat → Int} {b : ys_B} (h : ys_okB r b) {ars tars : List ys_R} {E : Nat} {tiv : ys_E} {tf : List ys_L} {prs : List (ys_V × ys_V)} {t : List ys_L} (hm : ys_mat b ars E tiv tf tars prs = some t) :
    t = ys_col E prs ∧ t.length = tiv.length ∧ (∀ (j : Nat) (q : Int × Int), tiv[j]? = some q → q.1 ≤ ys_val r E t (E + j) ∧ ys_val r E t (E + j) ≤ q.2) ∧ ys_fk (ys_val r E t) tf ∧ (∀ q ∈ prs, ys_den ad (ys_val r E t) q.1 = ys_den ad r q.2) ∧ (ars.length = tars.length ∧ ∀ (k : Nat) (a' : ys_R), tars[k]? = some a' → ∃ a, ars[k]? = some a ∧ ys_rle a a' = true) := by
  unfold ys_mat at hm
  split at hm
  · rename_i hc
    rw [Bool.and_eq_true, Bool.and_eq_true, Bool.and_eq_true] at hc
    obtain ⟨c1, c2, c3, c4⟩ := hc
    have et := (Option.some.inj hm).symm
    rw [← et] at c1 c2 c3
    obtain ⟨i1, i2⟩ := ys_ivc_ok h t tiv c1
    refine ⟨et, i1, fun j q hj => ?_, fun f hf => ?_, fun q hq => ?_, ys_rls_ok _ _ c4⟩
    · have e1 : ys_val r E t (E + j) = ys_ev r (t.getD j ([], 0)) := by
        show ys_ev r (ys_at E t (E + j)) = _
        unfold ys_at
        rw [if_neg (by omega), show E + j - E = j by omega]
      rw [e1]
      exact i2 j q hj
    · have h1 := ys_ge_le h.1 h.2 _ _ (List.all_eq_true.mp c2 f hf)
      rw [ys_put_ev] at h1
      exact h1
    · have h1 := ys_eqV_ok (ad := ad) (List.all_eq_true.mp c3 q hq) r
      rw [ys_pV_den] at h1
      exact h1
  · cases hm
theorem ys_val_high {r : Nat → Int} {E : Nat} {t : List ys_L} {i : Nat} (h : E + t.length ≤ i) : ys_val r E t i = 0 := by
  show ys_ev r (ys_at E t i) = 0
  unfold ys_at
  rw [if_neg (by omega), List.getD_eq_getElem?_getD, List.getElem?_eq_none (by omega)]
  rfl
/-- fields by pairs -/
def ys_zf : List (List ys_V) → List (List ys_V) → Option (List (ys_V × ys_V))
  | [], [] => some []
  | x :: t, y :: u => if x.length = y.length then (match ys_zf t u with
    | some l => some (x.zip y ++ l)
    | none => none) else none
  | _, _ => none
theorem ys_zip_map {ad : Nat → Nat} {r r' : Nat → Int} : ∀ (x y : List ys_V), x.length = y.length → (∀ q ∈ x.zip y, ys_den ad r' q.1 = ys_den ad r q.2) → x.map (ys_den ad r') = y.map (ys_den ad r)
  | [], [], _, _ => rfl
  | v :: x, w :: y, hl, h => by
    rw [List.map_cons, List.map_cons, ys_zip_map x y (by simpa using hl) (fun q hq => h q (List.mem_cons_of_mem _ hq)), h (v, w) List.mem_cons_self]
  | [], _ :: _, hl, _ => by cases hl
  | _ :: _, [], hl, _ => by cases hl
theorem ys_zf_ok {ad : Nat → Nat} {r r' : Nat → Int} : ∀ (x y : List (List ys_V)) (l : List (ys_V × ys_V)), ys_zf x y = some l → (∀ q ∈ l, ys_den ad r' q.1 = ys_den ad r q.2) → ∀ k, (x.getD k []).map (ys_den ad r') = (y.getD k []).map (ys_den ad r)
  | [], [], l, _, _ => fun k => by simp
  | a :: x, c :: y, l, hz, h => by
    unfold ys_zf at hz
    split at hz
    · rename_i hl
      split at hz
      · rename_i l' hl'
        cases Option.some.inj hz
        intro k
        cases k with
        | zero => exact ys_zip_map a c hl (fun q hq => h q (List.mem_append_left _ hq))
        | succ k => exact ys_zf_ok x y l' hl' (fun q hq => h q (List.mem_append_right _ hq)) k
      · cases hz
    · cases hz
  | [], _ :: _, l, hz, _ => by cases hz
  | _ :: _, [], l, hz, _ => by cases hz
theorem ys_zf_mem : ∀ (x y : List (List ys_V)) (l : List (ys_V × ys_V)), ys_zf x y = some l → ∀ q ∈ l, ∃ w ∈ y, q.2 ∈ w
  | [], [], l, hz, q, hq => by cases Option.some.inj hz; cases hq
  | a :: x, c :: y, l, hz, q, hq => by
    unfold ys_zf at hz
    split at hz
    · split at hz
      · rename_i l' hl'
        cases Option.some.inj hz
        rcases List.mem_append.mp hq with g | g
        · exact ⟨c, List.mem_cons_self, (List.of_mem_zip g).2⟩
        · obtain ⟨w, h1, h2⟩ := ys_zf_mem x y l' hl' q g
          exact ⟨w, List.mem_cons_of_mem _ h1, h2⟩
      · cases hz
    · cases hz
  | [], _ :: _, l, hz, _, _ => by cases hz
  | _ :: _, [], l, hz, _, _ => by cases hz
theorem ys_wld_eq {ad : Nat → Nat} {cT : Nat → ClassId} {sh : List ys_C} {r r' : Nat → Int} {g : Nat → Nat → Int} {x y : List (List ys_V)} (h : ∀ k, (x.getD k []).map (ys_den ad r') = (y.getD k []).map (ys_den ad r)) : ys_wld ad cT sh r' g x = ys_wld ad cT sh r g y := by
  unfold ys_wld
  apply List.map_congr_left
  intro k _
  unfold ys_cel
  cases sh.getD k (.inl 0) with
  | inl ci =>
    show (ad k, Sum.inr (ci, _)) = (ad k, Sum.inr (ci, _))
    rw [h k]
  | inr a => rfl
/-! contracts -/
abbrev ys_A : Type := ys_E × List ys_L × ys_F × Option ys_V
abbrev ys_K : Type := ((MethodName × ByteArray × Nat × Option FieldType) × (Nat × Nat)) × (List ys_V × ys_B × ys_F) × (List ys_A × List Nat)
def ys_rm (K : ys_K) : Room := { frames := K.1.2.1, cells := 0, slots := 0, locals := K.1.2.2 }
def ys_ws (G : List Cond) (K : ys_K) : List Cond := Cond.code K.1.1.1 K.1.1.2.1 K.1.1.2.2.1 K.1.1.2.2.2 :: G
section YSK
variable (l : Launch) (D : va_G) (cl : List vw_C) (ad : Nat → Nat) (cT : Nat → ClassId) (sh : List ys_C) (tys : List (ClassId × FieldType)) (G : List Cond)
def ys_wK (K : ys_K) (r0 : Nat → Int) (g0 : Nat → Nat → Int) : va_W := ys_wld ad cT sh r0 g0 K.2.1.2.2.1
def ys_Pre (K : ys_K) (r0 : Nat → Int) (g0 : Nat → Nat → Int) (sz : Nat) : Array Value → State → Prop := va_Pc (K.2.1.1.map (ys_den ad r0)) (fun U => U.heap.size = sz ∧ va_P D cl (ys_wK ad cT sh K r0 g0) U.heap ∧ va_K D cl tys U ∧ va_D (fun _ => True) (ys_wK ad cT sh K r0 g0))
def ys_Alt (K : ys_K) (r0 : Nat → Int) (g0 : Nat → Nat → Int) (sz : Nat) (a : ys_A) (oc : Outcome) (t : State) : Prop := ∃ (r1 : Nat → Int) (g1 : Nat → Nat → Int), (∀ i, i < K.2.1.2.1.1.length → r1 i = r0 i) ∧ (∀ i, K.2.1.2.1.1.length + a.1.length ≤ i → r1 i = 0) ∧ (∀ (j : Nat) (q : Int × Int), a.1[j]? = some q → q.1 ≤ r1 (K.2.1.2.1.1.length + j) ∧ r1 (K.2.1.2.1.1.length + j) ≤ q.2) ∧ ys_fk r1 a.2.1 ∧ ys_gok K.2.2.2 a.2.2.1.2 g0 g1 ∧ va_P D cl (ys_wld ad cT sh r1 g1 a.2.2.1.1) t.heap ∧ va_D (va_A (ys_wK ad cT sh K r0 g0) sz) (ys_wld ad cT sh r1 g1 a.2.2.1.1) ∧ va_K D cl tys t ∧ oc = .returned (a.2.2.2.map (ys_den ad r1))
def ys_Post (K : ys_K) (r0 : Nat → Int) (g0 : Nat → Nat → Int) (sz : Nat) : Array Value → State → Outcome → State → Prop := fun _ st oc t => (∃ a ∈ K.2.2.1, ys_Alt D cl ad cT sh tys K r0 g0 sz a oc t) ∧ va_F (va_A (ys_wK ad cT sh K r0 g0) sz) st t
def ys_Con (K : ys_K) : Prop := ∀ (r0 : Nat → Int) (g0 : Nat → Nat → Int) (sz : Nat), ys_okB r0 K.2.1.2.1 → (∀ (k : Nat) (a : ys_R), K.2.1.2.2.2[k]? = some a → ys_rok a (g0 k)) → Met l K.1.1.1 (ys_ws G K) (ys_rm K) (ys_Pre D cl ad cT sh tys K r0 g0 sz) (ys_Post D cl ad cT sh tys K r0 g0 sz) 0 0 (va_A (ys_wK ad cT sh K r0 g0) sz)
end YSK
end
section
/-! calls -/
def ys_arm (mods : List Nat) : Nat → List ys_R → List ys_R → List ys_R
  | i, a :: t, a' :: u => (if mods.contains i then a' else a) :: ys_arm mods (i + 1) t u
  | _, _, _ => []
theorem ys_arm_get (mods : List Nat) : ∀ (x y : List ys_R) (i k : Nat) (z : ys_R), (ys_arm mods i x y)[k]? = some z → (i + k ∈ mods ∧ y[k]? = some z) ∨ (i + k ∉ mods ∧ x[k]? = some z)
  | a :: t, a' :: u, i, k, z, h => by
    unfold ys_arm at h
    cases k with
    | zero =>
      have h := Option.some.inj h
      by_cases hc : mods.contains i = true
      · rw [if_pos hc] at h
        exact Or.inl ⟨by simpa using hc, by rw [← h]; rfl⟩
      · rw [if_neg hc] at h
        exact Or.inr ⟨by simpa using hc, by rw [← h]; rfl⟩
    | succ k =>
      have h := ys_arm_get mods t u (i + 1) k z h
      rw [show i + 1 + k = i + (k + 1) by omega] at h
      exact h
  | [], y, i, k, z, h => by
    unfold ys_arm at h
    cases h
  | _ :: _, [], i, k, z, h => by
    unfold ys_arm at h
    cases h
def ys_tau (n : Nat) (t : List ys_L) (a : ys_A) : List ys_L := t ++ (List.range a.1.length).map fun j => ys_sym (n + j)
def ys_aft (pc : Nat) (b : ys_B) (fds : ys_F) (lv : List (Nat × ys_V)) (rest : List ys_V) (K : ys_K) (t : List ys_L) (a : ys_A) : List (Nat × ys_S) := match ys_ass (b.1 ++ a.1, b.2) (a.2.1.map (ys_put 0 (ys_tau b.1.length t a))) with
  | some b' => [(pc, b', (a.2.2.1.1.map (fun w => w.map (ys_pV 0 (ys_tau b.1.length t a))), ys_arm K.2.2.2 0 fds.2 a.2.2.1.2), lv, a.2.2.2.toList.map (ys_pV 0 (ys_tau b.1.length t a)) ++ rest)]
  | none => []
theorem ys_tau_get {n : Nat} {t : List ys_L} {a : ys_A} (i : Nat) : (ys_tau n t a).getD i ([], 0) = if i < t.length then t.getD i ([], 0) else if i < t.length + a.1.length then ys_sym (n + (i - t.length)) else ([], 0) := by
  unfold ys_tau
  rw [List.getD_eq_getElem?_getD]
  by_cases h1 : i < t.length
  · rw [if_pos h1, List.getElem?_append_left h1, ← List.getD_eq_getElem?_getD]
  · rw [if_neg h1, List.getElem?_append_right (by omega), List.getElem?_map]
    by_cases h2 : i < t.length + a.1.length
    · rw [if_pos h2, List.getElem?_range (by omega)]
      rfl
    · rw [if_neg h2, List.getElem?_eq_none (by rw [List.length_range]; omega)]
      rfl
section YSC
variable {p : Program} {l : Launch} {e : Env} {R : Room} {s : State} {m : MethodId} {args : Array Value} {below : List Frame} {meth : Method} {c : Code} {Q : State → Prop} {kc kz : Nat} {D : va_G} {cl : List vw_C} {ad : Nat → Nat} {cT : Nat → ClassId} {sh : List ys_C} {A : Nat → Prop} {H0 : Heap} {nL : Nat} {mods : List Nat} {g0 : Nat → Nat → Int} {r0 : Nat → Int} {E : Nat} {pc : Nat} {b : ys_B} {fds : ys_F} {lv : List (Nat × ys_V)} {sv : List ys_V} {succ : List (Nat × ys_S)} {cc : ByteArray} {own : String} {Ts : List Cond} {tys : List (ClassId × FieldType)}
variable {G : List Cond} {K : ys_K}
theorem ys_kaft {t : List ys_L} {a : ys_A} {r : Nat → Int} {H H1 : Heap} {locs locs1 : List Loc} {ls : Array Slot} {st : List Value} {g : Nat → Nat → Int} {v : Option Value} {t1 : State} (h : ys_rep D cl ad cT sh A H0 nL mods g0 r0 r E (b, fds, lv, sv) H locs ls st) (hg : ys_gok mods fds.2 g0 g) (ht : ∀ x ∈ t, ys_stb b.1.length x) (hlen : t.length = K.2.1.2.1.1.length) (hm : ∀ k, k ∈ K.2.2.2 → k ∈ mods) (hA : ys_Alt D cl ad cT sh tys K (ys_val r 0 t) g H.size a (.returned v) t1) (hH1 : t1.heap = H1) (hF : ∀ q, va_A (ys_wK ad cT sh K (ys_val r 0 t) g) H.size q → A q) (hS1 : va_S A H0 H1 locs1) (k : ∀ q ∈ ys_aft pc b fds lv sv K t a, ys_W p l e R s m args below meth c Q kc kz D cl ad cT sh A H0 nL mods g0 r0 E q.1 q.2) : W p l e R s m args below meth c H1 locs1 kc kz Q (F0 m pc ls (v.toList ++ st)) := by
  obtain ⟨r1, g1, a1, a2, a3, a4, a5, a6, a7, a8, a9⟩ := hA
  obtain ⟨r', hr'⟩ : ∃ r' : Nat → Int, r' = fun i => if i < b.1.length then r i else r1 (t.length + (i - b.1.length)) := ⟨_, rfl⟩
  have hlo : ∀ i, i < b.1.length → r' i = r i := fun i hi => by rw [hr']; exact if_pos hi
  have hhi : ∀ j, r' (b.1.length + j) = r1 (t.length + j) := fun j => by
    rw [hr']
    show (if b.1.length + j < b.1.length then _ else _) = _
    rw [if_neg (by omega), show b.1.length + j - b.1.length = j by omega]
  have hv : ys_val r' 0 (ys_tau b.1.length t a) = r1 := by
    funext i
    show ys_ev r' (ys_at 0 (ys_tau b.1.length t a) i) = r1 i
    unfold ys_at
    rw [if_neg (by omega), Nat.sub_zero, ys_tau_get]
    by_cases h1 : i < t.length
    · rw [if_pos h1]
      have e1 : ys_val r 0 t i = ys_ev r (t.getD i ([], 0)) := by
        show ys_ev r (ys_at 0 t i) = _
        unfold ys_at
        rw [if_neg (by omega), Nat.sub_zero]
      have hmem : ys_stb b.1.length (t.getD i ([], 0)) := by
        rw [List.getD_eq_getElem?_getD, List.getElem?_eq_getElem h1]
        exact ht _ (List.getElem_mem h1)
      rw [hmem r' r hlo, ← e1, a1 i (by omega)]
    · rw [if_neg h1]
      by_cases h2 : i < t.length + a.1.length
      · rw [if_pos h2, ys_sym_ev, hhi, show t.length + (i - t.length) = i by omega]
      · rw [if_neg h2, a2 i (by omega)]
        rfl
  have hlen2 : (b.1 ++ a.1).length = b.1.length + a.1.length := List.length_append
  have hok : ys_okB r' (b.1 ++ a.1, b.2) := by
    refine ⟨fun i w hi => ?_, fun f hf => ?_⟩
    · by_cases hl : i < b.1.length
      · rw [List.getElem?_append_left hl] at hi
        rw [hlo i hl]
        exact h.1.1 i w hi
      · rw [List.getElem?_append_right (by omega)] at hi
        have e2 := hhi (i - b.1.length)
        rw [show b.1.length + (i - b.1.length) = i by omega] at e2
        rw [e2, hlen]
        exact a3 _ w hi
    · rw [h.2.1.1 f hf r' r hlo]
      exact h.1.2 f hf
  have hfk : ys_fk r' (a.2.1.map (ys_put 0 (ys_tau b.1.length t a))) := by
    intro f hf
    obtain ⟨f0, hf0, e0⟩ := List.mem_map.mp hf
    rw [← e0, ys_put_ev, hv]
    exact a4 f0 hf0
  have htt : ∀ x ∈ ys_tau b.1.length t a, ys_stb (b.1.length + a.1.length) x := by
    intro x hx
    unfold ys_tau at hx
    rcases List.mem_append.mp hx with q | q
    · exact ys_stb_mono (ht x q) (by omega)
    · obtain ⟨j, hj, e0⟩ := List.mem_map.mp q
      rw [← e0]
      exact ys_stb_sym (by have := List.mem_range.mp hj; omega)
  obtain ⟨b', eb, hb'⟩ := ys_ass_ok _ hok hfk
  have hl' := ys_ass_len _ eb
  have hl' : b'.1.length = b.1.length + a.1.length := hl'.trans hlen2
  have hscb : ys_scB ((b.1 ++ a.1, b.2) : ys_B) := fun f hf => by
    show ys_stb (b.1 ++ a.1).length f
    rw [hlen2]
    exact ys_stb_mono (m := b.1.length + a.1.length) (h.2.1.1 f hf) (Nat.le_add_right _ _)
  have hsc' := ys_ass_sc (n := b.1.length + a.1.length) _ hlen2 hscb (fun f hf => by
    obtain ⟨f0, hf0, e0⟩ := List.mem_map.mp hf
    rw [← e0]
    exact ys_stb_put (by omega) htt f0) eb
  unfold ys_aft at k
  rw [eb] at k
  have k := k _ List.mem_cons_self
  have hrow : ∀ kk, ((a.2.2.1.1.map (fun w => w.map (ys_pV 0 (ys_tau b.1.length t a)))).getD kk []).map (ys_den ad r') = (a.2.2.1.1.getD kk []).map (ys_den ad r1) := by
    intro kk
    rw [List.getD_eq_getElem?_getD, List.getD_eq_getElem?_getD, List.getElem?_map]
    cases a.2.2.1.1[kk]? with
    | none => rfl
    | some w =>
      show (w.map (ys_pV 0 (ys_tau b.1.length t a))).map (ys_den ad r') = w.map (ys_den ad r1)
      rw [List.map_map]
      apply List.map_congr_left
      intro x _
      show ys_den ad r' (ys_pV 0 _ x) = _
      rw [ys_pV_den, hv]
  have ew := ys_wld_eq (cT := cT) (sh := sh) (g := g1) hrow
  obtain ⟨-, ⟨s0, s1, s2, s3⟩, ⟨hE, hr0⟩, -, q4, q5⟩ := h
  have hst : v.toList ++ st = (a.2.2.2.toList.map (ys_pV 0 (ys_tau b.1.length t a)) ++ sv).map (ys_den ad r') := by
    rw [List.map_append, q5]
    have e3 : v = a.2.2.2.map (ys_den ad r1) := by
      have := a9
      cases this
      rfl
    congr 1
    · rw [e3]
      cases a.2.2.2 with
      | none => rfl
      | some x =>
        show [ys_den ad r1 x] = [ys_den ad r' (ys_pV 0 _ x)]
        rw [ys_pV_den, hv]
    · exact List.map_congr_left fun x hx => ys_den_cong (fun i hi => (hlo i hi).symm) (s3 x hx)
  refine k r' H1 locs1 ls _ ⟨hb', ⟨hsc', fun w hw x hx => ?_, fun q hq => ?_, fun x hx => ?_⟩, ⟨by show E ≤ b'.1.length; rw [hl']; exact Nat.le_trans hE (by show b.1.length ≤ _; omega), fun i hi => (hlo i (Nat.lt_of_lt_of_le hi hE)).trans (hr0 i hi)⟩, ⟨g1, ⟨fun kk z hz => ?_, fun kk hk => ?_⟩, ?_, ?_, hS1⟩, ?_, hst⟩
  · obtain ⟨w0, -, e0⟩ := List.mem_map.mp hw
    rw [← e0] at hx
    obtain ⟨x0, -, e1⟩ := List.mem_map.mp hx
    rw [← e1]
    show ys_stV b'.1.length _
    rw [hl']
    exact ys_pV_st (by omega) htt x0
  · show ys_stV b'.1.length _
    rw [hl']
    exact ys_stV_mono (s2 q hq) (by show b.1.length ≤ _; omega)
  · show ys_stV b'.1.length _
    rw [hl']
    rcases List.mem_append.mp hx with q | q
    · obtain ⟨x0, -, e1⟩ := List.mem_map.mp q
      rw [← e1]
      exact ys_pV_st (by omega) htt x0
    · exact ys_stV_mono (s3 x q) (by show b.1.length ≤ _; omega)
  · rcases ys_arm_get _ _ _ 0 kk z hz with ⟨-, h2⟩ | ⟨h1, h2⟩
    · exact a5.1 kk z h2
    · rw [Nat.zero_add] at h1
      rw [a5.2 kk h1]
      exact hg.1 kk z h2
  · rw [a5.2 kk (fun q => hk (hm kk q))]
    exact hg.2 kk hk
  · show va_P D cl (ys_wld ad cT sh r' g1 (a.2.2.1.1.map fun w => w.map (ys_pV 0 (ys_tau b.1.length t a)))) H1
    rw [ew, ← hH1]
    exact a6
  · show va_D A (ys_wld ad cT sh r' g1 (a.2.2.1.1.map fun w => w.map (ys_pV 0 (ys_tau b.1.length t a))))
    rw [ew]
    exact a7.weaken (fun _ q _ hq => hF q.1 hq)
  · have e4 : ys_lvs ad r lv = ys_lvs ad r' lv := List.map_congr_left fun q hq => by rw [ys_den_cong (fun i hi => (hlo i hi).symm) (s2 q hq)]
    exact e4 ▸ q4
/-- a call by its contract -/
def ys_hcall (fr lo : Nat) (mods : List Nat) (K : ys_K) (pc : Nat) (b : ys_B) (fds : ys_F) (lv : List (Nat × ys_V)) (sv : List ys_V) : Option (List (Nat × ys_S)) := match ys_zf K.2.1.2.2.1 fds.1 with
  | some fp => if decide (K.2.1.1.length ≤ sv.length) && (decide (((sv.drop K.2.1.1.length).map ys_cat).sum ≤ 8) && (decide (K.1.2.1 + 1 ≤ fr) && (decide (8 + (K.1.1.2.2.1 + 11) + K.1.2.2 ≤ lo) && K.2.2.2.all (fun k => mods.contains k)))) then (match ys_mat b fds.2 0 K.2.1.2.1.1 K.2.1.2.1.2 K.2.1.2.2.2 (K.2.1.1.zip (sv.take K.2.1.1.length).reverse ++ fp) with
      | some t => some (K.2.2.1.flatMap fun a => ys_aft (pc + 3) b fds lv (sv.drop K.2.1.1.length) K t a)
      | none => none) else none
  | none => none
/-- what a call's link says: a method of an object, or of none -/
def ys_CL (own : String) (Ts : List Cond) (cl : List vw_C) (sh : List ys_C) (G : List Cond) (i : Instr) (K : ys_K) : Prop :=
  (∃ (idx k ci : Nat) (C : String) (T : u_T) (N : Nat) (as : List ys_V), i = .invokevirtual idx ∧ K.2.1.1 = .inr (some k) :: as ∧ sh[k]? = some (.inl ci) ∧ cl[ci]? = some (C, T, N) ∧ GoodIn Ts (wsV own idx C K.1.1.1 (ys_ws G K)) ∧ (K.1.1.1.cls = C ∧ K.1.1.1.cls ≠ "java/lang/invoke/MethodHandle" ∧ K.1.1.1.cls ≠ "java/lang/invoke/VarHandle" ∧ (parseMethodDescriptor K.1.1.1.desc).map (fun d => d.parameters.length) = some as.length)) ∨
  (∃ idx : Nat, i = .invokestatic idx ∧ GoodIn Ts (va_wsS own idx K.1.1.1 (ys_ws G K)) ∧ (K.1.1.1.cls ≠ "java/lang/invoke/MethodHandle" ∧ K.1.1.1.cls ≠ "java/lang/invoke/VarHandle" ∧ (parseMethodDescriptor K.1.1.1.desc).map (fun d => d.parameters.length) = some K.2.1.1.length))
theorem ys_blind {r0 : Nat → Int} {g : Nat → Nat → Int} {sz : Nat} : FrameBlind (ys_Pre D cl ad cT sh tys K r0 g sz) := fun a U g mk q => by
  obtain ⟨q0, q1, qP, qK, qD⟩ := q
  exact ⟨q0, q1, qP, va_K.moved (u := U) (U := U.calling g mk a) (Vm.Alike.refl U.vm) qK, qD⟩
theorem ys_cats (l : List ys_V) (r : Nat → Int) : ((l.map (ys_den ad r)).map fun v => v.category).sum = (l.map ys_cat).sum := by
  rw [List.map_map]
  congr 1
  apply List.map_congr_left
  intro v _
  exact ys_cat_den ad r v
theorem ys_kcall {i : Instr} {fr lo : Nat} (S : CallFix p m c cc nL s args Ts own) (hK : va_K D cl tys s) (hA0 : ∀ q, H0.size ≤ q → A q) (hcon : ys_Con l D cl ad cT sh tys G K) (hCL : ys_CL own Ts cl sh G i K) (hd : decode cc pc = .ok (i, 3)) (hfr : fr ≤ R.frames) (hlo : lo ≤ R.locals) (hkk : kc ≤ R.cells ∧ kz ≤ R.slots) (hs : ys_hcall fr lo mods K pc b fds lv sv = some succ) (k : ∀ q ∈ succ, ys_W p l e R s m args below meth c Q kc kz D cl ad cT sh A H0 nL mods g0 r0 E q.1 q.2) : ys_W p l e R s m args below meth c Q kc kz D cl ad cT sh A H0 nL mods g0 r0 E pc (b, fds, lv, sv) := by
  unfold ys_hcall at hs
  split at hs
  · rename_i fp hfp
    split at hs
    · rename_i hc
      rw [Bool.and_eq_true, Bool.and_eq_true, Bool.and_eq_true, Bool.and_eq_true, decide_eq_true_eq, decide_eq_true_eq, decide_eq_true_eq, decide_eq_true_eq] at hc
      obtain ⟨c1, c2, c3, c4, c5⟩ := hc
      split at hs
      · rename_i t hmat
        cases Option.some.inj hs
        intro r H locs ls st h
        obtain ⟨et, e2, e3, e4, e5, e6, e7⟩ := ys_mat_ok (ad := ad) h.1 hmat
        obtain ⟨g, hg, hP, hD, hS⟩ := h.2.2.2.1
        have hsv : sv = sv.take K.2.1.1.length ++ sv.drop K.2.1.1.length := (List.take_append_drop _ _).symm
        have hst2 : ∀ q ∈ K.2.1.1.zip (sv.take K.2.1.1.length).reverse ++ fp, ys_stV b.1.length q.2 := by
          intro q hq
          rcases List.mem_append.mp hq with g1 | g1
          · exact h.2.1.2.2.2 _ (List.mem_of_mem_take (List.mem_reverse.mp (List.of_mem_zip g1).2))
          · obtain ⟨w, h1, h2⟩ := ys_zf_mem _ _ _ hfp q g1
            exact h.2.1.2.1 w h1 _ h2
        have htst : ∀ x ∈ t, ys_stb b.1.length x := by
          rw [et]
          exact ys_col_st _ _ hst2
        have ew : ys_wK ad cT sh K (ys_val r 0 t) g = ys_wld ad cT sh r g fds.1 := ys_wld_eq (ys_zf_ok _ _ _ hfp (fun q hq => e5 q (List.mem_append_right _ hq)))
        have hargs : K.2.1.1.map (ys_den ad (ys_val r 0 t)) = ((sv.take K.2.1.1.length).reverse).map (ys_den ad r) := ys_zip_map _ _ (by rw [List.length_reverse, List.length_take]; omega) (fun q hq => e5 q (List.mem_append_left _ hq))
        have hokB : ys_okB (ys_val r 0 t) K.2.1.2.1 := ⟨fun j q hj => by
          have := e3 j q hj
          rw [Nat.zero_add] at this
          exact this, e4⟩
        have har : ∀ (kk : Nat) (a : ys_R), K.2.1.2.2.2[kk]? = some a → ys_rok a (g kk) := fun kk a ha => by
          obtain ⟨a0, h1, h2⟩ := e7 kk a ha
          exact ys_rle_ok h2 (hg.1 kk a0 h1)
        have hM := hcon (ys_val r 0 t) g H.size hokB har
        have hP' : va_P D cl (ys_wK ad cT sh K (ys_val r 0 t) g) H := by rw [ew]; exact hP
        have hD' : va_D A (ys_wK ad cT sh K (ys_val r 0 t) g) := by rw [ew]; exact hD
        have hF : ∀ q, va_A (ys_wK ad cT sh K (ys_val r 0 t) g) H.size q → A q := by
          intro q hq
          rcases hq with ⟨kk, x, hx⟩ | hq
          · exact hD'.2 kk (q, x) hx
          · exact hA0 q (Nat.le_trans hS.1 hq)
        have hpre : ∀ U : State, U.heap = H → s.WarmedH U.vm → ys_Pre D cl ad cT sh tys K (ys_val r 0 t) g H.size (K.2.1.1.map (ys_den ad (ys_val r 0 t))).toArray U := fun U hU hW => ⟨rfl, by rw [hU], by rw [hU]; exact hP', va_K.moved hW.alike hK, hD'.weaken (fun _ _ _ _ => trivial)⟩
        have hrest : 2 * (F0 m pc ls st).monitorRoom + (((sv.drop K.2.1.1.length).map (ys_den ad r)).map fun v => v.category).sum ≤ 8 := lv_room (rest := st) (by rw [ys_cats]; exact c2)
        have hfull : st = (K.2.1.1.map (ys_den ad (ys_val r 0 t))).reverse ++ (sv.drop K.2.1.1.length).map (ys_den ad r) := by
          rw [hargs, ← List.map_reverse, List.reverse_reverse, ← List.map_append, ← hsv]
          exact h.2.2.2.2.2
        have hgo : va_Run p l e R s m args below meth c H locs kc kz 0 0 (F0 m pc ls st) ((sv.drop K.2.1.1.length).map (ys_den ad r)) (ys_Post D cl ad cT sh tys K (ys_val r 0 t) g H.size (K.2.1.1.map (ys_den ad (ys_val r 0 t))).toArray) (va_A (ys_wK ad cT sh K (ys_val r 0 t) g) H.size) := by
          rcases hCL with ⟨idx, kc, ci, C, T, N, as, ei, ea, h1, h2, h3, h4⟩ | ⟨idx, ei, h3, h4⟩
          · subst ei
            have hw := ys_wld_get (ad := ad) (cT := cT) (r := ys_val r 0 t) (g := g) (fds := K.2.1.2.2.1) h1
            rw [ea] at hpre hfull ⊢
            rw [List.map_cons] at hpre hfull ⊢
            rw [List.reverse_cons, List.append_assoc] at hfull
            have hlen : (as.map (ys_den ad (ys_val r 0 t))).length = as.length := List.length_map _
            exact va_runV (C := C) (b := ad kc) (As := as.map (ys_den ad (ys_val r 0 t))) S hM (cwV as.length S.2.2.2.2 h3 rfl rfl rfl h4 ⟨Nat.le_trans c3 hfr, Nat.le_trans c4 hlo⟩) ⟨ys_blind, va_recv hK hP' h2 hw, hpre⟩ rfl hlen h.2.2.2.2.1.1 hfull (by rw [ea] at hrest; exact hrest) hd hkk
          · subst ei
            exact va_runS (As := K.2.1.1.map (ys_den ad (ys_val r 0 t))) S hM (va_cwS K.2.1.1.length S.2.2.2.2 h3 rfl rfl rfl h4 ⟨Nat.le_trans c3 hfr, Nat.le_trans c4 hlo⟩) ⟨ys_blind, hpre⟩ rfl (List.length_map _) h.2.2.2.2.1.1 hfull hrest hd hkk
        intro T hT X
        obtain ⟨v, st₀, t1, T', L, h0, X', hL, f1, f2, ⟨⟨a, ha, hAlt⟩, hz, hk⟩, stp⟩ := hgo T hT X
        rw [h0] at hz hk
        have hrep2 : ys_rep D cl ad cT sh A H0 nL mods g0 r0 r E (b, fds, lv, sv.drop K.2.1.1.length) H locs ls ((sv.drop K.2.1.1.length).map (ys_den ad r)) := by
          obtain ⟨q1, ⟨s0, s1, s2, s3⟩, q2, q3, q4, q5⟩ := h
          exact ⟨q1, ⟨s0, s1, s2, fun x hx => s3 x (List.mem_of_mem_drop hx)⟩, q2, q3, q4, rfl⟩
        have hm : ∀ kk, kk ∈ K.2.2.2 → kk ∈ mods := fun kk hkk => by
          have := List.all_eq_true.mp c5 kk hkk
          simpa using this
        obtain ⟨t2, a1, b1⟩ := ys_kaft (H1 := T'.heap) (locs1 := locs ++ L) hrep2 hg htst e2 hm hAlt f1.symm hF ⟨Nat.le_trans hS.1 (by rw [f1]; exact hz), fun q h1 h2 => by rw [f1, hk q (Nat.lt_of_lt_of_le h1 hS.1) (fun z => h2 (hF q z))]; exact hS.2.1 q h1 h2, fun q hq => by
          rcases List.mem_append.mp hq with g1 | g1
          · exact hS.2.2 q g1
          · exact hF _ (hL q g1)⟩ (fun q hq => k q (List.mem_flatMap.mpr ⟨a, ha, hq⟩)) T' rfl X'
        exact ⟨t2, stp t2 a1, b1⟩
      · cases hs
    · cases hs
  · cases hs
end YSC
end
section
/-! copying arrays; the end of a method -/
def ys_alh : List (Nat × (Int × Int)) → Int × Int → Int × Int
  | [], q => q
  | x :: t, q => ys_alh t (ys_hul q x.2)
theorem ys_alh_acc {z : Int} : ∀ (l : List (Nat × (Int × Int))) (q : Int × Int), q.1 ≤ z ∧ z ≤ q.2 → (ys_alh l q).1 ≤ z ∧ z ≤ (ys_alh l q).2
  | [], q, h => h
  | x :: t, q, h => ys_alh_acc t _ (ys_hul_l h)
theorem ys_alh_in {z : Int} {n : Nat} {w : Int × Int} (hw : w.1 ≤ z ∧ z ≤ w.2) : ∀ (l : List (Nat × (Int × Int))) (q : Int × Int), l.lookup n = some w → (ys_alh l q).1 ≤ z ∧ z ≤ (ys_alh l q).2
  | [], q, h => by cases h
  | (i, x) :: t, q, h => by
    unfold List.lookup at h
    cases hc : n == i with
    | true =>
      rw [hc] at h
      cases h
      exact ys_alh_acc t _ (ys_hul_r hw)
    | false =>
      rw [hc] at h
      exact ys_alh_in hw t _ h
theorem ys_alh_ok {a : ys_R} {f : Nat → Int} (ha : ys_rok a f) (j : Nat) : (ys_alh a.2 a.1).1 ≤ f j ∧ f j ≤ (ys_alh a.2 a.1).2 := by
  have h := ha j
  unfold ys_rat at h
  cases hc : a.2.lookup j with
  | none =>
    rw [hc] at h
    exact ys_alh_acc _ _ h
  | some w =>
    rw [hc] at h
    exact ys_alh_in h _ _ hc
/-- a part of an array: from x on, n of them -/
def ys_prt (b : ys_B) (x n : ys_L) (len : Nat) : Bool := ys_inr false b.1 x && (ys_inr false b.1 n && (ys_ge b.1 b.2 2 x && (ys_ge b.1 b.2 2 n && ys_ge b.1 b.2 2 (ys_sub (ys_sub ([], (len : Int)) x) n))))
theorem ys_prt_ok {r : Nat → Int} {b : ys_B} (h : ys_okB r b) {x n : ys_L} {len : Nat} (hc : ys_prt b x n len = true) : ¬ Int32.ofInt (ys_ev r x) < 0 ∧ ¬ Int32.ofInt (ys_ev r n) < 0 ∧ (Int32.ofInt (ys_ev r x)).toNatClampNeg + (Int32.ofInt (ys_ev r n)).toNatClampNeg ≤ len := by
  unfold ys_prt at hc
  rw [Bool.and_eq_true, Bool.and_eq_true, Bool.and_eq_true, Bool.and_eq_true] at hc
  obtain ⟨c1, c2, c3, c4, c5⟩ := hc
  have e1 := ys_inr32 h.1 c1
  have e2 := ys_inr32 h.1 c2
  have h3 := ys_ge_le h.1 h.2 _ _ c3
  have h4 := ys_ge_le h.1 h.2 _ _ c4
  have h5 := ys_ge_le h.1 h.2 _ _ c5
  have z : ys_ev r (([], (len : Int)) : ys_L) = (len : Int) := Int.zero_add _
  rw [ys_sub_ev, ys_sub_ev, z] at h5
  refine ⟨?_, ?_, ?_⟩
  · rw [Int32.lt_iff_toInt_lt, e1]
    exact Int.not_lt.mpr h3
  · rw [Int32.lt_iff_toInt_lt, e2]
    exact Int.not_lt.mpr h4
  · show (Int32.ofInt (ys_ev r x)).toInt.toNat + (Int32.ofInt (ys_ev r n)).toInt.toNat ≤ len
    rw [e1, e2]
    omega
def ys_ncw : Nat := nativeFrameWords "java/lang/System" "arraycopy" 5 + 11
def ys_hcopy (lo : Nat) (sh : List ys_C) (mods : List Nat) (pc : Nat) (b : ys_B) (fds : ys_F) (lv : List (Nat × ys_V)) (sv : List ys_V) : Option (List (Nat × ys_S)) := match sv with
  | .inl (.inl n) :: .inl (.inl dp) :: .inr (some kd) :: .inl (.inl sp) :: .inr (some ks) :: t => (match sh[kd]?, sh[ks]?, fds.2[kd]?, fds.2[ks]? with
    | some (.inr yd), some (.inr ys), some ad, some as => if (decide (yd.1 = 0) || decide (yd.1 = 1)) && (decide (ys.1 = yd.1) && (ys_prt b dp n yd.2.1 && (ys_prt b sp n ys.2.1 && (decide (kd ∈ mods) && decide ((t.map ys_cat).sum + ys_ncw ≤ lo))))) then some [(pc + 3, b, (fds.1, fds.2.set kd (ys_hul (ys_alh ad.2 ad.1) (ys_alh as.2 as.1), [])), lv, t)] else none
    | _, _, _, _ => none)
  | _ => none
def ys_gcp (g : Nat → Nat → Int) (ks kd sp dp n : Nat) : Nat → Nat → Int := fun i => if i = kd then va_cpy (g ks) (g kd) sp dp n else g i
section YSP
variable {p : Program} {l : Launch} {e : Env} {R : Room} {s : State} {m : MethodId} {args : Array Value} {below : List Frame} {meth : Method} {c : Code} {Q : State → Prop} {kc kz : Nat} {D : va_G} {cl : List vw_C} {ad : Nat → Nat} {cT : Nat → ClassId} {sh : List ys_C} {A : Nat → Prop} {H0 : Heap} {nL : Nat} {mods : List Nat} {g0 : Nat → Nat → Int} {r0 : Nat → Int} {E : Nat} {pc : Nat} {b : ys_B} {fds : ys_F} {lv : List (Nat × ys_V)} {sv : List ys_V} {succ : List (Nat × ys_S)} {cc : ByteArray} {own : String} {Ts : List Cond} {tys : List (ClassId × FieldType)}
variable {G : List Cond} {K : ys_K}
theorem ys_kcopy {idx lo : Nat} (hexec : p.tables.exec = Jvm.exec) (hb : c.code = cc) (hml : c.maxLocals = nL) (hts : ∀ w ∈ Ts, w.before args s = true) (hown : s.vm.findClass own = some m.cls) (hK : va_K D cl tys s) (hty0 : tys[0]? = some (cT 0, .int)) (hty1 : tys[1]? = some (cT 1, .long)) (hfr : 1 ≤ R.frames) (hlo : lo ≤ R.locals) (hw1 : Cond.methodLink own idx arraycopyName ∈ Ts) (hw2 : Cond.native arraycopyName ∈ Ts) (hw3 : Cond.static arraycopyName ∈ Ts) (hw4 : Cond.initialized "java/lang/System" ∈ Ts) (hd : decode cc pc = .ok (.invokestatic idx, 3)) (hs : ys_hcopy lo sh mods pc b fds lv sv = some succ) (k : ∀ q ∈ succ, ys_W p l e R s m args below meth c Q kc kz D cl ad cT sh A H0 nL mods g0 r0 E q.1 q.2) : ys_W p l e R s m args below meth c Q kc kz D cl ad cT sh A H0 nL mods g0 r0 E pc (b, fds, lv, sv) := by
  unfold ys_hcopy at hs
  split at hs
  · rename_i n dp kd sp ks t
    split at hs
    · rename_i yd ys aD aS hshd hshs hard hars
      split at hs
      · rename_i hc
        simp only [Bool.and_eq_true, Bool.or_eq_true, decide_eq_true_eq] at hc
        obtain ⟨hkd, hks, hpd, hps, hm, hlw⟩ := hc
        cases Option.some.inj hs
        have k := k _ List.mem_cons_self
        intro r H locs ls st h
        obtain ⟨st1, e1, g1, -⟩ := ys_rep_pop h
        obtain ⟨st2, e2, g2, -⟩ := ys_rep_pop g1
        obtain ⟨st3, e3, g3, -⟩ := ys_rep_pop g2
        obtain ⟨st4, e4, g4, -⟩ := ys_rep_pop g3
        obtain ⟨st5, e5, g5, -⟩ := ys_rep_pop g4
        subst e1; subst e2; subst e3; subst e4; subst e5
        obtain ⟨q1, ⟨s0, s1, s2, s3⟩, q2, ⟨g, hg, hP, hD, hS⟩, q4, q5⟩ := g5
        obtain ⟨p1, p2, p3⟩ := ys_prt_ok h.1 hpd
        obtain ⟨p4, -, p6⟩ := ys_prt_ok h.1 hps
        have hwd := ys_wld_get (ad := ad) (cT := cT) (r := r) (g := g) (fds := fds.1) hshd
        have hws := ys_wld_get (ad := ad) (cT := cT) (r := r) (g := g) (fds := fds.1) hshs
        have hrest : (st5.map fun v => v.category).sum + (nativeFrameWords "java/lang/System" "arraycopy" 5 + 11) ≤ R.locals := by
          rw [q5, ys_cats]
          exact Nat.le_trans hlw hlo
        obtain ⟨kdd, ld, td⟩ := yd
        obtain ⟨kss, lsn, tss⟩ := ys
        have hks : kss = kdd := hks
        subst hks
        have fin : ∀ (H1 : Heap) (locs1 : List Loc), va_P D cl (ys_wld ad cT sh r (ys_gcp g ks kd (Int32.ofInt (ys_ev r sp)).toNatClampNeg (Int32.ofInt (ys_ev r dp)).toNatClampNeg (Int32.ofInt (ys_ev r n)).toNatClampNeg) fds.1) H1 → va_D A (ys_wld ad cT sh r (ys_gcp g ks kd (Int32.ofInt (ys_ev r sp)).toNatClampNeg (Int32.ofInt (ys_ev r dp)).toNatClampNeg (Int32.ofInt (ys_ev r n)).toNatClampNeg) fds.1) → va_S A H0 H1 locs1 → W p l e R s m args below meth c H1 locs1 kc kz Q (F0 m (pc + 3) ls st5) := by
          intro H1 locs1 hP1 hD1 hS1
          refine k r H1 locs1 ls _ ⟨q1, ⟨s0, s1, s2, s3⟩, q2, ⟨_, ⟨fun i w hi => ?_, fun i hi => ?_⟩, hP1, hD1, hS1⟩, q4, q5⟩
          · by_cases hk : i = kd
            · subst hk
              have hl : i < fds.2.length := (List.getElem?_eq_some_iff.mp hard).1
              have hi : (fds.2.set i (ys_hul (ys_alh aD.2 aD.1) (ys_alh aS.2 aS.1), []))[i]? = some w := hi
              rw [List.getElem?_set_self hl] at hi
              cases hi
              intro j
              show (ys_hul (ys_alh aD.2 aD.1) (ys_alh aS.2 aS.1)).1 ≤ ys_gcp g ks i _ _ _ i j ∧ ys_gcp g ks i _ _ _ i j ≤ (ys_hul (ys_alh aD.2 aD.1) (ys_alh aS.2 aS.1)).2
              unfold ys_gcp
              rw [if_pos rfl]
              unfold va_cpy
              split
              · exact ys_hul_r (ys_alh_ok (hg.1 ks aS hars) _)
              · exact ys_hul_l (ys_alh_ok (hg.1 i aD hard) j)
            · have hi : (fds.2.set kd (ys_hul (ys_alh aD.2 aD.1) (ys_alh aS.2 aS.1), []))[i]? = some w := hi
              rw [List.getElem?_set_ne (Ne.symm hk)] at hi
              have e6 : ys_gcp g ks kd (Int32.ofInt (ys_ev r sp)).toNatClampNeg (Int32.ofInt (ys_ev r dp)).toNatClampNeg (Int32.ofInt (ys_ev r n)).toNatClampNeg i = g i := if_neg hk
              rw [e6]
              exact hg.1 i w hi
          · have hk : i ≠ kd := fun e => hi (e ▸ hm)
            have e6 : ys_gcp g ks kd (Int32.ofInt (ys_ev r sp)).toNatClampNeg (Int32.ofInt (ys_ev r dp)).toNatClampNeg (Int32.ofInt (ys_ev r n)).toNatClampNeg i = g i := if_neg hk
            rw [e6]
            exact hg.2 i hi
        have ew := ys_wld_set (ad := ad) (cT := cT) (r := r) (g := g) (g' := ys_gcp g ks kd (Int32.ofInt (ys_ev r sp)).toNatClampNeg (Int32.ofInt (ys_ev r dp)).toNatClampNeg (Int32.ofInt (ys_ev r n)).toNatClampNeg) (fds := fds.1) (fds' := fds.1) hshd (fun i hi => ⟨if_neg hi, rfl⟩)
        have hml2 : c.maxLocals = ls.size := hml.trans q4.1.symm
        rcases hkd with hk0 | hk1
        · have hk0 : kss = 0 := hk0
          subst hk0
          refine va_copyi hexec hb hml2 hown (hts _ hw1) (hts _ hw2) (hts _ hw3) (hts _ hw4) hK hP hD hS ks kd 0 0 (f := fun j => Int32.ofInt (g ks j)) (g := fun j => Int32.ofInt (g kd j)) hws hwd hty0 hty0 rfl p4 p1 p2 p6 p3 (fun i _ => rfl) hfr hrest hd fun H1 locs1 hP1 hD1 hS1 => ?_
          have ef : (fun j => Int32.ofInt (ys_gcp g ks kd (Int32.ofInt (ys_ev r sp)).toNatClampNeg (Int32.ofInt (ys_ev r dp)).toNatClampNeg (Int32.ofInt (ys_ev r n)).toNatClampNeg kd j)) = va_cpy (fun j => Int32.ofInt (g ks j)) (fun j => Int32.ofInt (g kd j)) (Int32.ofInt (ys_ev r sp)).toNatClampNeg (Int32.ofInt (ys_ev r dp)).toNatClampNeg (Int32.ofInt (ys_ev r n)).toNatClampNeg := by
            funext j
            unfold ys_gcp
            rw [if_pos rfl]
            unfold va_cpy
            split <;> rfl
          have ec : ys_cel ad cT r (ys_gcp g ks kd (Int32.ofInt (ys_ev r sp)).toNatClampNeg (Int32.ofInt (ys_ev r dp)).toNatClampNeg (Int32.ofInt (ys_ev r n)).toNatClampNeg) kd (.inr (0, ld, td)) (fds.1.getD kd []) = (ad kd, .inl (cT 0, ld, .inl (va_cpy (fun j => Int32.ofInt (g ks j)) (fun j => Int32.ofInt (g kd j)) (Int32.ofInt (ys_ev r sp)).toNatClampNeg (Int32.ofInt (ys_ev r dp)).toNatClampNeg (Int32.ofInt (ys_ev r n)).toNatClampNeg))) := by
            show ((ad kd, Sum.inl (cT 0, ld, Sum.inl (fun j => Int32.ofInt (ys_gcp g ks kd (Int32.ofInt (ys_ev r sp)).toNatClampNeg (Int32.ofInt (ys_ev r dp)).toNatClampNeg (Int32.ofInt (ys_ev r n)).toNatClampNeg kd j)))) : Nat × va_E) = _
            rw [ef]
          rw [ec] at ew
          exact fin H1 locs1 (by rw [ew]; exact hP1) (by rw [ew]; exact hD1) hS1
        · have hk1 : kss = 1 := hk1
          subst hk1
          refine va_copyl hexec hb hml2 hown (hts _ hw1) (hts _ hw2) (hts _ hw3) (hts _ hw4) hK hP hD hS ks kd 1 1 (f := fun j => Int64.ofInt (g ks j)) (g := fun j => Int64.ofInt (g kd j)) hws hwd hty1 hty1 rfl p4 p1 p2 p6 p3 (fun i _ => rfl) hfr hrest hd fun H1 locs1 hP1 hD1 hS1 => ?_
          have ef : (fun j => Int64.ofInt (ys_gcp g ks kd (Int32.ofInt (ys_ev r sp)).toNatClampNeg (Int32.ofInt (ys_ev r dp)).toNatClampNeg (Int32.ofInt (ys_ev r n)).toNatClampNeg kd j)) = va_cpy (fun j => Int64.ofInt (g ks j)) (fun j => Int64.ofInt (g kd j)) (Int32.ofInt (ys_ev r sp)).toNatClampNeg (Int32.ofInt (ys_ev r dp)).toNatClampNeg (Int32.ofInt (ys_ev r n)).toNatClampNeg := by
            funext j
            unfold ys_gcp
            rw [if_pos rfl]
            unfold va_cpy
            split <;> rfl
          have ec : ys_cel ad cT r (ys_gcp g ks kd (Int32.ofInt (ys_ev r sp)).toNatClampNeg (Int32.ofInt (ys_ev r dp)).toNatClampNeg (Int32.ofInt (ys_ev r n)).toNatClampNeg) kd (.inr (1, ld, td)) (fds.1.getD kd []) = (ad kd, .inl (cT 1, ld, .inr (.inl (va_cpy (fun j => Int64.ofInt (g ks j)) (fun j => Int64.ofInt (g kd j)) (Int32.ofInt (ys_ev r sp)).toNatClampNeg (Int32.ofInt (ys_ev r dp)).toNatClampNeg (Int32.ofInt (ys_ev r n)).toNatClampNeg)))) := by
            show ((ad kd, Sum.inl (cT 1, ld, Sum.inr (Sum.inl (fun j => Int64.ofInt (ys_gcp g ks kd (Int32.ofInt (ys_ev r sp)).toNatClampNeg (Int32.ofInt (ys_ev r dp)).toNatClampNeg (Int32.ofInt (ys_ev r n)).toNatClampNeg kd j))))) : Nat × va_E) = _
            rw [ef]
          rw [ec] at ew
          exact fin H1 locs1 (by rw [ew]; exact hP1) (by rw [ew]; exact hD1) hS1
      · cases hs
    · cases hs
  · cases hs
end YSP
/-- the greater, the lesser of two -/
def ys_hmm (mx : Bool) (fr lo : Nat) (pc : Nat) (b : ys_B) (fds : ys_F) (lv : List (Nat × ys_V)) (sv : List ys_V) : Option (List (Nat × ys_S)) := match sv with
  | .inl (.inl y) :: .inl (.inl x) :: t => if ys_inr false b.1 x && (ys_inr false b.1 y && (decide (1 ≤ fr) && decide ((t.map ys_cat).sum + 13 ≤ lo))) then some (match mx with
    | true => ys_br (pc + 3) b [ys_add (ys_sub y x) ([], -1)] (fds, lv, .inl (.inl y) :: t) ++ ys_br (pc + 3) b [ys_sub x y] (fds, lv, .inl (.inl x) :: t)
    | false => ys_br (pc + 3) b [ys_add (ys_sub x y) ([], -1)] (fds, lv, .inl (.inl y) :: t) ++ ys_br (pc + 3) b [ys_sub y x] (fds, lv, .inl (.inl x) :: t)) else none
  | _ => none
/-- what the links of the library's own say: a number below 100000 a copy, 100000 on the greater, 200000 on the lesser -/
def ys_Cp (own : String) (Ts : List Cond) (v : Nat) : Prop := match v / 100000 with
  | 0 => Cond.methodLink own v arraycopyName ∈ Ts ∧ Cond.native arraycopyName ∈ Ts ∧ Cond.static arraycopyName ∈ Ts ∧ Cond.initialized "java/lang/System" ∈ Ts
  | 1 => Cond.methodLink own (v - 100000) Lib.Math.max.name ∈ Ts ∧ Cond.static Lib.Math.max.name ∈ Ts ∧ Cond.initialized "java/lang/Math" ∈ Ts ∧ Cond.code Lib.Math.max.name Lib.Math.max.code 2 (some .int) ∈ Ts
  | 2 => Cond.methodLink own (v - 200000) Lib.Math.min.name ∈ Ts ∧ Cond.static Lib.Math.min.name ∈ Ts ∧ Cond.initialized "java/lang/Math" ∈ Ts ∧ Cond.code Lib.Math.min.name Lib.Math.min.code 2 (some .int) ∈ Ts
  | _ => False
section YSG
variable {p : Program} {l : Launch} {e : Env} {R : Room} {s : State} {m : MethodId} {args : Array Value} {below : List Frame} {meth : Method} {c : Code} {Q : State → Prop} {kc kz : Nat} {D : va_G} {cl : List vw_C} {ad : Nat → Nat} {cT : Nat → ClassId} {sh : List ys_C} {A : Nat → Prop} {H0 : Heap} {nL : Nat} {mods : List Nat} {g0 : Nat → Nat → Int} {r0 : Nat → Int} {E : Nat} {pc : Nat} {b : ys_B} {fds : ys_F} {lv : List (Nat × ys_V)} {sv : List ys_V} {succ : List (Nat × ys_S)} {cc : ByteArray} {own : String} {Ts : List Cond} {tys : List (ClassId × FieldType)}
theorem ys_kmm {idx fr lo : Nat} {mx : Bool} (hexec : p.tables.exec = Jvm.exec) (hb : c.code = cc) (hml : c.maxLocals = nL) (hts : ∀ w ∈ Ts, w.before args s = true) (hown : s.vm.findClass own = some m.cls) (hfr : fr ≤ R.frames) (hlo : lo ≤ R.locals) (hkk : kc ≤ R.cells ∧ kz ≤ R.slots) (hw : match mx with
    | true => Cond.methodLink own idx Lib.Math.max.name ∈ Ts ∧ Cond.static Lib.Math.max.name ∈ Ts ∧ Cond.initialized "java/lang/Math" ∈ Ts ∧ Cond.code Lib.Math.max.name Lib.Math.max.code 2 (some .int) ∈ Ts
    | false => Cond.methodLink own idx Lib.Math.min.name ∈ Ts ∧ Cond.static Lib.Math.min.name ∈ Ts ∧ Cond.initialized "java/lang/Math" ∈ Ts ∧ Cond.code Lib.Math.min.name Lib.Math.min.code 2 (some .int) ∈ Ts) (hd : decode cc pc = .ok (.invokestatic idx, 3)) (hs : ys_hmm mx fr lo pc b fds lv sv = some succ) (k : ∀ q ∈ succ, ys_W p l e R s m args below meth c Q kc kz D cl ad cT sh A H0 nL mods g0 r0 E q.1 q.2) : ys_W p l e R s m args below meth c Q kc kz D cl ad cT sh A H0 nL mods g0 r0 E pc (b, fds, lv, sv) := by
  unfold ys_hmm at hs
  split at hs
  · rename_i y x t
    split at hs
    · rename_i hc
      rw [Bool.and_eq_true, Bool.and_eq_true, Bool.and_eq_true, decide_eq_true_eq, decide_eq_true_eq] at hc
      obtain ⟨c1, c2, c3, c4⟩ := hc
      have hs := (Option.some.inj hs).symm
      subst hs
      intro r H locs ls st h
      obtain ⟨st1, e1, g1, hy⟩ := ys_rep_pop h
      obtain ⟨st2, e2, g2, hx⟩ := ys_rep_pop g1
      subst e1; subst e2
      have ex := ys_inr32 h.1.1 c1
      have ey := ys_inr32 h.1.1 c2
      have hcat : (st2.map fun v => v.category).sum + 13 ≤ R.locals := by
        rw [g2.2.2.2.2.2, ys_cats]
        exact Nat.le_trans c4 hlo
      have one : ∀ {g : ys_L}, ys_stb b.1.length g → ∀ f ∈ [g], ys_stb b.1.length f := fun hg f hf => by rw [List.mem_singleton.mp hf]; exact hg
      have py := ys_rep_push g2 (.inl (.inl y)) hy
      have px := ys_rep_push g2 (.inl (.inl x)) hx
      cases mx with
      | true =>
        obtain ⟨w1, w2, w3, w4⟩ := hw
        refine va_mmax hexec hb (hml.trans g2.2.2.2.2.1.1.symm) hown (hts _ w1) (hts _ w2) (hts _ w3) (hts _ w4) (Nat.le_trans c3 hfr) hcat hkk.1 hkk.2 hd ?_
        by_cases hlt : Int32.ofInt (ys_ev r x) < Int32.ofInt (ys_ev r y)
        · rw [if_pos hlt]
          rw [Int32.lt_iff_toInt_lt, ex, ey] at hlt
          exact ys_kbr py (ys_fk1 (f := ys_add (ys_sub y x) ([], -1)) (by rw [ys_m1, ys_sub_ev]; omega)) (one (ys_stb_m1 (ys_stb_sub hy hx))) (fun q hq => k q (List.mem_append_left _ hq))
        · rw [if_neg hlt]
          rw [Int32.lt_iff_toInt_lt, ex, ey] at hlt
          exact ys_kbr px (ys_fk1 (f := ys_sub x y) (by rw [ys_sub_ev]; omega)) (one (ys_stb_sub hx hy)) (fun q hq => k q (List.mem_append_right _ hq))
      | false =>
        obtain ⟨w1, w2, w3, w4⟩ := hw
        refine va_mmin hexec hb (hml.trans g2.2.2.2.2.1.1.symm) hown (hts _ w1) (hts _ w2) (hts _ w3) (hts _ w4) (Nat.le_trans c3 hfr) hcat hkk.1 hkk.2 hd ?_
        by_cases hlt : Int32.ofInt (ys_ev r y) < Int32.ofInt (ys_ev r x)
        · rw [if_pos hlt]
          rw [Int32.lt_iff_toInt_lt, ex, ey] at hlt
          exact ys_kbr py (ys_fk1 (f := ys_add (ys_sub x y) ([], -1)) (by rw [ys_m1, ys_sub_ev]; omega)) (one (ys_stb_m1 (ys_stb_sub hx hy))) (fun q hq => k q (List.mem_append_left _ hq))
        · rw [if_neg hlt]
          rw [Int32.lt_iff_toInt_lt, ex, ey] at hlt
          exact ys_kbr px (ys_fk1 (f := ys_sub y x) (by rw [ys_sub_ev]; omega)) (one (ys_stb_sub hy hx)) (fun q hq => k q (List.mem_append_right _ hq))
    · cases hs
  · cases hs
end YSG
/-- the end: one of the contract's ways -/
def ys_hret1 (E : Nat) (b : ys_B) (fds : ys_F) (v : Option ys_V) (a : ys_A) : Bool := match ys_zf a.2.2.1.1 fds.1 with
  | some fp => (match a.2.2.2, v with
    | some x, some y => (ys_mat b fds.2 E a.1 a.2.1 a.2.2.1.2 ((x, y) :: fp)).isSome
    | none, none => (ys_mat b fds.2 E a.1 a.2.1 a.2.2.1.2 fp).isSome
    | _, _ => false)
  | none => false
def ys_hret (E : Nat) (K : ys_K) (b : ys_B) (fds : ys_F) (v : Option ys_V) : Bool := K.2.2.1.any (ys_hret1 E b fds v)
section YSE
variable {p : Program} {l : Launch} {e : Env} {R : Room} {s : State} {m : MethodId} {args : Array Value} {below : List Frame} {meth : Method} {c : Code} {Q : State → Prop} {kc kz : Nat} {D : va_G} {cl : List vw_C} {ad : Nat → Nat} {cT : Nat → ClassId} {sh : List ys_C} {A : Nat → Prop} {H0 : Heap} {nL : Nat} {mods : List Nat} {g0 : Nat → Nat → Int} {r0 : Nat → Int} {E : Nat} {pc : Nat} {b : ys_B} {fds : ys_F} {lv : List (Nat × ys_V)} {sv : List ys_V} {succ : List (Nat × ys_S)} {cc : ByteArray} {own : String} {Ts : List Cond} {tys : List (ClassId × FieldType)}
variable {G : List Cond} {K : ys_K}
theorem ys_kret {v : Option ys_V} {r rr : Nat → Int} {H : Heap} {locs : List Loc} {ls : Array Slot} {st : List Value} {aa : Array Value} (hE : K.2.1.2.1.1.length ≤ E) (hrr : ∀ i, i < K.2.1.2.1.1.length → r0 i = rr i) (hK : va_K D cl tys s) (h : ys_rep D cl ad cT sh (va_A (ys_wK ad cT sh K rr g0) s.heap.size) s.heap nL K.2.2.2 g0 r0 r E (b, fds, lv, sv) H locs ls st) (hs : ys_hret K.2.1.2.1.1.length K b fds v = true) :
    ∀ t : State, t.heap = H → s.WarmedH t.vm → ys_Post D cl ad cT sh tys K rr g0 s.heap.size aa s (.returned (v.map (ys_den ad r))) t := by
  intro t ht hW
  obtain ⟨a, ha, hs1⟩ := List.any_eq_true.mp hs
  clear hs
  obtain ⟨h1, h2, ⟨hEl, hr⟩, ⟨g, hg, hP, hD, hS⟩, -, -⟩ := h
  have key : ∀ (prs : List (ys_V × ys_V)) (fp : List (ys_V × ys_V)) (tt : List ys_L), ys_zf a.2.2.1.1 fds.1 = some fp → (∀ q ∈ fp, q ∈ prs) → ys_mat b fds.2 K.2.1.2.1.1.length a.1 a.2.1 a.2.2.1.2 prs = some tt → (a.2.2.2.map (ys_den ad (ys_val r K.2.1.2.1.1.length tt)) = v.map (ys_den ad r)) → ys_Post D cl ad cT sh tys K rr g0 s.heap.size aa s (.returned (v.map (ys_den ad r))) t := by
    intro prs fp tt hz hsub hm hv
    obtain ⟨-, e2, e3, e4, e5, e6, e7⟩ := ys_mat_ok (ad := ad) h1 hm
    have ew : ys_wld ad cT sh (ys_val r K.2.1.2.1.1.length tt) g a.2.2.1.1 = ys_wld ad cT sh r g fds.1 := ys_wld_eq (ys_zf_ok _ _ _ hz (fun q hq => e5 q (hsub q hq)))
    refine ⟨⟨a, ha, ys_val r K.2.1.2.1.1.length tt, g, fun i hi => ?_, fun i hi => ys_val_high (by omega), e3, e4, ⟨fun kk z hz => ?_, hg.2⟩, ?_, ?_, va_K.moved hW.alike hK, by rw [hv]⟩, hS.F ht⟩
    · rw [ys_val_low hi, hr i (Nat.lt_of_lt_of_le hi hE), hrr i hi]
    · obtain ⟨a0, g1, g2⟩ := e7 kk z hz
      exact ys_rle_ok g2 (hg.1 kk a0 g1)
    · rw [ew, ht]
      exact hP
    · rw [ew]
      exact hD
  unfold ys_hret1 at hs1
  split at hs1
  · rename_i fp hfp
    split at hs1
    · rename_i x y hx
      obtain ⟨tt, htt⟩ := Option.isSome_iff_exists.mp hs1
      refine key _ fp tt hfp (fun q hq => List.mem_cons_of_mem _ hq) htt ?_
      obtain ⟨-, -, -, -, e5, -⟩ := ys_mat_ok (ad := ad) h1 htt
      rw [hx]
      show some _ = some _
      rw [e5 (x, y) List.mem_cons_self]
    · rename_i hx
      obtain ⟨tt, htt⟩ := Option.isSome_iff_exists.mp hs1
      refine key _ fp tt hfp (fun q hq => hq) htt ?_
      rw [hx]
      rfl
    · cases hs1
  · cases hs1
end YSE
end
section
/-! one step, whatever the instruction -/
def ys_cfo32 (op : Int32 → Int32 → Int32) (F : ys_B → ys_L → ys_L → Option (ys_B × ys_L)) (b : ys_B) (x y : ys_L) : Option (ys_B × ys_L) := match x.1, y.1 with
  | [], [] => some (b, ([], (op (Int32.ofInt x.2) (Int32.ofInt y.2)).toInt))
  | _, _ => F b x y
def ys_cfo64 (op : Int64 → Int64 → Int64) (F : ys_B → ys_L → ys_L → Option (ys_B × ys_L)) (b : ys_B) (x y : ys_L) : Option (ys_B × ys_L) := match x.1, y.1 with
  | [], [] => some (b, ([], (op (Int64.ofInt x.2) (Int64.ofInt y.2)).toInt))
  | _, _ => F b x y
def ys_cfoLI (op : Int64 → Int32 → Int64) (F : ys_B → ys_L → ys_L → Option (ys_B × ys_L)) (b : ys_B) (x y : ys_L) : Option (ys_B × ys_L) := match x.1, y.1 with
  | [], [] => some (b, ([], (op (Int64.ofInt x.2) (Int32.ofInt y.2)).toInt))
  | _, _ => F b x y
theorem ys_cfo32_ok {op : Int32 → Int32 → Int32} {F : ys_B → ys_L → ys_L → Option (ys_B × ys_L)} (h : ys_B32 F op (fun _ => True)) : ys_B32 (ys_cfo32 op F) op (fun _ => True) := by
  intro r b x y o hb hs hx hy ho
  unfold ys_cfo32 at ho
  split at ho
  · rename_i h1 h2
    cases Option.some.inj ho
    refine ⟨trivial, ys_Op_same hb hs (ys_stb_cst _) ?_⟩
    show Int32.ofInt (ys_ev r (ys_cst _)) = _
    rw [ys_cst_ev, ys_ev_nil r h1, ys_ev_nil r h2, Int32.ofInt_toInt]
  · exact h r b x y o hb hs hx hy ho
theorem ys_cfo64_ok {op : Int64 → Int64 → Int64} {F : ys_B → ys_L → ys_L → Option (ys_B × ys_L)} (h : ys_B64 F op (fun _ => True)) : ys_B64 (ys_cfo64 op F) op (fun _ => True) := by
  intro r b x y o hb hs hx hy ho
  unfold ys_cfo64 at ho
  split at ho
  · rename_i h1 h2
    cases Option.some.inj ho
    refine ⟨trivial, ys_Op_same hb hs (ys_stb_cst _) ?_⟩
    show Int64.ofInt (ys_ev r (ys_cst _)) = _
    rw [ys_cst_ev, ys_ev_nil r h1, ys_ev_nil r h2, Int64.ofInt_toInt]
  · exact h r b x y o hb hs hx hy ho
theorem ys_cfoLI_ok {op : Int64 → Int32 → Int64} {F : ys_B → ys_L → ys_L → Option (ys_B × ys_L)} (h : ys_BLI F op) : ys_BLI (ys_cfoLI op F) op := by
  intro r b x y o hb hs hx hy ho
  unfold ys_cfoLI at ho
  split at ho
  · rename_i h1 h2
    cases Option.some.inj ho
    refine ys_Op_same hb hs (ys_stb_cst _) ?_
    show Int64.ofInt (ys_ev r (ys_cst _)) = _
    rw [ys_cst_ev, ys_ev_nil r h1, ys_ev_nil r h2, Int64.ofInt_toInt]
  · exact h r b x y o hb hs hx hy ho
def ys_g1 {α : Type} (n k : Nat) (x : Option α) : Option α := if n = k then x else none
theorem ys_g1_ok {α : Type} {n k : Nat} {x : Option α} {y : α} (h : ys_g1 n k x = some y) : n = k ∧ x = some y := by
  unfold ys_g1 at h
  split at h
  · rename_i e
    exact ⟨e, h⟩
  · cases h
abbrev ys_CA : Type := List ((Nat × Bool) × ys_K)
def ys_hinv (fr lo : Nat) (mods : List Nat) (idx : Nat) (st : Bool) (pc : Nat) (b : ys_B) (fds : ys_F) (lv : List (Nat × ys_V)) (sv : List ys_V) : ys_CA → Option (List (Nat × ys_S))
  | [] => none
  | q :: t => if q.1 = (idx, st) then (match ys_hcall fr lo mods q.2 pc b fds lv sv with
    | some x => some x
    | none => ys_hinv fr lo mods idx st pc b fds lv sv t) else ys_hinv fr lo mods idx st pc b fds lv sv t
def ys_hldc (tab : List (Nat × Int)) (idx : Nat) (w : Bool) (pc : Nat) (b : ys_B) (fds : ys_F) (lv : List (Nat × ys_V)) (sv : List ys_V) : Option (List (Nat × ys_S)) := match tab.lookup idx with
  | some z => some [(pc, b, fds, lv, (if w then .inl (.inr ([], z)) else .inl (.inl ([], z))) :: sv)]
  | none => none
def ys_iret (K : ys_K) (b : ys_B) (fds : ys_F) (sv : List ys_V) : Option (List (Nat × ys_S)) := match sv with
  | [.inl (.inl x)] => if (decide (K.1.1.2.2.2 = some .int) || (decide (K.1.1.2.2.2 = some .boolean) && (ys_geb b.1 x 0 && ys_geb b.1 (ys_scale (-1) x) (-1)))) && ys_hret K.2.1.2.1.1.length K b fds (some (.inl (.inl x))) then some [] else none
  | _ => none
def ys_lret (K : ys_K) (b : ys_B) (fds : ys_F) (sv : List ys_V) : Option (List (Nat × ys_S)) := match sv with
  | [.inl (.inr x)] => if decide (K.1.1.2.2.2 = some .long) && ys_hret K.2.1.2.1.1.length K b fds (some (.inl (.inr x))) then some [] else none
  | _ => none
def ys_vret (K : ys_K) (b : ys_B) (fds : ys_F) (sv : List ys_V) : Option (List (Nat × ys_S)) := match sv with
  | [] => if decide (K.1.1.2.2.2 = none) && ys_hret K.2.1.2.1.1.length K b fds none then some [] else none
  | _ => none
def ys_or {α : Type} (x y : Option α) : Option α := match x with
  | some z => some z
  | none => y
def ys_stp (sh : List ys_C) (fl : ys_FL) (ci cj : List (Nat × Int)) (calls : ys_CA) (cps : List Nat) (K : ys_K) (nx : Nat → Option (Instr × Nat)) (pc : Nat) (b : ys_B) (fds : ys_F) (lv : List (Nat × ys_V)) (sv : List ys_V) (i : Instr) (n : Nat) : Option (List (Nat × ys_S)) := match i with
  | .iconst z => ys_g1 n 1 (ys_hpush (pc + 1) b fds lv sv (.inl (.inl ([], z))))
  | .lconst z => ys_g1 n 1 (ys_hpush (pc + 1) b fds lv sv (.inl (.inr ([], ((z : Nat) : Int)))))
  | .bipush z => if -128 ≤ z ∧ z ≤ 127 then ys_g1 n 2 (ys_hpush (pc + 2) b fds lv sv (.inl (.inl ([], z)))) else none
  | .sipush z => if -32768 ≤ z ∧ z ≤ 32767 then ys_g1 n 3 (ys_hpush (pc + 3) b fds lv sv (.inl (.inl ([], z)))) else none
  | .ldc k => ys_g1 n 2 (ys_hldc ci k false (pc + 2) b fds lv sv)
  | .ldc_w k => ys_g1 n 3 (ys_hldc ci k false (pc + 3) b fds lv sv)
  | .ldc2_w k => ys_g1 n 3 (ys_hldc cj k true (pc + 3) b fds lv sv)
  | .iload_n k => ys_g1 n 1 (ys_hload 0 k (pc + 1) b fds lv sv)
  | .iload k => ys_g1 n 2 (ys_hload 0 k (pc + 2) b fds lv sv)
  | .lload_n k => ys_g1 n 1 (ys_hload 1 k (pc + 1) b fds lv sv)
  | .lload k => ys_g1 n 2 (ys_hload 1 k (pc + 2) b fds lv sv)
  | .aload_n k => ys_g1 n 1 (ys_hload 2 k (pc + 1) b fds lv sv)
  | .aload k => ys_g1 n 2 (ys_hload 2 k (pc + 2) b fds lv sv)
  | .istore_n k => ys_g1 n 1 (ys_hstore 0 K.1.1.2.2.1 k (pc + 1) b fds lv sv)
  | .istore k => ys_g1 n 2 (ys_hstore 0 K.1.1.2.2.1 k (pc + 2) b fds lv sv)
  | .lstore_n k => ys_g1 n 1 (ys_hstore 1 K.1.1.2.2.1 k (pc + 1) b fds lv sv)
  | .lstore k => ys_g1 n 2 (ys_hstore 1 K.1.1.2.2.1 k (pc + 2) b fds lv sv)
  | .astore_n k => ys_g1 n 1 (ys_hstore 2 K.1.1.2.2.1 k (pc + 1) b fds lv sv)
  | .astore k => ys_g1 n 2 (ys_hstore 2 K.1.1.2.2.1 k (pc + 2) b fds lv sv)
  | .iinc k z => ys_g1 n 3 (ys_hinc K.1.1.2.2.1 k z pc b fds lv sv)
  | .iadd => ys_g1 n 1 (ys_hb32 (ys_fadd false) pc b fds lv sv)
  | .isub => ys_g1 n 1 (ys_hb32 (ys_fsub false) pc b fds lv sv)
  | .imul => ys_g1 n 1 (ys_hb32 (ys_fmul false) pc b fds lv sv)
  | .iand => ys_g1 n 1 (ys_hb32 (ys_cfo32 (fun x y => x &&& y) (ys_fand false)) pc b fds lv sv)
  | .ior => ys_g1 n 1 (ys_hb32 (ys_cfo32 (fun x y => x ||| y) ys_for) pc b fds lv sv)
  | .ixor => ys_g1 n 1 (ys_hb32 (ys_cfo32 (fun x y => x ^^^ y) ys_fxor) pc b fds lv sv)
  | .ishl => ys_g1 n 1 (ys_hb32 (ys_cfo32 (fun x y => x <<< (y &&& 31)) (ys_fshl false)) pc b fds lv sv)
  | .ishr => ys_g1 n 1 (ys_hb32 (ys_cfo32 (fun x y => x >>> (y &&& 31)) ys_fshr) pc b fds lv sv)
  | .iushr => ys_g1 n 1 (ys_hb32 (ys_cfo32 (fun x y => (x.toUInt32 >>> (y.toUInt32 &&& Int32.toUInt32 31)).toInt32) (ys_fany false)) pc b fds lv sv)
  | .idiv => ys_g1 n 1 (ys_hqs (ys_fdiv false) pc b fds lv sv)
  | .irem => ys_g1 n 1 (ys_hqs (ys_frem false) pc b fds lv sv)
  | .ineg => ys_g1 n 1 (ys_hu32 (ys_fneg false) pc b fds lv sv)
  | .i2b => ys_g1 n 1 (ys_hu32 (ys_fcut 7) pc b fds lv sv)
  | .i2s => ys_g1 n 1 (ys_hu32 (ys_fcut 15) pc b fds lv sv)
  | .i2l => ys_g1 n 1 (ys_hi2l pc b fds lv sv)
  | .l2i => ys_g1 n 1 (ys_hl2i pc b fds lv sv)
  | .ladd => ys_g1 n 1 (ys_hb64 (ys_fadd true) pc b fds lv sv)
  | .lsub => ys_g1 n 1 (ys_hb64 (ys_fsub true) pc b fds lv sv)
  | .lmul => ys_g1 n 1 (ys_hb64 (ys_fmul true) pc b fds lv sv)
  | .land => ys_g1 n 1 (ys_hb64 (ys_cfo64 (fun x y => x &&& y) (ys_fand true)) pc b fds lv sv)
  | .lor => ys_g1 n 1 (ys_hb64 (ys_cfo64 (fun x y => x ||| y) (ys_fany true)) pc b fds lv sv)
  | .lxor => ys_g1 n 1 (ys_hb64 (ys_cfo64 (fun x y => x ^^^ y) (ys_fany true)) pc b fds lv sv)
  | .ldiv => ys_g1 n 1 (ys_hb64 (ys_fdiv true) pc b fds lv sv)
  | .lrem => ys_g1 n 1 (ys_hb64 (ys_frem true) pc b fds lv sv)
  | .lneg => ys_g1 n 1 (ys_hu64 (ys_fneg true) pc b fds lv sv)
  | .lshl => ys_g1 n 1 (ys_hbLI (ys_cfoLI (fun x y => x <<< (y.toInt64 &&& 63)) (ys_fshl true)) pc b fds lv sv)
  | .lshr => ys_g1 n 1 (ys_hbLI (ys_cfoLI (fun x y => x >>> (y.toInt64 &&& 63)) (ys_fany true)) pc b fds lv sv)
  | .lushr => ys_g1 n 1 (ys_hbLI (ys_cfoLI (fun x y => (x.toUInt64 >>> (y.toInt64.toUInt64 &&& Int64.toUInt64 63)).toInt64) (ys_fany true)) pc b fds lv sv)
  | .lcmp => ys_g1 n 1 (ys_hlcmp (nx (pc + 1)) pc b fds lv sv)
  | .if_icmp cd off => ys_g1 n 3 (ys_hcmp cd off pc b fds lv sv)
  | .ifCond cd off => ys_g1 n 3 (ys_hif cd off pc b fds lv sv)
  | .goto off => ys_g1 n 3 (ys_hgoto off pc b fds lv sv)
  | .tableswitch dflt lo hi offs => ys_htab dflt lo hi offs pc b fds lv sv
  | .lookupswitch dflt ps => ys_hlook dflt ps pc b fds lv sv
  | .dup => ys_g1 n 1 (ys_hdup pc b fds lv sv)
  | .dup2 => ys_g1 n 1 (ys_hdup2 pc b fds lv sv)
  | .pop => ys_g1 n 1 (ys_hpop pc b fds lv sv)
  | .pop2 => ys_g1 n 1 (ys_hpop2 pc b fds lv sv)
  | .getfield k => ys_g1 n 3 (ys_hget sh fl k pc b fds lv sv)
  | .putfield k => ys_g1 n 3 (ys_hput sh fl k pc b fds lv sv)
  | .iaload => ys_g1 n 1 (ys_hiald sh pc b fds lv sv)
  | .laload => ys_g1 n 1 (ys_hlald sh pc b fds lv sv)
  | .baload => ys_g1 n 1 (ys_or (ys_hbald sh pc b fds lv sv) (ys_hzald sh pc b fds lv sv))
  | .aaload => ys_g1 n 1 (ys_haald sh pc b fds lv sv)
  | .iastore => ys_g1 n 1 (ys_hiast sh K.2.2.2 pc b fds lv sv)
  | .lastore => ys_g1 n 1 (ys_hlast sh K.2.2.2 pc b fds lv sv)
  | .bastore => ys_g1 n 1 (ys_or (ys_hbast sh K.2.2.2 pc b fds lv sv) (ys_hzast sh K.2.2.2 pc b fds lv sv))
  | .arraylength => ys_g1 n 1 (ys_halen sh pc b fds lv sv)
  | .invokevirtual k => ys_g1 n 3 (ys_hinv K.1.2.1 K.1.2.2 K.2.2.2 k false pc b fds lv sv calls)
  | .invokestatic k => if 100000 ≤ k then none else if cps.contains k && decide (1 ≤ K.1.2.1) then ys_g1 n 3 (ys_hcopy K.1.2.2 sh K.2.2.2 pc b fds lv sv) else if cps.contains (100000 + k) then ys_g1 n 3 (ys_hmm true K.1.2.1 K.1.2.2 pc b fds lv sv) else if cps.contains (200000 + k) then ys_g1 n 3 (ys_hmm false K.1.2.1 K.1.2.2 pc b fds lv sv) else ys_g1 n 3 (ys_hinv K.1.2.1 K.1.2.2 K.2.2.2 k true pc b fds lv sv calls)
  | .ireturn => ys_g1 n 1 (ys_iret K b fds sv)
  | .lreturn => ys_g1 n 1 (ys_lret K b fds sv)
  | .return_ => ys_g1 n 1 (ys_vret K b fds sv)
  | _ => none
def ys_Ty (tys : List (ClassId × FieldType)) (cT : Nat → ClassId) (sh : List ys_C) : Prop := tys[0]? = some (cT 0, .int) ∧ tys[1]? = some (cT 1, .long) ∧ tys[2]? = some (cT 2, .byte) ∧ tys[3]? = some (cT 3, .boolean) ∧ (∀ (k : Nat) (y : Nat × Nat × List Nat), sh[k]? = some (.inr y) → ∃ t, tys[y.1]? = some (cT y.1, t)) ∧ ∀ (k : Nat) (y : Nat × Nat × List Nat), sh[k]? = some (.inr y) → 4 ≤ y.1 → ∃ C, tys[y.1]? = some (cT y.1, .object C)
/-- what the code's links say -/
def ys_Lk (own : String) (Ts : List Cond) (cl : List vw_C) (fl : ys_FL) (ci cj : List (Nat × Int)) (cps : List Nat) : Prop := (∀ idx c j tk, fl.lookup idx = some (c, j, tk) → ys_Fl own Ts cl idx c j tk) ∧ (∀ idx z, ci.lookup idx = some z → Cond.constant own idx (Int32.ofInt z) ∈ Ts) ∧ (∀ idx z, cj.lookup idx = some z → Cond.constantLong own idx (Int64.ofInt z) ∈ Ts) ∧ ∀ v, v ∈ cps → ys_Cp own Ts v
section YSD
variable {p : Program} {l : Launch} {e : Env} {R : Room} {s : State} {m : MethodId} {args : Array Value} {below : List Frame} {meth : Method} {c : Code} {Q : State → Prop} {kc kz : Nat} {D : va_G} {cl : List vw_C} {ad : Nat → Nat} {cT : Nat → ClassId} {sh : List ys_C} {A : Nat → Prop} {H0 : Heap} {nL : Nat} {mods : List Nat} {g0 : Nat → Nat → Int} {r0 : Nat → Int} {E : Nat} {pc : Nat} {b : ys_B} {fds : ys_F} {lv : List (Nat × ys_V)} {sv : List ys_V} {succ : List (Nat × ys_S)} {cc : ByteArray} {own : String} {Ts : List Cond} {tys : List (ClassId × FieldType)}
variable {G : List Cond} {K : ys_K} {fl : ys_FL} {ci cj : List (Nat × Int)} {calls : ys_CA} {cps : List Nat} {nx : Nat → Option (Instr × Nat)} {rr : Nat → Int}
theorem ys_kinv {idx : Nat} {st : Bool} {fr lo : Nat} (S : CallFix p m c cc nL s args Ts own) (hK : va_K D cl tys s) (hA0 : ∀ q, H0.size ≤ q → A q) (hfr : fr ≤ R.frames) (hlo : lo ≤ R.locals) (hkk : kc ≤ R.cells ∧ kz ≤ R.slots) (hd : decode cc pc = .ok (if st = true then .invokestatic idx else .invokevirtual idx, 3)) (k : ∀ q ∈ succ, ys_W p l e R s m args below meth c Q kc kz D cl ad cT sh A H0 nL mods g0 r0 E q.1 q.2) : ∀ (cs : ys_CA), (∀ q ∈ cs, ys_Con l D cl ad cT sh tys G q.2 ∧ ys_CL own Ts cl sh G (if q.1.2 = true then .invokestatic q.1.1 else .invokevirtual q.1.1) q.2) → ys_hinv fr lo mods idx st pc b fds lv sv cs = some succ → ys_W p l e R s m args below meth c Q kc kz D cl ad cT sh A H0 nL mods g0 r0 E pc (b, fds, lv, sv)
  | [], _, hs => by cases hs
  | q :: t, hc, hs => by
    have ht : ∀ x ∈ t, ys_Con l D cl ad cT sh tys G x.2 ∧ ys_CL own Ts cl sh G (if x.1.2 = true then .invokestatic x.1.1 else .invokevirtual x.1.1) x.2 := fun x hx => hc x (List.mem_cons_of_mem _ hx)
    unfold ys_hinv at hs
    split at hs
    · rename_i he
      split at hs
      · rename_i x hx
        cases Option.some.inj hs
        obtain ⟨h1, h2⟩ := hc q List.mem_cons_self
        rw [he] at h2
        exact ys_kcall S hK hA0 h1 h2 hd hfr hlo hkk hx k
      · exact ys_kinv S hK hA0 hfr hlo hkk hd k t ht hs
    · exact ys_kinv S hK hA0 hfr hlo hkk hd k t ht hs
theorem ys_bip {z : Int} (h1 : -128 ≤ z) (h2 : z ≤ 127) : (Int8.ofInt z).toInt32 = Int32.ofInt z := by
  apply Int32.toInt_inj.mp
  rw [Int8.toInt_toInt32, Int8.toInt_ofInt_of_le (by omega) (by omega), Int32.toInt_ofInt_of_le (by omega) (by omega)]
theorem ys_sip {z : Int} (h1 : -32768 ≤ z) (h2 : z ≤ 32767) : (Int16.ofInt z).toInt32 = Int32.ofInt z := by
  apply Int32.toInt_inj.mp
  rw [Int16.toInt_toInt32, Int16.toInt_ofInt_of_le (by omega) (by omega), Int32.toInt_ofInt_of_le (by omega) (by omega)]
theorem ys_ev0 (r : Nat → Int) (z : Int) : ys_ev r (([], z) : ys_L) = z := Int.zero_add z
theorem ys_or_ok {α : Type} {x y : Option α} {z : α} (h : ys_or x y = some z) : x = some z ∨ y = some z := by
  unfold ys_or at h
  split at h
  · exact Or.inl h
  · exact Or.inr h
def ys_isr (i : Instr) : Bool := match i with
  | .ireturn => true
  | .lreturn => true
  | .return_ => true
  | _ => false
set_option maxHeartbeats 4000000 in
theorem ys_stp_gen {i : Instr} {n : Nat} (S : CallFix p m c cc nL s args Ts own) (hnL : K.1.1.2.2.1 = nL) (hmods : K.2.2.2 = mods) (hfr : K.1.2.1 ≤ R.frames) (hlo : K.1.2.2 ≤ R.locals) (hkk : kc ≤ R.cells ∧ kz ≤ R.slots) (hA0 : ∀ q, H0.size ≤ q → A q) (hK : va_K D cl tys s) (hty : ys_Ty tys cT sh) (hLk : ys_Lk own Ts cl fl ci cj cps) (hcalls : ∀ q ∈ calls, ys_Con l D cl ad cT sh tys G q.2 ∧ ys_CL own Ts cl sh G (if q.1.2 = true then .invokestatic q.1.1 else .invokevirtual q.1.1) q.2) (hnx : ∀ pc i, nx pc = some i → decode cc pc = .ok i) (hd : decode cc pc = .ok (i, n))
    (hs : ys_stp sh fl ci cj calls cps K nx pc b fds lv sv i n = some succ) (hret : ys_isr i = true → ys_W p l e R s m args below meth c Q kc kz D cl ad cT sh A H0 nL mods g0 r0 E pc (b, fds, lv, sv))
    (k : ∀ q ∈ succ, ys_W p l e R s m args below meth c Q kc kz D cl ad cT sh A H0 nL mods g0 r0 E q.1 q.2) : ys_W p l e R s m args below meth c Q kc kz D cl ad cT sh A H0 nL mods g0 r0 E pc (b, fds, lv, sv) := by
  subst hnL
  subst hmods
  have hexec := S.1
  have hb := S.2.1
  have hml := S.2.2.1
  have hown := S.2.2.2.1
  have hts := S.2.2.2.2
  obtain ⟨hfl, hci, hcj, hcps⟩ := hLk
  obtain ⟨t0, t1, t2, t3, t4, t5⟩ := hty
  cases i with
  | iconst z =>
    obtain ⟨e0, hs1⟩ := ys_g1_ok hs
    subst e0
    clear hs
    exact ys_kpush (v := .inl (.inl ([], z))) (fun _ => ys_stb_cst _) (fun r H locs ls rest kk => lv_iconst hexec hb hd (by rw [ys_ev0]) kk) hs1 k
  | lconst z =>
    obtain ⟨e0, hs1⟩ := ys_g1_ok hs
    subst e0
    clear hs
    exact ys_kpush (v := .inl (.inr ([], ((z : Nat) : Int)))) (fun _ => ys_stb_cst _) (fun r H locs ls rest kk => lv_lconst hexec hb hd (by rw [ys_ev0, Int64.ofInt_eq_ofNat]) kk) hs1 k
  | bipush z =>
    have hs : (if -128 ≤ z ∧ z ≤ 127 then ys_g1 n 2 (ys_hpush (pc + 2) b fds lv sv (.inl (.inl ([], z)))) else none) = some succ := hs
    split at hs
    · rename_i hz
      obtain ⟨e0, hs1⟩ := ys_g1_ok hs
      subst e0
      clear hs
      exact ys_kpush (v := .inl (.inl ([], z))) (fun _ => ys_stb_cst _) (fun r H locs ls rest kk => lv_bipush hexec hb hd (by rw [ys_ev0]; exact ys_bip hz.1 hz.2) kk) hs1 k
    · cases hs
  | sipush z =>
    have hs : (if -32768 ≤ z ∧ z ≤ 32767 then ys_g1 n 3 (ys_hpush (pc + 3) b fds lv sv (.inl (.inl ([], z)))) else none) = some succ := hs
    split at hs
    · rename_i hz
      obtain ⟨e0, hs1⟩ := ys_g1_ok hs
      subst e0
      clear hs
      exact ys_kpush (v := .inl (.inl ([], z))) (fun _ => ys_stb_cst _) (fun r H locs ls rest kk => lv_sipush hexec hb hd (by rw [ys_ev0]; exact ys_sip hz.1 hz.2) kk) hs1 k
    · cases hs
  | ldc x =>
    obtain ⟨e0, hs1⟩ := ys_g1_ok hs
    subst e0
    clear hs
    unfold ys_hldc at hs1
    split at hs1
    · rename_i z hz
      exact ys_kpush (v := .inl (.inl ([], z))) (fun _ => ys_stb_cst _) (fun r H locs ls rest kk => lv_ldc hexec hb hown (hts _ (hci _ _ hz)) hd (by rw [← ys_ev0 r z]; exact kk)) hs1 k
    · cases hs1
  | ldc_w x =>
    obtain ⟨e0, hs1⟩ := ys_g1_ok hs
    subst e0
    clear hs
    unfold ys_hldc at hs1
    split at hs1
    · rename_i z hz
      exact ys_kpush (v := .inl (.inl ([], z))) (fun _ => ys_stb_cst _) (fun r H locs ls rest kk => lv_ldcw hexec hb hown (hts _ (hci _ _ hz)) hd (by rw [← ys_ev0 r z]; exact kk)) hs1 k
    · cases hs1
  | ldc2_w x =>
    obtain ⟨e0, hs1⟩ := ys_g1_ok hs
    subst e0
    clear hs
    unfold ys_hldc at hs1
    split at hs1
    · rename_i z hz
      exact ys_kpush (v := .inl (.inr ([], z))) (fun _ => ys_stb_cst _) (fun r H locs ls rest kk => lv_ldc2 hexec hb hown (hts _ (hcj _ _ hz)) hd (by rw [← ys_ev0 r z]; exact kk)) hs1 k
    · cases hs1

  | iload_n x =>
    obtain ⟨e0, hs1⟩ := ys_g1_ok hs
    subst e0
    clear hs
    exact ys_kload (fun r v H locs ls rest hk hl kk => by
      obtain ⟨y, rfl⟩ := ys_kind0 hk
      exact lv_iload_n hexec hb hd rfl hl kk) hs1 k
  | lload_n x =>
    obtain ⟨e0, hs1⟩ := ys_g1_ok hs
    subst e0
    clear hs
    exact ys_kload (fun r v H locs ls rest hk hl kk => by
      obtain ⟨y, rfl⟩ := ys_kind1 hk
      exact lv_lload_n hexec hb hd rfl hl kk) hs1 k
  | aload_n x =>
    obtain ⟨e0, hs1⟩ := ys_g1_ok hs
    subst e0
    clear hs
    exact ys_kload (fun r v H locs ls rest hk hl kk => by
      obtain ⟨y, rfl⟩ := ys_kind2 hk
      exact lv_aload_n hexec hb hd rfl hl kk) hs1 k
  | iload x =>
    obtain ⟨e0, hs1⟩ := ys_g1_ok hs
    subst e0
    clear hs
    exact ys_kload (fun r v H locs ls rest hk hl kk => by
      obtain ⟨y, rfl⟩ := ys_kind0 hk
      exact lv_iload hexec hb hd hl kk) hs1 k
  | lload x =>
    obtain ⟨e0, hs1⟩ := ys_g1_ok hs
    subst e0
    clear hs
    exact ys_kload (fun r v H locs ls rest hk hl kk => by
      obtain ⟨y, rfl⟩ := ys_kind1 hk
      exact lv_lload hexec hb hd hl kk) hs1 k
  | aload x =>
    obtain ⟨e0, hs1⟩ := ys_g1_ok hs
    subst e0
    clear hs
    exact ys_kload (fun r v H locs ls rest hk hl kk => by
      obtain ⟨y, rfl⟩ := ys_kind2 hk
      exact lv_aload hexec hb hd hl kk) hs1 k
  | istore_n x =>
    obtain ⟨e0, hs1⟩ := ys_g1_ok hs
    subst e0
    clear hs
    exact ys_kstore (fun r v H locs ls rest hk hl hi kk => by
      obtain ⟨y, rfl⟩ := ys_kind0 hk
      exact lv_istore_n (lv' := ys_lvs ad r (ys_st1 lv x (.inl (.inl y)))) hexec hb hd rfl hl hi (ys_st1_lvs ad r lv x (.inl (.inl y))).symm kk) hs1 k
  | lstore_n x =>
    obtain ⟨e0, hs1⟩ := ys_g1_ok hs
    subst e0
    clear hs
    exact ys_kstore (fun r v H locs ls rest hk hl hi kk => by
      obtain ⟨y, rfl⟩ := ys_kind1 hk
      exact lv_lstore_n (lv' := ys_lvs ad r (ys_st2 lv x (.inl (.inr y)))) hexec hb hd rfl hl hi (ys_st2_lvs ad r lv x (.inl (.inr y))).symm kk) hs1 k
  | astore_n x =>
    obtain ⟨e0, hs1⟩ := ys_g1_ok hs
    subst e0
    clear hs
    exact ys_kstore (fun r v H locs ls rest hk hl hi kk => by
      obtain ⟨y, rfl⟩ := ys_kind2 hk
      exact lv_astore_n (lv' := ys_lvs ad r (ys_st1 lv x (.inr (some y)))) hexec hb hd rfl hl hi (ys_st1_lvs ad r lv x (.inr (some y))).symm kk) hs1 k
  | istore x =>
    obtain ⟨e0, hs1⟩ := ys_g1_ok hs
    subst e0
    clear hs
    exact ys_kstore (fun r v H locs ls rest hk hl hi kk => by
      obtain ⟨y, rfl⟩ := ys_kind0 hk
      exact lv_istore (lv' := ys_lvs ad r (ys_st1 lv x (.inl (.inl y)))) hexec hb hd hl hi (ys_st1_lvs ad r lv x (.inl (.inl y))).symm kk) hs1 k
  | lstore x =>
    obtain ⟨e0, hs1⟩ := ys_g1_ok hs
    subst e0
    clear hs
    exact ys_kstore (fun r v H locs ls rest hk hl hi kk => by
      obtain ⟨y, rfl⟩ := ys_kind1 hk
      exact lv_lstore (lv' := ys_lvs ad r (ys_st2 lv x (.inl (.inr y)))) hexec hb hd hl hi (ys_st2_lvs ad r lv x (.inl (.inr y))).symm kk) hs1 k
  | astore x =>
    obtain ⟨e0, hs1⟩ := ys_g1_ok hs
    subst e0
    clear hs
    exact ys_kstore (fun r v H locs ls rest hk hl hi kk => by
      obtain ⟨y, rfl⟩ := ys_kind2 hk
      exact lv_astore (lv' := ys_lvs ad r (ys_st1 lv x (.inr (some y)))) hexec hb hd hl hi (ys_st1_lvs ad r lv x (.inr (some y))).symm kk) hs1 k
  | iinc x z =>
    obtain ⟨e0, hs1⟩ := ys_g1_ok hs
    subst e0
    clear hs
    exact ys_kinc hexec hb hd hs1 k
  | iadd =>
    obtain ⟨e0, hs1⟩ := ys_g1_ok hs
    subst e0
    clear hs
    exact ys_kb32 ys_fadd32 (fun X Y H locs ls rest hok kk => lv_iadd hexec hb hd kk) hs1 k
  | isub =>
    obtain ⟨e0, hs1⟩ := ys_g1_ok hs
    subst e0
    clear hs
    exact ys_kb32 ys_fsub32 (fun X Y H locs ls rest hok kk => lv_isub hexec hb hd kk) hs1 k
  | imul =>
    obtain ⟨e0, hs1⟩ := ys_g1_ok hs
    subst e0
    clear hs
    exact ys_kb32 ys_fmul32 (fun X Y H locs ls rest hok kk => lv_imul hexec hb hd kk) hs1 k
  | iand =>
    obtain ⟨e0, hs1⟩ := ys_g1_ok hs
    subst e0
    clear hs
    exact ys_kb32 (ys_cfo32_ok ys_fand32) (fun X Y H locs ls rest hok kk => lv_iand hexec hb hd kk) hs1 k
  | ior =>
    obtain ⟨e0, hs1⟩ := ys_g1_ok hs
    subst e0
    clear hs
    exact ys_kb32 (ys_cfo32_ok ys_or32) (fun X Y H locs ls rest hok kk => lv_ior hexec hb hd kk) hs1 k
  | ixor =>
    obtain ⟨e0, hs1⟩ := ys_g1_ok hs
    subst e0
    clear hs
    exact ys_kb32 (ys_cfo32_ok ys_fxor32) (fun X Y H locs ls rest hok kk => lv_ixor hexec hb hd kk) hs1 k
  | ishl =>
    obtain ⟨e0, hs1⟩ := ys_g1_ok hs
    subst e0
    clear hs
    exact ys_kb32 (ys_cfo32_ok ys_fshl32) (fun X Y H locs ls rest hok kk => lv_ishl hexec hb hd kk) hs1 k
  | ishr =>
    obtain ⟨e0, hs1⟩ := ys_g1_ok hs
    subst e0
    clear hs
    exact ys_kb32 (ys_cfo32_ok ys_fshr32) (fun X Y H locs ls rest hok kk => lv_ishr hexec hb hd kk) hs1 k
  | iushr =>
    obtain ⟨e0, hs1⟩ := ys_g1_ok hs
    subst e0
    clear hs
    exact ys_kb32 (ys_cfo32_ok (ys_fany32 _)) (fun X Y H locs ls rest hok kk => lv_iushr hexec hb hd rfl kk) hs1 k
  | idiv =>
    obtain ⟨e0, hs1⟩ := ys_g1_ok hs
    subst e0
    clear hs
    exact ys_kqs ys_fdiv32 (fun X Y H locs ls rest hok kk => lv_idiv hexec hb hd hok kk) hs1 k
  | irem =>
    obtain ⟨e0, hs1⟩ := ys_g1_ok hs
    subst e0
    clear hs
    exact ys_kqs ys_frem32 (fun X Y H locs ls rest hok kk => lv_irem hexec hb hd hok kk) hs1 k
  | ladd =>
    obtain ⟨e0, hs1⟩ := ys_g1_ok hs
    subst e0
    clear hs
    exact ys_kb64 ys_fadd64 (fun X Y H locs ls rest hok kk => lv_ladd hexec hb hd kk) hs1 k
  | lsub =>
    obtain ⟨e0, hs1⟩ := ys_g1_ok hs
    subst e0
    clear hs
    exact ys_kb64 ys_fsub64 (fun X Y H locs ls rest hok kk => lv_lsub hexec hb hd kk) hs1 k
  | lmul =>
    obtain ⟨e0, hs1⟩ := ys_g1_ok hs
    subst e0
    clear hs
    exact ys_kb64 ys_fmul64 (fun X Y H locs ls rest hok kk => lv_lmul hexec hb hd kk) hs1 k
  | land =>
    obtain ⟨e0, hs1⟩ := ys_g1_ok hs
    subst e0
    clear hs
    exact ys_kb64 (ys_cfo64_ok ys_fand64) (fun X Y H locs ls rest hok kk => lv_land hexec hb hd kk) hs1 k
  | lor =>
    obtain ⟨e0, hs1⟩ := ys_g1_ok hs
    subst e0
    clear hs
    exact ys_kb64 (ys_cfo64_ok (ys_fany64 _)) (fun X Y H locs ls rest hok kk => lv_lor hexec hb hd kk) hs1 k
  | lxor =>
    obtain ⟨e0, hs1⟩ := ys_g1_ok hs
    subst e0
    clear hs
    exact ys_kb64 (ys_cfo64_ok (ys_fany64 _)) (fun X Y H locs ls rest hok kk => lv_lxor hexec hb hd kk) hs1 k
  | ldiv =>
    obtain ⟨e0, hs1⟩ := ys_g1_ok hs
    subst e0
    clear hs
    exact ys_kb64 ys_fdiv64 (fun X Y H locs ls rest hok kk => lv_ldiv hexec hb hd hok kk) hs1 k
  | lrem =>
    obtain ⟨e0, hs1⟩ := ys_g1_ok hs
    subst e0
    clear hs
    exact ys_kb64 ys_frem64 (fun X Y H locs ls rest hok kk => lv_lrem hexec hb hd hok kk) hs1 k
  | lshl =>
    obtain ⟨e0, hs1⟩ := ys_g1_ok hs
    subst e0
    clear hs
    exact ys_kbLI (ys_cfoLI_ok ys_fshl64) (fun X Y H locs ls rest kk => lv_lshl hexec hb hd rfl kk) hs1 k
  | lshr =>
    obtain ⟨e0, hs1⟩ := ys_g1_ok hs
    subst e0
    clear hs
    exact ys_kbLI (ys_cfoLI_ok (ys_fanyLI _)) (fun X Y H locs ls rest kk => lv_lshr hexec hb hd rfl kk) hs1 k
  | lushr =>
    obtain ⟨e0, hs1⟩ := ys_g1_ok hs
    subst e0
    clear hs
    exact ys_kbLI (ys_cfoLI_ok (ys_fanyLI _)) (fun X Y H locs ls rest kk => lv_lushr hexec hb hd rfl kk) hs1 k
  | ineg =>
    obtain ⟨e0, hs1⟩ := ys_g1_ok hs
    subst e0
    clear hs
    exact ys_ku32 (fun r b x h1 h2 h3 => ys_fneg32 h1 h2 h3) (fun X H locs ls rest kk => lv_ineg hexec hb hd kk) hs1 k
  | i2b =>
    obtain ⟨e0, hs1⟩ := ys_g1_ok hs
    subst e0
    clear hs
    exact ys_ku32 (fun r b x h1 h2 h3 => ys_fi2b h1 h2 h3) (fun X H locs ls rest kk => lv_i2b hexec hb hd rfl kk) hs1 k
  | i2s =>
    obtain ⟨e0, hs1⟩ := ys_g1_ok hs
    subst e0
    clear hs
    exact ys_ku32 (fun r b x h1 h2 h3 => ys_fi2s h1 h2 h3) (fun X H locs ls rest kk => lv_i2s hexec hb hd rfl kk) hs1 k
  | lneg =>
    obtain ⟨e0, hs1⟩ := ys_g1_ok hs
    subst e0
    clear hs
    exact ys_ku64 (fun r b x h1 h2 h3 => ys_fneg64 h1 h2 h3) (fun X H locs ls rest kk => lv_lneg hexec hb hd kk) hs1 k
  | i2l =>
    obtain ⟨e0, hs1⟩ := ys_g1_ok hs
    subst e0
    clear hs
    exact ys_ki2l hexec hb hd hs1 k
  | l2i =>
    obtain ⟨e0, hs1⟩ := ys_g1_ok hs
    subst e0
    clear hs
    exact ys_kl2i hexec hb hd hs1 k
  | lcmp =>
    obtain ⟨e0, hs1⟩ := ys_g1_ok hs
    subst e0
    clear hs
    exact ys_klcmp hexec hb hd (fun i hi => hnx _ _ hi) hs1 k
  | if_icmp cd off =>
    obtain ⟨e0, hs1⟩ := ys_g1_ok hs
    subst e0
    clear hs
    exact ys_kcmp hexec hb hd hs1 k
  | ifCond cd off =>
    obtain ⟨e0, hs1⟩ := ys_g1_ok hs
    subst e0
    clear hs
    exact ys_kif hexec hb hd hs1 k
  | goto off =>
    obtain ⟨e0, hs1⟩ := ys_g1_ok hs
    subst e0
    clear hs
    exact ys_kgoto hexec hb hd hs1 k
  | tableswitch dflt lo hi offs => exact ys_ktab hexec hb hd hs k
  | lookupswitch dflt ps => exact ys_klook hexec hb hd hs k
  | dup =>
    obtain ⟨e0, hs1⟩ := ys_g1_ok hs
    subst e0
    clear hs
    exact ys_kdup hexec hb hd hs1 k
  | dup2 =>
    obtain ⟨e0, hs1⟩ := ys_g1_ok hs
    subst e0
    clear hs
    exact ys_kdup2 hexec hb hd hs1 k
  | pop =>
    obtain ⟨e0, hs1⟩ := ys_g1_ok hs
    subst e0
    clear hs
    exact ys_kpop hexec hb hd hs1 k
  | pop2 =>
    obtain ⟨e0, hs1⟩ := ys_g1_ok hs
    subst e0
    clear hs
    exact ys_kpop2 hexec hb hd hs1 k
  | getfield x =>
    obtain ⟨e0, hs1⟩ := ys_g1_ok hs
    subst e0
    clear hs
    exact ys_kget hexec hb hts hown hK hfl hd hs1 k
  | putfield x =>
    obtain ⟨e0, hs1⟩ := ys_g1_ok hs
    subst e0
    clear hs
    exact ys_kput hexec hb hts hown hK hfl hd hs1 k
  | iaload =>
    obtain ⟨e0, hs1⟩ := ys_g1_ok hs
    subst e0
    clear hs
    exact ys_kiald hexec hb hK t0 hd hs1 k
  | laload =>
    obtain ⟨e0, hs1⟩ := ys_g1_ok hs
    subst e0
    clear hs
    exact ys_klald hexec hb hK t1 hd hs1 k
  | baload =>
    obtain ⟨e0, hs1⟩ := ys_g1_ok hs
    subst e0
    clear hs
    rcases ys_or_ok hs1 with hs1 | hs1
    · exact ys_kbald hexec hb hK t2 hd hs1 k
    · exact ys_kzald hexec hb hK t3 hd hs1 k
  | aaload =>
    obtain ⟨e0, hs1⟩ := ys_g1_ok hs
    subst e0
    clear hs
    exact ys_kaald hexec hb hK t5 hd hs1 k
  | iastore =>
    obtain ⟨e0, hs1⟩ := ys_g1_ok hs
    subst e0
    clear hs
    exact ys_kiast hexec hb hK t0 hd hs1 k
  | lastore =>
    obtain ⟨e0, hs1⟩ := ys_g1_ok hs
    subst e0
    clear hs
    exact ys_klast hexec hb hK t1 hd hs1 k
  | bastore =>
    obtain ⟨e0, hs1⟩ := ys_g1_ok hs
    subst e0
    clear hs
    rcases ys_or_ok hs1 with hs1 | hs1
    · exact ys_kbast hexec hb hK t2 hd hs1 k
    · exact ys_kzast hexec hb hK t3 hd hs1 k
  | arraylength =>
    obtain ⟨e0, hs1⟩ := ys_g1_ok hs
    subst e0
    clear hs
    exact ys_kalen hexec hb hK t4 hd hs1 k
  | invokevirtual x =>
    obtain ⟨e0, hs1⟩ := ys_g1_ok hs
    subst e0
    clear hs
    exact ys_kinv (st := false) S hK hA0 hfr hlo hkk hd k calls hcalls hs1
  | invokestatic x =>
    have hs : (if 100000 ≤ x then none else if cps.contains x && decide (1 ≤ K.1.2.1) then ys_g1 n 3 (ys_hcopy K.1.2.2 sh K.2.2.2 pc b fds lv sv) else if cps.contains (100000 + x) then ys_g1 n 3 (ys_hmm true K.1.2.1 K.1.2.2 pc b fds lv sv) else if cps.contains (200000 + x) then ys_g1 n 3 (ys_hmm false K.1.2.1 K.1.2.2 pc b fds lv sv) else ys_g1 n 3 (ys_hinv K.1.2.1 K.1.2.2 K.2.2.2 x true pc b fds lv sv calls)) = some succ := hs
    split at hs
    · cases hs
    rename_i hx5
    split at hs
    · rename_i hc
      rw [Bool.and_eq_true, decide_eq_true_eq] at hc
      obtain ⟨e0, hs1⟩ := ys_g1_ok hs
      subst e0
      have hw := hcps x (by simpa using hc.1)
      unfold ys_Cp at hw
      rw [show x / 100000 = 0 by omega] at hw
      obtain ⟨w1, w2, w3, w4⟩ := hw
      exact ys_kcopy hexec hb hml hts hown hK t0 t1 (Nat.le_trans hc.2 hfr) hlo w1 w2 w3 w4 hd hs1 k
    split at hs
    · rename_i hc
      obtain ⟨e0, hs1⟩ := ys_g1_ok hs
      subst e0
      have hw := hcps (100000 + x) (by simpa using hc)
      unfold ys_Cp at hw
      rw [show (100000 + x) / 100000 = 1 by omega, show 100000 + x - 100000 = x by omega] at hw
      exact ys_kmm (mx := true) hexec hb hml hts hown hfr hlo hkk hw hd hs1 k
    split at hs
    · rename_i hc
      obtain ⟨e0, hs1⟩ := ys_g1_ok hs
      subst e0
      have hw := hcps (200000 + x) (by simpa using hc)
      unfold ys_Cp at hw
      rw [show (200000 + x) / 100000 = 2 by omega, show 200000 + x - 200000 = x by omega] at hw
      exact ys_kmm (mx := false) hexec hb hml hts hown hfr hlo hkk hw hd hs1 k
    obtain ⟨e0, hs1⟩ := ys_g1_ok hs
    subst e0
    exact ys_kinv (st := true) S hK hA0 hfr hlo hkk hd k calls hcalls hs1
  | ireturn => exact hret rfl
  | lreturn => exact hret rfl
  | return_ => exact hret rfl
  | _ => cases hs
set_option maxHeartbeats 4000000 in
theorem ys_stp_ok {{i : Instr}} {{n : Nat}} (S : CallFix p m c K.1.1.2.1 K.1.1.2.2.1 s args (ys_ws G K) own) (hr : meth.sig.returnType = K.1.1.2.2.2) (hlocks : meth.locks = false) (hK : va_K D cl tys s) (hty : ys_Ty tys cT sh) (hLk : ys_Lk own (ys_ws G K) cl fl ci cj cps) (hcalls : ∀ q ∈ calls, ys_Con l D cl ad cT sh tys G q.2 ∧ ys_CL own (ys_ws G K) cl sh G (if q.1.2 = true then .invokestatic q.1.1 else .invokevirtual q.1.1) q.2) (hnx : ∀ pc i, nx pc = some i → decode K.1.1.2.1 pc = .ok i) (hE : K.2.1.2.1.1.length ≤ E) (hrr : ∀ i, i < K.2.1.2.1.1.length → r0 i = rr i) (hd : decode K.1.1.2.1 pc = .ok (i, n))
    (hs : ys_stp sh fl ci cj calls cps K nx pc b fds lv sv i n = some succ)
    (k : ∀ q ∈ succ, ys_W p l e (ys_rm K) s m args below meth c (MQ below (ys_Post D cl ad cT sh tys K rr g0 s.heap.size) args s 0 0 (va_A (ys_wK ad cT sh K rr g0) s.heap.size)) 0 0 D cl ad cT sh (va_A (ys_wK ad cT sh K rr g0) s.heap.size) s.heap K.1.1.2.2.1 K.2.2.2 g0 r0 E q.1 q.2) :
    ys_W p l e (ys_rm K) s m args below meth c (MQ below (ys_Post D cl ad cT sh tys K rr g0 s.heap.size) args s 0 0 (va_A (ys_wK ad cT sh K rr g0) s.heap.size)) 0 0 D cl ad cT sh (va_A (ys_wK ad cT sh K rr g0) s.heap.size) s.heap K.1.1.2.2.1 K.2.2.2 g0 r0 E pc (b, fds, lv, sv) := by
  have hexec := S.1
  have hb := S.2.1
  refine ys_stp_gen S rfl rfl (Nat.le_refl _) (Nat.le_refl _) ⟨Nat.le_refl _, Nat.le_refl _⟩ (fun q h => Or.inr h) hK hty hLk hcalls hnx hd hs (fun hi => ?_) k
  clear k
  cases i with
  | ireturn =>
    obtain ⟨e0, hs1⟩ := ys_g1_ok hs
    subst e0
    clear hs
    unfold ys_iret at hs1
    split at hs1
    · rename_i x
      split at hs1
      · rename_i hc
        rw [Bool.and_eq_true] at hc
        intro r H locs ls st h
        have hq := ys_kret (aa := args) hE hrr hK h hc.2
        have hst : st = [.int (Int32.ofInt (ys_ev r x))] := h.2.2.2.2.2
        have hf : ∀ q ∈ locs, va_A (ys_wK ad cT sh K rr g0) s.heap.size q.base := h.2.2.2.1.choose_spec.2.2.2.2.2
        rw [hst]
        rcases (Bool.or_eq_true _ _).mp hc.1 with h1 | h1
        · exact W.iret hexec hb (hr.trans (of_decide_eq_true h1)) hq hf hd hlocks
        · rw [Bool.and_eq_true, Bool.and_eq_true] at h1
          have g1 := ys_geb_le h.1.1 h1.2.1
          have g2 := ys_geb_le h.1.1 h1.2.2
          rw [ys_scale_ev] at g2
          refine W.zret (ty := .boolean) hexec hb (hr.trans (of_decide_eq_true h1.1)) ?_ hq hf hd hlocks
          show Value.int (Int32.ofInt (ys_ev r x) &&& 1) = Value.int (Int32.ofInt (ys_ev r x))
          rcases ys_01 g1 (show ys_ev r x ≤ 1 by omega) with q | q <;> rw [q] <;> rfl
      · cases hs1
    · cases hs1
  | lreturn =>
    obtain ⟨e0, hs1⟩ := ys_g1_ok hs
    subst e0
    clear hs
    unfold ys_lret at hs1
    split at hs1
    · rename_i x
      split at hs1
      · rename_i hc
        rw [Bool.and_eq_true] at hc
        intro r H locs ls st h
        have hq := ys_kret (aa := args) hE hrr hK h hc.2
        have hst : st = [.long (Int64.ofInt (ys_ev r x))] := h.2.2.2.2.2
        have hf : ∀ q ∈ locs, va_A (ys_wK ad cT sh K rr g0) s.heap.size q.base := h.2.2.2.1.choose_spec.2.2.2.2.2
        rw [hst]
        exact W.lret hexec hb (hr.trans (of_decide_eq_true hc.1)) hq hf hd hlocks
      · cases hs1
    · cases hs1
  | return_ =>
    obtain ⟨e0, hs1⟩ := ys_g1_ok hs
    subst e0
    clear hs
    unfold ys_vret at hs1
    split at hs1
    · split at hs1
      · rename_i hc
        rw [Bool.and_eq_true] at hc
        intro r H locs ls st h
        have hq := ys_kret (aa := args) hE hrr hK h hc.2
        have hst : st = [] := h.2.2.2.2.2
        have hf : ∀ q ∈ locs, va_A (ys_wK ad cT sh K rr g0) s.heap.size q.base := h.2.2.2.1.choose_spec.2.2.2.2.2
        rw [hst]
        exact W.vret hexec hb (hr.trans (of_decide_eq_true hc.1)) hq hf hd hlocks
      · cases hs1
    · cases hs1
  | _ => cases hi
end YSD
end
section
/-! a whole method, by its loops' heads -/
abbrev ys_T : Type := ys_E × List ys_L × ys_F × List (Nat × ys_V) × List ys_V × ys_L
def ys_sT (B : ys_B) (T : ys_T) : ys_S := ((B.1 ++ T.1, B.2 ++ T.2.1), T.2.2.1, T.2.2.2.1, T.2.2.2.2.1)
def ys_zl (lv : List (Nat × ys_V)) : List (Nat × ys_V) → Option (List (ys_V × ys_V))
  | [] => some []
  | q :: t => match lv.lookup q.1, ys_zl lv t with
    | some w, some x => some ((q.2, w) :: x)
    | _, _ => none
def ys_cck (E : Nat) (mo : Option ys_L) (b : ys_B) (fds : ys_F) (lv : List (Nat × ys_V)) (sv : List ys_V) (T : ys_T) : Bool := match ys_zf T.2.2.1.1 fds.1, ys_zl lv T.2.2.2.1 with
  | some fp, some lp => if T.2.2.2.2.1.length = sv.length then (match ys_mat b fds.2 E T.1 T.2.1 T.2.2.1.2 (lp ++ (T.2.2.2.2.1.zip sv ++ fp)) with
    | some t => (match mo with
      | none => true
      | some m0 => ys_ge b.1 b.2 2 (ys_add (ys_sub m0 (ys_put E t T.2.2.2.2.2)) ([], -1)))
    | none => false) else false
  | _, _ => false
def ys_bV (n : Nat) (v : ys_V) : Bool := match v with
  | .inl (.inl x) => ys_bel n x
  | .inl (.inr x) => ys_bel n x
  | .inr _ => true
def ys_scb (S : ys_S) : Bool := S.1.2.all (ys_bel S.1.1.length) && (S.2.1.1.all (fun w => w.all (ys_bV S.1.1.length)) && (S.2.2.1.all (fun q => ys_bV S.1.1.length q.2) && S.2.2.2.all (ys_bV S.1.1.length)))
theorem ys_bV_ok {n : Nat} {v : ys_V} (h : ys_bV n v = true) : ys_stV n v := by
  rcases v with (x | x) | x
  · exact ys_stb_bel h
  · exact ys_stb_bel h
  · trivial
theorem ys_scb_ok {S : ys_S} (h : ys_scb S = true) : ys_sc S := by
  unfold ys_scb at h
  rw [Bool.and_eq_true, Bool.and_eq_true, Bool.and_eq_true] at h
  obtain ⟨h1, h2, h3, h4⟩ := h
  refine ⟨fun f hf => ys_stb_bel (List.all_eq_true.mp h1 f hf), fun w hw v hv => ys_bV_ok (List.all_eq_true.mp (List.all_eq_true.mp h2 w hw) v hv), fun q hq => ys_bV_ok (List.all_eq_true.mp h3 q hq), fun v hv => ys_bV_ok (List.all_eq_true.mp h4 v hv)⟩
theorem ys_zl_ok {ad : Nat → Nat} {r r' : Nat → Int} {ls : Array Slot} {nL : Nat} {lv : List (Nat × ys_V)} (h : lv_has ls nL (ys_lvs ad r lv)) : ∀ (x : List (Nat × ys_V)) (y : List (ys_V × ys_V)), ys_zl lv x = some y → (∀ q ∈ y, ys_den ad r' q.1 = ys_den ad r q.2) → ∀ q ∈ ys_lvs ad r' x, ls[q.1]? = some (.val q.2)
  | [], y, hz, hd, q, hq => by cases hq
  | (i, v) :: t, y, hz, hd, q, hq => by
    unfold ys_zl at hz
    split at hz
    · rename_i w z hw ht
      cases Option.some.inj hz
      rcases List.mem_cons.mp hq with e1 | e1
      · rw [e1]
        show ls[i]? = some (.val (ys_den ad r' v))
        rw [hd (v, w) List.mem_cons_self]
        exact h.2.2 (i, ys_den ad r w) (List.mem_map.mpr ⟨(i, w), ys_find_mem lv i w hw, rfl⟩)
      · exact ys_zl_ok h t z ht (fun q hq => hd q (List.mem_cons_of_mem _ hq)) q e1
    · cases hz
def ys_run (sh : List ys_C) (fl : ys_FL) (ci cj : List (Nat × Int)) (calls : ys_CA) (cps : List Nat) (K : ys_K) (nx : Nat → Option (Instr × Nat)) (cuts : List (Nat × ys_T)) (mo : Option ys_L) : Nat → Bool → Nat → ys_S → Bool
  | 0, _, _, _ => false
  | n + 1, f, pc, S => if !f && cuts.any (fun q => q.1 == pc) then cuts.any (fun q => q.1 == pc && ys_cck K.2.1.2.1.1.length mo S.1 S.2.1 S.2.2.1 S.2.2.2 q.2) else (match nx pc with
    | none => false
    | some i => (match ys_stp sh fl ci cj calls cps K nx pc S.1 S.2.1 S.2.2.1 S.2.2.2 i.1 i.2 with
      | none => false
      | some x => x.all (fun q => ys_run sh fl ci cj calls cps K nx cuts mo n false q.1 q.2)))
section YSN
variable {p : Program} {l : Launch} {e : Env} {R : Room} {s : State} {m : MethodId} {args : Array Value} {below : List Frame} {meth : Method} {c : Code} {Q : State → Prop} {kc kz : Nat} {D : va_G} {cl : List vw_C} {ad : Nat → Nat} {cT : Nat → ClassId} {sh : List ys_C} {A : Nat → Prop} {H0 : Heap} {nL : Nat} {mods : List Nat} {g0 : Nat → Nat → Int} {r0 : Nat → Int} {E : Nat} {pc : Nat} {b : ys_B} {fds : ys_F} {lv : List (Nat × ys_V)} {sv : List ys_V} {succ : List (Nat × ys_S)} {cc : ByteArray} {own : String} {Ts : List Cond} {tys : List (ClassId × FieldType)}
variable {G : List Cond} {K : ys_K} {fl : ys_FL} {ci cj : List (Nat × Int)} {calls : ys_CA} {cps : List Nat} {nx : Nat → Option (Instr × Nat)} {rr : Nat → Int} {cuts : List (Nat × ys_T)} {mo : Option ys_L}
theorem ys_cck_ok {T : ys_T} {r : Nat → Int} {H : Heap} {locs : List Loc} {ls : Array Slot} {st : List Value} (hE : K.2.1.2.1.1.length ≤ E) (hrr : ∀ i, i < K.2.1.2.1.1.length → r0 i = rr i) (hB : ys_okB rr K.2.1.2.1) (hBs : ys_scB K.2.1.2.1) (hT : ys_scb (ys_sT K.2.1.2.1 T) = true) (h : ys_rep D cl ad cT sh (va_A (ys_wK ad cT sh K rr g0) s.heap.size) s.heap K.1.1.2.2.1 K.2.2.2 g0 r0 r E (b, fds, lv, sv) H locs ls st) (hc : ys_cck K.2.1.2.1.1.length mo b fds lv sv T = true) :
    ∃ r2 : Nat → Int, ys_rep D cl ad cT sh (va_A (ys_wK ad cT sh K rr g0) s.heap.size) s.heap K.1.1.2.2.1 K.2.2.2 g0 rr r2 K.2.1.2.1.1.length (ys_sT K.2.1.2.1 T) H locs ls st ∧ ∀ m0, mo = some m0 → ys_ev r2 T.2.2.2.2.2 < ys_ev r m0 := by
  unfold ys_cck at hc
  split at hc
  · rename_i fp lp hfp hlp
    split at hc
    · rename_i hsl
      split at hc
      · rename_i t hm
        obtain ⟨h1, h2, ⟨hEl, hr⟩, ⟨g, hg, hP, hD, hS⟩, hlv, hst⟩ := h
        obtain ⟨-, e2, e3, e4, e5, e6, e7⟩ := ys_mat_ok (ad := ad) h1 hm
        have hlow : ∀ i, i < K.2.1.2.1.1.length → ys_val r K.2.1.2.1.1.length t i = rr i := fun i hi => by rw [ys_val_low hi, hr i (Nat.lt_of_lt_of_le hi hE), hrr i hi]
        have ew : ys_wld ad cT sh (ys_val r K.2.1.2.1.1.length t) g T.2.2.1.1 = ys_wld ad cT sh r g fds.1 := ys_wld_eq (ys_zf_ok _ _ _ hfp (fun q hq => e5 q (List.mem_append_right _ (List.mem_append_right _ hq))))
        refine ⟨ys_val r K.2.1.2.1.1.length t, ⟨⟨fun i q hi => ?_, fun f hf => ?_⟩, ys_scb_ok hT, ⟨?_, hlow⟩, ⟨g, ⟨fun kk z hz => ?_, hg.2⟩, ?_, ?_, hS⟩, ⟨hlv.1, hlv.2.1, ?_⟩, ?_⟩, fun m0 hm0 => ?_⟩
        · have hi : (K.2.1.2.1.1 ++ T.1)[i]? = some q := hi
          by_cases hl : i < K.2.1.2.1.1.length
          · rw [List.getElem?_append_left hl] at hi
            rw [hlow i hl]
            exact hB.1 i q hi
          · rw [List.getElem?_append_right (by omega)] at hi
            have := e3 _ q hi
            rw [show K.2.1.2.1.1.length + (i - K.2.1.2.1.1.length) = i by omega] at this
            exact this
        · rcases List.mem_append.mp hf with q | q
          · rw [hBs f q _ rr hlow]
            exact hB.2 f q
          · exact e4 f q
        · show K.2.1.2.1.1.length ≤ (K.2.1.2.1.1 ++ T.1).length
          rw [List.length_append]
          omega
        · obtain ⟨a0, g1, g2⟩ := e7 kk z hz
          exact ys_rle_ok g2 (hg.1 kk a0 g1)
        · show va_P D cl (ys_wld ad cT sh (ys_val r K.2.1.2.1.1.length t) g T.2.2.1.1) H
          rw [ew]
          exact hP
        · show va_D _ (ys_wld ad cT sh (ys_val r K.2.1.2.1.1.length t) g T.2.2.1.1)
          rw [ew]
          exact hD
        · exact ys_zl_ok hlv _ _ hlp (fun q hq => e5 q (List.mem_append_left _ hq))
        · rw [hst]
          exact (ys_zip_map _ _ hsl (fun q hq => e5 q (List.mem_append_right _ (List.mem_append_left _ hq)))).symm
        · subst hm0
          have := ys_ge_le h1.1 h1.2 _ _ hc
          rw [ys_m1, ys_sub_ev, ys_put_ev] at this
          omega
      · cases hc
    · cases hc
  · cases hc
theorem ys_run_ok (S : CallFix p m c K.1.1.2.1 K.1.1.2.2.1 s args (ys_ws G K) own) (hr : meth.sig.returnType = K.1.1.2.2.2) (hlocks : meth.locks = false) (hK : va_K D cl tys s) (hty : ys_Ty tys cT sh) (hLk : ys_Lk own (ys_ws G K) cl fl ci cj cps) (hcalls : ∀ q ∈ calls, ys_Con l D cl ad cT sh tys G q.2 ∧ ys_CL own (ys_ws G K) cl sh G (if q.1.2 = true then .invokestatic q.1.1 else .invokevirtual q.1.1) q.2) (hnx : ∀ pc i, nx pc = some i → decode K.1.1.2.1 pc = .ok i) (hE : K.2.1.2.1.1.length ≤ E) (hrr : ∀ i, i < K.2.1.2.1.1.length → r0 i = rr i) (hB : ys_okB rr K.2.1.2.1) (hBs : ys_scB K.2.1.2.1) (hT : ∀ q ∈ cuts, ys_scb (ys_sT K.2.1.2.1 q.2) = true) (hmo : ∀ m0, mo = some m0 → ys_stb E m0)
    (hcut : ∀ q ∈ cuts, ∀ (r2 : Nat → Int) (H : Heap) (locs : List Loc) (ls : Array Slot) (st : List Value), ys_rep D cl ad cT sh (va_A (ys_wK ad cT sh K rr g0) s.heap.size) s.heap K.1.1.2.2.1 K.2.2.2 g0 rr r2 K.2.1.2.1.1.length (ys_sT K.2.1.2.1 q.2) H locs ls st → (∀ m0, mo = some m0 → ys_ev r2 q.2.2.2.2.2.2 < ys_ev r0 m0) → W p l e (ys_rm K) s m args below meth c H locs 0 0 (MQ below (ys_Post D cl ad cT sh tys K rr g0 s.heap.size) args s 0 0 (va_A (ys_wK ad cT sh K rr g0) s.heap.size)) (F0 m q.1 ls st)) :
    ∀ (n : Nat) (f : Bool) (pc : Nat) (x : ys_S), ys_run sh fl ci cj calls cps K nx cuts mo n f pc x = true → ys_W p l e (ys_rm K) s m args below meth c (MQ below (ys_Post D cl ad cT sh tys K rr g0 s.heap.size) args s 0 0 (va_A (ys_wK ad cT sh K rr g0) s.heap.size)) 0 0 D cl ad cT sh (va_A (ys_wK ad cT sh K rr g0) s.heap.size) s.heap K.1.1.2.2.1 K.2.2.2 g0 r0 E pc x
  | 0, f, pc, x, h => by cases h
  | n + 1, f, pc, x, h => by
    unfold ys_run at h
    split at h
    · obtain ⟨q, hq, h1⟩ := List.any_eq_true.mp h
      rw [Bool.and_eq_true, beq_iff_eq] at h1
      intro r H locs ls st hrep
      obtain ⟨r2, h2, h3⟩ := ys_cck_ok hE hrr hB hBs (hT q hq) (b := x.1) (fds := x.2.1) (lv := x.2.2.1) (sv := x.2.2.2) hrep h1.2
      have h4 := hcut q hq r2 H locs ls st h2 (fun m0 hm0 => by
        have := h3 m0 hm0
        rw [hmo m0 hm0 r r0 hrep.2.2.1.2] at this
        exact this)
      rw [h1.1] at h4
      exact h4
    · split at h
      · cases h
      · rename_i i hi
        split at h
        · cases h
        · rename_i y hy
          exact ys_stp_ok (b := x.1) (fds := x.2.1) (lv := x.2.2.1) (sv := x.2.2.2) S hr hlocks hK hty hLk hcalls hnx hE hrr (hnx pc i hi) hy (fun q hq => ys_run_ok S hr hlocks hK hty hLk hcalls hnx hE hrr hB hBs hT hmo hcut n false q.1 q.2 (List.all_eq_true.mp h q hq))
end YSN
def ys_args : Nat → List ys_V → List (Nat × ys_V)
  | _, [] => []
  | i, v :: t => (i, v) :: ys_args (if ys_cat v = 2 then i + 2 else i + 1) t
theorem ys_args_lvs (ad : Nat → Nat) (r : Nat → Int) : ∀ (x : List ys_V) (i : Nat), ys_lvs ad r (ys_args i x) = lv_args i (x.map (ys_den ad r))
  | [], i => rfl
  | v :: t, i => by
    show (i, ys_den ad r v) :: ys_lvs ad r (ys_args (if ys_cat v = 2 then i + 2 else i + 1) t) = (i, ys_den ad r v) :: lv_args (if (ys_den ad r v).category = 2 then i + 2 else i + 1) (t.map (ys_den ad r))
    rw [ys_cat_den, ys_args_lvs ad r t]
theorem ys_sl_len (ad : Nat → Nat) (r : Nat → Int) : ∀ (x : List ys_V), (lg_sl (x.map (ys_den ad r))).length = (x.map ys_cat).sum
  | [] => rfl
  | v :: t => by
    have ih := ys_sl_len ad r t
    unfold lg_sl at ih ⊢
    rw [List.map_cons, List.flatMap_cons, List.length_append, ih, List.map_cons, List.sum_cons, ys_cat_den]
    congr 1
    rcases v with (y | y) | y
    · rfl
    · rfl
    · rfl
def ys_S0 (K : ys_K) : ys_S := (K.2.1.2.1, K.2.1.2.2, ys_args 0 K.2.1.1, [])
abbrev ys_Q : Type := List (Nat × (Instr × Nat)) × (ys_FL × List (Nat × Int) × List (Nat × Int) × List Nat) × List (Nat × ys_T)
def ys_chk (sh : List ys_C) (calls : ys_CA) (K : ys_K) (Z : ys_Q) (n : Nat) : Bool := ys_scb (ys_S0 K) && (decide ((K.2.1.1.map ys_cat).sum ≤ K.1.1.2.2.1) && (ys_run sh Z.2.1.1 Z.2.1.2.1 Z.2.1.2.2.1 calls Z.2.1.2.2.2 K (fun pc => Z.1.lookup pc) Z.2.2 none n true 0 (ys_S0 K) && Z.2.2.all (fun q => ys_scb (ys_sT K.2.1.2.1 q.2) && (ys_geb (K.2.1.2.1.1 ++ q.2.1) q.2.2.2.2.2.2 0 && (ys_bel (K.2.1.2.1.1 ++ q.2.1).length q.2.2.2.2.2.2 && (match ys_ass (K.2.1.2.1.1 ++ q.2.1, K.2.1.2.1.2 ++ q.2.2.1) q.2.2.1 with
  | some b => ys_run sh Z.2.1.1 Z.2.1.2.1 Z.2.1.2.2.1 calls Z.2.1.2.2.2 K (fun pc => Z.1.lookup pc) Z.2.2 (some q.2.2.2.2.2.2) n true q.1 (b, (ys_sT K.2.1.2.1 q.2).2)
  | none => true))))))
theorem ys_lk3 {α : Type} : ∀ (x : List (Nat × α)) (i : Nat) (v : α), x.lookup i = some v → (i, v) ∈ x
  | [], i, v, h => by cases h
  | (j, w) :: t, i, v, h => by
    unfold List.lookup at h
    cases hc : i == j with
    | true =>
      rw [hc] at h
      cases h
      rw [beq_iff_eq] at hc
      rw [hc]
      exact List.mem_cons_self
    | false =>
      rw [hc] at h
      exact List.mem_cons_of_mem _ (ys_lk3 t i v h)
theorem ys_method {l : Launch} {D : va_G} {cl : List vw_C} {ad : Nat → Nat} {cT : Nat → ClassId} {sh : List ys_C} {tys : List (ClassId × FieldType)} {G : List Cond} {K : ys_K} {calls : ys_CA} {Z : ys_Q} (n : Nat) (hy : plainName K.1.1.1.cls = true) (hcode : ∀ q ∈ Z.1, decode K.1.1.2.1 q.1 = .ok q.2) (hty : ys_Ty tys cT sh) (hLk : ys_Lk K.1.1.1.cls (ys_ws G K) cl Z.2.1.1 Z.2.1.2.1 Z.2.1.2.2.1 Z.2.1.2.2.2) (hcalls : ∀ q ∈ calls, ys_Con l D cl ad cT sh tys G q.2 ∧ ys_CL K.1.1.1.cls (ys_ws G K) cl sh G (if q.1.2 = true then .invokestatic q.1.1 else .invokevirtual q.1.1) q.2) (hchk : ys_chk sh calls K Z n = true) : ys_Con l D cl ad cT sh tys G K := by
  intro rr g0 sz hB har
  unfold ys_chk at hchk
  rw [Bool.and_eq_true, Bool.and_eq_true, Bool.and_eq_true, decide_eq_true_eq] at hchk
  obtain ⟨c1, c2, c3, c4⟩ := hchk
  refine Met.ofW (cc := K.1.1.2.1) (maxL := K.1.1.2.2.1) (ret := K.1.1.2.2.2) hy rfl ?_
  intro p e s m args below meth c s₁ Bd hml hv
  obtain ⟨hargs, hsz, hP, hK, hD0⟩ := hv
  subst hargs
  subst hsz
  have hlocks := Bd.notSynchronized
  have S : CallFix p m c K.1.1.2.1 K.1.1.2.2.1 s (K.2.1.1.map (ys_den ad rr)).toArray (ys_ws G K) K.1.1.1.cls := ⟨Bd.exec, Bd.bytes, hml, findClass_of_methodNamed Bd.named, atoms_spec (ws := ys_ws G K) Bd.pre⟩
  have hsc0 := ys_scb_ok c1
  have hnx : ∀ pc i, (fun pc => Z.1.lookup pc) pc = some i → decode K.1.1.2.1 pc = .ok i := fun pc i hi => hcode (pc, i) (ys_lk3 _ _ _ hi)
  have hT : ∀ q ∈ Z.2.2, ys_scb (ys_sT K.2.1.2.1 q.2) = true := fun q hq => by
    have := List.all_eq_true.mp c4 q hq
    rw [Bool.and_eq_true] at this
    exact this.1
  have claim : ∀ (N : Nat), ∀ q ∈ Z.2.2, ∀ (r2 : Nat → Int) (H : Heap) (locs : List Loc) (ls : Array Slot) (st : List Value), ys_rep D cl ad cT sh (va_A (ys_wK ad cT sh K rr g0) s.heap.size) s.heap K.1.1.2.2.1 K.2.2.2 g0 rr r2 K.2.1.2.1.1.length (ys_sT K.2.1.2.1 q.2) H locs ls st → ys_ev r2 q.2.2.2.2.2.2 < (N : Int) → W p l e (ys_rm K) s m (K.2.1.1.map (ys_den ad rr)).toArray below meth c H locs 0 0 (MQ below (ys_Post D cl ad cT sh tys K rr g0 s.heap.size) (K.2.1.1.map (ys_den ad rr)).toArray s 0 0 (va_A (ys_wK ad cT sh K rr g0) s.heap.size)) (F0 m q.1 ls st) := by
    intro N
    induction N with
    | zero =>
      intro q hq r2 H locs ls st hrep hlt
      have := List.all_eq_true.mp c4 q hq
      rw [Bool.and_eq_true, Bool.and_eq_true] at this
      have h0 := ys_geb_le hrep.1.1 this.2.1
      omega
    | succ N ih =>
      intro q hq r2 H locs ls st hrep hlt
      have hc := List.all_eq_true.mp c4 q hq
      rw [Bool.and_eq_true, Bool.and_eq_true, Bool.and_eq_true] at hc
      have hEl : K.2.1.2.1.1.length ≤ (K.2.1.2.1.1 ++ q.2.1).length := by
        rw [List.length_append]
        omega
      have hrun := ys_run_ok (r0 := r2) (E := (K.2.1.2.1.1 ++ q.2.1).length) (rr := rr) (g0 := g0) S Bd.returns hlocks hK hty hLk hcalls hnx hEl (fun i hi => hrep.2.2.1.2 i hi) hB hsc0.1 hT (mo := some q.2.2.2.2.2.2) (fun m0 hm0 => by
        cases hm0
        exact ys_stb_bel hc.2.2.1) (fun q' hq' r3 H' locs' ls' st' hrep' hlt' => ih q' hq' r3 H' locs' ls' st' hrep' (by
          have := hlt' _ rfl
          omega)) n true q.1
      have hfk : ys_fk r2 q.2.2.1 := fun f hf => hrep.1.2 f (List.mem_append_right _ hf)
      obtain ⟨b', eb, hb'⟩ := ys_ass_ok q.2.2.1 hrep.1 hfk
      have hl' := ys_ass_len q.2.2.1 eb
      have hcr := hc.2.2.2
      rw [show ys_ass (K.2.1.2.1.1 ++ q.2.1, K.2.1.2.1.2 ++ q.2.2.1) q.2.2.1 = some b' from eb] at hcr
      have hrep' : ys_rep D cl ad cT sh (va_A (ys_wK ad cT sh K rr g0) s.heap.size) s.heap K.1.1.2.2.1 K.2.2.2 g0 r2 r2 (K.2.1.2.1.1 ++ q.2.1).length (ys_sT K.2.1.2.1 q.2) H locs ls st := ⟨hrep.1, hrep.2.1, ⟨Nat.le_refl _, fun _ _ => rfl⟩, hrep.2.2.2⟩
      exact hrun (b', (ys_sT K.2.1.2.1 q.2).2) hcr r2 H locs ls st (ys_rep_ext hrep' (fun _ _ => rfl) hb' (Nat.le_of_eq hl'.symm) (ys_ass_sc q.2.2.1 rfl hrep.2.1.1 (fun f hf => hrep.2.1.1 f (List.mem_append_right _ hf)) eb))
  have hrun := ys_run_ok (r0 := rr) (E := K.2.1.2.1.1.length) (rr := rr) (g0 := g0) S Bd.returns hlocks hK hty hLk hcalls hnx (Nat.le_refl _) (fun _ _ => rfl) hB hsc0.1 hT (mo := none) (fun m0 hm0 => by cases hm0) (fun q hq r2 H locs ls st hrep _ => claim ((ys_ev r2 q.2.2.2.2.2.2).toNat + 1) q hq r2 H locs ls st hrep (by omega)) n true 0 (ys_S0 K) c3
  rw [lg_entry_eq]
  have hl := lv_entry (K.2.1.1.map (ys_den ad rr)) (n := K.1.1.2.2.1) (by rw [ys_sl_len]; exact c2)
  refine hrun rr s.heap [] _ [] ⟨hB, hsc0, ⟨Nat.le_refl _, fun _ _ => rfl⟩, ⟨g0, ⟨har, fun _ _ => rfl⟩, hP, hD0.self, va_S.rf⟩, ?_, rfl⟩
  rw [show ys_lvs ad rr (ys_S0 K).2.2.1 = lv_args 0 (K.2.1.1.map (ys_den ad rr)) from ys_args_lvs ad rr K.2.1.1 0]
  exact hl
end
section
-- ===== PART A: goes FIRST, ahead of the names: the tables' words, and 'selects' of the private methods out of them =====
/-- a private method of a class that the tables say can be made, by its rows of tables_1 -/
def lw_okq (q : MethodName × Nat) : Prop := (q.1.cls ≠ "java/lang/invoke/MethodHandle" ∧ q.1.cls ≠ "java/lang/invoke/VarHandle") ∧ Cond.instantiable q.1.cls q.2 ∈ tables_1 ∧ Cond.privateMethod q.1 ∈ tables_1 ∧ Cond.instanceMethod q.1 ∈ tables_1
theorem lw_p0 : lw_okq (⟨"YesPlanes", "told", "(I)I"⟩, 15) := ⟨⟨by decide +kernel, by decide +kernel⟩, List.mem_of_getElem? (i := 20) (by decide +kernel), List.mem_of_getElem? (i := 465) (by decide +kernel), List.mem_of_getElem? (i := 466) (by decide +kernel)⟩
theorem lw_p1 : lw_okq (⟨"YesPlanes$Sheet", "cut", "(J)J"⟩, 4) := ⟨⟨by decide +kernel, by decide +kernel⟩, List.mem_of_getElem? (i := 386) (by decide +kernel), List.mem_of_getElem? (i := 528) (by decide +kernel), List.mem_of_getElem? (i := 529) (by decide +kernel)⟩
theorem lw_p2 : lw_okq (⟨"YesPlanes", "areParted", "()Z"⟩, 15) := ⟨⟨by decide +kernel, by decide +kernel⟩, List.mem_of_getElem? (i := 20) (by decide +kernel), List.mem_of_getElem? (i := 576) (by decide +kernel), List.mem_of_getElem? (i := 577) (by decide +kernel)⟩
theorem lw_p3 : lw_okq (⟨"YesPlanes$Way", "tryPair", "(LYesPlanes$Points;II)V"⟩, 11) := ⟨⟨by decide +kernel, by decide +kernel⟩, List.mem_of_getElem? (i := 149) (by decide +kernel), List.mem_of_getElem? (i := 593) (by decide +kernel), List.mem_of_getElem? (i := 594) (by decide +kernel)⟩
theorem lw_p4 : lw_okq (⟨"YesPlanes$Way", "tryAcross", "(LYesPlanes$Points;II)V"⟩, 11) := ⟨⟨by decide +kernel, by decide +kernel⟩, List.mem_of_getElem? (i := 149) (by decide +kernel), List.mem_of_getElem? (i := 601) (by decide +kernel), List.mem_of_getElem? (i := 602) (by decide +kernel)⟩
theorem lw_p5 : lw_okq (⟨"YesPlanes$Way", "isWider", "(JII)Z"⟩, 11) := ⟨⟨by decide +kernel, by decide +kernel⟩, List.mem_of_getElem? (i := 149) (by decide +kernel), List.mem_of_getElem? (i := 613) (by decide +kernel), List.mem_of_getElem? (i := 614) (by decide +kernel)⟩
theorem lw_p6 : lw_okq (⟨"YesPlanes$Way", "finish", "(LYesPlanes$Points;)V"⟩, 11) := ⟨⟨by decide +kernel, by decide +kernel⟩, List.mem_of_getElem? (i := 149) (by decide +kernel), List.mem_of_getElem? (i := 620) (by decide +kernel), List.mem_of_getElem? (i := 621) (by decide +kernel)⟩
theorem lw_p7 : lw_okq (⟨"YesPlanes$Meeting", "gather", "(LYesPlanes$Points;)V"⟩, 11) := ⟨⟨by decide +kernel, by decide +kernel⟩, List.mem_of_getElem? (i := 213) (by decide +kernel), List.mem_of_getElem? (i := 666) (by decide +kernel), List.mem_of_getElem? (i := 667) (by decide +kernel)⟩
theorem lw_p8 : lw_okq (⟨"YesPlanes$Meeting", "findOnePlace", "(LYesPlanes$Points;)Z"⟩, 11) := ⟨⟨by decide +kernel, by decide +kernel⟩, List.mem_of_getElem? (i := 213) (by decide +kernel), List.mem_of_getElem? (i := 670) (by decide +kernel), List.mem_of_getElem? (i := 671) (by decide +kernel)⟩
theorem lw_p9 : lw_okq (⟨"YesPlanes$Meeting", "hold", "(IIIIII)Z"⟩, 11) := ⟨⟨by decide +kernel, by decide +kernel⟩, List.mem_of_getElem? (i := 213) (by decide +kernel), List.mem_of_getElem? (i := 675) (by decide +kernel), List.mem_of_getElem? (i := 676) (by decide +kernel)⟩
theorem lw_p10 : lw_okq (⟨"YesPlanes$Meeting", "shareAlone", "(LYesPlanes$Points;I)V"⟩, 11) := ⟨⟨by decide +kernel, by decide +kernel⟩, List.mem_of_getElem? (i := 213) (by decide +kernel), List.mem_of_getElem? (i := 679) (by decide +kernel), List.mem_of_getElem? (i := 680) (by decide +kernel)⟩
theorem lw_p11 : lw_okq (⟨"YesPlanes$Meeting", "findYesBetween", "(LYesPlanes$Points;)Z"⟩, 11) := ⟨⟨by decide +kernel, by decide +kernel⟩, List.mem_of_getElem? (i := 213) (by decide +kernel), List.mem_of_getElem? (i := 684) (by decide +kernel), List.mem_of_getElem? (i := 685) (by decide +kernel)⟩
theorem lw_p12 : lw_okq (⟨"YesPlanes$Meeting", "shareBetween", "(LYesPlanes$Points;II)V"⟩, 11) := ⟨⟨by decide +kernel, by decide +kernel⟩, List.mem_of_getElem? (i := 213) (by decide +kernel), List.mem_of_getElem? (i := 699) (by decide +kernel), List.mem_of_getElem? (i := 700) (by decide +kernel)⟩
theorem lw_p13 : lw_okq (⟨"YesPlanes$Meeting", "findNoBetween", "(LYesPlanes$Points;)Z"⟩, 11) := ⟨⟨by decide +kernel, by decide +kernel⟩, List.mem_of_getElem? (i := 213) (by decide +kernel), List.mem_of_getElem? (i := 703) (by decide +kernel), List.mem_of_getElem? (i := 704) (by decide +kernel)⟩
theorem lw_p14 : lw_okq (⟨"YesPlanes$Meeting", "findYesWithin", "(LYesPlanes$Points;)Z"⟩, 11) := ⟨⟨by decide +kernel, by decide +kernel⟩, List.mem_of_getElem? (i := 213) (by decide +kernel), List.mem_of_getElem? (i := 707) (by decide +kernel), List.mem_of_getElem? (i := 708) (by decide +kernel)⟩
theorem lw_p15 : lw_okq (⟨"YesPlanes$Meeting", "thirdAround", "(LYesPlanes$Points;III)I"⟩, 11) := ⟨⟨by decide +kernel, by decide +kernel⟩, List.mem_of_getElem? (i := 213) (by decide +kernel), List.mem_of_getElem? (i := 711) (by decide +kernel), List.mem_of_getElem? (i := 712) (by decide +kernel)⟩
def lw_privs_1 : List (MethodName × Nat) := [(⟨"YesPlanes", "told", "(I)I"⟩, 15), (⟨"YesPlanes$Sheet", "cut", "(J)J"⟩, 4), (⟨"YesPlanes", "areParted", "()Z"⟩, 15), (⟨"YesPlanes$Way", "tryPair", "(LYesPlanes$Points;II)V"⟩, 11), (⟨"YesPlanes$Way", "tryAcross", "(LYesPlanes$Points;II)V"⟩, 11), (⟨"YesPlanes$Way", "isWider", "(JII)Z"⟩, 11), (⟨"YesPlanes$Way", "finish", "(LYesPlanes$Points;)V"⟩, 11), (⟨"YesPlanes$Meeting", "gather", "(LYesPlanes$Points;)V"⟩, 11), (⟨"YesPlanes$Meeting", "findOnePlace", "(LYesPlanes$Points;)Z"⟩, 11), (⟨"YesPlanes$Meeting", "hold", "(IIIIII)Z"⟩, 11), (⟨"YesPlanes$Meeting", "shareAlone", "(LYesPlanes$Points;I)V"⟩, 11), (⟨"YesPlanes$Meeting", "findYesBetween", "(LYesPlanes$Points;)Z"⟩, 11), (⟨"YesPlanes$Meeting", "shareBetween", "(LYesPlanes$Points;II)V"⟩, 11), (⟨"YesPlanes$Meeting", "findNoBetween", "(LYesPlanes$Points;)Z"⟩, 11), (⟨"YesPlanes$Meeting", "findYesWithin", "(LYesPlanes$Points;)Z"⟩, 11), (⟨"YesPlanes$Meeting", "thirdAround", "(LYesPlanes$Points;III)I"⟩, 11)]
theorem lw_r1 : ∀ q ∈ lw_privs_1, lw_okq q := List.forall_mem_cons.mpr ⟨lw_p0, List.forall_mem_cons.mpr ⟨lw_p1, List.forall_mem_cons.mpr ⟨lw_p2, List.forall_mem_cons.mpr ⟨lw_p3, List.forall_mem_cons.mpr ⟨lw_p4, List.forall_mem_cons.mpr ⟨lw_p5, List.forall_mem_cons.mpr ⟨lw_p6, List.forall_mem_cons.mpr ⟨lw_p7, List.forall_mem_cons.mpr ⟨lw_p8, List.forall_mem_cons.mpr ⟨lw_p9, List.forall_mem_cons.mpr ⟨lw_p10, List.forall_mem_cons.mpr ⟨lw_p11, List.forall_mem_cons.mpr ⟨lw_p12, List.forall_mem_cons.mpr ⟨lw_p13, List.forall_mem_cons.mpr ⟨lw_p14, List.forall_mem_cons.mpr ⟨lw_p15, fun _ h => absurd h List.not_mem_nil⟩⟩⟩⟩⟩⟩⟩⟩⟩⟩⟩⟩⟩⟩⟩⟩
theorem lw_p16 : lw_okq (⟨"YesPlanes$Meeting", "shareWithin", "(LYesPlanes$Points;II)V"⟩, 11) := ⟨⟨by decide +kernel, by decide +kernel⟩, List.mem_of_getElem? (i := 213) (by decide +kernel), List.mem_of_getElem? (i := 718) (by decide +kernel), List.mem_of_getElem? (i := 719) (by decide +kernel)⟩
theorem lw_p17 : lw_okq (⟨"YesPlanes$Meeting", "findNoWithin", "(LYesPlanes$Points;)Z"⟩, 11) := ⟨⟨by decide +kernel, by decide +kernel⟩, List.mem_of_getElem? (i := 213) (by decide +kernel), List.mem_of_getElem? (i := 722) (by decide +kernel), List.mem_of_getElem? (i := 723) (by decide +kernel)⟩
theorem lw_p18 : lw_okq (⟨"YesPlanes$Meeting", "firstNoWithin", "(LYesPlanes$Points;III)I"⟩, 11) := ⟨⟨by decide +kernel, by decide +kernel⟩, List.mem_of_getElem? (i := 213) (by decide +kernel), List.mem_of_getElem? (i := 726) (by decide +kernel), List.mem_of_getElem? (i := 727) (by decide +kernel)⟩
theorem lw_p19 : lw_okq (⟨"YesPlanes$Meeting", "findCrossing", "(LYesPlanes$Points;)Z"⟩, 11) := ⟨⟨by decide +kernel, by decide +kernel⟩, List.mem_of_getElem? (i := 213) (by decide +kernel), List.mem_of_getElem? (i := 730) (by decide +kernel), List.mem_of_getElem? (i := 731) (by decide +kernel)⟩
theorem lw_p20 : lw_okq (⟨"YesPlanes$Meeting", "otherEndAcross", "(LYesPlanes$Points;III)I"⟩, 11) := ⟨⟨by decide +kernel, by decide +kernel⟩, List.mem_of_getElem? (i := 213) (by decide +kernel), List.mem_of_getElem? (i := 734) (by decide +kernel), List.mem_of_getElem? (i := 735) (by decide +kernel)⟩
theorem lw_p21 : lw_okq (⟨"YesPlanes$Meeting", "shareCrossing", "(LYesPlanes$Points;)V"⟩, 11) := ⟨⟨by decide +kernel, by decide +kernel⟩, List.mem_of_getElem? (i := 213) (by decide +kernel), List.mem_of_getElem? (i := 738) (by decide +kernel), List.mem_of_getElem? (i := 739) (by decide +kernel)⟩
theorem lw_p22 : lw_okq (⟨"YesPlanes$Meeting", "shareEnds", "(LYesPlanes$Points;II)V"⟩, 11) := ⟨⟨by decide +kernel, by decide +kernel⟩, List.mem_of_getElem? (i := 213) (by decide +kernel), List.mem_of_getElem? (i := 742) (by decide +kernel), List.mem_of_getElem? (i := 743) (by decide +kernel)⟩
theorem lw_p23 : lw_okq (⟨"YesPlanes", "canPartFirst", "(I)Z"⟩, 15) := ⟨⟨by decide +kernel, by decide +kernel⟩, List.mem_of_getElem? (i := 20) (by decide +kernel), List.mem_of_getElem? (i := 773) (by decide +kernel), List.mem_of_getElem? (i := 774) (by decide +kernel)⟩
theorem lw_p24 : lw_okq (⟨"YesPlanes$Partings", "markBoth", "(I)V"⟩, 4) := ⟨⟨by decide +kernel, by decide +kernel⟩, List.mem_of_getElem? (i := 260) (by decide +kernel), List.mem_of_getElem? (i := 782) (by decide +kernel), List.mem_of_getElem? (i := 783) (by decide +kernel)⟩
theorem lw_p25 : lw_okq (⟨"YesPlanes$Partings", "mark", "(I)V"⟩, 4) := ⟨⟨by decide +kernel, by decide +kernel⟩, List.mem_of_getElem? (i := 260) (by decide +kernel), List.mem_of_getElem? (i := 786) (by decide +kernel), List.mem_of_getElem? (i := 787) (by decide +kernel)⟩
theorem lw_p26 : lw_okq (⟨"YesPlanes$Partings", "markAlong", "(LYesPlanes$Points;III)V"⟩, 4) := ⟨⟨by decide +kernel, by decide +kernel⟩, List.mem_of_getElem? (i := 260) (by decide +kernel), List.mem_of_getElem? (i := 791) (by decide +kernel), List.mem_of_getElem? (i := 792) (by decide +kernel)⟩
theorem lw_p27 : lw_okq (⟨"YesPlanes$Learner", "goRound", "(LYesPlanes$Points;)I"⟩, 5) := ⟨⟨by decide +kernel, by decide +kernel⟩, List.mem_of_getElem? (i := 117) (by decide +kernel), List.mem_of_getElem? (i := 855) (by decide +kernel), List.mem_of_getElem? (i := 856) (by decide +kernel)⟩
theorem lw_p28 : lw_okq (⟨"YesPlanes$Learner", "mend", "(III)V"⟩, 5) := ⟨⟨by decide +kernel, by decide +kernel⟩, List.mem_of_getElem? (i := 117) (by decide +kernel), List.mem_of_getElem? (i := 859) (by decide +kernel), List.mem_of_getElem? (i := 860) (by decide +kernel)⟩
theorem lw_p29 : lw_okq (⟨"YesPlanes$Judges", "sayers", "(III)I"⟩, 5) := ⟨⟨by decide +kernel, by decide +kernel⟩, List.mem_of_getElem? (i := 93) (by decide +kernel), List.mem_of_getElem? (i := 891) (by decide +kernel), List.mem_of_getElem? (i := 892) (by decide +kernel)⟩
theorem lw_p30 : lw_okq (⟨"YesPlanes$Strong", "playRound", "(LYesPlanes$Points;)V"⟩, 17) := ⟨⟨by decide +kernel, by decide +kernel⟩, List.mem_of_getElem? (i := 282) (by decide +kernel), List.mem_of_getElem? (i := 913) (by decide +kernel), List.mem_of_getElem? (i := 914) (by decide +kernel)⟩
theorem lw_p31 : lw_okq (⟨"YesPlanes$Strong", "choose", "(LYesPlanes$Points;)V"⟩, 17) := ⟨⟨by decide +kernel, by decide +kernel⟩, List.mem_of_getElem? (i := 282) (by decide +kernel), List.mem_of_getElem? (i := 917) (by decide +kernel), List.mem_of_getElem? (i := 918) (by decide +kernel)⟩
def lw_privs_2 : List (MethodName × Nat) := [(⟨"YesPlanes$Meeting", "shareWithin", "(LYesPlanes$Points;II)V"⟩, 11), (⟨"YesPlanes$Meeting", "findNoWithin", "(LYesPlanes$Points;)Z"⟩, 11), (⟨"YesPlanes$Meeting", "firstNoWithin", "(LYesPlanes$Points;III)I"⟩, 11), (⟨"YesPlanes$Meeting", "findCrossing", "(LYesPlanes$Points;)Z"⟩, 11), (⟨"YesPlanes$Meeting", "otherEndAcross", "(LYesPlanes$Points;III)I"⟩, 11), (⟨"YesPlanes$Meeting", "shareCrossing", "(LYesPlanes$Points;)V"⟩, 11), (⟨"YesPlanes$Meeting", "shareEnds", "(LYesPlanes$Points;II)V"⟩, 11), (⟨"YesPlanes", "canPartFirst", "(I)Z"⟩, 15), (⟨"YesPlanes$Partings", "markBoth", "(I)V"⟩, 4), (⟨"YesPlanes$Partings", "mark", "(I)V"⟩, 4), (⟨"YesPlanes$Partings", "markAlong", "(LYesPlanes$Points;III)V"⟩, 4), (⟨"YesPlanes$Learner", "goRound", "(LYesPlanes$Points;)I"⟩, 5), (⟨"YesPlanes$Learner", "mend", "(III)V"⟩, 5), (⟨"YesPlanes$Judges", "sayers", "(III)I"⟩, 5), (⟨"YesPlanes$Strong", "playRound", "(LYesPlanes$Points;)V"⟩, 17), (⟨"YesPlanes$Strong", "choose", "(LYesPlanes$Points;)V"⟩, 17)]
theorem lw_r2 : ∀ q ∈ lw_privs_2, lw_okq q := List.forall_mem_cons.mpr ⟨lw_p16, List.forall_mem_cons.mpr ⟨lw_p17, List.forall_mem_cons.mpr ⟨lw_p18, List.forall_mem_cons.mpr ⟨lw_p19, List.forall_mem_cons.mpr ⟨lw_p20, List.forall_mem_cons.mpr ⟨lw_p21, List.forall_mem_cons.mpr ⟨lw_p22, List.forall_mem_cons.mpr ⟨lw_p23, List.forall_mem_cons.mpr ⟨lw_p24, List.forall_mem_cons.mpr ⟨lw_p25, List.forall_mem_cons.mpr ⟨lw_p26, List.forall_mem_cons.mpr ⟨lw_p27, List.forall_mem_cons.mpr ⟨lw_p28, List.forall_mem_cons.mpr ⟨lw_p29, List.forall_mem_cons.mpr ⟨lw_p30, List.forall_mem_cons.mpr ⟨lw_p31, fun _ h => absurd h List.not_mem_nil⟩⟩⟩⟩⟩⟩⟩⟩⟩⟩⟩⟩⟩⟩⟩⟩
theorem lw_p32 : lw_okq (⟨"YesPlanes$Strong", "weigh", "(LYesPlanes$Points;II)V"⟩, 17) := ⟨⟨by decide +kernel, by decide +kernel⟩, List.mem_of_getElem? (i := 282) (by decide +kernel), List.mem_of_getElem? (i := 921) (by decide +kernel), List.mem_of_getElem? (i := 922) (by decide +kernel)⟩
theorem lw_p33 : lw_okq (⟨"YesPlanes$Strong", "offer", "(IIIJ)V"⟩, 17) := ⟨⟨by decide +kernel, by decide +kernel⟩, List.mem_of_getElem? (i := 282) (by decide +kernel), List.mem_of_getElem? (i := 928) (by decide +kernel), List.mem_of_getElem? (i := 929) (by decide +kernel)⟩
theorem lw_p34 : lw_okq (⟨"YesPlanes$Strong", "keepChosen", "()V"⟩, 17) := ⟨⟨by decide +kernel, by decide +kernel⟩, List.mem_of_getElem? (i := 282) (by decide +kernel), List.mem_of_getElem? (i := 932) (by decide +kernel), List.mem_of_getElem? (i := 933) (by decide +kernel)⟩
theorem lw_p35 : lw_okq (⟨"YesPlanes$Strong", "reweigh", "(LYesPlanes$Points;)Z"⟩, 17) := ⟨⟨by decide +kernel, by decide +kernel⟩, List.mem_of_getElem? (i := 282) (by decide +kernel), List.mem_of_getElem? (i := 937) (by decide +kernel), List.mem_of_getElem? (i := 938) (by decide +kernel)⟩
theorem lw_p36 : lw_okq (⟨"YesPlanes$Strong", "commonMass", "(LYesPlanes$Points;Z)J"⟩, 17) := ⟨⟨by decide +kernel, by decide +kernel⟩, List.mem_of_getElem? (i := 282) (by decide +kernel), List.mem_of_getElem? (i := 942) (by decide +kernel), List.mem_of_getElem? (i := 943) (by decide +kernel)⟩
theorem lw_p37 : lw_okq (⟨"YesPlanes$Strong", "isWrong", "(LYesPlanes$Points;I)Z"⟩, 17) := ⟨⟨by decide +kernel, by decide +kernel⟩, List.mem_of_getElem? (i := 282) (by decide +kernel), List.mem_of_getElem? (i := 946) (by decide +kernel), List.mem_of_getElem? (i := 947) (by decide +kernel)⟩
theorem lw_p38 : lw_okq (⟨"YesPlanes$Cover", "gather", "(LYesPlanes$Points;)V"⟩, 5) := ⟨⟨by decide +kernel, by decide +kernel⟩, List.mem_of_getElem? (i := 364) (by decide +kernel), List.mem_of_getElem? (i := 1042) (by decide +kernel), List.mem_of_getElem? (i := 1043) (by decide +kernel)⟩
theorem lw_p39 : lw_okq (⟨"YesPlanes$Cover", "findSets", "(LYesPlanes$Points;I)V"⟩, 5) := ⟨⟨by decide +kernel, by decide +kernel⟩, List.mem_of_getElem? (i := 364) (by decide +kernel), List.mem_of_getElem? (i := 1049) (by decide +kernel), List.mem_of_getElem? (i := 1050) (by decide +kernel)⟩
theorem lw_p40 : lw_okq (⟨"YesPlanes$Cover", "setWithin", "(LYesPlanes$Points;III)I"⟩, 5) := ⟨⟨by decide +kernel, by decide +kernel⟩, List.mem_of_getElem? (i := 364) (by decide +kernel), List.mem_of_getElem? (i := 1053) (by decide +kernel), List.mem_of_getElem? (i := 1054) (by decide +kernel)⟩
theorem lw_p41 : lw_okq (⟨"YesPlanes$Cover", "addSet", "(I)V"⟩, 5) := ⟨⟨by decide +kernel, by decide +kernel⟩, List.mem_of_getElem? (i := 364) (by decide +kernel), List.mem_of_getElem? (i := 1059) (by decide +kernel), List.mem_of_getElem? (i := 1060) (by decide +kernel)⟩
theorem lw_p42 : lw_okq (⟨"YesPlanes$Cover", "widen", "(I)V"⟩, 5) := ⟨⟨by decide +kernel, by decide +kernel⟩, List.mem_of_getElem? (i := 364) (by decide +kernel), List.mem_of_getElem? (i := 1063) (by decide +kernel), List.mem_of_getElem? (i := 1064) (by decide +kernel)⟩
theorem lw_p43 : lw_okq (⟨"YesPlanes", "sheetsThere", "()I"⟩, 15) := ⟨⟨by decide +kernel, by decide +kernel⟩, List.mem_of_getElem? (i := 20) (by decide +kernel), List.mem_of_getElem? (i := 1100) (by decide +kernel), List.mem_of_getElem? (i := 1101) (by decide +kernel)⟩
theorem lw_p44 : lw_okq (⟨"YesPlanesModel", "told", "(I)I"⟩, 61) := ⟨⟨by decide +kernel, by decide +kernel⟩, List.mem_of_getElem? (i := 1108) (by decide +kernel), List.mem_of_getElem? (i := 1307) (by decide +kernel), List.mem_of_getElem? (i := 1308) (by decide +kernel)⟩
theorem lw_p45 : lw_okq (⟨"YesPlanesModel", "add", "(III)V"⟩, 61) := ⟨⟨by decide +kernel, by decide +kernel⟩, List.mem_of_getElem? (i := 1108) (by decide +kernel), List.mem_of_getElem? (i := 1311) (by decide +kernel), List.mem_of_getElem? (i := 1312) (by decide +kernel)⟩
theorem lw_p46 : lw_okq (⟨"YesPlanesModel", "isPoint", "(I)Z"⟩, 61) := ⟨⟨by decide +kernel, by decide +kernel⟩, List.mem_of_getElem? (i := 1108) (by decide +kernel), List.mem_of_getElem? (i := 1319) (by decide +kernel), List.mem_of_getElem? (i := 1320) (by decide +kernel)⟩
theorem lw_p47 : lw_okq (⟨"YesPlanesModel", "findMeeting", "()V"⟩, 61) := ⟨⟨by decide +kernel, by decide +kernel⟩, List.mem_of_getElem? (i := 1108) (by decide +kernel), List.mem_of_getElem? (i := 1366) (by decide +kernel), List.mem_of_getElem? (i := 1367) (by decide +kernel)⟩
def lw_privs_3 : List (MethodName × Nat) := [(⟨"YesPlanes$Strong", "weigh", "(LYesPlanes$Points;II)V"⟩, 17), (⟨"YesPlanes$Strong", "offer", "(IIIJ)V"⟩, 17), (⟨"YesPlanes$Strong", "keepChosen", "()V"⟩, 17), (⟨"YesPlanes$Strong", "reweigh", "(LYesPlanes$Points;)Z"⟩, 17), (⟨"YesPlanes$Strong", "commonMass", "(LYesPlanes$Points;Z)J"⟩, 17), (⟨"YesPlanes$Strong", "isWrong", "(LYesPlanes$Points;I)Z"⟩, 17), (⟨"YesPlanes$Cover", "gather", "(LYesPlanes$Points;)V"⟩, 5), (⟨"YesPlanes$Cover", "findSets", "(LYesPlanes$Points;I)V"⟩, 5), (⟨"YesPlanes$Cover", "setWithin", "(LYesPlanes$Points;III)I"⟩, 5), (⟨"YesPlanes$Cover", "addSet", "(I)V"⟩, 5), (⟨"YesPlanes$Cover", "widen", "(I)V"⟩, 5), (⟨"YesPlanes", "sheetsThere", "()I"⟩, 15), (⟨"YesPlanesModel", "told", "(I)I"⟩, 61), (⟨"YesPlanesModel", "add", "(III)V"⟩, 61), (⟨"YesPlanesModel", "isPoint", "(I)Z"⟩, 61), (⟨"YesPlanesModel", "findMeeting", "()V"⟩, 61)]
theorem lw_r3 : ∀ q ∈ lw_privs_3, lw_okq q := List.forall_mem_cons.mpr ⟨lw_p32, List.forall_mem_cons.mpr ⟨lw_p33, List.forall_mem_cons.mpr ⟨lw_p34, List.forall_mem_cons.mpr ⟨lw_p35, List.forall_mem_cons.mpr ⟨lw_p36, List.forall_mem_cons.mpr ⟨lw_p37, List.forall_mem_cons.mpr ⟨lw_p38, List.forall_mem_cons.mpr ⟨lw_p39, List.forall_mem_cons.mpr ⟨lw_p40, List.forall_mem_cons.mpr ⟨lw_p41, List.forall_mem_cons.mpr ⟨lw_p42, List.forall_mem_cons.mpr ⟨lw_p43, List.forall_mem_cons.mpr ⟨lw_p44, List.forall_mem_cons.mpr ⟨lw_p45, List.forall_mem_cons.mpr ⟨lw_p46, List.forall_mem_cons.mpr ⟨lw_p47, fun _ h => absurd h List.not_mem_nil⟩⟩⟩⟩⟩⟩⟩⟩⟩⟩⟩⟩⟩⟩⟩⟩
theorem lw_p48 : lw_okq (⟨"YesPlanesModel", "findSame", "()Z"⟩, 61) := ⟨⟨by decide +kernel, by decide +kernel⟩, List.mem_of_getElem? (i := 1108) (by decide +kernel), List.mem_of_getElem? (i := 1370) (by decide +kernel), List.mem_of_getElem? (i := 1371) (by decide +kernel)⟩
theorem lw_p49 : lw_okq (⟨"YesPlanesModel", "isAt", "(II)Z"⟩, 61) := ⟨⟨by decide +kernel, by decide +kernel⟩, List.mem_of_getElem? (i := 1108) (by decide +kernel), List.mem_of_getElem? (i := 1374) (by decide +kernel), List.mem_of_getElem? (i := 1375) (by decide +kernel)⟩
theorem lw_p50 : lw_okq (⟨"YesPlanesModel", "member", "(IIJJ)V"⟩, 61) := ⟨⟨by decide +kernel, by decide +kernel⟩, List.mem_of_getElem? (i := 1108) (by decide +kernel), List.mem_of_getElem? (i := 1378) (by decide +kernel), List.mem_of_getElem? (i := 1379) (by decide +kernel)⟩
theorem lw_p51 : lw_okq (⟨"YesPlanesModel", "place", "(JJJ)V"⟩, 61) := ⟨⟨by decide +kernel, by decide +kernel⟩, List.mem_of_getElem? (i := 1108) (by decide +kernel), List.mem_of_getElem? (i := 1383) (by decide +kernel), List.mem_of_getElem? (i := 1384) (by decide +kernel)⟩
theorem lw_p52 : lw_okq (⟨"YesPlanesModel", "findBetween", "()Z"⟩, 61) := ⟨⟨by decide +kernel, by decide +kernel⟩, List.mem_of_getElem? (i := 1108) (by decide +kernel), List.mem_of_getElem? (i := 1387) (by decide +kernel), List.mem_of_getElem? (i := 1388) (by decide +kernel)⟩
theorem lw_p53 : lw_okq (⟨"YesPlanesModel", "isBetween", "(III)Z"⟩, 61) := ⟨⟨by decide +kernel, by decide +kernel⟩, List.mem_of_getElem? (i := 1108) (by decide +kernel), List.mem_of_getElem? (i := 1391) (by decide +kernel), List.mem_of_getElem? (i := 1392) (by decide +kernel)⟩
theorem lw_p54 : lw_okq (⟨"YesPlanesModel", "area", "(III)J"⟩, 61) := ⟨⟨by decide +kernel, by decide +kernel⟩, List.mem_of_getElem? (i := 1108) (by decide +kernel), List.mem_of_getElem? (i := 1395) (by decide +kernel), List.mem_of_getElem? (i := 1396) (by decide +kernel)⟩
theorem lw_p55 : lw_okq (⟨"YesPlanesModel", "meetsBy", "(IIIIII)V"⟩, 61) := ⟨⟨by decide +kernel, by decide +kernel⟩, List.mem_of_getElem? (i := 1108) (by decide +kernel), List.mem_of_getElem? (i := 1402) (by decide +kernel), List.mem_of_getElem? (i := 1403) (by decide +kernel)⟩
theorem lw_p56 : lw_okq (⟨"YesPlanesModel", "meetsAt", "(IIII)V"⟩, 61) := ⟨⟨by decide +kernel, by decide +kernel⟩, List.mem_of_getElem? (i := 1108) (by decide +kernel), List.mem_of_getElem? (i := 1406) (by decide +kernel), List.mem_of_getElem? (i := 1407) (by decide +kernel)⟩
theorem lw_p57 : lw_okq (⟨"YesPlanesModel", "findWithin", "()Z"⟩, 61) := ⟨⟨by decide +kernel, by decide +kernel⟩, List.mem_of_getElem? (i := 1108) (by decide +kernel), List.mem_of_getElem? (i := 1410) (by decide +kernel), List.mem_of_getElem? (i := 1411) (by decide +kernel)⟩
theorem lw_p58 : lw_okq (⟨"YesPlanesModel", "findOthers", "(II)Z"⟩, 61) := ⟨⟨by decide +kernel, by decide +kernel⟩, List.mem_of_getElem? (i := 1108) (by decide +kernel), List.mem_of_getElem? (i := 1414) (by decide +kernel), List.mem_of_getElem? (i := 1415) (by decide +kernel)⟩
theorem lw_p59 : lw_okq (⟨"YesPlanesModel", "isWithin", "(IIII)Z"⟩, 61) := ⟨⟨by decide +kernel, by decide +kernel⟩, List.mem_of_getElem? (i := 1108) (by decide +kernel), List.mem_of_getElem? (i := 1418) (by decide +kernel), List.mem_of_getElem? (i := 1419) (by decide +kernel)⟩
theorem lw_p60 : lw_okq (⟨"YesPlanesModel", "findInner", "(III)Z"⟩, 61) := ⟨⟨by decide +kernel, by decide +kernel⟩, List.mem_of_getElem? (i := 1108) (by decide +kernel), List.mem_of_getElem? (i := 1422) (by decide +kernel), List.mem_of_getElem? (i := 1423) (by decide +kernel)⟩
theorem lw_p61 : lw_okq (⟨"YesPlanesModel", "findCrossing", "()Z"⟩, 61) := ⟨⟨by decide +kernel, by decide +kernel⟩, List.mem_of_getElem? (i := 1108) (by decide +kernel), List.mem_of_getElem? (i := 1426) (by decide +kernel), List.mem_of_getElem? (i := 1427) (by decide +kernel)⟩
theorem lw_p62 : lw_okq (⟨"YesPlanesModel", "findCrossed", "(III)Z"⟩, 61) := ⟨⟨by decide +kernel, by decide +kernel⟩, List.mem_of_getElem? (i := 1108) (by decide +kernel), List.mem_of_getElem? (i := 1430) (by decide +kernel), List.mem_of_getElem? (i := 1431) (by decide +kernel)⟩
theorem lw_p63 : lw_okq (⟨"YesPlanesModel", "isCrossing", "(IIII)Z"⟩, 61) := ⟨⟨by decide +kernel, by decide +kernel⟩, List.mem_of_getElem? (i := 1108) (by decide +kernel), List.mem_of_getElem? (i := 1434) (by decide +kernel), List.mem_of_getElem? (i := 1435) (by decide +kernel)⟩
def lw_privs_4 : List (MethodName × Nat) := [(⟨"YesPlanesModel", "findSame", "()Z"⟩, 61), (⟨"YesPlanesModel", "isAt", "(II)Z"⟩, 61), (⟨"YesPlanesModel", "member", "(IIJJ)V"⟩, 61), (⟨"YesPlanesModel", "place", "(JJJ)V"⟩, 61), (⟨"YesPlanesModel", "findBetween", "()Z"⟩, 61), (⟨"YesPlanesModel", "isBetween", "(III)Z"⟩, 61), (⟨"YesPlanesModel", "area", "(III)J"⟩, 61), (⟨"YesPlanesModel", "meetsBy", "(IIIIII)V"⟩, 61), (⟨"YesPlanesModel", "meetsAt", "(IIII)V"⟩, 61), (⟨"YesPlanesModel", "findWithin", "()Z"⟩, 61), (⟨"YesPlanesModel", "findOthers", "(II)Z"⟩, 61), (⟨"YesPlanesModel", "isWithin", "(IIII)Z"⟩, 61), (⟨"YesPlanesModel", "findInner", "(III)Z"⟩, 61), (⟨"YesPlanesModel", "findCrossing", "()Z"⟩, 61), (⟨"YesPlanesModel", "findCrossed", "(III)Z"⟩, 61), (⟨"YesPlanesModel", "isCrossing", "(IIII)Z"⟩, 61)]
theorem lw_r4 : ∀ q ∈ lw_privs_4, lw_okq q := List.forall_mem_cons.mpr ⟨lw_p48, List.forall_mem_cons.mpr ⟨lw_p49, List.forall_mem_cons.mpr ⟨lw_p50, List.forall_mem_cons.mpr ⟨lw_p51, List.forall_mem_cons.mpr ⟨lw_p52, List.forall_mem_cons.mpr ⟨lw_p53, List.forall_mem_cons.mpr ⟨lw_p54, List.forall_mem_cons.mpr ⟨lw_p55, List.forall_mem_cons.mpr ⟨lw_p56, List.forall_mem_cons.mpr ⟨lw_p57, List.forall_mem_cons.mpr ⟨lw_p58, List.forall_mem_cons.mpr ⟨lw_p59, List.forall_mem_cons.mpr ⟨lw_p60, List.forall_mem_cons.mpr ⟨lw_p61, List.forall_mem_cons.mpr ⟨lw_p62, List.forall_mem_cons.mpr ⟨lw_p63, fun _ h => absurd h List.not_mem_nil⟩⟩⟩⟩⟩⟩⟩⟩⟩⟩⟩⟩⟩⟩⟩⟩
theorem lw_p64 : lw_okq (⟨"YesPlanesModel", "findWay", "()V"⟩, 61) := ⟨⟨by decide +kernel, by decide +kernel⟩, List.mem_of_getElem? (i := 1108) (by decide +kernel), List.mem_of_getElem? (i := 1463) (by decide +kernel), List.mem_of_getElem? (i := 1464) (by decide +kernel)⟩
theorem lw_p65 : lw_okq (⟨"YesPlanesModel", "many", "(I)I"⟩, 61) := ⟨⟨by decide +kernel, by decide +kernel⟩, List.mem_of_getElem? (i := 1108) (by decide +kernel), List.mem_of_getElem? (i := 1467) (by decide +kernel), List.mem_of_getElem? (i := 1468) (by decide +kernel)⟩
theorem lw_p66 : lw_okq (⟨"YesPlanesModel", "tryWay", "(JJ)V"⟩, 61) := ⟨⟨by decide +kernel, by decide +kernel⟩, List.mem_of_getElem? (i := 1108) (by decide +kernel), List.mem_of_getElem? (i := 1471) (by decide +kernel), List.mem_of_getElem? (i := 1472) (by decide +kernel)⟩
theorem lw_p67 : lw_okq (⟨"YesPlanesModel", "isSide", "(I)Z"⟩, 61) := ⟨⟨by decide +kernel, by decide +kernel⟩, List.mem_of_getElem? (i := 1108) (by decide +kernel), List.mem_of_getElem? (i := 1476) (by decide +kernel), List.mem_of_getElem? (i := 1477) (by decide +kernel)⟩
theorem lw_p68 : lw_okq (⟨"YesPlanesModel", "isMany", "(I)Z"⟩, 61) := ⟨⟨by decide +kernel, by decide +kernel⟩, List.mem_of_getElem? (i := 1108) (by decide +kernel), List.mem_of_getElem? (i := 1499) (by decide +kernel), List.mem_of_getElem? (i := 1500) (by decide +kernel)⟩
theorem lw_p69 : lw_okq (⟨"YesPlanesModel", "findSets", "(I)V"⟩, 61) := ⟨⟨by decide +kernel, by decide +kernel⟩, List.mem_of_getElem? (i := 1108) (by decide +kernel), List.mem_of_getElem? (i := 1504) (by decide +kernel), List.mem_of_getElem? (i := 1505) (by decide +kernel)⟩
theorem lw_p70 : lw_okq (⟨"YesPlanesModel", "choose", "(I)V"⟩, 61) := ⟨⟨by decide +kernel, by decide +kernel⟩, List.mem_of_getElem? (i := 1108) (by decide +kernel), List.mem_of_getElem? (i := 1508) (by decide +kernel), List.mem_of_getElem? (i := 1509) (by decide +kernel)⟩
theorem lw_p71 : lw_okq (⟨"YesPlanesModel", "turnAbout", "(II)V"⟩, 61) := ⟨⟨by decide +kernel, by decide +kernel⟩, List.mem_of_getElem? (i := 1108) (by decide +kernel), List.mem_of_getElem? (i := 1512) (by decide +kernel), List.mem_of_getElem? (i := 1513) (by decide +kernel)⟩
theorem lw_p72 : lw_okq (⟨"YesPlanesModel", "further", "(III)J"⟩, 61) := ⟨⟨by decide +kernel, by decide +kernel⟩, List.mem_of_getElem? (i := 1108) (by decide +kernel), List.mem_of_getElem? (i := 1516) (by decide +kernel), List.mem_of_getElem? (i := 1517) (by decide +kernel)⟩
theorem lw_p73 : lw_okq (⟨"YesPlanesModel", "findStep", "()V"⟩, 61) := ⟨⟨by decide +kernel, by decide +kernel⟩, List.mem_of_getElem? (i := 1108) (by decide +kernel), List.mem_of_getElem? (i := 1565) (by decide +kernel), List.mem_of_getElem? (i := 1566) (by decide +kernel)⟩
theorem lw_p74 : lw_okq (⟨"YesPlanesModel", "wrongOf", "(III)J"⟩, 61) := ⟨⟨by decide +kernel, by decide +kernel⟩, List.mem_of_getElem? (i := 1108) (by decide +kernel), List.mem_of_getElem? (i := 1569) (by decide +kernel), List.mem_of_getElem? (i := 1570) (by decide +kernel)⟩
theorem lw_p75 : lw_okq (⟨"YesPlanesModel", "weigh", "(I)Z"⟩, 61) := ⟨⟨by decide +kernel, by decide +kernel⟩, List.mem_of_getElem? (i := 1108) (by decide +kernel), List.mem_of_getElem? (i := 1576) (by decide +kernel), List.mem_of_getElem? (i := 1577) (by decide +kernel)⟩
theorem lw_p76 : lw_okq (⟨"YesPlanesModel", "isWrongBy", "(II)Z"⟩, 61) := ⟨⟨by decide +kernel, by decide +kernel⟩, List.mem_of_getElem? (i := 1108) (by decide +kernel), List.mem_of_getElem? (i := 1580) (by decide +kernel), List.mem_of_getElem? (i := 1581) (by decide +kernel)⟩
theorem lw_p77 : lw_okq (⟨"YesPlanesModel", "times", "([IJ)V"⟩, 61) := ⟨⟨by decide +kernel, by decide +kernel⟩, List.mem_of_getElem? (i := 1108) (by decide +kernel), List.mem_of_getElem? (i := 1601) (by decide +kernel), List.mem_of_getElem? (i := 1602) (by decide +kernel)⟩
theorem lw_p78 : lw_okq (⟨"YesPlanesModel", "findHull", "(I)V"⟩, 61) := ⟨⟨by decide +kernel, by decide +kernel⟩, List.mem_of_getElem? (i := 1108) (by decide +kernel), List.mem_of_getElem? (i := 1610) (by decide +kernel), List.mem_of_getElem? (i := 1611) (by decide +kernel)⟩
theorem lw_p79 : lw_okq (⟨"YesPlanesModel", "far", "(II)J"⟩, 61) := ⟨⟨by decide +kernel, by decide +kernel⟩, List.mem_of_getElem? (i := 1108) (by decide +kernel), List.mem_of_getElem? (i := 1614) (by decide +kernel), List.mem_of_getElem? (i := 1615) (by decide +kernel)⟩
def lw_privs_5 : List (MethodName × Nat) := [(⟨"YesPlanesModel", "findWay", "()V"⟩, 61), (⟨"YesPlanesModel", "many", "(I)I"⟩, 61), (⟨"YesPlanesModel", "tryWay", "(JJ)V"⟩, 61), (⟨"YesPlanesModel", "isSide", "(I)Z"⟩, 61), (⟨"YesPlanesModel", "isMany", "(I)Z"⟩, 61), (⟨"YesPlanesModel", "findSets", "(I)V"⟩, 61), (⟨"YesPlanesModel", "choose", "(I)V"⟩, 61), (⟨"YesPlanesModel", "turnAbout", "(II)V"⟩, 61), (⟨"YesPlanesModel", "further", "(III)J"⟩, 61), (⟨"YesPlanesModel", "findStep", "()V"⟩, 61), (⟨"YesPlanesModel", "wrongOf", "(III)J"⟩, 61), (⟨"YesPlanesModel", "weigh", "(I)Z"⟩, 61), (⟨"YesPlanesModel", "isWrongBy", "(II)Z"⟩, 61), (⟨"YesPlanesModel", "times", "([IJ)V"⟩, 61), (⟨"YesPlanesModel", "findHull", "(I)V"⟩, 61), (⟨"YesPlanesModel", "far", "(II)J"⟩, 61)]
theorem lw_r5 : ∀ q ∈ lw_privs_5, lw_okq q := List.forall_mem_cons.mpr ⟨lw_p64, List.forall_mem_cons.mpr ⟨lw_p65, List.forall_mem_cons.mpr ⟨lw_p66, List.forall_mem_cons.mpr ⟨lw_p67, List.forall_mem_cons.mpr ⟨lw_p68, List.forall_mem_cons.mpr ⟨lw_p69, List.forall_mem_cons.mpr ⟨lw_p70, List.forall_mem_cons.mpr ⟨lw_p71, List.forall_mem_cons.mpr ⟨lw_p72, List.forall_mem_cons.mpr ⟨lw_p73, List.forall_mem_cons.mpr ⟨lw_p74, List.forall_mem_cons.mpr ⟨lw_p75, List.forall_mem_cons.mpr ⟨lw_p76, List.forall_mem_cons.mpr ⟨lw_p77, List.forall_mem_cons.mpr ⟨lw_p78, List.forall_mem_cons.mpr ⟨lw_p79, fun _ h => absurd h List.not_mem_nil⟩⟩⟩⟩⟩⟩⟩⟩⟩⟩⟩⟩⟩⟩⟩⟩
theorem lw_p80 : lw_okq (⟨"YesPlanesModel", "isHalf", "(IIII)Z"⟩, 61) := ⟨⟨by decide +kernel, by decide +kernel⟩, List.mem_of_getElem? (i := 1108) (by decide +kernel), List.mem_of_getElem? (i := 1627) (by decide +kernel), List.mem_of_getElem? (i := 1628) (by decide +kernel)⟩
theorem lw_p81 : lw_okq (⟨"YesPlanesModel", "isClear", "(II)Z"⟩, 61) := ⟨⟨by decide +kernel, by decide +kernel⟩, List.mem_of_getElem? (i := 1108) (by decide +kernel), List.mem_of_getElem? (i := 1635) (by decide +kernel), List.mem_of_getElem? (i := 1636) (by decide +kernel)⟩
def lw_privs_6 : List (MethodName × Nat) := [(⟨"YesPlanesModel", "isHalf", "(IIII)Z"⟩, 61), (⟨"YesPlanesModel", "isClear", "(II)Z"⟩, 61)]
theorem lw_r6 : ∀ q ∈ lw_privs_6, lw_okq q := List.forall_mem_cons.mpr ⟨lw_p80, List.forall_mem_cons.mpr ⟨lw_p81, fun _ h => absurd h List.not_mem_nil⟩⟩
def lw_privs : List (MethodName × Nat) := lw_privs_1 ++ (lw_privs_2 ++ (lw_privs_3 ++ (lw_privs_4 ++ (lw_privs_5 ++ (lw_privs_6)))))
def lw_tbl : List Cond := k2_sels lw_privs ++ tables_1
theorem lw_privs_ok : ∀ q ∈ lw_privs, lw_okq q := by
  show ∀ q ∈ lw_privs_1 ++ (lw_privs_2 ++ (lw_privs_3 ++ (lw_privs_4 ++ (lw_privs_5 ++ (lw_privs_6))))), lw_okq q
  exact List.forall_mem_append.mpr ⟨lw_r1, List.forall_mem_append.mpr ⟨lw_r2, List.forall_mem_append.mpr ⟨lw_r3, List.forall_mem_append.mpr ⟨lw_r4, List.forall_mem_append.mpr ⟨lw_r5, lw_r6⟩⟩⟩⟩⟩
/-! ===== BEGIN words of one list among another's, by their places ===== -/
theorem goodIn_r {big : List Cond} (ws : List Cond) (ps : List Nat) (hp : ws = ps.filterMap (fun i => big[i]?)) (h : ws.all goodWord = true) : GoodIn big ws := by
  intro w hw
  have h1 := List.all_eq_true.mp h w hw
  rw [hp] at hw
  obtain ⟨i, -, hi⟩ := List.mem_filterMap.mp hw
  have hm : w ∈ big := by first | exact List.mem_of_getElem? hi | exact List.getElem?_mem hi
  exact ⟨hm, good_of_word h1⟩
theorem goodIn_app {big a b : List Cond} (ha : GoodIn big a) (hb : GoodIn big b) : GoodIn big (a ++ b) := fun w h => (List.mem_append.mp h).elim (ha w) (hb w)
theorem goodIn_ca {big a b : List Cond} {c : Cond} (ha : GoodIn big (c :: a)) (hb : GoodIn big b) : GoodIn big (c :: (a ++ b)) := fun w h => (List.mem_cons.mp h).elim (fun e => ha w (List.mem_cons.mpr (Or.inl e))) (fun h => (List.mem_append.mp h).elim (fun h => ha w (List.mem_cons.mpr (Or.inr h))) (hb w))
theorem goodIn_sub {big ws : List Cond} (hm : ∀ w ∈ ws, w ∈ big) (h : ws.all goodWord = true) : GoodIn big ws := fun w hw => ⟨hm w hw, good_of_word (List.all_eq_true.mp h w hw)⟩
/-! ===== END ===== -/

/-! ===== BEGIN printed: names, fields, word lists, decode rows ===== -/
def RX0 : String := "YesPlanes$Cover"
def TX0 : u_T := fun k => match k with
  | 0 => ("YesPlanes$Cover", "yes", "[I", true)
  | 1 => ("YesPlanes$Cover", "yesMany", "I", false)
  | 2 => ("YesPlanes$Cover", "sets", "[I", true)
  | 3 => ("YesPlanes$Cover", "setsMany", "I", false)
  | _ => ("YesPlanes$Cover", "needed", "[B", true)
def tyX0 : Nat → FieldType := fun k => match k with
  | 0 => .array .int
  | 1 => .int
  | 2 => .array .int
  | 3 => .int
  | _ => .array .byte
abbrev wsX00 : List Cond := u_ws RX0 TX0 5
theorem nmX0 : ∀ a, a < 5 → ∀ b, b < 5 → a ≠ b → (TX0 a).2.1 ≠ (TX0 b).2.1 := by decide +kernel
theorem tyX0_ok : ∀ k, k < 5 → parseFieldDescriptor (TX0 k).2.2.1 = some (tyX0 k) := by decide +kernel
abbrev cX0_init : ByteArray := prog_2_method_1_code
def yX0_init : MethodName := ⟨RX0, "<init>", "()V"⟩
abbrev cX0_fewest : ByteArray := prog_2_method_2_code
def yX0_fewest : MethodName := ⟨RX0, "fewest", "(LYesPlanes$Points;)I"⟩
abbrev cX0_gather : ByteArray := prog_2_method_3_code
def yX0_gather : MethodName := ⟨RX0, "gather", "(LYesPlanes$Points;)V"⟩
abbrev cX0_widen : ByteArray := prog_2_method_4_code
def yX0_widen : MethodName := ⟨RX0, "widen", "(I)V"⟩
abbrev cX0_findSets : ByteArray := prog_2_method_5_code
def yX0_findSets : MethodName := ⟨RX0, "findSets", "(LYesPlanes$Points;I)V"⟩
abbrev cX0_addSet : ByteArray := prog_2_method_6_code
def yX0_addSet : MethodName := ⟨RX0, "addSet", "(I)V"⟩
abbrev cX0_setWithin : ByteArray := prog_2_method_7_code
def yX0_setWithin : MethodName := ⟨RX0, "setWithin", "(LYesPlanes$Points;III)I"⟩
def RX1 : String := "YesPlanes$Fraction"
def TX1 : u_T := fun k => match k with
  | 0 => ("YesPlanes$Fraction", "top", "J", false)
  | _ => ("YesPlanes$Fraction", "under", "J", false)
def tyX1 : Nat → FieldType := fun k => match k with
  | 0 => .long
  | _ => .long
abbrev wsX10 : List Cond := u_ws RX1 TX1 2
theorem nmX1 : ∀ a, a < 2 → ∀ b, b < 2 → a ≠ b → (TX1 a).2.1 ≠ (TX1 b).2.1 := by decide +kernel
theorem tyX1_ok : ∀ k, k < 2 → parseFieldDescriptor (TX1 k).2.2.1 = some (tyX1 k) := by decide +kernel
abbrev cX1_init : ByteArray := prog_3_method_1_code
def yX1_init : MethodName := ⟨RX1, "<init>", "()V"⟩
abbrev cX1_become : ByteArray := prog_3_method_2_code
def yX1_become : MethodName := ⟨RX1, "become", "(JJ)V"⟩
abbrev cX1_common : ByteArray := prog_3_method_3_code
def yX1_common : MethodName := ⟨RX1, "common", "(JJ)J"⟩
def RX2 : String := "YesPlanes$Judges"
def TX2 : u_T := fun k => match k with
  | 0 => ("YesPlanes$Judges", "many", "I", false)
  | 1 => ("YesPlanes$Judges", "in", "I", false)
  | 2 => ("YesPlanes$Judges", "a", "[I", true)
  | 3 => ("YesPlanes$Judges", "b", "[I", true)
  | _ => ("YesPlanes$Judges", "c", "[I", true)
def tyX2 : Nat → FieldType := fun k => match k with
  | 0 => .int
  | 1 => .int
  | 2 => .array .int
  | 3 => .array .int
  | _ => .array .int
abbrev wsX20 : List Cond := u_ws RX2 TX2 5
theorem nmX2 : ∀ a, a < 5 → ∀ b, b < 5 → a ≠ b → (TX2 a).2.1 ≠ (TX2 b).2.1 := by decide +kernel
theorem tyX2_ok : ∀ k, k < 5 → parseFieldDescriptor (TX2 k).2.2.1 = some (tyX2 k) := by decide +kernel
abbrev cX2_init : ByteArray := prog_4_method_1_code
def yX2_init : MethodName := ⟨RX2, "<init>", "()V"⟩
abbrev cX2_isLine : ByteArray := prog_4_method_2_code
def yX2_isLine : MethodName := ⟨RX2, "isLine", "(III)Z"⟩
abbrev cX2_canBe : ByteArray := prog_4_method_3_code
def yX2_canBe : MethodName := ⟨RX2, "canBe", "(I)Z"⟩
abbrev cX2_heightAbove : ByteArray := prog_4_method_4_code
def yX2_heightAbove : MethodName := ⟨RX2, "heightAbove", "(JJJII)J"⟩
abbrev cX2_add : ByteArray := prog_4_method_5_code
def yX2_add : MethodName := ⟨RX2, "add", "(III)V"⟩
abbrev cX2_become : ByteArray := prog_4_method_6_code
def yX2_become : MethodName := ⟨RX2, "become", "(LYesPlanes$Judges;)V"⟩
abbrev cX2_thin : ByteArray := prog_4_method_7_code
def yX2_thin : MethodName := ⟨RX2, "thin", "(LYesPlanes$Points;)I"⟩
abbrev cX2_sayers : ByteArray := prog_4_method_8_code
def yX2_sayers : MethodName := ⟨RX2, "sayers", "(III)I"⟩
def RX3 : String := "YesPlanes$Learner"
def TX3 : u_T := fun k => match k with
  | 0 => ("YesPlanes$Learner", "p", "J", false)
  | 1 => ("YesPlanes$Learner", "q", "J", false)
  | 2 => ("YesPlanes$Learner", "\x72", "J", false)
  | 3 => ("YesPlanes$Learner", "mistakes", "J", false)
  | _ => ("YesPlanes$Learner", "rounds", "J", false)
def tyX3 : Nat → FieldType := fun k => match k with
  | 0 => .long
  | 1 => .long
  | 2 => .long
  | 3 => .long
  | _ => .long
abbrev wsX30 : List Cond := u_ws RX3 TX3 5
theorem nmX3 : ∀ a, a < 5 → ∀ b, b < 5 → a ≠ b → (TX3 a).2.1 ≠ (TX3 b).2.1 := by decide +kernel
theorem tyX3_ok : ∀ k, k < 5 → parseFieldDescriptor (TX3 k).2.2.1 = some (tyX3 k) := by decide +kernel
abbrev cX3_init : ByteArray := prog_5_method_1_code
def yX3_init : MethodName := ⟨RX3, "<init>", "()V"⟩
abbrev cX3_forget : ByteArray := prog_5_method_2_code
def yX3_forget : MethodName := ⟨RX3, "forget", "()V"⟩
abbrev cX3_become : ByteArray := prog_5_method_3_code
def yX3_become : MethodName := ⟨RX3, "become", "(LYesPlanes$Learner;)V"⟩
abbrev cX3_train : ByteArray := prog_5_method_4_code
def yX3_train : MethodName := ⟨RX3, "train", "(LYesPlanes$Points;I)I"⟩
abbrev cX3_goRound : ByteArray := prog_5_method_5_code
def yX3_goRound : MethodName := ⟨RX3, "goRound", "(LYesPlanes$Points;)I"⟩
abbrev cX3_mend : ByteArray := prog_5_method_6_code
def yX3_mend : MethodName := ⟨RX3, "mend", "(III)V"⟩
def RX4 : String := "YesPlanes$Meeting"
def TX4 : u_T := fun k => match k with
  | 0 => ("YesPlanes$Meeting", "placeX", "LYesPlanes$Fraction;", true)
  | 1 => ("YesPlanes$Meeting", "placeY", "LYesPlanes$Fraction;", true)
  | 2 => ("YesPlanes$Meeting", "kind", "I", false)
  | 3 => ("YesPlanes$Meeting", "many", "I", false)
  | 4 => ("YesPlanes$Meeting", "who", "[I", true)
  | 5 => ("YesPlanes$Meeting", "shares", "[LYesPlanes$Fraction;", true)
  | 6 => ("YesPlanes$Meeting", "yes", "[I", true)
  | 7 => ("YesPlanes$Meeting", "no", "[I", true)
  | 8 => ("YesPlanes$Meeting", "yesMany", "I", false)
  | 9 => ("YesPlanes$Meeting", "noMany", "I", false)
  | _ => ("YesPlanes$Meeting", "seen", "I", false)
def tyX4 : Nat → FieldType := fun k => match k with
  | 0 => .object "YesPlanes$Fraction"
  | 1 => .object "YesPlanes$Fraction"
  | 2 => .int
  | 3 => .int
  | 4 => .array .int
  | 5 => .array (.object "YesPlanes$Fraction")
  | 6 => .array .int
  | 7 => .array .int
  | 8 => .int
  | 9 => .int
  | _ => .int
abbrev wsX40 : List Cond := u_ws RX4 TX4 11
theorem nmX4 : ∀ a, a < 11 → ∀ b, b < 11 → a ≠ b → (TX4 a).2.1 ≠ (TX4 b).2.1 := by decide +kernel
theorem tyX4_ok : ∀ k, k < 11 → parseFieldDescriptor (TX4 k).2.2.1 = some (tyX4 k) := by decide +kernel
abbrev cX4_init : ByteArray := prog_6_method_1_code
def yX4_init : MethodName := ⟨RX4, "<init>", "()V"⟩
abbrev cX4_canTell : ByteArray := prog_6_method_2_code
def yX4_canTell : MethodName := ⟨RX4, "canTell", "(I)Z"⟩
abbrev cX4_tellPoint : ByteArray := prog_6_method_3_code
def yX4_tellPoint : MethodName := ⟨RX4, "tellPoint", "(II)J"⟩
abbrev cX4_find : ByteArray := prog_6_method_4_code
def yX4_find : MethodName := ⟨RX4, "find", "(LYesPlanes$Points;)V"⟩
abbrev cX4_gather : ByteArray := prog_6_method_5_code
def yX4_gather : MethodName := ⟨RX4, "gather", "(LYesPlanes$Points;)V"⟩
abbrev cX4_findOnePlace : ByteArray := prog_6_method_6_code
def yX4_findOnePlace : MethodName := ⟨RX4, "findOnePlace", "(LYesPlanes$Points;)Z"⟩
abbrev cX4_findYesBetween : ByteArray := prog_6_method_7_code
def yX4_findYesBetween : MethodName := ⟨RX4, "findYesBetween", "(LYesPlanes$Points;)Z"⟩
abbrev cX4_findNoBetween : ByteArray := prog_6_method_8_code
def yX4_findNoBetween : MethodName := ⟨RX4, "findNoBetween", "(LYesPlanes$Points;)Z"⟩
abbrev cX4_findYesWithin : ByteArray := prog_6_method_9_code
def yX4_findYesWithin : MethodName := ⟨RX4, "findYesWithin", "(LYesPlanes$Points;)Z"⟩
abbrev cX4_thirdAround : ByteArray := prog_6_method_10_code
def yX4_thirdAround : MethodName := ⟨RX4, "thirdAround", "(LYesPlanes$Points;III)I"⟩
abbrev cX4_findNoWithin : ByteArray := prog_6_method_11_code
def yX4_findNoWithin : MethodName := ⟨RX4, "findNoWithin", "(LYesPlanes$Points;)Z"⟩
abbrev cX4_firstNoWithin : ByteArray := prog_6_method_12_code
def yX4_firstNoWithin : MethodName := ⟨RX4, "firstNoWithin", "(LYesPlanes$Points;III)I"⟩
abbrev cX4_findCrossing : ByteArray := prog_6_method_13_code
def yX4_findCrossing : MethodName := ⟨RX4, "findCrossing", "(LYesPlanes$Points;)Z"⟩
abbrev cX4_otherEndAcross : ByteArray := prog_6_method_14_code
def yX4_otherEndAcross : MethodName := ⟨RX4, "otherEndAcross", "(LYesPlanes$Points;III)I"⟩
abbrev cX4_isSameSide : ByteArray := prog_6_method_15_code
def yX4_isSameSide : MethodName := ⟨RX4, "isSameSide", "(II)Z"⟩
abbrev cX4_isBetween : ByteArray := prog_6_method_16_code
def yX4_isBetween : MethodName := ⟨RX4, "isBetween", "(LYesPlanes$Points;III)Z"⟩
abbrev cX4_hold : ByteArray := prog_6_method_17_code
def yX4_hold : MethodName := ⟨RX4, "hold", "(IIIIII)Z"⟩
abbrev cX4_shareAlone : ByteArray := prog_6_method_18_code
def yX4_shareAlone : MethodName := ⟨RX4, "shareAlone", "(LYesPlanes$Points;I)V"⟩
abbrev cX4_shareBetween : ByteArray := prog_6_method_19_code
def yX4_shareBetween : MethodName := ⟨RX4, "shareBetween", "(LYesPlanes$Points;II)V"⟩
abbrev cX4_shareWithin : ByteArray := prog_6_method_20_code
def yX4_shareWithin : MethodName := ⟨RX4, "shareWithin", "(LYesPlanes$Points;II)V"⟩
abbrev cX4_shareCrossing : ByteArray := prog_6_method_21_code
def yX4_shareCrossing : MethodName := ⟨RX4, "shareCrossing", "(LYesPlanes$Points;)V"⟩
abbrev cX4_shareEnds : ByteArray := prog_6_method_22_code
def yX4_shareEnds : MethodName := ⟨RX4, "shareEnds", "(LYesPlanes$Points;II)V"⟩
def RX5 : String := "YesPlanes$Partings"
def TX5 : u_T := fun k => match k with
  | 0 => ("YesPlanes$Partings", "leastWrong", "I", false)
  | 1 => ("YesPlanes$Partings", "leastWrongSet", "I", false)
  | 2 => ("YesPlanes$Partings", "marks", "[J", true)
  | _ => ("YesPlanes$Partings", "all", "I", false)
def tyX5 : Nat → FieldType := fun k => match k with
  | 0 => .int
  | 1 => .int
  | 2 => .array .long
  | _ => .int
abbrev wsX50 : List Cond := u_ws RX5 TX5 4
theorem nmX5 : ∀ a, a < 4 → ∀ b, b < 4 → a ≠ b → (TX5 a).2.1 ≠ (TX5 b).2.1 := by decide +kernel
theorem tyX5_ok : ∀ k, k < 4 → parseFieldDescriptor (TX5 k).2.2.1 = some (tyX5 k) := by decide +kernel
abbrev cX5_init : ByteArray := prog_7_method_1_code
def yX5_init : MethodName := ⟨RX5, "<init>", "()V"⟩
abbrev cX5_fits : ByteArray := prog_7_method_2_code
def yX5_fits : MethodName := ⟨RX5, "fits", "(II)Z"⟩
abbrev cX5_find : ByteArray := prog_7_method_3_code
def yX5_find : MethodName := ⟨RX5, "find", "(LYesPlanes$Points;I)V"⟩
abbrev cX5_markAlong : ByteArray := prog_7_method_4_code
def yX5_markAlong : MethodName := ⟨RX5, "markAlong", "(LYesPlanes$Points;III)V"⟩
abbrev cX5_markBoth : ByteArray := prog_7_method_5_code
def yX5_markBoth : MethodName := ⟨RX5, "markBoth", "(I)V"⟩
abbrev cX5_mark : ByteArray := prog_7_method_6_code
def yX5_mark : MethodName := ⟨RX5, "mark", "(I)V"⟩
abbrev cX5_isMarked : ByteArray := prog_7_method_7_code
def yX5_isMarked : MethodName := ⟨RX5, "isMarked", "(I)Z"⟩
abbrev cX5_tally : ByteArray := prog_7_method_8_code
def yX5_tally : MethodName := ⟨RX5, "tally", "()I"⟩
abbrev cX5_findLeastWrong : ByteArray := prog_7_method_9_code
def yX5_findLeastWrong : MethodName := ⟨RX5, "findLeastWrong", "(LYesPlanes$Points;I)V"⟩
abbrev cX5_wrongBy : ByteArray := prog_7_method_10_code
def yX5_wrongBy : MethodName := ⟨RX5, "wrongBy", "(LYesPlanes$Points;II)I"⟩
abbrev cX5_isShattered : ByteArray := prog_7_method_11_code
def yX5_isShattered : MethodName := ⟨RX5, "isShattered", "(LYesPlanes$Points;I)Z"⟩
abbrev cX5_nextOf : ByteArray := prog_7_method_12_code
def yX5_nextOf : MethodName := ⟨RX5, "nextOf", "(LYesPlanes$Points;II)I"⟩
def RX6 : String := "YesPlanes$Points"
def TX6 : u_T := fun k => match k with
  | 0 => ("YesPlanes$Points", "x", "[I", true)
  | 1 => ("YesPlanes$Points", "y", "[I", true)
  | 2 => ("YesPlanes$Points", "colour", "[I", true)
  | 3 => ("YesPlanes$Points", "weight", "[I", true)
  | 4 => ("YesPlanes$Points", "many", "I", false)
  | _ => ("YesPlanes$Points", "changes", "I", false)
def tyX6 : Nat → FieldType := fun k => match k with
  | 0 => .array .int
  | 1 => .array .int
  | 2 => .array .int
  | 3 => .array .int
  | 4 => .int
  | _ => .int
abbrev wsX60 : List Cond := u_ws RX6 TX6 6
theorem nmX6 : ∀ a, a < 6 → ∀ b, b < 6 → a ≠ b → (TX6 a).2.1 ≠ (TX6 b).2.1 := by decide +kernel
theorem tyX6_ok : ∀ k, k < 6 → parseFieldDescriptor (TX6 k).2.2.1 = some (tyX6 k) := by decide +kernel
abbrev cX6_init : ByteArray := prog_8_method_1_code
def yX6_init : MethodName := ⟨RX6, "<init>", "()V"⟩
abbrev cX6_isNear : ByteArray := prog_8_method_2_code
def yX6_isNear : MethodName := ⟨RX6, "isNear", "(J)Z"⟩
abbrev cX6_isColour : ByteArray := prog_8_method_3_code
def yX6_isColour : MethodName := ⟨RX6, "isColour", "(I)Z"⟩
abbrev cX6_has : ByteArray := prog_8_method_4_code
def yX6_has : MethodName := ⟨RX6, "has", "(I)Z"⟩
abbrev cX6_add : ByteArray := prog_8_method_5_code
def yX6_add : MethodName := ⟨RX6, "add", "(III)V"⟩
abbrev cX6_remove : ByteArray := prog_8_method_6_code
def yX6_remove : MethodName := ⟨RX6, "remove", "(I)V"⟩
abbrev cX6_repaint : ByteArray := prog_8_method_7_code
def yX6_repaint : MethodName := ⟨RX6, "repaint", "(III)V"⟩
abbrev cX6_become : ByteArray := prog_8_method_8_code
def yX6_become : MethodName := ⟨RX6, "become", "(LYesPlanes$Points;)V"⟩
abbrev cX6_tally : ByteArray := prog_8_method_9_code
def yX6_tally : MethodName := ⟨RX6, "tally", "(I)I"⟩
abbrev cX6_hasBothColours : ByteArray := prog_8_method_10_code
def yX6_hasBothColours : MethodName := ⟨RX6, "hasBothColours", "()Z"⟩
abbrev cX6_allWeights : ByteArray := prog_8_method_11_code
def yX6_allWeights : MethodName := ⟨RX6, "allWeights", "()I"⟩
abbrev cX6_samePlace : ByteArray := prog_8_method_12_code
def yX6_samePlace : MethodName := ⟨RX6, "samePlace", "(II)Z"⟩
abbrev cX6_coloursShareAPlace : ByteArray := prog_8_method_13_code
def yX6_coloursShareAPlace : MethodName := ⟨RX6, "coloursShareAPlace", "()Z"⟩
abbrev cX6_turn : ByteArray := prog_8_method_14_code
def yX6_turn : MethodName := ⟨RX6, "turn", "(III)I"⟩
abbrev cX6_reach : ByteArray := prog_8_method_15_code
def yX6_reach : MethodName := ⟨RX6, "reach", "(III)I"⟩
def RX7 : String := "YesPlanes$Shape"
def TX7 : u_T := fun k => match k with
  | 0 => ("YesPlanes$Shape", "corner", "[I", true)
  | _ => ("YesPlanes$Shape", "corners", "I", false)
def tyX7 : Nat → FieldType := fun k => match k with
  | 0 => .array .int
  | _ => .int
abbrev wsX70 : List Cond := u_ws RX7 TX7 2
theorem nmX7 : ∀ a, a < 2 → ∀ b, b < 2 → a ≠ b → (TX7 a).2.1 ≠ (TX7 b).2.1 := by decide +kernel
theorem tyX7_ok : ∀ k, k < 2 → parseFieldDescriptor (TX7 k).2.2.1 = some (tyX7 k) := by decide +kernel
abbrev cX7_init : ByteArray := prog_9_method_1_code
def yX7_init : MethodName := ⟨RX7, "<init>", "()V"⟩
abbrev cX7_wrap : ByteArray := prog_9_method_2_code
def yX7_wrap : MethodName := ⟨RX7, "wrap", "(LYesPlanes$Points;I)V"⟩
abbrev cX7_lowest : ByteArray := prog_9_method_3_code
def yX7_lowest : MethodName := ⟨RX7, "lowest", "(LYesPlanes$Points;I)I"⟩
abbrev cX7_isLower : ByteArray := prog_9_method_4_code
def yX7_isLower : MethodName := ⟨RX7, "isLower", "(LYesPlanes$Points;II)Z"⟩
abbrev cX7_nextCorner : ByteArray := prog_9_method_5_code
def yX7_nextCorner : MethodName := ⟨RX7, "nextCorner", "(LYesPlanes$Points;II)I"⟩
abbrev cX7_isOuter : ByteArray := prog_9_method_6_code
def yX7_isOuter : MethodName := ⟨RX7, "isOuter", "(LYesPlanes$Points;III)Z"⟩
abbrev cX7_depthAt : ByteArray := prog_9_method_7_code
def yX7_depthAt : MethodName := ⟨RX7, "depthAt", "(LYesPlanes$Points;II)I"⟩
abbrev cX7_lighterSide : ByteArray := prog_9_method_8_code
def yX7_lighterSide : MethodName := ⟨RX7, "lighterSide", "(LYesPlanes$Points;IIII)I"⟩
abbrev cX7_firstHalving : ByteArray := prog_9_method_9_code
def yX7_firstHalving : MethodName := ⟨RX7, "firstHalving", "(LYesPlanes$Points;)I"⟩
abbrev cX7_isHalving : ByteArray := prog_9_method_10_code
def yX7_isHalving : MethodName := ⟨RX7, "isHalving", "(LYesPlanes$Points;IIII)Z"⟩
def RX8 : String := "YesPlanes$Sheet"
def TX8 : u_T := fun k => match k with
  | 0 => ("YesPlanes$Sheet", "row", "[J", true)
  | 1 => ("YesPlanes$Sheet", "there", "Z", false)
  | 2 => ("YesPlanes$Sheet", "kindOfNumber", "I", false)
  | _ => ("YesPlanes$Sheet", "length", "I", false)
def tyX8 : Nat → FieldType := fun k => match k with
  | 0 => .array .long
  | 1 => .boolean
  | 2 => .int
  | _ => .int
abbrev wsX80 : List Cond := u_ws RX8 TX8 4
theorem nmX8 : ∀ a, a < 4 → ∀ b, b < 4 → a ≠ b → (TX8 a).2.1 ≠ (TX8 b).2.1 := by decide +kernel
theorem tyX8_ok : ∀ k, k < 4 → parseFieldDescriptor (TX8 k).2.2.1 = some (tyX8 k) := by decide +kernel
abbrev cX8_init : ByteArray := prog_10_method_1_code
def yX8_init : MethodName := ⟨RX8, "<init>", "()V"⟩
abbrev cX8_lay : ByteArray := prog_10_method_2_code
def yX8_lay : MethodName := ⟨RX8, "lay", "(II)V"⟩
abbrev cX8_tear : ByteArray := prog_10_method_3_code
def yX8_tear : MethodName := ⟨RX8, "tear", "()V"⟩
abbrev cX8_has : ByteArray := prog_10_method_4_code
def yX8_has : MethodName := ⟨RX8, "has", "(I)Z"⟩
abbrev cX8_hasAll : ByteArray := prog_10_method_5_code
def yX8_hasAll : MethodName := ⟨RX8, "hasAll", "(II)Z"⟩
abbrev cX8_put : ByteArray := prog_10_method_6_code
def yX8_put : MethodName := ⟨RX8, "put", "(IJ)V"⟩
abbrev cX8_putAll : ByteArray := prog_10_method_7_code
def yX8_putAll : MethodName := ⟨RX8, "putAll", "(ILYesPlanes$Sheet;II)V"⟩
abbrev cX8_hasEveryX : ByteArray := prog_10_method_8_code
def yX8_hasEveryX : MethodName := ⟨RX8, "hasEveryX", "(II)Z"⟩
abbrev cX8_hasNearPlaces : ByteArray := prog_10_method_9_code
def yX8_hasNearPlaces : MethodName := ⟨RX8, "hasNearPlaces", "(II)Z"⟩
abbrev cX8_numberOrZero : ByteArray := prog_10_method_10_code
def yX8_numberOrZero : MethodName := ⟨RX8, "numberOrZero", "(I)J"⟩
abbrev cX8_cut : ByteArray := prog_10_method_11_code
def yX8_cut : MethodName := ⟨RX8, "cut", "(J)J"⟩
def RX9 : String := "YesPlanes$Strong"
def TX9 : u_T := fun k => match k with
  | 0 => ("YesPlanes$Strong", "axis", "[I", true)
  | 1 => ("YesPlanes$Strong", "edge", "[I", true)
  | 2 => ("YesPlanes$Strong", "sign", "[I", true)
  | 3 => ("YesPlanes$Strong", "wrong", "[J", true)
  | 4 => ("YesPlanes$Strong", "whole", "[J", true)
  | 5 => ("YesPlanes$Strong", "masses", "[J", true)
  | 6 => ("YesPlanes$Strong", "many", "I", false)
  | 7 => ("YesPlanes$Strong", "kept", "I", false)
  | 8 => ("YesPlanes$Strong", "ending", "I", false)
  | 9 => ("YesPlanes$Strong", "fresh", "[J", true)
  | 10 => ("YesPlanes$Strong", "forYes", "[J", true)
  | 11 => ("YesPlanes$Strong", "forNo", "[J", true)
  | 12 => ("YesPlanes$Strong", "chosenAxis", "I", false)
  | 13 => ("YesPlanes$Strong", "chosenEdge", "I", false)
  | 14 => ("YesPlanes$Strong", "chosenSign", "I", false)
  | 15 => ("YesPlanes$Strong", "chosenWrong", "J", false)
  | _ => ("YesPlanes$Strong", "total", "J", false)
def tyX9 : Nat → FieldType := fun k => match k with
  | 0 => .array .int
  | 1 => .array .int
  | 2 => .array .int
  | 3 => .array .long
  | 4 => .array .long
  | 5 => .array .long
  | 6 => .int
  | 7 => .int
  | 8 => .int
  | 9 => .array .long
  | 10 => .array .long
  | 11 => .array .long
  | 12 => .int
  | 13 => .int
  | 14 => .int
  | 15 => .long
  | _ => .long
abbrev wsX90 : List Cond := u_ws RX9 TX9 17
theorem nmX9 : ∀ a, a < 17 → ∀ b, b < 17 → a ≠ b → (TX9 a).2.1 ≠ (TX9 b).2.1 := by decide +kernel
theorem tyX9_ok : ∀ k, k < 17 → parseFieldDescriptor (TX9 k).2.2.1 = some (tyX9 k) := by decide +kernel
abbrev cX9_init : ByteArray := prog_11_method_1_code
def yX9_init : MethodName := ⟨RX9, "<init>", "()V"⟩
abbrev cX9_make : ByteArray := prog_11_method_2_code
def yX9_make : MethodName := ⟨RX9, "make", "(LYesPlanes$Points;I)V"⟩
abbrev cX9_playRound : ByteArray := prog_11_method_3_code
def yX9_playRound : MethodName := ⟨RX9, "playRound", "(LYesPlanes$Points;)V"⟩
abbrev cX9_keepChosen : ByteArray := prog_11_method_4_code
def yX9_keepChosen : MethodName := ⟨RX9, "keepChosen", "()V"⟩
abbrev cX9_choose : ByteArray := prog_11_method_5_code
def yX9_choose : MethodName := ⟨RX9, "choose", "(LYesPlanes$Points;)V"⟩
abbrev cX9_weigh : ByteArray := prog_11_method_6_code
def yX9_weigh : MethodName := ⟨RX9, "weigh", "(LYesPlanes$Points;II)V"⟩
abbrev cX9_offer : ByteArray := prog_11_method_7_code
def yX9_offer : MethodName := ⟨RX9, "offer", "(IIIJ)V"⟩
abbrev cX9_saysYes : ByteArray := prog_11_method_8_code
def yX9_saysYes : MethodName := ⟨RX9, "saysYes", "(IIIII)Z"⟩
abbrev cX9_isWrong : ByteArray := prog_11_method_9_code
def yX9_isWrong : MethodName := ⟨RX9, "isWrong", "(LYesPlanes$Points;I)Z"⟩
abbrev cX9_commonMass : ByteArray := prog_11_method_10_code
def yX9_commonMass : MethodName := ⟨RX9, "commonMass", "(LYesPlanes$Points;Z)J"⟩
abbrev cX9_reweigh : ByteArray := prog_11_method_11_code
def yX9_reweigh : MethodName := ⟨RX9, "reweigh", "(LYesPlanes$Points;)Z"⟩
abbrev cX9_poll : ByteArray := prog_11_method_12_code
def yX9_poll : MethodName := ⟨RX9, "poll", "(II)I"⟩
abbrev cX9_setToOne : ByteArray := prog_11_method_13_code
def yX9_setToOne : MethodName := ⟨RX9, "setToOne", "([J)V"⟩
abbrev cX9_multiply : ByteArray := prog_11_method_14_code
def yX9_multiply : MethodName := ⟨RX9, "multiply", "([JJ)V"⟩
def RX10 : String := "YesPlanes$Way"
def TX10 : u_T := fun k => match k with
  | 0 => ("YesPlanes$Way", "width", "LYesPlanes$Fraction;", true)
  | 1 => ("YesPlanes$Way", "there", "Z", false)
  | 2 => ("YesPlanes$Way", "lineA", "J", false)
  | 3 => ("YesPlanes$Way", "lineB", "J", false)
  | 4 => ("YesPlanes$Way", "lineC", "J", false)
  | 5 => ("YesPlanes$Way", "sidePoints", "I", false)
  | 6 => ("YesPlanes$Way", "seen", "I", false)
  | 7 => ("YesPlanes$Way", "a", "I", false)
  | 8 => ("YesPlanes$Way", "b", "I", false)
  | 9 => ("YesPlanes$Way", "lowYes", "I", false)
  | _ => ("YesPlanes$Way", "highNo", "I", false)
def tyX10 : Nat → FieldType := fun k => match k with
  | 0 => .object "YesPlanes$Fraction"
  | 1 => .boolean
  | 2 => .long
  | 3 => .long
  | 4 => .long
  | 5 => .int
  | 6 => .int
  | 7 => .int
  | 8 => .int
  | 9 => .int
  | _ => .int
abbrev wsX100 : List Cond := u_ws RX10 TX10 11
theorem nmX10 : ∀ a, a < 11 → ∀ b, b < 11 → a ≠ b → (TX10 a).2.1 ≠ (TX10 b).2.1 := by decide +kernel
theorem tyX10_ok : ∀ k, k < 11 → parseFieldDescriptor (TX10 k).2.2.1 = some (tyX10 k) := by decide +kernel
abbrev cX10_init : ByteArray := prog_12_method_1_code
def yX10_init : MethodName := ⟨RX10, "<init>", "()V"⟩
abbrev cX10_find : ByteArray := prog_12_method_2_code
def yX10_find : MethodName := ⟨RX10, "find", "(LYesPlanes$Points;)V"⟩
abbrev cX10_isAtSide : ByteArray := prog_12_method_3_code
def yX10_isAtSide : MethodName := ⟨RX10, "isAtSide", "(LYesPlanes$Points;I)Z"⟩
abbrev cX10_tryPair : ByteArray := prog_12_method_4_code
def yX10_tryPair : MethodName := ⟨RX10, "tryPair", "(LYesPlanes$Points;II)V"⟩
abbrev cX10_tryAcross : ByteArray := prog_12_method_5_code
def yX10_tryAcross : MethodName := ⟨RX10, "tryAcross", "(LYesPlanes$Points;II)V"⟩
abbrev cX10_isWider : ByteArray := prog_12_method_6_code
def yX10_isWider : MethodName := ⟨RX10, "isWider", "(JII)Z"⟩
abbrev cX10_finish : ByteArray := prog_12_method_7_code
def yX10_finish : MethodName := ⟨RX10, "finish", "(LYesPlanes$Points;)V"⟩
abbrev cX10_squareSum : ByteArray := prog_12_method_8_code
def yX10_squareSum : MethodName := ⟨RX10, "squareSum", "(JJ)J"⟩
def RX11 : String := "YesPlanes"
def TX11 : u_T := fun k => match k with
  | 0 => ("YesPlanes", "points", "LYesPlanes$Points;", true)
  | 1 => ("YesPlanes", "judges", "LYesPlanes$Judges;", true)
  | 2 => ("YesPlanes", "learner", "LYesPlanes$Learner;", true)
  | 3 => ("YesPlanes", "sheets", "[LYesPlanes$Sheet;", true)
  | 4 => ("YesPlanes", "keptPoints", "[LYesPlanes$Points;", true)
  | 5 => ("YesPlanes", "keptJudges", "[LYesPlanes$Judges;", true)
  | 6 => ("YesPlanes", "keptLearners", "[LYesPlanes$Learner;", true)
  | 7 => ("YesPlanes", "imageThere", "[Z", true)
  | 8 => ("YesPlanes", "way", "LYesPlanes$Way;", true)
  | 9 => ("YesPlanes", "meeting", "LYesPlanes$Meeting;", true)
  | 10 => ("YesPlanes", "partings", "LYesPlanes$Partings;", true)
  | 11 => ("YesPlanes", "latestStrong", "LYesPlanes$Strong;", true)
  | 12 => ("YesPlanes", "shape", "LYesPlanes$Shape;", true)
  | 13 => ("YesPlanes", "cover", "LYesPlanes$Cover;", true)
  | _ => ("YesPlanes", "refusedBy", "I", false)
def tyX11 : Nat → FieldType := fun k => match k with
  | 0 => .object "YesPlanes$Points"
  | 1 => .object "YesPlanes$Judges"
  | 2 => .object "YesPlanes$Learner"
  | 3 => .array (.object "YesPlanes$Sheet")
  | 4 => .array (.object "YesPlanes$Points")
  | 5 => .array (.object "YesPlanes$Judges")
  | 6 => .array (.object "YesPlanes$Learner")
  | 7 => .array .boolean
  | 8 => .object "YesPlanes$Way"
  | 9 => .object "YesPlanes$Meeting"
  | 10 => .object "YesPlanes$Partings"
  | 11 => .object "YesPlanes$Strong"
  | 12 => .object "YesPlanes$Shape"
  | 13 => .object "YesPlanes$Cover"
  | _ => .int
abbrev wsX110 : List Cond := u_ws RX11 TX11 15
theorem nmX11 : ∀ a, a < 15 → ∀ b, b < 15 → a ≠ b → (TX11 a).2.1 ≠ (TX11 b).2.1 := by decide +kernel
theorem tyX11_ok : ∀ k, k < 15 → parseFieldDescriptor (TX11 k).2.2.1 = some (tyX11 k) := by decide +kernel
abbrev cX11_init : ByteArray := prog_1_method_1_code
def yX11_init : MethodName := ⟨RX11, "<init>", "()V"⟩
abbrev cX11_point : ByteArray := prog_1_method_2_code
def yX11_point : MethodName := ⟨RX11, "point", "(III)I"⟩
abbrev cX11_of : ByteArray := prog_1_method_3_code
def yX11_of : MethodName := ⟨RX11, "of", "(II)I"⟩
abbrev cX11_drop : ByteArray := prog_1_method_4_code
def yX11_drop : MethodName := ⟨RX11, "drop", "(I)I"⟩
abbrev cX11_paint : ByteArray := prog_1_method_5_code
def yX11_paint : MethodName := ⟨RX11, "paint", "(III)I"⟩
abbrev cX11_sheet : ByteArray := prog_1_method_6_code
def yX11_sheet : MethodName := ⟨RX11, "sheet", "(III)I"⟩
abbrev cX11_write : ByteArray := prog_1_method_7_code
def yX11_write : MethodName := ⟨RX11, "write", "(IIJ)I"⟩
abbrev cX11_read : ByteArray := prog_1_method_8_code
def yX11_read : MethodName := ⟨RX11, "read", "(II)J"⟩
abbrev cX11_copy : ByteArray := prog_1_method_9_code
def yX11_copy : MethodName := ⟨RX11, "copy", "(IIIII)I"⟩
abbrev cX11_take : ByteArray := prog_1_method_10_code
def yX11_take : MethodName := ⟨RX11, "take", "(IIII)I"⟩
abbrev cX11_parted : ByteArray := prog_1_method_11_code
def yX11_parted : MethodName := ⟨RX11, "parted", "()I"⟩
abbrev cX11_wide : ByteArray := prog_1_method_12_code
def yX11_wide : MethodName := ⟨RX11, "wide", "(I)J"⟩
abbrev cX11_side : ByteArray := prog_1_method_13_code
def yX11_side : MethodName := ⟨RX11, "side", "(I)I"⟩
abbrev cX11_meet : ByteArray := prog_1_method_14_code
def yX11_meet : MethodName := ⟨RX11, "meet", "(I)J"⟩
abbrev cX11_check : ByteArray := prog_1_method_15_code
def yX11_check : MethodName := ⟨RX11, "check", "(III)I"⟩
abbrev cX11_ways : ByteArray := prog_1_method_16_code
def yX11_ways : MethodName := ⟨RX11, "ways", "(I)I"⟩
abbrev cX11_isWay : ByteArray := prog_1_method_17_code
def yX11_isWay : MethodName := ⟨RX11, "isWay", "(II)I"⟩
abbrev cX11_best : ByteArray := prog_1_method_18_code
def yX11_best : MethodName := ⟨RX11, "best", "(II)I"⟩
abbrev cX11_shatter : ByteArray := prog_1_method_19_code
def yX11_shatter : MethodName := ⟨RX11, "shatter", "(I)I"⟩
abbrev cX11_learn : ByteArray := prog_1_method_20_code
def yX11_learn : MethodName := ⟨RX11, "learn", "(I)I"⟩
abbrev cX11_learnt : ByteArray := prog_1_method_21_code
def yX11_learnt : MethodName := ⟨RX11, "learnt", "(I)J"⟩
abbrev cX11_anew : ByteArray := prog_1_method_22_code
def yX11_anew : MethodName := ⟨RX11, "anew", "()I"⟩
abbrev cX11_judge : ByteArray := prog_1_method_23_code
def yX11_judge : MethodName := ⟨RX11, "judge", "(III)I"⟩
abbrev cX11_halve : ByteArray := prog_1_method_24_code
def yX11_halve : MethodName := ⟨RX11, "halve", "()I"⟩
abbrev cX11_left : ByteArray := prog_1_method_25_code
def yX11_left : MethodName := ⟨RX11, "left", "()I"⟩
abbrev cX11_dismiss : ByteArray := prog_1_method_26_code
def yX11_dismiss : MethodName := ⟨RX11, "dismiss", "()I"⟩
abbrev cX11_strong : ByteArray := prog_1_method_27_code
def yX11_strong : MethodName := ⟨RX11, "strong", "(I)I"⟩
abbrev cX11_step : ByteArray := prog_1_method_28_code
def yX11_step : MethodName := ⟨RX11, "step", "(II)J"⟩
abbrev cX11_end : ByteArray := prog_1_method_29_code
def yX11_end : MethodName := ⟨RX11, "end", "()I"⟩
abbrev cX11_mass : ByteArray := prog_1_method_30_code
def yX11_mass : MethodName := ⟨RX11, "mass", "(I)J"⟩
abbrev cX11_vote : ByteArray := prog_1_method_31_code
def yX11_vote : MethodName := ⟨RX11, "vote", "(II)I"⟩
abbrev cX11_hull : ByteArray := prog_1_method_32_code
def yX11_hull : MethodName := ⟨RX11, "hull", "(II)I"⟩
abbrev cX11_depth : ByteArray := prog_1_method_33_code
def yX11_depth : MethodName := ⟨RX11, "depth", "(II)I"⟩
abbrev cX11_halves : ByteArray := prog_1_method_34_code
def yX11_halves : MethodName := ⟨RX11, "halves", "()I"⟩
abbrev cX11_boxes : ByteArray := prog_1_method_35_code
def yX11_boxes : MethodName := ⟨RX11, "boxes", "()I"⟩
abbrev cX11_image : ByteArray := prog_1_method_36_code
def yX11_image : MethodName := ⟨RX11, "image", "(I)I"⟩
abbrev cX11_back : ByteArray := prog_1_method_37_code
def yX11_back : MethodName := ⟨RX11, "back", "(I)I"⟩
abbrev cX11_count : ByteArray := prog_1_method_38_code
def yX11_count : MethodName := ⟨RX11, "count", "(I)I"⟩
abbrev cX11_status : ByteArray := prog_1_method_39_code
def yX11_status : MethodName := ⟨RX11, "status", "()I"⟩
abbrev cX11_told : ByteArray := prog_1_method_40_code
def yX11_told : MethodName := ⟨RX11, "told", "(I)I"⟩
abbrev cX11_areParted : ByteArray := prog_1_method_41_code
def yX11_areParted : MethodName := ⟨RX11, "areParted", "()Z"⟩
abbrev cX11_canPartFirst : ByteArray := prog_1_method_42_code
def yX11_canPartFirst : MethodName := ⟨RX11, "canPartFirst", "(I)Z"⟩
abbrev cX11_sheetsThere : ByteArray := prog_1_method_43_code
def yX11_sheetsThere : MethodName := ⟨RX11, "sheetsThere", "()I"⟩
abbrev cX11_isSheet : ByteArray := prog_1_method_44_code
def yX11_isSheet : MethodName := ⟨RX11, "isSheet", "(I)Z"⟩
abbrev cX11_isImage : ByteArray := prog_1_method_45_code
def yX11_isImage : MethodName := ⟨RX11, "isImage", "(I)Z"⟩
def RX12 : String := "YesPlanesModel"
def TX12 : u_T := fun k => match k with
  | 0 => ("YesPlanesModel", "thrown", "I", false)
  | 1 => ("YesPlanesModel", "status", "I", false)
  | 2 => ("YesPlanesModel", "px", "[I", true)
  | 3 => ("YesPlanesModel", "py", "[I", true)
  | 4 => ("YesPlanesModel", "pc", "[I", true)
  | 5 => ("YesPlanesModel", "pw", "[I", true)
  | 6 => ("YesPlanesModel", "points", "I", false)
  | 7 => ("YesPlanesModel", "sheet", "[J", true)
  | 8 => ("YesPlanesModel", "sheetSort", "[I", true)
  | 9 => ("YesPlanesModel", "sheetLen", "[I", true)
  | 10 => ("YesPlanesModel", "spare", "[J", true)
  | 11 => ("YesPlanesModel", "meets", "I", false)
  | 12 => ("YesPlanesModel", "meetMany", "I", false)
  | 13 => ("YesPlanesModel", "meetPoint", "[I", true)
  | 14 => ("YesPlanesModel", "shareUp", "[J", true)
  | 15 => ("YesPlanesModel", "shareLow", "[J", true)
  | 16 => ("YesPlanesModel", "placeX", "J", false)
  | 17 => ("YesPlanesModel", "placeY", "J", false)
  | 18 => ("YesPlanesModel", "placeLow", "J", false)
  | 19 => ("YesPlanesModel", "hasWay", "Z", false)
  | 20 => ("YesPlanesModel", "wayA", "J", false)
  | 21 => ("YesPlanesModel", "wayB", "J", false)
  | 22 => ("YesPlanesModel", "wayNo", "J", false)
  | 23 => ("YesPlanesModel", "wayYes", "J", false)
  | 24 => ("YesPlanesModel", "isSet", "[Z", true)
  | 25 => ("YesPlanesModel", "chosen", "[I", true)
  | 26 => ("YesPlanesModel", "chosenMany", "I", false)
  | 27 => ("YesPlanesModel", "along", "[I", true)
  | 28 => ("YesPlanesModel", "p", "J", false)
  | 29 => ("YesPlanesModel", "q", "J", false)
  | 30 => ("YesPlanesModel", "\x72", "J", false)
  | 31 => ("YesPlanesModel", "mistakes", "J", false)
  | 32 => ("YesPlanesModel", "rounds", "J", false)
  | 33 => ("YesPlanesModel", "ja", "[I", true)
  | 34 => ("YesPlanesModel", "jb", "[I", true)
  | 35 => ("YesPlanesModel", "jc", "[I", true)
  | 36 => ("YesPlanesModel", "judges", "I", false)
  | 37 => ("YesPlanesModel", "left", "I", false)
  | 38 => ("YesPlanesModel", "sAxis", "[I", true)
  | 39 => ("YesPlanesModel", "sAt", "[I", true)
  | 40 => ("YesPlanesModel", "sSign", "[I", true)
  | 41 => ("YesPlanesModel", "sWrong", "[J", true)
  | 42 => ("YesPlanesModel", "sAll", "[J", true)
  | 43 => ("YesPlanesModel", "steps", "I", false)
  | 44 => ("YesPlanesModel", "ended", "I", false)
  | 45 => ("YesPlanesModel", "mass", "[J", true)
  | 46 => ("YesPlanesModel", "masses", "I", false)
  | 47 => ("YesPlanesModel", "forYes", "[I", true)
  | 48 => ("YesPlanesModel", "forNo", "[I", true)
  | 49 => ("YesPlanesModel", "other", "[I", true)
  | 50 => ("YesPlanesModel", "corners", "[I", true)
  | 51 => ("YesPlanesModel", "cornerMany", "I", false)
  | 52 => ("YesPlanesModel", "yesAt", "[I", true)
  | 53 => ("YesPlanesModel", "fewest", "[I", true)
  | 54 => ("YesPlanesModel", "isBox", "[Z", true)
  | 55 => ("YesPlanesModel", "iIs", "[Z", true)
  | 56 => ("YesPlanesModel", "iPoints", "[I", true)
  | 57 => ("YesPlanesModel", "iNumbers", "[I", true)
  | 58 => ("YesPlanesModel", "iJudges", "[I", true)
  | 59 => ("YesPlanesModel", "iLines", "[I", true)
  | _ => ("YesPlanesModel", "iLearnt", "[J", true)
def tyX12 : Nat → FieldType := fun k => match k with
  | 0 => .int
  | 1 => .int
  | 2 => .array .int
  | 3 => .array .int
  | 4 => .array .int
  | 5 => .array .int
  | 6 => .int
  | 7 => .array .long
  | 8 => .array .int
  | 9 => .array .int
  | 10 => .array .long
  | 11 => .int
  | 12 => .int
  | 13 => .array .int
  | 14 => .array .long
  | 15 => .array .long
  | 16 => .long
  | 17 => .long
  | 18 => .long
  | 19 => .boolean
  | 20 => .long
  | 21 => .long
  | 22 => .long
  | 23 => .long
  | 24 => .array .boolean
  | 25 => .array .int
  | 26 => .int
  | 27 => .array .int
  | 28 => .long
  | 29 => .long
  | 30 => .long
  | 31 => .long
  | 32 => .long
  | 33 => .array .int
  | 34 => .array .int
  | 35 => .array .int
  | 36 => .int
  | 37 => .int
  | 38 => .array .int
  | 39 => .array .int
  | 40 => .array .int
  | 41 => .array .long
  | 42 => .array .long
  | 43 => .int
  | 44 => .int
  | 45 => .array .long
  | 46 => .int
  | 47 => .array .int
  | 48 => .array .int
  | 49 => .array .int
  | 50 => .array .int
  | 51 => .int
  | 52 => .array .int
  | 53 => .array .int
  | 54 => .array .boolean
  | 55 => .array .boolean
  | 56 => .array .int
  | 57 => .array .int
  | 58 => .array .int
  | 59 => .array .int
  | _ => .array .long
abbrev wsX120 : List Cond := u_ws RX12 TX12 61
theorem nmX12 : ∀ a, a < 61 → ∀ b, b < 61 → a ≠ b → (TX12 a).2.1 ≠ (TX12 b).2.1 := by decide +kernel
theorem tyX12_ok : ∀ k, k < 61 → parseFieldDescriptor (TX12 k).2.2.1 = some (tyX12 k) := by decide +kernel
abbrev cX12_init : ByteArray := prog_14_method_1_code
def yX12_init : MethodName := ⟨RX12, "<init>", "()V"⟩
abbrev cX12_in : ByteArray := prog_14_method_3_code
def yX12_in : MethodName := ⟨RX12, "in", "(JJJ)Z"⟩
abbrev cX12_told : ByteArray := prog_14_method_4_code
def yX12_told : MethodName := ⟨RX12, "told", "(I)I"⟩
abbrev cX12_divisor : ByteArray := prog_14_method_5_code
def yX12_divisor : MethodName := ⟨RX12, "divisor", "(JJ)J"⟩
abbrev cX12_isPoint : ByteArray := prog_14_method_6_code
def yX12_isPoint : MethodName := ⟨RX12, "isPoint", "(I)Z"⟩
abbrev cX12_add : ByteArray := prog_14_method_7_code
def yX12_add : MethodName := ⟨RX12, "add", "(III)V"⟩
abbrev cX12_point : ByteArray := prog_14_method_8_code
def yX12_point : MethodName := ⟨RX12, "point", "(III)I"⟩
abbrev cX12_of : ByteArray := prog_14_method_9_code
def yX12_of : MethodName := ⟨RX12, "of", "(II)I"⟩
abbrev cX12_drop : ByteArray := prog_14_method_10_code
def yX12_drop : MethodName := ⟨RX12, "drop", "(I)I"⟩
abbrev cX12_paint : ByteArray := prog_14_method_11_code
def yX12_paint : MethodName := ⟨RX12, "paint", "(III)I"⟩
abbrev cX12_cut : ByteArray := prog_14_method_12_code
def yX12_cut : MethodName := ⟨RX12, "cut", "(IJ)J"⟩
abbrev cX12_isSheet : ByteArray := prog_14_method_13_code
def yX12_isSheet : MethodName := ⟨RX12, "isSheet", "(I)Z"⟩
abbrev cX12_sheet : ByteArray := prog_14_method_14_code
def yX12_sheet : MethodName := ⟨RX12, "sheet", "(III)I"⟩
abbrev cX12_write : ByteArray := prog_14_method_15_code
def yX12_write : MethodName := ⟨RX12, "write", "(IIJ)I"⟩
abbrev cX12_read : ByteArray := prog_14_method_16_code
def yX12_read : MethodName := ⟨RX12, "read", "(II)J"⟩
abbrev cX12_copy : ByteArray := prog_14_method_17_code
def yX12_copy : MethodName := ⟨RX12, "copy", "(IIIII)I"⟩
abbrev cX12_take : ByteArray := prog_14_method_18_code
def yX12_take : MethodName := ⟨RX12, "take", "(IIII)I"⟩
abbrev cX12_cross : ByteArray := prog_14_method_19_code
def yX12_cross : MethodName := ⟨RX12, "cross", "(JJJJ)J"⟩
abbrev cX12_area : ByteArray := prog_14_method_20_code
def yX12_area : MethodName := ⟨RX12, "area", "(III)J"⟩
abbrev cX12_isAt : ByteArray := prog_14_method_21_code
def yX12_isAt : MethodName := ⟨RX12, "isAt", "(II)Z"⟩
abbrev cX12_isBetween : ByteArray := prog_14_method_22_code
def yX12_isBetween : MethodName := ⟨RX12, "isBetween", "(III)Z"⟩
abbrev cX12_isWithin : ByteArray := prog_14_method_23_code
def yX12_isWithin : MethodName := ⟨RX12, "isWithin", "(IIII)Z"⟩
abbrev cX12_isCrossing : ByteArray := prog_14_method_24_code
def yX12_isCrossing : MethodName := ⟨RX12, "isCrossing", "(IIII)Z"⟩
abbrev cX12_member : ByteArray := prog_14_method_25_code
def yX12_member : MethodName := ⟨RX12, "member", "(IIJJ)V"⟩
abbrev cX12_place : ByteArray := prog_14_method_26_code
def yX12_place : MethodName := ⟨RX12, "place", "(JJJ)V"⟩
abbrev cX12_meetsAt : ByteArray := prog_14_method_27_code
def yX12_meetsAt : MethodName := ⟨RX12, "meetsAt", "(IIII)V"⟩
abbrev cX12_findSame : ByteArray := prog_14_method_28_code
def yX12_findSame : MethodName := ⟨RX12, "findSame", "()Z"⟩
abbrev cX12_findBetween : ByteArray := prog_14_method_29_code
def yX12_findBetween : MethodName := ⟨RX12, "findBetween", "()Z"⟩
abbrev cX12_meetsBy : ByteArray := prog_14_method_30_code
def yX12_meetsBy : MethodName := ⟨RX12, "meetsBy", "(IIIIII)V"⟩
abbrev cX12_findWithin : ByteArray := prog_14_method_31_code
def yX12_findWithin : MethodName := ⟨RX12, "findWithin", "()Z"⟩
abbrev cX12_findOthers : ByteArray := prog_14_method_32_code
def yX12_findOthers : MethodName := ⟨RX12, "findOthers", "(II)Z"⟩
abbrev cX12_findInner : ByteArray := prog_14_method_33_code
def yX12_findInner : MethodName := ⟨RX12, "findInner", "(III)Z"⟩
abbrev cX12_findCrossing : ByteArray := prog_14_method_34_code
def yX12_findCrossing : MethodName := ⟨RX12, "findCrossing", "()Z"⟩
abbrev cX12_findCrossed : ByteArray := prog_14_method_35_code
def yX12_findCrossed : MethodName := ⟨RX12, "findCrossed", "(III)Z"⟩
abbrev cX12_findMeeting : ByteArray := prog_14_method_36_code
def yX12_findMeeting : MethodName := ⟨RX12, "findMeeting", "()V"⟩
abbrev cX12_many : ByteArray := prog_14_method_37_code
def yX12_many : MethodName := ⟨RX12, "many", "(I)I"⟩
abbrev cX12_parted : ByteArray := prog_14_method_38_code
def yX12_parted : MethodName := ⟨RX12, "parted", "()I"⟩
abbrev cX12_part : ByteArray := prog_14_method_39_code
def yX12_part : MethodName := ⟨RX12, "part", "(JJZ)J"⟩
abbrev cX12_meet : ByteArray := prog_14_method_40_code
def yX12_meet : MethodName := ⟨RX12, "meet", "(I)J"⟩
abbrev cX12_tryWay : ByteArray := prog_14_method_41_code
def yX12_tryWay : MethodName := ⟨RX12, "tryWay", "(JJ)V"⟩
abbrev cX12_findWay : ByteArray := prog_14_method_42_code
def yX12_findWay : MethodName := ⟨RX12, "findWay", "()V"⟩
abbrev cX12_isSide : ByteArray := prog_14_method_43_code
def yX12_isSide : MethodName := ⟨RX12, "isSide", "(I)Z"⟩
abbrev cX12_wide : ByteArray := prog_14_method_44_code
def yX12_wide : MethodName := ⟨RX12, "wide", "(I)J"⟩
abbrev cX12_side : ByteArray := prog_14_method_45_code
def yX12_side : MethodName := ⟨RX12, "side", "(I)I"⟩
abbrev cX12_isLine : ByteArray := prog_14_method_46_code
def yX12_isLine : MethodName := ⟨RX12, "isLine", "(III)Z"⟩
abbrev cX12_says : ByteArray := prog_14_method_47_code
def yX12_says : MethodName := ⟨RX12, "says", "(JJJJJ)I"⟩
abbrev cX12_check : ByteArray := prog_14_method_48_code
def yX12_check : MethodName := ⟨RX12, "check", "(III)I"⟩
abbrev cX12_choose : ByteArray := prog_14_method_49_code
def yX12_choose : MethodName := ⟨RX12, "choose", "(I)V"⟩
abbrev cX12_findSets : ByteArray := prog_14_method_50_code
def yX12_findSets : MethodName := ⟨RX12, "findSets", "(I)V"⟩
abbrev cX12_turnAbout : ByteArray := prog_14_method_51_code
def yX12_turnAbout : MethodName := ⟨RX12, "turnAbout", "(II)V"⟩
abbrev cX12_further : ByteArray := prog_14_method_52_code
def yX12_further : MethodName := ⟨RX12, "further", "(III)J"⟩
abbrev cX12_isMany : ByteArray := prog_14_method_53_code
def yX12_isMany : MethodName := ⟨RX12, "isMany", "(I)Z"⟩
abbrev cX12_ways : ByteArray := prog_14_method_54_code
def yX12_ways : MethodName := ⟨RX12, "ways", "(I)I"⟩
abbrev cX12_isWay : ByteArray := prog_14_method_55_code
def yX12_isWay : MethodName := ⟨RX12, "isWay", "(II)I"⟩
abbrev cX12_best : ByteArray := prog_14_method_56_code
def yX12_best : MethodName := ⟨RX12, "best", "(II)I"⟩
abbrev cX12_shatter : ByteArray := prog_14_method_57_code
def yX12_shatter : MethodName := ⟨RX12, "shatter", "(I)I"⟩
abbrev cX12_learn : ByteArray := prog_14_method_58_code
def yX12_learn : MethodName := ⟨RX12, "learn", "(I)I"⟩
abbrev cX12_learnt : ByteArray := prog_14_method_59_code
def yX12_learnt : MethodName := ⟨RX12, "learnt", "(I)J"⟩
abbrev cX12_anew : ByteArray := prog_14_method_60_code
def yX12_anew : MethodName := ⟨RX12, "anew", "()I"⟩
abbrev cX12_judge : ByteArray := prog_14_method_61_code
def yX12_judge : MethodName := ⟨RX12, "judge", "(III)I"⟩
abbrev cX12_halve : ByteArray := prog_14_method_62_code
def yX12_halve : MethodName := ⟨RX12, "halve", "()I"⟩
abbrev cX12_left : ByteArray := prog_14_method_63_code
def yX12_left : MethodName := ⟨RX12, "left", "()I"⟩
abbrev cX12_dismiss : ByteArray := prog_14_method_64_code
def yX12_dismiss : MethodName := ⟨RX12, "dismiss", "()I"⟩
abbrev cX12_stepSays : ByteArray := prog_14_method_65_code
def yX12_stepSays : MethodName := ⟨RX12, "stepSays", "(IIIII)I"⟩
abbrev cX12_wrongOf : ByteArray := prog_14_method_66_code
def yX12_wrongOf : MethodName := ⟨RX12, "wrongOf", "(III)J"⟩
abbrev cX12_findStep : ByteArray := prog_14_method_67_code
def yX12_findStep : MethodName := ⟨RX12, "findStep", "()V"⟩
abbrev cX12_isWrongBy : ByteArray := prog_14_method_68_code
def yX12_isWrongBy : MethodName := ⟨RX12, "isWrongBy", "(II)Z"⟩
abbrev cX12_weigh : ByteArray := prog_14_method_69_code
def yX12_weigh : MethodName := ⟨RX12, "weigh", "(I)Z"⟩
abbrev cX12_strong : ByteArray := prog_14_method_70_code
def yX12_strong : MethodName := ⟨RX12, "strong", "(I)I"⟩
abbrev cX12_step : ByteArray := prog_14_method_71_code
def yX12_step : MethodName := ⟨RX12, "step", "(II)J"⟩
abbrev cX12_end : ByteArray := prog_14_method_72_code
def yX12_end : MethodName := ⟨RX12, "end", "()I"⟩
abbrev cX12_mass : ByteArray := prog_14_method_73_code
def yX12_mass : MethodName := ⟨RX12, "mass", "(I)J"⟩
abbrev cX12_times : ByteArray := prog_14_method_74_code
def yX12_times : MethodName := ⟨RX12, "times", "([IJ)V"⟩
abbrev cX12_vote : ByteArray := prog_14_method_75_code
def yX12_vote : MethodName := ⟨RX12, "vote", "(II)I"⟩
abbrev cX12_findHull : ByteArray := prog_14_method_76_code
def yX12_findHull : MethodName := ⟨RX12, "findHull", "(I)V"⟩
abbrev cX12_far : ByteArray := prog_14_method_77_code
def yX12_far : MethodName := ⟨RX12, "far", "(II)J"⟩
abbrev cX12_hull : ByteArray := prog_14_method_78_code
def yX12_hull : MethodName := ⟨RX12, "hull", "(II)I"⟩
abbrev cX12_depth : ByteArray := prog_14_method_79_code
def yX12_depth : MethodName := ⟨RX12, "depth", "(II)I"⟩
abbrev cX12_halves : ByteArray := prog_14_method_80_code
def yX12_halves : MethodName := ⟨RX12, "halves", "()I"⟩
abbrev cX12_isHalf : ByteArray := prog_14_method_81_code
def yX12_isHalf : MethodName := ⟨RX12, "isHalf", "(IIII)Z"⟩
abbrev cX12_isClear : ByteArray := prog_14_method_82_code
def yX12_isClear : MethodName := ⟨RX12, "isClear", "(II)Z"⟩
abbrev cX12_boxes : ByteArray := prog_14_method_83_code
def yX12_boxes : MethodName := ⟨RX12, "boxes", "()I"⟩
abbrev cX12_image : ByteArray := prog_14_method_84_code
def yX12_image : MethodName := ⟨RX12, "image", "(I)I"⟩
abbrev cX12_back : ByteArray := prog_14_method_85_code
def yX12_back : MethodName := ⟨RX12, "back", "(I)I"⟩
abbrev cX12_count : ByteArray := prog_14_method_86_code
def yX12_count : MethodName := ⟨RX12, "count", "(I)I"⟩
abbrev cX12_status : ByteArray := prog_14_method_87_code
def yX12_status : MethodName := ⟨RX12, "status", "()I"⟩
def RJ6 : String := "java/lang/Integer"
def TJ6 : u_T := fun k => match k with
  | _ => ("", "", "", false)
def tyJ6 : Nat → FieldType := fun k => match k with
  | _ => .int
theorem nmJ6 : ∀ a, a < 0 → ∀ b, b < 0 → a ≠ b → (TJ6 a).2.1 ≠ (TJ6 b).2.1 := by decide +kernel
theorem tyJ6_ok : ∀ k, k < 0 → parseFieldDescriptor (TJ6 k).2.2.1 = some (tyJ6 k) := by decide +kernel
abbrev cJ6_bitCount_0f7a4 : ByteArray := prog_15_method_49_code
def yJ6_bitCount_0f7a4 : MethodName := ⟨RJ6, "bitCount", "(I)I"⟩
def RJ13 : String := "java/lang/Long"
def TJ13 : u_T := fun k => match k with
  | _ => ("", "", "", false)
def tyJ13 : Nat → FieldType := fun k => match k with
  | _ => .int
theorem nmJ13 : ∀ a, a < 0 → ∀ b, b < 0 → a ≠ b → (TJ13 a).2.1 ≠ (TJ13 b).2.1 := by decide +kernel
theorem tyJ13_ok : ∀ k, k < 0 → parseFieldDescriptor (TJ13 k).2.2.1 = some (tyJ13 k) := by decide +kernel
abbrev cJ13_bitCount_95d88 : ByteArray := prog_16_method_50_code
def yJ13_bitCount_95d88 : MethodName := ⟨RJ13, "bitCount", "(J)I"⟩
def RJ9 : String := "java/lang/Math"
def TJ9 : u_T := fun k => match k with
  | _ => ("", "", "", false)
def tyJ9 : Nat → FieldType := fun k => match k with
  | _ => .int
theorem nmJ9 : ∀ a, a < 0 → ∀ b, b < 0 → a ≠ b → (TJ9 a).2.1 ≠ (TJ9 b).2.1 := by decide +kernel
theorem tyJ9_ok : ∀ k, k < 0 → parseFieldDescriptor (TJ9 k).2.2.1 = some (tyJ9 k) := by decide +kernel
abbrev cJ9_abs_0f7a4 : ByteArray := prog_17_method_59_code
def yJ9_abs_0f7a4 : MethodName := ⟨RJ9, "abs", "(I)I"⟩
abbrev cJ9_abs_067f4 : ByteArray := prog_17_method_61_code
def yJ9_abs_067f4 : MethodName := ⟨RJ9, "abs", "(J)J"⟩
abbrev cJ9_max_7cf53 : ByteArray := prog_17_method_65_code
def yJ9_max_7cf53 : MethodName := ⟨RJ9, "max", "(II)I"⟩
abbrev cJ9_max_f86c9 : ByteArray := prog_17_method_66_code
def yJ9_max_f86c9 : MethodName := ⟨RJ9, "max", "(JJ)J"⟩
abbrev cJ9_min_7cf53 : ByteArray := prog_17_method_69_code
def yJ9_min_7cf53 : MethodName := ⟨RJ9, "min", "(II)I"⟩
def RJ10 : String := "java/lang/System"
def TJ10 : u_T := fun k => match k with
  | _ => ("", "", "", false)
def tyJ10 : Nat → FieldType := fun k => match k with
  | _ => .int
theorem nmJ10 : ∀ a, a < 0 → ∀ b, b < 0 → a ≠ b → (TJ10 a).2.1 ≠ (TJ10 b).2.1 := by decide +kernel
theorem tyJ10_ok : ∀ k, k < 0 → parseFieldDescriptor (TJ10 k).2.2.1 = some (tyJ10 k) := by decide +kernel
def RJ7 : String := "java/util/Arrays"
def TJ7 : u_T := fun k => match k with
  | _ => ("", "", "", false)
def tyJ7 : Nat → FieldType := fun k => match k with
  | _ => .int
theorem nmJ7 : ∀ a, a < 0 → ∀ b, b < 0 → a ≠ b → (TJ7 a).2.1 ≠ (TJ7 b).2.1 := by decide +kernel
theorem tyJ7_ok : ∀ k, k < 0 → parseFieldDescriptor (TJ7 k).2.2.1 = some (tyJ7 k) := by decide +kernel
abbrev cJ7_fill_d0a16 : ByteArray := prog_19_method_101_code
def yJ7_fill_d0a16 : MethodName := ⟨RJ7, "fill", "([JJ)V"⟩
abbrev cJ7_fill_031fb : ByteArray := prog_19_method_109_code
def yJ7_fill_031fb : MethodName := ⟨RJ7, "fill", "([BB)V"⟩
def RL : String := "YesPlanesLaw"
abbrev cL_law : ByteArray := code
def yL_law : MethodName := ⟨RL, "law", "([I)Z"⟩
abbrev vwCl : List vw_C := [(RX0, TX0, 5), (RX1, TX1, 2), (RX2, TX2, 5), (RX3, TX3, 5), (RX4, TX4, 11), (RX5, TX5, 4), (RX6, TX6, 6), (RX7, TX7, 2), (RX8, TX8, 4), (RX9, TX9, 17), (RX10, TX10, 11), (RX11, TX11, 15), (RX12, TX12, 61)]
end
section
/-! what the tables' words say of the links -/
def yG : List Cond := lw_tbl.filter goodWord
def yc (p : Nat × Nat) : Option Cond := match p.1 with
  | 0 => (k2_sels lw_privs)[p.2]?
  | 1 => tables_1_1[p.2]?
  | 2 => tables_1_2[p.2]?
  | 3 => tables_1_3[p.2]?
  | 4 => tables_1_4[p.2]?
  | 5 => tables_1_5[p.2]?
  | 6 => tables_1_6[p.2]?
  | _ => tables_1_7[p.2]?
theorem yc_mem {p : Nat × Nat} {w : Cond} (h : yc p = some w) : w ∈ lw_tbl := by
  unfold yc at h
  unfold lw_tbl tables_1
  split at h
  · exact List.mem_append_left _ (List.mem_of_getElem? h)
  · exact List.mem_append_right _ (List.mem_append_left _ (List.mem_of_getElem? h))
  · exact List.mem_append_right _ (List.mem_append_right _ (List.mem_append_left _ (List.mem_of_getElem? h)))
  · exact List.mem_append_right _ (List.mem_append_right _ (List.mem_append_right _ (List.mem_append_left _ (List.mem_of_getElem? h))))
  · exact List.mem_append_right _ (List.mem_append_right _ (List.mem_append_right _ (List.mem_append_right _ (List.mem_append_left _ (List.mem_of_getElem? h)))))
  · exact List.mem_append_right _ (List.mem_append_right _ (List.mem_append_right _ (List.mem_append_right _ (List.mem_append_right _ (List.mem_append_left _ (List.mem_of_getElem? h))))))
  · exact List.mem_append_right _ (List.mem_append_right _ (List.mem_append_right _ (List.mem_append_right _ (List.mem_append_right _ (List.mem_append_right _ (List.mem_append_left _ (List.mem_of_getElem? h)))))))
  · exact List.mem_append_right _ (List.mem_append_right _ (List.mem_append_right _ (List.mem_append_right _ (List.mem_append_right _ (List.mem_append_right _ (List.mem_append_right _ (List.mem_of_getElem? h)))))))
theorem yG_ok : ∀ w ∈ yG, (w.onTables && w.keeps) = true ∨ ∃ ty, w = .arrayClass ty := fun w h => good_of_word (List.mem_filter.mp h).2
theorem yG_in : ∀ w ∈ yG, w ∈ lw_tbl := fun w h => (List.mem_filter.mp h).1
theorem yG_at {w : Cond} (p : Nat × Nat) (h : yc p = some w) (hg : goodWord w = true := by rfl) : w ∈ yG := List.mem_filter.mpr ⟨yc_mem h, hg⟩
theorem yG_all {ws : List Cond} (ps : List (Nat × Nat)) (h : (ws.zip ps).all (fun q => decide (yc q.2 = some q.1) && goodWord q.1) = true) (hl : ws.length = ps.length) : ∀ w ∈ ws, w ∈ yG := by
  intro w hw
  obtain ⟨i, hi⟩ := List.getElem?_of_mem hw
  have hlt : i < ps.length := by
    have := (List.getElem?_eq_some_iff.mp hi).1
    omega
  have h1 : (ws.zip ps)[i]? = some (w, ps[i]) := by
    rw [List.getElem?_zip_eq_some]
    exact ⟨hi, List.getElem?_eq_getElem hlt⟩
  have h2 := List.all_eq_true.mp h _ (List.mem_of_getElem? h1)
  rw [Bool.and_eq_true] at h2
  exact yG_at _ (of_decide_eq_true h2.1) h2.2
def yg_ty : List (Nat → FieldType) := [tyX0, tyX1, tyX2, tyX3, tyX4, tyX5, tyX6, tyX7, tyX8, tyX9, tyX10, tyX11, tyX12]
def yg_cls (ci : Nat) : Prop := ∃ (C : String) (T : u_T) (N : Nat) (ty0 : Nat → FieldType), vwCl[ci]? = some (C, T, N) ∧ yg_ty[ci]? = some ty0 ∧ (∀ w ∈ u_ws C T N, w ∈ yG) ∧ (∀ k, k < N → parseFieldDescriptor (T k).2.2.1 = some (ty0 k)) ∧ ∀ a, a < N → ∀ b, b < N → a ≠ b → (T a).2.1 ≠ (T b).2.1
theorem yg_in0 : ∀ w ∈ wsX00, w ∈ yG := yG_all [(2, 134), (2, 136), (2, 138), (2, 140), (2, 142)] (by decide +kernel) rfl
theorem yg_cls0 : yg_cls 0 := ⟨_, _, _, _, rfl, rfl, yg_in0, tyX0_ok, nmX0⟩
theorem yg_in1 : ∀ w ∈ wsX10, w ∈ yG := yG_all [(1, 166), (1, 168)] (by decide +kernel) rfl
theorem yg_cls1 : yg_cls 1 := ⟨_, _, _, _, rfl, rfl, yg_in1, tyX1_ok, nmX1⟩
theorem yg_in2 : ∀ w ∈ wsX20, w ∈ yG := yG_all [(1, 105), (1, 107), (1, 109), (1, 111), (1, 113)] (by decide +kernel) rfl
theorem yg_cls2 : yg_cls 2 := ⟨_, _, _, _, rfl, rfl, yg_in2, tyX2_ok, nmX2⟩
theorem yg_in3 : ∀ w ∈ wsX30, w ∈ yG := yG_all [(1, 132), (1, 134), (1, 136), (1, 138), (1, 140)] (by decide +kernel) rfl
theorem yg_cls3 : yg_cls 3 := ⟨_, _, _, _, rfl, rfl, yg_in3, tyX3_ok, nmX3⟩
theorem yg_in4 : ∀ w ∈ wsX40, w ∈ yG := yG_all [(1, 236), (1, 238), (2, 0), (2, 2), (2, 4), (2, 6), (2, 8), (2, 10), (2, 12), (2, 14), (2, 16)] (by decide +kernel) rfl
theorem yg_cls4 : yg_cls 4 := ⟨_, _, _, _, rfl, rfl, yg_in4, tyX4_ok, nmX4⟩
theorem yg_in5 : ∀ w ∈ wsX50, w ∈ yG := yG_all [(2, 31), (2, 33), (2, 35), (2, 37)] (by decide +kernel) rfl
theorem yg_cls5 : yg_cls 5 := ⟨_, _, _, _, rfl, rfl, yg_in5, tyX5_ok, nmX5⟩
theorem yg_in6 : ∀ w ∈ wsX60, w ∈ yG := yG_all [(1, 78), (1, 80), (1, 82), (1, 84), (1, 86), (1, 88)] (by decide +kernel) rfl
theorem yg_cls6 : yg_cls 6 := ⟨_, _, _, _, rfl, rfl, yg_in6, tyX6_ok, nmX6⟩
theorem yg_in7 : ∀ w ∈ wsX70, w ∈ yG := yG_all [(2, 118), (2, 120)] (by decide +kernel) rfl
theorem yg_cls7 : yg_cls 7 := ⟨_, _, _, _, rfl, rfl, yg_in7, tyX7_ok, nmX7⟩
theorem yg_in8 : ∀ w ∈ wsX80, w ∈ yG := yG_all [(2, 157), (2, 159), (2, 161), (2, 163)] (by decide +kernel) rfl
theorem yg_cls8 : yg_cls 8 := ⟨_, _, _, _, rfl, rfl, yg_in8, tyX8_ok, nmX8⟩
theorem yg_in9 : ∀ w ∈ wsX90, w ∈ yG := yG_all [(2, 73), (2, 75), (2, 77), (2, 79), (2, 81), (2, 83), (2, 85), (2, 87), (2, 89), (2, 91), (2, 93), (2, 95), (2, 97), (2, 99), (2, 101), (2, 103), (2, 105)] (by decide +kernel) rfl
theorem yg_cls9 : yg_cls 9 := ⟨_, _, _, _, rfl, rfl, yg_in9, tyX9_ok, nmX9⟩
theorem yg_in10 : ∀ w ∈ wsX100, w ∈ yG := yG_all [(1, 189), (1, 191), (1, 193), (1, 195), (1, 197), (1, 199), (1, 201), (1, 203), (1, 205), (1, 207), (1, 209)] (by decide +kernel) rfl
theorem yg_cls10 : yg_cls 10 := ⟨_, _, _, _, rfl, rfl, yg_in10, tyX10_ok, nmX10⟩
theorem yg_in11 : ∀ w ∈ wsX110, w ∈ yG := yG_all [(2, 181), (2, 183), (2, 185), (2, 187), (2, 189), (2, 191), (2, 193), (2, 195), (2, 197), (2, 199), (2, 201), (2, 203), (2, 205), (2, 207), (2, 209)] (by decide +kernel) rfl
theorem yg_cls11 : yg_cls 11 := ⟨_, _, _, _, rfl, rfl, yg_in11, tyX11_ok, nmX11⟩
theorem yg_in12 : ∀ w ∈ wsX120, w ∈ yG := yG_all [(5, 214), (5, 216), (5, 218), (5, 220), (5, 222), (5, 224), (5, 226), (5, 228), (5, 230), (5, 232), (5, 234), (5, 236), (5, 238), (6, 0), (6, 2), (6, 4), (6, 6), (6, 8), (6, 10), (6, 12), (6, 14), (6, 16), (6, 18), (6, 20), (6, 22), (6, 24), (6, 26), (6, 28), (6, 30), (6, 32), (6, 34), (6, 36), (6, 38), (6, 40), (6, 42), (6, 44), (6, 46), (6, 48), (6, 50), (6, 52), (6, 54), (6, 56), (6, 58), (6, 60), (6, 62), (6, 64), (6, 66), (6, 68), (6, 70), (6, 72), (6, 74), (6, 76), (6, 78), (6, 80), (6, 82), (6, 84), (6, 86), (6, 88), (6, 90), (6, 92), (6, 94)] (by decide +kernel) rfl
theorem yg_cls12 : yg_cls 12 := ⟨_, _, _, _, rfl, rfl, yg_in12, tyX12_ok, nmX12⟩
theorem yg_clsall : ∀ ci, ci < 13 → yg_cls ci
  | 0, _ => yg_cls0
  | 1, _ => yg_cls1
  | 2, _ => yg_cls2
  | 3, _ => yg_cls3
  | 4, _ => yg_cls4
  | 5, _ => yg_cls5
  | 6, _ => yg_cls6
  | 7, _ => yg_cls7
  | 8, _ => yg_cls8
  | 9, _ => yg_cls9
  | 10, _ => yg_cls10
  | 11, _ => yg_cls11
  | 12, _ => yg_cls12
  | n + 13, h => absurd h (by omega)
def yg_flc (own : String) (tab : List (Nat × (Nat × Nat × Nat))) (pls : List (Nat × Nat)) : Bool := decide (tab.length = pls.length) && (tab.zip pls).all (fun q => match vwCl[q.1.2.1]?, yg_ty[q.1.2.1]? with
  | some (C, T, N), some ty0 => decide (q.1.2.1 < 13) && (decide (q.1.2.2.1 < N) && (decide (yc q.2 = some (Cond.fieldLink own q.1.1 C (T q.1.2.2.1).2.1 (T q.1.2.2.1).2.2.1)) && (decide ((T q.1.2.2.1).1 = C) && ((decide (q.1.2.2.2 = 2) || decide ((T q.1.2.2.1).2.2.2 = false)) && decide (ys_tk (ty0 q.1.2.2.1) = q.1.2.2.2)))))
  | _, _ => false)
theorem yg_flc_ok {own : String} {tab : List (Nat × (Nat × Nat × Nat))} {pls : List (Nat × Nat)} (h : yg_flc own tab pls = true) (K : ys_K) : ∀ idx c j tk, tab.lookup idx = some (c, j, tk) → ys_Fl own (ys_ws yG K) vwCl idx c j tk := by
  intro idx c j tk hl
  unfold yg_flc at h
  rw [Bool.and_eq_true, decide_eq_true_eq] at h
  obtain ⟨i, hi⟩ := List.getElem?_of_mem (ys_lk3 _ _ _ hl)
  have hlt : i < pls.length := by
    have := (List.getElem?_eq_some_iff.mp hi).1
    omega
  have h1 : (tab.zip pls)[i]? = some ((idx, c, j, tk), pls[i]) := by
    rw [List.getElem?_zip_eq_some]
    exact ⟨hi, List.getElem?_eq_getElem hlt⟩
  have h2 := List.all_eq_true.mp h.2 _ (List.mem_of_getElem? h1)
  dsimp only at h2
  split at h2
  · rename_i C T N ty0 e1 e2
    simp only [Bool.and_eq_true, Bool.or_eq_true, decide_eq_true_eq] at h2
    obtain ⟨a0, a1, a2, a3, a4, a5⟩ := h2
    obtain ⟨C', T', N', ty', b1, b2, b3, b4, b5⟩ := yg_clsall c a0
    rw [e1] at b1
    cases b1
    rw [e2] at b2
    cases b2
    exact ⟨C, T, N, ty0, e1, a1, fun w hw => List.mem_cons_of_mem _ (b3 w hw), b4, b5, List.mem_cons_of_mem _ (yG_at _ a2), a3, fun hn => a4.elim (fun q => absurd q hn) id, a5⟩
  · cases h2
def yg_cic (own : String) (tab : List (Nat × Int)) (pls : List (Nat × Nat)) : Bool := decide (tab.length = pls.length) && (tab.zip pls).all (fun q => decide (yc q.2 = some (Cond.constant own q.1.1 (Int32.ofInt q.1.2))))
def yg_cjc (own : String) (tab : List (Nat × Int)) (pls : List (Nat × Nat)) : Bool := decide (tab.length = pls.length) && (tab.zip pls).all (fun q => decide (yc q.2 = some (Cond.constantLong own q.1.1 (Int64.ofInt q.1.2))))
theorem yg_cic_ok {own : String} {tab : List (Nat × Int)} {pls : List (Nat × Nat)} (h : yg_cic own tab pls = true) (K : ys_K) : ∀ idx z, tab.lookup idx = some z → Cond.constant own idx (Int32.ofInt z) ∈ ys_ws yG K := by
  intro idx z hl
  unfold yg_cic at h
  rw [Bool.and_eq_true, decide_eq_true_eq] at h
  obtain ⟨i, hi⟩ := List.getElem?_of_mem (ys_lk3 _ _ _ hl)
  have hlt : i < pls.length := by
    have := (List.getElem?_eq_some_iff.mp hi).1
    omega
  have h1 : (tab.zip pls)[i]? = some ((idx, z), pls[i]) := by
    rw [List.getElem?_zip_eq_some]
    exact ⟨hi, List.getElem?_eq_getElem hlt⟩
  have h2 := List.all_eq_true.mp h.2 _ (List.mem_of_getElem? h1)
  exact List.mem_cons_of_mem _ (yG_at _ (of_decide_eq_true h2))
theorem yg_cjc_ok {own : String} {tab : List (Nat × Int)} {pls : List (Nat × Nat)} (h : yg_cjc own tab pls = true) (K : ys_K) : ∀ idx z, tab.lookup idx = some z → Cond.constantLong own idx (Int64.ofInt z) ∈ ys_ws yG K := by
  intro idx z hl
  unfold yg_cjc at h
  rw [Bool.and_eq_true, decide_eq_true_eq] at h
  obtain ⟨i, hi⟩ := List.getElem?_of_mem (ys_lk3 _ _ _ hl)
  have hlt : i < pls.length := by
    have := (List.getElem?_eq_some_iff.mp hi).1
    omega
  have h1 : (tab.zip pls)[i]? = some ((idx, z), pls[i]) := by
    rw [List.getElem?_zip_eq_some]
    exact ⟨hi, List.getElem?_eq_getElem hlt⟩
  have h2 := List.all_eq_true.mp h.2 _ (List.mem_of_getElem? h1)
  exact List.mem_cons_of_mem _ (yG_at _ (of_decide_eq_true h2))
theorem yg_goodin {own x : Cond} {ws : List Cond} (h : ∀ w ∈ ws, w ∈ yG) : GoodIn (x :: yG) ws := fun w hw => ⟨List.mem_cons_of_mem _ (h w hw), yG_ok w (h w hw)⟩
theorem yg_CLv {sh : List ys_C} {own : String} {idx k ci : Nat} {C : String} {T : u_T} {N : Nat} {as : List ys_V} {K K' : ys_K} (hy : K'.2.1.1 = .inr (some k) :: as) (hsh : sh[k]? = some (.inl ci)) (hcl : vwCl[ci]? = some (C, T, N)) (hw : ∀ w ∈ wsV own idx C K'.1.1.1 [Cond.code K'.1.1.1 K'.1.1.2.1 K'.1.1.2.2.1 K'.1.1.2.2.2], w ∈ yG) (hd : K'.1.1.1.cls = C ∧ K'.1.1.1.cls ≠ "java/lang/invoke/MethodHandle" ∧ K'.1.1.1.cls ≠ "java/lang/invoke/VarHandle" ∧ (parseMethodDescriptor K'.1.1.1.desc).map (fun d => d.parameters.length) = some as.length) : ys_CL own (ys_ws yG K) vwCl sh yG (.invokevirtual idx) K' := by
  refine Or.inl ⟨idx, k, ci, C, T, N, as, rfl, hy, hsh, hcl, yg_goodin (own := Cond.code K'.1.1.1 K'.1.1.2.1 K'.1.1.2.2.1 K'.1.1.2.2.2) (fun w h => ?_), hd⟩
  unfold wsV ys_ws at h
  rcases List.mem_append.mp h with q | q
  · exact hw w (by unfold wsV; exact List.mem_append_left _ q)
  · rcases List.mem_cons.mp q with q | q
    · exact hw w (by unfold wsV; rw [q]; exact List.mem_append_right _ List.mem_cons_self)
    · exact q
theorem yg_CLs {sh : List ys_C} {own : String} {idx : Nat} {K K' : ys_K} (hw : ∀ w ∈ va_wsS own idx K'.1.1.1 [Cond.code K'.1.1.1 K'.1.1.2.1 K'.1.1.2.2.1 K'.1.1.2.2.2], w ∈ yG) (hd : K'.1.1.1.cls ≠ "java/lang/invoke/MethodHandle" ∧ K'.1.1.1.cls ≠ "java/lang/invoke/VarHandle" ∧ (parseMethodDescriptor K'.1.1.1.desc).map (fun d => d.parameters.length) = some K'.2.1.1.length) : ys_CL own (ys_ws yG K) vwCl sh yG (.invokestatic idx) K' := by
  refine Or.inr ⟨idx, rfl, yg_goodin (own := Cond.code K'.1.1.1 K'.1.1.2.1 K'.1.1.2.2.1 K'.1.1.2.2.2) (fun w h => ?_), hd⟩
  unfold va_wsS ys_ws at h
  rcases List.mem_append.mp h with q | q
  · exact hw w (by unfold va_wsS; exact List.mem_append_left _ q)
  · rcases List.mem_cons.mp q with q | q
    · exact hw w (by unfold va_wsS; rw [q]; exact List.mem_append_right _ List.mem_cons_self)
    · exact q
def yl_flX11 : ys_FL := [(10, 11, 0, 2), (19, 11, 1, 2), (26, 11, 2, 2), (32, 11, 3, 2), (36, 11, 4, 2), (40, 11, 5, 2), (44, 11, 6, 2), (48, 11, 7, 2), (55, 11, 8, 2), (62, 11, 9, 2), (69, 11, 10, 2), (76, 11, 11, 2), (83, 11, 12, 2), (90, 11, 13, 2), (94, 11, 14, 0), (111, 6, 4, 0), (121, 6, 0, 2), (125, 6, 1, 2), (128, 6, 2, 2), (131, 6, 3, 2), (151, 8, 1, 3), (162, 8, 0, 2), (194, 10, 1, 3), (197, 10, 0, 2), (201, 1, 0, 1), (207, 1, 1, 1), (210, 10, 2, 1), (213, 10, 3, 1), (216, 10, 4, 1), (219, 10, 5, 0), (232, 4, 2, 0), (235, 4, 3, 0), (236, 4, 0, 2), (239, 4, 1, 2), (273, 5, 0, 0), (276, 5, 1, 0), (292, 3, 0, 1), (295, 3, 1, 1), (298, 3, 2, 1), (301, 3, 3, 1), (304, 3, 4, 1), (310, 2, 0, 0), (316, 2, 1, 0), (322, 9, 7, 0), (325, 9, 0, 2), (328, 9, 1, 2), (331, 9, 2, 2), (334, 9, 3, 2), (337, 9, 4, 2), (340, 9, 8, 0), (343, 9, 6, 0), (344, 9, 5, 2), (353, 7, 1, 0), (356, 7, 0, 2)]
def yl_ciX11 : List (Nat × Int) := []
def yl_cjX11 : List (Nat × Int) := [(160, (-9223372036854775808)), (188, (-1)), (195, (-6)), (229, (-1000000))]
def yl_cpX11 : List Nat := [100359, 200279]
theorem yl_lkX11 (K : ys_K) : ys_Lk RX11 (ys_ws yG K) vwCl yl_flX11 yl_ciX11 yl_cjX11 yl_cpX11 := by
  refine ⟨yg_flc_ok (pls := [(2, 166), (2, 167), (2, 168), (2, 169), (2, 170), (2, 171), (2, 172), (2, 173), (2, 174), (2, 175), (2, 176), (2, 177), (2, 178), (2, 179), (2, 180), (1, 67), (1, 35), (1, 44), (1, 54), (1, 63), (2, 154), (2, 152), (1, 175), (1, 173), (1, 162), (1, 165), (1, 177), (1, 179), (1, 181), (1, 183), (1, 226), (1, 228), (1, 222), (1, 224), (2, 26), (2, 28), (1, 123), (1, 125), (1, 127), (1, 129), (1, 131), (1, 99), (1, 101), (2, 62), (2, 48), (2, 50), (2, 52), (2, 54), (2, 56), (2, 64), (2, 60), (2, 58), (2, 117), (2, 115)]) (by decide +kernel) K, yg_cic_ok (pls := []) (by decide +kernel) K, yg_cjc_ok (pls := [(3, 55), (3, 166), (3, 167), (3, 180)]) (by decide +kernel) K, fun idx hi => ?_⟩
  rcases List.mem_cons.mp hi with hq | hi
  · subst hq
    exact ⟨List.mem_cons_of_mem _ (yG_at (5, 47) rfl), List.mem_cons_of_mem _ (yG_at (3, 130) rfl), List.mem_cons_of_mem _ (yG_at (1, 16) rfl), List.mem_cons_of_mem _ (yG_at (3, 131) rfl)⟩
  rcases List.mem_cons.mp hi with hq | hi
  · subst hq
    exact ⟨List.mem_cons_of_mem _ (yG_at (4, 113) rfl), List.mem_cons_of_mem _ (yG_at (3, 127) rfl), List.mem_cons_of_mem _ (yG_at (1, 16) rfl), List.mem_cons_of_mem _ (yG_at (3, 128) rfl)⟩
  cases hi
def yl_flX0 : ys_FL := [(9, 0, 0, 2), (15, 0, 1, 0), (19, 0, 2, 2), (22, 0, 3, 0), (25, 0, 4, 2), (47, 6, 4, 0), (52, 6, 2, 2), (55, 6, 0, 2), (65, 6, 1, 2)]
def yl_ciX0 : List (Nat × Int) := []
def yl_cjX0 : List (Nat × Int) := []
def yl_cpX0 : List Nat := [100074, 200068]
theorem yl_lkX0 (K : ys_K) : ys_Lk RX0 (ys_ws yG K) vwCl yl_flX0 yl_ciX0 yl_cjX0 yl_cpX0 := by
  refine ⟨yg_flc_ok (pls := [(2, 129), (2, 130), (2, 131), (2, 132), (2, 133), (1, 70), (1, 53), (1, 37), (1, 48)]) (by decide +kernel) K, yg_cic_ok (pls := []) (by decide +kernel) K, yg_cjc_ok (pls := []) (by decide +kernel) K, fun idx hi => ?_⟩
  rcases List.mem_cons.mp hi with hq | hi
  · subst hq
    exact ⟨List.mem_cons_of_mem _ (yG_at (5, 97) rfl), List.mem_cons_of_mem _ (yG_at (3, 130) rfl), List.mem_cons_of_mem _ (yG_at (1, 16) rfl), List.mem_cons_of_mem _ (yG_at (3, 131) rfl)⟩
  rcases List.mem_cons.mp hi with hq | hi
  · subst hq
    exact ⟨List.mem_cons_of_mem _ (yG_at (5, 96) rfl), List.mem_cons_of_mem _ (yG_at (3, 127) rfl), List.mem_cons_of_mem _ (yG_at (1, 16) rfl), List.mem_cons_of_mem _ (yG_at (3, 128) rfl)⟩
  cases hi
def yl_flX2 : ys_FL := [(9, 2, 0, 0), (15, 2, 1, 0), (18, 2, 2, 2), (22, 2, 3, 2), (25, 2, 4, 2), (40, 6, 4, 0), (43, 6, 0, 2), (46, 6, 1, 2), (59, 6, 2, 2)]
def yl_ciX2 : List (Nat × Int) := [(32, (-1000000)), (33, 1000000)]
def yl_cjX2 : List (Nat × Int) := []
def yl_cpX2 : List Nat := [34]
theorem yl_lkX2 (K : ys_K) : ys_Lk RX2 (ys_ws yG K) vwCl yl_flX2 yl_ciX2 yl_cjX2 yl_cpX2 := by
  refine ⟨yg_flc_ok (pls := [(1, 98), (1, 100), (1, 102), (1, 103), (1, 104), (1, 73), (1, 40), (1, 49), (1, 59)]) (by decide +kernel) K, yg_cic_ok (pls := [(4, 43), (4, 44)]) (by decide +kernel) K, yg_cjc_ok (pls := []) (by decide +kernel) K, fun idx hi => ?_⟩
  rcases List.mem_cons.mp hi with hq | hi
  · subst hq
    exact ⟨List.mem_cons_of_mem _ (yG_at (5, 122) rfl), List.mem_cons_of_mem _ (yG_at (3, 70) rfl), List.mem_cons_of_mem _ (yG_at (3, 69) rfl), List.mem_cons_of_mem _ (yG_at (1, 15) rfl)⟩
  cases hi
def yl_flX3 : ys_FL := [(9, 3, 0, 1), (15, 3, 1, 1), (18, 3, 2, 1), (21, 3, 3, 1), (24, 3, 4, 1), (31, 6, 4, 0), (37, 6, 0, 2), (41, 6, 1, 2), (44, 6, 2, 2)]
def yl_ciX3 : List (Nat × Int) := []
def yl_cjX3 : List (Nat × Int) := []
def yl_cpX3 : List Nat := []
theorem yl_lkX3 (K : ys_K) : ys_Lk RX3 (ys_ws yG K) vwCl yl_flX3 yl_ciX3 yl_cjX3 yl_cpX3 := by
  refine ⟨yg_flc_ok (pls := [(1, 122), (1, 124), (1, 126), (1, 128), (1, 130), (1, 71), (1, 38), (1, 46), (1, 57)]) (by decide +kernel) K, yg_cic_ok (pls := []) (by decide +kernel) K, yg_cjc_ok (pls := []) (by decide +kernel) K, fun idx hi => ?_⟩
  cases hi
def yl_flX4 : ys_FL := [(12, 4, 0, 2), (18, 4, 1, 2), (21, 4, 2, 0), (25, 4, 3, 0), (28, 4, 4, 2), (32, 4, 5, 2), (36, 4, 6, 2), (39, 4, 7, 2), (42, 4, 8, 0), (45, 4, 9, 0), (48, 4, 10, 0), (53, 1, 0, 1), (57, 1, 1, 1), (60, 6, 5, 0), (102, 6, 4, 0), (103, 6, 2, 2), (142, 6, 0, 2), (145, 6, 1, 2)]
def yl_ciX4 : List (Nat × Int) := []
def yl_cjX4 : List (Nat × Int) := [(51, (-1000000))]
def yl_cpX4 : List Nat := []
theorem yl_lkX4 (K : ys_K) : ys_Lk RX4 (ys_ws yG K) vwCl yl_flX4 yl_ciX4 yl_cjX4 yl_cpX4 := by
  refine ⟨yg_flc_ok (pls := [(1, 221), (1, 223), (1, 225), (1, 227), (1, 229), (1, 230), (1, 231), (1, 232), (1, 233), (1, 234), (1, 235), (1, 161), (1, 164), (1, 77), (1, 72), (1, 56), (1, 41), (1, 50)]) (by decide +kernel) K, yg_cic_ok (pls := []) (by decide +kernel) K, yg_cjc_ok (pls := [(4, 32)]) (by decide +kernel) K, fun idx hi => ?_⟩
  cases hi
def yl_flX5 : ys_FL := [(9, 5, 0, 0), (15, 5, 1, 0), (18, 5, 2, 2), (22, 5, 3, 0), (69, 6, 2, 2), (73, 6, 3, 2), (84, 6, 4, 0)]
def yl_ciX5 : List (Nat × Int) := []
def yl_cjX5 : List (Nat × Int) := []
def yl_cpX5 : List Nat := []
theorem yl_lkX5 (K : ys_K) : ys_Lk RX5 (ys_ws yG K) vwCl yl_flX5 yl_ciX5 yl_cjX5 yl_cpX5 := by
  refine ⟨yg_flc_ok (pls := [(2, 25), (2, 27), (2, 29), (2, 30), (1, 60), (1, 64), (1, 74)]) (by decide +kernel) K, yg_cic_ok (pls := []) (by decide +kernel) K, yg_cjc_ok (pls := []) (by decide +kernel) K, fun idx hi => ?_⟩
  cases hi
def yl_flX6 : ys_FL := [(9, 6, 0, 2), (15, 6, 1, 2), (18, 6, 2, 2), (21, 6, 3, 2), (24, 6, 4, 0), (28, 6, 5, 0)]
def yl_ciX6 : List (Nat × Int) := []
def yl_cjX6 : List (Nat × Int) := [(31, (-300)), (33, 300)]
def yl_cpX6 : List Nat := [39]
theorem yl_lkX6 (K : ys_K) : ys_Lk RX6 (ys_ws yG K) vwCl yl_flX6 yl_ciX6 yl_cjX6 yl_cpX6 := by
  refine ⟨yg_flc_ok (pls := [(1, 33), (1, 42), (1, 51), (1, 61), (1, 65), (1, 75)]) (by decide +kernel) K, yg_cic_ok (pls := []) (by decide +kernel) K, yg_cjc_ok (pls := [(2, 219), (2, 220)]) (by decide +kernel) K, fun idx hi => ?_⟩
  rcases List.mem_cons.mp hi with hq | hi
  · subst hq
    exact ⟨List.mem_cons_of_mem _ (yG_at (5, 117) rfl), List.mem_cons_of_mem _ (yG_at (3, 70) rfl), List.mem_cons_of_mem _ (yG_at (3, 69) rfl), List.mem_cons_of_mem _ (yG_at (1, 15) rfl)⟩
  cases hi
def yl_flX7 : ys_FL := [(9, 7, 0, 2), (15, 7, 1, 0), (27, 6, 4, 0), (32, 6, 2, 2), (39, 6, 0, 2), (42, 6, 1, 2)]
def yl_ciX7 : List (Nat × Int) := []
def yl_cjX7 : List (Nat × Int) := []
def yl_cpX7 : List Nat := [100078, 200064]
theorem yl_lkX7 (K : ys_K) : ys_Lk RX7 (ys_ws yG K) vwCl yl_flX7 yl_ciX7 yl_cjX7 yl_cpX7 := by
  refine ⟨yg_flc_ok (pls := [(2, 114), (2, 116), (1, 69), (1, 52), (1, 36), (1, 45)]) (by decide +kernel) K, yg_cic_ok (pls := []) (by decide +kernel) K, yg_cjc_ok (pls := []) (by decide +kernel) K, fun idx hi => ?_⟩
  rcases List.mem_cons.mp hi with hq | hi
  · subst hq
    exact ⟨List.mem_cons_of_mem _ (yG_at (5, 66) rfl), List.mem_cons_of_mem _ (yG_at (3, 130) rfl), List.mem_cons_of_mem _ (yG_at (1, 16) rfl), List.mem_cons_of_mem _ (yG_at (3, 131) rfl)⟩
  rcases List.mem_cons.mp hi with hq | hi
  · subst hq
    exact ⟨List.mem_cons_of_mem _ (yG_at (5, 54) rfl), List.mem_cons_of_mem _ (yG_at (3, 127) rfl), List.mem_cons_of_mem _ (yG_at (1, 16) rfl), List.mem_cons_of_mem _ (yG_at (3, 128) rfl)⟩
  cases hi
def yl_flX8 : ys_FL := [(9, 8, 0, 2), (15, 8, 1, 3), (19, 8, 2, 0), (23, 8, 3, 0)]
def yl_ciX8 : List (Nat × Int) := []
def yl_cjX8 : List (Nat × Int) := [(42, 2)]
def yl_cpX8 : List Nat := [36]
theorem yl_lkX8 (K : ys_K) : ys_Lk RX8 (ys_ws yG K) vwCl yl_flX8 yl_ciX8 yl_cjX8 yl_cpX8 := by
  refine ⟨yg_flc_ok (pls := [(2, 151), (2, 153), (2, 155), (2, 156)]) (by decide +kernel) K, yg_cic_ok (pls := []) (by decide +kernel) K, yg_cjc_ok (pls := [(3, 79)]) (by decide +kernel) K, fun idx hi => ?_⟩
  rcases List.mem_cons.mp hi with hq | hi
  · subst hq
    exact ⟨List.mem_cons_of_mem _ (yG_at (3, 68) rfl), List.mem_cons_of_mem _ (yG_at (3, 70) rfl), List.mem_cons_of_mem _ (yG_at (3, 69) rfl), List.mem_cons_of_mem _ (yG_at (1, 15) rfl)⟩
  cases hi
def yl_flX9 : ys_FL := [(9, 9, 0, 2), (15, 9, 1, 2), (18, 9, 2, 2), (21, 9, 3, 2), (25, 9, 4, 2), (28, 9, 5, 2), (31, 9, 6, 0), (35, 9, 7, 0), (38, 9, 8, 0), (41, 9, 9, 2), (44, 9, 10, 2), (47, 9, 11, 2), (50, 9, 12, 0), (53, 9, 13, 0), (56, 9, 14, 0), (59, 9, 15, 1), (63, 9, 16, 1), (66, 6, 4, 0), (69, 6, 3, 2), (92, 6, 0, 2), (95, 6, 1, 2), (102, 6, 2, 2)]
def yl_ciX9 : List (Nat × Int) := []
def yl_cjX9 : List (Nat × Int) := [(82, 2), (128, 1099511627776), (149, 65535)]
def yl_cpX9 : List Nat := [130]
theorem yl_lkX9 (K : ys_K) : ys_Lk RX9 (ys_ws yG K) vwCl yl_flX9 yl_ciX9 yl_cjX9 yl_cpX9 := by
  refine ⟨yg_flc_ok (pls := [(2, 47), (2, 49), (2, 51), (2, 53), (2, 55), (2, 57), (2, 59), (2, 61), (2, 63), (2, 65), (2, 66), (2, 67), (2, 68), (2, 69), (2, 70), (2, 71), (2, 72), (1, 66), (1, 62), (1, 39), (1, 47), (1, 58)]) (by decide +kernel) K, yg_cic_ok (pls := []) (by decide +kernel) K, yg_cjc_ok (pls := [(4, 215), (4, 230), (5, 19)]) (by decide +kernel) K, fun idx hi => ?_⟩
  rcases List.mem_cons.mp hi with hq | hi
  · subst hq
    exact ⟨List.mem_cons_of_mem _ (yG_at (4, 231) rfl), List.mem_cons_of_mem _ (yG_at (3, 70) rfl), List.mem_cons_of_mem _ (yG_at (3, 69) rfl), List.mem_cons_of_mem _ (yG_at (1, 15) rfl)⟩
  cases hi
def yl_flX10 : ys_FL := [(12, 10, 0, 2), (18, 10, 1, 3), (22, 10, 2, 1), (26, 10, 3, 1), (29, 10, 4, 1), (32, 10, 5, 0), (36, 10, 6, 0), (39, 10, 7, 0), (42, 10, 8, 0), (45, 10, 9, 0), (48, 10, 10, 0), (51, 6, 5, 0), (60, 6, 4, 0), (71, 6, 0, 2), (75, 6, 1, 2), (82, 6, 2, 2)]
def yl_ciX10 : List (Nat × Int) := [(88, 1000000), (89, (-1000000))]
def yl_cjX10 : List (Nat × Int) := [(111, 2)]
def yl_cpX10 : List Nat := [100096, 200090]
theorem yl_lkX10 (K : ys_K) : ys_Lk RX10 (ys_ws yG K) vwCl yl_flX10 yl_ciX10 yl_cjX10 yl_cpX10 := by
  refine ⟨yg_flc_ok (pls := [(1, 172), (1, 174), (1, 176), (1, 178), (1, 180), (1, 182), (1, 184), (1, 185), (1, 186), (1, 187), (1, 188), (1, 76), (1, 68), (1, 34), (1, 43), (1, 55)]) (by decide +kernel) K, yg_cic_ok (pls := [(3, 124), (3, 125)]) (by decide +kernel) K, yg_cjc_ok (pls := [(3, 156)]) (by decide +kernel) K, fun idx hi => ?_⟩
  rcases List.mem_cons.mp hi with hq | hi
  · subst hq
    exact ⟨List.mem_cons_of_mem _ (yG_at (3, 129) rfl), List.mem_cons_of_mem _ (yG_at (3, 130) rfl), List.mem_cons_of_mem _ (yG_at (1, 16) rfl), List.mem_cons_of_mem _ (yG_at (3, 131) rfl)⟩
  rcases List.mem_cons.mp hi with hq | hi
  · subst hq
    exact ⟨List.mem_cons_of_mem _ (yG_at (3, 126) rfl), List.mem_cons_of_mem _ (yG_at (3, 127) rfl), List.mem_cons_of_mem _ (yG_at (1, 16) rfl), List.mem_cons_of_mem _ (yG_at (3, 128) rfl)⟩
  cases hi
def yl_flX12 : ys_FL := [(7, 12, 2, 2), (13, 12, 3, 2), (16, 12, 4, 2), (19, 12, 5, 2), (22, 12, 7, 2), (26, 12, 8, 2), (29, 12, 9, 2), (32, 12, 10, 2), (35, 12, 13, 2), (38, 12, 14, 2), (41, 12, 15, 2), (44, 12, 24, 2), (48, 12, 25, 2), (51, 12, 27, 2), (54, 12, 33, 2), (57, 12, 34, 2), (60, 12, 35, 2), (63, 12, 38, 2), (66, 12, 39, 2), (69, 12, 40, 2), (72, 12, 41, 2), (75, 12, 42, 2), (78, 12, 44, 0), (82, 12, 45, 2), (85, 12, 47, 2), (88, 12, 48, 2), (91, 12, 49, 2), (94, 12, 50, 2), (97, 12, 52, 2), (100, 12, 53, 2), (103, 12, 54, 2), (106, 12, 55, 2), (109, 12, 56, 2), (112, 12, 57, 2), (115, 12, 58, 2), (118, 12, 59, 2), (121, 12, 60, 2), (124, 12, 0, 0), (127, 12, 1, 0), (130, 12, 6, 0), (184, 12, 16, 1), (188, 12, 17, 1), (191, 12, 18, 1), (202, 12, 11, 0), (205, 12, 12, 0), (282, 12, 23, 1), (285, 12, 22, 1), (288, 12, 19, 3), (292, 12, 20, 1), (295, 12, 21, 1), (322, 12, 26, 0), (345, 12, 28, 1), (348, 12, 29, 1), (351, 12, 30, 1), (354, 12, 32, 1), (357, 12, 31, 1), (360, 12, 36, 0), (363, 12, 37, 0), (366, 12, 46, 0), (376, 12, 43, 0), (396, 12, 51, 0)]
def yl_ciX12 : List (Nat × Int) := [(344, 1000000)]
def yl_cjX12 : List (Nat × Int) := [(137, (-300)), (139, 300), (153, 3), (155, 1000), (164, (-9223372036854775808)), (166, 40), (168, 2), (182, (-1)), (256, 10), (258, 13), (260, 20), (262, 23), (264, 30), (266, 33), (268, 43), (270, (-1000000)), (272, (-6)), (274, 39), (280, 9223372036854775807), (305, 5), (313, 1000000), (336, 12), (382, 1099511627776), (390, 65535), (406, (-1000))]
def yl_cpX12 : List Nat := []
theorem yl_lkX12 (K : ys_K) : ys_Lk RX12 (ys_ws yG K) vwCl yl_flX12 yl_ciX12 yl_cjX12 yl_cpX12 := by
  refine ⟨yg_flc_ok (pls := [(5, 155), (5, 156), (5, 157), (5, 158), (5, 160), (5, 161), (5, 162), (5, 163), (5, 166), (5, 167), (5, 168), (5, 177), (5, 178), (5, 180), (5, 186), (5, 187), (5, 188), (5, 191), (5, 192), (5, 193), (5, 194), (5, 195), (5, 197), (5, 198), (5, 200), (5, 201), (5, 202), (5, 203), (5, 205), (5, 206), (5, 207), (5, 208), (5, 209), (5, 210), (5, 211), (5, 212), (5, 213), (5, 153), (5, 154), (5, 159), (5, 169), (5, 170), (5, 171), (5, 164), (5, 165), (5, 176), (5, 175), (5, 172), (5, 173), (5, 174), (5, 179), (5, 181), (5, 182), (5, 183), (5, 185), (5, 184), (5, 189), (5, 190), (5, 199), (5, 196), (5, 204)]) (by decide +kernel) K, yg_cic_ok (pls := [(7, 87)]) (by decide +kernel) K, yg_cjc_ok (pls := [(6, 101), (6, 102), (6, 122), (6, 131), (6, 150), (6, 159), (6, 160), (6, 181), (7, 1), (7, 2), (7, 3), (7, 4), (7, 5), (7, 6), (7, 7), (7, 8), (7, 9), (7, 10), (7, 34), (7, 21), (7, 50), (7, 62), (7, 143), (7, 164), (7, 181)]) (by decide +kernel) K, fun idx hi => ?_⟩
  cases hi
def yl_flJ6 : ys_FL := []
def yl_ciJ6 : List (Nat × Int) := [(265, 1431655765), (266, 858993459), (267, 252645135)]
def yl_cjJ6 : List (Nat × Int) := []
def yl_cpJ6 : List Nat := []
theorem yl_lkJ6 (K : ys_K) : ys_Lk RJ6 (ys_ws yG K) vwCl yl_flJ6 yl_ciJ6 yl_cjJ6 yl_cpJ6 := by
  refine ⟨yg_flc_ok (pls := []) (by decide +kernel) K, yg_cic_ok (pls := [(4, 120), (4, 121), (4, 122)]) (by decide +kernel) K, yg_cjc_ok (pls := []) (by decide +kernel) K, fun idx hi => ?_⟩
  cases hi
def yl_flJ13 : ys_FL := []
def yl_ciJ13 : List (Nat × Int) := []
def yl_cjJ13 : List (Nat × Int) := [(314, 6148914691236517205), (316, 3689348814741910323), (318, 1085102592571150095)]
def yl_cpJ13 : List Nat := []
theorem yl_lkJ13 (K : ys_K) : ys_Lk RJ13 (ys_ws yG K) vwCl yl_flJ13 yl_ciJ13 yl_cjJ13 yl_cpJ13 := by
  refine ⟨yg_flc_ok (pls := []) (by decide +kernel) K, yg_cic_ok (pls := []) (by decide +kernel) K, yg_cjc_ok (pls := [(4, 83), (4, 84), (4, 85)]) (by decide +kernel) K, fun idx hi => ?_⟩
  cases hi
def yl_flJ7 : ys_FL := []
def yl_ciJ7 : List (Nat × Int) := []
def yl_cjJ7 : List (Nat × Int) := []
def yl_cpJ7 : List Nat := []
theorem yl_lkJ7 (K : ys_K) : ys_Lk RJ7 (ys_ws yG K) vwCl yl_flJ7 yl_ciJ7 yl_cjJ7 yl_cpJ7 := by
  refine ⟨yg_flc_ok (pls := []) (by decide +kernel) K, yg_cic_ok (pls := []) (by decide +kernel) K, yg_cjc_ok (pls := []) (by decide +kernel) K, fun idx hi => ?_⟩
  cases hi
theorem yl_wX11_99 : ∀ w ∈ va_wsS RX11 99 yX6_isNear [Cond.code yX6_isNear cX6_isNear 2 (some .boolean)], w ∈ yG := List.forall_mem_cons.mpr ⟨yG_at (2, 216) rfl, List.forall_mem_cons.mpr ⟨yG_at (2, 217) rfl, List.forall_mem_cons.mpr ⟨yG_at (1, 2) rfl, List.forall_mem_cons.mpr ⟨yG_at (2, 218) rfl, fun _ h => absurd h List.not_mem_nil⟩⟩⟩⟩
theorem yl_wX11_103 : ∀ w ∈ va_wsS RX11 103 yX6_isColour [Cond.code yX6_isColour cX6_isColour 1 (some .boolean)], w ∈ yG := List.forall_mem_cons.mpr ⟨yG_at (2, 221) rfl, List.forall_mem_cons.mpr ⟨yG_at (2, 222) rfl, List.forall_mem_cons.mpr ⟨yG_at (1, 2) rfl, List.forall_mem_cons.mpr ⟨yG_at (2, 223) rfl, fun _ h => absurd h List.not_mem_nil⟩⟩⟩⟩
theorem yl_wX11_107 : ∀ w ∈ wsV RX11 107 RX11 yX11_told [Cond.code yX11_told cX11_told 2 (some .int)], w ∈ yG := List.forall_mem_cons.mpr ⟨yG_at (2, 224) rfl, List.forall_mem_cons.mpr ⟨yG_at (2, 226) rfl, List.forall_mem_cons.mpr ⟨yG_at (0, 0) rfl, List.forall_mem_cons.mpr ⟨yG_at (1, 1) rfl, List.forall_mem_cons.mpr ⟨yG_at (2, 227) rfl, fun _ h => absurd h List.not_mem_nil⟩⟩⟩⟩⟩
theorem yl_wX11_114 : ∀ w ∈ wsV RX11 114 RX6 yX6_add [Cond.code yX6_add cX6_add 4 none], w ∈ yG := List.forall_mem_cons.mpr ⟨yG_at (2, 228) rfl, List.forall_mem_cons.mpr ⟨yG_at (2, 229) rfl, List.forall_mem_cons.mpr ⟨yG_at (2, 230) rfl, List.forall_mem_cons.mpr ⟨yG_at (1, 2) rfl, List.forall_mem_cons.mpr ⟨yG_at (2, 231) rfl, fun _ h => absurd h List.not_mem_nil⟩⟩⟩⟩⟩
theorem yl_wX11_118 : ∀ w ∈ wsV RX11 118 RX6 yX6_has [Cond.code yX6_has cX6_has 2 (some .boolean)], w ∈ yG := List.forall_mem_cons.mpr ⟨yG_at (2, 236) rfl, List.forall_mem_cons.mpr ⟨yG_at (2, 237) rfl, List.forall_mem_cons.mpr ⟨yG_at (2, 238) rfl, List.forall_mem_cons.mpr ⟨yG_at (1, 2) rfl, List.forall_mem_cons.mpr ⟨yG_at (2, 239) rfl, fun _ h => absurd h List.not_mem_nil⟩⟩⟩⟩⟩
theorem yl_wX11_141 : ∀ w ∈ va_wsS RX11 141 yX11_isSheet [Cond.code yX11_isSheet cX11_isSheet 1 (some .boolean)], w ∈ yG := List.forall_mem_cons.mpr ⟨yG_at (3, 21) rfl, List.forall_mem_cons.mpr ⟨yG_at (3, 22) rfl, List.forall_mem_cons.mpr ⟨yG_at (1, 1) rfl, List.forall_mem_cons.mpr ⟨yG_at (3, 23) rfl, fun _ h => absurd h List.not_mem_nil⟩⟩⟩⟩
theorem yl_wX11_144 : ∀ w ∈ wsV RX11 144 RX8 yX8_tear [Cond.code yX8_tear cX8_tear 1 none], w ∈ yG := List.forall_mem_cons.mpr ⟨yG_at (3, 24) rfl, List.forall_mem_cons.mpr ⟨yG_at (3, 25) rfl, List.forall_mem_cons.mpr ⟨yG_at (3, 26) rfl, List.forall_mem_cons.mpr ⟨yG_at (1, 12) rfl, List.forall_mem_cons.mpr ⟨yG_at (3, 27) rfl, fun _ h => absurd h List.not_mem_nil⟩⟩⟩⟩⟩
theorem yl_wX11_147 : ∀ w ∈ wsV RX11 147 RX8 yX8_lay [Cond.code yX8_lay cX8_lay 3 none], w ∈ yG := List.forall_mem_cons.mpr ⟨yG_at (3, 28) rfl, List.forall_mem_cons.mpr ⟨yG_at (3, 29) rfl, List.forall_mem_cons.mpr ⟨yG_at (3, 30) rfl, List.forall_mem_cons.mpr ⟨yG_at (1, 12) rfl, List.forall_mem_cons.mpr ⟨yG_at (3, 31) rfl, fun _ h => absurd h List.not_mem_nil⟩⟩⟩⟩⟩
theorem yl_wX11_155 : ∀ w ∈ wsV RX11 155 RX8 yX8_has [Cond.code yX8_has cX8_has 2 (some .boolean)], w ∈ yG := List.forall_mem_cons.mpr ⟨yG_at (3, 39) rfl, List.forall_mem_cons.mpr ⟨yG_at (3, 40) rfl, List.forall_mem_cons.mpr ⟨yG_at (3, 41) rfl, List.forall_mem_cons.mpr ⟨yG_at (1, 12) rfl, List.forall_mem_cons.mpr ⟨yG_at (3, 42) rfl, fun _ h => absurd h List.not_mem_nil⟩⟩⟩⟩⟩
theorem yl_wX11_184 : ∀ w ∈ wsV RX11 184 RX11 yX11_areParted [Cond.code yX11_areParted cX11_areParted 1 (some .boolean)], w ∈ yG := List.forall_mem_cons.mpr ⟨yG_at (3, 95) rfl, List.forall_mem_cons.mpr ⟨yG_at (3, 97) rfl, List.forall_mem_cons.mpr ⟨yG_at (0, 2) rfl, List.forall_mem_cons.mpr ⟨yG_at (1, 1) rfl, List.forall_mem_cons.mpr ⟨yG_at (3, 98) rfl, fun _ h => absurd h List.not_mem_nil⟩⟩⟩⟩⟩
theorem yl_wX11_190 : ∀ w ∈ wsV RX11 190 RX10 yX10_find [Cond.code yX10_find cX10_find 4 none], w ∈ yG := List.forall_mem_cons.mpr ⟨yG_at (3, 107) rfl, List.forall_mem_cons.mpr ⟨yG_at (3, 108) rfl, List.forall_mem_cons.mpr ⟨yG_at (3, 109) rfl, List.forall_mem_cons.mpr ⟨yG_at (1, 5) rfl, List.forall_mem_cons.mpr ⟨yG_at (3, 110) rfl, fun _ h => absurd h List.not_mem_nil⟩⟩⟩⟩⟩
theorem yl_wX11_226 : ∀ w ∈ va_wsS RX11 226 yX4_canTell [Cond.code yX4_canTell cX4_canTell 1 (some .boolean)], w ∈ yG := List.forall_mem_cons.mpr ⟨yG_at (3, 177) rfl, List.forall_mem_cons.mpr ⟨yG_at (3, 178) rfl, List.forall_mem_cons.mpr ⟨yG_at (1, 7) rfl, List.forall_mem_cons.mpr ⟨yG_at (3, 179) rfl, fun _ h => absurd h List.not_mem_nil⟩⟩⟩⟩
theorem yl_wX11_246 : ∀ w ∈ va_wsS RX11 246 yX2_isLine [Cond.code yX2_isLine cX2_isLine 3 (some .boolean)], w ∈ yG := List.forall_mem_cons.mpr ⟨yG_at (4, 37) rfl, List.forall_mem_cons.mpr ⟨yG_at (4, 38) rfl, List.forall_mem_cons.mpr ⟨yG_at (1, 3) rfl, List.forall_mem_cons.mpr ⟨yG_at (4, 39) rfl, fun _ h => absurd h List.not_mem_nil⟩⟩⟩⟩
theorem yl_wX11_254 : ∀ w ∈ wsV RX11 254 RX11 yX11_canPartFirst [Cond.code yX11_canPartFirst cX11_canPartFirst 2 (some .boolean)], w ∈ yG := List.forall_mem_cons.mpr ⟨yG_at (4, 52) rfl, List.forall_mem_cons.mpr ⟨yG_at (4, 54) rfl, List.forall_mem_cons.mpr ⟨yG_at (0, 23) rfl, List.forall_mem_cons.mpr ⟨yG_at (1, 1) rfl, List.forall_mem_cons.mpr ⟨yG_at (4, 55) rfl, fun _ h => absurd h List.not_mem_nil⟩⟩⟩⟩⟩
theorem yl_wX11_257 : ∀ w ∈ wsV RX11 257 RX5 yX5_find [Cond.code yX5_find cX5_find 5 none], w ∈ yG := List.forall_mem_cons.mpr ⟨yG_at (4, 56) rfl, List.forall_mem_cons.mpr ⟨yG_at (4, 57) rfl, List.forall_mem_cons.mpr ⟨yG_at (4, 58) rfl, List.forall_mem_cons.mpr ⟨yG_at (1, 8) rfl, List.forall_mem_cons.mpr ⟨yG_at (4, 59) rfl, fun _ h => absurd h List.not_mem_nil⟩⟩⟩⟩⟩
theorem yl_wX11_260 : ∀ w ∈ wsV RX11 260 RX5 yX5_tally [Cond.code yX5_tally cX5_tally 3 (some .int)], w ∈ yG := List.forall_mem_cons.mpr ⟨yG_at (4, 76) rfl, List.forall_mem_cons.mpr ⟨yG_at (4, 77) rfl, List.forall_mem_cons.mpr ⟨yG_at (4, 78) rfl, List.forall_mem_cons.mpr ⟨yG_at (1, 8) rfl, List.forall_mem_cons.mpr ⟨yG_at (4, 79) rfl, fun _ h => absurd h List.not_mem_nil⟩⟩⟩⟩⟩
theorem yl_wX11_264 : ∀ w ∈ va_wsS RX11 264 yX5_fits [Cond.code yX5_fits cX5_fits 2 (some .boolean)], w ∈ yG := List.forall_mem_cons.mpr ⟨yG_at (4, 90) rfl, List.forall_mem_cons.mpr ⟨yG_at (4, 91) rfl, List.forall_mem_cons.mpr ⟨yG_at (1, 8) rfl, List.forall_mem_cons.mpr ⟨yG_at (4, 92) rfl, fun _ h => absurd h List.not_mem_nil⟩⟩⟩⟩
theorem yl_wX11_267 : ∀ w ∈ wsV RX11 267 RX5 yX5_isMarked [Cond.code yX5_isMarked cX5_isMarked 2 (some .boolean)], w ∈ yG := List.forall_mem_cons.mpr ⟨yG_at (4, 93) rfl, List.forall_mem_cons.mpr ⟨yG_at (4, 94) rfl, List.forall_mem_cons.mpr ⟨yG_at (4, 95) rfl, List.forall_mem_cons.mpr ⟨yG_at (1, 8) rfl, List.forall_mem_cons.mpr ⟨yG_at (4, 96) rfl, fun _ h => absurd h List.not_mem_nil⟩⟩⟩⟩⟩
theorem yl_wX11_270 : ∀ w ∈ wsV RX11 270 RX5 yX5_findLeastWrong [Cond.code yX5_findLeastWrong cX5_findLeastWrong 5 none], w ∈ yG := List.forall_mem_cons.mpr ⟨yG_at (4, 101) rfl, List.forall_mem_cons.mpr ⟨yG_at (4, 102) rfl, List.forall_mem_cons.mpr ⟨yG_at (4, 103) rfl, List.forall_mem_cons.mpr ⟨yG_at (1, 8) rfl, List.forall_mem_cons.mpr ⟨yG_at (4, 104) rfl, fun _ h => absurd h List.not_mem_nil⟩⟩⟩⟩⟩
theorem yl_wX11_285 : ∀ w ∈ va_wsS RX11 285 yX5_isShattered [Cond.code yX5_isShattered cX5_isShattered 6 (some .boolean)], w ∈ yG := List.forall_mem_cons.mpr ⟨yG_at (4, 114) rfl, List.forall_mem_cons.mpr ⟨yG_at (4, 115) rfl, List.forall_mem_cons.mpr ⟨yG_at (1, 8) rfl, List.forall_mem_cons.mpr ⟨yG_at (4, 116) rfl, fun _ h => absurd h List.not_mem_nil⟩⟩⟩⟩
theorem yl_wX11_288 : ∀ w ∈ wsV RX11 288 RX3 yX3_train [Cond.code yX3_train cX3_train 6 (some .int)], w ∈ yG := List.forall_mem_cons.mpr ⟨yG_at (4, 130) rfl, List.forall_mem_cons.mpr ⟨yG_at (4, 131) rfl, List.forall_mem_cons.mpr ⟨yG_at (4, 132) rfl, List.forall_mem_cons.mpr ⟨yG_at (1, 4) rfl, List.forall_mem_cons.mpr ⟨yG_at (4, 133) rfl, fun _ h => absurd h List.not_mem_nil⟩⟩⟩⟩⟩
theorem yl_wX11_307 : ∀ w ∈ wsV RX11 307 RX3 yX3_forget [Cond.code yX3_forget cX3_forget 1 none], w ∈ yG := List.forall_mem_cons.mpr ⟨yG_at (4, 150) rfl, List.forall_mem_cons.mpr ⟨yG_at (4, 151) rfl, List.forall_mem_cons.mpr ⟨yG_at (4, 152) rfl, List.forall_mem_cons.mpr ⟨yG_at (1, 4) rfl, List.forall_mem_cons.mpr ⟨yG_at (4, 153) rfl, fun _ h => absurd h List.not_mem_nil⟩⟩⟩⟩⟩
theorem yl_wX11_311 : ∀ w ∈ wsV RX11 311 RX2 yX2_add [Cond.code yX2_add cX2_add 4 none], w ∈ yG := List.forall_mem_cons.mpr ⟨yG_at (4, 158) rfl, List.forall_mem_cons.mpr ⟨yG_at (4, 159) rfl, List.forall_mem_cons.mpr ⟨yG_at (4, 160) rfl, List.forall_mem_cons.mpr ⟨yG_at (1, 3) rfl, List.forall_mem_cons.mpr ⟨yG_at (4, 161) rfl, fun _ h => absurd h List.not_mem_nil⟩⟩⟩⟩⟩
theorem yl_wX11_347 : ∀ w ∈ wsV RX11 347 RX9 yX9_poll [Cond.code yX9_poll cX9_poll 5 (some .int)], w ∈ yG := List.forall_mem_cons.mpr ⟨yG_at (5, 8) rfl, List.forall_mem_cons.mpr ⟨yG_at (5, 9) rfl, List.forall_mem_cons.mpr ⟨yG_at (5, 10) rfl, List.forall_mem_cons.mpr ⟨yG_at (1, 9) rfl, List.forall_mem_cons.mpr ⟨yG_at (5, 11) rfl, fun _ h => absurd h List.not_mem_nil⟩⟩⟩⟩⟩
theorem yl_wX11_350 : ∀ w ∈ wsV RX11 350 RX7 yX7_wrap [Cond.code yX7_wrap cX7_wrap 6 none], w ∈ yG := List.forall_mem_cons.mpr ⟨yG_at (5, 24) rfl, List.forall_mem_cons.mpr ⟨yG_at (5, 25) rfl, List.forall_mem_cons.mpr ⟨yG_at (5, 26) rfl, List.forall_mem_cons.mpr ⟨yG_at (1, 10) rfl, List.forall_mem_cons.mpr ⟨yG_at (5, 27) rfl, fun _ h => absurd h List.not_mem_nil⟩⟩⟩⟩⟩
theorem yl_wX11_362 : ∀ w ∈ va_wsS RX11 362 yX7_depthAt [Cond.code yX7_depthAt cX7_depthAt 8 (some .int)], w ∈ yG := List.forall_mem_cons.mpr ⟨yG_at (5, 48) rfl, List.forall_mem_cons.mpr ⟨yG_at (5, 49) rfl, List.forall_mem_cons.mpr ⟨yG_at (1, 10) rfl, List.forall_mem_cons.mpr ⟨yG_at (5, 50) rfl, fun _ h => absurd h List.not_mem_nil⟩⟩⟩⟩
theorem yl_wX11_366 : ∀ w ∈ va_wsS RX11 366 yX7_firstHalving [Cond.code yX7_firstHalving cX7_firstHalving 5 (some .int)], w ∈ yG := List.forall_mem_cons.mpr ⟨yG_at (5, 59) rfl, List.forall_mem_cons.mpr ⟨yG_at (5, 60) rfl, List.forall_mem_cons.mpr ⟨yG_at (1, 10) rfl, List.forall_mem_cons.mpr ⟨yG_at (5, 61) rfl, fun _ h => absurd h List.not_mem_nil⟩⟩⟩⟩
theorem yl_wX11_369 : ∀ w ∈ wsV RX11 369 RX6 yX6_tally [Cond.code yX6_tally cX6_tally 4 (some .int)], w ∈ yG := List.forall_mem_cons.mpr ⟨yG_at (5, 71) rfl, List.forall_mem_cons.mpr ⟨yG_at (3, 104) rfl, List.forall_mem_cons.mpr ⟨yG_at (3, 105) rfl, List.forall_mem_cons.mpr ⟨yG_at (1, 2) rfl, List.forall_mem_cons.mpr ⟨yG_at (3, 106) rfl, fun _ h => absurd h List.not_mem_nil⟩⟩⟩⟩⟩
theorem yl_wX11_371 : ∀ w ∈ wsV RX11 371 RX6 yX6_coloursShareAPlace [Cond.code yX6_coloursShareAPlace cX6_coloursShareAPlace 3 (some .boolean)], w ∈ yG := List.forall_mem_cons.mpr ⟨yG_at (5, 72) rfl, List.forall_mem_cons.mpr ⟨yG_at (5, 73) rfl, List.forall_mem_cons.mpr ⟨yG_at (5, 74) rfl, List.forall_mem_cons.mpr ⟨yG_at (1, 2) rfl, List.forall_mem_cons.mpr ⟨yG_at (5, 75) rfl, fun _ h => absurd h List.not_mem_nil⟩⟩⟩⟩⟩
theorem yl_wX11_374 : ∀ w ∈ wsV RX11 374 RX0 yX0_fewest [Cond.code yX0_fewest cX0_fewest 5 (some .int)], w ∈ yG := List.forall_mem_cons.mpr ⟨yG_at (5, 77) rfl, List.forall_mem_cons.mpr ⟨yG_at (5, 78) rfl, List.forall_mem_cons.mpr ⟨yG_at (5, 79) rfl, List.forall_mem_cons.mpr ⟨yG_at (1, 11) rfl, List.forall_mem_cons.mpr ⟨yG_at (5, 80) rfl, fun _ h => absurd h List.not_mem_nil⟩⟩⟩⟩⟩
theorem yl_wX11_377 : ∀ w ∈ va_wsS RX11 377 yX11_isImage [Cond.code yX11_isImage cX11_isImage 1 (some .boolean)], w ∈ yG := List.forall_mem_cons.mpr ⟨yG_at (5, 110) rfl, List.forall_mem_cons.mpr ⟨yG_at (5, 111) rfl, List.forall_mem_cons.mpr ⟨yG_at (1, 1) rfl, List.forall_mem_cons.mpr ⟨yG_at (5, 112) rfl, fun _ h => absurd h List.not_mem_nil⟩⟩⟩⟩
theorem yl_wX11_380 : ∀ w ∈ wsV RX11 380 RX6 yX6_become [Cond.code yX6_become cX6_become 2 none], w ∈ yG := List.forall_mem_cons.mpr ⟨yG_at (5, 113) rfl, List.forall_mem_cons.mpr ⟨yG_at (5, 114) rfl, List.forall_mem_cons.mpr ⟨yG_at (5, 115) rfl, List.forall_mem_cons.mpr ⟨yG_at (1, 2) rfl, List.forall_mem_cons.mpr ⟨yG_at (5, 116) rfl, fun _ h => absurd h List.not_mem_nil⟩⟩⟩⟩⟩
theorem yl_wX11_383 : ∀ w ∈ wsV RX11 383 RX2 yX2_become [Cond.code yX2_become cX2_become 2 none], w ∈ yG := List.forall_mem_cons.mpr ⟨yG_at (5, 118) rfl, List.forall_mem_cons.mpr ⟨yG_at (5, 119) rfl, List.forall_mem_cons.mpr ⟨yG_at (5, 120) rfl, List.forall_mem_cons.mpr ⟨yG_at (1, 3) rfl, List.forall_mem_cons.mpr ⟨yG_at (5, 121) rfl, fun _ h => absurd h List.not_mem_nil⟩⟩⟩⟩⟩
theorem yl_wX11_386 : ∀ w ∈ wsV RX11 386 RX3 yX3_become [Cond.code yX3_become cX3_become 2 none], w ∈ yG := List.forall_mem_cons.mpr ⟨yG_at (5, 123) rfl, List.forall_mem_cons.mpr ⟨yG_at (5, 124) rfl, List.forall_mem_cons.mpr ⟨yG_at (5, 125) rfl, List.forall_mem_cons.mpr ⟨yG_at (1, 4) rfl, List.forall_mem_cons.mpr ⟨yG_at (5, 126) rfl, fun _ h => absurd h List.not_mem_nil⟩⟩⟩⟩⟩
theorem yl_wX11_389 : ∀ w ∈ wsV RX11 389 RX6 yX6_allWeights [Cond.code yX6_allWeights cX6_allWeights 3 (some .int)], w ∈ yG := List.forall_mem_cons.mpr ⟨yG_at (5, 135) rfl, List.forall_mem_cons.mpr ⟨yG_at (5, 136) rfl, List.forall_mem_cons.mpr ⟨yG_at (5, 137) rfl, List.forall_mem_cons.mpr ⟨yG_at (1, 2) rfl, List.forall_mem_cons.mpr ⟨yG_at (5, 138) rfl, fun _ h => absurd h List.not_mem_nil⟩⟩⟩⟩⟩
theorem yl_wX11_392 : ∀ w ∈ wsV RX11 392 RX11 yX11_sheetsThere [Cond.code yX11_sheetsThere cX11_sheetsThere 3 (some .int)], w ∈ yG := List.forall_mem_cons.mpr ⟨yG_at (5, 139) rfl, List.forall_mem_cons.mpr ⟨yG_at (5, 141) rfl, List.forall_mem_cons.mpr ⟨yG_at (0, 43) rfl, List.forall_mem_cons.mpr ⟨yG_at (1, 1) rfl, List.forall_mem_cons.mpr ⟨yG_at (5, 142) rfl, fun _ h => absurd h List.not_mem_nil⟩⟩⟩⟩⟩
theorem yl_wX11_395 : ∀ w ∈ wsV RX11 395 RX6 yX6_hasBothColours [Cond.code yX6_hasBothColours cX6_hasBothColours 2 (some .boolean)], w ∈ yG := List.forall_mem_cons.mpr ⟨yG_at (3, 99) rfl, List.forall_mem_cons.mpr ⟨yG_at (3, 100) rfl, List.forall_mem_cons.mpr ⟨yG_at (3, 101) rfl, List.forall_mem_cons.mpr ⟨yG_at (1, 2) rfl, List.forall_mem_cons.mpr ⟨yG_at (3, 102) rfl, fun _ h => absurd h List.not_mem_nil⟩⟩⟩⟩⟩
theorem yl_wX0_29 : ∀ w ∈ wsV RX0 29 RX0 yX0_gather [Cond.code yX0_gather cX0_gather 3 none], w ∈ yG := List.forall_mem_cons.mpr ⟨yG_at (5, 81) rfl, List.forall_mem_cons.mpr ⟨yG_at (5, 83) rfl, List.forall_mem_cons.mpr ⟨yG_at (0, 38) rfl, List.forall_mem_cons.mpr ⟨yG_at (1, 11) rfl, List.forall_mem_cons.mpr ⟨yG_at (5, 84) rfl, fun _ h => absurd h List.not_mem_nil⟩⟩⟩⟩⟩
theorem yl_wX0_33 : ∀ w ∈ va_wsS RX0 33 yJ7_fill_031fb [Cond.code yJ7_fill_031fb cJ7_fill_031fb 4 none], w ∈ yG := List.forall_mem_cons.mpr ⟨yG_at (5, 85) rfl, List.forall_mem_cons.mpr ⟨yG_at (5, 86) rfl, List.forall_mem_cons.mpr ⟨yG_at (1, 14) rfl, List.forall_mem_cons.mpr ⟨yG_at (5, 87) rfl, fun _ h => absurd h List.not_mem_nil⟩⟩⟩⟩
theorem yl_wX2_28 : ∀ w ∈ va_wsS RX2 28 yX2_canBe [Cond.code yX2_canBe cX2_canBe 1 (some .boolean)], w ∈ yG := List.forall_mem_cons.mpr ⟨yG_at (4, 40) rfl, List.forall_mem_cons.mpr ⟨yG_at (4, 41) rfl, List.forall_mem_cons.mpr ⟨yG_at (1, 3) rfl, List.forall_mem_cons.mpr ⟨yG_at (4, 42) rfl, fun _ h => absurd h List.not_mem_nil⟩⟩⟩⟩
theorem yl_wX3_27 : ∀ w ∈ wsV RX3 27 RX3 yX3_goRound [Cond.code yX3_goRound cX3_goRound 6 (some .int)], w ∈ yG := List.forall_mem_cons.mpr ⟨yG_at (4, 134) rfl, List.forall_mem_cons.mpr ⟨yG_at (4, 136) rfl, List.forall_mem_cons.mpr ⟨yG_at (0, 27) rfl, List.forall_mem_cons.mpr ⟨yG_at (1, 4) rfl, List.forall_mem_cons.mpr ⟨yG_at (4, 137) rfl, fun _ h => absurd h List.not_mem_nil⟩⟩⟩⟩⟩
theorem yl_wX5_25 : ∀ w ∈ va_wsS RX5 25 yJ7_fill_d0a16 [Cond.code yJ7_fill_d0a16 cJ7_fill_d0a16 5 none], w ∈ yG := List.forall_mem_cons.mpr ⟨yG_at (4, 60) rfl, List.forall_mem_cons.mpr ⟨yG_at (3, 33) rfl, List.forall_mem_cons.mpr ⟨yG_at (1, 14) rfl, List.forall_mem_cons.mpr ⟨yG_at (3, 34) rfl, fun _ h => absurd h List.not_mem_nil⟩⟩⟩⟩
theorem yl_wX5_31 : ∀ w ∈ wsV RX5 31 RX5 yX5_markBoth [Cond.code yX5_markBoth cX5_markBoth 2 none], w ∈ yG := List.forall_mem_cons.mpr ⟨yG_at (4, 61) rfl, List.forall_mem_cons.mpr ⟨yG_at (4, 63) rfl, List.forall_mem_cons.mpr ⟨yG_at (0, 24) rfl, List.forall_mem_cons.mpr ⟨yG_at (1, 8) rfl, List.forall_mem_cons.mpr ⟨yG_at (4, 64) rfl, fun _ h => absurd h List.not_mem_nil⟩⟩⟩⟩⟩
theorem yl_wX5_52 : ∀ w ∈ wsV RX5 52 RX5 yX5_mark [Cond.code yX5_mark cX5_mark 2 none], w ∈ yG := List.forall_mem_cons.mpr ⟨yG_at (4, 65) rfl, List.forall_mem_cons.mpr ⟨yG_at (4, 67) rfl, List.forall_mem_cons.mpr ⟨yG_at (0, 25) rfl, List.forall_mem_cons.mpr ⟨yG_at (1, 8) rfl, List.forall_mem_cons.mpr ⟨yG_at (4, 68) rfl, fun _ h => absurd h List.not_mem_nil⟩⟩⟩⟩⟩
theorem yl_wX5_55 : ∀ w ∈ va_wsS RX5 55 yJ13_bitCount_95d88 [Cond.code yJ13_bitCount_95d88 cJ13_bitCount_95d88 2 (some .int)], w ∈ yG := List.forall_mem_cons.mpr ⟨yG_at (4, 80) rfl, List.forall_mem_cons.mpr ⟨yG_at (4, 81) rfl, List.forall_mem_cons.mpr ⟨yG_at (1, 17) rfl, List.forall_mem_cons.mpr ⟨yG_at (4, 82) rfl, fun _ h => absurd h List.not_mem_nil⟩⟩⟩⟩
theorem yl_wX5_61 : ∀ w ∈ wsV RX5 61 RX5 yX5_isMarked [Cond.code yX5_isMarked cX5_isMarked 2 (some .boolean)], w ∈ yG := List.forall_mem_cons.mpr ⟨yG_at (4, 105) rfl, List.forall_mem_cons.mpr ⟨yG_at (4, 94) rfl, List.forall_mem_cons.mpr ⟨yG_at (4, 95) rfl, List.forall_mem_cons.mpr ⟨yG_at (1, 8) rfl, List.forall_mem_cons.mpr ⟨yG_at (4, 96) rfl, fun _ h => absurd h List.not_mem_nil⟩⟩⟩⟩⟩
theorem yl_wX5_65 : ∀ w ∈ va_wsS RX5 65 yX5_wrongBy [Cond.code yX5_wrongBy cX5_wrongBy 5 (some .int)], w ∈ yG := List.forall_mem_cons.mpr ⟨yG_at (4, 106) rfl, List.forall_mem_cons.mpr ⟨yG_at (4, 107) rfl, List.forall_mem_cons.mpr ⟨yG_at (1, 8) rfl, List.forall_mem_cons.mpr ⟨yG_at (4, 108) rfl, fun _ h => absurd h List.not_mem_nil⟩⟩⟩⟩
theorem yl_wX5_76 : ∀ w ∈ va_wsS RX5 76 yJ6_bitCount_0f7a4 [Cond.code yJ6_bitCount_0f7a4 cJ6_bitCount_0f7a4 1 (some .int)], w ∈ yG := List.forall_mem_cons.mpr ⟨yG_at (4, 117) rfl, List.forall_mem_cons.mpr ⟨yG_at (4, 118) rfl, List.forall_mem_cons.mpr ⟨yG_at (1, 18) rfl, List.forall_mem_cons.mpr ⟨yG_at (4, 119) rfl, fun _ h => absurd h List.not_mem_nil⟩⟩⟩⟩
theorem yl_wX5_81 : ∀ w ∈ va_wsS RX5 81 yX5_nextOf [Cond.code yX5_nextOf cX5_nextOf 4 (some .int)], w ∈ yG := List.forall_mem_cons.mpr ⟨yG_at (4, 123) rfl, List.forall_mem_cons.mpr ⟨yG_at (4, 124) rfl, List.forall_mem_cons.mpr ⟨yG_at (1, 8) rfl, List.forall_mem_cons.mpr ⟨yG_at (4, 125) rfl, fun _ h => absurd h List.not_mem_nil⟩⟩⟩⟩
theorem yl_wX6_45 : ∀ w ∈ wsV RX6 45 RX6 yX6_tally [Cond.code yX6_tally cX6_tally 4 (some .int)], w ∈ yG := List.forall_mem_cons.mpr ⟨yG_at (3, 103) rfl, List.forall_mem_cons.mpr ⟨yG_at (3, 104) rfl, List.forall_mem_cons.mpr ⟨yG_at (3, 105) rfl, List.forall_mem_cons.mpr ⟨yG_at (1, 2) rfl, List.forall_mem_cons.mpr ⟨yG_at (3, 106) rfl, fun _ h => absurd h List.not_mem_nil⟩⟩⟩⟩⟩
theorem yl_wX7_19 : ∀ w ∈ va_wsS RX7 19 yX7_lowest [Cond.code yX7_lowest cX7_lowest 4 (some .int)], w ∈ yG := List.forall_mem_cons.mpr ⟨yG_at (5, 28) rfl, List.forall_mem_cons.mpr ⟨yG_at (5, 29) rfl, List.forall_mem_cons.mpr ⟨yG_at (1, 10) rfl, List.forall_mem_cons.mpr ⟨yG_at (5, 30) rfl, fun _ h => absurd h List.not_mem_nil⟩⟩⟩⟩
theorem yl_wX7_70 : ∀ w ∈ wsV RX7 70 RX6 yX6_tally [Cond.code yX6_tally cX6_tally 4 (some .int)], w ∈ yG := List.forall_mem_cons.mpr ⟨yG_at (5, 62) rfl, List.forall_mem_cons.mpr ⟨yG_at (3, 104) rfl, List.forall_mem_cons.mpr ⟨yG_at (3, 105) rfl, List.forall_mem_cons.mpr ⟨yG_at (1, 2) rfl, List.forall_mem_cons.mpr ⟨yG_at (3, 106) rfl, fun _ h => absurd h List.not_mem_nil⟩⟩⟩⟩⟩
theorem yl_wX8_26 : ∀ w ∈ va_wsS RX8 26 yJ7_fill_d0a16 [Cond.code yJ7_fill_d0a16 cJ7_fill_d0a16 5 none], w ∈ yG := List.forall_mem_cons.mpr ⟨yG_at (3, 32) rfl, List.forall_mem_cons.mpr ⟨yG_at (3, 33) rfl, List.forall_mem_cons.mpr ⟨yG_at (1, 14) rfl, List.forall_mem_cons.mpr ⟨yG_at (3, 34) rfl, fun _ h => absurd h List.not_mem_nil⟩⟩⟩⟩
theorem yl_wX9_136 : ∀ w ∈ va_wsS RX9 136 yX9_setToOne [Cond.code yX9_setToOne cX9_setToOne 1 none], w ∈ yG := List.forall_mem_cons.mpr ⟨yG_at (5, 12) rfl, List.forall_mem_cons.mpr ⟨yG_at (5, 13) rfl, List.forall_mem_cons.mpr ⟨yG_at (1, 9) rfl, List.forall_mem_cons.mpr ⟨yG_at (5, 14) rfl, fun _ h => absurd h List.not_mem_nil⟩⟩⟩⟩
theorem yl_wX9_144 : ∀ w ∈ va_wsS RX9 144 yJ7_fill_d0a16 [Cond.code yJ7_fill_d0a16 cJ7_fill_d0a16 5 none], w ∈ yG := List.forall_mem_cons.mpr ⟨yG_at (5, 15) rfl, List.forall_mem_cons.mpr ⟨yG_at (3, 33) rfl, List.forall_mem_cons.mpr ⟨yG_at (1, 14) rfl, List.forall_mem_cons.mpr ⟨yG_at (3, 34) rfl, fun _ h => absurd h List.not_mem_nil⟩⟩⟩⟩
theorem yl_wX10_56 : ∀ w ∈ wsV RX10 56 RX6 yX6_hasBothColours [Cond.code yX6_hasBothColours cX6_hasBothColours 2 (some .boolean)], w ∈ yG := List.forall_mem_cons.mpr ⟨yG_at (3, 111) rfl, List.forall_mem_cons.mpr ⟨yG_at (3, 100) rfl, List.forall_mem_cons.mpr ⟨yG_at (3, 101) rfl, List.forall_mem_cons.mpr ⟨yG_at (1, 2) rfl, List.forall_mem_cons.mpr ⟨yG_at (3, 102) rfl, fun _ h => absurd h List.not_mem_nil⟩⟩⟩⟩⟩
theorem yl_wX12_133 : ∀ w ∈ va_wsS RX12 133 yX12_in [Cond.code yX12_in cX12_in 6 (some .boolean)], w ∈ yG := List.forall_mem_cons.mpr ⟨yG_at (6, 103) rfl, List.forall_mem_cons.mpr ⟨yG_at (6, 104) rfl, List.forall_mem_cons.mpr ⟨yG_at (1, 13) rfl, List.forall_mem_cons.mpr ⟨yG_at (6, 105) rfl, fun _ h => absurd h List.not_mem_nil⟩⟩⟩⟩
theorem yl_wX12_141 : ∀ w ∈ wsV RX12 141 RX12 yX12_told [Cond.code yX12_told cX12_told 2 (some .int)], w ∈ yG := List.forall_mem_cons.mpr ⟨yG_at (6, 106) rfl, List.forall_mem_cons.mpr ⟨yG_at (6, 108) rfl, List.forall_mem_cons.mpr ⟨yG_at (0, 44) rfl, List.forall_mem_cons.mpr ⟨yG_at (1, 13) rfl, List.forall_mem_cons.mpr ⟨yG_at (6, 109) rfl, fun _ h => absurd h List.not_mem_nil⟩⟩⟩⟩⟩
theorem yl_wX12_145 : ∀ w ∈ wsV RX12 145 RX12 yX12_add [Cond.code yX12_add cX12_add 4 none], w ∈ yG := List.forall_mem_cons.mpr ⟨yG_at (6, 110) rfl, List.forall_mem_cons.mpr ⟨yG_at (6, 112) rfl, List.forall_mem_cons.mpr ⟨yG_at (0, 45) rfl, List.forall_mem_cons.mpr ⟨yG_at (1, 13) rfl, List.forall_mem_cons.mpr ⟨yG_at (6, 113) rfl, fun _ h => absurd h List.not_mem_nil⟩⟩⟩⟩⟩
theorem yl_wX12_149 : ∀ w ∈ wsV RX12 149 RX12 yX12_isPoint [Cond.code yX12_isPoint cX12_isPoint 2 (some .boolean)], w ∈ yG := List.forall_mem_cons.mpr ⟨yG_at (6, 118) rfl, List.forall_mem_cons.mpr ⟨yG_at (6, 120) rfl, List.forall_mem_cons.mpr ⟨yG_at (0, 46) rfl, List.forall_mem_cons.mpr ⟨yG_at (1, 13) rfl, List.forall_mem_cons.mpr ⟨yG_at (6, 121) rfl, fun _ h => absurd h List.not_mem_nil⟩⟩⟩⟩⟩
theorem yl_wX12_157 : ∀ w ∈ va_wsS RX12 157 yX12_isSheet [Cond.code yX12_isSheet cX12_isSheet 1 (some .boolean)], w ∈ yG := List.forall_mem_cons.mpr ⟨yG_at (6, 136) rfl, List.forall_mem_cons.mpr ⟨yG_at (6, 137) rfl, List.forall_mem_cons.mpr ⟨yG_at (1, 13) rfl, List.forall_mem_cons.mpr ⟨yG_at (6, 138) rfl, fun _ h => absurd h List.not_mem_nil⟩⟩⟩⟩
theorem yl_wX12_236 : ∀ w ∈ wsV RX12 236 RX12 yX12_findSame [Cond.code yX12_findSame cX12_findSame 3 (some .boolean)], w ∈ yG := List.forall_mem_cons.mpr ⟨yG_at (6, 169) rfl, List.forall_mem_cons.mpr ⟨yG_at (6, 171) rfl, List.forall_mem_cons.mpr ⟨yG_at (0, 48) rfl, List.forall_mem_cons.mpr ⟨yG_at (1, 13) rfl, List.forall_mem_cons.mpr ⟨yG_at (6, 172) rfl, fun _ h => absurd h List.not_mem_nil⟩⟩⟩⟩⟩
theorem yl_wX12_240 : ∀ w ∈ wsV RX12 240 RX12 yX12_findBetween [Cond.code yX12_findBetween cX12_findBetween 4 (some .boolean)], w ∈ yG := List.forall_mem_cons.mpr ⟨yG_at (6, 186) rfl, List.forall_mem_cons.mpr ⟨yG_at (6, 188) rfl, List.forall_mem_cons.mpr ⟨yG_at (0, 52) rfl, List.forall_mem_cons.mpr ⟨yG_at (1, 13) rfl, List.forall_mem_cons.mpr ⟨yG_at (6, 189) rfl, fun _ h => absurd h List.not_mem_nil⟩⟩⟩⟩⟩
theorem yl_wX12_243 : ∀ w ∈ wsV RX12 243 RX12 yX12_findWithin [Cond.code yX12_findWithin cX12_findWithin 4 (some .boolean)], w ∈ yG := List.forall_mem_cons.mpr ⟨yG_at (6, 209) rfl, List.forall_mem_cons.mpr ⟨yG_at (6, 211) rfl, List.forall_mem_cons.mpr ⟨yG_at (0, 57) rfl, List.forall_mem_cons.mpr ⟨yG_at (1, 13) rfl, List.forall_mem_cons.mpr ⟨yG_at (6, 212) rfl, fun _ h => absurd h List.not_mem_nil⟩⟩⟩⟩⟩
theorem yl_wX12_246 : ∀ w ∈ wsV RX12 246 RX12 yX12_findCrossing [Cond.code yX12_findCrossing cX12_findCrossing 4 (some .boolean)], w ∈ yG := List.forall_mem_cons.mpr ⟨yG_at (6, 225) rfl, List.forall_mem_cons.mpr ⟨yG_at (6, 227) rfl, List.forall_mem_cons.mpr ⟨yG_at (0, 61) rfl, List.forall_mem_cons.mpr ⟨yG_at (1, 13) rfl, List.forall_mem_cons.mpr ⟨yG_at (6, 228) rfl, fun _ h => absurd h List.not_mem_nil⟩⟩⟩⟩⟩
theorem yl_wX12_249 : ∀ w ∈ wsV RX12 249 RX12 yX12_findMeeting [Cond.code yX12_findMeeting cX12_findMeeting 2 none], w ∈ yG := List.forall_mem_cons.mpr ⟨yG_at (6, 165) rfl, List.forall_mem_cons.mpr ⟨yG_at (6, 167) rfl, List.forall_mem_cons.mpr ⟨yG_at (0, 47) rfl, List.forall_mem_cons.mpr ⟨yG_at (1, 13) rfl, List.forall_mem_cons.mpr ⟨yG_at (6, 168) rfl, fun _ h => absurd h List.not_mem_nil⟩⟩⟩⟩⟩
theorem yl_wX12_298 : ∀ w ∈ wsV RX12 298 RX12 yX12_many [Cond.code yX12_many cX12_many 4 (some .int)], w ∈ yG := List.forall_mem_cons.mpr ⟨yG_at (7, 26) rfl, List.forall_mem_cons.mpr ⟨yG_at (7, 28) rfl, List.forall_mem_cons.mpr ⟨yG_at (0, 65) rfl, List.forall_mem_cons.mpr ⟨yG_at (1, 13) rfl, List.forall_mem_cons.mpr ⟨yG_at (7, 29) rfl, fun _ h => absurd h List.not_mem_nil⟩⟩⟩⟩⟩
theorem yl_wX12_307 : ∀ w ∈ wsV RX12 307 RX12 yX12_findWay [Cond.code yX12_findWay cX12_findWay 9 none], w ∈ yG := List.forall_mem_cons.mpr ⟨yG_at (7, 22) rfl, List.forall_mem_cons.mpr ⟨yG_at (7, 24) rfl, List.forall_mem_cons.mpr ⟨yG_at (0, 64) rfl, List.forall_mem_cons.mpr ⟨yG_at (1, 13) rfl, List.forall_mem_cons.mpr ⟨yG_at (7, 25) rfl, fun _ h => absurd h List.not_mem_nil⟩⟩⟩⟩⟩
theorem yl_wX12_315 : ∀ w ∈ va_wsS RX12 315 yX12_isLine [Cond.code yX12_isLine cX12_isLine 3 (some .boolean)], w ∈ yG := List.forall_mem_cons.mpr ⟨yG_at (7, 47) rfl, List.forall_mem_cons.mpr ⟨yG_at (7, 48) rfl, List.forall_mem_cons.mpr ⟨yG_at (1, 13) rfl, List.forall_mem_cons.mpr ⟨yG_at (7, 49) rfl, fun _ h => absurd h List.not_mem_nil⟩⟩⟩⟩
theorem yl_wX12_325 : ∀ w ∈ wsV RX12 325 RX12 yX12_choose [Cond.code yX12_choose cX12_choose 3 none], w ∈ yG := List.forall_mem_cons.mpr ⟨yG_at (7, 67) rfl, List.forall_mem_cons.mpr ⟨yG_at (7, 69) rfl, List.forall_mem_cons.mpr ⟨yG_at (0, 70) rfl, List.forall_mem_cons.mpr ⟨yG_at (1, 13) rfl, List.forall_mem_cons.mpr ⟨yG_at (7, 70) rfl, fun _ h => absurd h List.not_mem_nil⟩⟩⟩⟩⟩
theorem yl_wX12_338 : ∀ w ∈ wsV RX12 338 RX12 yX12_isMany [Cond.code yX12_isMany cX12_isMany 2 (some .boolean)], w ∈ yG := List.forall_mem_cons.mpr ⟨yG_at (7, 58) rfl, List.forall_mem_cons.mpr ⟨yG_at (7, 60) rfl, List.forall_mem_cons.mpr ⟨yG_at (0, 68) rfl, List.forall_mem_cons.mpr ⟨yG_at (1, 13) rfl, List.forall_mem_cons.mpr ⟨yG_at (7, 61) rfl, fun _ h => absurd h List.not_mem_nil⟩⟩⟩⟩⟩
theorem yl_wX12_341 : ∀ w ∈ wsV RX12 341 RX12 yX12_findSets [Cond.code yX12_findSets cX12_findSets 4 none], w ∈ yG := List.forall_mem_cons.mpr ⟨yG_at (7, 63) rfl, List.forall_mem_cons.mpr ⟨yG_at (7, 65) rfl, List.forall_mem_cons.mpr ⟨yG_at (0, 69) rfl, List.forall_mem_cons.mpr ⟨yG_at (1, 13) rfl, List.forall_mem_cons.mpr ⟨yG_at (7, 66) rfl, fun _ h => absurd h List.not_mem_nil⟩⟩⟩⟩⟩
theorem yl_wX12_403 : ∀ w ∈ wsV RX12 403 RX12 yX12_findHull [Cond.code yX12_findHull cX12_findHull 9 none], w ∈ yG := List.forall_mem_cons.mpr ⟨yG_at (7, 169) rfl, List.forall_mem_cons.mpr ⟨yG_at (7, 171) rfl, List.forall_mem_cons.mpr ⟨yG_at (0, 78) rfl, List.forall_mem_cons.mpr ⟨yG_at (1, 13) rfl, List.forall_mem_cons.mpr ⟨yG_at (7, 172) rfl, fun _ h => absurd h List.not_mem_nil⟩⟩⟩⟩⟩
theorem yl_wX12_414 : ∀ w ∈ wsV RX12 414 RX12 yX12_learnt [Cond.code yX12_learnt cX12_learnt 2 (some .long)], w ∈ yG := List.forall_mem_cons.mpr ⟨yG_at (7, 202) rfl, List.forall_mem_cons.mpr ⟨yG_at (7, 97) rfl, List.forall_mem_cons.mpr ⟨yG_at (7, 98) rfl, List.forall_mem_cons.mpr ⟨yG_at (1, 13) rfl, List.forall_mem_cons.mpr ⟨yG_at (7, 99) rfl, fun _ h => absurd h List.not_mem_nil⟩⟩⟩⟩⟩
end
section
/-! the world: its cells, in the order in which they are made; what they hold at first; the code of the methods that are called -/
def yk_sh : List ys_C := [.inl 11, .inl 6, .inr (0, 40, []), .inr (0, 40, []), .inr (0, 40, []), .inr (0, 40, []), .inl 2, .inr (0, 12, []), .inr (0, 12, []), .inr (0, 12, []), .inl 3, .inr (4, 4, [47, 49, 51, 53]), .inr (5, 3, [55, 65, 75]), .inr (6, 3, [60, 70, 80]), .inr (7, 3, [64, 74, 84]), .inr (3, 3, []), .inl 10, .inl 1, .inl 4, .inl 1, .inl 1, .inr (0, 4, []), .inr (8, 4, [25, 26, 27, 28]), .inr (0, 40, []), .inr (0, 40, []), .inl 1, .inl 1, .inl 1, .inl 1, .inl 5, .inr (1, 64, []), .inl 9, .inr (0, 12, []), .inr (0, 12, []), .inr (0, 12, []), .inr (1, 12, []), .inr (1, 12, []), .inr (1, 40, []), .inr (1, 40, []), .inr (1, 40, []), .inr (1, 40, []), .inl 7, .inr (0, 40, []), .inl 0, .inr (0, 12, []), .inr (0, 144, []), .inr (2, 4096, []), .inl 8, .inr (1, 100, []), .inl 8, .inr (1, 100, []), .inl 8, .inr (1, 100, []), .inl 8, .inr (1, 100, []), .inl 6, .inr (0, 40, []), .inr (0, 40, []), .inr (0, 40, []), .inr (0, 40, []), .inl 2, .inr (0, 12, []), .inr (0, 12, []), .inr (0, 12, []), .inl 3, .inl 6, .inr (0, 40, []), .inr (0, 40, []), .inr (0, 40, []), .inr (0, 40, []), .inl 2, .inr (0, 12, []), .inr (0, 12, []), .inr (0, 12, []), .inl 3, .inl 6, .inr (0, 40, []), .inr (0, 40, []), .inr (0, 40, []), .inr (0, 40, []), .inl 2, .inr (0, 12, []), .inr (0, 12, []), .inr (0, 12, []), .inl 3, .inl 12, .inr (0, 40, []), .inr (0, 40, []), .inr (0, 40, []), .inr (0, 40, []), .inr (1, 400, []), .inr (0, 4, []), .inr (0, 4, []), .inr (1, 100, []), .inr (0, 4, []), .inr (1, 4, []), .inr (1, 4, []), .inr (3, 4096, []), .inr (0, 12, []), .inr (0, 12, []), .inr (0, 12, []), .inr (0, 12, []), .inr (0, 12, []), .inr (0, 12, []), .inr (0, 12, []), .inr (0, 12, []), .inr (1, 12, []), .inr (1, 12, []), .inr (1, 40, []), .inr (0, 80, []), .inr (0, 80, []), .inr (0, 80, []), .inr (0, 40, []), .inr (0, 12, []), .inr (0, 4096, []), .inr (3, 4096, []), .inr (3, 3, []), .inr (0, 3, []), .inr (0, 480, []), .inr (0, 3, []), .inr (0, 108, []), .inr (1, 15, [])]
def yk_f0 : List (List ys_V) := [[.inr (some 1), .inr (some 6), .inr (some 10), .inr (some 11), .inr (some 12), .inr (some 13), .inr (some 14), .inr (some 15), .inr (some 16), .inr (some 18), .inr (some 29), .inr (some 31), .inr (some 41), .inr (some 43), .inl (.inl ([], 0))], [.inr (some 2), .inr (some 3), .inr (some 4), .inr (some 5), .inl (.inl ([], 0)), .inl (.inl ([], 0))], [], [], [], [], [.inl (.inl ([], 0)), .inl (.inl ([], 0)), .inr (some 7), .inr (some 8), .inr (some 9)], [], [], [], [.inl (.inr ([], 0)), .inl (.inr ([], 0)), .inl (.inr ([], 0)), .inl (.inr ([], 0)), .inl (.inr ([], 0))], [], [], [], [], [], [.inr (some 17), .inl (.inl ([], 0)), .inl (.inr ([], 0)), .inl (.inr ([], 0)), .inl (.inr ([], 0)), .inl (.inl ([], 0)), .inl (.inl ([], (-1))), .inl (.inl ([], 0)), .inl (.inl ([], 0)), .inl (.inl ([], 0)), .inl (.inl ([], 0))], [.inl (.inr ([], 0)), .inl (.inr ([], 1))], [.inr (some 19), .inr (some 20), .inl (.inl ([], 0)), .inl (.inl ([], 0)), .inr (some 21), .inr (some 22), .inr (some 23), .inr (some 24), .inl (.inl ([], 0)), .inl (.inl ([], 0)), .inl (.inl ([], (-1)))], [.inl (.inr ([], 0)), .inl (.inr ([], 1))], [.inl (.inr ([], 0)), .inl (.inr ([], 1))], [], [], [], [], [.inl (.inr ([], 0)), .inl (.inr ([], 1))], [.inl (.inr ([], 0)), .inl (.inr ([], 1))], [.inl (.inr ([], 0)), .inl (.inr ([], 1))], [.inl (.inr ([], 0)), .inl (.inr ([], 1))], [.inl (.inl ([], 0)), .inl (.inl ([], 0)), .inr (some 30), .inl (.inl ([], 0))], [], [.inr (some 32), .inr (some 33), .inr (some 34), .inr (some 35), .inr (some 36), .inr (some 37), .inl (.inl ([], 0)), .inl (.inl ([], 0)), .inl (.inl ([], (-1))), .inr (some 38), .inr (some 39), .inr (some 40), .inl (.inl ([], 0)), .inl (.inl ([], 0)), .inl (.inl ([], 0)), .inl (.inr ([], 0)), .inl (.inr ([], 0))], [], [], [], [], [], [], [], [], [], [.inr (some 42), .inl (.inl ([], 0))], [], [.inr (some 44), .inl (.inl ([], 0)), .inr (some 45), .inl (.inl ([], 0)), .inr (some 46)], [], [], [], [.inr (some 48), .inl (.inl ([], 0)), .inl (.inl ([], 0)), .inl (.inl ([], 0))], [], [.inr (some 50), .inl (.inl ([], 0)), .inl (.inl ([], 0)), .inl (.inl ([], 0))], [], [.inr (some 52), .inl (.inl ([], 0)), .inl (.inl ([], 0)), .inl (.inl ([], 0))], [], [.inr (some 54), .inl (.inl ([], 0)), .inl (.inl ([], 0)), .inl (.inl ([], 0))], [], [.inr (some 56), .inr (some 57), .inr (some 58), .inr (some 59), .inl (.inl ([], 0)), .inl (.inl ([], 0))], [], [], [], [], [.inl (.inl ([], 0)), .inl (.inl ([], 0)), .inr (some 61), .inr (some 62), .inr (some 63)], [], [], [], [.inl (.inr ([], 0)), .inl (.inr ([], 0)), .inl (.inr ([], 0)), .inl (.inr ([], 0)), .inl (.inr ([], 0))], [.inr (some 66), .inr (some 67), .inr (some 68), .inr (some 69), .inl (.inl ([], 0)), .inl (.inl ([], 0))], [], [], [], [], [.inl (.inl ([], 0)), .inl (.inl ([], 0)), .inr (some 71), .inr (some 72), .inr (some 73)], [], [], [], [.inl (.inr ([], 0)), .inl (.inr ([], 0)), .inl (.inr ([], 0)), .inl (.inr ([], 0)), .inl (.inr ([], 0))], [.inr (some 76), .inr (some 77), .inr (some 78), .inr (some 79), .inl (.inl ([], 0)), .inl (.inl ([], 0))], [], [], [], [], [.inl (.inl ([], 0)), .inl (.inl ([], 0)), .inr (some 81), .inr (some 82), .inr (some 83)], [], [], [], [.inl (.inr ([], 0)), .inl (.inr ([], 0)), .inl (.inr ([], 0)), .inl (.inr ([], 0)), .inl (.inr ([], 0))], [.inl (.inl ([], 0)), .inl (.inl ([], 0)), .inr (some 86), .inr (some 87), .inr (some 88), .inr (some 89), .inl (.inl ([], 0)), .inr (some 90), .inr (some 91), .inr (some 92), .inr (some 93), .inl (.inl ([], 0)), .inl (.inl ([], 0)), .inr (some 94), .inr (some 95), .inr (some 96), .inl (.inr ([], 0)), .inl (.inr ([], 0)), .inl (.inr ([], 0)), .inl (.inl ([], 0)), .inl (.inr ([], 0)), .inl (.inr ([], 0)), .inl (.inr ([], 0)), .inl (.inr ([], 0)), .inr (some 97), .inr (some 98), .inl (.inl ([], 0)), .inr (some 99), .inl (.inr ([], 0)), .inl (.inr ([], 0)), .inl (.inr ([], 0)), .inl (.inr ([], 0)), .inl (.inr ([], 0)), .inr (some 100), .inr (some 101), .inr (some 102), .inl (.inl ([], 0)), .inl (.inl ([], 0)), .inr (some 103), .inr (some 104), .inr (some 105), .inr (some 106), .inr (some 107), .inl (.inl ([], 0)), .inl (.inl ([], (-1))), .inr (some 108), .inl (.inl ([], 0)), .inr (some 109), .inr (some 110), .inr (some 111), .inr (some 112), .inl (.inl ([], 0)), .inr (some 113), .inr (some 114), .inr (some 115), .inr (some 116), .inr (some 117), .inr (some 118), .inr (some 119), .inr (some 120), .inr (some 121)], [], [], [], [], [], [], [], [], [], [], [], [], [], [], [], [], [], [], [], [], [], [], [], [], [], [], [], [], [], [], [], [], [], [], [], []]
def yk_r0 : List ys_R := [((0, 0), []), ((0, 0), []), ((0, 0), []), ((0, 0), []), ((0, 0), []), ((0, 0), []), ((0, 0), []), ((0, 0), []), ((0, 0), []), ((0, 0), []), ((0, 0), []), ((0, 0), []), ((0, 0), []), ((0, 0), []), ((0, 0), []), ((0, 0), []), ((0, 0), []), ((0, 0), []), ((0, 0), []), ((0, 0), []), ((0, 0), []), ((0, 0), []), ((0, 0), []), ((0, 0), []), ((0, 0), []), ((0, 0), []), ((0, 0), []), ((0, 0), []), ((0, 0), []), ((0, 0), []), ((0, 0), []), ((0, 0), []), ((0, 0), []), ((0, 0), []), ((0, 0), []), ((0, 0), []), ((0, 0), []), ((0, 0), []), ((0, 0), []), ((0, 0), []), ((0, 0), []), ((0, 0), []), ((0, 0), []), ((0, 0), []), ((0, 0), []), ((0, 0), []), ((0, 0), []), ((0, 0), []), ((0, 0), []), ((0, 0), []), ((0, 0), []), ((0, 0), []), ((0, 0), []), ((0, 0), []), ((0, 0), []), ((0, 0), []), ((0, 0), []), ((0, 0), []), ((0, 0), []), ((0, 0), []), ((0, 0), []), ((0, 0), []), ((0, 0), []), ((0, 0), []), ((0, 0), []), ((0, 0), []), ((0, 0), []), ((0, 0), []), ((0, 0), []), ((0, 0), []), ((0, 0), []), ((0, 0), []), ((0, 0), []), ((0, 0), []), ((0, 0), []), ((0, 0), []), ((0, 0), []), ((0, 0), []), ((0, 0), []), ((0, 0), []), ((0, 0), []), ((0, 0), []), ((0, 0), []), ((0, 0), []), ((0, 0), []), ((0, 0), []), ((0, 0), []), ((0, 0), []), ((0, 0), []), ((0, 0), []), ((0, 0), []), ((0, 0), [(3, ((-1), (-1))), (2, ((-1), (-1))), (1, ((-1), (-1))), (0, ((-1), (-1)))]), ((0, 0), []), ((0, 0), []), ((0, 0), []), ((0, 0), []), ((0, 0), []), ((0, 0), []), ((0, 0), []), ((0, 0), []), ((0, 0), []), ((0, 0), []), ((0, 0), []), ((0, 0), []), ((0, 0), []), ((0, 0), []), ((0, 0), []), ((0, 0), []), ((0, 0), []), ((0, 0), []), ((0, 0), []), ((0, 0), []), ((0, 0), []), ((0, 0), []), ((0, 0), []), ((0, 0), []), ((0, 0), []), ((0, 0), []), ((0, 0), []), ((0, 0), []), ((0, 0), []), ((0, 0), [])]
def yk_fm (n : Nat) : List (List ys_V) := [[.inr (some 1), .inr (some 6), .inr (some 10), .inr (some 11), .inr (some 12), .inr (some 13), .inr (some 14), .inr (some 15), .inr (some 16), .inr (some 18), .inr (some 29), .inr (some 31), .inr (some 41), .inr (some 43), .inl (.inl ([(n + 0, 1)], 0))], [.inr (some 2), .inr (some 3), .inr (some 4), .inr (some 5), .inl (.inl ([(n + 1, 1)], 0)), .inl (.inl ([(n + 2, 1)], 0))], [], [], [], [], [.inl (.inl ([(n + 3, 1)], 0)), .inl (.inl ([(n + 4, 1)], 0)), .inr (some 7), .inr (some 8), .inr (some 9)], [], [], [], [.inl (.inr ([(n + 5, 1)], 0)), .inl (.inr ([(n + 6, 1)], 0)), .inl (.inr ([(n + 7, 1)], 0)), .inl (.inr ([(n + 8, 1)], 0)), .inl (.inr ([(n + 9, 1)], 0))], [], [], [], [], [], [.inr (some 17), .inl (.inl ([(n + 10, 1)], 0)), .inl (.inr ([(n + 11, 1)], 0)), .inl (.inr ([(n + 12, 1)], 0)), .inl (.inr ([(n + 13, 1)], 0)), .inl (.inl ([(n + 14, 1)], 0)), .inl (.inl ([(n + 15, 1)], 0)), .inl (.inl ([(n + 16, 1)], 0)), .inl (.inl ([(n + 17, 1)], 0)), .inl (.inl ([(n + 18, 1)], 0)), .inl (.inl ([(n + 19, 1)], 0))], [.inl (.inr ([(n + 20, 1)], 0)), .inl (.inr ([(n + 21, 1)], 0))], [.inr (some 19), .inr (some 20), .inl (.inl ([(n + 22, 1)], 0)), .inl (.inl ([(n + 23, 1)], 0)), .inr (some 21), .inr (some 22), .inr (some 23), .inr (some 24), .inl (.inl ([(n + 24, 1)], 0)), .inl (.inl ([(n + 25, 1)], 0)), .inl (.inl ([(n + 26, 1)], 0))], [.inl (.inr ([(n + 27, 1)], 0)), .inl (.inr ([(n + 28, 1)], 0))], [.inl (.inr ([(n + 29, 1)], 0)), .inl (.inr ([(n + 30, 1)], 0))], [], [], [], [], [.inl (.inr ([(n + 31, 1)], 0)), .inl (.inr ([(n + 32, 1)], 0))], [.inl (.inr ([(n + 33, 1)], 0)), .inl (.inr ([(n + 34, 1)], 0))], [.inl (.inr ([(n + 35, 1)], 0)), .inl (.inr ([(n + 36, 1)], 0))], [.inl (.inr ([(n + 37, 1)], 0)), .inl (.inr ([(n + 38, 1)], 0))], [.inl (.inl ([(n + 39, 1)], 0)), .inl (.inl ([(n + 40, 1)], 0)), .inr (some 30), .inl (.inl ([(n + 41, 1)], 0))], [], [.inr (some 32), .inr (some 33), .inr (some 34), .inr (some 35), .inr (some 36), .inr (some 37), .inl (.inl ([(n + 42, 1)], 0)), .inl (.inl ([(n + 43, 1)], 0)), .inl (.inl ([(n + 44, 1)], 0)), .inr (some 38), .inr (some 39), .inr (some 40), .inl (.inl ([(n + 45, 1)], 0)), .inl (.inl ([(n + 46, 1)], 0)), .inl (.inl ([(n + 47, 1)], 0)), .inl (.inr ([(n + 48, 1)], 0)), .inl (.inr ([(n + 49, 1)], 0))], [], [], [], [], [], [], [], [], [], [.inr (some 42), .inl (.inl ([(n + 50, 1)], 0))], [], [.inr (some 44), .inl (.inl ([(n + 51, 1)], 0)), .inr (some 45), .inl (.inl ([(n + 52, 1)], 0)), .inr (some 46)], [], [], [], [.inr (some 48), .inl (.inl ([(n + 53, 1)], 0)), .inl (.inl ([(n + 54, 1)], 0)), .inl (.inl ([(n + 55, 1)], 0))], [], [.inr (some 50), .inl (.inl ([(n + 56, 1)], 0)), .inl (.inl ([(n + 57, 1)], 0)), .inl (.inl ([(n + 58, 1)], 0))], [], [.inr (some 52), .inl (.inl ([(n + 59, 1)], 0)), .inl (.inl ([(n + 60, 1)], 0)), .inl (.inl ([(n + 61, 1)], 0))], [], [.inr (some 54), .inl (.inl ([(n + 62, 1)], 0)), .inl (.inl ([(n + 63, 1)], 0)), .inl (.inl ([(n + 64, 1)], 0))], [], [.inr (some 56), .inr (some 57), .inr (some 58), .inr (some 59), .inl (.inl ([(n + 65, 1)], 0)), .inl (.inl ([(n + 66, 1)], 0))], [], [], [], [], [.inl (.inl ([(n + 67, 1)], 0)), .inl (.inl ([(n + 68, 1)], 0)), .inr (some 61), .inr (some 62), .inr (some 63)], [], [], [], [.inl (.inr ([(n + 69, 1)], 0)), .inl (.inr ([(n + 70, 1)], 0)), .inl (.inr ([(n + 71, 1)], 0)), .inl (.inr ([(n + 72, 1)], 0)), .inl (.inr ([(n + 73, 1)], 0))], [.inr (some 66), .inr (some 67), .inr (some 68), .inr (some 69), .inl (.inl ([(n + 74, 1)], 0)), .inl (.inl ([(n + 75, 1)], 0))], [], [], [], [], [.inl (.inl ([(n + 76, 1)], 0)), .inl (.inl ([(n + 77, 1)], 0)), .inr (some 71), .inr (some 72), .inr (some 73)], [], [], [], [.inl (.inr ([(n + 78, 1)], 0)), .inl (.inr ([(n + 79, 1)], 0)), .inl (.inr ([(n + 80, 1)], 0)), .inl (.inr ([(n + 81, 1)], 0)), .inl (.inr ([(n + 82, 1)], 0))], [.inr (some 76), .inr (some 77), .inr (some 78), .inr (some 79), .inl (.inl ([(n + 83, 1)], 0)), .inl (.inl ([(n + 84, 1)], 0))], [], [], [], [], [.inl (.inl ([(n + 85, 1)], 0)), .inl (.inl ([(n + 86, 1)], 0)), .inr (some 81), .inr (some 82), .inr (some 83)], [], [], [], [.inl (.inr ([(n + 87, 1)], 0)), .inl (.inr ([(n + 88, 1)], 0)), .inl (.inr ([(n + 89, 1)], 0)), .inl (.inr ([(n + 90, 1)], 0)), .inl (.inr ([(n + 91, 1)], 0))], [.inl (.inl ([], 0)), .inl (.inl ([], 0)), .inr (some 86), .inr (some 87), .inr (some 88), .inr (some 89), .inl (.inl ([], 0)), .inr (some 90), .inr (some 91), .inr (some 92), .inr (some 93), .inl (.inl ([], 0)), .inl (.inl ([], 0)), .inr (some 94), .inr (some 95), .inr (some 96), .inl (.inr ([], 0)), .inl (.inr ([], 0)), .inl (.inr ([], 0)), .inl (.inl ([], 0)), .inl (.inr ([], 0)), .inl (.inr ([], 0)), .inl (.inr ([], 0)), .inl (.inr ([], 0)), .inr (some 97), .inr (some 98), .inl (.inl ([], 0)), .inr (some 99), .inl (.inr ([], 0)), .inl (.inr ([], 0)), .inl (.inr ([], 0)), .inl (.inr ([], 0)), .inl (.inr ([], 0)), .inr (some 100), .inr (some 101), .inr (some 102), .inl (.inl ([], 0)), .inl (.inl ([], 0)), .inr (some 103), .inr (some 104), .inr (some 105), .inr (some 106), .inr (some 107), .inl (.inl ([], 0)), .inl (.inl ([], (-1))), .inr (some 108), .inl (.inl ([], 0)), .inr (some 109), .inr (some 110), .inr (some 111), .inr (some 112), .inl (.inl ([], 0)), .inr (some 113), .inr (some 114), .inr (some 115), .inr (some 116), .inr (some 117), .inr (some 118), .inr (some 119), .inr (some 120), .inr (some 121)], [], [], [], [], [], [], [], [], [], [], [], [], [], [], [], [], [], [], [], [], [], [], [], [], [], [], [], [], [], [], [], [], [], [], [], []]
def yk_em : ys_E := [((-2147483648), 2147483647), ((-2147483648), 2147483647), ((-2147483648), 2147483647), ((-2147483648), 2147483647), ((-2147483648), 2147483647), ((-9223372036854775808), 9223372036854775807), ((-9223372036854775808), 9223372036854775807), ((-9223372036854775808), 9223372036854775807), ((-9223372036854775808), 9223372036854775807), ((-9223372036854775808), 9223372036854775807), (0, 1), ((-9223372036854775808), 9223372036854775807), ((-9223372036854775808), 9223372036854775807), ((-9223372036854775808), 9223372036854775807), ((-2147483648), 2147483647), ((-2147483648), 2147483647), ((-2147483648), 2147483647), ((-2147483648), 2147483647), ((-2147483648), 2147483647), ((-2147483648), 2147483647), ((-9223372036854775808), 9223372036854775807), ((-9223372036854775808), 9223372036854775807), ((-2147483648), 2147483647), ((-2147483648), 2147483647), ((-2147483648), 2147483647), ((-2147483648), 2147483647), ((-2147483648), 2147483647), ((-9223372036854775808), 9223372036854775807), ((-9223372036854775808), 9223372036854775807), ((-9223372036854775808), 9223372036854775807), ((-9223372036854775808), 9223372036854775807), ((-9223372036854775808), 9223372036854775807), ((-9223372036854775808), 9223372036854775807), ((-9223372036854775808), 9223372036854775807), ((-9223372036854775808), 9223372036854775807), ((-9223372036854775808), 9223372036854775807), ((-9223372036854775808), 9223372036854775807), ((-9223372036854775808), 9223372036854775807), ((-9223372036854775808), 9223372036854775807), ((-2147483648), 2147483647), ((-2147483648), 2147483647), ((-2147483648), 2147483647), ((-2147483648), 2147483647), ((-2147483648), 2147483647), ((-2147483648), 2147483647), ((-2147483648), 2147483647), ((-2147483648), 2147483647), ((-2147483648), 2147483647), ((-9223372036854775808), 9223372036854775807), ((-9223372036854775808), 9223372036854775807), ((-2147483648), 2147483647), ((-2147483648), 2147483647), ((-2147483648), 2147483647), (0, 1), ((-2147483648), 2147483647), ((-2147483648), 2147483647), (0, 1), ((-2147483648), 2147483647), ((-2147483648), 2147483647), (0, 1), ((-2147483648), 2147483647), ((-2147483648), 2147483647), (0, 1), ((-2147483648), 2147483647), ((-2147483648), 2147483647), ((-2147483648), 2147483647), ((-2147483648), 2147483647), ((-2147483648), 2147483647), ((-2147483648), 2147483647), ((-9223372036854775808), 9223372036854775807), ((-9223372036854775808), 9223372036854775807), ((-9223372036854775808), 9223372036854775807), ((-9223372036854775808), 9223372036854775807), ((-9223372036854775808), 9223372036854775807), ((-2147483648), 2147483647), ((-2147483648), 2147483647), ((-2147483648), 2147483647), ((-2147483648), 2147483647), ((-9223372036854775808), 9223372036854775807), ((-9223372036854775808), 9223372036854775807), ((-9223372036854775808), 9223372036854775807), ((-9223372036854775808), 9223372036854775807), ((-9223372036854775808), 9223372036854775807), ((-2147483648), 2147483647), ((-2147483648), 2147483647), ((-2147483648), 2147483647), ((-2147483648), 2147483647), ((-9223372036854775808), 9223372036854775807), ((-9223372036854775808), 9223372036854775807), ((-9223372036854775808), 9223372036854775807), ((-9223372036854775808), 9223372036854775807), ((-9223372036854775808), 9223372036854775807)]
def yk_rm : List ys_R := [((0, 0), []), ((0, 0), []), (((-2147483648), 2147483647), []), (((-2147483648), 2147483647), []), (((-2147483648), 2147483647), []), (((-2147483648), 2147483647), []), ((0, 0), []), (((-2147483648), 2147483647), []), (((-2147483648), 2147483647), []), (((-2147483648), 2147483647), []), ((0, 0), []), (((-2147483648), 2147483647), []), (((-2147483648), 2147483647), []), (((-2147483648), 2147483647), []), (((-2147483648), 2147483647), []), (((-2147483648), 2147483647), []), ((0, 0), []), ((0, 0), []), ((0, 0), []), ((0, 0), []), ((0, 0), []), (((-2147483648), 2147483647), []), (((-2147483648), 2147483647), []), (((-2147483648), 2147483647), []), (((-2147483648), 2147483647), []), ((0, 0), []), ((0, 0), []), ((0, 0), []), ((0, 0), []), ((0, 0), []), (((-9223372036854775808), 9223372036854775807), []), ((0, 0), []), (((-2147483648), 2147483647), []), (((-2147483648), 2147483647), []), (((-2147483648), 2147483647), []), (((-9223372036854775808), 9223372036854775807), []), (((-9223372036854775808), 9223372036854775807), []), (((-9223372036854775808), 9223372036854775807), []), (((-9223372036854775808), 9223372036854775807), []), (((-9223372036854775808), 9223372036854775807), []), (((-9223372036854775808), 9223372036854775807), []), ((0, 0), []), (((-2147483648), 2147483647), []), ((0, 0), []), (((-2147483648), 2147483647), []), (((-2147483648), 2147483647), []), (((-2147483648), 2147483647), []), ((0, 0), []), (((-9223372036854775808), 9223372036854775807), []), ((0, 0), []), (((-9223372036854775808), 9223372036854775807), []), ((0, 0), []), (((-9223372036854775808), 9223372036854775807), []), ((0, 0), []), (((-9223372036854775808), 9223372036854775807), []), ((0, 0), []), (((-2147483648), 2147483647), []), (((-2147483648), 2147483647), []), (((-2147483648), 2147483647), []), (((-2147483648), 2147483647), []), ((0, 0), []), (((-2147483648), 2147483647), []), (((-2147483648), 2147483647), []), (((-2147483648), 2147483647), []), ((0, 0), []), ((0, 0), []), (((-2147483648), 2147483647), []), (((-2147483648), 2147483647), []), (((-2147483648), 2147483647), []), (((-2147483648), 2147483647), []), ((0, 0), []), (((-2147483648), 2147483647), []), (((-2147483648), 2147483647), []), (((-2147483648), 2147483647), []), ((0, 0), []), ((0, 0), []), (((-2147483648), 2147483647), []), (((-2147483648), 2147483647), []), (((-2147483648), 2147483647), []), (((-2147483648), 2147483647), []), ((0, 0), []), (((-2147483648), 2147483647), []), (((-2147483648), 2147483647), []), (((-2147483648), 2147483647), []), ((0, 0), []), ((0, 0), []), ((0, 0), []), ((0, 0), []), ((0, 0), []), ((0, 0), []), ((0, 0), []), ((0, 0), [(3, ((-1), (-1))), (2, ((-1), (-1))), (1, ((-1), (-1))), (0, ((-1), (-1)))]), ((0, 0), []), ((0, 0), []), ((0, 0), []), ((0, 0), []), ((0, 0), []), ((0, 0), []), ((0, 0), []), ((0, 0), []), ((0, 0), []), ((0, 0), []), ((0, 0), []), ((0, 0), []), ((0, 0), []), ((0, 0), []), ((0, 0), []), ((0, 0), []), ((0, 0), []), ((0, 0), []), ((0, 0), []), ((0, 0), []), ((0, 0), []), ((0, 0), []), ((0, 0), []), ((0, 0), []), ((0, 0), []), ((0, 0), []), ((0, 0), []), ((0, 0), []), ((0, 0), []), ((0, 0), [])]
def ys_fs (F : List (List ys_V)) (x : List (Nat × Nat × ys_V)) : List (List ys_V) := x.foldl (fun F q => ys_fset F q.1 q.2.1 q.2.2) F
def ys_rs (A : List ys_R) (x : List (Nat × ys_R)) : List ys_R := x.foldl (fun A q => A.set q.1 q.2) A
def yz_X11_anew : List (Nat × (Instr × Nat)) := [(0, .aload_n 0, 1), (1, .getfield 26, 3), (4, .invokevirtual 307, 3), (7, .iconst 0, 1), (8, .ireturn, 1)]
theorem yz_X11_anew_ok : ∀ q ∈ yz_X11_anew, decode cX11_anew q.1 = .ok q.2 := by decide +kernel
theorem yd_yX11_anew : yX11_anew.cls = RX11 ∧ yX11_anew.cls ≠ "java/lang/invoke/MethodHandle" ∧ yX11_anew.cls ≠ "java/lang/invoke/VarHandle" ∧ (parseMethodDescriptor yX11_anew.desc).map (fun d => d.parameters.length) = some 0 := by decide +kernel
def yz_X11_areParted : List (Nat × (Instr × Nat)) := [(0, .aload_n 0, 1), (1, .getfield 10, 3), (4, .invokevirtual 395, 3), (7, .ifCond .ne 5, 3), (10, .iconst 1, 1), (11, .ireturn, 1), (12, .aload_n 0, 1), (13, .getfield 55, 3), (16, .aload_n 0, 1), (17, .getfield 10, 3), (20, .invokevirtual 190, 3), (23, .aload_n 0, 1), (24, .getfield 55, 3), (27, .getfield 194, 3), (30, .ireturn, 1)]
theorem yz_X11_areParted_ok : ∀ q ∈ yz_X11_areParted, decode cX11_areParted q.1 = .ok q.2 := by decide +kernel
theorem yd_yX11_areParted : yX11_areParted.cls = RX11 ∧ yX11_areParted.cls ≠ "java/lang/invoke/MethodHandle" ∧ yX11_areParted.cls ≠ "java/lang/invoke/VarHandle" ∧ (parseMethodDescriptor yX11_areParted.desc).map (fun d => d.parameters.length) = some 0 := by decide +kernel
def yz_X11_back : List (Nat × (Instr × Nat)) := [(0, .iload_n 1, 1), (1, .invokestatic 377, 3), (4, .ifCond .ne 9, 3), (7, .aload_n 0, 1), (8, .iconst (-1), 1), (9, .invokevirtual 107, 3), (12, .ireturn, 1), (13, .aload_n 0, 1), (14, .getfield 48, 3), (17, .iload_n 1, 1), (18, .baload, 1), (19, .ifCond .ne 10, 3), (22, .aload_n 0, 1), (23, .bipush (-6), 2), (25, .invokevirtual 107, 3), (28, .ireturn, 1), (29, .aload_n 0, 1), (30, .getfield 10, 3), (33, .aload_n 0, 1), (34, .getfield 36, 3), (37, .iload_n 1, 1), (38, .aaload, 1), (39, .invokevirtual 380, 3), (42, .aload_n 0, 1), (43, .getfield 19, 3), (46, .aload_n 0, 1), (47, .getfield 40, 3), (50, .iload_n 1, 1), (51, .aaload, 1), (52, .invokevirtual 383, 3), (55, .aload_n 0, 1), (56, .getfield 26, 3), (59, .aload_n 0, 1), (60, .getfield 44, 3), (63, .iload_n 1, 1), (64, .aaload, 1), (65, .invokevirtual 386, 3), (68, .aload_n 0, 1), (69, .iconst 0, 1), (70, .invokevirtual 107, 3), (73, .ireturn, 1)]
theorem yz_X11_back_ok : ∀ q ∈ yz_X11_back, decode cX11_back q.1 = .ok q.2 := by decide +kernel
theorem yd_yX11_back : yX11_back.cls = RX11 ∧ yX11_back.cls ≠ "java/lang/invoke/MethodHandle" ∧ yX11_back.cls ≠ "java/lang/invoke/VarHandle" ∧ (parseMethodDescriptor yX11_back.desc).map (fun d => d.parameters.length) = some 1 := by decide +kernel
def yz_X11_best : List (Nat × (Instr × Nat)) := [(0, .aload_n 0, 1), (1, .iload_n 1, 1), (2, .invokevirtual 254, 3), (5, .ifCond .eq 12, 3), (8, .iload_n 2, 1), (9, .ifCond .lt 8, 3), (12, .iload_n 2, 1), (13, .iconst 1, 1), (14, .if_icmp .le 5, 3), (17, .iconst (-1), 1), (18, .ireturn, 1), (19, .aload_n 0, 1), (20, .getfield 69, 3), (23, .aload_n 0, 1), (24, .getfield 10, 3), (27, .iload_n 1, 1), (28, .invokevirtual 257, 3), (31, .aload_n 0, 1), (32, .getfield 69, 3), (35, .aload_n 0, 1), (36, .getfield 10, 3), (39, .iload_n 1, 1), (40, .invokevirtual 270, 3), (43, .iload_n 2, 1), (44, .ifCond .ne 13, 3), (47, .aload_n 0, 1), (48, .getfield 69, 3), (51, .getfield 273, 3), (54, .goto 10, 3), (57, .aload_n 0, 1), (58, .getfield 69, 3), (61, .getfield 276, 3), (64, .ireturn, 1)]
theorem yz_X11_best_ok : ∀ q ∈ yz_X11_best, decode cX11_best q.1 = .ok q.2 := by decide +kernel
theorem yd_yX11_best : yX11_best.cls = RX11 ∧ yX11_best.cls ≠ "java/lang/invoke/MethodHandle" ∧ yX11_best.cls ≠ "java/lang/invoke/VarHandle" ∧ (parseMethodDescriptor yX11_best.desc).map (fun d => d.parameters.length) = some 2 := by decide +kernel
def yz_X11_boxes : List (Nat × (Instr × Nat)) := [(0, .aload_n 0, 1), (1, .getfield 10, 3), (4, .iconst 1, 1), (5, .invokevirtual 369, 3), (8, .bipush 12, 2), (10, .if_icmp .le 6, 3), (13, .bipush (-5), 2), (15, .ireturn, 1), (16, .aload_n 0, 1), (17, .getfield 10, 3), (20, .invokevirtual 371, 3), (23, .ifCond .eq 6, 3), (26, .bipush (-6), 2), (28, .ireturn, 1), (29, .aload_n 0, 1), (30, .getfield 90, 3), (33, .aload_n 0, 1), (34, .getfield 10, 3), (37, .invokevirtual 374, 3), (40, .ireturn, 1)]
theorem yz_X11_boxes_ok : ∀ q ∈ yz_X11_boxes, decode cX11_boxes q.1 = .ok q.2 := by decide +kernel
theorem yd_yX11_boxes : yX11_boxes.cls = RX11 ∧ yX11_boxes.cls ≠ "java/lang/invoke/MethodHandle" ∧ yX11_boxes.cls ≠ "java/lang/invoke/VarHandle" ∧ (parseMethodDescriptor yX11_boxes.desc).map (fun d => d.parameters.length) = some 0 := by decide +kernel
def yz_X11_canPartFirst : List (Nat × (Instr × Nat)) := [(0, .iload_n 1, 1), (1, .ifCond .lt 24, 3), (4, .iload_n 1, 1), (5, .bipush 12, 2), (7, .if_icmp .gt 18, 3), (10, .iload_n 1, 1), (11, .aload_n 0, 1), (12, .getfield 10, 3), (15, .getfield 111, 3), (18, .if_icmp .gt 7, 3), (21, .iconst 1, 1), (22, .goto 4, 3), (25, .iconst 0, 1), (26, .ireturn, 1)]
theorem yz_X11_canPartFirst_ok : ∀ q ∈ yz_X11_canPartFirst, decode cX11_canPartFirst q.1 = .ok q.2 := by decide +kernel
theorem yd_yX11_canPartFirst : yX11_canPartFirst.cls = RX11 ∧ yX11_canPartFirst.cls ≠ "java/lang/invoke/MethodHandle" ∧ yX11_canPartFirst.cls ≠ "java/lang/invoke/VarHandle" ∧ (parseMethodDescriptor yX11_canPartFirst.desc).map (fun d => d.parameters.length) = some 1 := by decide +kernel
def yz_X11_check : List (Nat × (Instr × Nat)) := [(0, .iload_n 1, 1), (1, .iload_n 2, 1), (2, .iload_n 3, 1), (3, .invokestatic 246, 3), (6, .ifCond .ne 5, 3), (9, .iconst (-1), 1), (10, .ireturn, 1), (11, .iconst 0, 1), (12, .istore 4, 2), (14, .iconst 0, 1), (15, .istore 5, 2), (17, .iload 5, 2), (19, .aload_n 0, 1), (20, .getfield 10, 3), (23, .getfield 111, 3), (26, .if_icmp .ge 91, 3), (29, .iload_n 1, 1), (30, .i2l, 1), (31, .iload_n 2, 1), (32, .i2l, 1), (33, .iload_n 3, 1), (34, .i2l, 1), (35, .aload_n 0, 1), (36, .getfield 10, 3), (39, .getfield 121, 3), (42, .iload 5, 2), (44, .iaload, 1), (45, .aload_n 0, 1), (46, .getfield 10, 3), (49, .getfield 125, 3), (52, .iload 5, 2), (54, .iaload, 1), (55, .invokestatic 250, 3), (58, .lstore 6, 2), (60, .aload_n 0, 1), (61, .getfield 10, 3), (64, .getfield 128, 3), (67, .iload 5, 2), (69, .iaload, 1), (70, .iconst 1, 1), (71, .if_icmp .ne 18, 3), (74, .lload 6, 2), (76, .lconst 0, 1), (77, .lcmp, 1), (78, .ifCond .le 7, 3), (81, .iconst 1, 1), (82, .goto 19, 3), (85, .iconst 0, 1), (86, .goto 15, 3), (89, .lload 6, 2), (91, .lconst 0, 1), (92, .lcmp, 1), (93, .ifCond .ge 7, 3), (96, .iconst 1, 1), (97, .goto 4, 3), (100, .iconst 0, 1), (101, .istore 8, 2), (103, .iload 8, 2), (105, .ifCond .ne 6, 3), (108, .iinc 4 1, 3), (111, .iinc 5 1, 3), (114, .goto (-97), 3), (117, .iload 4, 2), (119, .ireturn, 1)]
theorem yz_X11_check_ok : ∀ q ∈ yz_X11_check, decode cX11_check q.1 = .ok q.2 := by decide +kernel
theorem yd_yX11_check : yX11_check.cls = RX11 ∧ yX11_check.cls ≠ "java/lang/invoke/MethodHandle" ∧ yX11_check.cls ≠ "java/lang/invoke/VarHandle" ∧ (parseMethodDescriptor yX11_check.desc).map (fun d => d.parameters.length) = some 3 := by decide +kernel
def yz_X11_copy : List (Nat × (Instr × Nat)) := [(0, .iload_n 1, 1), (1, .invokestatic 141, 3), (4, .ifCond .eq 15, 3), (7, .iload_n 3, 1), (8, .invokestatic 141, 3), (11, .ifCond .eq 8, 3), (14, .iload 5, 2), (16, .ifCond .ge 9, 3), (19, .aload_n 0, 1), (20, .iconst (-1), 1), (21, .invokevirtual 107, 3), (24, .ireturn, 1), (25, .aload_n 0, 1), (26, .getfield 32, 3), (29, .iload_n 1, 1), (30, .aaload, 1), (31, .getfield 151, 3), (34, .ifCond .eq 15, 3), (37, .aload_n 0, 1), (38, .getfield 32, 3), (41, .iload_n 3, 1), (42, .aaload, 1), (43, .getfield 151, 3), (46, .ifCond .ne 10, 3), (49, .aload_n 0, 1), (50, .bipush (-2), 2), (52, .invokevirtual 107, 3), (55, .ireturn, 1), (56, .aload_n 0, 1), (57, .getfield 32, 3), (60, .iload_n 1, 1), (61, .aaload, 1), (62, .iload_n 2, 1), (63, .iload 5, 2), (65, .invokevirtual 166, 3), (68, .ifCond .eq 19, 3), (71, .aload_n 0, 1), (72, .getfield 32, 3), (75, .iload_n 3, 1), (76, .aaload, 1), (77, .iload 4, 2), (79, .iload 5, 2), (81, .invokevirtual 166, 3), (84, .ifCond .ne 10, 3), (87, .aload_n 0, 1), (88, .bipush (-3), 2), (90, .invokevirtual 107, 3), (93, .ireturn, 1), (94, .aload_n 0, 1), (95, .getfield 32, 3), (98, .iload_n 3, 1), (99, .aaload, 1), (100, .iload 4, 2), (102, .aload_n 0, 1), (103, .getfield 32, 3), (106, .iload_n 1, 1), (107, .aaload, 1), (108, .iload_n 2, 1), (109, .iload 5, 2), (111, .invokevirtual 170, 3), (114, .aload_n 0, 1), (115, .iload 5, 2), (117, .invokevirtual 107, 3), (120, .ireturn, 1)]
theorem yz_X11_copy_ok : ∀ q ∈ yz_X11_copy, decode cX11_copy q.1 = .ok q.2 := by decide +kernel
theorem yd_yX11_copy : yX11_copy.cls = RX11 ∧ yX11_copy.cls ≠ "java/lang/invoke/MethodHandle" ∧ yX11_copy.cls ≠ "java/lang/invoke/VarHandle" ∧ (parseMethodDescriptor yX11_copy.desc).map (fun d => d.parameters.length) = some 5 := by decide +kernel
def yz_X11_count : List (Nat × (Instr × Nat)) := [(0, .iload_n 1, 1), (1, .tableswitch 86 0 5 #[39, 47, 56, 65, 73, 81], 39), (40, .aload_n 0, 1), (41, .getfield 10, 3), (44, .getfield 111, 3), (47, .ireturn, 1), (48, .aload_n 0, 1), (49, .getfield 10, 3), (52, .iconst 1, 1), (53, .invokevirtual 369, 3), (56, .ireturn, 1), (57, .aload_n 0, 1), (58, .getfield 10, 3), (61, .iconst 0, 1), (62, .invokevirtual 369, 3), (65, .ireturn, 1), (66, .aload_n 0, 1), (67, .getfield 19, 3), (70, .getfield 310, 3), (73, .ireturn, 1), (74, .aload_n 0, 1), (75, .getfield 10, 3), (78, .invokevirtual 389, 3), (81, .ireturn, 1), (82, .aload_n 0, 1), (83, .invokevirtual 392, 3), (86, .ireturn, 1), (87, .iconst (-1), 1), (88, .ireturn, 1)]
theorem yz_X11_count_ok : ∀ q ∈ yz_X11_count, decode cX11_count q.1 = .ok q.2 := by decide +kernel
theorem yd_yX11_count : yX11_count.cls = RX11 ∧ yX11_count.cls ≠ "java/lang/invoke/MethodHandle" ∧ yX11_count.cls ≠ "java/lang/invoke/VarHandle" ∧ (parseMethodDescriptor yX11_count.desc).map (fun d => d.parameters.length) = some 1 := by decide +kernel
def yz_X11_depth : List (Nat × (Instr × Nat)) := [(0, .iload_n 1, 1), (1, .iload_n 2, 1), (2, .invokestatic 359, 3), (5, .sipush 1000, 3), (8, .if_icmp .gt 14, 3), (11, .iload_n 1, 1), (12, .iload_n 2, 1), (13, .invokestatic 279, 3), (16, .sipush (-1000), 3), (19, .if_icmp .ge 5, 3), (22, .iconst (-1), 1), (23, .ireturn, 1), (24, .aload_n 0, 1), (25, .getfield 10, 3), (28, .iload_n 1, 1), (29, .iload_n 2, 1), (30, .invokestatic 362, 3), (33, .ireturn, 1)]
theorem yz_X11_depth_ok : ∀ q ∈ yz_X11_depth, decode cX11_depth q.1 = .ok q.2 := by decide +kernel
theorem yd_yX11_depth : yX11_depth.cls = RX11 ∧ yX11_depth.cls ≠ "java/lang/invoke/MethodHandle" ∧ yX11_depth.cls ≠ "java/lang/invoke/VarHandle" ∧ (parseMethodDescriptor yX11_depth.desc).map (fun d => d.parameters.length) = some 2 := by decide +kernel
def yz_X11_dismiss : List (Nat × (Instr × Nat)) := [(0, .aload_n 0, 1), (1, .getfield 19, 3), (4, .getfield 310, 3), (7, .istore_n 1, 1), (8, .aload_n 0, 1), (9, .getfield 19, 3), (12, .iconst 0, 1), (13, .putfield 310, 3), (16, .iload_n 1, 1), (17, .ireturn, 1)]
theorem yz_X11_dismiss_ok : ∀ q ∈ yz_X11_dismiss, decode cX11_dismiss q.1 = .ok q.2 := by decide +kernel
theorem yd_yX11_dismiss : yX11_dismiss.cls = RX11 ∧ yX11_dismiss.cls ≠ "java/lang/invoke/MethodHandle" ∧ yX11_dismiss.cls ≠ "java/lang/invoke/VarHandle" ∧ (parseMethodDescriptor yX11_dismiss.desc).map (fun d => d.parameters.length) = some 0 := by decide +kernel
def yz_X11_drop : List (Nat × (Instr × Nat)) := [(0, .aload_n 0, 1), (1, .getfield 10, 3), (4, .iload_n 1, 1), (5, .invokevirtual 118, 3), (8, .ifCond .ne 9, 3), (11, .aload_n 0, 1), (12, .iconst (-1), 1), (13, .invokevirtual 107, 3), (16, .ireturn, 1), (17, .aload_n 0, 1), (18, .getfield 10, 3), (21, .iload_n 1, 1), (22, .invokevirtual 134, 3), (25, .aload_n 0, 1), (26, .aload_n 0, 1), (27, .getfield 10, 3), (30, .getfield 111, 3), (33, .invokevirtual 107, 3), (36, .ireturn, 1)]
theorem yz_X11_drop_ok : ∀ q ∈ yz_X11_drop, decode cX11_drop q.1 = .ok q.2 := by decide +kernel
theorem yd_yX11_drop : yX11_drop.cls = RX11 ∧ yX11_drop.cls ≠ "java/lang/invoke/MethodHandle" ∧ yX11_drop.cls ≠ "java/lang/invoke/VarHandle" ∧ (parseMethodDescriptor yX11_drop.desc).map (fun d => d.parameters.length) = some 1 := by decide +kernel
def yz_X11_end : List (Nat × (Instr × Nat)) := [(0, .aload_n 0, 1), (1, .getfield 76, 3), (4, .getfield 340, 3), (7, .ireturn, 1)]
theorem yz_X11_end_ok : ∀ q ∈ yz_X11_end, decode cX11_end q.1 = .ok q.2 := by decide +kernel
theorem yd_yX11_end : yX11_end.cls = RX11 ∧ yX11_end.cls ≠ "java/lang/invoke/MethodHandle" ∧ yX11_end.cls ≠ "java/lang/invoke/VarHandle" ∧ (parseMethodDescriptor yX11_end.desc).map (fun d => d.parameters.length) = some 0 := by decide +kernel
def yz_X11_halve : List (Nat × (Instr × Nat)) := [(0, .aload_n 0, 1), (1, .getfield 19, 3), (4, .getfield 310, 3), (7, .ifCond .ne 10, 3), (10, .aload_n 0, 1), (11, .bipush (-6), 2), (13, .invokevirtual 107, 3), (16, .ireturn, 1), (17, .aload_n 0, 1), (18, .aload_n 0, 1), (19, .getfield 19, 3), (22, .aload_n 0, 1), (23, .getfield 10, 3), (26, .invokevirtual 312, 3), (29, .invokevirtual 107, 3), (32, .ireturn, 1)]
theorem yz_X11_halve_ok : ∀ q ∈ yz_X11_halve, decode cX11_halve q.1 = .ok q.2 := by decide +kernel
theorem yd_yX11_halve : yX11_halve.cls = RX11 ∧ yX11_halve.cls ≠ "java/lang/invoke/MethodHandle" ∧ yX11_halve.cls ≠ "java/lang/invoke/VarHandle" ∧ (parseMethodDescriptor yX11_halve.desc).map (fun d => d.parameters.length) = some 0 := by decide +kernel
def yz_X11_halves : List (Nat × (Instr × Nat)) := [(0, .aload_n 0, 1), (1, .getfield 10, 3), (4, .invokestatic 366, 3), (7, .istore_n 1, 1), (8, .iload_n 1, 1), (9, .ifCond .ge 8, 3), (12, .bipush (-6), 2), (14, .goto 4, 3), (17, .iload_n 1, 1), (18, .ireturn, 1)]
theorem yz_X11_halves_ok : ∀ q ∈ yz_X11_halves, decode cX11_halves q.1 = .ok q.2 := by decide +kernel
theorem yd_yX11_halves : yX11_halves.cls = RX11 ∧ yX11_halves.cls ≠ "java/lang/invoke/MethodHandle" ∧ yX11_halves.cls ≠ "java/lang/invoke/VarHandle" ∧ (parseMethodDescriptor yX11_halves.desc).map (fun d => d.parameters.length) = some 0 := by decide +kernel
def yz_X11_hull : List (Nat × (Instr × Nat)) := [(0, .iload_n 1, 1), (1, .invokestatic 103, 3), (4, .ifCond .ne 5, 3), (7, .iconst (-1), 1), (8, .ireturn, 1), (9, .aload_n 0, 1), (10, .getfield 83, 3), (13, .aload_n 0, 1), (14, .getfield 10, 3), (17, .iload_n 1, 1), (18, .invokevirtual 350, 3), (21, .iload_n 2, 1), (22, .iconst (-1), 1), (23, .if_icmp .ne 11, 3), (26, .aload_n 0, 1), (27, .getfield 83, 3), (30, .getfield 353, 3), (33, .ireturn, 1), (34, .iload_n 2, 1), (35, .ifCond .lt 26, 3), (38, .iload_n 2, 1), (39, .aload_n 0, 1), (40, .getfield 83, 3), (43, .getfield 353, 3), (46, .if_icmp .ge 15, 3), (49, .aload_n 0, 1), (50, .getfield 83, 3), (53, .getfield 356, 3), (56, .iload_n 2, 1), (57, .iaload, 1), (58, .goto 4, 3), (61, .iconst (-1), 1), (62, .ireturn, 1)]
theorem yz_X11_hull_ok : ∀ q ∈ yz_X11_hull, decode cX11_hull q.1 = .ok q.2 := by decide +kernel
theorem yd_yX11_hull : yX11_hull.cls = RX11 ∧ yX11_hull.cls ≠ "java/lang/invoke/MethodHandle" ∧ yX11_hull.cls ≠ "java/lang/invoke/VarHandle" ∧ (parseMethodDescriptor yX11_hull.desc).map (fun d => d.parameters.length) = some 2 := by decide +kernel
def yz_X11_image : List (Nat × (Instr × Nat)) := [(0, .iload_n 1, 1), (1, .invokestatic 377, 3), (4, .ifCond .ne 9, 3), (7, .aload_n 0, 1), (8, .iconst (-1), 1), (9, .invokevirtual 107, 3), (12, .ireturn, 1), (13, .aload_n 0, 1), (14, .getfield 36, 3), (17, .iload_n 1, 1), (18, .aaload, 1), (19, .aload_n 0, 1), (20, .getfield 10, 3), (23, .invokevirtual 380, 3), (26, .aload_n 0, 1), (27, .getfield 40, 3), (30, .iload_n 1, 1), (31, .aaload, 1), (32, .aload_n 0, 1), (33, .getfield 19, 3), (36, .invokevirtual 383, 3), (39, .aload_n 0, 1), (40, .getfield 44, 3), (43, .iload_n 1, 1), (44, .aaload, 1), (45, .aload_n 0, 1), (46, .getfield 26, 3), (49, .invokevirtual 386, 3), (52, .aload_n 0, 1), (53, .getfield 48, 3), (56, .iload_n 1, 1), (57, .iconst 1, 1), (58, .bastore, 1), (59, .aload_n 0, 1), (60, .iconst 0, 1), (61, .invokevirtual 107, 3), (64, .ireturn, 1)]
theorem yz_X11_image_ok : ∀ q ∈ yz_X11_image, decode cX11_image q.1 = .ok q.2 := by decide +kernel
theorem yd_yX11_image : yX11_image.cls = RX11 ∧ yX11_image.cls ≠ "java/lang/invoke/MethodHandle" ∧ yX11_image.cls ≠ "java/lang/invoke/VarHandle" ∧ (parseMethodDescriptor yX11_image.desc).map (fun d => d.parameters.length) = some 1 := by decide +kernel
def yz_X11_isImage : List (Nat × (Instr × Nat)) := [(0, .iload_n 0, 1), (1, .ifCond .lt 12, 3), (4, .iload_n 0, 1), (5, .iconst 3, 1), (6, .if_icmp .ge 7, 3), (9, .iconst 1, 1), (10, .goto 4, 3), (13, .iconst 0, 1), (14, .ireturn, 1)]
theorem yz_X11_isImage_ok : ∀ q ∈ yz_X11_isImage, decode cX11_isImage q.1 = .ok q.2 := by decide +kernel
theorem yd_yX11_isImage : yX11_isImage.cls ≠ "java/lang/invoke/MethodHandle" ∧ yX11_isImage.cls ≠ "java/lang/invoke/VarHandle" ∧ (parseMethodDescriptor yX11_isImage.desc).map (fun d => d.parameters.length) = some 1 := by decide +kernel
def yz_X11_isSheet : List (Nat × (Instr × Nat)) := [(0, .iload_n 0, 1), (1, .ifCond .lt 12, 3), (4, .iload_n 0, 1), (5, .iconst 4, 1), (6, .if_icmp .ge 7, 3), (9, .iconst 1, 1), (10, .goto 4, 3), (13, .iconst 0, 1), (14, .ireturn, 1)]
theorem yz_X11_isSheet_ok : ∀ q ∈ yz_X11_isSheet, decode cX11_isSheet q.1 = .ok q.2 := by decide +kernel
theorem yd_yX11_isSheet : yX11_isSheet.cls ≠ "java/lang/invoke/MethodHandle" ∧ yX11_isSheet.cls ≠ "java/lang/invoke/VarHandle" ∧ (parseMethodDescriptor yX11_isSheet.desc).map (fun d => d.parameters.length) = some 1 := by decide +kernel
def yz_X11_isWay : List (Nat × (Instr × Nat)) := [(0, .aload_n 0, 1), (1, .iload_n 1, 1), (2, .invokevirtual 254, 3), (5, .ifCond .eq 11, 3), (8, .iload_n 1, 1), (9, .iload_n 2, 1), (10, .invokestatic 264, 3), (13, .ifCond .ne 5, 3), (16, .iconst (-1), 1), (17, .ireturn, 1), (18, .aload_n 0, 1), (19, .getfield 69, 3), (22, .aload_n 0, 1), (23, .getfield 10, 3), (26, .iload_n 1, 1), (27, .invokevirtual 257, 3), (30, .aload_n 0, 1), (31, .getfield 69, 3), (34, .iload_n 2, 1), (35, .invokevirtual 267, 3), (38, .ifCond .eq 7, 3), (41, .iconst 1, 1), (42, .goto 4, 3), (45, .iconst 0, 1), (46, .ireturn, 1)]
theorem yz_X11_isWay_ok : ∀ q ∈ yz_X11_isWay, decode cX11_isWay q.1 = .ok q.2 := by decide +kernel
theorem yd_yX11_isWay : yX11_isWay.cls = RX11 ∧ yX11_isWay.cls ≠ "java/lang/invoke/MethodHandle" ∧ yX11_isWay.cls ≠ "java/lang/invoke/VarHandle" ∧ (parseMethodDescriptor yX11_isWay.desc).map (fun d => d.parameters.length) = some 2 := by decide +kernel
def yz_X11_judge : List (Nat × (Instr × Nat)) := [(0, .iload_n 1, 1), (1, .iload_n 2, 1), (2, .iload_n 3, 1), (3, .invokestatic 246, 3), (6, .ifCond .ne 9, 3), (9, .aload_n 0, 1), (10, .iconst (-1), 1), (11, .invokevirtual 107, 3), (14, .ireturn, 1), (15, .aload_n 0, 1), (16, .getfield 19, 3), (19, .getfield 310, 3), (22, .bipush 12, 2), (24, .if_icmp .lt 10, 3), (27, .aload_n 0, 1), (28, .bipush (-5), 2), (30, .invokevirtual 107, 3), (33, .ireturn, 1), (34, .aload_n 0, 1), (35, .getfield 19, 3), (38, .iload_n 1, 1), (39, .iload_n 2, 1), (40, .iload_n 3, 1), (41, .invokevirtual 311, 3), (44, .aload_n 0, 1), (45, .aload_n 0, 1), (46, .getfield 19, 3), (49, .getfield 310, 3), (52, .invokevirtual 107, 3), (55, .ireturn, 1)]
theorem yz_X11_judge_ok : ∀ q ∈ yz_X11_judge, decode cX11_judge q.1 = .ok q.2 := by decide +kernel
theorem yd_yX11_judge : yX11_judge.cls = RX11 ∧ yX11_judge.cls ≠ "java/lang/invoke/MethodHandle" ∧ yX11_judge.cls ≠ "java/lang/invoke/VarHandle" ∧ (parseMethodDescriptor yX11_judge.desc).map (fun d => d.parameters.length) = some 3 := by decide +kernel
def yz_X11_learn : List (Nat × (Instr × Nat)) := [(0, .iload_n 1, 1), (1, .ifCond .lt 10, 3), (4, .iload_n 1, 1), (5, .sipush 1000, 3), (8, .if_icmp .le 9, 3), (11, .aload_n 0, 1), (12, .iconst (-1), 1), (13, .invokevirtual 107, 3), (16, .ireturn, 1), (17, .aload_n 0, 1), (18, .aload_n 0, 1), (19, .getfield 26, 3), (22, .aload_n 0, 1), (23, .getfield 10, 3), (26, .iload_n 1, 1), (27, .invokevirtual 288, 3), (30, .invokevirtual 107, 3), (33, .ireturn, 1)]
theorem yz_X11_learn_ok : ∀ q ∈ yz_X11_learn, decode cX11_learn q.1 = .ok q.2 := by decide +kernel
theorem yd_yX11_learn : yX11_learn.cls = RX11 ∧ yX11_learn.cls ≠ "java/lang/invoke/MethodHandle" ∧ yX11_learn.cls ≠ "java/lang/invoke/VarHandle" ∧ (parseMethodDescriptor yX11_learn.desc).map (fun d => d.parameters.length) = some 1 := by decide +kernel
def yz_X11_learnt : List (Nat × (Instr × Nat)) := [(0, .iload_n 1, 1), (1, .tableswitch 75 0 4 #[35, 43, 51, 59, 67], 35), (36, .aload_n 0, 1), (37, .getfield 26, 3), (40, .getfield 292, 3), (43, .lreturn, 1), (44, .aload_n 0, 1), (45, .getfield 26, 3), (48, .getfield 295, 3), (51, .lreturn, 1), (52, .aload_n 0, 1), (53, .getfield 26, 3), (56, .getfield 298, 3), (59, .lreturn, 1), (60, .aload_n 0, 1), (61, .getfield 26, 3), (64, .getfield 301, 3), (67, .lreturn, 1), (68, .aload_n 0, 1), (69, .getfield 26, 3), (72, .getfield 304, 3), (75, .lreturn, 1), (76, .ldc2_w 229, 3), (79, .lreturn, 1)]
theorem yz_X11_learnt_ok : ∀ q ∈ yz_X11_learnt, decode cX11_learnt q.1 = .ok q.2 := by decide +kernel
theorem yd_yX11_learnt : yX11_learnt.cls = RX11 ∧ yX11_learnt.cls ≠ "java/lang/invoke/MethodHandle" ∧ yX11_learnt.cls ≠ "java/lang/invoke/VarHandle" ∧ (parseMethodDescriptor yX11_learnt.desc).map (fun d => d.parameters.length) = some 1 := by decide +kernel
def yz_X11_left : List (Nat × (Instr × Nat)) := [(0, .aload_n 0, 1), (1, .getfield 19, 3), (4, .getfield 316, 3), (7, .ireturn, 1)]
theorem yz_X11_left_ok : ∀ q ∈ yz_X11_left, decode cX11_left q.1 = .ok q.2 := by decide +kernel
theorem yd_yX11_left : yX11_left.cls = RX11 ∧ yX11_left.cls ≠ "java/lang/invoke/MethodHandle" ∧ yX11_left.cls ≠ "java/lang/invoke/VarHandle" ∧ (parseMethodDescriptor yX11_left.desc).map (fun d => d.parameters.length) = some 0 := by decide +kernel
def yz_X11_mass : List (Nat × (Instr × Nat)) := [(0, .iload_n 1, 1), (1, .ifCond .lt 14, 3), (4, .iload_n 1, 1), (5, .aload_n 0, 1), (6, .getfield 76, 3), (9, .getfield 343, 3), (12, .if_icmp .lt 10, 3), (15, .aload_n 0, 1), (16, .iconst (-1), 1), (17, .invokevirtual 107, 3), (20, .i2l, 1), (21, .lreturn, 1), (22, .aload_n 0, 1), (23, .iconst 0, 1), (24, .invokevirtual 107, 3), (27, .pop, 1), (28, .aload_n 0, 1), (29, .getfield 76, 3), (32, .getfield 344, 3), (35, .iload_n 1, 1), (36, .laload, 1), (37, .lreturn, 1)]
theorem yz_X11_mass_ok : ∀ q ∈ yz_X11_mass, decode cX11_mass q.1 = .ok q.2 := by decide +kernel
theorem yd_yX11_mass : yX11_mass.cls = RX11 ∧ yX11_mass.cls ≠ "java/lang/invoke/MethodHandle" ∧ yX11_mass.cls ≠ "java/lang/invoke/VarHandle" ∧ (parseMethodDescriptor yX11_mass.desc).map (fun d => d.parameters.length) = some 1 := by decide +kernel
def yz_X11_meet : List (Nat × (Instr × Nat)) := [(0, .iload_n 1, 1), (1, .invokestatic 226, 3), (4, .ifCond .ne 7, 3), (7, .ldc2_w 229, 3), (10, .lreturn, 1), (11, .aload_n 0, 1), (12, .invokevirtual 184, 3), (15, .ifCond .eq 7, 3), (18, .ldc2_w 195, 3), (21, .lreturn, 1), (22, .aload_n 0, 1), (23, .getfield 62, 3), (26, .aload_n 0, 1), (27, .getfield 10, 3), (30, .invokevirtual 231, 3), (33, .iload_n 1, 1), (34, .lookupswitch 120 #[(0, 58), (1, 67), (40, 76), (41, 87), (42, 98), (43, 109)], 58), (92, .aload_n 0, 1), (93, .getfield 62, 3), (96, .getfield 232, 3), (99, .i2l, 1), (100, .lreturn, 1), (101, .aload_n 0, 1), (102, .getfield 62, 3), (105, .getfield 235, 3), (108, .i2l, 1), (109, .lreturn, 1), (110, .aload_n 0, 1), (111, .getfield 62, 3), (114, .getfield 236, 3), (117, .getfield 201, 3), (120, .lreturn, 1), (121, .aload_n 0, 1), (122, .getfield 62, 3), (125, .getfield 236, 3), (128, .getfield 207, 3), (131, .lreturn, 1), (132, .aload_n 0, 1), (133, .getfield 62, 3), (136, .getfield 239, 3), (139, .getfield 201, 3), (142, .lreturn, 1), (143, .aload_n 0, 1), (144, .getfield 62, 3), (147, .getfield 239, 3), (150, .getfield 207, 3), (153, .lreturn, 1), (154, .aload_n 0, 1), (155, .getfield 62, 3), (158, .iload_n 1, 1), (159, .bipush 10, 2), (161, .idiv, 1), (162, .iload_n 1, 1), (163, .bipush 10, 2), (165, .irem, 1), (166, .invokevirtual 242, 3), (169, .lreturn, 1)]
theorem yz_X11_meet_ok : ∀ q ∈ yz_X11_meet, decode cX11_meet q.1 = .ok q.2 := by decide +kernel
theorem yd_yX11_meet : yX11_meet.cls = RX11 ∧ yX11_meet.cls ≠ "java/lang/invoke/MethodHandle" ∧ yX11_meet.cls ≠ "java/lang/invoke/VarHandle" ∧ (parseMethodDescriptor yX11_meet.desc).map (fun d => d.parameters.length) = some 1 := by decide +kernel
def yz_X11_of : List (Nat × (Instr × Nat)) := [(0, .aload_n 0, 1), (1, .getfield 10, 3), (4, .iload_n 1, 1), (5, .invokevirtual 118, 3), (8, .ifCond .ne 7, 3), (11, .sipush (-1000), 3), (14, .ireturn, 1), (15, .iload_n 2, 1), (16, .tableswitch 72 0 3 #[32, 42, 52, 62], 32), (48, .aload_n 0, 1), (49, .getfield 10, 3), (52, .getfield 121, 3), (55, .iload_n 1, 1), (56, .iaload, 1), (57, .ireturn, 1), (58, .aload_n 0, 1), (59, .getfield 10, 3), (62, .getfield 125, 3), (65, .iload_n 1, 1), (66, .iaload, 1), (67, .ireturn, 1), (68, .aload_n 0, 1), (69, .getfield 10, 3), (72, .getfield 128, 3), (75, .iload_n 1, 1), (76, .iaload, 1), (77, .ireturn, 1), (78, .aload_n 0, 1), (79, .getfield 10, 3), (82, .getfield 131, 3), (85, .iload_n 1, 1), (86, .iaload, 1), (87, .ireturn, 1), (88, .sipush (-1000), 3), (91, .ireturn, 1)]
theorem yz_X11_of_ok : ∀ q ∈ yz_X11_of, decode cX11_of q.1 = .ok q.2 := by decide +kernel
theorem yd_yX11_of : yX11_of.cls = RX11 ∧ yX11_of.cls ≠ "java/lang/invoke/MethodHandle" ∧ yX11_of.cls ≠ "java/lang/invoke/VarHandle" ∧ (parseMethodDescriptor yX11_of.desc).map (fun d => d.parameters.length) = some 2 := by decide +kernel
def yz_X11_paint : List (Nat × (Instr × Nat)) := [(0, .aload_n 0, 1), (1, .getfield 10, 3), (4, .iload_n 1, 1), (5, .invokevirtual 118, 3), (8, .ifCond .eq 22, 3), (11, .iload_n 2, 1), (12, .invokestatic 103, 3), (15, .ifCond .eq 15, 3), (18, .iload_n 3, 1), (19, .iconst 1, 1), (20, .if_icmp .lt 10, 3), (23, .iload_n 3, 1), (24, .sipush 1000, 3), (27, .if_icmp .le 9, 3), (30, .aload_n 0, 1), (31, .iconst (-1), 1), (32, .invokevirtual 107, 3), (35, .ireturn, 1), (36, .aload_n 0, 1), (37, .getfield 10, 3), (40, .iload_n 1, 1), (41, .iload_n 2, 1), (42, .iload_n 3, 1), (43, .invokevirtual 138, 3), (46, .aload_n 0, 1), (47, .iconst 0, 1), (48, .invokevirtual 107, 3), (51, .ireturn, 1)]
theorem yz_X11_paint_ok : ∀ q ∈ yz_X11_paint, decode cX11_paint q.1 = .ok q.2 := by decide +kernel
theorem yd_yX11_paint : yX11_paint.cls = RX11 ∧ yX11_paint.cls ≠ "java/lang/invoke/MethodHandle" ∧ yX11_paint.cls ≠ "java/lang/invoke/VarHandle" ∧ (parseMethodDescriptor yX11_paint.desc).map (fun d => d.parameters.length) = some 3 := by decide +kernel
def yz_X11_parted : List (Nat × (Instr × Nat)) := [(0, .aload_n 0, 1), (1, .invokevirtual 184, 3), (4, .ifCond .eq 7, 3), (7, .iconst 1, 1), (8, .goto 4, 3), (11, .iconst 0, 1), (12, .ireturn, 1)]
theorem yz_X11_parted_ok : ∀ q ∈ yz_X11_parted, decode cX11_parted q.1 = .ok q.2 := by decide +kernel
theorem yd_yX11_parted : yX11_parted.cls = RX11 ∧ yX11_parted.cls ≠ "java/lang/invoke/MethodHandle" ∧ yX11_parted.cls ≠ "java/lang/invoke/VarHandle" ∧ (parseMethodDescriptor yX11_parted.desc).map (fun d => d.parameters.length) = some 0 := by decide +kernel
def yz_X11_point : List (Nat × (Instr × Nat)) := [(0, .iload_n 1, 1), (1, .i2l, 1), (2, .invokestatic 99, 3), (5, .ifCond .eq 18, 3), (8, .iload_n 2, 1), (9, .i2l, 1), (10, .invokestatic 99, 3), (13, .ifCond .eq 10, 3), (16, .iload_n 3, 1), (17, .invokestatic 103, 3), (20, .ifCond .ne 9, 3), (23, .aload_n 0, 1), (24, .iconst (-1), 1), (25, .invokevirtual 107, 3), (28, .ireturn, 1), (29, .aload_n 0, 1), (30, .getfield 10, 3), (33, .getfield 111, 3), (36, .bipush 40, 2), (38, .if_icmp .lt 10, 3), (41, .aload_n 0, 1), (42, .bipush (-5), 2), (44, .invokevirtual 107, 3), (47, .ireturn, 1), (48, .aload_n 0, 1), (49, .getfield 10, 3), (52, .iload_n 1, 1), (53, .iload_n 2, 1), (54, .iload_n 3, 1), (55, .invokevirtual 114, 3), (58, .aload_n 0, 1), (59, .aload_n 0, 1), (60, .getfield 10, 3), (63, .getfield 111, 3), (66, .invokevirtual 107, 3), (69, .ireturn, 1)]
theorem yz_X11_point_ok : ∀ q ∈ yz_X11_point, decode cX11_point q.1 = .ok q.2 := by decide +kernel
theorem yd_yX11_point : yX11_point.cls = RX11 ∧ yX11_point.cls ≠ "java/lang/invoke/MethodHandle" ∧ yX11_point.cls ≠ "java/lang/invoke/VarHandle" ∧ (parseMethodDescriptor yX11_point.desc).map (fun d => d.parameters.length) = some 3 := by decide +kernel
def yz_X11_read : List (Nat × (Instr × Nat)) := [(0, .iload_n 1, 1), (1, .invokestatic 141, 3), (4, .ifCond .eq 16, 3), (7, .aload_n 0, 1), (8, .getfield 32, 3), (11, .iload_n 1, 1), (12, .aaload, 1), (13, .iload_n 2, 1), (14, .invokevirtual 155, 3), (17, .ifCond .ne 7, 3), (20, .ldc2_w 160, 3), (23, .lreturn, 1), (24, .aload_n 0, 1), (25, .getfield 32, 3), (28, .iload_n 1, 1), (29, .aaload, 1), (30, .getfield 162, 3), (33, .iload_n 2, 1), (34, .laload, 1), (35, .lreturn, 1)]
theorem yz_X11_read_ok : ∀ q ∈ yz_X11_read, decode cX11_read q.1 = .ok q.2 := by decide +kernel
theorem yd_yX11_read : yX11_read.cls = RX11 ∧ yX11_read.cls ≠ "java/lang/invoke/MethodHandle" ∧ yX11_read.cls ≠ "java/lang/invoke/VarHandle" ∧ (parseMethodDescriptor yX11_read.desc).map (fun d => d.parameters.length) = some 2 := by decide +kernel
def yz_X11_shatter : List (Nat × (Instr × Nat)) := [(0, .aload_n 0, 1), (1, .getfield 10, 3), (4, .getfield 111, 3), (7, .bipush 12, 2), (9, .invokestatic 279, 3), (12, .iload_n 1, 1), (13, .invokestatic 264, 3), (16, .ifCond .ne 5, 3), (19, .iconst (-1), 1), (20, .ireturn, 1), (21, .aload_n 0, 1), (22, .getfield 10, 3), (25, .iload_n 1, 1), (26, .invokestatic 285, 3), (29, .ifCond .eq 7, 3), (32, .iconst 1, 1), (33, .goto 4, 3), (36, .iconst 0, 1), (37, .ireturn, 1)]
theorem yz_X11_shatter_ok : ∀ q ∈ yz_X11_shatter, decode cX11_shatter q.1 = .ok q.2 := by decide +kernel
theorem yd_yX11_shatter : yX11_shatter.cls = RX11 ∧ yX11_shatter.cls ≠ "java/lang/invoke/MethodHandle" ∧ yX11_shatter.cls ≠ "java/lang/invoke/VarHandle" ∧ (parseMethodDescriptor yX11_shatter.desc).map (fun d => d.parameters.length) = some 1 := by decide +kernel
def yz_X11_sheet : List (Nat × (Instr × Nat)) := [(0, .iload_n 1, 1), (1, .invokestatic 141, 3), (4, .ifCond .eq 18, 3), (7, .iload_n 2, 1), (8, .ifCond .lt 14, 3), (11, .iload_n 2, 1), (12, .iconst 3, 1), (13, .if_icmp .gt 9, 3), (16, .iload_n 3, 1), (17, .bipush 100, 2), (19, .if_icmp .le 9, 3), (22, .aload_n 0, 1), (23, .iconst (-1), 1), (24, .invokevirtual 107, 3), (27, .ireturn, 1), (28, .iload_n 3, 1), (29, .ifCond .ge 19, 3), (32, .aload_n 0, 1), (33, .getfield 32, 3), (36, .iload_n 1, 1), (37, .aaload, 1), (38, .invokevirtual 144, 3), (41, .aload_n 0, 1), (42, .bipush (-4), 2), (44, .invokevirtual 107, 3), (47, .ireturn, 1), (48, .aload_n 0, 1), (49, .getfield 32, 3), (52, .iload_n 1, 1), (53, .aaload, 1), (54, .iload_n 2, 1), (55, .iload_n 3, 1), (56, .invokevirtual 147, 3), (59, .aload_n 0, 1), (60, .iload_n 3, 1), (61, .invokevirtual 107, 3), (64, .ireturn, 1)]
theorem yz_X11_sheet_ok : ∀ q ∈ yz_X11_sheet, decode cX11_sheet q.1 = .ok q.2 := by decide +kernel
theorem yd_yX11_sheet : yX11_sheet.cls = RX11 ∧ yX11_sheet.cls ≠ "java/lang/invoke/MethodHandle" ∧ yX11_sheet.cls ≠ "java/lang/invoke/VarHandle" ∧ (parseMethodDescriptor yX11_sheet.desc).map (fun d => d.parameters.length) = some 3 := by decide +kernel
def yz_X11_sheetsThere : List (Nat × (Instr × Nat)) := [(0, .iconst 0, 1), (1, .istore_n 1, 1), (2, .iconst 0, 1), (3, .istore_n 2, 1), (4, .iload_n 2, 1), (5, .iconst 4, 1), (6, .if_icmp .ge 24, 3), (9, .aload_n 0, 1), (10, .getfield 32, 3), (13, .iload_n 2, 1), (14, .aaload, 1), (15, .getfield 151, 3), (18, .ifCond .eq 6, 3), (21, .iinc 1 1, 3), (24, .iinc 2 1, 3), (27, .goto (-23), 3), (30, .iload_n 1, 1), (31, .ireturn, 1)]
theorem yz_X11_sheetsThere_ok : ∀ q ∈ yz_X11_sheetsThere, decode cX11_sheetsThere q.1 = .ok q.2 := by decide +kernel
theorem yd_yX11_sheetsThere : yX11_sheetsThere.cls = RX11 ∧ yX11_sheetsThere.cls ≠ "java/lang/invoke/MethodHandle" ∧ yX11_sheetsThere.cls ≠ "java/lang/invoke/VarHandle" ∧ (parseMethodDescriptor yX11_sheetsThere.desc).map (fun d => d.parameters.length) = some 0 := by decide +kernel
def yz_X11_side : List (Nat × (Instr × Nat)) := [(0, .aload_n 0, 1), (1, .getfield 55, 3), (4, .aload_n 0, 1), (5, .getfield 10, 3), (8, .invokevirtual 190, 3), (11, .aload_n 0, 1), (12, .getfield 55, 3), (15, .getfield 194, 3), (18, .ifCond .eq 14, 3), (21, .aload_n 0, 1), (22, .getfield 10, 3), (25, .iload_n 1, 1), (26, .invokevirtual 118, 3), (29, .ifCond .ne 5, 3), (32, .iconst (-1), 1), (33, .ireturn, 1), (34, .aload_n 0, 1), (35, .getfield 55, 3), (38, .aload_n 0, 1), (39, .getfield 10, 3), (42, .iload_n 1, 1), (43, .invokevirtual 222, 3), (46, .ifCond .eq 7, 3), (49, .iconst 1, 1), (50, .goto 4, 3), (53, .iconst 0, 1), (54, .ireturn, 1)]
theorem yz_X11_side_ok : ∀ q ∈ yz_X11_side, decode cX11_side q.1 = .ok q.2 := by decide +kernel
theorem yd_yX11_side : yX11_side.cls = RX11 ∧ yX11_side.cls ≠ "java/lang/invoke/MethodHandle" ∧ yX11_side.cls ≠ "java/lang/invoke/VarHandle" ∧ (parseMethodDescriptor yX11_side.desc).map (fun d => d.parameters.length) = some 1 := by decide +kernel
def yz_X11_status : List (Nat × (Instr × Nat)) := [(0, .aload_n 0, 1), (1, .getfield 94, 3), (4, .ireturn, 1)]
theorem yz_X11_status_ok : ∀ q ∈ yz_X11_status, decode cX11_status q.1 = .ok q.2 := by decide +kernel
theorem yd_yX11_status : yX11_status.cls = RX11 ∧ yX11_status.cls ≠ "java/lang/invoke/MethodHandle" ∧ yX11_status.cls ≠ "java/lang/invoke/VarHandle" ∧ (parseMethodDescriptor yX11_status.desc).map (fun d => d.parameters.length) = some 0 := by decide +kernel
def yz_X11_step : List (Nat × (Instr × Nat)) := [(0, .iload_n 1, 1), (1, .ifCond .lt 14, 3), (4, .iload_n 1, 1), (5, .aload_n 0, 1), (6, .getfield 76, 3), (9, .getfield 322, 3), (12, .if_icmp .lt 7, 3), (15, .ldc2_w 229, 3), (18, .lreturn, 1), (19, .iload_n 2, 1), (20, .tableswitch 89 0 4 #[36, 47, 58, 69, 79], 36), (56, .aload_n 0, 1), (57, .getfield 76, 3), (60, .getfield 325, 3), (63, .iload_n 1, 1), (64, .iaload, 1), (65, .i2l, 1), (66, .lreturn, 1), (67, .aload_n 0, 1), (68, .getfield 76, 3), (71, .getfield 328, 3), (74, .iload_n 1, 1), (75, .iaload, 1), (76, .i2l, 1), (77, .lreturn, 1), (78, .aload_n 0, 1), (79, .getfield 76, 3), (82, .getfield 331, 3), (85, .iload_n 1, 1), (86, .iaload, 1), (87, .i2l, 1), (88, .lreturn, 1), (89, .aload_n 0, 1), (90, .getfield 76, 3), (93, .getfield 334, 3), (96, .iload_n 1, 1), (97, .laload, 1), (98, .lreturn, 1), (99, .aload_n 0, 1), (100, .getfield 76, 3), (103, .getfield 337, 3), (106, .iload_n 1, 1), (107, .laload, 1), (108, .lreturn, 1), (109, .ldc2_w 229, 3), (112, .lreturn, 1)]
theorem yz_X11_step_ok : ∀ q ∈ yz_X11_step, decode cX11_step q.1 = .ok q.2 := by decide +kernel
theorem yd_yX11_step : yX11_step.cls = RX11 ∧ yX11_step.cls ≠ "java/lang/invoke/MethodHandle" ∧ yX11_step.cls ≠ "java/lang/invoke/VarHandle" ∧ (parseMethodDescriptor yX11_step.desc).map (fun d => d.parameters.length) = some 2 := by decide +kernel
def yz_X11_strong : List (Nat × (Instr × Nat)) := [(0, .iload_n 1, 1), (1, .iconst 1, 1), (2, .if_icmp .lt 9, 3), (5, .iload_n 1, 1), (6, .bipush 12, 2), (8, .if_icmp .le 9, 3), (11, .aload_n 0, 1), (12, .iconst (-1), 1), (13, .invokevirtual 107, 3), (16, .ireturn, 1), (17, .aload_n 0, 1), (18, .getfield 10, 3), (21, .getfield 111, 3), (24, .ifCond .ne 10, 3), (27, .aload_n 0, 1), (28, .bipush (-6), 2), (30, .invokevirtual 107, 3), (33, .ireturn, 1), (34, .aload_n 0, 1), (35, .getfield 76, 3), (38, .aload_n 0, 1), (39, .getfield 10, 3), (42, .iload_n 1, 1), (43, .invokevirtual 319, 3), (46, .aload_n 0, 1), (47, .aload_n 0, 1), (48, .getfield 76, 3), (51, .getfield 322, 3), (54, .invokevirtual 107, 3), (57, .ireturn, 1)]
theorem yz_X11_strong_ok : ∀ q ∈ yz_X11_strong, decode cX11_strong q.1 = .ok q.2 := by decide +kernel
theorem yd_yX11_strong : yX11_strong.cls = RX11 ∧ yX11_strong.cls ≠ "java/lang/invoke/MethodHandle" ∧ yX11_strong.cls ≠ "java/lang/invoke/VarHandle" ∧ (parseMethodDescriptor yX11_strong.desc).map (fun d => d.parameters.length) = some 1 := by decide +kernel
def yz_X11_take : List (Nat × (Instr × Nat)) := [(0, .iload_n 1, 1), (1, .invokestatic 141, 3), (4, .ifCond .eq 22, 3), (7, .iload 4, 2), (9, .invokestatic 103, 3), (12, .ifCond .eq 14, 3), (15, .iload_n 3, 1), (16, .iconst 1, 1), (17, .if_icmp .lt 9, 3), (20, .iload_n 3, 1), (21, .bipush 40, 2), (23, .if_icmp .le 9, 3), (26, .aload_n 0, 1), (27, .iconst (-1), 1), (28, .invokevirtual 107, 3), (31, .ireturn, 1), (32, .aload_n 0, 1), (33, .getfield 32, 3), (36, .iload_n 1, 1), (37, .aaload, 1), (38, .getfield 151, 3), (41, .ifCond .ne 10, 3), (44, .aload_n 0, 1), (45, .bipush (-2), 2), (47, .invokevirtual 107, 3), (50, .ireturn, 1), (51, .aload_n 0, 1), (52, .getfield 32, 3), (55, .iload_n 1, 1), (56, .aaload, 1), (57, .iload_n 2, 1), (58, .iload_n 3, 1), (59, .invokevirtual 174, 3), (62, .ifCond .ne 10, 3), (65, .aload_n 0, 1), (66, .bipush (-3), 2), (68, .invokevirtual 107, 3), (71, .ireturn, 1), (72, .aload_n 0, 1), (73, .getfield 32, 3), (76, .iload_n 1, 1), (77, .aaload, 1), (78, .iload_n 2, 1), (79, .iload_n 3, 1), (80, .invokevirtual 177, 3), (83, .ifCond .ne 9, 3), (86, .aload_n 0, 1), (87, .iconst (-1), 1), (88, .invokevirtual 107, 3), (91, .ireturn, 1), (92, .aload_n 0, 1), (93, .getfield 10, 3), (96, .getfield 111, 3), (99, .iload_n 3, 1), (100, .iadd, 1), (101, .bipush 40, 2), (103, .if_icmp .le 10, 3), (106, .aload_n 0, 1), (107, .bipush (-5), 2), (109, .invokevirtual 107, 3), (112, .ireturn, 1), (113, .iconst 0, 1), (114, .istore 5, 2), (116, .iload 5, 2), (118, .iload_n 3, 1), (119, .if_icmp .ge 52, 3), (122, .iload_n 2, 1), (123, .iconst 2, 1), (124, .iload 5, 2), (126, .imul, 1), (127, .iadd, 1), (128, .istore 6, 2), (130, .aload_n 0, 1), (131, .getfield 10, 3), (134, .aload_n 0, 1), (135, .getfield 32, 3), (138, .iload_n 1, 1), (139, .aaload, 1), (140, .iload 6, 2), (142, .invokevirtual 180, 3), (145, .l2i, 1), (146, .aload_n 0, 1), (147, .getfield 32, 3), (150, .iload_n 1, 1), (151, .aaload, 1), (152, .iload 6, 2), (154, .iconst 1, 1), (155, .iadd, 1), (156, .invokevirtual 180, 3), (159, .l2i, 1), (160, .iload 4, 2), (162, .invokevirtual 114, 3), (165, .iinc 5 1, 3), (168, .goto (-52), 3), (171, .aload_n 0, 1), (172, .aload_n 0, 1), (173, .getfield 10, 3), (176, .getfield 111, 3), (179, .invokevirtual 107, 3), (182, .ireturn, 1)]
theorem yz_X11_take_ok : ∀ q ∈ yz_X11_take, decode cX11_take q.1 = .ok q.2 := by decide +kernel
theorem yd_yX11_take : yX11_take.cls = RX11 ∧ yX11_take.cls ≠ "java/lang/invoke/MethodHandle" ∧ yX11_take.cls ≠ "java/lang/invoke/VarHandle" ∧ (parseMethodDescriptor yX11_take.desc).map (fun d => d.parameters.length) = some 4 := by decide +kernel
def yz_X11_told : List (Nat × (Instr × Nat)) := [(0, .aload_n 0, 1), (1, .iload_n 1, 1), (2, .ifCond .ge 7, 3), (5, .iload_n 1, 1), (6, .goto 4, 3), (9, .iconst 0, 1), (10, .putfield 94, 3), (13, .iload_n 1, 1), (14, .ireturn, 1)]
theorem yz_X11_told_ok : ∀ q ∈ yz_X11_told, decode cX11_told q.1 = .ok q.2 := by decide +kernel
theorem yd_yX11_told : yX11_told.cls = RX11 ∧ yX11_told.cls ≠ "java/lang/invoke/MethodHandle" ∧ yX11_told.cls ≠ "java/lang/invoke/VarHandle" ∧ (parseMethodDescriptor yX11_told.desc).map (fun d => d.parameters.length) = some 1 := by decide +kernel
def yz_X11_vote : List (Nat × (Instr × Nat)) := [(0, .aload_n 0, 1), (1, .getfield 76, 3), (4, .iload_n 1, 1), (5, .iload_n 2, 1), (6, .invokevirtual 347, 3), (9, .ireturn, 1)]
theorem yz_X11_vote_ok : ∀ q ∈ yz_X11_vote, decode cX11_vote q.1 = .ok q.2 := by decide +kernel
theorem yd_yX11_vote : yX11_vote.cls = RX11 ∧ yX11_vote.cls ≠ "java/lang/invoke/MethodHandle" ∧ yX11_vote.cls ≠ "java/lang/invoke/VarHandle" ∧ (parseMethodDescriptor yX11_vote.desc).map (fun d => d.parameters.length) = some 2 := by decide +kernel
def yz_X11_ways : List (Nat × (Instr × Nat)) := [(0, .aload_n 0, 1), (1, .iload_n 1, 1), (2, .invokevirtual 254, 3), (5, .ifCond .ne 5, 3), (8, .iconst (-1), 1), (9, .ireturn, 1), (10, .aload_n 0, 1), (11, .getfield 69, 3), (14, .aload_n 0, 1), (15, .getfield 10, 3), (18, .iload_n 1, 1), (19, .invokevirtual 257, 3), (22, .aload_n 0, 1), (23, .getfield 69, 3), (26, .invokevirtual 260, 3), (29, .ireturn, 1)]
theorem yz_X11_ways_ok : ∀ q ∈ yz_X11_ways, decode cX11_ways q.1 = .ok q.2 := by decide +kernel
theorem yd_yX11_ways : yX11_ways.cls = RX11 ∧ yX11_ways.cls ≠ "java/lang/invoke/MethodHandle" ∧ yX11_ways.cls ≠ "java/lang/invoke/VarHandle" ∧ (parseMethodDescriptor yX11_ways.desc).map (fun d => d.parameters.length) = some 1 := by decide +kernel
def yz_X11_wide : List (Nat × (Instr × Nat)) := [(0, .iload_n 1, 1), (1, .ifCond .lt 8, 3), (4, .iload_n 1, 1), (5, .iconst 5, 1), (6, .if_icmp .le 7, 3), (9, .ldc2_w 188, 3), (12, .lreturn, 1), (13, .aload_n 0, 1), (14, .getfield 55, 3), (17, .aload_n 0, 1), (18, .getfield 10, 3), (21, .invokevirtual 190, 3), (24, .aload_n 0, 1), (25, .getfield 55, 3), (28, .getfield 194, 3), (31, .ifCond .ne 7, 3), (34, .ldc2_w 195, 3), (37, .lreturn, 1), (38, .iload_n 1, 1), (39, .tableswitch 79 0 4 #[33, 44, 55, 63, 71], 33), (72, .aload_n 0, 1), (73, .getfield 55, 3), (76, .getfield 197, 3), (79, .getfield 201, 3), (82, .lreturn, 1), (83, .aload_n 0, 1), (84, .getfield 55, 3), (87, .getfield 197, 3), (90, .getfield 207, 3), (93, .lreturn, 1), (94, .aload_n 0, 1), (95, .getfield 55, 3), (98, .getfield 210, 3), (101, .lreturn, 1), (102, .aload_n 0, 1), (103, .getfield 55, 3), (106, .getfield 213, 3), (109, .lreturn, 1), (110, .aload_n 0, 1), (111, .getfield 55, 3), (114, .getfield 216, 3), (117, .lreturn, 1), (118, .aload_n 0, 1), (119, .getfield 55, 3), (122, .getfield 219, 3), (125, .i2l, 1), (126, .lreturn, 1)]
theorem yz_X11_wide_ok : ∀ q ∈ yz_X11_wide, decode cX11_wide q.1 = .ok q.2 := by decide +kernel
theorem yd_yX11_wide : yX11_wide.cls = RX11 ∧ yX11_wide.cls ≠ "java/lang/invoke/MethodHandle" ∧ yX11_wide.cls ≠ "java/lang/invoke/VarHandle" ∧ (parseMethodDescriptor yX11_wide.desc).map (fun d => d.parameters.length) = some 1 := by decide +kernel
def yz_X11_write : List (Nat × (Instr × Nat)) := [(0, .iload_n 1, 1), (1, .invokestatic 141, 3), (4, .ifCond .ne 9, 3), (7, .aload_n 0, 1), (8, .iconst (-1), 1), (9, .invokevirtual 107, 3), (12, .ireturn, 1), (13, .aload_n 0, 1), (14, .getfield 32, 3), (17, .iload_n 1, 1), (18, .aaload, 1), (19, .getfield 151, 3), (22, .ifCond .ne 10, 3), (25, .aload_n 0, 1), (26, .bipush (-2), 2), (28, .invokevirtual 107, 3), (31, .ireturn, 1), (32, .aload_n 0, 1), (33, .getfield 32, 3), (36, .iload_n 1, 1), (37, .aaload, 1), (38, .iload_n 2, 1), (39, .invokevirtual 155, 3), (42, .ifCond .ne 10, 3), (45, .aload_n 0, 1), (46, .bipush (-3), 2), (48, .invokevirtual 107, 3), (51, .ireturn, 1), (52, .aload_n 0, 1), (53, .getfield 32, 3), (56, .iload_n 1, 1), (57, .aaload, 1), (58, .iload_n 2, 1), (59, .lload_n 3, 1), (60, .invokevirtual 156, 3), (63, .aload_n 0, 1), (64, .iconst 0, 1), (65, .invokevirtual 107, 3), (68, .ireturn, 1)]
theorem yz_X11_write_ok : ∀ q ∈ yz_X11_write, decode cX11_write q.1 = .ok q.2 := by decide +kernel
theorem yd_yX11_write : yX11_write.cls = RX11 ∧ yX11_write.cls ≠ "java/lang/invoke/MethodHandle" ∧ yX11_write.cls ≠ "java/lang/invoke/VarHandle" ∧ (parseMethodDescriptor yX11_write.desc).map (fun d => d.parameters.length) = some 3 := by decide +kernel
def yz_X0_fewest : List (Nat × (Instr × Nat)) := [(0, .aload_n 0, 1), (1, .aload_n 1, 1), (2, .invokevirtual 29, 3), (5, .iconst 1, 1), (6, .aload_n 0, 1), (7, .getfield 15, 3), (10, .ishl, 1), (11, .iconst 1, 1), (12, .isub, 1), (13, .istore_n 2, 1), (14, .aload_n 0, 1), (15, .getfield 25, 3), (18, .bipush 100, 2), (20, .invokestatic 33, 3), (23, .aload_n 0, 1), (24, .getfield 25, 3), (27, .iconst 0, 1), (28, .iconst 0, 1), (29, .bastore, 1), (30, .iconst 0, 1), (31, .istore_n 3, 1), (32, .iload_n 3, 1), (33, .aload_n 0, 1), (34, .getfield 15, 3), (37, .if_icmp .ge 57, 3), (40, .aload_n 0, 1), (41, .aload_n 1, 1), (42, .iload_n 3, 1), (43, .invokevirtual 39, 3), (46, .iconst 1, 1), (47, .iload_n 3, 1), (48, .ishl, 1), (49, .iconst 1, 1), (50, .isub, 1), (51, .istore 4, 2), (53, .iload 4, 2), (55, .iload_n 2, 1), (56, .if_icmp .ge 32, 3), (59, .aload_n 0, 1), (60, .getfield 25, 3), (63, .iload 4, 2), (65, .baload, 1), (66, .bipush 100, 2), (68, .if_icmp .ge 9, 3), (71, .aload_n 0, 1), (72, .iload 4, 2), (74, .invokevirtual 43, 3), (77, .iload 4, 2), (79, .iconst 2, 1), (80, .iload_n 3, 1), (81, .ishl, 1), (82, .iadd, 1), (83, .istore 4, 2), (85, .goto (-32), 3), (88, .iinc 3 1, 3), (91, .goto (-59), 3), (94, .aload_n 0, 1), (95, .getfield 25, 3), (98, .iload_n 2, 1), (99, .baload, 1), (100, .ireturn, 1)]
theorem yz_X0_fewest_ok : ∀ q ∈ yz_X0_fewest, decode cX0_fewest q.1 = .ok q.2 := by decide +kernel
theorem yd_yX0_fewest : yX0_fewest.cls = RX0 ∧ yX0_fewest.cls ≠ "java/lang/invoke/MethodHandle" ∧ yX0_fewest.cls ≠ "java/lang/invoke/VarHandle" ∧ (parseMethodDescriptor yX0_fewest.desc).map (fun d => d.parameters.length) = some 1 := by decide +kernel
def yz_X0_gather : List (Nat × (Instr × Nat)) := [(0, .aload_n 0, 1), (1, .iconst 0, 1), (2, .putfield 15, 3), (5, .iconst 0, 1), (6, .istore_n 2, 1), (7, .iload_n 2, 1), (8, .aload_n 1, 1), (9, .getfield 47, 3), (12, .if_icmp .ge 48, 3), (15, .aload_n 0, 1), (16, .getfield 15, 3), (19, .bipush 12, 2), (21, .if_icmp .ge 39, 3), (24, .aload_n 1, 1), (25, .getfield 52, 3), (28, .iload_n 2, 1), (29, .iaload, 1), (30, .iconst 1, 1), (31, .if_icmp .ne 23, 3), (34, .aload_n 0, 1), (35, .getfield 9, 3), (38, .aload_n 0, 1), (39, .getfield 15, 3), (42, .iload_n 2, 1), (43, .iastore, 1), (44, .aload_n 0, 1), (45, .dup, 1), (46, .getfield 15, 3), (49, .iconst 1, 1), (50, .iadd, 1), (51, .putfield 15, 3), (54, .iinc 2 1, 3), (57, .goto (-50), 3), (60, .return_, 1)]
theorem yz_X0_gather_ok : ∀ q ∈ yz_X0_gather, decode cX0_gather q.1 = .ok q.2 := by decide +kernel
theorem yd_yX0_gather : yX0_gather.cls = RX0 ∧ yX0_gather.cls ≠ "java/lang/invoke/MethodHandle" ∧ yX0_gather.cls ≠ "java/lang/invoke/VarHandle" ∧ (parseMethodDescriptor yX0_gather.desc).map (fun d => d.parameters.length) = some 1 := by decide +kernel
def yz_X2_add : List (Nat × (Instr × Nat)) := [(0, .aload_n 0, 1), (1, .getfield 9, 3), (4, .bipush 12, 2), (6, .if_icmp .lt 4, 3), (9, .return_, 1), (10, .aload_n 0, 1), (11, .getfield 18, 3), (14, .aload_n 0, 1), (15, .getfield 9, 3), (18, .iload_n 1, 1), (19, .iastore, 1), (20, .aload_n 0, 1), (21, .getfield 22, 3), (24, .aload_n 0, 1), (25, .getfield 9, 3), (28, .iload_n 2, 1), (29, .iastore, 1), (30, .aload_n 0, 1), (31, .getfield 25, 3), (34, .aload_n 0, 1), (35, .getfield 9, 3), (38, .iload_n 3, 1), (39, .iastore, 1), (40, .aload_n 0, 1), (41, .dup, 1), (42, .getfield 9, 3), (45, .iconst 1, 1), (46, .iadd, 1), (47, .putfield 9, 3), (50, .return_, 1)]
theorem yz_X2_add_ok : ∀ q ∈ yz_X2_add, decode cX2_add q.1 = .ok q.2 := by decide +kernel
theorem yd_yX2_add : yX2_add.cls = RX2 ∧ yX2_add.cls ≠ "java/lang/invoke/MethodHandle" ∧ yX2_add.cls ≠ "java/lang/invoke/VarHandle" ∧ (parseMethodDescriptor yX2_add.desc).map (fun d => d.parameters.length) = some 3 := by decide +kernel
def yz_X2_become : List (Nat × (Instr × Nat)) := [(0, .aload_n 1, 1), (1, .getfield 18, 3), (4, .iconst 0, 1), (5, .aload_n 0, 1), (6, .getfield 18, 3), (9, .iconst 0, 1), (10, .bipush 12, 2), (12, .invokestatic 34, 3), (15, .aload_n 1, 1), (16, .getfield 22, 3), (19, .iconst 0, 1), (20, .aload_n 0, 1), (21, .getfield 22, 3), (24, .iconst 0, 1), (25, .bipush 12, 2), (27, .invokestatic 34, 3), (30, .aload_n 1, 1), (31, .getfield 25, 3), (34, .iconst 0, 1), (35, .aload_n 0, 1), (36, .getfield 25, 3), (39, .iconst 0, 1), (40, .bipush 12, 2), (42, .invokestatic 34, 3), (45, .aload_n 0, 1), (46, .aload_n 1, 1), (47, .getfield 9, 3), (50, .putfield 9, 3), (53, .return_, 1)]
theorem yz_X2_become_ok : ∀ q ∈ yz_X2_become, decode cX2_become q.1 = .ok q.2 := by decide +kernel
theorem yd_yX2_become : yX2_become.cls = RX2 ∧ yX2_become.cls ≠ "java/lang/invoke/MethodHandle" ∧ yX2_become.cls ≠ "java/lang/invoke/VarHandle" ∧ (parseMethodDescriptor yX2_become.desc).map (fun d => d.parameters.length) = some 1 := by decide +kernel
def yz_X2_canBe : List (Nat × (Instr × Nat)) := [(0, .iload_n 0, 1), (1, .ldc 32, 2), (3, .if_icmp .lt 13, 3), (6, .iload_n 0, 1), (7, .ldc 33, 2), (9, .if_icmp .gt 7, 3), (12, .iconst 1, 1), (13, .goto 4, 3), (16, .iconst 0, 1), (17, .ireturn, 1)]
theorem yz_X2_canBe_ok : ∀ q ∈ yz_X2_canBe, decode cX2_canBe q.1 = .ok q.2 := by decide +kernel
theorem yd_yX2_canBe : yX2_canBe.cls ≠ "java/lang/invoke/MethodHandle" ∧ yX2_canBe.cls ≠ "java/lang/invoke/VarHandle" ∧ (parseMethodDescriptor yX2_canBe.desc).map (fun d => d.parameters.length) = some 1 := by decide +kernel
def yz_X2_isLine : List (Nat × (Instr × Nat)) := [(0, .iload_n 0, 1), (1, .invokestatic 28, 3), (4, .ifCond .eq 29, 3), (7, .iload_n 1, 1), (8, .invokestatic 28, 3), (11, .ifCond .eq 22, 3), (14, .iload_n 2, 1), (15, .invokestatic 28, 3), (18, .ifCond .eq 15, 3), (21, .iload_n 0, 1), (22, .ifCond .ne 7, 3), (25, .iload_n 1, 1), (26, .ifCond .eq 7, 3), (29, .iconst 1, 1), (30, .goto 4, 3), (33, .iconst 0, 1), (34, .ireturn, 1)]
theorem yz_X2_isLine_ok : ∀ q ∈ yz_X2_isLine, decode cX2_isLine q.1 = .ok q.2 := by decide +kernel
theorem yd_yX2_isLine : yX2_isLine.cls ≠ "java/lang/invoke/MethodHandle" ∧ yX2_isLine.cls ≠ "java/lang/invoke/VarHandle" ∧ (parseMethodDescriptor yX2_isLine.desc).map (fun d => d.parameters.length) = some 3 := by decide +kernel
def yz_X3_become : List (Nat × (Instr × Nat)) := [(0, .aload_n 0, 1), (1, .aload_n 1, 1), (2, .getfield 9, 3), (5, .putfield 9, 3), (8, .aload_n 0, 1), (9, .aload_n 1, 1), (10, .getfield 15, 3), (13, .putfield 15, 3), (16, .aload_n 0, 1), (17, .aload_n 1, 1), (18, .getfield 18, 3), (21, .putfield 18, 3), (24, .aload_n 0, 1), (25, .aload_n 1, 1), (26, .getfield 21, 3), (29, .putfield 21, 3), (32, .aload_n 0, 1), (33, .aload_n 1, 1), (34, .getfield 24, 3), (37, .putfield 24, 3), (40, .return_, 1)]
theorem yz_X3_become_ok : ∀ q ∈ yz_X3_become, decode cX3_become q.1 = .ok q.2 := by decide +kernel
theorem yd_yX3_become : yX3_become.cls = RX3 ∧ yX3_become.cls ≠ "java/lang/invoke/MethodHandle" ∧ yX3_become.cls ≠ "java/lang/invoke/VarHandle" ∧ (parseMethodDescriptor yX3_become.desc).map (fun d => d.parameters.length) = some 1 := by decide +kernel
def yz_X3_forget : List (Nat × (Instr × Nat)) := [(0, .aload_n 0, 1), (1, .lconst 0, 1), (2, .putfield 9, 3), (5, .aload_n 0, 1), (6, .lconst 0, 1), (7, .putfield 15, 3), (10, .aload_n 0, 1), (11, .lconst 0, 1), (12, .putfield 18, 3), (15, .aload_n 0, 1), (16, .lconst 0, 1), (17, .putfield 21, 3), (20, .aload_n 0, 1), (21, .lconst 0, 1), (22, .putfield 24, 3), (25, .return_, 1)]
theorem yz_X3_forget_ok : ∀ q ∈ yz_X3_forget, decode cX3_forget q.1 = .ok q.2 := by decide +kernel
theorem yd_yX3_forget : yX3_forget.cls = RX3 ∧ yX3_forget.cls ≠ "java/lang/invoke/MethodHandle" ∧ yX3_forget.cls ≠ "java/lang/invoke/VarHandle" ∧ (parseMethodDescriptor yX3_forget.desc).map (fun d => d.parameters.length) = some 0 := by decide +kernel
def yz_X3_goRound : List (Nat × (Instr × Nat)) := [(0, .iconst 0, 1), (1, .istore_n 2, 1), (2, .iconst 0, 1), (3, .istore_n 3, 1), (4, .iload_n 3, 1), (5, .aload_n 1, 1), (6, .getfield 31, 3), (9, .if_icmp .ge 119, 3), (12, .aload_n 0, 1), (13, .getfield 9, 3), (16, .aload_n 1, 1), (17, .getfield 37, 3), (20, .iload_n 3, 1), (21, .iaload, 1), (22, .i2l, 1), (23, .lmul, 1), (24, .aload_n 0, 1), (25, .getfield 15, 3), (28, .aload_n 1, 1), (29, .getfield 41, 3), (32, .iload_n 3, 1), (33, .iaload, 1), (34, .i2l, 1), (35, .lmul, 1), (36, .ladd, 1), (37, .aload_n 0, 1), (38, .getfield 18, 3), (41, .ladd, 1), (42, .lstore 4, 2), (44, .aload_n 1, 1), (45, .getfield 44, 3), (48, .iload_n 3, 1), (49, .iaload, 1), (50, .iconst 1, 1), (51, .if_icmp .ne 33, 3), (54, .lload 4, 2), (56, .lconst 0, 1), (57, .lcmp, 1), (58, .ifCond .gt 26, 3), (61, .aload_n 0, 1), (62, .aload_n 1, 1), (63, .getfield 37, 3), (66, .iload_n 3, 1), (67, .iaload, 1), (68, .aload_n 1, 1), (69, .getfield 41, 3), (72, .iload_n 3, 1), (73, .iaload, 1), (74, .iconst 1, 1), (75, .invokevirtual 47, 3), (78, .iinc 2 1, 3), (81, .goto 41, 3), (84, .aload_n 1, 1), (85, .getfield 44, 3), (88, .iload_n 3, 1), (89, .iaload, 1), (90, .ifCond .ne 32, 3), (93, .lload 4, 2), (95, .lconst 0, 1), (96, .lcmp, 1), (97, .ifCond .lt 25, 3), (100, .aload_n 0, 1), (101, .aload_n 1, 1), (102, .getfield 37, 3), (105, .iload_n 3, 1), (106, .iaload, 1), (107, .ineg, 1), (108, .aload_n 1, 1), (109, .getfield 41, 3), (112, .iload_n 3, 1), (113, .iaload, 1), (114, .ineg, 1), (115, .iconst (-1), 1), (116, .invokevirtual 47, 3), (119, .iinc 2 1, 3), (122, .iinc 3 1, 3), (125, .goto (-121), 3), (128, .iload_n 2, 1), (129, .ireturn, 1)]
theorem yz_X3_goRound_ok : ∀ q ∈ yz_X3_goRound, decode cX3_goRound q.1 = .ok q.2 := by decide +kernel
theorem yd_yX3_goRound : yX3_goRound.cls = RX3 ∧ yX3_goRound.cls ≠ "java/lang/invoke/MethodHandle" ∧ yX3_goRound.cls ≠ "java/lang/invoke/VarHandle" ∧ (parseMethodDescriptor yX3_goRound.desc).map (fun d => d.parameters.length) = some 1 := by decide +kernel
def yz_X3_train : List (Nat × (Instr × Nat)) := [(0, .iconst 0, 1), (1, .istore_n 3, 1), (2, .iconst 0, 1), (3, .istore 4, 2), (5, .iload 4, 2), (7, .iload_n 2, 1), (8, .if_icmp .ge 39, 3), (11, .aload_n 0, 1), (12, .aload_n 1, 1), (13, .invokevirtual 27, 3), (16, .istore 5, 2), (18, .aload_n 0, 1), (19, .dup, 1), (20, .getfield 24, 3), (23, .lconst 1, 1), (24, .ladd, 1), (25, .putfield 24, 3), (28, .iload_n 3, 1), (29, .iload 5, 2), (31, .iadd, 1), (32, .istore_n 3, 1), (33, .iload 5, 2), (35, .ifCond .ne 6, 3), (38, .goto 9, 3), (41, .iinc 4 1, 3), (44, .goto (-39), 3), (47, .aload_n 0, 1), (48, .dup, 1), (49, .getfield 21, 3), (52, .iload_n 3, 1), (53, .i2l, 1), (54, .ladd, 1), (55, .putfield 21, 3), (58, .iload_n 3, 1), (59, .ireturn, 1)]
theorem yz_X3_train_ok : ∀ q ∈ yz_X3_train, decode cX3_train q.1 = .ok q.2 := by decide +kernel
theorem yd_yX3_train : yX3_train.cls = RX3 ∧ yX3_train.cls ≠ "java/lang/invoke/MethodHandle" ∧ yX3_train.cls ≠ "java/lang/invoke/VarHandle" ∧ (parseMethodDescriptor yX3_train.desc).map (fun d => d.parameters.length) = some 2 := by decide +kernel
def yz_X4_canTell : List (Nat × (Instr × Nat)) := [(0, .iload_n 0, 1), (1, .ifCond .eq 8, 3), (4, .iload_n 0, 1), (5, .iconst 1, 1), (6, .if_icmp .ne 5, 3), (9, .iconst 1, 1), (10, .ireturn, 1), (11, .iload_n 0, 1), (12, .bipush 10, 2), (14, .if_icmp .lt 21, 3), (17, .iload_n 0, 1), (18, .bipush 50, 2), (20, .if_icmp .ge 15, 3), (23, .iload_n 0, 1), (24, .bipush 10, 2), (26, .irem, 1), (27, .iconst 4, 1), (28, .if_icmp .ge 7, 3), (31, .iconst 1, 1), (32, .goto 4, 3), (35, .iconst 0, 1), (36, .ireturn, 1)]
theorem yz_X4_canTell_ok : ∀ q ∈ yz_X4_canTell, decode cX4_canTell q.1 = .ok q.2 := by decide +kernel
theorem yd_yX4_canTell : yX4_canTell.cls ≠ "java/lang/invoke/MethodHandle" ∧ yX4_canTell.cls ≠ "java/lang/invoke/VarHandle" ∧ (parseMethodDescriptor yX4_canTell.desc).map (fun d => d.parameters.length) = some 1 := by decide +kernel
def yz_X5_find : List (Nat × (Instr × Nat)) := [(0, .aload_n 0, 1), (1, .iconst 1, 1), (2, .iload_n 2, 1), (3, .ishl, 1), (4, .iconst 1, 1), (5, .isub, 1), (6, .putfield 22, 3), (9, .aload_n 0, 1), (10, .getfield 18, 3), (13, .lconst 0, 1), (14, .invokestatic 25, 3), (17, .aload_n 0, 1), (18, .iconst 0, 1), (19, .invokevirtual 31, 3), (22, .iconst 0, 1), (23, .istore_n 3, 1), (24, .iload_n 3, 1), (25, .iload_n 2, 1), (26, .if_icmp .ge 43, 3), (29, .iconst 0, 1), (30, .istore 4, 2), (32, .iload 4, 2), (34, .iload_n 2, 1), (35, .if_icmp .ge 28, 3), (38, .aload_n 1, 1), (39, .iload_n 3, 1), (40, .iload 4, 2), (42, .invokevirtual 35, 3), (45, .ifCond .ne 12, 3), (48, .aload_n 0, 1), (49, .aload_n 1, 1), (50, .iload_n 2, 1), (51, .iload_n 3, 1), (52, .iload 4, 2), (54, .invokevirtual 41, 3), (57, .iinc 4 1, 3), (60, .goto (-28), 3), (63, .iinc 3 1, 3), (66, .goto (-42), 3), (69, .return_, 1)]
theorem yz_X5_find_ok : ∀ q ∈ yz_X5_find, decode cX5_find q.1 = .ok q.2 := by decide +kernel
theorem yd_yX5_find : yX5_find.cls = RX5 ∧ yX5_find.cls ≠ "java/lang/invoke/MethodHandle" ∧ yX5_find.cls ≠ "java/lang/invoke/VarHandle" ∧ (parseMethodDescriptor yX5_find.desc).map (fun d => d.parameters.length) = some 2 := by decide +kernel
def yz_X5_findLeastWrong : List (Nat × (Instr × Nat)) := [(0, .aload_n 0, 1), (1, .sipush 12001, 3), (4, .putfield 9, 3), (7, .iconst 0, 1), (8, .istore_n 3, 1), (9, .iload_n 3, 1), (10, .aload_n 0, 1), (11, .getfield 22, 3), (14, .if_icmp .gt 45, 3), (17, .aload_n 0, 1), (18, .iload_n 3, 1), (19, .invokevirtual 61, 3), (22, .ifCond .eq 31, 3), (25, .aload_n 1, 1), (26, .iload_n 2, 1), (27, .iload_n 3, 1), (28, .invokestatic 65, 3), (31, .istore 4, 2), (33, .iload 4, 2), (35, .aload_n 0, 1), (36, .getfield 9, 3), (39, .if_icmp .ge 14, 3), (42, .aload_n 0, 1), (43, .iload 4, 2), (45, .putfield 9, 3), (48, .aload_n 0, 1), (49, .iload_n 3, 1), (50, .putfield 15, 3), (53, .iinc 3 1, 3), (56, .goto (-47), 3), (59, .return_, 1)]
theorem yz_X5_findLeastWrong_ok : ∀ q ∈ yz_X5_findLeastWrong, decode cX5_findLeastWrong q.1 = .ok q.2 := by decide +kernel
theorem yd_yX5_findLeastWrong : yX5_findLeastWrong.cls = RX5 ∧ yX5_findLeastWrong.cls ≠ "java/lang/invoke/MethodHandle" ∧ yX5_findLeastWrong.cls ≠ "java/lang/invoke/VarHandle" ∧ (parseMethodDescriptor yX5_findLeastWrong.desc).map (fun d => d.parameters.length) = some 2 := by decide +kernel
def yz_X5_fits : List (Nat × (Instr × Nat)) := [(0, .iload_n 1, 1), (1, .iconst 1, 1), (2, .iload_n 0, 1), (3, .ishl, 1), (4, .iconst 1, 1), (5, .isub, 1), (6, .iconst (-1), 1), (7, .ixor, 1), (8, .iand, 1), (9, .ifCond .ne 7, 3), (12, .iconst 1, 1), (13, .goto 4, 3), (16, .iconst 0, 1), (17, .ireturn, 1)]
theorem yz_X5_fits_ok : ∀ q ∈ yz_X5_fits, decode cX5_fits q.1 = .ok q.2 := by decide +kernel
theorem yd_yX5_fits : yX5_fits.cls ≠ "java/lang/invoke/MethodHandle" ∧ yX5_fits.cls ≠ "java/lang/invoke/VarHandle" ∧ (parseMethodDescriptor yX5_fits.desc).map (fun d => d.parameters.length) = some 2 := by decide +kernel
def yz_X5_isMarked : List (Nat × (Instr × Nat)) := [(0, .aload_n 0, 1), (1, .getfield 18, 3), (4, .iload_n 1, 1), (5, .bipush 6, 2), (7, .ishr, 1), (8, .bipush 63, 2), (10, .iand, 1), (11, .laload, 1), (12, .iload_n 1, 1), (13, .bipush 63, 2), (15, .iand, 1), (16, .lshr, 1), (17, .lconst 1, 1), (18, .land, 1), (19, .lconst 0, 1), (20, .lcmp, 1), (21, .ifCond .eq 7, 3), (24, .iconst 1, 1), (25, .goto 4, 3), (28, .iconst 0, 1), (29, .ireturn, 1)]
theorem yz_X5_isMarked_ok : ∀ q ∈ yz_X5_isMarked, decode cX5_isMarked q.1 = .ok q.2 := by decide +kernel
theorem yd_yX5_isMarked : yX5_isMarked.cls = RX5 ∧ yX5_isMarked.cls ≠ "java/lang/invoke/MethodHandle" ∧ yX5_isMarked.cls ≠ "java/lang/invoke/VarHandle" ∧ (parseMethodDescriptor yX5_isMarked.desc).map (fun d => d.parameters.length) = some 1 := by decide +kernel
def yz_X5_isShattered : List (Nat × (Instr × Nat)) := [(0, .iload_n 1, 1), (1, .invokestatic 76, 3), (4, .istore_n 2, 1), (5, .iload_n 2, 1), (6, .iconst 3, 1), (7, .if_icmp .le 5, 3), (10, .iconst 0, 1), (11, .ireturn, 1), (12, .aload_n 0, 1), (13, .iload_n 1, 1), (14, .iconst 0, 1), (15, .invokestatic 81, 3), (18, .istore_n 3, 1), (19, .aload_n 0, 1), (20, .iload_n 1, 1), (21, .iload_n 3, 1), (22, .iconst 1, 1), (23, .iadd, 1), (24, .invokestatic 81, 3), (27, .istore 4, 2), (29, .aload_n 0, 1), (30, .iload_n 1, 1), (31, .iload 4, 2), (33, .iconst 1, 1), (34, .iadd, 1), (35, .invokestatic 81, 3), (38, .istore 5, 2), (40, .iload_n 2, 1), (41, .iconst 3, 1), (42, .if_icmp .ne 21, 3), (45, .aload_n 0, 1), (46, .iload_n 3, 1), (47, .iload 4, 2), (49, .iload 5, 2), (51, .invokevirtual 45, 3), (54, .ifCond .eq 7, 3), (57, .iconst 1, 1), (58, .goto 4, 3), (61, .iconst 0, 1), (62, .ireturn, 1), (63, .iload_n 2, 1), (64, .iconst 2, 1), (65, .if_icmp .lt 13, 3), (68, .aload_n 0, 1), (69, .iload_n 3, 1), (70, .iload 4, 2), (72, .invokevirtual 35, 3), (75, .ifCond .ne 7, 3), (78, .iconst 1, 1), (79, .goto 4, 3), (82, .iconst 0, 1), (83, .ireturn, 1)]
theorem yz_X5_isShattered_ok : ∀ q ∈ yz_X5_isShattered, decode cX5_isShattered q.1 = .ok q.2 := by decide +kernel
theorem yd_yX5_isShattered : yX5_isShattered.cls ≠ "java/lang/invoke/MethodHandle" ∧ yX5_isShattered.cls ≠ "java/lang/invoke/VarHandle" ∧ (parseMethodDescriptor yX5_isShattered.desc).map (fun d => d.parameters.length) = some 2 := by decide +kernel
def yz_X5_mark : List (Nat × (Instr × Nat)) := [(0, .aload_n 0, 1), (1, .getfield 18, 3), (4, .iload_n 1, 1), (5, .bipush 6, 2), (7, .ishr, 1), (8, .bipush 63, 2), (10, .iand, 1), (11, .dup2, 1), (12, .laload, 1), (13, .lconst 1, 1), (14, .iload_n 1, 1), (15, .bipush 63, 2), (17, .iand, 1), (18, .lshl, 1), (19, .lor, 1), (20, .lastore, 1), (21, .return_, 1)]
theorem yz_X5_mark_ok : ∀ q ∈ yz_X5_mark, decode cX5_mark q.1 = .ok q.2 := by decide +kernel
theorem yd_yX5_mark : yX5_mark.cls = RX5 ∧ yX5_mark.cls ≠ "java/lang/invoke/MethodHandle" ∧ yX5_mark.cls ≠ "java/lang/invoke/VarHandle" ∧ (parseMethodDescriptor yX5_mark.desc).map (fun d => d.parameters.length) = some 1 := by decide +kernel
def yz_X5_markBoth : List (Nat × (Instr × Nat)) := [(0, .aload_n 0, 1), (1, .iload_n 1, 1), (2, .invokevirtual 52, 3), (5, .aload_n 0, 1), (6, .aload_n 0, 1), (7, .getfield 22, 3), (10, .iload_n 1, 1), (11, .iconst (-1), 1), (12, .ixor, 1), (13, .iand, 1), (14, .invokevirtual 52, 3), (17, .return_, 1)]
theorem yz_X5_markBoth_ok : ∀ q ∈ yz_X5_markBoth, decode cX5_markBoth q.1 = .ok q.2 := by decide +kernel
theorem yd_yX5_markBoth : yX5_markBoth.cls = RX5 ∧ yX5_markBoth.cls ≠ "java/lang/invoke/MethodHandle" ∧ yX5_markBoth.cls ≠ "java/lang/invoke/VarHandle" ∧ (parseMethodDescriptor yX5_markBoth.desc).map (fun d => d.parameters.length) = some 1 := by decide +kernel
def yz_X5_nextOf : List (Nat × (Instr × Nat)) := [(0, .iload_n 2, 1), (1, .istore_n 3, 1), (2, .iload_n 3, 1), (3, .aload_n 0, 1), (4, .getfield 84, 3), (7, .if_icmp .ge 25, 3), (10, .iload_n 3, 1), (11, .bipush 12, 2), (13, .if_icmp .ge 19, 3), (16, .iload_n 1, 1), (17, .iload_n 3, 1), (18, .ishr, 1), (19, .iconst 1, 1), (20, .iand, 1), (21, .ifCond .eq 5, 3), (24, .iload_n 3, 1), (25, .ireturn, 1), (26, .iinc 3 1, 3), (29, .goto (-27), 3), (32, .iconst 0, 1), (33, .ireturn, 1)]
theorem yz_X5_nextOf_ok : ∀ q ∈ yz_X5_nextOf, decode cX5_nextOf q.1 = .ok q.2 := by decide +kernel
theorem yd_yX5_nextOf : yX5_nextOf.cls ≠ "java/lang/invoke/MethodHandle" ∧ yX5_nextOf.cls ≠ "java/lang/invoke/VarHandle" ∧ (parseMethodDescriptor yX5_nextOf.desc).map (fun d => d.parameters.length) = some 3 := by decide +kernel
def yz_X5_tally : List (Nat × (Instr × Nat)) := [(0, .iconst 0, 1), (1, .istore_n 1, 1), (2, .iconst 0, 1), (3, .istore_n 2, 1), (4, .iload_n 2, 1), (5, .bipush 64, 2), (7, .if_icmp .ge 21, 3), (10, .iload_n 1, 1), (11, .aload_n 0, 1), (12, .getfield 18, 3), (15, .iload_n 2, 1), (16, .laload, 1), (17, .invokestatic 55, 3), (20, .iadd, 1), (21, .istore_n 1, 1), (22, .iinc 2 1, 3), (25, .goto (-21), 3), (28, .iload_n 1, 1), (29, .ireturn, 1)]
theorem yz_X5_tally_ok : ∀ q ∈ yz_X5_tally, decode cX5_tally q.1 = .ok q.2 := by decide +kernel
theorem yd_yX5_tally : yX5_tally.cls = RX5 ∧ yX5_tally.cls ≠ "java/lang/invoke/MethodHandle" ∧ yX5_tally.cls ≠ "java/lang/invoke/VarHandle" ∧ (parseMethodDescriptor yX5_tally.desc).map (fun d => d.parameters.length) = some 0 := by decide +kernel
def yz_X5_wrongBy : List (Nat × (Instr × Nat)) := [(0, .iconst 0, 1), (1, .istore_n 3, 1), (2, .iconst 0, 1), (3, .istore 4, 2), (5, .iload 4, 2), (7, .iload_n 1, 1), (8, .if_icmp .ge 35, 3), (11, .iload_n 2, 1), (12, .iload 4, 2), (14, .ishr, 1), (15, .iconst 1, 1), (16, .iand, 1), (17, .aload_n 0, 1), (18, .getfield 69, 3), (21, .iload 4, 2), (23, .iaload, 1), (24, .if_icmp .eq 13, 3), (27, .iload_n 3, 1), (28, .aload_n 0, 1), (29, .getfield 73, 3), (32, .iload 4, 2), (34, .iaload, 1), (35, .iadd, 1), (36, .istore_n 3, 1), (37, .iinc 4 1, 3), (40, .goto (-35), 3), (43, .iload_n 3, 1), (44, .ireturn, 1)]
theorem yz_X5_wrongBy_ok : ∀ q ∈ yz_X5_wrongBy, decode cX5_wrongBy q.1 = .ok q.2 := by decide +kernel
theorem yd_yX5_wrongBy : yX5_wrongBy.cls ≠ "java/lang/invoke/MethodHandle" ∧ yX5_wrongBy.cls ≠ "java/lang/invoke/VarHandle" ∧ (parseMethodDescriptor yX5_wrongBy.desc).map (fun d => d.parameters.length) = some 3 := by decide +kernel
def yz_X6_add : List (Nat × (Instr × Nat)) := [(0, .aload_n 0, 1), (1, .getfield 24, 3), (4, .bipush 40, 2), (6, .if_icmp .lt 4, 3), (9, .return_, 1), (10, .aload_n 0, 1), (11, .getfield 9, 3), (14, .aload_n 0, 1), (15, .getfield 24, 3), (18, .iload_n 1, 1), (19, .iastore, 1), (20, .aload_n 0, 1), (21, .getfield 15, 3), (24, .aload_n 0, 1), (25, .getfield 24, 3), (28, .iload_n 2, 1), (29, .iastore, 1), (30, .aload_n 0, 1), (31, .getfield 18, 3), (34, .aload_n 0, 1), (35, .getfield 24, 3), (38, .iload_n 3, 1), (39, .iastore, 1), (40, .aload_n 0, 1), (41, .getfield 21, 3), (44, .aload_n 0, 1), (45, .getfield 24, 3), (48, .iconst 1, 1), (49, .iastore, 1), (50, .aload_n 0, 1), (51, .dup, 1), (52, .getfield 24, 3), (55, .iconst 1, 1), (56, .iadd, 1), (57, .putfield 24, 3), (60, .aload_n 0, 1), (61, .dup, 1), (62, .getfield 28, 3), (65, .iconst 1, 1), (66, .iadd, 1), (67, .putfield 28, 3), (70, .return_, 1)]
theorem yz_X6_add_ok : ∀ q ∈ yz_X6_add, decode cX6_add q.1 = .ok q.2 := by decide +kernel
theorem yd_yX6_add : yX6_add.cls = RX6 ∧ yX6_add.cls ≠ "java/lang/invoke/MethodHandle" ∧ yX6_add.cls ≠ "java/lang/invoke/VarHandle" ∧ (parseMethodDescriptor yX6_add.desc).map (fun d => d.parameters.length) = some 3 := by decide +kernel
def yz_X6_allWeights : List (Nat × (Instr × Nat)) := [(0, .iconst 0, 1), (1, .istore_n 1, 1), (2, .iconst 0, 1), (3, .istore_n 2, 1), (4, .iload_n 2, 1), (5, .aload_n 0, 1), (6, .getfield 24, 3), (9, .if_icmp .ge 18, 3), (12, .iload_n 1, 1), (13, .aload_n 0, 1), (14, .getfield 21, 3), (17, .iload_n 2, 1), (18, .iaload, 1), (19, .iadd, 1), (20, .istore_n 1, 1), (21, .iinc 2 1, 3), (24, .goto (-20), 3), (27, .iload_n 1, 1), (28, .ireturn, 1)]
theorem yz_X6_allWeights_ok : ∀ q ∈ yz_X6_allWeights, decode cX6_allWeights q.1 = .ok q.2 := by decide +kernel
theorem yd_yX6_allWeights : yX6_allWeights.cls = RX6 ∧ yX6_allWeights.cls ≠ "java/lang/invoke/MethodHandle" ∧ yX6_allWeights.cls ≠ "java/lang/invoke/VarHandle" ∧ (parseMethodDescriptor yX6_allWeights.desc).map (fun d => d.parameters.length) = some 0 := by decide +kernel
def yz_X6_become : List (Nat × (Instr × Nat)) := [(0, .aload_n 1, 1), (1, .getfield 9, 3), (4, .iconst 0, 1), (5, .aload_n 0, 1), (6, .getfield 9, 3), (9, .iconst 0, 1), (10, .bipush 40, 2), (12, .invokestatic 39, 3), (15, .aload_n 1, 1), (16, .getfield 15, 3), (19, .iconst 0, 1), (20, .aload_n 0, 1), (21, .getfield 15, 3), (24, .iconst 0, 1), (25, .bipush 40, 2), (27, .invokestatic 39, 3), (30, .aload_n 1, 1), (31, .getfield 18, 3), (34, .iconst 0, 1), (35, .aload_n 0, 1), (36, .getfield 18, 3), (39, .iconst 0, 1), (40, .bipush 40, 2), (42, .invokestatic 39, 3), (45, .aload_n 1, 1), (46, .getfield 21, 3), (49, .iconst 0, 1), (50, .aload_n 0, 1), (51, .getfield 21, 3), (54, .iconst 0, 1), (55, .bipush 40, 2), (57, .invokestatic 39, 3), (60, .aload_n 0, 1), (61, .aload_n 1, 1), (62, .getfield 24, 3), (65, .putfield 24, 3), (68, .aload_n 0, 1), (69, .dup, 1), (70, .getfield 28, 3), (73, .iconst 1, 1), (74, .iadd, 1), (75, .putfield 28, 3), (78, .return_, 1)]
theorem yz_X6_become_ok : ∀ q ∈ yz_X6_become, decode cX6_become q.1 = .ok q.2 := by decide +kernel
theorem yd_yX6_become : yX6_become.cls = RX6 ∧ yX6_become.cls ≠ "java/lang/invoke/MethodHandle" ∧ yX6_become.cls ≠ "java/lang/invoke/VarHandle" ∧ (parseMethodDescriptor yX6_become.desc).map (fun d => d.parameters.length) = some 1 := by decide +kernel
def yz_X6_coloursShareAPlace : List (Nat × (Instr × Nat)) := [(0, .iconst 0, 1), (1, .istore_n 1, 1), (2, .iload_n 1, 1), (3, .aload_n 0, 1), (4, .getfield 24, 3), (7, .if_icmp .ge 53, 3), (10, .iload_n 1, 1), (11, .iconst 1, 1), (12, .iadd, 1), (13, .istore_n 2, 1), (14, .iload_n 2, 1), (15, .aload_n 0, 1), (16, .getfield 24, 3), (19, .if_icmp .ge 35, 3), (22, .aload_n 0, 1), (23, .getfield 18, 3), (26, .iload_n 1, 1), (27, .iaload, 1), (28, .aload_n 0, 1), (29, .getfield 18, 3), (32, .iload_n 2, 1), (33, .iaload, 1), (34, .if_icmp .eq 14, 3), (37, .aload_n 0, 1), (38, .iload_n 1, 1), (39, .iload_n 2, 1), (40, .invokevirtual 49, 3), (43, .ifCond .eq 5, 3), (46, .iconst 1, 1), (47, .ireturn, 1), (48, .iinc 2 1, 3), (51, .goto (-37), 3), (54, .iinc 1 1, 3), (57, .goto (-55), 3), (60, .iconst 0, 1), (61, .ireturn, 1)]
theorem yz_X6_coloursShareAPlace_ok : ∀ q ∈ yz_X6_coloursShareAPlace, decode cX6_coloursShareAPlace q.1 = .ok q.2 := by decide +kernel
theorem yd_yX6_coloursShareAPlace : yX6_coloursShareAPlace.cls = RX6 ∧ yX6_coloursShareAPlace.cls ≠ "java/lang/invoke/MethodHandle" ∧ yX6_coloursShareAPlace.cls ≠ "java/lang/invoke/VarHandle" ∧ (parseMethodDescriptor yX6_coloursShareAPlace.desc).map (fun d => d.parameters.length) = some 0 := by decide +kernel
def yz_X6_has : List (Nat × (Instr × Nat)) := [(0, .iload_n 1, 1), (1, .ifCond .lt 15, 3), (4, .iload_n 1, 1), (5, .aload_n 0, 1), (6, .getfield 24, 3), (9, .if_icmp .ge 7, 3), (12, .iconst 1, 1), (13, .goto 4, 3), (16, .iconst 0, 1), (17, .ireturn, 1)]
theorem yz_X6_has_ok : ∀ q ∈ yz_X6_has, decode cX6_has q.1 = .ok q.2 := by decide +kernel
theorem yd_yX6_has : yX6_has.cls = RX6 ∧ yX6_has.cls ≠ "java/lang/invoke/MethodHandle" ∧ yX6_has.cls ≠ "java/lang/invoke/VarHandle" ∧ (parseMethodDescriptor yX6_has.desc).map (fun d => d.parameters.length) = some 1 := by decide +kernel
def yz_X6_hasBothColours : List (Nat × (Instr × Nat)) := [(0, .aload_n 0, 1), (1, .iconst 1, 1), (2, .invokevirtual 45, 3), (5, .istore_n 1, 1), (6, .iload_n 1, 1), (7, .ifCond .le 15, 3), (10, .iload_n 1, 1), (11, .aload_n 0, 1), (12, .getfield 24, 3), (15, .if_icmp .ge 7, 3), (18, .iconst 1, 1), (19, .goto 4, 3), (22, .iconst 0, 1), (23, .ireturn, 1)]
theorem yz_X6_hasBothColours_ok : ∀ q ∈ yz_X6_hasBothColours, decode cX6_hasBothColours q.1 = .ok q.2 := by decide +kernel
theorem yd_yX6_hasBothColours : yX6_hasBothColours.cls = RX6 ∧ yX6_hasBothColours.cls ≠ "java/lang/invoke/MethodHandle" ∧ yX6_hasBothColours.cls ≠ "java/lang/invoke/VarHandle" ∧ (parseMethodDescriptor yX6_hasBothColours.desc).map (fun d => d.parameters.length) = some 0 := by decide +kernel
def yz_X6_isColour : List (Nat × (Instr × Nat)) := [(0, .iload_n 0, 1), (1, .ifCond .eq 8, 3), (4, .iload_n 0, 1), (5, .iconst 1, 1), (6, .if_icmp .ne 7, 3), (9, .iconst 1, 1), (10, .goto 4, 3), (13, .iconst 0, 1), (14, .ireturn, 1)]
theorem yz_X6_isColour_ok : ∀ q ∈ yz_X6_isColour, decode cX6_isColour q.1 = .ok q.2 := by decide +kernel
theorem yd_yX6_isColour : yX6_isColour.cls ≠ "java/lang/invoke/MethodHandle" ∧ yX6_isColour.cls ≠ "java/lang/invoke/VarHandle" ∧ (parseMethodDescriptor yX6_isColour.desc).map (fun d => d.parameters.length) = some 1 := by decide +kernel
def yz_X6_isNear : List (Nat × (Instr × Nat)) := [(0, .lload_n 0, 1), (1, .ldc2_w 31, 3), (4, .lcmp, 1), (5, .ifCond .lt 15, 3), (8, .lload_n 0, 1), (9, .ldc2_w 33, 3), (12, .lcmp, 1), (13, .ifCond .gt 7, 3), (16, .iconst 1, 1), (17, .goto 4, 3), (20, .iconst 0, 1), (21, .ireturn, 1)]
theorem yz_X6_isNear_ok : ∀ q ∈ yz_X6_isNear, decode cX6_isNear q.1 = .ok q.2 := by decide +kernel
theorem yd_yX6_isNear : yX6_isNear.cls ≠ "java/lang/invoke/MethodHandle" ∧ yX6_isNear.cls ≠ "java/lang/invoke/VarHandle" ∧ (parseMethodDescriptor yX6_isNear.desc).map (fun d => d.parameters.length) = some 1 := by decide +kernel
def yz_X6_tally : List (Nat × (Instr × Nat)) := [(0, .iconst 0, 1), (1, .istore_n 2, 1), (2, .iconst 0, 1), (3, .istore_n 3, 1), (4, .iload_n 3, 1), (5, .aload_n 0, 1), (6, .getfield 24, 3), (9, .if_icmp .ge 22, 3), (12, .aload_n 0, 1), (13, .getfield 18, 3), (16, .iload_n 3, 1), (17, .iaload, 1), (18, .iload_n 1, 1), (19, .if_icmp .ne 6, 3), (22, .iinc 2 1, 3), (25, .iinc 3 1, 3), (28, .goto (-24), 3), (31, .iload_n 2, 1), (32, .ireturn, 1)]
theorem yz_X6_tally_ok : ∀ q ∈ yz_X6_tally, decode cX6_tally q.1 = .ok q.2 := by decide +kernel
theorem yd_yX6_tally : yX6_tally.cls = RX6 ∧ yX6_tally.cls ≠ "java/lang/invoke/MethodHandle" ∧ yX6_tally.cls ≠ "java/lang/invoke/VarHandle" ∧ (parseMethodDescriptor yX6_tally.desc).map (fun d => d.parameters.length) = some 1 := by decide +kernel
def yz_X7_depthAt : List (Nat × (Instr × Nat)) := [(0, .iconst 0, 1), (1, .istore_n 3, 1), (2, .bipush 40, 2), (4, .istore 4, 2), (6, .iconst 0, 1), (7, .istore 5, 2), (9, .iload 5, 2), (11, .aload_n 0, 1), (12, .getfield 27, 3), (15, .if_icmp .ge 64, 3), (18, .aload_n 0, 1), (19, .getfield 39, 3), (22, .iload 5, 2), (24, .iaload, 1), (25, .iload_n 1, 1), (26, .isub, 1), (27, .istore 6, 2), (29, .aload_n 0, 1), (30, .getfield 42, 3), (33, .iload 5, 2), (35, .iaload, 1), (36, .iload_n 2, 1), (37, .isub, 1), (38, .istore 7, 2), (40, .iload 6, 2), (42, .ifCond .ne 14, 3), (45, .iload 7, 2), (47, .ifCond .ne 9, 3), (50, .iinc 3 1, 3), (53, .goto 20, 3), (56, .iload 4, 2), (58, .aload_n 0, 1), (59, .iload_n 1, 1), (60, .iload_n 2, 1), (61, .iload 6, 2), (63, .iload 7, 2), (65, .invokestatic 60, 3), (68, .invokestatic 64, 3), (71, .istore 4, 2), (73, .iinc 5 1, 3), (76, .goto (-67), 3), (79, .iload_n 3, 1), (80, .aload_n 0, 1), (81, .getfield 27, 3), (84, .if_icmp .ne 7, 3), (87, .iload_n 3, 1), (88, .goto 7, 3), (91, .iload_n 3, 1), (92, .iload 4, 2), (94, .iadd, 1), (95, .ireturn, 1)]
theorem yz_X7_depthAt_ok : ∀ q ∈ yz_X7_depthAt, decode cX7_depthAt q.1 = .ok q.2 := by decide +kernel
theorem yd_yX7_depthAt : yX7_depthAt.cls ≠ "java/lang/invoke/MethodHandle" ∧ yX7_depthAt.cls ≠ "java/lang/invoke/VarHandle" ∧ (parseMethodDescriptor yX7_depthAt.desc).map (fun d => d.parameters.length) = some 3 := by decide +kernel
def yz_X7_firstHalving : List (Nat × (Instr × Nat)) := [(0, .aload_n 0, 1), (1, .iconst 1, 1), (2, .invokevirtual 70, 3), (5, .istore_n 1, 1), (6, .aload_n 0, 1), (7, .getfield 27, 3), (10, .iload_n 1, 1), (11, .isub, 1), (12, .istore_n 2, 1), (13, .iconst 0, 1), (14, .istore_n 3, 1), (15, .iload_n 3, 1), (16, .aload_n 0, 1), (17, .getfield 27, 3), (20, .if_icmp .ge 71, 3), (23, .iload_n 3, 1), (24, .iconst 1, 1), (25, .iadd, 1), (26, .istore 4, 2), (28, .iload 4, 2), (30, .aload_n 0, 1), (31, .getfield 27, 3), (34, .if_icmp .ge 51, 3), (37, .aload_n 0, 1), (38, .iload_n 3, 1), (39, .iload 4, 2), (41, .invokevirtual 45, 3), (44, .ifCond .ne 35, 3), (47, .aload_n 0, 1), (48, .iload_n 3, 1), (49, .iload 4, 2), (51, .iconst 1, 1), (52, .iload_n 1, 1), (53, .invokestatic 74, 3), (56, .ifCond .eq 23, 3), (59, .aload_n 0, 1), (60, .iload_n 3, 1), (61, .iload 4, 2), (63, .iconst 0, 1), (64, .iload_n 2, 1), (65, .invokestatic 74, 3), (68, .ifCond .eq 11, 3), (71, .bipush 100, 2), (73, .iload_n 3, 1), (74, .imul, 1), (75, .iload 4, 2), (77, .iadd, 1), (78, .ireturn, 1), (79, .iinc 4 1, 3), (82, .goto (-54), 3), (85, .iinc 3 1, 3), (88, .goto (-73), 3), (91, .iconst (-1), 1), (92, .ireturn, 1)]
theorem yz_X7_firstHalving_ok : ∀ q ∈ yz_X7_firstHalving, decode cX7_firstHalving q.1 = .ok q.2 := by decide +kernel
theorem yd_yX7_firstHalving : yX7_firstHalving.cls ≠ "java/lang/invoke/MethodHandle" ∧ yX7_firstHalving.cls ≠ "java/lang/invoke/VarHandle" ∧ (parseMethodDescriptor yX7_firstHalving.desc).map (fun d => d.parameters.length) = some 1 := by decide +kernel
def yz_X7_lowest : List (Nat × (Instr × Nat)) := [(0, .iconst (-1), 1), (1, .istore_n 2, 1), (2, .iconst 0, 1), (3, .istore_n 3, 1), (4, .iload_n 3, 1), (5, .aload_n 0, 1), (6, .getfield 27, 3), (9, .if_icmp .ge 35, 3), (12, .aload_n 0, 1), (13, .getfield 32, 3), (16, .iload_n 3, 1), (17, .iaload, 1), (18, .iload_n 1, 1), (19, .if_icmp .ne 19, 3), (22, .iload_n 2, 1), (23, .iconst (-1), 1), (24, .if_icmp .eq 12, 3), (27, .aload_n 0, 1), (28, .iload_n 3, 1), (29, .iload_n 2, 1), (30, .invokestatic 35, 3), (33, .ifCond .eq 5, 3), (36, .iload_n 3, 1), (37, .istore_n 2, 1), (38, .iinc 3 1, 3), (41, .goto (-37), 3), (44, .iload_n 2, 1), (45, .ireturn, 1)]
theorem yz_X7_lowest_ok : ∀ q ∈ yz_X7_lowest, decode cX7_lowest q.1 = .ok q.2 := by decide +kernel
theorem yd_yX7_lowest : yX7_lowest.cls ≠ "java/lang/invoke/MethodHandle" ∧ yX7_lowest.cls ≠ "java/lang/invoke/VarHandle" ∧ (parseMethodDescriptor yX7_lowest.desc).map (fun d => d.parameters.length) = some 2 := by decide +kernel
def yz_X7_wrap : List (Nat × (Instr × Nat)) := [(0, .aload_n 0, 1), (1, .iconst 0, 1), (2, .putfield 15, 3), (5, .aload_n 1, 1), (6, .iload_n 2, 1), (7, .invokestatic 19, 3), (10, .istore_n 3, 1), (11, .iload_n 3, 1), (12, .istore 4, 2), (14, .iconst 0, 1), (15, .istore 5, 2), (17, .iload 5, 2), (19, .bipush 40, 2), (21, .if_icmp .ge 50, 3), (24, .iload 4, 2), (26, .iconst (-1), 1), (27, .if_icmp .eq 44, 3), (30, .aload_n 0, 1), (31, .getfield 9, 3), (34, .iload 5, 2), (36, .iload 4, 2), (38, .iastore, 1), (39, .aload_n 0, 1), (40, .iload 5, 2), (42, .iconst 1, 1), (43, .iadd, 1), (44, .putfield 15, 3), (47, .aload_n 1, 1), (48, .iload_n 2, 1), (49, .iload 4, 2), (51, .invokestatic 23, 3), (54, .istore 4, 2), (56, .iload 4, 2), (58, .iload_n 3, 1), (59, .if_icmp .ne 6, 3), (62, .goto 9, 3), (65, .iinc 5 1, 3), (68, .goto (-51), 3), (71, .return_, 1)]
theorem yz_X7_wrap_ok : ∀ q ∈ yz_X7_wrap, decode cX7_wrap q.1 = .ok q.2 := by decide +kernel
theorem yd_yX7_wrap : yX7_wrap.cls = RX7 ∧ yX7_wrap.cls ≠ "java/lang/invoke/MethodHandle" ∧ yX7_wrap.cls ≠ "java/lang/invoke/VarHandle" ∧ (parseMethodDescriptor yX7_wrap.desc).map (fun d => d.parameters.length) = some 2 := by decide +kernel
def yz_X8_has : List (Nat × (Instr × Nat)) := [(0, .iload_n 1, 1), (1, .ifCond .lt 15, 3), (4, .iload_n 1, 1), (5, .aload_n 0, 1), (6, .getfield 23, 3), (9, .if_icmp .ge 7, 3), (12, .iconst 1, 1), (13, .goto 4, 3), (16, .iconst 0, 1), (17, .ireturn, 1)]
theorem yz_X8_has_ok : ∀ q ∈ yz_X8_has, decode cX8_has q.1 = .ok q.2 := by decide +kernel
theorem yd_yX8_has : yX8_has.cls = RX8 ∧ yX8_has.cls ≠ "java/lang/invoke/MethodHandle" ∧ yX8_has.cls ≠ "java/lang/invoke/VarHandle" ∧ (parseMethodDescriptor yX8_has.desc).map (fun d => d.parameters.length) = some 1 := by decide +kernel
def yz_X8_lay : List (Nat × (Instr × Nat)) := [(0, .aload_n 0, 1), (1, .iconst 1, 1), (2, .putfield 15, 3), (5, .aload_n 0, 1), (6, .iload_n 1, 1), (7, .putfield 19, 3), (10, .aload_n 0, 1), (11, .iload_n 2, 1), (12, .putfield 23, 3), (15, .aload_n 0, 1), (16, .getfield 9, 3), (19, .lconst 0, 1), (20, .invokestatic 26, 3), (23, .return_, 1)]
theorem yz_X8_lay_ok : ∀ q ∈ yz_X8_lay, decode cX8_lay q.1 = .ok q.2 := by decide +kernel
theorem yd_yX8_lay : yX8_lay.cls = RX8 ∧ yX8_lay.cls ≠ "java/lang/invoke/MethodHandle" ∧ yX8_lay.cls ≠ "java/lang/invoke/VarHandle" ∧ (parseMethodDescriptor yX8_lay.desc).map (fun d => d.parameters.length) = some 2 := by decide +kernel
def yz_X8_tear : List (Nat × (Instr × Nat)) := [(0, .aload_n 0, 1), (1, .iconst 0, 1), (2, .putfield 15, 3), (5, .aload_n 0, 1), (6, .iconst 0, 1), (7, .putfield 23, 3), (10, .return_, 1)]
theorem yz_X8_tear_ok : ∀ q ∈ yz_X8_tear, decode cX8_tear q.1 = .ok q.2 := by decide +kernel
theorem yd_yX8_tear : yX8_tear.cls = RX8 ∧ yX8_tear.cls ≠ "java/lang/invoke/MethodHandle" ∧ yX8_tear.cls ≠ "java/lang/invoke/VarHandle" ∧ (parseMethodDescriptor yX8_tear.desc).map (fun d => d.parameters.length) = some 0 := by decide +kernel
def yz_X9_poll : List (Nat × (Instr × Nat)) := [(0, .aload_n 0, 1), (1, .getfield 38, 3), (4, .iconst 1, 1), (5, .if_icmp .ne 43, 3), (8, .aload_n 0, 1), (9, .getfield 35, 3), (12, .iconst 1, 1), (13, .if_icmp .ne 35, 3), (16, .aload_n 0, 1), (17, .getfield 9, 3), (20, .iconst 0, 1), (21, .iaload, 1), (22, .aload_n 0, 1), (23, .getfield 15, 3), (26, .iconst 0, 1), (27, .iaload, 1), (28, .aload_n 0, 1), (29, .getfield 18, 3), (32, .iconst 0, 1), (33, .iaload, 1), (34, .iload_n 1, 1), (35, .iload_n 2, 1), (36, .invokestatic 98, 3), (39, .ifCond .eq 7, 3), (42, .iconst 1, 1), (43, .goto 4, 3), (46, .iconst 0, 1), (47, .ireturn, 1), (48, .aload_n 0, 1), (49, .getfield 44, 3), (52, .invokestatic 136, 3), (55, .aload_n 0, 1), (56, .getfield 47, 3), (59, .invokestatic 136, 3), (62, .iconst 0, 1), (63, .istore_n 3, 1), (64, .iload_n 3, 1), (65, .aload_n 0, 1), (66, .getfield 35, 3), (69, .if_icmp .ge 91, 3), (72, .aload_n 0, 1), (73, .getfield 9, 3), (76, .iload_n 3, 1), (77, .iaload, 1), (78, .aload_n 0, 1), (79, .getfield 15, 3), (82, .iload_n 3, 1), (83, .iaload, 1), (84, .aload_n 0, 1), (85, .getfield 18, 3), (88, .iload_n 3, 1), (89, .iaload, 1), (90, .iload_n 1, 1), (91, .iload_n 2, 1), (92, .invokestatic 98, 3), (95, .istore 4, 2), (97, .iload 4, 2), (99, .ifCond .eq 10, 3), (102, .aload_n 0, 1), (103, .getfield 44, 3), (106, .goto 7, 3), (109, .aload_n 0, 1), (110, .getfield 47, 3), (113, .aload_n 0, 1), (114, .getfield 25, 3), (117, .iload_n 3, 1), (118, .laload, 1), (119, .aload_n 0, 1), (120, .getfield 21, 3), (123, .iload_n 3, 1), (124, .laload, 1), (125, .lsub, 1), (126, .invokestatic 140, 3), (129, .iload 4, 2), (131, .ifCond .eq 10, 3), (134, .aload_n 0, 1), (135, .getfield 47, 3), (138, .goto 7, 3), (141, .aload_n 0, 1), (142, .getfield 44, 3), (145, .aload_n 0, 1), (146, .getfield 21, 3), (149, .iload_n 3, 1), (150, .laload, 1), (151, .invokestatic 140, 3), (154, .iinc 3 1, 3), (157, .goto (-93), 3), (160, .bipush 39, 2), (162, .istore_n 3, 1), (163, .iload_n 3, 1), (164, .ifCond .lt 47, 3), (167, .aload_n 0, 1), (168, .getfield 44, 3), (171, .iload_n 3, 1), (172, .laload, 1), (173, .aload_n 0, 1), (174, .getfield 47, 3), (177, .iload_n 3, 1), (178, .laload, 1), (179, .lcmp, 1), (180, .ifCond .eq 25, 3), (183, .aload_n 0, 1), (184, .getfield 44, 3), (187, .iload_n 3, 1), (188, .laload, 1), (189, .aload_n 0, 1), (190, .getfield 47, 3), (193, .iload_n 3, 1), (194, .laload, 1), (195, .lcmp, 1), (196, .ifCond .le 7, 3), (199, .iconst 1, 1), (200, .goto 4, 3), (203, .iconst 0, 1), (204, .ireturn, 1), (205, .iinc 3 (-1), 3), (208, .goto (-45), 3), (211, .iconst 2, 1), (212, .ireturn, 1)]
theorem yz_X9_poll_ok : ∀ q ∈ yz_X9_poll, decode cX9_poll q.1 = .ok q.2 := by decide +kernel
theorem yd_yX9_poll : yX9_poll.cls = RX9 ∧ yX9_poll.cls ≠ "java/lang/invoke/MethodHandle" ∧ yX9_poll.cls ≠ "java/lang/invoke/VarHandle" ∧ (parseMethodDescriptor yX9_poll.desc).map (fun d => d.parameters.length) = some 2 := by decide +kernel
def yz_X9_setToOne : List (Nat × (Instr × Nat)) := [(0, .aload_n 0, 1), (1, .lconst 0, 1), (2, .invokestatic 144, 3), (5, .aload_n 0, 1), (6, .iconst 0, 1), (7, .lconst 1, 1), (8, .lastore, 1), (9, .return_, 1)]
theorem yz_X9_setToOne_ok : ∀ q ∈ yz_X9_setToOne, decode cX9_setToOne q.1 = .ok q.2 := by decide +kernel
theorem yd_yX9_setToOne : yX9_setToOne.cls ≠ "java/lang/invoke/MethodHandle" ∧ yX9_setToOne.cls ≠ "java/lang/invoke/VarHandle" ∧ (parseMethodDescriptor yX9_setToOne.desc).map (fun d => d.parameters.length) = some 1 := by decide +kernel
def yz_X10_find : List (Nat × (Instr × Nat)) := [(0, .aload_n 0, 1), (1, .getfield 36, 3), (4, .aload_n 1, 1), (5, .getfield 51, 3), (8, .if_icmp .ne 4, 3), (11, .return_, 1), (12, .aload_n 0, 1), (13, .aload_n 1, 1), (14, .getfield 51, 3), (17, .putfield 36, 3), (20, .aload_n 0, 1), (21, .iconst 0, 1), (22, .putfield 18, 3), (25, .aload_n 1, 1), (26, .invokevirtual 56, 3), (29, .ifCond .ne 4, 3), (32, .return_, 1), (33, .iconst 0, 1), (34, .istore_n 2, 1), (35, .iload_n 2, 1), (36, .aload_n 1, 1), (37, .getfield 60, 3), (40, .if_icmp .ge 34, 3), (43, .iload_n 2, 1), (44, .iconst 1, 1), (45, .iadd, 1), (46, .istore_n 3, 1), (47, .iload_n 3, 1), (48, .aload_n 1, 1), (49, .getfield 60, 3), (52, .if_icmp .ge 16, 3), (55, .aload_n 0, 1), (56, .aload_n 1, 1), (57, .iload_n 2, 1), (58, .iload_n 3, 1), (59, .invokevirtual 63, 3), (62, .iinc 3 1, 3), (65, .goto (-18), 3), (68, .iinc 2 1, 3), (71, .goto (-36), 3), (74, .aload_n 0, 1), (75, .getfield 18, 3), (78, .ifCond .eq 8, 3), (81, .aload_n 0, 1), (82, .aload_n 1, 1), (83, .invokevirtual 67, 3), (86, .return_, 1)]
theorem yz_X10_find_ok : ∀ q ∈ yz_X10_find, decode cX10_find q.1 = .ok q.2 := by decide +kernel
theorem yd_yX10_find : yX10_find.cls = RX10 ∧ yX10_find.cls ≠ "java/lang/invoke/MethodHandle" ∧ yX10_find.cls ≠ "java/lang/invoke/VarHandle" ∧ (parseMethodDescriptor yX10_find.desc).map (fun d => d.parameters.length) = some 1 := by decide +kernel
def yz_X12_add : List (Nat × (Instr × Nat)) := [(0, .aload_n 0, 1), (1, .getfield 7, 3), (4, .aload_n 0, 1), (5, .getfield 130, 3), (8, .iload_n 1, 1), (9, .iastore, 1), (10, .aload_n 0, 1), (11, .getfield 13, 3), (14, .aload_n 0, 1), (15, .getfield 130, 3), (18, .iload_n 2, 1), (19, .iastore, 1), (20, .aload_n 0, 1), (21, .getfield 16, 3), (24, .aload_n 0, 1), (25, .getfield 130, 3), (28, .iload_n 3, 1), (29, .iastore, 1), (30, .aload_n 0, 1), (31, .getfield 19, 3), (34, .aload_n 0, 1), (35, .getfield 130, 3), (38, .iconst 1, 1), (39, .iastore, 1), (40, .aload_n 0, 1), (41, .dup, 1), (42, .getfield 130, 3), (45, .iconst 1, 1), (46, .iadd, 1), (47, .putfield 130, 3), (50, .return_, 1)]
theorem yz_X12_add_ok : ∀ q ∈ yz_X12_add, decode cX12_add q.1 = .ok q.2 := by decide +kernel
theorem yd_yX12_add : yX12_add.cls = RX12 ∧ yX12_add.cls ≠ "java/lang/invoke/MethodHandle" ∧ yX12_add.cls ≠ "java/lang/invoke/VarHandle" ∧ (parseMethodDescriptor yX12_add.desc).map (fun d => d.parameters.length) = some 3 := by decide +kernel
def yz_X12_anew : List (Nat × (Instr × Nat)) := [(0, .aload_n 0, 1), (1, .iconst 0, 1), (2, .putfield 124, 3), (5, .aload_n 0, 1), (6, .lconst 0, 1), (7, .putfield 345, 3), (10, .aload_n 0, 1), (11, .lconst 0, 1), (12, .putfield 348, 3), (15, .aload_n 0, 1), (16, .lconst 0, 1), (17, .putfield 351, 3), (20, .aload_n 0, 1), (21, .lconst 0, 1), (22, .putfield 357, 3), (25, .aload_n 0, 1), (26, .lconst 0, 1), (27, .putfield 354, 3), (30, .iconst 0, 1), (31, .ireturn, 1)]
theorem yz_X12_anew_ok : ∀ q ∈ yz_X12_anew, decode cX12_anew q.1 = .ok q.2 := by decide +kernel
theorem yd_yX12_anew : yX12_anew.cls = RX12 ∧ yX12_anew.cls ≠ "java/lang/invoke/MethodHandle" ∧ yX12_anew.cls ≠ "java/lang/invoke/VarHandle" ∧ (parseMethodDescriptor yX12_anew.desc).map (fun d => d.parameters.length) = some 0 := by decide +kernel
def yz_X12_back : List (Nat × (Instr × Nat)) := [(0, .aload_n 0, 1), (1, .iconst 0, 1), (2, .putfield 124, 3), (5, .iload_n 1, 1), (6, .i2l, 1), (7, .lconst 0, 1), (8, .ldc2_w 168, 3), (11, .invokestatic 133, 3), (14, .ifCond .ne 9, 3), (17, .aload_n 0, 1), (18, .iconst (-1), 1), (19, .invokevirtual 141, 3), (22, .ireturn, 1), (23, .aload_n 0, 1), (24, .getfield 106, 3), (27, .iload_n 1, 1), (28, .baload, 1), (29, .ifCond .ne 10, 3), (32, .aload_n 0, 1), (33, .bipush (-6), 2), (35, .invokevirtual 141, 3), (38, .ireturn, 1), (39, .aload_n 0, 1), (40, .aload_n 0, 1), (41, .getfield 109, 3), (44, .iload_n 1, 1), (45, .iaload, 1), (46, .putfield 130, 3), (49, .iconst 0, 1), (50, .istore_n 2, 1), (51, .iload_n 2, 1), (52, .aload_n 0, 1), (53, .getfield 130, 3), (56, .if_icmp .ge 95, 3), (59, .aload_n 0, 1), (60, .getfield 7, 3), (63, .iload_n 2, 1), (64, .aload_n 0, 1), (65, .getfield 112, 3), (68, .sipush 160, 3), (71, .iload_n 1, 1), (72, .imul, 1), (73, .iconst 4, 1), (74, .iload_n 2, 1), (75, .imul, 1), (76, .iadd, 1), (77, .iaload, 1), (78, .iastore, 1), (79, .aload_n 0, 1), (80, .getfield 13, 3), (83, .iload_n 2, 1), (84, .aload_n 0, 1), (85, .getfield 112, 3), (88, .sipush 160, 3), (91, .iload_n 1, 1), (92, .imul, 1), (93, .iconst 4, 1), (94, .iload_n 2, 1), (95, .imul, 1), (96, .iadd, 1), (97, .iconst 1, 1), (98, .iadd, 1), (99, .iaload, 1), (100, .iastore, 1), (101, .aload_n 0, 1), (102, .getfield 16, 3), (105, .iload_n 2, 1), (106, .aload_n 0, 1), (107, .getfield 112, 3), (110, .sipush 160, 3), (113, .iload_n 1, 1), (114, .imul, 1), (115, .iconst 4, 1), (116, .iload_n 2, 1), (117, .imul, 1), (118, .iadd, 1), (119, .iconst 2, 1), (120, .iadd, 1), (121, .iaload, 1), (122, .iastore, 1), (123, .aload_n 0, 1), (124, .getfield 19, 3), (127, .iload_n 2, 1), (128, .aload_n 0, 1), (129, .getfield 112, 3), (132, .sipush 160, 3), (135, .iload_n 1, 1), (136, .imul, 1), (137, .iconst 4, 1), (138, .iload_n 2, 1), (139, .imul, 1), (140, .iadd, 1), (141, .iconst 3, 1), (142, .iadd, 1), (143, .iaload, 1), (144, .iastore, 1), (145, .iinc 2 1, 3), (148, .goto (-97), 3), (151, .aload_n 0, 1), (152, .aload_n 0, 1), (153, .getfield 115, 3), (156, .iload_n 1, 1), (157, .iaload, 1), (158, .putfield 360, 3), (161, .iconst 0, 1), (162, .istore_n 2, 1), (163, .iload_n 2, 1), (164, .aload_n 0, 1), (165, .getfield 360, 3), (168, .if_icmp .ge 70, 3), (171, .aload_n 0, 1), (172, .getfield 54, 3), (175, .iload_n 2, 1), (176, .aload_n 0, 1), (177, .getfield 118, 3), (180, .bipush 36, 2), (182, .iload_n 1, 1), (183, .imul, 1), (184, .iconst 3, 1), (185, .iload_n 2, 1), (186, .imul, 1), (187, .iadd, 1), (188, .iaload, 1), (189, .iastore, 1), (190, .aload_n 0, 1), (191, .getfield 57, 3), (194, .iload_n 2, 1), (195, .aload_n 0, 1), (196, .getfield 118, 3), (199, .bipush 36, 2), (201, .iload_n 1, 1), (202, .imul, 1), (203, .iconst 3, 1), (204, .iload_n 2, 1), (205, .imul, 1), (206, .iadd, 1), (207, .iconst 1, 1), (208, .iadd, 1), (209, .iaload, 1), (210, .iastore, 1), (211, .aload_n 0, 1), (212, .getfield 60, 3), (215, .iload_n 2, 1), (216, .aload_n 0, 1), (217, .getfield 118, 3), (220, .bipush 36, 2), (222, .iload_n 1, 1), (223, .imul, 1), (224, .iconst 3, 1), (225, .iload_n 2, 1), (226, .imul, 1), (227, .iadd, 1), (228, .iconst 2, 1), (229, .iadd, 1), (230, .iaload, 1), (231, .iastore, 1), (232, .iinc 2 1, 3), (235, .goto (-72), 3), (238, .aload_n 0, 1), (239, .aload_n 0, 1), (240, .getfield 121, 3), (243, .iconst 5, 1), (244, .iload_n 1, 1), (245, .imul, 1), (246, .laload, 1), (247, .putfield 345, 3), (250, .aload_n 0, 1), (251, .aload_n 0, 1), (252, .getfield 121, 3), (255, .iconst 5, 1), (256, .iload_n 1, 1), (257, .imul, 1), (258, .iconst 1, 1), (259, .iadd, 1), (260, .laload, 1), (261, .putfield 348, 3), (264, .aload_n 0, 1), (265, .aload_n 0, 1), (266, .getfield 121, 3), (269, .iconst 5, 1), (270, .iload_n 1, 1), (271, .imul, 1), (272, .iconst 2, 1), (273, .iadd, 1), (274, .laload, 1), (275, .putfield 351, 3), (278, .aload_n 0, 1), (279, .aload_n 0, 1), (280, .getfield 121, 3), (283, .iconst 5, 1), (284, .iload_n 1, 1), (285, .imul, 1), (286, .iconst 3, 1), (287, .iadd, 1), (288, .laload, 1), (289, .putfield 357, 3), (292, .aload_n 0, 1), (293, .aload_n 0, 1), (294, .getfield 121, 3), (297, .iconst 5, 1), (298, .iload_n 1, 1), (299, .imul, 1), (300, .iconst 4, 1), (301, .iadd, 1), (302, .laload, 1), (303, .putfield 354, 3), (306, .aload_n 0, 1), (307, .iconst 0, 1), (308, .invokevirtual 141, 3), (311, .ireturn, 1)]
theorem yz_X12_back_ok : ∀ q ∈ yz_X12_back, decode cX12_back q.1 = .ok q.2 := by decide +kernel
theorem yd_yX12_back : yX12_back.cls = RX12 ∧ yX12_back.cls ≠ "java/lang/invoke/MethodHandle" ∧ yX12_back.cls ≠ "java/lang/invoke/VarHandle" ∧ (parseMethodDescriptor yX12_back.desc).map (fun d => d.parameters.length) = some 1 := by decide +kernel
def yz_X12_best : List (Nat × (Instr × Nat)) := [(0, .aload_n 0, 1), (1, .iconst 0, 1), (2, .putfield 124, 3), (5, .aload_n 0, 1), (6, .iload_n 1, 1), (7, .invokevirtual 338, 3), (10, .ifCond .eq 13, 3), (13, .iload_n 2, 1), (14, .i2l, 1), (15, .lconst 0, 1), (16, .lconst 1, 1), (17, .invokestatic 133, 3), (20, .ifCond .ne 5, 3), (23, .iconst (-1), 1), (24, .ireturn, 1), (25, .aload_n 0, 1), (26, .iconst 1, 1), (27, .iload_n 1, 1), (28, .ishl, 1), (29, .iconst 1, 1), (30, .isub, 1), (31, .invokevirtual 341, 3), (34, .ldc_w 344, 3), (37, .istore_n 3, 1), (38, .iconst 0, 1), (39, .istore 4, 2), (41, .iconst 0, 1), (42, .istore 5, 2), (44, .iload 5, 2), (46, .iconst 1, 1), (47, .iload_n 1, 1), (48, .ishl, 1), (49, .if_icmp .ge 83, 3), (52, .iconst 0, 1), (53, .istore 6, 2), (55, .iconst 0, 1), (56, .istore 7, 2), (58, .iload 7, 2), (60, .iload_n 1, 1), (61, .if_icmp .ge 42, 3), (64, .iload 6, 2), (66, .iload 5, 2), (68, .iload 7, 2), (70, .ishr, 1), (71, .iconst 1, 1), (72, .iand, 1), (73, .aload_n 0, 1), (74, .getfield 16, 3), (77, .iload 7, 2), (79, .iaload, 1), (80, .if_icmp .ne 7, 3), (83, .iconst 0, 1), (84, .goto 10, 3), (87, .aload_n 0, 1), (88, .getfield 19, 3), (91, .iload 7, 2), (93, .iaload, 1), (94, .iadd, 1), (95, .istore 6, 2), (97, .iinc 7 1, 3), (100, .goto (-42), 3), (103, .aload_n 0, 1), (104, .getfield 44, 3), (107, .iload 5, 2), (109, .baload, 1), (110, .ifCond .eq 16, 3), (113, .iload 6, 2), (115, .iload_n 3, 1), (116, .if_icmp .ge 10, 3), (119, .iload 6, 2), (121, .istore_n 3, 1), (122, .iload 5, 2), (124, .istore 4, 2), (126, .iinc 5 1, 3), (129, .goto (-85), 3), (132, .iload_n 2, 1), (133, .ifCond .ne 7, 3), (136, .iload_n 3, 1), (137, .goto 5, 3), (140, .iload 4, 2), (142, .ireturn, 1)]
theorem yz_X12_best_ok : ∀ q ∈ yz_X12_best, decode cX12_best q.1 = .ok q.2 := by decide +kernel
theorem yd_yX12_best : yX12_best.cls = RX12 ∧ yX12_best.cls ≠ "java/lang/invoke/MethodHandle" ∧ yX12_best.cls ≠ "java/lang/invoke/VarHandle" ∧ (parseMethodDescriptor yX12_best.desc).map (fun d => d.parameters.length) = some 2 := by decide +kernel
def yz_X12_boxes : List (Nat × (Instr × Nat)) := [(0, .aload_n 0, 1), (1, .iconst 0, 1), (2, .putfield 124, 3), (5, .aload_n 0, 1), (6, .iconst 1, 1), (7, .invokevirtual 298, 3), (10, .istore_n 1, 1), (11, .iload_n 1, 1), (12, .bipush 12, 2), (14, .if_icmp .le 6, 3), (17, .bipush (-5), 2), (19, .ireturn, 1), (20, .iconst 0, 1), (21, .istore_n 2, 1), (22, .iconst 0, 1), (23, .istore_n 3, 1), (24, .iload_n 3, 1), (25, .aload_n 0, 1), (26, .getfield 130, 3), (29, .if_icmp .ge 29, 3), (32, .aload_n 0, 1), (33, .getfield 16, 3), (36, .iload_n 3, 1), (37, .iaload, 1), (38, .iconst 1, 1), (39, .if_icmp .ne 13, 3), (42, .aload_n 0, 1), (43, .getfield 97, 3), (46, .iload_n 2, 1), (47, .iload_n 3, 1), (48, .iastore, 1), (49, .iinc 2 1, 3), (52, .iinc 3 1, 3), (55, .goto (-31), 3), (58, .aload_n 0, 1), (59, .invokevirtual 236, 3), (62, .ifCond .eq 6, 3), (65, .bipush (-6), 2), (67, .ireturn, 1), (68, .iconst 1, 1), (69, .istore_n 3, 1), (70, .iload_n 3, 1), (71, .iconst 1, 1), (72, .iload_n 1, 1), (73, .ishl, 1), (74, .if_icmp .ge 21, 3), (77, .aload_n 0, 1), (78, .getfield 103, 3), (81, .iload_n 3, 1), (82, .aload_n 0, 1), (83, .iload_n 3, 1), (84, .iload_n 1, 1), (85, .invokevirtual 411, 3), (88, .bastore, 1), (89, .iinc 3 1, 3), (92, .goto (-22), 3), (95, .aload_n 0, 1), (96, .getfield 100, 3), (99, .iconst 0, 1), (100, .iconst 0, 1), (101, .iastore, 1), (102, .iconst 1, 1), (103, .istore_n 3, 1), (104, .iload_n 3, 1), (105, .iconst 1, 1), (106, .iload_n 1, 1), (107, .ishl, 1), (108, .if_icmp .ge 119, 3), (111, .iload_n 3, 1), (112, .iload_n 3, 1), (113, .ineg, 1), (114, .iand, 1), (115, .istore 4, 2), (117, .iload_n 3, 1), (118, .iload 4, 2), (120, .ixor, 1), (121, .istore 5, 2), (123, .aload_n 0, 1), (124, .getfield 100, 3), (127, .iload_n 3, 1), (128, .bipush 100, 2), (130, .iastore, 1), (131, .iload 5, 2), (133, .istore 6, 2), (135, .iconst 1, 1), (136, .istore 7, 2), (138, .iload 7, 2), (140, .ifCond .eq 81, 3), (143, .iload 6, 2), (145, .iload 4, 2), (147, .ior, 1), (148, .istore 8, 2), (150, .aload_n 0, 1), (151, .getfield 103, 3), (154, .iload 8, 2), (156, .baload, 1), (157, .ifCond .eq 40, 3), (160, .aload_n 0, 1), (161, .getfield 100, 3), (164, .iload_n 3, 1), (165, .iload 8, 2), (167, .ixor, 1), (168, .iaload, 1), (169, .iconst 1, 1), (170, .iadd, 1), (171, .aload_n 0, 1), (172, .getfield 100, 3), (175, .iload_n 3, 1), (176, .iaload, 1), (177, .if_icmp .ge 20, 3), (180, .aload_n 0, 1), (181, .getfield 100, 3), (184, .iload_n 3, 1), (185, .aload_n 0, 1), (186, .getfield 100, 3), (189, .iload_n 3, 1), (190, .iload 8, 2), (192, .ixor, 1), (193, .iaload, 1), (194, .iconst 1, 1), (195, .iadd, 1), (196, .iastore, 1), (197, .iload 6, 2), (199, .ifCond .eq 7, 3), (202, .iconst 1, 1), (203, .goto 4, 3), (206, .iconst 0, 1), (207, .istore 7, 2), (209, .iload 6, 2), (211, .iconst 1, 1), (212, .isub, 1), (213, .iload 5, 2), (215, .iand, 1), (216, .istore 6, 2), (218, .goto (-80), 3), (221, .iinc 3 1, 3), (224, .goto (-120), 3), (227, .aload_n 0, 1), (228, .getfield 100, 3), (231, .iconst 1, 1), (232, .iload_n 1, 1), (233, .ishl, 1), (234, .iconst 1, 1), (235, .isub, 1), (236, .iaload, 1), (237, .ireturn, 1)]
theorem yz_X12_boxes_ok : ∀ q ∈ yz_X12_boxes, decode cX12_boxes q.1 = .ok q.2 := by decide +kernel
theorem yd_yX12_boxes : yX12_boxes.cls = RX12 ∧ yX12_boxes.cls ≠ "java/lang/invoke/MethodHandle" ∧ yX12_boxes.cls ≠ "java/lang/invoke/VarHandle" ∧ (parseMethodDescriptor yX12_boxes.desc).map (fun d => d.parameters.length) = some 0 := by decide +kernel
def yz_X12_check : List (Nat × (Instr × Nat)) := [(0, .aload_n 0, 1), (1, .iconst 0, 1), (2, .putfield 124, 3), (5, .iload_n 1, 1), (6, .iload_n 2, 1), (7, .iload_n 3, 1), (8, .invokestatic 315, 3), (11, .ifCond .ne 5, 3), (14, .iconst (-1), 1), (15, .ireturn, 1), (16, .iconst 0, 1), (17, .istore 4, 2), (19, .iconst 0, 1), (20, .istore 5, 2), (22, .iload 5, 2), (24, .aload_n 0, 1), (25, .getfield 130, 3), (28, .if_icmp .ge 54, 3), (31, .iload 4, 2), (33, .iload_n 1, 1), (34, .i2l, 1), (35, .iload_n 2, 1), (36, .i2l, 1), (37, .iload_n 3, 1), (38, .i2l, 1), (39, .aload_n 0, 1), (40, .getfield 7, 3), (43, .iload 5, 2), (45, .iaload, 1), (46, .i2l, 1), (47, .aload_n 0, 1), (48, .getfield 13, 3), (51, .iload 5, 2), (53, .iaload, 1), (54, .i2l, 1), (55, .invokestatic 318, 3), (58, .aload_n 0, 1), (59, .getfield 16, 3), (62, .iload 5, 2), (64, .iaload, 1), (65, .if_icmp .ne 7, 3), (68, .iconst 0, 1), (69, .goto 4, 3), (72, .iconst 1, 1), (73, .iadd, 1), (74, .istore 4, 2), (76, .iinc 5 1, 3), (79, .goto (-57), 3), (82, .iload 4, 2), (84, .ireturn, 1)]
theorem yz_X12_check_ok : ∀ q ∈ yz_X12_check, decode cX12_check q.1 = .ok q.2 := by decide +kernel
theorem yd_yX12_check : yX12_check.cls = RX12 ∧ yX12_check.cls ≠ "java/lang/invoke/MethodHandle" ∧ yX12_check.cls ≠ "java/lang/invoke/VarHandle" ∧ (parseMethodDescriptor yX12_check.desc).map (fun d => d.parameters.length) = some 3 := by decide +kernel
def yz_X12_choose : List (Nat × (Instr × Nat)) := [(0, .aload_n 0, 1), (1, .iconst 0, 1), (2, .putfield 322, 3), (5, .iconst 0, 1), (6, .istore_n 2, 1), (7, .iload_n 2, 1), (8, .bipush 12, 2), (10, .if_icmp .ge 38, 3), (13, .iload_n 1, 1), (14, .iload_n 2, 1), (15, .ishr, 1), (16, .iconst 1, 1), (17, .iand, 1), (18, .iconst 1, 1), (19, .if_icmp .ne 23, 3), (22, .aload_n 0, 1), (23, .getfield 48, 3), (26, .aload_n 0, 1), (27, .getfield 322, 3), (30, .iload_n 2, 1), (31, .iastore, 1), (32, .aload_n 0, 1), (33, .dup, 1), (34, .getfield 322, 3), (37, .iconst 1, 1), (38, .iadd, 1), (39, .putfield 322, 3), (42, .iinc 2 1, 3), (45, .goto (-38), 3), (48, .return_, 1)]
theorem yz_X12_choose_ok : ∀ q ∈ yz_X12_choose, decode cX12_choose q.1 = .ok q.2 := by decide +kernel
theorem yd_yX12_choose : yX12_choose.cls = RX12 ∧ yX12_choose.cls ≠ "java/lang/invoke/MethodHandle" ∧ yX12_choose.cls ≠ "java/lang/invoke/VarHandle" ∧ (parseMethodDescriptor yX12_choose.desc).map (fun d => d.parameters.length) = some 1 := by decide +kernel
def yz_X12_copy : List (Nat × (Instr × Nat)) := [(0, .aload_n 0, 1), (1, .iconst 0, 1), (2, .putfield 124, 3), (5, .iload_n 1, 1), (6, .invokestatic 157, 3), (9, .ifCond .eq 15, 3), (12, .iload_n 3, 1), (13, .invokestatic 157, 3), (16, .ifCond .eq 8, 3), (19, .iload 5, 2), (21, .ifCond .ge 9, 3), (24, .aload_n 0, 1), (25, .iconst (-1), 1), (26, .invokevirtual 141, 3), (29, .ireturn, 1), (30, .aload_n 0, 1), (31, .getfield 26, 3), (34, .iload_n 1, 1), (35, .iaload, 1), (36, .ifCond .lt 12, 3), (39, .aload_n 0, 1), (40, .getfield 26, 3), (43, .iload_n 3, 1), (44, .iaload, 1), (45, .ifCond .ge 10, 3), (48, .aload_n 0, 1), (49, .bipush (-2), 2), (51, .invokevirtual 141, 3), (54, .ireturn, 1), (55, .iload_n 2, 1), (56, .i2l, 1), (57, .lconst 0, 1), (58, .aload_n 0, 1), (59, .getfield 29, 3), (62, .iload_n 1, 1), (63, .iaload, 1), (64, .i2l, 1), (65, .iload 5, 2), (67, .i2l, 1), (68, .lsub, 1), (69, .invokestatic 133, 3), (72, .ifCond .eq 24, 3), (75, .iload 4, 2), (77, .i2l, 1), (78, .lconst 0, 1), (79, .aload_n 0, 1), (80, .getfield 29, 3), (83, .iload_n 3, 1), (84, .iaload, 1), (85, .i2l, 1), (86, .iload 5, 2), (88, .i2l, 1), (89, .lsub, 1), (90, .invokestatic 133, 3), (93, .ifCond .ne 10, 3), (96, .aload_n 0, 1), (97, .bipush (-3), 2), (99, .invokevirtual 141, 3), (102, .ireturn, 1), (103, .iconst 0, 1), (104, .istore 6, 2), (106, .iload 6, 2), (108, .iload 5, 2), (110, .if_icmp .ge 30, 3), (113, .aload_n 0, 1), (114, .getfield 32, 3), (117, .iload 6, 2), (119, .aload_n 0, 1), (120, .getfield 22, 3), (123, .bipush 100, 2), (125, .iload_n 1, 1), (126, .imul, 1), (127, .iload_n 2, 1), (128, .iadd, 1), (129, .iload 6, 2), (131, .iadd, 1), (132, .laload, 1), (133, .lastore, 1), (134, .iinc 6 1, 3), (137, .goto (-31), 3), (140, .iconst 0, 1), (141, .istore 6, 2), (143, .iload 6, 2), (145, .iload 5, 2), (147, .if_icmp .ge 40, 3), (150, .aload_n 0, 1), (151, .getfield 22, 3), (154, .bipush 100, 2), (156, .iload_n 3, 1), (157, .imul, 1), (158, .iload 4, 2), (160, .iadd, 1), (161, .iload 6, 2), (163, .iadd, 1), (164, .aload_n 0, 1), (165, .getfield 26, 3), (168, .iload_n 3, 1), (169, .iaload, 1), (170, .aload_n 0, 1), (171, .getfield 32, 3), (174, .iload 6, 2), (176, .laload, 1), (177, .invokestatic 160, 3), (180, .lastore, 1), (181, .iinc 6 1, 3), (184, .goto (-41), 3), (187, .aload_n 0, 1), (188, .iload 5, 2), (190, .invokevirtual 141, 3), (193, .ireturn, 1)]
theorem yz_X12_copy_ok : ∀ q ∈ yz_X12_copy, decode cX12_copy q.1 = .ok q.2 := by decide +kernel
theorem yd_yX12_copy : yX12_copy.cls = RX12 ∧ yX12_copy.cls ≠ "java/lang/invoke/MethodHandle" ∧ yX12_copy.cls ≠ "java/lang/invoke/VarHandle" ∧ (parseMethodDescriptor yX12_copy.desc).map (fun d => d.parameters.length) = some 5 := by decide +kernel
def yz_X12_count : List (Nat × (Instr × Nat)) := [(0, .aload_n 0, 1), (1, .iconst 0, 1), (2, .putfield 124, 3), (5, .iload_n 1, 1), (6, .tableswitch 123 0 5 #[38, 43, 49, 55, 60, 89], 38), (44, .aload_n 0, 1), (45, .getfield 130, 3), (48, .ireturn, 1), (49, .aload_n 0, 1), (50, .iconst 1, 1), (51, .invokevirtual 298, 3), (54, .ireturn, 1), (55, .aload_n 0, 1), (56, .iconst 0, 1), (57, .invokevirtual 298, 3), (60, .ireturn, 1), (61, .aload_n 0, 1), (62, .getfield 360, 3), (65, .ireturn, 1), (66, .iconst 0, 1), (67, .istore_n 2, 1), (68, .iconst 0, 1), (69, .istore_n 3, 1), (70, .iload_n 3, 1), (71, .aload_n 0, 1), (72, .getfield 130, 3), (75, .if_icmp .ge 18, 3), (78, .iload_n 2, 1), (79, .aload_n 0, 1), (80, .getfield 19, 3), (83, .iload_n 3, 1), (84, .iaload, 1), (85, .iadd, 1), (86, .istore_n 2, 1), (87, .iinc 3 1, 3), (90, .goto (-20), 3), (93, .iload_n 2, 1), (94, .ireturn, 1), (95, .iconst 0, 1), (96, .istore_n 2, 1), (97, .iconst 0, 1), (98, .istore_n 3, 1), (99, .iload_n 3, 1), (100, .iconst 4, 1), (101, .if_icmp .ge 26, 3), (104, .iload_n 2, 1), (105, .aload_n 0, 1), (106, .getfield 26, 3), (109, .iload_n 3, 1), (110, .iaload, 1), (111, .ifCond .lt 7, 3), (114, .iconst 1, 1), (115, .goto 4, 3), (118, .iconst 0, 1), (119, .iadd, 1), (120, .istore_n 2, 1), (121, .iinc 3 1, 3), (124, .goto (-25), 3), (127, .iload_n 2, 1), (128, .ireturn, 1), (129, .iconst (-1), 1), (130, .ireturn, 1)]
theorem yz_X12_count_ok : ∀ q ∈ yz_X12_count, decode cX12_count q.1 = .ok q.2 := by decide +kernel
theorem yd_yX12_count : yX12_count.cls = RX12 ∧ yX12_count.cls ≠ "java/lang/invoke/MethodHandle" ∧ yX12_count.cls ≠ "java/lang/invoke/VarHandle" ∧ (parseMethodDescriptor yX12_count.desc).map (fun d => d.parameters.length) = some 1 := by decide +kernel
def yz_X12_depth : List (Nat × (Instr × Nat)) := [(0, .aload_n 0, 1), (1, .iconst 0, 1), (2, .putfield 124, 3), (5, .iload_n 1, 1), (6, .i2l, 1), (7, .ldc2_w 406, 3), (10, .ldc2_w 155, 3), (13, .invokestatic 133, 3), (16, .ifCond .eq 17, 3), (19, .iload_n 2, 1), (20, .i2l, 1), (21, .ldc2_w 406, 3), (24, .ldc2_w 155, 3), (27, .invokestatic 133, 3), (30, .ifCond .ne 5, 3), (33, .iconst (-1), 1), (34, .ireturn, 1), (35, .iconst 0, 1), (36, .istore_n 3, 1), (37, .aload_n 0, 1), (38, .getfield 130, 3), (41, .istore 4, 2), (43, .iconst 0, 1), (44, .istore 5, 2), (46, .iload 5, 2), (48, .aload_n 0, 1), (49, .getfield 130, 3), (52, .if_icmp .ge 303, 3), (55, .aload_n 0, 1), (56, .getfield 7, 3), (59, .iload 5, 2), (61, .iaload, 1), (62, .iload_n 1, 1), (63, .isub, 1), (64, .i2l, 1), (65, .lstore 6, 2), (67, .aload_n 0, 1), (68, .getfield 13, 3), (71, .iload 5, 2), (73, .iaload, 1), (74, .iload_n 2, 1), (75, .isub, 1), (76, .i2l, 1), (77, .lstore 8, 2), (79, .lload 6, 2), (81, .lconst 0, 1), (82, .lcmp, 1), (83, .ifCond .ne 16, 3), (86, .lload 8, 2), (88, .lconst 0, 1), (89, .lcmp, 1), (90, .ifCond .ne 9, 3), (93, .iinc 3 1, 3), (96, .goto 253, 3), (99, .iconst 0, 1), (100, .istore 10, 2), (102, .iconst 0, 1), (103, .istore 11, 2), (105, .iconst 0, 1), (106, .istore 12, 2), (108, .iconst 0, 1), (109, .istore 13, 2), (111, .iconst 0, 1), (112, .istore 14, 2), (114, .iload 14, 2), (116, .aload_n 0, 1), (117, .getfield 130, 3), (120, .if_icmp .ge 141, 3), (123, .aload_n 0, 1), (124, .getfield 7, 3), (127, .iload 14, 2), (129, .iaload, 1), (130, .iload_n 1, 1), (131, .isub, 1), (132, .i2l, 1), (133, .lstore 15, 2), (135, .aload_n 0, 1), (136, .getfield 13, 3), (139, .iload 14, 2), (141, .iaload, 1), (142, .iload_n 2, 1), (143, .isub, 1), (144, .i2l, 1), (145, .lstore 17, 2), (147, .lload 6, 2), (149, .lload 8, 2), (151, .lload 15, 2), (153, .lload 17, 2), (155, .invokestatic 170, 3), (158, .lstore 19, 2), (160, .lload 6, 2), (162, .lload 15, 2), (164, .lmul, 1), (165, .lload 8, 2), (167, .lload 17, 2), (169, .lmul, 1), (170, .ladd, 1), (171, .lstore 21, 2), (173, .iload 10, 2), (175, .lload 19, 2), (177, .lconst 0, 1), (178, .lcmp, 1), (179, .ifCond .le 7, 3), (182, .iconst 1, 1), (183, .goto 4, 3), (186, .iconst 0, 1), (187, .iadd, 1), (188, .istore 10, 2), (190, .iload 11, 2), (192, .lload 19, 2), (194, .lconst 0, 1), (195, .lcmp, 1), (196, .ifCond .ge 7, 3), (199, .iconst 1, 1), (200, .goto 4, 3), (203, .iconst 0, 1), (204, .iadd, 1), (205, .istore 11, 2), (207, .iload 12, 2), (209, .lload 19, 2), (211, .lconst 0, 1), (212, .lcmp, 1), (213, .ifCond .ne 14, 3), (216, .lload 21, 2), (218, .lconst 0, 1), (219, .lcmp, 1), (220, .ifCond .le 7, 3), (223, .iconst 1, 1), (224, .goto 4, 3), (227, .iconst 0, 1), (228, .iadd, 1), (229, .istore 12, 2), (231, .iload 13, 2), (233, .lload 19, 2), (235, .lconst 0, 1), (236, .lcmp, 1), (237, .ifCond .ne 14, 3), (240, .lload 21, 2), (242, .lconst 0, 1), (243, .lcmp, 1), (244, .ifCond .ge 7, 3), (247, .iconst 1, 1), (248, .goto 4, 3), (251, .iconst 0, 1), (252, .iadd, 1), (253, .istore 13, 2), (255, .iinc 14 1, 3), (258, .goto (-144), 3), (261, .iload 10, 2), (263, .iload 13, 2), (265, .iadd, 1), (266, .iload 11, 2), (268, .iload 12, 2), (270, .iadd, 1), (271, .if_icmp .ge 11, 3), (274, .iload 10, 2), (276, .iload 13, 2), (278, .iadd, 1), (279, .goto 8, 3), (282, .iload 11, 2), (284, .iload 12, 2), (286, .iadd, 1), (287, .istore 14, 2), (289, .iload 10, 2), (291, .iload 12, 2), (293, .iadd, 1), (294, .iload 11, 2), (296, .iload 13, 2), (298, .iadd, 1), (299, .if_icmp .ge 11, 3), (302, .iload 10, 2), (304, .iload 12, 2), (306, .iadd, 1), (307, .goto 8, 3), (310, .iload 11, 2), (312, .iload 13, 2), (314, .iadd, 1), (315, .istore 15, 2), (317, .iload 14, 2), (319, .iload 15, 2), (321, .if_icmp .ge 8, 3), (324, .iload 14, 2), (326, .goto 5, 3), (329, .iload 15, 2), (331, .istore 16, 2), (333, .iload 16, 2), (335, .iload 4, 2), (337, .if_icmp .ge 8, 3), (340, .iload 16, 2), (342, .goto 5, 3), (345, .iload 4, 2), (347, .istore 4, 2), (349, .iinc 5 1, 3), (352, .goto (-306), 3), (355, .iload 4, 2), (357, .aload_n 0, 1), (358, .getfield 130, 3), (361, .if_icmp .ne 7, 3), (364, .iload_n 3, 1), (365, .goto 7, 3), (368, .iload 4, 2), (370, .iload_n 3, 1), (371, .iadd, 1), (372, .ireturn, 1)]
theorem yz_X12_depth_ok : ∀ q ∈ yz_X12_depth, decode cX12_depth q.1 = .ok q.2 := by decide +kernel
theorem yd_yX12_depth : yX12_depth.cls = RX12 ∧ yX12_depth.cls ≠ "java/lang/invoke/MethodHandle" ∧ yX12_depth.cls ≠ "java/lang/invoke/VarHandle" ∧ (parseMethodDescriptor yX12_depth.desc).map (fun d => d.parameters.length) = some 2 := by decide +kernel
def yz_X12_dismiss : List (Nat × (Instr × Nat)) := [(0, .aload_n 0, 1), (1, .iconst 0, 1), (2, .putfield 124, 3), (5, .aload_n 0, 1), (6, .getfield 360, 3), (9, .istore_n 1, 1), (10, .aload_n 0, 1), (11, .iconst 0, 1), (12, .putfield 360, 3), (15, .iload_n 1, 1), (16, .ireturn, 1)]
theorem yz_X12_dismiss_ok : ∀ q ∈ yz_X12_dismiss, decode cX12_dismiss q.1 = .ok q.2 := by decide +kernel
theorem yd_yX12_dismiss : yX12_dismiss.cls = RX12 ∧ yX12_dismiss.cls ≠ "java/lang/invoke/MethodHandle" ∧ yX12_dismiss.cls ≠ "java/lang/invoke/VarHandle" ∧ (parseMethodDescriptor yX12_dismiss.desc).map (fun d => d.parameters.length) = some 0 := by decide +kernel
def yz_X12_drop : List (Nat × (Instr × Nat)) := [(0, .aload_n 0, 1), (1, .iconst 0, 1), (2, .putfield 124, 3), (5, .aload_n 0, 1), (6, .iload_n 1, 1), (7, .invokevirtual 149, 3), (10, .ifCond .ne 9, 3), (13, .aload_n 0, 1), (14, .iconst (-1), 1), (15, .invokevirtual 141, 3), (18, .ireturn, 1), (19, .aload_n 0, 1), (20, .dup, 1), (21, .getfield 130, 3), (24, .iconst 1, 1), (25, .isub, 1), (26, .putfield 130, 3), (29, .iload_n 1, 1), (30, .istore_n 2, 1), (31, .iload_n 2, 1), (32, .aload_n 0, 1), (33, .getfield 130, 3), (36, .if_icmp .ge 65, 3), (39, .aload_n 0, 1), (40, .getfield 7, 3), (43, .iload_n 2, 1), (44, .aload_n 0, 1), (45, .getfield 7, 3), (48, .iload_n 2, 1), (49, .iconst 1, 1), (50, .iadd, 1), (51, .iaload, 1), (52, .iastore, 1), (53, .aload_n 0, 1), (54, .getfield 13, 3), (57, .iload_n 2, 1), (58, .aload_n 0, 1), (59, .getfield 13, 3), (62, .iload_n 2, 1), (63, .iconst 1, 1), (64, .iadd, 1), (65, .iaload, 1), (66, .iastore, 1), (67, .aload_n 0, 1), (68, .getfield 16, 3), (71, .iload_n 2, 1), (72, .aload_n 0, 1), (73, .getfield 16, 3), (76, .iload_n 2, 1), (77, .iconst 1, 1), (78, .iadd, 1), (79, .iaload, 1), (80, .iastore, 1), (81, .aload_n 0, 1), (82, .getfield 19, 3), (85, .iload_n 2, 1), (86, .aload_n 0, 1), (87, .getfield 19, 3), (90, .iload_n 2, 1), (91, .iconst 1, 1), (92, .iadd, 1), (93, .iaload, 1), (94, .iastore, 1), (95, .iinc 2 1, 3), (98, .goto (-67), 3), (101, .aload_n 0, 1), (102, .aload_n 0, 1), (103, .getfield 130, 3), (106, .invokevirtual 141, 3), (109, .ireturn, 1)]
theorem yz_X12_drop_ok : ∀ q ∈ yz_X12_drop, decode cX12_drop q.1 = .ok q.2 := by decide +kernel
theorem yd_yX12_drop : yX12_drop.cls = RX12 ∧ yX12_drop.cls ≠ "java/lang/invoke/MethodHandle" ∧ yX12_drop.cls ≠ "java/lang/invoke/VarHandle" ∧ (parseMethodDescriptor yX12_drop.desc).map (fun d => d.parameters.length) = some 1 := by decide +kernel
def yz_X12_end : List (Nat × (Instr × Nat)) := [(0, .aload_n 0, 1), (1, .iconst 0, 1), (2, .putfield 124, 3), (5, .aload_n 0, 1), (6, .getfield 78, 3), (9, .ireturn, 1)]
theorem yz_X12_end_ok : ∀ q ∈ yz_X12_end, decode cX12_end q.1 = .ok q.2 := by decide +kernel
theorem yd_yX12_end : yX12_end.cls = RX12 ∧ yX12_end.cls ≠ "java/lang/invoke/MethodHandle" ∧ yX12_end.cls ≠ "java/lang/invoke/VarHandle" ∧ (parseMethodDescriptor yX12_end.desc).map (fun d => d.parameters.length) = some 0 := by decide +kernel
def yz_X12_findBetween : List (Nat × (Instr × Nat)) := [(0, .iconst 0, 1), (1, .istore_n 1, 1), (2, .iload_n 1, 1), (3, .aload_n 0, 1), (4, .getfield 130, 3), (7, .if_icmp .ge 93, 3), (10, .iconst 0, 1), (11, .istore_n 2, 1), (12, .iload_n 2, 1), (13, .aload_n 0, 1), (14, .getfield 130, 3), (17, .if_icmp .ge 77, 3), (20, .aload_n 0, 1), (21, .getfield 16, 3), (24, .iload_n 1, 1), (25, .iaload, 1), (26, .iconst 1, 1), (27, .if_icmp .ne 67, 3), (30, .iload_n 2, 1), (31, .iconst 1, 1), (32, .iadd, 1), (33, .istore_n 3, 1), (34, .iload_n 3, 1), (35, .aload_n 0, 1), (36, .getfield 130, 3), (39, .if_icmp .ge 49, 3), (42, .aload_n 0, 1), (43, .getfield 16, 3), (46, .iload_n 2, 1), (47, .iaload, 1), (48, .ifCond .ne 40, 3), (51, .aload_n 0, 1), (52, .getfield 16, 3), (55, .iload_n 3, 1), (56, .iaload, 1), (57, .ifCond .ne 25, 3), (60, .aload_n 0, 1), (61, .iload_n 1, 1), (62, .iload_n 2, 1), (63, .iload_n 3, 1), (64, .invokevirtual 208, 3), (67, .ifCond .eq 15, 3), (70, .aload_n 0, 1), (71, .iconst 2, 1), (72, .iconst 3, 1), (73, .iload_n 1, 1), (74, .iload_n 2, 1), (75, .iload_n 3, 1), (76, .iconst (-1), 1), (77, .invokevirtual 212, 3), (80, .iconst 1, 1), (81, .ireturn, 1), (82, .iinc 3 1, 3), (85, .goto (-51), 3), (88, .iinc 2 1, 3), (91, .goto (-79), 3), (94, .iinc 1 1, 3), (97, .goto (-95), 3), (100, .iconst 0, 1), (101, .istore_n 1, 1), (102, .iload_n 1, 1), (103, .aload_n 0, 1), (104, .getfield 130, 3), (107, .if_icmp .ge 94, 3), (110, .iload_n 1, 1), (111, .iconst 1, 1), (112, .iadd, 1), (113, .istore_n 2, 1), (114, .iload_n 2, 1), (115, .aload_n 0, 1), (116, .getfield 130, 3), (119, .if_icmp .ge 76, 3), (122, .aload_n 0, 1), (123, .getfield 16, 3), (126, .iload_n 1, 1), (127, .iaload, 1), (128, .iconst 1, 1), (129, .if_icmp .ne 66, 3), (132, .iconst 0, 1), (133, .istore_n 3, 1), (134, .iload_n 3, 1), (135, .aload_n 0, 1), (136, .getfield 130, 3), (139, .if_icmp .ge 50, 3), (142, .aload_n 0, 1), (143, .getfield 16, 3), (146, .iload_n 2, 1), (147, .iaload, 1), (148, .iconst 1, 1), (149, .if_icmp .ne 40, 3), (152, .aload_n 0, 1), (153, .getfield 16, 3), (156, .iload_n 3, 1), (157, .iaload, 1), (158, .ifCond .ne 25, 3), (161, .aload_n 0, 1), (162, .iload_n 3, 1), (163, .iload_n 1, 1), (164, .iload_n 2, 1), (165, .invokevirtual 208, 3), (168, .ifCond .eq 15, 3), (171, .aload_n 0, 1), (172, .iconst 2, 1), (173, .iconst 3, 1), (174, .iload_n 3, 1), (175, .iload_n 1, 1), (176, .iload_n 2, 1), (177, .iconst (-1), 1), (178, .invokevirtual 212, 3), (181, .iconst 1, 1), (182, .ireturn, 1), (183, .iinc 3 1, 3), (186, .goto (-52), 3), (189, .iinc 2 1, 3), (192, .goto (-78), 3), (195, .iinc 1 1, 3), (198, .goto (-96), 3), (201, .iconst 0, 1), (202, .ireturn, 1)]
theorem yz_X12_findBetween_ok : ∀ q ∈ yz_X12_findBetween, decode cX12_findBetween q.1 = .ok q.2 := by decide +kernel
theorem yd_yX12_findBetween : yX12_findBetween.cls = RX12 ∧ yX12_findBetween.cls ≠ "java/lang/invoke/MethodHandle" ∧ yX12_findBetween.cls ≠ "java/lang/invoke/VarHandle" ∧ (parseMethodDescriptor yX12_findBetween.desc).map (fun d => d.parameters.length) = some 0 := by decide +kernel
def yz_X12_findCrossing : List (Nat × (Instr × Nat)) := [(0, .iconst 0, 1), (1, .istore_n 1, 1), (2, .iload_n 1, 1), (3, .aload_n 0, 1), (4, .getfield 130, 3), (7, .if_icmp .ge 84, 3), (10, .iload_n 1, 1), (11, .iconst 1, 1), (12, .iadd, 1), (13, .istore_n 2, 1), (14, .iload_n 2, 1), (15, .aload_n 0, 1), (16, .getfield 130, 3), (19, .if_icmp .ge 66, 3), (22, .aload_n 0, 1), (23, .getfield 16, 3), (26, .iload_n 1, 1), (27, .iaload, 1), (28, .iconst 1, 1), (29, .if_icmp .ne 56, 3), (32, .iconst 0, 1), (33, .istore_n 3, 1), (34, .iload_n 3, 1), (35, .aload_n 0, 1), (36, .getfield 130, 3), (39, .if_icmp .ge 40, 3), (42, .aload_n 0, 1), (43, .getfield 16, 3), (46, .iload_n 2, 1), (47, .iaload, 1), (48, .iconst 1, 1), (49, .if_icmp .ne 30, 3), (52, .aload_n 0, 1), (53, .getfield 16, 3), (56, .iload_n 3, 1), (57, .iaload, 1), (58, .ifCond .ne 15, 3), (61, .aload_n 0, 1), (62, .iload_n 1, 1), (63, .iload_n 2, 1), (64, .iload_n 3, 1), (65, .invokevirtual 230, 3), (68, .ifCond .eq 5, 3), (71, .iconst 1, 1), (72, .ireturn, 1), (73, .iinc 3 1, 3), (76, .goto (-42), 3), (79, .iinc 2 1, 3), (82, .goto (-68), 3), (85, .iinc 1 1, 3), (88, .goto (-86), 3), (91, .iconst 0, 1), (92, .ireturn, 1)]
theorem yz_X12_findCrossing_ok : ∀ q ∈ yz_X12_findCrossing, decode cX12_findCrossing q.1 = .ok q.2 := by decide +kernel
theorem yd_yX12_findCrossing : yX12_findCrossing.cls = RX12 ∧ yX12_findCrossing.cls ≠ "java/lang/invoke/MethodHandle" ∧ yX12_findCrossing.cls ≠ "java/lang/invoke/VarHandle" ∧ (parseMethodDescriptor yX12_findCrossing.desc).map (fun d => d.parameters.length) = some 0 := by decide +kernel
def yz_X12_findHull : List (Nat × (Instr × Nat)) := [(0, .aload_n 0, 1), (1, .iconst 0, 1), (2, .putfield 396, 3), (5, .iconst (-1), 1), (6, .istore_n 2, 1), (7, .iconst 0, 1), (8, .istore_n 3, 1), (9, .iload_n 3, 1), (10, .aload_n 0, 1), (11, .getfield 130, 3), (14, .if_icmp .ge 70, 3), (17, .aload_n 0, 1), (18, .getfield 16, 3), (21, .iload_n 3, 1), (22, .iaload, 1), (23, .iload_n 1, 1), (24, .if_icmp .ne 54, 3), (27, .iload_n 2, 1), (28, .ifCond .lt 48, 3), (31, .aload_n 0, 1), (32, .getfield 7, 3), (35, .iload_n 3, 1), (36, .iaload, 1), (37, .aload_n 0, 1), (38, .getfield 7, 3), (41, .iload_n 2, 1), (42, .iaload, 1), (43, .if_icmp .lt 33, 3), (46, .aload_n 0, 1), (47, .getfield 7, 3), (50, .iload_n 3, 1), (51, .iaload, 1), (52, .aload_n 0, 1), (53, .getfield 7, 3), (56, .iload_n 2, 1), (57, .iaload, 1), (58, .if_icmp .ne 20, 3), (61, .aload_n 0, 1), (62, .getfield 13, 3), (65, .iload_n 3, 1), (66, .iaload, 1), (67, .aload_n 0, 1), (68, .getfield 13, 3), (71, .iload_n 2, 1), (72, .iaload, 1), (73, .if_icmp .ge 5, 3), (76, .iload_n 3, 1), (77, .istore_n 2, 1), (78, .iinc 3 1, 3), (81, .goto (-72), 3), (84, .iload_n 2, 1), (85, .istore_n 3, 1), (86, .iload_n 3, 1), (87, .ifCond .lt 173, 3), (90, .aload_n 0, 1), (91, .getfield 94, 3), (94, .aload_n 0, 1), (95, .getfield 396, 3), (98, .iload_n 3, 1), (99, .iastore, 1), (100, .aload_n 0, 1), (101, .dup, 1), (102, .getfield 396, 3), (105, .iconst 1, 1), (106, .iadd, 1), (107, .putfield 396, 3), (110, .iconst (-1), 1), (111, .istore 4, 2), (113, .iconst 0, 1), (114, .istore 5, 2), (116, .iload 5, 2), (118, .aload_n 0, 1), (119, .getfield 130, 3), (122, .if_icmp .ge 113, 3), (125, .aload_n 0, 1), (126, .getfield 16, 3), (129, .iload 5, 2), (131, .iaload, 1), (132, .iload_n 1, 1), (133, .if_icmp .ne 96, 3), (136, .aload_n 0, 1), (137, .iload 5, 2), (139, .iload_n 3, 1), (140, .invokevirtual 178, 3), (143, .ifCond .eq 6, 3), (146, .goto 83, 3), (149, .iload 4, 2), (151, .ifCond .ge 9, 3), (154, .ldc2_w 182, 3), (157, .goto 12, 3), (160, .aload_n 0, 1), (161, .iload_n 3, 1), (162, .iload 4, 2), (164, .iload 5, 2), (166, .invokevirtual 174, 3), (169, .lstore 6, 2), (171, .iload 4, 2), (173, .ifCond .lt 32, 3), (176, .lload 6, 2), (178, .lconst 0, 1), (179, .lcmp, 1), (180, .ifCond .ne 25, 3), (183, .aload_n 0, 1), (184, .iload_n 3, 1), (185, .iload 5, 2), (187, .invokevirtual 399, 3), (190, .aload_n 0, 1), (191, .iload_n 3, 1), (192, .iload 4, 2), (194, .invokevirtual 399, 3), (197, .lcmp, 1), (198, .ifCond .le 7, 3), (201, .iconst 1, 1), (202, .goto 4, 3), (205, .iconst 0, 1), (206, .istore 8, 2), (208, .lload 6, 2), (210, .lconst 0, 1), (211, .lcmp, 1), (212, .ifCond .lt 8, 3), (215, .iload 8, 2), (217, .ifCond .eq 8, 3), (220, .iload 5, 2), (222, .goto 5, 3), (225, .iload 4, 2), (227, .istore 4, 2), (229, .iinc 5 1, 3), (232, .goto (-116), 3), (235, .iload 4, 2), (237, .ifCond .lt 13, 3), (240, .aload_n 0, 1), (241, .iload 4, 2), (243, .iload_n 2, 1), (244, .invokevirtual 178, 3), (247, .ifCond .eq 7, 3), (250, .iconst (-1), 1), (251, .goto 5, 3), (254, .iload 4, 2), (256, .istore_n 3, 1), (257, .goto (-171), 3), (260, .return_, 1)]
theorem yz_X12_findHull_ok : ∀ q ∈ yz_X12_findHull, decode cX12_findHull q.1 = .ok q.2 := by decide +kernel
theorem yd_yX12_findHull : yX12_findHull.cls = RX12 ∧ yX12_findHull.cls ≠ "java/lang/invoke/MethodHandle" ∧ yX12_findHull.cls ≠ "java/lang/invoke/VarHandle" ∧ (parseMethodDescriptor yX12_findHull.desc).map (fun d => d.parameters.length) = some 1 := by decide +kernel
def yz_X12_findMeeting : List (Nat × (Instr × Nat)) := [(0, .aload_n 0, 1), (1, .iconst 0, 1), (2, .putfield 202, 3), (5, .aload_n 0, 1), (6, .invokevirtual 236, 3), (9, .ifCond .ne 24, 3), (12, .aload_n 0, 1), (13, .invokevirtual 240, 3), (16, .ifCond .ne 17, 3), (19, .aload_n 0, 1), (20, .invokevirtual 243, 3), (23, .ifCond .ne 10, 3), (26, .aload_n 0, 1), (27, .invokevirtual 246, 3), (30, .ifCond .eq 7, 3), (33, .iconst 1, 1), (34, .goto 4, 3), (37, .iconst 0, 1), (38, .istore_n 1, 1), (39, .aload_n 0, 1), (40, .iload_n 1, 1), (41, .ifCond .eq 10, 3), (44, .aload_n 0, 1), (45, .getfield 202, 3), (48, .goto 4, 3), (51, .iconst 0, 1), (52, .putfield 202, 3), (55, .return_, 1)]
theorem yz_X12_findMeeting_ok : ∀ q ∈ yz_X12_findMeeting, decode cX12_findMeeting q.1 = .ok q.2 := by decide +kernel
theorem yd_yX12_findMeeting : yX12_findMeeting.cls = RX12 ∧ yX12_findMeeting.cls ≠ "java/lang/invoke/MethodHandle" ∧ yX12_findMeeting.cls ≠ "java/lang/invoke/VarHandle" ∧ (parseMethodDescriptor yX12_findMeeting.desc).map (fun d => d.parameters.length) = some 0 := by decide +kernel
def yz_X12_findSame : List (Nat × (Instr × Nat)) := [(0, .iconst 0, 1), (1, .istore_n 1, 1), (2, .iload_n 1, 1), (3, .aload_n 0, 1), (4, .getfield 130, 3), (7, .if_icmp .ge 100, 3), (10, .iconst 0, 1), (11, .istore_n 2, 1), (12, .iload_n 2, 1), (13, .aload_n 0, 1), (14, .getfield 130, 3), (17, .if_icmp .ge 84, 3), (20, .aload_n 0, 1), (21, .getfield 16, 3), (24, .iload_n 1, 1), (25, .iaload, 1), (26, .iconst 1, 1), (27, .if_icmp .ne 74, 3), (30, .aload_n 0, 1), (31, .getfield 16, 3), (34, .iload_n 2, 1), (35, .iaload, 1), (36, .ifCond .ne 59, 3), (39, .aload_n 0, 1), (40, .iload_n 1, 1), (41, .iload_n 2, 1), (42, .invokevirtual 178, 3), (45, .ifCond .eq 50, 3), (48, .aload_n 0, 1), (49, .iconst 1, 1), (50, .putfield 202, 3), (53, .aload_n 0, 1), (54, .iconst 2, 1), (55, .putfield 205, 3), (58, .aload_n 0, 1), (59, .iconst 0, 1), (60, .iload_n 1, 1), (61, .lconst 1, 1), (62, .lconst 1, 1), (63, .invokevirtual 194, 3), (66, .aload_n 0, 1), (67, .iconst 1, 1), (68, .iload_n 2, 1), (69, .lconst 1, 1), (70, .lconst 1, 1), (71, .invokevirtual 194, 3), (74, .aload_n 0, 1), (75, .aload_n 0, 1), (76, .getfield 7, 3), (79, .iload_n 1, 1), (80, .iaload, 1), (81, .i2l, 1), (82, .aload_n 0, 1), (83, .getfield 13, 3), (86, .iload_n 1, 1), (87, .iaload, 1), (88, .i2l, 1), (89, .lconst 1, 1), (90, .invokevirtual 198, 3), (93, .iconst 1, 1), (94, .ireturn, 1), (95, .iinc 2 1, 3), (98, .goto (-86), 3), (101, .iinc 1 1, 3), (104, .goto (-102), 3), (107, .iconst 0, 1), (108, .ireturn, 1)]
theorem yz_X12_findSame_ok : ∀ q ∈ yz_X12_findSame, decode cX12_findSame q.1 = .ok q.2 := by decide +kernel
theorem yd_yX12_findSame : yX12_findSame.cls = RX12 ∧ yX12_findSame.cls ≠ "java/lang/invoke/MethodHandle" ∧ yX12_findSame.cls ≠ "java/lang/invoke/VarHandle" ∧ (parseMethodDescriptor yX12_findSame.desc).map (fun d => d.parameters.length) = some 0 := by decide +kernel
def yz_X12_findSets : List (Nat × (Instr × Nat)) := [(0, .aload_n 0, 1), (1, .iload_n 1, 1), (2, .invokevirtual 325, 3), (5, .iconst 0, 1), (6, .istore_n 2, 1), (7, .iload_n 2, 1), (8, .sipush 4096, 3), (11, .if_icmp .ge 16, 3), (14, .aload_n 0, 1), (15, .getfield 44, 3), (18, .iload_n 2, 1), (19, .iconst 0, 1), (20, .bastore, 1), (21, .iinc 2 1, 3), (24, .goto (-17), 3), (27, .aload_n 0, 1), (28, .getfield 44, 3), (31, .iconst 0, 1), (32, .iconst 1, 1), (33, .bastore, 1), (34, .aload_n 0, 1), (35, .getfield 44, 3), (38, .iload_n 1, 1), (39, .iconst 1, 1), (40, .bastore, 1), (41, .iconst 0, 1), (42, .istore_n 2, 1), (43, .iload_n 2, 1), (44, .aload_n 0, 1), (45, .getfield 322, 3), (48, .if_icmp .ge 60, 3), (51, .iconst 0, 1), (52, .istore_n 3, 1), (53, .iload_n 3, 1), (54, .aload_n 0, 1), (55, .getfield 322, 3), (58, .if_icmp .ge 44, 3), (61, .aload_n 0, 1), (62, .aload_n 0, 1), (63, .getfield 48, 3), (66, .iload_n 2, 1), (67, .iaload, 1), (68, .aload_n 0, 1), (69, .getfield 48, 3), (72, .iload_n 3, 1), (73, .iaload, 1), (74, .invokevirtual 178, 3), (77, .ifCond .ne 19, 3), (80, .aload_n 0, 1), (81, .aload_n 0, 1), (82, .getfield 48, 3), (85, .iload_n 2, 1), (86, .iaload, 1), (87, .aload_n 0, 1), (88, .getfield 48, 3), (91, .iload_n 3, 1), (92, .iaload, 1), (93, .invokevirtual 329, 3), (96, .iinc 3 1, 3), (99, .goto (-46), 3), (102, .iinc 2 1, 3), (105, .goto (-62), 3), (108, .return_, 1)]
theorem yz_X12_findSets_ok : ∀ q ∈ yz_X12_findSets, decode cX12_findSets q.1 = .ok q.2 := by decide +kernel
theorem yd_yX12_findSets : yX12_findSets.cls = RX12 ∧ yX12_findSets.cls ≠ "java/lang/invoke/MethodHandle" ∧ yX12_findSets.cls ≠ "java/lang/invoke/VarHandle" ∧ (parseMethodDescriptor yX12_findSets.desc).map (fun d => d.parameters.length) = some 1 := by decide +kernel
def yz_X12_findWay : List (Nat × (Instr × Nat)) := [(0, .aload_n 0, 1), (1, .iconst 0, 1), (2, .putfield 288, 3), (5, .aload_n 0, 1), (6, .lconst 1, 1), (7, .putfield 292, 3), (10, .aload_n 0, 1), (11, .lconst 1, 1), (12, .putfield 295, 3), (15, .aload_n 0, 1), (16, .lconst 0, 1), (17, .putfield 285, 3), (20, .aload_n 0, 1), (21, .lconst 0, 1), (22, .putfield 282, 3), (25, .aload_n 0, 1), (26, .iconst 0, 1), (27, .invokevirtual 298, 3), (30, .ifCond .eq 11, 3), (33, .aload_n 0, 1), (34, .iconst 1, 1), (35, .invokevirtual 298, 3), (38, .ifCond .ne 4, 3), (41, .return_, 1), (42, .iconst 0, 1), (43, .istore_n 1, 1), (44, .iload_n 1, 1), (45, .aload_n 0, 1), (46, .getfield 130, 3), (49, .if_icmp .ge 98, 3), (52, .iconst 0, 1), (53, .istore_n 2, 1), (54, .iload_n 2, 1), (55, .aload_n 0, 1), (56, .getfield 130, 3), (59, .if_icmp .ge 82, 3), (62, .aload_n 0, 1), (63, .getfield 7, 3), (66, .iload_n 2, 1), (67, .iaload, 1), (68, .aload_n 0, 1), (69, .getfield 7, 3), (72, .iload_n 1, 1), (73, .iaload, 1), (74, .isub, 1), (75, .i2l, 1), (76, .lstore_n 3, 1), (77, .aload_n 0, 1), (78, .getfield 13, 3), (81, .iload_n 2, 1), (82, .iaload, 1), (83, .aload_n 0, 1), (84, .getfield 13, 3), (87, .iload_n 1, 1), (88, .iaload, 1), (89, .isub, 1), (90, .i2l, 1), (91, .lstore 5, 2), (93, .lload_n 3, 1), (94, .lload 5, 2), (96, .invokestatic 252, 3), (99, .lstore 7, 2), (101, .lload 7, 2), (103, .lconst 0, 1), (104, .lcmp, 1), (105, .ifCond .le 30, 3), (108, .aload_n 0, 1), (109, .lload_n 3, 1), (110, .lload 7, 2), (112, .ldiv, 1), (113, .lload 5, 2), (115, .lload 7, 2), (117, .ldiv, 1), (118, .invokevirtual 301, 3), (121, .aload_n 0, 1), (122, .lload 5, 2), (124, .lneg, 1), (125, .lload 7, 2), (127, .ldiv, 1), (128, .lload_n 3, 1), (129, .lload 7, 2), (131, .ldiv, 1), (132, .invokevirtual 301, 3), (135, .iinc 2 1, 3), (138, .goto (-84), 3), (141, .iinc 1 1, 3), (144, .goto (-100), 3), (147, .return_, 1)]
theorem yz_X12_findWay_ok : ∀ q ∈ yz_X12_findWay, decode cX12_findWay q.1 = .ok q.2 := by decide +kernel
theorem yd_yX12_findWay : yX12_findWay.cls = RX12 ∧ yX12_findWay.cls ≠ "java/lang/invoke/MethodHandle" ∧ yX12_findWay.cls ≠ "java/lang/invoke/VarHandle" ∧ (parseMethodDescriptor yX12_findWay.desc).map (fun d => d.parameters.length) = some 0 := by decide +kernel
def yz_X12_findWithin : List (Nat × (Instr × Nat)) := [(0, .iconst 0, 1), (1, .istore_n 1, 1), (2, .iload_n 1, 1), (3, .aload_n 0, 1), (4, .getfield 130, 3), (7, .if_icmp .ge 55, 3), (10, .iconst 0, 1), (11, .istore_n 2, 1), (12, .iload_n 2, 1), (13, .aload_n 0, 1), (14, .getfield 130, 3), (17, .if_icmp .ge 39, 3), (20, .aload_n 0, 1), (21, .getfield 16, 3), (24, .iload_n 1, 1), (25, .iaload, 1), (26, .iconst 1, 1), (27, .if_icmp .ne 29, 3), (30, .aload_n 0, 1), (31, .getfield 16, 3), (34, .iload_n 2, 1), (35, .iaload, 1), (36, .ifCond .ne 14, 3), (39, .aload_n 0, 1), (40, .iload_n 1, 1), (41, .iload_n 2, 1), (42, .invokevirtual 220, 3), (45, .ifCond .eq 5, 3), (48, .iconst 1, 1), (49, .ireturn, 1), (50, .iinc 2 1, 3), (53, .goto (-41), 3), (56, .iinc 1 1, 3), (59, .goto (-57), 3), (62, .iconst 0, 1), (63, .istore_n 1, 1), (64, .iload_n 1, 1), (65, .aload_n 0, 1), (66, .getfield 130, 3), (69, .if_icmp .ge 87, 3), (72, .iload_n 1, 1), (73, .iconst 1, 1), (74, .iadd, 1), (75, .istore_n 2, 1), (76, .iload_n 2, 1), (77, .aload_n 0, 1), (78, .getfield 130, 3), (81, .if_icmp .ge 69, 3), (84, .aload_n 0, 1), (85, .getfield 16, 3), (88, .iload_n 1, 1), (89, .iaload, 1), (90, .iconst 1, 1), (91, .if_icmp .ne 59, 3), (94, .iload_n 2, 1), (95, .iconst 1, 1), (96, .iadd, 1), (97, .istore_n 3, 1), (98, .iload_n 3, 1), (99, .aload_n 0, 1), (100, .getfield 130, 3), (103, .if_icmp .ge 41, 3), (106, .aload_n 0, 1), (107, .getfield 16, 3), (110, .iload_n 2, 1), (111, .iaload, 1), (112, .iconst 1, 1), (113, .if_icmp .ne 31, 3), (116, .aload_n 0, 1), (117, .getfield 16, 3), (120, .iload_n 3, 1), (121, .iaload, 1), (122, .iconst 1, 1), (123, .if_icmp .ne 15, 3), (126, .aload_n 0, 1), (127, .iload_n 1, 1), (128, .iload_n 2, 1), (129, .iload_n 3, 1), (130, .invokevirtual 223, 3), (133, .ifCond .eq 5, 3), (136, .iconst 1, 1), (137, .ireturn, 1), (138, .iinc 3 1, 3), (141, .goto (-43), 3), (144, .iinc 2 1, 3), (147, .goto (-71), 3), (150, .iinc 1 1, 3), (153, .goto (-89), 3), (156, .iconst 0, 1), (157, .ireturn, 1)]
theorem yz_X12_findWithin_ok : ∀ q ∈ yz_X12_findWithin, decode cX12_findWithin q.1 = .ok q.2 := by decide +kernel
theorem yd_yX12_findWithin : yX12_findWithin.cls = RX12 ∧ yX12_findWithin.cls ≠ "java/lang/invoke/MethodHandle" ∧ yX12_findWithin.cls ≠ "java/lang/invoke/VarHandle" ∧ (parseMethodDescriptor yX12_findWithin.desc).map (fun d => d.parameters.length) = some 0 := by decide +kernel
def yz_X12_halve : List (Nat × (Instr × Nat)) := [(0, .aload_n 0, 1), (1, .iconst 0, 1), (2, .putfield 124, 3), (5, .aload_n 0, 1), (6, .getfield 360, 3), (9, .ifCond .ne 10, 3), (12, .aload_n 0, 1), (13, .bipush (-6), 2), (15, .invokevirtual 141, 3), (18, .ireturn, 1), (19, .iconst 1, 1), (20, .aload_n 0, 1), (21, .getfield 360, 3), (24, .ishl, 1), (25, .iconst 1, 1), (26, .isub, 1), (27, .istore_n 1, 1), (28, .iconst 0, 1), (29, .istore_n 2, 1), (30, .iconst 0, 1), (31, .istore_n 3, 1), (32, .iload_n 3, 1), (33, .aload_n 0, 1), (34, .getfield 130, 3), (37, .if_icmp .ge 199, 3), (40, .iconst 0, 1), (41, .istore 4, 2), (43, .iconst 0, 1), (44, .istore 5, 2), (46, .iconst 0, 1), (47, .istore 6, 2), (49, .iconst 0, 1), (50, .istore 7, 2), (52, .iload 7, 2), (54, .aload_n 0, 1), (55, .getfield 360, 3), (58, .if_icmp .ge 140, 3), (61, .aload_n 0, 1), (62, .getfield 54, 3), (65, .iload 7, 2), (67, .iaload, 1), (68, .i2l, 1), (69, .aload_n 0, 1), (70, .getfield 57, 3), (73, .iload 7, 2), (75, .iaload, 1), (76, .i2l, 1), (77, .aload_n 0, 1), (78, .getfield 60, 3), (81, .iload 7, 2), (83, .iaload, 1), (84, .i2l, 1), (85, .aload_n 0, 1), (86, .getfield 7, 3), (89, .iload_n 3, 1), (90, .iaload, 1), (91, .i2l, 1), (92, .aload_n 0, 1), (93, .getfield 13, 3), (96, .iload_n 3, 1), (97, .iaload, 1), (98, .i2l, 1), (99, .invokestatic 318, 3), (102, .istore 8, 2), (104, .iload_n 1, 1), (105, .iload 7, 2), (107, .ishr, 1), (108, .iconst 1, 1), (109, .iand, 1), (110, .iconst 1, 1), (111, .if_icmp .ne 7, 3), (114, .iconst 1, 1), (115, .goto 4, 3), (118, .iconst 0, 1), (119, .istore 9, 2), (121, .iload 4, 2), (123, .iload 9, 2), (125, .ifCond .eq 13, 3), (128, .iload 8, 2), (130, .iconst 1, 1), (131, .if_icmp .ne 7, 3), (134, .iconst 1, 1), (135, .goto 4, 3), (138, .iconst 0, 1), (139, .iadd, 1), (140, .istore 4, 2), (142, .iload 5, 2), (144, .iload 9, 2), (146, .ifCond .eq 13, 3), (149, .iload 8, 2), (151, .iconst 1, 1), (152, .if_icmp .eq 7, 3), (155, .iconst 1, 1), (156, .goto 4, 3), (159, .iconst 0, 1), (160, .iadd, 1), (161, .istore 5, 2), (163, .iload 6, 2), (165, .iload 9, 2), (167, .ifCond .eq 21, 3), (170, .iload 8, 2), (172, .aload_n 0, 1), (173, .getfield 16, 3), (176, .iload_n 3, 1), (177, .iaload, 1), (178, .if_icmp .ne 10, 3), (181, .iconst 1, 1), (182, .iload 7, 2), (184, .ishl, 1), (185, .goto 4, 3), (188, .iconst 0, 1), (189, .ior, 1), (190, .istore 6, 2), (192, .iinc 7 1, 3), (195, .goto (-143), 3), (198, .iload_n 2, 1), (199, .iload 4, 2), (201, .iload 5, 2), (203, .if_icmp .le 7, 3), (206, .iconst 1, 1), (207, .goto 4, 3), (210, .iconst 0, 1), (211, .aload_n 0, 1), (212, .getfield 16, 3), (215, .iload_n 3, 1), (216, .iaload, 1), (217, .if_icmp .ne 7, 3), (220, .iconst 0, 1), (221, .goto 4, 3), (224, .iconst 1, 1), (225, .iadd, 1), (226, .istore_n 2, 1), (227, .iload 6, 2), (229, .istore_n 1, 1), (230, .iinc 3 1, 3), (233, .goto (-201), 3), (236, .aload_n 0, 1), (237, .iload_n 1, 1), (238, .putfield 363, 3), (241, .aload_n 0, 1), (242, .iload_n 2, 1), (243, .invokevirtual 141, 3), (246, .ireturn, 1)]
theorem yz_X12_halve_ok : ∀ q ∈ yz_X12_halve, decode cX12_halve q.1 = .ok q.2 := by decide +kernel
theorem yd_yX12_halve : yX12_halve.cls = RX12 ∧ yX12_halve.cls ≠ "java/lang/invoke/MethodHandle" ∧ yX12_halve.cls ≠ "java/lang/invoke/VarHandle" ∧ (parseMethodDescriptor yX12_halve.desc).map (fun d => d.parameters.length) = some 0 := by decide +kernel
def yz_X12_halves : List (Nat × (Instr × Nat)) := [(0, .aload_n 0, 1), (1, .iconst 0, 1), (2, .putfield 124, 3), (5, .aload_n 0, 1), (6, .iconst 0, 1), (7, .invokevirtual 298, 3), (10, .istore_n 1, 1), (11, .aload_n 0, 1), (12, .iconst 1, 1), (13, .invokevirtual 298, 3), (16, .istore_n 2, 1), (17, .iconst 0, 1), (18, .istore_n 3, 1), (19, .iload_n 3, 1), (20, .aload_n 0, 1), (21, .getfield 130, 3), (24, .if_icmp .ge 71, 3), (27, .iload_n 3, 1), (28, .iconst 1, 1), (29, .iadd, 1), (30, .istore 4, 2), (32, .iload 4, 2), (34, .aload_n 0, 1), (35, .getfield 130, 3), (38, .if_icmp .ge 51, 3), (41, .aload_n 0, 1), (42, .iload_n 3, 1), (43, .iload 4, 2), (45, .invokevirtual 178, 3), (48, .ifCond .ne 35, 3), (51, .aload_n 0, 1), (52, .iload_n 3, 1), (53, .iload 4, 2), (55, .iconst 0, 1), (56, .iload_n 1, 1), (57, .invokevirtual 408, 3), (60, .ifCond .eq 23, 3), (63, .aload_n 0, 1), (64, .iload_n 3, 1), (65, .iload 4, 2), (67, .iconst 1, 1), (68, .iload_n 2, 1), (69, .invokevirtual 408, 3), (72, .ifCond .eq 11, 3), (75, .bipush 100, 2), (77, .iload_n 3, 1), (78, .imul, 1), (79, .iload 4, 2), (81, .iadd, 1), (82, .ireturn, 1), (83, .iinc 4 1, 3), (86, .goto (-54), 3), (89, .iinc 3 1, 3), (92, .goto (-73), 3), (95, .bipush (-6), 2), (97, .ireturn, 1)]
theorem yz_X12_halves_ok : ∀ q ∈ yz_X12_halves, decode cX12_halves q.1 = .ok q.2 := by decide +kernel
theorem yd_yX12_halves : yX12_halves.cls = RX12 ∧ yX12_halves.cls ≠ "java/lang/invoke/MethodHandle" ∧ yX12_halves.cls ≠ "java/lang/invoke/VarHandle" ∧ (parseMethodDescriptor yX12_halves.desc).map (fun d => d.parameters.length) = some 0 := by decide +kernel
def yz_X12_hull : List (Nat × (Instr × Nat)) := [(0, .aload_n 0, 1), (1, .iconst 0, 1), (2, .putfield 124, 3), (5, .iload_n 1, 1), (6, .i2l, 1), (7, .lconst 0, 1), (8, .lconst 1, 1), (9, .invokestatic 133, 3), (12, .ifCond .ne 5, 3), (15, .iconst (-1), 1), (16, .ireturn, 1), (17, .aload_n 0, 1), (18, .iload_n 1, 1), (19, .invokevirtual 403, 3), (22, .iload_n 2, 1), (23, .iconst (-1), 1), (24, .if_icmp .ne 10, 3), (27, .aload_n 0, 1), (28, .getfield 396, 3), (31, .goto 29, 3), (34, .iload_n 2, 1), (35, .i2l, 1), (36, .lconst 0, 1), (37, .aload_n 0, 1), (38, .getfield 396, 3), (41, .i2l, 1), (42, .lconst 1, 1), (43, .lsub, 1), (44, .invokestatic 133, 3), (47, .ifCond .eq 12, 3), (50, .aload_n 0, 1), (51, .getfield 94, 3), (54, .iload_n 2, 1), (55, .iaload, 1), (56, .goto 4, 3), (59, .iconst (-1), 1), (60, .ireturn, 1)]
theorem yz_X12_hull_ok : ∀ q ∈ yz_X12_hull, decode cX12_hull q.1 = .ok q.2 := by decide +kernel
theorem yd_yX12_hull : yX12_hull.cls = RX12 ∧ yX12_hull.cls ≠ "java/lang/invoke/MethodHandle" ∧ yX12_hull.cls ≠ "java/lang/invoke/VarHandle" ∧ (parseMethodDescriptor yX12_hull.desc).map (fun d => d.parameters.length) = some 2 := by decide +kernel
def yz_X12_image : List (Nat × (Instr × Nat)) := [(0, .aload_n 0, 1), (1, .iconst 0, 1), (2, .putfield 124, 3), (5, .iload_n 1, 1), (6, .i2l, 1), (7, .lconst 0, 1), (8, .ldc2_w 168, 3), (11, .invokestatic 133, 3), (14, .ifCond .ne 9, 3), (17, .aload_n 0, 1), (18, .iconst (-1), 1), (19, .invokevirtual 141, 3), (22, .ireturn, 1), (23, .aload_n 0, 1), (24, .getfield 106, 3), (27, .iload_n 1, 1), (28, .iconst 1, 1), (29, .bastore, 1), (30, .aload_n 0, 1), (31, .getfield 109, 3), (34, .iload_n 1, 1), (35, .aload_n 0, 1), (36, .getfield 130, 3), (39, .iastore, 1), (40, .iconst 0, 1), (41, .istore_n 2, 1), (42, .iload_n 2, 1), (43, .aload_n 0, 1), (44, .getfield 130, 3), (47, .if_icmp .ge 95, 3), (50, .aload_n 0, 1), (51, .getfield 112, 3), (54, .sipush 160, 3), (57, .iload_n 1, 1), (58, .imul, 1), (59, .iconst 4, 1), (60, .iload_n 2, 1), (61, .imul, 1), (62, .iadd, 1), (63, .aload_n 0, 1), (64, .getfield 7, 3), (67, .iload_n 2, 1), (68, .iaload, 1), (69, .iastore, 1), (70, .aload_n 0, 1), (71, .getfield 112, 3), (74, .sipush 160, 3), (77, .iload_n 1, 1), (78, .imul, 1), (79, .iconst 4, 1), (80, .iload_n 2, 1), (81, .imul, 1), (82, .iadd, 1), (83, .iconst 1, 1), (84, .iadd, 1), (85, .aload_n 0, 1), (86, .getfield 13, 3), (89, .iload_n 2, 1), (90, .iaload, 1), (91, .iastore, 1), (92, .aload_n 0, 1), (93, .getfield 112, 3), (96, .sipush 160, 3), (99, .iload_n 1, 1), (100, .imul, 1), (101, .iconst 4, 1), (102, .iload_n 2, 1), (103, .imul, 1), (104, .iadd, 1), (105, .iconst 2, 1), (106, .iadd, 1), (107, .aload_n 0, 1), (108, .getfield 16, 3), (111, .iload_n 2, 1), (112, .iaload, 1), (113, .iastore, 1), (114, .aload_n 0, 1), (115, .getfield 112, 3), (118, .sipush 160, 3), (121, .iload_n 1, 1), (122, .imul, 1), (123, .iconst 4, 1), (124, .iload_n 2, 1), (125, .imul, 1), (126, .iadd, 1), (127, .iconst 3, 1), (128, .iadd, 1), (129, .aload_n 0, 1), (130, .getfield 19, 3), (133, .iload_n 2, 1), (134, .iaload, 1), (135, .iastore, 1), (136, .iinc 2 1, 3), (139, .goto (-97), 3), (142, .aload_n 0, 1), (143, .getfield 115, 3), (146, .iload_n 1, 1), (147, .aload_n 0, 1), (148, .getfield 360, 3), (151, .iastore, 1), (152, .iconst 0, 1), (153, .istore_n 2, 1), (154, .iload_n 2, 1), (155, .aload_n 0, 1), (156, .getfield 360, 3), (159, .if_icmp .ge 70, 3), (162, .aload_n 0, 1), (163, .getfield 118, 3), (166, .bipush 36, 2), (168, .iload_n 1, 1), (169, .imul, 1), (170, .iconst 3, 1), (171, .iload_n 2, 1), (172, .imul, 1), (173, .iadd, 1), (174, .aload_n 0, 1), (175, .getfield 54, 3), (178, .iload_n 2, 1), (179, .iaload, 1), (180, .iastore, 1), (181, .aload_n 0, 1), (182, .getfield 118, 3), (185, .bipush 36, 2), (187, .iload_n 1, 1), (188, .imul, 1), (189, .iconst 3, 1), (190, .iload_n 2, 1), (191, .imul, 1), (192, .iadd, 1), (193, .iconst 1, 1), (194, .iadd, 1), (195, .aload_n 0, 1), (196, .getfield 57, 3), (199, .iload_n 2, 1), (200, .iaload, 1), (201, .iastore, 1), (202, .aload_n 0, 1), (203, .getfield 118, 3), (206, .bipush 36, 2), (208, .iload_n 1, 1), (209, .imul, 1), (210, .iconst 3, 1), (211, .iload_n 2, 1), (212, .imul, 1), (213, .iadd, 1), (214, .iconst 2, 1), (215, .iadd, 1), (216, .aload_n 0, 1), (217, .getfield 60, 3), (220, .iload_n 2, 1), (221, .iaload, 1), (222, .iastore, 1), (223, .iinc 2 1, 3), (226, .goto (-72), 3), (229, .iconst 0, 1), (230, .istore_n 2, 1), (231, .iload_n 2, 1), (232, .iconst 5, 1), (233, .if_icmp .ge 24, 3), (236, .aload_n 0, 1), (237, .getfield 121, 3), (240, .iconst 5, 1), (241, .iload_n 1, 1), (242, .imul, 1), (243, .iload_n 2, 1), (244, .iadd, 1), (245, .aload_n 0, 1), (246, .iload_n 2, 1), (247, .invokevirtual 414, 3), (250, .lastore, 1), (251, .iinc 2 1, 3), (254, .goto (-23), 3), (257, .aload_n 0, 1), (258, .iconst 0, 1), (259, .invokevirtual 141, 3), (262, .ireturn, 1)]
theorem yz_X12_image_ok : ∀ q ∈ yz_X12_image, decode cX12_image q.1 = .ok q.2 := by decide +kernel
theorem yd_yX12_image : yX12_image.cls = RX12 ∧ yX12_image.cls ≠ "java/lang/invoke/MethodHandle" ∧ yX12_image.cls ≠ "java/lang/invoke/VarHandle" ∧ (parseMethodDescriptor yX12_image.desc).map (fun d => d.parameters.length) = some 1 := by decide +kernel
def yz_X12_in : List (Nat × (Instr × Nat)) := [(0, .lload_n 0, 1), (1, .lload_n 2, 1), (2, .lcmp, 1), (3, .ifCond .lt 14, 3), (6, .lload_n 0, 1), (7, .lload 4, 2), (9, .lcmp, 1), (10, .ifCond .gt 7, 3), (13, .iconst 1, 1), (14, .goto 4, 3), (17, .iconst 0, 1), (18, .ireturn, 1)]
theorem yz_X12_in_ok : ∀ q ∈ yz_X12_in, decode cX12_in q.1 = .ok q.2 := by decide +kernel
theorem yd_yX12_in : yX12_in.cls ≠ "java/lang/invoke/MethodHandle" ∧ yX12_in.cls ≠ "java/lang/invoke/VarHandle" ∧ (parseMethodDescriptor yX12_in.desc).map (fun d => d.parameters.length) = some 3 := by decide +kernel
def yz_X12_isLine : List (Nat × (Instr × Nat)) := [(0, .iload_n 0, 1), (1, .i2l, 1), (2, .ldc2_w 270, 3), (5, .ldc2_w 313, 3), (8, .invokestatic 133, 3), (11, .ifCond .eq 43, 3), (14, .iload_n 1, 1), (15, .i2l, 1), (16, .ldc2_w 270, 3), (19, .ldc2_w 313, 3), (22, .invokestatic 133, 3), (25, .ifCond .eq 29, 3), (28, .iload_n 2, 1), (29, .i2l, 1), (30, .ldc2_w 270, 3), (33, .ldc2_w 313, 3), (36, .invokestatic 133, 3), (39, .ifCond .eq 15, 3), (42, .iload_n 0, 1), (43, .ifCond .ne 7, 3), (46, .iload_n 1, 1), (47, .ifCond .eq 7, 3), (50, .iconst 1, 1), (51, .goto 4, 3), (54, .iconst 0, 1), (55, .ireturn, 1)]
theorem yz_X12_isLine_ok : ∀ q ∈ yz_X12_isLine, decode cX12_isLine q.1 = .ok q.2 := by decide +kernel
theorem yd_yX12_isLine : yX12_isLine.cls ≠ "java/lang/invoke/MethodHandle" ∧ yX12_isLine.cls ≠ "java/lang/invoke/VarHandle" ∧ (parseMethodDescriptor yX12_isLine.desc).map (fun d => d.parameters.length) = some 3 := by decide +kernel
def yz_X12_isMany : List (Nat × (Instr × Nat)) := [(0, .iload_n 1, 1), (1, .i2l, 1), (2, .lconst 0, 1), (3, .ldc2_w 336, 3), (6, .invokestatic 133, 3), (9, .ifCond .eq 15, 3), (12, .iload_n 1, 1), (13, .aload_n 0, 1), (14, .getfield 130, 3), (17, .if_icmp .gt 7, 3), (20, .iconst 1, 1), (21, .goto 4, 3), (24, .iconst 0, 1), (25, .ireturn, 1)]
theorem yz_X12_isMany_ok : ∀ q ∈ yz_X12_isMany, decode cX12_isMany q.1 = .ok q.2 := by decide +kernel
theorem yd_yX12_isMany : yX12_isMany.cls = RX12 ∧ yX12_isMany.cls ≠ "java/lang/invoke/MethodHandle" ∧ yX12_isMany.cls ≠ "java/lang/invoke/VarHandle" ∧ (parseMethodDescriptor yX12_isMany.desc).map (fun d => d.parameters.length) = some 1 := by decide +kernel
def yz_X12_isPoint : List (Nat × (Instr × Nat)) := [(0, .iload_n 1, 1), (1, .i2l, 1), (2, .lconst 0, 1), (3, .aload_n 0, 1), (4, .getfield 130, 3), (7, .i2l, 1), (8, .lconst 1, 1), (9, .lsub, 1), (10, .invokestatic 133, 3), (13, .ireturn, 1)]
theorem yz_X12_isPoint_ok : ∀ q ∈ yz_X12_isPoint, decode cX12_isPoint q.1 = .ok q.2 := by decide +kernel
theorem yd_yX12_isPoint : yX12_isPoint.cls = RX12 ∧ yX12_isPoint.cls ≠ "java/lang/invoke/MethodHandle" ∧ yX12_isPoint.cls ≠ "java/lang/invoke/VarHandle" ∧ (parseMethodDescriptor yX12_isPoint.desc).map (fun d => d.parameters.length) = some 1 := by decide +kernel
def yz_X12_isSheet : List (Nat × (Instr × Nat)) := [(0, .iload_n 0, 1), (1, .i2l, 1), (2, .lconst 0, 1), (3, .ldc2_w 153, 3), (6, .invokestatic 133, 3), (9, .ireturn, 1)]
theorem yz_X12_isSheet_ok : ∀ q ∈ yz_X12_isSheet, decode cX12_isSheet q.1 = .ok q.2 := by decide +kernel
theorem yd_yX12_isSheet : yX12_isSheet.cls ≠ "java/lang/invoke/MethodHandle" ∧ yX12_isSheet.cls ≠ "java/lang/invoke/VarHandle" ∧ (parseMethodDescriptor yX12_isSheet.desc).map (fun d => d.parameters.length) = some 1 := by decide +kernel
def yz_X12_isWay : List (Nat × (Instr × Nat)) := [(0, .aload_n 0, 1), (1, .iconst 0, 1), (2, .putfield 124, 3), (5, .aload_n 0, 1), (6, .iload_n 1, 1), (7, .invokevirtual 338, 3), (10, .ifCond .eq 17, 3), (13, .iload_n 2, 1), (14, .i2l, 1), (15, .lconst 0, 1), (16, .lconst 1, 1), (17, .iload_n 1, 1), (18, .lshl, 1), (19, .lconst 1, 1), (20, .lsub, 1), (21, .invokestatic 133, 3), (24, .ifCond .ne 5, 3), (27, .iconst (-1), 1), (28, .ireturn, 1), (29, .aload_n 0, 1), (30, .iconst 1, 1), (31, .iload_n 1, 1), (32, .ishl, 1), (33, .iconst 1, 1), (34, .isub, 1), (35, .invokevirtual 341, 3), (38, .aload_n 0, 1), (39, .getfield 44, 3), (42, .iload_n 2, 1), (43, .baload, 1), (44, .ifCond .eq 7, 3), (47, .iconst 1, 1), (48, .goto 4, 3), (51, .iconst 0, 1), (52, .ireturn, 1)]
theorem yz_X12_isWay_ok : ∀ q ∈ yz_X12_isWay, decode cX12_isWay q.1 = .ok q.2 := by decide +kernel
theorem yd_yX12_isWay : yX12_isWay.cls = RX12 ∧ yX12_isWay.cls ≠ "java/lang/invoke/MethodHandle" ∧ yX12_isWay.cls ≠ "java/lang/invoke/VarHandle" ∧ (parseMethodDescriptor yX12_isWay.desc).map (fun d => d.parameters.length) = some 2 := by decide +kernel
def yz_X12_judge : List (Nat × (Instr × Nat)) := [(0, .aload_n 0, 1), (1, .iconst 0, 1), (2, .putfield 124, 3), (5, .iload_n 1, 1), (6, .iload_n 2, 1), (7, .iload_n 3, 1), (8, .invokestatic 315, 3), (11, .ifCond .ne 9, 3), (14, .aload_n 0, 1), (15, .iconst (-1), 1), (16, .invokevirtual 141, 3), (19, .ireturn, 1), (20, .aload_n 0, 1), (21, .getfield 360, 3), (24, .bipush 12, 2), (26, .if_icmp .ne 10, 3), (29, .aload_n 0, 1), (30, .bipush (-5), 2), (32, .invokevirtual 141, 3), (35, .ireturn, 1), (36, .aload_n 0, 1), (37, .getfield 54, 3), (40, .aload_n 0, 1), (41, .getfield 360, 3), (44, .iload_n 1, 1), (45, .iastore, 1), (46, .aload_n 0, 1), (47, .getfield 57, 3), (50, .aload_n 0, 1), (51, .getfield 360, 3), (54, .iload_n 2, 1), (55, .iastore, 1), (56, .aload_n 0, 1), (57, .getfield 60, 3), (60, .aload_n 0, 1), (61, .getfield 360, 3), (64, .iload_n 3, 1), (65, .iastore, 1), (66, .aload_n 0, 1), (67, .dup, 1), (68, .getfield 360, 3), (71, .iconst 1, 1), (72, .iadd, 1), (73, .putfield 360, 3), (76, .aload_n 0, 1), (77, .aload_n 0, 1), (78, .getfield 360, 3), (81, .invokevirtual 141, 3), (84, .ireturn, 1)]
theorem yz_X12_judge_ok : ∀ q ∈ yz_X12_judge, decode cX12_judge q.1 = .ok q.2 := by decide +kernel
theorem yd_yX12_judge : yX12_judge.cls = RX12 ∧ yX12_judge.cls ≠ "java/lang/invoke/MethodHandle" ∧ yX12_judge.cls ≠ "java/lang/invoke/VarHandle" ∧ (parseMethodDescriptor yX12_judge.desc).map (fun d => d.parameters.length) = some 3 := by decide +kernel
def yz_X12_learn : List (Nat × (Instr × Nat)) := [(0, .aload_n 0, 1), (1, .iconst 0, 1), (2, .putfield 124, 3), (5, .iload_n 1, 1), (6, .i2l, 1), (7, .lconst 0, 1), (8, .ldc2_w 155, 3), (11, .invokestatic 133, 3), (14, .ifCond .ne 9, 3), (17, .aload_n 0, 1), (18, .iconst (-1), 1), (19, .invokevirtual 141, 3), (22, .ireturn, 1), (23, .iconst 0, 1), (24, .istore_n 2, 1), (25, .iconst 1, 1), (26, .istore_n 3, 1), (27, .iconst 0, 1), (28, .istore 4, 2), (30, .iload 4, 2), (32, .iload_n 1, 1), (33, .if_icmp .ge 198, 3), (36, .iload_n 3, 1), (37, .ifCond .eq 194, 3), (40, .iconst 0, 1), (41, .istore_n 3, 1), (42, .iconst 0, 1), (43, .istore 5, 2), (45, .iload 5, 2), (47, .aload_n 0, 1), (48, .getfield 130, 3), (51, .if_icmp .ge 164, 3), (54, .aload_n 0, 1), (55, .getfield 345, 3), (58, .aload_n 0, 1), (59, .getfield 7, 3), (62, .iload 5, 2), (64, .iaload, 1), (65, .i2l, 1), (66, .lmul, 1), (67, .aload_n 0, 1), (68, .getfield 348, 3), (71, .aload_n 0, 1), (72, .getfield 13, 3), (75, .iload 5, 2), (77, .iaload, 1), (78, .i2l, 1), (79, .lmul, 1), (80, .ladd, 1), (81, .aload_n 0, 1), (82, .getfield 351, 3), (85, .ladd, 1), (86, .lstore 6, 2), (88, .aload_n 0, 1), (89, .getfield 16, 3), (92, .iload 5, 2), (94, .iaload, 1), (95, .iconst 1, 1), (96, .if_icmp .ne 18, 3), (99, .lload 6, 2), (101, .lconst 0, 1), (102, .lcmp, 1), (103, .ifCond .gt 7, 3), (106, .iconst 1, 1), (107, .goto 19, 3), (110, .iconst 0, 1), (111, .goto 15, 3), (114, .lload 6, 2), (116, .lconst 0, 1), (117, .lcmp, 1), (118, .ifCond .lt 7, 3), (121, .iconst 1, 1), (122, .goto 4, 3), (125, .iconst 0, 1), (126, .istore 8, 2), (128, .iload 8, 2), (130, .ifCond .eq 79, 3), (133, .aload_n 0, 1), (134, .getfield 16, 3), (137, .iload 5, 2), (139, .iaload, 1), (140, .iconst 1, 1), (141, .if_icmp .ne 7, 3), (144, .lconst 1, 1), (145, .goto 6, 3), (148, .ldc2_w 182, 3), (151, .lstore 9, 2), (153, .aload_n 0, 1), (154, .dup, 1), (155, .getfield 345, 3), (158, .lload 9, 2), (160, .aload_n 0, 1), (161, .getfield 7, 3), (164, .iload 5, 2), (166, .iaload, 1), (167, .i2l, 1), (168, .lmul, 1), (169, .ladd, 1), (170, .putfield 345, 3), (173, .aload_n 0, 1), (174, .dup, 1), (175, .getfield 348, 3), (178, .lload 9, 2), (180, .aload_n 0, 1), (181, .getfield 13, 3), (184, .iload 5, 2), (186, .iaload, 1), (187, .i2l, 1), (188, .lmul, 1), (189, .ladd, 1), (190, .putfield 348, 3), (193, .aload_n 0, 1), (194, .dup, 1), (195, .getfield 351, 3), (198, .lload 9, 2), (200, .ladd, 1), (201, .putfield 351, 3), (204, .iinc 2 1, 3), (207, .iconst 1, 1), (208, .istore_n 3, 1), (209, .iinc 5 1, 3), (212, .goto (-167), 3), (215, .aload_n 0, 1), (216, .dup, 1), (217, .getfield 354, 3), (220, .lconst 1, 1), (221, .ladd, 1), (222, .putfield 354, 3), (225, .iinc 4 1, 3), (228, .goto (-198), 3), (231, .aload_n 0, 1), (232, .dup, 1), (233, .getfield 357, 3), (236, .iload_n 2, 1), (237, .i2l, 1), (238, .ladd, 1), (239, .putfield 357, 3), (242, .aload_n 0, 1), (243, .iload_n 2, 1), (244, .invokevirtual 141, 3), (247, .ireturn, 1)]
theorem yz_X12_learn_ok : ∀ q ∈ yz_X12_learn, decode cX12_learn q.1 = .ok q.2 := by decide +kernel
theorem yd_yX12_learn : yX12_learn.cls = RX12 ∧ yX12_learn.cls ≠ "java/lang/invoke/MethodHandle" ∧ yX12_learn.cls ≠ "java/lang/invoke/VarHandle" ∧ (parseMethodDescriptor yX12_learn.desc).map (fun d => d.parameters.length) = some 1 := by decide +kernel
def yz_X12_learnt : List (Nat × (Instr × Nat)) := [(0, .aload_n 0, 1), (1, .iconst 0, 1), (2, .putfield 124, 3), (5, .iload_n 1, 1), (6, .tableswitch 59 0 4 #[34, 39, 44, 49, 54], 34), (40, .aload_n 0, 1), (41, .getfield 345, 3), (44, .lreturn, 1), (45, .aload_n 0, 1), (46, .getfield 348, 3), (49, .lreturn, 1), (50, .aload_n 0, 1), (51, .getfield 351, 3), (54, .lreturn, 1), (55, .aload_n 0, 1), (56, .getfield 357, 3), (59, .lreturn, 1), (60, .aload_n 0, 1), (61, .getfield 354, 3), (64, .lreturn, 1), (65, .ldc2_w 270, 3), (68, .lreturn, 1)]
theorem yz_X12_learnt_ok : ∀ q ∈ yz_X12_learnt, decode cX12_learnt q.1 = .ok q.2 := by decide +kernel
theorem yd_yX12_learnt : yX12_learnt.cls = RX12 ∧ yX12_learnt.cls ≠ "java/lang/invoke/MethodHandle" ∧ yX12_learnt.cls ≠ "java/lang/invoke/VarHandle" ∧ (parseMethodDescriptor yX12_learnt.desc).map (fun d => d.parameters.length) = some 1 := by decide +kernel
def yz_X12_left : List (Nat × (Instr × Nat)) := [(0, .aload_n 0, 1), (1, .iconst 0, 1), (2, .putfield 124, 3), (5, .aload_n 0, 1), (6, .getfield 363, 3), (9, .ireturn, 1)]
theorem yz_X12_left_ok : ∀ q ∈ yz_X12_left, decode cX12_left q.1 = .ok q.2 := by decide +kernel
theorem yd_yX12_left : yX12_left.cls = RX12 ∧ yX12_left.cls ≠ "java/lang/invoke/MethodHandle" ∧ yX12_left.cls ≠ "java/lang/invoke/VarHandle" ∧ (parseMethodDescriptor yX12_left.desc).map (fun d => d.parameters.length) = some 0 := by decide +kernel
def yz_X12_many : List (Nat × (Instr × Nat)) := [(0, .iconst 0, 1), (1, .istore_n 2, 1), (2, .iconst 0, 1), (3, .istore_n 3, 1), (4, .iload_n 3, 1), (5, .aload_n 0, 1), (6, .getfield 130, 3), (9, .if_icmp .ge 27, 3), (12, .iload_n 2, 1), (13, .aload_n 0, 1), (14, .getfield 16, 3), (17, .iload_n 3, 1), (18, .iaload, 1), (19, .iload_n 1, 1), (20, .if_icmp .ne 7, 3), (23, .iconst 1, 1), (24, .goto 4, 3), (27, .iconst 0, 1), (28, .iadd, 1), (29, .istore_n 2, 1), (30, .iinc 3 1, 3), (33, .goto (-29), 3), (36, .iload_n 2, 1), (37, .ireturn, 1)]
theorem yz_X12_many_ok : ∀ q ∈ yz_X12_many, decode cX12_many q.1 = .ok q.2 := by decide +kernel
theorem yd_yX12_many : yX12_many.cls = RX12 ∧ yX12_many.cls ≠ "java/lang/invoke/MethodHandle" ∧ yX12_many.cls ≠ "java/lang/invoke/VarHandle" ∧ (parseMethodDescriptor yX12_many.desc).map (fun d => d.parameters.length) = some 1 := by decide +kernel
def yz_X12_mass : List (Nat × (Instr × Nat)) := [(0, .aload_n 0, 1), (1, .iconst 0, 1), (2, .putfield 124, 3), (5, .iload_n 1, 1), (6, .i2l, 1), (7, .lconst 0, 1), (8, .aload_n 0, 1), (9, .getfield 366, 3), (12, .i2l, 1), (13, .lconst 1, 1), (14, .lsub, 1), (15, .invokestatic 133, 3), (18, .ifCond .eq 12, 3), (21, .aload_n 0, 1), (22, .getfield 82, 3), (25, .iload_n 1, 1), (26, .laload, 1), (27, .goto 6, 3), (30, .ldc2_w 182, 3), (33, .lreturn, 1)]
theorem yz_X12_mass_ok : ∀ q ∈ yz_X12_mass, decode cX12_mass q.1 = .ok q.2 := by decide +kernel
theorem yd_yX12_mass : yX12_mass.cls = RX12 ∧ yX12_mass.cls ≠ "java/lang/invoke/MethodHandle" ∧ yX12_mass.cls ≠ "java/lang/invoke/VarHandle" ∧ (parseMethodDescriptor yX12_mass.desc).map (fun d => d.parameters.length) = some 1 := by decide +kernel
def yz_X12_meet : List (Nat × (Instr × Nat)) := [(0, .aload_n 0, 1), (1, .iconst 0, 1), (2, .putfield 124, 3), (5, .aload_n 0, 1), (6, .invokevirtual 249, 3), (9, .iload_n 1, 1), (10, .i2l, 1), (11, .lconst 0, 1), (12, .lconst 1, 1), (13, .invokestatic 133, 3), (16, .ifCond .ne 59, 3), (19, .iload_n 1, 1), (20, .i2l, 1), (21, .ldc2_w 256, 3), (24, .ldc2_w 258, 3), (27, .invokestatic 133, 3), (30, .ifCond .ne 45, 3), (33, .iload_n 1, 1), (34, .i2l, 1), (35, .ldc2_w 260, 3), (38, .ldc2_w 262, 3), (41, .invokestatic 133, 3), (44, .ifCond .ne 31, 3), (47, .iload_n 1, 1), (48, .i2l, 1), (49, .ldc2_w 264, 3), (52, .ldc2_w 266, 3), (55, .invokestatic 133, 3), (58, .ifCond .ne 17, 3), (61, .iload_n 1, 1), (62, .i2l, 1), (63, .ldc2_w 166, 3), (66, .ldc2_w 268, 3), (69, .invokestatic 133, 3), (72, .ifCond .eq 7, 3), (75, .iconst 1, 1), (76, .goto 4, 3), (79, .iconst 0, 1), (80, .istore_n 2, 1), (81, .iload_n 2, 1), (82, .ifCond .ne 7, 3), (85, .ldc2_w 270, 3), (88, .lreturn, 1), (89, .aload_n 0, 1), (90, .getfield 202, 3), (93, .ifCond .ne 7, 3), (96, .ldc2_w 272, 3), (99, .lreturn, 1), (100, .iload_n 1, 1), (101, .i2l, 1), (102, .ldc2_w 256, 3), (105, .ldc2_w 274, 3), (108, .invokestatic 133, 3), (111, .ifCond .eq 18, 3), (114, .iload_n 1, 1), (115, .bipush 10, 2), (117, .irem, 1), (118, .aload_n 0, 1), (119, .getfield 205, 3), (122, .if_icmp .lt 7, 3), (125, .ldc2_w 270, 3), (128, .lreturn, 1), (129, .iload_n 1, 1), (130, .bipush 10, 2), (132, .irem, 1), (133, .istore_n 3, 1), (134, .iload_n 1, 1), (135, .bipush 10, 2), (137, .idiv, 1), (138, .tableswitch 90 0 3 #[30, 48, 56, 73], 30), (168, .iload_n 1, 1), (169, .ifCond .ne 11, 3), (172, .aload_n 0, 1), (173, .getfield 202, 3), (176, .i2l, 1), (177, .goto 8, 3), (180, .aload_n 0, 1), (181, .getfield 205, 3), (184, .i2l, 1), (185, .lreturn, 1), (186, .aload_n 0, 1), (187, .getfield 35, 3), (190, .iload_n 3, 1), (191, .iaload, 1), (192, .i2l, 1), (193, .lreturn, 1), (194, .aload_n 0, 1), (195, .getfield 38, 3), (198, .iload_n 3, 1), (199, .laload, 1), (200, .aload_n 0, 1), (201, .getfield 41, 3), (204, .iload_n 3, 1), (205, .laload, 1), (206, .iconst 1, 1), (207, .invokestatic 276, 3), (210, .lreturn, 1), (211, .aload_n 0, 1), (212, .getfield 38, 3), (215, .iload_n 3, 1), (216, .laload, 1), (217, .aload_n 0, 1), (218, .getfield 41, 3), (221, .iload_n 3, 1), (222, .laload, 1), (223, .iconst 0, 1), (224, .invokestatic 276, 3), (227, .lreturn, 1), (228, .iload_n 3, 1), (229, .iconst 2, 1), (230, .if_icmp .ge 10, 3), (233, .aload_n 0, 1), (234, .getfield 184, 3), (237, .goto 7, 3), (240, .aload_n 0, 1), (241, .getfield 188, 3), (244, .aload_n 0, 1), (245, .getfield 191, 3), (248, .iload_n 3, 1), (249, .iconst 2, 1), (250, .irem, 1), (251, .ifCond .ne 7, 3), (254, .iconst 1, 1), (255, .goto 4, 3), (258, .iconst 0, 1), (259, .invokestatic 276, 3), (262, .lreturn, 1)]
theorem yz_X12_meet_ok : ∀ q ∈ yz_X12_meet, decode cX12_meet q.1 = .ok q.2 := by decide +kernel
theorem yd_yX12_meet : yX12_meet.cls = RX12 ∧ yX12_meet.cls ≠ "java/lang/invoke/MethodHandle" ∧ yX12_meet.cls ≠ "java/lang/invoke/VarHandle" ∧ (parseMethodDescriptor yX12_meet.desc).map (fun d => d.parameters.length) = some 1 := by decide +kernel
def yz_X12_of : List (Nat × (Instr × Nat)) := [(0, .aload_n 0, 1), (1, .iconst 0, 1), (2, .putfield 124, 3), (5, .aload_n 0, 1), (6, .iload_n 1, 1), (7, .invokevirtual 149, 3), (10, .ifCond .eq 15, 3), (13, .iload_n 2, 1), (14, .i2l, 1), (15, .lconst 0, 1), (16, .ldc2_w 153, 3), (19, .invokestatic 133, 3), (22, .ifCond .ne 7, 3), (25, .sipush (-1000), 3), (28, .ireturn, 1), (29, .iload_n 2, 1), (30, .ifCond .ne 12, 3), (33, .aload_n 0, 1), (34, .getfield 7, 3), (37, .iload_n 1, 1), (38, .iaload, 1), (39, .goto 37, 3), (42, .iload_n 2, 1), (43, .iconst 1, 1), (44, .if_icmp .ne 12, 3), (47, .aload_n 0, 1), (48, .getfield 13, 3), (51, .iload_n 1, 1), (52, .iaload, 1), (53, .goto 23, 3), (56, .iload_n 2, 1), (57, .iconst 2, 1), (58, .if_icmp .ne 12, 3), (61, .aload_n 0, 1), (62, .getfield 16, 3), (65, .iload_n 1, 1), (66, .iaload, 1), (67, .goto 9, 3), (70, .aload_n 0, 1), (71, .getfield 19, 3), (74, .iload_n 1, 1), (75, .iaload, 1), (76, .ireturn, 1)]
theorem yz_X12_of_ok : ∀ q ∈ yz_X12_of, decode cX12_of q.1 = .ok q.2 := by decide +kernel
theorem yd_yX12_of : yX12_of.cls = RX12 ∧ yX12_of.cls ≠ "java/lang/invoke/MethodHandle" ∧ yX12_of.cls ≠ "java/lang/invoke/VarHandle" ∧ (parseMethodDescriptor yX12_of.desc).map (fun d => d.parameters.length) = some 2 := by decide +kernel
def yz_X12_paint : List (Nat × (Instr × Nat)) := [(0, .aload_n 0, 1), (1, .iconst 0, 1), (2, .putfield 124, 3), (5, .aload_n 0, 1), (6, .iload_n 1, 1), (7, .invokevirtual 149, 3), (10, .ifCond .eq 25, 3), (13, .iload_n 2, 1), (14, .i2l, 1), (15, .lconst 0, 1), (16, .lconst 1, 1), (17, .invokestatic 133, 3), (20, .ifCond .eq 15, 3), (23, .iload_n 3, 1), (24, .i2l, 1), (25, .lconst 1, 1), (26, .ldc2_w 155, 3), (29, .invokestatic 133, 3), (32, .ifCond .ne 9, 3), (35, .aload_n 0, 1), (36, .iconst (-1), 1), (37, .invokevirtual 141, 3), (40, .ireturn, 1), (41, .aload_n 0, 1), (42, .getfield 16, 3), (45, .iload_n 1, 1), (46, .iload_n 2, 1), (47, .iastore, 1), (48, .aload_n 0, 1), (49, .getfield 19, 3), (52, .iload_n 1, 1), (53, .iload_n 3, 1), (54, .iastore, 1), (55, .aload_n 0, 1), (56, .iconst 0, 1), (57, .invokevirtual 141, 3), (60, .ireturn, 1)]
theorem yz_X12_paint_ok : ∀ q ∈ yz_X12_paint, decode cX12_paint q.1 = .ok q.2 := by decide +kernel
theorem yd_yX12_paint : yX12_paint.cls = RX12 ∧ yX12_paint.cls ≠ "java/lang/invoke/MethodHandle" ∧ yX12_paint.cls ≠ "java/lang/invoke/VarHandle" ∧ (parseMethodDescriptor yX12_paint.desc).map (fun d => d.parameters.length) = some 3 := by decide +kernel
def yz_X12_parted : List (Nat × (Instr × Nat)) := [(0, .aload_n 0, 1), (1, .iconst 0, 1), (2, .putfield 124, 3), (5, .aload_n 0, 1), (6, .invokevirtual 249, 3), (9, .aload_n 0, 1), (10, .getfield 202, 3), (13, .ifCond .ne 7, 3), (16, .iconst 1, 1), (17, .goto 4, 3), (20, .iconst 0, 1), (21, .ireturn, 1)]
theorem yz_X12_parted_ok : ∀ q ∈ yz_X12_parted, decode cX12_parted q.1 = .ok q.2 := by decide +kernel
theorem yd_yX12_parted : yX12_parted.cls = RX12 ∧ yX12_parted.cls ≠ "java/lang/invoke/MethodHandle" ∧ yX12_parted.cls ≠ "java/lang/invoke/VarHandle" ∧ (parseMethodDescriptor yX12_parted.desc).map (fun d => d.parameters.length) = some 0 := by decide +kernel
def yz_X12_point : List (Nat × (Instr × Nat)) := [(0, .aload_n 0, 1), (1, .iconst 0, 1), (2, .putfield 124, 3), (5, .iload_n 1, 1), (6, .i2l, 1), (7, .ldc2_w 137, 3), (10, .ldc2_w 139, 3), (13, .invokestatic 133, 3), (16, .ifCond .eq 27, 3), (19, .iload_n 2, 1), (20, .i2l, 1), (21, .ldc2_w 137, 3), (24, .ldc2_w 139, 3), (27, .invokestatic 133, 3), (30, .ifCond .eq 13, 3), (33, .iload_n 3, 1), (34, .i2l, 1), (35, .lconst 0, 1), (36, .lconst 1, 1), (37, .invokestatic 133, 3), (40, .ifCond .ne 9, 3), (43, .aload_n 0, 1), (44, .iconst (-1), 1), (45, .invokevirtual 141, 3), (48, .ireturn, 1), (49, .aload_n 0, 1), (50, .getfield 130, 3), (53, .bipush 40, 2), (55, .if_icmp .ne 10, 3), (58, .aload_n 0, 1), (59, .bipush (-5), 2), (61, .invokevirtual 141, 3), (64, .ireturn, 1), (65, .aload_n 0, 1), (66, .iload_n 1, 1), (67, .iload_n 2, 1), (68, .iload_n 3, 1), (69, .invokevirtual 145, 3), (72, .aload_n 0, 1), (73, .aload_n 0, 1), (74, .getfield 130, 3), (77, .invokevirtual 141, 3), (80, .ireturn, 1)]
theorem yz_X12_point_ok : ∀ q ∈ yz_X12_point, decode cX12_point q.1 = .ok q.2 := by decide +kernel
theorem yd_yX12_point : yX12_point.cls = RX12 ∧ yX12_point.cls ≠ "java/lang/invoke/MethodHandle" ∧ yX12_point.cls ≠ "java/lang/invoke/VarHandle" ∧ (parseMethodDescriptor yX12_point.desc).map (fun d => d.parameters.length) = some 3 := by decide +kernel
def yz_X12_read : List (Nat × (Instr × Nat)) := [(0, .aload_n 0, 1), (1, .iconst 0, 1), (2, .putfield 124, 3), (5, .iload_n 1, 1), (6, .invokestatic 157, 3), (9, .ifCond .eq 44, 3), (12, .aload_n 0, 1), (13, .getfield 26, 3), (16, .iload_n 1, 1), (17, .iaload, 1), (18, .ifCond .lt 35, 3), (21, .iload_n 2, 1), (22, .i2l, 1), (23, .lconst 0, 1), (24, .aload_n 0, 1), (25, .getfield 29, 3), (28, .iload_n 1, 1), (29, .iaload, 1), (30, .i2l, 1), (31, .lconst 1, 1), (32, .lsub, 1), (33, .invokestatic 133, 3), (36, .ifCond .eq 17, 3), (39, .aload_n 0, 1), (40, .getfield 22, 3), (43, .bipush 100, 2), (45, .iload_n 1, 1), (46, .imul, 1), (47, .iload_n 2, 1), (48, .iadd, 1), (49, .laload, 1), (50, .goto 6, 3), (53, .ldc2_w 164, 3), (56, .lreturn, 1)]
theorem yz_X12_read_ok : ∀ q ∈ yz_X12_read, decode cX12_read q.1 = .ok q.2 := by decide +kernel
theorem yd_yX12_read : yX12_read.cls = RX12 ∧ yX12_read.cls ≠ "java/lang/invoke/MethodHandle" ∧ yX12_read.cls ≠ "java/lang/invoke/VarHandle" ∧ (parseMethodDescriptor yX12_read.desc).map (fun d => d.parameters.length) = some 2 := by decide +kernel
def yz_X12_shatter : List (Nat × (Instr × Nat)) := [(0, .aload_n 0, 1), (1, .iconst 0, 1), (2, .putfield 124, 3), (5, .aload_n 0, 1), (6, .getfield 130, 3), (9, .bipush 12, 2), (11, .if_icmp .ge 10, 3), (14, .aload_n 0, 1), (15, .getfield 130, 3), (18, .goto 5, 3), (21, .bipush 12, 2), (23, .istore_n 2, 1), (24, .iload_n 1, 1), (25, .i2l, 1), (26, .lconst 0, 1), (27, .lconst 1, 1), (28, .iload_n 2, 1), (29, .lshl, 1), (30, .lconst 1, 1), (31, .lsub, 1), (32, .invokestatic 133, 3), (35, .ifCond .ne 5, 3), (38, .iconst (-1), 1), (39, .ireturn, 1), (40, .aload_n 0, 1), (41, .iload_n 1, 1), (42, .invokevirtual 341, 3), (45, .iconst 1, 1), (46, .istore_n 3, 1), (47, .iconst 0, 1), (48, .istore 4, 2), (50, .iload 4, 2), (52, .sipush 4096, 3), (55, .if_icmp .ge 38, 3), (58, .iload_n 3, 1), (59, .ifCond .eq 26, 3), (62, .iload 4, 2), (64, .iload_n 1, 1), (65, .iconst (-1), 1), (66, .ixor, 1), (67, .iand, 1), (68, .ifCond .ne 13, 3), (71, .aload_n 0, 1), (72, .getfield 44, 3), (75, .iload 4, 2), (77, .baload, 1), (78, .ifCond .eq 7, 3), (81, .iconst 1, 1), (82, .goto 4, 3), (85, .iconst 0, 1), (86, .istore_n 3, 1), (87, .iinc 4 1, 3), (90, .goto (-40), 3), (93, .iload_n 3, 1), (94, .ifCond .eq 7, 3), (97, .iconst 1, 1), (98, .goto 4, 3), (101, .iconst 0, 1), (102, .ireturn, 1)]
theorem yz_X12_shatter_ok : ∀ q ∈ yz_X12_shatter, decode cX12_shatter q.1 = .ok q.2 := by decide +kernel
theorem yd_yX12_shatter : yX12_shatter.cls = RX12 ∧ yX12_shatter.cls ≠ "java/lang/invoke/MethodHandle" ∧ yX12_shatter.cls ≠ "java/lang/invoke/VarHandle" ∧ (parseMethodDescriptor yX12_shatter.desc).map (fun d => d.parameters.length) = some 1 := by decide +kernel
def yz_X12_sheet : List (Nat × (Instr × Nat)) := [(0, .aload_n 0, 1), (1, .iconst 0, 1), (2, .putfield 124, 3), (5, .iload_n 1, 1), (6, .invokestatic 157, 3), (9, .ifCond .eq 21, 3), (12, .iload_n 2, 1), (13, .i2l, 1), (14, .lconst 0, 1), (15, .ldc2_w 153, 3), (18, .invokestatic 133, 3), (21, .ifCond .eq 9, 3), (24, .iload_n 3, 1), (25, .bipush 100, 2), (27, .if_icmp .le 9, 3), (30, .aload_n 0, 1), (31, .iconst (-1), 1), (32, .invokevirtual 141, 3), (35, .ireturn, 1), (36, .aload_n 0, 1), (37, .getfield 26, 3), (40, .iload_n 1, 1), (41, .iload_n 3, 1), (42, .ifCond .ge 7, 3), (45, .iconst (-1), 1), (46, .goto 4, 3), (49, .iload_n 2, 1), (50, .iastore, 1), (51, .aload_n 0, 1), (52, .getfield 29, 3), (55, .iload_n 1, 1), (56, .iload_n 3, 1), (57, .ifCond .ge 7, 3), (60, .iconst 0, 1), (61, .goto 4, 3), (64, .iload_n 3, 1), (65, .iastore, 1), (66, .iconst 0, 1), (67, .istore 4, 2), (69, .iload 4, 2), (71, .bipush 100, 2), (73, .if_icmp .ge 22, 3), (76, .aload_n 0, 1), (77, .getfield 22, 3), (80, .bipush 100, 2), (82, .iload_n 1, 1), (83, .imul, 1), (84, .iload 4, 2), (86, .iadd, 1), (87, .lconst 0, 1), (88, .lastore, 1), (89, .iinc 4 1, 3), (92, .goto (-23), 3), (95, .aload_n 0, 1), (96, .iload_n 3, 1), (97, .ifCond .ge 8, 3), (100, .bipush (-4), 2), (102, .goto 4, 3), (105, .iload_n 3, 1), (106, .invokevirtual 141, 3), (109, .ireturn, 1)]
theorem yz_X12_sheet_ok : ∀ q ∈ yz_X12_sheet, decode cX12_sheet q.1 = .ok q.2 := by decide +kernel
theorem yd_yX12_sheet : yX12_sheet.cls = RX12 ∧ yX12_sheet.cls ≠ "java/lang/invoke/MethodHandle" ∧ yX12_sheet.cls ≠ "java/lang/invoke/VarHandle" ∧ (parseMethodDescriptor yX12_sheet.desc).map (fun d => d.parameters.length) = some 3 := by decide +kernel
def yz_X12_side : List (Nat × (Instr × Nat)) := [(0, .aload_n 0, 1), (1, .iconst 0, 1), (2, .putfield 124, 3), (5, .aload_n 0, 1), (6, .invokevirtual 307, 3), (9, .aload_n 0, 1), (10, .iload_n 1, 1), (11, .invokevirtual 149, 3), (14, .ifCond .eq 10, 3), (17, .aload_n 0, 1), (18, .getfield 288, 3), (21, .ifCond .ne 7, 3), (24, .iconst (-1), 1), (25, .goto 16, 3), (28, .aload_n 0, 1), (29, .iload_n 1, 1), (30, .invokevirtual 310, 3), (33, .ifCond .eq 7, 3), (36, .iconst 1, 1), (37, .goto 4, 3), (40, .iconst 0, 1), (41, .ireturn, 1)]
theorem yz_X12_side_ok : ∀ q ∈ yz_X12_side, decode cX12_side q.1 = .ok q.2 := by decide +kernel
theorem yd_yX12_side : yX12_side.cls = RX12 ∧ yX12_side.cls ≠ "java/lang/invoke/MethodHandle" ∧ yX12_side.cls ≠ "java/lang/invoke/VarHandle" ∧ (parseMethodDescriptor yX12_side.desc).map (fun d => d.parameters.length) = some 1 := by decide +kernel
def yz_X12_status : List (Nat × (Instr × Nat)) := [(0, .aload_n 0, 1), (1, .iconst 0, 1), (2, .putfield 124, 3), (5, .aload_n 0, 1), (6, .getfield 127, 3), (9, .ireturn, 1)]
theorem yz_X12_status_ok : ∀ q ∈ yz_X12_status, decode cX12_status q.1 = .ok q.2 := by decide +kernel
theorem yd_yX12_status : yX12_status.cls = RX12 ∧ yX12_status.cls ≠ "java/lang/invoke/MethodHandle" ∧ yX12_status.cls ≠ "java/lang/invoke/VarHandle" ∧ (parseMethodDescriptor yX12_status.desc).map (fun d => d.parameters.length) = some 0 := by decide +kernel
def yz_X12_step : List (Nat × (Instr × Nat)) := [(0, .aload_n 0, 1), (1, .iconst 0, 1), (2, .putfield 124, 3), (5, .iload_n 1, 1), (6, .i2l, 1), (7, .lconst 0, 1), (8, .aload_n 0, 1), (9, .getfield 376, 3), (12, .i2l, 1), (13, .lconst 1, 1), (14, .lsub, 1), (15, .invokestatic 133, 3), (18, .ifCond .ne 7, 3), (21, .ldc2_w 270, 3), (24, .lreturn, 1), (25, .iload_n 2, 1), (26, .tableswitch 72 0 4 #[34, 42, 50, 58, 65], 34), (60, .aload_n 0, 1), (61, .getfield 63, 3), (64, .iload_n 1, 1), (65, .iaload, 1), (66, .i2l, 1), (67, .lreturn, 1), (68, .aload_n 0, 1), (69, .getfield 66, 3), (72, .iload_n 1, 1), (73, .iaload, 1), (74, .i2l, 1), (75, .lreturn, 1), (76, .aload_n 0, 1), (77, .getfield 69, 3), (80, .iload_n 1, 1), (81, .iaload, 1), (82, .i2l, 1), (83, .lreturn, 1), (84, .aload_n 0, 1), (85, .getfield 72, 3), (88, .iload_n 1, 1), (89, .laload, 1), (90, .lreturn, 1), (91, .aload_n 0, 1), (92, .getfield 75, 3), (95, .iload_n 1, 1), (96, .laload, 1), (97, .lreturn, 1), (98, .ldc2_w 270, 3), (101, .lreturn, 1)]
theorem yz_X12_step_ok : ∀ q ∈ yz_X12_step, decode cX12_step q.1 = .ok q.2 := by decide +kernel
theorem yd_yX12_step : yX12_step.cls = RX12 ∧ yX12_step.cls ≠ "java/lang/invoke/MethodHandle" ∧ yX12_step.cls ≠ "java/lang/invoke/VarHandle" ∧ (parseMethodDescriptor yX12_step.desc).map (fun d => d.parameters.length) = some 2 := by decide +kernel
def yz_X12_strong : List (Nat × (Instr × Nat)) := [(0, .aload_n 0, 1), (1, .iconst 0, 1), (2, .putfield 124, 3), (5, .iload_n 1, 1), (6, .i2l, 1), (7, .lconst 1, 1), (8, .ldc2_w 336, 3), (11, .invokestatic 133, 3), (14, .ifCond .ne 9, 3), (17, .aload_n 0, 1), (18, .iconst (-1), 1), (19, .invokevirtual 141, 3), (22, .ireturn, 1), (23, .aload_n 0, 1), (24, .getfield 130, 3), (27, .ifCond .ne 10, 3), (30, .aload_n 0, 1), (31, .bipush (-6), 2), (33, .invokevirtual 141, 3), (36, .ireturn, 1), (37, .aload_n 0, 1), (38, .iconst 0, 1), (39, .putfield 376, 3), (42, .aload_n 0, 1), (43, .iconst 0, 1), (44, .putfield 78, 3), (47, .aload_n 0, 1), (48, .aload_n 0, 1), (49, .getfield 130, 3), (52, .putfield 366, 3), (55, .iconst 0, 1), (56, .istore_n 2, 1), (57, .iload_n 2, 1), (58, .aload_n 0, 1), (59, .getfield 130, 3), (62, .if_icmp .ge 22, 3), (65, .aload_n 0, 1), (66, .getfield 82, 3), (69, .iload_n 2, 1), (70, .aload_n 0, 1), (71, .getfield 19, 3), (74, .iload_n 2, 1), (75, .iaload, 1), (76, .i2l, 1), (77, .lastore, 1), (78, .iinc 2 1, 3), (81, .goto (-24), 3), (84, .iconst 0, 1), (85, .istore_n 2, 1), (86, .iload_n 2, 1), (87, .iload_n 1, 1), (88, .if_icmp .ge 180, 3), (91, .aload_n 0, 1), (92, .getfield 78, 3), (95, .ifCond .ne 173, 3), (98, .aload_n 0, 1), (99, .invokevirtual 384, 3), (102, .aload_n 0, 1), (103, .getfield 72, 3), (106, .aload_n 0, 1), (107, .getfield 376, 3), (110, .laload, 1), (111, .lconst 0, 1), (112, .lcmp, 1), (113, .ifCond .ne 83, 3), (116, .aload_n 0, 1), (117, .getfield 63, 3), (120, .iconst 0, 1), (121, .aload_n 0, 1), (122, .getfield 63, 3), (125, .aload_n 0, 1), (126, .getfield 376, 3), (129, .iaload, 1), (130, .iastore, 1), (131, .aload_n 0, 1), (132, .getfield 66, 3), (135, .iconst 0, 1), (136, .aload_n 0, 1), (137, .getfield 66, 3), (140, .aload_n 0, 1), (141, .getfield 376, 3), (144, .iaload, 1), (145, .iastore, 1), (146, .aload_n 0, 1), (147, .getfield 69, 3), (150, .iconst 0, 1), (151, .aload_n 0, 1), (152, .getfield 69, 3), (155, .aload_n 0, 1), (156, .getfield 376, 3), (159, .iaload, 1), (160, .iastore, 1), (161, .aload_n 0, 1), (162, .getfield 72, 3), (165, .iconst 0, 1), (166, .lconst 0, 1), (167, .lastore, 1), (168, .aload_n 0, 1), (169, .getfield 75, 3), (172, .iconst 0, 1), (173, .aload_n 0, 1), (174, .getfield 75, 3), (177, .aload_n 0, 1), (178, .getfield 376, 3), (181, .laload, 1), (182, .lastore, 1), (183, .aload_n 0, 1), (184, .iconst 1, 1), (185, .putfield 376, 3), (188, .aload_n 0, 1), (189, .iconst 1, 1), (190, .putfield 78, 3), (193, .goto 69, 3), (196, .ldc2_w 168, 3), (199, .aload_n 0, 1), (200, .getfield 72, 3), (203, .aload_n 0, 1), (204, .getfield 376, 3), (207, .laload, 1), (208, .lmul, 1), (209, .aload_n 0, 1), (210, .getfield 75, 3), (213, .aload_n 0, 1), (214, .getfield 376, 3), (217, .laload, 1), (218, .lcmp, 1), (219, .ifCond .lt 11, 3), (222, .aload_n 0, 1), (223, .iconst 2, 1), (224, .putfield 78, 3), (227, .goto 35, 3), (230, .aload_n 0, 1), (231, .dup, 1), (232, .getfield 376, 3), (235, .iconst 1, 1), (236, .iadd, 1), (237, .putfield 376, 3), (240, .aload_n 0, 1), (241, .aload_n 0, 1), (242, .aload_n 0, 1), (243, .getfield 376, 3), (246, .iconst 1, 1), (247, .isub, 1), (248, .invokevirtual 387, 3), (251, .ifCond .eq 7, 3), (254, .iconst 0, 1), (255, .goto 4, 3), (258, .iconst 3, 1), (259, .putfield 78, 3), (262, .iinc 2 1, 3), (265, .goto (-179), 3), (268, .aload_n 0, 1), (269, .aload_n 0, 1), (270, .getfield 376, 3), (273, .invokevirtual 141, 3), (276, .ireturn, 1)]
theorem yz_X12_strong_ok : ∀ q ∈ yz_X12_strong, decode cX12_strong q.1 = .ok q.2 := by decide +kernel
theorem yd_yX12_strong : yX12_strong.cls = RX12 ∧ yX12_strong.cls ≠ "java/lang/invoke/MethodHandle" ∧ yX12_strong.cls ≠ "java/lang/invoke/VarHandle" ∧ (parseMethodDescriptor yX12_strong.desc).map (fun d => d.parameters.length) = some 1 := by decide +kernel
def yz_X12_take : List (Nat × (Instr × Nat)) := [(0, .aload_n 0, 1), (1, .iconst 0, 1), (2, .putfield 124, 3), (5, .iload_n 1, 1), (6, .invokestatic 157, 3), (9, .ifCond .eq 26, 3), (12, .iload 4, 2), (14, .i2l, 1), (15, .lconst 0, 1), (16, .lconst 1, 1), (17, .invokestatic 133, 3), (20, .ifCond .eq 15, 3), (23, .iload_n 3, 1), (24, .i2l, 1), (25, .lconst 1, 1), (26, .ldc2_w 166, 3), (29, .invokestatic 133, 3), (32, .ifCond .ne 9, 3), (35, .aload_n 0, 1), (36, .iconst (-1), 1), (37, .invokevirtual 141, 3), (40, .ireturn, 1), (41, .aload_n 0, 1), (42, .getfield 26, 3), (45, .iload_n 1, 1), (46, .iaload, 1), (47, .ifCond .ge 10, 3), (50, .aload_n 0, 1), (51, .bipush (-2), 2), (53, .invokevirtual 141, 3), (56, .ireturn, 1), (57, .iload_n 2, 1), (58, .i2l, 1), (59, .ldc2_w 168, 3), (62, .iload_n 3, 1), (63, .i2l, 1), (64, .lconst 1, 1), (65, .lsub, 1), (66, .lmul, 1), (67, .ladd, 1), (68, .lstore 5, 2), (70, .iload_n 2, 1), (71, .ifCond .lt 16, 3), (74, .lload 5, 2), (76, .aload_n 0, 1), (77, .getfield 29, 3), (80, .iload_n 1, 1), (81, .iaload, 1), (82, .i2l, 1), (83, .lcmp, 1), (84, .ifCond .lt 10, 3), (87, .aload_n 0, 1), (88, .bipush (-3), 2), (90, .invokevirtual 141, 3), (93, .ireturn, 1), (94, .iconst 1, 1), (95, .istore 7, 2), (97, .iconst 0, 1), (98, .istore 8, 2), (100, .iload 8, 2), (102, .iconst 2, 1), (103, .iload_n 3, 1), (104, .imul, 1), (105, .if_icmp .ge 62, 3), (108, .iload_n 2, 1), (109, .iload 8, 2), (111, .iadd, 1), (112, .istore 9, 2), (114, .iload 7, 2), (116, .ifCond .eq 42, 3), (119, .iload 9, 2), (121, .aload_n 0, 1), (122, .getfield 29, 3), (125, .iload_n 1, 1), (126, .iaload, 1), (127, .if_icmp .ge 27, 3), (130, .aload_n 0, 1), (131, .getfield 22, 3), (134, .bipush 100, 2), (136, .iload_n 1, 1), (137, .imul, 1), (138, .iload 9, 2), (140, .iadd, 1), (141, .laload, 1), (142, .ldc2_w 137, 3), (145, .ldc2_w 139, 3), (148, .invokestatic 133, 3), (151, .ifCond .eq 7, 3), (154, .iconst 1, 1), (155, .goto 4, 3), (158, .iconst 0, 1), (159, .istore 7, 2), (161, .iinc 8 1, 3), (164, .goto (-64), 3), (167, .iload 7, 2), (169, .ifCond .ne 9, 3), (172, .aload_n 0, 1), (173, .iconst (-1), 1), (174, .invokevirtual 141, 3), (177, .ireturn, 1), (178, .aload_n 0, 1), (179, .getfield 130, 3), (182, .iload_n 3, 1), (183, .iadd, 1), (184, .bipush 40, 2), (186, .if_icmp .le 10, 3), (189, .aload_n 0, 1), (190, .bipush (-5), 2), (192, .invokevirtual 141, 3), (195, .ireturn, 1), (196, .iconst 0, 1), (197, .istore 8, 2), (199, .iload 8, 2), (201, .iload_n 3, 1), (202, .if_icmp .ge 68, 3), (205, .iload_n 2, 1), (206, .iconst 2, 1), (207, .iload 8, 2), (209, .imul, 1), (210, .iadd, 1), (211, .istore 9, 2), (213, .aload_n 0, 1), (214, .aload_n 0, 1), (215, .getfield 22, 3), (218, .bipush 100, 2), (220, .iload_n 1, 1), (221, .imul, 1), (222, .iload 9, 2), (224, .iadd, 1), (225, .laload, 1), (226, .l2i, 1), (227, .iload 9, 2), (229, .iconst 1, 1), (230, .iadd, 1), (231, .aload_n 0, 1), (232, .getfield 29, 3), (235, .iload_n 1, 1), (236, .iaload, 1), (237, .if_icmp .ge 21, 3), (240, .aload_n 0, 1), (241, .getfield 22, 3), (244, .bipush 100, 2), (246, .iload_n 1, 1), (247, .imul, 1), (248, .iload 9, 2), (250, .iadd, 1), (251, .iconst 1, 1), (252, .iadd, 1), (253, .laload, 1), (254, .l2i, 1), (255, .goto 4, 3), (258, .iconst 0, 1), (259, .iload 4, 2), (261, .invokevirtual 145, 3), (264, .iinc 8 1, 3), (267, .goto (-68), 3), (270, .aload_n 0, 1), (271, .aload_n 0, 1), (272, .getfield 130, 3), (275, .invokevirtual 141, 3), (278, .ireturn, 1)]
theorem yz_X12_take_ok : ∀ q ∈ yz_X12_take, decode cX12_take q.1 = .ok q.2 := by decide +kernel
theorem yd_yX12_take : yX12_take.cls = RX12 ∧ yX12_take.cls ≠ "java/lang/invoke/MethodHandle" ∧ yX12_take.cls ≠ "java/lang/invoke/VarHandle" ∧ (parseMethodDescriptor yX12_take.desc).map (fun d => d.parameters.length) = some 4 := by decide +kernel
def yz_X12_told : List (Nat × (Instr × Nat)) := [(0, .aload_n 0, 1), (1, .iload_n 1, 1), (2, .ifCond .ge 7, 3), (5, .iload_n 1, 1), (6, .goto 4, 3), (9, .iconst 0, 1), (10, .putfield 127, 3), (13, .iload_n 1, 1), (14, .ireturn, 1)]
theorem yz_X12_told_ok : ∀ q ∈ yz_X12_told, decode cX12_told q.1 = .ok q.2 := by decide +kernel
theorem yd_yX12_told : yX12_told.cls = RX12 ∧ yX12_told.cls ≠ "java/lang/invoke/MethodHandle" ∧ yX12_told.cls ≠ "java/lang/invoke/VarHandle" ∧ (parseMethodDescriptor yX12_told.desc).map (fun d => d.parameters.length) = some 1 := by decide +kernel
def yz_X12_vote : List (Nat × (Instr × Nat)) := [(0, .aload_n 0, 1), (1, .iconst 0, 1), (2, .putfield 124, 3), (5, .aload_n 0, 1), (6, .getfield 376, 3), (9, .ifCond .ne 5, 3), (12, .iconst 2, 1), (13, .ireturn, 1), (14, .aload_n 0, 1), (15, .getfield 78, 3), (18, .iconst 1, 1), (19, .if_icmp .ne 27, 3), (22, .aload_n 0, 1), (23, .getfield 63, 3), (26, .iconst 0, 1), (27, .iaload, 1), (28, .aload_n 0, 1), (29, .getfield 66, 3), (32, .iconst 0, 1), (33, .iaload, 1), (34, .aload_n 0, 1), (35, .getfield 69, 3), (38, .iconst 0, 1), (39, .iaload, 1), (40, .iload_n 1, 1), (41, .iload_n 2, 1), (42, .invokestatic 369, 3), (45, .ireturn, 1), (46, .iconst 0, 1), (47, .istore_n 3, 1), (48, .iload_n 3, 1), (49, .bipush 80, 2), (51, .if_icmp .ge 39, 3), (54, .aload_n 0, 1), (55, .getfield 85, 3), (58, .iload_n 3, 1), (59, .iload_n 3, 1), (60, .ifCond .ne 7, 3), (63, .iconst 1, 1), (64, .goto 4, 3), (67, .iconst 0, 1), (68, .iastore, 1), (69, .aload_n 0, 1), (70, .getfield 88, 3), (73, .iload_n 3, 1), (74, .iload_n 3, 1), (75, .ifCond .ne 7, 3), (78, .iconst 1, 1), (79, .goto 4, 3), (82, .iconst 0, 1), (83, .iastore, 1), (84, .iinc 3 1, 3), (87, .goto (-39), 3), (90, .iconst 0, 1), (91, .istore_n 3, 1), (92, .iload_n 3, 1), (93, .aload_n 0, 1), (94, .getfield 376, 3), (97, .if_icmp .ge 102, 3), (100, .aload_n 0, 1), (101, .getfield 63, 3), (104, .iload_n 3, 1), (105, .iaload, 1), (106, .aload_n 0, 1), (107, .getfield 66, 3), (110, .iload_n 3, 1), (111, .iaload, 1), (112, .aload_n 0, 1), (113, .getfield 69, 3), (116, .iload_n 3, 1), (117, .iaload, 1), (118, .iload_n 1, 1), (119, .iload_n 2, 1), (120, .invokestatic 369, 3), (123, .iconst 1, 1), (124, .if_icmp .ne 7, 3), (127, .iconst 1, 1), (128, .goto 4, 3), (131, .iconst 0, 1), (132, .istore 4, 2), (134, .aload_n 0, 1), (135, .iload 4, 2), (137, .ifCond .eq 10, 3), (140, .aload_n 0, 1), (141, .getfield 85, 3), (144, .goto 7, 3), (147, .aload_n 0, 1), (148, .getfield 88, 3), (151, .aload_n 0, 1), (152, .getfield 75, 3), (155, .iload_n 3, 1), (156, .laload, 1), (157, .aload_n 0, 1), (158, .getfield 72, 3), (161, .iload_n 3, 1), (162, .laload, 1), (163, .lsub, 1), (164, .invokevirtual 392, 3), (167, .aload_n 0, 1), (168, .iload 4, 2), (170, .ifCond .eq 10, 3), (173, .aload_n 0, 1), (174, .getfield 88, 3), (177, .goto 7, 3), (180, .aload_n 0, 1), (181, .getfield 85, 3), (184, .aload_n 0, 1), (185, .getfield 72, 3), (188, .iload_n 3, 1), (189, .laload, 1), (190, .invokevirtual 392, 3), (193, .iinc 3 1, 3), (196, .goto (-104), 3), (199, .bipush 79, 2), (201, .istore_n 3, 1), (202, .iload_n 3, 1), (203, .ifCond .lt 45, 3), (206, .aload_n 0, 1), (207, .getfield 85, 3), (210, .iload_n 3, 1), (211, .iaload, 1), (212, .aload_n 0, 1), (213, .getfield 88, 3), (216, .iload_n 3, 1), (217, .iaload, 1), (218, .if_icmp .eq 24, 3), (221, .aload_n 0, 1), (222, .getfield 85, 3), (225, .iload_n 3, 1), (226, .iaload, 1), (227, .aload_n 0, 1), (228, .getfield 88, 3), (231, .iload_n 3, 1), (232, .iaload, 1), (233, .if_icmp .le 7, 3), (236, .iconst 1, 1), (237, .goto 4, 3), (240, .iconst 0, 1), (241, .ireturn, 1), (242, .iinc 3 (-1), 3), (245, .goto (-43), 3), (248, .iconst 2, 1), (249, .ireturn, 1)]
theorem yz_X12_vote_ok : ∀ q ∈ yz_X12_vote, decode cX12_vote q.1 = .ok q.2 := by decide +kernel
theorem yd_yX12_vote : yX12_vote.cls = RX12 ∧ yX12_vote.cls ≠ "java/lang/invoke/MethodHandle" ∧ yX12_vote.cls ≠ "java/lang/invoke/VarHandle" ∧ (parseMethodDescriptor yX12_vote.desc).map (fun d => d.parameters.length) = some 2 := by decide +kernel
def yz_X12_ways : List (Nat × (Instr × Nat)) := [(0, .aload_n 0, 1), (1, .iconst 0, 1), (2, .putfield 124, 3), (5, .aload_n 0, 1), (6, .iload_n 1, 1), (7, .invokevirtual 338, 3), (10, .ifCond .ne 5, 3), (13, .iconst (-1), 1), (14, .ireturn, 1), (15, .aload_n 0, 1), (16, .iconst 1, 1), (17, .iload_n 1, 1), (18, .ishl, 1), (19, .iconst 1, 1), (20, .isub, 1), (21, .invokevirtual 341, 3), (24, .iconst 0, 1), (25, .istore_n 2, 1), (26, .iconst 0, 1), (27, .istore_n 3, 1), (28, .iload_n 3, 1), (29, .sipush 4096, 3), (32, .if_icmp .ge 26, 3), (35, .iload_n 2, 1), (36, .aload_n 0, 1), (37, .getfield 44, 3), (40, .iload_n 3, 1), (41, .baload, 1), (42, .ifCond .eq 7, 3), (45, .iconst 1, 1), (46, .goto 4, 3), (49, .iconst 0, 1), (50, .iadd, 1), (51, .istore_n 2, 1), (52, .iinc 3 1, 3), (55, .goto (-27), 3), (58, .iload_n 2, 1), (59, .ireturn, 1)]
theorem yz_X12_ways_ok : ∀ q ∈ yz_X12_ways, decode cX12_ways q.1 = .ok q.2 := by decide +kernel
theorem yd_yX12_ways : yX12_ways.cls = RX12 ∧ yX12_ways.cls ≠ "java/lang/invoke/MethodHandle" ∧ yX12_ways.cls ≠ "java/lang/invoke/VarHandle" ∧ (parseMethodDescriptor yX12_ways.desc).map (fun d => d.parameters.length) = some 1 := by decide +kernel
def yz_X12_wide : List (Nat × (Instr × Nat)) := [(0, .aload_n 0, 1), (1, .iconst 0, 1), (2, .putfield 124, 3), (5, .iload_n 1, 1), (6, .i2l, 1), (7, .lconst 0, 1), (8, .ldc2_w 305, 3), (11, .invokestatic 133, 3), (14, .ifCond .ne 7, 3), (17, .ldc2_w 182, 3), (20, .lreturn, 1), (21, .aload_n 0, 1), (22, .invokevirtual 307, 3), (25, .aload_n 0, 1), (26, .getfield 288, 3), (29, .ifCond .ne 7, 3), (32, .ldc2_w 272, 3), (35, .lreturn, 1), (36, .aload_n 0, 1), (37, .getfield 282, 3), (40, .aload_n 0, 1), (41, .getfield 285, 3), (44, .lsub, 1), (45, .aload_n 0, 1), (46, .getfield 282, 3), (49, .aload_n 0, 1), (50, .getfield 285, 3), (53, .lsub, 1), (54, .lmul, 1), (55, .lstore_n 2, 1), (56, .aload_n 0, 1), (57, .getfield 292, 3), (60, .aload_n 0, 1), (61, .getfield 292, 3), (64, .lmul, 1), (65, .aload_n 0, 1), (66, .getfield 295, 3), (69, .aload_n 0, 1), (70, .getfield 295, 3), (73, .lmul, 1), (74, .ladd, 1), (75, .lstore 4, 2), (77, .aload_n 0, 1), (78, .getfield 282, 3), (81, .aload_n 0, 1), (82, .getfield 285, 3), (85, .ladd, 1), (86, .lstore 6, 2), (88, .ldc2_w 168, 3), (91, .aload_n 0, 1), (92, .getfield 292, 3), (95, .lmul, 1), (96, .ldc2_w 168, 3), (99, .aload_n 0, 1), (100, .getfield 295, 3), (103, .lmul, 1), (104, .invokestatic 252, 3), (107, .lload 6, 2), (109, .invokestatic 252, 3), (112, .lstore 8, 2), (114, .iload_n 1, 1), (115, .tableswitch 79 0 4 #[33, 41, 49, 61, 73], 33), (148, .lload_n 2, 1), (149, .lload 4, 2), (151, .iconst 1, 1), (152, .invokestatic 276, 3), (155, .lreturn, 1), (156, .lload_n 2, 1), (157, .lload 4, 2), (159, .iconst 0, 1), (160, .invokestatic 276, 3), (163, .lreturn, 1), (164, .ldc2_w 168, 3), (167, .aload_n 0, 1), (168, .getfield 292, 3), (171, .lmul, 1), (172, .lload 8, 2), (174, .ldiv, 1), (175, .lreturn, 1), (176, .ldc2_w 168, 3), (179, .aload_n 0, 1), (180, .getfield 295, 3), (183, .lmul, 1), (184, .lload 8, 2), (186, .ldiv, 1), (187, .lreturn, 1), (188, .lload 6, 2), (190, .lload 8, 2), (192, .ldiv, 1), (193, .lreturn, 1), (194, .iconst 0, 1), (195, .istore 10, 2), (197, .iconst 0, 1), (198, .istore 11, 2), (200, .iload 11, 2), (202, .aload_n 0, 1), (203, .getfield 130, 3), (206, .if_icmp .ge 28, 3), (209, .iload 10, 2), (211, .aload_n 0, 1), (212, .iload 11, 2), (214, .invokevirtual 310, 3), (217, .ifCond .eq 7, 3), (220, .iconst 1, 1), (221, .goto 4, 3), (224, .iconst 0, 1), (225, .iadd, 1), (226, .istore 10, 2), (228, .iinc 11 1, 3), (231, .goto (-31), 3), (234, .iload 10, 2), (236, .i2l, 1), (237, .lreturn, 1)]
theorem yz_X12_wide_ok : ∀ q ∈ yz_X12_wide, decode cX12_wide q.1 = .ok q.2 := by decide +kernel
theorem yd_yX12_wide : yX12_wide.cls = RX12 ∧ yX12_wide.cls ≠ "java/lang/invoke/MethodHandle" ∧ yX12_wide.cls ≠ "java/lang/invoke/VarHandle" ∧ (parseMethodDescriptor yX12_wide.desc).map (fun d => d.parameters.length) = some 1 := by decide +kernel
def yz_X12_write : List (Nat × (Instr × Nat)) := [(0, .aload_n 0, 1), (1, .iconst 0, 1), (2, .putfield 124, 3), (5, .iload_n 1, 1), (6, .invokestatic 157, 3), (9, .ifCond .ne 9, 3), (12, .aload_n 0, 1), (13, .iconst (-1), 1), (14, .invokevirtual 141, 3), (17, .ireturn, 1), (18, .aload_n 0, 1), (19, .getfield 26, 3), (22, .iload_n 1, 1), (23, .iaload, 1), (24, .ifCond .ge 10, 3), (27, .aload_n 0, 1), (28, .bipush (-2), 2), (30, .invokevirtual 141, 3), (33, .ireturn, 1), (34, .iload_n 2, 1), (35, .i2l, 1), (36, .lconst 0, 1), (37, .aload_n 0, 1), (38, .getfield 29, 3), (41, .iload_n 1, 1), (42, .iaload, 1), (43, .i2l, 1), (44, .lconst 1, 1), (45, .lsub, 1), (46, .invokestatic 133, 3), (49, .ifCond .ne 10, 3), (52, .aload_n 0, 1), (53, .bipush (-3), 2), (55, .invokevirtual 141, 3), (58, .ireturn, 1), (59, .aload_n 0, 1), (60, .getfield 22, 3), (63, .bipush 100, 2), (65, .iload_n 1, 1), (66, .imul, 1), (67, .iload_n 2, 1), (68, .iadd, 1), (69, .aload_n 0, 1), (70, .getfield 26, 3), (73, .iload_n 1, 1), (74, .iaload, 1), (75, .lload_n 3, 1), (76, .invokestatic 160, 3), (79, .lastore, 1), (80, .aload_n 0, 1), (81, .iconst 0, 1), (82, .invokevirtual 141, 3), (85, .ireturn, 1)]
theorem yz_X12_write_ok : ∀ q ∈ yz_X12_write, decode cX12_write q.1 = .ok q.2 := by decide +kernel
theorem yd_yX12_write : yX12_write.cls = RX12 ∧ yX12_write.cls ≠ "java/lang/invoke/MethodHandle" ∧ yX12_write.cls ≠ "java/lang/invoke/VarHandle" ∧ (parseMethodDescriptor yX12_write.desc).map (fun d => d.parameters.length) = some 3 := by decide +kernel
def yz_J6_bitCount_0f7a4 : List (Nat × (Instr × Nat)) := [(0, .iload_n 0, 1), (1, .iload_n 0, 1), (2, .iconst 1, 1), (3, .iushr, 1), (4, .ldc_w 265, 3), (7, .iand, 1), (8, .isub, 1), (9, .istore_n 0, 1), (10, .iload_n 0, 1), (11, .ldc_w 266, 3), (14, .iand, 1), (15, .iload_n 0, 1), (16, .iconst 2, 1), (17, .iushr, 1), (18, .ldc_w 266, 3), (21, .iand, 1), (22, .iadd, 1), (23, .istore_n 0, 1), (24, .iload_n 0, 1), (25, .iload_n 0, 1), (26, .iconst 4, 1), (27, .iushr, 1), (28, .iadd, 1), (29, .ldc_w 267, 3), (32, .iand, 1), (33, .istore_n 0, 1), (34, .iload_n 0, 1), (35, .iload_n 0, 1), (36, .bipush 8, 2), (38, .iushr, 1), (39, .iadd, 1), (40, .istore_n 0, 1), (41, .iload_n 0, 1), (42, .iload_n 0, 1), (43, .bipush 16, 2), (45, .iushr, 1), (46, .iadd, 1), (47, .istore_n 0, 1), (48, .iload_n 0, 1), (49, .bipush 63, 2), (51, .iand, 1), (52, .ireturn, 1)]
theorem yz_J6_bitCount_0f7a4_ok : ∀ q ∈ yz_J6_bitCount_0f7a4, decode cJ6_bitCount_0f7a4 q.1 = .ok q.2 := by decide +kernel
theorem yd_yJ6_bitCount_0f7a4 : yJ6_bitCount_0f7a4.cls ≠ "java/lang/invoke/MethodHandle" ∧ yJ6_bitCount_0f7a4.cls ≠ "java/lang/invoke/VarHandle" ∧ (parseMethodDescriptor yJ6_bitCount_0f7a4.desc).map (fun d => d.parameters.length) = some 1 := by decide +kernel
def yz_J13_bitCount_95d88 : List (Nat × (Instr × Nat)) := [(0, .lload_n 0, 1), (1, .lload_n 0, 1), (2, .iconst 1, 1), (3, .lushr, 1), (4, .ldc2_w 314, 3), (7, .land, 1), (8, .lsub, 1), (9, .lstore_n 0, 1), (10, .lload_n 0, 1), (11, .ldc2_w 316, 3), (14, .land, 1), (15, .lload_n 0, 1), (16, .iconst 2, 1), (17, .lushr, 1), (18, .ldc2_w 316, 3), (21, .land, 1), (22, .ladd, 1), (23, .lstore_n 0, 1), (24, .lload_n 0, 1), (25, .lload_n 0, 1), (26, .iconst 4, 1), (27, .lushr, 1), (28, .ladd, 1), (29, .ldc2_w 318, 3), (32, .land, 1), (33, .lstore_n 0, 1), (34, .lload_n 0, 1), (35, .lload_n 0, 1), (36, .bipush 8, 2), (38, .lushr, 1), (39, .ladd, 1), (40, .lstore_n 0, 1), (41, .lload_n 0, 1), (42, .lload_n 0, 1), (43, .bipush 16, 2), (45, .lushr, 1), (46, .ladd, 1), (47, .lstore_n 0, 1), (48, .lload_n 0, 1), (49, .lload_n 0, 1), (50, .bipush 32, 2), (52, .lushr, 1), (53, .ladd, 1), (54, .lstore_n 0, 1), (55, .lload_n 0, 1), (56, .l2i, 1), (57, .bipush 127, 2), (59, .iand, 1), (60, .ireturn, 1)]
theorem yz_J13_bitCount_95d88_ok : ∀ q ∈ yz_J13_bitCount_95d88, decode cJ13_bitCount_95d88 q.1 = .ok q.2 := by decide +kernel
theorem yd_yJ13_bitCount_95d88 : yJ13_bitCount_95d88.cls ≠ "java/lang/invoke/MethodHandle" ∧ yJ13_bitCount_95d88.cls ≠ "java/lang/invoke/VarHandle" ∧ (parseMethodDescriptor yJ13_bitCount_95d88.desc).map (fun d => d.parameters.length) = some 1 := by decide +kernel
def yz_J7_fill_031fb : List (Nat × (Instr × Nat)) := [(0, .iconst 0, 1), (1, .istore_n 2, 1), (2, .aload_n 0, 1), (3, .arraylength, 1), (4, .istore_n 3, 1), (5, .iload_n 2, 1), (6, .iload_n 3, 1), (7, .if_icmp .ge 13, 3), (10, .aload_n 0, 1), (11, .iload_n 2, 1), (12, .iload_n 1, 1), (13, .bastore, 1), (14, .iinc 2 1, 3), (17, .goto (-12), 3), (20, .return_, 1)]
theorem yz_J7_fill_031fb_ok : ∀ q ∈ yz_J7_fill_031fb, decode cJ7_fill_031fb q.1 = .ok q.2 := by decide +kernel
theorem yd_yJ7_fill_031fb : yJ7_fill_031fb.cls ≠ "java/lang/invoke/MethodHandle" ∧ yJ7_fill_031fb.cls ≠ "java/lang/invoke/VarHandle" ∧ (parseMethodDescriptor yJ7_fill_031fb.desc).map (fun d => d.parameters.length) = some 2 := by decide +kernel
def yz_J7_fill_d0a16 : List (Nat × (Instr × Nat)) := [(0, .iconst 0, 1), (1, .istore_n 3, 1), (2, .aload_n 0, 1), (3, .arraylength, 1), (4, .istore 4, 2), (6, .iload_n 3, 1), (7, .iload 4, 2), (9, .if_icmp .ge 13, 3), (12, .aload_n 0, 1), (13, .iload_n 3, 1), (14, .lload_n 1, 1), (15, .lastore, 1), (16, .iinc 3 1, 3), (19, .goto (-13), 3), (22, .return_, 1)]
theorem yz_J7_fill_d0a16_ok : ∀ q ∈ yz_J7_fill_d0a16, decode cJ7_fill_d0a16 q.1 = .ok q.2 := by decide +kernel
theorem yd_yJ7_fill_d0a16 : yJ7_fill_d0a16.cls ≠ "java/lang/invoke/MethodHandle" ∧ yJ7_fill_d0a16.cls ≠ "java/lang/invoke/VarHandle" ∧ (parseMethodDescriptor yJ7_fill_d0a16.desc).map (fun d => d.parameters.length) = some 2 := by decide +kernel
end
section
def xf_0 : ys_F := ((yk_fm 0), yk_rm)
def xk_0 : ys_K := (((yX12_anew, cX12_anew, 1, (some .int)), (0, 0)), ([.inr (some 85)], ([] ++ yk_em, []), xf_0), ([([], [], (xf_0.1, xf_0.2), some (.inl (.inl ([], 0))))], []))
def xq_0 : ys_Q := (yz_X12_anew, (yl_flX12, yl_ciX12, yl_cjX12, yl_cpX12), [])
def xa_0 : ys_CA := []
theorem xc_0 {l : Launch} {D : va_G} {ad : Nat → Nat} {cT : Nat → ClassId} {tys : List (ClassId × FieldType)} (hty : ys_Ty tys cT yk_sh) : ys_Con l D vwCl ad cT yk_sh tys yG xk_0 := ys_method (calls := xa_0) (Z := xq_0) 3000 (by decide +kernel) yz_X12_anew_ok hty (yl_lkX12 _) (fun _ h => absurd h List.not_mem_nil) (by decide +kernel)
def xf_1 : ys_F := ((yk_fm 1), yk_rm)
def xk_1 : ys_K := (((yX12_in, cX12_in, 6, (some .boolean)), (0, 0)), ([.inl (.inr ([(0, 1)], 0)), .inl (.inr ([], 0)), .inl (.inr ([], 2))], ([((-2147483648), 2147483647)] ++ yk_em, []), xf_1), ([([], [([(0, 1)], 0), ([(0, (-1))], 2)], (xf_1.1, xf_1.2), some (.inl (.inl ([], 1)))), ([], [([(0, 1)], (-3))], (xf_1.1, xf_1.2), some (.inl (.inl ([], 0)))), ([], [([(0, (-1))], (-1))], (xf_1.1, xf_1.2), some (.inl (.inl ([], 0))))], []))
def xq_1 : ys_Q := (yz_X12_in, (yl_flX12, yl_ciX12, yl_cjX12, yl_cpX12), [])
def xa_1 : ys_CA := []
theorem xc_1 {l : Launch} {D : va_G} {ad : Nat → Nat} {cT : Nat → ClassId} {tys : List (ClassId × FieldType)} (hty : ys_Ty tys cT yk_sh) : ys_Con l D vwCl ad cT yk_sh tys yG xk_1 := ys_method (calls := xa_1) (Z := xq_1) 3000 (by decide +kernel) yz_X12_in_ok hty (yl_lkX12 _) (fun _ h => absurd h List.not_mem_nil) (by decide +kernel)
def xf_2 : ys_F := ((yk_fm 0), yk_rm)
def xk_2 : ys_K := (((yX12_told, cX12_told, 2, (some .int)), (0, 0)), ([.inr (some 85), .inl (.inl ([], (-1)))], ([] ++ yk_em, []), xf_2), ([([], [], ((ys_fs xf_2.1 [(85, 1, .inl (.inl ([], (-1))))]), xf_2.2), some (.inl (.inl ([], (-1)))))], []))
def xq_2 : ys_Q := (yz_X12_told, (yl_flX12, yl_ciX12, yl_cjX12, yl_cpX12), [])
def xa_2 : ys_CA := []
theorem xc_2 {l : Launch} {D : va_G} {ad : Nat → Nat} {cT : Nat → ClassId} {tys : List (ClassId × FieldType)} (hty : ys_Ty tys cT yk_sh) : ys_Con l D vwCl ad cT yk_sh tys yG xk_2 := ys_method (calls := xa_2) (Z := xq_2) 3000 (by decide +kernel) yz_X12_told_ok hty (yl_lkX12 _) (fun _ h => absurd h List.not_mem_nil) (by decide +kernel)
def xf_3 : ys_F := ((yk_fm 0), yk_rm)
def xk_3 : ys_K := (((yX12_told, cX12_told, 2, (some .int)), (0, 0)), ([.inr (some 85), .inl (.inl ([], (-6)))], ([] ++ yk_em, []), xf_3), ([([], [], ((ys_fs xf_3.1 [(85, 1, .inl (.inl ([], (-6))))]), xf_3.2), some (.inl (.inl ([], (-6)))))], []))
def xq_3 : ys_Q := (yz_X12_told, (yl_flX12, yl_ciX12, yl_cjX12, yl_cpX12), [])
def xa_3 : ys_CA := []
theorem xc_3 {l : Launch} {D : va_G} {ad : Nat → Nat} {cT : Nat → ClassId} {tys : List (ClassId × FieldType)} (hty : ys_Ty tys cT yk_sh) : ys_Con l D vwCl ad cT yk_sh tys yG xk_3 := ys_method (calls := xa_3) (Z := xq_3) 3000 (by decide +kernel) yz_X12_told_ok hty (yl_lkX12 _) (fun _ h => absurd h List.not_mem_nil) (by decide +kernel)
def xf_4 : ys_F := ((yk_fm 1), yk_rm)
def xk_4 : ys_K := (((yX12_back, cX12_back, 3, (some .int)), (1, 25)), ([.inr (some 85), .inl (.inl ([(0, 1)], 0))], ([((-2147483648), 2147483647)] ++ yk_em, []), xf_4), ([([], [([(0, (-1))], (-1))], ((ys_fs xf_4.1 [(85, 1, .inl (.inl ([], (-1))))]), xf_4.2), some (.inl (.inl ([], (-1))))), ([], [([(0, 1)], (-3))], ((ys_fs xf_4.1 [(85, 1, .inl (.inl ([], (-1))))]), xf_4.2), some (.inl (.inl ([], (-1))))), ([], [([(0, 1)], 0), ([(0, (-1))], 2)], ((ys_fs xf_4.1 [(85, 1, .inl (.inl ([], (-6))))]), xf_4.2), some (.inl (.inl ([], (-6)))))], []))
def xq_4 : ys_Q := (yz_X12_back, (yl_flX12, yl_ciX12, yl_cjX12, yl_cpX12), [])
def xa_4 : ys_CA := [((133, true), xk_1), ((141, false), xk_2), ((141, false), xk_3)]
theorem xc_4 {l : Launch} {D : va_G} {ad : Nat → Nat} {cT : Nat → ClassId} {tys : List (ClassId × FieldType)} (hty : ys_Ty tys cT yk_sh) : ys_Con l D vwCl ad cT yk_sh tys yG xk_4 := ys_method (calls := xa_4) (Z := xq_4) 3000 (by decide +kernel) yz_X12_back_ok hty (yl_lkX12 _) (List.forall_mem_cons.mpr ⟨⟨xc_1 hty, yg_CLs yl_wX12_133 yd_yX12_in⟩, List.forall_mem_cons.mpr ⟨⟨xc_2 hty, yg_CLv rfl rfl rfl yl_wX12_141 yd_yX12_told⟩, List.forall_mem_cons.mpr ⟨⟨xc_3 hty, yg_CLv rfl rfl rfl yl_wX12_141 yd_yX12_told⟩, fun _ h => absurd h List.not_mem_nil⟩⟩⟩) (by decide +kernel)
def xf_5 : ys_F := ((yk_fm 1), yk_rm)
def xk_5 : ys_K := (((yX12_in, cX12_in, 6, (some .boolean)), (0, 0)), ([.inl (.inr ([(0, 1)], 0)), .inl (.inr ([], 0)), .inl (.inr ([], 12))], ([((-2147483648), 2147483647)] ++ yk_em, []), xf_5), ([([], [([(0, 1)], 0), ([(0, (-1))], 12)], (xf_5.1, xf_5.2), some (.inl (.inl ([], 1)))), ([], [([(0, 1)], (-13))], (xf_5.1, xf_5.2), some (.inl (.inl ([], 0)))), ([], [([(0, (-1))], (-1))], (xf_5.1, xf_5.2), some (.inl (.inl ([], 0))))], []))
def xq_5 : ys_Q := (yz_X12_in, (yl_flX12, yl_ciX12, yl_cjX12, yl_cpX12), [])
def xa_5 : ys_CA := []
theorem xc_5 {l : Launch} {D : va_G} {ad : Nat → Nat} {cT : Nat → ClassId} {tys : List (ClassId × FieldType)} (hty : ys_Ty tys cT yk_sh) : ys_Con l D vwCl ad cT yk_sh tys yG xk_5 := ys_method (calls := xa_5) (Z := xq_5) 3000 (by decide +kernel) yz_X12_in_ok hty (yl_lkX12 _) (fun _ h => absurd h List.not_mem_nil) (by decide +kernel)
def xf_6 : ys_F := ((yk_fm 1), yk_rm)
def xk_6 : ys_K := (((yX12_isMany, cX12_isMany, 2, (some .boolean)), (1, 25)), ([.inr (some 85), .inl (.inl ([(0, 1)], 0))], ([((-2147483648), 2147483647)] ++ yk_em, []), xf_6), ([([], [([(0, (-1))], (-1))], (xf_6.1, xf_6.2), some (.inl (.inl ([], 0)))), ([], [([(0, 1)], (-13))], (xf_6.1, xf_6.2), some (.inl (.inl ([], 0)))), ([], [([(0, 1)], 0), ([(0, (-1))], 0)], (xf_6.1, xf_6.2), some (.inl (.inl ([], 1)))), ([], [([(0, 1)], (-1)), ([(0, (-1))], 12)], (xf_6.1, xf_6.2), some (.inl (.inl ([], 0))))], []))
def xq_6 : ys_Q := (yz_X12_isMany, (yl_flX12, yl_ciX12, yl_cjX12, yl_cpX12), [])
def xa_6 : ys_CA := [((133, true), xk_5)]
theorem xc_6 {l : Launch} {D : va_G} {ad : Nat → Nat} {cT : Nat → ClassId} {tys : List (ClassId × FieldType)} (hty : ys_Ty tys cT yk_sh) : ys_Con l D vwCl ad cT yk_sh tys yG xk_6 := ys_method (calls := xa_6) (Z := xq_6) 3000 (by decide +kernel) yz_X12_isMany_ok hty (yl_lkX12 _) (List.forall_mem_cons.mpr ⟨⟨xc_5 hty, yg_CLs yl_wX12_133 yd_yX12_in⟩, fun _ h => absurd h List.not_mem_nil⟩) (by decide +kernel)
def xf_7 : ys_F := ((yk_fm 1), yk_rm)
def xk_7 : ys_K := (((yX12_in, cX12_in, 6, (some .boolean)), (0, 0)), ([.inl (.inr ([(0, 1)], 0)), .inl (.inr ([], 0)), .inl (.inr ([], 1))], ([((-2147483648), 2147483647)] ++ yk_em, []), xf_7), ([([], [([(0, 1)], 0), ([(0, (-1))], 1)], (xf_7.1, xf_7.2), some (.inl (.inl ([], 1)))), ([], [([(0, 1)], (-2))], (xf_7.1, xf_7.2), some (.inl (.inl ([], 0)))), ([], [([(0, (-1))], (-1))], (xf_7.1, xf_7.2), some (.inl (.inl ([], 0))))], []))
def xq_7 : ys_Q := (yz_X12_in, (yl_flX12, yl_ciX12, yl_cjX12, yl_cpX12), [])
def xa_7 : ys_CA := []
theorem xc_7 {l : Launch} {D : va_G} {ad : Nat → Nat} {cT : Nat → ClassId} {tys : List (ClassId × FieldType)} (hty : ys_Ty tys cT yk_sh) : ys_Con l D vwCl ad cT yk_sh tys yG xk_7 := ys_method (calls := xa_7) (Z := xq_7) 3000 (by decide +kernel) yz_X12_in_ok hty (yl_lkX12 _) (fun _ h => absurd h List.not_mem_nil) (by decide +kernel)
def xf_8 : ys_F := ((yk_fm 0), yk_rm)
def xk_8 : ys_K := (((yX12_choose, cX12_choose, 3, none), (0, 0)), ([.inr (some 85), .inl (.inl ([], 0))], ([] ++ yk_em, []), xf_8), ([([], [], (xf_8.1, xf_8.2), none)], []))
def xq_8 : ys_Q := (yz_X12_choose, (yl_flX12, yl_ciX12, yl_cjX12, yl_cpX12), [(7, [], [], (xf_8.1, xf_8.2), [(0, .inr (some 85)), (1, .inl (.inl ([], 0))), (2, .inl (.inl ([], 0)))], [], ([], 12)), (7, [], [], (xf_8.1, xf_8.2), [(0, .inr (some 85)), (1, .inl (.inl ([], 0))), (2, .inl (.inl ([], 1)))], [], ([], 11)), (7, [(2, 12)], [], (xf_8.1, xf_8.2), [(0, .inr (some 85)), (1, .inl (.inl ([], 0))), (2, .inl (.inl ([(92, 1)], 0)))], [], ([(92, (-1))], 12))])
def xa_8 : ys_CA := []
theorem xc_8 {l : Launch} {D : va_G} {ad : Nat → Nat} {cT : Nat → ClassId} {tys : List (ClassId × FieldType)} (hty : ys_Ty tys cT yk_sh) : ys_Con l D vwCl ad cT yk_sh tys yG xk_8 := ys_method (calls := xa_8) (Z := xq_8) 3000 (by decide +kernel) yz_X12_choose_ok hty (yl_lkX12 _) (fun _ h => absurd h List.not_mem_nil) (by decide +kernel)
def xf_9 : ys_F := ((yk_fm 0), yk_rm)
def xk_9 : ys_K := (((yX12_findSets, cX12_findSets, 4, none), (1, 22)), ([.inr (some 85), .inl (.inl ([], 0))], ([] ++ yk_em, []), xf_9), ([([], [], (xf_9.1, (ys_rs xf_9.2 [(97, ((0, 0), [(0, (1, 1)), (1, (0, 0))]))])), none)], [97]))
def xq_9 : ys_Q := (yz_X12_findSets, (yl_flX12, yl_ciX12, yl_cjX12, yl_cpX12), [(7, [], [], (xf_9.1, xf_9.2), [(0, .inr (some 85)), (1, .inl (.inl ([], 0))), (2, .inl (.inl ([], 0)))], [], ([], 4102)), (7, [], [], (xf_9.1, (ys_rs xf_9.2 [(97, ((0, 0), [(0, (0, 0))]))])), [(0, .inr (some 85)), (1, .inl (.inl ([], 0))), (2, .inl (.inl ([], 1)))], [], ([], 4101)), (7, [(2, 4096)], [], (xf_9.1, (ys_rs xf_9.2 [(97, ((0, 0), [(0, (0, 0)), (1, (0, 0))]))])), [(0, .inr (some 85)), (1, .inl (.inl ([], 0))), (2, .inl (.inl ([(92, 1)], 0)))], [], ([(92, (-1))], 4102)), (43, [], [], (xf_9.1, (ys_rs xf_9.2 [(97, ((0, 0), [(0, (1, 1)), (1, (0, 0))]))])), [(0, .inr (some 85)), (2, .inl (.inl ([], 0)))], [], ([], 2))])
def xa_9 : ys_CA := [((325, false), xk_8)]
theorem xc_9 {l : Launch} {D : va_G} {ad : Nat → Nat} {cT : Nat → ClassId} {tys : List (ClassId × FieldType)} (hty : ys_Ty tys cT yk_sh) : ys_Con l D vwCl ad cT yk_sh tys yG xk_9 := ys_method (calls := xa_9) (Z := xq_9) 3000 (by decide +kernel) yz_X12_findSets_ok hty (yl_lkX12 _) (List.forall_mem_cons.mpr ⟨⟨xc_8 hty, yg_CLv rfl rfl rfl yl_wX12_325 yd_yX12_choose⟩, fun _ h => absurd h List.not_mem_nil⟩) (by decide +kernel)
def xf_10 : ys_F := ((yk_fm 2), yk_rm)
def xk_10 : ys_K := (((yX12_best, cX12_best, 8, (some .int)), (2, 46)), ([.inr (some 85), .inl (.inl ([(0, 1)], 0)), .inl (.inl ([(1, 1)], 0))], ([((-2147483648), 2147483647), ((-2147483648), 2147483647)] ++ yk_em, []), xf_10), ([([], [([(0, 1)], (-1)), ([(0, (-1))], 12)], (xf_10.1, xf_10.2), some (.inl (.inl ([], (-1))))), ([], [([(0, 1)], 0), ([(0, (-1))], 0), ([(1, (-1))], (-1))], (xf_10.1, xf_10.2), some (.inl (.inl ([], (-1))))), ([], [([(0, 1)], 0), ([(0, (-1))], 0), ([(1, 1)], (-2))], (xf_10.1, xf_10.2), some (.inl (.inl ([], (-1))))), ([], [([(0, 1)], (-13))], (xf_10.1, xf_10.2), some (.inl (.inl ([], (-1))))), ([], [([(0, (-1))], (-1))], (xf_10.1, xf_10.2), some (.inl (.inl ([], (-1))))), ([], [([(0, 1)], 0), ([(0, (-1))], 0), ([(1, 1)], 0), ([(1, (-1))], 0), ([(1, (-1))], 1)], (xf_10.1, (ys_rs xf_10.2 [(97, ((0, 0), [(0, (1, 1)), (1, (0, 0))]))])), some (.inl (.inl ([], 0)))), ([], [([(0, 1)], 0), ([(0, (-1))], 0), ([(1, 1)], (-1)), ([(1, (-1))], 1), ([(1, 1)], 0)], (xf_10.1, (ys_rs xf_10.2 [(97, ((0, 0), [(0, (1, 1)), (1, (0, 0))]))])), some (.inl (.inl ([], 0))))], [97]))
def xq_10 : ys_Q := (yz_X12_best, (yl_flX12, yl_ciX12, yl_cjX12, yl_cpX12), [(44, [], [([(0, 1)], 0), ([(0, (-1))], 0), ([(1, 1)], 0), ([(1, (-1))], 1)], (xf_10.1, (ys_rs xf_10.2 [(97, ((0, 0), [(0, (1, 1)), (1, (0, 0))]))])), [(0, .inr (some 85)), (1, .inl (.inl ([(0, 1)], 0))), (2, .inl (.inl ([(1, 1)], 0))), (3, .inl (.inl ([], 1000000))), (4, .inl (.inl ([], 0))), (5, .inl (.inl ([], 0)))], [], ([], 5)), (58, [], [([(0, 1)], 0), ([(0, (-1))], 0), ([(1, 1)], 0), ([(1, (-1))], 1)], (xf_10.1, (ys_rs xf_10.2 [(97, ((0, 0), [(0, (1, 1)), (1, (0, 0))]))])), [(0, .inr (some 85)), (1, .inl (.inl ([(0, 1)], 0))), (2, .inl (.inl ([(1, 1)], 0))), (3, .inl (.inl ([], 1000000))), (4, .inl (.inl ([], 0))), (5, .inl (.inl ([], 0))), (6, .inl (.inl ([], 0))), (7, .inl (.inl ([], 0)))], [], ([], 3)), (44, [], [([(0, 1)], 0), ([(0, (-1))], 0), ([(1, 1)], 0), ([(1, (-1))], 1)], (xf_10.1, (ys_rs xf_10.2 [(97, ((0, 0), [(0, (1, 1)), (1, (0, 0))]))])), [(0, .inr (some 85)), (1, .inl (.inl ([(0, 1)], 0))), (2, .inl (.inl ([(1, 1)], 0))), (3, .inl (.inl ([], 0))), (4, .inl (.inl ([], 0))), (5, .inl (.inl ([], 1)))], [], ([], 2))])
def xa_10 : ys_CA := [((338, false), xk_6), ((133, true), xk_7), ((341, false), xk_9)]
theorem xc_10 {l : Launch} {D : va_G} {ad : Nat → Nat} {cT : Nat → ClassId} {tys : List (ClassId × FieldType)} (hty : ys_Ty tys cT yk_sh) : ys_Con l D vwCl ad cT yk_sh tys yG xk_10 := ys_method (calls := xa_10) (Z := xq_10) 3000 (by decide +kernel) yz_X12_best_ok hty (yl_lkX12 _) (List.forall_mem_cons.mpr ⟨⟨xc_6 hty, yg_CLv rfl rfl rfl yl_wX12_338 yd_yX12_isMany⟩, List.forall_mem_cons.mpr ⟨⟨xc_7 hty, yg_CLs yl_wX12_133 yd_yX12_in⟩, List.forall_mem_cons.mpr ⟨⟨xc_9 hty, yg_CLv rfl rfl rfl yl_wX12_341 yd_yX12_findSets⟩, fun _ h => absurd h List.not_mem_nil⟩⟩⟩) (by decide +kernel)
def xf_11 : ys_F := ((yk_fm 0), yk_rm)
def xk_11 : ys_K := (((yX12_many, cX12_many, 4, (some .int)), (0, 0)), ([.inr (some 85), .inl (.inl ([], 1))], ([] ++ yk_em, []), xf_11), ([([], [], (xf_11.1, xf_11.2), some (.inl (.inl ([], 0))))], []))
def xq_11 : ys_Q := (yz_X12_many, (yl_flX12, yl_ciX12, yl_cjX12, yl_cpX12), [(4, [], [], (xf_11.1, xf_11.2), [(0, .inr (some 85)), (1, .inl (.inl ([], 1))), (2, .inl (.inl ([], 0))), (3, .inl (.inl ([], 0)))], [], ([], 0))])
def xa_11 : ys_CA := []
theorem xc_11 {l : Launch} {D : va_G} {ad : Nat → Nat} {cT : Nat → ClassId} {tys : List (ClassId × FieldType)} (hty : ys_Ty tys cT yk_sh) : ys_Con l D vwCl ad cT yk_sh tys yG xk_11 := ys_method (calls := xa_11) (Z := xq_11) 3000 (by decide +kernel) yz_X12_many_ok hty (yl_lkX12 _) (fun _ h => absurd h List.not_mem_nil) (by decide +kernel)
def xf_12 : ys_F := ((yk_fm 0), yk_rm)
def xk_12 : ys_K := (((yX12_findSame, cX12_findSame, 3, (some .boolean)), (0, 0)), ([.inr (some 85)], ([] ++ yk_em, []), xf_12), ([([], [], (xf_12.1, xf_12.2), some (.inl (.inl ([], 0))))], []))
def xq_12 : ys_Q := (yz_X12_findSame, (yl_flX12, yl_ciX12, yl_cjX12, yl_cpX12), [(2, [], [], (xf_12.1, xf_12.2), [(0, .inr (some 85)), (1, .inl (.inl ([], 0)))], [], ([], 2))])
def xa_12 : ys_CA := []
theorem xc_12 {l : Launch} {D : va_G} {ad : Nat → Nat} {cT : Nat → ClassId} {tys : List (ClassId × FieldType)} (hty : ys_Ty tys cT yk_sh) : ys_Con l D vwCl ad cT yk_sh tys yG xk_12 := ys_method (calls := xa_12) (Z := xq_12) 3000 (by decide +kernel) yz_X12_findSame_ok hty (yl_lkX12 _) (fun _ h => absurd h List.not_mem_nil) (by decide +kernel)
def xf_13 : ys_F := ((yk_fm 0), yk_rm)
def xk_13 : ys_K := (((yX12_boxes, cX12_boxes, 9, (some .int)), (1, 23)), ([.inr (some 85)], ([] ++ yk_em, []), xf_13), ([([], [], (xf_13.1, (ys_rs xf_13.2 [(114, ((0, 0), [(0, (0, 0))]))])), some (.inl (.inl ([], 0))))], [114]))
def xq_13 : ys_Q := (yz_X12_boxes, (yl_flX12, yl_ciX12, yl_cjX12, yl_cpX12), [(24, [], [], (xf_13.1, xf_13.2), [(0, .inr (some 85)), (1, .inl (.inl ([], 0))), (2, .inl (.inl ([], 0))), (3, .inl (.inl ([], 0)))], [], ([], 8)), (70, [], [], (xf_13.1, xf_13.2), [(0, .inr (some 85)), (1, .inl (.inl ([], 0))), (3, .inl (.inl ([], 1)))], [], ([], 6)), (104, [], [], (xf_13.1, (ys_rs xf_13.2 [(114, ((0, 0), [(0, (0, 0))]))])), [(0, .inr (some 85)), (1, .inl (.inl ([], 0))), (3, .inl (.inl ([], 1)))], [], ([], 2))])
def xa_13 : ys_CA := [((298, false), xk_11), ((236, false), xk_12)]
theorem xc_13 {l : Launch} {D : va_G} {ad : Nat → Nat} {cT : Nat → ClassId} {tys : List (ClassId × FieldType)} (hty : ys_Ty tys cT yk_sh) : ys_Con l D vwCl ad cT yk_sh tys yG xk_13 := ys_method (calls := xa_13) (Z := xq_13) 3000 (by decide +kernel) yz_X12_boxes_ok hty (yl_lkX12 _) (List.forall_mem_cons.mpr ⟨⟨xc_11 hty, yg_CLv rfl rfl rfl yl_wX12_298 yd_yX12_many⟩, List.forall_mem_cons.mpr ⟨⟨xc_12 hty, yg_CLv rfl rfl rfl yl_wX12_236 yd_yX12_findSame⟩, fun _ h => absurd h List.not_mem_nil⟩⟩) (by decide +kernel)
def xf_14 : ys_F := ((yk_fm 1), yk_rm)
def xk_14 : ys_K := (((yX12_in, cX12_in, 6, (some .boolean)), (0, 0)), ([.inl (.inr ([(0, 1)], 0)), .inl (.inr ([], (-1000000))), .inl (.inr ([], 1000000))], ([((-2147483648), 2147483647)] ++ yk_em, []), xf_14), ([([], [([(0, 1)], 1000000), ([(0, (-1))], 1000000)], (xf_14.1, xf_14.2), some (.inl (.inl ([], 1)))), ([], [([(0, 1)], (-1000001))], (xf_14.1, xf_14.2), some (.inl (.inl ([], 0)))), ([], [([(0, (-1))], (-1000001))], (xf_14.1, xf_14.2), some (.inl (.inl ([], 0))))], []))
def xq_14 : ys_Q := (yz_X12_in, (yl_flX12, yl_ciX12, yl_cjX12, yl_cpX12), [])
def xa_14 : ys_CA := []
theorem xc_14 {l : Launch} {D : va_G} {ad : Nat → Nat} {cT : Nat → ClassId} {tys : List (ClassId × FieldType)} (hty : ys_Ty tys cT yk_sh) : ys_Con l D vwCl ad cT yk_sh tys yG xk_14 := ys_method (calls := xa_14) (Z := xq_14) 3000 (by decide +kernel) yz_X12_in_ok hty (yl_lkX12 _) (fun _ h => absurd h List.not_mem_nil) (by decide +kernel)
def xf_15 : ys_F := ((yk_fm 3), yk_rm)
def xk_15 : ys_K := (((yX12_isLine, cX12_isLine, 3, (some .boolean)), (1, 25)), ([.inl (.inl ([(0, 1)], 0)), .inl (.inl ([(1, 1)], 0)), .inl (.inl ([(2, 1)], 0))], ([((-2147483648), 2147483647), ((-2147483648), 2147483647), ((-2147483648), 2147483647)] ++ yk_em, []), xf_15), ([([], [([(0, (-1))], (-1000001))], (xf_15.1, xf_15.2), some (.inl (.inl ([], 0)))), ([], [([(0, 1)], (-1000001))], (xf_15.1, xf_15.2), some (.inl (.inl ([], 0)))), ([], [([(0, 1)], 1000000), ([(0, (-1))], 1000000), ([(1, (-1))], (-1000001))], (xf_15.1, xf_15.2), some (.inl (.inl ([], 0)))), ([], [([(0, 1)], 1000000), ([(0, (-1))], 1000000), ([(1, 1)], (-1000001))], (xf_15.1, xf_15.2), some (.inl (.inl ([], 0)))), ([], [([(0, 1)], 1000000), ([(0, (-1))], 1000000), ([(1, 1)], 1000000), ([(1, (-1))], 1000000), ([(2, (-1))], (-1000001))], (xf_15.1, xf_15.2), some (.inl (.inl ([], 0)))), ([], [([(0, 1)], 1000000), ([(0, (-1))], 1000000), ([(1, 1)], 1000000), ([(1, (-1))], 1000000), ([(2, 1)], (-1000001))], (xf_15.1, xf_15.2), some (.inl (.inl ([], 0)))), ([], [([(0, 1)], 0), ([(0, (-1))], 0), ([(1, 1)], 1000000), ([(1, (-1))], (-1)), ([(2, 1)], 1000000), ([(2, (-1))], 1000000)], (xf_15.1, xf_15.2), some (.inl (.inl ([], 1)))), ([], [([(0, 1)], 0), ([(0, (-1))], 0), ([(1, 1)], (-1)), ([(1, (-1))], 1000000), ([(2, 1)], 1000000), ([(2, (-1))], 1000000)], (xf_15.1, xf_15.2), some (.inl (.inl ([], 1)))), ([], [([(0, 1)], 0), ([(0, (-1))], 0), ([(1, 1)], 0), ([(1, (-1))], 0), ([(2, 1)], 1000000), ([(2, (-1))], 1000000)], (xf_15.1, xf_15.2), some (.inl (.inl ([], 0)))), ([], [([(0, 1)], 1000000), ([(0, (-1))], (-1)), ([(1, 1)], 1000000), ([(1, (-1))], 1000000), ([(2, 1)], 1000000), ([(2, (-1))], 1000000)], (xf_15.1, xf_15.2), some (.inl (.inl ([], 1)))), ([], [([(0, 1)], (-1)), ([(0, (-1))], 1000000), ([(1, 1)], 1000000), ([(1, (-1))], 1000000), ([(2, 1)], 1000000), ([(2, (-1))], 1000000)], (xf_15.1, xf_15.2), some (.inl (.inl ([], 1))))], []))
def xq_15 : ys_Q := (yz_X12_isLine, (yl_flX12, yl_ciX12, yl_cjX12, yl_cpX12), [])
def xa_15 : ys_CA := [((133, true), xk_14)]
theorem xc_15 {l : Launch} {D : va_G} {ad : Nat → Nat} {cT : Nat → ClassId} {tys : List (ClassId × FieldType)} (hty : ys_Ty tys cT yk_sh) : ys_Con l D vwCl ad cT yk_sh tys yG xk_15 := ys_method (calls := xa_15) (Z := xq_15) 3000 (by decide +kernel) yz_X12_isLine_ok hty (yl_lkX12 _) (List.forall_mem_cons.mpr ⟨⟨xc_14 hty, yg_CLs yl_wX12_133 yd_yX12_in⟩, fun _ h => absurd h List.not_mem_nil⟩) (by decide +kernel)
def xf_16 : ys_F := ((yk_fm 3), yk_rm)
def xk_16 : ys_K := (((yX12_check, cX12_check, 6, (some .int)), (2, 47)), ([.inr (some 85), .inl (.inl ([(0, 1)], 0)), .inl (.inl ([(1, 1)], 0)), .inl (.inl ([(2, 1)], 0))], ([((-2147483648), 2147483647), ((-2147483648), 2147483647), ((-2147483648), 2147483647)] ++ yk_em, []), xf_16), ([([], [([(0, 1)], 0), ([(0, (-1))], 0), ([(1, 1)], 0), ([(1, (-1))], 0), ([(2, 1)], 1000000), ([(2, (-1))], 1000000)], (xf_16.1, xf_16.2), some (.inl (.inl ([], (-1))))), ([], [([(0, 1)], 1000000), ([(0, (-1))], 1000000), ([(1, 1)], 1000000), ([(1, (-1))], 1000000), ([(2, 1)], (-1000001))], (xf_16.1, xf_16.2), some (.inl (.inl ([], (-1))))), ([], [([(0, 1)], 1000000), ([(0, (-1))], 1000000), ([(1, 1)], 1000000), ([(1, (-1))], 1000000), ([(2, (-1))], (-1000001))], (xf_16.1, xf_16.2), some (.inl (.inl ([], (-1))))), ([], [([(0, 1)], 1000000), ([(0, (-1))], 1000000), ([(1, 1)], (-1000001))], (xf_16.1, xf_16.2), some (.inl (.inl ([], (-1))))), ([], [([(0, 1)], 1000000), ([(0, (-1))], 1000000), ([(1, (-1))], (-1000001))], (xf_16.1, xf_16.2), some (.inl (.inl ([], (-1))))), ([], [([(0, 1)], (-1000001))], (xf_16.1, xf_16.2), some (.inl (.inl ([], (-1))))), ([], [([(0, (-1))], (-1000001))], (xf_16.1, xf_16.2), some (.inl (.inl ([], (-1))))), ([], [([(0, 1)], (-1)), ([(0, (-1))], 1000000), ([(1, 1)], 1000000), ([(1, (-1))], 1000000), ([(2, 1)], 1000000), ([(2, (-1))], 1000000)], (xf_16.1, xf_16.2), some (.inl (.inl ([], 0)))), ([], [([(0, 1)], 1000000), ([(0, (-1))], (-1)), ([(1, 1)], 1000000), ([(1, (-1))], 1000000), ([(2, 1)], 1000000), ([(2, (-1))], 1000000)], (xf_16.1, xf_16.2), some (.inl (.inl ([], 0)))), ([], [([(0, 1)], 0), ([(0, (-1))], 0), ([(1, 1)], (-1)), ([(1, (-1))], 1000000), ([(2, 1)], 1000000), ([(2, (-1))], 1000000)], (xf_16.1, xf_16.2), some (.inl (.inl ([], 0)))), ([], [([(0, 1)], 0), ([(0, (-1))], 0), ([(1, 1)], 1000000), ([(1, (-1))], (-1)), ([(2, 1)], 1000000), ([(2, (-1))], 1000000)], (xf_16.1, xf_16.2), some (.inl (.inl ([], 0))))], []))
def xq_16 : ys_Q := (yz_X12_check, (yl_flX12, yl_ciX12, yl_cjX12, yl_cpX12), [(22, [], [([(0, 1)], (-1)), ([(0, (-1))], 1000000), ([(1, 1)], 1000000), ([(1, (-1))], 1000000), ([(2, 1)], 1000000), ([(2, (-1))], 1000000)], (xf_16.1, xf_16.2), [(0, .inr (some 85)), (1, .inl (.inl ([(0, 1)], 0))), (2, .inl (.inl ([(1, 1)], 0))), (3, .inl (.inl ([(2, 1)], 0))), (4, .inl (.inl ([], 0))), (5, .inl (.inl ([], 0)))], [], ([], 0)), (22, [], [([(0, 1)], 1000000), ([(0, (-1))], (-1)), ([(1, 1)], 1000000), ([(1, (-1))], 1000000), ([(2, 1)], 1000000), ([(2, (-1))], 1000000)], (xf_16.1, xf_16.2), [(0, .inr (some 85)), (1, .inl (.inl ([(0, 1)], 0))), (2, .inl (.inl ([(1, 1)], 0))), (3, .inl (.inl ([(2, 1)], 0))), (4, .inl (.inl ([], 0))), (5, .inl (.inl ([], 0)))], [], ([], 0)), (22, [], [([(0, 1)], 0), ([(0, (-1))], 0), ([(1, 1)], (-1)), ([(1, (-1))], 1000000), ([(2, 1)], 1000000), ([(2, (-1))], 1000000)], (xf_16.1, xf_16.2), [(0, .inr (some 85)), (1, .inl (.inl ([(0, 1)], 0))), (2, .inl (.inl ([(1, 1)], 0))), (3, .inl (.inl ([(2, 1)], 0))), (4, .inl (.inl ([], 0))), (5, .inl (.inl ([], 0)))], [], ([], 0)), (22, [], [([(0, 1)], 0), ([(0, (-1))], 0), ([(1, 1)], 1000000), ([(1, (-1))], (-1)), ([(2, 1)], 1000000), ([(2, (-1))], 1000000)], (xf_16.1, xf_16.2), [(0, .inr (some 85)), (1, .inl (.inl ([(0, 1)], 0))), (2, .inl (.inl ([(1, 1)], 0))), (3, .inl (.inl ([(2, 1)], 0))), (4, .inl (.inl ([], 0))), (5, .inl (.inl ([], 0)))], [], ([], 0))])
def xa_16 : ys_CA := [((315, true), xk_15)]
theorem xc_16 {l : Launch} {D : va_G} {ad : Nat → Nat} {cT : Nat → ClassId} {tys : List (ClassId × FieldType)} (hty : ys_Ty tys cT yk_sh) : ys_Con l D vwCl ad cT yk_sh tys yG xk_16 := ys_method (calls := xa_16) (Z := xq_16) 3000 (by decide +kernel) yz_X12_check_ok hty (yl_lkX12 _) (List.forall_mem_cons.mpr ⟨⟨xc_15 hty, yg_CLs yl_wX12_315 yd_yX12_isLine⟩, fun _ h => absurd h List.not_mem_nil⟩) (by decide +kernel)
def xf_17 : ys_F := ((yk_fm 1), yk_rm)
def xk_17 : ys_K := (((yX12_in, cX12_in, 6, (some .boolean)), (0, 0)), ([.inl (.inr ([(0, 1)], 0)), .inl (.inr ([], 0)), .inl (.inr ([], 3))], ([((-2147483648), 2147483647)] ++ yk_em, []), xf_17), ([([], [([(0, 1)], 0), ([(0, (-1))], 3)], (xf_17.1, xf_17.2), some (.inl (.inl ([], 1)))), ([], [([(0, 1)], (-4))], (xf_17.1, xf_17.2), some (.inl (.inl ([], 0)))), ([], [([(0, (-1))], (-1))], (xf_17.1, xf_17.2), some (.inl (.inl ([], 0))))], []))
def xq_17 : ys_Q := (yz_X12_in, (yl_flX12, yl_ciX12, yl_cjX12, yl_cpX12), [])
def xa_17 : ys_CA := []
theorem xc_17 {l : Launch} {D : va_G} {ad : Nat → Nat} {cT : Nat → ClassId} {tys : List (ClassId × FieldType)} (hty : ys_Ty tys cT yk_sh) : ys_Con l D vwCl ad cT yk_sh tys yG xk_17 := ys_method (calls := xa_17) (Z := xq_17) 3000 (by decide +kernel) yz_X12_in_ok hty (yl_lkX12 _) (fun _ h => absurd h List.not_mem_nil) (by decide +kernel)
def xf_18 : ys_F := ((yk_fm 1), yk_rm)
def xk_18 : ys_K := (((yX12_isSheet, cX12_isSheet, 1, (some .boolean)), (1, 25)), ([.inl (.inl ([(0, 1)], 0))], ([((-2147483648), 2147483647)] ++ yk_em, []), xf_18), ([([], [([(0, (-1))], (-1))], (xf_18.1, xf_18.2), some (.inl (.inl ([], 0)))), ([], [([(0, 1)], (-4))], (xf_18.1, xf_18.2), some (.inl (.inl ([], 0)))), ([], [([(0, 1)], 0), ([(0, (-1))], 3)], (xf_18.1, xf_18.2), some (.inl (.inl ([], 1))))], []))
def xq_18 : ys_Q := (yz_X12_isSheet, (yl_flX12, yl_ciX12, yl_cjX12, yl_cpX12), [])
def xa_18 : ys_CA := [((133, true), xk_17)]
theorem xc_18 {l : Launch} {D : va_G} {ad : Nat → Nat} {cT : Nat → ClassId} {tys : List (ClassId × FieldType)} (hty : ys_Ty tys cT yk_sh) : ys_Con l D vwCl ad cT yk_sh tys yG xk_18 := ys_method (calls := xa_18) (Z := xq_18) 3000 (by decide +kernel) yz_X12_isSheet_ok hty (yl_lkX12 _) (List.forall_mem_cons.mpr ⟨⟨xc_17 hty, yg_CLs yl_wX12_133 yd_yX12_in⟩, fun _ h => absurd h List.not_mem_nil⟩) (by decide +kernel)
def xf_19 : ys_F := ((yk_fm 0), yk_rm)
def xk_19 : ys_K := (((yX12_told, cX12_told, 2, (some .int)), (0, 0)), ([.inr (some 85), .inl (.inl ([], (-2)))], ([] ++ yk_em, []), xf_19), ([([], [], ((ys_fs xf_19.1 [(85, 1, .inl (.inl ([], (-2))))]), xf_19.2), some (.inl (.inl ([], (-2)))))], []))
def xq_19 : ys_Q := (yz_X12_told, (yl_flX12, yl_ciX12, yl_cjX12, yl_cpX12), [])
def xa_19 : ys_CA := []
theorem xc_19 {l : Launch} {D : va_G} {ad : Nat → Nat} {cT : Nat → ClassId} {tys : List (ClassId × FieldType)} (hty : ys_Ty tys cT yk_sh) : ys_Con l D vwCl ad cT yk_sh tys yG xk_19 := ys_method (calls := xa_19) (Z := xq_19) 3000 (by decide +kernel) yz_X12_told_ok hty (yl_lkX12 _) (fun _ h => absurd h List.not_mem_nil) (by decide +kernel)
def xf_20 : ys_F := ((yk_fm 5), yk_rm)
def xk_20 : ys_K := (((yX12_copy, cX12_copy, 7, (some .int)), (2, 45)), ([.inr (some 85), .inl (.inl ([(0, 1)], 0)), .inl (.inl ([(1, 1)], 0)), .inl (.inl ([(2, 1)], 0)), .inl (.inl ([(3, 1)], 0)), .inl (.inl ([(4, 1)], 0))], ([((-2147483648), 2147483647), ((-2147483648), 2147483647), ((-2147483648), 2147483647), ((-2147483648), 2147483647), ((-2147483648), 2147483647)] ++ yk_em, []), xf_20), ([([], [([(0, 1)], 0), ([(0, (-1))], 3), ([(2, 1)], 0), ([(2, (-1))], 3), ([(4, (-1))], (-1))], ((ys_fs xf_20.1 [(85, 1, .inl (.inl ([], (-1))))]), xf_20.2), some (.inl (.inl ([], (-1))))), ([], [([(0, 1)], 0), ([(0, (-1))], 0), ([(2, 1)], 0), ([(2, (-1))], 3), ([(4, 1)], 0)], ((ys_fs xf_20.1 [(85, 1, .inl (.inl ([], (-2))))]), xf_20.2), some (.inl (.inl ([], (-2))))), ([], [([(0, 1)], (-1)), ([(0, (-1))], 1), ([(2, 1)], 0), ([(2, (-1))], 3), ([(4, 1)], 0)], ((ys_fs xf_20.1 [(85, 1, .inl (.inl ([], (-2))))]), xf_20.2), some (.inl (.inl ([], (-2))))), ([], [([(0, 1)], (-2)), ([(0, (-1))], 2), ([(2, 1)], 0), ([(2, (-1))], 3), ([(4, 1)], 0)], ((ys_fs xf_20.1 [(85, 1, .inl (.inl ([], (-2))))]), xf_20.2), some (.inl (.inl ([], (-2))))), ([], [([(0, 1)], (-3)), ([(0, (-1))], 3), ([(2, 1)], 0), ([(2, (-1))], 3), ([(4, 1)], 0)], ((ys_fs xf_20.1 [(85, 1, .inl (.inl ([], (-2))))]), xf_20.2), some (.inl (.inl ([], (-2))))), ([], [([(0, 1)], 0), ([(0, (-1))], 3), ([(2, 1)], (-4))], ((ys_fs xf_20.1 [(85, 1, .inl (.inl ([], (-1))))]), xf_20.2), some (.inl (.inl ([], (-1))))), ([], [([(0, 1)], 0), ([(0, (-1))], 3), ([(2, (-1))], (-1))], ((ys_fs xf_20.1 [(85, 1, .inl (.inl ([], (-1))))]), xf_20.2), some (.inl (.inl ([], (-1))))), ([], [([(0, 1)], (-4))], ((ys_fs xf_20.1 [(85, 1, .inl (.inl ([], (-1))))]), xf_20.2), some (.inl (.inl ([], (-1))))), ([], [([(0, (-1))], (-1))], ((ys_fs xf_20.1 [(85, 1, .inl (.inl ([], (-1))))]), xf_20.2), some (.inl (.inl ([], (-1)))))], []))
def xq_20 : ys_Q := (yz_X12_copy, (yl_flX12, yl_ciX12, yl_cjX12, yl_cpX12), [])
def xa_20 : ys_CA := [((157, true), xk_18), ((141, false), xk_2), ((141, false), xk_19)]
theorem xc_20 {l : Launch} {D : va_G} {ad : Nat → Nat} {cT : Nat → ClassId} {tys : List (ClassId × FieldType)} (hty : ys_Ty tys cT yk_sh) : ys_Con l D vwCl ad cT yk_sh tys yG xk_20 := ys_method (calls := xa_20) (Z := xq_20) 3000 (by decide +kernel) yz_X12_copy_ok hty (yl_lkX12 _) (List.forall_mem_cons.mpr ⟨⟨xc_18 hty, yg_CLs yl_wX12_157 yd_yX12_isSheet⟩, List.forall_mem_cons.mpr ⟨⟨xc_2 hty, yg_CLv rfl rfl rfl yl_wX12_141 yd_yX12_told⟩, List.forall_mem_cons.mpr ⟨⟨xc_19 hty, yg_CLv rfl rfl rfl yl_wX12_141 yd_yX12_told⟩, fun _ h => absurd h List.not_mem_nil⟩⟩⟩) (by decide +kernel)
def xf_21 : ys_F := ((yk_fm 0), yk_rm)
def xk_21 : ys_K := (((yX12_many, cX12_many, 4, (some .int)), (0, 0)), ([.inr (some 85), .inl (.inl ([], 0))], ([] ++ yk_em, []), xf_21), ([([], [], (xf_21.1, xf_21.2), some (.inl (.inl ([], 0))))], []))
def xq_21 : ys_Q := (yz_X12_many, (yl_flX12, yl_ciX12, yl_cjX12, yl_cpX12), [(4, [], [], (xf_21.1, xf_21.2), [(0, .inr (some 85)), (1, .inl (.inl ([], 0))), (2, .inl (.inl ([], 0))), (3, .inl (.inl ([], 0)))], [], ([], 0))])
def xa_21 : ys_CA := []
theorem xc_21 {l : Launch} {D : va_G} {ad : Nat → Nat} {cT : Nat → ClassId} {tys : List (ClassId × FieldType)} (hty : ys_Ty tys cT yk_sh) : ys_Con l D vwCl ad cT yk_sh tys yG xk_21 := ys_method (calls := xa_21) (Z := xq_21) 3000 (by decide +kernel) yz_X12_many_ok hty (yl_lkX12 _) (fun _ h => absurd h List.not_mem_nil) (by decide +kernel)
def xf_22 : ys_F := ((yk_fm 1), yk_rm)
def xk_22 : ys_K := (((yX12_count, cX12_count, 4, (some .int)), (1, 23)), ([.inr (some 85), .inl (.inl ([(0, 1)], 0))], ([((-2147483648), 2147483647)] ++ yk_em, []), xf_22), ([([], [([(0, 1)], (-3)), ([(0, (-1))], 3)], (xf_22.1, xf_22.2), some (.inl (.inl ([], 0)))), ([], [([(0, 1)], (-2)), ([(0, (-1))], 2)], (xf_22.1, xf_22.2), some (.inl (.inl ([], 0)))), ([], [([(0, 1)], (-1)), ([(0, (-1))], 1)], (xf_22.1, xf_22.2), some (.inl (.inl ([], 0)))), ([], [([(0, 1)], 0), ([(0, (-1))], 0)], (xf_22.1, xf_22.2), some (.inl (.inl ([], 0)))), ([], [([(0, 1)], (-6))], (xf_22.1, xf_22.2), some (.inl (.inl ([], (-1))))), ([], [([(0, (-1))], (-1))], (xf_22.1, xf_22.2), some (.inl (.inl ([], (-1))))), ([], [([(0, 1)], (-4)), ([(0, (-1))], 4)], (xf_22.1, xf_22.2), some (.inl (.inl ([], 0)))), ([], [([(0, 1)], (-5)), ([(0, (-1))], 5)], (xf_22.1, xf_22.2), some (.inl (.inl ([], 0))))], []))
def xq_22 : ys_Q := (yz_X12_count, (yl_flX12, yl_ciX12, yl_cjX12, yl_cpX12), [(99, [], [([(0, 1)], (-5)), ([(0, (-1))], 5)], (xf_22.1, xf_22.2), [(0, .inr (some 85)), (2, .inl (.inl ([], 0))), (3, .inl (.inl ([], 0)))], [], ([], 4)), (70, [], [([(0, 1)], (-4)), ([(0, (-1))], 4)], (xf_22.1, xf_22.2), [(0, .inr (some 85)), (2, .inl (.inl ([], 0))), (3, .inl (.inl ([], 0)))], [], ([], 6)), (99, [], [([(0, 1)], (-5)), ([(0, (-1))], 5)], (xf_22.1, xf_22.2), [(0, .inr (some 85)), (2, .inl (.inl ([], 0))), (3, .inl (.inl ([], 1)))], [], ([], 3)), (99, [(2, 4)], [([(0, 1)], (-5)), ([(0, (-1))], 5)], (xf_22.1, xf_22.2), [(0, .inr (some 85)), (2, .inl (.inl ([], 0))), (3, .inl (.inl ([(93, 1)], 0)))], [], ([(93, (-1))], 4))])
def xa_22 : ys_CA := [((298, false), xk_21), ((298, false), xk_11)]
theorem xc_22 {l : Launch} {D : va_G} {ad : Nat → Nat} {cT : Nat → ClassId} {tys : List (ClassId × FieldType)} (hty : ys_Ty tys cT yk_sh) : ys_Con l D vwCl ad cT yk_sh tys yG xk_22 := ys_method (calls := xa_22) (Z := xq_22) 3000 (by decide +kernel) yz_X12_count_ok hty (yl_lkX12 _) (List.forall_mem_cons.mpr ⟨⟨xc_21 hty, yg_CLv rfl rfl rfl yl_wX12_298 yd_yX12_many⟩, List.forall_mem_cons.mpr ⟨⟨xc_11 hty, yg_CLv rfl rfl rfl yl_wX12_298 yd_yX12_many⟩, fun _ h => absurd h List.not_mem_nil⟩⟩) (by decide +kernel)
def xf_23 : ys_F := ((yk_fm 1), yk_rm)
def xk_23 : ys_K := (((yX12_in, cX12_in, 6, (some .boolean)), (0, 0)), ([.inl (.inr ([(0, 1)], 0)), .inl (.inr ([], (-1000))), .inl (.inr ([], 1000))], ([((-2147483648), 2147483647)] ++ yk_em, []), xf_23), ([([], [([(0, 1)], 1000), ([(0, (-1))], 1000)], (xf_23.1, xf_23.2), some (.inl (.inl ([], 1)))), ([], [([(0, 1)], (-1001))], (xf_23.1, xf_23.2), some (.inl (.inl ([], 0)))), ([], [([(0, (-1))], (-1001))], (xf_23.1, xf_23.2), some (.inl (.inl ([], 0))))], []))
def xq_23 : ys_Q := (yz_X12_in, (yl_flX12, yl_ciX12, yl_cjX12, yl_cpX12), [])
def xa_23 : ys_CA := []
theorem xc_23 {l : Launch} {D : va_G} {ad : Nat → Nat} {cT : Nat → ClassId} {tys : List (ClassId × FieldType)} (hty : ys_Ty tys cT yk_sh) : ys_Con l D vwCl ad cT yk_sh tys yG xk_23 := ys_method (calls := xa_23) (Z := xq_23) 3000 (by decide +kernel) yz_X12_in_ok hty (yl_lkX12 _) (fun _ h => absurd h List.not_mem_nil) (by decide +kernel)
def xf_24 : ys_F := ((yk_fm 2), yk_rm)
def xk_24 : ys_K := (((yX12_depth, cX12_depth, 23, (some .int)), (1, 25)), ([.inr (some 85), .inl (.inl ([(0, 1)], 0)), .inl (.inl ([(1, 1)], 0))], ([((-2147483648), 2147483647), ((-2147483648), 2147483647)] ++ yk_em, []), xf_24), ([([], [([(0, (-1))], (-1001))], (xf_24.1, xf_24.2), some (.inl (.inl ([], (-1))))), ([], [([(0, 1)], (-1001))], (xf_24.1, xf_24.2), some (.inl (.inl ([], (-1))))), ([], [([(0, 1)], 1000), ([(0, (-1))], 1000), ([(1, (-1))], (-1001))], (xf_24.1, xf_24.2), some (.inl (.inl ([], (-1))))), ([], [([(0, 1)], 1000), ([(0, (-1))], 1000), ([(1, 1)], (-1001))], (xf_24.1, xf_24.2), some (.inl (.inl ([], (-1))))), ([], [([(0, 1)], 1000), ([(0, (-1))], 1000), ([(1, 1)], 1000), ([(1, (-1))], 1000)], (xf_24.1, xf_24.2), some (.inl (.inl ([], 0))))], []))
def xq_24 : ys_Q := (yz_X12_depth, (yl_flX12, yl_ciX12, yl_cjX12, yl_cpX12), [(46, [], [([(0, 1)], 1000), ([(0, (-1))], 1000), ([(1, 1)], 1000), ([(1, (-1))], 1000)], (xf_24.1, xf_24.2), [(0, .inr (some 85)), (1, .inl (.inl ([(0, 1)], 0))), (2, .inl (.inl ([(1, 1)], 0))), (3, .inl (.inl ([], 0))), (4, .inl (.inl ([], 0))), (5, .inl (.inl ([], 0)))], [], ([], 2))])
def xa_24 : ys_CA := [((133, true), xk_23)]
theorem xc_24 {l : Launch} {D : va_G} {ad : Nat → Nat} {cT : Nat → ClassId} {tys : List (ClassId × FieldType)} (hty : ys_Ty tys cT yk_sh) : ys_Con l D vwCl ad cT yk_sh tys yG xk_24 := ys_method (calls := xa_24) (Z := xq_24) 3000 (by decide +kernel) yz_X12_depth_ok hty (yl_lkX12 _) (List.forall_mem_cons.mpr ⟨⟨xc_23 hty, yg_CLs yl_wX12_133 yd_yX12_in⟩, fun _ h => absurd h List.not_mem_nil⟩) (by decide +kernel)
def xf_25 : ys_F := ((yk_fm 0), yk_rm)
def xk_25 : ys_K := (((yX12_dismiss, cX12_dismiss, 2, (some .int)), (0, 0)), ([.inr (some 85)], ([] ++ yk_em, []), xf_25), ([([], [], (xf_25.1, xf_25.2), some (.inl (.inl ([], 0))))], []))
def xq_25 : ys_Q := (yz_X12_dismiss, (yl_flX12, yl_ciX12, yl_cjX12, yl_cpX12), [])
def xa_25 : ys_CA := []
theorem xc_25 {l : Launch} {D : va_G} {ad : Nat → Nat} {cT : Nat → ClassId} {tys : List (ClassId × FieldType)} (hty : ys_Ty tys cT yk_sh) : ys_Con l D vwCl ad cT yk_sh tys yG xk_25 := ys_method (calls := xa_25) (Z := xq_25) 3000 (by decide +kernel) yz_X12_dismiss_ok hty (yl_lkX12 _) (fun _ h => absurd h List.not_mem_nil) (by decide +kernel)
def xf_26 : ys_F := ((yk_fm 1), yk_rm)
def xk_26 : ys_K := (((yX12_in, cX12_in, 6, (some .boolean)), (0, 0)), ([.inl (.inr ([(0, 1)], 0)), .inl (.inr ([], 0)), .inl (.inr ([], (-1)))], ([((-2147483648), 2147483647)] ++ yk_em, []), xf_26), ([([], [([(0, 1)], 0)], (xf_26.1, xf_26.2), some (.inl (.inl ([], 0)))), ([], [([(0, (-1))], (-1))], (xf_26.1, xf_26.2), some (.inl (.inl ([], 0))))], []))
def xq_26 : ys_Q := (yz_X12_in, (yl_flX12, yl_ciX12, yl_cjX12, yl_cpX12), [])
def xa_26 : ys_CA := []
theorem xc_26 {l : Launch} {D : va_G} {ad : Nat → Nat} {cT : Nat → ClassId} {tys : List (ClassId × FieldType)} (hty : ys_Ty tys cT yk_sh) : ys_Con l D vwCl ad cT yk_sh tys yG xk_26 := ys_method (calls := xa_26) (Z := xq_26) 3000 (by decide +kernel) yz_X12_in_ok hty (yl_lkX12 _) (fun _ h => absurd h List.not_mem_nil) (by decide +kernel)
def xf_27 : ys_F := ((yk_fm 1), yk_rm)
def xk_27 : ys_K := (((yX12_isPoint, cX12_isPoint, 2, (some .boolean)), (1, 25)), ([.inr (some 85), .inl (.inl ([(0, 1)], 0))], ([((-2147483648), 2147483647)] ++ yk_em, []), xf_27), ([([], [([(0, (-1))], (-1))], (xf_27.1, xf_27.2), some (.inl (.inl ([], 0)))), ([], [([(0, 1)], 0)], (xf_27.1, xf_27.2), some (.inl (.inl ([], 0))))], []))
def xq_27 : ys_Q := (yz_X12_isPoint, (yl_flX12, yl_ciX12, yl_cjX12, yl_cpX12), [])
def xa_27 : ys_CA := [((133, true), xk_26)]
theorem xc_27 {l : Launch} {D : va_G} {ad : Nat → Nat} {cT : Nat → ClassId} {tys : List (ClassId × FieldType)} (hty : ys_Ty tys cT yk_sh) : ys_Con l D vwCl ad cT yk_sh tys yG xk_27 := ys_method (calls := xa_27) (Z := xq_27) 3000 (by decide +kernel) yz_X12_isPoint_ok hty (yl_lkX12 _) (List.forall_mem_cons.mpr ⟨⟨xc_26 hty, yg_CLs yl_wX12_133 yd_yX12_in⟩, fun _ h => absurd h List.not_mem_nil⟩) (by decide +kernel)
def xf_28 : ys_F := ((yk_fm 1), yk_rm)
def xk_28 : ys_K := (((yX12_drop, cX12_drop, 3, (some .int)), (2, 46)), ([.inr (some 85), .inl (.inl ([(0, 1)], 0))], ([((-2147483648), 2147483647)] ++ yk_em, []), xf_28), ([([], [([(0, 1)], 0)], ((ys_fs xf_28.1 [(85, 1, .inl (.inl ([], (-1))))]), xf_28.2), some (.inl (.inl ([], (-1))))), ([], [([(0, (-1))], (-1))], ((ys_fs xf_28.1 [(85, 1, .inl (.inl ([], (-1))))]), xf_28.2), some (.inl (.inl ([], (-1)))))], []))
def xq_28 : ys_Q := (yz_X12_drop, (yl_flX12, yl_ciX12, yl_cjX12, yl_cpX12), [])
def xa_28 : ys_CA := [((149, false), xk_27), ((141, false), xk_2)]
theorem xc_28 {l : Launch} {D : va_G} {ad : Nat → Nat} {cT : Nat → ClassId} {tys : List (ClassId × FieldType)} (hty : ys_Ty tys cT yk_sh) : ys_Con l D vwCl ad cT yk_sh tys yG xk_28 := ys_method (calls := xa_28) (Z := xq_28) 3000 (by decide +kernel) yz_X12_drop_ok hty (yl_lkX12 _) (List.forall_mem_cons.mpr ⟨⟨xc_27 hty, yg_CLv rfl rfl rfl yl_wX12_149 yd_yX12_isPoint⟩, List.forall_mem_cons.mpr ⟨⟨xc_2 hty, yg_CLv rfl rfl rfl yl_wX12_141 yd_yX12_told⟩, fun _ h => absurd h List.not_mem_nil⟩⟩) (by decide +kernel)
def xf_29 : ys_F := ((yk_fm 0), yk_rm)
def xk_29 : ys_K := (((yX12_end, cX12_end, 1, (some .int)), (0, 0)), ([.inr (some 85)], ([] ++ yk_em, []), xf_29), ([([], [], (xf_29.1, xf_29.2), some (.inl (.inl ([], (-1)))))], []))
def xq_29 : ys_Q := (yz_X12_end, (yl_flX12, yl_ciX12, yl_cjX12, yl_cpX12), [])
def xa_29 : ys_CA := []
theorem xc_29 {l : Launch} {D : va_G} {ad : Nat → Nat} {cT : Nat → ClassId} {tys : List (ClassId × FieldType)} (hty : ys_Ty tys cT yk_sh) : ys_Con l D vwCl ad cT yk_sh tys yG xk_29 := ys_method (calls := xa_29) (Z := xq_29) 3000 (by decide +kernel) yz_X12_end_ok hty (yl_lkX12 _) (fun _ h => absurd h List.not_mem_nil) (by decide +kernel)
def xf_30 : ys_F := ((yk_fm 0), yk_rm)
def xk_30 : ys_K := (((yX12_halve, cX12_halve, 10, (some .int)), (1, 21)), ([.inr (some 85)], ([] ++ yk_em, []), xf_30), ([([], [], ((ys_fs xf_30.1 [(85, 1, .inl (.inl ([], (-6))))]), xf_30.2), some (.inl (.inl ([], (-6)))))], []))
def xq_30 : ys_Q := (yz_X12_halve, (yl_flX12, yl_ciX12, yl_cjX12, yl_cpX12), [])
def xa_30 : ys_CA := [((141, false), xk_3)]
theorem xc_30 {l : Launch} {D : va_G} {ad : Nat → Nat} {cT : Nat → ClassId} {tys : List (ClassId × FieldType)} (hty : ys_Ty tys cT yk_sh) : ys_Con l D vwCl ad cT yk_sh tys yG xk_30 := ys_method (calls := xa_30) (Z := xq_30) 3000 (by decide +kernel) yz_X12_halve_ok hty (yl_lkX12 _) (List.forall_mem_cons.mpr ⟨⟨xc_3 hty, yg_CLv rfl rfl rfl yl_wX12_141 yd_yX12_told⟩, fun _ h => absurd h List.not_mem_nil⟩) (by decide +kernel)
def xf_31 : ys_F := ((yk_fm 0), yk_rm)
def xk_31 : ys_K := (((yX12_halves, cX12_halves, 5, (some .int)), (1, 23)), ([.inr (some 85)], ([] ++ yk_em, []), xf_31), ([([], [], (xf_31.1, xf_31.2), some (.inl (.inl ([], (-6)))))], []))
def xq_31 : ys_Q := (yz_X12_halves, (yl_flX12, yl_ciX12, yl_cjX12, yl_cpX12), [(19, [], [], (xf_31.1, xf_31.2), [(0, .inr (some 85)), (1, .inl (.inl ([], 0))), (2, .inl (.inl ([], 0))), (3, .inl (.inl ([], 0)))], [], ([], 2))])
def xa_31 : ys_CA := [((298, false), xk_21), ((298, false), xk_11)]
theorem xc_31 {l : Launch} {D : va_G} {ad : Nat → Nat} {cT : Nat → ClassId} {tys : List (ClassId × FieldType)} (hty : ys_Ty tys cT yk_sh) : ys_Con l D vwCl ad cT yk_sh tys yG xk_31 := ys_method (calls := xa_31) (Z := xq_31) 3000 (by decide +kernel) yz_X12_halves_ok hty (yl_lkX12 _) (List.forall_mem_cons.mpr ⟨⟨xc_21 hty, yg_CLv rfl rfl rfl yl_wX12_298 yd_yX12_many⟩, List.forall_mem_cons.mpr ⟨⟨xc_11 hty, yg_CLv rfl rfl rfl yl_wX12_298 yd_yX12_many⟩, fun _ h => absurd h List.not_mem_nil⟩⟩) (by decide +kernel)
def xf_32 : ys_F := ((yk_fm 1), yk_rm)
def xk_32 : ys_K := (((yX12_findHull, cX12_findHull, 9, none), (0, 0)), ([.inr (some 85), .inl (.inl ([(0, 1)], 0))], ([(0, 1)] ++ yk_em, []), xf_32), ([([], [], (xf_32.1, xf_32.2), none)], []))
def xq_32 : ys_Q := (yz_X12_findHull, (yl_flX12, yl_ciX12, yl_cjX12, yl_cpX12), [(9, [], [], (xf_32.1, xf_32.2), [(0, .inr (some 85)), (1, .inl (.inl ([(0, 1)], 0))), (2, .inl (.inl ([], (-1)))), (3, .inl (.inl ([], 0)))], [], ([], 6)), (86, [], [], (xf_32.1, xf_32.2), [(0, .inr (some 85)), (1, .inl (.inl ([(0, 1)], 0))), (2, .inl (.inl ([], (-1)))), (3, .inl (.inl ([], (-1))))], [], ([], 2))])
def xa_32 : ys_CA := []
theorem xc_32 {l : Launch} {D : va_G} {ad : Nat → Nat} {cT : Nat → ClassId} {tys : List (ClassId × FieldType)} (hty : ys_Ty tys cT yk_sh) : ys_Con l D vwCl ad cT yk_sh tys yG xk_32 := ys_method (calls := xa_32) (Z := xq_32) 3000 (by decide +kernel) yz_X12_findHull_ok hty (yl_lkX12 _) (fun _ h => absurd h List.not_mem_nil) (by decide +kernel)
def xf_33 : ys_F := ((yk_fm 1), yk_rm)
def xk_33 : ys_K := (((yX12_in, cX12_in, 6, (some .boolean)), (0, 0)), ([.inl (.inr ([(0, 1)], 0)), .inl (.inr ([], 0)), .inl (.inr ([], (-1)))], ([((-2147483648), (-2))] ++ yk_em, []), xf_33), ([([], [], (xf_33.1, xf_33.2), some (.inl (.inl ([], 0))))], []))
def xq_33 : ys_Q := (yz_X12_in, (yl_flX12, yl_ciX12, yl_cjX12, yl_cpX12), [])
def xa_33 : ys_CA := []
theorem xc_33 {l : Launch} {D : va_G} {ad : Nat → Nat} {cT : Nat → ClassId} {tys : List (ClassId × FieldType)} (hty : ys_Ty tys cT yk_sh) : ys_Con l D vwCl ad cT yk_sh tys yG xk_33 := ys_method (calls := xa_33) (Z := xq_33) 3000 (by decide +kernel) yz_X12_in_ok hty (yl_lkX12 _) (fun _ h => absurd h List.not_mem_nil) (by decide +kernel)
def xf_34 : ys_F := ((yk_fm 1), yk_rm)
def xk_34 : ys_K := (((yX12_in, cX12_in, 6, (some .boolean)), (0, 0)), ([.inl (.inr ([(0, 1)], 0)), .inl (.inr ([], 0)), .inl (.inr ([], (-1)))], ([(0, 2147483647)] ++ yk_em, []), xf_34), ([([], [], (xf_34.1, xf_34.2), some (.inl (.inl ([], 0))))], []))
def xq_34 : ys_Q := (yz_X12_in, (yl_flX12, yl_ciX12, yl_cjX12, yl_cpX12), [])
def xa_34 : ys_CA := []
theorem xc_34 {l : Launch} {D : va_G} {ad : Nat → Nat} {cT : Nat → ClassId} {tys : List (ClassId × FieldType)} (hty : ys_Ty tys cT yk_sh) : ys_Con l D vwCl ad cT yk_sh tys yG xk_34 := ys_method (calls := xa_34) (Z := xq_34) 3000 (by decide +kernel) yz_X12_in_ok hty (yl_lkX12 _) (fun _ h => absurd h List.not_mem_nil) (by decide +kernel)
def xf_35 : ys_F := ((yk_fm 2), yk_rm)
def xk_35 : ys_K := (((yX12_hull, cX12_hull, 3, (some .int)), (1, 28)), ([.inr (some 85), .inl (.inl ([(0, 1)], 0)), .inl (.inl ([(1, 1)], 0))], ([((-2147483648), 2147483647), ((-2147483648), 2147483647)] ++ yk_em, []), xf_35), ([([], [([(0, (-1))], (-1))], (xf_35.1, xf_35.2), some (.inl (.inl ([], (-1))))), ([], [([(0, 1)], (-2))], (xf_35.1, xf_35.2), some (.inl (.inl ([], (-1))))), ([], [([(0, 1)], 0), ([(0, (-1))], 1), ([(1, 1)], 1), ([(1, (-1))], (-1))], (xf_35.1, xf_35.2), some (.inl (.inl ([], 0)))), ([], [([(0, 1)], 0), ([(0, (-1))], 1), ([(1, (-1))], (-2))], (xf_35.1, xf_35.2), some (.inl (.inl ([], (-1))))), ([], [([(0, 1)], 0), ([(0, (-1))], 1), ([(1, 1)], 0)], (xf_35.1, xf_35.2), some (.inl (.inl ([], (-1)))))], []))
def xq_35 : ys_Q := (yz_X12_hull, (yl_flX12, yl_ciX12, yl_cjX12, yl_cpX12), [])
def xa_35 : ys_CA := [((133, true), xk_7), ((403, false), xk_32), ((133, true), xk_33), ((133, true), xk_34)]
theorem xc_35 {l : Launch} {D : va_G} {ad : Nat → Nat} {cT : Nat → ClassId} {tys : List (ClassId × FieldType)} (hty : ys_Ty tys cT yk_sh) : ys_Con l D vwCl ad cT yk_sh tys yG xk_35 := ys_method (calls := xa_35) (Z := xq_35) 3000 (by decide +kernel) yz_X12_hull_ok hty (yl_lkX12 _) (List.forall_mem_cons.mpr ⟨⟨xc_7 hty, yg_CLs yl_wX12_133 yd_yX12_in⟩, List.forall_mem_cons.mpr ⟨⟨xc_32 hty, yg_CLv rfl rfl rfl yl_wX12_403 yd_yX12_findHull⟩, List.forall_mem_cons.mpr ⟨⟨xc_33 hty, yg_CLs yl_wX12_133 yd_yX12_in⟩, List.forall_mem_cons.mpr ⟨⟨xc_34 hty, yg_CLs yl_wX12_133 yd_yX12_in⟩, fun _ h => absurd h List.not_mem_nil⟩⟩⟩⟩) (by decide +kernel)
def xf_36 : ys_F := ((yk_fm 0), (ys_rs yk_rm [(116, ((0, 1), []))]))
def xk_36 : ys_K := (((yX12_learnt, cX12_learnt, 2, (some .long)), (0, 0)), ([.inr (some 85), .inl (.inl ([], 0))], ([] ++ yk_em, []), xf_36), ([([], [], (xf_36.1, xf_36.2), some (.inl (.inr ([], 0))))], []))
def xq_36 : ys_Q := (yz_X12_learnt, (yl_flX12, yl_ciX12, yl_cjX12, yl_cpX12), [])
def xa_36 : ys_CA := []
theorem xc_36 {l : Launch} {D : va_G} {ad : Nat → Nat} {cT : Nat → ClassId} {tys : List (ClassId × FieldType)} (hty : ys_Ty tys cT yk_sh) : ys_Con l D vwCl ad cT yk_sh tys yG xk_36 := ys_method (calls := xa_36) (Z := xq_36) 3000 (by decide +kernel) yz_X12_learnt_ok hty (yl_lkX12 _) (fun _ h => absurd h List.not_mem_nil) (by decide +kernel)
def xf_37 : ys_F := ((yk_fm 0), (ys_rs yk_rm [(116, ((0, 1), []))]))
def xk_37 : ys_K := (((yX12_learnt, cX12_learnt, 2, (some .long)), (0, 0)), ([.inr (some 85), .inl (.inl ([], 1))], ([] ++ yk_em, []), xf_37), ([([], [], (xf_37.1, xf_37.2), some (.inl (.inr ([], 0))))], []))
def xq_37 : ys_Q := (yz_X12_learnt, (yl_flX12, yl_ciX12, yl_cjX12, yl_cpX12), [])
def xa_37 : ys_CA := []
theorem xc_37 {l : Launch} {D : va_G} {ad : Nat → Nat} {cT : Nat → ClassId} {tys : List (ClassId × FieldType)} (hty : ys_Ty tys cT yk_sh) : ys_Con l D vwCl ad cT yk_sh tys yG xk_37 := ys_method (calls := xa_37) (Z := xq_37) 3000 (by decide +kernel) yz_X12_learnt_ok hty (yl_lkX12 _) (fun _ h => absurd h List.not_mem_nil) (by decide +kernel)
def xf_38 : ys_F := ((yk_fm 0), (ys_rs yk_rm [(116, ((0, 1), []))]))
def xk_38 : ys_K := (((yX12_learnt, cX12_learnt, 2, (some .long)), (0, 0)), ([.inr (some 85), .inl (.inl ([], 2))], ([] ++ yk_em, []), xf_38), ([([], [], (xf_38.1, xf_38.2), some (.inl (.inr ([], 0))))], []))
def xq_38 : ys_Q := (yz_X12_learnt, (yl_flX12, yl_ciX12, yl_cjX12, yl_cpX12), [])
def xa_38 : ys_CA := []
theorem xc_38 {l : Launch} {D : va_G} {ad : Nat → Nat} {cT : Nat → ClassId} {tys : List (ClassId × FieldType)} (hty : ys_Ty tys cT yk_sh) : ys_Con l D vwCl ad cT yk_sh tys yG xk_38 := ys_method (calls := xa_38) (Z := xq_38) 3000 (by decide +kernel) yz_X12_learnt_ok hty (yl_lkX12 _) (fun _ h => absurd h List.not_mem_nil) (by decide +kernel)
def xf_39 : ys_F := ((yk_fm 1), (ys_rs yk_rm [(116, ((0, 1), []))]))
def xk_39 : ys_K := (((yX12_learnt, cX12_learnt, 2, (some .long)), (0, 0)), ([.inr (some 85), .inl (.inl ([(0, 1)], 0))], ([(2, 3)] ++ yk_em, []), xf_39), ([([], [([(0, 1)], (-3))], (xf_39.1, xf_39.2), some (.inl (.inr ([], 0)))), ([], [([(0, (-1))], 2)], (xf_39.1, xf_39.2), some (.inl (.inr ([], 0))))], []))
def xq_39 : ys_Q := (yz_X12_learnt, (yl_flX12, yl_ciX12, yl_cjX12, yl_cpX12), [])
def xa_39 : ys_CA := []
theorem xc_39 {l : Launch} {D : va_G} {ad : Nat → Nat} {cT : Nat → ClassId} {tys : List (ClassId × FieldType)} (hty : ys_Ty tys cT yk_sh) : ys_Con l D vwCl ad cT yk_sh tys yG xk_39 := ys_method (calls := xa_39) (Z := xq_39) 3000 (by decide +kernel) yz_X12_learnt_ok hty (yl_lkX12 _) (fun _ h => absurd h List.not_mem_nil) (by decide +kernel)
def xf_40 : ys_F := ((yk_fm 1), (ys_rs yk_rm [(116, ((0, 1), []))]))
def xk_40 : ys_K := (((yX12_learnt, cX12_learnt, 2, (some .long)), (0, 0)), ([.inr (some 85), .inl (.inl ([(0, 1)], 0))], ([(2, 4)] ++ yk_em, []), xf_40), ([([], [([(0, 1)], (-4))], (xf_40.1, xf_40.2), some (.inl (.inr ([], 0)))), ([], [([(0, 1)], (-3)), ([(0, (-1))], 3)], (xf_40.1, xf_40.2), some (.inl (.inr ([], 0)))), ([], [([(0, (-1))], 2)], (xf_40.1, xf_40.2), some (.inl (.inr ([], 0))))], []))
def xq_40 : ys_Q := (yz_X12_learnt, (yl_flX12, yl_ciX12, yl_cjX12, yl_cpX12), [])
def xa_40 : ys_CA := []
theorem xc_40 {l : Launch} {D : va_G} {ad : Nat → Nat} {cT : Nat → ClassId} {tys : List (ClassId × FieldType)} (hty : ys_Ty tys cT yk_sh) : ys_Con l D vwCl ad cT yk_sh tys yG xk_40 := ys_method (calls := xa_40) (Z := xq_40) 3000 (by decide +kernel) yz_X12_learnt_ok hty (yl_lkX12 _) (fun _ h => absurd h List.not_mem_nil) (by decide +kernel)
def xf_41 : ys_F := ((yk_fm 0), (ys_rs yk_rm [(116, ((0, 1), []))]))
def xk_41 : ys_K := (((yX12_told, cX12_told, 2, (some .int)), (0, 0)), ([.inr (some 85), .inl (.inl ([], 0))], ([] ++ yk_em, []), xf_41), ([([], [], (xf_41.1, xf_41.2), some (.inl (.inl ([], 0))))], []))
def xq_41 : ys_Q := (yz_X12_told, (yl_flX12, yl_ciX12, yl_cjX12, yl_cpX12), [])
def xa_41 : ys_CA := []
theorem xc_41 {l : Launch} {D : va_G} {ad : Nat → Nat} {cT : Nat → ClassId} {tys : List (ClassId × FieldType)} (hty : ys_Ty tys cT yk_sh) : ys_Con l D vwCl ad cT yk_sh tys yG xk_41 := ys_method (calls := xa_41) (Z := xq_41) 3000 (by decide +kernel) yz_X12_told_ok hty (yl_lkX12 _) (fun _ h => absurd h List.not_mem_nil) (by decide +kernel)
end
section
def xf_42 : ys_F := ((yk_fm 1), yk_rm)
def xk_42 : ys_K := (((yX12_image, cX12_image, 3, (some .int)), (1, 25)), ([.inr (some 85), .inl (.inl ([(0, 1)], 0))], ([((-2147483648), 2147483647)] ++ yk_em, []), xf_42), ([([], [([(0, (-1))], (-1))], ((ys_fs xf_42.1 [(85, 1, .inl (.inl ([], (-1))))]), xf_42.2), some (.inl (.inl ([], (-1))))), ([], [([(0, 1)], (-3))], ((ys_fs xf_42.1 [(85, 1, .inl (.inl ([], (-1))))]), xf_42.2), some (.inl (.inl ([], (-1))))), ([], [([(0, 1)], 0), ([(0, (-1))], 2)], (xf_42.1, (ys_rs xf_42.2 [(116, ((0, 1), []))])), some (.inl (.inl ([], 0))))], [116, 117, 119, 121]))
def xq_42 : ys_Q := (yz_X12_image, (yl_flX12, yl_ciX12, yl_cjX12, yl_cpX12), [(42, [], [([(0, 1)], 0), ([(0, (-1))], 2)], (xf_42.1, (ys_rs xf_42.2 [(116, ((0, 1), []))])), [(0, .inr (some 85)), (1, .inl (.inl ([(0, 1)], 0))), (2, .inl (.inl ([], 0)))], [], ([], 9)), (154, [], [([(0, 1)], 0), ([(0, (-1))], 2)], (xf_42.1, (ys_rs xf_42.2 [(116, ((0, 1), []))])), [(0, .inr (some 85)), (1, .inl (.inl ([(0, 1)], 0))), (2, .inl (.inl ([], 0)))], [], ([], 7)), (231, [], [([(0, 1)], 0), ([(0, (-1))], 2)], (xf_42.1, (ys_rs xf_42.2 [(116, ((0, 1), []))])), [(0, .inr (some 85)), (1, .inl (.inl ([(0, 1)], 0))), (2, .inl (.inl ([], 0)))], [], ([], 5)), (231, [], [([(0, 1)], 0), ([(0, (-1))], 2)], (xf_42.1, (ys_rs xf_42.2 [(116, ((0, 1), []))])), [(0, .inr (some 85)), (1, .inl (.inl ([(0, 1)], 0))), (2, .inl (.inl ([], 1)))], [], ([], 4)), (231, [(2, 5)], [([(0, 1)], 0), ([(0, (-1))], 2)], (xf_42.1, (ys_rs xf_42.2 [(116, ((0, 1), []))])), [(0, .inr (some 85)), (1, .inl (.inl ([(0, 1)], 0))), (2, .inl (.inl ([(93, 1)], 0)))], [], ([(93, (-1))], 5))])
def xa_42 : ys_CA := [((133, true), xk_1), ((141, false), xk_2), ((414, false), xk_36), ((414, false), xk_37), ((414, false), xk_38), ((414, false), xk_39), ((414, false), xk_40), ((141, false), xk_41)]
theorem xc_42 {l : Launch} {D : va_G} {ad : Nat → Nat} {cT : Nat → ClassId} {tys : List (ClassId × FieldType)} (hty : ys_Ty tys cT yk_sh) : ys_Con l D vwCl ad cT yk_sh tys yG xk_42 := ys_method (calls := xa_42) (Z := xq_42) 3000 (by decide +kernel) yz_X12_image_ok hty (yl_lkX12 _) (List.forall_mem_cons.mpr ⟨⟨xc_1 hty, yg_CLs yl_wX12_133 yd_yX12_in⟩, List.forall_mem_cons.mpr ⟨⟨xc_2 hty, yg_CLv rfl rfl rfl yl_wX12_141 yd_yX12_told⟩, List.forall_mem_cons.mpr ⟨⟨xc_36 hty, yg_CLv rfl rfl rfl yl_wX12_414 yd_yX12_learnt⟩, List.forall_mem_cons.mpr ⟨⟨xc_37 hty, yg_CLv rfl rfl rfl yl_wX12_414 yd_yX12_learnt⟩, List.forall_mem_cons.mpr ⟨⟨xc_38 hty, yg_CLv rfl rfl rfl yl_wX12_414 yd_yX12_learnt⟩, List.forall_mem_cons.mpr ⟨⟨xc_39 hty, yg_CLv rfl rfl rfl yl_wX12_414 yd_yX12_learnt⟩, List.forall_mem_cons.mpr ⟨⟨xc_40 hty, yg_CLv rfl rfl rfl yl_wX12_414 yd_yX12_learnt⟩, List.forall_mem_cons.mpr ⟨⟨xc_41 hty, yg_CLv rfl rfl rfl yl_wX12_141 yd_yX12_told⟩, fun _ h => absurd h List.not_mem_nil⟩⟩⟩⟩⟩⟩⟩⟩) (by decide +kernel)
def xf_43 : ys_F := ((yk_fm 1), yk_rm)
def xk_43 : ys_K := (((yX12_in, cX12_in, 6, (some .boolean)), (0, 0)), ([.inl (.inr ([(0, 1)], 0)), .inl (.inr ([], 0)), .inl (.inr ([], 0))], ([((-2147483648), 2147483647)] ++ yk_em, []), xf_43), ([([], [([(0, 1)], 0), ([(0, (-1))], 0)], (xf_43.1, xf_43.2), some (.inl (.inl ([], 1)))), ([], [([(0, 1)], (-1))], (xf_43.1, xf_43.2), some (.inl (.inl ([], 0)))), ([], [([(0, (-1))], (-1))], (xf_43.1, xf_43.2), some (.inl (.inl ([], 0))))], []))
def xq_43 : ys_Q := (yz_X12_in, (yl_flX12, yl_ciX12, yl_cjX12, yl_cpX12), [])
def xa_43 : ys_CA := []
theorem xc_43 {l : Launch} {D : va_G} {ad : Nat → Nat} {cT : Nat → ClassId} {tys : List (ClassId × FieldType)} (hty : ys_Ty tys cT yk_sh) : ys_Con l D vwCl ad cT yk_sh tys yG xk_43 := ys_method (calls := xa_43) (Z := xq_43) 3000 (by decide +kernel) yz_X12_in_ok hty (yl_lkX12 _) (fun _ h => absurd h List.not_mem_nil) (by decide +kernel)
def xf_44 : ys_F := ((yk_fm 2), yk_rm)
def xk_44 : ys_K := (((yX12_isWay, cX12_isWay, 3, (some .int)), (2, 46)), ([.inr (some 85), .inl (.inl ([(0, 1)], 0)), .inl (.inl ([(1, 1)], 0))], ([((-2147483648), 2147483647), ((-2147483648), 2147483647)] ++ yk_em, []), xf_44), ([([], [([(0, 1)], (-1)), ([(0, (-1))], 12)], (xf_44.1, xf_44.2), some (.inl (.inl ([], (-1))))), ([], [([(0, 1)], 0), ([(0, (-1))], 0), ([(1, (-1))], (-1))], (xf_44.1, xf_44.2), some (.inl (.inl ([], (-1))))), ([], [([(0, 1)], 0), ([(0, (-1))], 0), ([(1, 1)], (-1))], (xf_44.1, xf_44.2), some (.inl (.inl ([], (-1))))), ([], [([(0, 1)], 0), ([(0, (-1))], 0), ([(1, 1)], 0), ([(1, (-1))], 0)], (xf_44.1, (ys_rs xf_44.2 [(97, ((0, 0), [(0, (1, 1)), (1, (0, 0))]))])), some (.inl (.inl ([], 1)))), ([], [([(0, 1)], (-13))], (xf_44.1, xf_44.2), some (.inl (.inl ([], (-1))))), ([], [([(0, (-1))], (-1))], (xf_44.1, xf_44.2), some (.inl (.inl ([], (-1)))))], [97]))
def xq_44 : ys_Q := (yz_X12_isWay, (yl_flX12, yl_ciX12, yl_cjX12, yl_cpX12), [])
def xa_44 : ys_CA := [((338, false), xk_6), ((133, true), xk_43), ((341, false), xk_9)]
theorem xc_44 {l : Launch} {D : va_G} {ad : Nat → Nat} {cT : Nat → ClassId} {tys : List (ClassId × FieldType)} (hty : ys_Ty tys cT yk_sh) : ys_Con l D vwCl ad cT yk_sh tys yG xk_44 := ys_method (calls := xa_44) (Z := xq_44) 3000 (by decide +kernel) yz_X12_isWay_ok hty (yl_lkX12 _) (List.forall_mem_cons.mpr ⟨⟨xc_6 hty, yg_CLv rfl rfl rfl yl_wX12_338 yd_yX12_isMany⟩, List.forall_mem_cons.mpr ⟨⟨xc_43 hty, yg_CLs yl_wX12_133 yd_yX12_in⟩, List.forall_mem_cons.mpr ⟨⟨xc_9 hty, yg_CLv rfl rfl rfl yl_wX12_341 yd_yX12_findSets⟩, fun _ h => absurd h List.not_mem_nil⟩⟩⟩) (by decide +kernel)
def xf_45 : ys_F := ((ys_fs (yk_fm 0) [(85, 36, .inl (.inl ([], 1)))]), (ys_rs yk_rm [(100, ((0, 0), [(0, (1, 1000000))])), (101, ((0, 0), [(0, ((-1000000), 1000000))])), (102, ((0, 0), [(0, ((-1000000), 1000000))]))]))
def xk_45 : ys_K := (((yX12_told, cX12_told, 2, (some .int)), (0, 0)), ([.inr (some 85), .inl (.inl ([], 1))], ([] ++ yk_em, []), xf_45), ([([], [], (xf_45.1, xf_45.2), some (.inl (.inl ([], 1))))], []))
def xq_45 : ys_Q := (yz_X12_told, (yl_flX12, yl_ciX12, yl_cjX12, yl_cpX12), [])
def xa_45 : ys_CA := []
theorem xc_45 {l : Launch} {D : va_G} {ad : Nat → Nat} {cT : Nat → ClassId} {tys : List (ClassId × FieldType)} (hty : ys_Ty tys cT yk_sh) : ys_Con l D vwCl ad cT yk_sh tys yG xk_45 := ys_method (calls := xa_45) (Z := xq_45) 3000 (by decide +kernel) yz_X12_told_ok hty (yl_lkX12 _) (fun _ h => absurd h List.not_mem_nil) (by decide +kernel)
def xf_46 : ys_F := ((ys_fs (yk_fm 0) [(85, 36, .inl (.inl ([], 1)))]), (ys_rs yk_rm [(100, ((0, 0), [(0, ((-1000000), (-1)))])), (101, ((0, 0), [(0, ((-1000000), 1000000))])), (102, ((0, 0), [(0, ((-1000000), 1000000))]))]))
def xk_46 : ys_K := (((yX12_told, cX12_told, 2, (some .int)), (0, 0)), ([.inr (some 85), .inl (.inl ([], 1))], ([] ++ yk_em, []), xf_46), ([([], [], (xf_46.1, xf_46.2), some (.inl (.inl ([], 1))))], []))
def xq_46 : ys_Q := (yz_X12_told, (yl_flX12, yl_ciX12, yl_cjX12, yl_cpX12), [])
def xa_46 : ys_CA := []
theorem xc_46 {l : Launch} {D : va_G} {ad : Nat → Nat} {cT : Nat → ClassId} {tys : List (ClassId × FieldType)} (hty : ys_Ty tys cT yk_sh) : ys_Con l D vwCl ad cT yk_sh tys yG xk_46 := ys_method (calls := xa_46) (Z := xq_46) 3000 (by decide +kernel) yz_X12_told_ok hty (yl_lkX12 _) (fun _ h => absurd h List.not_mem_nil) (by decide +kernel)
def xf_47 : ys_F := ((ys_fs (yk_fm 0) [(85, 36, .inl (.inl ([], 1)))]), (ys_rs yk_rm [(100, ((0, 0), [(0, (0, 0))])), (101, ((0, 0), [(0, (1, 1000000))])), (102, ((0, 0), [(0, ((-1000000), 1000000))]))]))
def xk_47 : ys_K := (((yX12_told, cX12_told, 2, (some .int)), (0, 0)), ([.inr (some 85), .inl (.inl ([], 1))], ([] ++ yk_em, []), xf_47), ([([], [], (xf_47.1, xf_47.2), some (.inl (.inl ([], 1))))], []))
def xq_47 : ys_Q := (yz_X12_told, (yl_flX12, yl_ciX12, yl_cjX12, yl_cpX12), [])
def xa_47 : ys_CA := []
theorem xc_47 {l : Launch} {D : va_G} {ad : Nat → Nat} {cT : Nat → ClassId} {tys : List (ClassId × FieldType)} (hty : ys_Ty tys cT yk_sh) : ys_Con l D vwCl ad cT yk_sh tys yG xk_47 := ys_method (calls := xa_47) (Z := xq_47) 3000 (by decide +kernel) yz_X12_told_ok hty (yl_lkX12 _) (fun _ h => absurd h List.not_mem_nil) (by decide +kernel)
def xf_48 : ys_F := ((ys_fs (yk_fm 0) [(85, 36, .inl (.inl ([], 1)))]), (ys_rs yk_rm [(100, ((0, 0), [(0, (0, 0))])), (101, ((0, 0), [(0, ((-1000000), (-1)))])), (102, ((0, 0), [(0, ((-1000000), 1000000))]))]))
def xk_48 : ys_K := (((yX12_told, cX12_told, 2, (some .int)), (0, 0)), ([.inr (some 85), .inl (.inl ([], 1))], ([] ++ yk_em, []), xf_48), ([([], [], (xf_48.1, xf_48.2), some (.inl (.inl ([], 1))))], []))
def xq_48 : ys_Q := (yz_X12_told, (yl_flX12, yl_ciX12, yl_cjX12, yl_cpX12), [])
def xa_48 : ys_CA := []
theorem xc_48 {l : Launch} {D : va_G} {ad : Nat → Nat} {cT : Nat → ClassId} {tys : List (ClassId × FieldType)} (hty : ys_Ty tys cT yk_sh) : ys_Con l D vwCl ad cT yk_sh tys yG xk_48 := ys_method (calls := xa_48) (Z := xq_48) 3000 (by decide +kernel) yz_X12_told_ok hty (yl_lkX12 _) (fun _ h => absurd h List.not_mem_nil) (by decide +kernel)
def xf_49 : ys_F := ((yk_fm 3), yk_rm)
def xk_49 : ys_K := (((yX12_judge, cX12_judge, 4, (some .int)), (2, 47)), ([.inr (some 85), .inl (.inl ([(0, 1)], 0)), .inl (.inl ([(1, 1)], 0)), .inl (.inl ([(2, 1)], 0))], ([((-2147483648), 2147483647), ((-2147483648), 2147483647), ((-2147483648), 2147483647)] ++ yk_em, []), xf_49), ([([], [([(0, 1)], (-1)), ([(0, (-1))], 1000000), ([(1, 1)], 1000000), ([(1, (-1))], 1000000), ([(2, 1)], 1000000), ([(2, (-1))], 1000000)], ((ys_fs xf_49.1 [(85, 36, .inl (.inl ([], 1)))]), (ys_rs xf_49.2 [(100, ((0, 0), [(0, (1, 1000000))])), (101, ((0, 0), [(0, ((-1000000), 1000000))])), (102, ((0, 0), [(0, ((-1000000), 1000000))]))])), some (.inl (.inl ([], 1)))), ([], [([(0, 1)], 1000000), ([(0, (-1))], (-1)), ([(1, 1)], 1000000), ([(1, (-1))], 1000000), ([(2, 1)], 1000000), ([(2, (-1))], 1000000)], ((ys_fs xf_49.1 [(85, 36, .inl (.inl ([], 1)))]), (ys_rs xf_49.2 [(100, ((0, 0), [(0, ((-1000000), (-1)))])), (101, ((0, 0), [(0, ((-1000000), 1000000))])), (102, ((0, 0), [(0, ((-1000000), 1000000))]))])), some (.inl (.inl ([], 1)))), ([], [([(0, 1)], 0), ([(0, (-1))], 0), ([(1, 1)], 0), ([(1, (-1))], 0), ([(2, 1)], 1000000), ([(2, (-1))], 1000000)], ((ys_fs xf_49.1 [(85, 1, .inl (.inl ([], (-1))))]), xf_49.2), some (.inl (.inl ([], (-1))))), ([], [([(0, 1)], 0), ([(0, (-1))], 0), ([(1, 1)], (-1)), ([(1, (-1))], 1000000), ([(2, 1)], 1000000), ([(2, (-1))], 1000000)], ((ys_fs xf_49.1 [(85, 36, .inl (.inl ([], 1)))]), (ys_rs xf_49.2 [(100, ((0, 0), [(0, (0, 0))])), (101, ((0, 0), [(0, (1, 1000000))])), (102, ((0, 0), [(0, ((-1000000), 1000000))]))])), some (.inl (.inl ([], 1)))), ([], [([(0, 1)], 0), ([(0, (-1))], 0), ([(1, 1)], 1000000), ([(1, (-1))], (-1)), ([(2, 1)], 1000000), ([(2, (-1))], 1000000)], ((ys_fs xf_49.1 [(85, 36, .inl (.inl ([], 1)))]), (ys_rs xf_49.2 [(100, ((0, 0), [(0, (0, 0))])), (101, ((0, 0), [(0, ((-1000000), (-1)))])), (102, ((0, 0), [(0, ((-1000000), 1000000))]))])), some (.inl (.inl ([], 1)))), ([], [([(0, 1)], 1000000), ([(0, (-1))], 1000000), ([(1, 1)], 1000000), ([(1, (-1))], 1000000), ([(2, 1)], (-1000001))], ((ys_fs xf_49.1 [(85, 1, .inl (.inl ([], (-1))))]), xf_49.2), some (.inl (.inl ([], (-1))))), ([], [([(0, 1)], 1000000), ([(0, (-1))], 1000000), ([(1, 1)], 1000000), ([(1, (-1))], 1000000), ([(2, (-1))], (-1000001))], ((ys_fs xf_49.1 [(85, 1, .inl (.inl ([], (-1))))]), xf_49.2), some (.inl (.inl ([], (-1))))), ([], [([(0, 1)], 1000000), ([(0, (-1))], 1000000), ([(1, 1)], (-1000001))], ((ys_fs xf_49.1 [(85, 1, .inl (.inl ([], (-1))))]), xf_49.2), some (.inl (.inl ([], (-1))))), ([], [([(0, 1)], 1000000), ([(0, (-1))], 1000000), ([(1, (-1))], (-1000001))], ((ys_fs xf_49.1 [(85, 1, .inl (.inl ([], (-1))))]), xf_49.2), some (.inl (.inl ([], (-1))))), ([], [([(0, 1)], (-1000001))], ((ys_fs xf_49.1 [(85, 1, .inl (.inl ([], (-1))))]), xf_49.2), some (.inl (.inl ([], (-1))))), ([], [([(0, (-1))], (-1000001))], ((ys_fs xf_49.1 [(85, 1, .inl (.inl ([], (-1))))]), xf_49.2), some (.inl (.inl ([], (-1)))))], [100, 101, 102]))
def xq_49 : ys_Q := (yz_X12_judge, (yl_flX12, yl_ciX12, yl_cjX12, yl_cpX12), [])
def xa_49 : ys_CA := [((315, true), xk_15), ((141, false), xk_45), ((141, false), xk_46), ((141, false), xk_2), ((141, false), xk_47), ((141, false), xk_48)]
theorem xc_49 {l : Launch} {D : va_G} {ad : Nat → Nat} {cT : Nat → ClassId} {tys : List (ClassId × FieldType)} (hty : ys_Ty tys cT yk_sh) : ys_Con l D vwCl ad cT yk_sh tys yG xk_49 := ys_method (calls := xa_49) (Z := xq_49) 3000 (by decide +kernel) yz_X12_judge_ok hty (yl_lkX12 _) (List.forall_mem_cons.mpr ⟨⟨xc_15 hty, yg_CLs yl_wX12_315 yd_yX12_isLine⟩, List.forall_mem_cons.mpr ⟨⟨xc_45 hty, yg_CLv rfl rfl rfl yl_wX12_141 yd_yX12_told⟩, List.forall_mem_cons.mpr ⟨⟨xc_46 hty, yg_CLv rfl rfl rfl yl_wX12_141 yd_yX12_told⟩, List.forall_mem_cons.mpr ⟨⟨xc_2 hty, yg_CLv rfl rfl rfl yl_wX12_141 yd_yX12_told⟩, List.forall_mem_cons.mpr ⟨⟨xc_47 hty, yg_CLv rfl rfl rfl yl_wX12_141 yd_yX12_told⟩, List.forall_mem_cons.mpr ⟨⟨xc_48 hty, yg_CLv rfl rfl rfl yl_wX12_141 yd_yX12_told⟩, fun _ h => absurd h List.not_mem_nil⟩⟩⟩⟩⟩⟩) (by decide +kernel)
def xf_50 : ys_F := ((yk_fm 1), yk_rm)
def xk_50 : ys_K := (((yX12_in, cX12_in, 6, (some .boolean)), (0, 0)), ([.inl (.inr ([(0, 1)], 0)), .inl (.inr ([], 0)), .inl (.inr ([], 1000))], ([((-2147483648), 2147483647)] ++ yk_em, []), xf_50), ([([], [([(0, 1)], 0), ([(0, (-1))], 1000)], (xf_50.1, xf_50.2), some (.inl (.inl ([], 1)))), ([], [([(0, 1)], (-1001))], (xf_50.1, xf_50.2), some (.inl (.inl ([], 0)))), ([], [([(0, (-1))], (-1))], (xf_50.1, xf_50.2), some (.inl (.inl ([], 0))))], []))
def xq_50 : ys_Q := (yz_X12_in, (yl_flX12, yl_ciX12, yl_cjX12, yl_cpX12), [])
def xa_50 : ys_CA := []
theorem xc_50 {l : Launch} {D : va_G} {ad : Nat → Nat} {cT : Nat → ClassId} {tys : List (ClassId × FieldType)} (hty : ys_Ty tys cT yk_sh) : ys_Con l D vwCl ad cT yk_sh tys yG xk_50 := ys_method (calls := xa_50) (Z := xq_50) 3000 (by decide +kernel) yz_X12_in_ok hty (yl_lkX12 _) (fun _ h => absurd h List.not_mem_nil) (by decide +kernel)
def xf_51 : ys_F := ((yk_fm 0), yk_rm)
def xk_51 : ys_K := (((yX12_told, cX12_told, 2, (some .int)), (0, 0)), ([.inr (some 85), .inl (.inl ([], 0))], ([] ++ yk_em, []), xf_51), ([([], [], (xf_51.1, xf_51.2), some (.inl (.inl ([], 0))))], []))
def xq_51 : ys_Q := (yz_X12_told, (yl_flX12, yl_ciX12, yl_cjX12, yl_cpX12), [])
def xa_51 : ys_CA := []
theorem xc_51 {l : Launch} {D : va_G} {ad : Nat → Nat} {cT : Nat → ClassId} {tys : List (ClassId × FieldType)} (hty : ys_Ty tys cT yk_sh) : ys_Con l D vwCl ad cT yk_sh tys yG xk_51 := ys_method (calls := xa_51) (Z := xq_51) 3000 (by decide +kernel) yz_X12_told_ok hty (yl_lkX12 _) (fun _ h => absurd h List.not_mem_nil) (by decide +kernel)
def xf_52 : ys_F := ((ys_fs (yk_fm 0) [(85, 32, .inl (.inr ([], 1)))]), yk_rm)
def xk_52 : ys_K := (((yX12_told, cX12_told, 2, (some .int)), (0, 0)), ([.inr (some 85), .inl (.inl ([], 0))], ([] ++ yk_em, []), xf_52), ([([], [], (xf_52.1, xf_52.2), some (.inl (.inl ([], 0))))], []))
def xq_52 : ys_Q := (yz_X12_told, (yl_flX12, yl_ciX12, yl_cjX12, yl_cpX12), [])
def xa_52 : ys_CA := []
theorem xc_52 {l : Launch} {D : va_G} {ad : Nat → Nat} {cT : Nat → ClassId} {tys : List (ClassId × FieldType)} (hty : ys_Ty tys cT yk_sh) : ys_Con l D vwCl ad cT yk_sh tys yG xk_52 := ys_method (calls := xa_52) (Z := xq_52) 3000 (by decide +kernel) yz_X12_told_ok hty (yl_lkX12 _) (fun _ h => absurd h List.not_mem_nil) (by decide +kernel)
def xf_53 : ys_F := ((yk_fm 1), yk_rm)
def xk_53 : ys_K := (((yX12_learn, cX12_learn, 11, (some .int)), (1, 25)), ([.inr (some 85), .inl (.inl ([(0, 1)], 0))], ([((-2147483648), 2147483647)] ++ yk_em, []), xf_53), ([([], [([(0, (-1))], (-1))], ((ys_fs xf_53.1 [(85, 1, .inl (.inl ([], (-1))))]), xf_53.2), some (.inl (.inl ([], (-1))))), ([], [([(0, 1)], (-1001))], ((ys_fs xf_53.1 [(85, 1, .inl (.inl ([], (-1))))]), xf_53.2), some (.inl (.inl ([], (-1))))), ([], [([(0, 1)], 0), ([(0, (-1))], 0), ([(0, (-1))], 1000)], (xf_53.1, xf_53.2), some (.inl (.inl ([], 0)))), ([], [([(0, 1)], (-2)), ([(0, (-1))], 1000), ([(0, 1)], (-1)), ([(0, 1)], 0)], ((ys_fs xf_53.1 [(85, 32, .inl (.inr ([], 1)))]), xf_53.2), some (.inl (.inl ([], 0)))), ([], [([(0, 1)], (-1)), ([(0, (-1))], 1), ([(0, (-1))], 1000), ([(0, 1)], 0)], ((ys_fs xf_53.1 [(85, 32, .inl (.inr ([], 1)))]), xf_53.2), some (.inl (.inl ([], 0))))], []))
def xq_53 : ys_Q := (yz_X12_learn, (yl_flX12, yl_ciX12, yl_cjX12, yl_cpX12), [(30, [], [([(0, 1)], 0), ([(0, (-1))], 1000)], (xf_53.1, xf_53.2), [(0, .inr (some 85)), (1, .inl (.inl ([(0, 1)], 0))), (2, .inl (.inl ([], 0))), (3, .inl (.inl ([], 1))), (4, .inl (.inl ([], 0)))], [], ([], 5)), (45, [], [([(0, 1)], (-1)), ([(0, (-1))], 1000), ([(0, 1)], 0)], (xf_53.1, xf_53.2), [(0, .inr (some 85)), (1, .inl (.inl ([(0, 1)], 0))), (2, .inl (.inl ([], 0))), (3, .inl (.inl ([], 0))), (4, .inl (.inl ([], 0))), (5, .inl (.inl ([], 0)))], [], ([], 3)), (30, [], [([(0, 1)], (-1)), ([(0, (-1))], 1000), ([(0, 1)], 0)], ((ys_fs xf_53.1 [(85, 32, .inl (.inr ([], 1)))]), xf_53.2), [(0, .inr (some 85)), (1, .inl (.inl ([(0, 1)], 0))), (2, .inl (.inl ([], 0))), (3, .inl (.inl ([], 0))), (4, .inl (.inl ([], 1)))], [], ([], 2))])
def xa_53 : ys_CA := [((133, true), xk_50), ((141, false), xk_2), ((141, false), xk_51), ((141, false), xk_52)]
theorem xc_53 {l : Launch} {D : va_G} {ad : Nat → Nat} {cT : Nat → ClassId} {tys : List (ClassId × FieldType)} (hty : ys_Ty tys cT yk_sh) : ys_Con l D vwCl ad cT yk_sh tys yG xk_53 := ys_method (calls := xa_53) (Z := xq_53) 3000 (by decide +kernel) yz_X12_learn_ok hty (yl_lkX12 _) (List.forall_mem_cons.mpr ⟨⟨xc_50 hty, yg_CLs yl_wX12_133 yd_yX12_in⟩, List.forall_mem_cons.mpr ⟨⟨xc_2 hty, yg_CLv rfl rfl rfl yl_wX12_141 yd_yX12_told⟩, List.forall_mem_cons.mpr ⟨⟨xc_51 hty, yg_CLv rfl rfl rfl yl_wX12_141 yd_yX12_told⟩, List.forall_mem_cons.mpr ⟨⟨xc_52 hty, yg_CLv rfl rfl rfl yl_wX12_141 yd_yX12_told⟩, fun _ h => absurd h List.not_mem_nil⟩⟩⟩⟩) (by decide +kernel)
def xf_54 : ys_F := ((yk_fm 1), yk_rm)
def xk_54 : ys_K := (((yX12_learnt, cX12_learnt, 2, (some .long)), (0, 0)), ([.inr (some 85), .inl (.inl ([(0, 1)], 0))], ([((-2147483648), 2147483647)] ++ yk_em, []), xf_54), ([([], [([(0, 1)], (-4)), ([(0, (-1))], 4)], (xf_54.1, xf_54.2), some (.inl (.inr ([], 0)))), ([], [([(0, 1)], (-3)), ([(0, (-1))], 3)], (xf_54.1, xf_54.2), some (.inl (.inr ([], 0)))), ([], [([(0, 1)], (-2)), ([(0, (-1))], 2)], (xf_54.1, xf_54.2), some (.inl (.inr ([], 0)))), ([], [([(0, 1)], (-1)), ([(0, (-1))], 1)], (xf_54.1, xf_54.2), some (.inl (.inr ([], 0)))), ([], [([(0, 1)], 0), ([(0, (-1))], 0)], (xf_54.1, xf_54.2), some (.inl (.inr ([], 0)))), ([], [([(0, 1)], (-5))], (xf_54.1, xf_54.2), some (.inl (.inr ([], (-1000000))))), ([], [([(0, (-1))], (-1))], (xf_54.1, xf_54.2), some (.inl (.inr ([], (-1000000)))))], []))
def xq_54 : ys_Q := (yz_X12_learnt, (yl_flX12, yl_ciX12, yl_cjX12, yl_cpX12), [])
def xa_54 : ys_CA := []
theorem xc_54 {l : Launch} {D : va_G} {ad : Nat → Nat} {cT : Nat → ClassId} {tys : List (ClassId × FieldType)} (hty : ys_Ty tys cT yk_sh) : ys_Con l D vwCl ad cT yk_sh tys yG xk_54 := ys_method (calls := xa_54) (Z := xq_54) 3000 (by decide +kernel) yz_X12_learnt_ok hty (yl_lkX12 _) (fun _ h => absurd h List.not_mem_nil) (by decide +kernel)
def xf_55 : ys_F := ((yk_fm 0), yk_rm)
def xk_55 : ys_K := (((yX12_left, cX12_left, 1, (some .int)), (0, 0)), ([.inr (some 85)], ([] ++ yk_em, []), xf_55), ([([], [], (xf_55.1, xf_55.2), some (.inl (.inl ([], 0))))], []))
def xq_55 : ys_Q := (yz_X12_left, (yl_flX12, yl_ciX12, yl_cjX12, yl_cpX12), [])
def xa_55 : ys_CA := []
theorem xc_55 {l : Launch} {D : va_G} {ad : Nat → Nat} {cT : Nat → ClassId} {tys : List (ClassId × FieldType)} (hty : ys_Ty tys cT yk_sh) : ys_Con l D vwCl ad cT yk_sh tys yG xk_55 := ys_method (calls := xa_55) (Z := xq_55) 3000 (by decide +kernel) yz_X12_left_ok hty (yl_lkX12 _) (fun _ h => absurd h List.not_mem_nil) (by decide +kernel)
def xf_56 : ys_F := ((yk_fm 1), yk_rm)
def xk_56 : ys_K := (((yX12_mass, cX12_mass, 2, (some .long)), (1, 25)), ([.inr (some 85), .inl (.inl ([(0, 1)], 0))], ([((-2147483648), 2147483647)] ++ yk_em, []), xf_56), ([([], [([(0, (-1))], (-1))], (xf_56.1, xf_56.2), some (.inl (.inr ([], (-1))))), ([], [([(0, 1)], 0)], (xf_56.1, xf_56.2), some (.inl (.inr ([], (-1)))))], []))
def xq_56 : ys_Q := (yz_X12_mass, (yl_flX12, yl_ciX12, yl_cjX12, yl_cpX12), [])
def xa_56 : ys_CA := [((133, true), xk_26)]
theorem xc_56 {l : Launch} {D : va_G} {ad : Nat → Nat} {cT : Nat → ClassId} {tys : List (ClassId × FieldType)} (hty : ys_Ty tys cT yk_sh) : ys_Con l D vwCl ad cT yk_sh tys yG xk_56 := ys_method (calls := xa_56) (Z := xq_56) 3000 (by decide +kernel) yz_X12_mass_ok hty (yl_lkX12 _) (List.forall_mem_cons.mpr ⟨⟨xc_26 hty, yg_CLs yl_wX12_133 yd_yX12_in⟩, fun _ h => absurd h List.not_mem_nil⟩) (by decide +kernel)
def xf_57 : ys_F := ((yk_fm 0), yk_rm)
def xk_57 : ys_K := (((yX12_findBetween, cX12_findBetween, 4, (some .boolean)), (0, 0)), ([.inr (some 85)], ([] ++ yk_em, []), xf_57), ([([], [], (xf_57.1, xf_57.2), some (.inl (.inl ([], 0))))], []))
def xq_57 : ys_Q := (yz_X12_findBetween, (yl_flX12, yl_ciX12, yl_cjX12, yl_cpX12), [(2, [], [], (xf_57.1, xf_57.2), [(0, .inr (some 85)), (1, .inl (.inl ([], 0)))], [], ([], 20)), (102, [], [], (xf_57.1, xf_57.2), [(0, .inr (some 85)), (1, .inl (.inl ([], 0)))], [], ([], 6))])
def xa_57 : ys_CA := []
theorem xc_57 {l : Launch} {D : va_G} {ad : Nat → Nat} {cT : Nat → ClassId} {tys : List (ClassId × FieldType)} (hty : ys_Ty tys cT yk_sh) : ys_Con l D vwCl ad cT yk_sh tys yG xk_57 := ys_method (calls := xa_57) (Z := xq_57) 3000 (by decide +kernel) yz_X12_findBetween_ok hty (yl_lkX12 _) (fun _ h => absurd h List.not_mem_nil) (by decide +kernel)
def xf_58 : ys_F := ((yk_fm 0), yk_rm)
def xk_58 : ys_K := (((yX12_findWithin, cX12_findWithin, 4, (some .boolean)), (0, 0)), ([.inr (some 85)], ([] ++ yk_em, []), xf_58), ([([], [], (xf_58.1, xf_58.2), some (.inl (.inl ([], 0))))], []))
def xq_58 : ys_Q := (yz_X12_findWithin, (yl_flX12, yl_ciX12, yl_cjX12, yl_cpX12), [(2, [], [], (xf_58.1, xf_58.2), [(0, .inr (some 85)), (1, .inl (.inl ([], 0)))], [], ([], 16)), (64, [], [], (xf_58.1, xf_58.2), [(0, .inr (some 85)), (1, .inl (.inl ([], 0)))], [], ([], 6))])
def xa_58 : ys_CA := []
theorem xc_58 {l : Launch} {D : va_G} {ad : Nat → Nat} {cT : Nat → ClassId} {tys : List (ClassId × FieldType)} (hty : ys_Ty tys cT yk_sh) : ys_Con l D vwCl ad cT yk_sh tys yG xk_58 := ys_method (calls := xa_58) (Z := xq_58) 3000 (by decide +kernel) yz_X12_findWithin_ok hty (yl_lkX12 _) (fun _ h => absurd h List.not_mem_nil) (by decide +kernel)
def xf_59 : ys_F := ((yk_fm 0), yk_rm)
def xk_59 : ys_K := (((yX12_findCrossing, cX12_findCrossing, 4, (some .boolean)), (0, 0)), ([.inr (some 85)], ([] ++ yk_em, []), xf_59), ([([], [], (xf_59.1, xf_59.2), some (.inl (.inl ([], 0))))], []))
def xq_59 : ys_Q := (yz_X12_findCrossing, (yl_flX12, yl_ciX12, yl_cjX12, yl_cpX12), [(2, [], [], (xf_59.1, xf_59.2), [(0, .inr (some 85)), (1, .inl (.inl ([], 0)))], [], ([], 6))])
def xa_59 : ys_CA := []
theorem xc_59 {l : Launch} {D : va_G} {ad : Nat → Nat} {cT : Nat → ClassId} {tys : List (ClassId × FieldType)} (hty : ys_Ty tys cT yk_sh) : ys_Con l D vwCl ad cT yk_sh tys yG xk_59 := ys_method (calls := xa_59) (Z := xq_59) 3000 (by decide +kernel) yz_X12_findCrossing_ok hty (yl_lkX12 _) (fun _ h => absurd h List.not_mem_nil) (by decide +kernel)
def xf_60 : ys_F := ((yk_fm 0), yk_rm)
def xk_60 : ys_K := (((yX12_findMeeting, cX12_findMeeting, 2, none), (1, 23)), ([.inr (some 85)], ([] ++ yk_em, []), xf_60), ([([], [], (xf_60.1, xf_60.2), none)], []))
def xq_60 : ys_Q := (yz_X12_findMeeting, (yl_flX12, yl_ciX12, yl_cjX12, yl_cpX12), [])
def xa_60 : ys_CA := [((236, false), xk_12), ((240, false), xk_57), ((243, false), xk_58), ((246, false), xk_59)]
theorem xc_60 {l : Launch} {D : va_G} {ad : Nat → Nat} {cT : Nat → ClassId} {tys : List (ClassId × FieldType)} (hty : ys_Ty tys cT yk_sh) : ys_Con l D vwCl ad cT yk_sh tys yG xk_60 := ys_method (calls := xa_60) (Z := xq_60) 3000 (by decide +kernel) yz_X12_findMeeting_ok hty (yl_lkX12 _) (List.forall_mem_cons.mpr ⟨⟨xc_12 hty, yg_CLv rfl rfl rfl yl_wX12_236 yd_yX12_findSame⟩, List.forall_mem_cons.mpr ⟨⟨xc_57 hty, yg_CLv rfl rfl rfl yl_wX12_240 yd_yX12_findBetween⟩, List.forall_mem_cons.mpr ⟨⟨xc_58 hty, yg_CLv rfl rfl rfl yl_wX12_243 yd_yX12_findWithin⟩, List.forall_mem_cons.mpr ⟨⟨xc_59 hty, yg_CLv rfl rfl rfl yl_wX12_246 yd_yX12_findCrossing⟩, fun _ h => absurd h List.not_mem_nil⟩⟩⟩⟩) (by decide +kernel)
def xf_61 : ys_F := ((yk_fm 1), yk_rm)
def xk_61 : ys_K := (((yX12_in, cX12_in, 6, (some .boolean)), (0, 0)), ([.inl (.inr ([(0, 1)], 0)), .inl (.inr ([], 10)), .inl (.inr ([], 13))], ([((-2147483648), (-1))] ++ yk_em, []), xf_61), ([([], [], (xf_61.1, xf_61.2), some (.inl (.inl ([], 0))))], []))
def xq_61 : ys_Q := (yz_X12_in, (yl_flX12, yl_ciX12, yl_cjX12, yl_cpX12), [])
def xa_61 : ys_CA := []
theorem xc_61 {l : Launch} {D : va_G} {ad : Nat → Nat} {cT : Nat → ClassId} {tys : List (ClassId × FieldType)} (hty : ys_Ty tys cT yk_sh) : ys_Con l D vwCl ad cT yk_sh tys yG xk_61 := ys_method (calls := xa_61) (Z := xq_61) 3000 (by decide +kernel) yz_X12_in_ok hty (yl_lkX12 _) (fun _ h => absurd h List.not_mem_nil) (by decide +kernel)
def xf_62 : ys_F := ((yk_fm 1), yk_rm)
def xk_62 : ys_K := (((yX12_in, cX12_in, 6, (some .boolean)), (0, 0)), ([.inl (.inr ([(0, 1)], 0)), .inl (.inr ([], 20)), .inl (.inr ([], 23))], ([((-2147483648), (-1))] ++ yk_em, []), xf_62), ([([], [], (xf_62.1, xf_62.2), some (.inl (.inl ([], 0))))], []))
def xq_62 : ys_Q := (yz_X12_in, (yl_flX12, yl_ciX12, yl_cjX12, yl_cpX12), [])
def xa_62 : ys_CA := []
theorem xc_62 {l : Launch} {D : va_G} {ad : Nat → Nat} {cT : Nat → ClassId} {tys : List (ClassId × FieldType)} (hty : ys_Ty tys cT yk_sh) : ys_Con l D vwCl ad cT yk_sh tys yG xk_62 := ys_method (calls := xa_62) (Z := xq_62) 3000 (by decide +kernel) yz_X12_in_ok hty (yl_lkX12 _) (fun _ h => absurd h List.not_mem_nil) (by decide +kernel)
def xf_63 : ys_F := ((yk_fm 1), yk_rm)
def xk_63 : ys_K := (((yX12_in, cX12_in, 6, (some .boolean)), (0, 0)), ([.inl (.inr ([(0, 1)], 0)), .inl (.inr ([], 30)), .inl (.inr ([], 33))], ([((-2147483648), (-1))] ++ yk_em, []), xf_63), ([([], [], (xf_63.1, xf_63.2), some (.inl (.inl ([], 0))))], []))
def xq_63 : ys_Q := (yz_X12_in, (yl_flX12, yl_ciX12, yl_cjX12, yl_cpX12), [])
def xa_63 : ys_CA := []
theorem xc_63 {l : Launch} {D : va_G} {ad : Nat → Nat} {cT : Nat → ClassId} {tys : List (ClassId × FieldType)} (hty : ys_Ty tys cT yk_sh) : ys_Con l D vwCl ad cT yk_sh tys yG xk_63 := ys_method (calls := xa_63) (Z := xq_63) 3000 (by decide +kernel) yz_X12_in_ok hty (yl_lkX12 _) (fun _ h => absurd h List.not_mem_nil) (by decide +kernel)
def xf_64 : ys_F := ((yk_fm 1), yk_rm)
def xk_64 : ys_K := (((yX12_in, cX12_in, 6, (some .boolean)), (0, 0)), ([.inl (.inr ([(0, 1)], 0)), .inl (.inr ([], 40)), .inl (.inr ([], 43))], ([((-2147483648), (-1))] ++ yk_em, []), xf_64), ([([], [], (xf_64.1, xf_64.2), some (.inl (.inl ([], 0))))], []))
def xq_64 : ys_Q := (yz_X12_in, (yl_flX12, yl_ciX12, yl_cjX12, yl_cpX12), [])
def xa_64 : ys_CA := []
theorem xc_64 {l : Launch} {D : va_G} {ad : Nat → Nat} {cT : Nat → ClassId} {tys : List (ClassId × FieldType)} (hty : ys_Ty tys cT yk_sh) : ys_Con l D vwCl ad cT yk_sh tys yG xk_64 := ys_method (calls := xa_64) (Z := xq_64) 3000 (by decide +kernel) yz_X12_in_ok hty (yl_lkX12 _) (fun _ h => absurd h List.not_mem_nil) (by decide +kernel)
def xf_65 : ys_F := ((yk_fm 1), yk_rm)
def xk_65 : ys_K := (((yX12_in, cX12_in, 6, (some .boolean)), (0, 0)), ([.inl (.inr ([(0, 1)], 0)), .inl (.inr ([], 10)), .inl (.inr ([], 13))], ([(2, 2147483647)] ++ yk_em, []), xf_65), ([([], [([(0, 1)], (-10)), ([(0, (-1))], 13)], (xf_65.1, xf_65.2), some (.inl (.inl ([], 1)))), ([], [([(0, 1)], (-14))], (xf_65.1, xf_65.2), some (.inl (.inl ([], 0)))), ([], [([(0, (-1))], 9)], (xf_65.1, xf_65.2), some (.inl (.inl ([], 0))))], []))
def xq_65 : ys_Q := (yz_X12_in, (yl_flX12, yl_ciX12, yl_cjX12, yl_cpX12), [])
def xa_65 : ys_CA := []
theorem xc_65 {l : Launch} {D : va_G} {ad : Nat → Nat} {cT : Nat → ClassId} {tys : List (ClassId × FieldType)} (hty : ys_Ty tys cT yk_sh) : ys_Con l D vwCl ad cT yk_sh tys yG xk_65 := ys_method (calls := xa_65) (Z := xq_65) 3000 (by decide +kernel) yz_X12_in_ok hty (yl_lkX12 _) (fun _ h => absurd h List.not_mem_nil) (by decide +kernel)
def xf_66 : ys_F := ((yk_fm 1), yk_rm)
def xk_66 : ys_K := (((yX12_in, cX12_in, 6, (some .boolean)), (0, 0)), ([.inl (.inr ([(0, 1)], 0)), .inl (.inr ([], 20)), .inl (.inr ([], 23))], ([(2, 9)] ++ yk_em, []), xf_66), ([([], [], (xf_66.1, xf_66.2), some (.inl (.inl ([], 0))))], []))
def xq_66 : ys_Q := (yz_X12_in, (yl_flX12, yl_ciX12, yl_cjX12, yl_cpX12), [])
def xa_66 : ys_CA := []
theorem xc_66 {l : Launch} {D : va_G} {ad : Nat → Nat} {cT : Nat → ClassId} {tys : List (ClassId × FieldType)} (hty : ys_Ty tys cT yk_sh) : ys_Con l D vwCl ad cT yk_sh tys yG xk_66 := ys_method (calls := xa_66) (Z := xq_66) 3000 (by decide +kernel) yz_X12_in_ok hty (yl_lkX12 _) (fun _ h => absurd h List.not_mem_nil) (by decide +kernel)
def xf_67 : ys_F := ((yk_fm 1), yk_rm)
def xk_67 : ys_K := (((yX12_in, cX12_in, 6, (some .boolean)), (0, 0)), ([.inl (.inr ([(0, 1)], 0)), .inl (.inr ([], 30)), .inl (.inr ([], 33))], ([(2, 9)] ++ yk_em, []), xf_67), ([([], [], (xf_67.1, xf_67.2), some (.inl (.inl ([], 0))))], []))
def xq_67 : ys_Q := (yz_X12_in, (yl_flX12, yl_ciX12, yl_cjX12, yl_cpX12), [])
def xa_67 : ys_CA := []
theorem xc_67 {l : Launch} {D : va_G} {ad : Nat → Nat} {cT : Nat → ClassId} {tys : List (ClassId × FieldType)} (hty : ys_Ty tys cT yk_sh) : ys_Con l D vwCl ad cT yk_sh tys yG xk_67 := ys_method (calls := xa_67) (Z := xq_67) 3000 (by decide +kernel) yz_X12_in_ok hty (yl_lkX12 _) (fun _ h => absurd h List.not_mem_nil) (by decide +kernel)
def xf_68 : ys_F := ((yk_fm 1), yk_rm)
def xk_68 : ys_K := (((yX12_in, cX12_in, 6, (some .boolean)), (0, 0)), ([.inl (.inr ([(0, 1)], 0)), .inl (.inr ([], 40)), .inl (.inr ([], 43))], ([(2, 9)] ++ yk_em, []), xf_68), ([([], [], (xf_68.1, xf_68.2), some (.inl (.inl ([], 0))))], []))
def xq_68 : ys_Q := (yz_X12_in, (yl_flX12, yl_ciX12, yl_cjX12, yl_cpX12), [])
def xa_68 : ys_CA := []
theorem xc_68 {l : Launch} {D : va_G} {ad : Nat → Nat} {cT : Nat → ClassId} {tys : List (ClassId × FieldType)} (hty : ys_Ty tys cT yk_sh) : ys_Con l D vwCl ad cT yk_sh tys yG xk_68 := ys_method (calls := xa_68) (Z := xq_68) 3000 (by decide +kernel) yz_X12_in_ok hty (yl_lkX12 _) (fun _ h => absurd h List.not_mem_nil) (by decide +kernel)
def xf_69 : ys_F := ((yk_fm 1), yk_rm)
def xk_69 : ys_K := (((yX12_in, cX12_in, 6, (some .boolean)), (0, 0)), ([.inl (.inr ([(0, 1)], 0)), .inl (.inr ([], 20)), .inl (.inr ([], 23))], ([(14, 2147483647)] ++ yk_em, []), xf_69), ([([], [([(0, 1)], (-20)), ([(0, (-1))], 23)], (xf_69.1, xf_69.2), some (.inl (.inl ([], 1)))), ([], [([(0, 1)], (-24))], (xf_69.1, xf_69.2), some (.inl (.inl ([], 0)))), ([], [([(0, (-1))], 19)], (xf_69.1, xf_69.2), some (.inl (.inl ([], 0))))], []))
def xq_69 : ys_Q := (yz_X12_in, (yl_flX12, yl_ciX12, yl_cjX12, yl_cpX12), [])
def xa_69 : ys_CA := []
theorem xc_69 {l : Launch} {D : va_G} {ad : Nat → Nat} {cT : Nat → ClassId} {tys : List (ClassId × FieldType)} (hty : ys_Ty tys cT yk_sh) : ys_Con l D vwCl ad cT yk_sh tys yG xk_69 := ys_method (calls := xa_69) (Z := xq_69) 3000 (by decide +kernel) yz_X12_in_ok hty (yl_lkX12 _) (fun _ h => absurd h List.not_mem_nil) (by decide +kernel)
def xf_70 : ys_F := ((yk_fm 1), yk_rm)
def xk_70 : ys_K := (((yX12_in, cX12_in, 6, (some .boolean)), (0, 0)), ([.inl (.inr ([(0, 1)], 0)), .inl (.inr ([], 30)), .inl (.inr ([], 33))], ([(14, 19)] ++ yk_em, []), xf_70), ([([], [], (xf_70.1, xf_70.2), some (.inl (.inl ([], 0))))], []))
def xq_70 : ys_Q := (yz_X12_in, (yl_flX12, yl_ciX12, yl_cjX12, yl_cpX12), [])
def xa_70 : ys_CA := []
theorem xc_70 {l : Launch} {D : va_G} {ad : Nat → Nat} {cT : Nat → ClassId} {tys : List (ClassId × FieldType)} (hty : ys_Ty tys cT yk_sh) : ys_Con l D vwCl ad cT yk_sh tys yG xk_70 := ys_method (calls := xa_70) (Z := xq_70) 3000 (by decide +kernel) yz_X12_in_ok hty (yl_lkX12 _) (fun _ h => absurd h List.not_mem_nil) (by decide +kernel)
def xf_71 : ys_F := ((yk_fm 1), yk_rm)
def xk_71 : ys_K := (((yX12_in, cX12_in, 6, (some .boolean)), (0, 0)), ([.inl (.inr ([(0, 1)], 0)), .inl (.inr ([], 40)), .inl (.inr ([], 43))], ([(14, 19)] ++ yk_em, []), xf_71), ([([], [], (xf_71.1, xf_71.2), some (.inl (.inl ([], 0))))], []))
def xq_71 : ys_Q := (yz_X12_in, (yl_flX12, yl_ciX12, yl_cjX12, yl_cpX12), [])
def xa_71 : ys_CA := []
theorem xc_71 {l : Launch} {D : va_G} {ad : Nat → Nat} {cT : Nat → ClassId} {tys : List (ClassId × FieldType)} (hty : ys_Ty tys cT yk_sh) : ys_Con l D vwCl ad cT yk_sh tys yG xk_71 := ys_method (calls := xa_71) (Z := xq_71) 3000 (by decide +kernel) yz_X12_in_ok hty (yl_lkX12 _) (fun _ h => absurd h List.not_mem_nil) (by decide +kernel)
def xf_72 : ys_F := ((yk_fm 1), yk_rm)
def xk_72 : ys_K := (((yX12_in, cX12_in, 6, (some .boolean)), (0, 0)), ([.inl (.inr ([(0, 1)], 0)), .inl (.inr ([], 30)), .inl (.inr ([], 33))], ([(24, 2147483647)] ++ yk_em, []), xf_72), ([([], [([(0, 1)], (-30)), ([(0, (-1))], 33)], (xf_72.1, xf_72.2), some (.inl (.inl ([], 1)))), ([], [([(0, 1)], (-34))], (xf_72.1, xf_72.2), some (.inl (.inl ([], 0)))), ([], [([(0, (-1))], 29)], (xf_72.1, xf_72.2), some (.inl (.inl ([], 0))))], []))
def xq_72 : ys_Q := (yz_X12_in, (yl_flX12, yl_ciX12, yl_cjX12, yl_cpX12), [])
def xa_72 : ys_CA := []
theorem xc_72 {l : Launch} {D : va_G} {ad : Nat → Nat} {cT : Nat → ClassId} {tys : List (ClassId × FieldType)} (hty : ys_Ty tys cT yk_sh) : ys_Con l D vwCl ad cT yk_sh tys yG xk_72 := ys_method (calls := xa_72) (Z := xq_72) 3000 (by decide +kernel) yz_X12_in_ok hty (yl_lkX12 _) (fun _ h => absurd h List.not_mem_nil) (by decide +kernel)
def xf_73 : ys_F := ((yk_fm 1), yk_rm)
def xk_73 : ys_K := (((yX12_in, cX12_in, 6, (some .boolean)), (0, 0)), ([.inl (.inr ([(0, 1)], 0)), .inl (.inr ([], 40)), .inl (.inr ([], 43))], ([(24, 29)] ++ yk_em, []), xf_73), ([([], [], (xf_73.1, xf_73.2), some (.inl (.inl ([], 0))))], []))
def xq_73 : ys_Q := (yz_X12_in, (yl_flX12, yl_ciX12, yl_cjX12, yl_cpX12), [])
def xa_73 : ys_CA := []
theorem xc_73 {l : Launch} {D : va_G} {ad : Nat → Nat} {cT : Nat → ClassId} {tys : List (ClassId × FieldType)} (hty : ys_Ty tys cT yk_sh) : ys_Con l D vwCl ad cT yk_sh tys yG xk_73 := ys_method (calls := xa_73) (Z := xq_73) 3000 (by decide +kernel) yz_X12_in_ok hty (yl_lkX12 _) (fun _ h => absurd h List.not_mem_nil) (by decide +kernel)
def xf_74 : ys_F := ((yk_fm 1), yk_rm)
def xk_74 : ys_K := (((yX12_in, cX12_in, 6, (some .boolean)), (0, 0)), ([.inl (.inr ([(0, 1)], 0)), .inl (.inr ([], 40)), .inl (.inr ([], 43))], ([(34, 2147483647)] ++ yk_em, []), xf_74), ([([], [([(0, 1)], (-40)), ([(0, (-1))], 43)], (xf_74.1, xf_74.2), some (.inl (.inl ([], 1)))), ([], [([(0, 1)], (-44))], (xf_74.1, xf_74.2), some (.inl (.inl ([], 0)))), ([], [([(0, (-1))], 39)], (xf_74.1, xf_74.2), some (.inl (.inl ([], 0))))], []))
def xq_74 : ys_Q := (yz_X12_in, (yl_flX12, yl_ciX12, yl_cjX12, yl_cpX12), [])
def xa_74 : ys_CA := []
theorem xc_74 {l : Launch} {D : va_G} {ad : Nat → Nat} {cT : Nat → ClassId} {tys : List (ClassId × FieldType)} (hty : ys_Ty tys cT yk_sh) : ys_Con l D vwCl ad cT yk_sh tys yG xk_74 := ys_method (calls := xa_74) (Z := xq_74) 3000 (by decide +kernel) yz_X12_in_ok hty (yl_lkX12 _) (fun _ h => absurd h List.not_mem_nil) (by decide +kernel)
def xf_75 : ys_F := ((yk_fm 1), yk_rm)
def xk_75 : ys_K := (((yX12_meet, cX12_meet, 4, (some .long)), (2, 44)), ([.inr (some 85), .inl (.inl ([(0, 1)], 0))], ([((-2147483648), 2147483647)] ++ yk_em, []), xf_75), ([([], [([(0, (-1))], (-1))], (xf_75.1, xf_75.2), some (.inl (.inr ([], (-1000000))))), ([], [([(0, 1)], (-2)), ([(0, (-1))], 9)], (xf_75.1, xf_75.2), some (.inl (.inr ([], (-1000000))))), ([], [([(0, 1)], (-14)), ([(0, (-1))], 19)], (xf_75.1, xf_75.2), some (.inl (.inr ([], (-1000000))))), ([], [([(0, 1)], (-24)), ([(0, (-1))], 29)], (xf_75.1, xf_75.2), some (.inl (.inr ([], (-1000000))))), ([], [([(0, 1)], (-34)), ([(0, (-1))], 39)], (xf_75.1, xf_75.2), some (.inl (.inr ([], (-1000000))))), ([], [([(0, 1)], (-44))], (xf_75.1, xf_75.2), some (.inl (.inr ([], (-1000000))))), ([], [([(0, 1)], (-40)), ([(0, (-1))], 43)], (xf_75.1, xf_75.2), some (.inl (.inr ([], (-6))))), ([], [([(0, 1)], (-30)), ([(0, (-1))], 33)], (xf_75.1, xf_75.2), some (.inl (.inr ([], (-6))))), ([], [([(0, 1)], (-20)), ([(0, (-1))], 23)], (xf_75.1, xf_75.2), some (.inl (.inr ([], (-6))))), ([], [([(0, 1)], (-10)), ([(0, (-1))], 13)], (xf_75.1, xf_75.2), some (.inl (.inr ([], (-6))))), ([], [([(0, 1)], 0), ([(0, (-1))], 1)], (xf_75.1, xf_75.2), some (.inl (.inr ([], (-6)))))], []))
def xq_75 : ys_Q := (yz_X12_meet, (yl_flX12, yl_ciX12, yl_cjX12, yl_cpX12), [])
def xa_75 : ys_CA := [((249, false), xk_60), ((133, true), xk_7), ((133, true), xk_61), ((133, true), xk_62), ((133, true), xk_63), ((133, true), xk_64), ((133, true), xk_65), ((133, true), xk_66), ((133, true), xk_67), ((133, true), xk_68), ((133, true), xk_69), ((133, true), xk_70), ((133, true), xk_71), ((133, true), xk_72), ((133, true), xk_73), ((133, true), xk_74)]
theorem xc_75 {l : Launch} {D : va_G} {ad : Nat → Nat} {cT : Nat → ClassId} {tys : List (ClassId × FieldType)} (hty : ys_Ty tys cT yk_sh) : ys_Con l D vwCl ad cT yk_sh tys yG xk_75 := ys_method (calls := xa_75) (Z := xq_75) 3000 (by decide +kernel) yz_X12_meet_ok hty (yl_lkX12 _) (List.forall_mem_cons.mpr ⟨⟨xc_60 hty, yg_CLv rfl rfl rfl yl_wX12_249 yd_yX12_findMeeting⟩, List.forall_mem_cons.mpr ⟨⟨xc_7 hty, yg_CLs yl_wX12_133 yd_yX12_in⟩, List.forall_mem_cons.mpr ⟨⟨xc_61 hty, yg_CLs yl_wX12_133 yd_yX12_in⟩, List.forall_mem_cons.mpr ⟨⟨xc_62 hty, yg_CLs yl_wX12_133 yd_yX12_in⟩, List.forall_mem_cons.mpr ⟨⟨xc_63 hty, yg_CLs yl_wX12_133 yd_yX12_in⟩, List.forall_mem_cons.mpr ⟨⟨xc_64 hty, yg_CLs yl_wX12_133 yd_yX12_in⟩, List.forall_mem_cons.mpr ⟨⟨xc_65 hty, yg_CLs yl_wX12_133 yd_yX12_in⟩, List.forall_mem_cons.mpr ⟨⟨xc_66 hty, yg_CLs yl_wX12_133 yd_yX12_in⟩, List.forall_mem_cons.mpr ⟨⟨xc_67 hty, yg_CLs yl_wX12_133 yd_yX12_in⟩, List.forall_mem_cons.mpr ⟨⟨xc_68 hty, yg_CLs yl_wX12_133 yd_yX12_in⟩, List.forall_mem_cons.mpr ⟨⟨xc_69 hty, yg_CLs yl_wX12_133 yd_yX12_in⟩, List.forall_mem_cons.mpr ⟨⟨xc_70 hty, yg_CLs yl_wX12_133 yd_yX12_in⟩, List.forall_mem_cons.mpr ⟨⟨xc_71 hty, yg_CLs yl_wX12_133 yd_yX12_in⟩, List.forall_mem_cons.mpr ⟨⟨xc_72 hty, yg_CLs yl_wX12_133 yd_yX12_in⟩, List.forall_mem_cons.mpr ⟨⟨xc_73 hty, yg_CLs yl_wX12_133 yd_yX12_in⟩, List.forall_mem_cons.mpr ⟨⟨xc_74 hty, yg_CLs yl_wX12_133 yd_yX12_in⟩, fun _ h => absurd h List.not_mem_nil⟩⟩⟩⟩⟩⟩⟩⟩⟩⟩⟩⟩⟩⟩⟩⟩) (by decide +kernel)
def xf_76 : ys_F := ((yk_fm 2), yk_rm)
def xk_76 : ys_K := (((yX12_of, cX12_of, 3, (some .int)), (2, 46)), ([.inr (some 85), .inl (.inl ([(0, 1)], 0)), .inl (.inl ([(1, 1)], 0))], ([((-2147483648), 2147483647), ((-2147483648), 2147483647)] ++ yk_em, []), xf_76), ([([], [([(0, 1)], 0)], (xf_76.1, xf_76.2), some (.inl (.inl ([], (-1000))))), ([], [([(0, (-1))], (-1))], (xf_76.1, xf_76.2), some (.inl (.inl ([], (-1000)))))], []))
def xq_76 : ys_Q := (yz_X12_of, (yl_flX12, yl_ciX12, yl_cjX12, yl_cpX12), [])
def xa_76 : ys_CA := [((149, false), xk_27)]
theorem xc_76 {l : Launch} {D : va_G} {ad : Nat → Nat} {cT : Nat → ClassId} {tys : List (ClassId × FieldType)} (hty : ys_Ty tys cT yk_sh) : ys_Con l D vwCl ad cT yk_sh tys yG xk_76 := ys_method (calls := xa_76) (Z := xq_76) 3000 (by decide +kernel) yz_X12_of_ok hty (yl_lkX12 _) (List.forall_mem_cons.mpr ⟨⟨xc_27 hty, yg_CLv rfl rfl rfl yl_wX12_149 yd_yX12_isPoint⟩, fun _ h => absurd h List.not_mem_nil⟩) (by decide +kernel)
def xf_77 : ys_F := ((yk_fm 3), yk_rm)
def xk_77 : ys_K := (((yX12_paint, cX12_paint, 4, (some .int)), (2, 46)), ([.inr (some 85), .inl (.inl ([(0, 1)], 0)), .inl (.inl ([(1, 1)], 0)), .inl (.inl ([(2, 1)], 0))], ([((-2147483648), 2147483647), ((-2147483648), 2147483647), ((-2147483648), 2147483647)] ++ yk_em, []), xf_77), ([([], [([(0, 1)], 0)], ((ys_fs xf_77.1 [(85, 1, .inl (.inl ([], (-1))))]), xf_77.2), some (.inl (.inl ([], (-1))))), ([], [([(0, (-1))], (-1))], ((ys_fs xf_77.1 [(85, 1, .inl (.inl ([], (-1))))]), xf_77.2), some (.inl (.inl ([], (-1)))))], []))
def xq_77 : ys_Q := (yz_X12_paint, (yl_flX12, yl_ciX12, yl_cjX12, yl_cpX12), [])
def xa_77 : ys_CA := [((149, false), xk_27), ((141, false), xk_2)]
theorem xc_77 {l : Launch} {D : va_G} {ad : Nat → Nat} {cT : Nat → ClassId} {tys : List (ClassId × FieldType)} (hty : ys_Ty tys cT yk_sh) : ys_Con l D vwCl ad cT yk_sh tys yG xk_77 := ys_method (calls := xa_77) (Z := xq_77) 3000 (by decide +kernel) yz_X12_paint_ok hty (yl_lkX12 _) (List.forall_mem_cons.mpr ⟨⟨xc_27 hty, yg_CLv rfl rfl rfl yl_wX12_149 yd_yX12_isPoint⟩, List.forall_mem_cons.mpr ⟨⟨xc_2 hty, yg_CLv rfl rfl rfl yl_wX12_141 yd_yX12_told⟩, fun _ h => absurd h List.not_mem_nil⟩⟩) (by decide +kernel)
def xf_78 : ys_F := ((yk_fm 0), yk_rm)
def xk_78 : ys_K := (((yX12_parted, cX12_parted, 1, (some .int)), (2, 44)), ([.inr (some 85)], ([] ++ yk_em, []), xf_78), ([([], [], (xf_78.1, xf_78.2), some (.inl (.inl ([], 1))))], []))
def xq_78 : ys_Q := (yz_X12_parted, (yl_flX12, yl_ciX12, yl_cjX12, yl_cpX12), [])
def xa_78 : ys_CA := [((249, false), xk_60)]
theorem xc_78 {l : Launch} {D : va_G} {ad : Nat → Nat} {cT : Nat → ClassId} {tys : List (ClassId × FieldType)} (hty : ys_Ty tys cT yk_sh) : ys_Con l D vwCl ad cT yk_sh tys yG xk_78 := ys_method (calls := xa_78) (Z := xq_78) 3000 (by decide +kernel) yz_X12_parted_ok hty (yl_lkX12 _) (List.forall_mem_cons.mpr ⟨⟨xc_60 hty, yg_CLv rfl rfl rfl yl_wX12_249 yd_yX12_findMeeting⟩, fun _ h => absurd h List.not_mem_nil⟩) (by decide +kernel)
def xf_79 : ys_F := ((yk_fm 1), yk_rm)
def xk_79 : ys_K := (((yX12_in, cX12_in, 6, (some .boolean)), (0, 0)), ([.inl (.inr ([(0, 1)], 0)), .inl (.inr ([], (-300))), .inl (.inr ([], 300))], ([((-2147483648), 2147483647)] ++ yk_em, []), xf_79), ([([], [([(0, 1)], 300), ([(0, (-1))], 300)], (xf_79.1, xf_79.2), some (.inl (.inl ([], 1)))), ([], [([(0, 1)], (-301))], (xf_79.1, xf_79.2), some (.inl (.inl ([], 0)))), ([], [([(0, (-1))], (-301))], (xf_79.1, xf_79.2), some (.inl (.inl ([], 0))))], []))
def xq_79 : ys_Q := (yz_X12_in, (yl_flX12, yl_ciX12, yl_cjX12, yl_cpX12), [])
def xa_79 : ys_CA := []
theorem xc_79 {l : Launch} {D : va_G} {ad : Nat → Nat} {cT : Nat → ClassId} {tys : List (ClassId × FieldType)} (hty : ys_Ty tys cT yk_sh) : ys_Con l D vwCl ad cT yk_sh tys yG xk_79 := ys_method (calls := xa_79) (Z := xq_79) 3000 (by decide +kernel) yz_X12_in_ok hty (yl_lkX12 _) (fun _ h => absurd h List.not_mem_nil) (by decide +kernel)
def xf_80 : ys_F := ((yk_fm 3), yk_rm)
def xk_80 : ys_K := (((yX12_add, cX12_add, 4, none), (0, 0)), ([.inr (some 85), .inl (.inl ([(0, 1)], 0)), .inl (.inl ([(1, 1)], 0)), .inl (.inl ([(2, 1)], 0))], ([((-300), 300), ((-300), 300), (0, 1)] ++ yk_em, []), xf_80), ([([], [], ((ys_fs xf_80.1 [(85, 6, .inl (.inl ([], 1)))]), (ys_rs xf_80.2 [(86, ((0, 0), [(0, ((-300), 300))])), (87, ((0, 0), [(0, ((-300), 300))])), (88, ((0, 0), [(0, (0, 1))])), (89, ((0, 0), [(0, (1, 1))]))])), none)], [86, 87, 88, 89]))
def xq_80 : ys_Q := (yz_X12_add, (yl_flX12, yl_ciX12, yl_cjX12, yl_cpX12), [])
def xa_80 : ys_CA := []
theorem xc_80 {l : Launch} {D : va_G} {ad : Nat → Nat} {cT : Nat → ClassId} {tys : List (ClassId × FieldType)} (hty : ys_Ty tys cT yk_sh) : ys_Con l D vwCl ad cT yk_sh tys yG xk_80 := ys_method (calls := xa_80) (Z := xq_80) 3000 (by decide +kernel) yz_X12_add_ok hty (yl_lkX12 _) (fun _ h => absurd h List.not_mem_nil) (by decide +kernel)
def xf_81 : ys_F := ((ys_fs (yk_fm 0) [(85, 6, .inl (.inl ([], 1)))]), (ys_rs yk_rm [(86, ((0, 0), [(0, ((-300), 300))])), (87, ((0, 0), [(0, ((-300), 300))])), (88, ((0, 0), [(0, (0, 1))])), (89, ((0, 0), [(0, (1, 1))]))]))
def xk_81 : ys_K := (((yX12_told, cX12_told, 2, (some .int)), (0, 0)), ([.inr (some 85), .inl (.inl ([], 1))], ([] ++ yk_em, []), xf_81), ([([], [], (xf_81.1, xf_81.2), some (.inl (.inl ([], 1))))], []))
def xq_81 : ys_Q := (yz_X12_told, (yl_flX12, yl_ciX12, yl_cjX12, yl_cpX12), [])
def xa_81 : ys_CA := []
theorem xc_81 {l : Launch} {D : va_G} {ad : Nat → Nat} {cT : Nat → ClassId} {tys : List (ClassId × FieldType)} (hty : ys_Ty tys cT yk_sh) : ys_Con l D vwCl ad cT yk_sh tys yG xk_81 := ys_method (calls := xa_81) (Z := xq_81) 3000 (by decide +kernel) yz_X12_told_ok hty (yl_lkX12 _) (fun _ h => absurd h List.not_mem_nil) (by decide +kernel)
def xf_82 : ys_F := ((yk_fm 3), yk_rm)
def xk_82 : ys_K := (((yX12_point, cX12_point, 4, (some .int)), (1, 25)), ([.inr (some 85), .inl (.inl ([(0, 1)], 0)), .inl (.inl ([(1, 1)], 0)), .inl (.inl ([(2, 1)], 0))], ([((-2147483648), 2147483647), ((-2147483648), 2147483647), ((-2147483648), 2147483647)] ++ yk_em, []), xf_82), ([([], [([(0, (-1))], (-301))], ((ys_fs xf_82.1 [(85, 1, .inl (.inl ([], (-1))))]), xf_82.2), some (.inl (.inl ([], (-1))))), ([], [([(0, 1)], (-301))], ((ys_fs xf_82.1 [(85, 1, .inl (.inl ([], (-1))))]), xf_82.2), some (.inl (.inl ([], (-1))))), ([], [([(0, 1)], 300), ([(0, (-1))], 300), ([(1, (-1))], (-301))], ((ys_fs xf_82.1 [(85, 1, .inl (.inl ([], (-1))))]), xf_82.2), some (.inl (.inl ([], (-1))))), ([], [([(0, 1)], 300), ([(0, (-1))], 300), ([(1, 1)], (-301))], ((ys_fs xf_82.1 [(85, 1, .inl (.inl ([], (-1))))]), xf_82.2), some (.inl (.inl ([], (-1))))), ([], [([(0, 1)], 300), ([(0, (-1))], 300), ([(1, 1)], 300), ([(1, (-1))], 300), ([(2, (-1))], (-1))], ((ys_fs xf_82.1 [(85, 1, .inl (.inl ([], (-1))))]), xf_82.2), some (.inl (.inl ([], (-1))))), ([], [([(0, 1)], 300), ([(0, (-1))], 300), ([(1, 1)], 300), ([(1, (-1))], 300), ([(2, 1)], (-2))], ((ys_fs xf_82.1 [(85, 1, .inl (.inl ([], (-1))))]), xf_82.2), some (.inl (.inl ([], (-1))))), ([], [([(0, 1)], 300), ([(0, (-1))], 300), ([(1, 1)], 300), ([(1, (-1))], 300), ([(2, 1)], 0), ([(2, (-1))], 1)], ((ys_fs xf_82.1 [(85, 6, .inl (.inl ([], 1)))]), (ys_rs xf_82.2 [(86, ((0, 0), [(0, ((-300), 300))])), (87, ((0, 0), [(0, ((-300), 300))])), (88, ((0, 0), [(0, (0, 1))])), (89, ((0, 0), [(0, (1, 1))]))])), some (.inl (.inl ([], 1))))], [86, 87, 88, 89]))
def xq_82 : ys_Q := (yz_X12_point, (yl_flX12, yl_ciX12, yl_cjX12, yl_cpX12), [])
def xa_82 : ys_CA := [((133, true), xk_79), ((141, false), xk_2), ((133, true), xk_7), ((145, false), xk_80), ((141, false), xk_81)]
theorem xc_82 {l : Launch} {D : va_G} {ad : Nat → Nat} {cT : Nat → ClassId} {tys : List (ClassId × FieldType)} (hty : ys_Ty tys cT yk_sh) : ys_Con l D vwCl ad cT yk_sh tys yG xk_82 := ys_method (calls := xa_82) (Z := xq_82) 3000 (by decide +kernel) yz_X12_point_ok hty (yl_lkX12 _) (List.forall_mem_cons.mpr ⟨⟨xc_79 hty, yg_CLs yl_wX12_133 yd_yX12_in⟩, List.forall_mem_cons.mpr ⟨⟨xc_2 hty, yg_CLv rfl rfl rfl yl_wX12_141 yd_yX12_told⟩, List.forall_mem_cons.mpr ⟨⟨xc_7 hty, yg_CLs yl_wX12_133 yd_yX12_in⟩, List.forall_mem_cons.mpr ⟨⟨xc_80 hty, yg_CLv rfl rfl rfl yl_wX12_145 yd_yX12_add⟩, List.forall_mem_cons.mpr ⟨⟨xc_81 hty, yg_CLv rfl rfl rfl yl_wX12_141 yd_yX12_told⟩, fun _ h => absurd h List.not_mem_nil⟩⟩⟩⟩⟩) (by decide +kernel)
def xf_83 : ys_F := ((yk_fm 2), yk_rm)
def xk_83 : ys_K := (((yX12_read, cX12_read, 3, (some .long)), (2, 45)), ([.inr (some 85), .inl (.inl ([(0, 1)], 0)), .inl (.inl ([(1, 1)], 0))], ([((-2147483648), 2147483647), ((-2147483648), 2147483647)] ++ yk_em, []), xf_83), ([([], [([(0, 1)], 0), ([(0, (-1))], 0)], (xf_83.1, xf_83.2), some (.inl (.inr ([], (-9223372036854775808))))), ([], [([(0, 1)], (-1)), ([(0, (-1))], 1)], (xf_83.1, xf_83.2), some (.inl (.inr ([], (-9223372036854775808))))), ([], [([(0, 1)], (-2)), ([(0, (-1))], 2)], (xf_83.1, xf_83.2), some (.inl (.inr ([], (-9223372036854775808))))), ([], [([(0, 1)], (-3)), ([(0, (-1))], 3)], (xf_83.1, xf_83.2), some (.inl (.inr ([], (-9223372036854775808))))), ([], [([(0, 1)], (-4))], (xf_83.1, xf_83.2), some (.inl (.inr ([], (-9223372036854775808))))), ([], [([(0, (-1))], (-1))], (xf_83.1, xf_83.2), some (.inl (.inr ([], (-9223372036854775808)))))], []))
def xq_83 : ys_Q := (yz_X12_read, (yl_flX12, yl_ciX12, yl_cjX12, yl_cpX12), [])
def xa_83 : ys_CA := [((157, true), xk_18)]
theorem xc_83 {l : Launch} {D : va_G} {ad : Nat → Nat} {cT : Nat → ClassId} {tys : List (ClassId × FieldType)} (hty : ys_Ty tys cT yk_sh) : ys_Con l D vwCl ad cT yk_sh tys yG xk_83 := ys_method (calls := xa_83) (Z := xq_83) 3000 (by decide +kernel) yz_X12_read_ok hty (yl_lkX12 _) (List.forall_mem_cons.mpr ⟨⟨xc_18 hty, yg_CLs yl_wX12_157 yd_yX12_isSheet⟩, fun _ h => absurd h List.not_mem_nil⟩) (by decide +kernel)
end
section
def xf_84 : ys_F := ((yk_fm 1), yk_rm)
def xk_84 : ys_K := (((yX12_shatter, cX12_shatter, 5, (some .int)), (2, 45)), ([.inr (some 85), .inl (.inl ([(0, 1)], 0))], ([((-2147483648), 2147483647)] ++ yk_em, []), xf_84), ([([], [([(0, (-1))], (-1))], (xf_84.1, xf_84.2), some (.inl (.inl ([], (-1))))), ([], [([(0, 1)], (-1))], (xf_84.1, xf_84.2), some (.inl (.inl ([], (-1))))), ([], [([(0, 1)], 0), ([(0, (-1))], 0)], (xf_84.1, (ys_rs xf_84.2 [(97, ((0, 0), [(0, (1, 1)), (1, (0, 0))]))])), some (.inl (.inl ([], 1))))], [97]))
def xq_84 : ys_Q := (yz_X12_shatter, (yl_flX12, yl_ciX12, yl_cjX12, yl_cpX12), [(50, [], [([(0, 1)], 0), ([(0, (-1))], 0)], (xf_84.1, (ys_rs xf_84.2 [(97, ((0, 0), [(0, (1, 1)), (1, (0, 0))]))])), [(0, .inr (some 85)), (1, .inl (.inl ([(0, 1)], 0))), (3, .inl (.inl ([], 1))), (4, .inl (.inl ([], 0)))], [], ([], 4096)), (50, [], [([(0, 1)], 0), ([(0, (-1))], 0)], (xf_84.1, (ys_rs xf_84.2 [(97, ((0, 0), [(0, (1, 1)), (1, (0, 0))]))])), [(0, .inr (some 85)), (1, .inl (.inl ([(0, 1)], 0))), (3, .inl (.inl ([], 1))), (4, .inl (.inl ([], 1)))], [], ([], 4095)), (50, [(2, 4096)], [([(0, 1)], 0), ([(0, (-1))], 0)], (xf_84.1, (ys_rs xf_84.2 [(97, ((0, 0), [(0, (1, 1)), (1, (0, 0))]))])), [(0, .inr (some 85)), (1, .inl (.inl ([(0, 1)], 0))), (3, .inl (.inl ([], 1))), (4, .inl (.inl ([(93, 1)], 0)))], [], ([(93, (-1))], 4096))])
def xa_84 : ys_CA := [((133, true), xk_43), ((341, false), xk_9)]
theorem xc_84 {l : Launch} {D : va_G} {ad : Nat → Nat} {cT : Nat → ClassId} {tys : List (ClassId × FieldType)} (hty : ys_Ty tys cT yk_sh) : ys_Con l D vwCl ad cT yk_sh tys yG xk_84 := ys_method (calls := xa_84) (Z := xq_84) 3000 (by decide +kernel) yz_X12_shatter_ok hty (yl_lkX12 _) (List.forall_mem_cons.mpr ⟨⟨xc_43 hty, yg_CLs yl_wX12_133 yd_yX12_in⟩, List.forall_mem_cons.mpr ⟨⟨xc_9 hty, yg_CLv rfl rfl rfl yl_wX12_341 yd_yX12_findSets⟩, fun _ h => absurd h List.not_mem_nil⟩⟩) (by decide +kernel)
def xf_85 : ys_F := ((yk_fm 0), (ys_rs yk_rm [(91, (((-1), 0), [(3, ((-1), (-1))), (2, ((-1), (-1))), (1, ((-1), (-1))), (0, ((-1), (-1)))]))]))
def xk_85 : ys_K := (((yX12_told, cX12_told, 2, (some .int)), (0, 0)), ([.inr (some 85), .inl (.inl ([], (-4)))], ([] ++ yk_em, []), xf_85), ([([], [], ((ys_fs xf_85.1 [(85, 1, .inl (.inl ([], (-4))))]), xf_85.2), some (.inl (.inl ([], (-4)))))], []))
def xq_85 : ys_Q := (yz_X12_told, (yl_flX12, yl_ciX12, yl_cjX12, yl_cpX12), [])
def xa_85 : ys_CA := []
theorem xc_85 {l : Launch} {D : va_G} {ad : Nat → Nat} {cT : Nat → ClassId} {tys : List (ClassId × FieldType)} (hty : ys_Ty tys cT yk_sh) : ys_Con l D vwCl ad cT yk_sh tys yG xk_85 := ys_method (calls := xa_85) (Z := xq_85) 3000 (by decide +kernel) yz_X12_told_ok hty (yl_lkX12 _) (fun _ h => absurd h List.not_mem_nil) (by decide +kernel)
def xf_86 : ys_F := ((yk_fm 1), (ys_rs yk_rm [(91, ((0, 3), [(3, ((-1), 3)), (2, ((-1), 3)), (1, ((-1), 3)), (0, ((-1), 3))])), (92, ((0, 100), []))]))
def xk_86 : ys_K := (((yX12_told, cX12_told, 2, (some .int)), (0, 0)), ([.inr (some 85), .inl (.inl ([(0, 1)], 0))], ([(0, 100)] ++ yk_em, []), xf_86), ([([], [], (xf_86.1, xf_86.2), some (.inl (.inl ([(0, 1)], 0))))], []))
def xq_86 : ys_Q := (yz_X12_told, (yl_flX12, yl_ciX12, yl_cjX12, yl_cpX12), [])
def xa_86 : ys_CA := []
theorem xc_86 {l : Launch} {D : va_G} {ad : Nat → Nat} {cT : Nat → ClassId} {tys : List (ClassId × FieldType)} (hty : ys_Ty tys cT yk_sh) : ys_Con l D vwCl ad cT yk_sh tys yG xk_86 := ys_method (calls := xa_86) (Z := xq_86) 3000 (by decide +kernel) yz_X12_told_ok hty (yl_lkX12 _) (fun _ h => absurd h List.not_mem_nil) (by decide +kernel)
def xf_87 : ys_F := ((yk_fm 3), yk_rm)
def xk_87 : ys_K := (((yX12_sheet, cX12_sheet, 5, (some .int)), (2, 45)), ([.inr (some 85), .inl (.inl ([(0, 1)], 0)), .inl (.inl ([(1, 1)], 0)), .inl (.inl ([(2, 1)], 0))], ([((-2147483648), 2147483647), ((-2147483648), 2147483647), ((-2147483648), 2147483647)] ++ yk_em, []), xf_87), ([([], [([(0, 1)], 0), ([(0, (-1))], 3), ([(1, (-1))], (-1))], ((ys_fs xf_87.1 [(85, 1, .inl (.inl ([], (-1))))]), xf_87.2), some (.inl (.inl ([], (-1))))), ([], [([(0, 1)], 0), ([(0, (-1))], 3), ([(1, 1)], (-4))], ((ys_fs xf_87.1 [(85, 1, .inl (.inl ([], (-1))))]), xf_87.2), some (.inl (.inl ([], (-1))))), ([], [([(0, 1)], 0), ([(0, (-1))], 3), ([(1, 1)], 0), ([(1, (-1))], 3), ([(2, 1)], (-101))], ((ys_fs xf_87.1 [(85, 1, .inl (.inl ([], (-1))))]), xf_87.2), some (.inl (.inl ([], (-1))))), ([], [([(0, 1)], (-4))], ((ys_fs xf_87.1 [(85, 1, .inl (.inl ([], (-1))))]), xf_87.2), some (.inl (.inl ([], (-1))))), ([], [([(0, (-1))], (-1))], ((ys_fs xf_87.1 [(85, 1, .inl (.inl ([], (-1))))]), xf_87.2), some (.inl (.inl ([], (-1))))), ([], [([(0, 1)], 0), ([(0, (-1))], 3), ([(1, 1)], 0), ([(1, (-1))], 3), ([(2, (-1))], (-1))], ((ys_fs xf_87.1 [(85, 1, .inl (.inl ([], (-4))))]), (ys_rs xf_87.2 [(91, (((-1), 0), [(3, ((-1), (-1))), (2, ((-1), (-1))), (1, ((-1), (-1))), (0, ((-1), (-1)))]))])), some (.inl (.inl ([], (-4))))), ([], [([(0, 1)], 0), ([(0, (-1))], 3), ([(1, 1)], 0), ([(1, (-1))], 3), ([(2, 1)], 0), ([(2, (-1))], 100)], (xf_87.1, (ys_rs xf_87.2 [(91, ((0, 3), [(3, ((-1), 3)), (2, ((-1), 3)), (1, ((-1), 3)), (0, ((-1), 3))])), (92, ((0, 100), []))])), some (.inl (.inl ([(2, 1)], 0))))], [90, 91, 92]))
def xq_87 : ys_Q := (yz_X12_sheet, (yl_flX12, yl_ciX12, yl_cjX12, yl_cpX12), [(69, [], [([(0, 1)], 0), ([(0, (-1))], 3), ([(1, 1)], 0), ([(1, (-1))], 3), ([(2, (-1))], (-1))], (xf_87.1, (ys_rs xf_87.2 [(91, (((-1), 0), [(3, ((-1), (-1))), (2, ((-1), (-1))), (1, ((-1), (-1))), (0, ((-1), (-1)))]))])), [(0, .inr (some 85)), (1, .inl (.inl ([(0, 1)], 0))), (3, .inl (.inl ([(2, 1)], 0))), (4, .inl (.inl ([], 0)))], [], ([], 100)), (69, [], [([(0, 1)], 0), ([(0, (-1))], 3), ([(1, 1)], 0), ([(1, (-1))], 3), ([(2, 1)], 0), ([(2, (-1))], 100)], (xf_87.1, (ys_rs xf_87.2 [(91, ((0, 3), [(3, ((-1), 3)), (2, ((-1), 3)), (1, ((-1), 3)), (0, ((-1), 3))])), (92, ((0, 100), []))])), [(0, .inr (some 85)), (1, .inl (.inl ([(0, 1)], 0))), (3, .inl (.inl ([(2, 1)], 0))), (4, .inl (.inl ([], 0)))], [], ([], 100)), (69, [], [([(0, 1)], 0), ([(0, (-1))], 3), ([(1, 1)], 0), ([(1, (-1))], 3), ([(2, (-1))], (-1))], (xf_87.1, (ys_rs xf_87.2 [(91, (((-1), 0), [(3, ((-1), (-1))), (2, ((-1), (-1))), (1, ((-1), (-1))), (0, ((-1), (-1)))]))])), [(0, .inr (some 85)), (1, .inl (.inl ([(0, 1)], 0))), (3, .inl (.inl ([(2, 1)], 0))), (4, .inl (.inl ([], 1)))], [], ([], 99)), (69, [], [([(0, 1)], 0), ([(0, (-1))], 3), ([(1, 1)], 0), ([(1, (-1))], 3), ([(2, 1)], 0), ([(2, (-1))], 100)], (xf_87.1, (ys_rs xf_87.2 [(91, ((0, 3), [(3, ((-1), 3)), (2, ((-1), 3)), (1, ((-1), 3)), (0, ((-1), 3))])), (92, ((0, 100), []))])), [(0, .inr (some 85)), (1, .inl (.inl ([(0, 1)], 0))), (3, .inl (.inl ([(2, 1)], 0))), (4, .inl (.inl ([], 1)))], [], ([], 99)), (69, [(2, 100)], [([(0, 1)], 0), ([(0, (-1))], 3), ([(1, 1)], 0), ([(1, (-1))], 3), ([(2, (-1))], (-1))], (xf_87.1, (ys_rs xf_87.2 [(91, (((-1), 0), [(3, ((-1), (-1))), (2, ((-1), (-1))), (1, ((-1), (-1))), (0, ((-1), (-1)))]))])), [(0, .inr (some 85)), (1, .inl (.inl ([(0, 1)], 0))), (3, .inl (.inl ([(2, 1)], 0))), (4, .inl (.inl ([(95, 1)], 0)))], [], ([(95, (-1))], 100)), (69, [(2, 100)], [([(0, 1)], 0), ([(0, (-1))], 3), ([(1, 1)], 0), ([(1, (-1))], 3), ([(2, 1)], 0), ([(2, (-1))], 100)], (xf_87.1, (ys_rs xf_87.2 [(91, ((0, 3), [(3, ((-1), 3)), (2, ((-1), 3)), (1, ((-1), 3)), (0, ((-1), 3))])), (92, ((0, 100), []))])), [(0, .inr (some 85)), (1, .inl (.inl ([(0, 1)], 0))), (3, .inl (.inl ([(2, 1)], 0))), (4, .inl (.inl ([(95, 1)], 0)))], [], ([(95, (-1))], 100))])
def xa_87 : ys_CA := [((157, true), xk_18), ((133, true), xk_17), ((141, false), xk_2), ((141, false), xk_85), ((141, false), xk_86)]
theorem xc_87 {l : Launch} {D : va_G} {ad : Nat → Nat} {cT : Nat → ClassId} {tys : List (ClassId × FieldType)} (hty : ys_Ty tys cT yk_sh) : ys_Con l D vwCl ad cT yk_sh tys yG xk_87 := ys_method (calls := xa_87) (Z := xq_87) 3000 (by decide +kernel) yz_X12_sheet_ok hty (yl_lkX12 _) (List.forall_mem_cons.mpr ⟨⟨xc_18 hty, yg_CLs yl_wX12_157 yd_yX12_isSheet⟩, List.forall_mem_cons.mpr ⟨⟨xc_17 hty, yg_CLs yl_wX12_133 yd_yX12_in⟩, List.forall_mem_cons.mpr ⟨⟨xc_2 hty, yg_CLv rfl rfl rfl yl_wX12_141 yd_yX12_told⟩, List.forall_mem_cons.mpr ⟨⟨xc_85 hty, yg_CLv rfl rfl rfl yl_wX12_141 yd_yX12_told⟩, List.forall_mem_cons.mpr ⟨⟨xc_86 hty, yg_CLv rfl rfl rfl yl_wX12_141 yd_yX12_told⟩, fun _ h => absurd h List.not_mem_nil⟩⟩⟩⟩⟩) (by decide +kernel)
def xf_88 : ys_F := ((ys_fs (yk_fm 0) [(85, 20, .inl (.inr ([], 1))), (85, 21, .inl (.inr ([], 1)))]), yk_rm)
def xk_88 : ys_K := (((yX12_many, cX12_many, 4, (some .int)), (0, 0)), ([.inr (some 85), .inl (.inl ([], 0))], ([] ++ yk_em, []), xf_88), ([([], [], (xf_88.1, xf_88.2), some (.inl (.inl ([], 0))))], []))
def xq_88 : ys_Q := (yz_X12_many, (yl_flX12, yl_ciX12, yl_cjX12, yl_cpX12), [(4, [], [], (xf_88.1, xf_88.2), [(0, .inr (some 85)), (1, .inl (.inl ([], 0))), (2, .inl (.inl ([], 0))), (3, .inl (.inl ([], 0)))], [], ([], 0))])
def xa_88 : ys_CA := []
theorem xc_88 {l : Launch} {D : va_G} {ad : Nat → Nat} {cT : Nat → ClassId} {tys : List (ClassId × FieldType)} (hty : ys_Ty tys cT yk_sh) : ys_Con l D vwCl ad cT yk_sh tys yG xk_88 := ys_method (calls := xa_88) (Z := xq_88) 3000 (by decide +kernel) yz_X12_many_ok hty (yl_lkX12 _) (fun _ h => absurd h List.not_mem_nil) (by decide +kernel)
def xf_89 : ys_F := ((yk_fm 0), yk_rm)
def xk_89 : ys_K := (((yX12_findWay, cX12_findWay, 9, none), (1, 23)), ([.inr (some 85)], ([] ++ yk_em, []), xf_89), ([([], [], ((ys_fs xf_89.1 [(85, 20, .inl (.inr ([], 1))), (85, 21, .inl (.inr ([], 1)))]), xf_89.2), none)], []))
def xq_89 : ys_Q := (yz_X12_findWay, (yl_flX12, yl_ciX12, yl_cjX12, yl_cpX12), [])
def xa_89 : ys_CA := [((298, false), xk_88)]
theorem xc_89 {l : Launch} {D : va_G} {ad : Nat → Nat} {cT : Nat → ClassId} {tys : List (ClassId × FieldType)} (hty : ys_Ty tys cT yk_sh) : ys_Con l D vwCl ad cT yk_sh tys yG xk_89 := ys_method (calls := xa_89) (Z := xq_89) 3000 (by decide +kernel) yz_X12_findWay_ok hty (yl_lkX12 _) (List.forall_mem_cons.mpr ⟨⟨xc_88 hty, yg_CLv rfl rfl rfl yl_wX12_298 yd_yX12_many⟩, fun _ h => absurd h List.not_mem_nil⟩) (by decide +kernel)
def xf_90 : ys_F := ((ys_fs (yk_fm 1) [(85, 20, .inl (.inr ([], 1))), (85, 21, .inl (.inr ([], 1)))]), yk_rm)
def xk_90 : ys_K := (((yX12_in, cX12_in, 6, (some .boolean)), (0, 0)), ([.inl (.inr ([(0, 1)], 0)), .inl (.inr ([], 0)), .inl (.inr ([], (-1)))], ([((-2147483648), 2147483647)] ++ yk_em, []), xf_90), ([([], [([(0, 1)], 0)], (xf_90.1, xf_90.2), some (.inl (.inl ([], 0)))), ([], [([(0, (-1))], (-1))], (xf_90.1, xf_90.2), some (.inl (.inl ([], 0))))], []))
def xq_90 : ys_Q := (yz_X12_in, (yl_flX12, yl_ciX12, yl_cjX12, yl_cpX12), [])
def xa_90 : ys_CA := []
theorem xc_90 {l : Launch} {D : va_G} {ad : Nat → Nat} {cT : Nat → ClassId} {tys : List (ClassId × FieldType)} (hty : ys_Ty tys cT yk_sh) : ys_Con l D vwCl ad cT yk_sh tys yG xk_90 := ys_method (calls := xa_90) (Z := xq_90) 3000 (by decide +kernel) yz_X12_in_ok hty (yl_lkX12 _) (fun _ h => absurd h List.not_mem_nil) (by decide +kernel)
def xf_91 : ys_F := ((ys_fs (yk_fm 1) [(85, 20, .inl (.inr ([], 1))), (85, 21, .inl (.inr ([], 1)))]), yk_rm)
def xk_91 : ys_K := (((yX12_isPoint, cX12_isPoint, 2, (some .boolean)), (1, 25)), ([.inr (some 85), .inl (.inl ([(0, 1)], 0))], ([((-2147483648), 2147483647)] ++ yk_em, []), xf_91), ([([], [([(0, (-1))], (-1))], (xf_91.1, xf_91.2), some (.inl (.inl ([], 0)))), ([], [([(0, 1)], 0)], (xf_91.1, xf_91.2), some (.inl (.inl ([], 0))))], []))
def xq_91 : ys_Q := (yz_X12_isPoint, (yl_flX12, yl_ciX12, yl_cjX12, yl_cpX12), [])
def xa_91 : ys_CA := [((133, true), xk_90)]
theorem xc_91 {l : Launch} {D : va_G} {ad : Nat → Nat} {cT : Nat → ClassId} {tys : List (ClassId × FieldType)} (hty : ys_Ty tys cT yk_sh) : ys_Con l D vwCl ad cT yk_sh tys yG xk_91 := ys_method (calls := xa_91) (Z := xq_91) 3000 (by decide +kernel) yz_X12_isPoint_ok hty (yl_lkX12 _) (List.forall_mem_cons.mpr ⟨⟨xc_90 hty, yg_CLs yl_wX12_133 yd_yX12_in⟩, fun _ h => absurd h List.not_mem_nil⟩) (by decide +kernel)
def xf_92 : ys_F := ((yk_fm 1), yk_rm)
def xk_92 : ys_K := (((yX12_side, cX12_side, 2, (some .int)), (2, 51)), ([.inr (some 85), .inl (.inl ([(0, 1)], 0))], ([((-2147483648), 2147483647)] ++ yk_em, []), xf_92), ([([], [([(0, 1)], 0)], ((ys_fs xf_92.1 [(85, 20, .inl (.inr ([], 1))), (85, 21, .inl (.inr ([], 1)))]), xf_92.2), some (.inl (.inl ([], (-1))))), ([], [([(0, (-1))], (-1))], ((ys_fs xf_92.1 [(85, 20, .inl (.inr ([], 1))), (85, 21, .inl (.inr ([], 1)))]), xf_92.2), some (.inl (.inl ([], (-1)))))], []))
def xq_92 : ys_Q := (yz_X12_side, (yl_flX12, yl_ciX12, yl_cjX12, yl_cpX12), [])
def xa_92 : ys_CA := [((307, false), xk_89), ((149, false), xk_91)]
theorem xc_92 {l : Launch} {D : va_G} {ad : Nat → Nat} {cT : Nat → ClassId} {tys : List (ClassId × FieldType)} (hty : ys_Ty tys cT yk_sh) : ys_Con l D vwCl ad cT yk_sh tys yG xk_92 := ys_method (calls := xa_92) (Z := xq_92) 3000 (by decide +kernel) yz_X12_side_ok hty (yl_lkX12 _) (List.forall_mem_cons.mpr ⟨⟨xc_89 hty, yg_CLv rfl rfl rfl yl_wX12_307 yd_yX12_findWay⟩, List.forall_mem_cons.mpr ⟨⟨xc_91 hty, yg_CLv rfl rfl rfl yl_wX12_149 yd_yX12_isPoint⟩, fun _ h => absurd h List.not_mem_nil⟩⟩) (by decide +kernel)
def xf_93 : ys_F := ((yk_fm 0), yk_rm)
def xk_93 : ys_K := (((yX12_status, cX12_status, 1, (some .int)), (0, 0)), ([.inr (some 85)], ([] ++ yk_em, []), xf_93), ([([], [], (xf_93.1, xf_93.2), some (.inl (.inl ([], 0))))], []))
def xq_93 : ys_Q := (yz_X12_status, (yl_flX12, yl_ciX12, yl_cjX12, yl_cpX12), [])
def xa_93 : ys_CA := []
theorem xc_93 {l : Launch} {D : va_G} {ad : Nat → Nat} {cT : Nat → ClassId} {tys : List (ClassId × FieldType)} (hty : ys_Ty tys cT yk_sh) : ys_Con l D vwCl ad cT yk_sh tys yG xk_93 := ys_method (calls := xa_93) (Z := xq_93) 3000 (by decide +kernel) yz_X12_status_ok hty (yl_lkX12 _) (fun _ h => absurd h List.not_mem_nil) (by decide +kernel)
def xf_94 : ys_F := ((yk_fm 2), yk_rm)
def xk_94 : ys_K := (((yX12_step, cX12_step, 3, (some .long)), (1, 25)), ([.inr (some 85), .inl (.inl ([(0, 1)], 0)), .inl (.inl ([(1, 1)], 0))], ([((-2147483648), 2147483647), ((-2147483648), 2147483647)] ++ yk_em, []), xf_94), ([([], [([(0, (-1))], (-1))], (xf_94.1, xf_94.2), some (.inl (.inr ([], (-1000000))))), ([], [([(0, 1)], 0)], (xf_94.1, xf_94.2), some (.inl (.inr ([], (-1000000)))))], []))
def xq_94 : ys_Q := (yz_X12_step, (yl_flX12, yl_ciX12, yl_cjX12, yl_cpX12), [])
def xa_94 : ys_CA := [((133, true), xk_26)]
theorem xc_94 {l : Launch} {D : va_G} {ad : Nat → Nat} {cT : Nat → ClassId} {tys : List (ClassId × FieldType)} (hty : ys_Ty tys cT yk_sh) : ys_Con l D vwCl ad cT yk_sh tys yG xk_94 := ys_method (calls := xa_94) (Z := xq_94) 3000 (by decide +kernel) yz_X12_step_ok hty (yl_lkX12 _) (List.forall_mem_cons.mpr ⟨⟨xc_26 hty, yg_CLs yl_wX12_133 yd_yX12_in⟩, fun _ h => absurd h List.not_mem_nil⟩) (by decide +kernel)
def xf_95 : ys_F := ((yk_fm 1), yk_rm)
def xk_95 : ys_K := (((yX12_in, cX12_in, 6, (some .boolean)), (0, 0)), ([.inl (.inr ([(0, 1)], 0)), .inl (.inr ([], 1)), .inl (.inr ([], 12))], ([((-2147483648), 2147483647)] ++ yk_em, []), xf_95), ([([], [([(0, 1)], (-1)), ([(0, (-1))], 12)], (xf_95.1, xf_95.2), some (.inl (.inl ([], 1)))), ([], [([(0, 1)], (-13))], (xf_95.1, xf_95.2), some (.inl (.inl ([], 0)))), ([], [([(0, (-1))], 0)], (xf_95.1, xf_95.2), some (.inl (.inl ([], 0))))], []))
def xq_95 : ys_Q := (yz_X12_in, (yl_flX12, yl_ciX12, yl_cjX12, yl_cpX12), [])
def xa_95 : ys_CA := []
theorem xc_95 {l : Launch} {D : va_G} {ad : Nat → Nat} {cT : Nat → ClassId} {tys : List (ClassId × FieldType)} (hty : ys_Ty tys cT yk_sh) : ys_Con l D vwCl ad cT yk_sh tys yG xk_95 := ys_method (calls := xa_95) (Z := xq_95) 3000 (by decide +kernel) yz_X12_in_ok hty (yl_lkX12 _) (fun _ h => absurd h List.not_mem_nil) (by decide +kernel)
def xf_96 : ys_F := ((yk_fm 1), yk_rm)
def xk_96 : ys_K := (((yX12_strong, cX12_strong, 3, (some .int)), (1, 25)), ([.inr (some 85), .inl (.inl ([(0, 1)], 0))], ([((-2147483648), 2147483647)] ++ yk_em, []), xf_96), ([([], [([(0, (-1))], 0)], ((ys_fs xf_96.1 [(85, 1, .inl (.inl ([], (-1))))]), xf_96.2), some (.inl (.inl ([], (-1))))), ([], [([(0, 1)], (-13))], ((ys_fs xf_96.1 [(85, 1, .inl (.inl ([], (-1))))]), xf_96.2), some (.inl (.inl ([], (-1))))), ([], [([(0, 1)], (-1)), ([(0, (-1))], 12)], ((ys_fs xf_96.1 [(85, 1, .inl (.inl ([], (-6))))]), xf_96.2), some (.inl (.inl ([], (-6)))))], []))
def xq_96 : ys_Q := (yz_X12_strong, (yl_flX12, yl_ciX12, yl_cjX12, yl_cpX12), [])
def xa_96 : ys_CA := [((133, true), xk_95), ((141, false), xk_2), ((141, false), xk_3)]
theorem xc_96 {l : Launch} {D : va_G} {ad : Nat → Nat} {cT : Nat → ClassId} {tys : List (ClassId × FieldType)} (hty : ys_Ty tys cT yk_sh) : ys_Con l D vwCl ad cT yk_sh tys yG xk_96 := ys_method (calls := xa_96) (Z := xq_96) 3000 (by decide +kernel) yz_X12_strong_ok hty (yl_lkX12 _) (List.forall_mem_cons.mpr ⟨⟨xc_95 hty, yg_CLs yl_wX12_133 yd_yX12_in⟩, List.forall_mem_cons.mpr ⟨⟨xc_2 hty, yg_CLv rfl rfl rfl yl_wX12_141 yd_yX12_told⟩, List.forall_mem_cons.mpr ⟨⟨xc_3 hty, yg_CLv rfl rfl rfl yl_wX12_141 yd_yX12_told⟩, fun _ h => absurd h List.not_mem_nil⟩⟩⟩) (by decide +kernel)
def xf_97 : ys_F := ((yk_fm 1), yk_rm)
def xk_97 : ys_K := (((yX12_in, cX12_in, 6, (some .boolean)), (0, 0)), ([.inl (.inr ([(0, 1)], 0)), .inl (.inr ([], 1)), .inl (.inr ([], 40))], ([((-2147483648), 2147483647)] ++ yk_em, []), xf_97), ([([], [([(0, 1)], (-1)), ([(0, (-1))], 40)], (xf_97.1, xf_97.2), some (.inl (.inl ([], 1)))), ([], [([(0, 1)], (-41))], (xf_97.1, xf_97.2), some (.inl (.inl ([], 0)))), ([], [([(0, (-1))], 0)], (xf_97.1, xf_97.2), some (.inl (.inl ([], 0))))], []))
def xq_97 : ys_Q := (yz_X12_in, (yl_flX12, yl_ciX12, yl_cjX12, yl_cpX12), [])
def xa_97 : ys_CA := []
theorem xc_97 {l : Launch} {D : va_G} {ad : Nat → Nat} {cT : Nat → ClassId} {tys : List (ClassId × FieldType)} (hty : ys_Ty tys cT yk_sh) : ys_Con l D vwCl ad cT yk_sh tys yG xk_97 := ys_method (calls := xa_97) (Z := xq_97) 3000 (by decide +kernel) yz_X12_in_ok hty (yl_lkX12 _) (fun _ h => absurd h List.not_mem_nil) (by decide +kernel)
def xf_98 : ys_F := ((yk_fm 4), yk_rm)
def xk_98 : ys_K := (((yX12_take, cX12_take, 10, (some .int)), (2, 45)), ([.inr (some 85), .inl (.inl ([(0, 1)], 0)), .inl (.inl ([(1, 1)], 0)), .inl (.inl ([(2, 1)], 0)), .inl (.inl ([(3, 1)], 0))], ([((-2147483648), 2147483647), ((-2147483648), 2147483647), ((-2147483648), 2147483647), ((-2147483648), 2147483647)] ++ yk_em, []), xf_98), ([([], [([(0, 1)], 0), ([(0, (-1))], 3), ([(3, (-1))], (-1))], ((ys_fs xf_98.1 [(85, 1, .inl (.inl ([], (-1))))]), xf_98.2), some (.inl (.inl ([], (-1))))), ([], [([(0, 1)], 0), ([(0, (-1))], 3), ([(3, 1)], (-2))], ((ys_fs xf_98.1 [(85, 1, .inl (.inl ([], (-1))))]), xf_98.2), some (.inl (.inl ([], (-1))))), ([], [([(0, 1)], 0), ([(0, (-1))], 3), ([(2, (-1))], 0), ([(3, 1)], 0), ([(3, (-1))], 1)], ((ys_fs xf_98.1 [(85, 1, .inl (.inl ([], (-1))))]), xf_98.2), some (.inl (.inl ([], (-1))))), ([], [([(0, 1)], 0), ([(0, (-1))], 3), ([(2, 1)], (-41)), ([(3, 1)], 0), ([(3, (-1))], 1)], ((ys_fs xf_98.1 [(85, 1, .inl (.inl ([], (-1))))]), xf_98.2), some (.inl (.inl ([], (-1))))), ([], [([(0, 1)], 0), ([(0, (-1))], 0), ([(2, 1)], (-1)), ([(2, (-1))], 40), ([(3, 1)], 0), ([(3, (-1))], 1)], ((ys_fs xf_98.1 [(85, 1, .inl (.inl ([], (-2))))]), xf_98.2), some (.inl (.inl ([], (-2))))), ([], [([(0, 1)], (-1)), ([(0, (-1))], 1), ([(2, 1)], (-1)), ([(2, (-1))], 40), ([(3, 1)], 0), ([(3, (-1))], 1)], ((ys_fs xf_98.1 [(85, 1, .inl (.inl ([], (-2))))]), xf_98.2), some (.inl (.inl ([], (-2))))), ([], [([(0, 1)], (-2)), ([(0, (-1))], 2), ([(2, 1)], (-1)), ([(2, (-1))], 40), ([(3, 1)], 0), ([(3, (-1))], 1)], ((ys_fs xf_98.1 [(85, 1, .inl (.inl ([], (-2))))]), xf_98.2), some (.inl (.inl ([], (-2))))), ([], [([(0, 1)], (-3)), ([(0, (-1))], 3), ([(2, 1)], (-1)), ([(2, (-1))], 40), ([(3, 1)], 0), ([(3, (-1))], 1)], ((ys_fs xf_98.1 [(85, 1, .inl (.inl ([], (-2))))]), xf_98.2), some (.inl (.inl ([], (-2))))), ([], [([(0, 1)], (-4))], ((ys_fs xf_98.1 [(85, 1, .inl (.inl ([], (-1))))]), xf_98.2), some (.inl (.inl ([], (-1))))), ([], [([(0, (-1))], (-1))], ((ys_fs xf_98.1 [(85, 1, .inl (.inl ([], (-1))))]), xf_98.2), some (.inl (.inl ([], (-1)))))], []))
def xq_98 : ys_Q := (yz_X12_take, (yl_flX12, yl_ciX12, yl_cjX12, yl_cpX12), [])
def xa_98 : ys_CA := [((157, true), xk_18), ((133, true), xk_7), ((141, false), xk_2), ((133, true), xk_97), ((141, false), xk_19)]
theorem xc_98 {l : Launch} {D : va_G} {ad : Nat → Nat} {cT : Nat → ClassId} {tys : List (ClassId × FieldType)} (hty : ys_Ty tys cT yk_sh) : ys_Con l D vwCl ad cT yk_sh tys yG xk_98 := ys_method (calls := xa_98) (Z := xq_98) 3000 (by decide +kernel) yz_X12_take_ok hty (yl_lkX12 _) (List.forall_mem_cons.mpr ⟨⟨xc_18 hty, yg_CLs yl_wX12_157 yd_yX12_isSheet⟩, List.forall_mem_cons.mpr ⟨⟨xc_7 hty, yg_CLs yl_wX12_133 yd_yX12_in⟩, List.forall_mem_cons.mpr ⟨⟨xc_2 hty, yg_CLv rfl rfl rfl yl_wX12_141 yd_yX12_told⟩, List.forall_mem_cons.mpr ⟨⟨xc_97 hty, yg_CLs yl_wX12_133 yd_yX12_in⟩, List.forall_mem_cons.mpr ⟨⟨xc_19 hty, yg_CLv rfl rfl rfl yl_wX12_141 yd_yX12_told⟩, fun _ h => absurd h List.not_mem_nil⟩⟩⟩⟩⟩) (by decide +kernel)
def xf_99 : ys_F := ((yk_fm 2), yk_rm)
def xk_99 : ys_K := (((yX12_vote, cX12_vote, 5, (some .int)), (0, 0)), ([.inr (some 85), .inl (.inl ([(0, 1)], 0)), .inl (.inl ([(1, 1)], 0))], ([((-2147483648), 2147483647), ((-2147483648), 2147483647)] ++ yk_em, []), xf_99), ([([], [], (xf_99.1, xf_99.2), some (.inl (.inl ([], 2))))], []))
def xq_99 : ys_Q := (yz_X12_vote, (yl_flX12, yl_ciX12, yl_cjX12, yl_cpX12), [])
def xa_99 : ys_CA := []
theorem xc_99 {l : Launch} {D : va_G} {ad : Nat → Nat} {cT : Nat → ClassId} {tys : List (ClassId × FieldType)} (hty : ys_Ty tys cT yk_sh) : ys_Con l D vwCl ad cT yk_sh tys yG xk_99 := ys_method (calls := xa_99) (Z := xq_99) 3000 (by decide +kernel) yz_X12_vote_ok hty (yl_lkX12 _) (fun _ h => absurd h List.not_mem_nil) (by decide +kernel)
def xf_100 : ys_F := ((yk_fm 1), yk_rm)
def xk_100 : ys_K := (((yX12_ways, cX12_ways, 4, (some .int)), (2, 46)), ([.inr (some 85), .inl (.inl ([(0, 1)], 0))], ([((-2147483648), 2147483647)] ++ yk_em, []), xf_100), ([([], [([(0, 1)], (-1)), ([(0, (-1))], 12)], (xf_100.1, xf_100.2), some (.inl (.inl ([], (-1))))), ([], [([(0, 1)], (-13))], (xf_100.1, xf_100.2), some (.inl (.inl ([], (-1))))), ([], [([(0, (-1))], (-1))], (xf_100.1, xf_100.2), some (.inl (.inl ([], (-1))))), ([], [([(0, 1)], 0), ([(0, (-1))], 0)], (xf_100.1, (ys_rs xf_100.2 [(97, ((0, 0), [(0, (1, 1)), (1, (0, 0))]))])), some (.inl (.inl ([], 1))))], [97]))
def xq_100 : ys_Q := (yz_X12_ways, (yl_flX12, yl_ciX12, yl_cjX12, yl_cpX12), [(28, [], [([(0, 1)], 0), ([(0, (-1))], 0)], (xf_100.1, (ys_rs xf_100.2 [(97, ((0, 0), [(0, (1, 1)), (1, (0, 0))]))])), [(0, .inr (some 85)), (2, .inl (.inl ([], 0))), (3, .inl (.inl ([], 0)))], [], ([], 4096)), (28, [], [([(0, 1)], 0), ([(0, (-1))], 0)], (xf_100.1, (ys_rs xf_100.2 [(97, ((0, 0), [(0, (1, 1)), (1, (0, 0))]))])), [(0, .inr (some 85)), (2, .inl (.inl ([], 1))), (3, .inl (.inl ([], 1)))], [], ([], 4095)), (28, [(2, 4096)], [([(0, 1)], 0), ([(0, (-1))], 0)], (xf_100.1, (ys_rs xf_100.2 [(97, ((0, 0), [(0, (1, 1)), (1, (0, 0))]))])), [(0, .inr (some 85)), (2, .inl (.inl ([], 1))), (3, .inl (.inl ([(93, 1)], 0)))], [], ([(93, (-1))], 4096))])
def xa_100 : ys_CA := [((338, false), xk_6), ((341, false), xk_9)]
theorem xc_100 {l : Launch} {D : va_G} {ad : Nat → Nat} {cT : Nat → ClassId} {tys : List (ClassId × FieldType)} (hty : ys_Ty tys cT yk_sh) : ys_Con l D vwCl ad cT yk_sh tys yG xk_100 := ys_method (calls := xa_100) (Z := xq_100) 3000 (by decide +kernel) yz_X12_ways_ok hty (yl_lkX12 _) (List.forall_mem_cons.mpr ⟨⟨xc_6 hty, yg_CLv rfl rfl rfl yl_wX12_338 yd_yX12_isMany⟩, List.forall_mem_cons.mpr ⟨⟨xc_9 hty, yg_CLv rfl rfl rfl yl_wX12_341 yd_yX12_findSets⟩, fun _ h => absurd h List.not_mem_nil⟩⟩) (by decide +kernel)
def xf_101 : ys_F := ((yk_fm 1), yk_rm)
def xk_101 : ys_K := (((yX12_in, cX12_in, 6, (some .boolean)), (0, 0)), ([.inl (.inr ([(0, 1)], 0)), .inl (.inr ([], 0)), .inl (.inr ([], 5))], ([((-2147483648), 2147483647)] ++ yk_em, []), xf_101), ([([], [([(0, 1)], 0), ([(0, (-1))], 5)], (xf_101.1, xf_101.2), some (.inl (.inl ([], 1)))), ([], [([(0, 1)], (-6))], (xf_101.1, xf_101.2), some (.inl (.inl ([], 0)))), ([], [([(0, (-1))], (-1))], (xf_101.1, xf_101.2), some (.inl (.inl ([], 0))))], []))
def xq_101 : ys_Q := (yz_X12_in, (yl_flX12, yl_ciX12, yl_cjX12, yl_cpX12), [])
def xa_101 : ys_CA := []
theorem xc_101 {l : Launch} {D : va_G} {ad : Nat → Nat} {cT : Nat → ClassId} {tys : List (ClassId × FieldType)} (hty : ys_Ty tys cT yk_sh) : ys_Con l D vwCl ad cT yk_sh tys yG xk_101 := ys_method (calls := xa_101) (Z := xq_101) 3000 (by decide +kernel) yz_X12_in_ok hty (yl_lkX12 _) (fun _ h => absurd h List.not_mem_nil) (by decide +kernel)
def xf_102 : ys_F := ((yk_fm 1), yk_rm)
def xk_102 : ys_K := (((yX12_wide, cX12_wide, 12, (some .long)), (2, 51)), ([.inr (some 85), .inl (.inl ([(0, 1)], 0))], ([((-2147483648), 2147483647)] ++ yk_em, []), xf_102), ([([], [([(0, (-1))], (-1))], (xf_102.1, xf_102.2), some (.inl (.inr ([], (-1))))), ([], [([(0, 1)], (-6))], (xf_102.1, xf_102.2), some (.inl (.inr ([], (-1))))), ([], [([(0, 1)], 0), ([(0, (-1))], 5)], ((ys_fs xf_102.1 [(85, 20, .inl (.inr ([], 1))), (85, 21, .inl (.inr ([], 1)))]), xf_102.2), some (.inl (.inr ([], (-6)))))], []))
def xq_102 : ys_Q := (yz_X12_wide, (yl_flX12, yl_ciX12, yl_cjX12, yl_cpX12), [])
def xa_102 : ys_CA := [((133, true), xk_101), ((307, false), xk_89)]
theorem xc_102 {l : Launch} {D : va_G} {ad : Nat → Nat} {cT : Nat → ClassId} {tys : List (ClassId × FieldType)} (hty : ys_Ty tys cT yk_sh) : ys_Con l D vwCl ad cT yk_sh tys yG xk_102 := ys_method (calls := xa_102) (Z := xq_102) 3000 (by decide +kernel) yz_X12_wide_ok hty (yl_lkX12 _) (List.forall_mem_cons.mpr ⟨⟨xc_101 hty, yg_CLs yl_wX12_133 yd_yX12_in⟩, List.forall_mem_cons.mpr ⟨⟨xc_89 hty, yg_CLv rfl rfl rfl yl_wX12_307 yd_yX12_findWay⟩, fun _ h => absurd h List.not_mem_nil⟩⟩) (by decide +kernel)
def xf_103 : ys_F := ((yk_fm 3), yk_rm)
def xk_103 : ys_K := (((yX12_write, cX12_write, 5, (some .int)), (2, 45)), ([.inr (some 85), .inl (.inl ([(0, 1)], 0)), .inl (.inl ([(1, 1)], 0)), .inl (.inr ([(2, 1)], 0))], ([((-2147483648), 2147483647), ((-2147483648), 2147483647), ((-9223372036854775808), 9223372036854775807)] ++ yk_em, []), xf_103), ([([], [([(0, 1)], 0), ([(0, (-1))], 0)], ((ys_fs xf_103.1 [(85, 1, .inl (.inl ([], (-2))))]), xf_103.2), some (.inl (.inl ([], (-2))))), ([], [([(0, 1)], (-1)), ([(0, (-1))], 1)], ((ys_fs xf_103.1 [(85, 1, .inl (.inl ([], (-2))))]), xf_103.2), some (.inl (.inl ([], (-2))))), ([], [([(0, 1)], (-2)), ([(0, (-1))], 2)], ((ys_fs xf_103.1 [(85, 1, .inl (.inl ([], (-2))))]), xf_103.2), some (.inl (.inl ([], (-2))))), ([], [([(0, 1)], (-3)), ([(0, (-1))], 3)], ((ys_fs xf_103.1 [(85, 1, .inl (.inl ([], (-2))))]), xf_103.2), some (.inl (.inl ([], (-2))))), ([], [([(0, 1)], (-4))], ((ys_fs xf_103.1 [(85, 1, .inl (.inl ([], (-1))))]), xf_103.2), some (.inl (.inl ([], (-1))))), ([], [([(0, (-1))], (-1))], ((ys_fs xf_103.1 [(85, 1, .inl (.inl ([], (-1))))]), xf_103.2), some (.inl (.inl ([], (-1)))))], []))
def xq_103 : ys_Q := (yz_X12_write, (yl_flX12, yl_ciX12, yl_cjX12, yl_cpX12), [])
def xa_103 : ys_CA := [((157, true), xk_18), ((141, false), xk_19), ((141, false), xk_2)]
theorem xc_103 {l : Launch} {D : va_G} {ad : Nat → Nat} {cT : Nat → ClassId} {tys : List (ClassId × FieldType)} (hty : ys_Ty tys cT yk_sh) : ys_Con l D vwCl ad cT yk_sh tys yG xk_103 := ys_method (calls := xa_103) (Z := xq_103) 3000 (by decide +kernel) yz_X12_write_ok hty (yl_lkX12 _) (List.forall_mem_cons.mpr ⟨⟨xc_18 hty, yg_CLs yl_wX12_157 yd_yX12_isSheet⟩, List.forall_mem_cons.mpr ⟨⟨xc_19 hty, yg_CLv rfl rfl rfl yl_wX12_141 yd_yX12_told⟩, List.forall_mem_cons.mpr ⟨⟨xc_2 hty, yg_CLv rfl rfl rfl yl_wX12_141 yd_yX12_told⟩, fun _ h => absurd h List.not_mem_nil⟩⟩⟩) (by decide +kernel)
def xf_104 : ys_F := (yk_f0, yk_r0)
def xk_104 : ys_K := (((yX3_forget, cX3_forget, 1, none), (0, 0)), ([.inr (some 10)], ([], []), xf_104), ([([], [], (xf_104.1, xf_104.2), none)], []))
def xq_104 : ys_Q := (yz_X3_forget, (yl_flX3, yl_ciX3, yl_cjX3, yl_cpX3), [])
def xa_104 : ys_CA := []
theorem xc_104 {l : Launch} {D : va_G} {ad : Nat → Nat} {cT : Nat → ClassId} {tys : List (ClassId × FieldType)} (hty : ys_Ty tys cT yk_sh) : ys_Con l D vwCl ad cT yk_sh tys yG xk_104 := ys_method (calls := xa_104) (Z := xq_104) 3000 (by decide +kernel) yz_X3_forget_ok hty (yl_lkX3 _) (fun _ h => absurd h List.not_mem_nil) (by decide +kernel)
def xf_105 : ys_F := (yk_f0, yk_r0)
def xk_105 : ys_K := (((yX11_anew, cX11_anew, 1, (some .int)), (1, 20)), ([.inr (some 0)], ([], []), xf_105), ([([], [], (xf_105.1, xf_105.2), some (.inl (.inl ([], 0))))], []))
def xq_105 : ys_Q := (yz_X11_anew, (yl_flX11, yl_ciX11, yl_cjX11, yl_cpX11), [])
def xa_105 : ys_CA := [((307, false), xk_104)]
theorem xc_105 {l : Launch} {D : va_G} {ad : Nat → Nat} {cT : Nat → ClassId} {tys : List (ClassId × FieldType)} (hty : ys_Ty tys cT yk_sh) : ys_Con l D vwCl ad cT yk_sh tys yG xk_105 := ys_method (calls := xa_105) (Z := xq_105) 3000 (by decide +kernel) yz_X11_anew_ok hty (yl_lkX11 _) (List.forall_mem_cons.mpr ⟨⟨xc_104 hty, yg_CLv rfl rfl rfl yl_wX11_307 yd_yX3_forget⟩, fun _ h => absurd h List.not_mem_nil⟩) (by decide +kernel)
def xf_106 : ys_F := (yk_f0, yk_r0)
def xk_106 : ys_K := (((yX11_isImage, cX11_isImage, 1, (some .boolean)), (0, 0)), ([.inl (.inl ([(0, 1)], 0))], ([((-2147483648), 2147483647)], []), xf_106), ([([], [([(0, 1)], 0), ([(0, (-1))], 2)], (xf_106.1, xf_106.2), some (.inl (.inl ([], 1)))), ([], [([(0, 1)], (-3))], (xf_106.1, xf_106.2), some (.inl (.inl ([], 0)))), ([], [([(0, (-1))], (-1))], (xf_106.1, xf_106.2), some (.inl (.inl ([], 0))))], []))
def xq_106 : ys_Q := (yz_X11_isImage, (yl_flX11, yl_ciX11, yl_cjX11, yl_cpX11), [])
def xa_106 : ys_CA := []
theorem xc_106 {l : Launch} {D : va_G} {ad : Nat → Nat} {cT : Nat → ClassId} {tys : List (ClassId × FieldType)} (hty : ys_Ty tys cT yk_sh) : ys_Con l D vwCl ad cT yk_sh tys yG xk_106 := ys_method (calls := xa_106) (Z := xq_106) 3000 (by decide +kernel) yz_X11_isImage_ok hty (yl_lkX11 _) (fun _ h => absurd h List.not_mem_nil) (by decide +kernel)
def xf_107 : ys_F := (yk_f0, yk_r0)
def xk_107 : ys_K := (((yX11_told, cX11_told, 2, (some .int)), (0, 0)), ([.inr (some 0), .inl (.inl ([], (-1)))], ([], []), xf_107), ([([], [], ((ys_fs xf_107.1 [(0, 14, .inl (.inl ([], (-1))))]), xf_107.2), some (.inl (.inl ([], (-1)))))], []))
def xq_107 : ys_Q := (yz_X11_told, (yl_flX11, yl_ciX11, yl_cjX11, yl_cpX11), [])
def xa_107 : ys_CA := []
theorem xc_107 {l : Launch} {D : va_G} {ad : Nat → Nat} {cT : Nat → ClassId} {tys : List (ClassId × FieldType)} (hty : ys_Ty tys cT yk_sh) : ys_Con l D vwCl ad cT yk_sh tys yG xk_107 := ys_method (calls := xa_107) (Z := xq_107) 3000 (by decide +kernel) yz_X11_told_ok hty (yl_lkX11 _) (fun _ h => absurd h List.not_mem_nil) (by decide +kernel)
def xf_108 : ys_F := (yk_f0, yk_r0)
def xk_108 : ys_K := (((yX11_told, cX11_told, 2, (some .int)), (0, 0)), ([.inr (some 0), .inl (.inl ([], (-6)))], ([], []), xf_108), ([([], [], ((ys_fs xf_108.1 [(0, 14, .inl (.inl ([], (-6))))]), xf_108.2), some (.inl (.inl ([], (-6)))))], []))
def xq_108 : ys_Q := (yz_X11_told, (yl_flX11, yl_ciX11, yl_cjX11, yl_cpX11), [])
def xa_108 : ys_CA := []
theorem xc_108 {l : Launch} {D : va_G} {ad : Nat → Nat} {cT : Nat → ClassId} {tys : List (ClassId × FieldType)} (hty : ys_Ty tys cT yk_sh) : ys_Con l D vwCl ad cT yk_sh tys yG xk_108 := ys_method (calls := xa_108) (Z := xq_108) 3000 (by decide +kernel) yz_X11_told_ok hty (yl_lkX11 _) (fun _ h => absurd h List.not_mem_nil) (by decide +kernel)
def xf_109 : ys_F := (yk_f0, yk_r0)
def xk_109 : ys_K := (((yX11_back, cX11_back, 2, (some .int)), (1, 21)), ([.inr (some 0), .inl (.inl ([(0, 1)], 0))], ([((-2147483648), 2147483647)], []), xf_109), ([([], [([(0, (-1))], (-1))], ((ys_fs xf_109.1 [(0, 14, .inl (.inl ([], (-1))))]), xf_109.2), some (.inl (.inl ([], (-1))))), ([], [([(0, 1)], (-3))], ((ys_fs xf_109.1 [(0, 14, .inl (.inl ([], (-1))))]), xf_109.2), some (.inl (.inl ([], (-1))))), ([], [([(0, 1)], 0), ([(0, (-1))], 2)], ((ys_fs xf_109.1 [(0, 14, .inl (.inl ([], (-6))))]), xf_109.2), some (.inl (.inl ([], (-6)))))], []))
def xq_109 : ys_Q := (yz_X11_back, (yl_flX11, yl_ciX11, yl_cjX11, yl_cpX11), [])
def xa_109 : ys_CA := [((377, true), xk_106), ((107, false), xk_107), ((107, false), xk_108)]
theorem xc_109 {l : Launch} {D : va_G} {ad : Nat → Nat} {cT : Nat → ClassId} {tys : List (ClassId × FieldType)} (hty : ys_Ty tys cT yk_sh) : ys_Con l D vwCl ad cT yk_sh tys yG xk_109 := ys_method (calls := xa_109) (Z := xq_109) 3000 (by decide +kernel) yz_X11_back_ok hty (yl_lkX11 _) (List.forall_mem_cons.mpr ⟨⟨xc_106 hty, yg_CLs yl_wX11_377 yd_yX11_isImage⟩, List.forall_mem_cons.mpr ⟨⟨xc_107 hty, yg_CLv rfl rfl rfl yl_wX11_107 yd_yX11_told⟩, List.forall_mem_cons.mpr ⟨⟨xc_108 hty, yg_CLv rfl rfl rfl yl_wX11_107 yd_yX11_told⟩, fun _ h => absurd h List.not_mem_nil⟩⟩⟩) (by decide +kernel)
def xf_110 : ys_F := (yk_f0, yk_r0)
def xk_110 : ys_K := (((yX11_canPartFirst, cX11_canPartFirst, 2, (some .boolean)), (0, 0)), ([.inr (some 0), .inl (.inl ([(0, 1)], 0))], ([((-2147483648), 2147483647)], []), xf_110), ([([], [([(0, 1)], 0), ([(0, (-1))], 0)], (xf_110.1, xf_110.2), some (.inl (.inl ([], 1)))), ([], [([(0, 1)], (-1)), ([(0, (-1))], 12)], (xf_110.1, xf_110.2), some (.inl (.inl ([], 0)))), ([], [([(0, 1)], (-13))], (xf_110.1, xf_110.2), some (.inl (.inl ([], 0)))), ([], [([(0, (-1))], (-1))], (xf_110.1, xf_110.2), some (.inl (.inl ([], 0))))], []))
def xq_110 : ys_Q := (yz_X11_canPartFirst, (yl_flX11, yl_ciX11, yl_cjX11, yl_cpX11), [])
def xa_110 : ys_CA := []
theorem xc_110 {l : Launch} {D : va_G} {ad : Nat → Nat} {cT : Nat → ClassId} {tys : List (ClassId × FieldType)} (hty : ys_Ty tys cT yk_sh) : ys_Con l D vwCl ad cT yk_sh tys yG xk_110 := ys_method (calls := xa_110) (Z := xq_110) 3000 (by decide +kernel) yz_X11_canPartFirst_ok hty (yl_lkX11 _) (fun _ h => absurd h List.not_mem_nil) (by decide +kernel)
def xf_111 : ys_F := (yk_f0, yk_r0)
def xk_111 : ys_K := (((yJ7_fill_d0a16, cJ7_fill_d0a16, 5, none), (0, 0)), ([.inr (some 30), .inl (.inr ([], 0))], ([], []), xf_111), ([([], [], (xf_111.1, (ys_rs xf_111.2 [(30, ((0, 0), [(0, (0, 0)), (1, (0, 0))]))])), none)], [30]))
def xq_111 : ys_Q := (yz_J7_fill_d0a16, (yl_flJ7, yl_ciJ7, yl_cjJ7, yl_cpJ7), [(6, [], [], (xf_111.1, xf_111.2), [(0, .inr (some 30)), (1, .inl (.inr ([], 0))), (3, .inl (.inl ([], 0))), (4, .inl (.inl ([], 64)))], [], ([], 64)), (6, [], [], (xf_111.1, (ys_rs xf_111.2 [(30, ((0, 0), [(0, (0, 0))]))])), [(0, .inr (some 30)), (1, .inl (.inr ([], 0))), (3, .inl (.inl ([], 1))), (4, .inl (.inl ([], 64)))], [], ([], 63)), (6, [(2, 64)], [], (xf_111.1, (ys_rs xf_111.2 [(30, ((0, 0), [(0, (0, 0)), (1, (0, 0))]))])), [(0, .inr (some 30)), (1, .inl (.inr ([], 0))), (3, .inl (.inl ([(0, 1)], 0))), (4, .inl (.inl ([], 64)))], [], ([(0, (-1))], 64))])
def xa_111 : ys_CA := []
theorem xc_111 {l : Launch} {D : va_G} {ad : Nat → Nat} {cT : Nat → ClassId} {tys : List (ClassId × FieldType)} (hty : ys_Ty tys cT yk_sh) : ys_Con l D vwCl ad cT yk_sh tys yG xk_111 := ys_method (calls := xa_111) (Z := xq_111) 3000 (by decide +kernel) yz_J7_fill_d0a16_ok hty (yl_lkJ7 _) (fun _ h => absurd h List.not_mem_nil) (by decide +kernel)
def xf_112 : ys_F := (yk_f0, (ys_rs yk_r0 [(30, ((0, 0), [(0, (0, 0)), (1, (0, 0))]))]))
def xk_112 : ys_K := (((yX5_mark, cX5_mark, 2, none), (0, 0)), ([.inr (some 29), .inl (.inl ([], 0))], ([], []), xf_112), ([([], [], (xf_112.1, (ys_rs xf_112.2 [(30, ((0, 0), [(0, (1, 1)), (1, (0, 0))]))])), none)], [30]))
def xq_112 : ys_Q := (yz_X5_mark, (yl_flX5, yl_ciX5, yl_cjX5, yl_cpX5), [])
def xa_112 : ys_CA := []
theorem xc_112 {l : Launch} {D : va_G} {ad : Nat → Nat} {cT : Nat → ClassId} {tys : List (ClassId × FieldType)} (hty : ys_Ty tys cT yk_sh) : ys_Con l D vwCl ad cT yk_sh tys yG xk_112 := ys_method (calls := xa_112) (Z := xq_112) 3000 (by decide +kernel) yz_X5_mark_ok hty (yl_lkX5 _) (fun _ h => absurd h List.not_mem_nil) (by decide +kernel)
def xf_113 : ys_F := (yk_f0, (ys_rs yk_r0 [(30, ((0, 0), [(0, (1, 1)), (1, (0, 0))]))]))
def xk_113 : ys_K := (((yX5_mark, cX5_mark, 2, none), (0, 0)), ([.inr (some 29), .inl (.inl ([], 0))], ([], []), xf_113), ([([], [], (xf_113.1, xf_113.2), none)], [30]))
def xq_113 : ys_Q := (yz_X5_mark, (yl_flX5, yl_ciX5, yl_cjX5, yl_cpX5), [])
def xa_113 : ys_CA := []
theorem xc_113 {l : Launch} {D : va_G} {ad : Nat → Nat} {cT : Nat → ClassId} {tys : List (ClassId × FieldType)} (hty : ys_Ty tys cT yk_sh) : ys_Con l D vwCl ad cT yk_sh tys yG xk_113 := ys_method (calls := xa_113) (Z := xq_113) 3000 (by decide +kernel) yz_X5_mark_ok hty (yl_lkX5 _) (fun _ h => absurd h List.not_mem_nil) (by decide +kernel)
def xf_114 : ys_F := (yk_f0, (ys_rs yk_r0 [(30, ((0, 0), [(0, (0, 0)), (1, (0, 0))]))]))
def xk_114 : ys_K := (((yX5_markBoth, cX5_markBoth, 2, none), (1, 21)), ([.inr (some 29), .inl (.inl ([], 0))], ([], []), xf_114), ([([], [], (xf_114.1, (ys_rs xf_114.2 [(30, ((0, 0), [(0, (1, 1)), (1, (0, 0))]))])), none)], [30]))
def xq_114 : ys_Q := (yz_X5_markBoth, (yl_flX5, yl_ciX5, yl_cjX5, yl_cpX5), [])
def xa_114 : ys_CA := [((52, false), xk_112), ((52, false), xk_113)]
theorem xc_114 {l : Launch} {D : va_G} {ad : Nat → Nat} {cT : Nat → ClassId} {tys : List (ClassId × FieldType)} (hty : ys_Ty tys cT yk_sh) : ys_Con l D vwCl ad cT yk_sh tys yG xk_114 := ys_method (calls := xa_114) (Z := xq_114) 3000 (by decide +kernel) yz_X5_markBoth_ok hty (yl_lkX5 _) (List.forall_mem_cons.mpr ⟨⟨xc_112 hty, yg_CLv rfl rfl rfl yl_wX5_52 yd_yX5_mark⟩, List.forall_mem_cons.mpr ⟨⟨xc_113 hty, yg_CLv rfl rfl rfl yl_wX5_52 yd_yX5_mark⟩, fun _ h => absurd h List.not_mem_nil⟩⟩) (by decide +kernel)
def xf_115 : ys_F := (yk_f0, yk_r0)
def xk_115 : ys_K := (((yX5_find, cX5_find, 5, none), (2, 42)), ([.inr (some 29), .inr (some 1), .inl (.inl ([], 0))], ([], []), xf_115), ([([], [], (xf_115.1, (ys_rs xf_115.2 [(30, ((0, 0), [(0, (1, 1)), (1, (0, 0))]))])), none)], [30]))
def xq_115 : ys_Q := (yz_X5_find, (yl_flX5, yl_ciX5, yl_cjX5, yl_cpX5), [(24, [], [], (xf_115.1, (ys_rs xf_115.2 [(30, ((0, 0), [(0, (1, 1)), (1, (0, 0))]))])), [(0, .inr (some 29)), (1, .inr (some 1)), (2, .inl (.inl ([], 0))), (3, .inl (.inl ([], 0)))], [], ([], 2))])
def xa_115 : ys_CA := [((25, true), xk_111), ((31, false), xk_114)]
theorem xc_115 {l : Launch} {D : va_G} {ad : Nat → Nat} {cT : Nat → ClassId} {tys : List (ClassId × FieldType)} (hty : ys_Ty tys cT yk_sh) : ys_Con l D vwCl ad cT yk_sh tys yG xk_115 := ys_method (calls := xa_115) (Z := xq_115) 3000 (by decide +kernel) yz_X5_find_ok hty (yl_lkX5 _) (List.forall_mem_cons.mpr ⟨⟨xc_111 hty, yg_CLs yl_wX5_25 yd_yJ7_fill_d0a16⟩, List.forall_mem_cons.mpr ⟨⟨xc_114 hty, yg_CLv rfl rfl rfl yl_wX5_31 yd_yX5_markBoth⟩, fun _ h => absurd h List.not_mem_nil⟩⟩) (by decide +kernel)
def xf_116 : ys_F := ((ys_fs yk_f0 [(29, 0, .inl (.inl ([], 12001)))]), (ys_rs yk_r0 [(30, ((0, 0), [(0, (1, 1)), (1, (0, 0))]))]))
def xk_116 : ys_K := (((yX5_isMarked, cX5_isMarked, 2, (some .boolean)), (0, 0)), ([.inr (some 29), .inl (.inl ([], 0))], ([], []), xf_116), ([([], [], (xf_116.1, xf_116.2), some (.inl (.inl ([], 1))))], []))
def xq_116 : ys_Q := (yz_X5_isMarked, (yl_flX5, yl_ciX5, yl_cjX5, yl_cpX5), [])
def xa_116 : ys_CA := []
theorem xc_116 {l : Launch} {D : va_G} {ad : Nat → Nat} {cT : Nat → ClassId} {tys : List (ClassId × FieldType)} (hty : ys_Ty tys cT yk_sh) : ys_Con l D vwCl ad cT yk_sh tys yG xk_116 := ys_method (calls := xa_116) (Z := xq_116) 3000 (by decide +kernel) yz_X5_isMarked_ok hty (yl_lkX5 _) (fun _ h => absurd h List.not_mem_nil) (by decide +kernel)
def xf_117 : ys_F := ((ys_fs yk_f0 [(29, 0, .inl (.inl ([], 12001)))]), (ys_rs yk_r0 [(30, ((0, 0), [(0, (1, 1)), (1, (0, 0))]))]))
def xk_117 : ys_K := (((yX5_wrongBy, cX5_wrongBy, 5, (some .int)), (0, 0)), ([.inr (some 1), .inl (.inl ([], 0)), .inl (.inl ([], 0))], ([], []), xf_117), ([([], [], (xf_117.1, xf_117.2), some (.inl (.inl ([], 0))))], []))
def xq_117 : ys_Q := (yz_X5_wrongBy, (yl_flX5, yl_ciX5, yl_cjX5, yl_cpX5), [(5, [], [], (xf_117.1, xf_117.2), [(0, .inr (some 1)), (1, .inl (.inl ([], 0))), (2, .inl (.inl ([], 0))), (3, .inl (.inl ([], 0))), (4, .inl (.inl ([], 0)))], [], ([], 0))])
def xa_117 : ys_CA := []
theorem xc_117 {l : Launch} {D : va_G} {ad : Nat → Nat} {cT : Nat → ClassId} {tys : List (ClassId × FieldType)} (hty : ys_Ty tys cT yk_sh) : ys_Con l D vwCl ad cT yk_sh tys yG xk_117 := ys_method (calls := xa_117) (Z := xq_117) 3000 (by decide +kernel) yz_X5_wrongBy_ok hty (yl_lkX5 _) (fun _ h => absurd h List.not_mem_nil) (by decide +kernel)
def xf_118 : ys_F := (yk_f0, (ys_rs yk_r0 [(30, ((0, 0), [(0, (1, 1)), (1, (0, 0))]))]))
def xk_118 : ys_K := (((yX5_findLeastWrong, cX5_findLeastWrong, 5, none), (1, 24)), ([.inr (some 29), .inr (some 1), .inl (.inl ([], 0))], ([], []), xf_118), ([([], [], (xf_118.1, xf_118.2), none)], []))
def xq_118 : ys_Q := (yz_X5_findLeastWrong, (yl_flX5, yl_ciX5, yl_cjX5, yl_cpX5), [(9, [], [], ((ys_fs xf_118.1 [(29, 0, .inl (.inl ([], 12001)))]), xf_118.2), [(0, .inr (some 29)), (1, .inr (some 1)), (2, .inl (.inl ([], 0))), (3, .inl (.inl ([], 0)))], [], ([], 1)), (9, [], [], (xf_118.1, xf_118.2), [(0, .inr (some 29)), (1, .inr (some 1)), (2, .inl (.inl ([], 0))), (3, .inl (.inl ([], 1)))], [], ([], 0))])
def xa_118 : ys_CA := [((61, false), xk_116), ((65, true), xk_117)]
theorem xc_118 {l : Launch} {D : va_G} {ad : Nat → Nat} {cT : Nat → ClassId} {tys : List (ClassId × FieldType)} (hty : ys_Ty tys cT yk_sh) : ys_Con l D vwCl ad cT yk_sh tys yG xk_118 := ys_method (calls := xa_118) (Z := xq_118) 3000 (by decide +kernel) yz_X5_findLeastWrong_ok hty (yl_lkX5 _) (List.forall_mem_cons.mpr ⟨⟨xc_116 hty, yg_CLv rfl rfl rfl yl_wX5_61 yd_yX5_isMarked⟩, List.forall_mem_cons.mpr ⟨⟨xc_117 hty, yg_CLs yl_wX5_65 yd_yX5_wrongBy⟩, fun _ h => absurd h List.not_mem_nil⟩⟩) (by decide +kernel)
def xf_119 : ys_F := (yk_f0, yk_r0)
def xk_119 : ys_K := (((yX11_best, cX11_best, 3, (some .int)), (3, 66)), ([.inr (some 0), .inl (.inl ([(0, 1)], 0)), .inl (.inl ([(1, 1)], 0))], ([((-2147483648), 2147483647), ((-2147483648), 2147483647)], []), xf_119), ([([], [([(0, (-1))], (-1))], (xf_119.1, xf_119.2), some (.inl (.inl ([], (-1))))), ([], [([(0, 1)], (-13))], (xf_119.1, xf_119.2), some (.inl (.inl ([], (-1))))), ([], [([(0, 1)], (-1)), ([(0, (-1))], 12)], (xf_119.1, xf_119.2), some (.inl (.inl ([], (-1))))), ([], [([(0, 1)], 0), ([(0, (-1))], 0), ([(1, 1)], (-2))], (xf_119.1, xf_119.2), some (.inl (.inl ([], (-1))))), ([], [([(0, 1)], 0), ([(0, (-1))], 0), ([(1, 1)], 0), ([(1, (-1))], 0)], (xf_119.1, (ys_rs xf_119.2 [(30, ((0, 0), [(0, (1, 1)), (1, (0, 0))]))])), some (.inl (.inl ([], 0)))), ([], [([(0, 1)], 0), ([(0, (-1))], 0), ([(1, 1)], (-1)), ([(1, (-1))], 1)], (xf_119.1, (ys_rs xf_119.2 [(30, ((0, 0), [(0, (1, 1)), (1, (0, 0))]))])), some (.inl (.inl ([], 0)))), ([], [([(0, 1)], 0), ([(0, (-1))], 0), ([(1, (-1))], (-1))], (xf_119.1, xf_119.2), some (.inl (.inl ([], (-1)))))], [30]))
def xq_119 : ys_Q := (yz_X11_best, (yl_flX11, yl_ciX11, yl_cjX11, yl_cpX11), [])
def xa_119 : ys_CA := [((254, false), xk_110), ((257, false), xk_115), ((270, false), xk_118)]
theorem xc_119 {l : Launch} {D : va_G} {ad : Nat → Nat} {cT : Nat → ClassId} {tys : List (ClassId × FieldType)} (hty : ys_Ty tys cT yk_sh) : ys_Con l D vwCl ad cT yk_sh tys yG xk_119 := ys_method (calls := xa_119) (Z := xq_119) 3000 (by decide +kernel) yz_X11_best_ok hty (yl_lkX11 _) (List.forall_mem_cons.mpr ⟨⟨xc_110 hty, yg_CLv rfl rfl rfl yl_wX11_254 yd_yX11_canPartFirst⟩, List.forall_mem_cons.mpr ⟨⟨xc_115 hty, yg_CLv rfl rfl rfl yl_wX11_257 yd_yX5_find⟩, List.forall_mem_cons.mpr ⟨⟨xc_118 hty, yg_CLv rfl rfl rfl yl_wX11_270 yd_yX5_findLeastWrong⟩, fun _ h => absurd h List.not_mem_nil⟩⟩⟩) (by decide +kernel)
def xf_120 : ys_F := (yk_f0, yk_r0)
def xk_120 : ys_K := (((yX6_tally, cX6_tally, 4, (some .int)), (0, 0)), ([.inr (some 1), .inl (.inl ([], 1))], ([], []), xf_120), ([([], [], (xf_120.1, xf_120.2), some (.inl (.inl ([], 0))))], []))
def xq_120 : ys_Q := (yz_X6_tally, (yl_flX6, yl_ciX6, yl_cjX6, yl_cpX6), [(4, [], [], (xf_120.1, xf_120.2), [(0, .inr (some 1)), (1, .inl (.inl ([], 1))), (2, .inl (.inl ([], 0))), (3, .inl (.inl ([], 0)))], [], ([], 0))])
def xa_120 : ys_CA := []
theorem xc_120 {l : Launch} {D : va_G} {ad : Nat → Nat} {cT : Nat → ClassId} {tys : List (ClassId × FieldType)} (hty : ys_Ty tys cT yk_sh) : ys_Con l D vwCl ad cT yk_sh tys yG xk_120 := ys_method (calls := xa_120) (Z := xq_120) 3000 (by decide +kernel) yz_X6_tally_ok hty (yl_lkX6 _) (fun _ h => absurd h List.not_mem_nil) (by decide +kernel)
def xf_121 : ys_F := (yk_f0, yk_r0)
def xk_121 : ys_K := (((yX6_coloursShareAPlace, cX6_coloursShareAPlace, 3, (some .boolean)), (0, 0)), ([.inr (some 1)], ([], []), xf_121), ([([], [], (xf_121.1, xf_121.2), some (.inl (.inl ([], 0))))], []))
def xq_121 : ys_Q := (yz_X6_coloursShareAPlace, (yl_flX6, yl_ciX6, yl_cjX6, yl_cpX6), [(2, [], [], (xf_121.1, xf_121.2), [(0, .inr (some 1)), (1, .inl (.inl ([], 0)))], [], ([], 2))])
def xa_121 : ys_CA := []
theorem xc_121 {l : Launch} {D : va_G} {ad : Nat → Nat} {cT : Nat → ClassId} {tys : List (ClassId × FieldType)} (hty : ys_Ty tys cT yk_sh) : ys_Con l D vwCl ad cT yk_sh tys yG xk_121 := ys_method (calls := xa_121) (Z := xq_121) 3000 (by decide +kernel) yz_X6_coloursShareAPlace_ok hty (yl_lkX6 _) (fun _ h => absurd h List.not_mem_nil) (by decide +kernel)
def xf_122 : ys_F := (yk_f0, yk_r0)
def xk_122 : ys_K := (((yX0_gather, cX0_gather, 3, none), (0, 0)), ([.inr (some 43), .inr (some 1)], ([], []), xf_122), ([([], [], (xf_122.1, xf_122.2), none)], []))
def xq_122 : ys_Q := (yz_X0_gather, (yl_flX0, yl_ciX0, yl_cjX0, yl_cpX0), [(7, [], [], (xf_122.1, xf_122.2), [(0, .inr (some 43)), (1, .inr (some 1)), (2, .inl (.inl ([], 0)))], [], ([], 0))])
def xa_122 : ys_CA := []
theorem xc_122 {l : Launch} {D : va_G} {ad : Nat → Nat} {cT : Nat → ClassId} {tys : List (ClassId × FieldType)} (hty : ys_Ty tys cT yk_sh) : ys_Con l D vwCl ad cT yk_sh tys yG xk_122 := ys_method (calls := xa_122) (Z := xq_122) 3000 (by decide +kernel) yz_X0_gather_ok hty (yl_lkX0 _) (fun _ h => absurd h List.not_mem_nil) (by decide +kernel)
def xf_123 : ys_F := (yk_f0, yk_r0)
def xk_123 : ys_K := (((yJ7_fill_031fb, cJ7_fill_031fb, 4, none), (0, 0)), ([.inr (some 46), .inl (.inl ([], 100))], ([], []), xf_123), ([([], [], (xf_123.1, (ys_rs xf_123.2 [(46, ((0, 100), [(0, (100, 100)), (1, (100, 100))]))])), none)], [46]))
def xq_123 : ys_Q := (yz_J7_fill_031fb, (yl_flJ7, yl_ciJ7, yl_cjJ7, yl_cpJ7), [(5, [], [], (xf_123.1, xf_123.2), [(0, .inr (some 46)), (1, .inl (.inl ([], 100))), (2, .inl (.inl ([], 0))), (3, .inl (.inl ([], 4096)))], [], ([], 4096)), (5, [], [], (xf_123.1, (ys_rs xf_123.2 [(46, ((0, 0), [(0, (100, 100))]))])), [(0, .inr (some 46)), (1, .inl (.inl ([], 100))), (2, .inl (.inl ([], 1))), (3, .inl (.inl ([], 4096)))], [], ([], 4095)), (5, [(2, 4096)], [], (xf_123.1, (ys_rs xf_123.2 [(46, ((0, 100), [(0, (100, 100)), (1, (100, 100))]))])), [(0, .inr (some 46)), (1, .inl (.inl ([], 100))), (2, .inl (.inl ([(0, 1)], 0))), (3, .inl (.inl ([], 4096)))], [], ([(0, (-1))], 4096))])
def xa_123 : ys_CA := []
theorem xc_123 {l : Launch} {D : va_G} {ad : Nat → Nat} {cT : Nat → ClassId} {tys : List (ClassId × FieldType)} (hty : ys_Ty tys cT yk_sh) : ys_Con l D vwCl ad cT yk_sh tys yG xk_123 := ys_method (calls := xa_123) (Z := xq_123) 3000 (by decide +kernel) yz_J7_fill_031fb_ok hty (yl_lkJ7 _) (fun _ h => absurd h List.not_mem_nil) (by decide +kernel)
def xf_124 : ys_F := (yk_f0, yk_r0)
def xk_124 : ys_K := (((yX0_fewest, cX0_fewest, 5, (some .int)), (1, 23)), ([.inr (some 43), .inr (some 1)], ([], []), xf_124), ([([], [], (xf_124.1, (ys_rs xf_124.2 [(46, ((0, 100), [(0, (0, 0)), (1, (100, 100))]))])), some (.inl (.inl ([], 0))))], [46]))
def xq_124 : ys_Q := (yz_X0_fewest, (yl_flX0, yl_ciX0, yl_cjX0, yl_cpX0), [(32, [], [], (xf_124.1, (ys_rs xf_124.2 [(46, ((0, 100), [(0, (0, 0)), (1, (100, 100))]))])), [(0, .inr (some 43)), (1, .inr (some 1)), (2, .inl (.inl ([], 0))), (3, .inl (.inl ([], 0)))], [], ([], 2))])
def xa_124 : ys_CA := [((29, false), xk_122), ((33, true), xk_123)]
theorem xc_124 {l : Launch} {D : va_G} {ad : Nat → Nat} {cT : Nat → ClassId} {tys : List (ClassId × FieldType)} (hty : ys_Ty tys cT yk_sh) : ys_Con l D vwCl ad cT yk_sh tys yG xk_124 := ys_method (calls := xa_124) (Z := xq_124) 3000 (by decide +kernel) yz_X0_fewest_ok hty (yl_lkX0 _) (List.forall_mem_cons.mpr ⟨⟨xc_122 hty, yg_CLv rfl rfl rfl yl_wX0_29 yd_yX0_gather⟩, List.forall_mem_cons.mpr ⟨⟨xc_123 hty, yg_CLs yl_wX0_33 yd_yJ7_fill_031fb⟩, fun _ h => absurd h List.not_mem_nil⟩⟩) (by decide +kernel)
def xf_125 : ys_F := (yk_f0, yk_r0)
def xk_125 : ys_K := (((yX11_boxes, cX11_boxes, 1, (some .int)), (2, 47)), ([.inr (some 0)], ([], []), xf_125), ([([], [], (xf_125.1, (ys_rs xf_125.2 [(46, ((0, 100), [(0, (0, 0)), (1, (100, 100))]))])), some (.inl (.inl ([], 0))))], [46]))
def xq_125 : ys_Q := (yz_X11_boxes, (yl_flX11, yl_ciX11, yl_cjX11, yl_cpX11), [])
def xa_125 : ys_CA := [((369, false), xk_120), ((371, false), xk_121), ((374, false), xk_124)]
theorem xc_125 {l : Launch} {D : va_G} {ad : Nat → Nat} {cT : Nat → ClassId} {tys : List (ClassId × FieldType)} (hty : ys_Ty tys cT yk_sh) : ys_Con l D vwCl ad cT yk_sh tys yG xk_125 := ys_method (calls := xa_125) (Z := xq_125) 3000 (by decide +kernel) yz_X11_boxes_ok hty (yl_lkX11 _) (List.forall_mem_cons.mpr ⟨⟨xc_120 hty, yg_CLv rfl rfl rfl yl_wX11_369 yd_yX6_tally⟩, List.forall_mem_cons.mpr ⟨⟨xc_121 hty, yg_CLv rfl rfl rfl yl_wX11_371 yd_yX6_coloursShareAPlace⟩, List.forall_mem_cons.mpr ⟨⟨xc_124 hty, yg_CLv rfl rfl rfl yl_wX11_374 yd_yX0_fewest⟩, fun _ h => absurd h List.not_mem_nil⟩⟩⟩) (by decide +kernel)
end
section
def xf_126 : ys_F := (yk_f0, yk_r0)
def xk_126 : ys_K := (((yX2_canBe, cX2_canBe, 1, (some .boolean)), (0, 0)), ([.inl (.inl ([(0, 1)], 0))], ([((-2147483648), 2147483647)], []), xf_126), ([([], [([(0, 1)], 1000000), ([(0, (-1))], 1000000)], (xf_126.1, xf_126.2), some (.inl (.inl ([], 1)))), ([], [([(0, 1)], (-1000001))], (xf_126.1, xf_126.2), some (.inl (.inl ([], 0)))), ([], [([(0, (-1))], (-1000001))], (xf_126.1, xf_126.2), some (.inl (.inl ([], 0))))], []))
def xq_126 : ys_Q := (yz_X2_canBe, (yl_flX2, yl_ciX2, yl_cjX2, yl_cpX2), [])
def xa_126 : ys_CA := []
theorem xc_126 {l : Launch} {D : va_G} {ad : Nat → Nat} {cT : Nat → ClassId} {tys : List (ClassId × FieldType)} (hty : ys_Ty tys cT yk_sh) : ys_Con l D vwCl ad cT yk_sh tys yG xk_126 := ys_method (calls := xa_126) (Z := xq_126) 3000 (by decide +kernel) yz_X2_canBe_ok hty (yl_lkX2 _) (fun _ h => absurd h List.not_mem_nil) (by decide +kernel)
def xf_127 : ys_F := (yk_f0, yk_r0)
def xk_127 : ys_K := (((yX2_isLine, cX2_isLine, 3, (some .boolean)), (1, 20)), ([.inl (.inl ([(0, 1)], 0)), .inl (.inl ([(1, 1)], 0)), .inl (.inl ([(2, 1)], 0))], ([((-2147483648), 2147483647), ((-2147483648), 2147483647), ((-2147483648), 2147483647)], []), xf_127), ([([], [([(0, (-1))], (-1000001))], (xf_127.1, xf_127.2), some (.inl (.inl ([], 0)))), ([], [([(0, 1)], (-1000001))], (xf_127.1, xf_127.2), some (.inl (.inl ([], 0)))), ([], [([(0, 1)], 1000000), ([(0, (-1))], 1000000), ([(1, (-1))], (-1000001))], (xf_127.1, xf_127.2), some (.inl (.inl ([], 0)))), ([], [([(0, 1)], 1000000), ([(0, (-1))], 1000000), ([(1, 1)], (-1000001))], (xf_127.1, xf_127.2), some (.inl (.inl ([], 0)))), ([], [([(0, 1)], 1000000), ([(0, (-1))], 1000000), ([(1, 1)], 1000000), ([(1, (-1))], 1000000), ([(2, (-1))], (-1000001))], (xf_127.1, xf_127.2), some (.inl (.inl ([], 0)))), ([], [([(0, 1)], 1000000), ([(0, (-1))], 1000000), ([(1, 1)], 1000000), ([(1, (-1))], 1000000), ([(2, 1)], (-1000001))], (xf_127.1, xf_127.2), some (.inl (.inl ([], 0)))), ([], [([(0, 1)], 0), ([(0, (-1))], 0), ([(1, 1)], 1000000), ([(1, (-1))], (-1)), ([(2, 1)], 1000000), ([(2, (-1))], 1000000)], (xf_127.1, xf_127.2), some (.inl (.inl ([], 1)))), ([], [([(0, 1)], 0), ([(0, (-1))], 0), ([(1, 1)], (-1)), ([(1, (-1))], 1000000), ([(2, 1)], 1000000), ([(2, (-1))], 1000000)], (xf_127.1, xf_127.2), some (.inl (.inl ([], 1)))), ([], [([(0, 1)], 0), ([(0, (-1))], 0), ([(1, 1)], 0), ([(1, (-1))], 0), ([(2, 1)], 1000000), ([(2, (-1))], 1000000)], (xf_127.1, xf_127.2), some (.inl (.inl ([], 0)))), ([], [([(0, 1)], 1000000), ([(0, (-1))], (-1)), ([(1, 1)], 1000000), ([(1, (-1))], 1000000), ([(2, 1)], 1000000), ([(2, (-1))], 1000000)], (xf_127.1, xf_127.2), some (.inl (.inl ([], 1)))), ([], [([(0, 1)], (-1)), ([(0, (-1))], 1000000), ([(1, 1)], 1000000), ([(1, (-1))], 1000000), ([(2, 1)], 1000000), ([(2, (-1))], 1000000)], (xf_127.1, xf_127.2), some (.inl (.inl ([], 1))))], []))
def xq_127 : ys_Q := (yz_X2_isLine, (yl_flX2, yl_ciX2, yl_cjX2, yl_cpX2), [])
def xa_127 : ys_CA := [((28, true), xk_126)]
theorem xc_127 {l : Launch} {D : va_G} {ad : Nat → Nat} {cT : Nat → ClassId} {tys : List (ClassId × FieldType)} (hty : ys_Ty tys cT yk_sh) : ys_Con l D vwCl ad cT yk_sh tys yG xk_127 := ys_method (calls := xa_127) (Z := xq_127) 3000 (by decide +kernel) yz_X2_isLine_ok hty (yl_lkX2 _) (List.forall_mem_cons.mpr ⟨⟨xc_126 hty, yg_CLs yl_wX2_28 yd_yX2_canBe⟩, fun _ h => absurd h List.not_mem_nil⟩) (by decide +kernel)
def xf_128 : ys_F := (yk_f0, yk_r0)
def xk_128 : ys_K := (((yX11_check, cX11_check, 9, (some .int)), (2, 42)), ([.inr (some 0), .inl (.inl ([(0, 1)], 0)), .inl (.inl ([(1, 1)], 0)), .inl (.inl ([(2, 1)], 0))], ([((-2147483648), 2147483647), ((-2147483648), 2147483647), ((-2147483648), 2147483647)], []), xf_128), ([([], [([(0, 1)], 0), ([(0, (-1))], 0), ([(1, 1)], 0), ([(1, (-1))], 0), ([(2, 1)], 1000000), ([(2, (-1))], 1000000)], (xf_128.1, xf_128.2), some (.inl (.inl ([], (-1))))), ([], [([(0, 1)], 1000000), ([(0, (-1))], 1000000), ([(1, 1)], 1000000), ([(1, (-1))], 1000000), ([(2, 1)], (-1000001))], (xf_128.1, xf_128.2), some (.inl (.inl ([], (-1))))), ([], [([(0, 1)], 1000000), ([(0, (-1))], 1000000), ([(1, 1)], 1000000), ([(1, (-1))], 1000000), ([(2, (-1))], (-1000001))], (xf_128.1, xf_128.2), some (.inl (.inl ([], (-1))))), ([], [([(0, 1)], 1000000), ([(0, (-1))], 1000000), ([(1, 1)], (-1000001))], (xf_128.1, xf_128.2), some (.inl (.inl ([], (-1))))), ([], [([(0, 1)], 1000000), ([(0, (-1))], 1000000), ([(1, (-1))], (-1000001))], (xf_128.1, xf_128.2), some (.inl (.inl ([], (-1))))), ([], [([(0, 1)], (-1000001))], (xf_128.1, xf_128.2), some (.inl (.inl ([], (-1))))), ([], [([(0, (-1))], (-1000001))], (xf_128.1, xf_128.2), some (.inl (.inl ([], (-1))))), ([], [([(0, 1)], (-1)), ([(0, (-1))], 1000000), ([(1, 1)], 1000000), ([(1, (-1))], 1000000), ([(2, 1)], 1000000), ([(2, (-1))], 1000000)], (xf_128.1, xf_128.2), some (.inl (.inl ([], 0)))), ([], [([(0, 1)], 1000000), ([(0, (-1))], (-1)), ([(1, 1)], 1000000), ([(1, (-1))], 1000000), ([(2, 1)], 1000000), ([(2, (-1))], 1000000)], (xf_128.1, xf_128.2), some (.inl (.inl ([], 0)))), ([], [([(0, 1)], 0), ([(0, (-1))], 0), ([(1, 1)], (-1)), ([(1, (-1))], 1000000), ([(2, 1)], 1000000), ([(2, (-1))], 1000000)], (xf_128.1, xf_128.2), some (.inl (.inl ([], 0)))), ([], [([(0, 1)], 0), ([(0, (-1))], 0), ([(1, 1)], 1000000), ([(1, (-1))], (-1)), ([(2, 1)], 1000000), ([(2, (-1))], 1000000)], (xf_128.1, xf_128.2), some (.inl (.inl ([], 0))))], []))
def xq_128 : ys_Q := (yz_X11_check, (yl_flX11, yl_ciX11, yl_cjX11, yl_cpX11), [(17, [], [([(0, 1)], (-1)), ([(0, (-1))], 1000000), ([(1, 1)], 1000000), ([(1, (-1))], 1000000), ([(2, 1)], 1000000), ([(2, (-1))], 1000000)], (xf_128.1, xf_128.2), [(0, .inr (some 0)), (1, .inl (.inl ([(0, 1)], 0))), (2, .inl (.inl ([(1, 1)], 0))), (3, .inl (.inl ([(2, 1)], 0))), (4, .inl (.inl ([], 0))), (5, .inl (.inl ([], 0)))], [], ([], 0)), (17, [], [([(0, 1)], 1000000), ([(0, (-1))], (-1)), ([(1, 1)], 1000000), ([(1, (-1))], 1000000), ([(2, 1)], 1000000), ([(2, (-1))], 1000000)], (xf_128.1, xf_128.2), [(0, .inr (some 0)), (1, .inl (.inl ([(0, 1)], 0))), (2, .inl (.inl ([(1, 1)], 0))), (3, .inl (.inl ([(2, 1)], 0))), (4, .inl (.inl ([], 0))), (5, .inl (.inl ([], 0)))], [], ([], 0)), (17, [], [([(0, 1)], 0), ([(0, (-1))], 0), ([(1, 1)], (-1)), ([(1, (-1))], 1000000), ([(2, 1)], 1000000), ([(2, (-1))], 1000000)], (xf_128.1, xf_128.2), [(0, .inr (some 0)), (1, .inl (.inl ([(0, 1)], 0))), (2, .inl (.inl ([(1, 1)], 0))), (3, .inl (.inl ([(2, 1)], 0))), (4, .inl (.inl ([], 0))), (5, .inl (.inl ([], 0)))], [], ([], 0)), (17, [], [([(0, 1)], 0), ([(0, (-1))], 0), ([(1, 1)], 1000000), ([(1, (-1))], (-1)), ([(2, 1)], 1000000), ([(2, (-1))], 1000000)], (xf_128.1, xf_128.2), [(0, .inr (some 0)), (1, .inl (.inl ([(0, 1)], 0))), (2, .inl (.inl ([(1, 1)], 0))), (3, .inl (.inl ([(2, 1)], 0))), (4, .inl (.inl ([], 0))), (5, .inl (.inl ([], 0)))], [], ([], 0))])
def xa_128 : ys_CA := [((246, true), xk_127)]
theorem xc_128 {l : Launch} {D : va_G} {ad : Nat → Nat} {cT : Nat → ClassId} {tys : List (ClassId × FieldType)} (hty : ys_Ty tys cT yk_sh) : ys_Con l D vwCl ad cT yk_sh tys yG xk_128 := ys_method (calls := xa_128) (Z := xq_128) 3000 (by decide +kernel) yz_X11_check_ok hty (yl_lkX11 _) (List.forall_mem_cons.mpr ⟨⟨xc_127 hty, yg_CLs yl_wX11_246 yd_yX2_isLine⟩, fun _ h => absurd h List.not_mem_nil⟩) (by decide +kernel)
def xf_129 : ys_F := (yk_f0, yk_r0)
def xk_129 : ys_K := (((yX11_isSheet, cX11_isSheet, 1, (some .boolean)), (0, 0)), ([.inl (.inl ([(0, 1)], 0))], ([((-2147483648), 2147483647)], []), xf_129), ([([], [([(0, 1)], 0), ([(0, (-1))], 3)], (xf_129.1, xf_129.2), some (.inl (.inl ([], 1)))), ([], [([(0, 1)], (-4))], (xf_129.1, xf_129.2), some (.inl (.inl ([], 0)))), ([], [([(0, (-1))], (-1))], (xf_129.1, xf_129.2), some (.inl (.inl ([], 0))))], []))
def xq_129 : ys_Q := (yz_X11_isSheet, (yl_flX11, yl_ciX11, yl_cjX11, yl_cpX11), [])
def xa_129 : ys_CA := []
theorem xc_129 {l : Launch} {D : va_G} {ad : Nat → Nat} {cT : Nat → ClassId} {tys : List (ClassId × FieldType)} (hty : ys_Ty tys cT yk_sh) : ys_Con l D vwCl ad cT yk_sh tys yG xk_129 := ys_method (calls := xa_129) (Z := xq_129) 3000 (by decide +kernel) yz_X11_isSheet_ok hty (yl_lkX11 _) (fun _ h => absurd h List.not_mem_nil) (by decide +kernel)
def xf_130 : ys_F := (yk_f0, yk_r0)
def xk_130 : ys_K := (((yX11_told, cX11_told, 2, (some .int)), (0, 0)), ([.inr (some 0), .inl (.inl ([], (-2)))], ([], []), xf_130), ([([], [], ((ys_fs xf_130.1 [(0, 14, .inl (.inl ([], (-2))))]), xf_130.2), some (.inl (.inl ([], (-2)))))], []))
def xq_130 : ys_Q := (yz_X11_told, (yl_flX11, yl_ciX11, yl_cjX11, yl_cpX11), [])
def xa_130 : ys_CA := []
theorem xc_130 {l : Launch} {D : va_G} {ad : Nat → Nat} {cT : Nat → ClassId} {tys : List (ClassId × FieldType)} (hty : ys_Ty tys cT yk_sh) : ys_Con l D vwCl ad cT yk_sh tys yG xk_130 := ys_method (calls := xa_130) (Z := xq_130) 3000 (by decide +kernel) yz_X11_told_ok hty (yl_lkX11 _) (fun _ h => absurd h List.not_mem_nil) (by decide +kernel)
def xf_131 : ys_F := (yk_f0, yk_r0)
def xk_131 : ys_K := (((yX11_copy, cX11_copy, 6, (some .int)), (1, 21)), ([.inr (some 0), .inl (.inl ([(0, 1)], 0)), .inl (.inl ([(1, 1)], 0)), .inl (.inl ([(2, 1)], 0)), .inl (.inl ([(3, 1)], 0)), .inl (.inl ([(4, 1)], 0))], ([((-2147483648), 2147483647), ((-2147483648), 2147483647), ((-2147483648), 2147483647), ((-2147483648), 2147483647), ((-2147483648), 2147483647)], []), xf_131), ([([], [([(0, (-1))], (-1))], ((ys_fs xf_131.1 [(0, 14, .inl (.inl ([], (-1))))]), xf_131.2), some (.inl (.inl ([], (-1))))), ([], [([(0, 1)], (-4))], ((ys_fs xf_131.1 [(0, 14, .inl (.inl ([], (-1))))]), xf_131.2), some (.inl (.inl ([], (-1))))), ([], [([(0, 1)], 0), ([(0, (-1))], 3), ([(2, (-1))], (-1))], ((ys_fs xf_131.1 [(0, 14, .inl (.inl ([], (-1))))]), xf_131.2), some (.inl (.inl ([], (-1))))), ([], [([(0, 1)], 0), ([(0, (-1))], 3), ([(2, 1)], (-4))], ((ys_fs xf_131.1 [(0, 14, .inl (.inl ([], (-1))))]), xf_131.2), some (.inl (.inl ([], (-1))))), ([], [([(0, 1)], 0), ([(0, (-1))], 3), ([(2, 1)], 0), ([(2, (-1))], 3), ([(4, (-1))], (-1))], ((ys_fs xf_131.1 [(0, 14, .inl (.inl ([], (-1))))]), xf_131.2), some (.inl (.inl ([], (-1))))), ([], [([(0, 1)], (-3)), ([(0, (-1))], 3), ([(2, 1)], 0), ([(2, (-1))], 3), ([(4, 1)], 0)], ((ys_fs xf_131.1 [(0, 14, .inl (.inl ([], (-2))))]), xf_131.2), some (.inl (.inl ([], (-2))))), ([], [([(0, 1)], (-2)), ([(0, (-1))], 2), ([(2, 1)], 0), ([(2, (-1))], 3), ([(4, 1)], 0)], ((ys_fs xf_131.1 [(0, 14, .inl (.inl ([], (-2))))]), xf_131.2), some (.inl (.inl ([], (-2))))), ([], [([(0, 1)], (-1)), ([(0, (-1))], 1), ([(2, 1)], 0), ([(2, (-1))], 3), ([(4, 1)], 0)], ((ys_fs xf_131.1 [(0, 14, .inl (.inl ([], (-2))))]), xf_131.2), some (.inl (.inl ([], (-2))))), ([], [([(0, 1)], 0), ([(0, (-1))], 0), ([(2, 1)], 0), ([(2, (-1))], 3), ([(4, 1)], 0)], ((ys_fs xf_131.1 [(0, 14, .inl (.inl ([], (-2))))]), xf_131.2), some (.inl (.inl ([], (-2)))))], []))
def xq_131 : ys_Q := (yz_X11_copy, (yl_flX11, yl_ciX11, yl_cjX11, yl_cpX11), [])
def xa_131 : ys_CA := [((141, true), xk_129), ((107, false), xk_107), ((107, false), xk_130)]
theorem xc_131 {l : Launch} {D : va_G} {ad : Nat → Nat} {cT : Nat → ClassId} {tys : List (ClassId × FieldType)} (hty : ys_Ty tys cT yk_sh) : ys_Con l D vwCl ad cT yk_sh tys yG xk_131 := ys_method (calls := xa_131) (Z := xq_131) 3000 (by decide +kernel) yz_X11_copy_ok hty (yl_lkX11 _) (List.forall_mem_cons.mpr ⟨⟨xc_129 hty, yg_CLs yl_wX11_141 yd_yX11_isSheet⟩, List.forall_mem_cons.mpr ⟨⟨xc_107 hty, yg_CLv rfl rfl rfl yl_wX11_107 yd_yX11_told⟩, List.forall_mem_cons.mpr ⟨⟨xc_130 hty, yg_CLv rfl rfl rfl yl_wX11_107 yd_yX11_told⟩, fun _ h => absurd h List.not_mem_nil⟩⟩⟩) (by decide +kernel)
def xf_132 : ys_F := (yk_f0, yk_r0)
def xk_132 : ys_K := (((yX11_sheetsThere, cX11_sheetsThere, 3, (some .int)), (0, 0)), ([.inr (some 0)], ([], []), xf_132), ([([], [], (xf_132.1, xf_132.2), some (.inl (.inl ([], 0))))], []))
def xq_132 : ys_Q := (yz_X11_sheetsThere, (yl_flX11, yl_ciX11, yl_cjX11, yl_cpX11), [(4, [], [], (xf_132.1, xf_132.2), [(0, .inr (some 0)), (1, .inl (.inl ([], 0))), (2, .inl (.inl ([], 0)))], [], ([], 4)), (4, [], [], (xf_132.1, xf_132.2), [(0, .inr (some 0)), (1, .inl (.inl ([], 0))), (2, .inl (.inl ([], 1)))], [], ([], 3)), (4, [(2, 4)], [], (xf_132.1, xf_132.2), [(0, .inr (some 0)), (1, .inl (.inl ([], 0))), (2, .inl (.inl ([(0, 1)], 0)))], [], ([(0, (-1))], 4))])
def xa_132 : ys_CA := []
theorem xc_132 {l : Launch} {D : va_G} {ad : Nat → Nat} {cT : Nat → ClassId} {tys : List (ClassId × FieldType)} (hty : ys_Ty tys cT yk_sh) : ys_Con l D vwCl ad cT yk_sh tys yG xk_132 := ys_method (calls := xa_132) (Z := xq_132) 3000 (by decide +kernel) yz_X11_sheetsThere_ok hty (yl_lkX11 _) (fun _ h => absurd h List.not_mem_nil) (by decide +kernel)
def xf_133 : ys_F := (yk_f0, yk_r0)
def xk_133 : ys_K := (((yX6_allWeights, cX6_allWeights, 3, (some .int)), (0, 0)), ([.inr (some 1)], ([], []), xf_133), ([([], [], (xf_133.1, xf_133.2), some (.inl (.inl ([], 0))))], []))
def xq_133 : ys_Q := (yz_X6_allWeights, (yl_flX6, yl_ciX6, yl_cjX6, yl_cpX6), [(4, [], [], (xf_133.1, xf_133.2), [(0, .inr (some 1)), (1, .inl (.inl ([], 0))), (2, .inl (.inl ([], 0)))], [], ([], 0))])
def xa_133 : ys_CA := []
theorem xc_133 {l : Launch} {D : va_G} {ad : Nat → Nat} {cT : Nat → ClassId} {tys : List (ClassId × FieldType)} (hty : ys_Ty tys cT yk_sh) : ys_Con l D vwCl ad cT yk_sh tys yG xk_133 := ys_method (calls := xa_133) (Z := xq_133) 3000 (by decide +kernel) yz_X6_allWeights_ok hty (yl_lkX6 _) (fun _ h => absurd h List.not_mem_nil) (by decide +kernel)
def xf_134 : ys_F := (yk_f0, yk_r0)
def xk_134 : ys_K := (((yX6_tally, cX6_tally, 4, (some .int)), (0, 0)), ([.inr (some 1), .inl (.inl ([], 0))], ([], []), xf_134), ([([], [], (xf_134.1, xf_134.2), some (.inl (.inl ([], 0))))], []))
def xq_134 : ys_Q := (yz_X6_tally, (yl_flX6, yl_ciX6, yl_cjX6, yl_cpX6), [(4, [], [], (xf_134.1, xf_134.2), [(0, .inr (some 1)), (1, .inl (.inl ([], 0))), (2, .inl (.inl ([], 0))), (3, .inl (.inl ([], 0)))], [], ([], 0))])
def xa_134 : ys_CA := []
theorem xc_134 {l : Launch} {D : va_G} {ad : Nat → Nat} {cT : Nat → ClassId} {tys : List (ClassId × FieldType)} (hty : ys_Ty tys cT yk_sh) : ys_Con l D vwCl ad cT yk_sh tys yG xk_134 := ys_method (calls := xa_134) (Z := xq_134) 3000 (by decide +kernel) yz_X6_tally_ok hty (yl_lkX6 _) (fun _ h => absurd h List.not_mem_nil) (by decide +kernel)
def xf_135 : ys_F := (yk_f0, yk_r0)
def xk_135 : ys_K := (((yX11_count, cX11_count, 2, (some .int)), (1, 23)), ([.inr (some 0), .inl (.inl ([(0, 1)], 0))], ([((-2147483648), 2147483647)], []), xf_135), ([([], [([(0, 1)], (-5)), ([(0, (-1))], 5)], (xf_135.1, xf_135.2), some (.inl (.inl ([], 0)))), ([], [([(0, 1)], (-4)), ([(0, (-1))], 4)], (xf_135.1, xf_135.2), some (.inl (.inl ([], 0)))), ([], [([(0, 1)], (-3)), ([(0, (-1))], 3)], (xf_135.1, xf_135.2), some (.inl (.inl ([], 0)))), ([], [([(0, 1)], (-2)), ([(0, (-1))], 2)], (xf_135.1, xf_135.2), some (.inl (.inl ([], 0)))), ([], [([(0, 1)], (-1)), ([(0, (-1))], 1)], (xf_135.1, xf_135.2), some (.inl (.inl ([], 0)))), ([], [([(0, 1)], 0), ([(0, (-1))], 0)], (xf_135.1, xf_135.2), some (.inl (.inl ([], 0)))), ([], [([(0, 1)], (-6))], (xf_135.1, xf_135.2), some (.inl (.inl ([], (-1))))), ([], [([(0, (-1))], (-1))], (xf_135.1, xf_135.2), some (.inl (.inl ([], (-1)))))], []))
def xq_135 : ys_Q := (yz_X11_count, (yl_flX11, yl_ciX11, yl_cjX11, yl_cpX11), [])
def xa_135 : ys_CA := [((392, false), xk_132), ((389, false), xk_133), ((369, false), xk_134), ((369, false), xk_120)]
theorem xc_135 {l : Launch} {D : va_G} {ad : Nat → Nat} {cT : Nat → ClassId} {tys : List (ClassId × FieldType)} (hty : ys_Ty tys cT yk_sh) : ys_Con l D vwCl ad cT yk_sh tys yG xk_135 := ys_method (calls := xa_135) (Z := xq_135) 3000 (by decide +kernel) yz_X11_count_ok hty (yl_lkX11 _) (List.forall_mem_cons.mpr ⟨⟨xc_132 hty, yg_CLv rfl rfl rfl yl_wX11_392 yd_yX11_sheetsThere⟩, List.forall_mem_cons.mpr ⟨⟨xc_133 hty, yg_CLv rfl rfl rfl yl_wX11_389 yd_yX6_allWeights⟩, List.forall_mem_cons.mpr ⟨⟨xc_134 hty, yg_CLv rfl rfl rfl yl_wX11_369 yd_yX6_tally⟩, List.forall_mem_cons.mpr ⟨⟨xc_120 hty, yg_CLv rfl rfl rfl yl_wX11_369 yd_yX6_tally⟩, fun _ h => absurd h List.not_mem_nil⟩⟩⟩⟩) (by decide +kernel)
def xf_136 : ys_F := (yk_f0, yk_r0)
def xk_136 : ys_K := (((yX7_depthAt, cX7_depthAt, 8, (some .int)), (0, 0)), ([.inr (some 1), .inl (.inl ([(0, 1)], 0)), .inl (.inl ([(1, 1)], 0))], ([((-1000), 1000), ((-2147483648), 2147483647)], []), xf_136), ([([], [], (xf_136.1, xf_136.2), some (.inl (.inl ([], 0))))], []))
def xq_136 : ys_Q := (yz_X7_depthAt, (yl_flX7, yl_ciX7, yl_cjX7, yl_cpX7), [(9, [], [], (xf_136.1, xf_136.2), [(0, .inr (some 1)), (1, .inl (.inl ([(0, 1)], 0))), (2, .inl (.inl ([(1, 1)], 0))), (3, .inl (.inl ([], 0))), (4, .inl (.inl ([], 40))), (5, .inl (.inl ([], 0)))], [], ([], 0))])
def xa_136 : ys_CA := []
theorem xc_136 {l : Launch} {D : va_G} {ad : Nat → Nat} {cT : Nat → ClassId} {tys : List (ClassId × FieldType)} (hty : ys_Ty tys cT yk_sh) : ys_Con l D vwCl ad cT yk_sh tys yG xk_136 := ys_method (calls := xa_136) (Z := xq_136) 3000 (by decide +kernel) yz_X7_depthAt_ok hty (yl_lkX7 _) (fun _ h => absurd h List.not_mem_nil) (by decide +kernel)
def xf_137 : ys_F := (yk_f0, yk_r0)
def xk_137 : ys_K := (((yX7_depthAt, cX7_depthAt, 8, (some .int)), (0, 0)), ([.inr (some 1), .inl (.inl ([(0, 1)], 0)), .inl (.inl ([(1, 1)], 0))], ([((-2147483647), 1000), ((-1000), 999)], []), xf_137), ([([], [], (xf_137.1, xf_137.2), some (.inl (.inl ([], 0))))], []))
def xq_137 : ys_Q := (yz_X7_depthAt, (yl_flX7, yl_ciX7, yl_cjX7, yl_cpX7), [(9, [], [], (xf_137.1, xf_137.2), [(0, .inr (some 1)), (1, .inl (.inl ([(0, 1)], 0))), (2, .inl (.inl ([(1, 1)], 0))), (3, .inl (.inl ([], 0))), (4, .inl (.inl ([], 40))), (5, .inl (.inl ([], 0)))], [], ([], 0))])
def xa_137 : ys_CA := []
theorem xc_137 {l : Launch} {D : va_G} {ad : Nat → Nat} {cT : Nat → ClassId} {tys : List (ClassId × FieldType)} (hty : ys_Ty tys cT yk_sh) : ys_Con l D vwCl ad cT yk_sh tys yG xk_137 := ys_method (calls := xa_137) (Z := xq_137) 3000 (by decide +kernel) yz_X7_depthAt_ok hty (yl_lkX7 _) (fun _ h => absurd h List.not_mem_nil) (by decide +kernel)
def xf_138 : ys_F := (yk_f0, yk_r0)
def xk_138 : ys_K := (((yX7_depthAt, cX7_depthAt, 8, (some .int)), (0, 0)), ([.inr (some 1), .inl (.inl ([(0, 1)], 0)), .inl (.inl ([(1, 1)], 0))], ([((-1000), 1000), ((-2147483647), 1000)], []), xf_138), ([([], [], (xf_138.1, xf_138.2), some (.inl (.inl ([], 0))))], []))
def xq_138 : ys_Q := (yz_X7_depthAt, (yl_flX7, yl_ciX7, yl_cjX7, yl_cpX7), [(9, [], [], (xf_138.1, xf_138.2), [(0, .inr (some 1)), (1, .inl (.inl ([(0, 1)], 0))), (2, .inl (.inl ([(1, 1)], 0))), (3, .inl (.inl ([], 0))), (4, .inl (.inl ([], 40))), (5, .inl (.inl ([], 0)))], [], ([], 0))])
def xa_138 : ys_CA := []
theorem xc_138 {l : Launch} {D : va_G} {ad : Nat → Nat} {cT : Nat → ClassId} {tys : List (ClassId × FieldType)} (hty : ys_Ty tys cT yk_sh) : ys_Con l D vwCl ad cT yk_sh tys yG xk_138 := ys_method (calls := xa_138) (Z := xq_138) 3000 (by decide +kernel) yz_X7_depthAt_ok hty (yl_lkX7 _) (fun _ h => absurd h List.not_mem_nil) (by decide +kernel)
def xf_139 : ys_F := (yk_f0, yk_r0)
def xk_139 : ys_K := (((yX7_depthAt, cX7_depthAt, 8, (some .int)), (0, 0)), ([.inr (some 1), .inl (.inl ([(0, 1)], 0)), .inl (.inl ([(1, 1)], 0))], ([((-2147483646), 2147483646), ((-1000), 1000)], []), xf_139), ([([], [], (xf_139.1, xf_139.2), some (.inl (.inl ([], 0))))], []))
def xq_139 : ys_Q := (yz_X7_depthAt, (yl_flX7, yl_ciX7, yl_cjX7, yl_cpX7), [(9, [], [], (xf_139.1, xf_139.2), [(0, .inr (some 1)), (1, .inl (.inl ([(0, 1)], 0))), (2, .inl (.inl ([(1, 1)], 0))), (3, .inl (.inl ([], 0))), (4, .inl (.inl ([], 40))), (5, .inl (.inl ([], 0)))], [], ([], 0))])
def xa_139 : ys_CA := []
theorem xc_139 {l : Launch} {D : va_G} {ad : Nat → Nat} {cT : Nat → ClassId} {tys : List (ClassId × FieldType)} (hty : ys_Ty tys cT yk_sh) : ys_Con l D vwCl ad cT yk_sh tys yG xk_139 := ys_method (calls := xa_139) (Z := xq_139) 3000 (by decide +kernel) yz_X7_depthAt_ok hty (yl_lkX7 _) (fun _ h => absurd h List.not_mem_nil) (by decide +kernel)
def xf_140 : ys_F := (yk_f0, yk_r0)
def xk_140 : ys_K := (((yX11_depth, cX11_depth, 3, (some .int)), (1, 27)), ([.inr (some 0), .inl (.inl ([(0, 1)], 0)), .inl (.inl ([(1, 1)], 0))], ([((-2147483648), 2147483647), ((-2147483648), 2147483647)], []), xf_140), ([([], [([(0, (-1))], (-1001)), ([(1, 1), (0, (-1))], 0), ([(0, 1), (1, (-1))], 0)], (xf_140.1, xf_140.2), some (.inl (.inl ([], (-1))))), ([], [([(0, 1)], 1000), ([(0, (-1))], 1000), ([(1, 1), (0, (-1))], 0), ([(0, 1), (1, (-1))], 0)], (xf_140.1, xf_140.2), some (.inl (.inl ([], 0)))), ([], [([(0, 1)], 2147483647), ([(0, (-1))], 1000), ([(1, (-1))], (-1001)), ([(0, 1), (1, (-1))], (-1)), ([(0, 1), (1, (-1))], 0)], (xf_140.1, xf_140.2), some (.inl (.inl ([], (-1))))), ([], [([(0, 1)], 2147483647), ([(0, (-1))], 1000), ([(1, 1)], 1000), ([(1, (-1))], 999), ([(0, 1), (1, (-1))], (-1)), ([(0, 1), (1, (-1))], 0)], (xf_140.1, xf_140.2), some (.inl (.inl ([], 0)))), ([], [([(0, 1)], (-1001)), ([(0, 1), (1, (-1))], 0)], (xf_140.1, xf_140.2), some (.inl (.inl ([], (-1))))), ([], [([(0, (-1))], (-1001)), ([(1, 1)], 2147483647), ([(1, (-1))], 1000), ([(1, 1), (0, (-1))], 0), ([(1, 1), (0, (-1))], (-1))], (xf_140.1, xf_140.2), some (.inl (.inl ([], (-1))))), ([], [([(0, 1)], 1000), ([(0, (-1))], 1000), ([(1, 1)], 2147483647), ([(1, (-1))], 1000), ([(1, 1), (0, (-1))], 0), ([(1, 1), (0, (-1))], (-1))], (xf_140.1, xf_140.2), some (.inl (.inl ([], 0)))), ([], [([(0, 1)], 2147483646), ([(0, (-1))], 2147483646), ([(1, 1)], 2147483647), ([(1, (-1))], (-1001)), ([(0, 1), (1, (-1))], (-1)), ([(1, 1), (0, (-1))], (-1))], (xf_140.1, xf_140.2), some (.inl (.inl ([], (-1))))), ([], [([(0, 1)], 2147483646), ([(0, (-1))], 2147483646), ([(1, 1)], 1000), ([(1, (-1))], 1000), ([(0, 1), (1, (-1))], (-1)), ([(1, 1), (0, (-1))], (-1))], (xf_140.1, xf_140.2), some (.inl (.inl ([], 0)))), ([], [([(0, (-1))], 2147483646), ([(1, 1)], (-1001)), ([(1, 1), (0, (-1))], (-1))], (xf_140.1, xf_140.2), some (.inl (.inl ([], (-1)))))], []))
def xq_140 : ys_Q := (yz_X11_depth, (yl_flX11, yl_ciX11, yl_cjX11, yl_cpX11), [])
def xa_140 : ys_CA := [((362, true), xk_136), ((362, true), xk_137), ((362, true), xk_138), ((362, true), xk_139)]
theorem xc_140 {l : Launch} {D : va_G} {ad : Nat → Nat} {cT : Nat → ClassId} {tys : List (ClassId × FieldType)} (hty : ys_Ty tys cT yk_sh) : ys_Con l D vwCl ad cT yk_sh tys yG xk_140 := ys_method (calls := xa_140) (Z := xq_140) 3000 (by decide +kernel) yz_X11_depth_ok hty (yl_lkX11 _) (List.forall_mem_cons.mpr ⟨⟨xc_136 hty, yg_CLs yl_wX11_362 yd_yX7_depthAt⟩, List.forall_mem_cons.mpr ⟨⟨xc_137 hty, yg_CLs yl_wX11_362 yd_yX7_depthAt⟩, List.forall_mem_cons.mpr ⟨⟨xc_138 hty, yg_CLs yl_wX11_362 yd_yX7_depthAt⟩, List.forall_mem_cons.mpr ⟨⟨xc_139 hty, yg_CLs yl_wX11_362 yd_yX7_depthAt⟩, fun _ h => absurd h List.not_mem_nil⟩⟩⟩⟩) (by decide +kernel)
def xf_141 : ys_F := (yk_f0, yk_r0)
def xk_141 : ys_K := (((yX11_dismiss, cX11_dismiss, 2, (some .int)), (0, 0)), ([.inr (some 0)], ([], []), xf_141), ([([], [], (xf_141.1, xf_141.2), some (.inl (.inl ([], 0))))], []))
def xq_141 : ys_Q := (yz_X11_dismiss, (yl_flX11, yl_ciX11, yl_cjX11, yl_cpX11), [])
def xa_141 : ys_CA := []
theorem xc_141 {l : Launch} {D : va_G} {ad : Nat → Nat} {cT : Nat → ClassId} {tys : List (ClassId × FieldType)} (hty : ys_Ty tys cT yk_sh) : ys_Con l D vwCl ad cT yk_sh tys yG xk_141 := ys_method (calls := xa_141) (Z := xq_141) 3000 (by decide +kernel) yz_X11_dismiss_ok hty (yl_lkX11 _) (fun _ h => absurd h List.not_mem_nil) (by decide +kernel)
def xf_142 : ys_F := (yk_f0, yk_r0)
def xk_142 : ys_K := (((yX6_has, cX6_has, 2, (some .boolean)), (0, 0)), ([.inr (some 1), .inl (.inl ([(0, 1)], 0))], ([((-2147483648), 2147483647)], []), xf_142), ([([], [([(0, 1)], 0)], (xf_142.1, xf_142.2), some (.inl (.inl ([], 0)))), ([], [([(0, (-1))], (-1))], (xf_142.1, xf_142.2), some (.inl (.inl ([], 0))))], []))
def xq_142 : ys_Q := (yz_X6_has, (yl_flX6, yl_ciX6, yl_cjX6, yl_cpX6), [])
def xa_142 : ys_CA := []
theorem xc_142 {l : Launch} {D : va_G} {ad : Nat → Nat} {cT : Nat → ClassId} {tys : List (ClassId × FieldType)} (hty : ys_Ty tys cT yk_sh) : ys_Con l D vwCl ad cT yk_sh tys yG xk_142 := ys_method (calls := xa_142) (Z := xq_142) 3000 (by decide +kernel) yz_X6_has_ok hty (yl_lkX6 _) (fun _ h => absurd h List.not_mem_nil) (by decide +kernel)
def xf_143 : ys_F := (yk_f0, yk_r0)
def xk_143 : ys_K := (((yX11_drop, cX11_drop, 2, (some .int)), (1, 21)), ([.inr (some 0), .inl (.inl ([(0, 1)], 0))], ([((-2147483648), 2147483647)], []), xf_143), ([([], [([(0, (-1))], (-1))], ((ys_fs xf_143.1 [(0, 14, .inl (.inl ([], (-1))))]), xf_143.2), some (.inl (.inl ([], (-1))))), ([], [([(0, 1)], 0)], ((ys_fs xf_143.1 [(0, 14, .inl (.inl ([], (-1))))]), xf_143.2), some (.inl (.inl ([], (-1)))))], []))
def xq_143 : ys_Q := (yz_X11_drop, (yl_flX11, yl_ciX11, yl_cjX11, yl_cpX11), [])
def xa_143 : ys_CA := [((118, false), xk_142), ((107, false), xk_107)]
theorem xc_143 {l : Launch} {D : va_G} {ad : Nat → Nat} {cT : Nat → ClassId} {tys : List (ClassId × FieldType)} (hty : ys_Ty tys cT yk_sh) : ys_Con l D vwCl ad cT yk_sh tys yG xk_143 := ys_method (calls := xa_143) (Z := xq_143) 3000 (by decide +kernel) yz_X11_drop_ok hty (yl_lkX11 _) (List.forall_mem_cons.mpr ⟨⟨xc_142 hty, yg_CLv rfl rfl rfl yl_wX11_118 yd_yX6_has⟩, List.forall_mem_cons.mpr ⟨⟨xc_107 hty, yg_CLv rfl rfl rfl yl_wX11_107 yd_yX11_told⟩, fun _ h => absurd h List.not_mem_nil⟩⟩) (by decide +kernel)
def xf_144 : ys_F := (yk_f0, yk_r0)
def xk_144 : ys_K := (((yX11_end, cX11_end, 1, (some .int)), (0, 0)), ([.inr (some 0)], ([], []), xf_144), ([([], [], (xf_144.1, xf_144.2), some (.inl (.inl ([], (-1)))))], []))
def xq_144 : ys_Q := (yz_X11_end, (yl_flX11, yl_ciX11, yl_cjX11, yl_cpX11), [])
def xa_144 : ys_CA := []
theorem xc_144 {l : Launch} {D : va_G} {ad : Nat → Nat} {cT : Nat → ClassId} {tys : List (ClassId × FieldType)} (hty : ys_Ty tys cT yk_sh) : ys_Con l D vwCl ad cT yk_sh tys yG xk_144 := ys_method (calls := xa_144) (Z := xq_144) 3000 (by decide +kernel) yz_X11_end_ok hty (yl_lkX11 _) (fun _ h => absurd h List.not_mem_nil) (by decide +kernel)
def xf_145 : ys_F := (yk_f0, yk_r0)
def xk_145 : ys_K := (((yX11_halve, cX11_halve, 1, (some .int)), (1, 21)), ([.inr (some 0)], ([], []), xf_145), ([([], [], ((ys_fs xf_145.1 [(0, 14, .inl (.inl ([], (-6))))]), xf_145.2), some (.inl (.inl ([], (-6)))))], []))
def xq_145 : ys_Q := (yz_X11_halve, (yl_flX11, yl_ciX11, yl_cjX11, yl_cpX11), [])
def xa_145 : ys_CA := [((107, false), xk_108)]
theorem xc_145 {l : Launch} {D : va_G} {ad : Nat → Nat} {cT : Nat → ClassId} {tys : List (ClassId × FieldType)} (hty : ys_Ty tys cT yk_sh) : ys_Con l D vwCl ad cT yk_sh tys yG xk_145 := ys_method (calls := xa_145) (Z := xq_145) 3000 (by decide +kernel) yz_X11_halve_ok hty (yl_lkX11 _) (List.forall_mem_cons.mpr ⟨⟨xc_108 hty, yg_CLv rfl rfl rfl yl_wX11_107 yd_yX11_told⟩, fun _ h => absurd h List.not_mem_nil⟩) (by decide +kernel)
def xf_146 : ys_F := (yk_f0, yk_r0)
def xk_146 : ys_K := (((yX7_firstHalving, cX7_firstHalving, 5, (some .int)), (1, 23)), ([.inr (some 1)], ([], []), xf_146), ([([], [], (xf_146.1, xf_146.2), some (.inl (.inl ([], (-1)))))], []))
def xq_146 : ys_Q := (yz_X7_firstHalving, (yl_flX7, yl_ciX7, yl_cjX7, yl_cpX7), [(15, [], [], (xf_146.1, xf_146.2), [(0, .inr (some 1)), (1, .inl (.inl ([], 0))), (2, .inl (.inl ([], 0))), (3, .inl (.inl ([], 0)))], [], ([], 2))])
def xa_146 : ys_CA := [((70, false), xk_120)]
theorem xc_146 {l : Launch} {D : va_G} {ad : Nat → Nat} {cT : Nat → ClassId} {tys : List (ClassId × FieldType)} (hty : ys_Ty tys cT yk_sh) : ys_Con l D vwCl ad cT yk_sh tys yG xk_146 := ys_method (calls := xa_146) (Z := xq_146) 3000 (by decide +kernel) yz_X7_firstHalving_ok hty (yl_lkX7 _) (List.forall_mem_cons.mpr ⟨⟨xc_120 hty, yg_CLv rfl rfl rfl yl_wX7_70 yd_yX6_tally⟩, fun _ h => absurd h List.not_mem_nil⟩) (by decide +kernel)
def xf_147 : ys_F := (yk_f0, yk_r0)
def xk_147 : ys_K := (((yX11_halves, cX11_halves, 2, (some .int)), (2, 47)), ([.inr (some 0)], ([], []), xf_147), ([([], [], (xf_147.1, xf_147.2), some (.inl (.inl ([], (-6)))))], []))
def xq_147 : ys_Q := (yz_X11_halves, (yl_flX11, yl_ciX11, yl_cjX11, yl_cpX11), [])
def xa_147 : ys_CA := [((366, true), xk_146)]
theorem xc_147 {l : Launch} {D : va_G} {ad : Nat → Nat} {cT : Nat → ClassId} {tys : List (ClassId × FieldType)} (hty : ys_Ty tys cT yk_sh) : ys_Con l D vwCl ad cT yk_sh tys yG xk_147 := ys_method (calls := xa_147) (Z := xq_147) 3000 (by decide +kernel) yz_X11_halves_ok hty (yl_lkX11 _) (List.forall_mem_cons.mpr ⟨⟨xc_146 hty, yg_CLs yl_wX11_366 yd_yX7_firstHalving⟩, fun _ h => absurd h List.not_mem_nil⟩) (by decide +kernel)
def xf_148 : ys_F := (yk_f0, yk_r0)
def xk_148 : ys_K := (((yX6_isColour, cX6_isColour, 1, (some .boolean)), (0, 0)), ([.inl (.inl ([(0, 1)], 0))], ([((-2147483648), 2147483647)], []), xf_148), ([([], [([(0, (-1))], (-1))], (xf_148.1, xf_148.2), some (.inl (.inl ([], 0)))), ([], [([(0, 1)], (-1)), ([(0, (-1))], 1)], (xf_148.1, xf_148.2), some (.inl (.inl ([], 1)))), ([], [([(0, 1)], (-2))], (xf_148.1, xf_148.2), some (.inl (.inl ([], 0)))), ([], [([(0, 1)], 0), ([(0, (-1))], 0)], (xf_148.1, xf_148.2), some (.inl (.inl ([], 1))))], []))
def xq_148 : ys_Q := (yz_X6_isColour, (yl_flX6, yl_ciX6, yl_cjX6, yl_cpX6), [])
def xa_148 : ys_CA := []
theorem xc_148 {l : Launch} {D : va_G} {ad : Nat → Nat} {cT : Nat → ClassId} {tys : List (ClassId × FieldType)} (hty : ys_Ty tys cT yk_sh) : ys_Con l D vwCl ad cT yk_sh tys yG xk_148 := ys_method (calls := xa_148) (Z := xq_148) 3000 (by decide +kernel) yz_X6_isColour_ok hty (yl_lkX6 _) (fun _ h => absurd h List.not_mem_nil) (by decide +kernel)
def xf_149 : ys_F := (yk_f0, yk_r0)
def xk_149 : ys_K := (((yX7_lowest, cX7_lowest, 4, (some .int)), (0, 0)), ([.inr (some 1), .inl (.inl ([], 0))], ([], []), xf_149), ([([], [], (xf_149.1, xf_149.2), some (.inl (.inl ([], (-1)))))], []))
def xq_149 : ys_Q := (yz_X7_lowest, (yl_flX7, yl_ciX7, yl_cjX7, yl_cpX7), [(4, [], [], (xf_149.1, xf_149.2), [(0, .inr (some 1)), (1, .inl (.inl ([], 0))), (2, .inl (.inl ([], (-1)))), (3, .inl (.inl ([], 0)))], [], ([], 0))])
def xa_149 : ys_CA := []
theorem xc_149 {l : Launch} {D : va_G} {ad : Nat → Nat} {cT : Nat → ClassId} {tys : List (ClassId × FieldType)} (hty : ys_Ty tys cT yk_sh) : ys_Con l D vwCl ad cT yk_sh tys yG xk_149 := ys_method (calls := xa_149) (Z := xq_149) 3000 (by decide +kernel) yz_X7_lowest_ok hty (yl_lkX7 _) (fun _ h => absurd h List.not_mem_nil) (by decide +kernel)
def xf_150 : ys_F := (yk_f0, yk_r0)
def xk_150 : ys_K := (((yX7_wrap, cX7_wrap, 6, none), (1, 23)), ([.inr (some 41), .inr (some 1), .inl (.inl ([], 0))], ([], []), xf_150), ([([], [], (xf_150.1, xf_150.2), none)], []))
def xq_150 : ys_Q := (yz_X7_wrap, (yl_flX7, yl_ciX7, yl_cjX7, yl_cpX7), [(17, [], [], (xf_150.1, xf_150.2), [(0, .inr (some 41)), (1, .inr (some 1)), (2, .inl (.inl ([], 0))), (3, .inl (.inl ([], (-1)))), (4, .inl (.inl ([], (-1)))), (5, .inl (.inl ([], 0)))], [], ([], 0))])
def xa_150 : ys_CA := [((19, true), xk_149)]
theorem xc_150 {l : Launch} {D : va_G} {ad : Nat → Nat} {cT : Nat → ClassId} {tys : List (ClassId × FieldType)} (hty : ys_Ty tys cT yk_sh) : ys_Con l D vwCl ad cT yk_sh tys yG xk_150 := ys_method (calls := xa_150) (Z := xq_150) 3000 (by decide +kernel) yz_X7_wrap_ok hty (yl_lkX7 _) (List.forall_mem_cons.mpr ⟨⟨xc_149 hty, yg_CLs yl_wX7_19 yd_yX7_lowest⟩, fun _ h => absurd h List.not_mem_nil⟩) (by decide +kernel)
def xf_151 : ys_F := (yk_f0, yk_r0)
def xk_151 : ys_K := (((yX7_lowest, cX7_lowest, 4, (some .int)), (0, 0)), ([.inr (some 1), .inl (.inl ([], 1))], ([], []), xf_151), ([([], [], (xf_151.1, xf_151.2), some (.inl (.inl ([], (-1)))))], []))
def xq_151 : ys_Q := (yz_X7_lowest, (yl_flX7, yl_ciX7, yl_cjX7, yl_cpX7), [(4, [], [], (xf_151.1, xf_151.2), [(0, .inr (some 1)), (1, .inl (.inl ([], 1))), (2, .inl (.inl ([], (-1)))), (3, .inl (.inl ([], 0)))], [], ([], 0))])
def xa_151 : ys_CA := []
theorem xc_151 {l : Launch} {D : va_G} {ad : Nat → Nat} {cT : Nat → ClassId} {tys : List (ClassId × FieldType)} (hty : ys_Ty tys cT yk_sh) : ys_Con l D vwCl ad cT yk_sh tys yG xk_151 := ys_method (calls := xa_151) (Z := xq_151) 3000 (by decide +kernel) yz_X7_lowest_ok hty (yl_lkX7 _) (fun _ h => absurd h List.not_mem_nil) (by decide +kernel)
def xf_152 : ys_F := (yk_f0, yk_r0)
def xk_152 : ys_K := (((yX7_wrap, cX7_wrap, 6, none), (1, 23)), ([.inr (some 41), .inr (some 1), .inl (.inl ([], 1))], ([], []), xf_152), ([([], [], (xf_152.1, xf_152.2), none)], []))
def xq_152 : ys_Q := (yz_X7_wrap, (yl_flX7, yl_ciX7, yl_cjX7, yl_cpX7), [(17, [], [], (xf_152.1, xf_152.2), [(0, .inr (some 41)), (1, .inr (some 1)), (2, .inl (.inl ([], 1))), (3, .inl (.inl ([], (-1)))), (4, .inl (.inl ([], (-1)))), (5, .inl (.inl ([], 0)))], [], ([], 0))])
def xa_152 : ys_CA := [((19, true), xk_151)]
theorem xc_152 {l : Launch} {D : va_G} {ad : Nat → Nat} {cT : Nat → ClassId} {tys : List (ClassId × FieldType)} (hty : ys_Ty tys cT yk_sh) : ys_Con l D vwCl ad cT yk_sh tys yG xk_152 := ys_method (calls := xa_152) (Z := xq_152) 3000 (by decide +kernel) yz_X7_wrap_ok hty (yl_lkX7 _) (List.forall_mem_cons.mpr ⟨⟨xc_151 hty, yg_CLs yl_wX7_19 yd_yX7_lowest⟩, fun _ h => absurd h List.not_mem_nil⟩) (by decide +kernel)
def xf_153 : ys_F := (yk_f0, yk_r0)
def xk_153 : ys_K := (((yX11_hull, cX11_hull, 3, (some .int)), (2, 48)), ([.inr (some 0), .inl (.inl ([(0, 1)], 0)), .inl (.inl ([(1, 1)], 0))], ([((-2147483648), 2147483647), ((-2147483648), 2147483647)], []), xf_153), ([([], [([(0, 1)], 0), ([(0, (-1))], 0), ([(1, 1)], 1), ([(1, (-1))], (-1))], (xf_153.1, xf_153.2), some (.inl (.inl ([], 0)))), ([], [([(0, 1)], 0), ([(0, (-1))], 0), ([(1, (-1))], (-2))], (xf_153.1, xf_153.2), some (.inl (.inl ([], (-1))))), ([], [([(0, 1)], 0), ([(0, (-1))], 0), ([(1, 1)], 0)], (xf_153.1, xf_153.2), some (.inl (.inl ([], (-1))))), ([], [([(0, 1)], (-2))], (xf_153.1, xf_153.2), some (.inl (.inl ([], (-1))))), ([], [([(0, 1)], (-1)), ([(0, (-1))], 1), ([(1, 1)], 1), ([(1, (-1))], (-1))], (xf_153.1, xf_153.2), some (.inl (.inl ([], 0)))), ([], [([(0, 1)], (-1)), ([(0, (-1))], 1), ([(1, (-1))], (-2))], (xf_153.1, xf_153.2), some (.inl (.inl ([], (-1))))), ([], [([(0, 1)], (-1)), ([(0, (-1))], 1), ([(1, 1)], 0)], (xf_153.1, xf_153.2), some (.inl (.inl ([], (-1))))), ([], [([(0, (-1))], (-1))], (xf_153.1, xf_153.2), some (.inl (.inl ([], (-1)))))], []))
def xq_153 : ys_Q := (yz_X11_hull, (yl_flX11, yl_ciX11, yl_cjX11, yl_cpX11), [])
def xa_153 : ys_CA := [((103, true), xk_148), ((350, false), xk_150), ((350, false), xk_152)]
theorem xc_153 {l : Launch} {D : va_G} {ad : Nat → Nat} {cT : Nat → ClassId} {tys : List (ClassId × FieldType)} (hty : ys_Ty tys cT yk_sh) : ys_Con l D vwCl ad cT yk_sh tys yG xk_153 := ys_method (calls := xa_153) (Z := xq_153) 3000 (by decide +kernel) yz_X11_hull_ok hty (yl_lkX11 _) (List.forall_mem_cons.mpr ⟨⟨xc_148 hty, yg_CLs yl_wX11_103 yd_yX6_isColour⟩, List.forall_mem_cons.mpr ⟨⟨xc_150 hty, yg_CLv rfl rfl rfl yl_wX11_350 yd_yX7_wrap⟩, List.forall_mem_cons.mpr ⟨⟨xc_152 hty, yg_CLv rfl rfl rfl yl_wX11_350 yd_yX7_wrap⟩, fun _ h => absurd h List.not_mem_nil⟩⟩⟩) (by decide +kernel)
def xf_154 : ys_F := (yk_f0, yk_r0)
def xk_154 : ys_K := (((yX6_become, cX6_become, 2, none), (1, 18)), ([.inr (some 75), .inr (some 1)], ([], []), xf_154), ([([], [], ((ys_fs xf_154.1 [(75, 5, .inl (.inl ([], 1)))]), xf_154.2), none)], [76, 77, 78, 79]))
def xq_154 : ys_Q := (yz_X6_become, (yl_flX6, yl_ciX6, yl_cjX6, yl_cpX6), [])
def xa_154 : ys_CA := []
theorem xc_154 {l : Launch} {D : va_G} {ad : Nat → Nat} {cT : Nat → ClassId} {tys : List (ClassId × FieldType)} (hty : ys_Ty tys cT yk_sh) : ys_Con l D vwCl ad cT yk_sh tys yG xk_154 := ys_method (calls := xa_154) (Z := xq_154) 3000 (by decide +kernel) yz_X6_become_ok hty (yl_lkX6 _) (fun _ h => absurd h List.not_mem_nil) (by decide +kernel)
def xf_155 : ys_F := ((ys_fs yk_f0 [(75, 5, .inl (.inl ([], 1)))]), yk_r0)
def xk_155 : ys_K := (((yX2_become, cX2_become, 2, none), (1, 18)), ([.inr (some 80), .inr (some 6)], ([], []), xf_155), ([([], [], (xf_155.1, xf_155.2), none)], [81, 82, 83]))
def xq_155 : ys_Q := (yz_X2_become, (yl_flX2, yl_ciX2, yl_cjX2, yl_cpX2), [])
def xa_155 : ys_CA := []
theorem xc_155 {l : Launch} {D : va_G} {ad : Nat → Nat} {cT : Nat → ClassId} {tys : List (ClassId × FieldType)} (hty : ys_Ty tys cT yk_sh) : ys_Con l D vwCl ad cT yk_sh tys yG xk_155 := ys_method (calls := xa_155) (Z := xq_155) 3000 (by decide +kernel) yz_X2_become_ok hty (yl_lkX2 _) (fun _ h => absurd h List.not_mem_nil) (by decide +kernel)
def xf_156 : ys_F := ((ys_fs yk_f0 [(75, 5, .inl (.inl ([], 1)))]), yk_r0)
def xk_156 : ys_K := (((yX3_become, cX3_become, 2, none), (0, 0)), ([.inr (some 84), .inr (some 10)], ([], []), xf_156), ([([], [], (xf_156.1, xf_156.2), none)], []))
def xq_156 : ys_Q := (yz_X3_become, (yl_flX3, yl_ciX3, yl_cjX3, yl_cpX3), [])
def xa_156 : ys_CA := []
theorem xc_156 {l : Launch} {D : va_G} {ad : Nat → Nat} {cT : Nat → ClassId} {tys : List (ClassId × FieldType)} (hty : ys_Ty tys cT yk_sh) : ys_Con l D vwCl ad cT yk_sh tys yG xk_156 := ys_method (calls := xa_156) (Z := xq_156) 3000 (by decide +kernel) yz_X3_become_ok hty (yl_lkX3 _) (fun _ h => absurd h List.not_mem_nil) (by decide +kernel)
def xf_157 : ys_F := ((ys_fs yk_f0 [(75, 5, .inl (.inl ([], 1)))]), (ys_rs yk_r0 [(15, ((0, 0), [(2, (1, 1))]))]))
def xk_157 : ys_K := (((yX11_told, cX11_told, 2, (some .int)), (0, 0)), ([.inr (some 0), .inl (.inl ([], 0))], ([], []), xf_157), ([([], [], (xf_157.1, xf_157.2), some (.inl (.inl ([], 0))))], []))
def xq_157 : ys_Q := (yz_X11_told, (yl_flX11, yl_ciX11, yl_cjX11, yl_cpX11), [])
def xa_157 : ys_CA := []
theorem xc_157 {l : Launch} {D : va_G} {ad : Nat → Nat} {cT : Nat → ClassId} {tys : List (ClassId × FieldType)} (hty : ys_Ty tys cT yk_sh) : ys_Con l D vwCl ad cT yk_sh tys yG xk_157 := ys_method (calls := xa_157) (Z := xq_157) 3000 (by decide +kernel) yz_X11_told_ok hty (yl_lkX11 _) (fun _ h => absurd h List.not_mem_nil) (by decide +kernel)
def xf_158 : ys_F := (yk_f0, yk_r0)
def xk_158 : ys_K := (((yX6_become, cX6_become, 2, none), (1, 18)), ([.inr (some 65), .inr (some 1)], ([], []), xf_158), ([([], [], ((ys_fs xf_158.1 [(65, 5, .inl (.inl ([], 1)))]), xf_158.2), none)], [66, 67, 68, 69]))
def xq_158 : ys_Q := (yz_X6_become, (yl_flX6, yl_ciX6, yl_cjX6, yl_cpX6), [])
def xa_158 : ys_CA := []
theorem xc_158 {l : Launch} {D : va_G} {ad : Nat → Nat} {cT : Nat → ClassId} {tys : List (ClassId × FieldType)} (hty : ys_Ty tys cT yk_sh) : ys_Con l D vwCl ad cT yk_sh tys yG xk_158 := ys_method (calls := xa_158) (Z := xq_158) 3000 (by decide +kernel) yz_X6_become_ok hty (yl_lkX6 _) (fun _ h => absurd h List.not_mem_nil) (by decide +kernel)
def xf_159 : ys_F := ((ys_fs yk_f0 [(65, 5, .inl (.inl ([], 1)))]), yk_r0)
def xk_159 : ys_K := (((yX2_become, cX2_become, 2, none), (1, 18)), ([.inr (some 70), .inr (some 6)], ([], []), xf_159), ([([], [], (xf_159.1, xf_159.2), none)], [71, 72, 73]))
def xq_159 : ys_Q := (yz_X2_become, (yl_flX2, yl_ciX2, yl_cjX2, yl_cpX2), [])
def xa_159 : ys_CA := []
theorem xc_159 {l : Launch} {D : va_G} {ad : Nat → Nat} {cT : Nat → ClassId} {tys : List (ClassId × FieldType)} (hty : ys_Ty tys cT yk_sh) : ys_Con l D vwCl ad cT yk_sh tys yG xk_159 := ys_method (calls := xa_159) (Z := xq_159) 3000 (by decide +kernel) yz_X2_become_ok hty (yl_lkX2 _) (fun _ h => absurd h List.not_mem_nil) (by decide +kernel)
def xf_160 : ys_F := ((ys_fs yk_f0 [(65, 5, .inl (.inl ([], 1)))]), yk_r0)
def xk_160 : ys_K := (((yX3_become, cX3_become, 2, none), (0, 0)), ([.inr (some 74), .inr (some 10)], ([], []), xf_160), ([([], [], (xf_160.1, xf_160.2), none)], []))
def xq_160 : ys_Q := (yz_X3_become, (yl_flX3, yl_ciX3, yl_cjX3, yl_cpX3), [])
def xa_160 : ys_CA := []
theorem xc_160 {l : Launch} {D : va_G} {ad : Nat → Nat} {cT : Nat → ClassId} {tys : List (ClassId × FieldType)} (hty : ys_Ty tys cT yk_sh) : ys_Con l D vwCl ad cT yk_sh tys yG xk_160 := ys_method (calls := xa_160) (Z := xq_160) 3000 (by decide +kernel) yz_X3_become_ok hty (yl_lkX3 _) (fun _ h => absurd h List.not_mem_nil) (by decide +kernel)
def xf_161 : ys_F := ((ys_fs yk_f0 [(65, 5, .inl (.inl ([], 1)))]), (ys_rs yk_r0 [(15, ((0, 0), [(1, (1, 1))]))]))
def xk_161 : ys_K := (((yX11_told, cX11_told, 2, (some .int)), (0, 0)), ([.inr (some 0), .inl (.inl ([], 0))], ([], []), xf_161), ([([], [], (xf_161.1, xf_161.2), some (.inl (.inl ([], 0))))], []))
def xq_161 : ys_Q := (yz_X11_told, (yl_flX11, yl_ciX11, yl_cjX11, yl_cpX11), [])
def xa_161 : ys_CA := []
theorem xc_161 {l : Launch} {D : va_G} {ad : Nat → Nat} {cT : Nat → ClassId} {tys : List (ClassId × FieldType)} (hty : ys_Ty tys cT yk_sh) : ys_Con l D vwCl ad cT yk_sh tys yG xk_161 := ys_method (calls := xa_161) (Z := xq_161) 3000 (by decide +kernel) yz_X11_told_ok hty (yl_lkX11 _) (fun _ h => absurd h List.not_mem_nil) (by decide +kernel)
def xf_162 : ys_F := (yk_f0, yk_r0)
def xk_162 : ys_K := (((yX6_become, cX6_become, 2, none), (1, 18)), ([.inr (some 55), .inr (some 1)], ([], []), xf_162), ([([], [], ((ys_fs xf_162.1 [(55, 5, .inl (.inl ([], 1)))]), xf_162.2), none)], [56, 57, 58, 59]))
def xq_162 : ys_Q := (yz_X6_become, (yl_flX6, yl_ciX6, yl_cjX6, yl_cpX6), [])
def xa_162 : ys_CA := []
theorem xc_162 {l : Launch} {D : va_G} {ad : Nat → Nat} {cT : Nat → ClassId} {tys : List (ClassId × FieldType)} (hty : ys_Ty tys cT yk_sh) : ys_Con l D vwCl ad cT yk_sh tys yG xk_162 := ys_method (calls := xa_162) (Z := xq_162) 3000 (by decide +kernel) yz_X6_become_ok hty (yl_lkX6 _) (fun _ h => absurd h List.not_mem_nil) (by decide +kernel)
def xf_163 : ys_F := ((ys_fs yk_f0 [(55, 5, .inl (.inl ([], 1)))]), yk_r0)
def xk_163 : ys_K := (((yX2_become, cX2_become, 2, none), (1, 18)), ([.inr (some 60), .inr (some 6)], ([], []), xf_163), ([([], [], (xf_163.1, xf_163.2), none)], [61, 62, 63]))
def xq_163 : ys_Q := (yz_X2_become, (yl_flX2, yl_ciX2, yl_cjX2, yl_cpX2), [])
def xa_163 : ys_CA := []
theorem xc_163 {l : Launch} {D : va_G} {ad : Nat → Nat} {cT : Nat → ClassId} {tys : List (ClassId × FieldType)} (hty : ys_Ty tys cT yk_sh) : ys_Con l D vwCl ad cT yk_sh tys yG xk_163 := ys_method (calls := xa_163) (Z := xq_163) 3000 (by decide +kernel) yz_X2_become_ok hty (yl_lkX2 _) (fun _ h => absurd h List.not_mem_nil) (by decide +kernel)
def xf_164 : ys_F := ((ys_fs yk_f0 [(55, 5, .inl (.inl ([], 1)))]), yk_r0)
def xk_164 : ys_K := (((yX3_become, cX3_become, 2, none), (0, 0)), ([.inr (some 64), .inr (some 10)], ([], []), xf_164), ([([], [], (xf_164.1, xf_164.2), none)], []))
def xq_164 : ys_Q := (yz_X3_become, (yl_flX3, yl_ciX3, yl_cjX3, yl_cpX3), [])
def xa_164 : ys_CA := []
theorem xc_164 {l : Launch} {D : va_G} {ad : Nat → Nat} {cT : Nat → ClassId} {tys : List (ClassId × FieldType)} (hty : ys_Ty tys cT yk_sh) : ys_Con l D vwCl ad cT yk_sh tys yG xk_164 := ys_method (calls := xa_164) (Z := xq_164) 3000 (by decide +kernel) yz_X3_become_ok hty (yl_lkX3 _) (fun _ h => absurd h List.not_mem_nil) (by decide +kernel)
def xf_165 : ys_F := ((ys_fs yk_f0 [(55, 5, .inl (.inl ([], 1)))]), (ys_rs yk_r0 [(15, ((0, 0), [(0, (1, 1))]))]))
def xk_165 : ys_K := (((yX11_told, cX11_told, 2, (some .int)), (0, 0)), ([.inr (some 0), .inl (.inl ([], 0))], ([], []), xf_165), ([([], [], (xf_165.1, xf_165.2), some (.inl (.inl ([], 0))))], []))
def xq_165 : ys_Q := (yz_X11_told, (yl_flX11, yl_ciX11, yl_cjX11, yl_cpX11), [])
def xa_165 : ys_CA := []
theorem xc_165 {l : Launch} {D : va_G} {ad : Nat → Nat} {cT : Nat → ClassId} {tys : List (ClassId × FieldType)} (hty : ys_Ty tys cT yk_sh) : ys_Con l D vwCl ad cT yk_sh tys yG xk_165 := ys_method (calls := xa_165) (Z := xq_165) 3000 (by decide +kernel) yz_X11_told_ok hty (yl_lkX11 _) (fun _ h => absurd h List.not_mem_nil) (by decide +kernel)
def xf_166 : ys_F := (yk_f0, yk_r0)
def xk_166 : ys_K := (((yX11_image, cX11_image, 2, (some .int)), (2, 39)), ([.inr (some 0), .inl (.inl ([(0, 1)], 0))], ([((-2147483648), 2147483647)], []), xf_166), ([([], [([(0, (-1))], (-1))], ((ys_fs xf_166.1 [(0, 14, .inl (.inl ([], (-1))))]), xf_166.2), some (.inl (.inl ([], (-1))))), ([], [([(0, 1)], (-3))], ((ys_fs xf_166.1 [(0, 14, .inl (.inl ([], (-1))))]), xf_166.2), some (.inl (.inl ([], (-1))))), ([], [([(0, 1)], (-2)), ([(0, (-1))], 2)], ((ys_fs xf_166.1 [(75, 5, .inl (.inl ([], 1)))]), (ys_rs xf_166.2 [(15, ((0, 0), [(2, (1, 1))]))])), some (.inl (.inl ([], 0)))), ([], [([(0, 1)], (-1)), ([(0, (-1))], 1)], ((ys_fs xf_166.1 [(65, 5, .inl (.inl ([], 1)))]), (ys_rs xf_166.2 [(15, ((0, 0), [(1, (1, 1))]))])), some (.inl (.inl ([], 0)))), ([], [([(0, 1)], 0), ([(0, (-1))], 0)], ((ys_fs xf_166.1 [(55, 5, .inl (.inl ([], 1)))]), (ys_rs xf_166.2 [(15, ((0, 0), [(0, (1, 1))]))])), some (.inl (.inl ([], 0))))], [15, 56, 57, 58, 59, 61, 62, 63, 66, 67, 68, 69, 71, 72, 73, 76, 77, 78, 79, 81, 82, 83]))
def xq_166 : ys_Q := (yz_X11_image, (yl_flX11, yl_ciX11, yl_cjX11, yl_cpX11), [])
def xa_166 : ys_CA := [((377, true), xk_106), ((107, false), xk_107), ((380, false), xk_154), ((383, false), xk_155), ((386, false), xk_156), ((107, false), xk_157), ((380, false), xk_158), ((383, false), xk_159), ((386, false), xk_160), ((107, false), xk_161), ((380, false), xk_162), ((383, false), xk_163), ((386, false), xk_164), ((107, false), xk_165)]
theorem xc_166 {l : Launch} {D : va_G} {ad : Nat → Nat} {cT : Nat → ClassId} {tys : List (ClassId × FieldType)} (hty : ys_Ty tys cT yk_sh) : ys_Con l D vwCl ad cT yk_sh tys yG xk_166 := ys_method (calls := xa_166) (Z := xq_166) 3000 (by decide +kernel) yz_X11_image_ok hty (yl_lkX11 _) (List.forall_mem_cons.mpr ⟨⟨xc_106 hty, yg_CLs yl_wX11_377 yd_yX11_isImage⟩, List.forall_mem_cons.mpr ⟨⟨xc_107 hty, yg_CLv rfl rfl rfl yl_wX11_107 yd_yX11_told⟩, List.forall_mem_cons.mpr ⟨⟨xc_154 hty, yg_CLv rfl rfl rfl yl_wX11_380 yd_yX6_become⟩, List.forall_mem_cons.mpr ⟨⟨xc_155 hty, yg_CLv rfl rfl rfl yl_wX11_383 yd_yX2_become⟩, List.forall_mem_cons.mpr ⟨⟨xc_156 hty, yg_CLv rfl rfl rfl yl_wX11_386 yd_yX3_become⟩, List.forall_mem_cons.mpr ⟨⟨xc_157 hty, yg_CLv rfl rfl rfl yl_wX11_107 yd_yX11_told⟩, List.forall_mem_cons.mpr ⟨⟨xc_158 hty, yg_CLv rfl rfl rfl yl_wX11_380 yd_yX6_become⟩, List.forall_mem_cons.mpr ⟨⟨xc_159 hty, yg_CLv rfl rfl rfl yl_wX11_383 yd_yX2_become⟩, List.forall_mem_cons.mpr ⟨⟨xc_160 hty, yg_CLv rfl rfl rfl yl_wX11_386 yd_yX3_become⟩, List.forall_mem_cons.mpr ⟨⟨xc_161 hty, yg_CLv rfl rfl rfl yl_wX11_107 yd_yX11_told⟩, List.forall_mem_cons.mpr ⟨⟨xc_162 hty, yg_CLv rfl rfl rfl yl_wX11_380 yd_yX6_become⟩, List.forall_mem_cons.mpr ⟨⟨xc_163 hty, yg_CLv rfl rfl rfl yl_wX11_383 yd_yX2_become⟩, List.forall_mem_cons.mpr ⟨⟨xc_164 hty, yg_CLv rfl rfl rfl yl_wX11_386 yd_yX3_become⟩, List.forall_mem_cons.mpr ⟨⟨xc_165 hty, yg_CLv rfl rfl rfl yl_wX11_107 yd_yX11_told⟩, fun _ h => absurd h List.not_mem_nil⟩⟩⟩⟩⟩⟩⟩⟩⟩⟩⟩⟩⟩⟩) (by decide +kernel)
def xf_167 : ys_F := (yk_f0, yk_r0)
def xk_167 : ys_K := (((yX5_fits, cX5_fits, 2, (some .boolean)), (0, 0)), ([.inl (.inl ([], 0)), .inl (.inl ([(0, 1)], 0))], ([((-2147483648), 2147483647)], []), xf_167), ([([], [([(0, 1)], 0), ([(0, (-1))], 0)], (xf_167.1, xf_167.2), some (.inl (.inl ([], 1)))), ([], [([(0, (-1))], (-1))], (xf_167.1, xf_167.2), some (.inl (.inl ([], 0)))), ([], [([(0, 1)], (-1))], (xf_167.1, xf_167.2), some (.inl (.inl ([], 0))))], []))
def xq_167 : ys_Q := (yz_X5_fits, (yl_flX5, yl_ciX5, yl_cjX5, yl_cpX5), [])
def xa_167 : ys_CA := []
theorem xc_167 {l : Launch} {D : va_G} {ad : Nat → Nat} {cT : Nat → ClassId} {tys : List (ClassId × FieldType)} (hty : ys_Ty tys cT yk_sh) : ys_Con l D vwCl ad cT yk_sh tys yG xk_167 := ys_method (calls := xa_167) (Z := xq_167) 3000 (by decide +kernel) yz_X5_fits_ok hty (yl_lkX5 _) (fun _ h => absurd h List.not_mem_nil) (by decide +kernel)
end
section
def xf_168 : ys_F := (yk_f0, (ys_rs yk_r0 [(30, ((0, 0), [(0, (1, 1)), (1, (0, 0))]))]))
def xk_168 : ys_K := (((yX5_isMarked, cX5_isMarked, 2, (some .boolean)), (0, 0)), ([.inr (some 29), .inl (.inl ([], 0))], ([], []), xf_168), ([([], [], (xf_168.1, xf_168.2), some (.inl (.inl ([], 1))))], []))
def xq_168 : ys_Q := (yz_X5_isMarked, (yl_flX5, yl_ciX5, yl_cjX5, yl_cpX5), [])
def xa_168 : ys_CA := []
theorem xc_168 {l : Launch} {D : va_G} {ad : Nat → Nat} {cT : Nat → ClassId} {tys : List (ClassId × FieldType)} (hty : ys_Ty tys cT yk_sh) : ys_Con l D vwCl ad cT yk_sh tys yG xk_168 := ys_method (calls := xa_168) (Z := xq_168) 3000 (by decide +kernel) yz_X5_isMarked_ok hty (yl_lkX5 _) (fun _ h => absurd h List.not_mem_nil) (by decide +kernel)
def xf_169 : ys_F := (yk_f0, yk_r0)
def xk_169 : ys_K := (((yX11_isWay, cX11_isWay, 3, (some .int)), (3, 66)), ([.inr (some 0), .inl (.inl ([(0, 1)], 0)), .inl (.inl ([(1, 1)], 0))], ([((-2147483648), 2147483647), ((-2147483648), 2147483647)], []), xf_169), ([([], [([(0, (-1))], (-1))], (xf_169.1, xf_169.2), some (.inl (.inl ([], (-1))))), ([], [([(0, 1)], (-13))], (xf_169.1, xf_169.2), some (.inl (.inl ([], (-1))))), ([], [([(0, 1)], (-1)), ([(0, (-1))], 12)], (xf_169.1, xf_169.2), some (.inl (.inl ([], (-1))))), ([], [([(0, 1)], 0), ([(0, (-1))], 0), ([(1, 1)], (-1))], (xf_169.1, xf_169.2), some (.inl (.inl ([], (-1))))), ([], [([(0, 1)], 0), ([(0, (-1))], 0), ([(1, (-1))], (-1))], (xf_169.1, xf_169.2), some (.inl (.inl ([], (-1))))), ([], [([(0, 1)], 0), ([(0, (-1))], 0), ([(1, 1)], 0), ([(1, (-1))], 0)], (xf_169.1, (ys_rs xf_169.2 [(30, ((0, 0), [(0, (1, 1)), (1, (0, 0))]))])), some (.inl (.inl ([], 1))))], [30]))
def xq_169 : ys_Q := (yz_X11_isWay, (yl_flX11, yl_ciX11, yl_cjX11, yl_cpX11), [])
def xa_169 : ys_CA := [((254, false), xk_110), ((264, true), xk_167), ((257, false), xk_115), ((267, false), xk_168)]
theorem xc_169 {l : Launch} {D : va_G} {ad : Nat → Nat} {cT : Nat → ClassId} {tys : List (ClassId × FieldType)} (hty : ys_Ty tys cT yk_sh) : ys_Con l D vwCl ad cT yk_sh tys yG xk_169 := ys_method (calls := xa_169) (Z := xq_169) 3000 (by decide +kernel) yz_X11_isWay_ok hty (yl_lkX11 _) (List.forall_mem_cons.mpr ⟨⟨xc_110 hty, yg_CLv rfl rfl rfl yl_wX11_254 yd_yX11_canPartFirst⟩, List.forall_mem_cons.mpr ⟨⟨xc_167 hty, yg_CLs yl_wX11_264 yd_yX5_fits⟩, List.forall_mem_cons.mpr ⟨⟨xc_115 hty, yg_CLv rfl rfl rfl yl_wX11_257 yd_yX5_find⟩, List.forall_mem_cons.mpr ⟨⟨xc_168 hty, yg_CLv rfl rfl rfl yl_wX11_267 yd_yX5_isMarked⟩, fun _ h => absurd h List.not_mem_nil⟩⟩⟩⟩) (by decide +kernel)
def xf_170 : ys_F := (yk_f0, yk_r0)
def xk_170 : ys_K := (((yX2_add, cX2_add, 4, none), (0, 0)), ([.inr (some 6), .inl (.inl ([(0, 1)], 0)), .inl (.inl ([(1, 1)], 0)), .inl (.inl ([(2, 1)], 0))], ([(1, 1000000), ((-1000000), 1000000), ((-1000000), 1000000)], []), xf_170), ([([], [], ((ys_fs xf_170.1 [(6, 0, .inl (.inl ([], 1)))]), (ys_rs xf_170.2 [(7, ((0, 0), [(0, (1, 1000000))])), (8, ((0, 0), [(0, ((-1000000), 1000000))])), (9, ((0, 0), [(0, ((-1000000), 1000000))]))])), none)], [7, 8, 9]))
def xq_170 : ys_Q := (yz_X2_add, (yl_flX2, yl_ciX2, yl_cjX2, yl_cpX2), [])
def xa_170 : ys_CA := []
theorem xc_170 {l : Launch} {D : va_G} {ad : Nat → Nat} {cT : Nat → ClassId} {tys : List (ClassId × FieldType)} (hty : ys_Ty tys cT yk_sh) : ys_Con l D vwCl ad cT yk_sh tys yG xk_170 := ys_method (calls := xa_170) (Z := xq_170) 3000 (by decide +kernel) yz_X2_add_ok hty (yl_lkX2 _) (fun _ h => absurd h List.not_mem_nil) (by decide +kernel)
def xf_171 : ys_F := ((ys_fs yk_f0 [(6, 0, .inl (.inl ([], 1)))]), (ys_rs yk_r0 [(7, ((0, 0), [(0, (1, 1000000))])), (8, ((0, 0), [(0, ((-1000000), 1000000))])), (9, ((0, 0), [(0, ((-1000000), 1000000))]))]))
def xk_171 : ys_K := (((yX11_told, cX11_told, 2, (some .int)), (0, 0)), ([.inr (some 0), .inl (.inl ([], 1))], ([], []), xf_171), ([([], [], (xf_171.1, xf_171.2), some (.inl (.inl ([], 1))))], []))
def xq_171 : ys_Q := (yz_X11_told, (yl_flX11, yl_ciX11, yl_cjX11, yl_cpX11), [])
def xa_171 : ys_CA := []
theorem xc_171 {l : Launch} {D : va_G} {ad : Nat → Nat} {cT : Nat → ClassId} {tys : List (ClassId × FieldType)} (hty : ys_Ty tys cT yk_sh) : ys_Con l D vwCl ad cT yk_sh tys yG xk_171 := ys_method (calls := xa_171) (Z := xq_171) 3000 (by decide +kernel) yz_X11_told_ok hty (yl_lkX11 _) (fun _ h => absurd h List.not_mem_nil) (by decide +kernel)
def xf_172 : ys_F := (yk_f0, yk_r0)
def xk_172 : ys_K := (((yX2_add, cX2_add, 4, none), (0, 0)), ([.inr (some 6), .inl (.inl ([(0, 1)], 0)), .inl (.inl ([(1, 1)], 0)), .inl (.inl ([(2, 1)], 0))], ([((-1000000), (-1)), ((-1000000), 1000000), ((-1000000), 1000000)], []), xf_172), ([([], [], ((ys_fs xf_172.1 [(6, 0, .inl (.inl ([], 1)))]), (ys_rs xf_172.2 [(7, ((0, 0), [(0, ((-1000000), (-1)))])), (8, ((0, 0), [(0, ((-1000000), 1000000))])), (9, ((0, 0), [(0, ((-1000000), 1000000))]))])), none)], [7, 8, 9]))
def xq_172 : ys_Q := (yz_X2_add, (yl_flX2, yl_ciX2, yl_cjX2, yl_cpX2), [])
def xa_172 : ys_CA := []
theorem xc_172 {l : Launch} {D : va_G} {ad : Nat → Nat} {cT : Nat → ClassId} {tys : List (ClassId × FieldType)} (hty : ys_Ty tys cT yk_sh) : ys_Con l D vwCl ad cT yk_sh tys yG xk_172 := ys_method (calls := xa_172) (Z := xq_172) 3000 (by decide +kernel) yz_X2_add_ok hty (yl_lkX2 _) (fun _ h => absurd h List.not_mem_nil) (by decide +kernel)
def xf_173 : ys_F := ((ys_fs yk_f0 [(6, 0, .inl (.inl ([], 1)))]), (ys_rs yk_r0 [(7, ((0, 0), [(0, ((-1000000), (-1)))])), (8, ((0, 0), [(0, ((-1000000), 1000000))])), (9, ((0, 0), [(0, ((-1000000), 1000000))]))]))
def xk_173 : ys_K := (((yX11_told, cX11_told, 2, (some .int)), (0, 0)), ([.inr (some 0), .inl (.inl ([], 1))], ([], []), xf_173), ([([], [], (xf_173.1, xf_173.2), some (.inl (.inl ([], 1))))], []))
def xq_173 : ys_Q := (yz_X11_told, (yl_flX11, yl_ciX11, yl_cjX11, yl_cpX11), [])
def xa_173 : ys_CA := []
theorem xc_173 {l : Launch} {D : va_G} {ad : Nat → Nat} {cT : Nat → ClassId} {tys : List (ClassId × FieldType)} (hty : ys_Ty tys cT yk_sh) : ys_Con l D vwCl ad cT yk_sh tys yG xk_173 := ys_method (calls := xa_173) (Z := xq_173) 3000 (by decide +kernel) yz_X11_told_ok hty (yl_lkX11 _) (fun _ h => absurd h List.not_mem_nil) (by decide +kernel)
def xf_174 : ys_F := (yk_f0, yk_r0)
def xk_174 : ys_K := (((yX2_add, cX2_add, 4, none), (0, 0)), ([.inr (some 6), .inl (.inl ([], 0)), .inl (.inl ([(0, 1)], 0)), .inl (.inl ([(1, 1)], 0))], ([(1, 1000000), ((-1000000), 1000000)], []), xf_174), ([([], [], ((ys_fs xf_174.1 [(6, 0, .inl (.inl ([], 1)))]), (ys_rs xf_174.2 [(7, ((0, 0), [(0, (0, 0))])), (8, ((0, 0), [(0, (1, 1000000))])), (9, ((0, 0), [(0, ((-1000000), 1000000))]))])), none)], [7, 8, 9]))
def xq_174 : ys_Q := (yz_X2_add, (yl_flX2, yl_ciX2, yl_cjX2, yl_cpX2), [])
def xa_174 : ys_CA := []
theorem xc_174 {l : Launch} {D : va_G} {ad : Nat → Nat} {cT : Nat → ClassId} {tys : List (ClassId × FieldType)} (hty : ys_Ty tys cT yk_sh) : ys_Con l D vwCl ad cT yk_sh tys yG xk_174 := ys_method (calls := xa_174) (Z := xq_174) 3000 (by decide +kernel) yz_X2_add_ok hty (yl_lkX2 _) (fun _ h => absurd h List.not_mem_nil) (by decide +kernel)
def xf_175 : ys_F := ((ys_fs yk_f0 [(6, 0, .inl (.inl ([], 1)))]), (ys_rs yk_r0 [(7, ((0, 0), [(0, (0, 0))])), (8, ((0, 0), [(0, (1, 1000000))])), (9, ((0, 0), [(0, ((-1000000), 1000000))]))]))
def xk_175 : ys_K := (((yX11_told, cX11_told, 2, (some .int)), (0, 0)), ([.inr (some 0), .inl (.inl ([], 1))], ([], []), xf_175), ([([], [], (xf_175.1, xf_175.2), some (.inl (.inl ([], 1))))], []))
def xq_175 : ys_Q := (yz_X11_told, (yl_flX11, yl_ciX11, yl_cjX11, yl_cpX11), [])
def xa_175 : ys_CA := []
theorem xc_175 {l : Launch} {D : va_G} {ad : Nat → Nat} {cT : Nat → ClassId} {tys : List (ClassId × FieldType)} (hty : ys_Ty tys cT yk_sh) : ys_Con l D vwCl ad cT yk_sh tys yG xk_175 := ys_method (calls := xa_175) (Z := xq_175) 3000 (by decide +kernel) yz_X11_told_ok hty (yl_lkX11 _) (fun _ h => absurd h List.not_mem_nil) (by decide +kernel)
def xf_176 : ys_F := (yk_f0, yk_r0)
def xk_176 : ys_K := (((yX2_add, cX2_add, 4, none), (0, 0)), ([.inr (some 6), .inl (.inl ([], 0)), .inl (.inl ([(0, 1)], 0)), .inl (.inl ([(1, 1)], 0))], ([((-1000000), (-1)), ((-1000000), 1000000)], []), xf_176), ([([], [], ((ys_fs xf_176.1 [(6, 0, .inl (.inl ([], 1)))]), (ys_rs xf_176.2 [(7, ((0, 0), [(0, (0, 0))])), (8, ((0, 0), [(0, ((-1000000), (-1)))])), (9, ((0, 0), [(0, ((-1000000), 1000000))]))])), none)], [7, 8, 9]))
def xq_176 : ys_Q := (yz_X2_add, (yl_flX2, yl_ciX2, yl_cjX2, yl_cpX2), [])
def xa_176 : ys_CA := []
theorem xc_176 {l : Launch} {D : va_G} {ad : Nat → Nat} {cT : Nat → ClassId} {tys : List (ClassId × FieldType)} (hty : ys_Ty tys cT yk_sh) : ys_Con l D vwCl ad cT yk_sh tys yG xk_176 := ys_method (calls := xa_176) (Z := xq_176) 3000 (by decide +kernel) yz_X2_add_ok hty (yl_lkX2 _) (fun _ h => absurd h List.not_mem_nil) (by decide +kernel)
def xf_177 : ys_F := ((ys_fs yk_f0 [(6, 0, .inl (.inl ([], 1)))]), (ys_rs yk_r0 [(7, ((0, 0), [(0, (0, 0))])), (8, ((0, 0), [(0, ((-1000000), (-1)))])), (9, ((0, 0), [(0, ((-1000000), 1000000))]))]))
def xk_177 : ys_K := (((yX11_told, cX11_told, 2, (some .int)), (0, 0)), ([.inr (some 0), .inl (.inl ([], 1))], ([], []), xf_177), ([([], [], (xf_177.1, xf_177.2), some (.inl (.inl ([], 1))))], []))
def xq_177 : ys_Q := (yz_X11_told, (yl_flX11, yl_ciX11, yl_cjX11, yl_cpX11), [])
def xa_177 : ys_CA := []
theorem xc_177 {l : Launch} {D : va_G} {ad : Nat → Nat} {cT : Nat → ClassId} {tys : List (ClassId × FieldType)} (hty : ys_Ty tys cT yk_sh) : ys_Con l D vwCl ad cT yk_sh tys yG xk_177 := ys_method (calls := xa_177) (Z := xq_177) 3000 (by decide +kernel) yz_X11_told_ok hty (yl_lkX11 _) (fun _ h => absurd h List.not_mem_nil) (by decide +kernel)
def xf_178 : ys_F := (yk_f0, yk_r0)
def xk_178 : ys_K := (((yX11_judge, cX11_judge, 4, (some .int)), (2, 42)), ([.inr (some 0), .inl (.inl ([(0, 1)], 0)), .inl (.inl ([(1, 1)], 0)), .inl (.inl ([(2, 1)], 0))], ([((-2147483648), 2147483647), ((-2147483648), 2147483647), ((-2147483648), 2147483647)], []), xf_178), ([([], [([(0, 1)], (-1)), ([(0, (-1))], 1000000), ([(1, 1)], 1000000), ([(1, (-1))], 1000000), ([(2, 1)], 1000000), ([(2, (-1))], 1000000)], ((ys_fs xf_178.1 [(6, 0, .inl (.inl ([], 1)))]), (ys_rs xf_178.2 [(7, ((0, 0), [(0, (1, 1000000))])), (8, ((0, 0), [(0, ((-1000000), 1000000))])), (9, ((0, 0), [(0, ((-1000000), 1000000))]))])), some (.inl (.inl ([], 1)))), ([], [([(0, 1)], 1000000), ([(0, (-1))], (-1)), ([(1, 1)], 1000000), ([(1, (-1))], 1000000), ([(2, 1)], 1000000), ([(2, (-1))], 1000000)], ((ys_fs xf_178.1 [(6, 0, .inl (.inl ([], 1)))]), (ys_rs xf_178.2 [(7, ((0, 0), [(0, ((-1000000), (-1)))])), (8, ((0, 0), [(0, ((-1000000), 1000000))])), (9, ((0, 0), [(0, ((-1000000), 1000000))]))])), some (.inl (.inl ([], 1)))), ([], [([(0, 1)], 0), ([(0, (-1))], 0), ([(1, 1)], 0), ([(1, (-1))], 0), ([(2, 1)], 1000000), ([(2, (-1))], 1000000)], ((ys_fs xf_178.1 [(0, 14, .inl (.inl ([], (-1))))]), xf_178.2), some (.inl (.inl ([], (-1))))), ([], [([(0, 1)], 0), ([(0, (-1))], 0), ([(1, 1)], (-1)), ([(1, (-1))], 1000000), ([(2, 1)], 1000000), ([(2, (-1))], 1000000)], ((ys_fs xf_178.1 [(6, 0, .inl (.inl ([], 1)))]), (ys_rs xf_178.2 [(7, ((0, 0), [(0, (0, 0))])), (8, ((0, 0), [(0, (1, 1000000))])), (9, ((0, 0), [(0, ((-1000000), 1000000))]))])), some (.inl (.inl ([], 1)))), ([], [([(0, 1)], 0), ([(0, (-1))], 0), ([(1, 1)], 1000000), ([(1, (-1))], (-1)), ([(2, 1)], 1000000), ([(2, (-1))], 1000000)], ((ys_fs xf_178.1 [(6, 0, .inl (.inl ([], 1)))]), (ys_rs xf_178.2 [(7, ((0, 0), [(0, (0, 0))])), (8, ((0, 0), [(0, ((-1000000), (-1)))])), (9, ((0, 0), [(0, ((-1000000), 1000000))]))])), some (.inl (.inl ([], 1)))), ([], [([(0, 1)], 1000000), ([(0, (-1))], 1000000), ([(1, 1)], 1000000), ([(1, (-1))], 1000000), ([(2, 1)], (-1000001))], ((ys_fs xf_178.1 [(0, 14, .inl (.inl ([], (-1))))]), xf_178.2), some (.inl (.inl ([], (-1))))), ([], [([(0, 1)], 1000000), ([(0, (-1))], 1000000), ([(1, 1)], 1000000), ([(1, (-1))], 1000000), ([(2, (-1))], (-1000001))], ((ys_fs xf_178.1 [(0, 14, .inl (.inl ([], (-1))))]), xf_178.2), some (.inl (.inl ([], (-1))))), ([], [([(0, 1)], 1000000), ([(0, (-1))], 1000000), ([(1, 1)], (-1000001))], ((ys_fs xf_178.1 [(0, 14, .inl (.inl ([], (-1))))]), xf_178.2), some (.inl (.inl ([], (-1))))), ([], [([(0, 1)], 1000000), ([(0, (-1))], 1000000), ([(1, (-1))], (-1000001))], ((ys_fs xf_178.1 [(0, 14, .inl (.inl ([], (-1))))]), xf_178.2), some (.inl (.inl ([], (-1))))), ([], [([(0, 1)], (-1000001))], ((ys_fs xf_178.1 [(0, 14, .inl (.inl ([], (-1))))]), xf_178.2), some (.inl (.inl ([], (-1))))), ([], [([(0, (-1))], (-1000001))], ((ys_fs xf_178.1 [(0, 14, .inl (.inl ([], (-1))))]), xf_178.2), some (.inl (.inl ([], (-1)))))], [7, 8, 9]))
def xq_178 : ys_Q := (yz_X11_judge, (yl_flX11, yl_ciX11, yl_cjX11, yl_cpX11), [])
def xa_178 : ys_CA := [((246, true), xk_127), ((311, false), xk_170), ((107, false), xk_171), ((311, false), xk_172), ((107, false), xk_173), ((107, false), xk_107), ((311, false), xk_174), ((107, false), xk_175), ((311, false), xk_176), ((107, false), xk_177)]
theorem xc_178 {l : Launch} {D : va_G} {ad : Nat → Nat} {cT : Nat → ClassId} {tys : List (ClassId × FieldType)} (hty : ys_Ty tys cT yk_sh) : ys_Con l D vwCl ad cT yk_sh tys yG xk_178 := ys_method (calls := xa_178) (Z := xq_178) 3000 (by decide +kernel) yz_X11_judge_ok hty (yl_lkX11 _) (List.forall_mem_cons.mpr ⟨⟨xc_127 hty, yg_CLs yl_wX11_246 yd_yX2_isLine⟩, List.forall_mem_cons.mpr ⟨⟨xc_170 hty, yg_CLv rfl rfl rfl yl_wX11_311 yd_yX2_add⟩, List.forall_mem_cons.mpr ⟨⟨xc_171 hty, yg_CLv rfl rfl rfl yl_wX11_107 yd_yX11_told⟩, List.forall_mem_cons.mpr ⟨⟨xc_172 hty, yg_CLv rfl rfl rfl yl_wX11_311 yd_yX2_add⟩, List.forall_mem_cons.mpr ⟨⟨xc_173 hty, yg_CLv rfl rfl rfl yl_wX11_107 yd_yX11_told⟩, List.forall_mem_cons.mpr ⟨⟨xc_107 hty, yg_CLv rfl rfl rfl yl_wX11_107 yd_yX11_told⟩, List.forall_mem_cons.mpr ⟨⟨xc_174 hty, yg_CLv rfl rfl rfl yl_wX11_311 yd_yX2_add⟩, List.forall_mem_cons.mpr ⟨⟨xc_175 hty, yg_CLv rfl rfl rfl yl_wX11_107 yd_yX11_told⟩, List.forall_mem_cons.mpr ⟨⟨xc_176 hty, yg_CLv rfl rfl rfl yl_wX11_311 yd_yX2_add⟩, List.forall_mem_cons.mpr ⟨⟨xc_177 hty, yg_CLv rfl rfl rfl yl_wX11_107 yd_yX11_told⟩, fun _ h => absurd h List.not_mem_nil⟩⟩⟩⟩⟩⟩⟩⟩⟩⟩) (by decide +kernel)
def xf_179 : ys_F := (yk_f0, yk_r0)
def xk_179 : ys_K := (((yX3_goRound, cX3_goRound, 6, (some .int)), (0, 0)), ([.inr (some 10), .inr (some 1)], ([], []), xf_179), ([([], [], (xf_179.1, xf_179.2), some (.inl (.inl ([], 0))))], []))
def xq_179 : ys_Q := (yz_X3_goRound, (yl_flX3, yl_ciX3, yl_cjX3, yl_cpX3), [(4, [], [], (xf_179.1, xf_179.2), [(0, .inr (some 10)), (1, .inr (some 1)), (2, .inl (.inl ([], 0))), (3, .inl (.inl ([], 0)))], [], ([], 0))])
def xa_179 : ys_CA := []
theorem xc_179 {l : Launch} {D : va_G} {ad : Nat → Nat} {cT : Nat → ClassId} {tys : List (ClassId × FieldType)} (hty : ys_Ty tys cT yk_sh) : ys_Con l D vwCl ad cT yk_sh tys yG xk_179 := ys_method (calls := xa_179) (Z := xq_179) 3000 (by decide +kernel) yz_X3_goRound_ok hty (yl_lkX3 _) (fun _ h => absurd h List.not_mem_nil) (by decide +kernel)
def xf_180 : ys_F := (yk_f0, yk_r0)
def xk_180 : ys_K := (((yX3_train, cX3_train, 6, (some .int)), (1, 25)), ([.inr (some 10), .inr (some 1), .inl (.inl ([(0, 1)], 0))], ([(0, 1000)], []), xf_180), ([([], [([(0, 1)], (-1))], ((ys_fs xf_180.1 [(10, 4, .inl (.inr ([], 1)))]), xf_180.2), some (.inl (.inl ([], 0)))), ([], [([(0, (-1))], 0)], (xf_180.1, xf_180.2), some (.inl (.inl ([], 0))))], []))
def xq_180 : ys_Q := (yz_X3_train, (yl_flX3, yl_ciX3, yl_cjX3, yl_cpX3), [(5, [], [], (xf_180.1, xf_180.2), [(0, .inr (some 10)), (1, .inr (some 1)), (2, .inl (.inl ([(0, 1)], 0))), (3, .inl (.inl ([], 0))), (4, .inl (.inl ([], 0)))], [], ([], 0))])
def xa_180 : ys_CA := [((27, false), xk_179)]
theorem xc_180 {l : Launch} {D : va_G} {ad : Nat → Nat} {cT : Nat → ClassId} {tys : List (ClassId × FieldType)} (hty : ys_Ty tys cT yk_sh) : ys_Con l D vwCl ad cT yk_sh tys yG xk_180 := ys_method (calls := xa_180) (Z := xq_180) 3000 (by decide +kernel) yz_X3_train_ok hty (yl_lkX3 _) (List.forall_mem_cons.mpr ⟨⟨xc_179 hty, yg_CLv rfl rfl rfl yl_wX3_27 yd_yX3_goRound⟩, fun _ h => absurd h List.not_mem_nil⟩) (by decide +kernel)
def xf_181 : ys_F := (yk_f0, yk_r0)
def xk_181 : ys_K := (((yX11_told, cX11_told, 2, (some .int)), (0, 0)), ([.inr (some 0), .inl (.inl ([], 0))], ([], []), xf_181), ([([], [], (xf_181.1, xf_181.2), some (.inl (.inl ([], 0))))], []))
def xq_181 : ys_Q := (yz_X11_told, (yl_flX11, yl_ciX11, yl_cjX11, yl_cpX11), [])
def xa_181 : ys_CA := []
theorem xc_181 {l : Launch} {D : va_G} {ad : Nat → Nat} {cT : Nat → ClassId} {tys : List (ClassId × FieldType)} (hty : ys_Ty tys cT yk_sh) : ys_Con l D vwCl ad cT yk_sh tys yG xk_181 := ys_method (calls := xa_181) (Z := xq_181) 3000 (by decide +kernel) yz_X11_told_ok hty (yl_lkX11 _) (fun _ h => absurd h List.not_mem_nil) (by decide +kernel)
def xf_182 : ys_F := ((ys_fs yk_f0 [(10, 4, .inl (.inr ([], 1)))]), yk_r0)
def xk_182 : ys_K := (((yX11_told, cX11_told, 2, (some .int)), (0, 0)), ([.inr (some 0), .inl (.inl ([], 0))], ([], []), xf_182), ([([], [], (xf_182.1, xf_182.2), some (.inl (.inl ([], 0))))], []))
def xq_182 : ys_Q := (yz_X11_told, (yl_flX11, yl_ciX11, yl_cjX11, yl_cpX11), [])
def xa_182 : ys_CA := []
theorem xc_182 {l : Launch} {D : va_G} {ad : Nat → Nat} {cT : Nat → ClassId} {tys : List (ClassId × FieldType)} (hty : ys_Ty tys cT yk_sh) : ys_Con l D vwCl ad cT yk_sh tys yG xk_182 := ys_method (calls := xa_182) (Z := xq_182) 3000 (by decide +kernel) yz_X11_told_ok hty (yl_lkX11 _) (fun _ h => absurd h List.not_mem_nil) (by decide +kernel)
def xf_183 : ys_F := (yk_f0, yk_r0)
def xk_183 : ys_K := (((yX11_learn, cX11_learn, 2, (some .int)), (2, 50)), ([.inr (some 0), .inl (.inl ([(0, 1)], 0))], ([((-2147483648), 2147483647)], []), xf_183), ([([], [([(0, 1)], (-1001))], ((ys_fs xf_183.1 [(0, 14, .inl (.inl ([], (-1))))]), xf_183.2), some (.inl (.inl ([], (-1))))), ([], [([(0, 1)], 0), ([(0, (-1))], 0)], (xf_183.1, xf_183.2), some (.inl (.inl ([], 0)))), ([], [([(0, 1)], (-1)), ([(0, (-1))], 1000)], ((ys_fs xf_183.1 [(10, 4, .inl (.inr ([], 1)))]), xf_183.2), some (.inl (.inl ([], 0)))), ([], [([(0, (-1))], (-1))], ((ys_fs xf_183.1 [(0, 14, .inl (.inl ([], (-1))))]), xf_183.2), some (.inl (.inl ([], (-1)))))], []))
def xq_183 : ys_Q := (yz_X11_learn, (yl_flX11, yl_ciX11, yl_cjX11, yl_cpX11), [])
def xa_183 : ys_CA := [((107, false), xk_107), ((288, false), xk_180), ((107, false), xk_181), ((107, false), xk_182)]
theorem xc_183 {l : Launch} {D : va_G} {ad : Nat → Nat} {cT : Nat → ClassId} {tys : List (ClassId × FieldType)} (hty : ys_Ty tys cT yk_sh) : ys_Con l D vwCl ad cT yk_sh tys yG xk_183 := ys_method (calls := xa_183) (Z := xq_183) 3000 (by decide +kernel) yz_X11_learn_ok hty (yl_lkX11 _) (List.forall_mem_cons.mpr ⟨⟨xc_107 hty, yg_CLv rfl rfl rfl yl_wX11_107 yd_yX11_told⟩, List.forall_mem_cons.mpr ⟨⟨xc_180 hty, yg_CLv rfl rfl rfl yl_wX11_288 yd_yX3_train⟩, List.forall_mem_cons.mpr ⟨⟨xc_181 hty, yg_CLv rfl rfl rfl yl_wX11_107 yd_yX11_told⟩, List.forall_mem_cons.mpr ⟨⟨xc_182 hty, yg_CLv rfl rfl rfl yl_wX11_107 yd_yX11_told⟩, fun _ h => absurd h List.not_mem_nil⟩⟩⟩⟩) (by decide +kernel)
def xf_184 : ys_F := (yk_f0, yk_r0)
def xk_184 : ys_K := (((yX11_learnt, cX11_learnt, 2, (some .long)), (0, 0)), ([.inr (some 0), .inl (.inl ([(0, 1)], 0))], ([((-2147483648), 2147483647)], []), xf_184), ([([], [([(0, 1)], (-4)), ([(0, (-1))], 4)], (xf_184.1, xf_184.2), some (.inl (.inr ([], 0)))), ([], [([(0, 1)], (-3)), ([(0, (-1))], 3)], (xf_184.1, xf_184.2), some (.inl (.inr ([], 0)))), ([], [([(0, 1)], (-2)), ([(0, (-1))], 2)], (xf_184.1, xf_184.2), some (.inl (.inr ([], 0)))), ([], [([(0, 1)], (-1)), ([(0, (-1))], 1)], (xf_184.1, xf_184.2), some (.inl (.inr ([], 0)))), ([], [([(0, 1)], 0), ([(0, (-1))], 0)], (xf_184.1, xf_184.2), some (.inl (.inr ([], 0)))), ([], [([(0, 1)], (-5))], (xf_184.1, xf_184.2), some (.inl (.inr ([], (-1000000))))), ([], [([(0, (-1))], (-1))], (xf_184.1, xf_184.2), some (.inl (.inr ([], (-1000000)))))], []))
def xq_184 : ys_Q := (yz_X11_learnt, (yl_flX11, yl_ciX11, yl_cjX11, yl_cpX11), [])
def xa_184 : ys_CA := []
theorem xc_184 {l : Launch} {D : va_G} {ad : Nat → Nat} {cT : Nat → ClassId} {tys : List (ClassId × FieldType)} (hty : ys_Ty tys cT yk_sh) : ys_Con l D vwCl ad cT yk_sh tys yG xk_184 := ys_method (calls := xa_184) (Z := xq_184) 3000 (by decide +kernel) yz_X11_learnt_ok hty (yl_lkX11 _) (fun _ h => absurd h List.not_mem_nil) (by decide +kernel)
def xf_185 : ys_F := (yk_f0, yk_r0)
def xk_185 : ys_K := (((yX11_left, cX11_left, 1, (some .int)), (0, 0)), ([.inr (some 0)], ([], []), xf_185), ([([], [], (xf_185.1, xf_185.2), some (.inl (.inl ([], 0))))], []))
def xq_185 : ys_Q := (yz_X11_left, (yl_flX11, yl_ciX11, yl_cjX11, yl_cpX11), [])
def xa_185 : ys_CA := []
theorem xc_185 {l : Launch} {D : va_G} {ad : Nat → Nat} {cT : Nat → ClassId} {tys : List (ClassId × FieldType)} (hty : ys_Ty tys cT yk_sh) : ys_Con l D vwCl ad cT yk_sh tys yG xk_185 := ys_method (calls := xa_185) (Z := xq_185) 3000 (by decide +kernel) yz_X11_left_ok hty (yl_lkX11 _) (fun _ h => absurd h List.not_mem_nil) (by decide +kernel)
def xf_186 : ys_F := (yk_f0, yk_r0)
def xk_186 : ys_K := (((yX11_mass, cX11_mass, 2, (some .long)), (1, 21)), ([.inr (some 0), .inl (.inl ([(0, 1)], 0))], ([((-2147483648), 2147483647)], []), xf_186), ([([], [([(0, 1)], 0)], ((ys_fs xf_186.1 [(0, 14, .inl (.inl ([], (-1))))]), xf_186.2), some (.inl (.inr ([], (-1))))), ([], [([(0, (-1))], (-1))], ((ys_fs xf_186.1 [(0, 14, .inl (.inl ([], (-1))))]), xf_186.2), some (.inl (.inr ([], (-1)))))], []))
def xq_186 : ys_Q := (yz_X11_mass, (yl_flX11, yl_ciX11, yl_cjX11, yl_cpX11), [])
def xa_186 : ys_CA := [((107, false), xk_107)]
theorem xc_186 {l : Launch} {D : va_G} {ad : Nat → Nat} {cT : Nat → ClassId} {tys : List (ClassId × FieldType)} (hty : ys_Ty tys cT yk_sh) : ys_Con l D vwCl ad cT yk_sh tys yG xk_186 := ys_method (calls := xa_186) (Z := xq_186) 3000 (by decide +kernel) yz_X11_mass_ok hty (yl_lkX11 _) (List.forall_mem_cons.mpr ⟨⟨xc_107 hty, yg_CLv rfl rfl rfl yl_wX11_107 yd_yX11_told⟩, fun _ h => absurd h List.not_mem_nil⟩) (by decide +kernel)
def xf_187 : ys_F := (yk_f0, yk_r0)
def xk_187 : ys_K := (((yX4_canTell, cX4_canTell, 1, (some .boolean)), (0, 0)), ([.inl (.inl ([(0, 1)], 0))], ([((-2147483648), 2147483647)], []), xf_187), ([([], [([(0, (-1))], (-1))], (xf_187.1, xf_187.2), some (.inl (.inl ([], 0)))), ([], [([(0, 1)], (-1)), ([(0, (-1))], 1)], (xf_187.1, xf_187.2), some (.inl (.inl ([], 1)))), ([], [([(0, 1)], (-40)), ([(0, (-1))], 43)], (xf_187.1, xf_187.2), some (.inl (.inl ([], 1)))), ([], [([(0, 1)], (-44)), ([(0, (-1))], 49)], (xf_187.1, xf_187.2), some (.inl (.inl ([], 0)))), ([], [([(0, 1)], (-30)), ([(0, (-1))], 33)], (xf_187.1, xf_187.2), some (.inl (.inl ([], 1)))), ([], [([(0, 1)], (-34)), ([(0, (-1))], 39)], (xf_187.1, xf_187.2), some (.inl (.inl ([], 0)))), ([], [([(0, 1)], (-20)), ([(0, (-1))], 23)], (xf_187.1, xf_187.2), some (.inl (.inl ([], 1)))), ([], [([(0, 1)], (-24)), ([(0, (-1))], 29)], (xf_187.1, xf_187.2), some (.inl (.inl ([], 0)))), ([], [([(0, 1)], (-10)), ([(0, (-1))], 13)], (xf_187.1, xf_187.2), some (.inl (.inl ([], 1)))), ([], [([(0, 1)], (-14)), ([(0, (-1))], 19)], (xf_187.1, xf_187.2), some (.inl (.inl ([], 0)))), ([], [([(0, 1)], (-50))], (xf_187.1, xf_187.2), some (.inl (.inl ([], 0)))), ([], [([(0, 1)], (-2)), ([(0, (-1))], 9)], (xf_187.1, xf_187.2), some (.inl (.inl ([], 0)))), ([], [([(0, 1)], 0), ([(0, (-1))], 0)], (xf_187.1, xf_187.2), some (.inl (.inl ([], 1))))], []))
def xq_187 : ys_Q := (yz_X4_canTell, (yl_flX4, yl_ciX4, yl_cjX4, yl_cpX4), [])
def xa_187 : ys_CA := []
theorem xc_187 {l : Launch} {D : va_G} {ad : Nat → Nat} {cT : Nat → ClassId} {tys : List (ClassId × FieldType)} (hty : ys_Ty tys cT yk_sh) : ys_Con l D vwCl ad cT yk_sh tys yG xk_187 := ys_method (calls := xa_187) (Z := xq_187) 3000 (by decide +kernel) yz_X4_canTell_ok hty (yl_lkX4 _) (fun _ h => absurd h List.not_mem_nil) (by decide +kernel)
def xf_188 : ys_F := (yk_f0, yk_r0)
def xk_188 : ys_K := (((yX6_hasBothColours, cX6_hasBothColours, 2, (some .boolean)), (1, 23)), ([.inr (some 1)], ([], []), xf_188), ([([], [], (xf_188.1, xf_188.2), some (.inl (.inl ([], 0))))], []))
def xq_188 : ys_Q := (yz_X6_hasBothColours, (yl_flX6, yl_ciX6, yl_cjX6, yl_cpX6), [])
def xa_188 : ys_CA := [((45, false), xk_120)]
theorem xc_188 {l : Launch} {D : va_G} {ad : Nat → Nat} {cT : Nat → ClassId} {tys : List (ClassId × FieldType)} (hty : ys_Ty tys cT yk_sh) : ys_Con l D vwCl ad cT yk_sh tys yG xk_188 := ys_method (calls := xa_188) (Z := xq_188) 3000 (by decide +kernel) yz_X6_hasBothColours_ok hty (yl_lkX6 _) (List.forall_mem_cons.mpr ⟨⟨xc_120 hty, yg_CLv rfl rfl rfl yl_wX6_45 yd_yX6_tally⟩, fun _ h => absurd h List.not_mem_nil⟩) (by decide +kernel)
def xf_189 : ys_F := (yk_f0, yk_r0)
def xk_189 : ys_K := (((yX11_areParted, cX11_areParted, 1, (some .boolean)), (2, 44)), ([.inr (some 0)], ([], []), xf_189), ([([], [], (xf_189.1, xf_189.2), some (.inl (.inl ([], 1))))], []))
def xq_189 : ys_Q := (yz_X11_areParted, (yl_flX11, yl_ciX11, yl_cjX11, yl_cpX11), [])
def xa_189 : ys_CA := [((395, false), xk_188)]
theorem xc_189 {l : Launch} {D : va_G} {ad : Nat → Nat} {cT : Nat → ClassId} {tys : List (ClassId × FieldType)} (hty : ys_Ty tys cT yk_sh) : ys_Con l D vwCl ad cT yk_sh tys yG xk_189 := ys_method (calls := xa_189) (Z := xq_189) 3000 (by decide +kernel) yz_X11_areParted_ok hty (yl_lkX11 _) (List.forall_mem_cons.mpr ⟨⟨xc_188 hty, yg_CLv rfl rfl rfl yl_wX11_395 yd_yX6_hasBothColours⟩, fun _ h => absurd h List.not_mem_nil⟩) (by decide +kernel)
def xf_190 : ys_F := (yk_f0, yk_r0)
def xk_190 : ys_K := (((yX11_meet, cX11_meet, 2, (some .long)), (3, 64)), ([.inr (some 0), .inl (.inl ([(0, 1)], 0))], ([((-2147483648), 2147483647)], []), xf_190), ([([], [([(0, 1)], 0), ([(0, (-1))], 0)], (xf_190.1, xf_190.2), some (.inl (.inr ([], (-6))))), ([], [([(0, 1)], (-2)), ([(0, (-1))], 9)], (xf_190.1, xf_190.2), some (.inl (.inr ([], (-1000000))))), ([], [([(0, 1)], (-50))], (xf_190.1, xf_190.2), some (.inl (.inr ([], (-1000000))))), ([], [([(0, 1)], (-14)), ([(0, (-1))], 19)], (xf_190.1, xf_190.2), some (.inl (.inr ([], (-1000000))))), ([], [([(0, 1)], (-10)), ([(0, (-1))], 13)], (xf_190.1, xf_190.2), some (.inl (.inr ([], (-6))))), ([], [([(0, 1)], (-24)), ([(0, (-1))], 29)], (xf_190.1, xf_190.2), some (.inl (.inr ([], (-1000000))))), ([], [([(0, 1)], (-20)), ([(0, (-1))], 23)], (xf_190.1, xf_190.2), some (.inl (.inr ([], (-6))))), ([], [([(0, 1)], (-34)), ([(0, (-1))], 39)], (xf_190.1, xf_190.2), some (.inl (.inr ([], (-1000000))))), ([], [([(0, 1)], (-30)), ([(0, (-1))], 33)], (xf_190.1, xf_190.2), some (.inl (.inr ([], (-6))))), ([], [([(0, 1)], (-44)), ([(0, (-1))], 49)], (xf_190.1, xf_190.2), some (.inl (.inr ([], (-1000000))))), ([], [([(0, 1)], (-40)), ([(0, (-1))], 43)], (xf_190.1, xf_190.2), some (.inl (.inr ([], (-6))))), ([], [([(0, 1)], (-1)), ([(0, (-1))], 1)], (xf_190.1, xf_190.2), some (.inl (.inr ([], (-6))))), ([], [([(0, (-1))], (-1))], (xf_190.1, xf_190.2), some (.inl (.inr ([], (-1000000)))))], []))
def xq_190 : ys_Q := (yz_X11_meet, (yl_flX11, yl_ciX11, yl_cjX11, yl_cpX11), [])
def xa_190 : ys_CA := [((226, true), xk_187), ((184, false), xk_189)]
theorem xc_190 {l : Launch} {D : va_G} {ad : Nat → Nat} {cT : Nat → ClassId} {tys : List (ClassId × FieldType)} (hty : ys_Ty tys cT yk_sh) : ys_Con l D vwCl ad cT yk_sh tys yG xk_190 := ys_method (calls := xa_190) (Z := xq_190) 3000 (by decide +kernel) yz_X11_meet_ok hty (yl_lkX11 _) (List.forall_mem_cons.mpr ⟨⟨xc_187 hty, yg_CLs yl_wX11_226 yd_yX4_canTell⟩, List.forall_mem_cons.mpr ⟨⟨xc_189 hty, yg_CLv rfl rfl rfl yl_wX11_184 yd_yX11_areParted⟩, fun _ h => absurd h List.not_mem_nil⟩⟩) (by decide +kernel)
def xf_191 : ys_F := (yk_f0, yk_r0)
def xk_191 : ys_K := (((yX11_of, cX11_of, 3, (some .int)), (1, 21)), ([.inr (some 0), .inl (.inl ([(0, 1)], 0)), .inl (.inl ([(1, 1)], 0))], ([((-2147483648), 2147483647), ((-2147483648), 2147483647)], []), xf_191), ([([], [([(0, (-1))], (-1))], (xf_191.1, xf_191.2), some (.inl (.inl ([], (-1000))))), ([], [([(0, 1)], 0)], (xf_191.1, xf_191.2), some (.inl (.inl ([], (-1000)))))], []))
def xq_191 : ys_Q := (yz_X11_of, (yl_flX11, yl_ciX11, yl_cjX11, yl_cpX11), [])
def xa_191 : ys_CA := [((118, false), xk_142)]
theorem xc_191 {l : Launch} {D : va_G} {ad : Nat → Nat} {cT : Nat → ClassId} {tys : List (ClassId × FieldType)} (hty : ys_Ty tys cT yk_sh) : ys_Con l D vwCl ad cT yk_sh tys yG xk_191 := ys_method (calls := xa_191) (Z := xq_191) 3000 (by decide +kernel) yz_X11_of_ok hty (yl_lkX11 _) (List.forall_mem_cons.mpr ⟨⟨xc_142 hty, yg_CLv rfl rfl rfl yl_wX11_118 yd_yX6_has⟩, fun _ h => absurd h List.not_mem_nil⟩) (by decide +kernel)
def xf_192 : ys_F := (yk_f0, yk_r0)
def xk_192 : ys_K := (((yX11_paint, cX11_paint, 4, (some .int)), (1, 21)), ([.inr (some 0), .inl (.inl ([(0, 1)], 0)), .inl (.inl ([(1, 1)], 0)), .inl (.inl ([(2, 1)], 0))], ([((-2147483648), 2147483647), ((-2147483648), 2147483647), ((-2147483648), 2147483647)], []), xf_192), ([([], [([(0, (-1))], (-1))], ((ys_fs xf_192.1 [(0, 14, .inl (.inl ([], (-1))))]), xf_192.2), some (.inl (.inl ([], (-1))))), ([], [([(0, 1)], 0)], ((ys_fs xf_192.1 [(0, 14, .inl (.inl ([], (-1))))]), xf_192.2), some (.inl (.inl ([], (-1)))))], []))
def xq_192 : ys_Q := (yz_X11_paint, (yl_flX11, yl_ciX11, yl_cjX11, yl_cpX11), [])
def xa_192 : ys_CA := [((118, false), xk_142), ((107, false), xk_107)]
theorem xc_192 {l : Launch} {D : va_G} {ad : Nat → Nat} {cT : Nat → ClassId} {tys : List (ClassId × FieldType)} (hty : ys_Ty tys cT yk_sh) : ys_Con l D vwCl ad cT yk_sh tys yG xk_192 := ys_method (calls := xa_192) (Z := xq_192) 3000 (by decide +kernel) yz_X11_paint_ok hty (yl_lkX11 _) (List.forall_mem_cons.mpr ⟨⟨xc_142 hty, yg_CLv rfl rfl rfl yl_wX11_118 yd_yX6_has⟩, List.forall_mem_cons.mpr ⟨⟨xc_107 hty, yg_CLv rfl rfl rfl yl_wX11_107 yd_yX11_told⟩, fun _ h => absurd h List.not_mem_nil⟩⟩) (by decide +kernel)
def xf_193 : ys_F := (yk_f0, yk_r0)
def xk_193 : ys_K := (((yX11_parted, cX11_parted, 1, (some .int)), (3, 64)), ([.inr (some 0)], ([], []), xf_193), ([([], [], (xf_193.1, xf_193.2), some (.inl (.inl ([], 1))))], []))
def xq_193 : ys_Q := (yz_X11_parted, (yl_flX11, yl_ciX11, yl_cjX11, yl_cpX11), [])
def xa_193 : ys_CA := [((184, false), xk_189)]
theorem xc_193 {l : Launch} {D : va_G} {ad : Nat → Nat} {cT : Nat → ClassId} {tys : List (ClassId × FieldType)} (hty : ys_Ty tys cT yk_sh) : ys_Con l D vwCl ad cT yk_sh tys yG xk_193 := ys_method (calls := xa_193) (Z := xq_193) 3000 (by decide +kernel) yz_X11_parted_ok hty (yl_lkX11 _) (List.forall_mem_cons.mpr ⟨⟨xc_189 hty, yg_CLv rfl rfl rfl yl_wX11_184 yd_yX11_areParted⟩, fun _ h => absurd h List.not_mem_nil⟩) (by decide +kernel)
def xf_194 : ys_F := (yk_f0, yk_r0)
def xk_194 : ys_K := (((yX6_isNear, cX6_isNear, 2, (some .boolean)), (0, 0)), ([.inl (.inr ([(0, 1)], 0))], ([((-2147483648), 2147483647)], []), xf_194), ([([], [([(0, 1)], 300), ([(0, (-1))], 300)], (xf_194.1, xf_194.2), some (.inl (.inl ([], 1)))), ([], [([(0, 1)], (-301))], (xf_194.1, xf_194.2), some (.inl (.inl ([], 0)))), ([], [([(0, (-1))], (-301))], (xf_194.1, xf_194.2), some (.inl (.inl ([], 0))))], []))
def xq_194 : ys_Q := (yz_X6_isNear, (yl_flX6, yl_ciX6, yl_cjX6, yl_cpX6), [])
def xa_194 : ys_CA := []
theorem xc_194 {l : Launch} {D : va_G} {ad : Nat → Nat} {cT : Nat → ClassId} {tys : List (ClassId × FieldType)} (hty : ys_Ty tys cT yk_sh) : ys_Con l D vwCl ad cT yk_sh tys yG xk_194 := ys_method (calls := xa_194) (Z := xq_194) 3000 (by decide +kernel) yz_X6_isNear_ok hty (yl_lkX6 _) (fun _ h => absurd h List.not_mem_nil) (by decide +kernel)
def xf_195 : ys_F := (yk_f0, yk_r0)
def xk_195 : ys_K := (((yX6_add, cX6_add, 4, none), (0, 0)), ([.inr (some 1), .inl (.inl ([(0, 1)], 0)), .inl (.inl ([(1, 1)], 0)), .inl (.inl ([], 0))], ([((-300), 300), ((-300), 300)], []), xf_195), ([([], [], ((ys_fs xf_195.1 [(1, 4, .inl (.inl ([], 1))), (1, 5, .inl (.inl ([], 1)))]), (ys_rs xf_195.2 [(2, ((0, 0), [(0, ((-300), 300))])), (3, ((0, 0), [(0, ((-300), 300))])), (4, ((0, 0), [(0, (0, 0))])), (5, ((0, 0), [(0, (1, 1))]))])), none)], [2, 3, 4, 5]))
def xq_195 : ys_Q := (yz_X6_add, (yl_flX6, yl_ciX6, yl_cjX6, yl_cpX6), [])
def xa_195 : ys_CA := []
theorem xc_195 {l : Launch} {D : va_G} {ad : Nat → Nat} {cT : Nat → ClassId} {tys : List (ClassId × FieldType)} (hty : ys_Ty tys cT yk_sh) : ys_Con l D vwCl ad cT yk_sh tys yG xk_195 := ys_method (calls := xa_195) (Z := xq_195) 3000 (by decide +kernel) yz_X6_add_ok hty (yl_lkX6 _) (fun _ h => absurd h List.not_mem_nil) (by decide +kernel)
def xf_196 : ys_F := ((ys_fs yk_f0 [(1, 4, .inl (.inl ([], 1))), (1, 5, .inl (.inl ([], 1)))]), (ys_rs yk_r0 [(2, ((0, 0), [(0, ((-300), 300))])), (3, ((0, 0), [(0, ((-300), 300))])), (4, ((0, 0), [(0, (0, 0))])), (5, ((0, 0), [(0, (1, 1))]))]))
def xk_196 : ys_K := (((yX11_told, cX11_told, 2, (some .int)), (0, 0)), ([.inr (some 0), .inl (.inl ([], 1))], ([], []), xf_196), ([([], [], (xf_196.1, xf_196.2), some (.inl (.inl ([], 1))))], []))
def xq_196 : ys_Q := (yz_X11_told, (yl_flX11, yl_ciX11, yl_cjX11, yl_cpX11), [])
def xa_196 : ys_CA := []
theorem xc_196 {l : Launch} {D : va_G} {ad : Nat → Nat} {cT : Nat → ClassId} {tys : List (ClassId × FieldType)} (hty : ys_Ty tys cT yk_sh) : ys_Con l D vwCl ad cT yk_sh tys yG xk_196 := ys_method (calls := xa_196) (Z := xq_196) 3000 (by decide +kernel) yz_X11_told_ok hty (yl_lkX11 _) (fun _ h => absurd h List.not_mem_nil) (by decide +kernel)
def xf_197 : ys_F := (yk_f0, yk_r0)
def xk_197 : ys_K := (((yX6_add, cX6_add, 4, none), (0, 0)), ([.inr (some 1), .inl (.inl ([(0, 1)], 0)), .inl (.inl ([(1, 1)], 0)), .inl (.inl ([], 1))], ([((-300), 300), ((-300), 300)], []), xf_197), ([([], [], ((ys_fs xf_197.1 [(1, 4, .inl (.inl ([], 1))), (1, 5, .inl (.inl ([], 1)))]), (ys_rs xf_197.2 [(2, ((0, 0), [(0, ((-300), 300))])), (3, ((0, 0), [(0, ((-300), 300))])), (4, ((0, 0), [(0, (1, 1))])), (5, ((0, 0), [(0, (1, 1))]))])), none)], [2, 3, 4, 5]))
def xq_197 : ys_Q := (yz_X6_add, (yl_flX6, yl_ciX6, yl_cjX6, yl_cpX6), [])
def xa_197 : ys_CA := []
theorem xc_197 {l : Launch} {D : va_G} {ad : Nat → Nat} {cT : Nat → ClassId} {tys : List (ClassId × FieldType)} (hty : ys_Ty tys cT yk_sh) : ys_Con l D vwCl ad cT yk_sh tys yG xk_197 := ys_method (calls := xa_197) (Z := xq_197) 3000 (by decide +kernel) yz_X6_add_ok hty (yl_lkX6 _) (fun _ h => absurd h List.not_mem_nil) (by decide +kernel)
def xf_198 : ys_F := ((ys_fs yk_f0 [(1, 4, .inl (.inl ([], 1))), (1, 5, .inl (.inl ([], 1)))]), (ys_rs yk_r0 [(2, ((0, 0), [(0, ((-300), 300))])), (3, ((0, 0), [(0, ((-300), 300))])), (4, ((0, 0), [(0, (1, 1))])), (5, ((0, 0), [(0, (1, 1))]))]))
def xk_198 : ys_K := (((yX11_told, cX11_told, 2, (some .int)), (0, 0)), ([.inr (some 0), .inl (.inl ([], 1))], ([], []), xf_198), ([([], [], (xf_198.1, xf_198.2), some (.inl (.inl ([], 1))))], []))
def xq_198 : ys_Q := (yz_X11_told, (yl_flX11, yl_ciX11, yl_cjX11, yl_cpX11), [])
def xa_198 : ys_CA := []
theorem xc_198 {l : Launch} {D : va_G} {ad : Nat → Nat} {cT : Nat → ClassId} {tys : List (ClassId × FieldType)} (hty : ys_Ty tys cT yk_sh) : ys_Con l D vwCl ad cT yk_sh tys yG xk_198 := ys_method (calls := xa_198) (Z := xq_198) 3000 (by decide +kernel) yz_X11_told_ok hty (yl_lkX11 _) (fun _ h => absurd h List.not_mem_nil) (by decide +kernel)
def xf_199 : ys_F := (yk_f0, yk_r0)
def xk_199 : ys_K := (((yX11_point, cX11_point, 4, (some .int)), (1, 23)), ([.inr (some 0), .inl (.inl ([(0, 1)], 0)), .inl (.inl ([(1, 1)], 0)), .inl (.inl ([(2, 1)], 0))], ([((-2147483648), 2147483647), ((-2147483648), 2147483647), ((-2147483648), 2147483647)], []), xf_199), ([([], [([(0, (-1))], (-301))], ((ys_fs xf_199.1 [(0, 14, .inl (.inl ([], (-1))))]), xf_199.2), some (.inl (.inl ([], (-1))))), ([], [([(0, 1)], (-301))], ((ys_fs xf_199.1 [(0, 14, .inl (.inl ([], (-1))))]), xf_199.2), some (.inl (.inl ([], (-1))))), ([], [([(0, 1)], 300), ([(0, (-1))], 300), ([(1, (-1))], (-301))], ((ys_fs xf_199.1 [(0, 14, .inl (.inl ([], (-1))))]), xf_199.2), some (.inl (.inl ([], (-1))))), ([], [([(0, 1)], 300), ([(0, (-1))], 300), ([(1, 1)], (-301))], ((ys_fs xf_199.1 [(0, 14, .inl (.inl ([], (-1))))]), xf_199.2), some (.inl (.inl ([], (-1))))), ([], [([(0, 1)], 300), ([(0, (-1))], 300), ([(1, 1)], 300), ([(1, (-1))], 300), ([(2, 1)], 0), ([(2, (-1))], 0)], ((ys_fs xf_199.1 [(1, 4, .inl (.inl ([], 1))), (1, 5, .inl (.inl ([], 1)))]), (ys_rs xf_199.2 [(2, ((0, 0), [(0, ((-300), 300))])), (3, ((0, 0), [(0, ((-300), 300))])), (4, ((0, 0), [(0, (0, 0))])), (5, ((0, 0), [(0, (1, 1))]))])), some (.inl (.inl ([], 1)))), ([], [([(0, 1)], 300), ([(0, (-1))], 300), ([(1, 1)], 300), ([(1, (-1))], 300), ([(2, 1)], (-2))], ((ys_fs xf_199.1 [(0, 14, .inl (.inl ([], (-1))))]), xf_199.2), some (.inl (.inl ([], (-1))))), ([], [([(0, 1)], 300), ([(0, (-1))], 300), ([(1, 1)], 300), ([(1, (-1))], 300), ([(2, 1)], (-1)), ([(2, (-1))], 1)], ((ys_fs xf_199.1 [(1, 4, .inl (.inl ([], 1))), (1, 5, .inl (.inl ([], 1)))]), (ys_rs xf_199.2 [(2, ((0, 0), [(0, ((-300), 300))])), (3, ((0, 0), [(0, ((-300), 300))])), (4, ((0, 0), [(0, (1, 1))])), (5, ((0, 0), [(0, (1, 1))]))])), some (.inl (.inl ([], 1)))), ([], [([(0, 1)], 300), ([(0, (-1))], 300), ([(1, 1)], 300), ([(1, (-1))], 300), ([(2, (-1))], (-1))], ((ys_fs xf_199.1 [(0, 14, .inl (.inl ([], (-1))))]), xf_199.2), some (.inl (.inl ([], (-1)))))], [2, 3, 4, 5]))
def xq_199 : ys_Q := (yz_X11_point, (yl_flX11, yl_ciX11, yl_cjX11, yl_cpX11), [])
def xa_199 : ys_CA := [((99, true), xk_194), ((107, false), xk_107), ((103, true), xk_148), ((114, false), xk_195), ((107, false), xk_196), ((114, false), xk_197), ((107, false), xk_198)]
theorem xc_199 {l : Launch} {D : va_G} {ad : Nat → Nat} {cT : Nat → ClassId} {tys : List (ClassId × FieldType)} (hty : ys_Ty tys cT yk_sh) : ys_Con l D vwCl ad cT yk_sh tys yG xk_199 := ys_method (calls := xa_199) (Z := xq_199) 3000 (by decide +kernel) yz_X11_point_ok hty (yl_lkX11 _) (List.forall_mem_cons.mpr ⟨⟨xc_194 hty, yg_CLs yl_wX11_99 yd_yX6_isNear⟩, List.forall_mem_cons.mpr ⟨⟨xc_107 hty, yg_CLv rfl rfl rfl yl_wX11_107 yd_yX11_told⟩, List.forall_mem_cons.mpr ⟨⟨xc_148 hty, yg_CLs yl_wX11_103 yd_yX6_isColour⟩, List.forall_mem_cons.mpr ⟨⟨xc_195 hty, yg_CLv rfl rfl rfl yl_wX11_114 yd_yX6_add⟩, List.forall_mem_cons.mpr ⟨⟨xc_196 hty, yg_CLv rfl rfl rfl yl_wX11_107 yd_yX11_told⟩, List.forall_mem_cons.mpr ⟨⟨xc_197 hty, yg_CLv rfl rfl rfl yl_wX11_114 yd_yX6_add⟩, List.forall_mem_cons.mpr ⟨⟨xc_198 hty, yg_CLv rfl rfl rfl yl_wX11_107 yd_yX11_told⟩, fun _ h => absurd h List.not_mem_nil⟩⟩⟩⟩⟩⟩⟩) (by decide +kernel)
def xf_200 : ys_F := (yk_f0, yk_r0)
def xk_200 : ys_K := (((yX8_has, cX8_has, 2, (some .boolean)), (0, 0)), ([.inr (some 53), .inl (.inl ([(0, 1)], 0))], ([((-2147483648), 2147483647)], []), xf_200), ([([], [([(0, 1)], 0)], (xf_200.1, xf_200.2), some (.inl (.inl ([], 0)))), ([], [([(0, (-1))], (-1))], (xf_200.1, xf_200.2), some (.inl (.inl ([], 0))))], []))
def xq_200 : ys_Q := (yz_X8_has, (yl_flX8, yl_ciX8, yl_cjX8, yl_cpX8), [])
def xa_200 : ys_CA := []
theorem xc_200 {l : Launch} {D : va_G} {ad : Nat → Nat} {cT : Nat → ClassId} {tys : List (ClassId × FieldType)} (hty : ys_Ty tys cT yk_sh) : ys_Con l D vwCl ad cT yk_sh tys yG xk_200 := ys_method (calls := xa_200) (Z := xq_200) 3000 (by decide +kernel) yz_X8_has_ok hty (yl_lkX8 _) (fun _ h => absurd h List.not_mem_nil) (by decide +kernel)
def xf_201 : ys_F := (yk_f0, yk_r0)
def xk_201 : ys_K := (((yX8_has, cX8_has, 2, (some .boolean)), (0, 0)), ([.inr (some 51), .inl (.inl ([(0, 1)], 0))], ([((-2147483648), 2147483647)], []), xf_201), ([([], [([(0, 1)], 0)], (xf_201.1, xf_201.2), some (.inl (.inl ([], 0)))), ([], [([(0, (-1))], (-1))], (xf_201.1, xf_201.2), some (.inl (.inl ([], 0))))], []))
def xq_201 : ys_Q := (yz_X8_has, (yl_flX8, yl_ciX8, yl_cjX8, yl_cpX8), [])
def xa_201 : ys_CA := []
theorem xc_201 {l : Launch} {D : va_G} {ad : Nat → Nat} {cT : Nat → ClassId} {tys : List (ClassId × FieldType)} (hty : ys_Ty tys cT yk_sh) : ys_Con l D vwCl ad cT yk_sh tys yG xk_201 := ys_method (calls := xa_201) (Z := xq_201) 3000 (by decide +kernel) yz_X8_has_ok hty (yl_lkX8 _) (fun _ h => absurd h List.not_mem_nil) (by decide +kernel)
def xf_202 : ys_F := (yk_f0, yk_r0)
def xk_202 : ys_K := (((yX8_has, cX8_has, 2, (some .boolean)), (0, 0)), ([.inr (some 49), .inl (.inl ([(0, 1)], 0))], ([((-2147483648), 2147483647)], []), xf_202), ([([], [([(0, 1)], 0)], (xf_202.1, xf_202.2), some (.inl (.inl ([], 0)))), ([], [([(0, (-1))], (-1))], (xf_202.1, xf_202.2), some (.inl (.inl ([], 0))))], []))
def xq_202 : ys_Q := (yz_X8_has, (yl_flX8, yl_ciX8, yl_cjX8, yl_cpX8), [])
def xa_202 : ys_CA := []
theorem xc_202 {l : Launch} {D : va_G} {ad : Nat → Nat} {cT : Nat → ClassId} {tys : List (ClassId × FieldType)} (hty : ys_Ty tys cT yk_sh) : ys_Con l D vwCl ad cT yk_sh tys yG xk_202 := ys_method (calls := xa_202) (Z := xq_202) 3000 (by decide +kernel) yz_X8_has_ok hty (yl_lkX8 _) (fun _ h => absurd h List.not_mem_nil) (by decide +kernel)
def xf_203 : ys_F := (yk_f0, yk_r0)
def xk_203 : ys_K := (((yX8_has, cX8_has, 2, (some .boolean)), (0, 0)), ([.inr (some 47), .inl (.inl ([(0, 1)], 0))], ([((-2147483648), 2147483647)], []), xf_203), ([([], [([(0, 1)], 0)], (xf_203.1, xf_203.2), some (.inl (.inl ([], 0)))), ([], [([(0, (-1))], (-1))], (xf_203.1, xf_203.2), some (.inl (.inl ([], 0))))], []))
def xq_203 : ys_Q := (yz_X8_has, (yl_flX8, yl_ciX8, yl_cjX8, yl_cpX8), [])
def xa_203 : ys_CA := []
theorem xc_203 {l : Launch} {D : va_G} {ad : Nat → Nat} {cT : Nat → ClassId} {tys : List (ClassId × FieldType)} (hty : ys_Ty tys cT yk_sh) : ys_Con l D vwCl ad cT yk_sh tys yG xk_203 := ys_method (calls := xa_203) (Z := xq_203) 3000 (by decide +kernel) yz_X8_has_ok hty (yl_lkX8 _) (fun _ h => absurd h List.not_mem_nil) (by decide +kernel)
def xf_204 : ys_F := (yk_f0, yk_r0)
def xk_204 : ys_K := (((yX11_read, cX11_read, 3, (some .long)), (1, 21)), ([.inr (some 0), .inl (.inl ([(0, 1)], 0)), .inl (.inl ([(1, 1)], 0))], ([((-2147483648), 2147483647), ((-2147483648), 2147483647)], []), xf_204), ([([], [([(0, (-1))], (-1))], (xf_204.1, xf_204.2), some (.inl (.inr ([], (-9223372036854775808))))), ([], [([(0, 1)], (-4))], (xf_204.1, xf_204.2), some (.inl (.inr ([], (-9223372036854775808))))), ([], [([(0, 1)], (-3)), ([(0, (-1))], 3), ([(1, (-1))], (-1))], (xf_204.1, xf_204.2), some (.inl (.inr ([], (-9223372036854775808))))), ([], [([(0, 1)], (-3)), ([(0, (-1))], 3), ([(1, 1)], 0)], (xf_204.1, xf_204.2), some (.inl (.inr ([], (-9223372036854775808))))), ([], [([(0, 1)], (-2)), ([(0, (-1))], 2), ([(1, (-1))], (-1))], (xf_204.1, xf_204.2), some (.inl (.inr ([], (-9223372036854775808))))), ([], [([(0, 1)], (-2)), ([(0, (-1))], 2), ([(1, 1)], 0)], (xf_204.1, xf_204.2), some (.inl (.inr ([], (-9223372036854775808))))), ([], [([(0, 1)], (-1)), ([(0, (-1))], 1), ([(1, (-1))], (-1))], (xf_204.1, xf_204.2), some (.inl (.inr ([], (-9223372036854775808))))), ([], [([(0, 1)], (-1)), ([(0, (-1))], 1), ([(1, 1)], 0)], (xf_204.1, xf_204.2), some (.inl (.inr ([], (-9223372036854775808))))), ([], [([(0, 1)], 0), ([(0, (-1))], 0), ([(1, (-1))], (-1))], (xf_204.1, xf_204.2), some (.inl (.inr ([], (-9223372036854775808))))), ([], [([(0, 1)], 0), ([(0, (-1))], 0), ([(1, 1)], 0)], (xf_204.1, xf_204.2), some (.inl (.inr ([], (-9223372036854775808)))))], []))
def xq_204 : ys_Q := (yz_X11_read, (yl_flX11, yl_ciX11, yl_cjX11, yl_cpX11), [])
def xa_204 : ys_CA := [((141, true), xk_129), ((155, false), xk_200), ((155, false), xk_201), ((155, false), xk_202), ((155, false), xk_203)]
theorem xc_204 {l : Launch} {D : va_G} {ad : Nat → Nat} {cT : Nat → ClassId} {tys : List (ClassId × FieldType)} (hty : ys_Ty tys cT yk_sh) : ys_Con l D vwCl ad cT yk_sh tys yG xk_204 := ys_method (calls := xa_204) (Z := xq_204) 3000 (by decide +kernel) yz_X11_read_ok hty (yl_lkX11 _) (List.forall_mem_cons.mpr ⟨⟨xc_129 hty, yg_CLs yl_wX11_141 yd_yX11_isSheet⟩, List.forall_mem_cons.mpr ⟨⟨xc_200 hty, yg_CLv rfl rfl rfl yl_wX11_155 yd_yX8_has⟩, List.forall_mem_cons.mpr ⟨⟨xc_201 hty, yg_CLv rfl rfl rfl yl_wX11_155 yd_yX8_has⟩, List.forall_mem_cons.mpr ⟨⟨xc_202 hty, yg_CLv rfl rfl rfl yl_wX11_155 yd_yX8_has⟩, List.forall_mem_cons.mpr ⟨⟨xc_203 hty, yg_CLv rfl rfl rfl yl_wX11_155 yd_yX8_has⟩, fun _ h => absurd h List.not_mem_nil⟩⟩⟩⟩⟩) (by decide +kernel)
def xf_205 : ys_F := (yk_f0, yk_r0)
def xk_205 : ys_K := (((yJ6_bitCount_0f7a4, cJ6_bitCount_0f7a4, 1, (some .int)), (0, 0)), ([.inl (.inl ([], 0))], ([], []), xf_205), ([([], [], (xf_205.1, xf_205.2), some (.inl (.inl ([], 0))))], []))
def xq_205 : ys_Q := (yz_J6_bitCount_0f7a4, (yl_flJ6, yl_ciJ6, yl_cjJ6, yl_cpJ6), [])
def xa_205 : ys_CA := []
theorem xc_205 {l : Launch} {D : va_G} {ad : Nat → Nat} {cT : Nat → ClassId} {tys : List (ClassId × FieldType)} (hty : ys_Ty tys cT yk_sh) : ys_Con l D vwCl ad cT yk_sh tys yG xk_205 := ys_method (calls := xa_205) (Z := xq_205) 3000 (by decide +kernel) yz_J6_bitCount_0f7a4_ok hty (yl_lkJ6 _) (fun _ h => absurd h List.not_mem_nil) (by decide +kernel)
def xf_206 : ys_F := (yk_f0, yk_r0)
def xk_206 : ys_K := (((yX5_nextOf, cX5_nextOf, 4, (some .int)), (0, 0)), ([.inr (some 1), .inl (.inl ([], 0)), .inl (.inl ([], 0))], ([], []), xf_206), ([([], [], (xf_206.1, xf_206.2), some (.inl (.inl ([], 0))))], []))
def xq_206 : ys_Q := (yz_X5_nextOf, (yl_flX5, yl_ciX5, yl_cjX5, yl_cpX5), [(2, [], [], (xf_206.1, xf_206.2), [(0, .inr (some 1)), (1, .inl (.inl ([], 0))), (3, .inl (.inl ([], 0)))], [], ([], 0))])
def xa_206 : ys_CA := []
theorem xc_206 {l : Launch} {D : va_G} {ad : Nat → Nat} {cT : Nat → ClassId} {tys : List (ClassId × FieldType)} (hty : ys_Ty tys cT yk_sh) : ys_Con l D vwCl ad cT yk_sh tys yG xk_206 := ys_method (calls := xa_206) (Z := xq_206) 3000 (by decide +kernel) yz_X5_nextOf_ok hty (yl_lkX5 _) (fun _ h => absurd h List.not_mem_nil) (by decide +kernel)
def xf_207 : ys_F := (yk_f0, yk_r0)
def xk_207 : ys_K := (((yX5_nextOf, cX5_nextOf, 4, (some .int)), (0, 0)), ([.inr (some 1), .inl (.inl ([], 0)), .inl (.inl ([], 1))], ([], []), xf_207), ([([], [], (xf_207.1, xf_207.2), some (.inl (.inl ([], 0))))], []))
def xq_207 : ys_Q := (yz_X5_nextOf, (yl_flX5, yl_ciX5, yl_cjX5, yl_cpX5), [(2, [], [], (xf_207.1, xf_207.2), [(0, .inr (some 1)), (1, .inl (.inl ([], 0))), (3, .inl (.inl ([], 1)))], [], ([], 0))])
def xa_207 : ys_CA := []
theorem xc_207 {l : Launch} {D : va_G} {ad : Nat → Nat} {cT : Nat → ClassId} {tys : List (ClassId × FieldType)} (hty : ys_Ty tys cT yk_sh) : ys_Con l D vwCl ad cT yk_sh tys yG xk_207 := ys_method (calls := xa_207) (Z := xq_207) 3000 (by decide +kernel) yz_X5_nextOf_ok hty (yl_lkX5 _) (fun _ h => absurd h List.not_mem_nil) (by decide +kernel)
def xf_208 : ys_F := (yk_f0, yk_r0)
def xk_208 : ys_K := (((yX5_isShattered, cX5_isShattered, 6, (some .boolean)), (1, 23)), ([.inr (some 1), .inl (.inl ([], 0))], ([], []), xf_208), ([([], [], (xf_208.1, xf_208.2), some (.inl (.inl ([], 1))))], []))
def xq_208 : ys_Q := (yz_X5_isShattered, (yl_flX5, yl_ciX5, yl_cjX5, yl_cpX5), [])
def xa_208 : ys_CA := [((76, true), xk_205), ((81, true), xk_206), ((81, true), xk_207)]
theorem xc_208 {l : Launch} {D : va_G} {ad : Nat → Nat} {cT : Nat → ClassId} {tys : List (ClassId × FieldType)} (hty : ys_Ty tys cT yk_sh) : ys_Con l D vwCl ad cT yk_sh tys yG xk_208 := ys_method (calls := xa_208) (Z := xq_208) 3000 (by decide +kernel) yz_X5_isShattered_ok hty (yl_lkX5 _) (List.forall_mem_cons.mpr ⟨⟨xc_205 hty, yg_CLs yl_wX5_76 yd_yJ6_bitCount_0f7a4⟩, List.forall_mem_cons.mpr ⟨⟨xc_206 hty, yg_CLs yl_wX5_81 yd_yX5_nextOf⟩, List.forall_mem_cons.mpr ⟨⟨xc_207 hty, yg_CLs yl_wX5_81 yd_yX5_nextOf⟩, fun _ h => absurd h List.not_mem_nil⟩⟩⟩) (by decide +kernel)
def xf_209 : ys_F := (yk_f0, yk_r0)
def xk_209 : ys_K := (((yX11_shatter, cX11_shatter, 2, (some .int)), (2, 48)), ([.inr (some 0), .inl (.inl ([(0, 1)], 0))], ([((-2147483648), 2147483647)], []), xf_209), ([([], [([(0, 1)], (-1))], (xf_209.1, xf_209.2), some (.inl (.inl ([], (-1))))), ([], [([(0, (-1))], (-1))], (xf_209.1, xf_209.2), some (.inl (.inl ([], (-1))))), ([], [([(0, 1)], 0), ([(0, (-1))], 0)], (xf_209.1, xf_209.2), some (.inl (.inl ([], 1))))], []))
def xq_209 : ys_Q := (yz_X11_shatter, (yl_flX11, yl_ciX11, yl_cjX11, yl_cpX11), [])
def xa_209 : ys_CA := [((264, true), xk_167), ((285, true), xk_208)]
theorem xc_209 {l : Launch} {D : va_G} {ad : Nat → Nat} {cT : Nat → ClassId} {tys : List (ClassId × FieldType)} (hty : ys_Ty tys cT yk_sh) : ys_Con l D vwCl ad cT yk_sh tys yG xk_209 := ys_method (calls := xa_209) (Z := xq_209) 3000 (by decide +kernel) yz_X11_shatter_ok hty (yl_lkX11 _) (List.forall_mem_cons.mpr ⟨⟨xc_167 hty, yg_CLs yl_wX11_264 yd_yX5_fits⟩, List.forall_mem_cons.mpr ⟨⟨xc_208 hty, yg_CLs yl_wX11_285 yd_yX5_isShattered⟩, fun _ h => absurd h List.not_mem_nil⟩⟩) (by decide +kernel)
end
section
def xf_210 : ys_F := (yk_f0, yk_r0)
def xk_210 : ys_K := (((yX8_tear, cX8_tear, 1, none), (0, 0)), ([.inr (some 53)], ([], []), xf_210), ([([], [], (xf_210.1, xf_210.2), none)], []))
def xq_210 : ys_Q := (yz_X8_tear, (yl_flX8, yl_ciX8, yl_cjX8, yl_cpX8), [])
def xa_210 : ys_CA := []
theorem xc_210 {l : Launch} {D : va_G} {ad : Nat → Nat} {cT : Nat → ClassId} {tys : List (ClassId × FieldType)} (hty : ys_Ty tys cT yk_sh) : ys_Con l D vwCl ad cT yk_sh tys yG xk_210 := ys_method (calls := xa_210) (Z := xq_210) 3000 (by decide +kernel) yz_X8_tear_ok hty (yl_lkX8 _) (fun _ h => absurd h List.not_mem_nil) (by decide +kernel)
def xf_211 : ys_F := (yk_f0, yk_r0)
def xk_211 : ys_K := (((yX11_told, cX11_told, 2, (some .int)), (0, 0)), ([.inr (some 0), .inl (.inl ([], (-4)))], ([], []), xf_211), ([([], [], ((ys_fs xf_211.1 [(0, 14, .inl (.inl ([], (-4))))]), xf_211.2), some (.inl (.inl ([], (-4)))))], []))
def xq_211 : ys_Q := (yz_X11_told, (yl_flX11, yl_ciX11, yl_cjX11, yl_cpX11), [])
def xa_211 : ys_CA := []
theorem xc_211 {l : Launch} {D : va_G} {ad : Nat → Nat} {cT : Nat → ClassId} {tys : List (ClassId × FieldType)} (hty : ys_Ty tys cT yk_sh) : ys_Con l D vwCl ad cT yk_sh tys yG xk_211 := ys_method (calls := xa_211) (Z := xq_211) 3000 (by decide +kernel) yz_X11_told_ok hty (yl_lkX11 _) (fun _ h => absurd h List.not_mem_nil) (by decide +kernel)
def xf_212 : ys_F := (yk_f0, yk_r0)
def xk_212 : ys_K := (((yX8_tear, cX8_tear, 1, none), (0, 0)), ([.inr (some 51)], ([], []), xf_212), ([([], [], (xf_212.1, xf_212.2), none)], []))
def xq_212 : ys_Q := (yz_X8_tear, (yl_flX8, yl_ciX8, yl_cjX8, yl_cpX8), [])
def xa_212 : ys_CA := []
theorem xc_212 {l : Launch} {D : va_G} {ad : Nat → Nat} {cT : Nat → ClassId} {tys : List (ClassId × FieldType)} (hty : ys_Ty tys cT yk_sh) : ys_Con l D vwCl ad cT yk_sh tys yG xk_212 := ys_method (calls := xa_212) (Z := xq_212) 3000 (by decide +kernel) yz_X8_tear_ok hty (yl_lkX8 _) (fun _ h => absurd h List.not_mem_nil) (by decide +kernel)
def xf_213 : ys_F := (yk_f0, yk_r0)
def xk_213 : ys_K := (((yX8_tear, cX8_tear, 1, none), (0, 0)), ([.inr (some 49)], ([], []), xf_213), ([([], [], (xf_213.1, xf_213.2), none)], []))
def xq_213 : ys_Q := (yz_X8_tear, (yl_flX8, yl_ciX8, yl_cjX8, yl_cpX8), [])
def xa_213 : ys_CA := []
theorem xc_213 {l : Launch} {D : va_G} {ad : Nat → Nat} {cT : Nat → ClassId} {tys : List (ClassId × FieldType)} (hty : ys_Ty tys cT yk_sh) : ys_Con l D vwCl ad cT yk_sh tys yG xk_213 := ys_method (calls := xa_213) (Z := xq_213) 3000 (by decide +kernel) yz_X8_tear_ok hty (yl_lkX8 _) (fun _ h => absurd h List.not_mem_nil) (by decide +kernel)
def xf_214 : ys_F := (yk_f0, yk_r0)
def xk_214 : ys_K := (((yX8_tear, cX8_tear, 1, none), (0, 0)), ([.inr (some 47)], ([], []), xf_214), ([([], [], (xf_214.1, xf_214.2), none)], []))
def xq_214 : ys_Q := (yz_X8_tear, (yl_flX8, yl_ciX8, yl_cjX8, yl_cpX8), [])
def xa_214 : ys_CA := []
theorem xc_214 {l : Launch} {D : va_G} {ad : Nat → Nat} {cT : Nat → ClassId} {tys : List (ClassId × FieldType)} (hty : ys_Ty tys cT yk_sh) : ys_Con l D vwCl ad cT yk_sh tys yG xk_214 := ys_method (calls := xa_214) (Z := xq_214) 3000 (by decide +kernel) yz_X8_tear_ok hty (yl_lkX8 _) (fun _ h => absurd h List.not_mem_nil) (by decide +kernel)
def xf_215 : ys_F := ((ys_fs yk_f0 [(53, 1, .inl (.inl ([], 1))), (53, 2, .inl (.inl ([(0, 1)], 0))), (53, 3, .inl (.inl ([(1, 1)], 0)))]), yk_r0)
def xk_215 : ys_K := (((yJ7_fill_d0a16, cJ7_fill_d0a16, 5, none), (0, 0)), ([.inr (some 54), .inl (.inr ([], 0))], ([(0, 3), (0, 100)], []), xf_215), ([([], [], (xf_215.1, (ys_rs xf_215.2 [(54, ((0, 0), [(0, (0, 0)), (1, (0, 0))]))])), none)], [54]))
def xq_215 : ys_Q := (yz_J7_fill_d0a16, (yl_flJ7, yl_ciJ7, yl_cjJ7, yl_cpJ7), [(6, [], [], (xf_215.1, xf_215.2), [(0, .inr (some 54)), (1, .inl (.inr ([], 0))), (3, .inl (.inl ([], 0))), (4, .inl (.inl ([], 100)))], [], ([], 100)), (6, [], [], (xf_215.1, (ys_rs xf_215.2 [(54, ((0, 0), [(0, (0, 0))]))])), [(0, .inr (some 54)), (1, .inl (.inr ([], 0))), (3, .inl (.inl ([], 1))), (4, .inl (.inl ([], 100)))], [], ([], 99)), (6, [(2, 100)], [], (xf_215.1, (ys_rs xf_215.2 [(54, ((0, 0), [(0, (0, 0)), (1, (0, 0))]))])), [(0, .inr (some 54)), (1, .inl (.inr ([], 0))), (3, .inl (.inl ([(2, 1)], 0))), (4, .inl (.inl ([], 100)))], [], ([(2, (-1))], 100))])
def xa_215 : ys_CA := []
theorem xc_215 {l : Launch} {D : va_G} {ad : Nat → Nat} {cT : Nat → ClassId} {tys : List (ClassId × FieldType)} (hty : ys_Ty tys cT yk_sh) : ys_Con l D vwCl ad cT yk_sh tys yG xk_215 := ys_method (calls := xa_215) (Z := xq_215) 3000 (by decide +kernel) yz_J7_fill_d0a16_ok hty (yl_lkJ7 _) (fun _ h => absurd h List.not_mem_nil) (by decide +kernel)
def xf_216 : ys_F := (yk_f0, yk_r0)
def xk_216 : ys_K := (((yX8_lay, cX8_lay, 3, none), (1, 24)), ([.inr (some 53), .inl (.inl ([(0, 1)], 0)), .inl (.inl ([(1, 1)], 0))], ([(0, 3), (0, 100)], []), xf_216), ([([], [], ((ys_fs xf_216.1 [(53, 1, .inl (.inl ([], 1))), (53, 2, .inl (.inl ([(0, 1)], 0))), (53, 3, .inl (.inl ([(1, 1)], 0)))]), (ys_rs xf_216.2 [(54, ((0, 0), [(0, (0, 0)), (1, (0, 0))]))])), none)], [54]))
def xq_216 : ys_Q := (yz_X8_lay, (yl_flX8, yl_ciX8, yl_cjX8, yl_cpX8), [])
def xa_216 : ys_CA := [((26, true), xk_215)]
theorem xc_216 {l : Launch} {D : va_G} {ad : Nat → Nat} {cT : Nat → ClassId} {tys : List (ClassId × FieldType)} (hty : ys_Ty tys cT yk_sh) : ys_Con l D vwCl ad cT yk_sh tys yG xk_216 := ys_method (calls := xa_216) (Z := xq_216) 3000 (by decide +kernel) yz_X8_lay_ok hty (yl_lkX8 _) (List.forall_mem_cons.mpr ⟨⟨xc_215 hty, yg_CLs yl_wX8_26 yd_yJ7_fill_d0a16⟩, fun _ h => absurd h List.not_mem_nil⟩) (by decide +kernel)
def xf_217 : ys_F := ((ys_fs yk_f0 [(53, 1, .inl (.inl ([], 1))), (53, 2, .inl (.inl ([(1, 1)], 0))), (53, 3, .inl (.inl ([(2, 1)], 0)))]), (ys_rs yk_r0 [(54, ((0, 0), [(0, (0, 0)), (1, (0, 0))]))]))
def xk_217 : ys_K := (((yX11_told, cX11_told, 2, (some .int)), (0, 0)), ([.inr (some 0), .inl (.inl ([(0, 1)], 0))], ([(0, 100), (0, 3), (0, 100)], []), xf_217), ([([], [], (xf_217.1, xf_217.2), some (.inl (.inl ([(0, 1)], 0))))], []))
def xq_217 : ys_Q := (yz_X11_told, (yl_flX11, yl_ciX11, yl_cjX11, yl_cpX11), [])
def xa_217 : ys_CA := []
theorem xc_217 {l : Launch} {D : va_G} {ad : Nat → Nat} {cT : Nat → ClassId} {tys : List (ClassId × FieldType)} (hty : ys_Ty tys cT yk_sh) : ys_Con l D vwCl ad cT yk_sh tys yG xk_217 := ys_method (calls := xa_217) (Z := xq_217) 3000 (by decide +kernel) yz_X11_told_ok hty (yl_lkX11 _) (fun _ h => absurd h List.not_mem_nil) (by decide +kernel)
def xf_218 : ys_F := ((ys_fs yk_f0 [(51, 1, .inl (.inl ([], 1))), (51, 2, .inl (.inl ([(0, 1)], 0))), (51, 3, .inl (.inl ([(1, 1)], 0)))]), yk_r0)
def xk_218 : ys_K := (((yJ7_fill_d0a16, cJ7_fill_d0a16, 5, none), (0, 0)), ([.inr (some 52), .inl (.inr ([], 0))], ([(0, 3), (0, 100)], []), xf_218), ([([], [], (xf_218.1, (ys_rs xf_218.2 [(52, ((0, 0), [(0, (0, 0)), (1, (0, 0))]))])), none)], [52]))
def xq_218 : ys_Q := (yz_J7_fill_d0a16, (yl_flJ7, yl_ciJ7, yl_cjJ7, yl_cpJ7), [(6, [], [], (xf_218.1, xf_218.2), [(0, .inr (some 52)), (1, .inl (.inr ([], 0))), (3, .inl (.inl ([], 0))), (4, .inl (.inl ([], 100)))], [], ([], 100)), (6, [], [], (xf_218.1, (ys_rs xf_218.2 [(52, ((0, 0), [(0, (0, 0))]))])), [(0, .inr (some 52)), (1, .inl (.inr ([], 0))), (3, .inl (.inl ([], 1))), (4, .inl (.inl ([], 100)))], [], ([], 99)), (6, [(2, 100)], [], (xf_218.1, (ys_rs xf_218.2 [(52, ((0, 0), [(0, (0, 0)), (1, (0, 0))]))])), [(0, .inr (some 52)), (1, .inl (.inr ([], 0))), (3, .inl (.inl ([(2, 1)], 0))), (4, .inl (.inl ([], 100)))], [], ([(2, (-1))], 100))])
def xa_218 : ys_CA := []
theorem xc_218 {l : Launch} {D : va_G} {ad : Nat → Nat} {cT : Nat → ClassId} {tys : List (ClassId × FieldType)} (hty : ys_Ty tys cT yk_sh) : ys_Con l D vwCl ad cT yk_sh tys yG xk_218 := ys_method (calls := xa_218) (Z := xq_218) 3000 (by decide +kernel) yz_J7_fill_d0a16_ok hty (yl_lkJ7 _) (fun _ h => absurd h List.not_mem_nil) (by decide +kernel)
def xf_219 : ys_F := (yk_f0, yk_r0)
def xk_219 : ys_K := (((yX8_lay, cX8_lay, 3, none), (1, 24)), ([.inr (some 51), .inl (.inl ([(0, 1)], 0)), .inl (.inl ([(1, 1)], 0))], ([(0, 3), (0, 100)], []), xf_219), ([([], [], ((ys_fs xf_219.1 [(51, 1, .inl (.inl ([], 1))), (51, 2, .inl (.inl ([(0, 1)], 0))), (51, 3, .inl (.inl ([(1, 1)], 0)))]), (ys_rs xf_219.2 [(52, ((0, 0), [(0, (0, 0)), (1, (0, 0))]))])), none)], [52]))
def xq_219 : ys_Q := (yz_X8_lay, (yl_flX8, yl_ciX8, yl_cjX8, yl_cpX8), [])
def xa_219 : ys_CA := [((26, true), xk_218)]
theorem xc_219 {l : Launch} {D : va_G} {ad : Nat → Nat} {cT : Nat → ClassId} {tys : List (ClassId × FieldType)} (hty : ys_Ty tys cT yk_sh) : ys_Con l D vwCl ad cT yk_sh tys yG xk_219 := ys_method (calls := xa_219) (Z := xq_219) 3000 (by decide +kernel) yz_X8_lay_ok hty (yl_lkX8 _) (List.forall_mem_cons.mpr ⟨⟨xc_218 hty, yg_CLs yl_wX8_26 yd_yJ7_fill_d0a16⟩, fun _ h => absurd h List.not_mem_nil⟩) (by decide +kernel)
def xf_220 : ys_F := ((ys_fs yk_f0 [(51, 1, .inl (.inl ([], 1))), (51, 2, .inl (.inl ([(1, 1)], 0))), (51, 3, .inl (.inl ([(2, 1)], 0)))]), (ys_rs yk_r0 [(52, ((0, 0), [(0, (0, 0)), (1, (0, 0))]))]))
def xk_220 : ys_K := (((yX11_told, cX11_told, 2, (some .int)), (0, 0)), ([.inr (some 0), .inl (.inl ([(0, 1)], 0))], ([(0, 100), (0, 3), (0, 100)], []), xf_220), ([([], [], (xf_220.1, xf_220.2), some (.inl (.inl ([(0, 1)], 0))))], []))
def xq_220 : ys_Q := (yz_X11_told, (yl_flX11, yl_ciX11, yl_cjX11, yl_cpX11), [])
def xa_220 : ys_CA := []
theorem xc_220 {l : Launch} {D : va_G} {ad : Nat → Nat} {cT : Nat → ClassId} {tys : List (ClassId × FieldType)} (hty : ys_Ty tys cT yk_sh) : ys_Con l D vwCl ad cT yk_sh tys yG xk_220 := ys_method (calls := xa_220) (Z := xq_220) 3000 (by decide +kernel) yz_X11_told_ok hty (yl_lkX11 _) (fun _ h => absurd h List.not_mem_nil) (by decide +kernel)
def xf_221 : ys_F := ((ys_fs yk_f0 [(49, 1, .inl (.inl ([], 1))), (49, 2, .inl (.inl ([(0, 1)], 0))), (49, 3, .inl (.inl ([(1, 1)], 0)))]), yk_r0)
def xk_221 : ys_K := (((yJ7_fill_d0a16, cJ7_fill_d0a16, 5, none), (0, 0)), ([.inr (some 50), .inl (.inr ([], 0))], ([(0, 3), (0, 100)], []), xf_221), ([([], [], (xf_221.1, (ys_rs xf_221.2 [(50, ((0, 0), [(0, (0, 0)), (1, (0, 0))]))])), none)], [50]))
def xq_221 : ys_Q := (yz_J7_fill_d0a16, (yl_flJ7, yl_ciJ7, yl_cjJ7, yl_cpJ7), [(6, [], [], (xf_221.1, xf_221.2), [(0, .inr (some 50)), (1, .inl (.inr ([], 0))), (3, .inl (.inl ([], 0))), (4, .inl (.inl ([], 100)))], [], ([], 100)), (6, [], [], (xf_221.1, (ys_rs xf_221.2 [(50, ((0, 0), [(0, (0, 0))]))])), [(0, .inr (some 50)), (1, .inl (.inr ([], 0))), (3, .inl (.inl ([], 1))), (4, .inl (.inl ([], 100)))], [], ([], 99)), (6, [(2, 100)], [], (xf_221.1, (ys_rs xf_221.2 [(50, ((0, 0), [(0, (0, 0)), (1, (0, 0))]))])), [(0, .inr (some 50)), (1, .inl (.inr ([], 0))), (3, .inl (.inl ([(2, 1)], 0))), (4, .inl (.inl ([], 100)))], [], ([(2, (-1))], 100))])
def xa_221 : ys_CA := []
theorem xc_221 {l : Launch} {D : va_G} {ad : Nat → Nat} {cT : Nat → ClassId} {tys : List (ClassId × FieldType)} (hty : ys_Ty tys cT yk_sh) : ys_Con l D vwCl ad cT yk_sh tys yG xk_221 := ys_method (calls := xa_221) (Z := xq_221) 3000 (by decide +kernel) yz_J7_fill_d0a16_ok hty (yl_lkJ7 _) (fun _ h => absurd h List.not_mem_nil) (by decide +kernel)
def xf_222 : ys_F := (yk_f0, yk_r0)
def xk_222 : ys_K := (((yX8_lay, cX8_lay, 3, none), (1, 24)), ([.inr (some 49), .inl (.inl ([(0, 1)], 0)), .inl (.inl ([(1, 1)], 0))], ([(0, 3), (0, 100)], []), xf_222), ([([], [], ((ys_fs xf_222.1 [(49, 1, .inl (.inl ([], 1))), (49, 2, .inl (.inl ([(0, 1)], 0))), (49, 3, .inl (.inl ([(1, 1)], 0)))]), (ys_rs xf_222.2 [(50, ((0, 0), [(0, (0, 0)), (1, (0, 0))]))])), none)], [50]))
def xq_222 : ys_Q := (yz_X8_lay, (yl_flX8, yl_ciX8, yl_cjX8, yl_cpX8), [])
def xa_222 : ys_CA := [((26, true), xk_221)]
theorem xc_222 {l : Launch} {D : va_G} {ad : Nat → Nat} {cT : Nat → ClassId} {tys : List (ClassId × FieldType)} (hty : ys_Ty tys cT yk_sh) : ys_Con l D vwCl ad cT yk_sh tys yG xk_222 := ys_method (calls := xa_222) (Z := xq_222) 3000 (by decide +kernel) yz_X8_lay_ok hty (yl_lkX8 _) (List.forall_mem_cons.mpr ⟨⟨xc_221 hty, yg_CLs yl_wX8_26 yd_yJ7_fill_d0a16⟩, fun _ h => absurd h List.not_mem_nil⟩) (by decide +kernel)
def xf_223 : ys_F := ((ys_fs yk_f0 [(49, 1, .inl (.inl ([], 1))), (49, 2, .inl (.inl ([(1, 1)], 0))), (49, 3, .inl (.inl ([(2, 1)], 0)))]), (ys_rs yk_r0 [(50, ((0, 0), [(0, (0, 0)), (1, (0, 0))]))]))
def xk_223 : ys_K := (((yX11_told, cX11_told, 2, (some .int)), (0, 0)), ([.inr (some 0), .inl (.inl ([(0, 1)], 0))], ([(0, 100), (0, 3), (0, 100)], []), xf_223), ([([], [], (xf_223.1, xf_223.2), some (.inl (.inl ([(0, 1)], 0))))], []))
def xq_223 : ys_Q := (yz_X11_told, (yl_flX11, yl_ciX11, yl_cjX11, yl_cpX11), [])
def xa_223 : ys_CA := []
theorem xc_223 {l : Launch} {D : va_G} {ad : Nat → Nat} {cT : Nat → ClassId} {tys : List (ClassId × FieldType)} (hty : ys_Ty tys cT yk_sh) : ys_Con l D vwCl ad cT yk_sh tys yG xk_223 := ys_method (calls := xa_223) (Z := xq_223) 3000 (by decide +kernel) yz_X11_told_ok hty (yl_lkX11 _) (fun _ h => absurd h List.not_mem_nil) (by decide +kernel)
def xf_224 : ys_F := ((ys_fs yk_f0 [(47, 1, .inl (.inl ([], 1))), (47, 2, .inl (.inl ([(0, 1)], 0))), (47, 3, .inl (.inl ([(1, 1)], 0)))]), yk_r0)
def xk_224 : ys_K := (((yJ7_fill_d0a16, cJ7_fill_d0a16, 5, none), (0, 0)), ([.inr (some 48), .inl (.inr ([], 0))], ([(0, 3), (0, 100)], []), xf_224), ([([], [], (xf_224.1, (ys_rs xf_224.2 [(48, ((0, 0), [(0, (0, 0)), (1, (0, 0))]))])), none)], [48]))
def xq_224 : ys_Q := (yz_J7_fill_d0a16, (yl_flJ7, yl_ciJ7, yl_cjJ7, yl_cpJ7), [(6, [], [], (xf_224.1, xf_224.2), [(0, .inr (some 48)), (1, .inl (.inr ([], 0))), (3, .inl (.inl ([], 0))), (4, .inl (.inl ([], 100)))], [], ([], 100)), (6, [], [], (xf_224.1, (ys_rs xf_224.2 [(48, ((0, 0), [(0, (0, 0))]))])), [(0, .inr (some 48)), (1, .inl (.inr ([], 0))), (3, .inl (.inl ([], 1))), (4, .inl (.inl ([], 100)))], [], ([], 99)), (6, [(2, 100)], [], (xf_224.1, (ys_rs xf_224.2 [(48, ((0, 0), [(0, (0, 0)), (1, (0, 0))]))])), [(0, .inr (some 48)), (1, .inl (.inr ([], 0))), (3, .inl (.inl ([(2, 1)], 0))), (4, .inl (.inl ([], 100)))], [], ([(2, (-1))], 100))])
def xa_224 : ys_CA := []
theorem xc_224 {l : Launch} {D : va_G} {ad : Nat → Nat} {cT : Nat → ClassId} {tys : List (ClassId × FieldType)} (hty : ys_Ty tys cT yk_sh) : ys_Con l D vwCl ad cT yk_sh tys yG xk_224 := ys_method (calls := xa_224) (Z := xq_224) 3000 (by decide +kernel) yz_J7_fill_d0a16_ok hty (yl_lkJ7 _) (fun _ h => absurd h List.not_mem_nil) (by decide +kernel)
def xf_225 : ys_F := (yk_f0, yk_r0)
def xk_225 : ys_K := (((yX8_lay, cX8_lay, 3, none), (1, 24)), ([.inr (some 47), .inl (.inl ([(0, 1)], 0)), .inl (.inl ([(1, 1)], 0))], ([(0, 3), (0, 100)], []), xf_225), ([([], [], ((ys_fs xf_225.1 [(47, 1, .inl (.inl ([], 1))), (47, 2, .inl (.inl ([(0, 1)], 0))), (47, 3, .inl (.inl ([(1, 1)], 0)))]), (ys_rs xf_225.2 [(48, ((0, 0), [(0, (0, 0)), (1, (0, 0))]))])), none)], [48]))
def xq_225 : ys_Q := (yz_X8_lay, (yl_flX8, yl_ciX8, yl_cjX8, yl_cpX8), [])
def xa_225 : ys_CA := [((26, true), xk_224)]
theorem xc_225 {l : Launch} {D : va_G} {ad : Nat → Nat} {cT : Nat → ClassId} {tys : List (ClassId × FieldType)} (hty : ys_Ty tys cT yk_sh) : ys_Con l D vwCl ad cT yk_sh tys yG xk_225 := ys_method (calls := xa_225) (Z := xq_225) 3000 (by decide +kernel) yz_X8_lay_ok hty (yl_lkX8 _) (List.forall_mem_cons.mpr ⟨⟨xc_224 hty, yg_CLs yl_wX8_26 yd_yJ7_fill_d0a16⟩, fun _ h => absurd h List.not_mem_nil⟩) (by decide +kernel)
def xf_226 : ys_F := ((ys_fs yk_f0 [(47, 1, .inl (.inl ([], 1))), (47, 2, .inl (.inl ([(1, 1)], 0))), (47, 3, .inl (.inl ([(2, 1)], 0)))]), (ys_rs yk_r0 [(48, ((0, 0), [(0, (0, 0)), (1, (0, 0))]))]))
def xk_226 : ys_K := (((yX11_told, cX11_told, 2, (some .int)), (0, 0)), ([.inr (some 0), .inl (.inl ([(0, 1)], 0))], ([(0, 100), (0, 3), (0, 100)], []), xf_226), ([([], [], (xf_226.1, xf_226.2), some (.inl (.inl ([(0, 1)], 0))))], []))
def xq_226 : ys_Q := (yz_X11_told, (yl_flX11, yl_ciX11, yl_cjX11, yl_cpX11), [])
def xa_226 : ys_CA := []
theorem xc_226 {l : Launch} {D : va_G} {ad : Nat → Nat} {cT : Nat → ClassId} {tys : List (ClassId × FieldType)} (hty : ys_Ty tys cT yk_sh) : ys_Con l D vwCl ad cT yk_sh tys yG xk_226 := ys_method (calls := xa_226) (Z := xq_226) 3000 (by decide +kernel) yz_X11_told_ok hty (yl_lkX11 _) (fun _ h => absurd h List.not_mem_nil) (by decide +kernel)
def xf_227 : ys_F := (yk_f0, yk_r0)
def xk_227 : ys_K := (((yX11_sheet, cX11_sheet, 4, (some .int)), (2, 46)), ([.inr (some 0), .inl (.inl ([(0, 1)], 0)), .inl (.inl ([(1, 1)], 0)), .inl (.inl ([(2, 1)], 0))], ([((-2147483648), 2147483647), ((-2147483648), 2147483647), ((-2147483648), 2147483647)], []), xf_227), ([([], [([(0, (-1))], (-1))], ((ys_fs xf_227.1 [(0, 14, .inl (.inl ([], (-1))))]), xf_227.2), some (.inl (.inl ([], (-1))))), ([], [([(0, 1)], (-4))], ((ys_fs xf_227.1 [(0, 14, .inl (.inl ([], (-1))))]), xf_227.2), some (.inl (.inl ([], (-1))))), ([], [([(0, 1)], 0), ([(0, (-1))], 3), ([(1, 1)], 0), ([(1, (-1))], 3), ([(2, 1)], (-101))], ((ys_fs xf_227.1 [(0, 14, .inl (.inl ([], (-1))))]), xf_227.2), some (.inl (.inl ([], (-1))))), ([], [([(0, 1)], (-3)), ([(0, (-1))], 3), ([(1, 1)], 0), ([(1, (-1))], 3), ([(2, (-1))], (-1))], ((ys_fs xf_227.1 [(0, 14, .inl (.inl ([], (-4))))]), xf_227.2), some (.inl (.inl ([], (-4))))), ([], [([(0, 1)], (-2)), ([(0, (-1))], 2), ([(1, 1)], 0), ([(1, (-1))], 3), ([(2, (-1))], (-1))], ((ys_fs xf_227.1 [(0, 14, .inl (.inl ([], (-4))))]), xf_227.2), some (.inl (.inl ([], (-4))))), ([], [([(0, 1)], (-1)), ([(0, (-1))], 1), ([(1, 1)], 0), ([(1, (-1))], 3), ([(2, (-1))], (-1))], ((ys_fs xf_227.1 [(0, 14, .inl (.inl ([], (-4))))]), xf_227.2), some (.inl (.inl ([], (-4))))), ([], [([(0, 1)], 0), ([(0, (-1))], 0), ([(1, 1)], 0), ([(1, (-1))], 3), ([(2, (-1))], (-1))], ((ys_fs xf_227.1 [(0, 14, .inl (.inl ([], (-4))))]), xf_227.2), some (.inl (.inl ([], (-4))))), ([], [([(0, 1)], (-3)), ([(0, (-1))], 3), ([(1, 1)], 0), ([(1, (-1))], 3), ([(2, 1)], 0), ([(2, (-1))], 100)], ((ys_fs xf_227.1 [(53, 1, .inl (.inl ([], 1))), (53, 2, .inl (.inl ([(1, 1)], 0))), (53, 3, .inl (.inl ([(2, 1)], 0)))]), (ys_rs xf_227.2 [(54, ((0, 0), [(0, (0, 0)), (1, (0, 0))]))])), some (.inl (.inl ([(2, 1)], 0)))), ([], [([(0, 1)], (-2)), ([(0, (-1))], 2), ([(1, 1)], 0), ([(1, (-1))], 3), ([(2, 1)], 0), ([(2, (-1))], 100)], ((ys_fs xf_227.1 [(51, 1, .inl (.inl ([], 1))), (51, 2, .inl (.inl ([(1, 1)], 0))), (51, 3, .inl (.inl ([(2, 1)], 0)))]), (ys_rs xf_227.2 [(52, ((0, 0), [(0, (0, 0)), (1, (0, 0))]))])), some (.inl (.inl ([(2, 1)], 0)))), ([], [([(0, 1)], (-1)), ([(0, (-1))], 1), ([(1, 1)], 0), ([(1, (-1))], 3), ([(2, 1)], 0), ([(2, (-1))], 100)], ((ys_fs xf_227.1 [(49, 1, .inl (.inl ([], 1))), (49, 2, .inl (.inl ([(1, 1)], 0))), (49, 3, .inl (.inl ([(2, 1)], 0)))]), (ys_rs xf_227.2 [(50, ((0, 0), [(0, (0, 0)), (1, (0, 0))]))])), some (.inl (.inl ([(2, 1)], 0)))), ([], [([(0, 1)], 0), ([(0, (-1))], 0), ([(1, 1)], 0), ([(1, (-1))], 3), ([(2, 1)], 0), ([(2, (-1))], 100)], ((ys_fs xf_227.1 [(47, 1, .inl (.inl ([], 1))), (47, 2, .inl (.inl ([(1, 1)], 0))), (47, 3, .inl (.inl ([(2, 1)], 0)))]), (ys_rs xf_227.2 [(48, ((0, 0), [(0, (0, 0)), (1, (0, 0))]))])), some (.inl (.inl ([(2, 1)], 0)))), ([], [([(0, 1)], 0), ([(0, (-1))], 3), ([(1, 1)], (-4))], ((ys_fs xf_227.1 [(0, 14, .inl (.inl ([], (-1))))]), xf_227.2), some (.inl (.inl ([], (-1))))), ([], [([(0, 1)], 0), ([(0, (-1))], 3), ([(1, (-1))], (-1))], ((ys_fs xf_227.1 [(0, 14, .inl (.inl ([], (-1))))]), xf_227.2), some (.inl (.inl ([], (-1)))))], [48, 50, 52, 54]))
def xq_227 : ys_Q := (yz_X11_sheet, (yl_flX11, yl_ciX11, yl_cjX11, yl_cpX11), [])
def xa_227 : ys_CA := [((141, true), xk_129), ((107, false), xk_107), ((144, false), xk_210), ((107, false), xk_211), ((144, false), xk_212), ((144, false), xk_213), ((144, false), xk_214), ((147, false), xk_216), ((107, false), xk_217), ((147, false), xk_219), ((107, false), xk_220), ((147, false), xk_222), ((107, false), xk_223), ((147, false), xk_225), ((107, false), xk_226)]
theorem xc_227 {l : Launch} {D : va_G} {ad : Nat → Nat} {cT : Nat → ClassId} {tys : List (ClassId × FieldType)} (hty : ys_Ty tys cT yk_sh) : ys_Con l D vwCl ad cT yk_sh tys yG xk_227 := ys_method (calls := xa_227) (Z := xq_227) 3000 (by decide +kernel) yz_X11_sheet_ok hty (yl_lkX11 _) (List.forall_mem_cons.mpr ⟨⟨xc_129 hty, yg_CLs yl_wX11_141 yd_yX11_isSheet⟩, List.forall_mem_cons.mpr ⟨⟨xc_107 hty, yg_CLv rfl rfl rfl yl_wX11_107 yd_yX11_told⟩, List.forall_mem_cons.mpr ⟨⟨xc_210 hty, yg_CLv rfl rfl rfl yl_wX11_144 yd_yX8_tear⟩, List.forall_mem_cons.mpr ⟨⟨xc_211 hty, yg_CLv rfl rfl rfl yl_wX11_107 yd_yX11_told⟩, List.forall_mem_cons.mpr ⟨⟨xc_212 hty, yg_CLv rfl rfl rfl yl_wX11_144 yd_yX8_tear⟩, List.forall_mem_cons.mpr ⟨⟨xc_213 hty, yg_CLv rfl rfl rfl yl_wX11_144 yd_yX8_tear⟩, List.forall_mem_cons.mpr ⟨⟨xc_214 hty, yg_CLv rfl rfl rfl yl_wX11_144 yd_yX8_tear⟩, List.forall_mem_cons.mpr ⟨⟨xc_216 hty, yg_CLv rfl rfl rfl yl_wX11_147 yd_yX8_lay⟩, List.forall_mem_cons.mpr ⟨⟨xc_217 hty, yg_CLv rfl rfl rfl yl_wX11_107 yd_yX11_told⟩, List.forall_mem_cons.mpr ⟨⟨xc_219 hty, yg_CLv rfl rfl rfl yl_wX11_147 yd_yX8_lay⟩, List.forall_mem_cons.mpr ⟨⟨xc_220 hty, yg_CLv rfl rfl rfl yl_wX11_107 yd_yX11_told⟩, List.forall_mem_cons.mpr ⟨⟨xc_222 hty, yg_CLv rfl rfl rfl yl_wX11_147 yd_yX8_lay⟩, List.forall_mem_cons.mpr ⟨⟨xc_223 hty, yg_CLv rfl rfl rfl yl_wX11_107 yd_yX11_told⟩, List.forall_mem_cons.mpr ⟨⟨xc_225 hty, yg_CLv rfl rfl rfl yl_wX11_147 yd_yX8_lay⟩, List.forall_mem_cons.mpr ⟨⟨xc_226 hty, yg_CLv rfl rfl rfl yl_wX11_107 yd_yX11_told⟩, fun _ h => absurd h List.not_mem_nil⟩⟩⟩⟩⟩⟩⟩⟩⟩⟩⟩⟩⟩⟩⟩) (by decide +kernel)
def xf_228 : ys_F := ((ys_fs yk_f0 [(16, 6, .inl (.inl ([], 0)))]), yk_r0)
def xk_228 : ys_K := (((yX6_tally, cX6_tally, 4, (some .int)), (0, 0)), ([.inr (some 1), .inl (.inl ([], 1))], ([], []), xf_228), ([([], [], (xf_228.1, xf_228.2), some (.inl (.inl ([], 0))))], []))
def xq_228 : ys_Q := (yz_X6_tally, (yl_flX6, yl_ciX6, yl_cjX6, yl_cpX6), [(4, [], [], (xf_228.1, xf_228.2), [(0, .inr (some 1)), (1, .inl (.inl ([], 1))), (2, .inl (.inl ([], 0))), (3, .inl (.inl ([], 0)))], [], ([], 0))])
def xa_228 : ys_CA := []
theorem xc_228 {l : Launch} {D : va_G} {ad : Nat → Nat} {cT : Nat → ClassId} {tys : List (ClassId × FieldType)} (hty : ys_Ty tys cT yk_sh) : ys_Con l D vwCl ad cT yk_sh tys yG xk_228 := ys_method (calls := xa_228) (Z := xq_228) 3000 (by decide +kernel) yz_X6_tally_ok hty (yl_lkX6 _) (fun _ h => absurd h List.not_mem_nil) (by decide +kernel)
def xf_229 : ys_F := ((ys_fs yk_f0 [(16, 6, .inl (.inl ([], 0)))]), yk_r0)
def xk_229 : ys_K := (((yX6_hasBothColours, cX6_hasBothColours, 2, (some .boolean)), (1, 23)), ([.inr (some 1)], ([], []), xf_229), ([([], [], (xf_229.1, xf_229.2), some (.inl (.inl ([], 0))))], []))
def xq_229 : ys_Q := (yz_X6_hasBothColours, (yl_flX6, yl_ciX6, yl_cjX6, yl_cpX6), [])
def xa_229 : ys_CA := [((45, false), xk_228)]
theorem xc_229 {l : Launch} {D : va_G} {ad : Nat → Nat} {cT : Nat → ClassId} {tys : List (ClassId × FieldType)} (hty : ys_Ty tys cT yk_sh) : ys_Con l D vwCl ad cT yk_sh tys yG xk_229 := ys_method (calls := xa_229) (Z := xq_229) 3000 (by decide +kernel) yz_X6_hasBothColours_ok hty (yl_lkX6 _) (List.forall_mem_cons.mpr ⟨⟨xc_228 hty, yg_CLv rfl rfl rfl yl_wX6_45 yd_yX6_tally⟩, fun _ h => absurd h List.not_mem_nil⟩) (by decide +kernel)
def xf_230 : ys_F := (yk_f0, yk_r0)
def xk_230 : ys_K := (((yX10_find, cX10_find, 4, none), (2, 44)), ([.inr (some 16), .inr (some 1)], ([], []), xf_230), ([([], [], ((ys_fs xf_230.1 [(16, 6, .inl (.inl ([], 0)))]), xf_230.2), none)], []))
def xq_230 : ys_Q := (yz_X10_find, (yl_flX10, yl_ciX10, yl_cjX10, yl_cpX10), [])
def xa_230 : ys_CA := [((56, false), xk_229)]
theorem xc_230 {l : Launch} {D : va_G} {ad : Nat → Nat} {cT : Nat → ClassId} {tys : List (ClassId × FieldType)} (hty : ys_Ty tys cT yk_sh) : ys_Con l D vwCl ad cT yk_sh tys yG xk_230 := ys_method (calls := xa_230) (Z := xq_230) 3000 (by decide +kernel) yz_X10_find_ok hty (yl_lkX10 _) (List.forall_mem_cons.mpr ⟨⟨xc_229 hty, yg_CLv rfl rfl rfl yl_wX10_56 yd_yX6_hasBothColours⟩, fun _ h => absurd h List.not_mem_nil⟩) (by decide +kernel)
def xf_231 : ys_F := (yk_f0, yk_r0)
def xk_231 : ys_K := (((yX11_side, cX11_side, 2, (some .int)), (3, 67)), ([.inr (some 0), .inl (.inl ([(0, 1)], 0))], ([((-2147483648), 2147483647)], []), xf_231), ([([], [], ((ys_fs xf_231.1 [(16, 6, .inl (.inl ([], 0)))]), xf_231.2), some (.inl (.inl ([], (-1)))))], []))
def xq_231 : ys_Q := (yz_X11_side, (yl_flX11, yl_ciX11, yl_cjX11, yl_cpX11), [])
def xa_231 : ys_CA := [((190, false), xk_230)]
theorem xc_231 {l : Launch} {D : va_G} {ad : Nat → Nat} {cT : Nat → ClassId} {tys : List (ClassId × FieldType)} (hty : ys_Ty tys cT yk_sh) : ys_Con l D vwCl ad cT yk_sh tys yG xk_231 := ys_method (calls := xa_231) (Z := xq_231) 3000 (by decide +kernel) yz_X11_side_ok hty (yl_lkX11 _) (List.forall_mem_cons.mpr ⟨⟨xc_230 hty, yg_CLv rfl rfl rfl yl_wX11_190 yd_yX10_find⟩, fun _ h => absurd h List.not_mem_nil⟩) (by decide +kernel)
def xf_232 : ys_F := (yk_f0, yk_r0)
def xk_232 : ys_K := (((yX11_status, cX11_status, 1, (some .int)), (0, 0)), ([.inr (some 0)], ([], []), xf_232), ([([], [], (xf_232.1, xf_232.2), some (.inl (.inl ([], 0))))], []))
def xq_232 : ys_Q := (yz_X11_status, (yl_flX11, yl_ciX11, yl_cjX11, yl_cpX11), [])
def xa_232 : ys_CA := []
theorem xc_232 {l : Launch} {D : va_G} {ad : Nat → Nat} {cT : Nat → ClassId} {tys : List (ClassId × FieldType)} (hty : ys_Ty tys cT yk_sh) : ys_Con l D vwCl ad cT yk_sh tys yG xk_232 := ys_method (calls := xa_232) (Z := xq_232) 3000 (by decide +kernel) yz_X11_status_ok hty (yl_lkX11 _) (fun _ h => absurd h List.not_mem_nil) (by decide +kernel)
def xf_233 : ys_F := (yk_f0, yk_r0)
def xk_233 : ys_K := (((yX11_step, cX11_step, 3, (some .long)), (0, 0)), ([.inr (some 0), .inl (.inl ([(0, 1)], 0)), .inl (.inl ([(1, 1)], 0))], ([((-2147483648), 2147483647), ((-2147483648), 2147483647)], []), xf_233), ([([], [([(0, 1)], 0)], (xf_233.1, xf_233.2), some (.inl (.inr ([], (-1000000))))), ([], [([(0, (-1))], (-1))], (xf_233.1, xf_233.2), some (.inl (.inr ([], (-1000000)))))], []))
def xq_233 : ys_Q := (yz_X11_step, (yl_flX11, yl_ciX11, yl_cjX11, yl_cpX11), [])
def xa_233 : ys_CA := []
theorem xc_233 {l : Launch} {D : va_G} {ad : Nat → Nat} {cT : Nat → ClassId} {tys : List (ClassId × FieldType)} (hty : ys_Ty tys cT yk_sh) : ys_Con l D vwCl ad cT yk_sh tys yG xk_233 := ys_method (calls := xa_233) (Z := xq_233) 3000 (by decide +kernel) yz_X11_step_ok hty (yl_lkX11 _) (fun _ h => absurd h List.not_mem_nil) (by decide +kernel)
def xf_234 : ys_F := (yk_f0, yk_r0)
def xk_234 : ys_K := (((yX11_strong, cX11_strong, 2, (some .int)), (1, 21)), ([.inr (some 0), .inl (.inl ([(0, 1)], 0))], ([((-2147483648), 2147483647)], []), xf_234), ([([], [([(0, 1)], (-13))], ((ys_fs xf_234.1 [(0, 14, .inl (.inl ([], (-1))))]), xf_234.2), some (.inl (.inl ([], (-1))))), ([], [([(0, 1)], (-1)), ([(0, (-1))], 12)], ((ys_fs xf_234.1 [(0, 14, .inl (.inl ([], (-6))))]), xf_234.2), some (.inl (.inl ([], (-6))))), ([], [([(0, (-1))], 0)], ((ys_fs xf_234.1 [(0, 14, .inl (.inl ([], (-1))))]), xf_234.2), some (.inl (.inl ([], (-1)))))], []))
def xq_234 : ys_Q := (yz_X11_strong, (yl_flX11, yl_ciX11, yl_cjX11, yl_cpX11), [])
def xa_234 : ys_CA := [((107, false), xk_107), ((107, false), xk_108)]
theorem xc_234 {l : Launch} {D : va_G} {ad : Nat → Nat} {cT : Nat → ClassId} {tys : List (ClassId × FieldType)} (hty : ys_Ty tys cT yk_sh) : ys_Con l D vwCl ad cT yk_sh tys yG xk_234 := ys_method (calls := xa_234) (Z := xq_234) 3000 (by decide +kernel) yz_X11_strong_ok hty (yl_lkX11 _) (List.forall_mem_cons.mpr ⟨⟨xc_107 hty, yg_CLv rfl rfl rfl yl_wX11_107 yd_yX11_told⟩, List.forall_mem_cons.mpr ⟨⟨xc_108 hty, yg_CLv rfl rfl rfl yl_wX11_107 yd_yX11_told⟩, fun _ h => absurd h List.not_mem_nil⟩⟩) (by decide +kernel)
def xf_235 : ys_F := (yk_f0, yk_r0)
def xk_235 : ys_K := (((yX11_take, cX11_take, 7, (some .int)), (1, 21)), ([.inr (some 0), .inl (.inl ([(0, 1)], 0)), .inl (.inl ([(1, 1)], 0)), .inl (.inl ([(2, 1)], 0)), .inl (.inl ([(3, 1)], 0))], ([((-2147483648), 2147483647), ((-2147483648), 2147483647), ((-2147483648), 2147483647), ((-2147483648), 2147483647)], []), xf_235), ([([], [([(0, (-1))], (-1))], ((ys_fs xf_235.1 [(0, 14, .inl (.inl ([], (-1))))]), xf_235.2), some (.inl (.inl ([], (-1))))), ([], [([(0, 1)], (-4))], ((ys_fs xf_235.1 [(0, 14, .inl (.inl ([], (-1))))]), xf_235.2), some (.inl (.inl ([], (-1))))), ([], [([(0, 1)], 0), ([(0, (-1))], 3), ([(2, 1)], (-41)), ([(3, 1)], 0), ([(3, (-1))], 0)], ((ys_fs xf_235.1 [(0, 14, .inl (.inl ([], (-1))))]), xf_235.2), some (.inl (.inl ([], (-1))))), ([], [([(0, 1)], (-3)), ([(0, (-1))], 3), ([(2, 1)], (-1)), ([(2, (-1))], 40), ([(3, 1)], 0), ([(3, (-1))], 0)], ((ys_fs xf_235.1 [(0, 14, .inl (.inl ([], (-2))))]), xf_235.2), some (.inl (.inl ([], (-2))))), ([], [([(0, 1)], (-2)), ([(0, (-1))], 2), ([(2, 1)], (-1)), ([(2, (-1))], 40), ([(3, 1)], 0), ([(3, (-1))], 0)], ((ys_fs xf_235.1 [(0, 14, .inl (.inl ([], (-2))))]), xf_235.2), some (.inl (.inl ([], (-2))))), ([], [([(0, 1)], (-1)), ([(0, (-1))], 1), ([(2, 1)], (-1)), ([(2, (-1))], 40), ([(3, 1)], 0), ([(3, (-1))], 0)], ((ys_fs xf_235.1 [(0, 14, .inl (.inl ([], (-2))))]), xf_235.2), some (.inl (.inl ([], (-2))))), ([], [([(0, 1)], 0), ([(0, (-1))], 0), ([(2, 1)], (-1)), ([(2, (-1))], 40), ([(3, 1)], 0), ([(3, (-1))], 0)], ((ys_fs xf_235.1 [(0, 14, .inl (.inl ([], (-2))))]), xf_235.2), some (.inl (.inl ([], (-2))))), ([], [([(0, 1)], 0), ([(0, (-1))], 3), ([(2, (-1))], 0), ([(3, 1)], 0), ([(3, (-1))], 0)], ((ys_fs xf_235.1 [(0, 14, .inl (.inl ([], (-1))))]), xf_235.2), some (.inl (.inl ([], (-1))))), ([], [([(0, 1)], 0), ([(0, (-1))], 3), ([(3, 1)], (-2))], ((ys_fs xf_235.1 [(0, 14, .inl (.inl ([], (-1))))]), xf_235.2), some (.inl (.inl ([], (-1))))), ([], [([(0, 1)], 0), ([(0, (-1))], 3), ([(2, 1)], (-41)), ([(3, 1)], (-1)), ([(3, (-1))], 1)], ((ys_fs xf_235.1 [(0, 14, .inl (.inl ([], (-1))))]), xf_235.2), some (.inl (.inl ([], (-1))))), ([], [([(0, 1)], (-3)), ([(0, (-1))], 3), ([(2, 1)], (-1)), ([(2, (-1))], 40), ([(3, 1)], (-1)), ([(3, (-1))], 1)], ((ys_fs xf_235.1 [(0, 14, .inl (.inl ([], (-2))))]), xf_235.2), some (.inl (.inl ([], (-2))))), ([], [([(0, 1)], (-2)), ([(0, (-1))], 2), ([(2, 1)], (-1)), ([(2, (-1))], 40), ([(3, 1)], (-1)), ([(3, (-1))], 1)], ((ys_fs xf_235.1 [(0, 14, .inl (.inl ([], (-2))))]), xf_235.2), some (.inl (.inl ([], (-2))))), ([], [([(0, 1)], (-1)), ([(0, (-1))], 1), ([(2, 1)], (-1)), ([(2, (-1))], 40), ([(3, 1)], (-1)), ([(3, (-1))], 1)], ((ys_fs xf_235.1 [(0, 14, .inl (.inl ([], (-2))))]), xf_235.2), some (.inl (.inl ([], (-2))))), ([], [([(0, 1)], 0), ([(0, (-1))], 0), ([(2, 1)], (-1)), ([(2, (-1))], 40), ([(3, 1)], (-1)), ([(3, (-1))], 1)], ((ys_fs xf_235.1 [(0, 14, .inl (.inl ([], (-2))))]), xf_235.2), some (.inl (.inl ([], (-2))))), ([], [([(0, 1)], 0), ([(0, (-1))], 3), ([(2, (-1))], 0), ([(3, 1)], (-1)), ([(3, (-1))], 1)], ((ys_fs xf_235.1 [(0, 14, .inl (.inl ([], (-1))))]), xf_235.2), some (.inl (.inl ([], (-1))))), ([], [([(0, 1)], 0), ([(0, (-1))], 3), ([(3, (-1))], (-1))], ((ys_fs xf_235.1 [(0, 14, .inl (.inl ([], (-1))))]), xf_235.2), some (.inl (.inl ([], (-1)))))], []))
def xq_235 : ys_Q := (yz_X11_take, (yl_flX11, yl_ciX11, yl_cjX11, yl_cpX11), [])
def xa_235 : ys_CA := [((141, true), xk_129), ((107, false), xk_107), ((103, true), xk_148), ((107, false), xk_130)]
theorem xc_235 {l : Launch} {D : va_G} {ad : Nat → Nat} {cT : Nat → ClassId} {tys : List (ClassId × FieldType)} (hty : ys_Ty tys cT yk_sh) : ys_Con l D vwCl ad cT yk_sh tys yG xk_235 := ys_method (calls := xa_235) (Z := xq_235) 3000 (by decide +kernel) yz_X11_take_ok hty (yl_lkX11 _) (List.forall_mem_cons.mpr ⟨⟨xc_129 hty, yg_CLs yl_wX11_141 yd_yX11_isSheet⟩, List.forall_mem_cons.mpr ⟨⟨xc_107 hty, yg_CLv rfl rfl rfl yl_wX11_107 yd_yX11_told⟩, List.forall_mem_cons.mpr ⟨⟨xc_148 hty, yg_CLs yl_wX11_103 yd_yX6_isColour⟩, List.forall_mem_cons.mpr ⟨⟨xc_130 hty, yg_CLv rfl rfl rfl yl_wX11_107 yd_yX11_told⟩, fun _ h => absurd h List.not_mem_nil⟩⟩⟩⟩) (by decide +kernel)
def xf_236 : ys_F := (yk_f0, yk_r0)
def xk_236 : ys_K := (((yJ7_fill_d0a16, cJ7_fill_d0a16, 5, none), (0, 0)), ([.inr (some 39), .inl (.inr ([], 0))], ([], []), xf_236), ([([], [], (xf_236.1, (ys_rs xf_236.2 [(39, ((0, 0), [(0, (0, 0)), (1, (0, 0))]))])), none)], [39]))
def xq_236 : ys_Q := (yz_J7_fill_d0a16, (yl_flJ7, yl_ciJ7, yl_cjJ7, yl_cpJ7), [(6, [], [], (xf_236.1, xf_236.2), [(0, .inr (some 39)), (1, .inl (.inr ([], 0))), (3, .inl (.inl ([], 0))), (4, .inl (.inl ([], 40)))], [], ([], 40)), (6, [], [], (xf_236.1, (ys_rs xf_236.2 [(39, ((0, 0), [(0, (0, 0))]))])), [(0, .inr (some 39)), (1, .inl (.inr ([], 0))), (3, .inl (.inl ([], 1))), (4, .inl (.inl ([], 40)))], [], ([], 39)), (6, [(2, 40)], [], (xf_236.1, (ys_rs xf_236.2 [(39, ((0, 0), [(0, (0, 0)), (1, (0, 0))]))])), [(0, .inr (some 39)), (1, .inl (.inr ([], 0))), (3, .inl (.inl ([(0, 1)], 0))), (4, .inl (.inl ([], 40)))], [], ([(0, (-1))], 40))])
def xa_236 : ys_CA := []
theorem xc_236 {l : Launch} {D : va_G} {ad : Nat → Nat} {cT : Nat → ClassId} {tys : List (ClassId × FieldType)} (hty : ys_Ty tys cT yk_sh) : ys_Con l D vwCl ad cT yk_sh tys yG xk_236 := ys_method (calls := xa_236) (Z := xq_236) 3000 (by decide +kernel) yz_J7_fill_d0a16_ok hty (yl_lkJ7 _) (fun _ h => absurd h List.not_mem_nil) (by decide +kernel)
def xf_237 : ys_F := (yk_f0, yk_r0)
def xk_237 : ys_K := (((yX9_setToOne, cX9_setToOne, 1, none), (1, 24)), ([.inr (some 39)], ([], []), xf_237), ([([], [], (xf_237.1, (ys_rs xf_237.2 [(39, ((0, 0), [(0, (1, 1)), (1, (0, 0))]))])), none)], [39]))
def xq_237 : ys_Q := (yz_X9_setToOne, (yl_flX9, yl_ciX9, yl_cjX9, yl_cpX9), [])
def xa_237 : ys_CA := [((144, true), xk_236)]
theorem xc_237 {l : Launch} {D : va_G} {ad : Nat → Nat} {cT : Nat → ClassId} {tys : List (ClassId × FieldType)} (hty : ys_Ty tys cT yk_sh) : ys_Con l D vwCl ad cT yk_sh tys yG xk_237 := ys_method (calls := xa_237) (Z := xq_237) 3000 (by decide +kernel) yz_X9_setToOne_ok hty (yl_lkX9 _) (List.forall_mem_cons.mpr ⟨⟨xc_236 hty, yg_CLs yl_wX9_144 yd_yJ7_fill_d0a16⟩, fun _ h => absurd h List.not_mem_nil⟩) (by decide +kernel)
def xf_238 : ys_F := (yk_f0, (ys_rs yk_r0 [(39, ((0, 0), [(0, (1, 1)), (1, (0, 0))]))]))
def xk_238 : ys_K := (((yJ7_fill_d0a16, cJ7_fill_d0a16, 5, none), (0, 0)), ([.inr (some 40), .inl (.inr ([], 0))], ([], []), xf_238), ([([], [], (xf_238.1, (ys_rs xf_238.2 [(40, ((0, 0), [(0, (0, 0)), (1, (0, 0))]))])), none)], [40]))
def xq_238 : ys_Q := (yz_J7_fill_d0a16, (yl_flJ7, yl_ciJ7, yl_cjJ7, yl_cpJ7), [(6, [], [], (xf_238.1, xf_238.2), [(0, .inr (some 40)), (1, .inl (.inr ([], 0))), (3, .inl (.inl ([], 0))), (4, .inl (.inl ([], 40)))], [], ([], 40)), (6, [], [], (xf_238.1, (ys_rs xf_238.2 [(40, ((0, 0), [(0, (0, 0))]))])), [(0, .inr (some 40)), (1, .inl (.inr ([], 0))), (3, .inl (.inl ([], 1))), (4, .inl (.inl ([], 40)))], [], ([], 39)), (6, [(2, 40)], [], (xf_238.1, (ys_rs xf_238.2 [(40, ((0, 0), [(0, (0, 0)), (1, (0, 0))]))])), [(0, .inr (some 40)), (1, .inl (.inr ([], 0))), (3, .inl (.inl ([(0, 1)], 0))), (4, .inl (.inl ([], 40)))], [], ([(0, (-1))], 40))])
def xa_238 : ys_CA := []
theorem xc_238 {l : Launch} {D : va_G} {ad : Nat → Nat} {cT : Nat → ClassId} {tys : List (ClassId × FieldType)} (hty : ys_Ty tys cT yk_sh) : ys_Con l D vwCl ad cT yk_sh tys yG xk_238 := ys_method (calls := xa_238) (Z := xq_238) 3000 (by decide +kernel) yz_J7_fill_d0a16_ok hty (yl_lkJ7 _) (fun _ h => absurd h List.not_mem_nil) (by decide +kernel)
def xf_239 : ys_F := (yk_f0, (ys_rs yk_r0 [(39, ((0, 0), [(0, (1, 1)), (1, (0, 0))]))]))
def xk_239 : ys_K := (((yX9_setToOne, cX9_setToOne, 1, none), (1, 24)), ([.inr (some 40)], ([], []), xf_239), ([([], [], (xf_239.1, (ys_rs xf_239.2 [(40, ((0, 0), [(0, (1, 1)), (1, (0, 0))]))])), none)], [40]))
def xq_239 : ys_Q := (yz_X9_setToOne, (yl_flX9, yl_ciX9, yl_cjX9, yl_cpX9), [])
def xa_239 : ys_CA := [((144, true), xk_238)]
theorem xc_239 {l : Launch} {D : va_G} {ad : Nat → Nat} {cT : Nat → ClassId} {tys : List (ClassId × FieldType)} (hty : ys_Ty tys cT yk_sh) : ys_Con l D vwCl ad cT yk_sh tys yG xk_239 := ys_method (calls := xa_239) (Z := xq_239) 3000 (by decide +kernel) yz_X9_setToOne_ok hty (yl_lkX9 _) (List.forall_mem_cons.mpr ⟨⟨xc_238 hty, yg_CLs yl_wX9_144 yd_yJ7_fill_d0a16⟩, fun _ h => absurd h List.not_mem_nil⟩) (by decide +kernel)
def xf_240 : ys_F := (yk_f0, yk_r0)
def xk_240 : ys_K := (((yX9_poll, cX9_poll, 5, (some .int)), (2, 44)), ([.inr (some 31), .inl (.inl ([(0, 1)], 0)), .inl (.inl ([(1, 1)], 0))], ([((-2147483648), 2147483647), ((-2147483648), 2147483647)], []), xf_240), ([([], [], (xf_240.1, (ys_rs xf_240.2 [(39, ((0, 0), [(0, (1, 1)), (1, (0, 0))])), (40, ((0, 0), [(0, (1, 1)), (1, (0, 0))]))])), some (.inl (.inl ([], 2))))], [39, 40]))
def xq_240 : ys_Q := (yz_X9_poll, (yl_flX9, yl_ciX9, yl_cjX9, yl_cpX9), [(64, [], [], (xf_240.1, (ys_rs xf_240.2 [(39, ((0, 0), [(0, (1, 1)), (1, (0, 0))])), (40, ((0, 0), [(0, (1, 1)), (1, (0, 0))]))])), [(0, .inr (some 31)), (1, .inl (.inl ([(0, 1)], 0))), (2, .inl (.inl ([(1, 1)], 0))), (3, .inl (.inl ([], 0)))], [], ([], 42)), (163, [], [], (xf_240.1, (ys_rs xf_240.2 [(39, ((0, 0), [(0, (1, 1)), (1, (0, 0))])), (40, ((0, 0), [(0, (1, 1)), (1, (0, 0))]))])), [(0, .inr (some 31)), (3, .inl (.inl ([], 39)))], [], ([], 40)), (163, [], [], (xf_240.1, (ys_rs xf_240.2 [(39, ((0, 0), [(0, (1, 1)), (1, (0, 0))])), (40, ((0, 0), [(0, (1, 1)), (1, (0, 0))]))])), [(0, .inr (some 31)), (3, .inl (.inl ([], 38)))], [], ([], 39)), (163, [((-1), 37)], [], (xf_240.1, (ys_rs xf_240.2 [(39, ((0, 0), [(0, (1, 1)), (1, (0, 0))])), (40, ((0, 0), [(0, (1, 1)), (1, (0, 0))]))])), [(0, .inr (some 31)), (3, .inl (.inl ([(2, 1)], 0)))], [], ([(2, 1)], 1))])
def xa_240 : ys_CA := [((136, true), xk_237), ((136, true), xk_239)]
theorem xc_240 {l : Launch} {D : va_G} {ad : Nat → Nat} {cT : Nat → ClassId} {tys : List (ClassId × FieldType)} (hty : ys_Ty tys cT yk_sh) : ys_Con l D vwCl ad cT yk_sh tys yG xk_240 := ys_method (calls := xa_240) (Z := xq_240) 3000 (by decide +kernel) yz_X9_poll_ok hty (yl_lkX9 _) (List.forall_mem_cons.mpr ⟨⟨xc_237 hty, yg_CLs yl_wX9_136 yd_yX9_setToOne⟩, List.forall_mem_cons.mpr ⟨⟨xc_239 hty, yg_CLs yl_wX9_136 yd_yX9_setToOne⟩, fun _ h => absurd h List.not_mem_nil⟩⟩) (by decide +kernel)
def xf_241 : ys_F := (yk_f0, yk_r0)
def xk_241 : ys_K := (((yX11_vote, cX11_vote, 3, (some .int)), (3, 68)), ([.inr (some 0), .inl (.inl ([(0, 1)], 0)), .inl (.inl ([(1, 1)], 0))], ([((-2147483648), 2147483647), ((-2147483648), 2147483647)], []), xf_241), ([([], [], (xf_241.1, (ys_rs xf_241.2 [(39, ((0, 0), [(0, (1, 1)), (1, (0, 0))])), (40, ((0, 0), [(0, (1, 1)), (1, (0, 0))]))])), some (.inl (.inl ([], 2))))], [39, 40]))
def xq_241 : ys_Q := (yz_X11_vote, (yl_flX11, yl_ciX11, yl_cjX11, yl_cpX11), [])
def xa_241 : ys_CA := [((347, false), xk_240)]
theorem xc_241 {l : Launch} {D : va_G} {ad : Nat → Nat} {cT : Nat → ClassId} {tys : List (ClassId × FieldType)} (hty : ys_Ty tys cT yk_sh) : ys_Con l D vwCl ad cT yk_sh tys yG xk_241 := ys_method (calls := xa_241) (Z := xq_241) 3000 (by decide +kernel) yz_X11_vote_ok hty (yl_lkX11 _) (List.forall_mem_cons.mpr ⟨⟨xc_240 hty, yg_CLv rfl rfl rfl yl_wX11_347 yd_yX9_poll⟩, fun _ h => absurd h List.not_mem_nil⟩) (by decide +kernel)
def xf_242 : ys_F := (yk_f0, (ys_rs yk_r0 [(30, ((0, 0), [(0, (1, 1)), (1, (0, 0))]))]))
def xk_242 : ys_K := (((yJ13_bitCount_95d88, cJ13_bitCount_95d88, 2, (some .int)), (0, 0)), ([.inl (.inr ([], 1))], ([], []), xf_242), ([([], [], (xf_242.1, xf_242.2), some (.inl (.inl ([], 1))))], []))
def xq_242 : ys_Q := (yz_J13_bitCount_95d88, (yl_flJ13, yl_ciJ13, yl_cjJ13, yl_cpJ13), [])
def xa_242 : ys_CA := []
theorem xc_242 {l : Launch} {D : va_G} {ad : Nat → Nat} {cT : Nat → ClassId} {tys : List (ClassId × FieldType)} (hty : ys_Ty tys cT yk_sh) : ys_Con l D vwCl ad cT yk_sh tys yG xk_242 := ys_method (calls := xa_242) (Z := xq_242) 3000 (by decide +kernel) yz_J13_bitCount_95d88_ok hty (yl_lkJ13 _) (fun _ h => absurd h List.not_mem_nil) (by decide +kernel)
def xf_243 : ys_F := (yk_f0, (ys_rs yk_r0 [(30, ((0, 0), [(0, (1, 1)), (1, (0, 0))]))]))
def xk_243 : ys_K := (((yJ13_bitCount_95d88, cJ13_bitCount_95d88, 2, (some .int)), (0, 0)), ([.inl (.inr ([], 0))], ([], []), xf_243), ([([], [], (xf_243.1, xf_243.2), some (.inl (.inl ([], 0))))], []))
def xq_243 : ys_Q := (yz_J13_bitCount_95d88, (yl_flJ13, yl_ciJ13, yl_cjJ13, yl_cpJ13), [])
def xa_243 : ys_CA := []
theorem xc_243 {l : Launch} {D : va_G} {ad : Nat → Nat} {cT : Nat → ClassId} {tys : List (ClassId × FieldType)} (hty : ys_Ty tys cT yk_sh) : ys_Con l D vwCl ad cT yk_sh tys yG xk_243 := ys_method (calls := xa_243) (Z := xq_243) 3000 (by decide +kernel) yz_J13_bitCount_95d88_ok hty (yl_lkJ13 _) (fun _ h => absurd h List.not_mem_nil) (by decide +kernel)
def xf_244 : ys_F := (yk_f0, (ys_rs yk_r0 [(30, ((0, 0), [(0, (1, 1)), (1, (0, 0))]))]))
def xk_244 : ys_K := (((yX5_tally, cX5_tally, 3, (some .int)), (1, 21)), ([.inr (some 29)], ([], []), xf_244), ([([], [], (xf_244.1, xf_244.2), some (.inl (.inl ([], 1))))], []))
def xq_244 : ys_Q := (yz_X5_tally, (yl_flX5, yl_ciX5, yl_cjX5, yl_cpX5), [(4, [], [], (xf_244.1, xf_244.2), [(0, .inr (some 29)), (1, .inl (.inl ([], 0))), (2, .inl (.inl ([], 0)))], [], ([], 64)), (4, [], [], (xf_244.1, xf_244.2), [(0, .inr (some 29)), (1, .inl (.inl ([], 1))), (2, .inl (.inl ([], 1)))], [], ([], 63)), (4, [(2, 64)], [], (xf_244.1, xf_244.2), [(0, .inr (some 29)), (1, .inl (.inl ([], 1))), (2, .inl (.inl ([(0, 1)], 0)))], [], ([(0, (-1))], 64))])
def xa_244 : ys_CA := [((55, true), xk_242), ((55, true), xk_243)]
theorem xc_244 {l : Launch} {D : va_G} {ad : Nat → Nat} {cT : Nat → ClassId} {tys : List (ClassId × FieldType)} (hty : ys_Ty tys cT yk_sh) : ys_Con l D vwCl ad cT yk_sh tys yG xk_244 := ys_method (calls := xa_244) (Z := xq_244) 3000 (by decide +kernel) yz_X5_tally_ok hty (yl_lkX5 _) (List.forall_mem_cons.mpr ⟨⟨xc_242 hty, yg_CLs yl_wX5_55 yd_yJ13_bitCount_95d88⟩, List.forall_mem_cons.mpr ⟨⟨xc_243 hty, yg_CLs yl_wX5_55 yd_yJ13_bitCount_95d88⟩, fun _ h => absurd h List.not_mem_nil⟩⟩) (by decide +kernel)
def xf_245 : ys_F := (yk_f0, yk_r0)
def xk_245 : ys_K := (((yX11_ways, cX11_ways, 2, (some .int)), (3, 66)), ([.inr (some 0), .inl (.inl ([(0, 1)], 0))], ([((-2147483648), 2147483647)], []), xf_245), ([([], [([(0, (-1))], (-1))], (xf_245.1, xf_245.2), some (.inl (.inl ([], (-1))))), ([], [([(0, 1)], (-13))], (xf_245.1, xf_245.2), some (.inl (.inl ([], (-1))))), ([], [([(0, 1)], (-1)), ([(0, (-1))], 12)], (xf_245.1, xf_245.2), some (.inl (.inl ([], (-1))))), ([], [([(0, 1)], 0), ([(0, (-1))], 0)], (xf_245.1, (ys_rs xf_245.2 [(30, ((0, 0), [(0, (1, 1)), (1, (0, 0))]))])), some (.inl (.inl ([], 1))))], [30]))
def xq_245 : ys_Q := (yz_X11_ways, (yl_flX11, yl_ciX11, yl_cjX11, yl_cpX11), [])
def xa_245 : ys_CA := [((254, false), xk_110), ((257, false), xk_115), ((260, false), xk_244)]
theorem xc_245 {l : Launch} {D : va_G} {ad : Nat → Nat} {cT : Nat → ClassId} {tys : List (ClassId × FieldType)} (hty : ys_Ty tys cT yk_sh) : ys_Con l D vwCl ad cT yk_sh tys yG xk_245 := ys_method (calls := xa_245) (Z := xq_245) 3000 (by decide +kernel) yz_X11_ways_ok hty (yl_lkX11 _) (List.forall_mem_cons.mpr ⟨⟨xc_110 hty, yg_CLv rfl rfl rfl yl_wX11_254 yd_yX11_canPartFirst⟩, List.forall_mem_cons.mpr ⟨⟨xc_115 hty, yg_CLv rfl rfl rfl yl_wX11_257 yd_yX5_find⟩, List.forall_mem_cons.mpr ⟨⟨xc_244 hty, yg_CLv rfl rfl rfl yl_wX11_260 yd_yX5_tally⟩, fun _ h => absurd h List.not_mem_nil⟩⟩⟩) (by decide +kernel)
def xf_246 : ys_F := (yk_f0, yk_r0)
def xk_246 : ys_K := (((yX11_wide, cX11_wide, 2, (some .long)), (3, 67)), ([.inr (some 0), .inl (.inl ([(0, 1)], 0))], ([((-2147483648), 2147483647)], []), xf_246), ([([], [([(0, 1)], (-6))], (xf_246.1, xf_246.2), some (.inl (.inr ([], (-1))))), ([], [([(0, 1)], 0), ([(0, (-1))], 5)], ((ys_fs xf_246.1 [(16, 6, .inl (.inl ([], 0)))]), xf_246.2), some (.inl (.inr ([], (-6))))), ([], [([(0, (-1))], (-1))], (xf_246.1, xf_246.2), some (.inl (.inr ([], (-1)))))], []))
def xq_246 : ys_Q := (yz_X11_wide, (yl_flX11, yl_ciX11, yl_cjX11, yl_cpX11), [])
def xa_246 : ys_CA := [((190, false), xk_230)]
theorem xc_246 {l : Launch} {D : va_G} {ad : Nat → Nat} {cT : Nat → ClassId} {tys : List (ClassId × FieldType)} (hty : ys_Ty tys cT yk_sh) : ys_Con l D vwCl ad cT yk_sh tys yG xk_246 := ys_method (calls := xa_246) (Z := xq_246) 3000 (by decide +kernel) yz_X11_wide_ok hty (yl_lkX11 _) (List.forall_mem_cons.mpr ⟨⟨xc_230 hty, yg_CLv rfl rfl rfl yl_wX11_190 yd_yX10_find⟩, fun _ h => absurd h List.not_mem_nil⟩) (by decide +kernel)
def xf_247 : ys_F := (yk_f0, yk_r0)
def xk_247 : ys_K := (((yX11_write, cX11_write, 5, (some .int)), (1, 21)), ([.inr (some 0), .inl (.inl ([(0, 1)], 0)), .inl (.inl ([(1, 1)], 0)), .inl (.inr ([(2, 1)], 0))], ([((-2147483648), 2147483647), ((-2147483648), 2147483647), ((-9223372036854775808), 9223372036854775807)], []), xf_247), ([([], [([(0, (-1))], (-1))], ((ys_fs xf_247.1 [(0, 14, .inl (.inl ([], (-1))))]), xf_247.2), some (.inl (.inl ([], (-1))))), ([], [([(0, 1)], (-4))], ((ys_fs xf_247.1 [(0, 14, .inl (.inl ([], (-1))))]), xf_247.2), some (.inl (.inl ([], (-1))))), ([], [([(0, 1)], (-3)), ([(0, (-1))], 3)], ((ys_fs xf_247.1 [(0, 14, .inl (.inl ([], (-2))))]), xf_247.2), some (.inl (.inl ([], (-2))))), ([], [([(0, 1)], (-2)), ([(0, (-1))], 2)], ((ys_fs xf_247.1 [(0, 14, .inl (.inl ([], (-2))))]), xf_247.2), some (.inl (.inl ([], (-2))))), ([], [([(0, 1)], (-1)), ([(0, (-1))], 1)], ((ys_fs xf_247.1 [(0, 14, .inl (.inl ([], (-2))))]), xf_247.2), some (.inl (.inl ([], (-2))))), ([], [([(0, 1)], 0), ([(0, (-1))], 0)], ((ys_fs xf_247.1 [(0, 14, .inl (.inl ([], (-2))))]), xf_247.2), some (.inl (.inl ([], (-2)))))], []))
def xq_247 : ys_Q := (yz_X11_write, (yl_flX11, yl_ciX11, yl_cjX11, yl_cpX11), [])
def xa_247 : ys_CA := [((141, true), xk_129), ((107, false), xk_107), ((107, false), xk_130)]
theorem xc_247 {l : Launch} {D : va_G} {ad : Nat → Nat} {cT : Nat → ClassId} {tys : List (ClassId × FieldType)} (hty : ys_Ty tys cT yk_sh) : ys_Con l D vwCl ad cT yk_sh tys yG xk_247 := ys_method (calls := xa_247) (Z := xq_247) 3000 (by decide +kernel) yz_X11_write_ok hty (yl_lkX11 _) (List.forall_mem_cons.mpr ⟨⟨xc_129 hty, yg_CLs yl_wX11_141 yd_yX11_isSheet⟩, List.forall_mem_cons.mpr ⟨⟨xc_107 hty, yg_CLv rfl rfl rfl yl_wX11_107 yd_yX11_told⟩, List.forall_mem_cons.mpr ⟨⟨xc_130 hty, yg_CLv rfl rfl rfl yl_wX11_107 yd_yX11_told⟩, fun _ h => absurd h List.not_mem_nil⟩⟩⟩) (by decide +kernel)
end
section
/-! making objects and arrays: the world grows -/
def ys_rfV (n : Nat) (v : ys_V) : Bool := match v with
  | .inr (some k) => decide (k < n)
  | _ => true
def ys_rfS (sh : List ys_C) (S : ys_S) : Bool := decide (S.2.1.1.length = sh.length) && (decide (S.2.1.2.length = sh.length) && (S.2.1.1.all (fun w => w.all (ys_rfV sh.length)) && (S.2.2.1.all (fun q => ys_rfV sh.length q.2) && (S.2.2.2.all (ys_rfV sh.length) && sh.all (fun x => match x with
  | .inr a => a.2.2.all (fun k => decide (k < sh.length))
  | .inl _ => true)))))
theorem ys_den_ad {ad ad' : Nat → Nat} {n : Nat} (h : ∀ i, i < n → ad' i = ad i) (r : Nat → Int) {v : ys_V} (hv : ys_rfV n v = true) : ys_den ad' r v = ys_den ad r v := by
  rcases v with (x | x) | (_ | k)
  · rfl
  · rfl
  · rfl
  · show Value.ref (ad' k) = Value.ref (ad k)
    rw [h k (of_decide_eq_true hv)]
theorem ys_con_ad {ad ad' : Nat → Nat} {n : Nat} (h : ∀ i, i < n → ad' i = ad i) {g : Nat → Int} {a : Nat × Nat × List Nat} (ha : (a.2.2.all (fun k => decide (k < n))) = true) : ys_con ad' g a = ys_con ad g a := by
  unfold ys_con
  have e : (fun j : Nat => (a.2.2[j]?).map ad') = fun j : Nat => (a.2.2[j]?).map ad := by
    funext j
    cases hc : a.2.2[j]? with
    | none => rfl
    | some k =>
      show some (ad' k) = some (ad k)
      rw [h k (of_decide_eq_true (List.all_eq_true.mp ha k (List.mem_of_getElem? hc)))]
  rw [e]
theorem ys_wld_ext {ad ad' : Nat → Nat} {cT : Nat → ClassId} {sh : List ys_C} {r : Nat → Int} {g g' : Nat → Nat → Int} {F : List (List ys_V)} {c : ys_C} {row : List ys_V} (had : ∀ i, i < sh.length → ad' i = ad i) (hg : ∀ i, i < sh.length → g' i = g i) (hF : F.length = sh.length) (h1 : F.all (fun w => w.all (ys_rfV sh.length)) = true) (h2 : sh.all (fun x => match x with
  | .inr a => a.2.2.all (fun k => decide (k < sh.length))
  | .inl _ => true) = true) : ys_wld ad' cT (sh ++ [c]) r g' (F ++ [row]) = ys_wld ad cT sh r g F ++ [ys_cel ad' cT r g' sh.length c row] := by
  apply List.ext_getElem?
  intro j
  by_cases hj : j < sh.length
  · have hc : (sh ++ [c])[j]? = some sh[j] := by rw [List.getElem?_append_left hj, List.getElem?_eq_getElem hj]
    have hc2 : sh[j]? = some sh[j] := List.getElem?_eq_getElem hj
    rw [ys_wld_get hc, List.getElem?_append_left (by rw [ys_wld_len]; exact hj), ys_wld_get hc2]
    have hrow : (F ++ [row]).getD j [] = F.getD j [] := by
      rw [List.getD_eq_getElem?_getD, List.getD_eq_getElem?_getD, List.getElem?_append_left (by omega)]
    rw [hrow]
    congr 1
    unfold ys_cel
    rw [had j hj, hg j hj]
    have hmem := List.all_eq_true.mp h2 sh[j] (List.getElem_mem hj)
    cases hs : sh[j] with
    | inl ci =>
      have e : (F.getD j []).map (ys_den ad' r) = (F.getD j []).map (ys_den ad r) := by
        apply List.map_congr_left
        intro v hv
        refine ys_den_ad had r ?_
        rw [List.getD_eq_getElem?_getD, List.getElem?_eq_getElem (by omega)] at hv
        exact List.all_eq_true.mp (List.all_eq_true.mp h1 _ (List.getElem_mem (by omega : j < F.length))) v hv
      show (ad j, Sum.inr (ci, _)) = (ad j, Sum.inr (ci, _))
      rw [e]
    | inr a =>
      rw [hs] at hmem
      show (ad j, Sum.inl (cT a.1, ys_con ad' (g j) a)) = (ad j, Sum.inl (cT a.1, ys_con ad (g j) a))
      rw [ys_con_ad had hmem]
  · by_cases hj2 : j = sh.length
    · subst hj2
      have hc : (sh ++ [c])[sh.length]? = some c := by rw [List.getElem?_append_right (Nat.le_refl _), Nat.sub_self]; rfl
      rw [ys_wld_get hc, List.getElem?_append_right (by rw [ys_wld_len]; exact Nat.le_refl _), ys_wld_len, Nat.sub_self]
      have hrow : (F ++ [row]).getD sh.length [] = row := by
        rw [List.getD_eq_getElem?_getD, List.getElem?_append_right (by omega), hF, Nat.sub_self]
        rfl
      rw [hrow]
      rfl
    · rw [List.getElem?_eq_none (by rw [ys_wld_len, List.length_append]; simp; omega), List.getElem?_eq_none (by rw [List.length_append, ys_wld_len]; simp; omega)]
section YSO
variable (p : Program) (l : Launch) (e : Env) (R : Room) (s : State) (m : MethodId) (args : Array Value) (below : List Frame) (meth : Method) (c : Code) (Q : State → Prop) (D : va_G) (cl : List vw_C) (cT : Nat → ClassId) (A : Nat → Prop) (H0 : Heap) (nL : Nat) (mods : List Nat) (g0 : Nat → Nat → Int) (r0 : Nat → Int) (E : Nat) (n0 : Nat) (ad0 : Nat → Nat)
def ys_N (kc kz : Nat) (sh : List ys_C) (pc : Nat) (S : ys_S) : Prop := ∀ ad : Nat → Nat, (∀ i, i < n0 → ad i = ad0 i) → ys_W p l e R s m args below meth c Q kc kz D cl ad cT sh A H0 nL mods g0 r0 E pc S
end YSO
section YSX
variable {p : Program} {l : Launch} {e : Env} {R : Room} {s : State} {m : MethodId} {args : Array Value} {below : List Frame} {meth : Method} {c : Code} {Q : State → Prop} {kc kz : Nat} {D : va_G} {cl : List vw_C} {cT : Nat → ClassId} {sh : List ys_C} {A : Nat → Prop} {H0 : Heap} {nL : Nat} {mods : List Nat} {g0 : Nat → Nat → Int} {r0 : Nat → Int} {E : Nat} {pc : Nat} {b : ys_B} {fds : ys_F} {lv : List (Nat × ys_V)} {sv : List ys_V} {succ : List (Nat × ys_S)} {cc : ByteArray} {own : String} {Ts : List Cond} {tys : List (ClassId × FieldType)}
variable {n0 : Nat} {ad0 : Nat → Nat}
/-- a state, with one cell more -/
theorem ys_rep_more {ad ad' : Nat → Nat} {r : Nat → Int} {H H1 : Heap} {locs : List Loc} {ls : Array Slot} {st : List Value} {x : ys_C} {row : List ys_V} {ar : ys_R} {g g' : Nat → Nat → Int} (h : ys_rep D cl ad cT sh A H0 nL mods g0 r0 r E (b, fds, lv, sv) H locs ls st) (hrf : ys_rfS sh (b, fds, lv, sv) = true) (hg : ys_gok mods fds.2 g0 g) (had : ∀ i, i < sh.length → ad' i = ad i) (hgg : ∀ i, i < sh.length → g' i = g i) (hmods : ∀ k, k ∉ mods → g' k = g0 k) (har : ys_rok ar (g' sh.length)) (hrow : ∀ v ∈ row, ys_stV b.1.length v) (hP : va_P D cl (ys_wld ad cT sh r g fds.1 ++ [ys_cel ad' cT r g' sh.length x row]) H1) (hD : va_D A (ys_wld ad cT sh r g fds.1 ++ [ys_cel ad' cT r g' sh.length x row])) (hS : va_S A H0 H1 locs) : ys_rep D cl ad' cT (sh ++ [x]) A H0 nL mods g0 r0 r E (b, (fds.1 ++ [row], fds.2 ++ [ar]), lv, sv) H1 locs ls st := by
  unfold ys_rfS at hrf
  simp only [Bool.and_eq_true, decide_eq_true_eq] at hrf
  obtain ⟨f1, f2, f3, f4, f5, f6⟩ := hrf
  obtain ⟨h1, ⟨s0, s1, s2, s3⟩, h2, -, h4, h5⟩ := h
  have ew := ys_wld_ext (cT := cT) (r := r) (c := x) (row := row) had hgg f1 f3 f6
  refine ⟨h1, ⟨s0, fun w hw v hv => ?_, s2, s3⟩, h2, ⟨g', ⟨fun k a hk => ?_, hmods⟩, ?_, ?_, hS⟩, ?_, ?_⟩
  · rcases List.mem_append.mp hw with q | q
    · exact s1 w q v hv
    · rw [List.mem_singleton.mp q] at hv
      exact hrow v hv
  · have hk : (fds.2 ++ [ar])[k]? = some a := hk
    by_cases hl : k < sh.length
    · rw [List.getElem?_append_left (by omega)] at hk
      rw [hgg k hl]
      exact hg.1 k a hk
    · rw [List.getElem?_append_right (by omega)] at hk
      have hz : k - fds.2.length < 1 := (List.getElem?_eq_some_iff.mp hk).1
      have hkk : k = sh.length := by omega
      rw [show k - fds.2.length = 0 by omega] at hk
      cases hk
      rw [hkk]
      exact har
  · show va_P D cl (ys_wld ad' cT (sh ++ [x]) r g' (fds.1 ++ [row])) H1
    rw [ew]
    exact hP
  · show va_D A (ys_wld ad' cT (sh ++ [x]) r g' (fds.1 ++ [row]))
    rw [ew]
    exact hD
  · have e4 : ys_lvs ad' r lv = ys_lvs ad r lv := List.map_congr_left fun q hq => by rw [ys_den_ad had r (List.all_eq_true.mp f4 q hq)]
    show lv_has ls nL (ys_lvs ad' r lv)
    rw [e4]
    exact h4
  · rw [h5]
    exact (List.map_congr_left fun v hv => ys_den_ad had r (List.all_eq_true.mp f5 v hv)).symm
def ys_dv (t : FieldType) : ys_V := match t with
  | .long => .inl (.inr ([], 0))
  | .object _ => .inr none
  | .array _ => .inr none
  | _ => .inl (.inl ([], 0))
def ys_dvo (t : FieldType) : Bool := match t with
  | .float => false
  | .double => false
  | _ => true
theorem ys_dv_ok {ad : Nat → Nat} {r : Nat → Int} {t : FieldType} (h : ys_dvo t = true) : defaultValue t = ys_den ad r (ys_dv t) := by
  cases t <;> first | rfl | cases h
theorem ys_dv_st {n : Nat} (t : FieldType) : ys_stV n (ys_dv t) := by
  cases t <;> first | trivial | exact ys_stb_cst 0
/-- what is known of a kind of objects that a link names -/
def ys_Nl (own : String) (Ts : List Cond) (cl : List vw_C) (idx ci : Nat) (row : List ys_V) : Prop := ∃ (C : String) (T : u_T) (ty0 : Nat → FieldType), cl[ci]? = some (C, T, row.length) ∧ (∀ w ∈ u_ws C T row.length, w ∈ Ts) ∧ (∀ k, k < row.length → parseFieldDescriptor (T k).2.2.1 = some (ty0 k)) ∧ Cond.classLink own idx C ∈ Ts ∧ Cond.instantiable C row.length ∈ Ts ∧ Cond.initialized C ∈ Ts ∧ (∀ j, j < row.length → ys_dvo (ty0 j) = true ∧ row[j]? = some (ys_dv (ty0 j)))
theorem ys_knew {idx ci : Nat} {row : List ys_V} (hexec : p.tables.exec = Jvm.exec) (hb : c.code = cc) (hts : ∀ w ∈ Ts, w.before args s = true) (hown : s.vm.findClass own = some m.cls) (hK : va_K D cl tys s) (hA0 : ∀ q, H0.size ≤ q → A q) (hnl : ys_Nl own Ts cl idx ci row) (hrf : ys_rfS sh (b, fds, lv, sv) = true) (hn0 : n0 ≤ sh.length) (hmods : sh.length ∈ mods) (hkc : kc + 1 ≤ R.cells) (hkz : kz + row.length ≤ R.slots) (hd : decode cc pc = .ok (.new idx, 3)) (k : ys_N p l e R s m args below meth c Q D cl cT A H0 nL mods g0 r0 E n0 ad0 (kc + 1) (kz + row.length) (sh ++ [.inl ci]) (pc + 3) (b, (fds.1 ++ [row], fds.2 ++ [((0, 0), [])]), lv, .inr (some sh.length) :: sv)) : ys_N p l e R s m args below meth c Q D cl cT A H0 nL mods g0 r0 E n0 ad0 kc kz sh pc (b, fds, lv, sv) := by
  intro ad had0 r H locs ls st h
  obtain ⟨C, T, ty0, h1, h2, h3, h4, h5, h6, h7⟩ := hnl
  obtain ⟨g, hg, hP, hD, hS⟩ := h.2.2.2.1
  have hfs : ∀ j, j < row.length → defaultValue (ty0 j) = vp_V (row.map (ys_den ad r)) j := by
    intro j hj
    obtain ⟨a1, a2⟩ := h7 j hj
    unfold vp_V
    rw [List.getD_eq_getElem?_getD, List.getElem?_map, a2]
    exact ys_dv_ok a1
  refine va_new (cl := cl) hexec hb hts h2 ty0 h3 hown (hts _ h4) (hts _ h5) (hts _ h6) hK hP hD hS hA0 h1 hfs hkc hkz hd fun q H1 hP1 hD1 hS1 => ?_
  obtain ⟨ad', had'⟩ : ∃ ad' : Nat → Nat, ad' = fun i => if i = sh.length then q else ad i := ⟨_, rfl⟩
  have hadl : ∀ i, i < sh.length → ad' i = ad i := fun i hi => by rw [had']; exact if_neg (Nat.ne_of_lt hi)
  have hadn : ad' sh.length = q := by rw [had']; exact if_pos rfl
  obtain ⟨g', hg'⟩ : ∃ g' : Nat → Nat → Int, g' = fun i => if i = sh.length then (fun _ => 0) else g i := ⟨_, rfl⟩
  have hgl : ∀ i, i < sh.length → g' i = g i := fun i hi => by rw [hg']; exact if_neg (Nat.ne_of_lt hi)
  have hgn : g' sh.length = fun _ => 0 := by rw [hg']; exact if_pos rfl
  have hrst : ∀ v ∈ row, ys_stV b.1.length v := by
    intro v hv
    obtain ⟨j, hj⟩ := List.getElem?_of_mem hv
    have hjl := (List.getElem?_eq_some_iff.mp hj).1
    rw [(h7 j hjl).2] at hj
    cases hj
    exact ys_dv_st _
  have hrowad : row.map (ys_den ad' r) = row.map (ys_den ad r) := by
    apply List.map_congr_left
    intro v hv
    obtain ⟨j, hj⟩ := List.getElem?_of_mem hv
    have hjl := (List.getElem?_eq_some_iff.mp hj).1
    rw [(h7 j hjl).2] at hj
    cases hj
    generalize ty0 j = tt
    cases tt <;> rfl
  have ec : ys_cel ad' cT r g' sh.length (.inl ci) row = (q, .inr (ci, row.map (ys_den ad r))) := by
    show (ad' sh.length, Sum.inr (ci, row.map (ys_den ad' r))) = _
    rw [hadn, hrowad]
  have hrep := ys_rep_more (ad' := ad') (x := .inl ci) (row := row) (ar := ((0, 0), [])) h hrf hg hadl hgl (fun kk hk => by
    rw [hg']
    show (if kk = sh.length then _ else g kk) = _
    rw [if_neg (fun e1 : kk = sh.length => hk (by rw [e1]; exact hmods))]
    exact hg.2 kk hk) (by
      rw [hgn]
      intro j
      exact ⟨Int.le_refl 0, Int.le_refl 0⟩) hrst (by rw [ec]; exact hP1) (by rw [ec]; exact hD1) hS1
  have h9 := k ad' (fun i hi => (hadl i (Nat.lt_of_lt_of_le hi hn0)).trans (had0 i hi)) r H1 locs ls _ (ys_rep_push hrep (.inr (some sh.length)) trivial)
  have e9 : ys_den ad' r (.inr (some sh.length)) = .ref q := by
    show Value.ref (ad' sh.length) = _
    rw [hadn]
  rw [e9] at h9
  exact h9
/-- an array of numbers -/
theorem ys_knewa {aty : ArrayType} {ty : FieldType} {kd n : Nat} {a0 : vp_A} (hexec : p.tables.exec = Jvm.exec) (hb : c.code = cc) (harr : (Cond.arrayClass (newarray.typeOf aty)).before args s = true) (hty : newarray.typeOf aty = ty) (hK : va_K D cl tys s) (hA0 : ∀ q, H0.size ≤ q → A q) (htys : tys[kd]? = some (cT kd, ty)) (hra : ∀ x : ClassId, va_RA s x ty → s.vm.findClass ("[" ++ ty.toString) = some x) (ha : ∀ x : ClassId, vp_cell x a0 = arrV x n (fun _ => defaultValue ty)) (hcon : ∀ ad : Nat → Nat, ys_con ad (fun _ => 0) (kd, n, []) = a0) (hn : n ≤ 100000) (hby : n * componentBytes ty ≤ 536870912) (hrf : ys_rfS sh (b, fds, lv, .inl (.inl ([], (n : Int))) :: sv) = true) (hn0 : n0 ≤ sh.length) (hmods : sh.length ∈ mods) (hkc : kc + 1 ≤ R.cells) (hkz : kz + n ≤ R.slots) (hd : decode cc pc = .ok (.newarray aty, 2)) (k : ys_N p l e R s m args below meth c Q D cl cT A H0 nL mods g0 r0 E n0 ad0 (kc + 1) (kz + n) (sh ++ [.inr (kd, n, [])]) (pc + 2) (b, (fds.1 ++ [[]], fds.2 ++ [((0, 0), [])]), lv, .inr (some sh.length) :: sv)) : ys_N p l e R s m args below meth c Q D cl cT A H0 nL mods g0 r0 E n0 ad0 kc kz sh pc (b, fds, lv, .inl (.inl ([], (n : Int))) :: sv) := by
  intro ad had0 r H locs ls st h0
  have hrf2 : ys_rfS sh (b, fds, lv, sv) = true := by
    unfold ys_rfS at hrf ⊢
    simp only [Bool.and_eq_true, decide_eq_true_eq, List.all_cons] at hrf ⊢
    exact ⟨hrf.1, hrf.2.1, hrf.2.2.1, hrf.2.2.2.1, hrf.2.2.2.2.1.2, hrf.2.2.2.2.2⟩
  obtain ⟨st1, e1, h, -⟩ := ys_rep_pop h0
  subst e1
  obtain ⟨g, hg, hP, hD, hS⟩ := h.2.2.2.1
  have ev : ys_ev r (([], (n : Int)) : ys_L) = (n : Int) := Int.zero_add _
  have et : (Int32.ofInt (n : Int)).toInt = (n : Int) := Int32.toInt_ofInt_of_le (by omega) (by omega)
  have e2 : ys_den ad r (.inl (.inl ([], (n : Int)))) = .int (Int32.ofInt (n : Int)) := by
    show Value.int (Int32.ofInt (ys_ev r _)) = _
    rw [ev]
  rw [e2]
  refine va_newa (a0 := a0) hexec hb harr hty hK hP hD hS hA0 ha (by rw [Int32.lt_iff_toInt_lt, et]; exact Int.not_lt.mpr (Int.natCast_nonneg n)) (by show (Int32.ofInt (n : Int)).toInt.toNat = n; rw [et]; rfl) hby hkc hkz hd fun q cA H1 hK1 hP1 hD1 hS1 => ?_
  have hcA : cA = cT kd := by
    have x1 := hra _ (hK1.2 tys.length (cA, ty) (by rw [List.getElem?_append_right (Nat.le_refl _), Nat.sub_self]; rfl)).2
    have x2 := hra _ (hK.2 kd _ htys).2
    rw [x1] at x2
    exact Option.some.inj x2
  subst hcA
  obtain ⟨ad', had'⟩ : ∃ ad' : Nat → Nat, ad' = fun i => if i = sh.length then q else ad i := ⟨_, rfl⟩
  have hadl : ∀ i, i < sh.length → ad' i = ad i := fun i hi => by rw [had']; exact if_neg (Nat.ne_of_lt hi)
  have hadn : ad' sh.length = q := by rw [had']; exact if_pos rfl
  obtain ⟨g', hg'⟩ : ∃ g' : Nat → Nat → Int, g' = fun i => if i = sh.length then (fun _ => 0) else g i := ⟨_, rfl⟩
  have hgl : ∀ i, i < sh.length → g' i = g i := fun i hi => by rw [hg']; exact if_neg (Nat.ne_of_lt hi)
  have hgn : g' sh.length = fun _ => 0 := by rw [hg']; exact if_pos rfl
  have ec : ys_cel ad' cT r g' sh.length (.inr (kd, n, [])) [] = (q, .inl (cT kd, a0)) := by
    show (ad' sh.length, Sum.inl (cT kd, ys_con ad' (g' sh.length) (kd, n, []))) = _
    rw [hadn, hgn, hcon]
  have hrep := ys_rep_more (ad' := ad') (x := .inr (kd, n, [])) (row := []) (ar := ((0, 0), [])) h hrf2 hg hadl hgl (fun kk hk => by
    rw [hg']
    show (if kk = sh.length then _ else g kk) = _
    rw [if_neg (fun e1 : kk = sh.length => hk (by rw [e1]; exact hmods))]
    exact hg.2 kk hk) (by
      rw [hgn]
      intro j
      exact ⟨Int.le_refl 0, Int.le_refl 0⟩) (fun v hv => by cases hv) (by rw [ec]; exact hP1) (by rw [ec]; exact hD1) hS1
  have h9 := k ad' (fun i hi => (hadl i (Nat.lt_of_lt_of_le hi hn0)).trans (had0 i hi)) r H1 locs ls _ (ys_rep_push hrep (.inr (some sh.length)) trivial)
  have e9 : ys_den ad' r (.inr (some sh.length)) = .ref q := by
    show Value.ref (ad' sh.length) = _
    rw [hadn]
  rw [e9] at h9
  exact h9
/-- an array of references -/
theorem ys_knewq {idx kd n : Nat} {C : String} (hexec : p.tables.exec = Jvm.exec) (hb : c.code = cc) (hts : ∀ w ∈ Ts, w.before args s = true) (hown : s.vm.findClass own = some m.cls) (hcl : Cond.classLink own idx C ∈ Ts) (hov : va_AO C s) (hK : va_K D cl tys s) (hA0 : ∀ q, H0.size ≤ q → A q) (hkd : 4 ≤ kd) (htys : tys[kd]? = some (cT kd, .object C)) (hn : n ≤ 100000) (hrf : ys_rfS sh (b, fds, lv, .inl (.inl ([], (n : Int))) :: sv) = true) (hn0 : n0 ≤ sh.length) (hmods : sh.length ∈ mods) (hkc : kc + 1 ≤ R.cells) (hkz : kz + n ≤ R.slots) (hd : decode cc pc = .ok (.anewarray idx, 3)) (k : ys_N p l e R s m args below meth c Q D cl cT A H0 nL mods g0 r0 E n0 ad0 (kc + 1) (kz + n) (sh ++ [.inr (kd, n, [])]) (pc + 3) (b, (fds.1 ++ [[]], fds.2 ++ [((0, 0), [])]), lv, .inr (some sh.length) :: sv)) : ys_N p l e R s m args below meth c Q D cl cT A H0 nL mods g0 r0 E n0 ad0 kc kz sh pc (b, fds, lv, .inl (.inl ([], (n : Int))) :: sv) := by
  intro ad had0 r H locs ls st h0
  have hrf2 : ys_rfS sh (b, fds, lv, sv) = true := by
    unfold ys_rfS at hrf ⊢
    simp only [Bool.and_eq_true, decide_eq_true_eq, List.all_cons] at hrf ⊢
    exact ⟨hrf.1, hrf.2.1, hrf.2.2.1, hrf.2.2.2.1, hrf.2.2.2.2.1.2, hrf.2.2.2.2.2⟩
  obtain ⟨st1, e1, h, -⟩ := ys_rep_pop h0
  subst e1
  obtain ⟨g, hg, hP, hD, hS⟩ := h.2.2.2.1
  have ev : ys_ev r (([], (n : Int)) : ys_L) = (n : Int) := Int.zero_add _
  have et : (Int32.ofInt (n : Int)).toInt = (n : Int) := Int32.toInt_ofInt_of_le (by omega) (by omega)
  have e2 : ys_den ad r (.inl (.inl ([], (n : Int)))) = .int (Int32.ofInt (n : Int)) := by
    show Value.int (Int32.ofInt (ys_ev r _)) = _
    rw [ev]
  rw [e2]
  refine va_newq hexec hb hown (hts _ hcl) hov hK hP hD hS hA0 (by rw [Int32.lt_iff_toInt_lt, et]; exact Int.not_lt.mpr (Int.natCast_nonneg n)) (by show (Int32.ofInt (n : Int)).toInt.toNat = n; rw [et]; rfl) (by omega) hkc hkz hd fun q cA H1 hK1 hP1 hD1 hS1 => ?_
  have hcA : cA = cT kd := by
    obtain ⟨_, _, _, _, _, x1⟩ := (hK1.2 tys.length (cA, .object C) (by rw [List.getElem?_append_right (Nat.le_refl _), Nat.sub_self]; rfl)).2
    obtain ⟨_, _, _, _, _, x2⟩ := (hK.2 kd _ htys).2
    rw [x1] at x2
    exact Option.some.inj x2
  subst hcA
  obtain ⟨ad', had'⟩ : ∃ ad' : Nat → Nat, ad' = fun i => if i = sh.length then q else ad i := ⟨_, rfl⟩
  have hadl : ∀ i, i < sh.length → ad' i = ad i := fun i hi => by rw [had']; exact if_neg (Nat.ne_of_lt hi)
  have hadn : ad' sh.length = q := by rw [had']; exact if_pos rfl
  obtain ⟨g', hg'⟩ : ∃ g' : Nat → Nat → Int, g' = fun i => if i = sh.length then (fun _ => 0) else g i := ⟨_, rfl⟩
  have hgl : ∀ i, i < sh.length → g' i = g i := fun i hi => by rw [hg']; exact if_neg (Nat.ne_of_lt hi)
  have hgn : g' sh.length = fun _ => 0 := by rw [hg']; exact if_pos rfl
  have ec : ys_cel ad' cT r g' sh.length (.inr (kd, n, [])) [] = (q, .inl (cT kd, n, .inr (.inr (.inr (.inr (fun _ => none)))))) := by
    show (ad' sh.length, Sum.inl (cT kd, ys_con ad' (g' sh.length) (kd, n, []))) = _
    rw [hadn]
    unfold ys_con
    rw [if_neg (by show ¬ kd = 1; omega), if_pos (by show 4 ≤ kd; exact hkd)]
    rfl
  have hrep := ys_rep_more (ad' := ad') (x := .inr (kd, n, [])) (row := []) (ar := ((0, 0), [])) h hrf2 hg hadl hgl (fun kk hk => by
    rw [hg']
    show (if kk = sh.length then _ else g kk) = _
    rw [if_neg (fun e1 : kk = sh.length => hk (by rw [e1]; exact hmods))]
    exact hg.2 kk hk) (by
      rw [hgn]
      intro j
      exact ⟨Int.le_refl 0, Int.le_refl 0⟩) (fun v hv => by cases hv) (by rw [ec]; exact hP1) (by rw [ec]; exact hD1) hS1
  have h9 := k ad' (fun i hi => (hadl i (Nat.lt_of_lt_of_le hi hn0)).trans (had0 i hi)) r H1 locs ls _ (ys_rep_push hrep (.inr (some sh.length)) trivial)
  have e9 : ys_den ad' r (.inr (some sh.length)) = .ref q := by
    show Value.ref (ad' sh.length) = _
    rw [hadn]
  rw [e9] at h9
  exact h9
theorem ys_wld_sh {ad : Nat → Nat} {r : Nat → Int} {g : Nat → Nat → Int} {F : List (List ys_V)} {kk : Nat} {x : ys_C} (hk : kk < sh.length) : ys_wld ad cT (sh.set kk x) r g F = (ys_wld ad cT sh r g F).set kk (ys_cel ad cT r g kk x (F.getD kk [])) := by
  apply List.ext_getElem?
  intro j
  by_cases hj : kk = j
  · subst hj
    rw [List.getElem?_set_self (by rw [ys_wld_len]; exact hk), ys_wld_get (c := x) (by rw [List.getElem?_set_self hk])]
  · rw [List.getElem?_set_ne hj]
    cases hc : sh[j]? with
    | none =>
      have hl : sh.length ≤ j := by simpa using hc
      rw [List.getElem?_eq_none (by rw [ys_wld_len, List.length_set]; exact hl), List.getElem?_eq_none (by rw [ys_wld_len]; exact hl)]
    | some c' => rw [ys_wld_get hc, ys_wld_get (c := c') (by rw [List.getElem?_set_ne hj]; exact hc)]
/-- a reference into an array: the next free place -/
theorem ys_kaast {v k0 ci kd n : Nat} {tg : List Nat} {C : String} {T : u_T} {N : Nat} (hexec : p.tables.exec = Jvm.exec) (hb : c.code = cc) (hK : va_K D cl tys s) (hk : sh[k0]? = some (.inr (kd, n, tg))) (hkd : 4 ≤ kd) (hv : sh[v]? = some (.inl ci)) (hcl : cl[ci]? = some (C, T, N)) (htys : tys[kd]? = some (cT kd, .object C)) (hlt : tg.length < n) (hn : n ≤ 100000) (hd : decode cc pc = .ok (.aastore, 1)) (k : ys_N p l e R s m args below meth c Q D cl cT A H0 nL mods g0 r0 E n0 ad0 kc kz (sh.set k0 (.inr (kd, n, tg ++ [v]))) (pc + 1) (b, fds, lv, sv)) : ys_N p l e R s m args below meth c Q D cl cT A H0 nL mods g0 r0 E n0 ad0 kc kz sh pc (b, fds, lv, .inr (some v) :: .inl (.inl ([], (tg.length : Int))) :: .inr (some k0) :: sv) := by
  intro ad had0 r H locs ls st h0
  obtain ⟨st1, e1, h1, -⟩ := ys_rep_pop h0
  obtain ⟨st2, e2, h2, -⟩ := ys_rep_pop h1
  obtain ⟨st3, e3, h3, -⟩ := ys_rep_pop h2
  subst e1; subst e2; subst e3
  obtain ⟨q1, ⟨s0, s1, s2, s3⟩, q2, ⟨g, hg, hP, hD, hS⟩, q4, q5⟩ := h3
  have ev : ys_ev r (([], (tg.length : Int)) : ys_L) = (tg.length : Int) := Int.zero_add _
  have et : (Int32.ofInt (tg.length : Int)).toInt = (tg.length : Int) := Int32.toInt_ofInt_of_le (by omega) (by omega)
  have e2 : ys_den ad r (.inl (.inl ([], (tg.length : Int)))) = .int (Int32.ofInt (tg.length : Int)) := by
    show Value.int (Int32.ofInt (ys_ev r _)) = _
    rw [ev]
  rw [e2]
  have hw := ys_wld_get (ad := ad) (cT := cT) (r := r) (g := g) (fds := fds.1) hk
  have hcon : ∀ t : List Nat, ys_con ad (g k0) (kd, n, t) = (n, .inr (.inr (.inr (.inr fun j => (t[j]?).map ad)))) := by
    intro t
    unfold ys_con
    rw [if_neg (by show ¬ kd = 1; omega), if_pos (by show 4 ≤ kd; exact hkd)]
  have hw2 : (ys_wld ad cT sh r g fds.1)[k0]? = some (ad k0, .inl (cT kd, n, .inr (.inr (.inr (.inr fun j => (tg[j]?).map ad))))) := by
    rw [hw]
    show some (ad k0, Sum.inl (cT kd, ys_con ad (g k0) (kd, n, tg))) = _
    rw [hcon]
  have hwv := ys_wld_get (ad := ad) (cT := cT) (r := r) (g := g) (fds := fds.1) hv
  have en : (Int32.ofInt (tg.length : Int)).toNatClampNeg = tg.length := by
    show (Int32.ofInt (tg.length : Int)).toInt.toNat = _
    rw [et]
    rfl
  refine va_astq (r := (C, T, N)) (v := ad v) hexec hb hK hP hD hS k0 kd v ci hw2 htys hwv hcl (by rw [vp_in_iff, et]; omega) hd fun H1 locs1 hP1 hD1 hS1 => ?_
  have ef : (fun j : Nat => ((tg ++ [v])[j]?).map ad) = va_up (fun j : Nat => (tg[j]?).map ad) tg.length (some (ad v)) := by
    funext j
    unfold va_up
    by_cases hj : j = tg.length
    · subst hj
      rw [if_pos rfl, List.getElem?_append_right (Nat.le_refl _), Nat.sub_self]
      rfl
    · rw [if_neg hj]
      show ((tg ++ [v])[j]?).map ad = (tg[j]?).map ad
      by_cases hl : j < tg.length
      · rw [List.getElem?_append_left hl]
      · rw [List.getElem?_eq_none (by rw [List.length_append]; simp; omega), List.getElem?_eq_none (by omega)]
  rw [en] at hP1 hD1
  have ew := ys_wld_sh (cT := cT) (ad := ad) (r := r) (g := g) (F := fds.1) (x := .inr (kd, n, tg ++ [v])) (List.getElem?_eq_some_iff.mp hk).1
  have ec : ys_cel ad cT r g k0 (.inr (kd, n, tg ++ [v])) (fds.1.getD k0 []) = (ad k0, .inl (cT kd, n, .inr (.inr (.inr (.inr (va_up (fun j : Nat => (tg[j]?).map ad) tg.length (some (ad v)))))))) := by
    show (ad k0, Sum.inl (cT kd, ys_con ad (g k0) (kd, n, tg ++ [v]))) = _
    rw [hcon, ef]
  rw [ec] at ew
  refine k ad had0 r H1 locs1 ls _ ⟨q1, ⟨s0, s1, s2, s3⟩, q2, ⟨g, hg, ?_, ?_, hS1⟩, q4, q5⟩
  · show va_P D cl (ys_wld ad cT (sh.set k0 (.inr (kd, n, tg ++ [v]))) r g fds.1) H1
    rw [ew]
    exact hP1
  · show va_D A (ys_wld ad cT (sh.set k0 (.inr (kd, n, tg ++ [v]))) r g fds.1)
    rw [ew]
    exact hD1
/-- a reference into a field that is written once -/
def ys_Ff (own : String) (Ts : List Cond) (cl : List vw_C) (idx ci j : Nat) : Prop := ∃ (C : String) (T : u_T) (N : Nat) (ty0 : Nat → FieldType), cl[ci]? = some (C, T, N) ∧ j < N ∧ (∀ w ∈ u_ws C T N, w ∈ Ts) ∧ (∀ k, k < N → parseFieldDescriptor (T k).2.2.1 = some (ty0 k)) ∧ (∀ a, a < N → ∀ b, b < N → a ≠ b → (T a).2.1 ≠ (T b).2.1) ∧ Cond.fieldLink own idx C (T j).2.1 (T j).2.2.1 ∈ Ts ∧ (T j).1 = C ∧ C = own ∧ (T j).2.2.2 = true ∧ ys_dv (ty0 j) = .inr none
theorem ys_kputF {idx ci j v k0 : Nat} (hexec : p.tables.exec = Jvm.exec) (hb : c.code = cc) (hts : ∀ w ∈ Ts, w.before args s = true) (hown : s.vm.findClass own = some m.cls) (hK : va_K D cl tys s) (hin : meth.name = "<init>") (hff : ys_Ff own Ts cl idx ci j) (hsh : sh[k0]? = some (.inl ci)) (hjl : j < (fds.1.getD k0 []).length) (hd : decode cc pc = .ok (.putfield idx, 3)) (k : ys_N p l e R s m args below meth c Q D cl cT A H0 nL mods g0 r0 E n0 ad0 kc kz sh (pc + 3) (b, (ys_fset fds.1 k0 j (.inr (some v)), fds.2), lv, sv)) : ys_N p l e R s m args below meth c Q D cl cT A H0 nL mods g0 r0 E n0 ad0 kc kz sh pc (b, fds, lv, .inr (some v) :: .inr (some k0) :: sv) := by
  intro ad had0 r H locs ls st h0
  obtain ⟨C, T, N, ty0, h1, h2, h3, h4, h5, h6, h7, h8, h9, h10⟩ := hff
  obtain ⟨st1, e1, g1, hv⟩ := ys_rep_pop h0
  obtain ⟨st2, e2, g2, -⟩ := ys_rep_pop g1
  subst e1; subst e2
  obtain ⟨q1, ⟨s0, s1, s2, s3⟩, q2, ⟨g, hg, hP, hD, hS⟩, q4, q5⟩ := g2
  have hw := ys_wld_get (ad := ad) (cT := cT) (r := r) (g := g) (fds := fds.1) hsh
  have hnf : narrow (ty0 j) (.ref (ad v)) = .ref (ad v) ∧ fits (ty0 j) (.ref (ad v)) = true := by
    generalize ty0 j = tt at h10
    cases tt <;> first | exact ⟨rfl, rfl⟩ | cases h10
  refine va_putF (v := .ref (ad v)) (ty := ty0 j) hexec hb hts h3 ty0 h4 h5 hown hK hP hD hS k0 hw h1 j h2 (hts _ h6) (fun _ hq => h7 ▸ hq) h9 hin (h7.trans h8) (h4 j h2) hnf.1 hnf.2 (by rw [List.length_map]; exact hjl) hd fun H1 locs1 hP1 hD1 hS1 => ?_
  have ew := ys_wld_set (ad := ad) (cT := cT) (r := r) (g := g) (g' := g) (fds := fds.1) (fds' := ys_fset fds.1 k0 j (.inr (some v))) hsh (fun i hi => ⟨rfl, ys_fset_get hi⟩)
  have ec : ys_cel ad cT r g k0 (.inl ci) ((ys_fset fds.1 k0 j (.inr (some v))).getD k0 []) = (ad k0, .inr (ci, ((fds.1.getD k0 []).map (ys_den ad r)).set j (.ref (ad v)))) := by
    rw [ys_fset_self hjl]
    show (ad k0, Sum.inr (ci, ((fds.1.getD k0 []).set j (.inr (some v))).map (ys_den ad r))) = _
    rw [List.map_set]
    rfl
  rw [ec] at ew
  refine k ad had0 r H1 locs1 ls _ ⟨q1, ⟨s0, ys_fset_mem s1 trivial, s2, s3⟩, q2, ⟨g, hg, ?_, ?_, hS1⟩, q4, q5⟩
  · show va_P D cl (ys_wld ad cT sh r g (ys_fset fds.1 k0 j (.inr (some v)))) H1
    rw [ew]
    exact hP1
  · show va_D A (ys_wld ad cT sh r g (ys_fset fds.1 k0 j (.inr (some v))))
    rw [ew]
    exact hD1
/-- the beginning of every object -/
theorem ys_kobj {idx k0 : Nat} (hexec : p.tables.exec = Jvm.exec) (hb : c.code = cc) (hml : c.maxLocals = nL) (hts : ∀ w ∈ Ts, w.before args s = true) (hown : s.vm.findClass own = some m.cls) (w1 : Cond.methodLink own idx objectInit ∈ Ts) (w2 : Cond.instanceMethod objectInit ∈ Ts) (w3 : Cond.code objectInit ⟨#[0xb1]⟩ 1 none ∈ Ts) (hfr : 1 ≤ R.frames) (hlo : (sv.map ys_cat).sum + 12 ≤ R.locals) (hd : decode cc pc = .ok (.invokespecial idx, 3)) (k : ys_N p l e R s m args below meth c Q D cl cT A H0 nL mods g0 r0 E n0 ad0 kc kz sh (pc + 3) (b, fds, lv, sv)) : ys_N p l e R s m args below meth c Q D cl cT A H0 nL mods g0 r0 E n0 ad0 kc kz sh pc (b, fds, lv, .inr (some k0) :: sv) := by
  intro ad had0 r H locs ls st h0
  obtain ⟨st1, e1, h, -⟩ := ys_rep_pop h0
  subst e1
  refine W.objInit hexec hb hown (hts _ w1) (hts _ w2) (hts _ w3) rfl (h.2.2.2.2.1.1.trans hml.symm) rfl hd hfr ?_ (k ad had0 r H locs ls st1 h)
  show 2 * 0 + (st1.map fun v => v.category).sum + 12 ≤ R.locals
  rw [h.2.2.2.2.2, ys_cats]
  show 2 * 0 + (sv.map ys_cat).sum + 12 ≤ R.locals
  omega
end YSX
end
section
/-! constructors by the worlds ahead of them and behind them -/
abbrev ys_KN : Type := (MethodName × ByteArray × Nat) × (Nat × Nat × Nat × Nat) × Nat × (List ys_C × ys_F) × (List ys_C × ys_F)
def ys_rmN (K : ys_KN) : Room := { frames := K.2.1.1, cells := K.2.1.2.2.1, slots := K.2.1.2.2.2, locals := K.2.1.2.1 }
def ys_wsN (G : List Cond) (K : ys_KN) : List Cond := Cond.code K.1.1 K.1.2.1 K.1.2.2 none :: G
abbrev ys_NN : Type := List (String × Nat × MethodName × String)
def ys_NW (NN : ys_NN) (AA : List String) (U : State) : Prop := (∀ q ∈ NN, va_Nw (.methodLinkNest q.1 q.2.1 q.2.2.1 q.2.2.2) U) ∧ ∀ C ∈ AA, va_AO C U
theorem ys_NW_warm {NN : ys_NN} {AA : List String} {s U : State} (hW : s.WarmedH U.vm) (h : ys_NW NN AA s) : ys_NW NN AA U := ⟨fun q hq => va_Nw.warmM hW (h.1 q hq), fun C hC => va_AO.moved hW.alike (h.2 C hC)⟩
def ys_z0 (F : List (List ys_V)) : Bool := F.all (fun w => w.all (ys_bV 0))
theorem ys_z0_st {F : List (List ys_V)} (h : ys_z0 F = true) (n : Nat) : ∀ w ∈ F, ∀ v ∈ w, ys_stV n v := fun w hw v hv => ys_stV_mono (ys_bV_ok (List.all_eq_true.mp (List.all_eq_true.mp h w hw) v hv)) (Nat.zero_le _)
theorem ys_wld0 {ad : Nat → Nat} {cT : Nat → ClassId} {sh : List ys_C} {g : Nat → Nat → Int} {F : List (List ys_V)} (h : ys_z0 F = true) (r r' : Nat → Int) : ys_wld ad cT sh r g F = ys_wld ad cT sh r' g F := by
  refine ys_wld_eq fun kk => ?_
  rw [List.getD_eq_getElem?_getD]
  cases hc : F[kk]? with
  | none => rfl
  | some w => exact List.map_congr_left fun v hv => ys_den_cong (fun i hi => absurd hi (Nat.not_lt_zero i)) (ys_z0_st h 0 w (List.mem_of_getElem? hc) v hv)
section YNK
variable (l : Launch) (D : va_G) (cl : List vw_C) (cT : Nat → ClassId) (tys : List (ClassId × FieldType)) (G : List Cond) (NN : ys_NN) (AA : List String)
def ys_wI (cT : Nat → ClassId) (K : ys_KN) (ad : Nat → Nat) (g : Nat → Nat → Int) : va_W := ys_wld ad cT K.2.2.2.1.1 (fun _ => 0) g K.2.2.2.1.2.1
def ys_PreN (K : ys_KN) (ad : Nat → Nat) (g0 : Nat → Nat → Int) (sz : Nat) : Array Value → State → Prop := va_Pc [.ref (ad K.2.2.1)] (fun U => U.heap.size = sz ∧ va_P D cl (ys_wI cT K ad g0) U.heap ∧ va_K D cl tys U ∧ va_D (fun _ => True) (ys_wI cT K ad g0) ∧ ys_NW NN AA U)
def ys_PostN (K : ys_KN) (ad : Nat → Nat) (g0 : Nat → Nat → Int) (sz : Nat) : Array Value → State → Outcome → State → Prop := fun _ st oc t => (oc = .returned none ∧ ∃ (ad' : Nat → Nat) (g1 : Nat → Nat → Int), (∀ i, i < K.2.2.2.1.1.length → ad' i = ad i) ∧ (∀ (k : Nat) (a : ys_R), K.2.2.2.2.2.2[k]? = some a → ys_rok a (g1 k)) ∧ (∀ k, K.2.2.2.2.1.length ≤ k → g1 k = g0 k) ∧ va_P D cl (ys_wld ad' cT K.2.2.2.2.1 (fun _ => 0) g1 K.2.2.2.2.2.1) t.heap ∧ va_D (va_A (ys_wI cT K ad g0) sz) (ys_wld ad' cT K.2.2.2.2.1 (fun _ => 0) g1 K.2.2.2.2.2.1)) ∧ va_F (va_A (ys_wI cT K ad g0) sz) st t
def ys_ConN (K : ys_KN) : Prop := ∀ (ad : Nat → Nat) (g0 : Nat → Nat → Int) (sz : Nat), (∀ (k : Nat) (a : ys_R), K.2.2.2.1.2.2[k]? = some a → ys_rok a (g0 k)) → Met l K.1.1 (ys_wsN G K) (ys_rmN K) (ys_PreN D cl cT tys NN AA K ad g0 sz) (ys_PostN D cl cT K ad g0 sz) K.2.1.2.2.1 K.2.1.2.2.2 (va_A (ys_wI cT K ad g0) sz)
def ys_CLN (own : String) (Ts : List Cond) (idx : Nat) (K : ys_KN) (prv : Option String) : Prop := GoodIn Ts (ys_wsN G K) ∧ Cond.initialized K.1.1.cls ∈ Ts ∧ Cond.instanceMethod K.1.1 ∈ Ts ∧ K.1.1.name = "<init>" ∧ (K.1.1.cls ≠ "java/lang/invoke/MethodHandle" ∧ K.1.1.cls ≠ "java/lang/invoke/VarHandle" ∧ (parseMethodDescriptor K.1.1.desc).map (fun d => d.parameters.length) = some 0) ∧ (match prv with
  | some h => (own, idx, K.1.1, h) ∈ NN
  | none => Cond.methodLink own idx K.1.1 ∈ Ts)
end YNK
section YNX
variable {p : Program} {l : Launch} {e : Env} {R : Room} {s : State} {m : MethodId} {args : Array Value} {below : List Frame} {meth : Method} {c : Code} {Q : State → Prop} {kc kz : Nat} {D : va_G} {cl : List vw_C} {cT : Nat → ClassId} {sh : List ys_C} {A : Nat → Prop} {H0 : Heap} {nL : Nat} {mods : List Nat} {g0 : Nat → Nat → Int} {r0 : Nat → Int} {E : Nat} {pc : Nat} {b : ys_B} {fds : ys_F} {lv : List (Nat × ys_V)} {sv : List ys_V} {cc : ByteArray} {own : String} {Ts : List Cond} {tys : List (ClassId × FieldType)}
variable {n0 : Nat} {ad0 : Nat → Nat} {G : List Cond} {NN : ys_NN} {AA : List String} {K : ys_KN}
theorem ys_blindN {ad : Nat → Nat} {g : Nat → Nat → Int} {sz : Nat} : FrameBlind (ys_PreN D cl cT tys NN AA K ad g sz) := fun a U g mk q => by
  obtain ⟨q0, q1, qP, qK, qD, qN⟩ := q
  exact ⟨q0, q1, qP, va_K.moved (u := U) (U := U.calling g mk a) (Vm.Alike.refl U.vm) qK, qD, fun x hx => va_Nw.same (u := U) (U := U.calling g mk a) rfl rfl (qN.1 x hx), fun C hC => va_AO.moved (u := U) (U := U.calling g mk a) (Vm.Alike.refl U.vm) (qN.2 C hC)⟩
theorem ys_kini {idx : Nat} {prv : Option String} (S : CallFix p m c cc nL s args Ts own) (hK : va_K D cl tys s) (hNW : ys_NW NN AA s) (hA0 : ∀ q, H0.size ≤ q → A q) (hcon : ys_ConN l D cl cT tys G NN AA K) (hCL : ys_CLN G NN own Ts idx K prv) (hn0 : n0 ≤ K.2.2.2.1.1.length) (hmods : ∀ k, k < K.2.2.2.2.1.length → k ∈ mods) (hz1 : ys_z0 K.2.2.2.1.2.1 = true) (hz2 : ys_z0 K.2.2.2.2.2.1 = true) (hlv : lv.all (fun q => ys_rfV K.2.2.2.1.1.length q.2) = true) (hsv : sv.all (ys_rfV K.2.2.2.1.1.length) = true) (hcat : (sv.map ys_cat).sum ≤ 8) (hR : K.2.1.1 + 1 ≤ R.frames ∧ 8 + (K.1.2.2 + 11) + K.2.1.2.1 ≤ R.locals) (hf : kc + K.2.1.2.2.1 ≤ R.cells ∧ kz + K.2.1.2.2.2 ≤ R.slots) (hd : decode cc pc = .ok (.invokespecial idx, 3))
    (k : ys_N p l e R s m args below meth c Q D cl cT A H0 nL mods g0 r0 E n0 ad0 (kc + K.2.1.2.2.1) (kz + K.2.1.2.2.2) K.2.2.2.2.1 (pc + 3) (b, K.2.2.2.2.2, lv, sv)) : ys_N p l e R s m args below meth c Q D cl cT A H0 nL mods g0 r0 E n0 ad0 kc kz K.2.2.2.1.1 pc (b, K.2.2.2.1.2, lv, .inr (some K.2.2.1) :: sv) := by
  intro ad had0 r H locs ls st h0
  obtain ⟨st1, e1, h, -⟩ := ys_rep_pop h0
  subst e1
  obtain ⟨g, hg, hP, hD, hS⟩ := h.2.2.2.1
  have ew : ys_wld ad cT K.2.2.2.1.1 r g K.2.2.2.1.2.1 = ys_wI cT K ad g := ys_wld0 hz1 r (fun _ => 0)
  have hP : va_P D cl (ys_wI cT K ad g) H := ew ▸ hP
  have hD : va_D A (ys_wI cT K ad g) := ew ▸ hD
  have hM := hcon ad g H.size hg.1
  have hF : ∀ q, va_A (ys_wI cT K ad g) H.size q → A q := by
    intro q hq
    rcases hq with ⟨kk, x, hx⟩ | hq
    · exact hD.2 kk (q, x) hx
    · exact hA0 q (Nat.le_trans hS.1 hq)
  have hpre : ∀ U : State, U.heap = H → s.WarmedH U.vm → ys_PreN D cl cT tys NN AA K ad g H.size (Value.ref (ad K.2.2.1) :: []).toArray U := fun U hU hW => ⟨rfl, by rw [hU], by rw [hU]; exact hP, va_K.moved hW.alike hK, hD.weaken (fun _ _ _ _ => trivial), ys_NW_warm hW hNW⟩
  have ts := S.2.2.2.2
  have hrest : 2 * (F0 m pc ls (Value.ref (ad K.2.2.1) :: st1)).monitorRoom + (st1.map fun v => v.category).sum ≤ 8 := lv_room (rest := Value.ref (ad K.2.2.1) :: st1) (by rw [h.2.2.2.2.2, ys_cats]; exact hcat)
  have hgo : va_Run p l e R s m args below meth c H locs kc kz K.2.1.2.2.1 K.2.1.2.2.2 (F0 m pc ls (Value.ref (ad K.2.2.1) :: st1)) st1 (ys_PostN D cl cT K ad g H.size (Value.ref (ad K.2.2.1) :: []).toArray) (va_A (ys_wI cT K ad g) H.size) := by
    obtain ⟨l1, l2, l3, l4, l5, l6⟩ := hCL
    cases prv with
    | some host => exact va_runIN (host := host) (b := ad K.2.2.1) (As := []) S hM ⟨va_cnB 0 ts l1 rfl rfl rfl (hNW.1 _ l6) (ts _ l2) l5 hR, l4, ts _ l3⟩ ⟨ys_blindN, hpre⟩ rfl rfl h.2.2.2.2.1.1 rfl hrest hd hf
    | none => exact va_runI (b := ad K.2.2.1) (As := []) S hM (cwI 0 ts l1 rfl rfl rfl (ts _ l2) (ts _ l6) (ts _ l3) l4 l5 hR) ⟨ys_blindN, hpre⟩ rfl rfl h.2.2.2.2.1.1 rfl hrest hd hf
  intro T hT X
  obtain ⟨v, st₀, t1, T', L, h0', X', hL, f1, f2, ⟨⟨eo, ad', g1, p1, p2, p3, p4, p5⟩, hz, hk⟩, stp⟩ := hgo T hT X
  rw [h0'] at hz hk
  have ev : v = none := by
    cases eo
    rfl
  subst ev
  obtain ⟨q1, ⟨s0, s1, s2, s3⟩, q2, -, q4, q5⟩ := h
  have e4 : ys_lvs ad' r lv = ys_lvs ad r lv := List.map_congr_left fun q hq => by rw [ys_den_ad p1 r (List.all_eq_true.mp hlv q hq)]
  have hrep : ys_rep D cl ad' cT K.2.2.2.2.1 A H0 nL mods g0 r0 r E (b, K.2.2.2.2.2, lv, sv) T'.heap (locs ++ L) ls st1 := by
    refine ⟨q1, ⟨s0, ys_z0_st hz2 _, s2, s3⟩, q2, ⟨g1, ⟨p2, fun kk hk' => ?_⟩, ?_, ?_, ⟨Nat.le_trans hS.1 (by rw [f1]; exact hz), fun q h1 h2 => by rw [f1, hk q (Nat.lt_of_lt_of_le h1 hS.1) (fun z => h2 (hF q z))]; exact hS.2.1 q h1 h2, fun q hq => by
          rcases List.mem_append.mp hq with g1 | g1
          · exact hS.2.2 q g1
          · exact hF _ (hL q g1)⟩⟩, ?_, ?_⟩
    · rw [p3 kk (Nat.le_of_not_lt fun hlt => hk' (hmods kk hlt))]
      exact hg.2 kk hk'
    · show va_P D cl (ys_wld ad' cT K.2.2.2.2.1 r g1 K.2.2.2.2.2.1) T'.heap
      rw [ys_wld0 hz2 r (fun _ => 0), f1]
      exact p4
    · show va_D A (ys_wld ad' cT K.2.2.2.2.1 r g1 K.2.2.2.2.2.1)
      rw [ys_wld0 hz2 r (fun _ => 0)]
      exact p5.weaken (fun _ q _ hq => hF q.1 hq)
    · show lv_has ls nL (ys_lvs ad' r lv)
      rw [e4]
      exact q4
    · rw [q5]
      exact (List.map_congr_left fun v hv => ys_den_ad p1 r (List.all_eq_true.mp hsv v hv)).symm
  obtain ⟨t2, a1, b1⟩ := k ad' (fun i hi => (p1 i (Nat.lt_of_lt_of_le hi hn0)).trans (had0 i hi)) r T'.heap (locs ++ L) ls st1 hrep T' rfl X'
  exact ⟨t2, stp t2 a1, b1⟩
end YNX
end
section
/-! a straight run over a growing world -/
def ys_all2 {α : Type} (f : α → α → Bool) : List α → List α → Bool
  | [], [] => true
  | a :: t, b :: u => f a b && ys_all2 f t u
  | _, _ => false
theorem ys_all2_ok {α : Type} {f : α → α → Bool} (h : ∀ a b, f a b = true → a = b) : ∀ x y : List α, ys_all2 f x y = true → x = y
  | [], [], _ => rfl
  | a :: t, b :: u, hc => by
    unfold ys_all2 at hc
    rw [Bool.and_eq_true] at hc
    rw [h a b hc.1, ys_all2_ok h t u hc.2]
  | [], _ :: _, hc => by cases hc
  | _ :: _, [], hc => by cases hc
def ys_vE (a b : ys_V) : Bool := decide (a = b)
def ys_FE (a b : ys_F) : Bool := ys_all2 (ys_all2 ys_vE) a.1 b.1 && decide (a.2 = b.2)
theorem ys_FE_ok {a b : ys_F} (h : ys_FE a b = true) : a = b := by
  unfold ys_FE at h
  rw [Bool.and_eq_true] at h
  have h1 := ys_all2_ok (fun x y hxy => ys_all2_ok (fun _ _ z => of_decide_eq_true z) x y hxy) a.1 b.1 h.1
  have h2 := of_decide_eq_true h.2
  exact Prod.ext h1 h2
def ys_lE (a b : Nat × ys_V) : Bool := decide (a.1 = b.1) && ys_vE a.2 b.2
theorem ys_lE_ok (a b : Nat × ys_V) (h : ys_lE a b = true) : a = b := by
  unfold ys_lE at h
  rw [Bool.and_eq_true] at h
  exact Prod.ext (of_decide_eq_true h.1) (of_decide_eq_true h.2)
def ys_atk (a : ArrayType) : Nat := match a with
  | .int => 0
  | .long => 1
  | .byte => 2
  | .boolean => 3
  | _ => 9
abbrev ys_Y : Type := Nat × Nat × List ys_C × Nat × ys_F × List (Nat × ys_V) × List ys_V
abbrev ys_X : Type := (ys_FL × List (Nat × Int) × List (Nat × Int) × List Nat) × (List (Nat × (Nat × Nat)) × List (Nat × (Nat × List ys_V)) × List (Nat × Nat) × List ArrayType) × (List (Nat × Nat) × List Nat × List (Nat × (ys_KN × Option String)))
def ys_shk (n : Nat) (sh : List ys_C) : Bool := sh.all (fun x => match x with
  | .inr a => decide (a.1 < n)
  | .inl _ => true)
/-- the frame of numbers: name, code, places, frames, places below, how many cells there may be -/
def ys_K0 (y : MethodName) (cc : ByteArray) (nL fr lo N : Nat) : ys_K := (((y, cc, nL, none), (fr, lo)), ([], ([], []), ([], [])), ([], List.range N))
def ys_icm (fr lo RC RS N kc kz : Nat) (sh : List ys_C) (fds : ys_F) (lv : List (Nat × ys_V)) (k0 : Nat) (sv : List ys_V) (idx : Nat) : List (Nat × (ys_KN × Option String)) → Option ys_KN
  | [] => none
  | q :: t => if q.1 = idx ∧ k0 = q.2.1.2.2.1 ∧ sh = q.2.1.2.2.2.1.1 ∧ ys_FE fds q.2.1.2.2.2.1.2 = true ∧ ys_z0 q.2.1.2.2.2.1.2.1 = true ∧ ys_z0 q.2.1.2.2.2.2.2.1 = true ∧ lv.all (fun q => ys_rfV sh.length q.2) = true ∧ sv.all (ys_rfV sh.length) = true ∧ (sv.map ys_cat).sum ≤ 8 ∧ q.2.1.2.1.1 + 1 ≤ fr ∧ 8 + (q.2.1.1.2.2 + 11) + q.2.1.2.1.2.1 ≤ lo ∧ kc + q.2.1.2.1.2.2.1 ≤ RC ∧ kz + q.2.1.2.1.2.2.2 ≤ RS ∧ q.2.1.2.2.2.2.1.length ≤ N then some q.2.1 else ys_icm fr lo RC RS N kc kz sh fds lv k0 sv idx t
def ys_YE (a b : ys_Y) : Bool := decide (a.1 = b.1) && (decide (a.2.1 = b.2.1) && (decide (a.2.2.1 = b.2.2.1) && (decide (a.2.2.2.1 = b.2.2.2.1) && (ys_FE a.2.2.2.2.1 b.2.2.2.2.1 && (ys_all2 ys_lE a.2.2.2.2.2.1 b.2.2.2.2.2.1 && ys_all2 ys_vE a.2.2.2.2.2.2 b.2.2.2.2.2.2)))))
theorem ys_YE_ok {a b : ys_Y} (h : ys_YE a b = true) : a = b := by
  unfold ys_YE at h
  simp only [Bool.and_eq_true, decide_eq_true_eq] at h
  obtain ⟨h1, h2, h3, h4, h5, h6, h7⟩ := h
  exact Prod.ext h1 (Prod.ext h2 (Prod.ext h3 (Prod.ext h4 (Prod.ext (ys_FE_ok h5) (Prod.ext (ys_all2_ok ys_lE_ok _ _ h6) (ys_all2_ok (fun _ _ z => of_decide_eq_true z) _ _ h7))))))
def ys_stN (X : ys_X) (y : MethodName) (cc : ByteArray) (nL fr lo RC RS N nt : Nat) (nx : Nat → Option (Instr × Nat)) (Y : ys_Y) (i : Instr) (len : Nat) : Option ys_Y := match Y with
  | (kc, kz, sh, pc, fds, lv, sv) => match i with
    | .new idx => (match X.2.1.2.1.lookup idx with
      | some (ci, row) => if len = 3 ∧ ys_rfS sh (([], []), fds, lv, sv) = true ∧ sh.length < N ∧ kc + 1 ≤ RC ∧ kz + row.length ≤ RS then some (kc + 1, kz + row.length, sh ++ [.inl ci], pc + 3, (fds.1 ++ [row], fds.2 ++ [((0, 0), [])]), lv, .inr (some sh.length) :: sv) else none
      | none => none)
    | .newarray a => (match sv with
      | .inl (.inl ([], z)) :: t => if len = 2 ∧ 0 ≤ z ∧ z.toNat ≤ 100000 ∧ X.2.1.2.2.2.any (fun x => decide (x = a)) = true ∧ ys_atk a < 4 ∧ ys_rfS sh (([], []), fds, lv, .inl (.inl ([], ((z.toNat : Nat) : Int))) :: t) = true ∧ sh.length < N ∧ kc + 1 ≤ RC ∧ kz + z.toNat ≤ RS then some (kc + 1, kz + z.toNat, sh ++ [.inr (ys_atk a, z.toNat, [])], pc + 2, (fds.1 ++ [[]], fds.2 ++ [((0, 0), [])]), lv, .inr (some sh.length) :: t) else none
      | _ => none)
    | .anewarray idx => (match sv, X.2.1.2.2.1.lookup idx with
      | .inl (.inl ([], z)) :: t, some kd => if len = 3 ∧ 0 ≤ z ∧ z.toNat ≤ 100000 ∧ ys_rfS sh (([], []), fds, lv, .inl (.inl ([], ((z.toNat : Nat) : Int))) :: t) = true ∧ sh.length < N ∧ kc + 1 ≤ RC ∧ kz + z.toNat ≤ RS then some (kc + 1, kz + z.toNat, sh ++ [.inr (kd, z.toNat, [])], pc + 3, (fds.1 ++ [[]], fds.2 ++ [((0, 0), [])]), lv, .inr (some sh.length) :: t) else none
      | _, _ => none)
    | .aastore => (match sv with
      | .inr (some v) :: .inl (.inl ([], z)) :: .inr (some k0) :: t => (match sh[k0]?, sh[v]? with
        | some (.inr (kd, n, tg)), some (.inl ci) => if len = 1 ∧ z = ((tg.length : Nat) : Int) ∧ tg.length < n ∧ n ≤ 100000 ∧ X.2.2.1.contains (kd, ci) = true then some (kc, kz, sh.set k0 (.inr (kd, n, tg ++ [v])), pc + 1, fds, lv, t) else none
        | _, _ => none)
      | _ => none)
    | .invokespecial idx => (match sv with
      | .inr (some k0) :: t => if X.2.2.2.1.contains idx = true then (if len = 3 ∧ 1 ≤ fr ∧ (t.map ys_cat).sum + 12 ≤ lo then some (kc, kz, sh, pc + 3, fds, lv, t) else none) else (match ys_icm fr lo RC RS N kc kz sh fds lv k0 t idx X.2.2.2.2 with
        | some K => if len = 3 then some (kc + K.2.1.2.2.1, kz + K.2.1.2.2.2, K.2.2.2.2.1, pc + 3, K.2.2.2.2.2, lv, t) else none
        | none => none)
      | _ => none)
    | .putfield idx => (match X.2.1.1.lookup idx, sv with
      | some (ci, j), .inr (some v) :: .inr (some k0) :: t => if len = 3 ∧ sh[k0]? = some (.inl ci) ∧ j < (fds.1.getD k0 []).length then some (kc, kz, sh, pc + 3, (ys_fset fds.1 k0 j (.inr (some v)), fds.2), lv, t) else none
      | some _, _ => none
      | none, _ => (match ys_stp sh X.1.1 X.1.2.1 X.1.2.2.1 [] X.1.2.2.2 (ys_K0 y cc nL fr lo N) nx pc ([], []) fds lv sv (.putfield idx) len with
        | some [q] => if q.2.1 = ([], []) ∧ kc ≤ RC ∧ kz ≤ RS ∧ ys_shk nt sh = true then some (kc, kz, sh, q.1, q.2.2.1, q.2.2.2.1, q.2.2.2.2) else none
        | _ => none))
    | i => if ys_isr i = true then none else (match ys_stp sh X.1.1 X.1.2.1 X.1.2.2.1 [] X.1.2.2.2 (ys_K0 y cc nL fr lo N) nx pc ([], []) fds lv sv i len with
        | some [q] => if q.2.1 = ([], []) ∧ kc ≤ RC ∧ kz ≤ RS ∧ ys_shk nt sh = true then some (kc, kz, sh, q.1, q.2.2.1, q.2.2.2.1, q.2.2.2.2) else none
        | _ => none)
def ys_runN (X : ys_X) (y : MethodName) (cc : ByteArray) (nL fr lo RC RS N nt n0 : Nat) (nx : Nat → Option (Instr × Nat)) (Tg : ys_Y) : Nat → ys_Y → Bool
  | 0, _ => false
  | f + 1, Y => if Y.2.2.2.1 = Tg.2.2.2.1 then ys_YE Y Tg else (match nx Y.2.2.2.1 with
    | some (i, len) => decide (n0 ≤ Y.2.2.1.length) && (match ys_stN X y cc nL fr lo RC RS N nt nx Y i len with
      | some Y' => ys_runN X y cc nL fr lo RC RS N nt n0 nx Tg f Y'
      | none => false)
    | none => false)
/-- the kinds of arrays -/
def ys_TL (tyl : List FieldType) (tys : List (ClassId × FieldType)) (cT : Nat → ClassId) : Prop := (∀ (kd : Nat) (t : FieldType), tyl[kd]? = some t → tys[kd]? = some (cT kd, t)) ∧ tyl[0]? = some .int ∧ tyl[1]? = some .long ∧ tyl[2]? = some .byte ∧ tyl[3]? = some .boolean ∧ ∀ kd, 4 ≤ kd → kd < tyl.length → ∃ C, tyl[kd]? = some (.object C)
theorem ys_TL_ty {tyl : List FieldType} {tys : List (ClassId × FieldType)} {cT : Nat → ClassId} {sh : List ys_C} (h : ys_TL tyl tys cT) (hs : ys_shk tyl.length sh = true) : ys_Ty tys cT sh := by
  obtain ⟨h1, a0, a1, a2, a3, h2⟩ := h
  have key : ∀ (k : Nat) (y : Nat × Nat × List Nat), sh[k]? = some (.inr y) → y.1 < tyl.length := fun k y hy => of_decide_eq_true (List.all_eq_true.mp hs _ (List.mem_of_getElem? hy))
  refine ⟨h1 _ _ a0, h1 _ _ a1, h1 _ _ a2, h1 _ _ a3, fun k y hy => ⟨tyl[y.1]'(key k y hy), h1 _ _ (List.getElem?_eq_getElem _)⟩, fun k y hy h4 => ?_⟩
  obtain ⟨C, hC⟩ := h2 y.1 h4 (key k y hy)
  exact ⟨C, h1 _ _ hC⟩
section YNR
variable (l : Launch) (D : va_G) (cl : List vw_C) (cT : Nat → ClassId) (tys : List (ClassId × FieldType)) (G : List Cond) (NN : ys_NN) (AA : List String)
def ys_LN (tyl : List FieldType) (own : String) (Ts : List Cond) (X : ys_X) : Prop := ys_Lk own Ts cl X.1.1 X.1.2.1 X.1.2.2.1 X.1.2.2.2 ∧ (∀ q ∈ X.2.1.1, ys_Ff own Ts cl q.1 q.2.1 q.2.2) ∧ (∀ q ∈ X.2.1.2.1, ys_Nl own Ts cl q.1 q.2.1 q.2.2) ∧ (∀ q ∈ X.2.1.2.2.1, 4 ≤ q.2 ∧ ∃ C, tyl[q.2]? = some (.object C) ∧ Cond.classLink own q.1 C ∈ Ts ∧ C ∈ AA) ∧ (∀ a ∈ X.2.1.2.2.2, Cond.arrayClass (newarray.typeOf a) ∈ Ts) ∧ (∀ q ∈ X.2.2.1, 4 ≤ q.1 ∧ ∃ (C : String) (T : u_T) (N : Nat), cl[q.2]? = some (C, T, N) ∧ tyl[q.1]? = some (.object C)) ∧ (∀ i ∈ X.2.2.2.1, Cond.methodLink own i objectInit ∈ Ts ∧ Cond.instanceMethod objectInit ∈ Ts ∧ Cond.code objectInit ⟨#[0xb1]⟩ 1 none ∈ Ts) ∧ ∀ q ∈ X.2.2.2.2, ys_ConN l D cl cT tys G NN AA q.2.1 ∧ ys_CLN G NN own Ts q.1 q.2.1 q.2.2
end YNR
section YNZ
variable {p : Program} {l : Launch} {e : Env} {R : Room} {s : State} {m : MethodId} {args : Array Value} {below : List Frame} {meth : Method} {c : Code} {Q : State → Prop} {kc kz : Nat} {D : va_G} {cl : List vw_C} {cT : Nat → ClassId} {sh : List ys_C} {A : Nat → Prop} {H0 : Heap} {nL : Nat} {g0 : Nat → Nat → Int} {r0 : Nat → Int} {E : Nat} {pc : Nat} {fds : ys_F} {lv : List (Nat × ys_V)} {sv : List ys_V} {cc : ByteArray} {own : String} {Ts : List Cond} {tys : List (ClassId × FieldType)}
variable {n0 : Nat} {ad0 : Nat → Nat} {G : List Cond} {NN : ys_NN} {AA : List String} {X : ys_X} {tyl : List FieldType} {fr lo RC RS N : Nat} {y : MethodName} {nx : Nat → Option (Instr × Nat)}
theorem ys_icm_ok {k0 idx : Nat} {K : ys_KN} : ∀ (x : List (Nat × (ys_KN × Option String))), ys_icm fr lo RC RS N kc kz sh fds lv k0 sv idx x = some K → ∃ prv, (idx, (K, prv)) ∈ x ∧ k0 = K.2.2.1 ∧ sh = K.2.2.2.1.1 ∧ fds = K.2.2.2.1.2 ∧ ys_z0 K.2.2.2.1.2.1 = true ∧ ys_z0 K.2.2.2.2.2.1 = true ∧ lv.all (fun q => ys_rfV sh.length q.2) = true ∧ sv.all (ys_rfV sh.length) = true ∧ (sv.map ys_cat).sum ≤ 8 ∧ K.2.1.1 + 1 ≤ fr ∧ 8 + (K.1.2.2 + 11) + K.2.1.2.1 ≤ lo ∧ kc + K.2.1.2.2.1 ≤ RC ∧ kz + K.2.1.2.2.2 ≤ RS ∧ K.2.2.2.2.1.length ≤ N
  | [], h => by cases h
  | q :: t, h => by
    unfold ys_icm at h
    split at h
    · rename_i hc
      cases Option.some.inj h
      obtain ⟨h1, h2, h3, h4, h5⟩ := hc
      refine ⟨q.2.2, ?_, h2, h3, ys_FE_ok h4, h5⟩
      rw [← h1]
      exact List.mem_cons_self
    · obtain ⟨prv, h1, h2⟩ := ys_icm_ok t h
      exact ⟨prv, List.mem_cons_of_mem _ h1, h2⟩
theorem ys_genN {i : Instr} {len : Nat} {Y' : ys_Y} (S : CallFix p m c cc nL s args Ts own) (hK : va_K D cl tys s) (hA0 : ∀ q, H0.size ≤ q → A q) (hTL : ys_TL tyl tys cT) (hLk : ys_Lk own Ts cl X.1.1 X.1.2.1 X.1.2.2.1 X.1.2.2.2) (hR : fr ≤ R.frames ∧ lo ≤ R.locals ∧ RC ≤ R.cells ∧ RS ≤ R.slots) (hnx : ∀ pc i, nx pc = some i → decode cc pc = .ok i) (hd : decode cc pc = .ok (i, len)) (hi : ys_isr i = false)
    (hs : (match ys_stp sh X.1.1 X.1.2.1 X.1.2.2.1 [] X.1.2.2.2 (ys_K0 y cc nL fr lo N) nx pc ([], []) fds lv sv i len with
        | some [q] => if q.2.1 = ([], []) ∧ kc ≤ RC ∧ kz ≤ RS ∧ ys_shk tyl.length sh = true then some (kc, kz, sh, q.1, q.2.2.1, q.2.2.2.1, q.2.2.2.2) else none
        | _ => none) = some Y') (k : ys_N p l e R s m args below meth c Q D cl cT A H0 nL (List.range N) g0 r0 E n0 ad0 Y'.1 Y'.2.1 Y'.2.2.1 Y'.2.2.2.1 (([], []), Y'.2.2.2.2)) : ys_N p l e R s m args below meth c Q D cl cT A H0 nL (List.range N) g0 r0 E n0 ad0 kc kz sh pc (([], []), fds, lv, sv) := by
  split at hs
  · rename_i q hq
    split at hs
    · rename_i hc
      cases Option.some.inj hs
      obtain ⟨c1, c2, c3, c4⟩ := hc
      intro ad had0
      refine ys_stp_gen (K := ys_K0 y cc nL fr lo N) (G := []) (calls := []) S rfl rfl hR.1 hR.2.1 ⟨Nat.le_trans c2 hR.2.2.1, Nat.le_trans c3 hR.2.2.2⟩ hA0 hK (ys_TL_ty hTL c4) hLk (fun q hq => by cases hq) hnx hd hq (fun h => by rw [hi] at h; cases h) fun q' hq' => ?_
      have e1 := List.mem_singleton.mp hq'
      subst e1
      have h9 := k ad had0
      have e2 : q'.2 = (([], []), q'.2.2) := by rw [← c1]
      rw [e2]
      exact h9
    · cases hs
  · cases hs
set_option maxHeartbeats 4000000 in
theorem ys_stN_ok {i : Instr} {len : Nat} {Y' : ys_Y} (S : CallFix p m c cc nL s args Ts own) (hin : meth.name = "<init>" ∨ X.2.1.1 = []) (hK : va_K D cl tys s) (hNW : ys_NW NN AA s) (hA0 : ∀ q, H0.size ≤ q → A q) (hTL : ys_TL tyl tys cT) (hLN : ys_LN l D cl cT tys G NN AA tyl own Ts X) (hR : fr ≤ R.frames ∧ lo ≤ R.locals ∧ RC ≤ R.cells ∧ RS ≤ R.slots) (hnx : ∀ pc i, nx pc = some i → decode cc pc = .ok i) (hd : decode cc pc = .ok (i, len)) (hn0 : n0 ≤ sh.length)
    (hs : ys_stN X y cc nL fr lo RC RS N tyl.length nx (kc, kz, sh, pc, fds, lv, sv) i len = some Y') (k : ys_N p l e R s m args below meth c Q D cl cT A H0 nL (List.range N) g0 r0 E n0 ad0 Y'.1 Y'.2.1 Y'.2.2.1 Y'.2.2.2.1 (([], []), Y'.2.2.2.2)) : ys_N p l e R s m args below meth c Q D cl cT A H0 nL (List.range N) g0 r0 E n0 ad0 kc kz sh pc (([], []), fds, lv, sv) := by
  have hexec := S.1
  have hb := S.2.1
  have hml := S.2.2.1
  have hown := S.2.2.2.1
  have hts := S.2.2.2.2
  obtain ⟨hLk, hff, hnw, hna, hat, hrk, hob, hic⟩ := hLN
  unfold ys_stN at hs
  dsimp only at hs
  split at hs
  · -- new
    split at hs
    · rename_i ci row hlk
      split at hs
      · rename_i hc
        cases Option.some.inj hs
        obtain ⟨e0, c1, c2, c3, c4⟩ := hc
        subst e0
        exact ys_knew hexec hb hts hown hK hA0 (hnw _ (ys_lk3 _ _ _ hlk)) c1 hn0 (List.mem_range.mpr c2) (Nat.le_trans c3 hR.2.2.1) (Nat.le_trans c4 hR.2.2.2) hd k
      · cases hs
    · cases hs
  · -- newarray
    rename_i a
    split at hs
    · rename_i z t
      split at hs
      · rename_i hc
        cases Option.some.inj hs
        obtain ⟨e0, c1, c2, c3, c4, c5, c6, c7, c8⟩ := hc
        subst e0
        have hz : z = ((z.toNat : Nat) : Int) := (Int.toNat_of_nonneg c1).symm
        generalize z.toNat = n at hz c2 c5 c8 k
        subst hz
        have harr := hts _ (hat a (by
          obtain ⟨x, hx, hxa⟩ := List.any_eq_true.mp c3
          rw [← of_decide_eq_true hxa]
          exact hx))
        obtain ⟨t1, a0, a1, a2, a3, -⟩ := hTL
        cases a with
        | int => exact ys_knewa (ty := .int) (kd := 0) (a0 := (n, .inl fun _ => 0)) hexec hb harr rfl hK hA0 (t1 _ _ a0) (fun _ h => h) (fun _ => rfl) (fun _ => rfl) c2 (by show n * 4 ≤ _; omega) c5 hn0 (List.mem_range.mpr c6) (Nat.le_trans c7 hR.2.2.1) (Nat.le_trans c8 hR.2.2.2) hd k
        | long => exact ys_knewa (ty := .long) (kd := 1) (a0 := (n, .inr (.inl fun _ => 0))) hexec hb harr rfl hK hA0 (t1 _ _ a1) (fun _ h => h) (fun _ => rfl) (fun _ => rfl) c2 (by show n * 8 ≤ _; omega) c5 hn0 (List.mem_range.mpr c6) (Nat.le_trans c7 hR.2.2.1) (Nat.le_trans c8 hR.2.2.2) hd k
        | byte => exact ys_knewa (ty := .byte) (kd := 2) (a0 := (n, .inl fun _ => 0)) hexec hb harr rfl hK hA0 (t1 _ _ a2) (fun _ h => h) (fun _ => rfl) (fun _ => rfl) c2 (by show n * 1 ≤ _; omega) c5 hn0 (List.mem_range.mpr c6) (Nat.le_trans c7 hR.2.2.1) (Nat.le_trans c8 hR.2.2.2) hd k
        | boolean => exact ys_knewa (ty := .boolean) (kd := 3) (a0 := (n, .inl fun _ => 0)) hexec hb harr rfl hK hA0 (t1 _ _ a3) (fun _ h => h) (fun _ => rfl) (fun _ => rfl) c2 (by show n * 1 ≤ _; omega) c5 hn0 (List.mem_range.mpr c6) (Nat.le_trans c7 hR.2.2.1) (Nat.le_trans c8 hR.2.2.2) hd k
        | _ => exact absurd c4 (by decide)
      · cases hs
    · cases hs
  · -- anewarray
    split at hs
    · rename_i z t kd hlk
      split at hs
      · rename_i hc
        cases Option.some.inj hs
        obtain ⟨e0, c1, c2, c5, c6, c7, c8⟩ := hc
        subst e0
        have hz : z = ((z.toNat : Nat) : Int) := (Int.toNat_of_nonneg c1).symm
        generalize z.toNat = n at hz c2 c5 c8 k
        subst hz
        obtain ⟨h4, C, g1, g2, g3⟩ := hna _ (ys_lk3 _ _ _ hlk)
        exact ys_knewq hexec hb hts hown g2 (hNW.2 C g3) hK hA0 h4 (hTL.1 _ _ g1) c2 c5 hn0 (List.mem_range.mpr c6) (Nat.le_trans c7 hR.2.2.1) (Nat.le_trans c8 hR.2.2.2) hd k
      · cases hs
    · cases hs
  · -- aastore
    split at hs
    · rename_i v z k0 t
      split at hs
      · rename_i kd n tg ci hk0 hv
        split at hs
        · rename_i hc
          cases Option.some.inj hs
          obtain ⟨e0, c1, c2, c3, c4⟩ := hc
          subst e0
          subst c1
          obtain ⟨h4, C, T, N', g1, g2⟩ := hrk (kd, ci) (by simpa using c4)
          exact ys_kaast hexec hb hK hk0 h4 hv g1 (hTL.1 _ _ g2) c2 c3 hd k
        · cases hs
      · cases hs
    · cases hs
  · -- invokespecial
    split at hs
    · rename_i k0 t
      split at hs
      · rename_i hcon
        split at hs
        · rename_i hc
          cases Option.some.inj hs
          obtain ⟨e0, c1, c2⟩ := hc
          subst e0
          obtain ⟨g1, g2, g3⟩ := hob _ (by simpa using hcon)
          exact ys_kobj hexec hb hml hts hown g1 g2 g3 (Nat.le_trans c1 hR.1) (Nat.le_trans c2 hR.2.1) hd k
        · cases hs
      · split at hs
        · rename_i K hK2
          split at hs
          · rename_i e0
            cases Option.some.inj hs
            subst e0
            obtain ⟨prv, h1, h2, h3, h4, h5, h6, h7, h8, h9, h10, h11, h12, h13, h14⟩ := ys_icm_ok _ hK2
            subst h2
            subst h3
            subst h4
            obtain ⟨g1, g2⟩ := hic _ h1
            exact ys_kini S hK hNW hA0 g1 g2 hn0 (fun kk hkk => List.mem_range.mpr (Nat.lt_of_lt_of_le hkk h14)) h5 h6 h7 h8 h9 ⟨Nat.le_trans h10 hR.1, Nat.le_trans h11 hR.2.1⟩ ⟨Nat.le_trans h12 hR.2.2.1, Nat.le_trans h13 hR.2.2.2⟩ hd k
          · cases hs
        · cases hs
    · cases hs
  · -- putfield
    split at hs
    · rename_i ci j v k0 t hlk
      split at hs
      · rename_i hc
        cases Option.some.inj hs
        obtain ⟨e0, c1, c2⟩ := hc
        subst e0
        have hmem := ys_lk3 _ _ _ hlk
        rcases hin with hin | hin
        · exact ys_kputF hexec hb hts hown hK hin (hff _ hmem) c1 c2 hd k
        · rw [hin] at hmem
          cases hmem
      · cases hs
    · cases hs
    · exact ys_genN S hK hA0 hTL hLk hR hnx hd rfl hs k
  · -- others
    split at hs
    · cases hs
    · rename_i hi
      exact ys_genN S hK hA0 hTL hLk hR hnx hd (by simpa using hi) hs k
theorem ys_runN_ok {Tg : ys_Y} (S : CallFix p m c cc nL s args Ts own) (hin : meth.name = "<init>" ∨ X.2.1.1 = []) (hK : va_K D cl tys s) (hNW : ys_NW NN AA s) (hA0 : ∀ q, H0.size ≤ q → A q) (hTL : ys_TL tyl tys cT) (hLN : ys_LN l D cl cT tys G NN AA tyl own Ts X) (hR : fr ≤ R.frames ∧ lo ≤ R.locals ∧ RC ≤ R.cells ∧ RS ≤ R.slots) (hnx : ∀ pc i, nx pc = some i → decode cc pc = .ok i)
    (k : ys_N p l e R s m args below meth c Q D cl cT A H0 nL (List.range N) g0 r0 E n0 ad0 Tg.1 Tg.2.1 Tg.2.2.1 Tg.2.2.2.1 (([], []), Tg.2.2.2.2)) : ∀ (f : Nat) (Y : ys_Y), ys_runN X y cc nL fr lo RC RS N tyl.length n0 nx Tg f Y = true → ys_N p l e R s m args below meth c Q D cl cT A H0 nL (List.range N) g0 r0 E n0 ad0 Y.1 Y.2.1 Y.2.2.1 Y.2.2.2.1 (([], []), Y.2.2.2.2)
  | 0, Y, h => by cases h
  | f + 1, Y, h => by
    unfold ys_runN at h
    split at h
    · rw [ys_YE_ok h]
      exact k
    · split at h
      · rename_i i len hx
        rw [Bool.and_eq_true] at h
        split at h
        · rename_i Y' hY
          exact ys_stN_ok (kc := Y.1) (kz := Y.2.1) (sh := Y.2.2.1) (pc := Y.2.2.2.1) (fds := Y.2.2.2.2.1) (lv := Y.2.2.2.2.2.1) (sv := Y.2.2.2.2.2.2) S hin hK hNW hA0 hTL hLN hR hnx (hnx _ _ hx) (of_decide_eq_true h.1) hY (ys_runN_ok S hin hK hNW hA0 hTL hLN hR hnx k f Y' h.2)
        · cases h.2
      · cases h
end YNZ
/-- a constructor, from its code -/
def ys_chkN (X : ys_X) (K : ys_KN) (code : List (Nat × (Instr × Nat))) (pcR : Nat) (lvR : List (Nat × ys_V)) (nt f : Nat) : Bool := decide (code.lookup pcR = some (.return_, 1)) && (decide (1 ≤ K.1.2.2) && (ys_z0 K.2.2.2.1.2.1 && (ys_z0 K.2.2.2.2.2.1 && ys_runN X K.1.1 K.1.2.1 K.1.2.2 K.2.1.1 K.2.1.2.1 K.2.1.2.2.1 K.2.1.2.2.2 K.2.2.2.2.1.length nt K.2.2.2.1.1.length (fun pc => code.lookup pc) (K.2.1.2.2.1, K.2.1.2.2.2, K.2.2.2.2.1, pcR, K.2.2.2.2.2, lvR, []) f (0, 0, K.2.2.2.1.1, 0, K.2.2.2.1.2, [(0, .inr (some K.2.2.1))], []))))
theorem ys_ctor {l : Launch} {D : va_G} {cl : List vw_C} {cT : Nat → ClassId} {tys : List (ClassId × FieldType)} {G : List Cond} {NN : ys_NN} {AA : List String} {tyl : List FieldType} {X : ys_X} {K : ys_KN} {code : List (Nat × (Instr × Nat))} {pcR : Nat} {lvR : List (Nat × ys_V)} (f : Nat) (hy : plainName K.1.1.cls = true) (hin : K.1.1.name = "<init>") (hcode : ∀ q ∈ code, decode K.1.2.1 q.1 = .ok q.2) (hTL : ys_TL tyl tys cT) (hLN : ys_LN l D cl cT tys G NN AA tyl K.1.1.cls (ys_wsN G K) X) (hchk : ys_chkN X K code pcR lvR tyl.length f = true) : ys_ConN l D cl cT tys G NN AA K := by
  intro ad g0 sz har
  unfold ys_chkN at hchk
  rw [Bool.and_eq_true, Bool.and_eq_true, Bool.and_eq_true, Bool.and_eq_true, decide_eq_true_eq, decide_eq_true_eq] at hchk
  obtain ⟨c1, c2, c3, c4, c5⟩ := hchk
  refine Met.ofW (cc := K.1.2.1) (maxL := K.1.2.2) (ret := none) hy rfl ?_
  intro p e s m args below meth c s₁ Bd hml hv
  obtain ⟨hargs, hsz, hP, hK, hD0, hNW⟩ := hv
  subst hargs
  subst hsz
  have hlocks := Bd.notSynchronized
  have hnm : meth.name = "<init>" := (name_of_methodNamed Bd.named Bd.method).1.trans hin
  have S : CallFix p m c K.1.2.1 K.1.2.2 s ([Value.ref (ad K.2.2.1)] : List Value).toArray (ys_wsN G K) K.1.1.cls := ⟨Bd.exec, Bd.bytes, hml, findClass_of_methodNamed Bd.named, atoms_spec (ws := ys_wsN G K) Bd.pre⟩
  have hnx : ∀ pc i, (fun pc => code.lookup pc) pc = some i → decode K.1.2.1 pc = .ok i := fun pc i hi => hcode (pc, i) (ys_lk3 _ _ _ hi)
  have hfin : ys_N p l e (ys_rmN K) s m ([Value.ref (ad K.2.2.1)] : List Value).toArray below meth c (MQ below (ys_PostN D cl cT K ad g0 s.heap.size) ([Value.ref (ad K.2.2.1)] : List Value).toArray s K.2.1.2.2.1 K.2.1.2.2.2 (va_A (ys_wI cT K ad g0) s.heap.size)) D cl cT (va_A (ys_wI cT K ad g0) s.heap.size) s.heap K.1.2.2 (List.range K.2.2.2.2.1.length) g0 (fun _ => 0) 0 K.2.2.2.1.1.length ad K.2.1.2.2.1 K.2.1.2.2.2 K.2.2.2.2.1 pcR (([], []), K.2.2.2.2.2, lvR, []) := by
    intro ad' had r H locs ls st h
    obtain ⟨g, hg, hP', hD', hS⟩ := h.2.2.2.1
    have hst : st = [] := h.2.2.2.2.2
    rw [hst]
    refine W.vret S.1 S.2.1 Bd.returns (fun t ht hW => ⟨⟨rfl, ad', g, had, hg.1, fun k hk => hg.2 k (fun hm => absurd (List.mem_range.mp hm) (Nat.not_lt.mpr hk)), ?_, ?_⟩, ?_⟩) hS.2.2 (hnx _ _ c1) hlocks
    · rw [ht, ← ys_wld0 c4 r (fun _ => 0)]
      exact hP'
    · rw [← ys_wld0 c4 r (fun _ => 0)]
      exact hD'
    · refine ⟨?_, ?_⟩
      · rw [ht]
        exact hS.1
      · intro q h1 h2
        rw [ht]
        exact hS.2.1 q h1 h2
  have hrun := ys_runN_ok (N := K.2.2.2.2.1.length) (RC := K.2.1.2.2.1) (RS := K.2.1.2.2.2) (fr := K.2.1.1) (lo := K.2.1.2.1) (y := K.1.1) S (Or.inl hnm) hK hNW (fun q h => Or.inr h) hTL hLN ⟨Nat.le_refl _, Nat.le_refl _, Nat.le_refl _, Nat.le_refl _⟩ hnx hfin f _ c5
  rw [lg_entry_eq]
  have hl := lv_entry [Value.ref (ad K.2.2.1)] (n := K.1.2.2) (by show 1 ≤ _; exact c2)
  have hlvs : ∀ q ∈ ([(0, .inr (some K.2.2.1))] : List (Nat × ys_V)), ys_stV 0 q.2 := by
    intro q hq
    rw [List.mem_singleton.mp hq]
    exact trivial
  have hok : ys_okB (fun _ => 0) (([], []) : ys_B) := ⟨fun j q hj => (by cases hj), fun q hq => (by cases hq)⟩
  have hsc : ys_sc ((([], []), K.2.2.2.1.2, [(0, .inr (some K.2.2.1))], []) : ys_S) := ⟨fun q hq => (by cases hq), ys_z0_st c3 _, hlvs, fun q hq => (by cases hq)⟩
  exact hrun ad (fun _ _ => rfl) (fun _ => 0) s.heap [] _ [] ⟨hok, hsc, ⟨Nat.le_refl _, fun _ _ => rfl⟩, ⟨g0, ⟨har, fun _ _ => rfl⟩, hP, hD0.self, va_S.rf⟩, hl, rfl⟩
end
